/-! ===== the small memory in the machine's heap ===== -/
def mi_cv (h0 : Nat) : Value → Value
  | .ref k => .ref (h0 + k)
  | v => v
def mi_ca (h0 : Nat) : vp_A → vp_A
  | (n, .inr (.inr (.inr (.inr f)))) => (n, .inr (.inr (.inr (.inr fun i => (f i).map (fun q => h0 + q)))))
  | a => a
def mi_ce (h0 : Nat) (ca : Nat → ClassId) : mi_E → va_E
  | .inl (t, a) => .inl (ca t, mi_ca h0 a)
  | .inr (c, fs) => .inr (c, fs.map (mi_cv h0))
def mi_ws (h0 : Nat) (ca : Nat → ClassId) (M : mi_M) : va_W := (List.range M.1).map fun k => (h0 + k, mi_ce h0 ca (M.2 k))
def mi_dead : mi_E := .inr (99, [])
def mi_ok (M : mi_M) : Prop := ∀ k, M.1 ≤ k → M.2 k = mi_dead
def mi_tys (ca : Nat → ClassId) : List (ClassId × FieldType) := [(ca 0, .int), (ca 1, .boolean), (ca 2, .object RX6)]
def mi_isN : Cond → Bool
  | .fieldLinkNest .. => true
  | .methodLinkNest .. => true
  | _ => false
def mi_NW (U : State) : Prop := (∀ w ∈ lw_tbl, mi_isN w = true → va_Nw w U) ∧ va_AO RX6 U
def mi_gd : List Cond := lw_tbl.filter goodWord
def mi_wd (k : Nat) : List Cond := Cond.code (mi_y k) (mi_code k) (mi_maxL k) (mi_rt k) :: mi_gd
def mi_rm (d k : Nat) : Room := { frames := d, cells := mi_mc k, slots := mi_sl k, locals := 31 * d }
theorem mi_cat (h0 : Nat) (v : Value) : (mi_cv h0 v).category = v.category := by cases v <;> rfl
theorem mi_ws_at {h0 : Nat} {ca : Nat → ClassId} {M : mi_M} {k : Nat} (h : k < M.1) : (mi_ws h0 ca M)[k]? = some (h0 + k, mi_ce h0 ca (M.2 k)) := by
  simp [mi_ws, h]
theorem mi_ws_up {h0 : Nat} {ca : Nat → ClassId} {M : mi_M} {k : Nat} {x : mi_E} : mi_ws h0 ca (mi_up M k x) = (mi_ws h0 ca M).set k (h0 + k, mi_ce h0 ca x) := by
  apply List.ext_getElem?
  intro j
  rw [List.getElem?_set]
  by_cases hj : j < M.1
  · by_cases hk : k = j
    · subst hk
      simp [mi_ws, mi_up, hj]
    · simp [mi_ws, mi_up, hj, hk, Ne.symm hk]
  · by_cases hk : k = j
    · subst hk
      simp [mi_ws, mi_up, hj]
    · simp [mi_ws, mi_up, hj, hk]
theorem mi_ws_push {h0 : Nat} {ca : Nat → ClassId} {M : mi_M} {x : mi_E} : mi_ws h0 ca (mi_push M x) = mi_ws h0 ca M ++ [(h0 + M.1, mi_ce h0 ca x)] := by
  simp only [mi_ws, mi_push, List.range_succ, List.map_append, List.map_cons, List.map_nil, if_true]
  congr 1
  apply List.map_congr_left
  intro k hk
  have := List.mem_range.mp hk
  rw [if_neg (by omega)]
theorem mi_wsD {h0 : Nat} {ca : Nat → ClassId} {M : mi_M} : va_D (fun q => h0 ≤ q) (mi_ws h0 ca M) := by
  have key : ∀ (k : Nat) (q : Nat × va_E), (mi_ws h0 ca M)[k]? = some q → q.1 = h0 + k := by
    intro k q hk
    by_cases h : k < M.1
    · rw [mi_ws_at h] at hk
      cases hk
      rfl
    · simp [mi_ws, h] at hk
  refine ⟨fun i j x y hi hj hxy => ?_, fun k q hk => ?_⟩
  · have := key i x hi
    have := key j y hj
    omega
  · have := key k q hk
    show h0 ≤ q.1
    omega
theorem mi_lt {M : mi_M} (h : mi_ok M) {a : Nat} (hd : M.2 a ≠ mi_dead) : a < M.1 := Nat.not_le.mp fun q => hd (h a q)
theorem mi_ok_up {M : mi_M} (h : mi_ok M) {a : Nat} (ha : a < M.1) {x : mi_E} : mi_ok (mi_up M a x) := by
  intro k hk
  have hk' : M.1 ≤ k := hk
  show (if k = a then x else M.2 k) = mi_dead
  rw [if_neg (by omega)]
  exact h k hk'
theorem mi_ok_push {M : mi_M} (h : mi_ok M) {x : mi_E} : mi_ok (mi_push M x) := by
  intro k hk
  have hk' : M.1 + 1 ≤ k := hk
  show (if k = M.1 then x else M.2 k) = mi_dead
  rw [if_neg (by omega)]
  exact h k (by omega)
/-- the locals -/
def mi_has (h0 : Nat) (ls : Array Slot) (n : Nat) (L : mi_L) : Prop := ls.size = n ∧ L.length = n ∧ lv_wf ls ∧ ∀ (i : Nat) (v : Value), L[i]? = some (some v) → ls[i]? = some (.val (mi_cv h0 v)) ∧ v.category = 1
def mi_al (h0 : Nat) (L : mi_L) : List (Nat × Value) := (List.range L.length).filterMap fun i => match L[i]? with
  | some (some v) => some (i, mi_cv h0 v)
  | _ => none
theorem mi_al_mem {h0 : Nat} {L : mi_L} {q : Nat × Value} : q ∈ mi_al h0 L ↔ ∃ v, L[q.1]? = some (some v) ∧ q.2 = mi_cv h0 v := by
  obtain ⟨i, w⟩ := q
  unfold mi_al
  rw [List.mem_filterMap]
  constructor
  · rintro ⟨j, hj, h⟩
    split at h
    next v hv =>
      cases h
      exact ⟨v, hv, rfl⟩
    next => cases h
  · rintro ⟨v, h1, h2⟩
    have hl : i < L.length := (List.getElem?_eq_some_iff.mp h1).1
    refine ⟨i, List.mem_range.mpr hl, ?_⟩
    show (match L[i]? with | some (some v) => some (i, mi_cv h0 v) | _ => none) = some (i, w)
    rw [show L[i]? = some (some v) from h1]
    show some (i, mi_cv h0 v) = some (i, w)
    rw [show w = mi_cv h0 v from h2]
theorem mi_has.lv {h0 : Nat} {ls : Array Slot} {n : Nat} {L : mi_L} (h : mi_has h0 ls n L) : lv_has ls n (mi_al h0 L) := by
  refine ⟨h.1, h.2.2.1, fun q hq => ?_⟩
  obtain ⟨v, h1, h2⟩ := mi_al_mem.mp hq
  rw [h2]
  exact (h.2.2.2 q.1 v h1).1
theorem mi_has.st {h0 : Nat} {ls ls' : Array Slot} {n : Nat} {L : mi_L} (h : mi_has h0 ls n L) {i : Nat} {v : Value} (hc : v.category = 1)
    (h' : lv_has ls' n ((i, mi_cv h0 v) :: (mi_al h0 L).filter (fun q => !(q.1 == i) && !(q.1 + 1 == i && q.2.category == 2)))) : mi_has h0 ls' n (L.set i (some v)) := by
  refine ⟨h'.1, by rw [List.length_set]; exact h.2.1, h'.2.1, fun j w hj => ?_⟩
  rw [List.getElem?_set] at hj
  by_cases hij : i = j
  · subst hij
    rw [if_pos rfl] at hj
    split at hj
    · cases hj
      exact ⟨h'.2.2 (i, mi_cv h0 v) List.mem_cons_self, hc⟩
    · cases hj
  · rw [if_neg hij] at hj
    obtain ⟨-, h2⟩ := h.2.2.2 j w hj
    refine ⟨h'.2.2 (j, mi_cv h0 w) (List.mem_cons_of_mem _ (List.mem_filter.mpr ⟨mi_al_mem.mpr ⟨w, hj, rfl⟩, ?_⟩)), h2⟩
    have e1 : (mi_cv h0 w).category = 1 := by rw [mi_cat]; exact h2
    simp [e1, Ne.symm hij]
theorem mi_has.ent {h0 : Nat} {av : List Value} {n : Nat} (hn : av.length ≤ n) (hc : mi_c1 av = true) : mi_has h0 ((lg_sl (av.map (mi_cv h0)) ++ List.replicate (n - (lg_sl (av.map (mi_cv h0))).length) Slot.unset).toArray) n (av.map some ++ List.replicate (n - av.length) none) := by
  have hc' : ∀ v ∈ av, v.category = 1 := fun v hv => by simpa using List.all_eq_true.mp hc v hv
  have e0 : lg_sl (av.map (mi_cv h0)) = av.map (fun v => Slot.val (mi_cv h0 v)) := by
    clear hn hc
    induction av with
    | nil => rfl
    | cons v t ih =>
      have h1 : (mi_cv h0 v).category = 1 := by rw [mi_cat]; exact hc' v List.mem_cons_self
      have h2 := ih (fun w hw => hc' w (List.mem_cons_of_mem _ hw))
      simp only [lg_sl, List.map_cons, List.flatMap_cons, h1] at h2 ⊢
      rw [h2]
      rfl
  have hle : (lg_sl (av.map (mi_cv h0))).length ≤ n := by rw [e0]; simpa using hn
  have h1 := lv_entry (av.map (mi_cv h0)) hle
  refine ⟨h1.1, by simp; omega, h1.2.1, fun i v hv => ?_⟩
  rw [e0]
  by_cases hi : i < av.length
  · rw [List.getElem?_append_left (by simpa using hi)] at hv
    simp only [List.getElem?_map, Option.map_eq_some_iff, Option.some.injEq] at hv
    obtain ⟨w, hw, rfl⟩ := hv
    refine ⟨?_, hc' w (List.mem_of_getElem? hw)⟩
    rw [List.getElem?_toArray, List.getElem?_append_left (by simpa using hi)]
    simp [hw]
  · rw [List.getElem?_append_right (by simpa using hi)] at hv
    have := List.eq_of_mem_replicate (List.mem_of_getElem? hv)
    cases this
def mi_B (h0 : Nat) (D : va_G) (ca : Nat → ClassId) (M : mi_M) (t : State) : Prop := t.heap.size = h0 + M.1 ∧ va_P D vwCl (mi_ws h0 ca M) t.heap ∧ va_K D vwCl (mi_tys ca) t ∧ mi_NW t ∧ mi_ok M
def mi_Qc (h0 : Nat) (D : va_G) (ca : Nat → ClassId) (Q : mi_R) : Array Value → State → Outcome → State → Prop := fun _ st oc t => (∃ (r : Option Value) (M : mi_M), oc = .returned (r.map (mi_cv h0)) ∧ Q r M ∧ mi_B h0 D ca M t) ∧ va_F (fun q => h0 ≤ q) st t
def mi_Met (l : Launch) (d k : Nat) (av : List Value) (M : mi_M) (Q : mi_R) : Prop := ∀ (h0 : Nat) (D : va_G) (ca : Nat → ClassId), Met l (mi_y k) (mi_wd k) (mi_rm d k) (va_Pc (av.map (mi_cv h0)) (mi_B h0 D ca M)) (mi_Qc h0 D ca Q) (mi_mc k) (mi_sl k) (fun q => h0 ≤ q)
def mi_Sd (p : Program) (l : Launch) (e : Env) (R : Room) (s : State) (m : MethodId) (args : Array Value) (below : List Frame) (meth : Method) (c : Code) (D : va_G) (ca : Nat → ClassId) (h0 nL mc ms : Nat) (Qc : Array Value → State → Outcome → State → Prop) (pc : Nat) : mi_K := fun L S kc ks M =>
  ∀ (H : Heap) (locs : List Loc) (ls : Array Slot), H.size = h0 + M.1 → va_P D vwCl (mi_ws h0 ca M) H → va_S (fun q => h0 ≤ q) s.heap H locs → mi_has h0 ls nL L → mi_ok M → kc ≤ mc → ks ≤ ms → W p l e R s m args below meth c H locs kc ks (MQ below Qc args s mc ms (fun q => h0 ≤ q)) (F0 m pc ls (S.map (mi_cv h0)))
theorem mi_NW.moved {s U : State} (hW : s.WarmedH U.vm) (h : mi_NW s) : mi_NW U := by
  refine ⟨fun w hw hn => ?_, h.2.moved hW.alike⟩
  have h1 := h.1 w hw hn
  cases w <;> first | exact h1.warmF hW | exact h1.warmM hW | (exact absurd hn (by simp [mi_isN]))
theorem mi_NW.same {s U : State} (hv : s.vm = U.vm) (h : mi_NW s) : mi_NW U := by
  refine ⟨fun w hw hn => ?_, h.2.moved (by rw [hv]; exact Vm.Alike.refl _)⟩
  have h1 := h.1 w hw hn
  refine h1.same ?_ hv
  cases w <;> first | rfl | (exact absurd hn (by simp [mi_isN]))
