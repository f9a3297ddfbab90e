/-! ===== the machine does what the small machine says: one instruction ===== -/
section MIX
variable {p : Program} {l : Launch} {e : Env} {R : Room} {s : State} {m : MethodId} {args : Array Value} {below : List Frame} {meth : Method} {c : Code} {D : va_G} {ca : Nat → ClassId} {h0 d k : Nat}
theorem mi_goon {Q : mi_R} {Qw : State → Prop} {H : Heap} {locs : List Loc} {cells slots mc ms pc : Nat} {ls : Array Slot} {st0 rest : List Value} {a : Array Value}
    (hr : va_Run p l e R s m args below meth c H locs cells slots mc ms (F0 m pc ls st0) rest (mi_Qc h0 D ca Q a) (fun q => h0 ≤ q)) (hS : va_S (fun q => h0 ≤ q) s.heap H locs)
    (kk : ∀ (r : Option Value) (M' : mi_M) (H1 : Heap) (locs1 : List Loc), Q r M' → H1.size = h0 + M'.1 → va_P D vwCl (mi_ws h0 ca M') H1 → mi_ok M' → va_S (fun q => h0 ≤ q) s.heap H1 locs1 → W p l e R s m args below meth c H1 locs1 (cells + mc) (slots + ms) Qw (F0 m (pc + 3) ls ((r.map (mi_cv h0)).toList ++ rest))) : W p l e R s m args below meth c H locs cells slots Qw (F0 m pc ls st0) := by
  intro T hT X
  obtain ⟨v, st₀, t, T', L, g0, X', hL, e1, e2, ⟨⟨r, M', hv, hq, hb⟩, hz, hk⟩, st⟩ := hr T hT X
  have hv' : v = r.map (mi_cv h0) := Outcome.returned.inj hv
  subst hv'
  rw [g0] at hz hk
  obtain ⟨b1, b2, b3, b4, b5⟩ := hb
  obtain ⟨t2, a1, c1⟩ := kk r M' T'.heap (locs ++ L) hq (by rw [e1]; exact b1) (by rw [e1]; exact b2) b5
    ⟨Nat.le_trans hS.1 (by rw [e1]; exact hz), fun q h1 h2 => by rw [e1, hk q (Nat.lt_of_lt_of_le h1 hS.1) h2]; exact hS.2.1 q h1 h2, fun q hq => by
      rcases List.mem_append.mp hq with h | h
      · exact hS.2.2 q h
      · exact hL q h⟩ T' rfl X'
  exact ⟨t2, st t2 a1, c1⟩
theorem mi_blind {av : List Value} {M : mi_M} : FrameBlind (va_Pc (av.map (mi_cv h0)) (mi_B h0 D ca M)) := fun a U g mk q => ⟨q.1, q.2.1, q.2.2.1, va_K.moved (u := U) (U := U.calling g mk a) (Vm.Alike.refl U.vm) q.2.2.2.1, mi_NW.same (s := U) (U := U.calling g mk a) rfl q.2.2.2.2.1, q.2.2.2.2.2⟩
theorem mi_Bat {M : mi_M} {H : Heap} {U : State} (hK : va_K D vwCl (mi_tys ca) s) (hN : mi_NW s) (hz : H.size = h0 + M.1) (hP : va_P D vwCl (mi_ws h0 ca M) H) (ho : mi_ok M) (hU : U.heap = H) (hW : s.WarmedH U.vm) : mi_B h0 D ca M U :=
  ⟨by rw [hU]; exact hz, by rw [hU]; exact hP, va_K.moved hW.alike hK, hN.moved hW, ho⟩
theorem mi_wsO {M : mi_M} {a ci : Nat} {fs : List Value} (ho : mi_ok M) (hci : ci ≤ 12) (h : M.2 a = .inr (ci, fs)) : a < M.1 ∧ (mi_ws h0 ca M)[a]? = some (h0 + a, .inr (ci, fs.map (mi_cv h0))) := by
  have ha : a < M.1 := mi_lt ho (by
    rw [h]
    intro q
    have : ci = 99 := (Prod.mk.inj (Sum.inr.inj q)).1
    omega)
  refine ⟨ha, ?_⟩
  rw [mi_ws_at ha, h]
  rfl
theorem mi_wsI {M : mi_M} {a t n : Nat} {f : Nat → Int32} (ho : mi_ok M) (h : M.2 a = .inl (t, n, .inl f)) : a < M.1 ∧ (mi_ws h0 ca M)[a]? = some (h0 + a, .inl (ca t, n, .inl f)) := by
  have ha : a < M.1 := mi_lt ho (by rw [h]; intro q; cases q)
  refine ⟨ha, ?_⟩
  rw [mi_ws_at ha, h]
  rfl
theorem mi_wsQ {M : mi_M} {a t n : Nat} {f : Nat → Option Nat} (ho : mi_ok M) (h : M.2 a = .inl (t, n, .inr (.inr (.inr (.inr f))))) : a < M.1 ∧ (mi_ws h0 ca M)[a]? = some (h0 + a, .inl (ca t, n, .inr (.inr (.inr (.inr fun i => (f i).map (fun q => h0 + q)))))) := by
  have ha : a < M.1 := mi_lt ho (by rw [h]; intro q; cases q)
  refine ⟨ha, ?_⟩
  rw [mi_ws_at ha, h]
  rfl
theorem mi_S8 {S : List Value} (h : mi_w8 S = true) : ((S.map (mi_cv h0)).map fun v => v.category).sum ≤ 8 := by
  have h1 : ((S.map (mi_cv h0)).map fun v => v.category) = S.map fun v => v.category := by
    rw [List.map_map]
    apply List.map_congr_left
    intro v _
    exact mi_cat h0 v
  rw [h1]
  exact of_decide_eq_true h
theorem mi_cnq : ∀ ci, ci ≤ 12 → ∃ q, vwCl[ci]? = some q ∧ q.1 = mi_cn ci := by
  intro ci h
  match ci, h with
  | 0, _ => exact ⟨_, rfl, rfl⟩
  | 1, _ => exact ⟨_, rfl, rfl⟩
  | 2, _ => exact ⟨_, rfl, rfl⟩
  | 3, _ => exact ⟨_, rfl, rfl⟩
  | 4, _ => exact ⟨_, rfl, rfl⟩
  | 5, _ => exact ⟨_, rfl, rfl⟩
  | 6, _ => exact ⟨_, rfl, rfl⟩
  | 7, _ => exact ⟨_, rfl, rfl⟩
  | 8, _ => exact ⟨_, rfl, rfl⟩
  | 9, _ => exact ⟨_, rfl, rfl⟩
  | 10, _ => exact ⟨_, rfl, rfl⟩
  | 11, _ => exact ⟨_, rfl, rfl⟩
  | 12, _ => exact ⟨_, rfl, rfl⟩
/-- a new cell -/
theorem mi_grow {M : mi_M} {H H1 : Heap} {locs : List Loc} {x : mi_E} (hz : H.size = h0 + M.1) (hP : va_P D vwCl (mi_ws h0 ca M) H) (hS : va_S (fun q => h0 ≤ q) s.heap H locs) (z1 : H1.size = H.size + 1) (o1 : ∀ q, q < H.size → H1[q]? = H[q]?) (hx : va_at D vwCl (H.size, mi_ce h0 ca x) H1) :
    H1.size = h0 + (mi_push M x).1 ∧ va_P D vwCl (mi_ws h0 ca (mi_push M x)) H1 ∧ va_S (fun q => h0 ≤ q) s.heap H1 locs := by
  have hk : ∀ (k : Nat) (y : Nat × va_E), (mi_ws h0 ca M)[k]? = some y → H1[y.1]? = H[y.1]? := fun k y hy => o1 y.1 ((hP k y hy).lt)
  refine ⟨by rw [z1, hz]; rfl, ?_, ⟨Nat.le_trans hS.1 (by omega), fun q h1 h2 => (o1 q (Nat.lt_of_lt_of_le h1 hS.1)).trans (hS.2.1 q h1 h2), hS.2.2⟩⟩
  rw [mi_ws_push]
  refine (hP.kept hk).app (fun k y hy => ?_)
  have hz1 : k < 1 := (List.getElem?_eq_some_iff.mp hy).1
  rw [show k = 0 by omega] at hy
  cases hy
  rw [← hz]
  exact hx
theorem mi_hK0 (hK : va_K D vwCl (mi_tys ca) s) {ty : FieldType} {t : Nat} (h : (mi_tys ca)[t]? = some (ca t, ty)) {cA : ClassId} (hf : s.vm.findClass ("[" ++ ty.toString) = some cA) : cA = ca t := by
  have h1 := (hK.2 t _ h).2
  cases ty with
  | object C =>
    obtain ⟨kA, comp, -, -, -, h4⟩ := h1
    exact Option.some.inj (hf.symm.trans h4)
  | _ => exact Option.some.inj (hf.symm.trans h1)
theorem mi_dfsV (ci n : Nat) : ∀ j, j < n → defaultValue (mi_tyf ci j) = vp_V ((mi_dfs ci n).map (mi_cv h0)) j := by
  intro j hj
  have h1 : ∀ ty : FieldType, mi_cv h0 (defaultValue ty) = defaultValue ty := fun ty => by cases ty <;> rfl
  simp [vp_V, mi_dfs, hj, h1]
end MIX
