/-! ===== how many edges a laid graph has ===== -/
def tpV (T : Nat → Bool) (par : Nat → Nat) : Nat → Nat → Nat
  | 0, v => v
  | n + 1, v => if T v then tpV T par n (par v) else v
theorem tpV_s {T : Nat → Bool} {par : Nat → Nat} (n v : Nat) : tpV T par (n + 1) v = if T v then tpV T par n (par v) else v := rfl
theorem tpV_more {T : Nat → Bool} {far par : Nat → Nat} (hT : ∀ x, T x = true → far x = far (par x) + 1) : ∀ (n v : Nat), far v ≤ n → tpV T par (n + 1) v = tpV T par n v
  | 0, v, h => by
    rw [tpV_s]
    cases hv : T v with
    | false => rfl
    | true => have := hT v hv; omega
  | n + 1, v, h => by
    rw [tpV_s (n + 1) v, tpV_s n v]
    cases hv : T v with
    | false => rfl
    | true =>
      have := hT v hv
      simp only [if_true]
      exact tpV_more hT n (par v) (by omega)
section PLN
variable {V : Nat} {es : gE} {L : Nat × Nat → Nat} {far par : Nat → Nat} {X : Nat × Nat → Nat → Bool}
theorem xsm_ends {f : Nat → Bool} {g : Nat × Nat} (hg : g.1 < g.2 ∧ g.2 < V) : xsm (fun v => f v && inc g v) (List.range V) = (f g.1 ^^ f g.2) := by
  have h1 : xsm (fun v => f v && inc g v) (List.range V) = (xsm (fun v => decide (v = g.1) && f v) (List.range V) ^^ xsm (fun v => decide (v = g.2) && f v) (List.range V)) := by
    rw [← xsm_xor]
    refine xsm_congr fun v _ => ?_
    rw [inc_xor (by omega)]
    cases f v <;> cases decide (v = g.1) <;> cases decide (v = g.2) <;> rfl
  rw [h1, xsm_one List.nodup_range (List.mem_range.mpr (by omega)), xsm_one List.nodup_range (List.mem_range.mpr (by omega))]
/-- the forest's edges of a block reach all its vertices but one -/
theorem blk_span (hO : okE V es) (hF : FC V es far par X) (hC : lbC es par X L) (hS : lbS es par X L) {c : Nat} {p1 p2 x1 x2 : Nat}
    (hx1 : x1 < V ∧ far x1 ≠ 0 ∧ L (te par x1) = c) (hx2 : x2 < V ∧ far x2 ≠ 0 ∧ L (te par x2) = c) (e1 : par x1 = p1) (e2 : par x2 = p2) (n1 : ¬ (p1 < V ∧ far p1 ≠ 0 ∧ L (te par p1) = c)) (n2 : ¬ (p2 < V ∧ far p2 ≠ 0 ∧ L (te par p2) = c)) : p1 = p2 := by
  have hTp : ∀ x, x < V → far x ≠ 0 → par x < V ∧ far x = far (par x) + 1 ∧ te par x ∈ es := hF.1
  let T : Nat → Bool := fun x => decide (x < V) && decide (far x ≠ 0) && decide (L (te par x) = c)
  have hT : ∀ x, T x = true ↔ x < V ∧ far x ≠ 0 ∧ L (te par x) = c := fun x => by simp [T, and_assoc]
  obtain ⟨M, hM⟩ := fc_bd far V
  let h : Nat → Nat := fun v => tpV T par (M + 1) v
  have hstep : ∀ x, T x = true → h x = h (par x) := fun x hx => by
    have hx' := (hT x).mp hx
    have h1 := hTp x hx'.1 hx'.2.1
    show tpV T par (M + 1) x = tpV T par (M + 1) (par x)
    rw [tpV, if_pos hx]
    exact (tpV_more (far := far) (fun y hy => (hTp y ((hT y).mp hy).1 ((hT y).mp hy).2.1).2.1) M (par x) (hM _ h1.1)).symm
  have hstop : ∀ v, T v = false → h v = v := fun v hv => by
    show tpV T par (M + 1) v = v
    rw [tpV, hv]; rfl
  -- one top for an edge of the block and the forest's edges that close with it
  have key : ∀ g, g ∈ es → L g = c → ∀ x, X g x = true → h g.1 = h x := by
    intro g hg hLg x hX
    have hgo := hO.1 g hg
    have hTx : ∀ y, X g y = true → T y = true := fun y hy => (hT y).mpr ⟨(hF.2.1 g hg y hy).1, (hF.2.1 g hg y hy).2, by rw [← hC g hg y hy]; exact hLg⟩
    have hte : ∀ y v, X g y = true → inc (te par y) v = true → h v = h y := fun y v hy hv => by
      rw [inc_te, Bool.or_eq_true, decide_eq_true_eq, decide_eq_true_eq] at hv
      rcases hv with e | e
      · rw [e]
      · rw [e]; exact (hstep y (hTx y hy)).symm
    have hte1 : ∀ y, X g y = true → h (te par y).1 = h y := fun y hy => hte y _ hy (inc_iff.mpr (Or.inl rfl))
    by_cases hTr : isT V far par g
    · obtain ⟨z, z1, z2, z3⟩ := hTr
      have hxV := (hF.2.1 g hg x hX).1
      have hX' := hX
      rw [← z3, hF.2.2.2 z z1 z2 x hxV] at hX'
      have := of_decide_eq_true hX'
      rw [← z3, ← this]
      have hX2 : X g x = true := hX
      exact hte1 x hX2
    · have hev := rgC_ev hF hO.2 hg
      have hself := rgC_self hF hg hTr
      -- without g itself
      have hrest : ∀ v, v < V → xsm (fun e => (rgC V par X g e && decide (e ≠ g)) && inc e v) es = inc g v := fun v hv => by
        have h0 := hev v hv
        have h1 : xsm (fun e => rgC V par X g e && inc e v) es = (xsm (fun e => decide (e = g) && inc e v) es ^^ xsm (fun e => (rgC V par X g e && decide (e ≠ g)) && inc e v) es) := by
          rw [← xsm_xor]
          refine xsm_congr fun e _ => ?_
          by_cases q : e = g
          · rw [q, hself]; simp
          · simp [q]
        rw [h1, xsm_one hO.2 hg] at h0
        revert h0
        cases inc g v <;> cases xsm (fun e => (rgC V par X g e && decide (e ≠ g)) && inc e v) es <;> simp
      have hpar : ∀ q v, v < V → xsm (fun e => (rgC V par X g e && decide (e ≠ g) && decide (h e.1 = q)) && inc e v) es = (decide (h v = q) && inc g v) := fun q v hv => by
        rw [← hrest v hv, ← xsm_and]
        refine xsm_congr fun e _ => ?_
        cases hr : rgC V par X g e with
        | false => simp
        | true =>
          by_cases q1 : e = g
          · simp [q1]
          · rcases rgC_mem hr with z | ⟨y, hy, z⟩
            · exact absurd z q1
            · cases hi : inc e v with
              | false => simp
              | true =>
                rw [z] at hi
                rw [z, hte1 y hy, hte y v hy hi]
                cases decide (te par y ≠ g) <;> cases decide (h y = q) <;> rfl
      have hends : h g.1 = h g.2 := by
        have h0 := hand hO (fun e => rgC V par X g e && decide (e ≠ g) && decide (h e.1 = h g.1))
        rw [xsm_congr (g := fun v => decide (h v = h g.1) && inc g v) fun v hv => hpar (h g.1) v (List.mem_range.mp hv), xsm_ends hgo] at h0
        simp at h0
        exact h0.symm
      have hinc : ∀ e v, rgC V par X g e = true → inc e v = true → h e.1 = h v := fun e v hr hi => by
        rcases rgC_mem hr with z | ⟨y, hy, z⟩
        · rw [z] at hi ⊢
          rcases inc_iff.mp hi with w | w
          · rw [w]
          · rw [w]; exact hends
        · rw [z] at hi ⊢
          rw [hte1 y hy, hte y v hy hi]
      have hmin := rgC_min hF hO.2 hg hTr (P := fun e => decide (h e.1 = h x)) (fun v hv => by
        have h0 := hev v hv
        have : xsm (fun e => (rgC V par X g e && decide (h e.1 = h x)) && inc e v) es = (decide (h v = h x) && xsm (fun e => rgC V par X g e && inc e v) es) := by
          rw [← xsm_and]
          refine xsm_congr fun e _ => ?_
          cases hr : rgC V par X g e with
          | false => simp
          | true =>
            cases hi : inc e v with
            | false => simp
            | true => rw [hinc e v hr hi]; simp
        rw [this, h0, Bool.and_false]) x hX
      simp only [hte1 x hX, decide_true, decide_eq_true_eq] at hmin
      exact hmin
  have hlab : lbC es par X (fun g => if L g = c then h g.1 + 1 else 0) := fun g hg x hX => by
    have hLx := hC g hg x hX
    simp only [← hLx]
    by_cases q : L g = c
    · rw [if_pos q, if_pos q, key g hg q x hX]
      have hxT : T x = true := (hT x).mpr ⟨(hF.2.1 g hg x hX).1, (hF.2.1 g hg x hX).2, by rw [← hLx]; exact q⟩
      have : h (te par x).1 = h x := by
        have : (te par x).1 = x ∨ (te par x).1 = par x := by unfold te; simp only; omega
        rcases this with w | w
        · rw [w]
        · rw [w]; exact (hstep x hxT).symm
      rw [this]
    · rw [if_neg q, if_neg q]
  have := hS _ hlab (te par x1) (hTp x1 hx1.1 hx1.2.1).2.2 (te par x2) (hTp x2 hx2.1 hx2.2.1).2.2 (hx1.2.2.trans hx2.2.2.symm)
  simp only [if_pos hx1.2.2, if_pos hx2.2.2, Nat.add_right_cancel_iff] at this
  have ht : ∀ x p, x < V ∧ far x ≠ 0 ∧ L (te par x) = c → par x = p → ¬ (p < V ∧ far p ≠ 0 ∧ L (te par p) = c) → h (te par x).1 = p := fun x p hx e hn => by
    have hxT : T x = true := (hT x).mpr hx
    have hp : T p = false := by
      cases hh : T p with
      | false => rfl
      | true => exact absurd ((hT p).mp hh) hn
    have h3 : h x = p := by rw [hstep x hxT, e, hstop p hp]
    have : (te par x).1 = x ∨ (te par x).1 = par x := by unfold te; simp only; omega
    rcases this with w | w
    · rw [w, h3]
    · rw [w, ← hstep x hxT, h3]
  rw [ht x1 p1 hx1 e1 n1, ht x2 p2 hx2 e2 n2] at this
  exact this
def bkV (es : gE) (L : Nat × Nat → Nat) (c v : Nat) : Bool := es.any fun g => decide (L g = c) && inc g v
theorem blk_cnt (hV : V ≤ 20) (hO : okE V es) (hF : FC V es far par X) (hC : lbC es par X L) (hS : lbS es par X L) (c : Nat) : cnt (bkV es L c) 20 ≤ cnt (fun x => decide (far x ≠ 0) && decide (L (te par x) = c)) V + 1 := by
  -- each vertex of the block is an end of one of its forest edges
  have hA : ∀ v, v < 20 → bkV es L c v = true → ∃ x, (x < V ∧ far x ≠ 0 ∧ L (te par x) = c) ∧ (v = x ∨ v = par x) := fun v hv h => by
    obtain ⟨g, g1, g2⟩ := List.any_eq_true.mp h
    rw [Bool.and_eq_true, decide_eq_true_eq] at g2
    have hgo := hO.1 g g1
    have hvV : v < V := by rcases inc_iff.mp g2.2 with e | e <;> omega
    have h3 := hF.2.2.1 g g1 v hvV
    rw [g2.2] at h3
    obtain ⟨x, x1, x2⟩ := xsm_ex h3.symm
    rw [Bool.and_eq_true] at x2
    obtain ⟨y1, y2⟩ := hF.2.1 g g1 x x2.1
    refine ⟨x, ⟨y1, y2, by rw [← hC g g1 x x2.1]; exact g2.1⟩, ?_⟩
    have := x2.2
    rw [inc_te, Bool.or_eq_true, decide_eq_true_eq, decide_eq_true_eq] at this
    exact this
  have hle : cnt (fun x => decide (far x ≠ 0) && decide (L (te par x) = c)) V = cnt (fun x => decide (x < V) && (decide (far x ≠ 0) && decide (L (te par x) = c))) 20 := by
    rw [show 20 = V + (20 - V) by omega, cnt_add, cnt_congr (n := 20 - V) (q := fun _ => false) fun j _ => by rw [decide_eq_false (show ¬ V + j < V by omega)]; rfl, cnt_congr (n := V) (p := fun x => decide (far x ≠ 0) && decide (L (te par x) = c)) (q := fun x => decide (x < V) && (decide (far x ≠ 0) && decide (L (te par x) = c))) fun i hi => by simp [hi]]
    have : ∀ m, cnt (fun _ => false) m = 0 := fun m => by
      induction m with
      | zero => rfl
      | succ m ih => rw [cnt, ih]; rfl
    rw [this]; omega
  rw [hle]
  by_cases hp : ∃ p, p < 20 ∧ bkV es L c p = true ∧ ¬ (p < V ∧ far p ≠ 0 ∧ L (te par p) = c)
  · obtain ⟨p, p1, p2, p3⟩ := hp
    have huniq : ∀ v, v < 20 → bkV es L c v = true → v ≠ p → v < V ∧ far v ≠ 0 ∧ L (te par v) = c := fun v hv h hne => by
      refine Classical.byContradiction fun hn => hne ?_
      obtain ⟨x, hx, ex⟩ := hA v hv h
      obtain ⟨y, hy, ey⟩ := hA p p1 p2
      have ex' : par x = v := by
        rcases ex with e | e
        · exact absurd (e ▸ hx) hn
        · exact e.symm
      have ey' : par y = p := by
        rcases ey with e | e
        · exact absurd (e ▸ hy) p3
        · exact e.symm
      exact blk_span hO hF hC hS hx hy ex' ey' hn p3
    have h1 := cnt_drop (p := bkV es L c) (q := fun v => bkV es L c v && decide (v ≠ p)) (a := p) (n := 20) p1 p2 (by simp) fun i _ hne => by simp [hne]
    have h2 : cnt (fun v => bkV es L c v && decide (v ≠ p)) 20 ≤ cnt (fun x => decide (x < V) && (decide (far x ≠ 0) && decide (L (te par x) = c))) 20 := cnt_mono fun v hv h => by
      rw [Bool.and_eq_true, decide_eq_true_eq] at h
      have := huniq v hv h.1 h.2
      simp [this]
    omega
  · have h2 : cnt (bkV es L c) 20 ≤ cnt (fun x => decide (x < V) && (decide (far x ≠ 0) && decide (L (te par x) = c))) 20 := cnt_mono fun v hv h => by
      have : v < V ∧ far v ≠ 0 ∧ L (te par v) = c := Classical.byContradiction fun hn => hp ⟨v, hv, h, hn⟩
      simp [this]
    omega
/-- sums over the first ones -/
def sm (f : Nat → Nat) : Nat → Nat
  | 0 => 0
  | n + 1 => sm f n + f n
theorem sm_le {f g : Nat → Nat} : ∀ {n : Nat}, (∀ k, k < n → f k ≤ g k) → sm f n ≤ sm g n
  | 0, _ => Nat.le_refl _
  | n + 1, h => Nat.add_le_add (sm_le fun k hk => h k (by omega)) (h n (by omega))
theorem sm_add (f g : Nat → Nat) : ∀ n, sm (fun k => f k + g k) n = sm f n + sm g n
  | 0 => rfl
  | n + 1 => by rw [sm, sm, sm, sm_add f g n]; omega
theorem sm_mul (c : Nat) (f : Nat → Nat) : ∀ n, sm (fun k => c * f k) n = c * sm f n
  | 0 => rfl
  | n + 1 => by rw [sm, sm, sm_mul c f n, Nat.mul_add]
theorem sm_const (c : Nat) : ∀ n, sm (fun _ => c) n = c * n
  | 0 => rfl
  | n + 1 => by rw [sm, sm_const c n, Nat.mul_succ]
theorem sm_congr {f g : Nat → Nat} : ∀ {n : Nat}, (∀ k, k < n → f k = g k) → sm f n = sm g n
  | 0, _ => rfl
  | n + 1, h => by rw [sm, sm, sm_congr fun k hk => h k (by omega), h n (by omega)]
theorem sm_pt {a : Nat} : ∀ (n : Nat), sm (fun k => if a = k then 1 else 0) n = if a < n then 1 else 0
  | 0 => by simp [sm]
  | n + 1 => by
    rw [sm, sm_pt n]
    by_cases h1 : a < n
    · rw [if_pos h1, if_neg (by omega), if_pos (by omega)]
    · by_cases h2 : a = n
      · rw [if_neg h1, if_pos h2, if_pos (by omega)]
      · rw [if_neg h1, if_neg h2, if_neg (by omega)]
theorem sm_cnt {p : Nat → Bool} {nb : Nat → Nat} {B : Nat} : ∀ (n : Nat), sm (fun k => cnt (fun x => p x && decide (nb x = k)) n) B ≤ cnt p n
  | 0 => by
    have : sm (fun k => cnt (fun x => p x && decide (nb x = k)) 0) B = sm (fun _ => 0) B := sm_congr fun k _ => rfl
    rw [this, sm_const]
    simp
  | n + 1 => by
    have ih := sm_cnt (p := p) (nb := nb) (B := B) n
    have e : sm (fun k => cnt (fun x => p x && decide (nb x = k)) (n + 1)) B = sm (fun k => cnt (fun x => p x && decide (nb x = k)) n) B + sm (fun k => if (p n && decide (nb n = k)) then 1 else 0) B := by
      rw [← sm_add]
      refine sm_congr fun k _ => ?_
      rw [cnt]
    rw [e, cnt]
    cases hp : p n with
    | false =>
      have : sm (fun k => if (false && decide (nb n = k)) = true then 1 else 0) B = 0 := by
        rw [sm_congr (g := fun _ => 0) fun k _ => by simp, sm_const]; omega
      rw [this]
      simp only [Bool.false_eq_true, if_false]
      omega
    | true =>
      have : sm (fun k => if (true && decide (nb n = k)) = true then 1 else 0) B = if nb n < B then 1 else 0 := by
        rw [← sm_pt]
        exact sm_congr fun k _ => by simp
      rw [this]
      simp only [if_true]
      split <;> omega
theorem sm_len {nb : Nat × Nat → Nat} {B : Nat} : ∀ (l : gE), (∀ g, g ∈ l → nb g < B) → sm (fun k => (blkE l nb k).length) B = l.length
  | [], _ => by
    have : sm (fun k => (blkE [] nb k).length) B = sm (fun _ => 0) B := sm_congr fun k _ => rfl
    rw [this, sm_const]
    simp
  | g :: l, h => by
    have ih := sm_len (nb := nb) (B := B) l fun f hf => h f (List.mem_cons_of_mem _ hf)
    have e : sm (fun k => (blkE (g :: l) nb k).length) B = sm (fun k => (blkE l nb k).length) B + sm (fun k => if nb g = k then 1 else 0) B := by
      rw [← sm_add]
      refine sm_congr fun k _ => ?_
      unfold blkE
      by_cases q : nb g = k
      · rw [List.filter_cons_of_pos (by simpa using q), if_pos q, List.length_cons]
      · rw [List.filter_cons_of_neg (by simpa using q), if_neg q, Nat.add_zero]
    rw [e, ih, sm_pt, if_pos (h g List.mem_cons_self), List.length_cons]
end PLN
theorem layK_mono {es : gE} {nb : Nat × Nat → Nat} : ∀ (n : Nat) {R : Nat → List Nat}, layK es nb n = some R → ∀ k, k < n → ∃ T, lay1 (blkE es nb k) = some T
  | 0, R, _, k, hk => by omega
  | n + 1, R, h, k, hk => by
    rw [layK] at h
    cases hn : layK es nb n with
    | none => rw [hn] at h; cases h
    | some R0 =>
      rw [hn, Option.bind_some] at h
      cases h1 : lay1 (blkE es nb n) with
      | none => rw [h1] at h; cases h
      | some T =>
        by_cases e : k = n
        · rw [e]; exact ⟨T, h1⟩
        · exact layK_mono n hn k (by omega)
theorem lvO_blk {es : gE} {nb : Nat × Nat → Nat} {k v : Nat} : lvO (blkE es nb k) v = bkV es nb k v := by
  unfold lvO blkE bkV
  rw [List.any_filter]
/-- each block's edges, by its vertices -/
theorem blk_bound {V : Nat} {bes : gE} (hV : V ≤ 20) (hO : okE V bes) (h2 : TwoC bes) (hb : bes ≠ []) {T : Nat → List Nat} (h : lay1 bes = some T) : bes.length + 5 ≤ 3 * cnt (lvO bes) 20 ∧ (bes.length ≠ 1 → bes.length + 6 ≤ 3 * cnt (lvO bes) 20) := by
  unfold lay1 at h
  by_cases e : bes.length = 1
  · obtain ⟨g, rfl⟩ := List.length_eq_one_iff.mp e
    have hg := hO.1 g (by simp)
    have := cnt_list (p := fun _ => false) (n := 20) (l := [g.1, g.2]) (by simp; omega) (fun x hx => by simp at hx; constructor; omega; rfl)
    have h3 : cnt (lvO [g]) 20 = 2 := by
      rw [cnt_congr (q := fun v => false || [g.1, g.2].contains v) fun i _ => by simp [lvO, inc], this]
      have : cnt (fun _ => false) 20 = 0 := by decide
      rw [this]; rfl
    rw [h3]
    exact ⟨by simp, fun z => absurd e z⟩
  · rw [if_neg e] at h
    cases hb : layB bes with
    | none => rw [hb] at h; cases h
    | some rs =>
      obtain ⟨s, e1, hL, he⟩ := layB_ok hV hO h2 e hb
      have hall := nd_sub_all hL.1.2.1 hL.1.1 (by omega)
      have hlv : ∀ v, lvO s.2 v = lvO bes v := fun v => by
        rw [Bool.eq_iff_iff, lvO_iff, lvO_iff]
        exact ⟨fun ⟨g, g1, g2⟩ => ⟨g, hL.1.1 g g1, g2⟩, fun ⟨g, g1, g2⟩ => ⟨g, hall g g1, g2⟩⟩
      have := (hL.rs hO).2
      rw [cnt_congr (q := lvO bes) fun i _ => hlv i] at this
      exact ⟨by omega, fun _ => by omega⟩
/-- a laid graph has at most 3 V - 6 edges; if it has as many, it is one block -/
theorem lay_bound {V : Nat} {es : gE} (hV : V ≤ 20) (h3 : 3 ≤ V) (hO : okE V es) {L : Nat × Nat → Nat} (hB : BlkOK V es L) {R : Nat → List Nat} (h : layG V es = some R) : es.length + 6 ≤ 3 * V ∧ (es.length + 6 = 3 * V → bcnt es L = 1 ∧ es.length ≠ 1 ∧ cnt (lvO es) 20 = V) := by
  rw [layG_eq hO hB] at h
  have hlay := layK_mono _ h
  obtain ⟨far, par, X, hF, hC, hS⟩ := hB
  have hB' : BlkOK V es L := ⟨far, par, X, hF, hC, hS⟩
  -- the blocks' numbers are a labelling as good
  have hC' : lbC es par X (bnum es L) := fun g hg x hX => by
    have := hC g hg x hX
    obtain ⟨y1, y2⟩ := hF.2.1 g hg x hX
    exact (bnum_eq hg (hF.1 x y1 y2).2.2).mpr this
  have hS' : lbS es par X (bnum es L) := fun f hf g hg g' hg' e => hS f hf g hg g' hg' ((bnum_eq hg hg').mp e)
  have hk : ∀ k, k < bcnt es L → (blkE es (bnum es L) k).length + 2 ≤ 3 * cnt (fun x => decide (far x ≠ 0) && decide (bnum es L (te par x) = k)) V ∧ ((blkE es (bnum es L) k).length ≠ 1 → (blkE es (bnum es L) k).length + 6 ≤ 3 * cnt (lvO (blkE es (bnum es L) k)) 20) := fun k hkb => by
    obtain ⟨T, hT⟩ := hlay k hkb
    obtain ⟨g0, gm, gk⟩ := bnum_ex hkb
    have hbne : blkE es (bnum es L) k ≠ [] := fun e => by
      have : g0 ∈ blkE es (bnum es L) k := List.mem_filter.mpr ⟨gm, by simp [gk]⟩
      rw [e] at this
      exact absurd this List.not_mem_nil
    obtain ⟨b1, b2⟩ := blk_bound hV (okE_sub hO List.filter_sublist) (blk_TwoC hO hB' k) hbne hT
    have hc := blk_cnt hV hO hF hC' hS' k
    have b1 : (blkE es (bnum es L) k).length + 5 ≤ 3 * cnt (lvO (blkE es (bnum es L) k)) 20 := b1
    have hcc : cnt (lvO (blkE es (bnum es L) k)) 20 = cnt (bkV es (bnum es L) k) 20 := cnt_congr fun i _ => lvO_blk
    rw [hcc] at b1
    exact ⟨by omega, b2⟩
  -- a root
  have hroot : ∃ r, r < V ∧ far r = 0 := by
    have : ∀ (n x : Nat), x < V → far x = n → ∃ r, r < V ∧ far r = 0 := by
      intro n
      induction n with
      | zero => intro x hx hf; exact ⟨x, hx, hf⟩
      | succ n ih =>
        intro x hx hf
        have := hF.1 x hx (by omega)
        exact ih (par x) this.1 (by omega)
    exact this (far 0) 0 (by omega) rfl
  have htree : cnt (fun x => decide (far x ≠ 0)) V + 1 ≤ V := by
    obtain ⟨r, r1, r2⟩ := hroot
    have h1 := cnt_strict (p := fun x => decide (far x ≠ 0)) (q := fun _ => true) (a := r) (n := V) r1 (fun _ _ _ => rfl) (by simp [r2]) rfl
    have := cnt_le (fun _ => true) V
    omega
  have hsum : es.length + 2 * bcnt es L ≤ 3 * cnt (fun x => decide (far x ≠ 0)) V := by
    have h1 := sm_len (nb := bnum es L) (B := bcnt es L) es fun g hg => bnum_lt hg
    have h2 := sm_cnt (p := fun x => decide (far x ≠ 0)) (nb := fun x => bnum es L (te par x)) (B := bcnt es L) V
    have h3 := sm_le (n := bcnt es L) fun k hkb => (hk k hkb).1
    rw [sm_add, sm_const, sm_mul, h1] at h3
    omega
  by_cases hb0 : bcnt es L = 0
  · have hnil : es = [] := by
      cases hes : es with
      | nil => rfl
      | cons g t =>
        have := bnum_lt (es := es) (L := L) (g := g) (by rw [hes]; exact List.mem_cons_self)
        omega
    rw [hnil]
    simp only [List.length_nil]
    exact ⟨by omega, fun z => by omega⟩
  · by_cases hb1 : bcnt es L = 1
    · have hbe : blkE es (bnum es L) 0 = es := List.filter_eq_self.mpr fun g hg => by
        have := bnum_lt (L := L) hg
        rw [hb1] at this
        simp
        omega
      have h6 := (hk 0 (by omega)).2
      rw [hbe] at h6
      have hcv : cnt (lvO es) 20 ≤ V := by
        have h4 : cnt (lvO es) 20 ≤ cnt (fun v => decide (v < V)) 20 := cnt_mono fun v _ hv => by
          obtain ⟨g, g1, g2⟩ := lvO_iff.mp hv
          have := hO.1 g g1
          rcases inc_iff.mp g2 with w | w <;> simp <;> omega
        have h5 : cnt (fun v => decide (v < V)) 20 = V := by
          have := cnt_mem (p := fun v => decide (v < V)) (l := List.range V) List.nodup_range (fun x => by simp) (fun x hx => by have := List.mem_range.mp hx; omega)
          rw [this, List.length_range]
        omega
      by_cases he : es.length = 1
      · exact ⟨by omega, fun z => by omega⟩
      · have := h6 he
        exact ⟨by omega, fun z => ⟨hb1, he, by omega⟩⟩
    · exact ⟨by omega, fun z => by omega⟩
