/-! ===== Reference: knot ===== -/
def kdl (es : gE) (v : Nat) (K : List Nat) : List Nat := K.filterMap fun e => (es[e]?).bind fun p => othN p v
noncomputable def knE (V : Nat) (es : gE) : gE := prs (knS V es es.length) 0 es
def brL (V : Nat) (fs : gE) : List Nat := (List.range V).filter fun v => decide (3 ≤ cnt (adj fs v) 20)
theorem othN_c {p : Nat × Nat} {v x : Nat} (h : othN p v = some x) : p = (v, x) ∨ p = (x, v) := by
  unfold othN at h
  by_cases q : p.1 = v
  · rw [if_pos q] at h
    exact Or.inl (Prod.ext q (Option.some.inj h))
  · rw [if_neg q] at h
    by_cases q2 : p.2 = v
    · rw [if_pos q2] at h
      exact Or.inr (Prod.ext (Option.some.inj h) q2)
    · rw [if_neg q2] at h; cases h
theorem kdl_cnt {V : Nat} {es : gE} {P : Nat → Bool} {v : Nat} (hV : V ≤ 20) (hO : okE V es) : (kdl es v ((List.range es.length).filter fun e => P e)).length = cnt (adj (prs P 0 es) v) 20 := by
  have hmem : ∀ x, x ∈ kdl es v ((List.range es.length).filter fun e => P e) ↔ adj (prs P 0 es) v x = true := fun x => by
    rw [prs_adj, kdl, List.mem_filterMap]
    constructor
    · rintro ⟨e, h1, h2⟩
      rw [List.mem_filter] at h1
      obtain ⟨p, hp, hx⟩ := Option.bind_eq_some_iff.mp h2
      exact ⟨e, p, hp, h1.2, othN_c hx⟩
    · rintro ⟨e, p, hp, h1, h2⟩
      have hl := (List.getElem?_eq_some_iff.mp hp).1
      have hlt := hO.1 p (List.mem_of_getElem? hp)
      refine ⟨e, List.mem_filter.mpr ⟨List.mem_range.mpr hl, h1⟩, Option.bind_eq_some_iff.mpr ⟨p, hp, ?_⟩⟩
      rcases h2 with h2 | h2
      · rw [h2]; simp [othN]
      · rw [h2] at hlt ⊢
        have : ¬ x = v := by intro z; rw [z] at hlt; exact Nat.lt_irrefl _ hlt.1
        simp [othN, this]
  refine (cnt_mem ?_ hmem fun x hx => Nat.lt_of_lt_of_le (adj_lt (prs_ok hO) ((hmem x).mp hx)).2.1 hV).symm
  have hK : ((List.range es.length).filter fun e => P e).Nodup := List.nodup_range.sublist List.filter_sublist
  refine List.pairwise_filterMap.mpr (hK.imp fun {a b} hab x hx y hy hxy => hab ?_)
  obtain ⟨p, hp, hx⟩ := Option.bind_eq_some_iff.mp hx
  obtain ⟨p', hp', hy⟩ := Option.bind_eq_some_iff.mp hy
  subst hxy
  have l1 := hO.1 p (List.mem_of_getElem? hp)
  have l2 := hO.1 p' (List.mem_of_getElem? hp')
  have : p = p' := by
    rcases othN_c hx with e | e <;> rcases othN_c hy with e' | e'
    · rw [e, e']
    · exfalso; rw [e] at l1; rw [e'] at l2; have := l1.1; have := l2.1; simp only at *; omega
    · exfalso; rw [e] at l1; rw [e'] at l2; have := l1.1; have := l2.1; simp only at *; omega
    · rw [e, e']
  subst this
  obtain ⟨la, ea⟩ := List.getElem?_eq_some_iff.mp hp
  obtain ⟨lb, eb⟩ := List.getElem?_eq_some_iff.mp hp'
  exact (List.getElem_inj hO.2).mp (ea.trans eb.symm)
theorem flt_at {p : Nat → Bool} {v : Nat} (hv : p v = true) : ∀ {V : Nat}, v < V → ((List.range V).filter fun u => p u)[((List.range v).filter fun u => p u).length]? = some v
  | 0, h => by omega
  | V + 1, h => by
    rw [List.range_succ, List.filter_append]
    by_cases q : v = V
    · subst q
      simp [hv]
    · have ih := flt_at hv (V := V) (by omega)
      rw [List.getElem?_append_left (List.getElem?_eq_some_iff.mp ih).1]
      exact ih
section RTD
variable {d : Nat} {Q : fl_R} {W : fl_W} {V : Nat} {es : gE}
def KnR (W : fl_W) (m : Nat) (K : List Nat) : Prop := W 229 11 = nI K.length ∧ K.length ≤ 60 ∧ ∀ j x, K[j]? = some x → W 236 j = nI x ∧ x < m
theorem rf_kdeg_l {K : List Nat} {v : Nat} (hv : v < V) (hG : RfG W V es) (hK : KnR W es.length K) (h : Q (some (.int (nI (kdl es v K).length))) W) : ∀ (n i : Nat), K.length - i = n → i ≤ K.length → hd_171_4 (d + 1) Q (nI v) (nI (kdl es v (K.take i)).length) (nI i) W := by
  obtain ⟨k1, k2, k3⟩ := hK
  have hV := hG.1
  have hE := hG.2.1
  intro n
  induction n with
  | zero =>
    intro i h1 h2
    have hi : i = K.length := by omega
    subst hi
    refine sx_171_4 _ _ _ W ⟨fun q => absurd q ?_, fun _ => ?_⟩
    · rw [k1]; exact nI_nlt (Nat.le_refl _) (by omega)
    · rw [List.take_length]; exact h
  | succ n ih =>
    intro i h1 h2
    have hi : i < K.length := by omega
    have hx := List.getElem?_eq_getElem hi
    generalize K[i] = x at hx
    obtain ⟨x1, x2⟩ := k3 i x hx
    have hp := List.getElem?_eq_getElem x2
    generalize es[x] = p at hp
    have hpe := hG.2.2.1.1 p (List.mem_of_getElem? hp)
    have htk : K.take (i + 1) = K.take i ++ [x] := by rw [List.take_add_one, hx]; rfl
    have hkd : kdl es v (K.take (i + 1)) = kdl es v (K.take i) ++ (othN p v).toList := by
      rw [htk, kdl, List.filterMap_append]
      have : List.filterMap (fun e => es[e]?.bind fun p => othN p v) [x] = (othN p v).toList := by
        rw [List.filterMap_cons, hp, Option.bind_some, List.filterMap_nil]
        cases othN p v <;> rfl
      rw [this]; rfl
    have ihs := ih (i + 1) (by omega) (by omega)
    rw [hkd, List.length_append] at ihs
    refine sx_171_4 _ _ _ W ⟨fun _ => ⟨in_N (by omega) (by omega), ?_⟩, fun q => absurd ?_ q⟩
    · rw [nI_clamp (by omega), x1]
      refine rf_other hG hp (by omega) ?_
      show mi_br _ _ _
      rw [ci_0, ci_1, nI_add, nI_add, nI_add]
      cases ho : othN p v with
      | none =>
        rw [ho] at ihs
        exact ⟨fun _ => ihs, fun z => absurd (by decide) z⟩
      | some y =>
        rw [ho] at ihs
        have hy : y < 20 := by rcases othN_c ho with e | e <;> (rw [e] at hpe; simp only at hpe; omega)
        exact ⟨fun z => absurd z (nI_pos (by omega)), fun _ => ihs⟩
    · rw [k1]; exact nI_lt hi (by omega)
theorem rf_kdeg {K : List Nat} {v : Nat} (hv : v < V) (hG : RfG W V es) (hK : KnR W es.length K) (h : Q (some (.int (nI (kdl es v K).length))) W) : fl_cal (d + 2) 171 [.ref 229, .int (nI v)] W Q := by
  refine sx_171 _ W ?_
  rw [ci_0]
  exact rf_kdeg_l hv hG hK h K.length 0 (by omega) (Nat.zero_le _)
theorem rf_branch_l {P : Nat → Bool} {i : Int32} (hG : RfG W V es) (hK : KnR W es.length ((List.range es.length).filter fun e => P e)) (h : Q (some (.int (if i < 0 then nI (brL V (prs P 0 es)).length else getI (nL (brL V (prs P 0 es))) i))) W) : ∀ (n v : Nat), V - v = n → v ≤ V → (¬ i < 0 → (brL v (prs P 0 es)).length ≤ i.toNatClampNeg) → hd_172_4 (d + 2) Q i (nI (brL v (prs P 0 es)).length) (nI v) W := by
  have hV := hG.1
  have hO := hG.2.2.1
  have hbl : ∀ v, (brL v (prs P 0 es)).length ≤ v := fun v => by
    have := List.length_filter_le (fun u => decide (3 ≤ cnt (adj (prs P 0 es) u) 20)) (List.range v)
    rwa [List.length_range] at this
  intro n
  induction n with
  | zero =>
    intro v h1 h2 hi
    have hv : v = V := by omega
    subst hv
    refine sx_172_4 _ _ _ W ⟨fun q => absurd q ?_, fun _ => ⟨fun q => ?_, fun q => ?_⟩⟩
    · rw [hG.2.2.2.1]; exact nI_nlt (Nat.le_refl _) (by omega)
    · rw [if_pos q] at h; exact h
    · rw [if_neg q] at h
      have : getI (nL (brL v (prs P 0 es))) i = -1 := by
        rw [getI, if_neg q, List.getD_eq_getElem?_getD, List.getElem?_eq_none (by rw [nL_len]; exact hi q)]; rfl
      rw [this] at h; exact h
  | succ n ih =>
    intro v h1 h2 hi
    have hv : v < V := by omega
    have hbv := hbl v
    refine sx_172_4 _ _ _ W ⟨fun _ => rf_kdeg hv hG hK ?_, fun q => absurd ?_ q⟩
    · rw [kdl_cnt hV hO]
      have hc20 := cnt_le (adj (prs P 0 es) v) 20
      have hsucc : brL (v + 1) (prs P 0 es) = brL v (prs P 0 es) ++ (if 3 ≤ cnt (adj (prs P 0 es) v) 20 then [v] else []) := by
        rw [brL, List.range_succ, List.filter_append]
        by_cases q : 3 ≤ cnt (adj (prs P 0 es) v) 20
        · simp [brL, q]
        · simp [brL, q]
      rw [ci_3, ci_1]
      refine ⟨fun q => ?_, fun q => ⟨fun e => ?_, fun e => ?_⟩⟩
      · rw [nI_ltI (by omega) (by omega)] at q
        have ihs := ih (v + 1) (by omega) (by omega)
        rw [hsucc, if_neg (by omega), List.append_nil] at ihs
        rw [nI_add]
        exact ihs hi
      · rw [nI_ltI (by omega) (by omega)] at q
        rw [← e, if_neg (nI_pos (by omega))] at h
        have hat : (brL V (prs P 0 es))[(brL v (prs P 0 es)).length]? = some v := flt_at (p := fun u => decide (3 ≤ cnt (adj (prs P 0 es) u) 20)) (v := v) (by simp; omega) hv
        rw [getI_at (by omega) (nL_at hat)] at h
        exact h
      · rw [nI_ltI (by omega) (by omega)] at q
        have ihs := ih (v + 1) (by omega) (by omega)
        rw [hsucc, if_pos (by omega), List.length_append, List.length_singleton] at ihs
        rw [nI_add, nI_add]
        refine ihs fun z => ?_
        have h5 := hi z
        obtain ⟨k, hk, rfl⟩ := i_nonneg z
        rw [nI_clamp hk] at h5 ⊢
        have : (brL v (prs P 0 es)).length ≠ k := fun w => e (by rw [w])
        omega
    · rw [hG.2.2.2.1]; exact nI_lt hv (by omega)
theorem rf_branch {P : Nat → Bool} {i : Int32} (hG : RfG W V es) (hK : KnR W es.length ((List.range es.length).filter fun e => P e)) (h : Q (some (.int (if i < 0 then nI (brL V (prs P 0 es)).length else getI (nL (brL V (prs P 0 es))) i))) W) : fl_cal (d + 3) 172 [.ref 229, .int i] W Q := by
  refine sx_172 _ W ?_
  rw [ci_0]
  exact rf_branch_l hG hK h V 0 (by omega) (Nat.zero_le _) fun _ => Nat.zero_le _
/-- what knot(what) answers -/
def kntI (K br : List Nat) (w : Int32) : Int32 := if w = 0 then nI K.length else if w = nI 1 then (if br.length = 5 then 5 else 3) else if w = nI 2 then nI br.length else if w < nI 200 then getI (nL K) ((if w < 0 then 0 else w) - nI 100) else getI (nL br) (w - nI 200)
theorem sub100 : ∀ a, a < 100 → nI a - nI 100 < 0 := by decide +kernel
theorem rf_knotNo {w : Int32} (h11 : W 229 11 = 0) (h : Q (some (.int (-1))) W) : fl_cal (d + 4) 173 [.ref 229, .int w] W Q := sx_173 _ W ⟨fun _ => h, fun z => absurd h11 z⟩
theorem rf_knot {P : Nat → Bool} {w : Int32} (hG : RfG W V es) (hK : KnR W es.length ((List.range es.length).filter fun e => P e)) (h0 : ((List.range es.length).filter fun e => P e) ≠ []) (h : Q (some (.int (kntI ((List.range es.length).filter fun e => P e) (brL V (prs P 0 es)) w))) W) : fl_cal (d + 4) 173 [.ref 229, .int w] W Q := by
  have hV := hG.1
  obtain ⟨k1, k2, k3⟩ := id hK
  have hbl : (brL V (prs P 0 es)).length ≤ V := by
    have := List.length_filter_le (fun u => decide (3 ≤ cnt (adj (prs P 0 es) u) 20)) (List.range V)
    rwa [List.length_range] at this
  have hpos : 0 < ((List.range es.length).filter fun e => P e).length := List.length_pos_iff.mpr h0
  refine sx_173 _ W ⟨fun z => absurd z (by rw [k1]; exact nI_ne0 hpos (by omega)), fun _ => ?_⟩
  rw [cs_200, cb_100, ci_1, ci_2, ci_3, ci_5, ci_m]
  unfold kntI at h
  refine ⟨fun q2 => ⟨fun q1 => rf_branch hG hK ?_, fun q1 => ?_⟩, fun q2 => ?_⟩
  · rw [if_pos (by decide)]
    refine ⟨fun e => ?_, fun e => ⟨fun e1 => ⟨fun e5 => ?_, fun e5 => ?_⟩, fun e1 => ⟨fun e2 => ?_, fun e2 => ?_⟩⟩⟩
    · rw [if_pos e] at h; rw [k1]; exact h
    · rw [nI_eq (by omega) (by omega)] at e5
      rw [if_neg e, if_pos e1, if_pos e5] at h; exact h
    · rw [nI_eq (by omega) (by omega)] at e5
      rw [if_neg e, if_pos e1, if_neg e5] at h; exact h
    · rw [if_neg e, if_neg e1, if_pos e2] at h; exact h
    · rw [if_neg e, if_neg e1, if_neg e2, if_pos q2] at h
      have : (if w < 0 then (0 : Int32) else w) - nI 100 < 0 := by
        by_cases z : w < 0
        · rw [if_pos z]; decide
        · rw [if_neg z]
          obtain ⟨a, ha, rfl⟩ := i_nonneg z
          rw [nI_ltI ha (by omega)] at q1
          exact sub100 a q1
      rw [getI, if_pos this] at h
      exact h
  · have z : ¬ w < 0 := fun z => q1 (by rw [i_lt] at z ⊢; rw [nI_toInt (by omega)]; rw [i_0] at z; omega)
    obtain ⟨a, ha, rfl⟩ := i_nonneg z
    rw [nI_ltI ha (by omega)] at q1 q2
    rw [if_neg (nI_ne0 (by omega) ha), if_neg (nI_ne ha (by omega) (by omega)), if_neg (nI_ne ha (by omega) (by omega)), if_pos (nI_lt q2 (by omega)), if_neg z, nI_subN (by omega), getI_N (by omega)] at h
    rw [nI_subN (by omega), k1, nI_clamp (by omega)]
    refine ⟨fun q => ?_, fun q => ?_⟩
    · rw [nI_ltI (by omega) (by omega)] at q
      have hx := List.getElem?_eq_getElem q
      rw [List.getD_eq_getElem?_getD, nL_at hx] at h
      refine ⟨in_N (by omega) (by omega), ?_⟩
      rw [(k3 _ _ hx).1]
      exact h
    · rw [nI_ltI (by omega) (by omega)] at q
      rw [List.getD_eq_getElem?_getD, List.getElem?_eq_none (by rw [nL_len]; omega)] at h
      exact h
  · have z : ¬ w < 0 := fun z => q2 (by rw [i_lt] at z ⊢; rw [nI_toInt (by omega)]; rw [i_0] at z; omega)
    obtain ⟨a, ha, rfl⟩ := i_nonneg z
    rw [nI_ltI ha (by omega)] at q2
    rw [if_neg (nI_ne0 (by omega) ha), if_neg (nI_ne ha (by omega) (by omega)), if_neg (nI_ne ha (by omega) (by omega)), if_neg (nI_nlt (by omega) ha), nI_subN (by omega)] at h
    rw [nI_subN (by omega)]
    refine rf_branch hG hK ?_
    rw [if_neg (nI_pos (by omega))]
    exact h
end RTD
