/-! ===== Reference: makeOrder ===== -/
def moF : List Nat := [41, 45, 47]
def moL : List Nat := [253, 255, 256, 257, 258, 259]
section RDB
variable {d : Nat} {Q : fl_R} {W : fl_W} {V : Nat} {es : gE} {rs : List (List Nat)} {R : Nat → List Nat} {rim P : List Nat}
/-- the rim is copied -/
theorem rf_mo_221 {v1 v2 : Int32} : ∀ (n i : Nat) (W : fl_W), rim.length - i = n → i ≤ rim.length → RM W rim → (∀ j x, j < i → rim[j]? = some x → W 253 j = nI x) → (∀ W', (∀ j x, rim[j]? = some x → W' 253 j = nI x) → EqF [] [253] W W' → hd_182_259 d Q v1 v2 (nI rim.length) (nI 0) W') → hd_182_221 d Q v1 v2 (nI i) W := by
  intro n
  induction n with
  | zero =>
    intro i W h1 h2 hM h253 h
    have hl := hM.2.1
    refine sx_182_221 _ _ _ W ⟨fun z => absurd z ?_, fun _ => ?_⟩
    · rw [hM.1]; exact nI_nlt (by omega) (by omega)
    · rw [hM.1, ci_0]
      exact h W (fun j x hj => h253 j x (by have := (List.getElem?_eq_some_iff.mp hj).1; omega) hj) EqF.rf
  | succ n ih =>
    intro i W h1 h2 hM h253 h
    have hl := hM.2.1
    have hi : i < rim.length := by omega
    refine sx_182_221 _ _ _ W ⟨fun _ => ⟨in_N (by omega) (by omega), in_N (by omega) (by omega), fun W18 e18 => ?_⟩, fun z => absurd ?_ z⟩
    · rw [nI_clamp (by omega), hM.at hi] at e18
      have f18 : EqF [] [253] W W18 := by rw [e18]; exact EqF.uwA (by simp) (by decide)
      rw [ci_1, nI_add]
      refine ih (i + 1) W18 (by omega) (by omega) (hM.fr f18 (by decide) (by decide)) (fun j x hj hjx => ?_) fun W' k1 k2 => h W' k1 (f18.tr k2)
      rw [e18]
      by_cases e : j = i
      · subst e
        rw [rAt_get hi] at hjx; cases hjx
        exact uw_s
      · rw [uw_m e]; exact h253 j x (by omega) hjx
    · rw [hM.1]; exact nI_lt hi (by omega)
/-- what comes is written -/
theorem rf_mo_259 {v1 : Int32} {t m : Nat} {Z : List Nat} (hm : t + Z.length ≤ 20) : ∀ (n i : Nat) (W : fl_W), Z.length - i = n → i ≤ Z.length → W 229 47 = nI Z.length → (∀ j x, Z[j]? = some x → W 259 j = nI x) → (∀ j x, j < i → Z[j]? = some x → W 258 (t + j) = nI x) → (∀ W', (∀ j x, Z[j]? = some x → W' 258 (t + j) = nI x) → (∀ j, j < t → W' 258 j = W 258 j) → EqF [] [258] W W' → hd_182_295 d Q v1 (nI m) (nI (t + 1)) W') → hd_182_259 d Q v1 (nI t) (nI m) (nI i) W := by
  intro n
  induction n with
  | zero =>
    intro i W h1 h2 h47 h259 hw h
    refine sx_182_259 _ _ _ _ W ⟨fun z => absurd z ?_, fun _ => ?_⟩
    · rw [h47]; exact nI_nlt (by omega) (by omega)
    · rw [ci_1, nI_add]
      exact h W (fun j x hj => hw j x (by have := (List.getElem?_eq_some_iff.mp hj).1; omega) hj) (fun _ _ => rfl) EqF.rf
  | succ n ih =>
    intro i W h1 h2 h47 h259 hw h
    have hi : i < Z.length := by omega
    have hp := List.getElem?_eq_getElem hi
    refine sx_182_259 _ _ _ _ W ⟨fun _ => ⟨in_N (by omega) (by omega), ?_⟩, fun z => absurd ?_ z⟩
    · rw [nI_add, nI_clamp (by omega), nI_clamp (by omega), h259 i _ hp]
      refine ⟨in_N (by omega) (by omega), fun W19 e19 => ?_⟩
      have f19 : EqF [] [258] W W19 := by rw [e19]; exact EqF.uwA (by simp) (by decide)
      rw [ci_1, nI_add]
      refine ih (i + 1) W19 (by omega) (by omega) (by rw [f19.2 47 (by decide)]; exact h47) (fun j x hj => by rw [f19.1 259 (by decide) (by decide)]; exact h259 j x hj) (fun j x hj hjx => ?_) fun W' k1 k2 k3 => h W' k1 (fun j hj => by rw [k2 j hj, e19, uw_m (by omega)]) (f19.tr k3)
      rw [e19]
      by_cases e : j = i
      · subst e
        rw [hp] at hjx; cases hjx
        exact uw_s
      · rw [uw_m (by omega)]; exact hw j x (by omega) hjx
    · rw [h47]; exact nI_lt hi (by omega)
/-- and what stood behind moves on -/
theorem rf_mo_295 {v1 : Int32} {t zl : Nat} (ht : t < rim.length) (hl : rim.length ≤ 20) (hlen : rim.length + zl ≤ 21) : ∀ (n i : Nat) (W : fl_W), rim.length - i = n → t + 1 ≤ i → i ≤ rim.length → W 229 47 = nI zl → (∀ j x, rim[j]? = some x → W 253 j = nI x) → (∀ j x, t + 1 ≤ j → j < i → rim[j]? = some x → W 258 (j + zl - 1) = nI x) → (∀ W', (∀ j x, t + 1 ≤ j → rim[j]? = some x → W' 258 (j + zl - 1) = nI x) → (∀ j, j < t + zl → W' 258 j = W 258 j) → W' 229 45 = nI (rim.length + zl - 1) → EqF [45] [258] W W' → hd_182_95 d Q (v1 + Int32.ofInt (-1)) W') → hd_182_295 d Q v1 (nI rim.length) (nI i) W := by
  have hsub : ∀ j, 1 ≤ j + zl → nI j + nI zl - Int32.ofInt 1 = nI (j + zl - 1) := fun j hj => by rw [nI_add, nI_sub1 hj]
  intro n
  induction n with
  | zero =>
    intro i W h1 h2 h3 h47 h253 hw h
    refine sx_182_295 _ _ _ W ⟨fun z => absurd z (nI_nlt (by omega) (by omega)), fun _ W20 e20 => ?_⟩
    rw [h47, hsub _ (by omega)] at e20
    refine h W20 (fun j x hj hjx => ?_) (fun j _ => by rw [e20, uw_n (by decide)]) (by rw [e20, uw_s]) (by rw [e20]; exact EqF.uwF (by simp))
    have := (List.getElem?_eq_some_iff.mp hjx).1
    rw [e20, uw_n (by decide)]
    exact hw j x hj (by omega) hjx
  | succ n ih =>
    intro i W h1 h2 h3 h47 h253 hw h
    have hi : i < rim.length := by omega
    refine sx_182_295 _ _ _ W ⟨fun _ => ⟨in_N (by omega) (by omega), ?_⟩, fun z => absurd (nI_lt hi (by omega)) z⟩
    rw [h47, hsub i (by omega), nI_clamp (by omega), nI_clamp (by omega), h253 i _ (rAt_get hi)]
    refine ⟨in_N (by omega) (by omega), fun W21 e21 => ?_⟩
    have f21 : EqF [] [258] W W21 := by rw [e21]; exact EqF.uwA (by simp) (by decide)
    rw [ci_1, nI_add]
    refine ih (i + 1) W21 (by omega) (by omega) (by omega) (by rw [f21.2 47 (by decide)]; exact h47) (fun j x hj => by rw [f21.1 253 (by decide) (by decide)]; exact h253 j x hj) (fun j x hj hj2 hjx => ?_) fun W' k1 k2 k3 k4 => h W' k1 (fun j hj => by rw [k2 j hj, e21, uw_m (by omega)]) k3 ((f21.mono (by simp) (by simp)).tr k4)
    rw [e21]
    by_cases e : j = i
    · subst e
      rw [rAt_get hi] at hjx; cases hjx
      exact uw_s
    · rw [uw_m (by omega)]; exact hw j x hj (by omega) hjx
/-- the choice of the free vertex -/
theorem rf_mo_104 {v1 : Int32} (hG : RfG W V es) (hM : RM W rim) (h3 : 3 ≤ rim.length) (hV : ∀ x, x ∈ rim → x < V)
    (h : ∀ t, pkF es rim (rim.length - 1) = some t → hd_182_104 (d + 2) Q v1 (nI t) (nI (rim.length - 1)) W) (hs : pkF es rim (rim.length - 1) ≠ none) : ∀ (n i : Nat), rim.length - 1 - i = n → 1 ≤ i → i ≤ rim.length - 1 → hd_182_104 (d + 2) Q v1 (optI (pkF es rim i)) (nI i) W := by
  have hl := hM.2.1
  intro n
  induction n with
  | zero =>
    intro i h1 h2 h4
    have hi : i = rim.length - 1 := by omega
    cases hp : pkF es rim (rim.length - 1) with
    | none => exact absurd hp hs
    | some t =>
      rw [hi, hp]
      exact h t hp
  | succ n ih =>
    intro i h1 h2 h4
    have hi : i + 1 < rim.length := by omega
    have hx := hM.2.2.1 _ (rAt_mem (rim := rim) (t := i) (by omega))
    have hpk : pkF es rim (i + 1) = if decide (1 ≤ i) && frP es rim i then (match pkF es rim i with | none => some i | some b => if rAt rim i < rAt rim b then some i else some b) else pkF es rim i := by
      rw [pkF]
      cases pkF es rim i <;> rfl
    rw [decide_eq_true h2, Bool.true_and] at hpk
    have nx := ih (i + 1) (by omega) (by omega) (by omega)
    rw [hpk] at nx
    refine sx_182_104 _ _ _ W ⟨fun _ => rf_isFree (by omega) h2 hG hM ?_, fun z => absurd ?_ z⟩
    · rw [ci_1, nI_add]
      cases hf : frP es rim i with
      | false =>
        rw [hf] at nx
        exact ⟨fun _ => nx, fun z => absurd rfl z⟩
      | true =>
        rw [hf, if_pos rfl] at nx
        refine ⟨fun z => absurd z (by decide), fun _ => ?_⟩
        cases hb : pkF es rim i with
        | none =>
          rw [hb] at nx
          exact ⟨fun _ => nx, fun z => absurd (show optI none < 0 by decide) z⟩
        | some c =>
          rw [hb] at nx
          obtain ⟨c1, c2, -⟩ := (pkF_sp i).1 c hb
          have hc := hM.2.2.1 _ (rAt_mem (rim := rim) (t := c) (by omega))
          refine ⟨fun z => absurd z (nI_pos (by omega)), fun _ => ⟨in_N (by omega) (by omega), in_N (show c < 20 by omega) (by omega), ?_⟩⟩
          show mi_br (W 258 (nI i).toNatClampNeg < W 258 (nI c).toNatClampNeg) _ _
          rw [nI_clamp (by omega), nI_clamp (by omega), hM.at (by omega), hM.at (by omega)]
          refine ⟨fun w => ?_, fun w => ?_⟩
          · rw [nI_ltI (by omega) (by omega)] at w
            simp only [if_pos w] at nx; exact nx
          · rw [nI_ltI (by omega) (by omega)] at w
            simp only [if_neg w] at nx; exact nx
    · rw [hM.1, nI_sub1 (by omega)]; exact nI_lt (by omega) (by omega)
/-- the rounds -/
theorem rf_mo_95 (hT : TG V es rs R) (hall : ∀ x, x < V → ∃ y, adj es x y = true) : ∀ (k : Nat) (W : fl_W) (rim P : List Nat), (k = 0 ∨ ∃ F, RS V es rs F P rim ∧ P.length + 2 + k = V) → RfG W V es → RT W V R → (k ≠ 0 → RM W rim ∧ PLc W V P) →
    (∀ W', (∀ i v r, (drun es R k rim)[i]? = some (v, r) → W' 256 (k + 1 - i) = nI v) → (∀ j, k + 2 ≤ j ∨ j ≤ 1 → W' 256 j = W 256 j) → EqF moF moL W W' → Q none W') → hd_182_95 (d + 3) Q (nI (k + 1)) W := by
  have hV := hT.1
  have hO := hT.2.1
  intro k
  induction k with
  | zero =>
    intro W rim P hk hG hR hs h
    refine sx_182_95 _ W ⟨fun _ => h W (fun i v r hi => by simp [drun] at hi) (fun _ _ => rfl) EqF.rf, fun z => absurd (show nI (0 + 1) ≤ Int32.ofInt 1 by decide) z⟩
  | succ k ih =>
    intro W rim P hk hG hR hs h
    obtain ⟨F, hRS, hP⟩ := hk.resolve_left (by omega)
    clear hk
    obtain ⟨hM, hPL⟩ := hs (by omega)
    obtain ⟨t, t1, t2, t3, t4, t5, t6, t7, ⟨Wd, t8, t8n, t8w⟩, t9, t10⟩ := dr_step hT hall hRS (by omega)
    have hlk := t5
    obtain ⟨A0, p0, n0, M0, Z0, -, -, -, -, e5, -, e7, e8, e9⟩ := hlk
    have hrl := hM.2.1
    have hd : drun es R (k + 1) rim = (rAt rim t, rim) :: drun es R k (rimS R rim t) := by rw [drun, t1]
    have hRv : ∀ x, x ∈ R (rAt rim t) → x < V := fun x hx => (adj_lt hO (((hT.2.2.2.2.2.1 _).2 x).mp hx)).2.1
    have hlen' : (rimS R rim t).length ≤ 20 := nd_le 20 e5 e9
    have hrs : (rimS R rim t).length = rim.length + (secZ (R (rAt rim t)) (rAt rim (t - 1)) (rAt rim (t + 1))).length - 1 := by
      unfold rimS
      simp only [List.length_append, List.length_take, List.length_drop]
      omega
    have hv20 := e8 _ (rAt_mem (rim := rim) (t := t) (by omega))
    refine sx_182_95 _ W ⟨fun z => absurd z ?_, fun _ => ?_⟩
    · rw [ci_1, i_le, nI_toInt (by omega), nI_toInt (by omega)]; omega
    have start : pkF es rim 1 = none := by rw [pkF]; rfl
    have lp := rf_mo_104 (d := d + 1) (Q := Q) (v1 := nI (k + 1 + 1)) hG hM hRS.2.2.1 hRS.2.2.2.1 (fun t' ht' => ?_) (by rw [t1]; exact fun z => by cases z) (rim.length - 2) 1 (by omega) (by omega) (by have := hRS.2.2.1; omega)
    · rw [start] at lp
      exact lp
    have htt : t' = t := by rw [t1] at ht'; exact (Option.some.inj ht').symm
    subst htt
    refine sx_182_104 _ _ _ W ⟨fun z => absurd z ?_, fun _ => ?_⟩
    · rw [hM.1, nI_sub1 (by omega)]; exact nI_nlt (Nat.le_refl _) (by omega)
    rw [nI_sub1 t2, ci_1, nI_add, nI_clamp (by omega), nI_clamp (by omega), nI_clamp (by omega), hM.at (show t' < rim.length by omega), hM.at (show t' - 1 < rim.length by omega), hM.at t3]
    refine ⟨in_N (by omega) (by omega), in_N (by omega) (by omega), in_N (by omega) (by omega), ?_⟩
    refine rf_gather t7 hV hM hPL hR hRv t8 t8n (hT.2.2.2.2.2.1 _).1 (rAt_mem (by omega)) (rAt_mem t3) (fun z hz => ⟨(t9 z hz).1, (t9 z hz).2.1⟩) t8w fun W11 g1 g2 g3 => ⟨fun z => absurd z (by decide), fun _ => ⟨in_N (by omega) (by omega), fun W12 e12 => ⟨in_N hv20 (by omega), fun W13 e13 => ?_⟩⟩⟩
    rw [nI_clamp (by omega)] at e12 e13
    generalize hZ : secZ (R (rAt rim t')) (rAt rim (t' - 1)) (rAt rim (t' + 1)) = Z at *
    generalize hvv : rAt rim t' = v at *
    have f13 : EqF moF moL W W13 := by
      rw [e13, e12]
      exact ((g3.mono (by decide) (by decide)).tr (EqF.uwA (by decide) (by decide))).tr (EqF.uwA (by decide) (by decide))
    have hM13 : RM W13 rim := by
      have : EqF [47] [256, 257, 259] W W13 := by
        rw [e13, e12]
        exact ((g3.mono (by decide) (by decide)).tr (EqF.uwA (by decide) (by decide))).tr (EqF.uwA (by decide) (by decide))
      exact hM.fr this (by decide) (by decide)
    have h47 : W13 229 47 = nI Z.length := by rw [e13, uw_n (by decide), e12, uw_n (by decide)]; exact g1
    have h259 : ∀ j x, Z[j]? = some x → W13 259 j = nI x := fun j x hj => by rw [e13, uw_n (by decide), e12, uw_n (by decide)]; exact g2 j x hj
    have hPL13 : PLc W13 V (v :: P) := fun u hu => by
      rw [e13]
      by_cases e : u = v
      · rw [e, uw_s, if_pos (by simp)]; rfl
      · rw [uw_m e, e12, uw_n (by decide), g3.1 257 (by decide) (by decide), hPL u hu]
        have : (u ∈ v :: P) ↔ u ∈ P := by simp [e]
        simp only [this]
    rw [ci_0]
    refine rf_mo_221 (rim := rim) _ 0 W13 rfl (Nat.zero_le _) hM13 (fun j x hj => by omega) fun W14 k1 k2 => ?_
    refine rf_mo_259 (Z := Z) (by omega) _ 0 W14 rfl (Nat.zero_le _) (by rw [k2.2 47 (by decide)]; exact h47) (fun j x hj => by rw [k2.1 259 (by decide) (by decide)]; exact h259 j x hj) (fun j x hj => by omega) fun W15 m1 m2 m3 => ?_
    refine rf_mo_295 (rim := rim) (t := t') (zl := Z.length) (by omega) hrl (by omega) _ (t' + 1) W15 rfl (Nat.le_refl _) (by omega) (by rw [m3.2 47 (by decide), k2.2 47 (by decide)]; exact h47) (fun j x hj => by rw [m3.1 253 (by decide) (by decide)]; exact k1 j x hj) (fun j x hj hj2 => by omega) fun W16 n1 n2 n3 n4 => ?_
    have f16 : EqF moF moL W13 W16 := ((k2.mono (by decide) (by decide)).tr (m3.mono (by decide) (by decide))).tr (n4.mono (by decide) (by decide))
    have fA := f13.tr f16
    have hneg : (Int32.ofInt (-1)) = -(nI 1) := by decide
    rw [hneg, ← Int32.sub_eq_add_neg, ← nI_add (a := k + 1), Int32.add_sub_cancel]
    have h256 : W16 256 = upd (W 256) (k + 1 + 1) (nI v) := by
      rw [n4.1 256 (by decide) (by decide), m3.1 256 (by decide) (by decide), k2.1 256 (by decide) (by decide), e13, uw_n (by decide), e12]
      have : W11 256 = W 256 := g3.1 256 (by decide) (by decide)
      simp [fl_uw, this]
    refine ih W16 (rimS R rim t') (v :: P) ?_ (hG.fr fA (by decide) (by decide) (by decide) (by decide)) (hR.fr fA (by decide) (by decide)) (fun hk0 => ⟨⟨by rw [n3, hrs], hlen', e9, fun j x hj => ?_⟩, fun u hu => ?_⟩) fun W' j1 j2 j3 => h W' (fun i w r hi => ?_) (fun j hj => ?_) (fA.tr j3)
    · by_cases hk0 : k = 0
      · exact Or.inl hk0
      · obtain ⟨F', hR'⟩ := t10 (by omega)
        exact Or.inr ⟨F', hR', by simp; omega⟩
    · -- the new rim
      have hrS : rimS R rim t' = rim.take t' ++ Z ++ rim.drop (t' + 1) := by unfold rimS; rw [hvv, hZ]
      rw [hrS] at hj
      by_cases q1 : j < t'
      · rw [List.append_assoc, List.getElem?_append_left (by rw [List.length_take]; omega), List.getElem?_take, if_pos q1] at hj
        rw [n2 j (by omega), m2 j q1, k2.1 258 (by decide) (by decide)]
        exact hM13.2.2.2 j x hj
      · by_cases q2 : j < t' + Z.length
        · rw [List.append_assoc, List.getElem?_append_right (by rw [List.length_take]; omega), List.length_take, Nat.min_eq_left (by omega), List.getElem?_append_left (by omega)] at hj
          rw [n2 j q2]
          have := m1 (j - t') x hj
          rwa [show t' + (j - t') = j by omega] at this
        · rw [List.getElem?_append_right (by rw [List.length_append, List.length_take]; omega), List.length_append, List.length_take, Nat.min_eq_left (by omega), List.getElem?_drop] at hj
          have := n1 (t' + 1 + (j - (t' + Z.length))) x (by omega) hj
          rwa [show t' + 1 + (j - (t' + Z.length)) + Z.length - 1 = j by omega] at this
    · rw [f16.1 |> fun _ => (n4.1 257 (by decide) (by decide)), m3.1 257 (by decide) (by decide), k2.1 257 (by decide) (by decide)]
      exact hPL13 u hu
    · rw [hd] at hi
      cases i with
      | zero =>
        simp only [List.getElem?_cons_zero, Option.some.injEq, Prod.mk.injEq] at hi
        rw [Nat.sub_zero, j2 (k + 1 + 1) (Or.inl (by omega)), h256]
        simp [upd, hi.1]
      | succ i =>
        rw [List.getElem?_cons_succ] at hi
        have := j1 i w r hi
        rwa [show k + 1 + 1 - (i + 1) = k + 1 - i by omega]
    · rw [j2 j (by omega), h256]
      have : j ≠ k + 1 + 1 := by omega
      simp [upd, this]
/-- the first face -/
theorem stF_first {nx : Nat → Nat} : ∀ n, (stF nx (n + 1)).2[0]? = some 0
  | 0 => by
    rw [stF]
    simp [stF]
  | n + 1 => by
    have ih := stF_first (nx := nx) n
    rw [stF]
    split
    · exact ih
    · have hl := (List.getElem?_eq_some_iff.mp ih).1
      rw [List.getElem?_append_left hl]
      exact ih
theorem face0 (hT : TG V es rs R) (h3 : 3 ≤ V) (hfull : es.length + 6 = 3 * V) : faceI es R (nI 0) (nI 0) = nI (dA es) ∧ faceI es R (nI 0) (nI 1) = nI (dB es) ∧ faceI es R (nI 0) (nI 2) = nI (dC es R) := by
  obtain ⟨h0, hf⟩ := tg_first hT h3 hfull
  obtain ⟨-, -, c1, c2, c3⟩ := tri_fol hT hf
  have hO := hT.2.1
  have hTok : TOK es R := hT.2.2.2.2.2.1
  have hl : 0 < 2 * es.length := by omega
  have hst : (stF (nxD es R) (2 * es.length)).2[0]? = some 0 := by
    have := stF_first (nx := nxD es R) (2 * es.length - 1)
    rwa [show 2 * es.length - 1 + 1 = 2 * es.length by omega] at this
  have ht0 : tlD es 0 = dA es ∧ hdD es 0 = dB es := by
    obtain ⟨g, g1, g2⟩ := dart_ends hl
    rw [Nat.zero_div, h0] at g1
    cases g1
    rcases g2 with ⟨-, e1, e2⟩ | ⟨m, -, -⟩
    · exact ⟨e1, e2⟩
    · omega
  obtain ⟨n1, n2, n3⟩ := nx_ok hO hTok hl
  have hnx0 : nxD es R 0 = dno es (dB es) (dC es R) := by
    unfold nxD dC
    rw [ht0.1, ht0.2]
  have hbc : adj es (dB es) (dC es R) = true := (fol_adj hT hf).2
  obtain ⟨d1, d2, d3⟩ := dno_ok hO hbc
  have hne1 : nxD es R 0 ≠ 0 := fun e => by
    rw [hnx0] at e
    rw [e, ht0.1] at d2
    exact c2 d2
  have hnx1 : tlD es (nxD es R (nxD es R 0)) = dC es R := by
    rw [hnx0]
    obtain ⟨m1, m2, -⟩ := nx_ok hO hTok d1
    have h5 : nxD es R (dno es (dB es) (dC es R)) = dno es (hdD es (dno es (dB es) (dC es R))) (nxtN (R (hdD es (dno es (dB es) (dC es R)))) (tlD es (dno es (dB es) (dC es R)))) := rfl
    rw [h5, (dno_ok hO m2).2.1, d3]
  have hne2 : nxD es R (nxD es R 0) ≠ 0 := fun e => by
    rw [e, ht0.1] at hnx1
    exact c1 hnx1
  have hfi : ∀ i, i < 2 ^ 31 → faceI es R (nI 0) (nI i) = (match itn (nxD es R) 0 i 0 with | none => -1 | some x => nI (tlD es x)) := fun i hi => by
    unfold faceI
    rw [if_neg (nI_pos hi), if_neg (nI_pos (by omega)), nI_clamp (by omega), nI_clamp hi, hst]
    show (match itn (nxD es R) 0 i 0 with | none => -1 | some x => nI (tlD es x)) = _
    cases itn (nxD es R) 0 i 0 <;> rfl
  refine ⟨?_, ?_, ?_⟩
  · rw [hfi 0 (by omega)]
    show nI (tlD es 0) = _
    rw [ht0.1]
  · rw [hfi 1 (by omega), itn, if_neg hne1, itn]
    simp only
    rw [hnx0, d2]
  · rw [hfi 2 (by omega), itn, if_neg hne1, itn, if_neg hne2, itn]
    simp only
    rw [hnx1]
theorem rf_mo_2 : ∀ (n i : Nat) (W : fl_W), V - i = n → i ≤ V → V ≤ 20 → W 229 0 = nI V → (∀ u, u < i → W 257 u = 0) → (∀ W', (∀ u, u < V → W' 257 u = 0) → EqF [] [257] W W' → hd_182_2 d Q (nI V) W') → hd_182_2 d Q (nI i) W := by
  intro n
  induction n with
  | zero =>
    intro i W h1 h2 hV h0 hall h
    have hi : i = V := by omega
    subst hi
    exact h W hall EqF.rf
  | succ n ih =>
    intro i W h1 h2 hV h0 hall h
    refine sx_182_2 _ W ⟨fun _ => ⟨in_N (by omega) (by omega), fun W2 e2 => ?_⟩, fun q => absurd ?_ q⟩
    · rw [nI_clamp (by omega)] at e2
      have f2 : EqF [] [257] W W2 := by rw [e2]; exact EqF.uwA (by simp) (by decide)
      rw [ci_1, nI_add]
      refine ih (i + 1) W2 (by omega) (by omega) hV (by rw [f2.2 0 (by decide)]; exact h0) (fun u hu => ?_) fun W' k1 k2 => h W' k1 (f2.tr k2)
      rw [e2]
      by_cases e : u = i
      · rw [e, uw_s]; rfl
      · rw [uw_m e]; exact hall u (by omega)
    · rw [h0]; exact nI_lt (by omega) (by omega)
/-- makeOrder -/
theorem rf_makeOrder (hT : TG V es rs R) (hall : ∀ x, x < V → ∃ y, adj es x y = true) (h3 : 3 ≤ V) (hfull : es.length + 6 = 3 * V) (h9 : W 229 9 ≠ 0) (hG : RfG W V es) (hR : RT W V R) (h : ∀ W', (∀ i x, (ordL V es R)[i]? = some x → W' 256 i = nI x) → EqF moF moL W W' → Q none W') : fl_cal (d + 6) 182 [.ref 229] W Q := by
  have hV := hT.1
  have hTok : TOK es R := hT.2.2.2.2.2.1
  obtain ⟨fa, fb, fc⟩ := face0 hT h3 hfull
  obtain ⟨hK, F, hRS⟩ := drk_of hT hall h3 hfull
  have hK0 := hK
  obtain ⟨k1, k2, k3, k4, k5, k6, k7, k8⟩ := hK
  refine sx_182 W ?_
  rw [ci_0]
  refine rf_mo_2 V 0 W (by omega) (Nat.zero_le _) hV hG.2.2.2.1 (fun u hu => by omega) fun W0 z1 z2 => ?_
  have f0 : EqF moF moL W W0 := z2.mono (by decide) (by decide)
  have hG0 := hG.fr f0 (by decide) (by decide) (by decide) (by decide)
  have hR0 := hR.fr f0 (by decide) (by decide)
  refine sx_182_2 _ W0 ⟨fun z => absurd z ?_, fun _ => ?_⟩
  · rw [hG0.2.2.2.1]; exact nI_nlt (Nat.le_refl _) (by omega)
  refine rf_face (by rw [f0.2 9 (by decide)]; exact h9) hTok hG0 hR0 fun W1 g1 => ⟨in_N (n := 0) (by omega) (by omega), fun W2 e2 => ?_⟩
  have hfa : faceI es R (Int32.ofInt 0) (Int32.ofInt 0) = nI (dA es) := fa
  have hfb : faceI es R (Int32.ofInt 0) (Int32.ofInt 1) = nI (dB es) := fb
  have hfc : faceI es R (Int32.ofInt 0) (Int32.ofInt 2) = nI (dC es R) := fc
  rw [hfa] at e2
  have e2 : W2 = fl_uw W1 256 0 (nI (dA es)) := e2
  have f2 : EqF moF moL W W2 := f0.tr ((g1.mono (by decide) (by decide)).tr (by rw [e2]; exact EqF.uwA (by decide) (by decide)))
  refine rf_face (by rw [f2.2 9 (by decide)]; exact h9) hTok (hG.fr f2 (by decide) (by decide) (by decide) (by decide)) (hR.fr f2 (by decide) (by decide)) fun W3 g3 => ⟨in_N (n := 1) (by omega) (by omega), fun W4 e4 => ⟨in_N (n := 0) (by omega) (by omega), in_N (n := 0) (by omega) (by omega), fun W5 e5 => ?_⟩⟩
  rw [hfb] at e4
  have e4 : W4 = fl_uw W3 256 1 (nI (dB es)) := e4
  have h2560 : W4 256 0 = nI (dA es) := by rw [e4, uw_m (by decide), g3.1 256 (by decide) (by decide), e2, uw_s]
  have e5 : W5 = fl_uw W4 258 0 (W4 256 0) := e5
  rw [h2560] at e5
  have f5 : EqF moF moL W W5 := f2.tr ((g3.mono (by decide) (by decide)).tr (by rw [e5, e4]; exact (EqF.uwA (by decide) (by decide)).tr (EqF.uwA (by decide) (by decide))))
  refine rf_face (by rw [f5.2 9 (by decide)]; exact h9) hTok (hG.fr f5 (by decide) (by decide) (by decide) (by decide)) (hR.fr f5 (by decide) (by decide)) fun W6 g6 => ⟨in_N (n := 1) (by omega) (by omega), fun W7 e7 => ⟨in_N (n := 1) (by omega) (by omega), in_N (n := 2) (by omega) (by omega), fun W8 e8 W9 e9 => ?_⟩⟩
  rw [hfc] at e7
  have e7 : W7 = fl_uw W6 258 1 (nI (dC es R)) := e7
  have h2561 : W7 256 1 = nI (dB es) := by rw [e7, uw_n (by decide), g6.1 256 (by decide) (by decide), e5, uw_n (by decide), e4, uw_s]
  have h2560' : W7 256 0 = nI (dA es) := by rw [e7, uw_n (by decide), g6.1 256 (by decide) (by decide), e5, uw_n (by decide)]; exact h2560
  have e8 : W8 = fl_uw W7 258 2 (W7 256 1) := e8
  rw [h2561] at e8
  have f9 : EqF moF moL W W9 := f5.tr ((g6.mono (by decide) (by decide)).tr (by rw [e9, e8, e7]; exact ((EqF.uwA (by decide) (by decide)).tr (EqF.uwA (by decide) (by decide))).tr (EqF.uwF (by decide))))
  have hG9 := hG.fr f9 (by decide) (by decide) (by decide) (by decide)
  rw [hG9.2.2.2.1, nI_sub1 (by omega), show V - 1 = V - 2 + 1 by omega]
  have h257 : W9 257 = W0 257 := by
    rw [e9, uw_n (by decide), e8, uw_n (by decide), e7, uw_n (by decide), g6.1 257 (by decide) (by decide), e5, uw_n (by decide), e4, uw_n (by decide), g3.1 257 (by decide) (by decide), e2, uw_n (by decide), g1.1 257 (by decide) (by decide)]
  have hlt : ∀ x, x ∈ [dA es, dC es R, dB es] → x < 20 := fun x hx => by have := hRS.2.2.2.1 x hx; omega
  refine rf_mo_95 hT hall (V - 2) W9 [dA es, dC es R, dB es] [] (Or.inr ⟨F, hRS, by simp; omega⟩) hG9 (hR.fr f9 (by decide) (by decide)) (fun _ => ⟨⟨by rw [e9, uw_s]; rfl, by simp, hlt, fun j x hj => ?_⟩, fun u hu => by rw [h257, z1 u hu]; simp⟩) fun W' j1 j2 j3 => h W' (fun i x hi => ?_) (f9.tr j3)
  · match j, hj with
    | 0, hj =>
      simp at hj
      rw [← hj, e9, uw_n (by decide), e8, uw_m (by decide), e7, uw_m (by decide), g6.1 258 (by decide) (by decide), e5, uw_s]
    | 1, hj =>
      simp at hj
      rw [← hj, e9, uw_n (by decide), e8, uw_m (by decide), e7, uw_s]
    | 2, hj =>
      simp at hj
      rw [← hj, e9, uw_n (by decide), e8, uw_s]
    | j + 3, hj => simp at hj
  · have h256 : W9 256 = W7 256 := by rw [e9, uw_n (by decide), e8, uw_n (by decide)]
    unfold ordL at hi
    match i, hi with
    | 0, hi =>
      simp at hi
      rw [← hi, j2 0 (by omega), h256]; exact h2560'
    | 1, hi =>
      simp at hi
      rw [← hi, j2 1 (by omega), h256]; exact h2561
    | i + 2, hi =>
      rw [List.getElem?_cons_succ, List.getElem?_cons_succ] at hi
      have hil := (List.getElem?_eq_some_iff.mp hi).1
      rw [List.length_reverse, List.length_map, k1] at hil
      rw [List.getElem?_reverse (by rw [List.length_map, k1]; exact hil), List.length_map, k1, List.getElem?_map] at hi
      obtain ⟨q, q1, q2⟩ := Option.map_eq_some_iff.mp hi
      have := j1 (V - 2 - 1 - i) q.1 q.2 q1
      rw [show V - 2 + 1 - (V - 2 - 1 - i) = i + 2 by omega] at this
      rw [this, q2]
end RDB
