/-! ===== Reference: what is asked of it ===== -/
noncomputable def cbn (V : Nat) (es : gE) (g : Nat × Nat) : Nat := bnum es (Classical.epsilon (BlkOK V es)) g
noncomputable def cbc (V : Nat) (es : gE) : Nat := bcnt es (Classical.epsilon (BlkOK V es))
noncomputable def ccm (V : Nat) (es : gE) : Nat := Classical.epsilon (CmpR V es)
theorem cbn_eq {V : Nat} {es : gE} (hO : okE V es) {L : Nat × Nat → Nat} (h : BlkOK V es L) {g : Nat × Nat} (hg : g ∈ es) : bnum es L g = cbn V es g := (blk_num hO h (Classical.epsilon_spec (p := BlkOK V es) ⟨L, h⟩)).2 g hg
theorem cbc_eq {V : Nat} {es : gE} (hO : okE V es) {L : Nat × Nat → Nat} (h : BlkOK V es L) : bcnt es L = cbc V es := (blk_num hO h (Classical.epsilon_spec (p := BlkOK V es) ⟨L, h⟩)).1
theorem ccm_eq {V : Nat} {es : gE} {c : Nat} (h : CmpR V es c) : c = ccm V es := cmp_uniq h (Classical.epsilon_spec (p := CmpR V es) ⟨c, h⟩)
theorem prs_true {es : gE} : prs (fun _ => true) 0 es = es := prs_all fun j _ => rfl
/-- what edge(e, what) answers -/
noncomputable def edgeI (V : Nat) (es : gE) (e w : Int32) : Int32 :=
  if ixB e es.length then
    (if w = 0 then nI (es.getD e.toNatClampNeg (0, 0)).1 else if w = 1 then nI (es.getD e.toNatClampNeg (0, 0)).2 else if w = 2 then nI (cbn V es (es.getD e.toNatClampNeg (0, 0))) else -1) else -1
/-- what about(what) answers -/
noncomputable def abtI (V : Nat) (es : gE) (w : Int32) : Int32 :=
  if w = 0 then nI V else if w = 1 then nI es.length else if w = 2 then nI (ccm V es) else if w = 3 then nI (cnt (lonB es) V) else if w = 4 then nI (cbc V es) else if w = 5 then (if (layG V es).isSome then 1 else 0) else -1
section RTA
variable {d : Nat} {Q : fl_R} {W : fl_W} {V : Nat} {es : gE} {R : Nat → List Nat}
theorem rf_edge {e w : Int32} (hG : RfG W V es) (h : ∀ W', EqF [6, 22] (232 :: mbL) W W' → Q (some (.int (edgeI V es e w))) W') : fl_cal (d + 5) 157 [.ref 229, .int e, .int w] W Q := by
  have hE := hG.2.1
  have hO := hG.2.2.1
  refine sx_157 _ _ W ?_
  rw [hG.2.2.2.2.1, ci_0, ci_1]
  refine rf_inN (by omega) ?_
  cases hx : ixB e es.length with
  | false =>
    have := h W EqF.rf
    unfold edgeI at this
    rw [hx] at this
    exact ⟨fun _ => this, fun z => absurd rfl z⟩
  | true =>
    obtain ⟨j, hj, rfl⟩ := ixB_ex (by omega) hx
    have hp := List.getElem?_eq_getElem hj
    have hgd : es.getD (nI j).toNatClampNeg (0, 0) = es[j] := by rw [nI_clamp (by omega), List.getD_eq_getElem?_getD, hp]; rfl
    obtain ⟨g1, g2⟩ := hG.2.2.2.2.2 j _ hp
    have hans : edgeI V es (nI j) w = if w = 0 then nI es[j].1 else if w = 1 then nI es[j].2 else if w = 2 then nI (cbn V es es[j]) else -1 := by
      unfold edgeI
      rw [hx, hgd]
      rfl
    rw [hans] at h
    refine ⟨fun z => absurd z (by decide), fun _ => ⟨fun z => ⟨in_N (by omega) (by omega), ?_⟩, fun z => ⟨fun z2 => ⟨in_N (by omega) (by omega), ?_⟩, fun z2 => ⟨fun z3 => ?_, fun z3 => ?_⟩⟩⟩⟩
    · have := h W EqF.rf
      rw [if_pos z] at this
      rw [nI_clamp (by omega), g1]; exact this
    · have := h W EqF.rf
      rw [if_neg z, if_pos (show w = 1 from z2)] at this
      rw [nI_clamp (by omega), g2]; exact this
    · refine rf_all hG fun W2 k1 k2 => ?_
      have f2 : EqF [6, 22] (232 :: mbL) W W2 := k2.mono (by decide) (by decide)
      refine rf_makeBlocks (P := fun _ => true) (hG.fr f2 (by decide) (by decide) (by decide) (by decide)) (fun i hi => by rw [k1 i hi]; rfl) fun W3 m1 m2 => ⟨in_N (by omega) (by omega), ?_⟩
      obtain ⟨L, c, b1, b2, b3, b4, b5⟩ := m1
      rw [prs_true] at b1 b2 b4 b5
      have := h W3 (f2.tr (m2.mono (by decide) (by decide)))
      rw [if_neg z, if_neg (show ¬ w = 1 from z2), if_pos (show w = 2 from z3)] at this
      show Q (some (.int (W3 233 (nI j).toNatClampNeg))) W3
      rw [nI_clamp (by omega), b5 j _ hp]
      simp only [if_true]
      rw [cbn_eq hO b1 (List.mem_of_getElem? hp)]
      exact this
    · have := h W EqF.rf
      rw [if_neg z, if_neg (show ¬ w = 1 from z2), if_neg (show ¬ w = 2 from z3)] at this
      exact this
/-- lonely -/
theorem rf_lon_i {v n : Nat} (hv : v < V) (hG : RfG W V es) (hy : lonB es v = true → hd_158_4 (d + 1) Q (nI (n + 1)) (nI (v + 1)) W) (hn : lonB es v = false → hd_158_4 (d + 1) Q (nI n) (nI (v + 1)) W) : ∀ (m j : Nat) (x : Int32), es.length - j = m → j ≤ es.length → (x = if (es.take j).any (fun g => inc g v) then 1 else 0) → hd_158_17 (d + 1) Q (nI n) (nI v) x (nI j) W := by
  have hE := hG.2.1
  have hV := hG.1
  have hO := hG.2.2.1
  have hlon : lonB es v = !(es.any fun g => inc g v) := by
    rw [Bool.eq_iff_iff, Bool.not_eq_true', ← Bool.not_eq_true]
    have : (es.any fun g => inc g v) = true ↔ ∃ u, adj es v u = true := lvO_adj
    rw [this]
    unfold lonB
    rw [List.all_eq_true]
    constructor
    · rintro h1 ⟨u, hu⟩
      have := h1 u (List.mem_range.mpr (by have := (adj_lt hO hu).2.1; omega))
      rw [hu] at this; cases this
    · intro h1 u _
      cases hu : adj es v u with
      | false => rfl
      | true => exact absurd ⟨u, hu⟩ h1
  intro m
  induction m with
  | zero =>
    intro j x h1 h2 hx
    rw [List.take_of_length_le (by omega)] at hx
    refine sx_158_17 _ _ _ _ W ⟨fun q => absurd q ?_, fun _ => ?_⟩
    · rw [hG.2.2.2.2.1]; exact nI_nlt (by omega) (by omega)
    · rw [ci_0, ci_1, nI_add, nI_add, nI_add, hx]
      cases ha : es.any fun g => inc g v with
      | true => exact ⟨fun z => absurd z (by decide), fun _ => hn (by rw [hlon, ha]; rfl)⟩
      | false => exact ⟨fun _ => hy (by rw [hlon, ha]; rfl), fun z => absurd rfl z⟩
  | succ m ih =>
    intro j x h1 h2 hx
    have hj : j < es.length := by omega
    have hp := List.getElem?_eq_getElem hj
    have hts : (es.take (j + 1)).any (fun g => inc g v) = ((es.take j).any (fun g => inc g v) || inc es[j] v) := by
      rw [List.take_succ_eq_append_getElem hj, List.any_append]
      simp
    refine sx_158_17 _ _ _ _ W ⟨fun _ => ?_, fun q => absurd ?_ q⟩
    · rw [hx, ci_1, nI_add]
      cases ha : (es.take j).any fun g => inc g v with
      | true =>
        refine ⟨fun z => absurd z (by decide), fun _ => ih (j + 1) _ (by omega) (by omega) ?_⟩
        rw [hts, ha]; rfl
      | false =>
        refine ⟨fun _ => rf_other hG hp (by omega) ?_, fun z => absurd rfl z⟩
        have hgo := hO.1 _ (List.mem_of_getElem? hp)
        unfold othN
        by_cases q1 : es[j].1 = v
        · rw [if_pos q1]
          refine ⟨fun z => absurd z (nI_pos (by omega)), fun _ => ih (j + 1) _ (by omega) (by omega) ?_⟩
          rw [hts, inc_iff.mpr (Or.inl q1.symm)]; simp; rfl
        · rw [if_neg q1]
          by_cases q2 : es[j].2 = v
          · rw [if_pos q2]
            refine ⟨fun z => absurd z (nI_pos (by omega)), fun _ => ih (j + 1) _ (by omega) (by omega) ?_⟩
            rw [hts, inc_iff.mpr (Or.inr q2.symm)]; simp; rfl
          · rw [if_neg q2]
            refine ⟨fun _ => ih (j + 1) _ (by omega) (by omega) ?_, fun z => absurd (show optI none < 0 by decide) z⟩
            have : inc es[j] v = false := by
              cases hh : inc es[j] v with
              | false => rfl
              | true => rcases inc_iff.mp hh with w | w; exact absurd w.symm q1; exact absurd w.symm q2
            rw [hts, ha, this]; rfl
    · rw [hG.2.2.2.2.1]; exact nI_lt hj (by omega)
theorem rf_lonely (hG : RfG W V es) (h : Q (some (.int (nI (cnt (lonB es) V)))) W) : fl_cal (d + 2) 158 [.ref 229] W Q := by
  have hV := hG.1
  refine sx_158 W ?_
  have lp : ∀ (m v : Nat), V - v = m → v ≤ V → hd_158_4 (d + 1) Q (nI (cnt (lonB es) v)) (nI v) W := by
    intro m
    induction m with
    | zero =>
      intro v h1 h2
      have hv : v = V := by omega
      subst hv
      refine sx_158_4 _ _ W ⟨fun q => absurd q ?_, fun _ => h⟩
      rw [hG.2.2.2.1]; exact nI_nlt (by omega) (by omega)
    | succ m ih =>
      intro v h1 h2
      have hv : v < V := by omega
      have nx := ih (v + 1) (by omega) (by omega)
      rw [cnt] at nx
      refine sx_158_4 _ _ W ⟨fun _ => ?_, fun q => absurd ?_ q⟩
      · rw [ci_0]
        refine rf_lon_i hv hG (fun e => by rw [e] at nx; exact nx) (fun e => by rw [e] at nx; exact nx) _ 0 _ rfl (Nat.zero_le _) (by simp; rfl)
      · rw [hG.2.2.2.1]; exact nI_lt hv (by omega)
  rw [ci_0]
  exact lp V 0 (by omega) (Nat.zero_le _)
/-- about -/
theorem rf_about {w : Int32} (hG : RfG W V es) (h : ∀ W', EqF laF ipL W W' → Q (some (.int (abtI V es w))) W') : fl_cal (d + 7) 159 [.ref 229, .int w] W Q := by
  refine sx_159 _ W (rf_all hG fun W1 k1 k2 => ?_)
  have f1 : EqF laF ipL W W1 := k2.mono (by decide) (by decide)
  have hG1 := hG.fr f1 (by decide) (by decide) (by decide) (by decide)
  have hP1 : PrR W1 (fun _ => true) es.length := fun i hi => by rw [k1 i hi]; rfl
  unfold abtI at h
  refine ⟨fun z => ?_, fun z => ?_, fun z => ?_, fun z => ?_, fun z => ?_, fun z => ?_, fun z => ?_⟩
  · have := h W1 f1
    rw [if_pos (show w = 0 from z)] at this
    rw [hG1.2.2.2.1]; exact this
  · have := h W1 f1
    rw [z, if_neg (by decide), if_pos (by decide)] at this
    rw [hG1.2.2.2.2.1]; exact this
  · refine rf_forest hG1 hP1 fun W2 far par rt m1 m2 => ?_
    have := h W2 (f1.tr (m2.mono (by decide) (by decide)))
    rw [z, if_neg (by decide), if_neg (by decide), if_pos (by decide)] at this
    show Q (some (.int (W2 229 22))) W2
    unfold RFR at m1
    rw [prs_true] at m1
    rw [m1.2.1, ccm_eq ⟨far, par, rt, m1.1, rfl⟩]
    exact this
  · refine rf_lonely hG1 ?_
    have := h W1 f1
    rw [z, if_neg (by decide), if_neg (by decide), if_neg (by decide), if_pos (by decide)] at this
    exact this
  · refine rf_makeBlocks hG1 hP1 fun W4 m1 m2 => ?_
    obtain ⟨L, c, b1, b2, b3, b4, b5⟩ := m1
    have := h W4 (f1.tr (m2.mono (by decide) (by decide)))
    rw [z, if_neg (by decide), if_neg (by decide), if_neg (by decide), if_neg (by decide), if_pos (by decide)] at this
    show Q (some (.int (W4 229 6))) W4
    rw [prs_true] at b1 b4
    rw [b4, cbc_eq hG.2.2.1 b1]
    exact this
  · refine rf_isPlane hG1 (fun W5 R' j1 _ j2 => ⟨fun q => absurd q (by decide), fun _ => ?_⟩) fun W5 j1 j2 => ⟨fun _ => ?_, fun q => absurd rfl q⟩
    · have := h W5 (f1.tr j2)
      rw [z, if_neg (by decide), if_neg (by decide), if_neg (by decide), if_neg (by decide), if_neg (by decide), if_pos (by decide), j1] at this
      exact this
    · have := h W5 (f1.tr j2)
      rw [z, if_neg (by decide), if_neg (by decide), if_neg (by decide), if_neg (by decide), if_neg (by decide), if_pos (by decide), j1] at this
      exact this
  · have := h W1 f1
    obtain ⟨z0, z1, z2, z3, z4, z5⟩ := z
    rw [if_neg (show ¬ w = 0 from z0), if_neg (show ¬ w = 1 from z1), if_neg (show ¬ w = 2 from z2), if_neg (show ¬ w = 3 from z3), if_neg (show ¬ w = 4 from z4), if_neg (show ¬ w = 5 from z5)] at this
    exact this
/-- turn and swap -/
theorem rf_turnNo {v i : Int32} (h9 : W 229 9 = 0) (h : Q (some (.int (-1))) W) : fl_cal (d + 3) 162 [.ref 229, .int v, .int i] W Q := sx_162 _ _ W ⟨fun _ => h, fun z => absurd h9 z⟩
theorem rf_turn {v i : Int32} (h9 : W 229 9 ≠ 0) (hG : RfG W V es) (hR : RT W V R) (h : Q (some (.int (if ixB v V then getI (nL (R v.toNatClampNeg)) i else -1))) W) : fl_cal (d + 3) 162 [.ref 229, .int v, .int i] W Q := by
  have hV := hG.1
  refine sx_162 _ _ W ⟨fun z => absurd z h9, fun _ => rf_isV hG ?_⟩
  cases hx : ixB v V with
  | false => rw [hx] at h; exact ⟨fun _ => h, fun z => absurd rfl z⟩
  | true =>
    obtain ⟨u, hu, rfl⟩ := ixB_ex (by omega) hx
    rw [hx, nI_clamp (by omega)] at h
    simp only [if_true] at h
    obtain ⟨t1, t2, t3⟩ := hR u hu
    refine ⟨fun z => absurd z (by decide), fun _ => ⟨in_N (by omega) (by omega), ?_⟩⟩
    rw [nI_clamp (by omega), t1, ci_0, ci_1]
    refine rf_inN (by omega) ?_
    cases hy : ixB i (R u).length with
    | false =>
      rw [nL_getNo (by omega) hy] at h
      exact ⟨fun _ => h, fun z => absurd rfl z⟩
    | true =>
      obtain ⟨j, hj, rfl⟩ := ixB_ex (by omega) hy
      have hp := List.getElem?_eq_getElem hj
      rw [getI_at (by omega) (nL_at hp)] at h
      refine ⟨fun z => absurd z (by decide), fun _ => ?_⟩
      rw [cb_20, i20 (by omega) (by omega), nI_clamp (by omega), t3 j _ hp]
      exact ⟨in_N (by omega) (by omega), h⟩
theorem rf_swapNo {v i k : Int32} (hG : RfG W V es) (hR : W 229 9 ≠ 0 → RT W V R) (hn : W 229 9 = 0 ∨ ixB v V = false ∨ ixB i (R v.toNatClampNeg).length = false ∨ ixB k (R v.toNatClampNeg).length = false) (h : Q (some (.int 0)) W) : fl_cal (d + 3) 163 [.ref 229, .int v, .int i, .int k] W Q := by
  have hV := hG.1
  refine sx_163 _ _ _ W ⟨fun _ => h, fun z => rf_isV hG ?_⟩
  have hn := hn.resolve_left z
  cases hx : ixB v V with
  | false => exact ⟨fun _ => h, fun z => absurd rfl z⟩
  | true =>
    obtain ⟨u, hu, rfl⟩ := ixB_ex (by omega) hx
    have hn := hn.resolve_left (by rw [hx]; exact fun q => by cases q)
    rw [nI_clamp (by omega)] at hn
    obtain ⟨t1, t2, t3⟩ := hR z u hu
    refine ⟨fun z => absurd z (by decide), fun _ => ⟨in_N (by omega) (by omega), ?_⟩⟩
    rw [nI_clamp (by omega), t1, ci_0, ci_1]
    refine rf_inN (by omega) ?_
    cases hy : ixB i (R u).length with
    | false => exact ⟨fun _ => h, fun z => absurd rfl z⟩
    | true =>
      have hn := hn.resolve_left (by rw [hy]; exact fun q => by cases q)
      refine ⟨fun z => absurd z (by decide), fun _ => ⟨in_N (by omega) (by omega), ?_⟩⟩
      rw [t1]
      refine rf_inN (by omega) ?_
      rw [hn]
      exact ⟨fun _ => h, fun z => absurd rfl z⟩
theorem rf_swap {v a c x y : Nat} (h9 : W 229 9 ≠ 0) (hG : RfG W V es) (hR : RT W V R) (hv : v < V) (ha : (R v)[a]? = some x) (hc : (R v)[c]? = some y) (h : ∀ W', RT W' V (fun u => if u = v then ((R v).set a y).set c x else R u) → EqF [] [234] W W' → Q (some (.int 1)) W') : fl_cal (d + 3) 163 [.ref 229, .int (nI v), .int (nI a), .int (nI c)] W Q := by
  have hV := hG.1
  obtain ⟨t1, t2, t3⟩ := hR v hv
  have hal := (List.getElem?_eq_some_iff.mp ha).1
  have hcl := (List.getElem?_eq_some_iff.mp hc).1
  refine sx_163 _ _ _ W ⟨fun z => absurd z h9, fun _ => rf_isV hG ?_⟩
  rw [ixB_N (by omega), decide_eq_true hv]
  refine ⟨fun z => absurd z (by decide), fun _ => ⟨in_N (by omega) (by omega), ?_⟩⟩
  rw [nI_clamp (by omega), t1, ci_0, ci_1]
  refine rf_inN (by omega) ?_
  rw [ixB_N (by omega), decide_eq_true hal]
  refine ⟨fun z => absurd z (by decide), fun _ => ⟨in_N (by omega) (by omega), ?_⟩⟩
  rw [t1]
  refine rf_inN (by omega) ?_
  rw [ixB_N (by omega), decide_eq_true hcl]
  refine ⟨fun z => absurd z (by decide), fun _ => ?_⟩
  rw [cb_20, i20 (by omega) (by omega), i20 (by omega) (by omega), nI_clamp (by omega), nI_clamp (by omega), t3 a x ha, t3 c y hc]
  refine ⟨in_N (by omega) (by omega), in_N (by omega) (by omega), in_N (by omega) (by omega), fun W4 e4 => ⟨in_N (by omega) (by omega), fun W5 e5 => ?_⟩⟩
  have f5 : EqF [] [234] W W5 := by rw [e5, e4]; exact (EqF.uwA (by simp) (by decide)).tr (EqF.uwA (by simp) (by decide))
  refine h W5 (fun u hu => ?_) f5
  obtain ⟨s1, s2, s3⟩ := hR u hu
  have e235 : W5 235 = W 235 := f5.1 235 (by decide) (by decide)
  by_cases e : u = v
  · subst e
    simp only [if_true]
    refine ⟨by rw [e235, s1]; simp, by simpa using s2, fun i z hi => ?_⟩
    have hil := (List.getElem?_eq_some_iff.mp hi).1
    simp only [List.length_set] at hil
    rw [e5, e4]
    by_cases q1 : i = c
    · subst q1
      rw [List.getElem?_set_self (by simpa using hil)] at hi
      cases hi
      exact uw_s
    · rw [List.getElem?_set_ne (by omega)] at hi
      rw [uw_m (by omega)]
      by_cases q2 : i = a
      · subst q2
        rw [List.getElem?_set_self hil] at hi
        cases hi
        exact uw_s
      · rw [List.getElem?_set_ne (by omega)] at hi
        rw [uw_m (by omega)]
        exact s3 i z hi
  · simp only [if_neg e]
    refine ⟨by rw [e235]; exact s1, s2, fun i z hi => ?_⟩
    have hil := (List.getElem?_eq_some_iff.mp hi).1
    rw [e5, e4, uw_m (by omega), uw_m (by omega)]
    exact s3 i z hi
/-- genus -/
noncomputable def genI (V : Nat) (es : gE) (R : Nat → List Nat) : Int32 := (nI 2 * nI (ccm V es) - nI (cnt (lonB es) V) - nI V + nI es.length - nI (stF (nxD es R) (2 * es.length)).2.length) / nI 2
theorem rf_genusNo (h9 : W 229 9 = 0) (h : Q (some (.int (-1))) W) : fl_cal (d + 5) 170 [.ref 229] W Q := sx_170 W ⟨fun _ => h, fun z => absurd h9 z⟩
theorem rf_genus (h9 : W 229 9 ≠ 0) (hT : TOK es R) (hG : RfG W V es) (hR : RT W V R) (h : ∀ W', EqF [22, 41] (232 :: 255 :: foL) W W' → Q (some (.int (genI V es R))) W') : fl_cal (d + 5) 170 [.ref 229] W Q := by
  refine sx_170 W ⟨fun z => absurd z h9, fun _ => rf_makeFaces hT hG hR fun W1 k1 k2 k3 => ?_⟩
  have f1 : EqF [22, 41] (232 :: 255 :: foL) W W1 := k3.mono (by decide) (by decide)
  have hG1 := hG.fr f1 (by decide) (by decide) (by decide) (by decide)
  refine rf_all hG1 fun W2 m1 m2 => ?_
  have f2 : EqF [22, 41] (232 :: 255 :: foL) W W2 := f1.tr (m2.mono (by decide) (by decide))
  have hG2 := hG.fr f2 (by decide) (by decide) (by decide) (by decide)
  refine rf_forest (P := fun _ => true) hG2 (fun i hi => by rw [m1 i hi]; rfl) fun W3 far par rt n1 n2 => ?_
  have f3 : EqF [22, 41] (232 :: 255 :: foL) W W3 := f2.tr (n2.mono (by decide) (by decide))
  have hG3 := hG.fr f3 (by decide) (by decide) (by decide) (by decide)
  refine rf_lonely hG3 ?_
  unfold RFR at n1
  rw [prs_true] at n1
  have := h W3 f3
  show Q (some (.int ((((((Int32.ofInt 2) * (W3 229 22)) - nI (cnt (lonB es) V)) - (W3 229 0)) + (W3 229 1) - (W3 229 41)) / (Int32.ofInt 2)))) W3
  rw [n1.2.1, ccm_eq ⟨far, par, rt, n1.1, rfl⟩, hG3.2.2.2.1, hG3.2.2.2.2.1, n2.2 41 (by decide), m2.2 41 (by decide), k2]
  exact this
/-- colourOf -/
theorem rf_colourOf {v : Int32} (hG : RfG W V es) (h0 : W 229 17 = 0 → Q (some (.int (-1))) W) (hy : W 229 17 ≠ 0 → Q (some (.int (if ixB v V then W 240 v.toNatClampNeg else -1))) W) : fl_cal (d + 3) 190 [.ref 229, .int v] W Q := by
  have hV := hG.1
  refine sx_190 _ W ⟨h0, fun z => rf_isV hG ?_⟩
  have := hy z
  cases hx : ixB v V with
  | false => rw [hx] at this; exact ⟨fun _ => this, fun z => absurd rfl z⟩
  | true =>
    obtain ⟨u, hu, rfl⟩ := ixB_ex (by omega) hx
    rw [hx] at this
    exact ⟨fun z => absurd z (by decide), fun _ => ⟨in_N (by omega) (by omega), this⟩⟩
end RTA
