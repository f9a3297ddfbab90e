/-! ===== PlaneDesk of the class: its calls ===== -/
section DKB
variable {d : Nat} {Q : fl_R} {W W' : fl_W} {V : Nat} {es : gE} {T D : Option tuR} {K C : Bool} {R : tuR}
theorem tur_len (h : TurR W 18 R) : ∀ v, v < 20 → (R v).length ≤ 20 := fun v hv => by
  have := (h v hv).2.1
  rw [((fl_tur_all 18 (by decide) rfl).2.2 v hv).2, nL_len] at this
  exact this
/-- layOut -/
theorem pd_layOut (hC : CK W V es T K D C) (hy : ∀ W' R, layG V es = some R → PL V es → CK W' V es (some R) K D C → Hi W W' → Q (some (.int 1)) W') (h0 : ∀ W', layG V es = none → CK W' V es T K D C → Hi W W' → Q (some (.int 0)) W') : fl_cal (d + 7) 117 [.ref 0] W Q := by
  have hV := hC.1.1.1
  have hO := hC.1.1.2.2.1
  have go : fl_cal (d + 6) 27 [.ref 9, .ref 1] W (fl_q1 fun x1 W1 => mi_br (x1 = 0) (∀ W2 : fl_W, W2 = fl_uw W1 0 12 (Int32.ofInt 0) → mi_br (x1 = 0) ((x1 = 0 ∨ x1 = 1) ∧ Q (some (.int x1)) W2) (fl_cal (d + 6) 85 [.ref 160, .ref 18] W2 (fl_q0 fun W3 => fl_cal (d + 6) 91 [.ref 202, .ref 1, .ref 160] W3 (fl_q0 fun W4 => ∀ W5 : fl_W, W5 = fl_uw W4 0 8 (Int32.ofInt 1) → (x1 = 0 ∨ x1 = 1) ∧ Q (some (.int x1)) W5)))) (∀ W6 : fl_W, W6 = fl_uw W1 0 12 (Int32.ofInt 1) → mi_br (x1 = 0) ((x1 = 0 ∨ x1 = 1) ∧ Q (some (.int x1)) W6) (fl_cal (d + 6) 85 [.ref 160, .ref 18] W6 (fl_q0 fun W7 => fl_cal (d + 6) 91 [.ref 202, .ref 1, .ref 160] W7 (fl_q0 fun W8 => ∀ W9 : fl_W, W9 = fl_uw W8 0 8 (Int32.ofInt 1) → (x1 = 0 ∨ x1 = 1) ∧ Q (some (.int x1)) W9))))) := by
    refine ly_lays (b := 1) rfl (by decide) (by decide) hC.1.1 (fun W1 R j1 jb j2 j3 => ⟨fun z => absurd z (by decide), fun _ W6 e6 => ⟨fun z => absurd z (by decide), fun _ => ?_⟩⟩) fun W1 j1 j2 => ⟨fun _ W2 e2 => ⟨fun _ => ⟨Or.inl rfl, ?_⟩, fun z => absurd rfl z⟩, fun z => absurd rfl z⟩
    · have hPL : PL V es := ⟨⟨R, j1⟩, jb⟩
      obtain ⟨L, hL⟩ := jb
      have hTok : TOK es R := fun y => layG_ok hV hO hL j1 y
      have f1 : EqC [12] ll W W1 := j3.toC ll_0
      have f6 : EqC [12] ll W W6 := f1.tr (by rw [e6]; exact EqC.uw (by simp))
      have c6 := hC.1.fr f6 (by simp) (by simp) (by simp) (by simp) ll_in
      have t6 : TurR W6 18 R := fun v hv => (j2 v hv).eq (by rw [e6, uw_n (by omega)]) (by rw [e6, uw_n (by omega)])
      refine tur_copy (t := 160) (s := 18) rfl rfl (by decide) t6 (tur_len t6) fun W7 k1 k2 => ?_
      have g7 : ∀ a, ¬ (162 ≤ a ∧ a < 202) → W7 a = W6 a := fun a ha => k2 a fun z => by rw [mem_tl] at z; omega
      have n7 : NetR W7 1 V es := c6.1.eq1 fun a a1 a2 => g7 a (by omega)
      refine wk_find (b := 1) (t := 160) rfl rfl hTok n7 k1 fun W8 m1 m2 W9 e9 => ⟨Or.inr rfl, ?_⟩
      have g8 : ∀ a, ¬ (202 ≤ a ∧ a < 208) → W8 a = W7 a := fun a ha => m2 a fun z => by simp [wkl] at z; omega
      have g9 : ∀ a, a ≠ 0 → W9 a = W8 a := fun a ha => by rw [e9, uw_n ha]
      have z9 : ∀ k, k ≠ 8 → W9 0 k = W6 0 k := fun k hk => by rw [e9, uw_m hk, g8 0 (by omega), g7 0 (by omega)]
      have q9 : ∀ a, a ≠ 0 → ¬ (162 ≤ a ∧ a < 208) → W9 a = W6 a := fun a a1 a2 => by rw [g9 a a1, g8 a (by omega), g7 a (by omega)]
      refine hy W9 R j1 hPL ⟨⟨c6.1.eq1 fun a a1 a2 => q9 a (by omega) (by omega), ⟨by rw [e9, uw_s]; rfl, hTok, fun v hv => (k1 v hv).eq (by rw [g9 _ (by omega), g8 _ (by omega)]) (by rw [g9 _ (by omega), g8 _ (by omega)]), ?_⟩, c6.2.2.1.eq (z9 9 (by decide)) fun a a1 a2 => q9 a (by omega) (by omega), c6.2.2.2.1.eq (z9 10 (by decide)) fun a a1 a2 => q9 a (by omega) (by omega), c6.2.2.2.2.eq (z9 11 (by decide)) fun a a1 a2 => q9 a (by omega) (by omega)⟩, Or.inr (Or.inl ⟨?_, hPL⟩)⟩ ((f6.hi ll_lo).tr fun a ha => q9 a (by omega) (by omega))
      · exact ⟨fun x hx => by rw [g9 203 (by decide)]; exact m1.1 x hx, m1.2.1.eq (g9 _ (by decide)) (g9 _ (by decide)), by rw [g9 202 (by decide)]; exact m1.2.2⟩
      · rw [z9 12 (by decide), e6, uw_s]; rfl
    · have f1 : EqC [12] ll W W1 := j2.toC ll_0
      have f2 : EqC [12] ll W W2 := f1.tr (by rw [e2]; exact EqC.uw (by simp))
      exact h0 W2 j1 ⟨hC.1.fr f2 (by simp) (by simp) (by simp) (by simp) ll_in, Or.inr (Or.inr ⟨by rw [e2, uw_s]; rfl, j1⟩)⟩ (f2.hi ll_lo)
  refine sx_117 W ⟨fun z => ?_, fun _ => go⟩
  rcases hC.2 with hF | ⟨hF, hP⟩ | ⟨hF, hP⟩
  · rw [hF] at z; exact absurd z (by decide)
  · rw [hF] at z; exact absurd z (by decide)
  · exact h0 W hP hC Hi.rf
/-! turn, swap -/
theorem tok_out (hO : okE V es) (hT : TOK es R) {v : Nat} (hv : V ≤ v) : R v = [] := by
  cases h : R v with
  | nil => rfl
  | cons x l =>
    have : adj es v x = true := ((hT v).2 x).mp (by rw [h]; exact List.mem_cons_self)
    have := (adj_lt hO this).1
    omega
theorem getI_nil {i : Int32} : getI [] i = -1 := by
  unfold getI
  split <;> simp
theorem pd_turnNo {v i : Int32} (hC : CK W V es none K D C) (h : Q (some (.int (-1))) W) : fl_cal (d + 3) 103 [.ref 0, .int v, .int i] W Q := sx_103 _ _ W ⟨fun _ => h, fun z => absurd hC.1.2.1 z⟩
theorem pd_turn {v i : Int32} (hC : CK W V es (some R) K D C) (h : Q (some (.int (if ixB v V then getI (nL (R v.toNatClampNeg)) i else -1))) W) : fl_cal (d + 3) 103 [.ref 0, .int v, .int i] W Q := by
  have hV := hC.1.1.1
  have hO := hC.1.1.2.2.1
  obtain ⟨a1, a2, a3, a4⟩ := hC.1.2.1
  refine sx_103 _ _ W ⟨fun z => absurd (a1.symm.trans z) (by decide), fun _ => tur_nb (t := 160) rfl a3 ?_⟩
  show Q (some (.int (if ixB v 20 then getI (nL (R v.toNatClampNeg)) i else -1))) W
  cases hx : ixB v V with
  | true =>
    obtain ⟨u, hu, rfl⟩ := ixB_ex (by omega) hx
    rw [hx] at h
    rw [ixB_N (by omega), decide_eq_true (by omega)]
    exact h
  | false =>
    rw [hx] at h
    cases hy : ixB v 20 with
    | false => exact h
    | true =>
      obtain ⟨u, hu, rfl⟩ := ixB_ex (by omega) hy
      rw [ixB_N (by omega), decide_eq_false_iff_not] at hx
      rw [nI_clamp (by omega), tok_out hO a2 (by omega)]
      simp only [if_true]
      rw [show nL [] = [] from rfl, getI_nil]
      exact h
theorem pd_swapNo {v i k : Int32} (hC : CK W V es T K D C) (hn : ∀ R, T = some R → ixB v V = false ∨ ixB i (R v.toNatClampNeg).length = false ∨ ixB k (R v.toNatClampNeg).length = false) (h : Q (some (.int 0)) W) : fl_cal (d + 5) 104 [.ref 0, .int v, .int i, .int k] W Q := by
  have hV := hC.1.1.1
  have hO := hC.1.1.2.2.1
  cases T with
  | none => exact sx_104 _ _ _ W ⟨fun _ => h, fun z => absurd hC.1.2.1 z⟩
  | some R =>
    obtain ⟨a1, a2, a3, a4⟩ := hC.1.2.1
    refine sx_104 _ _ _ W ⟨fun z => absurd (a1.symm.trans z) (by decide), fun _ => tur_exNo (t := 160) rfl a3 ?_ ⟨fun _ => h, fun z => absurd rfl z⟩⟩
    cases hy : ixB v 20 with
    | false => exact Or.inl rfl
    | true =>
      obtain ⟨u, hu, rfl⟩ := ixB_ex (by omega) hy
      refine Or.inr fun z => ?_
      have hz1 := ixB_iff.mpr z.1
      have hz2 := ixB_iff.mpr z.2
      rcases hn R rfl with q | q | q
      · rw [ixB_N (by omega), decide_eq_false_iff_not] at q
        rw [nI_clamp (by omega), tok_out hO a2 (by omega)] at hz1
        obtain ⟨x, hx, -⟩ := ixB_ex (by decide) hz1
        simp at hx
      · rw [q] at hz1; cases hz1
      · rw [q] at hz2; cases hz2
theorem tok_swap {v a c x y : Nat} (hT : TOK es R) (ha : (R v)[a]? = some x) (hc : (R v)[c]? = some y) : TOK es (fun u => if u = v then ((R v).set a y).set c x else R u) := fun u => by
  by_cases e : u = v
  · subst e
    obtain ⟨la, ea⟩ := List.getElem?_eq_some_iff.mp ha
    obtain ⟨lc, ec⟩ := List.getElem?_eq_some_iff.mp hc
    have hp : (((R u).set a y).set c x).Perm (R u) := by
      have := List.set_set_perm (as := R u) (i := a) (j := c) la lc
      rw [ea, ec] at this
      exact this
    simp only [if_true]
    exact ⟨hp.nodup_iff.mpr (hT u).1, fun z => by rw [hp.mem_iff]; exact (hT u).2 z⟩
  · simp only [if_neg e]; exact hT u
theorem pd_swap {v a c x y : Nat} (hC : CK W V es (some R) K D C) (hv : v < V) (ha : (R v)[a]? = some x) (hc : (R v)[c]? = some y) (h : ∀ W', CK W' V es (some fun u => if u = v then ((R v).set a y).set c x else R u) K D C → Hi W W' → Q (some (.int 1)) W') : fl_cal (d + 5) 104 [.ref 0, .int (nI v), .int (nI a), .int (nI c)] W Q := by
  have hV := hC.1.1.1
  obtain ⟨a1, a2, a3, a4⟩ := hC.1.2.1
  refine sx_104 _ _ _ W ⟨fun z => absurd (a1.symm.trans z) (by decide), fun _ => tur_ex (t := 160) rfl a3 (by omega) ha hc fun W1 k1 k2 => ⟨fun z => absurd z (by decide), fun _ => ?_⟩⟩
  have hTok := tok_swap a2 ha hc
  have g1 : ∀ b, ¬ (162 ≤ b ∧ b < 202) → W1 b = W b := fun b hb => k2 b fun z => by rw [mem_tl] at z; omega
  refine wk_find (b := 1) (t := 160) rfl rfl hTok (hC.1.1.eq1 fun b b1 b2 => g1 b (by omega)) k1 fun W2 m1 m2 => ?_
  have g2 : ∀ b, ¬ (202 ≤ b ∧ b < 208) → W2 b = W1 b := fun b hb => m2 b fun z => by simp [wkl] at z; omega
  have q2 : ∀ b, ¬ (162 ≤ b ∧ b < 208) → W2 b = W b := fun b b2 => by rw [g2 b (by omega), g1 b (by omega)]
  have z2 : ∀ k, W2 0 k = W 0 k := fun k => by rw [q2 0 (by omega)]
  exact h W2 ⟨⟨hC.1.1.eq1 fun b b1 b2 => q2 b (by omega), ⟨(z2 8).trans a1, hTok, fun u hu => (k1 u hu).eq (g2 _ (by omega)) (g2 _ (by omega)), m1⟩, hC.1.2.2.1.eq (z2 9) fun b b1 b2 => q2 b (by omega), hC.1.2.2.2.1.eq (z2 10) fun b b1 b2 => q2 b (by omega), hC.1.2.2.2.2.eq (z2 11) fun b b1 b2 => q2 b (by omega)⟩, hC.2.eq (z2 12)⟩ fun b hb => q2 b (by omega)
/-! faces, face, genus -/
theorem pd_facesNo (hC : CK W V es none K D C) (h : Q (some (.int (-1))) W) : fl_cal (d + 1) 105 [.ref 0] W Q := sx_105 W ⟨fun _ => h, fun z => absurd hC.1.2.1 z⟩
theorem pd_faces (hC : CK W V es (some R) K D C) (h : Q (some (.int (nI (stF (nxD es R) (2 * es.length)).2.length))) W) : fl_cal (d + 1) 105 [.ref 0] W Q := by
  obtain ⟨a1, a2, a3, a4⟩ := hC.1.2.1
  refine sx_105 W ⟨fun z => absurd (a1.symm.trans z) (by decide), fun _ => ?_⟩
  rw [a4.2.2]; exact h
theorem pd_faceNo {f i : Int32} (hC : CK W V es none K D C) (h : Q (some (.int (-1))) W) : fl_cal (d + 5) 106 [.ref 0, .int f, .int i] W Q := sx_106 _ _ W ⟨fun _ => h, fun z => absurd hC.1.2.1 z⟩
theorem pd_face {f i : Int32} (hC : CK W V es (some R) K D C) (h : Q (some (.int (faceI es R f i))) W) : fl_cal (d + 5) 106 [.ref 0, .int f, .int i] W Q := by
  obtain ⟨a1, a2, a3, a4⟩ := hC.1.2.1
  exact sx_106 _ _ W ⟨fun z => absurd (a1.symm.trans z) (by decide), fun _ => wk_beg (b := 1) rfl a2 hC.1.1 a4 h⟩
theorem pd_genusNo (hC : CK W V es none K D C) (h : Q (some (.int (-1))) W) : fl_cal (d + 5) 107 [.ref 0] W Q := sx_107 W ⟨fun _ => h, fun z => absurd hC.1.2.1 z⟩
theorem pd_genus (hC : CK W V es (some R) K D C) (h : ∀ W', CK W' V es (some R) K D C → Hi W W' → Q (some (.int (genI V es R))) W') : fl_cal (d + 5) 107 [.ref 0] W Q := by
  obtain ⟨a1, a2, a3, a4⟩ := hC.1.2.1
  refine sx_107 W ⟨fun z => absurd (a1.symm.trans z) (by decide), fun _ => bl_find (b := 1) rfl hC.1.1 fun W1 k1 k2 => ?_⟩
  have hC1 := hC.fr (k2.toC (fs := []) (by decide)) (by simp) (by simp) (by simp) (by simp) (by simp) bll_in
  refine net_lon (b := 1) rfl hC1.1.1 ?_
  obtain ⟨L, c, b1, b2, b3, b4, b5⟩ := k1
  have := h W1 hC1 (k2.hi bll_lo)
  unfold genI at this
  show Q (some (.int ((((((Int32.ofInt 2) * (W1 10 7)) - nI (cnt (lonB es) V)) - (W1 1 3)) + (W1 1 4) - (W1 202 4)) / (Int32.ofInt 2)))) W1
  rw [b3, ccm_eq b2, hC1.1.1.2.2.2.1, hC1.1.1.2.2.2.2.1, hC1.1.2.1.2.2.2.2.2, ci_2]
  exact this
/-! knot -/
theorem pd_knotNo {w : Int32} (hC : CK W V es T false D C) (h : Q (some (.int (-1))) W) : fl_cal (d + 3) 108 [.ref 0, .int w] W Q := sx_108 _ W ⟨fun _ => h, fun z => absurd hC.1.2.2.1 z⟩
theorem pd_knot {w : Int32} (hC : CK W V es T true D C) (h : Q (some (.int (kntI (knL V es) (brL V (knE V es)) w))) W) : fl_cal (d + 3) 108 [.ref 0, .int w] W Q := by
  obtain ⟨a1, a2, a3⟩ := hC.1.2.2.1
  have hV := hC.1.1.1
  have hbl : (brL V (knE V es)).length ≤ V := by
    have := List.length_filter_le (fun u => decide (3 ≤ cnt (adj (knE V es) u) 20)) (List.range V)
    rwa [List.length_range] at this
  unfold kntI at h
  refine sx_108 _ W ⟨fun z => absurd (a1.symm.trans z) (by decide), fun _ => ⟨fun z => row_size (r := 209) rfl a2 ?_, fun z => sx_82 W (row_size (r := 211) rfl a3 ?_), fun z => row_size (r := 211) rfl a3 ?_, fun z => ⟨fun q => row_get (r := 209) rfl a2 ?_, fun q => row_get (r := 211) rfl a3 ?_⟩⟩⟩
  · subst z
    rw [nL_len]; exact h
  · subst z
    rw [nL_len, ci_5]
    rw [if_neg (by decide), if_pos (by decide)] at h
    refine ⟨fun q => ?_, fun q => ?_⟩
    · rw [nI_eq (by omega) (by omega)] at q
      rw [if_pos q] at h; exact h
    · rw [nI_eq (by omega) (by omega)] at q
      rw [if_neg q] at h; exact h
  · subst z
    rw [nL_len]; exact h
  · rw [if_neg (show ¬ w = 0 from z.1), if_neg (show ¬ w = nI 1 from z.2.1), if_neg (show ¬ w = nI 2 from z.2.2), if_pos (show w < nI 200 from q)] at h
    exact h
  · rw [if_neg (show ¬ w = 0 from z.1), if_neg (show ¬ w = nI 1 from z.2.1), if_neg (show ¬ w = nI 2 from z.2.2), if_neg (show ¬ w < nI 200 from q)] at h
    exact h
/-! may -/
theorem pd_may {u v : Int32} (hC : CK W V es T K D C) (h : ∀ W', CK W' V es T K D C → Hi W W' → Q (some (.int (mayI V es u v))) W') : fl_cal (d + 8) 109 [.ref 0, .int u, .int v] W Q := by
  have hV := hC.1.1.1
  refine sx_109 _ _ W (net_takes (b := 1) rfl hC.1.1 ?_)
  unfold mayI at h
  cases ht : tkB V es u v with
  | false =>
    have := h W hC Hi.rf
    rw [ht, if_neg (fun z => by cases z.1)] at this
    exact ⟨fun _ => this, fun z => absurd rfl z⟩
  | true =>
    rw [ht] at h
    refine ⟨fun z => absurd z (by decide), fun _ => pd_fits hC fun W1 hpl k1 k2 => ?_⟩
    cases hs : (layG V es).isSome with
    | false =>
      have := h W1 k1 k2
      rw [hs, if_neg (fun z => by cases z.2)] at this
      exact ⟨fun _ => this, fun z => absurd rfl z⟩
    | true =>
      rw [hs] at h
      refine ⟨fun z => absurd z (by decide), fun _ => net_copy (b := 5) (b2 := 1) rfl rfl (by decide) k1.1.1 fun W2 m1 m2 => ?_⟩
      have hx : ixB u V = true ∧ ixB v V = true := by
        unfold tkB at ht
        simp only [Bool.and_eq_true] at ht
        exact ⟨ht.1.1.1.1, ht.1.1.1.2⟩
      obtain ⟨a, ha, rfl⟩ := ixB_ex (by omega) hx.1
      obtain ⟨c, hc, rfl⟩ := ixB_ex (by omega) hx.2
      rw [tkB_N (by omega) (by omega)] at ht
      simp only [Bool.and_eq_true, decide_eq_true_eq, Bool.not_eq_true'] at ht
      obtain ⟨⟨⟨-, hne⟩, hna⟩, hl⟩ := ht
      rw [nI_clamp (by omega), nI_clamp (by omega), if_pos ⟨rfl, rfl⟩] at h
      refine net_add (b := 5) rfl m1 ha hc hne hna hl fun W3 n1 n2 => ?_
      have f3 : EqC [] (5 :: 6 :: 7 :: 8 :: ll) W1 W3 := ((m2.toC (fs := []) (by decide)).tr (n2.toC (by decide))).mono (by simp) (fun a ha => by simp [nl] at ha; simp; omega)
      have in5 : ∀ a ∈ 5 :: 6 :: 7 :: 8 :: ll, 5 ≤ a ∧ a < 160 := fun a ha => by simp [mem_ll] at ha; omega
      refine ly_lays (b := 5) rfl (by decide) (by decide) n1 (fun W4 R' j1 jb j2 j3 => ⟨fun z => absurd z (by decide), fun _ => ?_⟩) fun W4 j1 j2 => ⟨fun _ => ?_, fun z => absurd rfl z⟩
      · have f4 := f3.tr ((j3.toC (fs := []) ll_0).mono (by simp) (fun a ha => by simp [ha]))
        have := h W4 (k1.fr f4 (by simp) (by simp) (by simp) (by simp) (by simp) in5) (k2.tr (f4.hi fun a ha => by have := in5 a ha; omega))
        rw [j1] at this; exact this
      · have f4 := f3.tr ((j2.toC (fs := []) ll_0).mono (by simp) (fun a ha => by simp [ha]))
        have := h W4 (k1.fr f4 (by simp) (by simp) (by simp) (by simp) (by simp) in5) (k2.tr (f4.hi fun a ha => by have := in5 a ha; omega))
        rw [j1] at this; exact this
end DKB
