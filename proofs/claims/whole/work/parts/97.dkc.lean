/-! ===== PlaneDesk of the class: fill, draw, at, colour ===== -/
theorem addF_pre {V : Nat} {es : gE} {u v : Nat} : es <+: addF V es u v := by
  unfold addF
  split
  · exact List.prefix_refl _
  · split
    · exact List.prefix_append _ _
    · exact List.prefix_refl _
theorem flV_pre {V u : Nat} : ∀ (n v : Nat) (es : gE), es <+: flV V u n v es
  | 0, _, _ => List.prefix_refl _
  | n + 1, v, es => addF_pre.trans (flV_pre n (v + 1) _)
theorem flU_pre {V : Nat} : ∀ (n u : Nat) (es : gE), es <+: flU V n u es
  | 0, _, _ => List.prefix_refl _
  | n + 1, u, es => (flV_pre _ _ _).trans (flU_pre n (u + 1) _)
theorem flU_same {V n u : Nat} {es : gE} (h : (flU V n u es).length = es.length) : flU V n u es = es := ((flU_pre n u es).eq_of_length h.symm).symm
theorem colF_some {es : gE} : ∀ (l : List Nat) (col : Nat → Option Nat) (m u : Nat), (u ∈ l ∨ (col u).isSome = true) → ((colF es l col m).1 u).isSome = true
  | [], col, m, u, h => h.elim (fun z => absurd z List.not_mem_nil) id
  | v :: l, col, m, u, h => by
    rw [colF]
    refine colF_some l _ _ u ?_
    by_cases e : u = v
    · right; simp [e]
    · rcases h with h | h
      · exact Or.inl ((List.mem_cons.mp h).resolve_left e)
      · right; simp only [if_neg e]; exact h
theorem clR_some {es : gE} {V u : Nat} (hu : u < V) : ((clR es V).1 u).isSome = true := by
  obtain ⟨s1, s2, s3, s4, -⟩ := tkn_sp (es := es) (V := V) V (Nat.le_refl _)
  refine colF_some _ _ _ u (Or.inl (List.mem_reverse.mpr ?_))
  have : ∀ x, x ∈ List.range V → x ∈ (tkn es V V).1 := by
    intro x hx
    exact nd_sub_all s2 (fun a ha => List.mem_range.mpr (s3 a ha)) (by rw [s1, List.length_range]; exact Nat.le_refl _) x hx
  exact this u (List.mem_range.mpr hu)
section DKC
variable {d : Nat} {Q : fl_R} {W W' : fl_W} {V : Nat} {es : gE} {T D : Option tuR} {K C : Bool} {R : tuR}
def fiL : List Nat := 1 :: 2 :: 3 :: 4 :: ll
theorem fiL_lo : ∀ a ∈ fiL, a < 160 := fun a ha => by simp [fiL, mem_ll] at ha; omega
theorem fiL_0 : 0 ∉ fiL := by simp [fiL, mem_ll]
theorem nl_fi : ∀ a ∈ nl 1, a ∈ fiL := fun a ha => by simp [nl] at ha; simp [fiL]; omega
theorem ll_fi : ∀ a ∈ ll, a ∈ fiL := fun a ha => by simp [fiL, ha]
theorem full_iff (hV : V ≤ 20) : (decide (3 ≤ V ∧ es.length = 3 * V - 6)) = decide (3 ≤ V ∧ es.length + 6 = 3 * V) := by
  rw [decide_eq_decide]; omega
/-- addIfItFits -/
theorem pd_addIf {u v : Nat} (hu : u < V) (hv : v < V) (huv : u ≠ v) (hN : NetR W 1 V es) (hP : PL V es) (h : ∀ W', NetR W' 1 V (addF V es u v) → PL V (addF V es u v) → EqX fiL W W' → Q none W') : fl_cal (d + 7) 118 [.ref 0, .int (nI u), .int (nI v)] W Q := by
  have hV := hN.1
  have hO := hN.2.2.1
  obtain ⟨hl, hb⟩ := pl_len hV hO hP
  have same : addF V es u v = es → ∀ W1, NetR W1 1 V es → EqX fiL W W1 → Q none W1 := fun e W1 g1 f1 => h W1 (by rw [e]; exact g1) (by rw [e]; exact hP) f1
  refine sx_118 _ _ W (net_full (b := 1) rfl hN ?_)
  rw [full_iff hV]
  by_cases hf : 3 ≤ V ∧ es.length + 6 = 3 * V
  · rw [decide_eq_true hf]
    refine ⟨fun z => absurd z (by decide), fun _ => same ?_ W hN EqX.rf⟩
    unfold addF
    rw [if_pos (Or.inr hf)]
  · rw [decide_eq_false hf]
    refine ⟨fun _ => net_takes (b := 1) rfl hN ?_, fun z => absurd rfl z⟩
    rw [tkB_N (by omega) (by omega), decide_eq_true hu, decide_eq_true hv, decide_eq_true huv, decide_eq_true hl]
    cases ha : adj es u v with
    | true =>
      refine ⟨fun _ => same ?_ W hN EqX.rf, fun z => absurd rfl z⟩
      unfold addF
      rw [if_pos (Or.inl ha)]
    | false =>
      have he : addF V es u v = if (layG V (es ++ [(min u v, max u v)])).isSome = true then es ++ [(min u v, max u v)] else es := by
        unfold addF
        rw [if_neg (fun z => z.elim (fun q => by rw [ha] at q; cases q) hf)]
      refine ⟨fun z => absurd z (by decide), fun _ => net_add (b := 1) rfl hN hu hv huv ha hl fun W1 k1 k2 => ?_⟩
      have f1 : EqX fiL W W1 := k2.mono nl_fi
      refine ly_lays (b := 1) rfl (by decide) (by decide) k1 (fun W2 R j1 jb j2 j3 => ⟨fun z => absurd z (by decide), fun _ => ?_⟩) fun W2 j1 j2 => ⟨fun _ => ?_, fun z => absurd rfl z⟩
      · have e2 : addF V es u v = es ++ [(min u v, max u v)] := by rw [he, if_pos (by rw [j1]; rfl)]
        refine h W2 ?_ ?_ (f1.tr (j3.mono ll_fi))
        · rw [e2]; exact k1.fr j3 (net_ll rfl (by decide) (by decide))
        · rw [e2]; exact ⟨⟨R, j1⟩, jb⟩
      · have e2 : addF V es u v = es := by rw [he, if_neg (by rw [j1]; exact Bool.false_ne_true)]
        have n2 := k1.fr j2 (net_ll (b := 1) rfl (by decide) (by decide))
        rw [n2.2.2.2.2.1, List.length_append, List.length_singleton, nI_sub1 (by omega), Nat.add_sub_cancel]
        refine net_rem (b := 1) rfl n2 (p := (min u v, max u v)) (by simp) fun W3 m1 m2 => same e2 W3 ?_ ((f1.tr (j2.mono ll_fi)).tr (m2.mono nl_fi))
        rw [List.eraseIdx_append_of_length_le (Nat.le_refl _), Nat.sub_self] at m1
        simpa using m1
theorem pd_fl_v {u : Nat} {x : Int32} (hu : u < V) : ∀ (n v : Nat) (es : gE) (W : fl_W), V - v = n → u < v → v ≤ V → NetR W 1 V es → PL V es → (∀ W', NetR W' 1 V (flV V u n v es) → PL V (flV V u n v es) → EqX fiL W W' → hd_110_19 (d + 7) Q x (nI (u + 1)) W') → hd_110_34 (d + 7) Q x (nI u) (nI v) W := by
  intro n
  induction n with
  | zero =>
    intro v es W h1 h2 h3 hN hP h
    have hV := hN.1
    refine sx_110_34 _ _ _ W ⟨fun q => absurd q ?_, fun _ => ?_⟩
    · rw [hN.2.2.2.1]; exact nI_nlt (by omega) (by omega)
    · rw [ci_1, nI_add]; exact h W hN hP EqX.rf
  | succ n ih =>
    intro v es W h1 h2 h3 hN hP h
    have hV := hN.1
    rw [flV] at h
    refine sx_110_34 _ _ _ W ⟨fun _ => pd_addIf hu (by omega) (by omega) hN hP fun W1 g1 p1 f1 => ?_, fun q => absurd ?_ q⟩
    · rw [ci_1, nI_add]
      exact ih (v + 1) _ W1 (by omega) (by omega) (by omega) g1 p1 fun W' m1 m2 m3 => h W' m1 m2 (f1.tr m3)
    · rw [hN.2.2.2.1]; exact nI_lt (by omega) (by omega)
theorem pd_fl_u {m : Nat} {x : Int32} (hx : x = nI m) (hm : m < 60) : ∀ (n u : Nat) (es : gE) (W : fl_W), V - u = n → u ≤ V → m ≤ es.length → NetR W 1 V es → PL V es → (∀ W', PL V (flU V n u es) → ((flU V n u es).length > m → CK W' V (flU V n u es) none false none false) → ((flU V n u es).length = m → NetR W' 1 V (flU V n u es) ∧ EqX fiL W W') → Hi W W' → Q (some (.int (nI ((flU V n u es).length - m)))) W') → hd_110_19 (d + 7) Q x (nI u) W := by
  intro n
  induction n with
  | zero =>
    intro u es W h1 h2 hm2 hN hP h
    have hV := hN.1
    obtain ⟨hl, hb⟩ := pl_len hV hN.2.2.1 hP
    refine sx_110_19 _ _ W ⟨fun q => absurd q ?_, fun _ => ?_⟩
    · rw [hN.2.2.2.1]; exact nI_nlt (by omega) (by omega)
    · rw [hN.2.2.2.2.1, hx, nI_subN hm2]
      rw [flU] at h
      refine ⟨fun z => ?_, fun z => pd_forget fun W1 a1 a2 a3 a4 a5 f1 W3 e3 => ?_⟩
      · have z : nI (es.length - m) ≤ nI 0 := z
        rw [nI_leI (by omega) (by omega)] at z
        exact h W hP (fun q => by omega) (fun _ => ⟨hN, EqX.rf⟩) Hi.rf
      · have z : ¬ nI (es.length - m) ≤ nI 0 := z
        rw [nI_leI (by omega) (by omega)] at z
        have c1 := ck_new (hN.eq1 fun a b1 b2 => f1.1 a (by omega) (by simp)) a1 a2 a3 a4 a5
        have f3 : EqC [12] [] W1 W3 := by rw [e3]; exact EqC.uw (by simp)
        exact h W3 hP (fun _ => ⟨c1.1.fr f3 (by simp) (by simp) (by simp) (by simp) (by simp), Or.inr (Or.inl ⟨by rw [e3, uw_s]; rfl, hP⟩)⟩) (fun q => by omega) ((f1.hi (by simp)).tr (f3.hi (by simp)))
  | succ n ih =>
    intro u es W h1 h2 hm2 hN hP h
    have hV := hN.1
    refine sx_110_19 _ _ W ⟨fun _ => ?_, fun q => absurd ?_ q⟩
    · rw [ci_1, nI_add]
      refine pd_fl_v (by omega) (V - (u + 1)) (u + 1) es W rfl (by omega) (by omega) hN hP fun W1 g1 p1 f1 => ?_
      exact ih (u + 1) _ W1 (by omega) (by omega) (Nat.le_trans hm2 (flV_len _ _ _)) g1 p1 fun W' m2 m3 m4 m5 => h W' m2 m3 (fun q => ⟨(m4 q).1, f1.tr (m4 q).2⟩) ((f1.hi fun a ha => by have := fiL_lo a ha; omega).tr m5)
    · rw [hN.2.2.2.1]; exact nI_lt (by omega) (by omega)
/-- fill -/
theorem pd_fill (hC : CK W V es T K D C) (h0 : ∀ W', layG V es = none → CK W' V es T K D C → Hi W W' → Q (some (.int (-1))) W')
    (hy : ∀ W', PL V es → PL V (flU V V 0 es) → ((flU V V 0 es).length > es.length → CK W' V (flU V V 0 es) none false none false) → ((flU V V 0 es).length = es.length → CK W' V es T K D C) → Hi W W' → Q (some (.int (nI ((flU V V 0 es).length - es.length)))) W') : fl_cal (d + 8) 110 [.ref 0] W Q := by
  have hV := hC.1.1.1
  refine sx_110 W (pd_fits hC fun W1 hpl k1 k2 => ?_)
  cases hs : (layG V es).isSome with
  | false => exact ⟨fun _ => h0 W1 (by simpa using hs) k1 k2, fun z => absurd rfl z⟩
  | true =>
    have hP := hpl hs
    obtain ⟨hl, hb⟩ := pl_len hV k1.1.1.2.2.1 hP
    refine ⟨fun z => absurd z (by decide), fun _ => ?_⟩
    rw [ci_0]
    refine pd_fl_u k1.1.1.2.2.2.2.1 hl V 0 es W1 (by omega) (Nat.zero_le _) (Nat.le_refl _) k1.1.1 hP fun W' m2 m3 m4 m5 => hy W' hP m2 m3 (fun q => ?_) (k2.tr m5)
    obtain ⟨n1, n2⟩ := m4 q
    rw [flU_same q] at n1
    have g : ∀ a, 160 ≤ a ∨ a = 0 → W' a = W1 a := fun a ha => n2 a fun z => by
      have h1 := fiL_lo a z
      rcases ha with ha | ha
      · omega
      · rw [ha] at z; exact fiL_0 z
    have z0 : ∀ k, W' 0 k = W1 0 k := fun k => by rw [g 0 (Or.inr rfl)]
    exact ⟨⟨n1, k1.1.2.1.eq (z0 8) fun a a1 a2 => g a (Or.inl (by omega)), k1.1.2.2.1.eq (z0 9) fun a a1 a2 => g a (Or.inl (by omega)), k1.1.2.2.2.1.eq (z0 10) fun a a1 a2 => g a (Or.inl (by omega)), k1.1.2.2.2.2.eq (z0 11) fun a a1 a2 => g a (Or.inl (by omega))⟩, k1.2.eq (z0 12)⟩
/-- draw -/
theorem pd_draw (hC : CK W V es T K D C)
    (h0 : ∀ W', (¬ (3 ≤ V ∧ es.length + 6 = 3 * V) ∨ layG V es = none) → CK W' V es T K D C → Hi W W' → Q (some (.int 0)) W')
    (hy : ∀ W' R, 3 ≤ V → es.length + 6 = 3 * V → layG V es = some R → PL V es → CK W' V es (some R) K (some R) C → Hi W W' → Q (some (.int 1)) W') : fl_cal (d + 8) 111 [.ref 0] W Q := by
  have hV := hC.1.1.1
  have hO := hC.1.1.2.2.1
  refine sx_111 W (net_full (b := 1) rfl hC.1.1 ?_)
  rw [full_iff hV]
  by_cases hf : 3 ≤ V ∧ es.length + 6 = 3 * V
  · rw [decide_eq_true hf]
    refine ⟨fun z => absurd z (by decide), fun _ => pd_layOut hC (fun W1 R j1 jp j2 j3 => ⟨fun z => absurd z (by decide), fun _ => ?_⟩) fun W1 j1 j2 j3 => ⟨fun _ => h0 W1 (Or.inr j1) j2 j3, fun z => absurd rfl z⟩⟩
    obtain ⟨L, hL⟩ := jp.2
    obtain ⟨⟨rs, hT⟩, hall⟩ := tg_of hV (by omega) hO hL j1 hf.2
    obtain ⟨-, -, fc⟩ := face0 hT hf.1 hf.2
    obtain ⟨t1, t2, t3, t4⟩ := j2.1.2.1
    refine wk_beg (b := 1) (R := R) rfl t2 j2.1.1 t4 ?_
    rw [show faceI es R (Int32.ofInt 0) (Int32.ofInt 2) = nI (dC es R) from fc]
    refine dr_make (b := 1) (t := 160) rfl rfl hT hall hf.1 hf.2 j2.1.1 t3 fun W2 k1 k2 k3 W5 e5 => ?_
    have g2 : ∀ a, ¬ (213 ≤ a ∧ a < 225) → W2 a = W1 a := fun a ha => k3 a fun z => by simp [drl] at z; omega
    have g5 : ∀ a, a ≠ 0 → W5 a = W2 a := fun a ha => by rw [e5, uw_n ha]
    have q5 : ∀ a, a ≠ 0 → ¬ (213 ≤ a ∧ a < 225) → W5 a = W1 a := fun a a1 a2 => by rw [g5 a a1, g2 a a2]
    have z5 : ∀ k, k ≠ 10 → W5 0 k = W1 0 k := fun k hk => by rw [e5, uw_m hk, g2 0 (by omega)]
    refine hy W5 R hf.1 hf.2 j1 jp ⟨⟨j2.1.1.eq1 fun a a1 a2 => q5 a (by omega) (by omega), j2.1.2.1.eq (z5 8 (by decide)) fun a a1 a2 => q5 a (by omega) (by omega), j2.1.2.2.1.eq (z5 9 (by decide)) fun a a1 a2 => q5 a (by omega) (by omega), ⟨by rw [e5, uw_s]; rfl, k1.eq (g5 _ (by decide)) (g5 _ (by decide)), fun u hu => by rw [g5 214 (by decide), g5 215 (by decide)]; exact k2 u hu⟩, j2.1.2.2.2.2.eq (z5 11 (by decide)) fun a a1 a2 => q5 a (by omega) (by omega)⟩, j2.2.eq (z5 12 (by decide))⟩ (j3.tr fun a ha => q5 a (by omega) (by omega))
  · rw [decide_eq_false hf]
    exact ⟨fun _ => h0 W (Or.inl hf) hC Hi.rf, fun z => absurd rfl z⟩
/-- what at(v, what) answers -/
def atI (V : Nat) (es : gE) (R : tuR) (v w : Int32) : Int32 := if ixB v V then (if w = 0 then (plF (dB es) (dD V es R)).1 v.toNatClampNeg else if w = 1 then (plF (dB es) (dD V es R)).2.1 v.toNatClampNeg else if w = 2 then nI ((ordL V es R).idxOf v.toNatClampNeg) else -1) else -1
theorem pd_atNo {v w : Int32} (hC : CK W V es T K none C) (h : Q (some (.int (-1))) W) : fl_cal (d + 3) 112 [.ref 0, .int v, .int w] W Q := sx_112 _ _ W ⟨fun _ => h, fun z => absurd hC.1.2.2.2.1 z⟩
theorem pd_at {v w : Int32} (hC : CK W V es T K (some R) C) (h3 : 3 ≤ V) (hK : DRK V es R) (h : Q (some (.int (atI V es R v w))) W) : fl_cal (d + 3) 112 [.ref 0, .int v, .int w] W Q := by
  have hV := hC.1.1.1
  obtain ⟨a1, a2, a3⟩ := hC.1.2.2.2.1
  refine sx_112 _ _ W ⟨fun z => absurd (a1.symm.trans z) (by decide), fun _ => net_hasV (b := 1) rfl hC.1.1 ?_⟩
  unfold atI at h
  cases hx : ixB v V with
  | false => rw [hx] at h; exact ⟨fun _ => h, fun z => absurd rfl z⟩
  | true =>
    rw [hx] at h
    simp only [if_true] at h
    obtain ⟨u, hu, rfl⟩ := ixB_ex (by omega) hx
    have iv : vp_in (nI u) 20 := in_N (by omega) (by omega)
    rw [nI_clamp (by omega)] at h
    obtain ⟨o1, o2, o3, o4⟩ := hK.all h3
    refine ⟨fun z => absurd z (by decide), fun _ => ⟨fun z => ⟨iv, ?_⟩, fun z => ⟨iv, ?_⟩, fun z => row_find (r := 217) rfl a2 ?_, fun z => ?_⟩⟩
    · rw [if_pos (show w = 0 from z)] at h
      rw [nI_clamp (by omega), (a3 u hu).1]; exact h
    · subst z
      rw [if_neg (by decide), if_pos (by decide)] at h
      rw [nI_clamp (by omega), (a3 u hu).2]; exact h
    · subst z
      rw [if_neg (by decide), if_neg (by decide), if_pos (by decide)] at h
      rw [fndF_in (by omega) (fun y hy => by have := o3 y hy; omega) (o4 u hu), Nat.zero_add]
      exact h
    · rw [if_neg (show ¬ w = 0 from z.1), if_neg (show ¬ w = 1 from z.2.1), if_neg (show ¬ w = 2 from z.2.2)] at h
      exact h
/-- colour -/
theorem pd_colour (hC : CK W V es T K D C) (h : ∀ W', CK W' V es T K D true → Hi W W' → Q (some (.int (nI (clR es V).2))) W') : fl_cal (d + 5) 113 [.ref 0] W Q := by
  refine sx_113 W fun W1 e1 => ?_
  have g1 : ∀ a, a ≠ 0 → W1 a = W a := fun a ha => by rw [e1, uw_n ha]
  refine co_make (b := 1) rfl (hC.1.1.eq1 fun a a1 a2 => g1 a (by omega)) fun W2 k1 k2 => ?_
  have g2 : ∀ a, ¬ (225 ≤ a ∧ a < 229) → W2 a = W1 a := fun a ha => k2 a fun z => by simp [cll] at z; omega
  have q2 : ∀ a, a ≠ 0 → ¬ (225 ≤ a ∧ a < 229) → W2 a = W a := fun a a1 a2 => by rw [g2 a a2, g1 a a1]
  have z2 : ∀ k, k ≠ 11 → W2 0 k = W 0 k := fun k hk => by rw [g2 0 (by omega), e1, uw_m hk]
  exact h W2 ⟨⟨hC.1.1.eq1 fun a a1 a2 => q2 a (by omega) (by omega), hC.1.2.1.eq (z2 8 (by decide)) fun a a1 a2 => q2 a (by omega) (by omega), hC.1.2.2.1.eq (z2 9 (by decide)) fun a a1 a2 => q2 a (by omega) (by omega), hC.1.2.2.2.1.eq (z2 10 (by decide)) fun a a1 a2 => q2 a (by omega) (by omega), ⟨by rw [g2 0 (by omega), e1, uw_s]; rfl, k1⟩⟩, hC.2.eq (z2 12 (by decide))⟩ fun a ha => q2 a (by omega) (by omega)
theorem pd_colourOf {v : Int32} (hC : CK W V es T K D C) (h : Q (some (.int (if C then (if ixB v V then optI ((clR es V).1 v.toNatClampNeg) else -1) else -1))) W) : fl_cal (d + 3) 114 [.ref 0, .int v] W Q := by
  have hV := hC.1.1.1
  cases C with
  | false => exact sx_114 _ W ⟨fun _ => h, fun z => absurd hC.1.2.2.2.2 z⟩
  | true =>
    obtain ⟨a1, a2⟩ := hC.1.2.2.2.2
    refine sx_114 _ W ⟨fun z => absurd (a1.symm.trans z) (by decide), fun _ => net_hasV (b := 1) rfl hC.1.1 ?_⟩
    cases hx : ixB v V with
    | false => rw [hx] at h; exact ⟨fun _ => h, fun z => absurd rfl z⟩
    | true =>
      rw [hx] at h
      obtain ⟨u, hu, rfl⟩ := ixB_ex (by omega) hx
      obtain ⟨c, hc⟩ := Option.isSome_iff_exists.mp (clR_some (es := es) hu)
      rw [nI_clamp (by omega)] at h
      simp only [if_true, hc] at h
      refine ⟨fun z => absurd z (by decide), fun _ => ⟨in_N (by omega) (by omega), ?_⟩⟩
      rw [nI_clamp (by omega), a2 u c hc]
      exact h
end DKC
