/-! ===== Layout: a block laid ===== -/
theorem s_60 : ∀ a ∈ nl 60, a ∈ lyl := fun a ha => mem_lyl.mpr (by simp [nl] at ha; omega)
theorem s_64 : ∀ a ∈ nl 64, a ∈ lyl := fun a ha => mem_lyl.mpr (by simp [nl] at ha; omega)
theorem s_964 : ∀ a ∈ 9 :: nl 64, a ∈ lyl := fun a ha => mem_lyl.mpr (by simp [nl] at ha; omega)
theorem s_rg : ∀ a ∈ rgl, a ∈ lyl := fun a ha => mem_lyl.mpr (by rw [mem_rgl] at ha; omega)
theorem s_sr : ∀ a ∈ srl, a ∈ lyl := fun a ha => mem_lyl.mpr (by simp [srl] at ha; omega)
theorem s_9 : ∀ a ∈ [9], a ∈ lyl := fun a ha => mem_lyl.mpr (by simp at ha; omega)
theorem d_rg64 : ∀ a ∈ rgl, a ∉ nl 64 := fun a ha hc => by rw [mem_rgl] at ha; simp [nl] at hc; omega
theorem d_rg964 : ∀ a ∈ rgl, a ∉ 9 :: nl 64 := fun a ha hc => by rw [mem_rgl] at ha; simp [nl] at hc; omega
theorem d_rg9 : ∀ a ∈ rgl, a ∉ [9] := fun a ha hc => by rw [mem_rgl] at ha; simp at hc; omega
theorem d_rgsr : ∀ a ∈ rgl, a ∉ srl := fun a ha hc => by rw [mem_rgl] at ha; simp [srl] at hc; omega
theorem d_60rg : ∀ a ∈ nl 60, a ∉ rgl := fun a ha hc => by rw [mem_rgl] at hc; simp [nl] at ha; omega
theorem d_64rg : ∀ a ∈ nl 64, a ∉ rgl := fun a ha hc => by rw [mem_rgl] at hc; simp [nl] at ha; omega
theorem d_60_964 : ∀ a ∈ nl 60, a ∉ 9 :: nl 64 := fun a ha hc => by simp [nl] at ha hc; omega
theorem d_60_9 : ∀ a ∈ nl 60, a ∉ [9] := fun a ha hc => by simp [nl] at ha hc; omega
theorem d_64_9 : ∀ a ∈ nl 64, a ∉ [9] := fun a ha hc => by simp [nl] at ha hc; omega
theorem d_60_64 : ∀ a ∈ nl 60, a ∉ nl 64 := fun a ha hc => by simp [nl] at ha hc; omega
theorem wyE_two {x y : Nat} : wyE [x, y] = [(min x y, max x y)] := rfl
section LYB
variable {d : Nat} {Q : fl_R} {W : fl_W} {V b : Nat} {es bes dl : gE} {rs : List (List Nat)}
theorem inc_any {g : Nat × Nat} {p q : Nat → Bool} (hg : g.1 < 20 ∧ g.2 < 20) : (anyN fun v => inc g v && !p v && q v) = false ↔ ∀ v, v < 20 → (inc g v && !p v && q v) = false := anyN_no
theorem cho_none {g : Nat × Nat} (hg : g ∈ reps bes dl) (h : fst1 bes dl rs g = none) : cho bes dl rs (reps bes dl) = none := by
  unfold cho
  rw [if_pos]
  exact List.any_eq_true.mpr ⟨g, hg, by rw [h]; rfl⟩
/-- Layout.choosePart -/
theorem ly_choose_l (hne : reps bes dl ≠ []) : ∀ (n i : Nat) (W : fl_W) (ps : gE) (sn : Nat → Bool) (x : Int32), bes.length - i = n → i ≤ bes.length → NetR W 60 V bes → NetR W 64 V dl → BS (W 9 7) (lvO dl) → RgR W rs → BS x sn → reps bes dl = ps ++ repS bes dl (bes.drop i) sn → CH W bes dl rs ps →
    (∀ W', cho bes dl rs (reps bes dl) = none → EqX [9] W W' → Q (some (.int 0)) W') →
    (∀ W' g j, cho bes dl rs (reps bes dl) = some g → fst1 bes dl rs g = some j → W' 9 10 = nI j → BS (W' 9 8) (innr bes dl g) → BS (W' 9 9) (feet bes dl g) → W' 9 7 = W 9 7 → EqX [9] W W' → Q (some (.int 1)) W') → hd_33_14 (d + 2) Q x (nI i) W := by
  intro n
  induction n with
  | zero =>
    intro i W ps sn x h1 h2 hN hD hl hR hx hre hC h0 hy
    have := hN.2.1
    refine sx_33_14 _ _ W ⟨fun q => absurd q ?_, fun _ => ?_⟩
    · rw [hN.2.2.2.2.1]; exact nI_nlt (by omega) (by omega)
    · rw [List.drop_eq_nil_of_le (by omega), repS, List.append_nil] at hre
      rcases hC.2 with ⟨e, -, -⟩ | ⟨g, j, c1, c2, c3, c4, c5, c6⟩
      · exact absurd (hre.trans e) hne
      · refine ⟨fun z => ?_, fun _ => hy W g j (by rw [hre]; exact c1) c2 c3 c4 c5 rfl EqX.rf⟩
        rw [c3, ci_m] at z
        have := fitF_bd (q := feet bes dl g) c2
        have := hR.1
        exact absurd z (nI_nm (by omega))
  | succ n ih =>
    intro i W ps sn x h1 h2 hN hD hl hR hx hre hC h0 hy
    have hlen := hN.2.1
    have hV := hN.1
    have hi : i < bes.length := by omega
    have hp := List.getElem?_eq_getElem hi
    have hm := List.mem_of_getElem? hp
    generalize hg : bes[i] = g at hp hm
    have hgb := hN.2.2.1.1 g hm
    rw [List.drop_eq_getElem_cons hi, hg] at hre
    have hends : BS (bitI (nI g.1) ||| bitI (nI g.2)) (fun v => inc g v) := ((BS.bit (by omega)).or (BS.bit (by omega))).congr fun v _ => rfl
    have hout : BS ((bitI (nI g.1) ||| bitI (nI g.2)) &&& (W 9 7 ^^^ Int32.ofInt (-1))) (fun v => inc g v && !lvO dl v) := hends.and (by rw [ci_m]; exact hl.lo.not)
    have hos : BS (((bitI (nI g.1) ||| bitI (nI g.2)) &&& (W 9 7 ^^^ Int32.ofInt (-1))) &&& x) (fun v => inc g v && !lvO dl v && sn v) := hout.and hx.lo
    have hdm : g ∈ dl ↔ adj dl g.1 g.2 = true := by
      rw [adj_iff]
      refine ⟨Or.inl, fun z => z.elim id fun z => ?_⟩
      have := hD.2.2.1.1 _ z
      simp only at this
      omega
    refine sx_33_14 _ _ W ⟨fun _ => ?_, fun q => absurd ?_ q⟩
    · refine net_low n60 hN hp (st_bit (net_high n60 hN hp (st_bit ?_)))
      refine ⟨fun z => ?_, fun z => ?_⟩
      · have hno : (anyN fun v => inc g v && !lvO dl v && sn v) = false := anyN_no.mpr fun v hv => hos.z.mp z v hv
        refine net_low n60 hN hp (net_high n60 hN hp (net_joined n64 hD (by omega) (by omega) ?_))
        refine ⟨fun z2 => ?_, fun z2 => ?_⟩
        · have hgd : g ∉ dl := fun w => by rw [hdm.mp w] at z2; exact absurd z2 (by decide)
          have hcond : ¬ (g ∈ dl ∨ (anyN fun v => inc g v && !lvO dl v && sn v) = true) := by
            rintro (w | w)
            · exact hgd w
            · rw [hno] at w; cases w
          rw [repS, if_neg hcond] at hre
          have hgr : g ∈ reps bes dl := by rw [hre]; simp
          have hre' : reps bes dl = (ps ++ [g]) ++ repS bes dl (bes.drop (i + 1)) (fun v => sn v || innr bes dl g v) := by rw [hre]; simp
          have go : ∀ (y : Int32) (W' : fl_W), BS y (innr bes dl g) → CH W' bes dl rs (ps ++ [g]) → W' 9 7 = W 9 7 → EqX [9] W W' → hd_33_14 (d + 2) Q (x ||| y) (nI i + Int32.ofInt 1) W' := fun y W' hy' hC' h7 hE => by
            rw [ci_1, nI_add]
            refine ih (i + 1) W' (ps ++ [g]) _ _ (by omega) (by omega) (hN.fr hE d_60_9) (hD.fr hE d_64_9) (by rw [h7]; exact hl) (hR.fr hE d_rg9) (hx.or hy') hre' hC' (fun W'' k1 k2 => h0 W'' k1 (hE.tr k2)) fun W'' f j k1 k2 k3 k4 k5 k6 k7 => hy W'' f j k1 k2 k3 k4 k5 (k6.trans h7) (hE.tr k7)
          refine ⟨fun z3 => ?_, fun z3 => ?_⟩
          · -- a single edge
            have hemp := hout.z.mp z3
            have hin : ∀ v, v < 20 → innr bes dl g v = false := clo_emp (anyN_no.mpr hemp) 20
            have bi : BS ((bitI (nI g.1) ||| bitI (nI g.2)) &&& (W 9 7 ^^^ Int32.ofInt (-1))) (innr bes dl g) := hout.congr fun v hv => by rw [hemp v hv, hin v hv]
            have bf : BS ((bitI (nI g.1) ||| bitI (nI g.2)) &&& W 9 7) (feet bes dl g) := (hends.and hl.lo).congr fun v hv => by
              have : (anyN fun u => innr bes dl g u && adj bes u v) = false := anyN_no.mpr fun u hu => by rw [hin u hu]; rfl
              rw [feet, this, Bool.or_false, Bool.and_comm]
            refine ly_weigh hR bi bf hC (fun w => ⟨fun _ => h0 W (cho_none hgr w) EqX.rf, fun w => absurd rfl w⟩) fun W' k1 k2 k3 => ⟨fun w => absurd w (by decide), fun _ => go _ W' bi k1 k2 k3⟩
          · -- with vertices of its own
            have hSany : (anyN fun v => inc g v && !lvO dl v) = true := by
              cases hh : anyN fun v => inc g v && !lvO dl v with
              | true => rfl
              | false => exact absurd (hout.z.mpr (anyN_no.mp hh)) z3
            have hSlv : ∀ v, v < 20 → (inc g v && !lvO dl v) = true → lvO dl v = false := fun v _ hv => by
              rw [Bool.and_eq_true, Bool.not_eq_true'] at hv; exact hv.2
            refine ly_spread hN hl hout fun y hy' => ?_
            have bi : BS (y &&& (W 9 7 ^^^ Int32.ofInt (-1))) (innr bes dl g) := (hy'.and (by rw [ci_m]; exact hl.lo.not)).congr fun v hv => spr_in hSlv 20 v hv
            have hin : anyN (innr bes dl g) = true := by
              obtain ⟨v, hv, h⟩ := anyN_iff.mp hSany
              exact anyN_iff.mpr ⟨v, hv, clo_ge h⟩
            have h1920 : ∀ v, v < 20 → clo (adj bes) (lvO dl) 19 (fun v => inc g v && !lvO dl v) v = innr bes dl g v := fun v hv => ((clo_stb (n := 19) (by omega) hSany) v hv).symm
            have bf : BS (y &&& W 9 7) (feet bes dl g) := (hy'.and hl.lo).congr fun v hv => by
              cases hlv : lvO dl v with
              | false => rw [Bool.and_false, feet, hlv, Bool.false_and]
              | true =>
                rw [Bool.and_true, spr_ft hSlv hv hlv 19, anyN_congr (q := fun u => innr bes dl g u && adj bes u v) fun u hu => by rw [h1920 u hu]]
                cases hf : feet bes dl g v with
                | true =>
                  obtain ⟨u, u1, u2, u3⟩ := feet_adj hV hN.2.2.1 hm hin hf
                  exact anyN_iff.mpr ⟨u, u1, by rw [u2, u3]; rfl⟩
                | false =>
                  rw [feet, hlv, Bool.true_and, Bool.or_eq_false_iff] at hf
                  exact hf.2
            refine ly_weigh hR bi bf hC (fun w => ⟨fun _ => h0 W (cho_none hgr w) EqX.rf, fun w => absurd rfl w⟩) fun W' k1 k2 k3 => ⟨fun w => absurd w (by decide), fun _ => go _ W' bi k1 k2 k3⟩
        · have hgd : g ∈ dl := hdm.mpr (by
            cases hh : adj dl g.1 g.2 with
            | true => rfl
            | false => rw [hh] at z2; exact absurd rfl z2)
          rw [repS, if_pos (Or.inl hgd)] at hre
          rw [ci_1, nI_add]
          exact ih (i + 1) W ps sn x (by omega) (by omega) hN hD hl hR hx hre hC h0 hy
      · have hyes : (anyN fun v => inc g v && !lvO dl v && sn v) = true := by
          cases hh : anyN fun v => inc g v && !lvO dl v && sn v with
          | true => rfl
          | false => exact absurd (hos.z.mpr (anyN_no.mp hh)) z
        rw [repS, if_pos (Or.inr hyes)] at hre
        rw [ci_1, nI_add]
        exact ih (i + 1) W ps sn x (by omega) (by omega) hN hD hl hR hx hre hC h0 hy
    · rw [hN.2.2.2.2.1]; exact nI_lt hi (by omega)
theorem ly_choose (hne : reps bes dl ≠ []) (hN : NetR W 60 V bes) (hD : NetR W 64 V dl) (hl : BS (W 9 7) (lvO dl)) (hR : RgR W rs)
    (h0 : ∀ W', cho bes dl rs (reps bes dl) = none → EqX [9] W W' → Q (some (.int 0)) W')
    (hy : ∀ W' g j, cho bes dl rs (reps bes dl) = some g → fst1 bes dl rs g = some j → W' 9 10 = nI j → BS (W' 9 8) (innr bes dl g) → BS (W' 9 9) (feet bes dl g) → W' 9 7 = W 9 7 → EqX [9] W W' → Q (some (.int 1)) W') : fl_cal (d + 3) 33 [.ref 9] W Q := by
  refine sx_33 W fun W1 e1 W2 e2 => ?_
  have f : EqX [9] W W2 := by rw [e2, e1]; exact (EqX.uw (by simp)).tr (EqX.uw (by simp))
  have h7 : W2 9 7 = W 9 7 := by rw [e2, uw_m (by decide), e1, uw_m (by decide)]
  refine ly_choose_l hne bes.length 0 W2 [] (fun _ => false) _ (by omega) (Nat.zero_le _) (hN.fr f d_60_9) (hD.fr f d_64_9) (by rw [h7]; exact hl) (hR.fr f d_rg9) BS.zero (by simp [reps]) ⟨fun g hg => absurd hg List.not_mem_nil, Or.inl ⟨rfl, ?_, ?_⟩⟩ (fun W' k1 k2 => h0 W' k1 (f.tr k2)) fun W' g j k1 k2 k3 k4 k5 k6 k7 => hy W' g j k1 k2 k3 k4 k5 (k6.trans h7) (f.tr k7)
  · rw [e2, uw_m (by decide), e1, uw_s]; rfl
  · rw [e2, uw_s]; rfl
theorem st_leastN {x : Int32} {p : Nat → Bool} (hx : BS x p) (h : anyN p = true) (hq : Q (some (.int (nI (leastN p)))) W) : fl_cal (d + 2) 122 [.int x] W Q := by
  obtain ⟨h1, h2, h3⟩ := leastN_spec h
  refine st_least (k := leastN p) (by omega) ?_ (fun j hj => ?_) hq
  · rw [hx.lo _ h1]; exact h2
  · rw [hx.lo _ (by omega)]; exact h3 j hj
/-- Layout.findWay -/
theorem ly_way {g : Nat × Nat} (hV : V ≤ 20) (h2 : TwoC bes) (hd : ∀ f, f ∈ dl → f ∈ bes) (hdn : dl ≠ []) (hg : g ∈ bes) (hgd : g ∉ dl) (hN : NetR W 60 V bes) (h8 : BS (W 9 8) (innr bes dl g)) (h9 : BS (W 9 9) (feet bes dl g))
    (h : ∀ W', W' 153 3 = nI (wayO bes dl g).2.1 → RowR W' 157 (nL (wayO bes dl g).2.2) → EqX srl W W' → Q none W') : fl_cal (d + 4) 31 [.ref 9, .int (nI (leastN (feet bes dl g)))] W Q := by
  obtain ⟨v1, v2, hv, l1, l2, f1, f2⟩ := feet_two hV hN.2.2.1 h2 hd hdn hg hgd
  obtain ⟨a1, a2, a3⟩ := leastN_spec (p := feet bes dl g) (anyN_iff.mpr ⟨v1, l1, f1⟩)
  unfold wayO at h
  generalize leastN (feet bes dl g) = a at *
  have hoth : BS (W 9 9 &&& (bitI (nI a) ^^^ Int32.ofInt (-1))) (fun v => feet bes dl g v && decide (v ≠ a)) := by
    rw [ci_m]
    exact (h9.and (BS.bit a1).lo.not).congr fun v _ => by simp
  have hany : (anyN fun v => feet bes dl g v && decide (v ≠ a)) = true := by
    by_cases e : v1 = a
    · exact anyN_iff.mpr ⟨v2, l2, by simp [f2]; exact fun z => hv (e.trans z.symm)⟩
    · exact anyN_iff.mpr ⟨v1, l1, by simp [f1, e]⟩
  refine sx_31 _ W (st_bit ⟨fun z => ?_, fun z => ?_⟩)
  · have hin : anyN (innr bes dl g) = false := anyN_no.mpr (h8.z.mp z)
    rw [hin] at h
    refine st_leastN hoth hany (se_straight fun W' k1 k2 k3 => h W' k1 k2 k3)
  · have hin : anyN (innr bes dl g) = true := by
      cases hh : anyN (innr bes dl g) with
      | true => rfl
      | false => exact absurd (h8.z.mpr (anyN_no.mp hh)) z
    rw [hin] at h
    have la := feet_lv a2
    have hun : ∀ v, v < 20 → lvO dl v = true → innr bes dl g v = false := fun v hv hl => by
      cases hh : innr bes dl g v with
      | false => rfl
      | true => rw [innr_un hv hh] at hl; cases hl
    have hw := way_ok hV hN.2.2.1 h2 hd hdn hg hgd
    refine se_seek n60 hN a1 h8.lo hoth.lo (hun a a1 la) (by simp) (fun v hv q => hun v hv (by simp at q; exact feet_lv q.1)) fun W' k1 k2 => ?_
    have sp := bfsP_spec (A := clA bes (innr bes dl g) (fun v => feet bes dl g v && decide (v ≠ a)) a) (goal := fun v => feet bes dl g v && decide (v ≠ a)) (s := a) a1 (by simp)
    cases hb : bfsP (clA bes (innr bes dl g) (fun v => feet bes dl g v && decide (v ≠ a)) a) (fun v => feet bes dl g v && decide (v ≠ a)) a with
    | some r =>
      rw [hb] at sp k1 h
      obtain ⟨c, l, rfl, -⟩ := sp
      exact h W' k1.1 k1.2 k2
    | none =>
      exfalso
      have hla : leastN (feet bes dl g) = a := by
        obtain ⟨q1, q2, q3⟩ := leastN_spec (p := feet bes dl g) (anyN_iff.mpr ⟨v1, l1, f1⟩)
        rcases Nat.lt_trichotomy (leastN (feet bes dl g)) a with e | e | e
        · rw [a3 _ e] at q2; cases q2
        · exact e
        · rw [q3 _ e] at a2; cases a2
      have := hw.1
      unfold wayO at this
      rw [hin, hla, if_pos rfl, hb] at this
      exact this rfl
/-- Layout.markWay -/
theorem ly_mark_l {a b0 : Nat} {ws : List Nat} {lv : Nat → Bool} (ha : a < 20) (hb0 : b0 < 20) (hws : ∀ x ∈ ws, x < 20) : ∀ (rest : List Nat) (i last : Nat) (W : fl_W) (dl : gE), ws.drop i = rest → i ≤ ws.length → RowR W 157 (nL ws) → W 153 3 = nI b0 → BS (W 9 7) lv → NetR W 64 V dl → okE V (dl ++ wyE (last :: (rest ++ [a]))) → (dl ++ wyE (last :: (rest ++ [a]))).length ≤ 60 → last < 20 →
    (∀ W', NetR W' 64 V (dl ++ wyE (last :: (rest ++ [a]))) → BS (W' 9 7) (fun v => lv v || (decide (v = a) || decide (v = b0) || ws.contains v)) → EqX (9 :: nl 64) W W' → Q none W') → hd_32_10 (d + 2) Q (nI a) (nI last) (nI i) W := by
  intro rest
  induction rest with
  | nil =>
    intro i last W dl hr hi hrow hgo hl hN hO hlen hlast h
    have hil : ws.length ≤ i := List.drop_eq_nil_iff.mp hr
    have h20 := nL_len (l := ws) ▸ hrow.2.1
    have hcap : fl_cap 157 = 20 := rfl
    rw [List.nil_append, wyE_two] at hO hlen h
    have he := hO.1 (min last a, max last a) (by simp)
    simp only at he
    have hah := adj_ahead hO rfl
    refine sx_32_10 _ _ _ W (row_size (r := 157) rfl hrow ⟨fun z => absurd z ?_, fun _ => ?_⟩)
    · rw [nL_len]; exact nI_nlt hil (by omega)
    · refine net_add n64 hN (by omega) (by omega) (by omega) ?_ (by simp at hlen; omega) fun W2 k1 k2 => ?_
      · simp only at hah
        rcases Nat.le_total last a with q | q
        · rwa [show min last a = last by omega, show max last a = a by omega] at hah
        · rw [show min last a = a by omega, show max last a = last by omega] at hah
          rw [adj_sym]; exact hah
      refine st_bit ?_
      show fl_cal (d + 2) 120 [.int (W2 153 3)] W2 _
      rw [k2 153 (by decide), hgo]
      refine st_bit (row_bits (r := 157) rfl (hrow.fr k2 (by decide) (by decide)) fun W6 e6 => ?_)
      refine h W6 (by rw [e6]; exact k1.fr (EqX.uw (l := [9]) (by simp)) d_64_9) ?_ ?_
      · rw [e6, uw_s, k2 9 (by decide)]
        exact (hl.or (((BS.bit ha).or (BS.bit hb0)).or ((bitsL_BS BS.zero hws).congr fun v _ => Bool.false_or _))).congr fun v _ => rfl
      · rw [e6]
        exact (k2.mono fun a ha => List.mem_cons_of_mem _ ha).tr (EqX.uw (by simp))
  | cons x rest ih =>
    intro i last W dl hr hi hrow hgo hl hN hO hlen hlast h
    have hil : i < ws.length := by
      rcases Nat.lt_or_ge i ws.length with q | q
      · exact q
      · rw [List.drop_eq_nil_of_le q] at hr; cases hr
    have h20 := nL_len (l := ws) ▸ hrow.2.1
    have hcap : fl_cap 157 = 20 := rfl
    rw [List.drop_eq_getElem_cons hil] at hr
    injection hr with hx hr
    have hx20 := hws x (hx ▸ List.getElem_mem hil)
    rw [List.cons_append, wyE] at hO hlen h
    have he := hO.1 (min last x, max last x) (by simp)
    simp only at he
    have hah := adj_ahead hO rfl
    have hsp : dl ++ (min last x, max last x) :: wyE (x :: (rest ++ [a])) = (dl ++ [(min last x, max last x)]) ++ wyE (x :: (rest ++ [a])) := by simp
    refine sx_32_10 _ _ _ W (row_size (r := 157) rfl hrow ⟨fun _ => ?_, fun z => absurd ?_ z⟩)
    · refine row_get (r := 157) rfl hrow ?_
      rw [nL_get (by omega) hil, hx]
      refine net_add n64 hN (by omega) (by omega) (by omega) ?_ (by simp at hlen; omega) fun W2 k1 k2 => ?_
      · simp only at hah
        rcases Nat.le_total last x with q | q
        · rwa [show min last x = last by omega, show max last x = x by omega] at hah
        · rw [show min last x = x by omega, show max last x = last by omega] at hah
          rw [adj_sym]; exact hah
      have hrow2 := hrow.fr k2 (by decide) (by decide)
      refine row_get (r := 157) rfl hrow2 ?_
      rw [nL_get (by omega) hil, hx]
      show hd_32_10 (d + 2) Q (nI a) (nI x) (nI i + Int32.ofInt 1) W2
      rw [ci_1, nI_add]
      refine ih (i + 1) x W2 (dl ++ [(min last x, max last x)]) hr (by omega) hrow2 (by rw [k2 153 (by decide)]; exact hgo) (by rw [k2 9 (by decide)]; exact hl) k1 (by rw [← hsp]; exact hO) (by rw [← hsp]; exact hlen) hx20 fun W' j1 j2 j3 => h W' (by rw [hsp]; exact j1) j2 ?_
      exact (k2.mono fun a ha => List.mem_cons_of_mem _ ha).tr j3
    · rw [nL_len]; exact nI_lt hil (by omega)
theorem ly_mark {a b0 : Nat} {ws : List Nat} {lv : Nat → Bool} (ha : a < 20) (hb0 : b0 < 20) (hws : ∀ x ∈ ws, x < 20) (hrow : RowR W 157 (nL ws)) (hgo : W 153 3 = nI b0) (hl : BS (W 9 7) lv) (hN : NetR W 64 V dl) (hO : okE V (dl ++ wyE (b0 :: (ws ++ [a])))) (hlen : (dl ++ wyE (b0 :: (ws ++ [a]))).length ≤ 60)
    (h : ∀ W', NetR W' 64 V (dl ++ wyE (b0 :: (ws ++ [a]))) → BS (W' 9 7) (fun v => lv v || (decide (v = a) || decide (v = b0) || ws.contains v)) → EqX (9 :: nl 64) W W' → Q none W') : fl_cal (d + 3) 32 [.ref 9, .int (nI a)] W Q := by
  refine sx_32 _ W ?_
  rw [hgo]
  exact ly_mark_l ha hb0 hws ws 0 b0 W dl (by simp) (Nat.zero_le _) hrow hgo hl hN hO hlen hb0 h
end LYB
