/-! ===== Tangle of the class: find; lay ===== -/
def tgl : List Nat := 5 :: 6 :: 7 :: 8 :: 209 :: 210 :: 211 :: 212 :: ll
theorem tgl_in : ∀ a ∈ tgl, (5 ≤ a ∧ a < 160) ∨ (209 ≤ a ∧ a < 213) := fun a ha => by simp [tgl, mem_ll] at ha; omega
theorem nl5_tgl : ∀ a ∈ nl 5, a ∈ tgl := fun a ha => by simp [nl] at ha; simp [tgl]; omega
theorem ll_tgl : ∀ a ∈ ll, a ∈ tgl := fun a ha => by simp [tgl, ha]
theorem net_tgl : ∀ a ∈ nl 1, a ∉ tgl := fun a ha hb => by have := tgl_in a hb; simp [nl] at ha; omega
theorem prs_take {P : Nat → Bool} {es : gE} {i : Nat} {p : Nat × Nat} (hp : es[i]? = some p) : prs P 0 (es.take (i + 1)) = prs P 0 (es.take i) ++ (if P i then [p] else []) := by
  have hl := (List.getElem?_eq_some_iff.mp hp).1
  rw [List.take_add_one, hp, prs_app, List.length_take, Nat.min_eq_left (by omega), Nat.zero_add]
  congr 1
section TNB
variable {d : Nat} {Q : mi_R} {W : fl_W} {V : Nat} {es : gE}
theorem tg_rest_l {P : Nat → Bool} {g : Int64} (hg : ∀ j, j < 60 → lb g j = !P j) : ∀ (n i : Nat) (W : fl_W), es.length - i = n → i ≤ es.length → NetR W 1 V es → NetR W 5 V (prs P 0 (es.take i)) → (∀ W', NetR W' 5 V (prs P 0 es) → EqX (nl 5) W W' → Q none (fl_mk g W')) → hm_81 (d + 2) Q (nI i) g W := by
  intro n
  induction n with
  | zero =>
    intro i W h1 h2 hN hT h
    have hE := hN.2.1
    refine sm_81_10 _ _ W ⟨fun q => absurd q ?_, fun _ => h W ?_ EqX.rf⟩
    · rw [hN.2.2.2.2.1]; exact nI_nlt (by omega) (by omega)
    · rw [List.take_of_length_le (by omega)] at hT; exact hT
  | succ n ih =>
    intro i W h1 h2 hN hT h
    have hE := hN.2.1
    have hi : i < es.length := by omega
    have hp := List.getElem?_eq_getElem hi
    generalize es[i] = p at hp
    have hpl := hN.2.2.1.1 p (List.mem_of_getElem? hp)
    have hps := prs_take (P := P) hp
    refine sm_81_10 _ _ W ⟨fun _ => ?_, fun q => absurd ?_ q⟩
    · rw [lg_cmp_eq, lb_ask (by omega), hg i (by omega), ci_1, nI_add]
      cases hPi : P i with
      | true =>
        rw [hPi, if_pos rfl] at hps
        refine ⟨fun _ => net_low (b := 1) rfl hN hp (net_high (b := 1) rfl hN hp (net_addE (b := 5) rfl hT hpl ?_ ?_ fun W1 k1 k2 => ?_)), fun z => absurd rfl z⟩
        · have := adj_ahead hN.2.2.1 (nd_split hp)
          cases hh : adj (prs P 0 (es.take i)) p.1 p.2 with
          | false => rfl
          | true =>
            have : adj (es.take i) p.1 p.2 = true := by
              rw [adj_iff] at hh ⊢
              exact hh.imp (fun z => prs_sub.subset z) (fun z => prs_sub.subset z)
            rw [adj_ahead hN.2.2.1 (nd_split hp)] at this
            cases this
        · have := (prs_sub (P := P) (l := es.take i) (i := 0)).length_le
          rw [List.length_take] at this
          omega
        · rw [← hps] at k1
          exact ih (i + 1) W1 (by omega) (by omega) (hN.fr k2 (net_dis rfl rfl (by decide))) k1 fun W' m1 m2 => h W' m1 (k2.tr m2)
      | false =>
        rw [hPi, if_neg Bool.false_ne_true, List.append_nil] at hps
        refine ⟨fun z => absurd z (by decide), fun _ => ih (i + 1) W (by omega) (by omega) hN (by rw [hps]; exact hT) h⟩
    · rw [hN.2.2.2.2.1]; exact nI_lt hi (by omega)
theorem tg_rest {P : Nat → Bool} {g : Int64} (hg : ∀ j, j < 60 → lb g j = !P j) (hN : NetR W 1 V es) (h : ∀ W', NetR W' 5 V (prs P 0 es) → EqX (nl 5) W W' → Q none (fl_mk g W')) : mi_cal (d + 3) 81 [.ref 208, .ref 1, .ref 5] (fl_mk g W) Q := by
  refine sm_81 g W ?_
  rw [hN.2.2.2.1]
  refine net_begin (b := 5) rfl hN.1 fun W1 k1 k2 => ?_
  show hm_81 (d + 2) Q (Int32.ofInt 0) g W1
  rw [ci_0]
  exact tg_rest_l hg es.length 0 W1 (by omega) (Nat.zero_le _) (hN.fr k2 (net_dis rfl rfl (by decide))) k1 fun W' m1 m2 => h W' m1 (k2.tr m2)
theorem tg_br_l {fs : gE} {g : Int64} : ∀ (n v : Nat) (W : fl_W), V - v = n → v ≤ V → NetR W 5 V fs → RowR W 211 (nL (brL v fs)) → (∀ W', RowR W' 211 (nL (brL V fs)) → EqX [211, 212] W W' → Q none (fl_mk g W')) → hm_80 99 (d + 1) Q (nI v) g W := by
  intro n
  induction n with
  | zero =>
    intro v W h1 h2 hN hR h
    have hV := hN.1
    have hv : v = V := by omega
    subst hv
    refine sm_80_99 _ _ W ⟨fun q => absurd q ?_, fun _ => h W hR EqX.rf⟩
    rw [hN.2.2.2.1]; exact nI_nlt (Nat.le_refl _) (by omega)
  | succ n ih =>
    intro v W h1 h2 hN hR h
    have hV := hN.1
    have hv : v < V := by omega
    have hsucc : brL (v + 1) fs = brL v fs ++ (if 3 ≤ cnt (adj fs v) 20 then [v] else []) := by
      rw [brL, List.range_succ, List.filter_append]
      by_cases q : 3 ≤ cnt (adj fs v) 20
      · simp [brL, q]
      · simp [brL, q]
    have hbl : (brL v fs).length ≤ v := by
      have := List.length_filter_le (fun u => decide (3 ≤ cnt (adj fs u) 20)) (List.range v)
      rwa [List.length_range] at this
    have hc20 := cnt_le (adj fs v) 20
    refine sm_80_99 _ _ W ⟨fun _ => net_around (b := 5) rfl hN hv fun x hx => st_bc ?_, fun q => absurd ?_ q⟩
    · rw [hx.pc, ci_3, ci_1, nI_add]
      refine ⟨fun q => ?_, fun q => ?_⟩
      · rw [nI_ltI (by omega) (by omega)] at q
        rw [if_neg (by omega), List.append_nil] at hsucc
        exact ih (v + 1) W (by omega) (by omega) hN (by rw [hsucc]; exact hR) h
      · rw [nI_ltI (by omega) (by omega)] at q
        rw [if_pos (by omega)] at hsucc
        refine row_add (r := 211) rfl hR (by rw [nL_len, show fl_cap 211 = 20 from rfl]; omega) fun W1 k1 k2 => ?_
        exact ih (v + 1) W1 (by omega) (by omega) (hN.fr k2 (by decide)) (by rw [hsucc, nL_app]; exact k1) fun W' m1 m2 => h W' m1 (k2.tr m2)
    · rw [hN.2.2.2.1]; exact nI_lt hv (by omega)
theorem tg_find_l : ∀ (n e : Nat) (W : fl_W) (g : Int64), es.length - e = n → e ≤ es.length → NetR W 1 V es → (∀ j, j < 60 → lb g j = !knS V es e j) → RowR W 209 (nL ((List.range e).filter fun i => knS V es e i)) → (∀ W' g', RowR W' 209 (nL (knL V es)) → RowR W' 211 (nL (brL V (knE V es))) → EqX tgl W W' → Q none (fl_mk g' W')) → hm_80 15 (d + 6) Q (nI e) g W := by
  intro n
  induction n with
  | zero =>
    intro e W g h1 h2 hN hg hR h
    have hE := hN.2.1
    have he : e = es.length := by omega
    subst he
    refine sm_80_15 _ _ W ⟨fun q => absurd q ?_, fun _ => tg_rest hg hN fun W1 k1 k2 => ⟨rfl, W1, rfl, row_clear (r := 211) rfl fun W2 m1 m2 => ?_⟩⟩
    · rw [hN.2.2.2.2.1]; exact nI_nlt (Nat.le_refl _) (by omega)
    · show hm_80 99 (d + 6) Q (Int32.ofInt 0) g W2
      rw [ci_0]
      have f2 : EqX tgl W W2 := (k2.mono nl5_tgl).tr (m2.mono (by simp [tgl]))
      refine tg_br_l (fs := knE V es) V 0 W2 (by omega) (Nat.zero_le _) (k1.fr m2 (by decide)) m1 fun W3 n1 n2 => h W3 g ?_ n1 (f2.tr (n2.mono (by simp [tgl])))
      exact ((hR.eq (k2 209 (by decide)) (k2 210 (by decide))).eq (m2 209 (by decide)) (m2 210 (by decide))).eq (n2 209 (by decide)) (n2 210 (by decide))
  | succ n ih =>
    intro e W g h1 h2 hN hg hR h
    have hE := hN.2.1
    have he : e < es.length := by omega
    have hfl : ((List.range e).filter fun i => knS V es e i).length ≤ e := by
      have := List.length_filter_le (fun i => knS V es e i) (List.range e)
      rwa [List.length_range] at this
    have hkn : ∀ j, knS V es (e + 1) j = if j = e then (layG V (prs (fun i => if i = e then false else knS V es e i) 0 es)).isSome else knS V es e j := fun j => rfl
    have hrow : (List.range e).filter (fun i => knS V es (e + 1) i) = (List.range e).filter fun i => knS V es e i := List.filter_congr fun i hi => by
      rw [hkn, if_neg (by have := List.mem_range.mp hi; omega)]
    refine sm_80_15 _ _ W ⟨fun _ => ?_, fun q => absurd ?_ q⟩
    · have hg1 : ∀ j, j < 60 → lb (g ||| (1 <<< ((nI e).toInt64 &&& 63))) j = !(if j = e then false else knS V es e j) := fun j hj => by
        rw [lb_or, lb_one (by omega) (by omega), hg j hj]
        by_cases q : j = e
        · simp [q]
        · simp [q]
      refine sm_80_37 _ _ W (tg_rest hg1 hN fun W1 k1 k2 => ⟨rfl, W1, rfl, ?_⟩)
      have hN1 := hN.fr k2 (net_dis (b := 1) (c := 5) rfl rfl (by decide))
      have hR1 := hR.eq (k2 209 (by decide)) (k2 210 (by decide))
      refine ly_lays (b := 5) rfl (by decide) (by decide) k1 (fun W2 R j1 jb j2 j3 => ⟨fun z => absurd z (by decide), fun _ => ?_⟩) fun W2 j1 j2 => ⟨fun _ => ?_, fun z => absurd rfl z⟩
      · have hN2 := hN1.fr j3 (net_ll (b := 1) rfl (by decide) (by decide))
        have hR2 := hR1.eq (j3 209 (by rw [mem_ll]; omega)) (j3 210 (by rw [mem_ll]; omega))
        refine sm_80_68 _ _ W2 (row_add (r := 209) rfl hR2 (by rw [nL_len, show fl_cap 209 = 60 from rfl]; omega) fun W3 m1 m2 => ?_)
        show hm_80 15 (d + 6) Q (nI e + Int32.ofInt 1) _ W3
        rw [ci_1, nI_add]
        refine ih (e + 1) W3 _ (by omega) (by omega) (hN2.fr m2 (by decide)) (fun j hj => ?_) ?_ fun W' g' n1 n2 n3 => h W' g' n1 n2 (((k2.mono nl5_tgl).tr (j3.mono ll_tgl)).tr ((m2.mono (by simp [tgl])).tr n3))
        · rw [lb_and, lb_xor, lb_a1 j (by omega), lb_one (by omega) (by omega), hg1 j hj, hkn, j1]
          by_cases q : j = e
          · simp [q]
          · simp [q]
        · rw [List.range_succ, List.filter_append, hrow, nL_app]
          have : (List.filter (fun i => knS V es (e + 1) i) [e]) = [e] := by
            have hee : knS V es (e + 1) e = true := by rw [hkn, if_pos rfl, j1]; rfl
            rw [List.filter_cons, if_pos hee]; rfl
          rw [this]; exact m1
      · have hN2 := hN1.fr j2 (net_ll (b := 1) rfl (by decide) (by decide))
        have hR2 := hR1.eq (j2 209 (by rw [mem_ll]; omega)) (j2 210 (by rw [mem_ll]; omega))
        rw [ci_1, nI_add]
        refine ih (e + 1) W2 _ (by omega) (by omega) hN2 (fun j hj => ?_) ?_ fun W' g' n1 n2 n3 => h W' g' n1 n2 (((k2.mono nl5_tgl).tr (j2.mono ll_tgl)).tr n3)
        · rw [hg1 j hj, hkn, j1]
          by_cases q : j = e
          · simp [q]
          · simp [q]
        · rw [List.range_succ, List.filter_append, hrow, nL_app]
          have : (List.filter (fun i => knS V es (e + 1) i) [e]) = [] := by
            have hee : knS V es (e + 1) e = false := by rw [hkn, if_pos rfl, j1]; rfl
            rw [List.filter_cons, if_neg (by rw [hee]; exact Bool.false_ne_true)]; rfl
          rw [this, show nL [] = [] from rfl, List.append_nil]; exact hR2
    · rw [hN.2.2.2.2.1]; exact nI_lt he (by omega)
/-- Tangle.find -/
theorem tg_find {g : Int64} (hN : NetR W 1 V es) (h : ∀ W' g', RowR W' 209 (nL (knL V es)) → RowR W' 211 (nL (brL V (knE V es))) → EqX tgl W W' → Q none (fl_mk g' W')) : mi_cal (d + 7) 80 [.ref 208, .ref 1, .ref 5, .ref 9] (fl_mk g W) Q := by
  refine sm_80 g W (sm_80_5 0 W (row_clear (r := 209) rfl fun W1 k1 k2 => ?_))
  show hm_80 15 (d + 6) Q (Int32.ofInt 0) 0 W1
  rw [ci_0]
  refine tg_find_l es.length 0 W1 0 (by omega) (Nat.zero_le _) (hN.fr k2 (by decide)) (fun j hj => by rw [lb_0]; rfl) k1 fun W' g' m1 m2 m3 => h W' g' m1 m2 ((k2.mono (by simp [tgl])).tr m3)
/-- lay -/
theorem pd_lay {T D : Option tuR} {K C : Bool} {g : Int64} (hC : CK W V es T K D C)
    (hy : ∀ W' R, layG V es = some R → PL V es → CK W' V es (some R) K D C → Hi W W' → Q (some (.int (nI (stF (nxD es R) (2 * es.length)).2.length))) (fl_mk g W'))
    (h0 : ∀ W' g', layG V es = none → CK W' V es T true D C → Hi W W' → Q (some (.int (-1))) (fl_mk g' W')) : mi_cal (d + 8) 102 [.ref 0] (fl_mk g W) Q := by
  refine sm_102 g W (pd_layOut hC (fun W1 R j1 jp j2 j3 => ⟨fun z => absurd z (by decide), fun _ => ?_⟩) fun W1 j1 j2 j3 => ⟨fun _ => ?_, fun z => absurd rfl z⟩)
  · rw [j2.1.2.1.2.2.2.2.2]
    exact hy W1 R j1 jp j2 j3
  · cases K with
    | true => exact ⟨fun z => absurd (j2.1.2.2.1.1.symm.trans z) (by decide), fun _ => h0 W1 g j1 j2 j3⟩
    | false =>
      refine ⟨fun _ => tg_find j2.1.1 fun W2 g' k1 k2 k3 => ⟨rfl, g', W2, rfl, ?_⟩, fun z => absurd j2.1.2.2.1 z⟩
      have g2 : ∀ a, a ∉ tgl → W2 a = W1 a := k3
      have nt : ∀ a, ¬ ((5 ≤ a ∧ a < 160) ∨ (209 ≤ a ∧ a < 213)) → a ∉ tgl := fun a ha hb => ha (tgl_in a hb)
      have u3 : ∀ a, a ≠ 0 → fl_uw W2 0 9 1 a = W2 a := fun a ha => uw_n ha
      have q3 : ∀ a, a ≠ 0 → ¬ ((5 ≤ a ∧ a < 160) ∨ (209 ≤ a ∧ a < 213)) → fl_uw W2 0 9 1 a = W1 a := fun a a1 a2 => (u3 a a1).trans (g2 a (nt a a2))
      have z3 : ∀ k, k ≠ 9 → fl_uw W2 0 9 1 0 k = W1 0 k := fun k hk => by rw [uw_m hk, g2 0 (nt 0 (by omega))]
      exact h0 (fl_uw W2 0 9 1) g' j1 ⟨⟨j2.1.1.eq1 fun a a1 a2 => q3 a (by omega) (by omega), j2.1.2.1.eq (z3 8 (by decide)) fun a a1 a2 => q3 a (by omega) (by omega), ⟨uw_s, k1.eq (u3 _ (by decide)) (u3 _ (by decide)), k2.eq (u3 _ (by decide)) (u3 _ (by decide))⟩, j2.1.2.2.2.1.eq (z3 10 (by decide)) fun a a1 a2 => q3 a (by omega) (by omega), j2.1.2.2.2.2.eq (z3 11 (by decide)) fun a a1 a2 => q3 a (by omega) (by omega)⟩, j2.2.eq (z3 12 (by decide))⟩ (j3.tr fun a ha => q3 a (by omega) (by omega))
end TNB
