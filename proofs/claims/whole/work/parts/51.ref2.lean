/-! ===== the reference: put, join, cut, all, other ===== -/
section REF2
variable {d : Nat} {Q : fl_R} {W : fl_W} {V : Nat} {es : gE}
theorem rf_put {u v : Nat} (hG : RfG W V es) (hu : u < V) (hv : v < V) (huv : u ≠ v) (hn : adj es u v = false) (hl : es.length < 60) (h : ∀ W', RfG W' V (es ++ [(min u v, max u v)]) → EqF [1] [230, 231] W W' → Q none W') : fl_cal (d + 1) 129 [.ref 229, .int (nI u), .int (nI v)] W Q := by
  have hV := hG.1
  have h1 := hG.2.2.2.2.1
  have hin : vp_in (W 229 1) 61 := by rw [h1]; exact in_N (by omega) (by omega)
  have fin : ∀ (W6 W9 W10 : fl_W), W6 = fl_uw W 230 (W 229 1).toNatClampNeg (nI (min u v)) → W9 = fl_uw W6 231 (W6 229 1).toNatClampNeg (nI (max u v)) → W10 = fl_uw W9 229 1 ((W9 229 1) + (Int32.ofInt 1)) → Q none W10 := by
    intro W6 W9 W10 e6 e9 e10
    have a6 : W6 229 = W 229 := by rw [e6]; exact uw_n (by decide)
    have a9 : W9 229 = W 229 := by rw [e9, uw_n (by decide), a6]
    rw [h1, nI_clamp (by omega)] at e6
    rw [a6, h1, nI_clamp (by omega)] at e9
    rw [a9, h1, ci_1, nI_add] at e10
    refine h W10 ⟨hV, by simp; omega, okE_add hG.2.2.1 hu hv huv hn, ?_, ?_, fun i p hp => ?_⟩ ?_
    · rw [e10, uw_m (by decide), a9]; exact hG.2.2.2.1
    · rw [e10, uw_s]; simp
    · have b1 : W10 230 = upd (W 230) es.length (nI (min u v)) := by rw [e10, uw_n (by decide), e9, uw_n (by decide), e6]; simp [fl_uw]
      have b2 : W10 231 = upd (W 231) es.length (nI (max u v)) := by
        rw [e10, uw_n (by decide), e9]
        simp only [fl_uw, if_true]
        rw [e6, uw_n (by decide)]
      rw [b1, b2]
      by_cases hi : i = es.length
      · subst hi
        rw [List.getElem?_concat_length] at hp
        cases hp
        simp [upd]
      · have hl2 := (List.getElem?_eq_some_iff.mp hp).1
        simp only [List.length_append, List.length_singleton] at hl2
        rw [List.getElem?_append_left (by omega)] at hp
        simp only [upd, hi, if_false]
        exact hG.2.2.2.2.2 i p hp
    · rw [e10, e9, e6]
      exact ((EqF.uwA (by simp) (by decide)).tr (EqF.uwA (by simp) (by decide))).tr (EqF.uwF (by simp))
  have hin6 : ∀ (x : Int32) (W6 : fl_W), W6 = fl_uw W 230 (W 229 1).toNatClampNeg x → vp_in (W6 229 1) 61 := fun x W6 e6 => by rw [e6, uw_n (by decide)]; exact hin
  refine sx_129 _ _ W ⟨fun q => ⟨hin, fun W6 e6 => ⟨fun _ => ⟨hin6 _ W6 e6, fun W9 e9 W10 e10 => fin W6 W9 W10 ?_ ?_ e10⟩, fun q2 => absurd q q2⟩⟩, fun q => ⟨hin, fun W6 e6 => ⟨fun q2 => absurd q2 q, fun _ => ⟨hin6 _ W6 e6, fun W9 e9 W10 e10 => fin W6 W9 W10 ?_ ?_ e10⟩⟩⟩⟩
  · rw [nI_ltI (by omega) (by omega)] at q
    rw [Nat.min_eq_left (by omega)]; exact e6
  · rw [nI_ltI (by omega) (by omega)] at q
    rw [Nat.max_eq_right (by omega)]; exact e9
  · rw [nI_ltI (by omega) (by omega)] at q
    rw [Nat.min_eq_right (by omega)]; exact e6
  · rw [nI_ltI (by omega) (by omega)] at q
    rw [Nat.max_eq_left (by omega)]; exact e9
theorem optI_neg {o : Option Nat} (ho : ∀ k, o = some k → k < 2 ^ 31) : optI o < 0 ↔ o = none := by
  cases o with
  | none => exact ⟨fun _ => rfl, fun _ => by decide⟩
  | some k => exact ⟨fun z => absurd z (nI_pos (ho k rfl)), fun z => by cases z⟩
theorem eNo_lt {u v k : Nat} (h : eNo es u v = some k) : k < es.length := (List.getElem?_eq_some_iff.mp (eNo_at h)).1
theorem rf_eNo_neg {u v : Nat} (hG : RfG W V es) : optI (eNo es u v) < 0 ↔ adj es u v = false := by
  rw [optI_neg fun k hk => by have := eNo_lt hk; have := hG.2.1; omega, ← eNo_adj hG.2.2.1]
  cases eNo es u v <;> simp
/-- what join answers -/
theorem rf_joinNo {u v : Int32} (hG : RfG W V es) (ht : tkB V es u v = false) (h : Q (some (.int (-1))) W) : fl_cal (d + 3) 130 [.ref 229, .int u, .int v] W Q := by
  have hV := hG.1
  have hE := hG.2.1
  refine sx_130 u v W (rf_isV hG ?_)
  cases hu : ixB u V with
  | false => exact ⟨fun _ => h, fun q => absurd rfl q⟩
  | true =>
    refine ⟨fun q => absurd q (by decide), fun _ => rf_isV hG ?_⟩
    cases hv : ixB v V with
    | false => exact ⟨fun _ => h, fun q => absurd rfl q⟩
    | true =>
      refine ⟨fun q => absurd q (by decide), fun _ => ⟨fun _ => h, fun huv => ?_⟩⟩
      obtain ⟨a, ha, rfl⟩ := ixB_ex (by omega) hu
      obtain ⟨c, hc, rfl⟩ := ixB_ex (by omega) hv
      refine rf_eOf (by omega) (by omega) hG ⟨fun hneg => ?_, fun _ => h⟩
      rw [rf_eNo_neg hG] at hneg
      rw [hG.2.2.2.2.1, cb_60]
      refine ⟨fun _ => h, fun hne => ?_⟩
      rw [tkB_N (by omega) (by omega), decide_eq_true ha, decide_eq_true hc, hneg, decide_eq_true (show a ≠ c from fun z => huv (by rw [z])), decide_eq_true (show es.length < 60 from Nat.lt_of_le_of_ne hE fun z => hne (by rw [z]))] at ht
      cases ht
theorem rf_join {u v : Nat} (hG : RfG W V es) (hu : u < V) (hv : v < V) (huv : u ≠ v) (hn : adj es u v = false) (hl : es.length < 60) (h : ∀ W', RfG W' V (es ++ [(min u v, max u v)]) → W' 229 9 = 0 → W' 229 11 = 0 → W' 229 15 = 0 → W' 229 17 = 0 → EqF (1 :: fgL) [230, 231] W W' → Q (some (.int (nI es.length))) W') : fl_cal (d + 3) 130 [.ref 229, .int (nI u), .int (nI v)] W Q := by
  have hV := hG.1
  refine sx_130 _ _ W (rf_isV hG ?_)
  rw [ixB_N (by omega), decide_eq_true hu]
  refine ⟨fun q => absurd q (by decide), fun _ => rf_isV hG ?_⟩
  rw [ixB_N (by omega), decide_eq_true hv]
  refine ⟨fun q => absurd q (by decide), fun _ => ⟨fun q => absurd q (nI_ne (by omega) (by omega) huv), fun _ => rf_eOf (by omega) (by omega) hG ⟨fun _ => ?_, fun q => absurd ((rf_eNo_neg hG).mpr hn) q⟩⟩⟩
  rw [hG.2.2.2.2.1, cb_60]
  refine ⟨fun q => absurd q (nI_ne (by omega) (by omega) (by omega)), fun _ => rf_put hG hu hv huv hn hl fun W4 g4 f4 => rf_forget fun W5 a1 a2 a3 a4 f5 => ?_⟩
  have g5 := g4.fr f5 (by decide) (by decide) (by decide) (by decide)
  show Q (some (.int (W5 229 1 - Int32.ofInt 1))) W5
  rw [g5.2.2.2.2.1, ci_1, show nI 1 = 1 from rfl, List.length_append, List.length_singleton, nI_pred]
  exact h W5 g5 a1 a2 a3 a4 ((f4.mono (by simp) (by simp)).tr (f5.mono (by simp [fgL]) (by simp)))
theorem rf_cutNo {e : Int32} (hG : RfG W V es) (he : ixB e es.length = false) (h : Q (some (.int 0)) W) : fl_cal (d + 2) 131 [.ref 229, .int e] W Q := by
  refine sx_131 e W ?_
  rw [hG.2.2.2.2.1]
  refine rf_inN (by have := hG.2.1; omega) ?_
  rw [he]
  exact ⟨fun _ => h, fun q => absurd rfl q⟩
theorem rf_cut_l {m : Nat} (hm : m < 60) : ∀ (n i : Nat) (W : fl_W), m - i = n → i ≤ m → W 229 1 = nI (m + 1) → (∀ W', (∀ j, j < i → W' 230 j = W 230 j ∧ W' 231 j = W 231 j) → (∀ j, i ≤ j → j < m → W' 230 j = W 230 (j + 1) ∧ W' 231 j = W 231 (j + 1)) → EqF [] [230, 231] W W' → ∀ W2 : fl_W, W2 = fl_uw W' 229 1 ((W' 229 1) - (Int32.ofInt 1)) → fl_cal d 126 [.ref 229] W2 (fl_q0 fun W3 => Q (some (.int (Int32.ofInt 1))) W3)) → hd_131_18 d Q (nI i) W := by
  intro n
  induction n with
  | zero =>
    intro i W h1 h2 h4 h
    refine sx_131_18 _ W ⟨fun q => absurd q ?_, fun _ => h W (fun _ _ => ⟨rfl, rfl⟩) (fun j _ _ => by omega) EqF.rf⟩
    rw [h4, ci_1, show nI 1 = 1 from rfl, nI_pred]; exact nI_nlt (by omega) (by omega)
  | succ n ih =>
    intro i W h1 h2 h4 h
    have e1 : nI i + Int32.ofInt 1 = nI (i + 1) := by rw [ci_1, nI_add]
    refine sx_131_18 _ W ⟨fun _ => ?_, fun q => absurd ?_ q⟩
    · rw [e1]
      refine ⟨in_N (by omega) (by omega), in_N (by omega) (by omega), fun W7 e7 => ⟨in_N (by omega) (by omega), in_N (by omega) (by omega), fun W8 e8 => ?_⟩⟩
      rw [nI_clamp (by omega), nI_clamp (by omega)] at e7
      rw [nI_clamp (by omega), nI_clamp (by omega)] at e8
      have a1 : ∀ j, W8 230 j = if j = i then W 230 (i + 1) else W 230 j := by
        intro j
        rw [e8, uw_n (by decide), e7]
        by_cases hj : j = i
        · subst hj; rw [uw_s, if_pos rfl]
        · rw [uw_m hj, if_neg hj]
      have a2 : ∀ j, W8 231 j = if j = i then W 231 (i + 1) else W 231 j := by
        intro j
        rw [e8]
        by_cases hj : j = i
        · subst hj; rw [uw_s, if_pos rfl, e7, uw_n (by decide)]
        · rw [uw_m hj, if_neg hj, e7, uw_n (by decide)]
      have f : EqF [] [230, 231] W W8 := by rw [e8, e7]; exact (EqF.uwA (by simp) (by decide)).tr (EqF.uwA (by simp) (by decide))
      refine ih (i + 1) W8 (by omega) (by omega) (by rw [f.2 1 (by simp)]; exact h4) fun W' g1 g2 g3 => h W' (fun j hj => ?_) (fun j hj1 hj2 => ?_) (f.tr g3)
      · have := g1 j (by omega)
        rw [a1, a2, if_neg (by omega), if_neg (by omega)] at this
        exact this
      · rcases Nat.lt_or_ge i j with q | q
        · have := g2 j q hj2
          rw [a1, a2, if_neg (by omega), if_neg (by omega)] at this
          exact this
        · have hji : j = i := by omega
          subst hji
          have := g1 j (by omega)
          rw [a1, a2, if_pos rfl, if_pos rfl] at this
          exact this
    · rw [h4, ci_1, show nI 1 = 1 from rfl, nI_pred]; exact nI_lt (by omega) (by omega)
theorem rf_cut {e : Nat} (hG : RfG W V es) (he : e < es.length) (h : ∀ W', RfG W' V (es.eraseIdx e) → W' 229 9 = 0 → W' 229 11 = 0 → W' 229 15 = 0 → W' 229 17 = 0 → EqF (1 :: fgL) [230, 231] W W' → Q (some (.int 1)) W') : fl_cal (d + 2) 131 [.ref 229, .int (nI e)] W Q := by
  have hE := hG.2.1
  have h1 := hG.2.2.2.2.1
  refine sx_131 _ W ?_
  rw [h1]
  refine rf_inN (by omega) ?_
  rw [ixB_N (by omega), decide_eq_true he]
  refine ⟨fun q => absurd q (by decide), fun _ => ?_⟩
  refine rf_cut_l (m := es.length - 1) (by omega) _ e W rfl (by omega) (by rw [h1, Nat.sub_add_cancel (by omega)]) fun W' g1 g2 g3 W2 e2 => rf_forget fun W3 a1 a2 a3 a4 f3 => ?_
  have hw1 : W' 229 1 = nI es.length := by rw [g3.2 1 (by simp)]; exact h1
  rw [hw1, ci_1, pk_sub (by omega)] at e2
  have f2 : EqF (1 :: fgL) [230, 231] W' W2 := by rw [e2]; exact EqF.uwF (by simp)
  refine h W3 ⟨hG.1, ?_, okE_erase hG.2.2.1 e, ?_, ?_, fun i q hq => ?_⟩ a1 a2 a3 a4 (((g3.mono (by simp) (by simp)).tr f2).tr (f3.mono (by simp [fgL]) (by simp)))
  · rw [List.length_eraseIdx]; split <;> omega
  · rw [f3.2 0 (by decide), e2, uw_m (by decide), g3.2 0 (by simp)]; exact hG.2.2.2.1
  · rw [f3.2 1 (by decide), e2, uw_s, List.length_eraseIdx, if_pos he]
  · have s0 : W3 230 = W' 230 := by rw [f3.1 230 (by decide) (by simp), e2, uw_n (by decide)]
    have s1 : W3 231 = W' 231 := by rw [f3.1 231 (by decide) (by simp), e2, uw_n (by decide)]
    rw [s0, s1]
    rw [List.getElem?_eraseIdx] at hq
    by_cases hie : i < e
    · rw [if_pos hie] at hq
      rw [(g1 i hie).1, (g1 i hie).2]
      exact hG.2.2.2.2.2 i q hq
    · rw [if_neg hie] at hq
      have hl := (List.getElem?_eq_some_iff.mp hq).1
      have := g2 i (by omega) (by omega)
      rw [this.1, this.2]
      exact hG.2.2.2.2.2 (i + 1) q hq
theorem rf_all_l (hG : RfG W V es) : ∀ (n i : Nat) (W : fl_W), es.length - i = n → i ≤ es.length → RfG W V es → (∀ j, j < i → W 232 j = 1) → (∀ W', (∀ j, j < es.length → W' 232 j = 1) → EqF [] [232] W W' → Q none W') → hd_132_2 d Q (nI i) W := by
  have hE := hG.2.1
  intro n
  induction n with
  | zero =>
    intro i W h1 h2 hG hb h
    refine sx_132_2 _ W ⟨fun q => absurd q ?_, fun _ => h W (fun j hj => hb j (by omega)) EqF.rf⟩
    rw [hG.2.2.2.2.1]; exact nI_nlt (by omega) (by omega)
  | succ n ih =>
    intro i W h1 h2 hG hb h
    refine sx_132_2 _ W ⟨fun _ => ⟨in_N (by omega) (by omega), fun W1 e1 => ?_⟩, fun q => absurd ?_ q⟩
    · rw [nI_clamp (by omega)] at e1
      have f : EqF [] [232] W W1 := by rw [e1]; exact EqF.uwA (by simp) (by decide)
      rw [ci_1, nI_add]
      refine ih (i + 1) W1 (by omega) (by omega) (hG.fr f (by simp) (by simp) (by decide) (by decide)) (fun j hj => ?_) fun W' k1 k2 => h W' k1 (f.tr k2)
      by_cases hji : j = i
      · subst hji; rw [e1, uw_s]; rfl
      · rw [e1, uw_m hji]; exact hb j (by omega)
    · rw [hG.2.2.2.2.1]; exact nI_lt (by omega) (by omega)
theorem rf_all (hG : RfG W V es) (h : ∀ W', (∀ j, j < es.length → W' 232 j = 1) → EqF [] [232] W W' → Q none W') : fl_cal (d + 1) 132 [.ref 229] W Q :=
  sx_132 W (rf_all_l hG es.length 0 W (by simp) (Nat.zero_le _) hG (fun j hj => by omega) h)
/-- the other end of an edge -/
def othN (p : Nat × Nat) (v : Nat) : Option Nat := if p.1 = v then some p.2 else if p.2 = v then some p.1 else none
theorem rf_other {i v : Nat} {p : Nat × Nat} (hG : RfG W V es) (hp : es[i]? = some p) (hv : v < 2 ^ 31) (h : Q (some (.int (optI (othN p v)))) W) : fl_cal (d + 1) 133 [.ref 229, .int (nI i), .int (nI v)] W Q := by
  have hE := hG.2.1
  have hV := hG.1
  have hi := (List.getElem?_eq_some_iff.mp hp).1
  have hpp := hG.2.2.1.1 _ (List.mem_of_getElem? hp)
  obtain ⟨c1, c2⟩ := hG.2.2.2.2.2 i p hp
  have hin : vp_in (nI i) 61 := in_N (by omega) (by omega)
  refine sx_133 _ _ W ⟨hin, ?_⟩
  rw [nI_clamp (by omega), c1, c2]
  refine ⟨fun e => ⟨hin, ?_⟩, fun e => ⟨hin, ⟨fun e2 => ⟨hin, ?_⟩, fun e2 => ?_⟩⟩⟩
  · rw [nI_eq (by omega) hv] at e
    rw [othN, if_pos e] at h; exact h
  · rw [nI_eq (by omega) hv] at e e2
    rw [othN, if_neg e, if_pos e2] at h; exact h
  · rw [nI_eq (by omega) hv] at e e2
    rw [othN, if_neg e, if_neg e2] at h; exact h
end REF2
