/-! ===== faces of the reference ===== -/
section WKC
variable {d : Nat} {Q : fl_R} {W : fl_W} {V : Nat} {es : gE} {R : Nat → List Nat}
theorem rf_tail {x : Nat} (hG : RfG W V es) (hx : x < 2 * es.length) (h : Q (some (.int (nI (tlD es x)))) W) : fl_cal (d + 1) 164 [.ref 229, .int (nI x)] W Q := by
  have hE := hG.2.1
  obtain ⟨g, g1, g2⟩ := dart_ends hx
  obtain ⟨c1, c2⟩ := hG.2.2.2.2.2 _ g g1
  refine sx_164 _ W ?_
  rw [fwx_5 x (by omega), fwx_4 x (by omega), nI_clamp (by omega), c1, c2]
  refine ⟨fun z => ⟨in_N (by omega) (by omega), ?_⟩, fun z => ⟨in_N (by omega) (by omega), ?_⟩⟩
  · rw [cz_0, nI_eq (by omega) (by omega)] at z
    rcases g2 with ⟨-, e, -⟩ | ⟨m, -, -⟩
    · rw [e] at h; exact h
    · omega
  · have : x % 2 ≠ 0 := fun e => z (by rw [e]; rfl)
    rcases g2 with ⟨m, -, -⟩ | ⟨-, e, -⟩
    · omega
    · rw [e] at h; exact h
theorem rf_dart {u v : Nat} (hG : RfG W V es) (ha : adj es u v = true) (h : Q (some (.int (nI (dno es u v)))) W) : fl_cal (d + 2) 165 [.ref 229, .int (nI u), .int (nI v)] W Q := by
  have hV := hG.1
  have hO := hG.2.2.1
  have hlt := adj_lt hO ha
  obtain ⟨j, hj⟩ : ∃ j, eNo es u v = some j := by
    rw [← eNo_adj hO] at ha
    exact Option.isSome_iff_exists.mp ha
  have hd : dno es u v = 2 * j + (if u < v then 0 else 1) := by unfold dno; rw [hj]; rfl
  rw [hd] at h
  refine sx_165 _ _ W (rf_eOf (by omega) (by omega) hG ?_)
  rw [hj]
  show mi_br (nI u < nI v) (Q (some (.int (Int32.ofInt 2 * nI j + Int32.ofInt 0))) W) (Q (some (.int (Int32.ofInt 2 * nI j + Int32.ofInt 1))) W)
  rw [ci_2, nI_mul, ci_0, ci_1, nI_add, nI_add]
  refine ⟨fun z => ?_, fun z => ?_⟩
  · rw [nI_ltI (by omega) (by omega)] at z
    rw [if_pos z] at h; exact h
  · rw [nI_ltI (by omega) (by omega)] at z
    rw [if_neg z] at h; exact h
theorem rf_fol_l {x y : Nat} (hG : RfG W V es) (hT : TOK es R) (hR : RT W V R) (hy : y < V) (hx : x ∈ R y) (h : Q (some (.int (nI (dno es y (nxtN (R y) x))))) W) : ∀ (n k : Nat), (R y).idxOf x - k = n → k ≤ (R y).idxOf x → hd_166_17 (d + 2) Q (nI x) (nI y) (nI k) W := by
  have hV := hG.1
  have hO := hG.2.2.1
  obtain ⟨t1, t2, t3⟩ := hR y hy
  have hl := List.idxOf_lt_length_of_mem hx
  have hmem : ∀ z, z ∈ R y → z < 20 := fun z hz => by have := (adj_lt hO (((hT y).2 z).mp hz)).2.1; omega
  intro n
  induction n with
  | zero =>
    intro k h1 h2
    have hk : k = (R y).idxOf x := by omega
    have hat := idx_at hx
    rw [← hk] at hat
    have hnx := nxtN_at hx
    rw [← hk] at hnx
    have hmod : (k + 1) % (R y).length < (R y).length := Nat.mod_lt _ (by omega)
    refine sx_166_17 _ _ _ W ?_
    rw [cb_20, i20 (by omega) (by omega), nI_clamp (by omega), t3 k x hat]
    refine ⟨in_N (by omega) (by omega), fun _ => ⟨in_N (by omega) (by omega), ?_⟩, fun z => absurd rfl z⟩
    rw [nI_clamp (by omega), t1, ci_1, nI_add, nI_mod (k + 1) (by omega) (R y).length (by omega) (by omega), nI_mul, nI_add, nI_clamp (by omega), t3 _ _ hnx]
    refine ⟨by rw [cz_0, nI_eq (by omega) (by omega)]; omega, in_N (by omega) (by omega), rf_dart hG (((hT y).2 _).mp (nxtN_mem hx)) h⟩
  | succ n ih =>
    intro k h1 h2
    have hkl : k < (R y).length := by omega
    have hp := List.getElem?_eq_getElem hkl
    have hne : (R y)[k] ≠ x := fun e => by
      rw [e] at hp
      have := idx_min hp
      omega
    have hz := hmem _ (List.getElem_mem hkl)
    have hx20 := hmem x hx
    refine sx_166_17 _ _ _ W ?_
    rw [cb_20, i20 (by omega) (by omega), nI_clamp (by omega), t3 k _ hp]
    refine ⟨in_N (by omega) (by omega), fun z => absurd ((nI_eq (by omega) (by omega)).mp z) hne, fun _ => ?_⟩
    rw [ci_1, nI_add]
    exact ih (k + 1) (by omega) (by omega)
theorem rf_fol {x : Nat} (hG : RfG W V es) (hT : TOK es R) (hR : RT W V R) (hx : x < 2 * es.length) (h : Q (some (.int (nI (nxD es R x)))) W) : fl_cal (d + 3) 166 [.ref 229, .int (nI x)] W Q := by
  have hE := hG.2.1
  have hO := hG.2.2.1
  obtain ⟨n1, n2, n3⟩ := nx_ok hO hT hx
  have hhh : tlD es (twD x) = hdD es x := rfl
  refine sx_166 _ W (rf_tail hG hx ?_)
  rw [fwx_1 x (by omega)]
  refine rf_tail hG (tw_lt hx).1 ?_
  rw [hhh, ci_0]
  exact rf_fol_l hG hT hR (adj_lt hO (dart_adj hx)).2.1 n3 h _ 0 rfl (Nat.zero_le _)
/-- one face gone round -/
theorem rf_mf_c {c d0 : Nat} (hT : TOK es R) (hc : c < 120) : ∀ (n x : Nat) (W : fl_W) (F : Nat → Option Nat), unm F (2 * es.length) ≤ n → x < 2 * es.length → RfG W V es → RT W V R → W 229 41 = nI c → (∀ y, y < 2 * es.length → W 255 y = optI (F y)) → (∀ y z, F y = some z → z < 120) →
    (∀ W', (∀ y, y < 2 * es.length → W' 255 y = optI (mkF (nxD es R) n x c F y)) → W' 229 41 = nI (c + 1) → EqF [41] [255] W W' → hd_167_32 (d + 3) Q (nI (d0 + 1)) W') → hd_167_56 (d + 3) Q (nI d0) (nI x) W := by
  intro n
  induction n with
  | zero =>
    intro x W F hu hx hG hR h41 hF hFb h
    have hE := hG.2.1
    obtain ⟨z, hz⟩ : ∃ z, F x = some z := by
      cases hh : F x with
      | some z => exact ⟨z, rfl⟩
      | none => have := unm_pos hx hh; omega
    have hzb := hFb x z hz
    refine sx_167_56 _ _ W ⟨in_N (by omega) (by omega), ?_⟩
    rw [nI_clamp (by omega), hF x hx, hz]
    refine ⟨fun w => absurd w (nI_pos (by omega)), fun _ W3 e3 => ?_⟩
    rw [h41, ci_1, nI_add] at e3
    rw [ci_1, nI_add]
    refine h W3 (fun y hy => by rw [e3, uw_n (by decide)]; exact hF y hy) (by rw [e3, uw_s]) (by rw [e3]; exact EqF.uwF (by simp))
  | succ n ih =>
    intro x W F hu hx hG hR h41 hF hFb h
    have hE := hG.2.1
    have hO := hG.2.2.1
    refine sx_167_56 _ _ W ⟨in_N (by omega) (by omega), ?_⟩
    rw [nI_clamp (by omega), hF x hx]
    cases hh : F x with
    | some z =>
      have hzb := hFb x z hh
      have hmk : mkF (nxD es R) (n + 1) x c F = F := by rw [mkF, hh]; rfl
      rw [hmk] at h
      refine ⟨fun w => absurd w (nI_pos (by omega)), fun _ W3 e3 => ?_⟩
      rw [h41, ci_1, nI_add] at e3
      rw [ci_1, nI_add]
      refine h W3 (fun y hy => by rw [e3, uw_n (by decide)]; exact hF y hy) (by rw [e3, uw_s]) (by rw [e3]; exact EqF.uwF (by simp))
    | none =>
      have hmk : mkF (nxD es R) (n + 1) x c F = mkF (nxD es R) n (nxD es R x) c (fun y => if y = x then some c else F y) := by rw [mkF, hh]; rfl
      rw [hmk] at h
      refine ⟨fun _ => ⟨in_N (by omega) (by omega), fun W4 e4 => ?_⟩, fun w => absurd (show optI none < 0 by decide) w⟩
      rw [h41] at e4
      have f4 : EqF [41] [255] W W4 := by rw [e4]; exact EqF.uwA (by simp) (by decide)
      have hG4 := hG.fr f4 (by decide) (by decide) (by decide) (by decide)
      have hR4 := hR.fr f4 (by decide) (by decide)
      refine rf_fol hG4 hT hR4 hx ?_
      have := unm_set (c := c) hx hh
      refine ih (nxD es R x) W4 (fun y => if y = x then some c else F y) (by omega) (nx_ok hO hT hx).1 hG4 hR4 (by rw [f4.1 229 |> fun _ => e4, uw_n (by decide)]; exact h41) (fun y hy => ?_) (fun y z hy => ?_) fun W' j1 j2 j3 => h W' j1 j2 (f4.tr j3)
      · rw [e4]
        by_cases e : y = x
        · rw [e, uw_s, if_pos rfl]; rfl
        · rw [uw_m e, if_neg e]; exact hF y hy
      · by_cases e : y = x
        · rw [if_pos e] at hy; cases hy; omega
        · rw [if_neg e] at hy; exact hFb y z hy
theorem rf_mf_b (hT : TOK es R) : ∀ (n i : Nat) (W : fl_W), 2 * es.length - i = n → i ≤ 2 * es.length → RfG W V es → RT W V R → W 229 41 = nI (stF (nxD es R) i).2.length → (∀ y, y < 2 * es.length → W 255 y = optI ((stF (nxD es R) i).1 y)) →
    (∀ W', (∀ y, y < 2 * es.length → W' 255 y = optI ((stF (nxD es R) (2 * es.length)).1 y)) → W' 229 41 = nI (stF (nxD es R) (2 * es.length)).2.length → EqF [41] [255] W W' → Q none W') → hd_167_32 (d + 3) Q (nI i) W := by
  intro n
  induction n with
  | zero =>
    intro i W h1 h2 hG hR h41 hF h
    have hE := hG.2.1
    have hi : i = 2 * es.length := by omega
    subst hi
    refine sx_167_32 _ W ⟨fun q => absurd q ?_, fun _ => h W hF h41 EqF.rf⟩
    rw [hG.2.2.2.2.1, ci_2, nI_mul]; exact nI_nlt (Nat.le_refl _) (by omega)
  | succ n ih =>
    intro i W h1 h2 hG hR h41 hF h
    have hE := hG.2.1
    have hO := hG.2.2.1
    have hi : i < 2 * es.length := by omega
    obtain ⟨s1, s2, s3, s4⟩ := stF_sp (nx := nxD es R) i
    refine sx_167_32 _ W ⟨fun _ => ⟨in_N (by omega) (by omega), ?_⟩, fun q => absurd ?_ q⟩
    · rw [nI_clamp (by omega), hF i hi]
      cases hh : (stF (nxD es R) i).1 i with
      | some z =>
        have := s2 i z hh
        have hst : stF (nxD es R) (i + 1) = stF (nxD es R) i := by rw [stF, hh]; rfl
        refine ⟨fun w => absurd w (nI_pos (by omega)), fun _ => ?_⟩
        rw [ci_1, nI_add]
        exact ih (i + 1) W (by omega) (by omega) hG hR (by rw [hst]; exact h41) (by rw [hst]; exact hF) h
      | none =>
        have hst : stF (nxD es R) (i + 1) = (mkF (nxD es R) 120 i (stF (nxD es R) i).2.length (stF (nxD es R) i).1, (stF (nxD es R) i).2 ++ [i]) := by rw [stF, hh]; rfl
        have hum : unm (stF (nxD es R) i).1 (2 * es.length) ≤ 120 := by
          have := cnt_le (fun x => ((stF (nxD es R) i).1 x).isNone) (2 * es.length)
          unfold unm
          omega
        refine ⟨fun _ => ?_, fun w => absurd (show optI none < 0 by decide) w⟩
        refine rf_mf_c (c := (stF (nxD es R) i).2.length) hT (by omega) 120 i W (stF (nxD es R) i).1 hum hi hG hR h41 hF (fun y z hy => by have := s2 y z hy; omega) fun W1 k1 k2 k3 => ?_
        refine ih (i + 1) W1 (by omega) (by omega) (hG.fr k3 (by decide) (by decide) (by decide) (by decide)) (hR.fr k3 (by decide) (by decide)) (by rw [hst, k2]; simp) (fun y hy => by rw [hst]; exact k1 y hy) fun W' j1 j2 j3 => h W' j1 j2 (k3.tr j3)
    · rw [hG.2.2.2.2.1, ci_2, nI_mul]; exact nI_lt hi (by omega)
theorem rf_mf_a : ∀ (n i : Nat) (W : fl_W), 2 * es.length - i = n → i ≤ 2 * es.length → RfG W V es → (∀ y, y < i → W 255 y = -1) → (∀ W', (∀ y, y < 2 * es.length → W' 255 y = -1) → EqF [] [255] W W' → hd_167_32 d Q (nI 0) W') → hd_167_7 d Q (nI i) W := by
  intro n
  induction n with
  | zero =>
    intro i W h1 h2 hG hall h
    have hE := hG.2.1
    refine sx_167_7 _ W ⟨fun q => absurd q ?_, fun _ => h W (fun y hy => hall y (by omega)) EqF.rf⟩
    rw [hG.2.2.2.2.1, ci_2, nI_mul]; exact nI_nlt (by omega) (by omega)
  | succ n ih =>
    intro i W h1 h2 hG hall h
    have hE := hG.2.1
    refine sx_167_7 _ W ⟨fun _ => ⟨in_N (by omega) (by omega), fun W2 e2 => ?_⟩, fun q => absurd ?_ q⟩
    · rw [nI_clamp (by omega)] at e2
      have f2 : EqF [] [255] W W2 := by rw [e2]; exact EqF.uwA (by simp) (by decide)
      rw [ci_1, nI_add]
      refine ih (i + 1) W2 (by omega) (by omega) (hG.fr f2 (by decide) (by decide) (by decide) (by decide)) (fun y hy => ?_) fun W' k1 k2 => h W' k1 (f2.tr k2)
      rw [e2]
      by_cases e : y = i
      · rw [e, uw_s]; rfl
      · rw [uw_m e]; exact hall y (by omega)
    · rw [hG.2.2.2.2.1, ci_2, nI_mul]; exact nI_lt (by omega) (by omega)
/-- makeFaces -/
theorem rf_makeFaces (hT : TOK es R) (hG : RfG W V es) (hR : RT W V R) (h : ∀ W', (∀ y, y < 2 * es.length → W' 255 y = optI ((stF (nxD es R) (2 * es.length)).1 y)) → W' 229 41 = nI (stF (nxD es R) (2 * es.length)).2.length → EqF [41] [255] W W' → Q none W') : fl_cal (d + 4) 167 [.ref 229] W Q := by
  refine sx_167 W fun W1 e1 => ?_
  have f1 : EqF [41] [255] W W1 := by rw [e1]; exact EqF.uwF (by simp)
  rw [ci_0]
  refine rf_mf_a _ 0 W1 rfl (Nat.zero_le _) (hG.fr f1 (by decide) (by decide) (by decide) (by decide)) (fun y hy => by omega) fun W2 k1 k2 => ?_
  have f2 : EqF [41] [255] W W2 := f1.tr (k2.mono (by simp) (by simp))
  refine rf_mf_b hT _ 0 W2 rfl (Nat.zero_le _) (hG.fr f2 (by decide) (by decide) (by decide) (by decide)) (hR.fr f2 (by decide) (by decide)) (by rw [k2.2 41 (by decide), e1, uw_s]; rfl) (fun y hy => by rw [k1 y hy]; rfl) fun W' j1 j2 j3 => h W' j1 j2 (f2.tr j3)
/-- faces -/
theorem rf_facesNo (h9 : W 229 9 = 0) (h : Q (some (.int (-1))) W) : fl_cal (d + 5) 168 [.ref 229] W Q := sx_168 W ⟨fun _ => h, fun z => absurd h9 z⟩
theorem rf_faces (h9 : W 229 9 ≠ 0) (hT : TOK es R) (hG : RfG W V es) (hR : RT W V R) (h : ∀ W', EqF [41] [255] W W' → Q (some (.int (nI (stF (nxD es R) (2 * es.length)).2.length))) W') : fl_cal (d + 5) 168 [.ref 229] W Q := by
  refine sx_168 W ⟨fun z => absurd z h9, fun _ => rf_makeFaces hT hG hR fun W1 k1 k2 k3 => ?_⟩
  show Q (some (.int (W1 229 41))) W1
  rw [k2]; exact h W1 k3
/-- face -/
theorem rf_fa_b {a i : Nat} (hT : TOK es R) (hG : RfG W V es) (hR : RT W V R) (ha : a < 2 * es.length) (hi : i < 2 ^ 31) : ∀ (n k x : Nat), i - k = n → k ≤ i → x < 2 * es.length → Q (some (.int (match itn (nxD es R) a n x with | none => -1 | some y => nI (tlD es y)))) W → hd_169_67 (d + 3) Q (nI i) (nI a) (nI x) (nI k) W := by
  have hE := hG.2.1
  have hO := hG.2.2.1
  intro n
  induction n with
  | zero =>
    intro k x h1 h2 hx h
    exact sx_169_67 _ _ _ _ W ⟨fun z => absurd z (nI_nlt (by omega) (by omega)), fun _ => rf_tail hG hx h⟩
  | succ n ih =>
    intro k x h1 h2 hx h
    have hnl := (nx_ok hO hT hx).1
    refine sx_169_67 _ _ _ _ W ⟨fun _ => rf_fol hG hT hR hx ⟨fun z => ?_, fun z => ?_⟩, fun z => absurd (nI_lt (by omega) hi) z⟩
    · rw [itn, if_pos ((nI_eq (by omega) (by omega)).mp z)] at h
      exact h
    · rw [itn, if_neg (fun e => z (by rw [e]))] at h
      rw [ci_1, nI_add]
      exact ih (k + 1) (nxD es R x) (by omega) (by omega) hnl h
theorem rf_fa_a {f i : Nat} (hT : TOK es R) (hG : RfG W V es) (hR : RT W V R) (hf : f < 2 ^ 31) (hi : i < 2 ^ 31) (hF : ∀ y, y < 2 * es.length → W 255 y = optI ((stF (nxD es R) (2 * es.length)).1 y)) (h : Q (some (.int (faceI es R (nI f) (nI i)))) W) : ∀ (n k : Nat), 2 * es.length - k = n → k ≤ 2 * es.length → (∀ y, y < k → (stF (nxD es R) (2 * es.length)).1 y ≠ some f) → hd_169_23 (d + 3) Q (nI f) (nI i) (nI k) W := by
  have hE := hG.2.1
  obtain ⟨s1, s2, s3, s4⟩ := stF_sp (nx := nxD es R) (2 * es.length)
  have hfi : faceI es R (nI f) (nI i) = (match (stF (nxD es R) (2 * es.length)).2[f]? with | none => -1 | some y => match itn (nxD es R) y i y with | none => -1 | some x => nI (tlD es x)) := by
    unfold faceI
    rw [if_neg (nI_pos hi), if_neg (nI_pos hf), nI_clamp hf, nI_clamp hi]
    cases (stF (nxD es R) (2 * es.length)).2[f]? with
    | none => rfl
    | some y => cases itn (nxD es R) y i y <;> rfl
  rw [hfi] at h
  intro n
  induction n with
  | zero =>
    intro k h1 h2 hno
    have hk : k = 2 * es.length := by omega
    subst hk
    have hnone : (stF (nxD es R) (2 * es.length)).2[f]? = none := by
      cases hh : (stF (nxD es R) (2 * es.length)).2[f]? with
      | none => rfl
      | some y =>
        obtain ⟨a1, a2, -⟩ := s3 f y hh
        exact absurd a2 (hno y a1)
    rw [hnone] at h
    refine sx_169_23 _ _ _ W ⟨fun q => absurd q ?_, fun _ => ⟨fun _ => h, fun z => absurd ?_ z⟩⟩
    · rw [hG.2.2.2.2.1, ci_2, nI_mul]; exact nI_nlt (Nat.le_refl _) (by omega)
    · rw [hG.2.2.2.2.1, ci_2, nI_mul]
  | succ n ih =>
    intro k h1 h2 hno
    have hk : k < 2 * es.length := by omega
    refine sx_169_23 _ _ _ W ⟨fun _ => ⟨in_N (by omega) (by omega), ?_⟩, fun q => absurd ?_ q⟩
    · rw [nI_clamp (by omega), hF k hk]
      have hsk := s1 k hk
      obtain ⟨c, hc⟩ := Option.isSome_iff_exists.mp hsk
      have hcl := s2 k c hc
      rw [hc]
      show mi_br (nI c = nI f) _ _
      rw [hG.2.2.2.2.1, ci_2, nI_mul]
      refine ⟨fun z => ⟨fun w => ?_, fun _ => ?_⟩, fun z => ?_⟩
      · rw [nI_eq (by omega) (by omega)] at w
        omega
      · have hcf := (nI_eq (by omega) hf).mp z
        rw [hcf] at hc hcl
        obtain ⟨y, hy⟩ : ∃ y, (stF (nxD es R) (2 * es.length)).2[f]? = some y := ⟨_, List.getElem?_eq_getElem hcl⟩
        obtain ⟨a1, a2, a3⟩ := s3 f y hy
        have hyk : y = k := by
          have := a3 k hc
          rcases Nat.lt_or_ge y k with q | q
          · exact absurd a2 (hno y q)
          · omega
        rw [hy, hyk] at h
        rw [ci_0]
        exact rf_fa_b hT hG hR hk hi i 0 k (by omega) (Nat.zero_le _) hk h
      · rw [ci_1, nI_add]
        refine ih (k + 1) (by omega) (by omega) fun y hy => ?_
        by_cases e : y = k
        · rw [e, hc]
          intro w
          cases w
          exact z rfl
        · exact hno y (by omega)
    · rw [hG.2.2.2.2.1, ci_2, nI_mul]; exact nI_lt hk (by omega)
theorem rf_faceNo {f i : Int32} (h9 : W 229 9 = 0) (h : Q (some (.int (-1))) W) : fl_cal (d + 5) 169 [.ref 229, .int f, .int i] W Q := sx_169 _ _ W ⟨fun _ => h, fun z => absurd h9 z⟩
theorem rf_face {f i : Int32} (h9 : W 229 9 ≠ 0) (hT : TOK es R) (hG : RfG W V es) (hR : RT W V R) (h : ∀ W', EqF [41] [255] W W' → Q (some (.int (faceI es R f i))) W') : fl_cal (d + 5) 169 [.ref 229, .int f, .int i] W Q := by
  refine sx_169 _ _ W ⟨fun z => absurd z h9, fun _ => ⟨fun z => ?_, fun z => ⟨fun z2 => ?_, fun z2 => ?_⟩⟩⟩
  · have := h W EqF.rf
    rw [faceI, if_pos z] at this
    exact this
  · have := h W EqF.rf
    rw [faceI, if_neg z, if_pos z2] at this
    exact this
  · obtain ⟨k, hk, e⟩ := i_nonneg z
    obtain ⟨j, hj, e2⟩ := i_nonneg z2
    refine rf_makeFaces hT hG hR fun W1 k1 k2 k3 => ?_
    have := h W1 k3
    rw [e, e2] at this ⊢
    show hd_169_23 (d + 4) Q (nI j) (nI k) (Int32.ofInt 0) W1
    rw [ci_0]
    exact rf_fa_a hT (hG.fr k3 (by decide) (by decide) (by decide) (by decide)) (hR.fr k3 (by decide) (by decide)) hj hk k1 this _ 0 rfl (Nat.zero_le _) (fun y hy => by omega)
end WKC
