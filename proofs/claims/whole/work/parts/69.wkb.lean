/-! ===== Walks of the class, faces of the reference ===== -/
def wkl : List Nat := [202, 203, 204, 205, 206, 207]
theorem net_wkl {b : Nat} (hb : fl_net b) : ∀ a ∈ nl b, a ∉ wkl := by
  intro a ha hc
  simp only [nl, wkl, List.mem_cons, List.not_mem_nil, or_false] at ha hc
  have h1 := net_bases b (fl_lt hb) hb
  omega
theorem tur_wkl {t : Nat} (ht : fl_tur t) : ∀ a ∈ tl t, a ∉ wkl := by
  intro a ha hc
  rw [mem_tl] at ha
  simp only [wkl, List.mem_cons, List.not_mem_nil, or_false] at hc
  have h1 := tur_bases t (fl_lt ht) ht
  omega
/-- the state of Walks -/
def WkR (W : fl_W) (es : gE) (R : Nat → List Nat) : Prop := (∀ x, x < 2 * es.length → W 203 x = nI (nxD es R x)) ∧ RowR W 206 (nL (stF (nxD es R) (2 * es.length)).2) ∧ W 202 4 = nI (stF (nxD es R) (2 * es.length)).2.length
theorem WkR.fr {W W' : fl_W} {es : gE} {R : Nat → List Nat} {l : List Nat} (h : WkR W es R) (hE : EqX l W W') (h1 : ∀ a ∈ wkl, a ∉ l) : WkR W' es R := by
  refine ⟨fun x hx => ?_, h.2.1.fr hE (h1 206 (by decide)) (h1 207 (by decide)), ?_⟩
  · rw [hE 203 (h1 203 (by decide))]; exact h.1 x hx
  · rw [hE 202 (h1 202 (by decide))]; exact h.2.2
section WKB
variable {d : Nat} {Q : fl_R} {W : fl_W} {V b t : Nat} {es : gE} {R : Nat → List Nat}
theorem wk_beginOf {x : Nat} (hb : fl_net b) (hN : NetR W b V es) (hx : x < 2 * es.length) (h : Q (some (.int (nI (tlD es x)))) W) : fl_cal (d + 3) 94 [.ref 202, .ref b, .int (nI x)] W Q := by
  have hl := hN.2.1
  obtain ⟨g, g1, g2⟩ := dart_ends hx
  refine sx_94 b _ W hb ?_
  rw [fwx_3 x (by omega), fwx_2 x (by omega)]
  refine ⟨fun z => ?_, fun z => ?_⟩
  · rw [cz_0, nI_eq (by omega) (by omega)] at z
    refine net_low hb hN g1 ?_
    rcases g2 with ⟨-, e, -⟩ | ⟨m, -, -⟩
    · rw [e] at h; exact h
    · omega
  · have : x % 2 ≠ 0 := fun e => z (by rw [e]; rfl)
    refine net_high hb hN g1 ?_
    rcases g2 with ⟨m, -, -⟩ | ⟨-, e, -⟩
    · omega
    · rw [e] at h; exact h
theorem wk_name_l (hb : fl_net b) : ∀ (n i : Nat) (W : fl_W), es.length - i = n → i ≤ es.length → NetR W b V es → (∀ j g, j < i → es[j]? = some g → W 204 (20 * g.1 + g.2) = nI (2 * j) ∧ W 204 (20 * g.2 + g.1) = nI (2 * j + 1)) →
    (∀ W', (∀ j g, es[j]? = some g → W' 204 (20 * g.1 + g.2) = nI (2 * j) ∧ W' 204 (20 * g.2 + g.1) = nI (2 * j + 1)) → EqX [204] W W' → Q none W') → hd_92_2 (d + 2) Q b (nI i) W := by
  intro n
  induction n with
  | zero =>
    intro i W h1 h2 hN hd h
    have := hN.2.1
    refine sx_92_2 b _ W hb ⟨fun q => absurd q ?_, fun _ => h W (fun j g hj => hd j g ?_ hj) EqX.rf⟩
    · rw [hN.2.2.2.2.1]; exact nI_nlt (by omega) (by omega)
    · have := (List.getElem?_eq_some_iff.mp hj).1; omega
  | succ n ih =>
    intro i W h1 h2 hN hd h
    have hl := hN.2.1
    have hV := hN.1
    have hO := hN.2.2.1
    have hi : i < es.length := by omega
    have hp := List.getElem?_eq_getElem hi
    have hg := hO.1 _ (List.mem_of_getElem? hp)
    generalize hgg : es[i] = g at hp hg
    refine sx_92_2 b _ W hb ⟨fun _ => ?_, fun q => absurd ?_ q⟩
    · refine net_low hb hN hp (net_high hb hN hp (net_hasV hb hN ?_))
      rw [ixB_N (by omega), decide_eq_true (show g.1 < V by omega)]
      refine ⟨fun z => absurd z (by decide), fun _ => net_hasV hb hN ?_⟩
      rw [ixB_N (by omega), decide_eq_true (show g.2 < V by omega)]
      refine ⟨fun z => absurd z (by decide), fun _ => ?_⟩
      rw [cb_20, i20 (by omega) (by omega), i20 (by omega) (by omega), nI_clamp (by omega), nI_clamp (by omega), ci_2, nI_mul, ci_1, nI_add, nI_add]
      refine ⟨in_N (by omega) (by omega), fun W5 e5 => ⟨in_N (by omega) (by omega), fun W6 e6 => ?_⟩⟩
      have f6 : EqX [204] W W6 := by rw [e6, e5]; exact (EqX.uw (by simp)).tr (EqX.uw (by simp))
      refine ih (i + 1) W6 (by omega) (by omega) (hN.fr f6 (fun a ha hc => by simp [nl] at ha; simp at hc; have := net_bases b (fl_lt hb) hb; omega)) (fun j f hj hjf => ?_) fun W' k1 k2 => h W' k1 (f6.tr k2)
      by_cases e : j = i
      · subst e
        rw [hp] at hjf; cases hjf
        rw [e6]
        refine ⟨?_, uw_s⟩
        rw [uw_m (by omega), e5, uw_s]
      · have hf := hO.1 f (List.mem_of_getElem? hjf)
        have hne : f ≠ g := fun ee => e ((List.getElem?_inj (List.getElem?_eq_some_iff.mp hjf).1 hO.2).mp (by rw [hjf, hp, ee]))
        have hpair : ¬ (f.1 = g.1 ∧ f.2 = g.2) := fun z => hne (Prod.ext z.1 z.2)
        obtain ⟨o1, o2⟩ := hd j f (by omega) hjf
        rw [e6, e5, uw_m (by omega), uw_m (by omega), uw_m (by omega), uw_m (by omega)]
        exact ⟨o1, o2⟩
    · rw [hN.2.2.2.2.1]; exact nI_lt hi (by omega)
/-- goRound -/
theorem wk_round {nx : Nat → Nat} {m first c : Nat} {l : List Nat} (hm : m ≤ 120) (hnx : ∀ x, x < m → nx x < m) (hfirst : first < 120) (hll : l.length < 120) (hlc : l.length = c) : ∀ (k i x : Nat) (W : fl_W) (F : Nat → Option Nat), 120 - i = k → i ≤ 120 → x < m → (∀ y, y < m → W 203 y = nI (nx y)) → (∀ y, y < m → W 205 y = optI (F y)) → (∀ y z, F y = some z → z < 120) → W 202 4 = nI c → RowR W 206 (nL l) →
    (∀ W', (∀ y, y < m → W' 205 y = optI (mkF nx k x c F y)) → W' 202 4 = nI (c + 1) → RowR W' 206 (nL (l ++ [first])) → EqX [202, 205, 206, 207] W W' → Q none W') → hd_93_4 (d + 1) Q (nI first) (nI x) (nI i) W := by
  have fin : ∀ (W : fl_W) (G : Nat → Option Nat), (∀ y, y < m → W 205 y = optI (G y)) → W 202 4 = nI c → RowR W 206 (nL l) → (∀ W', (∀ y, y < m → W' 205 y = optI (G y)) → W' 202 4 = nI (c + 1) → RowR W' 206 (nL (l ++ [first])) → EqX [202, 205, 206, 207] W W' → Q none W') → fl_cal (d + 1) 65 [.ref 206, .int (nI first)] W (fl_q0 fun W8 => ∀ W9 : fl_W, W9 = fl_uw W8 202 4 ((W8 202 4) + (Int32.ofInt 1)) → Q none W9) := by
    intro W G hG hc hrow h
    refine row_add (r := 206) rfl hrow (by rw [nL_len]; exact hll) fun W8 r8 f8 W9 e9 => ?_
    have e4 : W8 202 4 = nI c := by rw [f8 202 (by decide)]; exact hc
    rw [e4, ci_1, nI_add] at e9
    have f9 : EqX [202] W8 W9 := by rw [e9]; exact EqX.uw (by simp)
    refine h W9 (fun y hy => by rw [f9 205 (by decide), f8 205 (by decide)]; exact hG y hy) (by rw [e9, uw_s]) ?_ ((f8.mono (by decide)).tr (f9.mono (by decide)))
    rw [nL_app]
    exact r8.fr f9 (by decide) (by decide)
  intro k
  induction k with
  | zero =>
    intro i x W F h1 h2 hx hn hF hFb hc hrow h
    have hi : i = 120 := by omega
    subst hi
    refine sx_93_4 _ _ _ W ⟨fun z => absurd z ?_, fun _ => fin W F hF hc hrow h⟩
    rw [cb_120]; exact nI_nlt (by omega) (by omega)
  | succ k ih =>
    intro i x W F h1 h2 hx hn hF hFb hc hrow h
    refine sx_93_4 _ _ _ W ⟨fun _ => ⟨fun z => absurd z (nI_pos (by omega)), fun _ => ⟨fun _ => ⟨in_N (by omega) (by omega), ?_⟩, fun z => absurd ?_ z⟩⟩, fun z => absurd ?_ z⟩
    · rw [nI_clamp (by omega), hF x hx, ci_m]
      refine ⟨fun z => ⟨in_N (by omega) (by omega), fun W7 e7 => ⟨in_N (by omega) (by omega), ?_⟩⟩, fun z => ?_⟩
      · have hnone := (optI_nm fun y hy => by have := hFb x y hy; omega).mp z
        rw [hc] at e7
        have f7 : EqX [202, 205, 206, 207] W W7 := by rw [e7]; exact EqX.uw (by simp)
        have e203 : W7 203 = W 203 := by rw [e7]; exact uw_n (by decide)
        rw [e203, hn x hx, ci_1, nI_add]
        have hmk : mkF nx (k + 1) x c F = mkF nx k (nx x) c (fun y => if y = x then some c else F y) := by rw [mkF, hnone]; rfl
        rw [hmk] at h
        refine ih (i + 1) (nx x) W7 (fun y => if y = x then some c else F y) (by omega) (by omega) (hnx x hx) (fun y hy => by rw [e203]; exact hn y hy) (fun y hy => ?_) (fun y z hy => ?_) (by rw [e7, uw_n (by decide)]; exact hc) (hrow.fr (l := [205]) (by rw [e7]; exact EqX.uw (by simp)) (by decide) (by decide)) fun W' j1 j2 j3 j4 => h W' j1 j2 j3 (f7.tr j4)
        · rw [e7]
          by_cases e : y = x
          · rw [e, uw_s, if_pos rfl]; rfl
          · rw [uw_m e, if_neg e]; exact hF y hy
        · by_cases e : y = x
          · rw [if_pos e] at hy; cases hy; omega
          · rw [if_neg e] at hy; exact hFb y z hy
      · have hsome : (F x).isSome = true := by
          cases hh : F x with
          | some y => rfl
          | none => rw [hh] at z; exact absurd rfl z
        have hmk : mkF nx (k + 1) x c F = F := by rw [mkF, if_pos hsome]
        rw [hmk] at h
        exact fin W F hF hc hrow h
    · rw [cb_120]; exact nI_lt (by omega) (by omega)
    · rw [cb_120]; exact nI_lt (by omega) (by omega)
theorem wk_find_b (hb : fl_net b) (ht : fl_tur t) (hO : okE V es) (hT : TOK es R) (hl : es.length ≤ 60) : ∀ (n i : Nat) (W : fl_W), 2 * es.length - i = n → i ≤ 2 * es.length → NetR W b V es → (∀ x, x < 2 * es.length → W 203 x = nI (nxD es R x)) → (∀ x, x < 2 * es.length → W 205 x = optI ((stF (nxD es R) i).1 x)) → W 202 4 = nI (stF (nxD es R) i).2.length → RowR W 206 (nL (stF (nxD es R) i).2) →
    (∀ W', WkR W' es R → EqX wkl W W' → Q none W') → hd_91_108 (d + 2) Q b t (nI i) W := by
  intro n
  induction n with
  | zero =>
    intro i W h1 h2 hN h3 h5 h4 hrow h
    have hi : i = 2 * es.length := by omega
    subst hi
    refine sx_91_108 b t _ W hb ht ⟨fun q => absurd q ?_, fun _ => h W ⟨h3, hrow, h4⟩ EqX.rf⟩
    rw [hN.2.2.2.2.1, ci_2, nI_mul]; exact nI_nlt (Nat.le_refl _) (by omega)
  | succ n ih =>
    intro i W h1 h2 hN h3 h5 h4 hrow h
    have hi : i < 2 * es.length := by omega
    obtain ⟨s1, s2, s3, s4⟩ := stF_sp (nx := nxD es R) i
    refine sx_91_108 b t _ W hb ht ⟨fun _ => ⟨fun _ => ⟨in_N (by omega) (by omega), ?_⟩, fun q => absurd ?_ q⟩, fun q => absurd ?_ q⟩
    · rw [nI_clamp (by omega), h5 i hi, ci_m]
      refine ⟨fun z => ?_, fun z => ?_⟩
      · have hnone := (optI_nm fun y hy => by have := s2 i y hy; omega).mp z
        refine sx_93 _ W ?_
        rw [ci_0]
        have hst : stF (nxD es R) (i + 1) = (mkF (nxD es R) 120 i (stF (nxD es R) i).2.length (stF (nxD es R) i).1, (stF (nxD es R) i).2 ++ [i]) := by rw [stF, hnone]; rfl
        refine wk_round (nx := nxD es R) (m := 2 * es.length) (by omega) (fun x hx => (nx_ok hO hT hx).1) (by omega) (by omega) rfl 120 0 i W (stF (nxD es R) i).1 (by omega) (by omega) hi h3 h5 (fun y z hy => by have := s2 y z hy; omega) h4 hrow fun W1 k1 k2 k3 k4 => ?_
        show hd_91_108 (d + 2) Q b t (nI i + Int32.ofInt 1) W1
        have f1 : EqX wkl W W1 := k4.mono (by decide)
        rw [ci_1, nI_add]
        refine ih (i + 1) W1 (by omega) (by omega) (hN.fr f1 (net_wkl hb)) (fun x hx => by rw [k4 203 (by decide)]; exact h3 x hx) (fun x hx => by rw [hst]; exact k1 x hx) (by rw [hst, k2]; simp) (by rw [hst]; exact k3) fun W' j1 j2 => h W' j1 (f1.tr j2)
      · have hsome : ((stF (nxD es R) i).1 i).isSome = true := by
          cases hh : (stF (nxD es R) i).1 i with
          | some y => rfl
          | none => rw [hh] at z; exact absurd rfl z
        have hst : stF (nxD es R) (i + 1) = stF (nxD es R) i := by rw [stF, if_pos hsome]
        rw [ci_1, nI_add]
        exact ih (i + 1) W (by omega) (by omega) hN h3 (by rw [hst]; exact h5) (by rw [hst]; exact h4) (by rw [hst]; exact hrow) h
    · rw [cb_120]; exact nI_lt (by omega) (by omega)
    · rw [hN.2.2.2.2.1, ci_2, nI_mul]; exact nI_lt hi (by omega)
theorem wk_find_a (hb : fl_net b) (ht : fl_tur t) (hT : TOK es R) : ∀ (n i : Nat) (W : fl_W), 2 * es.length - i = n → i ≤ 2 * es.length → NetR W b V es → TurR W t R → (∀ j g, es[j]? = some g → W 204 (20 * g.1 + g.2) = nI (2 * j) ∧ W 204 (20 * g.2 + g.1) = nI (2 * j + 1)) → (∀ x, x < i → W 203 x = nI (nxD es R x) ∧ W 205 x = -1) →
    (∀ W', WkR W' es R → EqX wkl W W' → Q none W') → hd_91_7 (d + 3) Q b t (nI i) W := by
  intro n
  induction n with
  | zero =>
    intro i W h1 h2 hN hR h204 hall h
    have hl := hN.2.1
    have hi : i = 2 * es.length := by omega
    subst hi
    refine sx_91_7 b t _ W hb ht ⟨fun q => absurd q ?_, fun _ W2 e2 => ?_⟩
    · rw [hN.2.2.2.2.1, ci_2, nI_mul]; exact nI_nlt (Nat.le_refl _) (by omega)
    · have f2 : EqX wkl W W2 := by rw [e2]; exact EqX.uw (by simp [wkl])
      refine row_clear (r := 206) rfl fun W3 r3 f3 => ?_
      have f3' : EqX wkl W W3 := f2.tr (f3.mono (by decide))
      have e3 : ∀ a, a ≠ 202 → a ≠ 206 → a ≠ 207 → W3 a = W a := fun a a1 a2 a3 => by
        rw [f3 a (by simp; omega), e2, uw_n a1]
      rw [ci_0]
      refine wk_find_b hb ht hN.2.2.1 hT hl _ 0 W3 rfl (Nat.zero_le _) (hN.fr f3' (net_wkl hb)) (fun x hx => by rw [e3 203 (by decide) (by decide) (by decide)]; exact (hall x hx).1) (fun x hx => by rw [e3 205 (by decide) (by decide) (by decide)]; exact (hall x hx).2) (by rw [f3 202 (by decide), e2, uw_s]; rfl) r3 fun W' j1 j2 => h W' j1 (f3'.tr j2)
  | succ n ih =>
    intro i W h1 h2 hN hR h204 hall h
    have hl := hN.2.1
    have hV := hN.1
    have hO := hN.2.2.1
    have hi : i < 2 * es.length := by omega
    have htw := tw_lt hi
    obtain ⟨n1, n2, n3⟩ := nx_ok hO hT hi
    have hadj := adj_lt hO (dart_adj hi)
    have hz := adj_lt hO n2
    refine sx_91_7 b t _ W hb ht ⟨fun _ => ⟨fun _ => ?_, fun q => absurd ?_ q⟩, fun q => absurd ?_ q⟩
    · rw [fwx_1 i (by omega)]
      have hhh : tlD es (twD i) = hdD es i := rfl
      refine wk_beginOf hb hN htw.1 ?_
      rw [hhh]
      refine wk_beginOf hb hN hi ?_
      refine tur_behind ht hR (by omega) (fun y hy => by have := (adj_lt hO (((hT _).2 y).mp hy)).2.1; omega) n3 ?_
      refine net_joined hb hN (by omega) (by omega) ?_
      rw [n2]
      refine ⟨fun z => absurd z (by decide), fun _ => ?_⟩
      show vp_in ((Int8.ofInt 20).toInt32 * nI (hdD es i) + nI (nxtN (R (hdD es i)) (tlD es i))) 400 ∧ _
      rw [cb_20, i20 (by omega) (by omega), nI_clamp (by omega), nI_clamp (by omega)]
      -- the dart's name
      have hdn : W 204 (20 * hdD es i + nxtN (R (hdD es i)) (tlD es i)) = nI (nxD es R i) := by
        obtain ⟨j, hj⟩ : ∃ j, eNo es (hdD es i) (nxtN (R (hdD es i)) (tlD es i)) = some j := by
          rw [← eNo_adj hO] at n2
          exact Option.isSome_iff_exists.mp n2
        have hat := eNo_at hj
        obtain ⟨o1, o2⟩ := h204 j _ hat
        simp only at o1 o2
        have hd : nxD es R i = 2 * j + (if hdD es i < nxtN (R (hdD es i)) (tlD es i) then 0 else 1) := by unfold nxD dno; rw [hj]; rfl
        rw [hd]
        by_cases q : hdD es i < nxtN (R (hdD es i)) (tlD es i)
        · rw [if_pos q]
          rw [Nat.min_eq_left (by omega), Nat.max_eq_right (by omega)] at o1
          exact o1
        · rw [if_neg q]
          rw [Nat.min_eq_right (by omega), Nat.max_eq_left (by omega)] at o2
          exact o2
      refine ⟨in_N (by omega) (by omega), in_N (by omega) (by omega), fun W12 e12 => ⟨in_N (by omega) (by omega), fun W13 e13 => ?_⟩⟩
      rw [hdn] at e12
      have f13 : EqX [203, 205] W W13 := by rw [e13, e12]; exact (EqX.uw (by simp)).tr (EqX.uw (by simp))
      have f13' : EqX wkl W W13 := f13.mono (by decide)
      rw [ci_1, nI_add]
      refine ih (i + 1) W13 (by omega) (by omega) (hN.fr f13' (net_wkl hb)) (hR.fr f13' (tur_wkl ht)) (fun j g hj => by rw [f13 204 (by decide)]; exact h204 j g hj) (fun x hx => ?_) fun W' j1 j2 => h W' j1 (f13'.tr j2)
      by_cases e : x = i
      · subst e
        refine ⟨?_, by rw [e13, uw_s]; rfl⟩
        rw [e13, uw_n (by decide), e12, uw_s]
      · obtain ⟨o1, o2⟩ := hall x (by omega)
        refine ⟨?_, ?_⟩
        · rw [e13, uw_n (by decide), e12, uw_m e]; exact o1
        · rw [e13, uw_m e, e12, uw_n (by decide)]; exact o2
    · rw [cb_120]; exact nI_lt (by omega) (by omega)
    · rw [hN.2.2.2.2.1, ci_2, nI_mul]; exact nI_lt hi (by omega)
/-- Walks.find -/
theorem wk_find (hb : fl_net b) (ht : fl_tur t) (hT : TOK es R) (hN : NetR W b V es) (hR : TurR W t R) (h : ∀ W', WkR W' es R → EqX wkl W W' → Q none W') : fl_cal (d + 4) 91 [.ref 202, .ref b, .ref t] W Q := by
  refine sx_91 b t W hb ht (sx_92 b W hb ?_)
  rw [ci_0]
  refine wk_name_l hb es.length 0 W (by omega) (Nat.zero_le _) hN (fun j g hj => by omega) fun W1 k1 k2 => ?_
  have f1 : EqX wkl W W1 := k2.mono (by decide)
  show hd_91_7 (d + 3) Q b t (Int32.ofInt 0) W1
  rw [ci_0]
  exact wk_find_a hb ht hT _ 0 W1 rfl (Nat.zero_le _) (hN.fr f1 (net_wkl hb)) (hR.fr f1 (tur_wkl ht)) k1 (fun x hx => by omega) fun W' j1 j2 => h W' j1 (f1.tr j2)
/-- Walks.beginning -/
theorem wk_beg_l {a i : Nat} (hb : fl_net b) (hO : okE V es) (hT : TOK es R) (hN : NetR W b V es) (h3 : ∀ x, x < 2 * es.length → W 203 x = nI (nxD es R x)) (ha : a < 2 * es.length) (hi : i < 120) : ∀ (n k x : Nat), i - k = n → k ≤ i → x < 2 * es.length → Q (some (.int (match itn (nxD es R) a n x with | none => -1 | some y => nI (tlD es y)))) W → hd_95_35 (d + 3) Q b (nI i) (nI a) (nI x) (nI k) W := by
  have hl := hN.2.1
  intro n
  induction n with
  | zero =>
    intro k x h1 h2 hx h
    exact sx_95_35 b _ _ _ _ W hb ⟨fun z => absurd z (nI_nlt (by omega) (by omega)), fun _ => wk_beginOf hb hN hx h⟩
  | succ n ih =>
    intro k x h1 h2 hx h
    have hnl := (nx_ok hO hT hx).1
    refine sx_95_35 b _ _ _ _ W hb ⟨fun _ => ⟨fun z => absurd z (nI_pos (by omega)), fun _ => ⟨fun _ => ⟨in_N (by omega) (by omega), ?_⟩, fun z => absurd ?_ z⟩⟩, fun z => absurd (nI_lt (by omega) (by omega)) z⟩
    · rw [nI_clamp (by omega), h3 x hx]
      refine ⟨fun z => ?_, fun z => ?_⟩
      · rw [itn, if_pos ((nI_eq (by omega) (by omega)).mp z)] at h
        exact h
      · rw [itn, if_neg (fun e => z (by rw [e]))] at h
        rw [ci_1, nI_add]
        exact ih (k + 1) (nxD es R x) (by omega) (by omega) hnl h
    · rw [cb_120]; exact nI_lt (by omega) (by omega)
theorem wk_beg {f i : Int32} (hb : fl_net b) (hT : TOK es R) (hN : NetR W b V es) (hK : WkR W es R) (h : Q (some (.int (faceI es R f i))) W) : fl_cal (d + 4) 95 [.ref 202, .ref b, .int f, .int i] W Q := by
  have hl := hN.2.1
  have hO := hN.2.2.1
  obtain ⟨s1, s2, s3, s4⟩ := stF_sp (nx := nxD es R) (2 * es.length)
  refine sx_95 b _ _ W hb (row_get (r := 206) rfl hK.2.1 ⟨fun z => ?_, fun z => ⟨fun z2 => ⟨fun z3 => ?_, fun z3 => ?_⟩, fun z2 => ?_⟩⟩)
  · rw [faceI, if_pos z] at h; exact h
  · -- no such face
    rw [faceI, if_neg z] at h
    by_cases hf : f < 0
    · rw [if_pos hf] at h; exact h
    · obtain ⟨k, hk, e⟩ := i_nonneg hf
      rw [if_neg hf, e, nI_clamp (by omega)] at h
      rw [e, getI_N (by omega), List.getD_eq_getElem?_getD] at z3
      cases hh : (stF (nxD es R) (2 * es.length)).2[k]? with
      | none => rw [hh] at h; exact h
      | some y =>
        rw [nL_at hh] at z3
        have := (s3 k y hh).1
        exact absurd z3 (nI_nm (by omega))
  · rw [faceI, if_neg z] at h
    by_cases hf : f < 0
    · exact absurd (show getI _ f = Int32.ofInt (-1) by unfold getI; rw [if_pos hf]; rfl) z3
    · obtain ⟨k, hk, e⟩ := i_nonneg hf
      rw [if_neg hf, e, nI_clamp (by omega)] at h
      cases hh : (stF (nxD es R) (2 * es.length)).2[k]? with
      | none =>
        exfalso
        refine z3 ?_
        rw [e, getI_N (by omega), List.getD_eq_getElem?_getD, nL, List.getElem?_map, hh]; rfl
      | some a =>
        rw [hh] at h
        have ha := (s3 k a hh).1
        rw [e, getI_at (by omega) (nL_at hh)]
        obtain ⟨j, hj, ei⟩ := i_nat z (by rw [cb_120] at z2; exact z2) (by omega)
        rw [ei, nI_clamp (by omega)] at h
        rw [ei, ci_0]
        exact wk_beg_l hb hO hT hN hK.1 ha hj j 0 a (by omega) (Nat.zero_le _) ha h
  · -- too far
    rw [faceI, if_neg z] at h
    obtain ⟨j, hj, ei⟩ := i_nonneg z
    have hj120 : 120 ≤ j := by
      rcases Nat.lt_or_ge j 120 with q | q
      · exact absurd (by rw [ei, cb_120]; exact nI_lt q (by omega)) z2
      · exact q
    by_cases hf : f < 0
    · rw [if_pos hf] at h; exact h
    · rw [if_neg hf] at h
      cases hh : (stF (nxD es R) (2 * es.length)).2[f.toNatClampNeg]? with
      | none => rw [hh] at h; exact h
      | some a =>
        rw [hh] at h
        have ha := (s3 _ a hh).1
        simp only at h
        rw [ei, nI_clamp hj, itn_all (fun x hx => (nx_ok hO hT hx).1) (fun x y hx hy => nx_inj hO hT hx hy) ha (by omega)] at h
        exact h
end WKB
