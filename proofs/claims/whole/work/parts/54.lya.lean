/-! ===== Layout: a block taken, its parts weighed ===== -/
/-- what Layout writes to while it lays a block -/
def lyl : List Nat := 9 :: (List.range 100).map fun i => 60 + i
theorem mem_lyl {a : Nat} : a ∈ lyl ↔ a = 9 ∨ (60 ≤ a ∧ a < 160) := by
  unfold lyl
  rw [List.mem_cons, List.mem_map]
  constructor
  · rintro (h | ⟨i, hi, rfl⟩)
    · exact Or.inl h
    · have := List.mem_range.mp hi; omega
  · rintro (h | h)
    · exact Or.inl h
    · exact Or.inr ⟨a - 60, List.mem_range.mpr (by omega), by omega⟩
theorem n60 : fl_net 60 := rfl
theorem n64 : fl_net 64 := rfl
theorem n1 : fl_net 1 := rfl
theorem n5 : fl_net 5 := rfl
/-- the state while a block is laid -/
def LW (W : fl_W) (V : Nat) (bes : gE) (s : List (List Nat) × gE) : Prop := NetR W 60 V bes ∧ NetR W 64 V s.2 ∧ BS (W 9 7) (lvO s.2) ∧ RgR W s.1
section LYA
variable {d : Nat} {Q : fl_R} {W : fl_W} {V b : Nat} {es bes dl : gE} {rs : List (List Nat)}
theorem ly_take_l {nb : Nat × Nat → Nat} {k : Nat} (hb : fl_net b) (hb60 : b ≠ 60) (hk : k < 2 ^ 31) (hnb : ∀ g, g ∈ es → nb g < 2 ^ 31) : ∀ (n i : Nat) (W : fl_W), es.length - i = n → i ≤ es.length → NetR W b V es → (∀ j g, es[j]? = some g → W 15 j = nI (nb g)) → NetR W 60 V ((es.take i).filter fun g => decide (nb g = k)) →
    (∀ W', NetR W' 60 V (es.filter fun g => decide (nb g = k)) → EqX (nl 60) W W' → Q none W') → hd_28_13 (d + 2) Q b (nI k) (nI i) W := by
  have hdis := net_dis hb n60 hb60
  intro n
  induction n with
  | zero =>
    intro i W h1 h2 hS h15 hN h
    have := hS.2.1
    refine sx_28_13 b _ _ W hb ⟨fun q => absurd q ?_, fun _ => h W ?_ EqX.rf⟩
    · rw [hS.2.2.2.2.1]; exact nI_nlt (by omega) (by omega)
    · rwa [List.take_of_length_le (by omega)] at hN
  | succ n ih =>
    intro i W h1 h2 hS h15 hN h
    have hl := hS.2.1
    have hi : i < es.length := by omega
    have hp := List.getElem?_eq_getElem hi
    have hm := List.mem_of_getElem? hp
    have hts := List.take_succ_eq_append_getElem hi
    refine sx_28_13 b _ _ W hb ⟨fun _ => bl_of (by omega) ?_, fun q => absurd ?_ q⟩
    · rw [h15 i _ hp]
      refine ⟨fun z => ?_, fun z => ?_⟩
      · have hz := (nI_eq (hnb _ hm) hk).mp z
        have hsub : ((es.take i).filter fun g => decide (nb g = k)).Sublist (es.take i) := List.filter_sublist
        refine net_low hb hS hp (net_high hb hS hp (net_addE n60 hN (hS.2.2.1.1 _ hm) ?_ ?_ fun W' g1 g2 => ?_))
        · have := adj_ahead hS.2.2.1 (nd_split hp)
          cases hh : adj ((es.take i).filter fun g => decide (nb g = k)) es[i].1 es[i].2 with
          | false => rfl
          | true =>
            rw [← this, adj_iff.mpr ((adj_iff.mp hh).imp (fun q => hsub.subset q) (fun q => hsub.subset q))]
        · have := hsub.length_le
          rw [List.length_take] at this
          omega
        · show hd_28_13 (d + 2) Q b (nI k) (nI i + Int32.ofInt 1) W'
          rw [ci_1, nI_add]
          refine ih (i + 1) W' (by omega) (by omega) (hS.fr g2 hdis) (fun j g hj => by rw [g2 15 (by decide)]; exact h15 j g hj) ?_ fun W'' k1 k2 => h W'' k1 (g2.tr k2)
          rw [hts, List.filter_append, List.filter_cons_of_pos (by simpa using hz), List.filter_nil]
          exact g1
      · have hz : nb es[i] ≠ k := fun e => z (by rw [e])
        rw [ci_1, nI_add]
        refine ih (i + 1) W (by omega) (by omega) hS h15 ?_ h
        rw [hts, List.filter_append, List.filter_cons_of_neg (by simpa using hz), List.filter_nil, List.append_nil]
        exact hN
    · rw [hS.2.2.2.2.1]; exact nI_lt hi (by omega)
/-- Layout.takeBlock -/
theorem ly_take {nb : Nat × Nat → Nat} {k : Nat} (hb : fl_net b) (hb60 : b ≠ 60) (hk : k < 2 ^ 31) (hnb : ∀ g, g ∈ es → nb g < 2 ^ 31) (hN : NetR W b V es) (h15 : ∀ j g, es[j]? = some g → W 15 j = nI (nb g)) (h : ∀ W', NetR W' 60 V (es.filter fun g => decide (nb g = k)) → EqX (nl 60) W W' → Q none W') : fl_cal (d + 3) 28 [.ref 9, .ref b, .int (nI k)] W Q := by
  refine sx_28 b _ W hb ?_
  rw [hN.2.2.2.1]
  refine net_begin n60 hN.1 fun W' g1 g2 => ?_
  exact ly_take_l hb hb60 hk hnb es.length 0 W' (by simp) (Nat.zero_le _) (hN.fr g2 (net_dis hb n60 hb60)) (fun j g hj => by rw [g2 15 (by decide)]; exact h15 j g hj) (by simpa using g1) fun W'' k1 k2 => h W'' k1 (g2.tr k2)
/-- what spreads -/
def spS (A : Nat → Nat → Bool) (lv R : Nat → Bool) (v : Nat) : Bool := R v || anyN fun u => R u && !lv u && A u v
def spr (A : Nat → Nat → Bool) (lv : Nat → Bool) : Nat → (Nat → Bool) → Nat → Bool
  | 0, S => S
  | n + 1, S => spS A lv (spr A lv n S)
theorem spS_congr {A : Nat → Nat → Bool} {lv R R' : Nat → Bool} (h : ∀ v, v < 20 → R v = R' v) : ∀ v, v < 20 → spS A lv R v = spS A lv R' v := fun v hv => by
  rw [spS, spS, h v hv, anyN_congr fun u hu => by rw [h u hu]]
theorem spr_stay {A : Nat → Nat → Bool} {lv S : Nat → Bool} {i : Nat} (h : ∀ v, v < 20 → spS A lv (spr A lv i S) v = spr A lv i S v) : ∀ (n : Nat) v, v < 20 → spr A lv (i + n) S v = spr A lv i S v
  | 0, v, _ => rfl
  | n + 1, v, hv => by
    rw [← Nat.add_assoc, spr, spS_congr (spr_stay h n) v hv]
    exact h v hv
theorem spr_in {A : Nat → Nat → Bool} {lv S : Nat → Bool} (hS : ∀ v, v < 20 → S v = true → lv v = false) : ∀ (n v : Nat), v < 20 → (spr A lv n S v && !lv v) = clo A lv n S v
  | 0, v, hv => by
    show (S v && !lv v) = S v
    cases h : S v with
    | false => rfl
    | true => rw [hS v hv h]; rfl
  | n + 1, v, hv => by
    have ih := spr_in (A := A) hS n
    show (spS A lv (spr A lv n S) v && !lv v) = cloS A lv (clo A lv n S) v
    rw [spS, cloS, ← ih v hv, anyN_congr (p := fun u => spr A lv n S u && !lv u && A u v) (q := fun u => clo A lv n S u && A u v) fun u hu => by rw [ih u hu]]
    cases lv v <;> cases spr A lv n S v <;> simp
theorem spr_ft {A : Nat → Nat → Bool} {lv S : Nat → Bool} (hS : ∀ v, v < 20 → S v = true → lv v = false) {v : Nat} (hv : v < 20) (hl : lv v = true) : ∀ (n : Nat), spr A lv (n + 1) S v = anyN fun u => clo A lv n S u && A u v
  | 0 => by
    show spS A lv S v = anyN fun u => S u && A u v
    have : S v = false := by
      cases h : S v with
      | false => rfl
      | true => rw [hS v hv h] at hl; cases hl
    rw [spS, this, Bool.false_or]
    exact anyN_congr fun u hu => by
      have := spr_in (A := A) hS 0 u hu
      rw [show (S u && !lv u) = S u from this]
  | n + 1 => by
    have ih := spr_ft hS hv hl (A := A) n
    rw [spr, spS, ih, anyN_congr (p := fun u => spr A lv (n + 1) S u && !lv u && A u v) (q := fun u => clo A lv (n + 1) S u && A u v) fun u hu => by rw [spr_in hS (n + 1) u hu]]
    cases h : anyN (fun u => clo A lv n S u && A u v) with
    | false => rfl
    | true =>
      obtain ⟨u, hu, h1⟩ := anyN_iff.mp h
      rw [Bool.and_eq_true] at h1
      rw [anyN_iff.mpr ⟨u, hu, by rw [Bool.and_eq_true]; exact ⟨by rw [clo, cloS, h1.1]; rfl, h1.2⟩⟩]
      rfl
theorem arnd_any (hO : okE V es) (hV : V ≤ 20) {p : Nat → Bool} {i : Nat} : arnd es p V i = anyN fun u => p u && adj es u i := by
  rw [Bool.eq_iff_iff, anyN_iff, arnd, List.any_eq_true]
  constructor
  · rintro ⟨u, h1, h2⟩
    exact ⟨u, by have := List.mem_range.mp h1; omega, h2⟩
  · rintro ⟨u, h1, h2⟩
    rw [Bool.and_eq_true] at h2
    exact ⟨u, List.mem_range.mpr (adj_lt hO h2.2).1, by rw [Bool.and_eq_true]; exact h2⟩
theorem ly_spread_l {lv S : Nat → Bool} (hN : NetR W 60 V bes) (hl : BS (W 9 7) lv) : ∀ (n i : Nat) (x : Int32), 20 - i = n → i ≤ 20 → BS x (spr (adj bes) lv i S) → (∀ z, BS z (spr (adj bes) lv 20 S) → Q (some (.int z)) W) → hd_35_4 (d + 1) Q x (nI i) W := by
  intro n
  induction n with
  | zero =>
    intro i x h1 h2 hx h
    have : i = 20 := by omega
    subst this
    refine sx_35_4 _ _ W ⟨fun q => absurd q ?_, fun _ => h x hx⟩
    rw [cb_20]; exact nI_nlt (by omega) (by omega)
  | succ n ih =>
    intro i x h1 h2 hx h
    refine sx_35_4 _ _ W ⟨fun _ => ?_, fun q => absurd ?_ q⟩
    · rw [ci_m]
      refine net_all n60 hN (hx.lo.and hl.lo.not) fun z hz => ?_
      have hor : BS (x ||| z) (spr (adj bes) lv (i + 1) S) := (hx.or hz).congr fun v hv => by
        rw [arnd_any hN.2.2.1 hN.1]
        rfl
      refine ⟨fun e => ?_, fun _ => ?_⟩
      · rw [e] at hor
        refine h x (hx.congr fun v hv => ?_)
        have h20 : 20 = i + (20 - i) := by omega
        rw [h20, spr_stay fun v hv => ((hor.eq hx).mp rfl v hv)]
        exact hv
      · rw [ci_1, nI_add]
        exact ih (i + 1) (x ||| z) (by omega) (by omega) hor h
    · rw [cb_20]; exact nI_lt (by omega) (by omega)
/-- Layout.spread -/
theorem ly_spread {lv S : Nat → Bool} {x : Int32} (hN : NetR W 60 V bes) (hl : BS (W 9 7) lv) (hx : BS x S) (h : ∀ z, BS z (spr (adj bes) lv 20 S) → Q (some (.int z)) W) : fl_cal (d + 2) 35 [.ref 9, .int x] W Q :=
  sx_35 _ W (ly_spread_l hN hl 20 0 x (by omega) (by omega) hx h)
/-- what was chosen of the parts ps -/
def CH (W : fl_W) (bes dl : gE) (rs : List (List Nat)) (ps : gE) : Prop :=
  (∀ g, g ∈ ps → ∃ i, fst1 bes dl rs g = some i) ∧
  ((ps = [] ∧ W 9 10 = -1 ∧ W 9 11 = 0) ∨ ∃ g i, cho bes dl rs ps = some g ∧ fst1 bes dl rs g = some i ∧ W 9 10 = nI i ∧ BS (W 9 8) (innr bes dl g) ∧ BS (W 9 9) (feet bes dl g) ∧ W 9 11 = (if one1 bes dl rs g then 1 else 0))
theorem cho_all {ps : gE} (h : ∀ g, g ∈ ps → ∃ i, fst1 bes dl rs g = some i) : cho bes dl rs ps = (match ps.find? (fun g => one1 bes dl rs g) with | some g => some g | none => ps.head?) := by
  have hn : ¬ ps.any (fun g => (fst1 bes dl rs g).isNone) = true := fun z => by
    obtain ⟨g, h1, h2⟩ := List.any_eq_true.mp z
    obtain ⟨i, hi⟩ := h g h1
    rw [hi] at h2
    cases h2
  unfold cho
  rw [if_neg hn]
  cases ps.find? (fun g => one1 bes dl rs g) <;> rfl
theorem cho_add {ps : gE} {f : Nat × Nat} (h : ∀ g, g ∈ ps → ∃ i, fst1 bes dl rs g = some i) (hf : ∃ i, fst1 bes dl rs f = some i) :
    (∀ g, cho bes dl rs ps = some g → one1 bes dl rs g = true → cho bes dl rs (ps ++ [f]) = some g) ∧ (ps = [] → cho bes dl rs (ps ++ [f]) = some f) ∧
    (∀ g, cho bes dl rs ps = some g → one1 bes dl rs g = false → cho bes dl rs (ps ++ [f]) = if one1 bes dl rs f then some f else some g) := by
  have h' : ∀ g, g ∈ ps ++ [f] → ∃ i, fst1 bes dl rs g = some i := fun g hg => by
    rcases List.mem_append.mp hg with q | q
    · exact h g q
    · rw [List.mem_singleton.mp q]; exact hf
  rw [cho_all h, cho_all h', List.find?_append]
  refine ⟨fun g e1 e2 => ?_, fun e => ?_, fun g e1 e2 => ?_⟩
  · cases hq : ps.find? (fun g => one1 bes dl rs g) with
    | some g' =>
      rw [hq] at e1
      exact e1
    | none =>
      rw [hq] at e1
      have := List.find?_eq_none.mp hq g (List.mem_of_mem_head? e1)
      exact absurd e2 this
  · rw [e]
    cases ho : one1 bes dl rs f <;> simp [ho]
  · cases hq : ps.find? (fun g => one1 bes dl rs g) with
    | some g' =>
      rw [hq] at e1
      cases e1
      have := List.find?_some hq
      rw [e2] at this
      cases this
    | none =>
      rw [hq] at e1
      have e1 : ps.head? = some g := e1
      have hne : (ps ++ [f]).head? = some g := by rw [List.head?_append, e1]; rfl
      cases ho : one1 bes dl rs f with
      | true => simp [ho]
      | false =>
        simp only [Option.none_or, List.find?_cons, ho, List.find?_nil]
        exact hne
theorem optI_nm {o : Option Nat} (h : ∀ i, o = some i → i < 2 ^ 31) : optI o = -1 ↔ o = none := by
  cases o with
  | none => exact ⟨fun _ => rfl, fun _ => rfl⟩
  | some i => exact ⟨fun z => absurd z (nI_nm (h i rfl)), fun z => by cases z⟩
theorem fitF_bd {q : Nat → Bool} {rs : List (List Nat)} {i j : Nat} (h : fitF q rs i = some j) : j < i + rs.length := by
  obtain ⟨h1, r, h2, -⟩ := fitF_sp h
  have := (List.getElem?_eq_some_iff.mp h2).1
  omega
/-- Layout.weigh -/
theorem ly_weigh {ps : gE} {g : Nat × Nat} {x y : Int32} (hR : RgR W rs) (hx : BS x (innr bes dl g)) (hy : BS y (feet bes dl g)) (hC : CH W bes dl rs ps)
    (h0 : fst1 bes dl rs g = none → Q (some (.int 0)) W)
    (h1 : ∀ W', CH W' bes dl rs (ps ++ [g]) → W' 9 7 = W 9 7 → EqX [9] W W' → Q (some (.int 1)) W') : fl_cal (d + 2) 34 [.ref 9, .int x, .int y] W Q := by
  have hr := hR.1
  have hfst : fst1 bes dl rs g = fitF (feet bes dl g) rs 0 := rfl
  refine sx_34 x y W ?_
  rw [ci_0]
  refine rg_fit hR hy (Nat.zero_le _) ?_
  rw [List.drop_zero]
  refine ⟨fun z => ?_, fun z => ?_⟩
  · have := (optI_nm (o := fitF (feet bes dl g) rs 0) fun i hi => by have := fitF_bd hi; omega).mp z
    exact h0 (hfst.trans this)
  · obtain ⟨i, hi⟩ : ∃ i, fitF (feet bes dl g) rs 0 = some i := by
      cases hh : fitF (feet bes dl g) rs 0 with
      | some i => exact ⟨i, rfl⟩
      | none => rw [hh] at z; exact absurd rfl z
    have hib := fitF_bd hi
    have hg1 : fst1 bes dl rs g = some i := hfst.trans hi
    have hone : one1 bes dl rs g = (fitF (feet bes dl g) (rs.drop (i + 1)) (i + 1)).isNone := by unfold one1; rw [hg1]
    obtain ⟨a1, a2, a3⟩ := cho_add hC.1 ⟨i, hg1⟩
    have hall : ∀ f, f ∈ ps ++ [g] → ∃ i, fst1 bes dl rs f = some i := fun f hf => by
      rcases List.mem_append.mp hf with q | q
      · exact hC.1 f q
      · rw [List.mem_singleton.mp q]; exact ⟨i, hg1⟩
    -- taking it
    have take : ∀ w : Int32, w = (if one1 bes dl rs g then 1 else 0) → cho bes dl rs (ps ++ [g]) = some g → ∀ W3 : fl_W, W3 = fl_uw W 9 8 x → ∀ W4 : fl_W, W4 = fl_uw W3 9 9 y → ∀ W5 : fl_W, W5 = fl_uw W4 9 10 (optI (fitF (feet bes dl g) rs 0)) → ∀ W6 : fl_W, W6 = fl_uw W5 9 11 w → Q (some (.int 1)) W6 := by
      intro w hw hc W3 e3 W4 e4 W5 e5 W6 e6
      refine h1 W6 ⟨hall, Or.inr ⟨g, i, hc, hg1, ?_, ?_, ?_, ?_⟩⟩ ?_ ?_
      · rw [e6, uw_m (by decide), e5, uw_s, hi]; rfl
      · rw [e6, uw_m (by decide), e5, uw_m (by decide), e4, uw_m (by decide), e3, uw_s]; exact hx
      · rw [e6, uw_m (by decide), e5, uw_m (by decide), e4, uw_s]; exact hy
      · rw [e6, uw_s]; exact hw
      · rw [e6, uw_m (by decide), e5, uw_m (by decide), e4, uw_m (by decide), e3, uw_m (by decide)]
      · rw [e6, e5, e4, e3]
        exact (((EqX.uw (by simp)).tr (EqX.uw (by simp))).tr (EqX.uw (by simp))).tr (EqX.uw (by simp))
    refine ⟨fun z11 => ?_, fun z11 => ?_⟩
    · rw [hi]
      show fl_cal (d + 1) 59 [.ref 68, .int y, .int (nI i + Int32.ofInt 1)] W _
      rw [ci_1, nI_add]
      refine rg_fit hR hy (by omega) ?_
      have hb2 : ∀ j, fitF (feet bes dl g) (rs.drop (i + 1)) (i + 1) = some j → j < 2 ^ 31 := fun j hj => by
        have := fitF_bd hj
        rw [List.length_drop] at this
        omega
      rw [← hi]
      refine ⟨fun z2 => ?_, fun z2 => ?_⟩
      · have hn := (optI_nm hb2).mp z2
        have ho : one1 bes dl rs g = true := by rw [hone, hn]; rfl
        refine ⟨fun q => absurd q (by decide), fun _ => take (nI 1) (by rw [ho]; rfl) ?_⟩
        rcases hC.2 with ⟨e, -, -⟩ | ⟨f, j, c1, c2, c3, c4, c5, c6⟩
        · exact a2 e
        · cases hof : one1 bes dl rs f with
          | true => rw [hof, z11] at c6; cases c6
          | false => rw [a3 f c1 hof, if_pos ho]
      · have ho : one1 bes dl rs g = false := by
          rw [hone]
          cases hh : fitF (feet bes dl g) (rs.drop (i + 1)) (i + 1) with
          | some j => rfl
          | none => exact absurd ((optI_nm hb2).mpr hh) z2
        refine ⟨fun _ => ⟨fun q => ?_, fun q => ?_⟩, fun q => absurd rfl q⟩
        · refine take (nI 0) (by rw [ho]; rfl) ?_
          rcases hC.2 with ⟨e, -, -⟩ | ⟨f, j, c1, c2, c3, c4, c5, c6⟩
          · exact a2 e
          · rw [ci_m] at q
            rw [c3] at q
            have := fitF_bd (q := feet bes dl f) c2
            exact absurd q (nI_nm (by omega))
        · rcases hC.2 with ⟨e, e2, -⟩ | ⟨f, j, c1, c2, c3, c4, c5, c6⟩
          · exact absurd e2 q
          · refine h1 W ⟨hall, Or.inr ⟨f, j, ?_, c2, c3, c4, c5, c6⟩⟩ rfl EqX.rf
            cases hof : one1 bes dl rs f with
            | true => exact a1 f c1 hof
            | false => rw [a3 f c1 hof, ho]; rfl
    · rcases hC.2 with ⟨-, -, e2⟩ | ⟨f, j, c1, c2, c3, c4, c5, c6⟩
      · exact absurd e2 z11
      · refine h1 W ⟨hall, Or.inr ⟨f, j, ?_, c2, c3, c4, c5, c6⟩⟩ rfl EqX.rf
        cases hof : one1 bes dl rs f with
        | true => exact a1 f c1 hof
        | false => rw [hof] at c6; exact absurd c6 z11
end LYA
