/-! ===== Reference: rings, fits ===== -/
def RRg (W : fl_W) (rs : List (List Nat)) : Prop := rs.length ≤ 60 ∧ W 229 26 = nI rs.length ∧ ∀ i r, rs[i]? = some r → r.length ≤ 20 ∧ (∀ x ∈ r, x < 20) ∧ W 247 i = nI r.length ∧ ∀ j x, r[j]? = some x → W 246 (20 * i + j) = nI x
theorem RRg.fr {W W' : fl_W} {rs : List (List Nat)} {fs l : List Nat} (h : RRg W rs) (hE : EqF fs l W W') (h0 : 26 ∉ fs) (h2 : 246 ∉ l) (h3 : 247 ∉ l) : RRg W' rs := by
  refine ⟨h.1, by rw [hE.2 26 h0]; exact h.2.1, fun i r hr => ?_⟩
  rw [hE.1 246 (by decide) h2, hE.1 247 (by decide) h3]
  exact h.2.2 i r hr
theorem filter_mem_sub {l m : gE} (h : l.Sublist m) (hn : m.Nodup) : m.filter (fun x => decide (x ∈ l)) = l := by
  induction h with
  | slnil => rfl
  | cons a hs ih =>
    rw [List.nodup_cons] at hn
    rw [List.filter_cons_of_neg (by simp; exact fun z => hn.1 (hs.subset z))]
    exact ih hn.2
  | cons_cons a hs ih =>
    rw [List.nodup_cons] at hn
    rw [List.filter_cons_of_pos (by simp)]
    congr 1
    rw [← ih hn.2]
    rename_i l1 l2
    refine List.filter_congr fun x hx => ?_
    have hne : x ≠ a := fun e => hn.1 (e ▸ hx)
    rw [ih hn.2]
    simp [hne]
section RPA
variable {d : Nat} {Q : fl_R} {W : fl_W} {V : Nat} {es bes : gE} {rs : List (List Nat)}
theorem rf_size_l {k : Nat} (hG : RfG W V es) (hH : ∀ j g, es[j]? = some g → (g ∈ bes ↔ (W 232 j ≠ 0 ∧ W 233 j = nI k))) : ∀ (n i : Nat), es.length - i = n → i ≤ es.length → Q (some (.int (nI (es.filter fun g => decide (g ∈ bes)).length))) W → hd_140_4 d Q (nI k) (nI ((es.take i).filter fun g => decide (g ∈ bes)).length) (nI i) W := by
  intro n
  induction n with
  | zero =>
    intro i h1 h2 h
    have := hG.2.1
    refine sx_140_4 _ _ _ W ⟨fun q => absurd q ?_, fun _ => ?_⟩
    · rw [hG.2.2.2.2.1]; exact nI_nlt (by omega) (by omega)
    · rw [List.take_of_length_le (by omega)]; exact h
  | succ n ih =>
    intro i h1 h2 h
    have hl := hG.2.1
    have hi : i < es.length := by omega
    have hp := List.getElem?_eq_getElem hi
    have hh := hH i _ hp
    have hts := List.take_succ_eq_append_getElem hi
    have no : es[i] ∉ bes → hd_140_4 d Q (nI k) (nI ((es.take i).filter fun g => decide (g ∈ bes)).length + Int32.ofInt 0) (nI i + Int32.ofInt 1) W := fun hn => by
      rw [ci_1, nI_add, ci_0, nI_add, Nat.add_zero]
      have := ih (i + 1) (by omega) (by omega) h
      rw [hts, List.filter_append, List.filter_cons_of_neg (by simpa using hn), List.filter_nil, List.append_nil] at this
      exact this
    refine sx_140_4 _ _ _ W ⟨fun _ => ⟨in_N (by omega) (by omega), ?_⟩, fun q => absurd ?_ q⟩
    · rw [nI_clamp (by omega)]
      refine ⟨fun z => no fun w => (hh.mp w).1 z, fun z => ⟨in_N (by omega) (by omega), fun z2 => ?_, fun z2 => no fun w => z2 (hh.mp w).2⟩⟩
      have hm := hh.mpr ⟨z, z2⟩
      rw [ci_1, nI_add, nI_add]
      have := ih (i + 1) (by omega) (by omega) h
      rw [hts, List.filter_append, List.filter_cons_of_pos (by simpa using hm), List.filter_nil, List.length_append] at this
      exact this
    · rw [hG.2.2.2.2.1]; exact nI_lt hi (by omega)
theorem rf_size {k : Nat} (hG : RfG W V es) (hs : bes.Sublist es) (hH : ∀ j g, es[j]? = some g → (g ∈ bes ↔ (W 232 j ≠ 0 ∧ W 233 j = nI k))) (h : Q (some (.int (nI bes.length))) W) : fl_cal (d + 1) 140 [.ref 229, .int (nI k)] W Q := by
  refine sx_140 _ W ?_
  have := rf_size_l (d := d) (Q := Q) hG hH es.length 0 (by omega) (Nat.zero_le _) (by rw [filter_mem_sub hs hG.2.2.1.2]; exact h)
  exact this
theorem rf_least_l {k : Nat} (hG : RfG W V es) (hH : ∀ j g, es[j]? = some g → (g ∈ bes ↔ (W 232 j ≠ 0 ∧ W 233 j = nI k))) (hne : ∃ g, g ∈ es ∧ g ∈ bes) : ∀ (n i : Nat), es.length - i = n → i ≤ es.length → (∀ j g, j < i → es[j]? = some g → g ∉ bes) → (∀ j g, es[j]? = some g → g ∈ bes → (∀ j' g', j' < j → es[j']? = some g' → g' ∉ bes) → Q (some (.int (nI j))) W) → hd_141_2 d Q (nI k) (nI i) W := by
  intro n
  induction n with
  | zero =>
    intro i h1 h2 hno h
    obtain ⟨g, g1, g2⟩ := hne
    obtain ⟨j, hj⟩ := List.getElem?_of_mem g1
    have := (List.getElem?_eq_some_iff.mp hj).1
    exact absurd g2 (hno j g (by omega) hj)
  | succ n ih =>
    intro i h1 h2 hno h
    have hl := hG.2.1
    have hi : i < es.length := by omega
    have hp := List.getElem?_eq_getElem hi
    have hh := hH i _ hp
    have no : es[i] ∉ bes → hd_141_2 d Q (nI k) (nI i + Int32.ofInt 1) W := fun hn => by
      rw [ci_1, nI_add]
      refine ih (i + 1) (by omega) (by omega) (fun j g hj hg => ?_) h
      by_cases e : j = i
      · subst e; rw [hp] at hg; cases hg; exact hn
      · exact hno j g (by omega) hg
    refine sx_141_2 _ _ W ⟨in_N (by omega) (by omega), ?_⟩
    rw [nI_clamp (by omega)]
    exact ⟨fun z => no fun w => (hh.mp w).1 z, fun z => ⟨in_N (by omega) (by omega), fun z2 => h i _ hp (hh.mpr ⟨z, z2⟩) hno, fun z2 => no fun w => z2 (hh.mp w).2⟩⟩
theorem rf_least {k : Nat} {g0 : Nat × Nat} {t : gE} (hG : RfG W V es) (hs : bes.Sublist es) (hb : bes = g0 :: t) (hH : ∀ j g, es[j]? = some g → (g ∈ bes ↔ (W 232 j ≠ 0 ∧ W 233 j = nI k))) (h : ∀ j, es[j]? = some g0 → Q (some (.int (nI j))) W) : fl_cal (d + 1) 141 [.ref 229, .int (nI k)] W Q := by
  refine sx_141 _ W (rf_least_l hG hH ⟨g0, hs.subset (by rw [hb]; simp), by rw [hb]; simp⟩ es.length 0 (by omega) (Nat.zero_le _) (fun j g hj => by omega) fun j g hj hg hno => h j ?_)
  have hf := filter_mem_sub hs hG.2.2.1.2
  have hsp := nd_split hj
  rw [hsp, List.filter_append, List.filter_cons_of_pos (by simpa using hg)] at hf
  have hemp : (es.take j).filter (fun x => decide (x ∈ bes)) = [] := by
    refine List.filter_eq_nil_iff.mpr fun x hx => ?_
    obtain ⟨i, hi⟩ := List.getElem?_of_mem hx
    have hij := (List.getElem?_eq_some_iff.mp hi).1
    rw [List.length_take] at hij
    rw [List.getElem?_take, if_pos (by omega)] at hi
    simpa using hno i x (by omega) hi
  rw [hemp, List.nil_append, hb] at hf
  injection hf with e1 e2
  rw [← e1]; exact hj
/-- ringSet -/
theorem rf_rset_l {i : Nat} {r : List Nat} (hR : RRg W rs) (hr : rs[i]? = some r) : ∀ (n j : Nat) (x : Int32), r.length - j = n → j ≤ r.length → BS x (fun v => (r.take j).contains v) → (∀ y, BS y (fun v => r.contains v) → Q (some (.int y)) W) → hd_147_4 d Q (nI i) x (nI j) W := by
  have hil := (List.getElem?_eq_some_iff.mp hr).1
  have h60 := hR.1
  obtain ⟨r1, r2, r3, r4⟩ := hR.2.2 i r hr
  intro n
  induction n with
  | zero =>
    intro j x h1 h2 hx h
    refine sx_147_4 _ _ _ W ⟨in_N (by omega) (by omega), ?_⟩
    rw [nI_clamp (by omega), r3]
    refine ⟨fun q => absurd q (nI_nlt (by omega) (by omega)), fun _ => h x ?_⟩
    rwa [List.take_of_length_le (by omega)] at hx
  | succ n ih =>
    intro j x h1 h2 hx h
    have hj : j < r.length := by omega
    have hp := List.getElem?_eq_getElem hj
    have hx20 := r2 _ (List.getElem_mem hj)
    refine sx_147_4 _ _ _ W ⟨in_N (by omega) (by omega), ?_⟩
    rw [nI_clamp (by omega), r3]
    refine ⟨fun _ => ?_, fun q => absurd (nI_lt hj (by omega)) q⟩
    rw [cb_20, nI_mul, nI_add, nI_clamp (by omega), r4 j _ hp]
    refine ⟨in_N (by omega) (by omega), ?_⟩
    rw [ci_1, nI_add]
    refine ih (j + 1) _ (by omega) (by omega) ((hx.or (BS.one hx20)).congr fun v _ => ?_) h
    rw [List.take_succ_eq_append_getElem hj, Bool.eq_iff_iff]
    simp only [Bool.or_eq_true, List.contains_eq_mem, decide_eq_true_eq, List.mem_append, List.mem_singleton]
theorem rf_rset {i : Nat} {r : List Nat} (hR : RRg W rs) (hr : rs[i]? = some r) (h : ∀ y, BS y (fun v => r.contains v) → Q (some (.int y)) W) : fl_cal (d + 1) 147 [.ref 229, .int (nI i)] W Q :=
  sx_147 _ W (rf_rset_l hR hr r.length 0 _ (by omega) (Nat.zero_le _) (by simpa using BS.zero) h)
/-- fit -/
def fitC (q : Nat → Bool) (rs : List (List Nat)) : Nat := (rs.filter fun r => fitB q r).length
theorem fitF_app {q : Nat → Bool} {r : List Nat} : ∀ {l : List (List Nat)} {i : Nat}, fitF q (l ++ [r]) i = (fitF q l i).or (if fitB q r then some (i + l.length) else none)
  | [], i => by
    rw [List.nil_append, fitF, fitF]
    simp [fitF]
  | a :: l, i => by
    rw [List.cons_append, fitF, fitF]
    by_cases e : fitB q a = true
    · rw [if_pos e, if_pos e]; rfl
    · rw [if_neg e, if_neg e, fitF_app, List.length_cons]
      congr 2
      rw [show i + 1 + l.length = i + (l.length + 1) by omega]
theorem fitC_0 {q : Nat → Bool} : ∀ {rs : List (List Nat)} {i : Nat}, fitC q rs = 0 ↔ fitF q rs i = none
  | [], i => by simp [fitC, fitF]
  | a :: l, i => by
    rw [fitF]
    by_cases e : fitB q a = true
    · simp [fitC, e]
    · rw [if_neg e, ← fitC_0 (rs := l) (i := i + 1)]
      simp [fitC, e]
theorem fitC_1 {q : Nat → Bool} : ∀ {rs : List (List Nat)} {i j : Nat}, fitF q rs i = some j → (fitC q rs = 1 ↔ fitF q (rs.drop (j + 1 - i)) (j + 1) = none)
  | [], i, j, h => by cases h
  | a :: l, i, j, h => by
    rw [fitF] at h
    by_cases e : fitB q a = true
    · rw [if_pos e] at h
      cases h
      rw [show i + 1 - i = 1 by omega, List.drop_one, List.tail_cons, ← fitC_0 (rs := l) (i := i + 1)]
      simp [fitC, e]
    · rw [if_neg e] at h
      have hj := (fitF_sp h).1
      have := fitC_1 h
      rw [show j + 1 - i = (j + 1 - (i + 1)) + 1 by omega, List.drop_succ_cons, ← this]
      simp [fitC, e]
theorem fitB_BS {q : Nat → Bool} {r : List Nat} {x y : Int32} (hx : BS x q) (hy : BS y (fun v => r.contains v)) : x &&& (y ^^^ Int32.ofInt (-1)) = 0 ↔ fitB q r = true := by
  rw [ci_m, (hx.and hy.lo.not).z, fitB, List.all_eq_true]
  constructor
  · intro z v hv
    have := z v (List.mem_range.mp hv)
    cases hq : q v with
    | false => rfl
    | true => rw [hq] at this; simpa using this
  · intro z v hv
    have := z v (List.mem_range.mpr hv)
    cases hq : q v with
    | false => simp
    | true => rw [hq] at this; simpa using this
theorem rf_fit_l {p : Nat} {q : Nat → Bool} (hp : p < 61) : ∀ (n i : Nat) (W : fl_W), rs.length - i = n → i ≤ rs.length → RRg W rs → BS (W 250 p) q → W 229 36 = optI (fitF q (rs.take i) 0) → W 229 37 = nI (fitC q (rs.take i)) →
    (∀ W', W' 229 36 = optI (fitF q rs 0) → W' 229 37 = nI (fitC q rs) → EqF [36, 37] [] W W' → Q none W') → hd_148_12 (d + 1) Q (nI p) (nI i) W := by
  intro n
  induction n with
  | zero =>
    intro i W h1 h2 hR hq h36 h37 h
    have h60 := hR.1
    refine sx_148_12 _ _ W ⟨fun z => absurd z ?_, fun _ => ?_⟩
    · rw [hR.2.1]; exact nI_nlt (by omega) (by omega)
    · rw [List.take_of_length_le (by omega)] at h36 h37
      exact h W h36 h37 EqF.rf
  | succ n ih =>
    intro i W h1 h2 hR hq h36 h37 h
    have h60 := hR.1
    have hi : i < rs.length := by omega
    have hr := List.getElem?_eq_getElem hi
    have hts := List.take_succ_eq_append_getElem hi
    have hlt : (rs.take i).length = i := by rw [List.length_take]; omega
    have hb36 : ∀ j, fitF q (rs.take i) 0 = some j → j < 2 ^ 31 := fun j hj => by have := fitF_bd hj; omega
    have hcl : fitC q (rs.take i) ≤ 60 := by
      have : fitC q (rs.take i) ≤ (rs.take i).length := List.length_filter_le _ _
      omega
    refine sx_148_12 _ _ W ⟨fun _ => ⟨in_N hp (by omega), rf_rset hR hr fun y hy => ?_⟩, fun z => absurd ?_ z⟩
    · rw [nI_clamp (by omega)]
      have hfb := fitB_BS hq hy
      have hC : fitC q (rs.take (i + 1)) = fitC q (rs.take i) + (if fitB q rs[i] then 1 else 0) := by
        rw [hts]
        unfold fitC
        rw [List.filter_append, List.length_append]
        by_cases e : fitB q rs[i] = true <;> simp [e]
      have hF : fitF q (rs.take (i + 1)) 0 = (fitF q (rs.take i) 0).or (if fitB q rs[i] then some i else none) := by
        rw [hts, fitF_app, hlt, Nat.zero_add]
      refine ⟨fun z => ?_, fun z => ?_⟩
      · have hb := hfb.mp z
        rw [hb, if_pos rfl] at hC hF
        show mi_br (W 229 36 < 0) _ _
        rw [h36]
        refine ⟨fun z2 W5 e5 W6 e6 => ?_, fun z2 W4 e4 => ?_⟩
        · have hnone := (optI_neg hb36).mp z2
          rw [hnone, Option.none_or] at hF
          have f : EqF [36, 37] [] W W6 := by rw [e6, e5]; exact (EqF.uwF (by simp)).tr (EqF.uwF (by simp))
          rw [ci_1, nI_add]
          refine ih (i + 1) W6 (by omega) (by omega) (hR.fr f (by decide) (by decide) (by decide)) (by rw [f.1 250 (by decide) (by decide)]; exact hq) ?_ ?_ fun W' k1 k2 k3 => h W' k1 k2 (f.tr k3)
          · rw [e6, uw_m (by decide), e5, uw_s, hF]; rfl
          · rw [e6, uw_s, e5, uw_m (by decide), h37, ci_1, nI_add, hC]
        · obtain ⟨j, hj⟩ : ∃ j, fitF q (rs.take i) 0 = some j := by
            cases hh : fitF q (rs.take i) 0 with
            | some j => exact ⟨j, rfl⟩
            | none => exact absurd ((optI_neg hb36).mpr hh) z2
          rw [hj, Option.some_or] at hF
          have f : EqF [36, 37] [] W W4 := by rw [e4]; exact EqF.uwF (by simp)
          rw [ci_1, nI_add]
          refine ih (i + 1) W4 (by omega) (by omega) (hR.fr f (by decide) (by decide) (by decide)) (by rw [f.1 250 (by decide) (by decide)]; exact hq) ?_ ?_ fun W' k1 k2 k3 => h W' k1 k2 (f.tr k3)
          · rw [e4, uw_m (by decide), h36, hF, hj]
          · rw [e4, uw_s, h37, ci_1, nI_add, hC]
      · have hb : fitB q rs[i] = false := by
          cases hh : fitB q rs[i] with
          | false => rfl
          | true => exact absurd (hfb.mpr hh) z
        rw [hb] at hC hF
        simp only [Bool.false_eq_true, if_false, Nat.add_zero, Option.or_none] at hC hF
        rw [ci_1, nI_add]
        exact ih (i + 1) W (by omega) (by omega) hR hq (by rw [h36, hF]) (by rw [h37, hC]) h
    · rw [hR.2.1]; exact nI_lt hi (by omega)
theorem rf_fit {p : Nat} {q : Nat → Bool} (hp : p < 61) (hR : RRg W rs) (hq : BS (W 250 p) q) (h : ∀ W', W' 229 36 = optI (fitF q rs 0) → W' 229 37 = nI (fitC q rs) → EqF [36, 37] [] W W' → Q none W') : fl_cal (d + 2) 148 [.ref 229, .int (nI p)] W Q := by
  refine sx_148 _ W fun W1 e1 W2 e2 => ?_
  have f : EqF [36, 37] [] W W2 := by rw [e2, e1]; exact (EqF.uwF (by simp)).tr (EqF.uwF (by simp))
  refine rf_fit_l hp rs.length 0 W2 (by omega) (Nat.zero_le _) (hR.fr f (by decide) (by decide) (by decide)) (by rw [f.1 250 (by decide) (by decide)]; exact hq) ?_ ?_ fun W' k1 k2 k3 => h W' k1 k2 (f.tr k3)
  · rw [e2, uw_m (by decide), e1, uw_s]; rfl
  · rw [e2, uw_s]; rfl
theorem one1_C {bes dl : gE} {g : Nat × Nat} : one1 bes dl rs g = true ↔ fitC (feet bes dl g) rs = 1 := by
  unfold one1
  cases hf : fst1 bes dl rs g with
  | none =>
    have := (fitC_0 (rs := rs) (i := 0)).mpr hf
    rw [this]
    simp
  | some i =>
    have := fitC_1 (i := 0) (show fitF (feet bes dl g) rs 0 = some i from hf)
    rw [Nat.sub_zero] at this
    rw [this, Option.isNone_iff_eq_none]
/-- nextPart -/
theorem rf_next_l {dl : gE} {ps : gE} (hps : ps ≠ []) (hl : ps.length ≤ 60) : ∀ (n i : Nat) (W : fl_W) (c : Int32), ps.length - i = n → i ≤ ps.length → RRg W rs → W 229 32 = nI ps.length → (∀ k g, ps[k]? = some g → BS (W 250 k) (feet bes dl g)) → (∀ k g, k < i → ps[k]? = some g → fst1 bes dl rs g ≠ none) →
    ((c = -1 ∧ ∀ k g, k < i → ps[k]? = some g → one1 bes dl rs g = false) ∨ ∃ k g, c = nI k ∧ k < i ∧ ps[k]? = some g ∧ one1 bes dl rs g = true ∧ ∀ k' g', k' < k → ps[k']? = some g' → one1 bes dl rs g' = false) →
    (∀ W', cho bes dl rs ps = none → EqF [36, 37] [] W W' → Q (some (.int (-2))) W') →
    (∀ W' k g, cho bes dl rs ps = some g → ps[k]? = some g → EqF [36, 37] [] W W' → Q (some (.int (nI k))) W') → hd_149_4 (d + 2) Q c (nI i) W := by
  intro n
  induction n with
  | zero =>
    intro i W c h1 h2 hR h32 hq hfit hc h0 hy
    have hi : i = ps.length := by omega
    subst hi
    have hall : ∀ g, g ∈ ps → ∃ j, fst1 bes dl rs g = some j := fun g hg => by
      obtain ⟨k, hk⟩ := List.getElem?_of_mem hg
      have := (List.getElem?_eq_some_iff.mp hk).1
      cases hh : fst1 bes dl rs g with
      | some j => exact ⟨j, rfl⟩
      | none => exact absurd hh (hfit k g this hk)
    have hch := cho_all hall
    refine sx_149_4 _ _ W ⟨fun z => absurd z ?_, fun _ => ?_⟩
    · rw [h32]; exact nI_nlt (Nat.le_refl _) (by omega)
    · rcases hc with ⟨e, hno⟩ | ⟨k, g, e, hk, hkg, ho, hno⟩
      · rw [e]
        refine ⟨fun _ => ?_, fun z => absurd (by decide) z⟩
        obtain ⟨g, t, hg⟩ : ∃ g t, ps = g :: t := by
          cases ps with
          | nil => exact absurd rfl hps
          | cons g t => exact ⟨g, t, rfl⟩
        refine hy W 0 g ?_ (by rw [hg]; rfl) EqF.rf
        have hnone : ps.find? (fun g => one1 bes dl rs g) = none := List.find?_eq_none.mpr fun x hx => by
          obtain ⟨k, hk⟩ := List.getElem?_of_mem hx
          have := (List.getElem?_eq_some_iff.mp hk).1
          rw [hno k x this hk]; simp
        rw [hch, hnone, hg]
        rfl
      · rw [e]
        refine ⟨fun z => absurd z (nI_pos (by omega)), fun _ => hy W k g ?_ hkg EqF.rf⟩
        have hsome : ps.find? (fun g => one1 bes dl rs g) = some g := by
          rw [List.find?_eq_some_iff_append]
          have hsp := nd_split hkg
          refine ⟨ho, ps.take k, ps.drop (k + 1), hsp, fun x hx => ?_⟩
          obtain ⟨j, hj⟩ := List.getElem?_of_mem hx
          have hjl := (List.getElem?_eq_some_iff.mp hj).1
          rw [List.length_take] at hjl
          rw [List.getElem?_take, if_pos (by omega)] at hj
          rw [hno j x (by omega) hj]; rfl
        rw [hch, hsome]
  | succ n ih =>
    intro i W c h1 h2 hR h32 hq hfit hc h0 hy
    have hi : i < ps.length := by omega
    have hp := List.getElem?_eq_getElem hi
    refine sx_149_4 _ _ W ⟨fun _ => rf_fit (by omega) hR (hq i _ hp) fun W1 k1 k2 k3 => ?_, fun z => absurd ?_ z⟩
    · have hcl : fitC (feet bes dl ps[i]) rs ≤ 60 := by
        have h3 : fitC (feet bes dl ps[i]) rs ≤ rs.length := List.length_filter_le _ _
        have := hR.1
        omega
      have hR1 := hR.fr k3 (by decide) (by decide) (by decide)
      have e32 : W1 229 32 = nI ps.length := by rw [k3.2 32 (by decide)]; exact h32
      have e250 : ∀ k g, ps[k]? = some g → BS (W1 250 k) (feet bes dl g) := fun k g hk => by rw [k3.1 250 (by decide) (by decide)]; exact hq k g hk
      show mi_br (W1 229 37 = 0) _ _
      rw [k2]
      refine ⟨fun z => ?_, fun z => ?_⟩
      · rw [cz_0, nI_eq (by omega) (by omega)] at z
        have hf : fst1 bes dl rs ps[i] = none := (fitC_0 (i := 0)).mp z
        refine h0 W1 ?_ k3
        unfold cho
        rw [if_pos]
        exact List.any_eq_true.mpr ⟨ps[i], List.getElem_mem hi, by rw [hf]; rfl⟩
      · have hf : fst1 bes dl rs ps[i] ≠ none := fun w => z (by rw [(fitC_0 (i := 0)).mpr w]; rfl)
        have hfit' : ∀ k g, k < i + 1 → ps[k]? = some g → fst1 bes dl rs g ≠ none := fun k g hk hkg => by
          by_cases e : k = i
          · subst e; rw [hp] at hkg; cases hkg; exact hf
          · exact hfit k g (by omega) hkg
        have rest : ∀ c', ((c' = -1 ∧ ∀ k g, k < i + 1 → ps[k]? = some g → one1 bes dl rs g = false) ∨ ∃ k g, c' = nI k ∧ k < i + 1 ∧ ps[k]? = some g ∧ one1 bes dl rs g = true ∧ ∀ k' g', k' < k → ps[k']? = some g' → one1 bes dl rs g' = false) → hd_149_4 (d + 2) Q c' (nI i + Int32.ofInt 1) W1 := fun c' hc' => by
          rw [ci_1, nI_add]
          exact ih (i + 1) W1 c' (by omega) (by omega) hR1 e32 e250 hfit' hc' (fun W' j1 j2 => h0 W' j1 (k3.tr j2)) fun W' k g j1 j2 j3 => hy W' k g j1 j2 (k3.tr j3)
        have keep : (∃ k g, c = nI k ∧ k < i ∧ ps[k]? = some g ∧ one1 bes dl rs g = true ∧ ∀ k' g', k' < k → ps[k']? = some g' → one1 bes dl rs g' = false) → hd_149_4 (d + 2) Q c (nI i + Int32.ofInt 1) W1 := by
          rintro ⟨k, g, e, hk, r⟩
          exact rest c (Or.inr ⟨k, g, e, by omega, r⟩)
        rw [ci_1]
        refine ⟨fun z2 => ?_, fun z2 => ?_⟩
        · rw [nI_eq (by omega) (by omega)] at z2
          have ho := one1_C.mpr z2
          rcases hc with ⟨e, hno⟩ | hex
          · rw [e]
            refine ⟨fun _ => rest (nI i) (Or.inr ⟨i, _, rfl, by omega, hp, ho, fun k' g' hk' => hno k' g' hk'⟩), fun w => absurd (by decide) w⟩
          · have := keep hex
            obtain ⟨k, g, e, hk, -⟩ := hex
            rw [e]
            refine ⟨fun w => absurd w (nI_pos (by omega)), fun _ => ?_⟩
            rw [← e]; exact this
        · have ho : one1 bes dl rs ps[i] = false := by
            cases hh : one1 bes dl rs ps[i] with
            | false => rfl
            | true => exact absurd (by rw [one1_C.mp hh]) z2
          rcases hc with ⟨e, hno⟩ | hex
          · refine rest c (Or.inl ⟨e, fun k g hk hkg => ?_⟩)
            by_cases ek : k = i
            · subst ek; rw [hp] at hkg; cases hkg; exact ho
            · exact hno k g (by omega) hkg
          · exact keep hex
    · rw [h32]; exact nI_lt hi (by omega)
theorem rf_next {dl : gE} {ps : gE} (hps : ps ≠ []) (hl : ps.length ≤ 60) (hR : RRg W rs) (h32 : W 229 32 = nI ps.length) (hq : ∀ k g, ps[k]? = some g → BS (W 250 k) (feet bes dl g))
    (h0 : ∀ W', cho bes dl rs ps = none → EqF [36, 37] [] W W' → Q (some (.int (-2))) W')
    (hy : ∀ W' k g, cho bes dl rs ps = some g → ps[k]? = some g → EqF [36, 37] [] W W' → Q (some (.int (nI k))) W') : fl_cal (d + 3) 149 [.ref 229] W Q :=
  sx_149 W (rf_next_l hps hl ps.length 0 W (-1) (by omega) (Nat.zero_le _) hR h32 hq (fun k g hk => by omega) (Or.inl ⟨rfl, fun k g hk => by omega⟩) h0 hy)
end RPA
