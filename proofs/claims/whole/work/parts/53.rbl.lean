/-! ===== the reference: blocks ===== -/
def EI (W : fl_W) (m : Nat) (ps : List (Nat × Nat)) (B : Nat → Nat) : Prop := (∀ i, i < m → W 233 i = nI (B i) ∧ B i < m) ∧ (∀ p, p ∈ ps → B p.1 = B p.2) ∧ ∀ f : Nat → Nat, (∀ p, p ∈ ps → f p.1 = f p.2) → ∀ i j, i < m → j < m → B i = B j → f i = f j
theorem ix_of {es : gE} (hn : es.Nodup) {i : Nat} {g : Nat × Nat} (h : es[i]? = some g) : es.idxOf g = i := by
  obtain ⟨h1, h2⟩ := List.getElem?_eq_some_iff.mp h
  rw [← h2]
  exact hn.idxOf_getElem i h1
section RBL
variable {d : Nat} {Q : fl_R} {W : fl_W} {V : Nat} {es : gE} {P : Nat → Bool}
theorem rf_unite_l {m wa wb : Nat} {B : Nat → Nat} (hm : m ≤ 60) (hwa : wa < m) (hwb : wb < m) : ∀ (n i : Nat) (W : fl_W), m - i = n → i ≤ m → W 229 1 = nI m → (∀ j, j < m → B j < m) → (∀ j, j < m → W 233 j = if j < i ∧ B j = wa then nI wb else nI (B j)) → (∀ W', (∀ j, j < m → W' 233 j = if B j = wa then nI wb else nI (B j)) → EqF [] [233] W W' → Q none W') → hd_136_18 d Q (nI wa) (nI wb) (nI i) W := by
  intro n
  induction n with
  | zero =>
    intro i W h1 h2 h3 hB h4 h
    refine sx_136_18 _ _ _ W ⟨fun z => absurd z ?_, fun _ => h W (fun j hj => ?_) EqF.rf⟩
    · rw [h3]; exact nI_nlt (by omega) (by omega)
    · rw [h4 j hj]
      by_cases e : B j = wa
      · rw [if_pos ⟨by omega, e⟩, if_pos e]
      · rw [if_neg fun z => e z.2, if_neg e]
  | succ n ih =>
    intro i W h1 h2 h3 hB h4 h
    have hi : i < m := by omega
    have hb := hB i hi
    refine sx_136_18 _ _ _ W ⟨fun _ => ⟨in_N (by omega) (by omega), ?_⟩, fun z => absurd ?_ z⟩
    · rw [nI_clamp (by omega), h4 i hi, if_neg (by omega), ci_1, nI_add]
      refine ⟨fun z => ⟨in_N (by omega) (by omega), fun W1 e1 => ?_⟩, fun z => ?_⟩
      · rw [nI_eq (by omega) (by omega)] at z
        have f1 : EqF [] [233] W W1 := by rw [e1]; exact EqF.uwA (by simp) (by decide)
        refine ih (i + 1) W1 (by omega) (by omega) (by rw [f1.2 1 (by simp)]; exact h3) hB (fun j hj => ?_) fun W' k1 k2 => h W' k1 (f1.tr k2)
        by_cases e : j = i
        · rw [e1, e, uw_s, if_pos ⟨by omega, z⟩]
        · rw [e1, uw_m e, h4 j hj]
          by_cases e2 : j < i ∧ B j = wa
          · rw [if_pos e2, if_pos ⟨by omega, e2.2⟩]
          · rw [if_neg e2, if_neg fun z2 => e2 ⟨by omega, z2.2⟩]
      · have z2 : B i ≠ wa := fun e => z (by rw [e])
        refine ih (i + 1) W (by omega) (by omega) h3 hB (fun j hj => ?_) h
        rw [h4 j hj]
        by_cases e2 : j < i ∧ B j = wa
        · rw [if_pos e2, if_pos ⟨by omega, e2.2⟩]
        · rw [if_neg e2, if_neg fun z3 => ?_]
          by_cases e : j = i
          · rw [e] at z3; exact z2 z3.2
          · exact e2 ⟨by omega, z3.2⟩
    · rw [h3]; exact nI_lt hi (by omega)
theorem rf_unite {m a c : Nat} {B : Nat → Nat} {ps : List (Nat × Nat)} (hm : m ≤ 60) (h1 : W 229 1 = nI m) (ha : a < m) (hc : c < m) (hI : EI W m ps B) (h : ∀ W' B', EI W' m (ps ++ [(a, c)]) B' → EqF [] [233] W W' → Q none W') : fl_cal (d + 1) 136 [.ref 229, .int (nI a), .int (nI c)] W Q := by
  obtain ⟨hB, hC, hS⟩ := hI
  refine sx_136 _ _ W ⟨in_N (by omega) (by omega), in_N (by omega) (by omega), ?_⟩
  rw [nI_clamp (by omega), nI_clamp (by omega), (hB a ha).1, (hB c hc).1]
  refine rf_unite_l (B := B) hm (hB a ha).2 (hB c hc).2 m 0 W (by omega) (Nat.zero_le _) h1 (fun j hj => (hB j hj).2) (fun j hj => by rw [if_neg (by omega)]; exact (hB j hj).1) fun W' k1 k2 => ?_
  refine h W' (fun i => if B i = B a then B c else B i) ⟨fun i hi => ?_, fun p hp => ?_, fun f hf i j hi hj hij => ?_⟩ k2
  · rw [k1 i hi]
    show _ = nI (if B i = B a then B c else B i) ∧ (if B i = B a then B c else B i) < m
    by_cases e : B i = B a
    · rw [if_pos e, if_pos e]; exact ⟨rfl, (hB c hc).2⟩
    · rw [if_neg e, if_neg e]; exact ⟨rfl, (hB i hi).2⟩
  · rcases List.mem_append.mp hp with z | z
    · simp only [hC p z]
    · rw [List.mem_singleton.mp z]
      simp only [if_true]
      split <;> rfl
  · have hf' : ∀ p, p ∈ ps → f p.1 = f p.2 := fun p hp => hf p (List.mem_append_left _ hp)
    have hac : f a = f c := hf (a, c) (by simp)
    have s := hS f hf'
    simp only at hij
    by_cases e1 : B i = B a
    · by_cases e2 : B j = B a
      · exact s i j hi hj (e1.trans e2.symm)
      · rw [if_pos e1, if_neg e2] at hij
        exact (s i a hi ha e1).trans (hac.trans (s c j hc hj hij))
    · by_cases e2 : B j = B a
      · rw [if_neg e1, if_pos e2] at hij
        exact (s i c hi hc hij).trans (hac.symm.trans (s a j ha hj e2.symm))
      · rw [if_neg e1, if_neg e2] at hij
        exact s i j hi hj hij
/-- the pairs that edge e, which is g, unites -/
def mrgE (es : gE) (far par : Nat → Nat) (e : Nat) (g : Nat × Nat) : List (Nat × Nat) := (wlk far par true 40 g.1 g.2).map fun x => (es.idxOf (te par x), e)
def RFA (W : fl_W) (V : Nat) (es : gE) (P : Nat → Bool) (far par : Nat → Nat) : Prop := ∀ x, x < V → W 243 x = nI (far x) ∧ (far x = 0 → W 242 x = -1) ∧ (far x ≠ 0 → W 241 x = nI (par x) ∧ ∃ e, es[e]? = some (te par x) ∧ P e = true ∧ W 242 x = nI e)
theorem RFA.fr {W' : fl_W} {far par : Nat → Nat} (h : RFA W V es P far par) (h1 : W' 241 = W 241) (h2 : W' 242 = W 242) (h3 : W' 243 = W 243) : RFA W' V es P far par := fun x hx => by rw [h1, h2, h3]; exact h x hx
theorem wlk_more {far par rt : Nat → Nat} {fs : gE} {tie : Bool} (h : Frs V fs far par rt) : ∀ (f f' a b : Nat), a < V → b < V → rt a = rt b → far a + far b ≤ f → far a + far b ≤ f' → wlk far par tie f a b = wlk far par tie f' a b := by
  intro f
  induction f with
  | zero =>
    intro f' a b ha hb hab h1 h2
    have : a = b := Classical.byContradiction fun e => by
      have := h.p2 a b ha hb e hab; omega
    subst this
    cases f' with
    | zero => rfl
    | succ f' => rw [wlk, wlk, if_pos rfl]
  | succ f ih =>
    intro f' a b ha hb hab h1 h2
    by_cases e : a = b
    · subst e
      cases f' with
      | zero => rw [wlk, wlk, if_pos rfl]
      | succ f' => rw [wlk, wlk, if_pos rfl, if_pos rfl]
    · have h0 := h.p2 a b ha hb e hab
      cases f' with
      | zero => omega
      | succ f' =>
        rw [wlk, wlk, if_neg e, if_neg e]
        cases hk : pkA far tie a b with
        | true =>
          have hle := pkA_le hk
          obtain ⟨p1, p2⟩ := h.p1 a ha (by omega)
          simp only [if_true]
          rw [ih f' (par a) b p1 hb ((h.p3 a ha (by omega)).trans hab) (by omega) (by omega)]
        | false =>
          have hle := pkA_le' hk
          obtain ⟨p1, p2⟩ := h.p1 b hb (by omega)
          simp only [Bool.false_eq_true, if_false]
          rw [ih f' a (par b) ha p1 (hab.trans (h.p3 b hb (by omega)).symm) (by omega) (by omega)]
theorem rf_up {e : Nat} {far par rt : Nat → Nat} (hO : okE V es) (hFr : Frs V (prs P 0 es) far par rt) (he : e < es.length) (hE : es.length ≤ 60) (hV : V ≤ 20) : ∀ (n a b : Nat) (W : fl_W) (ps : List (Nat × Nat)) (B : Nat → Nat), a < V → b < V → rt a = rt b → far a + far b ≤ n → W 229 1 = nI es.length → RFA W V es P far par → EI W es.length ps B →
    (∀ W' B', EI W' es.length (ps ++ (wlk far par true n a b).map fun x => (es.idxOf (te par x), e)) B' → EqF [] [233] W W' → hd_137_29 (d + 1) Q (nI e + Int32.ofInt 1) W') → hd_137_83 (d + 1) Q (nI e) (nI a) (nI b) W := by
  intro n
  induction n with
  | zero =>
    intro a b W ps B ha hb hr hn h1 hA hI h
    have hab : a = b := Classical.byContradiction fun z => by
      have := hFr.p2 a b ha hb z hr; omega
    refine sx_137_83 _ _ _ W ⟨fun _ => h W B (by rw [wlk, List.map_nil, List.append_nil]; exact hI) EqF.rf, fun z => absurd (by rw [hab]) z⟩
  | succ n ih =>
    intro a b W ps B ha hb hr hn h1 hA hI h
    refine sx_137_83 _ _ _ W ⟨fun z => ?_, fun z => ⟨in_N (by omega) (by omega), in_N (by omega) (by omega), ?_⟩⟩
    · rw [nI_eq (by omega) (by omega)] at z
      exact h W B (by rw [wlk, if_pos z, List.map_nil, List.append_nil]; exact hI) EqF.rf
    · have hne : a ≠ b := fun e => z (by rw [e])
      rw [wlk, if_neg hne] at h
      have h0 := hFr.p2 a b ha hb hne hr
      have fa := frs_far hFr ha
      have fb := frs_far hFr hb
      have hk : pkA far true a b = decide (far b ≤ far a) := rfl
      rw [nI_clamp (by omega), nI_clamp (by omega), (hA a ha).1, (hA b hb).1]
      refine ⟨fun hlt => ⟨in_N (by omega) (by omega), ?_⟩, fun hlt => ⟨in_N (by omega) (by omega), ?_⟩⟩
      · rw [nI_ltI (by omega) (by omega)] at hlt
        rw [hk, decide_eq_false (by omega)] at h
        simp only [Bool.false_eq_true, if_false] at h
        obtain ⟨c1, e', c2, c3, c4⟩ := (hA b hb).2.2 (by omega)
        obtain ⟨p1, p2⟩ := hFr.p1 b hb (by omega)
        have hix := ix_of hO.2 c2
        rw [c4]
        refine rf_unite hE h1 (List.getElem?_eq_some_iff.mp c2).1 he hI fun W4 B4 k1 k2 => ?_
        refine ⟨fun q => absurd q (nI_ne (by omega) (by omega) (Ne.symm hne)), fun _ => ⟨in_N (by omega) (by omega), ?_⟩⟩
        have hA4 := hA.fr (k2.1 241 (by decide) (by decide)) (k2.1 242 (by decide) (by decide)) (k2.1 243 (by decide) (by decide))
        rw [k2.1 241 (by decide) (by decide), c1]
        refine ih a (par b) W4 _ B4 ha p1 (hr.trans (hFr.p3 b hb (by omega)).symm) (by omega) (by rw [k2.2 1 (by simp)]; exact h1) hA4 k1 fun W' B' m1 m2 => h W' B' ?_ (k2.tr m2)
        rw [List.map_cons, ← List.singleton_append, ← List.append_assoc, hix]
        exact m1
      · rw [nI_ltI (by omega) (by omega)] at hlt
        rw [hk, decide_eq_true (by omega), if_pos rfl] at h
        obtain ⟨c1, e', c2, c3, c4⟩ := (hA a ha).2.2 (by omega)
        obtain ⟨p1, p2⟩ := hFr.p1 a ha (by omega)
        have hix := ix_of hO.2 c2
        rw [c4]
        refine rf_unite hE h1 (List.getElem?_eq_some_iff.mp c2).1 he hI fun W4 B4 k1 k2 => ?_
        refine ⟨fun _ => ⟨in_N (by omega) (by omega), ?_⟩, fun q => absurd rfl q⟩
        have hA4 := hA.fr (k2.1 241 (by decide) (by decide)) (k2.1 242 (by decide) (by decide)) (k2.1 243 (by decide) (by decide))
        rw [k2.1 241 (by decide) (by decide), c1]
        refine ih (par a) b W4 _ B4 p1 hb ((hFr.p3 a ha (by omega)).trans hr) (by omega) (by rw [k2.2 1 (by simp)]; exact h1) hA4 k1 fun W' B' m1 m2 => h W' B' ?_ (k2.tr m2)
        rw [List.map_cons, ← List.singleton_append, ← List.append_assoc, hix]
        exact m1
/-- the pairs of the present edges among the first -/
def mrgs (es : gE) (P : Nat → Bool) (far par : Nat → Nat) : Nat → List (Nat × Nat)
  | 0 => []
  | i + 1 => mrgs es P far par i ++ (match es[i]? with
    | some g => if P i then mrgE es far par i g else []
    | none => [])
theorem mem_mrgs {far par : Nat → Nat} {p : Nat × Nat} : ∀ {n : Nat}, p ∈ mrgs es P far par n ↔ ∃ i g, i < n ∧ es[i]? = some g ∧ P i = true ∧ p ∈ mrgE es far par i g
  | 0 => by simp [mrgs]
  | n + 1 => by
    rw [mrgs, List.mem_append, mem_mrgs]
    constructor
    · rintro (⟨i, g, h1, h2⟩ | h)
      · exact ⟨i, g, by omega, h2⟩
      · cases hg : es[n]? with
        | none => rw [hg] at h; simp at h
        | some g =>
          rw [hg] at h
          cases hP : P n with
          | false => rw [hP] at h; simp at h
          | true => rw [hP] at h; exact ⟨n, g, by omega, hg, hP, h⟩
    · rintro ⟨i, g, h1, h2, h3, h4⟩
      by_cases e : i = n
      · subst e
        rw [h2, h3]
        exact Or.inr h4
      · exact Or.inl ⟨i, g, by omega, h2, h3, h4⟩
theorem EI.blk {B far par rt : Nat → Nat} (hV : V ≤ 20) (hO : okE V es) (hFr : Frs V (prs P 0 es) far par rt) (h : EI W es.length (mrgs es P far par es.length) B) : BlkOK V (prs P 0 es) (fun g => B (es.idxOf g)) := by
  have hFC := frs_FC (tie := true) (prs_ok hO) hV hFr
  have at_ : ∀ g, g ∈ prs P 0 es → ∃ i, i < es.length ∧ es[i]? = some g ∧ P i = true ∧ es.idxOf g = i := fun g hg => by
    obtain ⟨i, h1, h2⟩ := mem_prs.mp hg
    rw [Nat.zero_add] at h2
    exact ⟨i, (List.getElem?_eq_some_iff.mp h1).1, h1, h2, ix_of hO.2 h1⟩
  refine ⟨far, par, wX far par true, hFC, fun g hg x hX => ?_, fun f hf g hg g' hg' hL => ?_⟩
  · obtain ⟨i, i1, i2, i3, i4⟩ := at_ g hg
    have := h.2.1 (es.idxOf (te par x), i) (mem_mrgs.mpr ⟨i, g, i1, i2, i3, List.mem_map.mpr ⟨x, wX_iff.mp hX, rfl⟩⟩)
    show B (es.idxOf g) = B (es.idxOf (te par x))
    rw [i4]; exact this.symm
  · obtain ⟨i, i1, i2, i3, i4⟩ := at_ g hg
    obtain ⟨j, j1, j2, j3, j4⟩ := at_ g' hg'
    have h1 := h.2.2 (fun k => f (es[k]?.getD (0, 0))) (fun p hp => by
      obtain ⟨k, g2, k1, k2, k3, k4⟩ := mem_mrgs.mp hp
      obtain ⟨x, hx, e⟩ := List.mem_map.mp k4
      rw [← e]
      have hg2 : g2 ∈ prs P 0 es := mem_prs.mpr ⟨k, k2, by rw [Nat.zero_add]; exact k3⟩
      have hX := wX_iff.mpr hx
      obtain ⟨a1, a2⟩ := hFC.2.1 g2 hg2 x hX
      obtain ⟨l, l1, l2, l3, l4⟩ := at_ _ (hFC.1 x a1 a2).2.2
      simp only
      rw [l4, l2, k2]
      exact (hf g2 hg2 x hX).symm) i j i1 j1 (by simp only at hL; rw [i4, j4] at hL; exact hL)
    rw [i2, j2] at h1
    exact h1
/-! number -/
def blL (B : Nat → Nat) (es : gE) (g : Nat × Nat) : Nat := B (es.idxOf g)
theorem rf_num_l {B : Nat → Nat} (hO : okE V es) (hE : es.length ≤ 60) (hB : ∀ i, i < es.length → B i < es.length) : ∀ (n i : Nat) (W : fl_W), es.length - i = n → i ≤ es.length → W 229 1 = nI es.length → PrR W P es.length →
    W 229 6 = nI (dst [] ((prs P 0 (es.take i)).map (blL B es))).length → (∀ x, x < es.length → W 245 x = if x ∈ dst [] ((prs P 0 (es.take i)).map (blL B es)) then nI ((dst [] ((prs P 0 (es.take i)).map (blL B es))).idxOf x) else -1) → (∀ j g, j < i → es[j]? = some g → W 233 j = if P j then nI ((dst [] ((prs P 0 (es.take i)).map (blL B es))).idxOf (blL B es g)) else -1) → (∀ j, i ≤ j → j < es.length → W 233 j = nI (B j)) →
    (∀ W', W' 229 6 = nI (bcnt (prs P 0 es) (blL B es)) → (∀ j g, es[j]? = some g → W' 233 j = if P j then nI (bnum (prs P 0 es) (blL B es) g) else -1) → EqF [6] [233, 245] W W' → Q none W') → hd_138_30 d Q (nI i) W := by
  intro n
  induction n with
  | zero =>
    intro i W h1 h2 hm hP h6 h245 h233 hrest h
    have hi : i = es.length := by omega
    subst hi
    rw [List.take_length] at h6 h245 h233
    refine sx_138_30 _ W ⟨fun z => absurd z ?_, fun _ => h W h6 (fun j g hj => h233 j g (List.getElem?_eq_some_iff.mp hj).1 hj) EqF.rf⟩
    rw [hm]; exact nI_nlt (by omega) (by omega)
  | succ n ih =>
    intro i W h1 h2 hm hP h6 h245 h233 hrest h
    have hi : i < es.length := by omega
    have hp := List.getElem?_eq_getElem hi
    generalize es[i] = g at hp
    have hix := ix_of hO.2 hp
    have ht1 : prs P 0 (es.take (i + 1)) = prs P 0 (es.take i) ++ (if P i then [g] else []) := by
      rw [List.take_add_one, hp, prs_app, List.length_take, Nat.zero_add, Nat.min_eq_left (by omega)]
      rfl
    have hl : blL B es g = B i := by rw [blL, hix]
    have hlt : ∀ x, x ∈ dst [] ((prs P 0 (es.take i)).map (blL B es)) → x < es.length := fun x hx => by
      rcases (dst_mem _ _ _).mp hx with z | z
      · exact absurd z List.not_mem_nil
      · obtain ⟨g1, z1, z2⟩ := List.mem_map.mp z
        have z3 : g1 ∈ es := List.mem_of_mem_take (prs_sub.subset z1)
        rw [← z2]
        exact hB _ (List.idxOf_lt_length_of_mem z3)
    have hlen : (dst [] ((prs P 0 (es.take i)).map (blL B es))).length ≤ es.length := nd_le _ (dst_nd _ _ List.nodup_nil) hlt
    have hin : ∀ j g1, j < i → es[j]? = some g1 → P j = true → blL B es g1 ∈ dst [] ((prs P 0 (es.take i)).map (blL B es)) := fun j g1 hj hg1 hPj =>
      (dst_mem _ _ _).mpr (Or.inr (List.mem_map.mpr ⟨g1, mem_prs.mpr ⟨j, by rw [List.getElem?_take, if_pos hj]; exact hg1, by rw [Nat.zero_add]; exact hPj⟩, rfl⟩))
    have hBi := hB i hi
    have hin61 : vp_in (nI i) 61 := in_N (by omega) (by omega)
    refine sx_138_30 _ W ⟨fun _ => ⟨hin61, ?_⟩, fun z => absurd ?_ z⟩
    · rw [nI_clamp (by omega), hP i hi, hrest i (Nat.le_refl _) hi, nI_clamp (by omega)]
      cases hPi : P i with
      | false =>
        rw [hPi] at ht1
        simp only [Bool.false_eq_true, if_false, List.append_nil] at ht1
        refine ⟨fun _ => ⟨hin61, fun W7 e7 => ?_⟩, fun z => absurd rfl z⟩
        rw [ci_1, nI_add]
        have f7 : EqF [6] [233, 245] W W7 := by rw [e7]; exact EqF.uwA (by simp) (by decide)
        refine ih (i + 1) W7 (by omega) (by omega) (by rw [f7.2 1 (by simp)]; exact hm) (fun j hj => by rw [f7.1 232 (by decide) (by decide)]; exact hP j hj) (by rw [ht1, e7, uw_n (by decide)]; exact h6) (fun x hx => by rw [ht1, e7, uw_n (by decide)]; exact h245 x hx) (fun j g1 hj hg1 => ?_) (fun j hj1 hj2 => ?_) fun W' k1 k2 k3 => h W' k1 k2 (f7.tr k3)
        · rw [ht1]
          by_cases e : j = i
          · rw [e, e7, uw_s, hPi]; rfl
          · rw [e7, uw_m e]; exact h233 j g1 (by omega) hg1
        · rw [e7, uw_m (by omega)]; exact hrest j (by omega) hj2
      | true =>
        rw [hPi] at ht1
        simp only [if_true] at ht1
        have hd1 : dst [] ((prs P 0 (es.take (i + 1))).map (blL B es)) = if B i ∈ dst [] ((prs P 0 (es.take i)).map (blL B es)) then dst [] ((prs P 0 (es.take i)).map (blL B es)) else dst [] ((prs P 0 (es.take i)).map (blL B es)) ++ [B i] := by
          rw [ht1, List.map_append, dst_app, List.map_singleton, hl]; rfl
        generalize hD : dst [] ((prs P 0 (es.take i)).map (blL B es)) = D at *
        have hinB : vp_in (nI (B i)) 61 := in_N (by omega) (by omega)
        refine ⟨fun z => absurd z (by decide), fun _ => ⟨hin61, hinB, ?_⟩⟩
        rw [h245 (B i) hBi]
        by_cases hs : B i ∈ D
        · rw [if_pos hs] at hd1 ⊢
          have hidx := List.idxOf_lt_length_of_mem hs
          refine ⟨fun z => absurd z (nI_pos (by omega)), fun _ => ⟨hin61, hinB, hin61, fun W3 e3 => ?_⟩⟩
          rw [ci_1, nI_add]
          have f3 : EqF [6] [233, 245] W W3 := by rw [e3]; exact EqF.uwA (by simp) (by decide)
          refine ih (i + 1) W3 (by omega) (by omega) (by rw [f3.2 1 (by simp)]; exact hm) (fun j hj => by rw [f3.1 232 (by decide) (by decide)]; exact hP j hj) (by rw [hd1, e3, uw_n (by decide)]; exact h6) (fun x hx => by rw [hd1, e3, uw_n (by decide)]; exact h245 x hx) (fun j g1 hj hg1 => ?_) (fun j hj1 hj2 => ?_) fun W' k1 k2 k3 => h W' k1 k2 (f3.tr k3)
          · rw [hd1]
            by_cases e : j = i
            · rw [e, hp] at hg1
              cases hg1
              rw [e, e3, uw_s, hPi, hl]; rfl
            · rw [e3, uw_m e]; exact h233 j g1 (by omega) hg1
          · rw [e3, uw_m (by omega)]; exact hrest j (by omega) hj2
        · rw [if_neg hs] at hd1 ⊢
          refine ⟨fun _ => ⟨hin61, hinB, fun W4 e4 W5 e5 => ?_⟩, fun z => absurd (by decide) z⟩
          rw [h6] at e4
          have a4 : W4 229 = W 229 := by rw [e4]; exact uw_n (by decide)
          rw [a4, h6, ci_1, nI_add] at e5
          have b5 : W5 233 = W 233 := by rw [e5, uw_n (by decide), e4, uw_n (by decide)]
          have b245 : W5 245 = upd (W 245) (B i) (nI D.length) := by rw [e5, uw_n (by decide), e4]; simp [fl_uw]
          rw [b5, hrest i (Nat.le_refl _) hi, nI_clamp (by omega), b245, upd_s]
          refine ⟨hin61, hinB, hin61, fun W6 e6 => ?_⟩
          rw [ci_1, nI_add]
          have f6 : EqF [6] [233, 245] W W6 := by rw [e6, e5, e4]; exact ((EqF.uwA (by simp) (by decide)).tr (EqF.uwF (by simp))).tr (EqF.uwA (by simp) (by decide))
          refine ih (i + 1) W6 (by omega) (by omega) (by rw [f6.2 1 (by simp)]; exact hm) (fun j hj => by rw [f6.1 232 (by decide) (by decide)]; exact hP j hj) ?_ (fun x hx => ?_) (fun j g1 hj hg1 => ?_) (fun j hj1 hj2 => ?_) fun W' k1 k2 k3 => h W' k1 k2 (f6.tr k3)
          · rw [hd1, e6, uw_n (by decide), e5, uw_s, List.length_append]; rfl
          · rw [hd1, e6, uw_n (by decide), b245]
            by_cases e : x = B i
            · rw [e, upd_s, if_pos (by simp), List.idxOf_append, if_neg hs]
              simp
            · rw [upd_n e, h245 x hx]
              by_cases hx2 : x ∈ D
              · rw [if_pos hx2, if_pos (List.mem_append_left _ hx2), idx_app hx2]
              · rw [if_neg hx2, if_neg (by simp [hx2, e])]
          · rw [hd1]
            by_cases e : j = i
            · rw [e, hp] at hg1
              cases hg1
              rw [e, e6, uw_s, hPi, hl, List.idxOf_append, if_neg hs]
              simp
            · rw [e6, uw_m e, b5, h233 j g1 (by omega) hg1]
              cases hPj : P j with
              | false => rfl
              | true => rw [if_pos rfl, if_pos rfl, idx_app (hin j g1 (by omega) hg1 hPj)]
          · rw [e6, uw_m (by omega), b5]; exact hrest j (by omega) hj2
    · rw [hm]; exact nI_lt hi (by omega)
theorem rf_num_i {m : Nat} (hE : m ≤ 60) : ∀ (n i : Nat) (W : fl_W), m - i = n → i ≤ m → W 229 1 = nI m → (∀ x, x < i → W 245 x = -1) → (∀ W', (∀ x, x < m → W' 245 x = -1) → EqF [] [245] W W' → hd_138_30 d Q (nI 0) W') → hd_138_7 d Q (nI i) W := by
  intro n
  induction n with
  | zero =>
    intro i W h1 h2 hv hall h
    refine sx_138_7 _ W ⟨fun z => absurd z ?_, fun _ => h W (fun x hx => hall x (by omega)) EqF.rf⟩
    rw [hv]; exact nI_nlt (by omega) (by omega)
  | succ n ih =>
    intro i W h1 h2 hv hall h
    refine sx_138_7 _ W ⟨fun _ => ⟨in_N (by omega) (by omega), fun W2 e2 => ?_⟩, fun z => absurd ?_ z⟩
    · rw [nI_clamp (by omega)] at e2
      rw [ci_1, nI_add]
      have f2 : EqF [] [245] W W2 := by rw [e2]; exact EqF.uwA (by simp) (by decide)
      refine ih (i + 1) W2 (by omega) (by omega) (by rw [f2.2 1 (by simp)]; exact hv) (fun x hx => ?_) fun W' k1 k2 => h W' k1 (f2.tr k2)
      by_cases e : x = i
      · rw [e, e2, uw_s]; rfl
      · rw [e2, uw_m e]; exact hall x (by omega)
    · rw [hv]; exact nI_lt (by omega) (by omega)
theorem rf_number {B : Nat → Nat} {ps : List (Nat × Nat)} (hG : RfG W V es) (hP : PrR W P es.length) (hI : EI W es.length ps B) (h : ∀ W', W' 229 6 = nI (bcnt (prs P 0 es) (blL B es)) → (∀ j g, es[j]? = some g → W' 233 j = if P j then nI (bnum (prs P 0 es) (blL B es) g) else -1) → EqF [6] [233, 245] W W' → Q none W') : fl_cal (d + 1) 138 [.ref 229] W Q := by
  refine sx_138 W fun W1 e1 => ?_
  have f1 : EqF [6] [233, 245] W W1 := by rw [e1]; exact EqF.uwF (by simp)
  refine rf_num_i hG.2.1 es.length 0 W1 (by omega) (Nat.zero_le _) (by rw [f1.2 1 (by simp)]; exact hG.2.2.2.2.1) (fun x hx => by omega) fun W2 k1 k2 => ?_
  have f2 : EqF [6] [233, 245] W1 W2 := k2.mono (by simp) (by simp)
  refine rf_num_l (B := B) hG.2.2.1 hG.2.1 (fun i hi => (hI.1 i hi).2) es.length 0 W2 (by simp) (Nat.zero_le _) (by rw [f2.2 1 (by simp), f1.2 1 (by simp)]; exact hG.2.2.2.2.1) (fun j hj => by rw [f2.1 232 (by decide) (by decide), f1.1 232 (by decide) (by decide)]; exact hP j hj) ?_ (fun x hx => ?_) (fun j g hj => by omega) (fun j _ hj => ?_) fun W' m1 m2 m3 => h W' m1 m2 ((f1.tr f2).tr m3)
  · rw [k2.2 6 (by simp), e1, uw_s]; rfl
  · rw [k1 x hx]; simp [prs, dst]
  · rw [k2.1 233 (by decide) (by decide), e1, uw_n (by decide)]; exact (hI.1 j hj).1
/-! makeBlocks -/
def RBlkR (W : fl_W) (V : Nat) (es : gE) (P : Nat → Bool) : Prop := ∃ L c, BlkOK V (prs P 0 es) L ∧ CmpR V (prs P 0 es) c ∧ W 229 22 = nI c ∧ W 229 6 = nI (bcnt (prs P 0 es) L) ∧ ∀ j g, es[j]? = some g → W 233 j = if P j then nI (bnum (prs P 0 es) L g) else -1
def mbL : List Nat := [233, 241, 242, 243, 244, 245]
theorem rf_mb_e {c : Nat} {far par rt : Nat → Nat} (hO : okE V es) (hE : es.length ≤ 60) (hV : V ≤ 20) (hFr : Frs V (prs P 0 es) far par rt) (hc : CmpR V (prs P 0 es) c) : ∀ (n i : Nat) (W : fl_W) (B : Nat → Nat), es.length - i = n → i ≤ es.length → RfG W V es → PrR W P es.length → W 229 22 = nI c → RFA W V es P far par → EI W es.length (mrgs es P far par i) B →
    (∀ W', RBlkR W' V es P → EqF [6] [233, 245] W W' → Q none W') → hd_137_29 (d + 1) Q (nI i) W := by
  intro n
  induction n with
  | zero =>
    intro i W B h1 h2 hG hP h22 hA hI h
    have hi : i = es.length := by omega
    subst hi
    refine sx_137_29 _ W ⟨fun z => absurd z ?_, fun _ => rf_number hG hP hI fun W3 k1 k2 k3 => h W3 ⟨_, c, hI.blk hV hO hFr, hc, ?_, k1, k2⟩ k3⟩
    · rw [hG.2.2.2.2.1]; exact nI_nlt (by omega) (by omega)
    · rw [k3.2 22 (by simp)]; exact h22
  | succ n ih =>
    intro i W B h1 h2 hG hP h22 hA hI h
    have hi : i < es.length := by omega
    have hp := List.getElem?_eq_getElem hi
    generalize es[i] = g at hp
    have hgp := hO.1 g (List.mem_of_getElem? hp)
    obtain ⟨c1, c2⟩ := hG.2.2.2.2.2 i g hp
    have hin61 : vp_in (nI i) 61 := in_N (by omega) (by omega)
    -- what comes next, once the pairs of i are in
    have next : ∀ (W' : fl_W) (B' : Nat → Nat), EqF [6] [233, 245] W W' → EI W' es.length (mrgs es P far par i ++ (if P i then mrgE es far par i g else [])) B' → hd_137_29 (d + 1) Q (nI i + Int32.ofInt 1) W' := fun W' B' f hI' => by
      rw [ci_1, nI_add]
      refine ih (i + 1) W' B' (by omega) (by omega) (hG.fr f (by simp) (by simp) (by decide) (by decide)) (fun j hj => by rw [f.1 232 (by decide) (by decide)]; exact hP j hj) (by rw [f.2 22 (by simp)]; exact h22) (hA.fr (f.1 241 (by decide) (by decide)) (f.1 242 (by decide) (by decide)) (f.1 243 (by decide) (by decide))) ?_ fun W2 k1 k2 => h W2 k1 (f.tr k2)
      rw [mrgs, hp]; exact hI'
    refine sx_137_29 _ W ⟨fun _ => ⟨hin61, hin61, hin61, ?_⟩, fun z => absurd ?_ z⟩
    · rw [nI_clamp (by omega), hP i hi, c1, c2, nI_clamp (by omega), nI_clamp (by omega)]
      cases hPi : P i with
      | false =>
        refine ⟨fun _ => next W B EqF.rf ?_, fun z => absurd rfl z⟩
        rw [hPi]; simpa using hI
      | true =>
        have hgm : g ∈ prs P 0 es := mem_prs.mpr ⟨i, hp, by rw [Nat.zero_add]; exact hPi⟩
        -- a tree's edge unites nothing
        have tree : ∀ z, z < V → W 242 z = nI i → hd_137_29 (d + 1) Q (nI i + Int32.ofInt 1) W := fun z hz e242 => by
          refine next W B EqF.rf ?_
          rw [hPi, if_pos rfl]
          by_cases hf : far z = 0
          · rw [(hA z hz).2.1 hf] at e242
            exact absurd e242.symm (nI_nm (by omega))
          · obtain ⟨_, e', c3, _, c5⟩ := (hA z hz).2.2 hf
            have hl := (List.getElem?_eq_some_iff.mp c3).1
            have hee : e' = i := (nI_eq (by omega) (by omega)).mp (c5.symm.trans e242)
            rw [hee, hp] at c3
            have hgz : g = te par z := Option.some.inj c3
            have hix := ix_of hO.2 hp
            have hX := (frs_FC (tie := true) (prs_ok hO) hV hFr).2.2.2 z hz hf
            have hall : ∀ p, p ∈ mrgE es far par i g → p = (i, i) := fun p hpm => by
              obtain ⟨x, hx, e⟩ := List.mem_map.mp hpm
              have hx2 : wX far par true g x = true := wX_iff.mpr hx
              have hxV := ((frs_FC (tie := true) (prs_ok hO) hV hFr).2.1 g hgm x hx2).1
              rw [hgz, hX x hxV] at hx2
              rw [← e, of_decide_eq_true hx2, ← hgz, hix]
            refine ⟨hI.1, fun p hpm => ?_, fun f hf => hI.2.2 f fun p hpm => hf p (List.mem_append_left _ hpm)⟩
            rcases List.mem_append.mp hpm with w | w
            · exact hI.2.1 p w
            · rw [hall p w]
        refine ⟨fun z => absurd z (by decide), fun _ => ⟨in_N (by omega) (by omega), ⟨fun e => tree g.1 (by omega) e, fun _ => ⟨in_N (by omega) (by omega), ⟨fun e => tree g.2 (by omega) e, fun _ => ?_⟩⟩⟩⟩⟩
        have f1 := frs_far hFr (x := g.1) (by omega)
        have f2 := frs_far hFr (x := g.2) (by omega)
        refine rf_up hO hFr hi hE hV 40 g.1 g.2 W _ B (by omega) (by omega) (hFr.2 g hgm) (by omega) hG.2.2.2.2.1 hA hI fun W' B' k1 k2 => ?_
        refine next W' B' (k2.mono (by simp) (by simp)) ?_
        rw [hPi, if_pos rfl]
        exact k1
    · rw [hG.2.2.2.2.1]; exact nI_lt hi (by omega)
theorem rf_mb_i {m : Nat} (hE : m ≤ 60) : ∀ (n i : Nat) (W : fl_W), m - i = n → i ≤ m → W 229 1 = nI m → (∀ x, x < i → W 233 x = nI x) → (∀ W', (∀ x, x < m → W' 233 x = nI x) → EqF [] [233] W W' → hd_137_29 d Q (nI 0) W') → hd_137_6 d Q (nI i) W := by
  intro n
  induction n with
  | zero =>
    intro i W h1 h2 hv hall h
    refine sx_137_6 _ W ⟨fun z => absurd z ?_, fun _ => h W (fun x hx => hall x (by omega)) EqF.rf⟩
    rw [hv]; exact nI_nlt (by omega) (by omega)
  | succ n ih =>
    intro i W h1 h2 hv hall h
    refine sx_137_6 _ W ⟨fun _ => ⟨in_N (by omega) (by omega), fun W2 e2 => ?_⟩, fun z => absurd ?_ z⟩
    · rw [nI_clamp (by omega)] at e2
      rw [ci_1, nI_add]
      have f2 : EqF [] [233] W W2 := by rw [e2]; exact EqF.uwA (by simp) (by decide)
      refine ih (i + 1) W2 (by omega) (by omega) (by rw [f2.2 1 (by simp)]; exact hv) (fun x hx => ?_) fun W' k1 k2 => h W' k1 (f2.tr k2)
      by_cases e : x = i
      · rw [e, e2, uw_s]
      · rw [e2, uw_m e]; exact hall x (by omega)
    · rw [hv]; exact nI_lt (by omega) (by omega)
theorem rf_makeBlocks (hG : RfG W V es) (hP : PrR W P es.length) (h : ∀ W', RBlkR W' V es P → EqF [6, 22] mbL W W' → Q none W') : fl_cal (d + 4) 137 [.ref 229] W Q := by
  refine sx_137 W (rf_forest hG hP fun W1 far par rt hR f1 => ?_)
  obtain ⟨hFr, h22, hA⟩ := hR
  have f1' : EqF [6, 22] mbL W W1 := f1.mono (by simp) (by decide)
  have hG1 := hG.fr f1 (by simp) (by simp) (by decide) (by decide)
  show hd_137_6 (d + 3) Q (nI 0) W1
  refine rf_mb_i hG.2.1 es.length 0 W1 (by omega) (Nat.zero_le _) hG1.2.2.2.2.1 (fun x hx => by omega) fun W2 k1 k2 => ?_
  refine rf_mb_e hG.2.2.1 hG.2.1 hG.1 hFr ⟨far, par, rt, hFr, rfl⟩ es.length 0 W2 (fun i => i) (by omega) (Nat.zero_le _) (hG1.fr k2 (by simp) (by simp) (by decide) (by decide)) (fun i hi => ?_) (by rw [k2.2 22 (by simp)]; exact h22) (RFA.fr hA (k2.1 241 (by decide) (by decide)) (k2.1 242 (by decide) (by decide)) (k2.1 243 (by decide) (by decide))) ⟨fun i hi => ⟨k1 i hi, hi⟩, fun p hp => by simp [mrgs] at hp, fun f _ i j _ _ e => congrArg f e⟩ fun W' m1 m2 => h W' m1 ((f1'.tr (k2.mono (by simp) (by decide))).tr (m2.mono (by simp) (by decide)))
  rw [k2.1 232 (by decide) (by decide), f1.1 232 (by decide) (by decide)]; exact hP i hi
end RBL
