/-! ===== blocks: labels of edges that rings make, whatever the forest ===== -/
def lbC (es : gE) (par : Nat → Nat) (X : Nat × Nat → Nat → Bool) (L : Nat × Nat → Nat) : Prop := ∀ g, g ∈ es → ∀ x, X g x = true → L g = L (te par x)
def lbS (es : gE) (par : Nat → Nat) (X : Nat × Nat → Nat → Bool) (L : Nat × Nat → Nat) : Prop := ∀ f : Nat × Nat → Nat, lbC es par X f → ∀ g, g ∈ es → ∀ g', g' ∈ es → L g = L g' → f g = f g'
def BlkOK (V : Nat) (es : gE) (L : Nat × Nat → Nat) : Prop := ∃ far par X, FC V es far par X ∧ lbC es par X L ∧ lbS es par X L
theorem blk_sub {V : Nat} {es : gE} (hO : okE V es) {far par far' par' : Nat → Nat} {X X' : Nat × Nat → Nat → Bool} {L' : Nat × Nat → Nat} (hF : FC V es far par X) (hF' : FC V es far' par' X') (hC' : lbC es par' X' L') : lbC es par X L' := by
  intro g hg x hX
  by_cases hT : isT V far par g
  · obtain ⟨z, hz, fz, e⟩ := hT
    have hxV := (hF.2.1 g hg x hX).1
    rw [← e, hF.2.2.2 z hz fz x hxV] at hX
    rw [of_decide_eq_true hX, e]
  · have h1 := fc_cut hF' (rgC_ev hF hO.2 hg) (P := fun q => decide (L' q = L' g)) fun q hq y hy => by rw [hC' q hq y hy]
    have h2 := rgC_min hF hO.2 hg hT h1 x hX
    rw [decide_eq_true rfl] at h2
    exact (of_decide_eq_true h2.symm).symm
theorem blk_uniq {V : Nat} {es : gE} (hO : okE V es) {L L' : Nat × Nat → Nat} (h : BlkOK V es L) (h' : BlkOK V es L') : ∀ g, g ∈ es → ∀ g', g' ∈ es → (L g = L g' ↔ L' g = L' g') := by
  obtain ⟨far, par, X, hF, hC, hS⟩ := h
  obtain ⟨far', par', X', hF', hC', hS'⟩ := h'
  intro g hg g' hg'
  exact ⟨hS L' (blk_sub hO hF hF' hC') g hg g' hg', hS' L (blk_sub hO hF' hF hC) g hg g' hg'⟩
theorem xsm_inc {V : Nat} {g : Nat × Nat} (h : g.1 < g.2 ∧ g.2 < V) : xsm (fun v => inc g v) (List.range V) = false := by
  have h1 : xsm (fun v => inc g v) (List.range V) = (xsm (fun v => decide (v = g.1) && true) (List.range V) ^^ xsm (fun v => decide (v = g.2) && true) (List.range V)) := by
    rw [← xsm_xor]
    exact xsm_congr fun v _ => by rw [inc_xor (by omega), Bool.and_true, Bool.and_true]
  rw [h1, xsm_one (f := fun _ => true) List.nodup_range (List.mem_range.mpr (by omega)), xsm_one (f := fun _ => true) List.nodup_range (List.mem_range.mpr (by omega))]
  rfl
theorem hand {V : Nat} {es : gE} (hO : okE V es) (A : Nat × Nat → Bool) : xsm (fun v => xsm (fun g => A g && inc g v) es) (List.range V) = false := by
  rw [xsm_swap]
  refine xsm_zero fun g hg => ?_
  rw [xsm_and, xsm_inc (hO.1 g hg), Bool.and_false]
/-- two vertices stand between a part of a block and the rest of it -/
theorem blk_two {V : Nat} {es : gE} (hO : okE V es) {L : Nat × Nat → Nat} (h : BlkOK V es L) {P : Nat × Nat → Bool} {p q : Nat × Nat} (hp : p ∈ es) (hq : q ∈ es) (hL : L p = L q) (hP : P p = true) (hQ : P q = false) :
    ∃ v1 v2, v1 ≠ v2 ∧ ∀ v, v = v1 ∨ v = v2 → (∃ g, g ∈ es ∧ L g = L p ∧ P g = true ∧ inc g v = true) ∧ ∃ g, g ∈ es ∧ L g = L p ∧ P g = false ∧ inc g v = true := by
  obtain ⟨far, par, X, hF, hC, hS⟩ := h
  have h1 : ∃ g x, g ∈ es ∧ X g x = true ∧ L g = L p ∧ P g ≠ P (te par x) := by
    refine Classical.byContradiction fun hno => ?_
    have h2 : lbC es par X (fun g => if L g = L p then (if P g then 1 else 0) else 2) := by
      intro g hg x hX
      have h3 := hC g hg x hX
      simp only [← h3]
      by_cases e : L g = L p
      · rw [if_pos e, if_pos e]
        by_cases e2 : P g = P (te par x)
        · rw [e2]
        · exact absurd ⟨g, x, hg, hX, e, e2⟩ hno
      · rw [if_neg e, if_neg e]
    have h4 := hS _ h2 p hp q hq hL
    simp [hL, hP, hQ] at h4
  obtain ⟨g, x, hg, hX, hLg, hne⟩ := h1
  have hT : ¬ isT V far par g := by
    rintro ⟨z, hz, fz, e⟩
    have hxV := (hF.2.1 g hg x hX).1
    rw [← e, hF.2.2.2 z hz fz x hxV] at hX
    rw [of_decide_eq_true hX, e] at hne
    exact hne rfl
  have hlab : ∀ g', g' ∈ es → rgC V par X g g' = true → L g' = L p := by
    intro g' _ hr
    rcases rgC_mem hr with e | ⟨y, hy, e⟩
    · rw [e, hLg]
    · rw [e, ← hC g hg y hy, hLg]
  have hodd : ∃ v1, v1 < V ∧ xsm (fun g' => rgC V par X g g' && P g' && inc g' v1) es = true := by
    refine Classical.byContradiction fun hno => hne (rgC_min hF hO.2 hg hT (P := P) (fun v hv => ?_) x hX)
    cases hc : xsm (fun g' => (rgC V par X g g' && P g') && inc g' v) es with
    | false => rfl
    | true => exact absurd ⟨v, hv, hc⟩ hno
  obtain ⟨v1, hv1, ho1⟩ := hodd
  obtain ⟨v2, hv2, hne2, ho2⟩ := xsm_two (hand hO fun g' => rgC V par X g g' && P g') v1 (List.mem_range.mpr hv1) List.nodup_range ho1
  have both : ∀ v, v < V → xsm (fun g' => rgC V par X g g' && P g' && inc g' v) es = true → (∃ g, g ∈ es ∧ L g = L p ∧ P g = true ∧ inc g v = true) ∧ ∃ g, g ∈ es ∧ L g = L p ∧ P g = false ∧ inc g v = true := by
    intro v hv ho
    constructor
    · obtain ⟨a, ha, hb⟩ := xsm_ex ho
      simp only [Bool.and_eq_true] at hb
      exact ⟨a, ha, hlab a ha hb.1.1, hb.1.2, hb.2⟩
    · have h5 : xsm (fun g' => rgC V par X g g' && !P g' && inc g' v) es = true := by
        have h6 := rgC_ev hF hO.2 hg v hv
        have h7 : xsm (fun g' => rgC V par X g g' && inc g' v) es = (xsm (fun g' => rgC V par X g g' && P g' && inc g' v) es ^^ xsm (fun g' => rgC V par X g g' && !P g' && inc g' v) es) := by
          rw [← xsm_xor]
          exact xsm_congr fun g' _ => by cases rgC V par X g g' <;> cases P g' <;> cases inc g' v <;> rfl
        rw [h7, ho] at h6
        simpa using h6
      obtain ⟨a, ha, hb⟩ := xsm_ex h5
      simp only [Bool.and_eq_true, Bool.not_eq_true'] at hb
      exact ⟨a, ha, hlab a ha hb.1.1, hb.1.2, hb.2⟩
  refine ⟨v1, v2, Ne.symm hne2, fun v hv => ?_⟩
  rcases hv with e | e
  · rw [e]; exact both v1 hv1 ho1
  · rw [e]; exact both v2 (List.mem_range.mp hv2) ho2
/-! ===== numbers of labels in the order of their first edges ===== -/
def dst : List Nat → List Nat → List Nat
  | acc, [] => acc
  | acc, a :: l => dst (if a ∈ acc then acc else acc ++ [a]) l
theorem dst_app : ∀ (l m acc : List Nat), dst acc (l ++ m) = dst (dst acc l) m
  | [], m, acc => rfl
  | a :: l, m, acc => by rw [List.cons_append, dst, dst, dst_app l m]
theorem dst_mem : ∀ (l acc : List Nat) (x : Nat), x ∈ dst acc l ↔ x ∈ acc ∨ x ∈ l
  | [], acc, x => by simp [dst]
  | a :: l, acc, x => by
    rw [dst, dst_mem l]
    by_cases h : a ∈ acc
    · rw [if_pos h, List.mem_cons]
      constructor
      · rintro (q | q)
        · exact Or.inl q
        · exact Or.inr (Or.inr q)
      · rintro (q | q | q)
        · exact Or.inl q
        · exact Or.inl (q ▸ h)
        · exact Or.inr q
    · rw [if_neg h, List.mem_append, List.mem_singleton, List.mem_cons, or_assoc]
theorem dst_nd : ∀ (l acc : List Nat), acc.Nodup → (dst acc l).Nodup
  | [], acc, h => h
  | a :: l, acc, h => by
    rw [dst]
    refine dst_nd l _ ?_
    by_cases q : a ∈ acc
    · rw [if_pos q]; exact h
    · rw [if_neg q, List.nodup_append]
      exact ⟨h, by simp, fun x hx y hy e => q (by simp at hy; rw [← hy, ← e]; exact hx)⟩
theorem dst_pre : ∀ (l acc : List Nat), ∃ t, dst acc l = acc ++ t
  | [], acc => ⟨[], by simp [dst]⟩
  | a :: l, acc => by
    rw [dst]
    obtain ⟨t, ht⟩ := dst_pre l (if a ∈ acc then acc else acc ++ [a])
    by_cases q : a ∈ acc
    · rw [if_pos q] at ht ⊢; exact ⟨t, ht⟩
    · rw [if_neg q] at ht ⊢; exact ⟨a :: t, by rw [ht]; simp⟩
theorem idx_app {l t : List Nat} {x : Nat} (h : x ∈ l) : (l ++ t).idxOf x = l.idxOf x := by rw [List.idxOf_append, if_pos h]
theorem idx_at {l : List Nat} {x : Nat} (h : x ∈ l) : l[l.idxOf x]? = some x := by
  rw [List.getElem?_eq_getElem (List.idxOf_lt_length_of_mem h)]
  simp
/-- the number of the block of g -/
def bnum (es : gE) (L : Nat × Nat → Nat) (g : Nat × Nat) : Nat := (dst [] (es.map L)).idxOf (L g)
def bcnt (es : gE) (L : Nat × Nat → Nat) : Nat := (dst [] (es.map L)).length
theorem bnum_lt {es : gE} {L : Nat × Nat → Nat} {g : Nat × Nat} (hg : g ∈ es) : bnum es L g < bcnt es L := List.idxOf_lt_length_of_mem ((dst_mem _ _ _).mpr (Or.inr (List.mem_map.mpr ⟨g, hg, rfl⟩)))
theorem bnum_eq {es : gE} {L : Nat × Nat → Nat} {g g' : Nat × Nat} (hg : g ∈ es) (hg' : g' ∈ es) : bnum es L g = bnum es L g' ↔ L g = L g' := by
  constructor
  · intro h
    have m1 : L g ∈ dst [] (es.map L) := (dst_mem _ _ _).mpr (Or.inr (List.mem_map.mpr ⟨g, hg, rfl⟩))
    have m2 : L g' ∈ dst [] (es.map L) := (dst_mem _ _ _).mpr (Or.inr (List.mem_map.mpr ⟨g', hg', rfl⟩))
    have e1 := idx_at m1
    have e2 := idx_at m2
    rw [show (dst [] (es.map L)).idxOf (L g) = (dst [] (es.map L)).idxOf (L g') from h, e2] at e1
    exact (Option.some.inj e1).symm
  · intro h
    rw [bnum, bnum, h]
theorem bnum_ex {es : gE} {L : Nat × Nat → Nat} {b : Nat} (hb : b < bcnt es L) : ∃ g, g ∈ es ∧ bnum es L g = b := by
  have hm : (dst [] (es.map L))[b]'hb ∈ dst [] (es.map L) := List.getElem_mem hb
  rcases (dst_mem _ _ _).mp hm with z | z
  · exact absurd z List.not_mem_nil
  · obtain ⟨g, hg, e⟩ := List.mem_map.mp z
    refine ⟨g, hg, ?_⟩
    rw [bnum, e]
    exact (dst_nd _ _ List.nodup_nil).idxOf_getElem b hb
/-- equivalent labels have the same numbers -/
theorem dst_same {L L' : Nat × Nat → Nat} : ∀ (n : Nat) (l : gE), l.length = n → (∀ g, g ∈ l → ∀ g', g' ∈ l → (L g = L g' ↔ L' g = L' g')) → bcnt l L = bcnt l L' ∧ ∀ g, g ∈ l → bnum l L g = bnum l L' g := by
  intro n
  induction n with
  | zero =>
    intro l hl _
    rw [List.length_eq_zero_iff.mp hl]
    exact ⟨rfl, fun g hg => absurd hg List.not_mem_nil⟩
  | succ n ih =>
    intro l hl h
    have hne : l ≠ [] := fun e => by rw [e] at hl; simp at hl
    obtain ⟨l0, p, rfl⟩ : ∃ l0 p, l = l0 ++ [p] := ⟨l.dropLast, l.getLast hne, (List.dropLast_concat_getLast hne).symm⟩
    obtain ⟨i1, i2⟩ := ih l0 (by simpa using hl) fun g hg g' hg' => h g (List.mem_append_left _ hg) g' (List.mem_append_left _ hg')
    have hdef : ∀ M : Nat × Nat → Nat, dst [] ((l0 ++ [p]).map M) = if M p ∈ dst [] (l0.map M) then dst [] (l0.map M) else dst [] (l0.map M) ++ [M p] := fun M => by
      rw [List.map_append, dst_app]; rfl
    have hmem : ∀ M : Nat × Nat → Nat, M p ∈ dst [] (l0.map M) ↔ ∃ g, g ∈ l0 ∧ M g = M p := fun M => by
      rw [dst_mem]
      constructor
      · rintro (z | z)
        · exact absurd z List.not_mem_nil
        · obtain ⟨g, a, b⟩ := List.mem_map.mp z; exact ⟨g, a, b⟩
      · rintro ⟨g, a, b⟩; exact Or.inr (List.mem_map.mpr ⟨g, a, b⟩)
    have hiff : L p ∈ dst [] (l0.map L) ↔ L' p ∈ dst [] (l0.map L') := by
      rw [hmem, hmem]
      constructor
      · rintro ⟨g, a, b⟩; exact ⟨g, a, (h g (List.mem_append_left _ a) p (by simp)).mp b⟩
      · rintro ⟨g, a, b⟩; exact ⟨g, a, (h g (List.mem_append_left _ a) p (by simp)).mpr b⟩
    have hin : ∀ M : Nat × Nat → Nat, ∀ g, g ∈ l0 → M g ∈ dst [] (l0.map M) := fun M g hg => (dst_mem _ _ _).mpr (Or.inr (List.mem_map.mpr ⟨g, hg, rfl⟩))
    by_cases q : L p ∈ dst [] (l0.map L)
    · have q' := hiff.mp q
      have e1 : ∀ g, bnum (l0 ++ [p]) L g = bnum l0 L g := fun g => by rw [bnum, hdef, if_pos q, bnum]
      have e2 : ∀ g, bnum (l0 ++ [p]) L' g = bnum l0 L' g := fun g => by rw [bnum, hdef, if_pos q', bnum]
      refine ⟨by rw [bcnt, bcnt, hdef, hdef, if_pos q, if_pos q']; exact i1, fun g hg => ?_⟩
      rw [e1, e2]
      rcases List.mem_append.mp hg with z | z
      · exact i2 g z
      · rw [List.mem_singleton.mp z]
        obtain ⟨g1, a, b⟩ := (hmem L).mp q
        have b' := (h g1 (List.mem_append_left _ a) p (by simp)).mp b
        have := i2 g1 a
        rw [bnum, bnum, b, b'] at this
        exact this
    · have q' := fun z => q (hiff.mpr z)
      refine ⟨by rw [bcnt, bcnt, hdef, hdef, if_neg q, if_neg q', List.length_append, List.length_append]; rw [bcnt, bcnt] at i1; rw [i1]; rfl, fun g hg => ?_⟩
      rw [bnum, bnum, hdef, hdef, if_neg q, if_neg q']
      rcases List.mem_append.mp hg with z | z
      · rw [idx_app (hin L g z), idx_app (hin L' g z)]
        exact i2 g z
      · rw [List.mem_singleton.mp z, List.idxOf_append, List.idxOf_append, if_neg q, if_neg q']
        rw [bcnt, bcnt] at i1
        rw [i1]
        simp
theorem blk_num {V : Nat} {es : gE} (hO : okE V es) {L L' : Nat × Nat → Nat} (h : BlkOK V es L) (h' : BlkOK V es L') : bcnt es L = bcnt es L' ∧ ∀ g, g ∈ es → bnum es L g = bnum es L' g := dst_same _ es rfl (blk_uniq hO h h')
