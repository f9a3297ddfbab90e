/-! ===== forests, and the ways up to where two vertices meet ===== -/
def Frs (V : Nat) (es : gE) (far par rt : Nat → Nat) : Prop :=
  (∀ x, x < V → rt x ≤ x ∧ ((far x = 0 ∧ rt x = x) ∨ (far x ≠ 0 ∧ par x < V ∧ far x = far (par x) + 1 ∧ te par x ∈ es ∧ rt (par x) = rt x))) ∧ ∀ g, g ∈ es → rt g.1 = rt g.2
def pkA (far : Nat → Nat) (tie : Bool) (a b : Nat) : Bool := if tie then decide (far b ≤ far a) else decide (far b < far a)
def wlk (far par : Nat → Nat) (tie : Bool) : Nat → Nat → Nat → List Nat
  | 0, _, _ => []
  | f + 1, a, b => if a = b then [] else if pkA far tie a b then a :: wlk far par tie f (par a) b else b :: wlk far par tie f a (par b)
theorem pkA_le {far : Nat → Nat} {tie : Bool} {a b : Nat} (h : pkA far tie a b = true) : far b ≤ far a := by
  cases tie
  · exact Nat.le_of_lt (of_decide_eq_true h)
  · exact of_decide_eq_true h
theorem pkA_le' {far : Nat → Nat} {tie : Bool} {a b : Nat} (h : pkA far tie a b = false) : far a ≤ far b := by
  cases tie
  · have := of_decide_eq_false h; omega
  · have := of_decide_eq_false h; omega
theorem xsm_sub {α : Type} [BEq α] [LawfulBEq α] [DecidableEq α] {f : α → Bool} {m : List α} (hm : m.Nodup) : ∀ {l : List α}, l.Nodup → (∀ x ∈ l, x ∈ m) → xsm (fun x => l.contains x && f x) m = xsm f l
  | [], _, _ => xsm_zero fun _ _ => rfl
  | a :: l, hn, hs => by
    rw [List.nodup_cons] at hn
    have h1 := xsm_sub (f := f) hm hn.2 fun x hx => hs x (List.mem_cons_of_mem _ hx)
    have h2 := xsm_one (f := f) hm (hs a List.mem_cons_self)
    rw [xsm, ← h1, ← h2, ← xsm_xor]
    refine xsm_congr fun x _ => ?_
    rw [List.contains_eq_mem, List.contains_eq_mem]
    by_cases e : x = a
    · subst e
      simp [hn.1]
    · simp [e]
section WLK
variable {V : Nat} {es : gE} {far par rt : Nat → Nat} {tie : Bool}
theorem wlk_far : ∀ (f a b y : Nat), y ∈ wlk far par tie f a b → (∀ x, x < V → far x ≠ 0 → par x < V ∧ far (par x) < far x) → a < V → b < V → (∀ a b, a < V → b < V → a ≠ b → rt a = rt b → far a ≠ 0 ∨ far b ≠ 0) → (∀ x, x < V → far x ≠ 0 → rt (par x) = rt x) → rt a = rt b → y < V ∧ far y ≠ 0 ∧ ((far y < far a ∨ y = a) ∨ (far y < far b ∨ y = b)) := by
  intro f
  induction f with
  | zero => intro a b y h; exact absurd h List.not_mem_nil
  | succ f ih =>
    intro a b y h hp ha hb hr hrt hab
    rw [wlk] at h
    by_cases e : a = b
    · rw [if_pos e] at h; exact absurd h List.not_mem_nil
    · rw [if_neg e] at h
      have h0 := hr a b ha hb e hab
      cases hk : pkA far tie a b with
      | true =>
        rw [hk, if_pos rfl] at h
        have hle := pkA_le hk
        have hfa : far a ≠ 0 := by omega
        obtain ⟨p1, p2⟩ := hp a ha hfa
        rcases List.mem_cons.mp h with q | q
        · rw [q]; exact ⟨ha, hfa, Or.inl (Or.inr rfl)⟩
        · obtain ⟨r1, r2, r3⟩ := ih (par a) b y q hp p1 hb hr hrt ((hrt a ha hfa).trans hab)
          refine ⟨r1, r2, ?_⟩
          rcases r3 with (r | r) | r
          · exact Or.inl (Or.inl (by omega))
          · exact Or.inl (Or.inl (by rw [r]; omega))
          · exact Or.inr r
      | false =>
        rw [hk] at h
        simp only [Bool.false_eq_true, if_false] at h
        have hle := pkA_le' hk
        have hfb : far b ≠ 0 := by omega
        obtain ⟨p1, p2⟩ := hp b hb hfb
        rcases List.mem_cons.mp h with q | q
        · rw [q]; exact ⟨hb, hfb, Or.inr (Or.inr rfl)⟩
        · obtain ⟨r1, r2, r3⟩ := ih a (par b) y q hp ha p1 hr hrt (hab.trans (hrt b hb hfb).symm)
          refine ⟨r1, r2, ?_⟩
          rcases r3 with r | (r | r)
          · exact Or.inl r
          · exact Or.inr (Or.inl (by omega))
          · exact Or.inr (Or.inl (by rw [r]; omega))
theorem Frs.p1 (h : Frs V es far par rt) : ∀ x, x < V → far x ≠ 0 → par x < V ∧ far (par x) < far x := fun x hx hf => by
  rcases (h.1 x hx).2 with q | q
  · exact absurd q.1 hf
  · exact ⟨q.2.1, by omega⟩
theorem Frs.p2 (h : Frs V es far par rt) : ∀ a b, a < V → b < V → a ≠ b → rt a = rt b → far a ≠ 0 ∨ far b ≠ 0 := fun a b ha hb hne hab => by
  rcases (h.1 a ha).2 with q | q
  · rcases (h.1 b hb).2 with r | r
    · exact absurd (q.2.symm.trans (hab.trans r.2)) hne
    · exact Or.inr r.1
  · exact Or.inl q.1
theorem Frs.p3 (h : Frs V es far par rt) : ∀ x, x < V → far x ≠ 0 → rt (par x) = rt x := fun x hx hf => by
  rcases (h.1 x hx).2 with q | q
  · exact absurd q.1 hf
  · exact q.2.2.2.2
theorem Frs.p4 (h : Frs V es far par rt) : ∀ x, x < V → far x ≠ 0 → far x = far (par x) + 1 ∧ te par x ∈ es := fun x hx hf => by
  rcases (h.1 x hx).2 with q | q
  · exact absurd q.1 hf
  · exact ⟨q.2.2.1, q.2.2.2.1⟩
theorem wlk_nd (h : Frs V es far par rt) : ∀ (f a b : Nat), a < V → b < V → rt a = rt b → (wlk far par tie f a b).Nodup := by
  intro f
  induction f with
  | zero => intro a b _ _ _; exact List.nodup_nil
  | succ f ih =>
    intro a b ha hb hab
    rw [wlk]
    by_cases e : a = b
    · rw [if_pos e]; exact List.nodup_nil
    · rw [if_neg e]
      have h0 := h.p2 a b ha hb e hab
      cases hk : pkA far tie a b with
      | true =>
        rw [if_pos rfl, List.nodup_cons]
        have hle := pkA_le hk
        have hfa : far a ≠ 0 := by omega
        obtain ⟨p1, p2⟩ := h.p1 a ha hfa
        have hab' := (h.p3 a ha hfa).trans hab
        refine ⟨fun z => ?_, ih _ _ p1 hb hab'⟩
        rcases (wlk_far f (par a) b a z h.p1 p1 hb h.p2 h.p3 hab').2.2 with (r | r) | (r | r)
        · omega
        · rw [← r] at p2; omega
        · omega
        · exact e r
      | false =>
        simp only [Bool.false_eq_true, if_false]
        rw [List.nodup_cons]
        have hle := pkA_le' hk
        have hfb : far b ≠ 0 := by omega
        obtain ⟨p1, p2⟩ := h.p1 b hb hfb
        have hab' := hab.trans (h.p3 b hb hfb).symm
        refine ⟨fun z => ?_, ih _ _ ha p1 hab'⟩
        rcases (wlk_far f a (par b) b z h.p1 ha p1 h.p2 h.p3 hab').2.2 with (r | r) | (r | r)
        · omega
        · exact e r.symm
        · omega
        · rw [← r] at p2; omega
theorem wlk_par (h : Frs V es far par rt) : ∀ (f a b : Nat), a < V → b < V → rt a = rt b → far a + far b ≤ f → ∀ v, (decide (v = a) ^^ decide (v = b)) = xsm (fun x => inc (te par x) v) (wlk far par tie f a b) := by
  intro f
  induction f with
  | zero =>
    intro a b ha hb hab hf v
    have : a = b := Classical.byContradiction fun e => by
      have := h.p2 a b ha hb e hab; omega
    rw [this, wlk]
    cases decide (v = b) <;> rfl
  | succ f ih =>
    intro a b ha hb hab hf v
    rw [wlk]
    by_cases e : a = b
    · rw [if_pos e, e, xsm]
      cases decide (v = b) <;> rfl
    · rw [if_neg e]
      have h0 := h.p2 a b ha hb e hab
      cases hk : pkA far tie a b with
      | true =>
        have hle := pkA_le hk
        have hfa : far a ≠ 0 := by omega
        obtain ⟨p1, p2⟩ := h.p1 a ha hfa
        have hne : a ≠ par a := fun z => by rw [← z] at p2; omega
        rw [if_pos rfl, xsm, ← ih _ _ p1 hb ((h.p3 a ha hfa).trans hab) (by omega) v, inc_te]
        by_cases e1 : v = a
        · by_cases e2 : v = par a
          · exact absurd (e1.symm.trans e2) hne
          · rw [decide_eq_true e1, decide_eq_false e2]; cases decide (v = b) <;> rfl
        · rw [decide_eq_false e1]; cases decide (v = par a) <;> cases decide (v = b) <;> rfl
      | false =>
        have hle := pkA_le' hk
        have hfb : far b ≠ 0 := by omega
        obtain ⟨p1, p2⟩ := h.p1 b hb hfb
        have hne : b ≠ par b := fun z => by rw [← z] at p2; omega
        simp only [Bool.false_eq_true, if_false]
        rw [xsm, ← ih _ _ ha p1 (hab.trans (h.p3 b hb hfb).symm) (by omega) v, inc_te]
        by_cases e1 : v = b
        · by_cases e2 : v = par b
          · exact absurd (e1.symm.trans e2) hne
          · rw [decide_eq_true e1, decide_eq_false e2]; cases decide (v = a) <;> rfl
        · rw [decide_eq_false e1]; cases decide (v = par b) <;> cases decide (v = a) <;> rfl
theorem frs_far_l (h : Frs V es far par rt) : ∀ (n x : Nat), x < V → far x = n → ∃ l : List Nat, l.length = n + 1 ∧ l.Nodup ∧ (∀ y ∈ l, y < V) ∧ ∀ y ∈ l, far y ≤ n := by
  intro n
  induction n with
  | zero => intro x hx hf; exact ⟨[x], rfl, by simp, fun y hy => by simp at hy; omega, fun y hy => by simp at hy; rw [hy]; omega⟩
  | succ n ih =>
    intro x hx hf
    obtain ⟨l, h1, h2, h3, h4⟩ := ih (par x) (h.p1 x hx (by omega)).1 (by have := (h.p4 x hx (by omega)).1; omega)
    refine ⟨x :: l, by simp [h1], List.nodup_cons.mpr ⟨fun z => ?_, h2⟩, fun y hy => ?_, fun y hy => ?_⟩
    · have := h4 x z; omega
    · rcases List.mem_cons.mp hy with q | q
      · omega
      · exact h3 y q
    · rcases List.mem_cons.mp hy with q | q
      · rw [q]; omega
      · have := h4 y q; omega
theorem frs_far (h : Frs V es far par rt) {x : Nat} (hx : x < V) : far x < V := by
  obtain ⟨l, h1, h2, h3, _⟩ := frs_far_l h (far x) x hx rfl
  have := nd_le V h2 h3
  omega
def wX (far par : Nat → Nat) (tie : Bool) (g : Nat × Nat) (x : Nat) : Bool := (wlk far par tie 40 g.1 g.2).contains x
theorem wX_iff {g : Nat × Nat} {x : Nat} : wX far par tie g x = true ↔ x ∈ wlk far par tie 40 g.1 g.2 := by simp [wX]
/-- a forest and the ways up in it -/
theorem frs_FC (hO : okE V es) (hV : V ≤ 20) (h : Frs V es far par rt) : FC V es far par (wX far par tie) := by
  refine ⟨fun x hx hf => ⟨(h.p1 x hx hf).1, h.p4 x hx hf⟩, fun g hg x hX => ?_, fun g hg v hv => ?_, fun z hz fz x hx => ?_⟩
  · have hp := hO.1 g hg
    have := wlk_far 40 g.1 g.2 x (wX_iff.mp hX) h.p1 (by omega) (by omega) h.p2 h.p3 (h.2 g hg)
    exact ⟨this.1, this.2.1⟩
  · have hp := hO.1 g hg
    have f1 := frs_far h (x := g.1) (by omega)
    have f2 := frs_far h (x := g.2) (by omega)
    rw [inc_xor (by omega), wlk_par (tie := tie) h 40 g.1 g.2 (by omega) (by omega) (h.2 g hg) (by omega) v]
    exact (xsm_sub List.nodup_range (wlk_nd h 40 g.1 g.2 (by omega) (by omega) (h.2 g hg)) fun x hx => List.mem_range.mpr (wlk_far 40 g.1 g.2 x hx h.p1 (by omega) (by omega) h.p2 h.p3 (h.2 g hg)).1).symm
  · have h1 := (h.p4 z hz fz).1
    have hne : z ≠ par z := fun e => by rw [← e] at h1; omega
    have e : wlk far par tie 40 (te par z).1 (te par z).2 = [z] := by
      rw [wlk, te]
      rcases Nat.lt_or_ge z (par z) with q | q
      · rw [show min z (par z) = z by omega, show max z (par z) = par z by omega, if_neg hne]
        have : pkA far tie z (par z) = true := by cases tie <;> simp [pkA] <;> omega
        rw [this, if_pos rfl, wlk, if_pos rfl]
      · rw [show min z (par z) = par z by omega, show max z (par z) = z by omega, if_neg (Ne.symm hne)]
        have : pkA far tie (par z) z = false := by cases tie <;> simp [pkA] <;> omega
        rw [this]
        simp only [Bool.false_eq_true, if_false]
        rw [wlk, if_pos rfl]
    rw [wX, e, Bool.eq_iff_iff]
    simp
/-! how many pieces -/
theorem frs_f (h : Frs V es far par rt) {α : Type} {f : Nat → α} (hf : ∀ g, g ∈ es → f g.1 = f g.2) : ∀ (n x : Nat), x < V → far x = n → f x = f (rt x) := by
  intro n
  induction n with
  | zero =>
    intro x hx hn
    rcases (h.1 x hx).2 with q | q
    · rw [q.2]
    · exact absurd hn q.1
  | succ n ih =>
    intro x hx hn
    obtain ⟨a1, a2⟩ := h.p4 x hx (by omega)
    have h1 := hf _ a2
    have h2 : f x = f (par x) := by
      simp only [te] at h1
      rcases Nat.lt_or_ge x (par x) with q | q
      · rw [show min x (par x) = x by omega, show max x (par x) = par x by omega] at h1; exact h1
      · rw [show min x (par x) = par x by omega, show max x (par x) = x by omega] at h1; exact h1.symm
    rw [h2, ih (par x) (h.p1 x hx (by omega)).1 (by omega), h.p3 x hx (by omega)]
theorem frs_rt {far' par' rt' : Nat → Nat} (h : Frs V es far par rt) (h' : Frs V es far' par' rt') {x : Nat} (hx : x < V) : rt x = rt' x := by
  have rtlt : ∀ {far par rt : Nat → Nat}, Frs V es far par rt → rt x < V := fun h => Nat.lt_of_le_of_lt (h.1 x hx).1 hx
  have e1 := frs_f h (f := rt') h'.2 (far x) x hx rfl
  have e2 := frs_f h' (f := rt) h.2 (far' x) x hx rfl
  have l1 := (h'.1 (rt x) (rtlt h)).1
  have l2 := (h.1 (rt' x) (rtlt h')).1
  omega
theorem frs_root (h : Frs V es far par rt) {x : Nat} (hx : x < V) : far x = 0 ↔ rt x = x := by
  rcases (h.1 x hx).2 with q | q
  · exact ⟨fun _ => q.2, fun _ => q.1⟩
  · refine ⟨fun z => absurd z q.1, fun z => ?_⟩
    have h1 := (h.1 (par x) q.2.1).1
    have h2 : ∀ (n y : Nat), y < V → far y = n → far (rt y) = 0 := by
      intro n
      induction n with
      | zero =>
        intro y hy hn
        rcases (h.1 y hy).2 with r | r
        · rw [r.2]; exact hn
        · exact absurd hn r.1
      | succ n ih =>
        intro y hy hn
        rw [← h.p3 y hy (by omega)]
        exact ih _ (h.p1 y hy (by omega)).1 (by have := (h.p4 y hy (by omega)).1; omega)
    have := h2 (far x) x hx rfl
    rw [z] at this
    exact this
end WLK
def CmpR (V : Nat) (es : gE) (c : Nat) : Prop := ∃ far par rt, Frs V es far par rt ∧ c = cnt (fun v => decide (far v = 0)) V
theorem cmp_uniq {V : Nat} {es : gE} {c c' : Nat} (h : CmpR V es c) (h' : CmpR V es c') : c = c' := by
  obtain ⟨far, par, rt, hF, rfl⟩ := h
  obtain ⟨far', par', rt', hF', rfl⟩ := h'
  refine cnt_congr fun v hv => ?_
  rw [Bool.eq_iff_iff, decide_eq_true_iff, decide_eq_true_iff, frs_root hF hv, frs_root hF' hv, frs_rt hF hF' hv]
