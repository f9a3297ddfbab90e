/-! ===== sums of bits, even sets of edges, forests and what closes with them ===== -/
def xsm {α : Type} (f : α → Bool) : List α → Bool
  | [] => false
  | a :: l => f a ^^ xsm f l
theorem xsm_congr {α : Type} {f g : α → Bool} : ∀ {l : List α}, (∀ a ∈ l, f a = g a) → xsm f l = xsm g l
  | [], _ => rfl
  | a :: l, h => by rw [xsm, xsm, h a List.mem_cons_self, xsm_congr fun b hb => h b (List.mem_cons_of_mem _ hb)]
theorem xsm_zero {α : Type} {f : α → Bool} {l : List α} (h : ∀ a ∈ l, f a = false) : xsm f l = false := by
  induction l with
  | nil => rfl
  | cons a l ih => rw [xsm, h a List.mem_cons_self, ih fun b hb => h b (List.mem_cons_of_mem _ hb)]; rfl
theorem xsm_xor {α : Type} (f g : α → Bool) : ∀ l : List α, xsm (fun a => f a ^^ g a) l = (xsm f l ^^ xsm g l)
  | [] => rfl
  | a :: l => by
    rw [xsm, xsm, xsm, xsm_xor f g l]
    cases f a <;> cases g a <;> cases xsm f l <;> cases xsm g l <;> rfl
theorem xsm_and {α : Type} (c : Bool) (f : α → Bool) : ∀ l : List α, xsm (fun a => c && f a) l = (c && xsm f l)
  | [] => by cases c <;> rfl
  | a :: l => by
    rw [xsm, xsm, xsm_and c f l]
    cases c <;> rfl
theorem xsm_swap {α β : Type} (f : α → β → Bool) (m : List β) : ∀ l : List α, xsm (fun a => xsm (fun b => f a b) m) l = xsm (fun b => xsm (fun a => f a b) l) m
  | [] => (xsm_zero fun _ _ => rfl).symm
  | a :: l => by
    rw [xsm, xsm_swap f m l, ← xsm_xor]
    rfl
theorem xsm_one {α : Type} [DecidableEq α] {f : α → Bool} {a : α} : ∀ {l : List α}, l.Nodup → a ∈ l → xsm (fun x => decide (x = a) && f x) l = f a
  | [], _, h => absurd h List.not_mem_nil
  | b :: l, hn, h => by
    rw [List.nodup_cons] at hn
    rw [xsm]
    by_cases e : b = a
    · subst e
      rw [decide_eq_true rfl, xsm_zero (f := fun x => decide (x = b) && f x) fun c hc => by rw [decide_eq_false fun (e : c = b) => hn.1 (e ▸ hc)]; rfl]
      cases f b <;> rfl
    · rw [decide_eq_false e, xsm_one hn.2 ((List.mem_cons.mp h).resolve_left fun z => e z.symm)]
      cases f a <;> rfl
theorem xsm_app {α : Type} (f : α → Bool) : ∀ (l m : List α), xsm f (l ++ m) = (xsm f l ^^ xsm f m)
  | [], m => by rw [List.nil_append, xsm]; cases xsm f m <;> rfl
  | a :: l, m => by
    rw [List.cons_append, xsm, xsm, xsm_app f l m]
    cases f a <;> cases xsm f l <;> cases xsm f m <;> rfl
/-- a sum that is odd has an odd term -/
theorem xsm_ex {α : Type} {f : α → Bool} : ∀ {l : List α}, xsm f l = true → ∃ a, a ∈ l ∧ f a = true
  | [], h => by cases h
  | a :: l, h => by
    rw [xsm] at h
    cases hf : f a with
    | true => exact ⟨a, List.mem_cons_self, hf⟩
    | false =>
      rw [hf] at h
      obtain ⟨b, h1, h2⟩ := xsm_ex (by simpa using h)
      exact ⟨b, List.mem_cons_of_mem _ h1, h2⟩
/-- an even sum with an odd term has another one -/
theorem xsm_two {α : Type} {f : α → Bool} : ∀ {l : List α}, xsm f l = false → ∀ a, a ∈ l → l.Nodup → f a = true → ∃ b, b ∈ l ∧ b ≠ a ∧ f b = true
  | [], _, a, h, _, _ => absurd h List.not_mem_nil
  | c :: l, h, a, ha, hn, hf => by
    rw [List.nodup_cons] at hn
    rw [xsm] at h
    rcases List.mem_cons.mp ha with e | e
    · subst e
      rw [hf] at h
      obtain ⟨b, h1, h2⟩ := xsm_ex (f := f) (l := l) (by simpa using h)
      exact ⟨b, List.mem_cons_of_mem _ h1, fun z => hn.1 (z ▸ h1), h2⟩
    · cases hc : f c with
      | true => exact ⟨c, List.mem_cons_self, fun z => hn.1 (z ▸ e), hc⟩
      | false =>
        rw [hc] at h
        obtain ⟨b, h1, h2, h3⟩ := xsm_two (f := f) (l := l) (by simpa using h) a e hn.2 hf
        exact ⟨b, List.mem_cons_of_mem _ h1, h2, h3⟩
def inc (p : Nat × Nat) (v : Nat) : Bool := decide (v = p.1) || decide (v = p.2)
theorem inc_iff {p : Nat × Nat} {v : Nat} : inc p v = true ↔ v = p.1 ∨ v = p.2 := by simp [inc]
theorem inc_xor {p : Nat × Nat} (h : p.1 ≠ p.2) (v : Nat) : inc p v = (decide (v = p.1) ^^ decide (v = p.2)) := by
  unfold inc
  by_cases h1 : v = p.1
  · by_cases h2 : v = p.2
    · exact absurd (h1.symm.trans h2) h
    · simp [h1, h2, h]
  · by_cases h2 : v = p.2 <;> simp [h1, h2, Ne.symm h]
/-- the forest's edge of x -/
def te (par : Nat → Nat) (x : Nat) : Nat × Nat := (min x (par x), max x (par x))
theorem inc_te {par : Nat → Nat} {x v : Nat} : inc (te par x) v = (decide (v = x) || decide (v = par x)) := by
  rw [Bool.eq_iff_iff, inc_iff]
  simp only [te, Bool.or_eq_true, decide_eq_true_eq]
  omega
def ev (V : Nat) (es : gE) (C : Nat × Nat → Bool) : Prop := ∀ v, v < V → xsm (fun g => C g && inc g v) es = false
def FC (V : Nat) (es : gE) (far par : Nat → Nat) (X : Nat × Nat → Nat → Bool) : Prop :=
  (∀ x, x < V → far x ≠ 0 → par x < V ∧ far x = far (par x) + 1 ∧ te par x ∈ es) ∧
  (∀ g, g ∈ es → ∀ x, X g x = true → x < V ∧ far x ≠ 0) ∧
  (∀ g, g ∈ es → ∀ v, v < V → inc g v = xsm (fun x => X g x && inc (te par x) v) (List.range V)) ∧
  (∀ z, z < V → far z ≠ 0 → ∀ x, x < V → X (te par z) x = decide (x = z))
section FCS
variable {V : Nat} {es : gE} {far par : Nat → Nat} {X : Nat × Nat → Nat → Bool}
theorem fc_bd (far : Nat → Nat) : ∀ V : Nat, ∃ M, ∀ y, y < V → far y ≤ M
  | 0 => ⟨0, fun y hy => by omega⟩
  | V + 1 => by
    obtain ⟨M, hM⟩ := fc_bd far V
    refine ⟨M + far V, fun y hy => ?_⟩
    by_cases e : y = V
    · subst e; omega
    · have := hM y (by omega); omega
theorem fc_ne (h : FC V es far par X) {x : Nat} (hx : x < V) (hf : far x ≠ 0) : par x ≠ x := fun e => by
  have := (h.1 x hx hf).2.1
  rw [e] at this
  omega
/-- each vertex of the forest is gone over an even number of times by an even set -/
theorem fc_K (h : FC V es far par X) {C : Nat × Nat → Bool} (hC : ev V es C) : ∀ (n x : Nat), x < V → far x ≠ 0 → (∀ y, y < V → far y ≤ far x + n) → xsm (fun g => C g && X g x) es = false := by
  have main : ∀ x, x < V → far x ≠ 0 → (∀ y, y < V → far y ≠ 0 → y ≠ x → par y = x → xsm (fun g => C g && X g y) es = false) → xsm (fun g => C g && X g x) es = false := by
    intro x hx hf hch
    have h0 := hC x hx
    have h1 : xsm (fun g => C g && inc g x) es = xsm (fun g => xsm (fun y => C g && (X g y && inc (te par y) x)) (List.range V)) es :=
      xsm_congr fun g hg => by rw [h.2.2.1 g hg x hx, xsm_and]
    rw [h1, xsm_swap] at h0
    have h2 : xsm (fun y => xsm (fun g => C g && (X g y && inc (te par y) x)) es) (List.range V) = xsm (fun y => decide (y = x) && xsm (fun g => C g && X g x) es) (List.range V) := by
      refine xsm_congr fun y hy => ?_
      have hyV := List.mem_range.mp hy
      have e1 : xsm (fun g => C g && (X g y && inc (te par y) x)) es = (inc (te par y) x && xsm (fun g => C g && X g y) es) := by
        rw [← xsm_and]
        exact xsm_congr fun g _ => by cases C g <;> cases X g y <;> cases inc (te par y) x <;> rfl
      rw [e1]
      by_cases e : y = x
      · subst e
        rw [inc_te, decide_eq_true rfl, Bool.true_or]
      · rw [decide_eq_false e, Bool.false_and]
        by_cases hfy : far y = 0
        · rw [xsm_zero (f := fun g => C g && X g y) fun g hg => ?_, Bool.and_false]
          cases hX : X g y with
          | false => exact Bool.and_false _
          | true => exact absurd hfy (h.2.1 g hg y hX).2
        · by_cases hp : par y = x
          · rw [hch y hyV hfy e hp, Bool.and_false]
          · rw [inc_te, decide_eq_false fun z => e z.symm, decide_eq_false fun z => hp z.symm]; rfl
    rw [h2, xsm_one List.nodup_range (List.mem_range.mpr hx)] at h0
    exact h0
  intro n
  induction n with
  | zero =>
    intro x hx hf hb
    refine main x hx hf fun y hy hfy hyx hp => ?_
    have h1 := (h.1 y hy hfy).2.1
    have h2 := hb y hy
    rw [hp] at h1
    omega
  | succ n ih =>
    intro x hx hf hb
    refine main x hx hf fun y hy hfy hyx hp => ih y hy hfy fun z hz => ?_
    have h1 := (h.1 y hy hfy).2.1
    rw [hp] at h1
    have := hb z hz
    omega
theorem fc_k (h : FC V es far par X) {C : Nat × Nat → Bool} (hC : ev V es C) {x : Nat} (hx : x < V) (hf : far x ≠ 0) : xsm (fun g => C g && X g x) es = false := by
  obtain ⟨M, hM⟩ := fc_bd far V
  exact fc_K h hC M x hx hf fun y hy => by have := hM y hy; omega
/-- a class of labels cuts an even set evenly -/
theorem fc_cut (h : FC V es far par X) {C : Nat × Nat → Bool} (hC : ev V es C) {P : Nat × Nat → Bool} (hP : ∀ g, g ∈ es → ∀ x, X g x = true → P g = P (te par x)) : ev V es (fun g => C g && P g) := by
  intro v hv
  have h1 : xsm (fun g => C g && P g && inc g v) es = xsm (fun g => xsm (fun y => C g && P g && (X g y && inc (te par y) v)) (List.range V)) es :=
    xsm_congr fun g hg => by rw [h.2.2.1 g hg v hv, xsm_and]
  rw [h1, xsm_swap]
  refine xsm_zero fun y hy => ?_
  have hyV := List.mem_range.mp hy
  have e1 : xsm (fun g => C g && P g && (X g y && inc (te par y) v)) es = ((P (te par y) && inc (te par y) v) && xsm (fun g => C g && X g y) es) := by
    rw [← xsm_and]
    refine xsm_congr fun g hg => ?_
    cases hX : X g y with
    | false => simp
    | true => rw [hP g hg y hX]; cases C g <;> cases P (te par y) <;> cases inc (te par y) v <;> rfl
  rw [e1]
  by_cases hfy : far y = 0
  · rw [xsm_zero (f := fun g => C g && X g y) fun g hg => ?_, Bool.and_false]
    cases hX : X g y with
    | false => exact Bool.and_false _
    | true => exact absurd hfy (h.2.1 g hg y hX).2
  · rw [fc_k h hC hyV hfy, Bool.and_false]
/-- the edges of the forest -/
def isT (V : Nat) (far par : Nat → Nat) (g : Nat × Nat) : Prop := ∃ z, z < V ∧ far z ≠ 0 ∧ te par z = g
theorem te_inj (h : FC V es far par X) {x y : Nat} (hx : x < V) (hy : y < V) (fx : far x ≠ 0) (fy : far y ≠ 0) (e : te par x = te par y) : x = y := by
  have h1 := (h.1 x hx fx).2.1
  have h2 := (h.1 y hy fy).2.1
  simp only [te, Prod.mk.injEq] at e
  by_cases q : x = y
  · exact q
  · have h3 : x = par y := by omega
    have h4 : y = par x := by omega
    rw [← h3] at h2
    rw [← h4] at h1
    omega
/-- an even set of edges of the forest is empty -/
theorem fc_empty (h : FC V es far par X) (hn : es.Nodup) {C : Nat × Nat → Bool} (hC : ev V es C) (hT : ∀ g, g ∈ es → C g = true → isT V far par g) : ∀ g, g ∈ es → C g = false := by
  intro g hg
  cases hc : C g with
  | false => rfl
  | true =>
    obtain ⟨z, hz, fz, e⟩ := hT g hg hc
    have h1 := fc_k h hC hz fz
    have h2 : xsm (fun g => C g && X g z) es = xsm (fun g' => decide (g' = g) && C g') es := by
      refine xsm_congr fun g' hg' => ?_
      cases hc' : C g' with
      | false => simp
      | true =>
        obtain ⟨y, hy, fy, e'⟩ := hT g' hg' hc'
        rw [← e', h.2.2.2 y hy fy z hz, ← e, Bool.and_true, Bool.true_and, Bool.eq_iff_iff, decide_eq_true_iff, decide_eq_true_iff]
        exact ⟨fun q => by rw [q], fun q => (te_inj h hy hz fy fz q).symm⟩
    rw [h2, xsm_one hn hg, hc] at h1
    cases h1
/-- the ring that an edge closes with the forest -/
def rgC (V : Nat) (par : Nat → Nat) (X : Nat × Nat → Nat → Bool) (g0 g : Nat × Nat) : Bool := decide (g = g0) ^^ xsm (fun x => X g0 x && decide (g = te par x)) (List.range V)
theorem rgC_ev (h : FC V es far par X) (hn : es.Nodup) {g0 : Nat × Nat} (hg0 : g0 ∈ es) : ev V es (rgC V par X g0) := by
  intro v hv
  have h1 : xsm (fun g => rgC V par X g0 g && inc g v) es = (xsm (fun g => decide (g = g0) && inc g v) es ^^ xsm (fun g => xsm (fun x => X g0 x && (decide (g = te par x) && inc g v)) (List.range V)) es) := by
    rw [← xsm_xor]
    refine xsm_congr fun g _ => ?_
    have e1 : xsm (fun x => X g0 x && (decide (g = te par x) && inc g v)) (List.range V) = (inc g v && xsm (fun x => X g0 x && decide (g = te par x)) (List.range V)) := by
      rw [← xsm_and]
      exact xsm_congr fun x _ => by cases X g0 x <;> cases decide (g = te par x) <;> cases inc g v <;> rfl
    rw [e1, rgC]
    cases inc g v <;> simp
  rw [h1, xsm_one hn hg0, xsm_swap, h.2.2.1 g0 hg0 v hv, ← xsm_xor]
  refine xsm_zero fun x hx => ?_
  cases hX : X g0 x with
  | false =>
    have e3 : xsm (fun a => false && (decide (a = te par x) && inc a v)) es = false := xsm_zero fun _ _ => rfl
    rw [e3]; rfl
  | true =>
    obtain ⟨a1, a2⟩ := h.2.1 g0 hg0 x hX
    have e2 : xsm (fun g => true && (decide (g = te par x) && inc g v)) es = inc (te par x) v := by
      have := xsm_one (f := fun g => inc g v) hn (h.1 x a1 a2).2.2
      rw [← this]
      exact xsm_congr fun g _ => Bool.true_and _
    rw [e2]
    cases inc (te par x) v <;> rfl
theorem rgC_te (h : FC V es far par X) {g0 : Nat × Nat} (hg0 : g0 ∈ es) (hT : ¬ isT V far par g0) {x : Nat} (hX : X g0 x = true) : rgC V par X g0 (te par x) = true := by
  obtain ⟨a1, a2⟩ := h.2.1 g0 hg0 x hX
  have h1 : xsm (fun y => X g0 y && decide (te par x = te par y)) (List.range V) = xsm (fun y => decide (y = x) && X g0 y) (List.range V) := by
    refine xsm_congr fun y hy => ?_
    cases hXy : X g0 y with
    | false => simp
    | true =>
      obtain ⟨b1, b2⟩ := h.2.1 g0 hg0 y hXy
      rw [Bool.true_and, Bool.and_true, Bool.eq_iff_iff, decide_eq_true_iff, decide_eq_true_iff]
      exact ⟨fun e => (te_inj h a1 b1 a2 b2 e).symm, fun e => by rw [e]⟩
  rw [rgC, h1, xsm_one List.nodup_range (List.mem_range.mpr a1), hX, decide_eq_false fun e => hT ⟨x, a1, a2, e⟩]
  rfl
theorem rgC_self (h : FC V es far par X) {g0 : Nat × Nat} (hg0 : g0 ∈ es) (hT : ¬ isT V far par g0) : rgC V par X g0 g0 = true := by
  rw [rgC, decide_eq_true rfl, xsm_zero fun x _ => ?_]
  · rfl
  · cases hX : X g0 x with
    | false => rfl
    | true =>
      obtain ⟨a1, a2⟩ := h.2.1 g0 hg0 x hX
      rw [decide_eq_false fun e => hT ⟨x, a1, a2, e.symm⟩]; rfl
theorem rgC_mem {g0 g : Nat × Nat} (h : rgC V par X g0 g = true) : g = g0 ∨ ∃ x, X g0 x = true ∧ g = te par x := by
  rw [rgC] at h
  by_cases e : g = g0
  · exact Or.inl e
  · rw [decide_eq_false e] at h
    obtain ⟨x, _, hx⟩ := xsm_ex (f := fun x => X g0 x && decide (g = te par x)) (l := List.range V) (by simpa using h)
    simp only [Bool.and_eq_true, decide_eq_true_eq] at hx
    exact Or.inr ⟨x, hx⟩
/-- what is even within a ring is all of it or nothing -/
theorem rgC_min (h : FC V es far par X) (hn : es.Nodup) {g0 : Nat × Nat} (hg0 : g0 ∈ es) (hT : ¬ isT V far par g0) {P : Nat × Nat → Bool} (hP : ev V es (fun g => rgC V par X g0 g && P g)) : ∀ x, X g0 x = true → P g0 = P (te par x) := by
  -- the part of the ring that doesn't go with g0 is even and lies in the forest
  have hE : ∀ c, P g0 = c → ∀ g, g ∈ es → (rgC V par X g0 g && (P g ^^ c)) = false := by
    intro c hc
    refine fc_empty h hn ?_ ?_
    · intro v hv
      have h1 := hP v hv
      have h2 := rgC_ev h hn hg0 v hv
      cases c with
      | false =>
        refine Eq.trans ?_ h1
        exact xsm_congr fun g _ => by simp
      | true =>
        have h3 : xsm (fun g => rgC V par X g0 g && (P g ^^ true) && inc g v) es = (xsm (fun g => rgC V par X g0 g && P g && inc g v) es ^^ xsm (fun g => rgC V par X g0 g && inc g v) es) := by
          rw [← xsm_xor]
          exact xsm_congr fun g _ => by cases rgC V par X g0 g <;> cases P g <;> cases inc g v <;> rfl
        rw [h3, h1, h2]; rfl
    · intro g _ hc2
      simp only [Bool.and_eq_true] at hc2
      rcases rgC_mem hc2.1 with e | ⟨x, hX, e⟩
      · rw [e, hc] at hc2
        cases c <;> simp at hc2
      · obtain ⟨a1, a2⟩ := h.2.1 g0 hg0 x hX
        exact ⟨x, a1, a2, e.symm⟩
  intro x hX
  obtain ⟨a1, a2⟩ := h.2.1 g0 hg0 x hX
  have h4 := hE (P g0) rfl (te par x) (h.1 x a1 a2).2.2
  rw [rgC_te h hg0 hT hX] at h4
  cases hP0 : P g0 <;> cases hPx : P (te par x) <;> simp_all
end FCS
