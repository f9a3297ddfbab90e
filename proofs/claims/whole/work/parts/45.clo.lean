/-! ===== what hangs together outside of what is laid; parts, feet, ways ===== -/
def anyN (p : Nat → Bool) : Bool := (List.range 20).any p
theorem anyN_iff {p : Nat → Bool} : anyN p = true ↔ ∃ v, v < 20 ∧ p v = true := by
  unfold anyN
  rw [List.any_eq_true]
  exact ⟨fun ⟨v, h1, h2⟩ => ⟨v, List.mem_range.mp h1, h2⟩, fun ⟨v, h1, h2⟩ => ⟨v, List.mem_range.mpr h1, h2⟩⟩
theorem anyN_no {p : Nat → Bool} : anyN p = false ↔ ∀ v, v < 20 → p v = false := by
  rw [← Bool.not_eq_true, anyN_iff]
  constructor
  · intro h v hv
    cases hp : p v with
    | false => rfl
    | true => exact absurd ⟨v, hv, hp⟩ h
  · rintro h ⟨v, h1, h2⟩
    rw [h v h1] at h2; cases h2
theorem anyN_congr {p q : Nat → Bool} (h : ∀ v, v < 20 → p v = q v) : anyN p = anyN q := by
  rw [Bool.eq_iff_iff, anyN_iff, anyN_iff]
  exact ⟨fun ⟨v, h1, h2⟩ => ⟨v, h1, by rw [← h v h1]; exact h2⟩, fun ⟨v, h1, h2⟩ => ⟨v, h1, by rw [h v h1]; exact h2⟩⟩
def cloS (A : Nat → Nat → Bool) (lv S : Nat → Bool) (v : Nat) : Bool := S v || (!lv v && anyN fun u => S u && A u v)
def clo (A : Nat → Nat → Bool) (lv : Nat → Bool) : Nat → (Nat → Bool) → Nat → Bool
  | 0, S => S
  | n + 1, S => cloS A lv (clo A lv n S)
section CLO
variable {A : Nat → Nat → Bool} {lv S T : Nat → Bool}
/-- closed -/
def cld (A : Nat → Nat → Bool) (lv S : Nat → Bool) : Prop := ∀ u v, u < 20 → v < 20 → S u = true → A u v = true → lv v = false → S v = true
theorem clo_ge : ∀ {n v : Nat}, S v = true → clo A lv n S v = true
  | 0, _, h => h
  | n + 1, v, h => by rw [clo, cloS, clo_ge h]; rfl
theorem clo_min (hS : ∀ v, v < 20 → S v = true → T v = true) (hT : cld A lv T) : ∀ {n v : Nat}, v < 20 → clo A lv n S v = true → T v = true
  | 0, v, hv, h => hS v hv h
  | n + 1, v, hv, h => by
    rw [clo, cloS, Bool.or_eq_true] at h
    rcases h with h | h
    · exact clo_min hS hT hv h
    · rw [Bool.and_eq_true, Bool.not_eq_true', anyN_iff] at h
      obtain ⟨h1, u, h2, h3⟩ := h
      rw [Bool.and_eq_true] at h3
      exact hT u v h2 hv (clo_min hS hT h2 h3.1) h3.2 h1
theorem clo_un (hS : ∀ v, v < 20 → S v = true → lv v = false) : ∀ {n v : Nat}, v < 20 → clo A lv n S v = true → lv v = false
  | 0, v, hv, h => hS v hv h
  | n + 1, v, hv, h => by
    rw [clo, cloS, Bool.or_eq_true] at h
    rcases h with h | h
    · exact clo_un hS hv h
    · rw [Bool.and_eq_true, Bool.not_eq_true'] at h
      exact h.1
/-- nothing comes any more -/
def stb (A : Nat → Nat → Bool) (lv S : Nat → Bool) : Prop := ∀ v, v < 20 → cloS A lv S v = S v
theorem stb_cld (h : stb A lv S) : cld A lv S := fun u v hu hv h1 h2 h3 => by
  rw [← h v hv, cloS, Bool.or_eq_true]
  exact Or.inr (by rw [h3, Bool.not_false, Bool.true_and, anyN_iff]; exact ⟨u, hu, by rw [h1, h2]; rfl⟩)
theorem cnt_mono {p q : Nat → Bool} : ∀ {n : Nat}, (∀ i, i < n → p i = true → q i = true) → cnt p n ≤ cnt q n
  | 0, _ => Nat.le_refl _
  | n + 1, h => by
    rw [cnt, cnt]
    have := cnt_mono (p := p) (q := q) (n := n) fun i hi => h i (by omega)
    cases hp : p n with
    | false => simp; split <;> omega
    | true => rw [h n (by omega) hp]; omega
theorem cnt_strict {p q : Nat → Bool} {a : Nat} : ∀ {n : Nat}, a < n → (∀ i, i < n → p i = true → q i = true) → p a = false → q a = true → cnt p n + 1 ≤ cnt q n
  | 0, h, _, _, _ => by omega
  | n + 1, h, hm, h1, h2 => by
    rw [cnt, cnt]
    by_cases e : a = n
    · subst e
      have := cnt_mono (p := p) (q := q) (n := a) fun i hi => hm i (by omega)
      rw [h1, h2]
      simp; omega
    · have := cnt_strict (p := p) (q := q) (a := a) (n := n) (by omega) (fun i hi => hm i (by omega)) h1 h2
      cases hp : p n with
      | false => simp; split <;> omega
      | true => rw [hm n (by omega) hp]; omega
theorem cnt_full {p : Nat → Bool} {n : Nat} (h : n ≤ cnt p n) : ∀ i, i < n → p i = true := by
  intro i hi
  cases hp : p i with
  | true => rfl
  | false =>
    have h1 := cnt_strict (p := p) (q := fun _ => true) (a := i) hi (fun _ _ _ => rfl) hp rfl
    have := cnt_le (fun _ => true) n
    omega
theorem stb_no (h : ¬ stb A lv S) : cnt S 20 + 1 ≤ cnt (cloS A lv S) 20 := by
  have h1 : ∃ v, v < 20 ∧ cloS A lv S v ≠ S v := Classical.byContradiction fun hn => h fun v hv => Classical.byContradiction fun e => hn ⟨v, hv, e⟩
  obtain ⟨v, hv, he⟩ := h1
  have hge : ∀ i, i < 20 → S i = true → cloS A lv S i = true := fun i _ hi => by rw [cloS, hi]; rfl
  cases hs : S v with
  | true => exact absurd ((hge v hv hs).trans hs.symm) he
  | false =>
    refine cnt_strict hv hge hs ?_
    cases hc : cloS A lv S v with
    | true => rfl
    | false => exact absurd (hc.trans hs.symm) he
theorem stb_next (h : stb A lv S) : stb A lv (cloS A lv S) := by
  intro v hv
  have e : (anyN fun u => cloS A lv S u && A u v) = anyN fun u => S u && A u v := anyN_congr fun u hu => by rw [h u hu]
  show (cloS A lv S v || (!lv v && anyN fun u => cloS A lv S u && A u v)) = cloS A lv S v
  rw [e]
  conv => lhs; rw [cloS]
  rw [cloS]
  cases S v <;> cases (!lv v && anyN fun u => S u && A u v) <;> rfl
theorem clo_cnt : ∀ n, stb A lv (clo A lv n S) ∨ cnt S 20 + n ≤ cnt (clo A lv n S) 20
  | 0 => Or.inr (Nat.le_refl _)
  | n + 1 => by
    rcases clo_cnt n with h | h
    · exact Or.inl (stb_next h)
    · by_cases hs : stb A lv (clo A lv n S)
      · exact Or.inl (stb_next hs)
      · have := stb_no hs
        rw [clo]
        exact Or.inr (by omega)
theorem clo_stb {n : Nat} (hn : 19 ≤ n) (h : anyN S = true) : stb A lv (clo A lv n S) := by
  rcases clo_cnt (A := A) (lv := lv) (S := S) n with q | q
  · exact q
  · obtain ⟨v, h1, h2⟩ := anyN_iff.mp h
    have h3 := cnt_pos (p := S) h1 h2
    have h4 := cnt_full (p := clo A lv n S) (n := 20) (by omega)
    intro v hv
    rw [cloS, h4 v hv]; rfl
theorem clo_emp (h : anyN S = false) : ∀ n v, v < 20 → clo A lv n S v = false
  | 0, v, hv => anyN_no.mp h v hv
  | n + 1, v, hv => by
    have e : (anyN fun u => clo A lv n S u && A u v) = false := anyN_no.mpr fun u hu => by rw [clo_emp h n u hu]; rfl
    rw [clo, cloS, clo_emp h n v hv, e, Bool.and_false]; rfl
theorem clo_cld (n : Nat) (hn : 19 ≤ n) : cld A lv (clo A lv n S) := by
  cases h : anyN S with
  | true => exact stb_cld (clo_stb hn h)
  | false => intro u v hu _ h1; rw [clo_emp h n u hu] at h1; cases h1
/-- whatever is closed, holds S and lies in each closed set that holds S is the closure -/
theorem clo_eq {n : Nat} (hn : 19 ≤ n) (h1 : ∀ v, v < 20 → S v = true → T v = true) (h2 : cld A lv T) (h3 : ∀ U : Nat → Bool, (∀ v, v < 20 → S v = true → U v = true) → cld A lv U → ∀ v, v < 20 → T v = true → U v = true) : ∀ v, v < 20 → T v = clo A lv n S v := by
  intro v hv
  rw [Bool.eq_iff_iff]
  exact ⟨h3 _ (fun v _ h => clo_ge h) (clo_cld n hn) v hv, clo_min h1 h2 hv⟩
end CLO
def lvO (dl : gE) (v : Nat) : Bool := dl.any fun g => inc g v
theorem lvO_iff {dl : gE} {v : Nat} : lvO dl v = true ↔ ∃ g, g ∈ dl ∧ inc g v = true := by
  unfold lvO
  rw [List.any_eq_true]
theorem lvO_adj {dl : gE} {v : Nat} : lvO dl v = true ↔ ∃ u, adj dl v u = true := by
  rw [lvO_iff]
  constructor
  · rintro ⟨g, h1, h2⟩
    rcases inc_iff.mp h2 with e | e
    · exact ⟨g.2, adj_iff.mpr (Or.inl (by rw [e]; exact h1))⟩
    · exact ⟨g.1, adj_iff.mpr (Or.inr (by rw [e]; exact h1))⟩
  · rintro ⟨u, h⟩
    rcases adj_iff.mp h with e | e
    · exact ⟨_, e, inc_iff.mpr (Or.inl rfl)⟩
    · exact ⟨_, e, inc_iff.mpr (Or.inr rfl)⟩
def innr (bes dl : gE) (g : Nat × Nat) : Nat → Bool := clo (adj bes) (lvO dl) 20 (fun v => inc g v && !lvO dl v)
def feet (bes dl : gE) (g : Nat × Nat) (v : Nat) : Bool := lvO dl v && (inc g v || anyN fun u => innr bes dl g u && adj bes u v)
def leastN (p : Nat → Bool) : Nat := ((List.range 20).find? p).getD 0
theorem leastN_spec {p : Nat → Bool} (h : anyN p = true) : leastN p < 20 ∧ p (leastN p) = true ∧ ∀ j, j < leastN p → p j = false := by
  unfold leastN
  cases hf : (List.range 20).find? p with
  | none =>
    obtain ⟨v, h1, h2⟩ := anyN_iff.mp h
    exact absurd h2 (by simpa using List.find?_eq_none.mp hf v (List.mem_range.mpr h1))
  | some k =>
    simp only [Option.getD_some]
    have h1 := List.mem_of_find?_eq_some hf
    have h2 := List.find?_some hf
    refine ⟨List.mem_range.mp h1, h2, fun j hj => ?_⟩
    rw [List.find?_eq_some_iff_append] at hf
    obtain ⟨_, as, bs, e, hall⟩ := hf
    have hk : as.length = k := by
      have h3 : (List.range 20)[as.length]? = some k := by rw [e]; simp
      have h4 := (List.getElem?_eq_some_iff.mp h3)
      obtain ⟨h5, h6⟩ := h4
      rw [List.getElem_range] at h6
      exact h6
    have hj2 : j ∈ as := by
      have h3 : (List.range 20)[j]? = some j := by
        rw [List.getElem?_range (by have := List.mem_range.mp h1; omega)]
      rw [e, List.getElem?_append_left (by omega)] at h3
      exact List.mem_of_getElem? h3
    simpa using hall j hj2
/-- the state of a block, apart from rings: what is laid of it -/
def TwoC (bes : gE) : Prop := ∀ (P : Nat × Nat → Bool) (p q : Nat × Nat), p ∈ bes → q ∈ bes → P p = true → P q = false → ∃ v1 v2, v1 ≠ v2 ∧ ∀ v, v = v1 ∨ v = v2 → (∃ g, g ∈ bes ∧ P g = true ∧ inc g v = true) ∧ ∃ g, g ∈ bes ∧ P g = false ∧ inc g v = true
section PRT
variable {V : Nat} {bes dl : gE} {g : Nat × Nat}
theorem innr_un {v : Nat} (hv : v < 20) (h : innr bes dl g v = true) : lvO dl v = false :=
  clo_un (fun v _ h => by rw [Bool.and_eq_true, Bool.not_eq_true'] at h; exact h.2) hv h
theorem innr_end {v : Nat} (h1 : inc g v = true) (h2 : lvO dl v = false) : innr bes dl g v = true := clo_ge (by rw [h1, h2]; rfl)
theorem innr_cld : cld (adj bes) (lvO dl) (innr bes dl g) := clo_cld 20 (by omega)
theorem feet_lv {v : Nat} (h : feet bes dl g v = true) : lvO dl v = true := by rw [feet, Bool.and_eq_true] at h; exact h.1
/-- the edges of a part -/
def prtE (bes dl : gE) (g f : Nat × Nat) : Bool := decide (f = g) || innr bes dl g f.1 || innr bes dl g f.2
/-- a part stands on two feet at least -/
theorem feet_two (hV : V ≤ 20) (hO : okE V bes) (h2 : TwoC bes) (hd : ∀ f, f ∈ dl → f ∈ bes) (hne : dl ≠ []) (hg : g ∈ bes) (hgd : g ∉ dl) : ∃ v1 v2, v1 ≠ v2 ∧ v1 < 20 ∧ v2 < 20 ∧ feet bes dl g v1 = true ∧ feet bes dl g v2 = true := by
  obtain ⟨q, hq⟩ := List.exists_mem_of_ne_nil dl hne
  have hqb := hO.1 q (hd q hq)
  have lq1 : lvO dl q.1 = true := lvO_iff.mpr ⟨q, hq, inc_iff.mpr (Or.inl rfl)⟩
  have lq2 : lvO dl q.2 = true := lvO_iff.mpr ⟨q, hq, inc_iff.mpr (Or.inr rfl)⟩
  have un : ∀ v, v < 20 → lvO dl v = true → innr bes dl g v = false := fun v hv h => by
    cases hi : innr bes dl g v with
    | false => rfl
    | true => rw [innr_un hv hi] at h; cases h
  obtain ⟨v1, v2, hv, hall⟩ := h2 (prtE bes dl g) g q hg (hd q hq) (by rw [prtE, decide_eq_true rfl]; rfl) (by
    rw [prtE, decide_eq_false (fun (e : q = g) => hgd (e ▸ hq)), un q.1 (by omega) lq1, un q.2 (by omega) lq2]; rfl)
  have main : ∀ v, v = v1 ∨ v = v2 → v < 20 ∧ feet bes dl g v = true := by
    intro v hvv
    obtain ⟨⟨f, f1, f2, f3⟩, ⟨k, k1, k2, k3⟩⟩ := hall v hvv
    have hfb := hO.1 f f1
    have hkb := hO.1 k k1
    have hv20 : v < 20 := by rcases inc_iff.mp f3 with e | e <;> omega
    have hin : innr bes dl g v = false := by
      cases hi : innr bes dl g v with
      | false => rfl
      | true =>
        rw [prtE, Bool.or_eq_false_iff, Bool.or_eq_false_iff] at k2
        rcases inc_iff.mp k3 with e | e
        · rw [e, k2.1.2] at hi; cases hi
        · rw [e, k2.2] at hi; cases hi
    have hlv : ∀ u, u < 20 → innr bes dl g u = true → adj bes u v = true → lvO dl v = true := fun u hu hi ha => by
      cases hl : lvO dl v with
      | true => rfl
      | false => rw [innr_cld u v hu hv20 hi ha hl] at hin; cases hin
    refine ⟨hv20, ?_⟩
    rw [feet, Bool.and_eq_true, Bool.or_eq_true]
    rw [prtE, Bool.or_eq_true, Bool.or_eq_true, decide_eq_true_eq] at f2
    rcases f2 with (f2 | f2) | f2
    · rw [f2] at f3
      refine ⟨?_, Or.inl f3⟩
      cases hl : lvO dl v with
      | true => rfl
      | false => rw [innr_end f3 hl] at hin; cases hin
    · have hvf : v = f.2 := (inc_iff.mp f3).resolve_left fun e => by rw [e, f2] at hin; cases hin
      have ha : adj bes f.1 v = true := adj_iff.mpr (Or.inl (by rw [hvf]; exact f1))
      exact ⟨hlv f.1 (by omega) f2 ha, Or.inr (anyN_iff.mpr ⟨f.1, by omega, by rw [f2, ha]; rfl⟩)⟩
    · have hvf : v = f.1 := (inc_iff.mp f3).resolve_right fun e => by rw [e, f2] at hin; cases hin
      have ha : adj bes f.2 v = true := adj_iff.mpr (Or.inr (by rw [hvf]; exact f1))
      exact ⟨hlv f.2 (by omega) f2 ha, Or.inr (anyN_iff.mpr ⟨f.2, by omega, by rw [f2, ha]; rfl⟩)⟩
  exact ⟨v1, v2, hv, (main v1 (Or.inl rfl)).1, (main v2 (Or.inr rfl)).1, (main v1 (Or.inl rfl)).2, (main v2 (Or.inr rfl)).2⟩
/-- a foot of a part with inner vertices is next to one of them -/
theorem feet_adj (hV : V ≤ 20) (hO : okE V bes) (hg : g ∈ bes) (hi : anyN (innr bes dl g) = true) {v : Nat} (h : feet bes dl g v = true) : ∃ u, u < 20 ∧ innr bes dl g u = true ∧ adj bes u v = true := by
  have hgb := hO.1 g hg
  rw [feet, Bool.and_eq_true, Bool.or_eq_true] at h
  rcases h.2 with q | q
  · -- one end is laid; if both were, the part would have no inner vertex
    have hne : ¬ (lvO dl g.1 = true ∧ lvO dl g.2 = true) := fun z => by
      have : anyN (fun v => inc g v && !lvO dl v) = false := anyN_no.mpr fun w _ => by
        cases hw : inc g w with
        | false => rfl
        | true =>
          rcases inc_iff.mp hw with e | e
          · rw [e, z.1]; rfl
          · rw [e, z.2]; rfl
      obtain ⟨w, w1, w2⟩ := anyN_iff.mp hi
      rw [innr, clo_emp this 20 w w1] at w2
      cases w2
    rcases inc_iff.mp q with e | e
    · have h2 : lvO dl g.2 = false := by
        cases hl : lvO dl g.2 with
        | false => rfl
        | true => exact absurd ⟨by rw [← e]; exact h.1, hl⟩ hne
      exact ⟨g.2, by omega, innr_end (inc_iff.mpr (Or.inr rfl)) h2, adj_iff.mpr (Or.inr (by rw [e]; exact hg))⟩
    · have h2 : lvO dl g.1 = false := by
        cases hl : lvO dl g.1 with
        | false => rfl
        | true => exact absurd ⟨hl, by rw [← e]; exact h.1⟩ hne
      exact ⟨g.1, by omega, innr_end (inc_iff.mpr (Or.inl rfl)) h2, adj_iff.mpr (Or.inl (by rw [e]; exact hg))⟩
  · obtain ⟨u, u1, u2⟩ := anyN_iff.mp q
    rw [Bool.and_eq_true] at u2
    exact ⟨u, u1, u2⟩
/-- the inner vertices hang together -/
theorem innr_conn (hV : V ≤ 20) (hO : okE V bes) (hg : g ∈ bes) {S : Nat → Bool} (hS : ∀ u v, u < 20 → v < 20 → S u = true → innr bes dl g u = true → innr bes dl g v = true → adj bes u v = true → S v = true) {u : Nat} (hu : u < 20) (hiu : innr bes dl g u = true) (hSu : S u = true) : ∀ v, v < 20 → innr bes dl g v = true → S v = true := by
  have hgb := hO.1 g hg
  have hga : adj bes g.1 g.2 = true := adj_iff.mpr (Or.inl hg)
  -- all that is in S, or all that isn't, holds the first ends
  have hin : ∀ v, v < 20 → (inc g v && !lvO dl v) = true → innr bes dl g v = true := fun v _ h => clo_ge h
  by_cases hc : ∀ v, v < 20 → (inc g v && !lvO dl v) = true → S v = true
  · intro v hv hiv
    have := clo_min (A := adj bes) (lv := lvO dl) (S := fun v => inc g v && !lvO dl v) (T := fun v => innr bes dl g v && S v) (n := 20) (fun w hw h => by rw [hin w hw h, hc w hw h]; rfl) (fun x y hx hy h1 h2 h3 => by
      simp only [Bool.and_eq_true] at h1 ⊢
      have h4 := innr_cld x y hx hy h1.1 h2 h3
      exact ⟨h4, hS x y hx hy h1.2 h1.1 h4 h2⟩) hv hiv
    simp only [Bool.and_eq_true] at this
    exact this.2
  · exfalso
    obtain ⟨w, hw⟩ := Classical.not_forall.mp hc
    obtain ⟨hw1, hw2⟩ := Classical.not_imp.mp hw
    obtain ⟨hw3, hw4⟩ := Classical.not_imp.mp hw2
    have hwS : S w = false := by simpa using hw4
    -- then no first end is in S
    have hno : ∀ v, v < 20 → (inc g v && !lvO dl v) = true → S v = false := by
      intro v hv h
      cases hSv : S v with
      | false => rfl
      | true =>
        have hvw : adj bes v w = true := by
          rw [Bool.and_eq_true] at h hw3
          have hne : v ≠ w := fun e => by rw [e, hwS] at hSv; cases hSv
          rcases inc_iff.mp h.1 with e | e
          · rcases inc_iff.mp hw3.1 with e2 | e2
            · exact absurd (e.trans e2.symm) hne
            · rw [e, e2]; exact hga
          · rcases inc_iff.mp hw3.1 with e2 | e2
            · rw [e, e2, adj_sym]; exact hga
            · exact absurd (e.trans e2.symm) hne
        rw [hS v w hv hw1 hSv (hin v hv h) (hin w hw1 hw3) hvw] at hwS
        cases hwS
    have := clo_min (A := adj bes) (lv := lvO dl) (S := fun v => inc g v && !lvO dl v) (T := fun v => innr bes dl g v && !S v) (n := 20) (fun w hw h => by rw [hin w hw h, hno w hw h]; rfl) (fun x y hx hy h1 h2 h3 => by
      simp only [Bool.and_eq_true, Bool.not_eq_true'] at h1 ⊢
      have h4 := innr_cld x y hx hy h1.1 h2 h3
      refine ⟨h4, ?_⟩
      cases hSy : S y with
      | false => rfl
      | true =>
        rw [hS y x hy hx hSy h4 h1.1 (by rw [adj_sym]; exact h2)] at h1
        cases h1.2) hu hiu
    simp only [hSu, Bool.not_true, Bool.and_false] at this
    cases this
end PRT
/-- the way of a part: where it begins, where it ends, what is between, told from its end -/
def wayO (bes dl : gE) (g : Nat × Nat) : Nat × Nat × List Nat :=
  if anyN (innr bes dl g) then
    (match bfsP (clA bes (innr bes dl g) (fun v => feet bes dl g v && decide (v ≠ leastN (feet bes dl g))) (leastN (feet bes dl g))) (fun v => feet bes dl g v && decide (v ≠ leastN (feet bes dl g))) (leastN (feet bes dl g)) with
    | some (b :: t) => (leastN (feet bes dl g), b, t.dropLast)
    | _ => (leastN (feet bes dl g), leastN (feet bes dl g), []))
  else (leastN (feet bes dl g), leastN (fun v => feet bes dl g v && decide (v ≠ leastN (feet bes dl g))), [])
/-- the edges along a row of vertices -/
def wyE : List Nat → gE
  | x :: y :: l => (min x y, max x y) :: wyE (y :: l)
  | _ => []
def wayR (bes dl : gE) (g : Nat × Nat) (a b : Nat) (ws : List Nat) : Prop :=
  a ≠ b ∧ feet bes dl g a = true ∧ feet bes dl g b = true ∧ (b :: (ws ++ [a])).Nodup ∧ (∀ x ∈ b :: (ws ++ [a]), x < 20) ∧ (∀ x ∈ ws, lvO dl x = false) ∧ (∀ f ∈ wyE (b :: (ws ++ [a])), f ∈ bes ∧ f ∉ dl)
theorem wyE_mem : ∀ {l : List Nat} {f : Nat × Nat}, f ∈ wyE l → ∃ x y, f = (min x y, max x y) ∧ x ∈ l ∧ y ∈ l
  | x :: y :: l, f, h => by
    rw [wyE] at h
    rcases List.mem_cons.mp h with e | e
    · exact ⟨x, y, e, by simp, by simp⟩
    · obtain ⟨u, v, h1, h2, h3⟩ := wyE_mem e
      exact ⟨u, v, h1, List.mem_cons_of_mem _ h2, List.mem_cons_of_mem _ h3⟩
  | [], f, h => by simp [wyE] at h
  | [_], f, h => by simp [wyE] at h
section WAY
variable {V : Nat} {bes dl : gE} {g : Nat × Nat}
theorem wy_bes (hO : okE V bes) {A : Nat → Nat → Bool} (hA : ∀ x y, A x y = true → adj bes x y = true) : ∀ {l : List Nat}, pthA A l → ∀ f ∈ wyE l, f ∈ bes
  | x :: y :: l, h, f, hf => by
    rw [wyE] at hf
    rcases List.mem_cons.mp hf with e | e
    · rw [e]
      exact adj_te hO (by rw [adj_sym]; exact hA _ _ h.1)
    · exact wy_bes hO hA h.2 f e
  | [], _, f, hf => by simp [wyE] at hf
  | [_], _, f, hf => by simp [wyE] at hf
/-- the parts' way is there -/
theorem way_ok (hV : V ≤ 20) (hO : okE V bes) (h2 : TwoC bes) (hd : ∀ f, f ∈ dl → f ∈ bes) (hne : dl ≠ []) (hg : g ∈ bes) (hgd : g ∉ dl) : wayR bes dl g (wayO bes dl g).1 (wayO bes dl g).2.1 (wayO bes dl g).2.2 := by
  obtain ⟨v1, v2, hv, l1, l2, f1, f2⟩ := feet_two hV hO h2 hd hne hg hgd
  have hgb := hO.1 g hg
  obtain ⟨a1, a2, a3⟩ := leastN_spec (p := feet bes dl g) (anyN_iff.mpr ⟨v1, l1, f1⟩)
  unfold wayO
  generalize ha : leastN (feet bes dl g) = a at *
  -- another foot
  have hoth : ∃ w, w < 20 ∧ w ≠ a ∧ feet bes dl g w = true := by
    by_cases e : v1 = a
    · exact ⟨v2, l2, fun z => hv (e.trans z.symm), f2⟩
    · exact ⟨v1, l1, e, f1⟩
  obtain ⟨w, w1, w2, w3⟩ := hoth
  have la := feet_lv a2
  by_cases hi : anyN (innr bes dl g) = true
  · rw [if_pos hi]
    have hgs : (fun v => feet bes dl g v && decide (v ≠ a)) a = false := by simp
    have sp := bfsP_spec (A := clA bes (innr bes dl g) (fun v => feet bes dl g v && decide (v ≠ a)) a) (goal := fun v => feet bes dl g v && decide (v ≠ a)) (s := a) a1 hgs
    cases hb : bfsP (clA bes (innr bes dl g) (fun v => feet bes dl g v && decide (v ≠ a)) a) (fun v => feet bes dl g v && decide (v ≠ a)) a with
    | none =>
      rw [hb] at sp
      obtain ⟨S, s1, s2, s3⟩ := sp
      exfalso
      obtain ⟨u, u1, u2, u3⟩ := feet_adj hV hO hg hi a2
      have huS : u ∈ S := s3 a s1 u u1 (by rw [clA, adj_sym, u3, u2]; rfl)
      have una : ∀ x, x < 20 → innr bes dl g x = true → x ≠ a := fun x hx h e => by rw [e] at h; rw [innr_un a1 h] at la; cases la
      have hall := innr_conn (dl := dl) hV hO hg (S := fun x => S.contains x) (fun x y hx hy h1 _ h3 h4 => by
        simp only [List.contains_eq_mem, decide_eq_true_eq] at h1 ⊢
        exact s3 x h1 y hy (by rw [clA, h4, h3]; rfl)) u1 u2 (by simp [huS])
      obtain ⟨x, x1, x2, x3⟩ := feet_adj hV hO hg hi w3
      have hxS : x ∈ S := by simpa using hall x x1 x2
      have hwS : w ∈ S := s3 x hxS w w1 (by rw [clA, x3, decide_eq_true (una x x1 x2)]; simp [w3, w2])
      have := s2 w hwS
      simp [w3, w2] at this
    | some r =>
      rw [hb] at sp
      obtain ⟨b, l, rfl, c1, c2, c3, c4, c5, c6, c7, c8⟩ := sp
      simp only [Bool.and_eq_true, decide_eq_true_eq] at c4
      show wayR bes dl g a b ((l ++ [a]).dropLast)
      rw [List.dropLast_concat]
      -- what is between is inner
      have hin : ∀ x ∈ l, innr bes dl g x = true := by
        have gen : ∀ (m : List Nat), pthA (clA bes (innr bes dl g) (fun v => feet bes dl g v && decide (v ≠ a)) a) (m ++ [a]) → (∀ x ∈ m, (feet bes dl g x && decide (x ≠ a)) = false) → ∀ x ∈ m, innr bes dl g x = true := by
          intro m
          induction m with
          | nil => intro _ _ x hx; exact absurd hx List.not_mem_nil
          | cons y m ih =>
            intro hp hf x hx
            have hy : ∃ z, clA bes (innr bes dl g) (fun v => feet bes dl g v && decide (v ≠ a)) a z y = true ∧ pthA (clA bes (innr bes dl g) (fun v => feet bes dl g v && decide (v ≠ a)) a) (m ++ [a]) := by
              cases m with
              | nil => exact ⟨a, hp.1, trivial⟩
              | cons z m => exact ⟨z, hp.1, hp.2⟩
            obtain ⟨z, z1, z2⟩ := hy
            rcases List.mem_cons.mp hx with e | e
            · have hfy := hf y List.mem_cons_self
              rw [e]
              rw [clA, Bool.and_eq_true] at z1
              simp only [hfy, Bool.and_false, Bool.or_false] at z1
              exact z1.2
            · exact ih z2 (fun w hw => hf w (List.mem_cons_of_mem _ hw)) x e
        refine gen l ?_ c5
        cases l with
        | nil => trivial
        | cons z l => exact c6.2
      refine ⟨Ne.symm c1, a2, c4.1, c7, c8, fun x hx => innr_un (c8 x (by simp [hx])) (hin x hx), fun f hf => ⟨wy_bes hO (fun x y h => by rw [clA, Bool.and_eq_true] at h; exact h.1) c6 f hf, fun hfd => ?_⟩⟩
      -- an edge of the way has an inner end: the way doesn't go straight
      have lne : l ≠ [] := fun e => by
        rw [e] at c6
        have := c6.1
        rw [clA, decide_eq_false (fun z => z rfl), Bool.false_and, Bool.or_false, Bool.and_eq_true] at this
        have lb := feet_lv c4.1
        rw [innr_un (c8 b (by simp)) this.2] at lb
        cases lb
      have key : ∀ (m : List Nat) (p : Nat), m ≠ [] → (∀ x ∈ m, innr bes dl g x = true) → ∀ f ∈ wyE (p :: (m ++ [a])), ∃ x ∈ m, inc f x = true := by
        intro m
        induction m with
        | nil => intro p h; exact absurd rfl h
        | cons y m ih =>
          intro p _ hm f hf
          rw [List.cons_append, wyE] at hf
          rcases List.mem_cons.mp hf with e | e
          · exact ⟨y, by simp, by rw [e, inc_iff]; simp only; omega⟩
          · cases m with
            | nil =>
              simp only [List.nil_append, wyE, List.mem_singleton] at e
              exact ⟨y, by simp, by rw [e, inc_iff]; simp only; omega⟩
            | cons z m =>
              obtain ⟨x, x1, x2⟩ := ih y (by simp) (fun w hw => hm w (List.mem_cons_of_mem _ hw)) f e
              exact ⟨x, List.mem_cons_of_mem _ x1, x2⟩
      obtain ⟨x, x1, x2⟩ := key l b lne hin f hf
      have := innr_un (c8 x (by simp [x1])) (hin x x1)
      rw [lvO_iff.mpr ⟨f, hfd, x2⟩] at this
      cases this
  · rw [if_neg hi]
    obtain ⟨b1, b2, b3⟩ := leastN_spec (p := fun v => feet bes dl g v && decide (v ≠ a)) (anyN_iff.mpr ⟨w, w1, by simp [w3, w2]⟩)
    generalize leastN (fun v => feet bes dl g v && decide (v ≠ a)) = b at *
    simp only [Bool.and_eq_true, decide_eq_true_eq] at b2
    show wayR bes dl g a b []
    have hi' := anyN_no.mp (by simpa using hi)
    have hinc : ∀ v, feet bes dl g v = true → inc g v = true := fun v h => by
      rw [feet, Bool.and_eq_true, Bool.or_eq_true] at h
      rcases h.2 with q | q
      · exact q
      · obtain ⟨u, u1, u2⟩ := anyN_iff.mp q
        rw [hi' u u1] at u2; cases u2
    have ia := hinc a a2
    have ib := hinc b b2.1
    have he : (min b a, max b a) = g := by
      rcases inc_iff.mp ia with e | e
      · rcases inc_iff.mp ib with e2 | e2
        · exact absurd (e2.trans e.symm) b2.2
        · rw [e, e2, show min g.2 g.1 = g.1 by omega, show max g.2 g.1 = g.2 by omega]
      · rcases inc_iff.mp ib with e2 | e2
        · rw [e, e2, show min g.1 g.2 = g.1 by omega, show max g.1 g.2 = g.2 by omega]
        · exact absurd (e2.trans e.symm) b2.2
    refine ⟨Ne.symm b2.2, a2, b2.1, by simp [b2.2], fun x hx => ?_, fun x hx => absurd hx List.not_mem_nil, fun f hf => ?_⟩
    · simp at hx
      rcases hx with e | e <;> omega
    · simp only [List.nil_append, wyE, List.mem_singleton] at hf
      rw [hf, he]
      exact ⟨hg, hgd⟩
end WAY
