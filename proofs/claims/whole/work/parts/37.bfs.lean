/-! ===== breadth first: a queue of paths (told from their ends), their heads are what was come to ===== -/
def hds (q : List (List Nat)) : List Nat := q.map fun p => p.headD 0
def bfsRow (Ax goal : Nat → Bool) (p : List Nat) : List Nat → List (List Nat) → List Nat ⊕ List (List Nat)
  | [], q => .inr q
  | v :: vs, q => if Ax v && !(hds q).contains v then (if goal v then .inl (v :: p) else bfsRow Ax goal p vs (q ++ [v :: p])) else bfsRow Ax goal p vs q
def bfs (A : Nat → Nat → Bool) (goal : Nat → Bool) : Nat → Nat → List (List Nat) → Option (List Nat)
  | 0, _, _ => none
  | f + 1, k, q => match q[k]? with
    | none => none
    | some p => match bfsRow (A (p.headD 0)) goal p (List.range 20) q with
      | .inl r => some r
      | .inr q' => bfs A goal f (k + 1) q'
def bfsP (A : Nat → Nat → Bool) (goal : Nat → Bool) (s : Nat) : Option (List Nat) := bfs A goal 21 0 [[s]]
/-- a path as it is told: from its end back to s; A from each to the one that stands ahead of it in the list -/
def pthA (A : Nat → Nat → Bool) : List Nat → Prop
  | u :: w :: l => A w u = true ∧ pthA A (w :: l)
  | _ => True
def pOK (A : Nat → Nat → Bool) (s : Nat) (q : List (List Nat)) (k : Nat) (p : List Nat) : Prop := ∃ l, p = l ++ [s] ∧ s ∉ l ∧ l.length ≤ k ∧ (∀ x ∈ p, x ∈ hds q) ∧ pthA A p ∧ p.Nodup
def bInv (A : Nat → Nat → Bool) (goal : Nat → Bool) (s : Nat) (q : List (List Nat)) : Prop := q[0]? = some [s] ∧ (∀ k p, q[k]? = some p → pOK A s q k p) ∧ (hds q).Nodup ∧ (∀ x ∈ hds q, x < 20) ∧ ∀ x ∈ hds q, x ≠ s → goal x = false
theorem hds_app {q : List (List Nat)} {p : List Nat} : hds (q ++ [p]) = hds q ++ [p.headD 0] := by simp [hds]
theorem nd_le : ∀ (n : Nat) {l : List Nat}, l.Nodup → (∀ x ∈ l, x < n) → l.length ≤ n
  | 0, l, _, h => by
    cases l with
    | nil => simp
    | cons a l => exact absurd (h a List.mem_cons_self) (by omega)
  | n + 1, l, hn, h => by
    have h1 : (l.erase n).length ≤ n := nd_le n (hn.erase n) fun x hx => by
      have h2 := h x (List.mem_of_mem_erase hx)
      have h3 : x ≠ n := fun e => (List.Nodup.not_mem_erase hn) (e ▸ hx)
      omega
    have h4 : l.length ≤ (l.erase n).length + 1 := by rw [List.length_erase]; split <;> omega
    omega
theorem bInv.len {A : Nat → Nat → Bool} {goal : Nat → Bool} {s : Nat} {q : List (List Nat)} (h : bInv A goal s q) : q.length ≤ 20 := by
  have := nd_le 20 h.2.2.1 h.2.2.2.1
  simpa [hds] using this
theorem bInv.start {A : Nat → Nat → Bool} {goal : Nat → Bool} {s : Nat} (hs : s < 20) : bInv A goal s [[s]] := by
  refine ⟨rfl, fun k p hp => ?_, by simp [hds], by simp [hds]; exact hs, fun x hx hne => by simp [hds] at hx; exact absurd hx hne⟩
  match k, hp with
  | 0, hp =>
    cases hp
    exact ⟨[], rfl, by simp, by simp, by simp [hds], trivial, by simp⟩
/-- another path behind the queue -/
theorem bInv.push {A : Nat → Nat → Bool} {goal : Nat → Bool} {s : Nat} {q : List (List Nat)} (h : bInv A goal s q) {k : Nat} {p : List Nat} (hp : q[k]? = some p) {v : Nat} (hv : v < 20) (hA : A (p.headD 0) v = true) (hn : v ∉ hds q) (hg : goal v = false) : bInv A goal s (q ++ [v :: p]) := by
  obtain ⟨h0, h1, h2, h3, h4⟩ := h
  have hk := (List.getElem?_eq_some_iff.mp hp).1
  have hq : 0 < q.length := by omega
  have hsub : ∀ x ∈ hds q, x ∈ hds (q ++ [v :: p]) := fun x hx => by rw [hds_app]; exact List.mem_append_left _ hx
  have hs : s ∈ hds q := by
    have := List.mem_of_getElem? h0
    exact List.mem_map.mpr ⟨_, this, rfl⟩
  refine ⟨by rw [List.getElem?_append_left hq]; exact h0, fun j r hr => ?_, ?_, ?_, ?_⟩
  · by_cases hj : j < q.length
    · rw [List.getElem?_append_left hj] at hr
      obtain ⟨l, a1, a2, a3, a4, a5⟩ := h1 j r hr
      exact ⟨l, a1, a2, a3, fun x hx => hsub x (a4 x hx), a5⟩
    · have hl := (List.getElem?_eq_some_iff.mp hr).1
      simp only [List.length_append, List.length_singleton] at hl
      have hje : j = q.length := by omega
      subst hje
      rw [List.getElem?_concat_length] at hr
      cases hr
      obtain ⟨l, a1, a2, a3, a4, a5, a6⟩ := h1 k p hp
      refine ⟨v :: l, by rw [a1]; rfl, ?_, by simp; omega, fun x hx => ?_, ?_, ?_⟩
      · intro hx
        rcases List.mem_cons.mp hx with e | e
        · exact hn (e ▸ hs)
        · exact a2 e
      · rcases List.mem_cons.mp hx with e | e
        · rw [hds_app]; exact List.mem_append_right _ (by simp [e])
        · exact hsub x (a4 x e)
      · cases hpl : p with
        | nil => trivial
        | cons u t =>
          rw [hpl] at hA a5
          exact ⟨hA, a5⟩
      · exact List.nodup_cons.mpr ⟨fun hx => hn (a4 v hx), a6⟩
  · rw [hds_app, List.nodup_append]
    exact ⟨h2, by simp, fun a ha b hb e => hn (by simp at hb; rw [← hb, ← e]; exact ha)⟩
  · intro x hx
    rw [hds_app] at hx
    rcases List.mem_append.mp hx with e | e
    · exact h3 x e
    · simp at e; omega
  · intro x hx hne
    rw [hds_app] at hx
    rcases List.mem_append.mp hx with e | e
    · exact h4 x e hne
    · simp at e; rw [e]; exact hg
/-- a result -/
def bRes (A : Nat → Nat → Bool) (goal : Nat → Bool) (s : Nat) (r : List Nat) : Prop := ∃ g l, r = g :: (l ++ [s]) ∧ g ≠ s ∧ s ∉ l ∧ l.length ≤ 19 ∧ goal g = true ∧ (∀ x ∈ l, goal x = false) ∧ pthA A r ∧ r.Nodup ∧ ∀ x ∈ r, x < 20
theorem bRow_spec {A : Nat → Nat → Bool} {goal : Nat → Bool} {s k : Nat} {p : List Nat} : ∀ (vs : List Nat) (q : List (List Nat)), bInv A goal s q → q[k]? = some p → (∀ v ∈ vs, v < 20) →
    match bfsRow (A (p.headD 0)) goal p vs q with
    | .inl r => ∃ g, r = g :: p ∧ goal g = true ∧ g < 20 ∧ A (p.headD 0) g = true ∧ ∃ q', bInv A goal s q' ∧ q'[k]? = some p ∧ g ∉ hds q'
    | .inr q' => bInv A goal s q' ∧ (∀ (j : Nat) (r : List Nat), q[j]? = some r → q'[j]? = some r) ∧ ∀ v ∈ vs, A (p.headD 0) v = true → v ∈ hds q'
  | [], q, h, hp, _ => ⟨h, fun _ _ h => h, fun v hv => absurd hv List.not_mem_nil⟩
  | v :: vs, q, h, hp, hv => by
    have hvs : ∀ x ∈ vs, x < 20 := fun x hx => hv x (List.mem_cons_of_mem _ hx)
    have hmono : ∀ {a b : List (List Nat)}, (∀ (j : Nat) (r : List Nat), a[j]? = some r → b[j]? = some r) → ∀ x ∈ hds a, x ∈ hds b := by
      intro a b hab x hx
      obtain ⟨r, hr, rfl⟩ := List.mem_map.mp hx
      obtain ⟨j, hj⟩ := List.getElem?_of_mem hr
      exact List.mem_map.mpr ⟨r, List.mem_of_getElem? (hab j r hj), rfl⟩
    rw [bfsRow]
    by_cases hc : (A (p.headD 0) v && !(hds q).contains v) = true
    · rw [if_pos hc]
      simp only [Bool.and_eq_true, Bool.not_eq_true', List.contains_eq_mem, decide_eq_false_iff_not] at hc
      by_cases hg : goal v = true
      · rw [if_pos hg]
        exact ⟨v, rfl, hg, hv v List.mem_cons_self, hc.1, q, h, hp, hc.2⟩
      · rw [if_neg hg]
        have hk := (List.getElem?_eq_some_iff.mp hp).1
        have h' := h.push hp (hv v List.mem_cons_self) hc.1 hc.2 (by simpa using hg)
        have ih := bRow_spec (A := A) (goal := goal) (s := s) (k := k) (p := p) vs (q ++ [v :: p]) h' (by rw [List.getElem?_append_left hk]; exact hp) hvs
        cases hr : bfsRow (A (p.headD 0)) goal p vs (q ++ [v :: p]) with
        | inl r => rw [hr] at ih; exact ih
        | inr q' =>
          rw [hr] at ih
          obtain ⟨i1, i2, i3⟩ := ih
          refine ⟨i1, fun j r hj => i2 j r (by rw [List.getElem?_append_left (List.getElem?_eq_some_iff.mp hj).1]; exact hj), fun x hx hA => ?_⟩
          rcases List.mem_cons.mp hx with e | e
          · subst e
            exact hmono i2 x (by rw [hds_app]; exact List.mem_append_right _ (by simp))
          · exact i3 x e hA
    · rw [if_neg hc]
      have ih := bRow_spec (A := A) (goal := goal) (s := s) (k := k) (p := p) vs q h hp hvs
      cases hr : bfsRow (A (p.headD 0)) goal p vs q with
      | inl r => rw [hr] at ih; exact ih
      | inr q' =>
        rw [hr] at ih
        obtain ⟨i1, i2, i3⟩ := ih
        refine ⟨i1, i2, fun x hx hA => ?_⟩
        rcases List.mem_cons.mp hx with e | e
        · subst e
          simp only [hA, Bool.true_and, Bool.not_eq_true', List.contains_eq_mem, decide_eq_false_iff_not, Classical.not_not] at hc
          exact hmono i2 x hc
        · exact i3 x e hA
theorem bfs_spec {A : Nat → Nat → Bool} {goal : Nat → Bool} {s : Nat} (hs : goal s = false) : ∀ (f k : Nat) (q : List (List Nat)), bInv A goal s q → (∀ j p, j < k → q[j]? = some p → ∀ v, v < 20 → A (p.headD 0) v = true → v ∈ hds q) → 21 ≤ f + k → k ≤ q.length →
    match bfs A goal f k q with
    | some r => bRes A goal s r
    | none => ∃ S : List Nat, s ∈ S ∧ (∀ x ∈ S, goal x = false) ∧ ∀ x ∈ S, ∀ v, v < 20 → A x v = true → v ∈ S
  | 0, k, q, h, _, hf, hk => by
    have := h.len
    omega
  | f + 1, k, q, h, hcl, hf, hk => by
    rw [bfs]
    cases hq : q[k]? with
    | none =>
      refine ⟨hds q, ?_, fun x hx => ?_, fun x hx v hv hA => ?_⟩
      · exact List.mem_map.mpr ⟨[s], List.mem_of_getElem? h.1, rfl⟩
      · by_cases e : x = s
        · rw [e]; exact hs
        · exact h.2.2.2.2 x hx e
      · obtain ⟨p, hp, rfl⟩ := List.mem_map.mp hx
        obtain ⟨j, hj⟩ := List.getElem?_of_mem hp
        have hl := (List.getElem?_eq_some_iff.mp hj).1
        have hk2 : q.length ≤ k := List.getElem?_eq_none_iff.mp hq
        exact hcl j p (by omega) hj v hv hA
    | some p =>
      have hkl := (List.getElem?_eq_some_iff.mp hq).1
      have hr := bRow_spec (A := A) (goal := goal) (s := s) (k := k) (p := p) (List.range 20) q h hq (fun v hv => List.mem_range.mp hv)
      show match (match bfsRow (A (p.headD 0)) goal p (List.range 20) q with
        | .inl r => some r
        | .inr q' => bfs A goal f (k + 1) q') with
        | some r => bRes A goal s r
        | none => _
      cases hb : bfsRow (A (p.headD 0)) goal p (List.range 20) q with
      | inl r =>
        rw [hb] at hr
        obtain ⟨g, rfl, hg, hg20, hA, q', hq', hp', hn⟩ := hr
        obtain ⟨l, a1, a2, a3, a4, a5, a6⟩ := hq'.2.1 k p hp'
        have hk' := (List.getElem?_eq_some_iff.mp hp').1
        have hl' := hq'.len
        have hgs : g ≠ s := fun e => by rw [e, hs] at hg; cases hg
        refine ⟨g, l, by rw [a1], hgs, a2, by omega, hg, fun x hx => ?_, ?_, List.nodup_cons.mpr ⟨fun hx => hn (a4 g hx), a6⟩, fun x hx => ?_⟩
        · exact hq'.2.2.2.2 x (a4 x (by rw [a1]; exact List.mem_append_left _ hx)) (fun e => a2 (e ▸ hx))
        · cases hpl : p with
          | nil => trivial
          | cons u t =>
            rw [hpl] at hA a5
            exact ⟨hA, a5⟩
        · rcases List.mem_cons.mp hx with e | e
          · omega
          · exact hq'.2.2.2.1 x (a4 x e)
      | inr q' =>
        rw [hb] at hr
        obtain ⟨i1, i2, i3⟩ := hr
        have hlen : k + 1 ≤ q'.length := (List.getElem?_eq_some_iff.mp (i2 k p hq)).1
        refine bfs_spec hs f (k + 1) q' i1 (fun j r hj hr v hv hA => ?_) (by omega) hlen
        by_cases hjk : j = k
        · subst hjk
          cases (i2 j p hq).symm.trans hr
          exact i3 v (List.mem_range.mpr hv) hA
        · have hjl : j < q.length := by omega
          have e1 := List.getElem?_eq_getElem hjl
          cases (i2 j _ e1).symm.trans hr
          have := hcl j _ (by omega) e1 v hv hA
          obtain ⟨w, hw, hwv⟩ := List.mem_map.mp this
          obtain ⟨m, hm⟩ := List.getElem?_of_mem hw
          exact List.mem_map.mpr ⟨w, List.mem_of_getElem? (i2 m w hm), hwv⟩
theorem bfsP_spec {A : Nat → Nat → Bool} {goal : Nat → Bool} {s : Nat} (hs20 : s < 20) (hs : goal s = false) :
    match bfsP A goal s with
    | some r => bRes A goal s r
    | none => ∃ S : List Nat, s ∈ S ∧ (∀ x ∈ S, goal x = false) ∧ ∀ x ∈ S, ∀ v, v < 20 → A x v = true → v ∈ S :=
  bfs_spec hs 21 0 [[s]] (bInv.start hs20) (fun j p hj => by omega) (by omega) (Nat.zero_le _)
