/-! ===== the run of the order; places ===== -/
abbrev PS : Type := (Nat → Int32) × (Nat → Int32) × (Nat → Nat → Bool)
def mvX (p : Nat → Bool) (k : Int32) (X : Nat → Int32) (u : Nat) : Int32 := if p u then X u + k else X u
def blQ (v : Nat) (rim rim' : List Nat) (s : PS) (u : Nat) : Bool := ((rim'.drop (rim.idxOf v)).take (rim'.length + 1 - rim.length)).any fun z => s.2.2 z u
def rgQ (v : Nat) (rim : List Nat) (s : PS) (u : Nat) : Bool := (rim.drop (rim.idxOf v + 1)).any fun z => s.2.2 z u
def x2Q (v : Nat) (rim rim' : List Nat) (s : PS) : Nat → Int32 := mvX (rgQ v rim s) (Int32.ofInt 2) (mvX (blQ v rim rim' s) (Int32.ofInt 1) s.1)
def raQ (v : Nat) (rim rim' : List Nat) (s : PS) : PS :=
  (fun u => if u = v then (x2Q v rim rim' s (rAt rim (rim.idxOf v - 1)) + x2Q v rim rim' s (rAt rim (rim.idxOf v + 1)) + s.2.1 (rAt rim (rim.idxOf v + 1)) - s.2.1 (rAt rim (rim.idxOf v - 1))) / Int32.ofInt 2 else x2Q v rim rim' s u,
   fun u => if u = v then (x2Q v rim rim' s (rAt rim (rim.idxOf v + 1)) - x2Q v rim rim' s (rAt rim (rim.idxOf v - 1)) + s.2.1 (rAt rim (rim.idxOf v - 1)) + s.2.1 (rAt rim (rim.idxOf v + 1))) / Int32.ofInt 2 else s.2.1 u,
   fun w u => if w = v then (blQ v rim rim' s u || decide (u = v)) else s.2.2 w u)
def ps0 (b v : Nat) : PS := (fun u => if u = v then Int32.ofInt 1 else if u = b then Int32.ofInt 2 else Int32.ofInt 0, fun u => if u = v then Int32.ofInt 1 else Int32.ofInt 0, fun w u => decide (u = w))
def plF (b : Nat) : List (Nat × List Nat) → PS
  | [] => ps0 b b
  | [(v, _)] => ps0 b v
  | (v, rim) :: (v', rim') :: D => raQ v rim rim' (plF b ((v', rim') :: D))
/-- what the run is -/
def DCh (es : gE) (D : List (Nat × List Nat)) : Prop := ∀ i v rim v' rim', D[i]? = some (v, rim) → D[i + 1]? = some (v', rim') → LK es v rim rim'
section DRQ
variable {V : Nat} {es : gE} {rs : List (List Nat)} {R : Nat → List Nat} {F : Nat × Nat → Bool} {P rim : List Nat}
theorem dr_run (hT : TG V es rs R) (hall : ∀ x, x < V → ∃ y, adj es x y = true) {a b : Nat} : ∀ (k : Nat) (F : Nat × Nat → Bool) (P rim : List Nat), RS V es rs F P rim → P.length + 2 + (k + 1) = V → (∃ m, rim = a :: (m ++ [b])) →
    (drun es R (k + 1) rim).length = k + 1 ∧ DCh es (drun es R (k + 1) rim) ∧ (∃ v, (drun es R (k + 1) rim)[0]? = some (v, rim)) ∧ (∃ v, (drun es R (k + 1) rim)[k]? = some (v, [a, v, b])) ∧ ((drun es R (k + 1) rim).map Prod.fst).Nodup ∧ (∀ v, v ∈ (drun es R (k + 1) rim).map Prod.fst → v ∉ P ∧ v < V ∧ v ≠ a ∧ v ≠ b) := by
  intro k
  induction k with
  | zero =>
    intro F P rim hR hk hm
    obtain ⟨t, t1, t2, t3, t4, t5, t6, t7, t8, t9, t10⟩ := dr_step hT hall hR (by omega)
    have hd : drun es R 1 rim = [(rAt rim t, rim)] := by rw [drun, t1]; rfl
    obtain ⟨m, hm⟩ := hm
    -- three are left
    have hlen : rim.length ≤ 3 := by
      have h1 : (P ++ rim).Nodup := List.nodup_append.mpr ⟨hR.2.2.2.2.2.1, hR.2.1, fun x hx y hy e => hR.2.2.2.2.2.2.1 x hx (e ▸ hy)⟩
      have := nd_le V h1 fun x hx => by
        rcases List.mem_append.mp hx with q | q
        · exact hR.2.2.2.2.1 x q
        · exact hR.2.2.2.1 x q
      rw [List.length_append] at this
      omega
    have ht : t = 1 := by omega
    have hm1 : m = [rAt rim 1] := by
      rw [hm] at hlen
      have h3 := hR.2.2.1
      rw [hm] at h3
      simp at hlen h3
      obtain ⟨x, rfl⟩ := List.length_eq_one_iff.mp (show m.length = 1 by omega)
      rw [hm]
      rfl
    have hnd := hR.2.1
    rw [hm] at hnd
    have hva : rAt rim t ≠ a ∧ rAt rim t ≠ b := by
      rw [ht]
      rw [hm1] at hnd
      simp only [List.cons_append, List.nil_append, List.nodup_cons, List.mem_cons, List.not_mem_nil, or_false, not_or] at hnd
      exact ⟨fun e => hnd.1.1 e.symm, hnd.2.1⟩
    rw [hd]
    refine ⟨rfl, fun i v r v' r' h1 h2 => by simp at h2, ⟨_, rfl⟩, ⟨rAt rim t, ?_⟩, by simp, fun v hv => ?_⟩
    · simp only [List.getElem?_cons_zero, Option.some.injEq, Prod.mk.injEq, true_and]
      rw [ht]
      exact hm.trans (by rw [hm1]; rfl)
    · simp only [List.map_cons, List.map_nil, List.mem_singleton] at hv
      rw [hv]
      exact ⟨t6, t7, hva⟩
  | succ k ih =>
    intro F P rim hR hk hm
    obtain ⟨t, t1, t2, t3, t4, t5, t6, t7, t8, t9, t10⟩ := dr_step hT hall hR (by omega)
    obtain ⟨F', hR'⟩ := t10 (by omega)
    have hd : drun es R (k + 1 + 1) rim = (rAt rim t, rim) :: drun es R (k + 1) (rimS R rim t) := by rw [drun, t1]
    obtain ⟨m, hm⟩ := hm
    have hm' : ∃ m', rimS R rim t = a :: (m' ++ [b]) := by
      have hmr := hm
      have hlen : rim.length = m.length + 2 := by rw [hm]; simp
      unfold rimS
      have h1 : rim.take t = a :: m.take (t - 1) := by
        rw [hm, show t = (t - 1) + 1 by omega, List.take_succ_cons, List.take_append_of_le_length (by omega)]
        rfl
      have h2 : rim.drop (t + 1) = m.drop t ++ [b] := by
        rw [hm, List.drop_succ_cons, List.drop_append_of_le_length (by omega)]
      rw [h1, h2]
      exact ⟨m.take (t - 1) ++ secZ (R (rAt rim t)) (rAt rim (t - 1)) (rAt rim (t + 1)) ++ m.drop t, by simp⟩
    obtain ⟨i1, i2, ⟨v0, i3⟩, ⟨vl, i4⟩, i5, i6⟩ := ih F' (rAt rim t :: P) (rimS R rim t) hR' (by simp; omega) hm'
    have hva : rAt rim t ≠ a ∧ rAt rim t ≠ b := by
      have hlen : rim.length = m.length + 2 := by rw [hm]; simp
      have ha : rAt rim 0 = a := by rw [hm]; rfl
      have hbb : rAt rim (rim.length - 1) = b := by
        have h5 : rim[rim.length - 1]? = some b := by
          rw [hm]
          have : (a :: (m ++ [b])).length - 1 = m.length + 1 := by simp
          rw [this, List.getElem?_cons_succ, List.getElem?_concat_length]
        rw [rAt_get (by omega)] at h5
        exact Option.some.inj h5
      refine ⟨fun e => ?_, fun e => ?_⟩
      · rw [← ha] at e
        have := rAt_inj hR.2.1 (by omega) (by omega) e
        omega
      · rw [← hbb] at e
        have := rAt_inj hR.2.1 (by omega) (by omega) e
        omega
    rw [hd]
    refine ⟨by rw [List.length_cons, i1], fun i v r v' r' h1 h2 => ?_, ⟨_, rfl⟩, ⟨vl, by rw [List.getElem?_cons_succ]; exact i4⟩, ?_, fun v hv => ?_⟩
    · cases i with
      | zero =>
        simp only [List.getElem?_cons_zero, Option.some.injEq, Prod.mk.injEq] at h1
        rw [Nat.zero_add, show (1 : Nat) = 0 + 1 from rfl, List.getElem?_cons_succ, i3] at h2
        simp only [Option.some.injEq, Prod.mk.injEq] at h2
        rw [← h1.1, ← h1.2, ← h2.2]
        exact t5
      | succ i =>
        rw [List.getElem?_cons_succ] at h1 h2
        exact i2 i v r v' r' h1 h2
    · rw [List.map_cons, List.nodup_cons]
      exact ⟨fun z => (i6 _ z).1 (by simp), i5⟩
    · rw [List.map_cons] at hv
      rcases List.mem_cons.mp hv with e | e
      · rw [e]; exact ⟨t6, t7, hva⟩
      · obtain ⟨j1, j2, j3⟩ := i6 v e
        exact ⟨fun z => j1 (List.mem_cons_of_mem _ z), j2, j3⟩
/-- where the new vertex stands -/
theorem LK.at {v : Nat} {rim rim' : List Nat} (h : LK es v rim rim') : ∃ A p n M Z, rim = A ++ p :: v :: n :: M ∧ rim' = A ++ p :: (Z ++ n :: M) ∧ (∀ w, w ∈ p :: (Z ++ [n]) → adj es v w = true) ∧ (∀ w, w ∈ A ∨ w ∈ M → adj es v w = false) ∧ rim.idxOf v = A.length + 1 ∧ rAt rim (A.length + 1 - 1) = p ∧ rAt rim (A.length + 1 + 1) = n ∧ (rim'.drop (A.length + 1)).take (rim'.length + 1 - rim.length) = Z ∧ rim.drop (A.length + 1 + 1) = n :: M := by
  obtain ⟨A, p, n, M, Z, e1, e2, e3, e4, e5, e6, e7, e8, e9⟩ := h
  have hvA : v ∉ A ++ [p] := fun hm => by
    have := e7
    rw [e1, show A ++ p :: v :: n :: M = (A ++ [p]) ++ v :: n :: M by simp, List.nodup_append] at this
    exact this.2.2 v hm v (by simp) rfl
  have hidx : rim.idxOf v = A.length + 1 := by
    rw [e1, show A ++ p :: v :: n :: M = (A ++ [p]) ++ v :: n :: M by simp, List.idxOf_append, if_neg hvA, List.idxOf_cons_self]
    simp
  refine ⟨A, p, n, M, Z, e1, e2, e3, e4, hidx, ?_, ?_, ?_, ?_⟩
  · unfold rAt
    rw [e1, List.getD_eq_getElem?_getD, show A.length + 1 - 1 = A.length by omega, List.getElem?_append_right (Nat.le_refl _)]
    simp
  · unfold rAt
    rw [e1, List.getD_eq_getElem?_getD, List.getElem?_append_right (by omega), show A.length + 1 + 1 - A.length = 2 by omega]
    simp
  · rw [e2, e1]
    have h1 : (A ++ p :: (Z ++ n :: M)).drop (A.length + 1) = Z ++ n :: M := by
      rw [show A ++ p :: (Z ++ n :: M) = (A ++ [p]) ++ (Z ++ n :: M) by simp]
      rw [List.drop_append_of_le_length (by simp)]
      simp
    rw [h1]
    have h2 : (A ++ p :: (Z ++ n :: M)).length + 1 - (A ++ p :: v :: n :: M).length = Z.length := by simp; omega
    rw [h2, List.take_left]
  · rw [e1, show A ++ p :: v :: n :: M = (A ++ [p, v]) ++ n :: M by simp, List.drop_append_of_le_length (by simp)]
    simp
end DRQ
