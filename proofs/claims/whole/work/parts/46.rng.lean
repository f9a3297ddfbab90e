/-! ===== darts along rows and rings ===== -/
def pd : List Nat → List (Nat × Nat)
  | x :: y :: l => (x, y) :: pd (y :: l)
  | _ => []
def cd : List Nat → List (Nat × Nat)
  | [] => []
  | x :: l => pd (x :: (l ++ [x]))
theorem pd_cat : ∀ (l : List Nat) (x : Nat) (m : List Nat), pd (l ++ x :: m) = pd (l ++ [x]) ++ pd (x :: m)
  | [], x, m => by simp [pd]
  | [y], x, m => by simp [pd]
  | y :: z :: l, x, m => by
    have := pd_cat (z :: l) x m
    simp only [List.cons_append, pd] at this ⊢
    rw [this]
theorem pd_fst : ∀ (m : List Nat) (x : Nat), (pd (m ++ [x])).map Prod.fst = m
  | [], x => rfl
  | [y], x => rfl
  | y :: z :: m, x => by
    have := pd_fst (z :: m) x
    simp only [List.cons_append, pd, List.map_cons] at this ⊢
    rw [this]
theorem pd_snd : ∀ (x : Nat) (m : List Nat), (pd (x :: m)).map Prod.snd = m
  | x, [] => rfl
  | x, y :: m => by rw [pd, List.map_cons, pd_snd y m]
theorem pd_len (x : Nat) (m : List Nat) : (pd (x :: m)).length = m.length := by
  have := congrArg List.length (pd_snd x m)
  simpa using this
theorem cd_fst (r : List Nat) : (cd r).map Prod.fst = r := by
  cases r with
  | nil => rfl
  | cons x l => exact pd_fst (x :: l) x
theorem cd_snd {x : Nat} {l : List Nat} : (cd (x :: l)).map Prod.snd = l ++ [x] := pd_snd x (l ++ [x])
theorem cd_len (r : List Nat) : (cd r).length = r.length := by
  have := congrArg List.length (cd_fst r)
  simpa using this
theorem nd_inj {α β : Type} {f : α → β} : ∀ {l : List α}, (l.map f).Nodup → ∀ {a b : α}, a ∈ l → b ∈ l → f a = f b → a = b
  | [], _, _, _, h, _, _ => absurd h List.not_mem_nil
  | c :: l, hn, a, b, ha, hb, e => by
    rw [List.map_cons, List.nodup_cons] at hn
    rcases List.mem_cons.mp ha with h1 | h1
    · rcases List.mem_cons.mp hb with h2 | h2
      · rw [h1, h2]
      · exact absurd (List.mem_map.mpr ⟨b, h2, by rw [← e, h1]⟩) hn.1
    · rcases List.mem_cons.mp hb with h2 | h2
      · exact absurd (List.mem_map.mpr ⟨a, h1, by rw [e, h2]⟩) hn.1
      · exact nd_inj hn.2 h1 h2 e
theorem nd_of {α β : Type} {f : α → β} {l : List α} (h : (l.map f).Nodup) : l.Nodup := by
  rw [List.Nodup, List.pairwise_map] at h
  exact h.imp fun hne e => hne (by rw [e])
theorem pd_in : ∀ {l : List Nat} {x y : Nat}, (x, y) ∈ pd l → x ∈ l ∧ y ∈ l
  | [], _, _, h => absurd h List.not_mem_nil
  | [_], _, _, h => absurd h List.not_mem_nil
  | u :: v :: l, x, y, h => by
    rw [pd] at h
    rcases List.mem_cons.mp h with e | e
    · cases e; exact ⟨by simp, by simp⟩
    · exact ⟨List.mem_cons_of_mem _ (pd_in e).1, List.mem_cons_of_mem _ (pd_in e).2⟩
theorem cd_in {r : List Nat} {x y : Nat} (h : (x, y) ∈ cd r) : x ∈ r ∧ y ∈ r := by
  cases r with
  | nil => exact absurd h List.not_mem_nil
  | cons u l =>
    have := pd_in h
    simp only [List.mem_cons, List.mem_append, List.not_mem_nil, or_false] at this ⊢
    rcases this with ⟨h1 | h1 | h1, h2 | h2 | h2⟩ <;> simp_all
theorem cd_src {r : List Nat} {x : Nat} (h : x ∈ r) : ∃ y, (x, y) ∈ cd r := by
  rw [← cd_fst r] at h
  obtain ⟨⟨a, b⟩, h1, h2⟩ := List.mem_map.mp h
  exact ⟨b, by rw [← show a = x from h2]; exact h1⟩
theorem cd_tgt {r : List Nat} {x : Nat} (h : x ∈ r) : ∃ y, (y, x) ∈ cd r := by
  cases r with
  | nil => exact absurd h List.not_mem_nil
  | cons u l =>
    have h' : x ∈ (cd (u :: l)).map Prod.snd := by rw [cd_snd]; simpa [or_comm] using h
    obtain ⟨⟨a, b⟩, h1, h2⟩ := List.mem_map.mp h'
    exact ⟨a, by rw [← show b = x from h2]; exact h1⟩
theorem cd_fun {r : List Nat} (hn : r.Nodup) {x y z : Nat} (h1 : (x, y) ∈ cd r) (h2 : (x, z) ∈ cd r) : y = z :=
  congrArg Prod.snd (nd_inj (f := Prod.fst) (by rw [cd_fst]; exact hn) h1 h2 rfl)
theorem cd_inj {r : List Nat} (hn : r.Nodup) {x y z : Nat} (h1 : (y, x) ∈ cd r) (h2 : (z, x) ∈ cd r) : y = z := by
  cases r with
  | nil => exact absurd h1 List.not_mem_nil
  | cons u l =>
    rw [List.nodup_cons] at hn
    exact congrArg Prod.fst (nd_inj (f := Prod.snd) (by
      rw [cd_snd, List.nodup_append]
      exact ⟨hn.2, by simp, fun a ha b hb e => hn.1 (by simp at hb; rw [← hb, ← e]; exact ha)⟩) h1 h2 rfl)
theorem cd_nd {r : List Nat} (hn : r.Nodup) : (cd r).Nodup := nd_of (f := Prod.fst) (by rw [cd_fst]; exact hn)
theorem pd_nd {l : List Nat} (hn : l.Nodup) : (pd l).Nodup := by
  cases l with
  | nil => exact List.nodup_nil
  | cons x m => exact nd_of (f := Prod.snd) (by rw [pd_snd]; exact (List.nodup_cons.mp hn).2)
theorem pd_asym : ∀ {l : List Nat}, l.Nodup → ∀ {x y : Nat}, (x, y) ∈ pd l → (y, x) ∉ pd l
  | [], _, _, _, h => absurd h List.not_mem_nil
  | [_], _, _, _, h => absurd h List.not_mem_nil
  | u :: v :: l, hn, x, y, h => by
    rw [List.nodup_cons] at hn
    rw [pd] at h ⊢
    intro h'
    rcases List.mem_cons.mp h with e | e
    · cases e
      rcases List.mem_cons.mp h' with e2 | e2
      · cases e2; exact hn.1 (by simp)
      · exact hn.1 (pd_in e2).2
    · rcases List.mem_cons.mp h' with e2 | e2
      · cases e2; exact hn.1 (pd_in e).2
      · exact pd_asym hn.2 e e2
theorem pd_fun {l : List Nat} (hn : l.Nodup) {x y z : Nat} (h1 : (x, y) ∈ pd l) (h2 : (x, z) ∈ pd l) : y = z := by
  rcases List.eq_nil_or_concat l with e | ⟨m, u, e⟩
  · rw [e] at h1; exact absurd h1 List.not_mem_nil
  · rw [List.concat_eq_append] at e
    rw [e] at h1 h2 hn
    rw [List.nodup_append] at hn
    exact congrArg Prod.snd (nd_inj (f := Prod.fst) (by rw [pd_fst]; exact hn.1) h1 h2 rfl)
theorem pd_inj {l : List Nat} (hn : l.Nodup) {x y z : Nat} (h1 : (y, x) ∈ pd l) (h2 : (z, x) ∈ pd l) : y = z := by
  cases l with
  | nil => exact absurd h1 List.not_mem_nil
  | cons u l =>
    rw [List.nodup_cons] at hn
    exact congrArg Prod.fst (nd_inj (f := Prod.snd) (by rw [pd_snd]; exact hn.2) h1 h2 rfl)
theorem pd_two (u v : Nat) : pd [u, v] = [(u, v)] := rfl
theorem pd_rev : ∀ {l : List Nat} {x y : Nat}, (x, y) ∈ pd l.reverse ↔ (y, x) ∈ pd l
  | [], _, _ => by simp [pd]
  | [_], _, _ => by simp [pd]
  | u :: v :: l, x, y => by
    have ih := pd_rev (l := v :: l) (x := x) (y := y)
    rw [List.reverse_cons, List.reverse_cons, List.append_assoc, List.singleton_append, pd_cat, ← List.reverse_cons, List.mem_append, ih, pd_two, pd, List.mem_singleton, List.mem_cons, or_comm]
    constructor
    · rintro (h | h)
      · cases h; exact Or.inl rfl
      · exact Or.inr h
    · rintro (h | h)
      · cases h; exact Or.inl rfl
      · exact Or.inr h
theorem wyE_adj : ∀ {l : List Nat} {x y : Nat}, adj (wyE l) x y = true ↔ (x, y) ∈ pd l ∨ (y, x) ∈ pd l
  | [], _, _ => by simp [wyE, pd, adj]
  | [_], _, _ => by simp [wyE, pd, adj]
  | u :: v :: l, x, y => by
    have ih := wyE_adj (l := v :: l) (x := x) (y := y)
    rw [adj_iff] at ih ⊢
    rw [wyE, pd, List.mem_cons, List.mem_cons, List.mem_cons, List.mem_cons]
    constructor
    · rintro ((h | h) | (h | h))
      · simp only [Prod.mk.injEq] at h
        rcases Nat.le_total u v with q | q
        · exact Or.inl (Or.inl (by simp only [Prod.mk.injEq]; omega))
        · exact Or.inr (Or.inl (by simp only [Prod.mk.injEq]; omega))
      · rcases ih.mp (Or.inl h) with z | z
        · exact Or.inl (Or.inr z)
        · exact Or.inr (Or.inr z)
      · simp only [Prod.mk.injEq] at h
        rcases Nat.le_total u v with q | q
        · exact Or.inr (Or.inl (by simp only [Prod.mk.injEq]; omega))
        · exact Or.inl (Or.inl (by simp only [Prod.mk.injEq]; omega))
      · rcases ih.mp (Or.inr h) with z | z
        · exact Or.inl (Or.inr z)
        · exact Or.inr (Or.inr z)
    · rintro ((h | h) | (h | h))
      · cases h
        rcases Nat.le_total u v with q | q
        · exact Or.inl (Or.inl (by simp only [Prod.mk.injEq]; omega))
        · exact Or.inr (Or.inl (by simp only [Prod.mk.injEq]; omega))
      · rcases ih.mpr (Or.inl h) with z | z
        · exact Or.inl (Or.inr z)
        · exact Or.inr (Or.inr z)
      · cases h
        rcases Nat.le_total u v with q | q
        · exact Or.inr (Or.inl (by simp only [Prod.mk.injEq]; omega))
        · exact Or.inl (Or.inl (by simp only [Prod.mk.injEq]; omega))
      · rcases ih.mpr (Or.inr h) with z | z
        · exact Or.inl (Or.inr z)
        · exact Or.inr (Or.inr z)
theorem wyE_nd : ∀ {l : List Nat}, l.Nodup → (wyE l).Nodup
  | [], _ => List.nodup_nil
  | [_], _ => List.nodup_nil
  | u :: v :: l, hn => by
    rw [List.nodup_cons] at hn
    rw [wyE, List.nodup_cons]
    refine ⟨fun h => ?_, wyE_nd hn.2⟩
    obtain ⟨x, y, h1, h2, h3⟩ := wyE_mem h
    simp only [Prod.mk.injEq] at h1
    have : u = x ∨ u = y := by omega
    rcases this with e | e
    · exact hn.1 (e ▸ h2)
    · exact hn.1 (e ▸ h3)
theorem wyE_len (x : Nat) : ∀ (l : List Nat), (wyE (x :: l)).length = l.length := by
  intro l
  induction l generalizing x with
  | nil => rfl
  | cons y l ih => rw [wyE, List.length_cons, ih]; rfl
theorem cd_rot : ∀ (A B : List Nat), (cd (A ++ B)).Perm (cd (B ++ A))
  | [], B => by simp
  | x :: A, [] => by simp
  | x :: A, y :: B => by
    have e1 : cd (x :: A ++ y :: B) = pd (x :: A ++ [y]) ++ pd (y :: B ++ [x]) := by
      show pd (x :: (A ++ y :: B ++ [x])) = _
      rw [show x :: (A ++ y :: B ++ [x]) = (x :: A) ++ y :: (B ++ [x]) by simp, pd_cat]
      rfl
    have e2 : cd (y :: B ++ x :: A) = pd (y :: B ++ [x]) ++ pd (x :: A ++ [y]) := by
      show pd (y :: (B ++ x :: A ++ [y])) = _
      rw [show y :: (B ++ x :: A ++ [y]) = (y :: B) ++ x :: (A ++ [y]) by simp, pd_cat]
      rfl
    rw [e1, e2]
    exact List.perm_append_comm
theorem arcN_mid : ∀ (l : List Nat) (b : Nat) (m : List Nat), b ∉ l → arcN (l ++ b :: m) b = l ++ [b]
  | [], b, m, _ => by simp [arcN]
  | x :: l, b, m, h => by
    have : x ≠ b := fun e => h (e ▸ List.mem_cons_self)
    rw [List.cons_append, arcN, if_neg this, arcN_mid l b m fun z => h (List.mem_cons_of_mem _ z)]
    rfl
theorem rotN_mid (l : List Nat) (a : Nat) (m : List Nat) (h : a ∉ l) : rotN (l ++ a :: m) a = a :: m ++ l := by
  have e : (l ++ a :: m).idxOf a = l.length := by rw [List.idxOf_append, if_neg h]; simp
  rw [rotN, e, List.drop_left, List.take_left]
/-- a ring that is parted between two of its vertices -/
theorem rot_split {r : List Nat} {a b : Nat} (hn : r.Nodup) (ha : a ∈ r) (hb : b ∈ r) (hab : a ≠ b) : ∃ A B : List Nat, arcN (rotN r a) b = a :: (A ++ [b]) ∧ arcN (rotN r b) a = b :: (B ++ [a]) ∧ (cd r).Perm (pd (a :: (A ++ [b])) ++ pd (b :: (B ++ [a]))) ∧ (a :: (A ++ b :: B)).Perm r := by
  obtain ⟨l, m, e⟩ := List.append_of_mem ha
  subst e
  rw [List.nodup_append] at hn
  obtain ⟨n1, n2, n3⟩ := hn
  rw [List.nodup_cons] at n2
  have hal : a ∉ l := fun z => n3 a z a (by simp) rfl
  have hcd : ∀ A B : List Nat, cd (a :: (A ++ b :: B)) = pd (a :: (A ++ [b])) ++ pd (b :: (B ++ [a])) := fun A B => by
    show pd (a :: (A ++ b :: B ++ [a])) = _
    rw [show a :: (A ++ b :: B ++ [a]) = (a :: A) ++ b :: (B ++ [a]) by simp, pd_cat]
    rfl
  rcases List.mem_append.mp hb with hbl | hbm
  · -- b stands ahead of a
    obtain ⟨l1, l2, e⟩ := List.append_of_mem hbl
    subst e
    rw [List.nodup_append, List.nodup_cons] at n1
    have hbl1 : b ∉ l1 := fun z => n1.2.2 b z b (by simp) rfl
    have hbm : b ∉ m := fun z => n3 b (by simp) b (List.mem_cons_of_mem _ z) rfl
    have e1 : rotN (l1 ++ b :: l2 ++ a :: m) a = (a :: (m ++ l1)) ++ b :: l2 := by rw [rotN_mid _ _ _ hal]; simp
    have e2 : rotN (l1 ++ b :: l2 ++ a :: m) b = (b :: l2) ++ a :: (m ++ l1) := by
      rw [show l1 ++ b :: l2 ++ a :: m = l1 ++ b :: (l2 ++ a :: m) by simp, rotN_mid _ _ _ hbl1]; simp
    have e3 : cd (l1 ++ b :: l2 ++ a :: m) = cd ((l1 ++ b :: l2) ++ a :: m) := rfl
    refine ⟨m ++ l1, l2, ?_, ?_, ?_, ?_⟩
    · rw [e1, arcN_mid _ _ _ (by simp only [List.mem_cons, List.mem_append]; exact fun z => z.elim (fun z => hab z.symm) fun z => z.elim hbm hbl1)]
      simp
    · rw [e2, arcN_mid _ _ _ (by simp only [List.mem_cons]; exact fun z => z.elim hab fun z => hal (by simp [z]))]
      simp
    · refine (cd_rot (l1 ++ b :: l2) (a :: m)).trans ?_
      rw [show a :: m ++ (l1 ++ b :: l2) = a :: (m ++ l1 ++ b :: l2) by simp, hcd]
    · rw [show a :: (m ++ l1 ++ b :: l2) = (a :: m) ++ (l1 ++ b :: l2) by simp]
      exact List.perm_append_comm
  · have hbm' : b ∈ m := (List.mem_cons.mp hbm).resolve_left fun z => hab z.symm
    obtain ⟨m1, m2, e⟩ := List.append_of_mem hbm'
    subst e
    have hbl : b ∉ l := fun z => n3 b z b (by simp) rfl
    have n4 := n2.2
    rw [List.nodup_append, List.nodup_cons] at n4
    have hbm1 : b ∉ m1 := fun z => n4.2.2 b z b (by simp) rfl
    have ham : a ∉ m1 ++ b :: m2 := n2.1
    have e1 : rotN (l ++ a :: (m1 ++ b :: m2)) a = (a :: m1) ++ b :: (m2 ++ l) := by rw [rotN_mid _ _ _ hal]; simp
    have e2 : rotN (l ++ a :: (m1 ++ b :: m2)) b = (b :: (m2 ++ l)) ++ a :: m1 := by
      rw [show l ++ a :: (m1 ++ b :: m2) = (l ++ a :: m1) ++ b :: m2 by simp, rotN_mid _ _ _ (by simp only [List.mem_append, List.mem_cons]; exact fun z => z.elim hbl fun z => z.elim (fun z => hab z.symm) hbm1)]
      simp
    refine ⟨m1, m2 ++ l, ?_, ?_, ?_, ?_⟩
    · rw [e1, arcN_mid _ _ _ (by simp only [List.mem_cons]; exact fun z => z.elim (fun z => hab z.symm) hbm1)]
      simp
    · rw [e2, arcN_mid _ _ _ (by simp only [List.mem_cons, List.mem_append]; exact fun z => z.elim hab fun z => z.elim (fun z => ham (by simp [z])) hal)]
      simp
    · refine (cd_rot l (a :: (m1 ++ b :: m2))).trans ?_
      rw [show a :: (m1 ++ b :: m2) ++ l = a :: (m1 ++ b :: (m2 ++ l)) by simp, hcd]
    · rw [show a :: (m1 ++ b :: (m2 ++ l)) = (a :: (m1 ++ b :: m2)) ++ l by simp]
      exact List.perm_append_comm
