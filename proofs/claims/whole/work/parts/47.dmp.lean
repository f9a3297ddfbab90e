/-! ===== rings of what is laid ===== -/
def DI (bes : gE) (rs : List (List Nat)) (dl : gE) : Prop :=
  (∀ f, f ∈ dl → f ∈ bes) ∧ dl.Nodup ∧ (∀ r, r ∈ rs → r.Nodup) ∧ (rs.flatMap cd).Nodup ∧ (∀ x y, (x, y) ∈ rs.flatMap cd ↔ adj dl x y = true) ∧ rs.length + cnt (lvO dl) 20 = dl.length + 2
/-- ring R is parted into R1 and R2 by a way from b over ws to a -/
def SP (rs rs' rest : List (List Nat)) (R R1 R2 A B : List Nat) (a b : Nat) (ws : List Nat) : Prop :=
  rs.Perm (R :: rest) ∧ rs'.Perm (R1 :: R2 :: rest) ∧ (cd R).Perm (pd (a :: (A ++ [b])) ++ pd (b :: (B ++ [a]))) ∧ (cd R1).Perm (pd (a :: (A ++ [b])) ++ pd (b :: (ws ++ [a]))) ∧ (cd R2).Perm (pd (b :: (B ++ [a])) ++ pd (a :: (ws.reverse ++ [b]))) ∧ R1.Nodup ∧ R2.Nodup ∧ (a :: (A ++ b :: B)).Nodup
/-- what a way must be -/
def WY (bes dl : gE) (a b : Nat) (ws : List Nat) : Prop := a ≠ b ∧ (b :: (ws ++ [a])).Nodup ∧ (∀ x ∈ ws, x < 20 ∧ lvO dl x = false) ∧ lvO dl a = true ∧ lvO dl b = true ∧ (∀ f ∈ wyE (b :: (ws ++ [a])), f ∈ bes ∧ f ∉ dl)
theorem lvO_wy : ∀ {l : List Nat} {x y v : Nat}, lvO (wyE (x :: y :: l)) v = true ↔ v ∈ x :: y :: l
  | [], x, y, v => by
    rw [lvO_iff]
    simp only [wyE, List.mem_singleton, exists_eq_left, inc_iff, List.mem_cons, List.not_mem_nil, or_false]
    omega
  | z :: l, x, y, v => by
    have ih := lvO_wy (l := l) (x := y) (y := z) (v := v)
    rw [lvO_iff] at ih ⊢
    rw [wyE]
    constructor
    · rintro ⟨g, h1, h2⟩
      rcases List.mem_cons.mp h1 with e | e
      · rw [e, inc_iff] at h2
        simp only at h2
        have : v = x ∨ v = y := by omega
        rcases this with e | e <;> simp [e]
      · exact List.mem_cons_of_mem _ (ih.mp ⟨g, e, h2⟩)
    · intro h
      rcases List.mem_cons.mp h with e | e
      · exact ⟨_, List.mem_cons_self, by rw [inc_iff]; simp only; omega⟩
      · obtain ⟨g, g1, g2⟩ := ih.mpr e
        exact ⟨g, List.mem_cons_of_mem _ g1, g2⟩
theorem cnt_list {p : Nat → Bool} {n : Nat} : ∀ {l : List Nat}, l.Nodup → (∀ x ∈ l, x < n ∧ p x = false) → cnt (fun v => p v || l.contains v) n = cnt p n + l.length
  | [], _, _ => by rw [cnt_congr (q := p) fun i _ => by simp]; rfl
  | x :: l, hn, h => by
    rw [List.nodup_cons] at hn
    have ih := cnt_list (p := p) (n := n) hn.2 fun y hy => h y (List.mem_cons_of_mem _ hy)
    have h1 := h x List.mem_cons_self
    have := cnt_drop (p := fun v => p v || (x :: l).contains v) (q := fun v => p v || l.contains v) (a := x) (n := n) h1.1 (by simp) (by simp [h1.2, hn.1]) fun i _ hne => by simp [hne]
    rw [List.length_cons]
    omega
section DMP
variable {bes dl : gE} {rs rs' rest : List (List Nat)} {R R1 R2 A B ws : List Nat} {a b : Nat}
theorem lvO_app {dl fs : gE} {v : Nat} : lvO (dl ++ fs) v = (lvO dl v || lvO fs v) := by unfold lvO; rw [List.any_append]
theorem wy_lv (hW : WY bes dl a b ws) (v : Nat) : lvO (dl ++ wyE (b :: (ws ++ [a]))) v = (lvO dl v || ws.contains v) := by
  obtain ⟨w1, w2, w3, w4, w5, w6⟩ := hW
  have h1 : lvO (wyE (b :: (ws ++ [a]))) v = true ↔ v = b ∨ v ∈ ws ∨ v = a := by
    cases ws with
    | nil => rw [List.nil_append, lvO_wy]; simp
    | cons x ws => rw [List.cons_append, lvO_wy]; simp [or_assoc]
  rw [lvO_app, Bool.eq_iff_iff, Bool.or_eq_true, Bool.or_eq_true, h1]
  simp only [List.contains_eq_mem, decide_eq_true_eq]
  constructor
  · rintro (h | h | h | h)
    · exact Or.inl h
    · rw [h]; exact Or.inl w5
    · exact Or.inr h
    · rw [h]; exact Or.inl w4
  · rintro (h | h)
    · exact Or.inl h
    · exact Or.inr (Or.inr (Or.inl h))
/-- the darts of the new rings -/
theorem sp_perm (h : SP rs rs' rest R R1 R2 A B a b ws) : (rs'.flatMap cd).Perm (rs.flatMap cd ++ (pd (b :: (ws ++ [a])) ++ pd (a :: (ws.reverse ++ [b])))) := by
  obtain ⟨h1, h2, h3, h4, h5, -, -, -⟩ := h
  have e1 := h2.flatMap_right cd
  have e2 := h1.flatMap_right cd
  simp only [List.flatMap_cons] at e1 e2
  refine e1.trans (((h4.append (h5.append_right _)).trans ?_).trans ((e2.trans (h3.append_right _)).symm.append_right _))
  generalize pd (a :: (A ++ [b])) = P
  generalize pd (b :: (B ++ [a])) = Q'
  generalize pd (b :: (ws ++ [a])) = N1
  generalize pd (a :: (ws.reverse ++ [b])) = N2
  generalize rest.flatMap cd = Z
  -- (P N1) (Q N2 Z) against ((P Q) Z) (N1 N2)
  rw [List.append_assoc, List.append_assoc, List.append_assoc, List.append_assoc]
  refine List.Perm.append_left P ?_
  refine List.perm_append_comm.trans ?_
  rw [List.append_assoc, List.append_assoc]
  refine List.Perm.append_left Q' ?_
  refine (List.perm_append_comm (l₁ := N2) (l₂ := Z ++ N1)).trans ?_
  rw [List.append_assoc]
theorem rev_pth : a :: (ws.reverse ++ [b]) = (b :: (ws ++ [a])).reverse := by simp
theorem wy_darts (hW : WY bes dl a b ws) : (pd (b :: (ws ++ [a])) ++ pd (a :: (ws.reverse ++ [b]))).Nodup ∧ ∀ x y, (x, y) ∈ pd (b :: (ws ++ [a])) ++ pd (a :: (ws.reverse ++ [b])) ↔ adj (wyE (b :: (ws ++ [a]))) x y = true := by
  have hn := hW.2.1
  have hn' : (b :: (ws ++ [a])).reverse.Nodup := (List.reverse_perm _).nodup_iff.mpr hn
  rw [rev_pth]
  refine ⟨?_, fun x y => ?_⟩
  · rw [List.nodup_append]
    refine ⟨pd_nd hn, pd_nd hn', fun p hp q hq e => ?_⟩
    obtain ⟨x, y⟩ := p
    rw [← e] at hq
    exact pd_asym hn hp (pd_rev.mp hq)
  · rw [List.mem_append, pd_rev, wyE_adj]
theorem di_step {V : Nat} (hO : okE V bes) (hD : DI bes rs dl) (hW : WY bes dl a b ws) (h : SP rs rs' rest R R1 R2 A B a b ws) : DI bes rs' (dl ++ wyE (b :: (ws ++ [a]))) := by
  obtain ⟨d1, d2, d3, d4, d5, d6⟩ := hD
  obtain ⟨wn, wm⟩ := wy_darts hW
  obtain ⟨w1, w2, w3, w4, w5, w6⟩ := id hW
  have hp := sp_perm h
  have hdis : ∀ x y, adj dl x y = true → adj (wyE (b :: (ws ++ [a]))) x y = true → False := fun x y h1 h2 => by
    have q1 := adj_te (V := V) ⟨fun p hp => hO.1 p (d1 p hp), d2⟩ h1
    have q2 := adj_te (V := V) ⟨fun p hp => hO.1 p (w6 p hp).1, wyE_nd w2⟩ h2
    exact (w6 _ q2).2 q1
  refine ⟨fun f hf => ?_, ?_, fun r hr => ?_, ?_, fun x y => ?_, ?_⟩
  · rcases List.mem_append.mp hf with z | z
    · exact d1 f z
    · exact (w6 f z).1
  · rw [List.nodup_append]
    exact ⟨d2, wyE_nd w2, fun p hp q hq e => (w6 q hq).2 (e ▸ hp)⟩
  · have := h.2.1.mem_iff.mp hr
    rcases List.mem_cons.mp this with e | e
    · rw [e]; exact h.2.2.2.2.2.1
    · rcases List.mem_cons.mp e with e | e
      · rw [e]; exact h.2.2.2.2.2.2.1
      · exact d3 r (h.1.mem_iff.mpr (List.mem_cons_of_mem _ e))
  · rw [hp.nodup_iff, List.nodup_append]
    refine ⟨d4, wn, fun p hp q hq e => ?_⟩
    obtain ⟨x, y⟩ := p
    rw [← e] at hq
    exact hdis x y ((d5 x y).mp hp) ((wm x y).mp hq)
  · rw [hp.mem_iff, List.mem_append, d5, wm, adj_app, Bool.or_eq_true]
  · have hc : cnt (lvO (dl ++ wyE (b :: (ws ++ [a])))) 20 = cnt (lvO dl) 20 + ws.length := by
      rw [cnt_congr fun v _ => wy_lv hW v]
      refine cnt_list ?_ w3
      rw [List.nodup_cons, List.nodup_append] at w2
      exact w2.2.1
    have l1 := h.1.length_eq
    have l2 := h.2.1.length_eq
    simp only [List.length_cons] at l1 l2
    rw [hc, List.length_append, wyE_len, List.length_append, List.length_singleton]
    omega
/-- membership in the rings of a parted state -/
theorem sp_old (h : SP rs rs' rest R R1 R2 A B a b ws) {r : List Nat} (hr : r ∈ rs) : r = R ∨ (r ∈ rest ∧ r ∈ rs') := by
  rcases List.mem_cons.mp (h.1.mem_iff.mp hr) with e | e
  · exact Or.inl e
  · exact Or.inr ⟨e, h.2.1.mem_iff.mpr (by simp [e])⟩
theorem sp_new (h : SP rs rs' rest R R1 R2 A B a b ws) {r : List Nat} (hr : r ∈ rs') : r = R1 ∨ r = R2 ∨ (r ∈ rest ∧ r ∈ rs) := by
  rcases List.mem_cons.mp (h.2.1.mem_iff.mp hr) with e | e
  · exact Or.inl e
  · rcases List.mem_cons.mp e with e | e
    · exact Or.inr (Or.inl e)
    · exact Or.inr (Or.inr ⟨e, h.1.mem_iff.mpr (by simp [e])⟩)
theorem sp_R (h : SP rs rs' rest R R1 R2 A B a b ws) : R ∈ rs ∧ R1 ∈ rs' ∧ R2 ∈ rs' := ⟨h.1.mem_iff.mpr (by simp), h.2.1.mem_iff.mpr (by simp), h.2.1.mem_iff.mpr (by simp)⟩
/-- what follows what around a vertex -/
def fol (rs : List (List Nat)) (x y z : Nat) : Prop := ∃ r, r ∈ rs ∧ (x, y) ∈ cd r ∧ (y, z) ∈ cd r
def RotR (rs : List (List Nat)) (dl : gE) (y : Nat) (ro : List Nat) : Prop := ro.Nodup ∧ (∀ x, x ∈ ro ↔ adj dl y x = true) ∧ ∀ x z, (x, z) ∈ cd ro → fol rs x y z
def RI (rs : List (List Nat)) (dl : gE) : Prop := ∀ y, lvO dl y = true → ∃ ro, RotR rs dl y ro
/-- a dart is of one ring alone -/
theorem fm_inj {rs : List (List Nat)} (hn : (rs.flatMap cd).Nodup) {r r' : List Nat} (h1 : r ∈ rs) (h2 : r' ∈ rs) {p : Nat × Nat} (p1 : p ∈ cd r) (p2 : p ∈ cd r') : r = r' := by
  obtain ⟨l, m, e⟩ := List.append_of_mem h1
  rw [e] at hn h2
  rw [List.flatMap_append, List.flatMap_cons, List.nodup_append, List.nodup_append] at hn
  obtain ⟨n1, ⟨n2, n3, n4⟩, n5⟩ := hn
  rcases List.mem_append.mp h2 with z | z
  · exact absurd rfl (n5 p (List.mem_flatMap.mpr ⟨r', z, p2⟩) p (List.mem_append_left _ p1))
  · rcases List.mem_cons.mp z with z | z
    · exact z.symm
    · exact absurd rfl (n4 p p1 p (List.mem_flatMap.mpr ⟨r', z, p2⟩))
/-- one more element behind p in a ring -/
theorem rot_ins {ro : List Nat} {p w : Nat} (hn : ro.Nodup) (hp : p ∈ ro) (hw : w ∉ ro) : ∃ ro' : List Nat, ro'.Nodup ∧ (∀ x, x ∈ ro' ↔ x ∈ ro ∨ x = w) ∧ ∀ x z, (x, z) ∈ cd ro' → (x = p ∧ z = w) ∨ (x = w ∧ (p, z) ∈ cd ro) ∨ (x ≠ p ∧ (x, z) ∈ cd ro) := by
  obtain ⟨l, m, e⟩ := List.append_of_mem hp
  have hperm : ro.Perm ((m ++ l) ++ [p]) := by
    rw [e, show l ++ p :: m = (l ++ [p]) ++ m by simp, show (m ++ l) ++ [p] = m ++ (l ++ [p]) by simp]
    exact List.perm_append_comm
  have hcd : (cd ro).Perm (cd ((m ++ l) ++ [p])) := by
    rw [e, show l ++ p :: m = (l ++ [p]) ++ m by simp, show (m ++ l) ++ [p] = m ++ (l ++ [p]) by simp]
    exact cd_rot (l ++ [p]) m
  generalize m ++ l = u at *
  have hnu : (u ++ [p]).Nodup := hperm.nodup_iff.mp hn
  have hwu : w ∉ u ++ [p] := fun z => hw (hperm.mem_iff.mpr z)
  refine ⟨u ++ [p, w], ?_, fun x => ?_, fun x z h => ?_⟩
  · rw [show u ++ [p, w] = (u ++ [p]) ++ [w] by simp, List.nodup_append]
    exact ⟨hnu, by simp, fun a ha c hc e => hwu (by simp at hc; rw [← hc, ← e]; exact ha)⟩
  · rw [hperm.mem_iff]; simp [or_assoc]
  · rw [hcd.mem_iff, hcd.mem_iff]
    cases u with
    | nil =>
      have h' : (x, z) ∈ [(p, w), (w, p)] := h
      simp only [List.mem_cons, List.not_mem_nil, or_false, Prod.mk.injEq] at h'
      rcases h' with h' | h'
      · exact Or.inl h'
      · exact Or.inr (Or.inl ⟨h'.1, by rw [h'.2]; simp [cd, pd]⟩)
    | cons c t =>
      have e1 : cd (c :: t ++ [p, w]) = pd (c :: t ++ [p]) ++ [(p, w), (w, c)] := by
        show pd (c :: (t ++ [p, w] ++ [c])) = _
        rw [show c :: (t ++ [p, w] ++ [c]) = (c :: t) ++ p :: [w, c] by simp, pd_cat]
        rfl
      have e2 : cd (c :: t ++ [p]) = pd (c :: t ++ [p]) ++ [(p, c)] := by
        show pd (c :: (t ++ [p] ++ [c])) = _
        rw [show c :: (t ++ [p] ++ [c]) = (c :: t) ++ p :: [c] by simp, pd_cat]
        rfl
      rw [e1, List.mem_append] at h
      rw [e2]
      rcases h with h | h
      · refine Or.inr (Or.inr ⟨fun ex => ?_, List.mem_append_left _ h⟩)
        have : p ∈ (pd (c :: t ++ [p])).map Prod.fst := List.mem_map.mpr ⟨_, h, ex⟩
        rw [pd_fst] at this
        rw [List.nodup_append] at hnu
        exact hnu.2.2 p this p (by simp) rfl
      · simp only [List.mem_cons, List.not_mem_nil, or_false, Prod.mk.injEq] at h
        rcases h with h | h
        · exact Or.inl h
        · exact Or.inr (Or.inl ⟨h.1, by rw [h.2]; simp⟩)
theorem sp_sym (h : SP rs rs' rest R R1 R2 A B a b ws) : SP rs rs' rest R R2 R1 B A b a ws.reverse := by
  obtain ⟨h1, h2, h3, h4, h5, h6, h7, h8⟩ := h
  refine ⟨h1, h2.trans (List.Perm.swap R2 R1 rest), h3.trans List.perm_append_comm, h5, by rw [List.reverse_reverse]; exact h4, h7, h6, ?_⟩
  refine List.Perm.nodup_iff ?_ |>.mp h8
  rw [show a :: (A ++ b :: B) = (a :: A) ++ (b :: B) by simp, show b :: (B ++ a :: A) = (b :: B) ++ (a :: A) by simp]
  exact List.perm_append_comm
theorem pd_last : ∀ (x : Nat) (m : List Nat) (v : Nat), ∃ p, (p, v) ∈ pd (x :: (m ++ [v]))
  | x, [], v => ⟨x, by simp [pd]⟩
  | x, y :: m, v => by
    obtain ⟨p, hp⟩ := pd_last y m v
    exact ⟨p, by rw [List.cons_append, pd]; exact List.mem_cons_of_mem _ hp⟩
theorem pd_src {x v : Nat} {m : List Nat} {u z : Nat} (h : (u, z) ∈ pd (x :: (m ++ [v]))) : u ∈ x :: m := by
  have : u ∈ (pd ((x :: m) ++ [v])).map Prod.fst := List.mem_map.mpr ⟨_, h, rfl⟩
  rwa [pd_fst] at this
theorem pd_tgt {x : Nat} {m : List Nat} {u z : Nat} (h : (u, z) ∈ pd (x :: m)) : z ∈ m := by
  have : z ∈ (pd (x :: m)).map Prod.snd := List.mem_map.mpr ⟨_, h, rfl⟩
  rwa [pd_snd] at this
/-- around the end of the way that is laid -/
theorem ri_end {dl' : gE} {w : Nat} {ro : List Nat} (hD : DI bes rs dl) (h : SP rs rs' rest R R1 R2 A B a b ws) (hadj : ∀ x, adj dl' a x = true ↔ adj dl a x = true ∨ x = w) (hw : adj dl a w = false) (hw1 : (w, a) ∈ pd (b :: (ws ++ [a]))) (hro : RotR rs dl a ro) : ∃ ro', RotR rs' dl' a ro' := by
  obtain ⟨d1, d2, d3, d4, d5, d6⟩ := hD
  obtain ⟨hR, hR1, hR2⟩ := sp_R h
  obtain ⟨s1, s2, s3, s4, s5, s6, s7, s8⟩ := id h
  obtain ⟨r1, r2, r3⟩ := hro
  obtain ⟨p, hp⟩ := pd_last b B a
  have hw2 : (a, w) ∈ pd (a :: (ws.reverse ++ [b])) := by rw [rev_pth]; exact pd_rev.mpr hw1
  have hpR : (p, a) ∈ cd R := s3.mem_iff.mpr (List.mem_append_right _ hp)
  have hpro : p ∈ ro := (r2 p).mpr (by rw [adj_sym]; exact (d5 p a).mp (List.mem_flatMap.mpr ⟨R, hR, hpR⟩))
  have hwro : w ∉ ro := fun z => by rw [(r2 w).mp z] at hw; cases hw
  have hRn := d3 R hR
  have haB : a ∉ b :: B := by
    have := (List.nodup_cons.mp s8).1
    intro z
    exact this (List.mem_append_right _ z)
  obtain ⟨ro', n1, n2, n3⟩ := rot_ins r1 hpro hwro
  refine ⟨ro', n1, fun x => by rw [n2, r2, hadj], fun x z hxz => ?_⟩
  rcases n3 x z hxz with ⟨e1, e2⟩ | ⟨e1, e2⟩ | ⟨e1, e2⟩
  · rw [e1, e2]
    exact ⟨R2, hR2, s5.mem_iff.mpr (List.mem_append_left _ hp), s5.mem_iff.mpr (List.mem_append_right _ hw2)⟩
  · obtain ⟨r, hr, q1, q2⟩ := r3 p z e2
    have hrR : r = R := fm_inj d4 hr hR q1 hpR
    rw [hrR, s3.mem_iff, List.mem_append] at q2
    have hz : (a, z) ∈ pd (a :: (A ++ [b])) := q2.resolve_right fun q => haB (pd_src q)
    rw [e1]
    exact ⟨R1, hR1, s4.mem_iff.mpr (List.mem_append_right _ hw1), s4.mem_iff.mpr (List.mem_append_left _ hz)⟩
  · obtain ⟨r, hr, q1, q2⟩ := r3 x z e2
    rcases sp_old h hr with e | e
    · rw [e] at q1
      exact absurd (cd_inj hRn q1 hpR) e1
    · exact ⟨r, e.2, q1, q2⟩
theorem ri_step {V : Nat} (hO : okE V bes) (hD : DI bes rs dl) (hW : WY bes dl a b ws) (h : SP rs rs' rest R R1 R2 A B a b ws) (hR : RI rs dl) : RI rs' (dl ++ wyE (b :: (ws ++ [a]))) := by
  obtain ⟨d1, d2, d3, d4, d5, d6⟩ := id hD
  obtain ⟨w1, w2, w3, w4, w5, w6⟩ := id hW
  obtain ⟨s1, s2, s3, s4, s5, s6, s7, s8⟩ := id h
  obtain ⟨hRm, hR1, hR2⟩ := sp_R h
  have hdis : ∀ x y, adj dl x y = true → adj (wyE (b :: (ws ++ [a]))) x y = true → False := fun x y h1 h2 => by
    have q1 := adj_te (V := V) ⟨fun p hp => hO.1 p (d1 p hp), d2⟩ h1
    have q2 := adj_te (V := V) ⟨fun p hp => hO.1 p (w6 p hp).1, wyE_nd w2⟩ h2
    exact (w6 _ q2).2 q1
  have hab' : b ∉ ws ++ [a] := (List.nodup_cons.mp w2).1
  have hna : a ∉ b :: ws := by
    have := (List.nodup_append (l₁ := b :: ws) (l₂ := [a])).mp (by simpa using w2)
    exact fun z => this.2.2 a z a (by simp) rfl
  intro y hy
  by_cases hya : y = a
  · subst hya
    obtain ⟨ro, hro⟩ := hR y w4
    obtain ⟨w, hw⟩ := pd_last b ws y
    have hadw : adj (wyE (b :: (ws ++ [y]))) y w = true := wyE_adj.mpr (Or.inr hw)
    refine ri_end (w := w) hD h (fun x => ?_) ?_ hw hro
    · rw [adj_app, Bool.or_eq_true, wyE_adj]
      refine or_congr Iff.rfl ⟨fun z => ?_, fun z => Or.inr (z ▸ hw)⟩
      rcases z with z | z
      · exact absurd (pd_src z) hna
      · exact pd_inj w2 z hw
    · cases hh : adj dl y w with
      | false => rfl
      | true => exact (hdis y w hh hadw).elim
  · by_cases hyb : y = b
    · subst hyb
      obtain ⟨ro, hro⟩ := hR y w5
      obtain ⟨w, hw⟩ := pd_last a ws.reverse y
      have hw' : (y, w) ∈ pd (y :: (ws ++ [a])) := by rw [rev_pth] at hw; exact pd_rev.mp hw
      have hadw : adj (wyE (y :: (ws ++ [a]))) y w = true := wyE_adj.mpr (Or.inl hw')
      refine ri_end (w := w) hD (sp_sym h) (fun x => ?_) ?_ hw hro
      · rw [adj_app, Bool.or_eq_true, wyE_adj]
        refine or_congr Iff.rfl ⟨fun z => ?_, fun z => Or.inl (z ▸ hw')⟩
        rcases z with z | z
        · exact pd_fun w2 z hw'
        · exact absurd (pd_tgt z) hab'
      · cases hh : adj dl y w with
        | false => rfl
        | true => exact (hdis y w hh hadw).elim
    · rw [wy_lv hW, Bool.or_eq_true] at hy
      by_cases hyw : y ∈ ws
      · -- a new vertex has two neighbours
        obtain ⟨l, m, e⟩ := List.append_of_mem hyw
        have hpl : ∃ u, (u, y) ∈ pd (b :: (ws ++ [a])) := by
          obtain ⟨u, hu⟩ := pd_last b l y
          refine ⟨u, ?_⟩
          rw [e, show b :: (l ++ y :: m ++ [a]) = (b :: l) ++ y :: (m ++ [a]) by simp, pd_cat]
          exact List.mem_append_left _ hu
        have hpr : ∃ v, (y, v) ∈ pd (b :: (ws ++ [a])) := by
          rw [e, show b :: (l ++ y :: m ++ [a]) = (b :: l) ++ y :: (m ++ [a]) by simp, pd_cat]
          cases m with
          | nil => exact ⟨a, List.mem_append_right _ (by simp [pd])⟩
          | cons c m => exact ⟨c, List.mem_append_right _ (by simp [pd])⟩
        obtain ⟨u, hu⟩ := hpl
        obtain ⟨v, hv⟩ := hpr
        have huv : u ≠ v := fun e => pd_asym w2 hu (e ▸ hv)
        have hun : ∀ x, adj dl y x = false := fun x => by
          cases hh : adj dl y x with
          | false => rfl
          | true =>
            have := (w3 y hyw).2
            rw [lvO_adj.mpr ⟨x, hh⟩] at this
            cases this
        refine ⟨[u, v], by simp [huv], fun x => ?_, fun x z hxz => ?_⟩
        · rw [adj_app, hun x, Bool.false_or, wyE_adj]
          simp only [List.mem_cons, List.not_mem_nil, or_false]
          constructor
          · rintro (e | e)
            · rw [e]; exact Or.inr hu
            · rw [e]; exact Or.inl hv
          · rintro (e | e)
            · exact Or.inr (pd_fun w2 e hv)
            · exact Or.inl (pd_inj w2 e hu)
        · have hxz' : (x, z) ∈ [(u, v), (v, u)] := hxz
          simp only [List.mem_cons, List.not_mem_nil, or_false, Prod.mk.injEq] at hxz'
          rcases hxz' with e | e
          · rw [e.1, e.2]
            exact ⟨R1, hR1, s4.mem_iff.mpr (List.mem_append_right _ hu), s4.mem_iff.mpr (List.mem_append_right _ hv)⟩
          · rw [e.1, e.2]
            refine ⟨R2, hR2, s5.mem_iff.mpr (List.mem_append_right _ ?_), s5.mem_iff.mpr (List.mem_append_right _ ?_)⟩
            · rw [rev_pth]; exact pd_rev.mpr hv
            · rw [rev_pth]; exact pd_rev.mpr hu
      · have hyl : lvO dl y = true := hy.resolve_right fun z => hyw (by simpa using z)
        obtain ⟨ro, r1, r2, r3⟩ := hR y hyl
        have hnp : ∀ x, ¬ ((y, x) ∈ pd (b :: (ws ++ [a])) ∨ (x, y) ∈ pd (b :: (ws ++ [a]))) := fun x z => by
          have : y ∈ b :: (ws ++ [a]) := by
            rcases z with z | z
            · exact (pd_in z).1
            · exact (pd_in z).2
          simp only [List.mem_cons, List.mem_append, List.not_mem_nil, or_false] at this
          rcases this with e | e | e
          · exact hyb e
          · exact hyw e
          · exact hya e
        refine ⟨ro, r1, fun x => ?_, fun x z hxz => ?_⟩
        · rw [r2, adj_app, Bool.or_eq_true, wyE_adj]
          exact ⟨Or.inl, fun q => q.resolve_right (hnp x)⟩
        · obtain ⟨r, hr, q1, q2⟩ := r3 x z hxz
          rcases sp_old h hr with e | e
          · rw [e, s3.mem_iff, List.mem_append] at q1 q2
            have hnd := (List.nodup_append (l₁ := a :: A) (l₂ := b :: B)).mp (by simpa using s8)
            rcases q1 with q1 | q1
            · have hyA : y ∈ a :: A := by
                have := pd_tgt q1
                rw [List.mem_append, List.mem_singleton] at this
                exact List.mem_cons_of_mem _ (this.resolve_right hyb)
              have q3 := q2.resolve_right fun q => hnd.2.2 y hyA y (pd_src q) rfl
              exact ⟨R1, hR1, s4.mem_iff.mpr (List.mem_append_left _ q1), s4.mem_iff.mpr (List.mem_append_left _ q3)⟩
            · have hyB : y ∈ b :: B := by
                have := pd_tgt q1
                rw [List.mem_append, List.mem_singleton] at this
                exact List.mem_cons_of_mem _ (this.resolve_right hya)
              have q3 := q2.resolve_left fun q => hnd.2.2 y (pd_src q) y hyB rfl
              exact ⟨R2, hR2, s5.mem_iff.mpr (List.mem_append_left _ q1), s5.mem_iff.mpr (List.mem_append_left _ q3)⟩
          · exact ⟨r, e.2, q1, q2⟩
end DMP
