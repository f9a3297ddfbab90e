/-! ===== what the flat machine says, the small machine says ===== -/
theorem fl_fl_get (g : Int64) (Wi : Nat → Int32) : ∀ (l : List Nat) (k j : Nat), (fl_fl g Wi k l)[j]? = l[j]?.map (fun q => match q with
    | 0 => Value.int (Wi (k + j))
    | 1 => .long g
    | a + 2 => .ref a)
  | [], k, j => by simp [fl_fl]
  | q :: l, k, 0 => by
    match q with
    | 0 => simp [fl_fl]
    | 1 => simp [fl_fl]
    | a + 2 => simp [fl_fl]
  | q :: l, k, j + 1 => by
    have := fl_fl_get g Wi l (k + 1) j
    simp only [fl_fl, List.getElem?_cons_succ, this]
    congr 1
    funext q
    match q with
    | 0 => show Value.int (Wi (k + 1 + j)) = Value.int (Wi (k + (j + 1))); rw [show k + 1 + j = k + (j + 1) by omega]
    | 1 => rfl
    | a + 2 => rfl
theorem fl_fl_len (g : Int64) (Wi : Nat → Int32) : ∀ (l : List Nat) (k : Nat), (fl_fl g Wi k l).length = l.length
  | [], k => rfl
  | q :: l, k => by simp only [fl_fl, List.length_cons, fl_fl_len g Wi l (k + 1)]
theorem fl_fl_set (g : Int64) (Wi : Nat → Int32) (l : List Nat) (j : Nat) (x : Int32) (h : l[j]? = some 0) : (fl_fl g Wi 0 l).set j (.int x) = fl_fl g (upd Wi j x) 0 l := by
  apply List.ext_getElem?
  intro i
  have hj : j < l.length := (List.getElem?_eq_some_iff.mp h).1
  rw [List.getElem?_set, fl_fl_get, fl_fl_get, fl_fl_len]
  by_cases hij : j = i
  · subst hij
    rw [if_pos rfl, if_pos hj, h]
    simp [upd]
  · rw [if_neg hij]
    cases l[i]? with
    | none => rfl
    | some q =>
      match q with
      | 0 => simp [upd, Ne.symm hij]
      | 1 => rfl
      | a + 2 => rfl
theorem fl_up_o {g : Int64} {W : fl_W} {o c k : Nat} {l : List Nat} {x : Int32} (h : fl_sh o = (0, c, l)) (hk : l[k]? = some 0) : mi_up (fl_mk g W) o (.inr (c, (fl_fl g (W o) 0 l).set k (.int x))) = fl_mk g (fl_uw W o k x) := by
  unfold mi_up fl_mk
  congr 1
  funext j
  by_cases hj : j = o
  · subst hj
    simp only [if_true, fl_cell, h, fl_uw]
    rw [fl_fl_set g (W j) l k x hk]
  · simp only [hj, if_false, fl_cell, fl_uw]
theorem fl_up_a {g : Int64} {W : fl_W} {a t j : Nat} {l : List Nat} {x : Int32} (h : fl_sh a = (1, t, l)) : mi_up (fl_mk g W) a (.inl (t, l.headD 0, .inl (upd (W a) j x))) = fl_mk g (fl_uw W a j x) := by
  unfold mi_up fl_mk
  congr 1
  funext i
  by_cases hi : i = a
  · subst hi
    simp only [if_true, fl_cell, h, fl_uw]
  · simp only [hi, if_false, fl_cell, fl_uw]
theorem fl_cell_o {g : Int64} {W : fl_W} {o c : Nat} {l : List Nat} (h : fl_sh o = (0, c, l)) : (fl_mk g W).2 o = .inr (c, fl_fl g (W o) 0 l) := by
  show fl_cell g W o = _
  simp only [fl_cell, h]
theorem fl_cell_a {g : Int64} {W : fl_W} {a t : Nat} {l : List Nat} (h : fl_sh a = (1, t, l)) : (fl_mk g W).2 a = .inl (t, l.headD 0, .inl (W a)) := by
  show fl_cell g W a = _
  simp only [fl_cell, h]
theorem fl_cell_r {g : Int64} {W : fl_W} {a n : Nat} {l : List Nat} (h : fl_sh a = (2, n, l)) : (fl_mk g W).2 a = .inl (2, n, .inr (.inr (.inr (.inr fun j => if j < n then some (l.headD 0 + 2 * j) else none)))) := by
  show fl_cell g W a = _
  simp only [fl_cell, h]
theorem fl_gI_s {o ci k : Nat} (h : fl_gI o ci k) : ∃ l, fl_sh o = (0, ci, l) ∧ l[k]? = some 0 := by
  simp only [fl_gI, fl_gIb, Bool.and_eq_true, beq_iff_eq] at h
  obtain ⟨h1, h2, h3⟩ := h
  refine ⟨(fl_sh o).2.2, ?_, h3⟩
  rw [← h1, ← h2]
theorem fl_is_s {a ci : Nat} (h : fl_is a ci) : ∃ l, fl_sh a = (0, ci, l) := by
  simp only [fl_is, fl_isb, Bool.and_eq_true, beq_iff_eq] at h
  obtain ⟨h1, h2⟩ := h
  refine ⟨(fl_sh a).2.2, ?_⟩
  rw [← h1, ← h2]
theorem fl_qq_s {rt : Option FieldType} {nx : List Value → fl_W → Prop} {r : Option Value} {W : fl_W} (h : fl_qq rt nx r W) : nx r.toList W := by
  unfold fl_qq at h
  split at h
  · unfold fl_q0 at h
    split at h
    · exact h
    · exact h.elim
  · unfold fl_q1 at h
    split at h
    · exact h
    · exact h.elim
section FLX
variable {g : Int64} {C : fl_C} {C' : mi_C} {rt : Option FieldType} {Q : fl_R} {Q' : mi_R}
set_option maxHeartbeats 4000000 in
set_option maxRecDepth 100000 in
theorem fl_xS (hC : ∀ k av W Q, C k av W Q → C' k av (fl_mk g W) (fun r M => ∃ W', M = fl_mk g W' ∧ Q r W')) (hC' : ∀ k av M Q Q', C' k av M Q → (∀ r M, Q r M → Q' r M) → C' k av M Q') (hQ : ∀ r W, Q r W → Q' r (fl_mk g W))
    {mc ms pc : Nat} {i : Instr} {r1 r2 r3 : Nat} {nx : fl_K} {jp : Nat → fl_K} {nx' : mi_K} {jp' : Nat → mi_K} (hnx : ∀ L S W, nx L S W → nx' L S 0 0 (fl_mk g W)) (hjp : ∀ t L S W, jp t L S W → jp' t L S 0 0 (fl_mk g W))
    {L : mi_L} {S : List Value} {W : fl_W} (h : fl_x C rt Q pc i r1 r2 r3 nx jp L S W) : mi_x C' mc ms rt Q' pc i r1 r2 r3 nx' jp' L S 0 0 (fl_mk g W) := by
  cases i with
  | iconst n => exact hnx _ _ _ h
  | bipush n => exact hnx _ _ _ h
  | sipush n => exact hnx _ _ _ h
  | ldc_w n => exact hnx _ _ _ h
  | iload j =>
    simp only [fl_x, mi_x, mi_ldi] at h ⊢
    split at h
    next x hj => exact hnx _ _ _ h
    next => exact h.elim
  | iload_n j =>
    simp only [fl_x, mi_x, mi_ldi] at h ⊢
    split at h
    next x hj => exact hnx _ _ _ h
    next => exact h.elim
  | aload j =>
    simp only [fl_x, mi_x, mi_ldr] at h ⊢
    split at h
    next x hj => exact hnx _ _ _ h
    next => exact h.elim
  | aload_n j =>
    simp only [fl_x, mi_x, mi_ldr] at h ⊢
    split at h
    next x hj => exact hnx _ _ _ h
    next => exact h.elim
  | istore j =>
    simp only [fl_x] at h
    split at h
    next => exact ⟨h.1, hnx _ _ _ h.2⟩
    next => exact h.elim
  | istore_n j =>
    simp only [fl_x] at h
    split at h
    next => exact ⟨h.1, hnx _ _ _ h.2⟩
    next => exact h.elim
  | astore j =>
    simp only [fl_x] at h
    split at h
    next => exact ⟨h.1, hnx _ _ _ h.2⟩
    next => exact h.elim
  | astore_n j =>
    simp only [fl_x] at h
    split at h
    next => exact ⟨h.1, hnx _ _ _ h.2⟩
    next => exact h.elim
  | iinc j n =>
    simp only [fl_x, mi_x, mi_ldi] at h ⊢
    split at h
    next x hj => exact hnx _ _ _ h
    next => exact h.elim
  | dup =>
    simp only [fl_x] at h
    split at h
    next => exact ⟨h.1, hnx _ _ _ h.2⟩
    next => exact h.elim
  | dup2 =>
    simp only [fl_x] at h
    split at h
    next => exact ⟨h.1, h.2.1, hnx _ _ _ h.2.2⟩
    next => exact h.elim
  | pop =>
    simp only [fl_x] at h
    split at h
    next => exact ⟨h.1, hnx _ _ _ h.2⟩
    next => exact h.elim
  | iadd =>
    simp only [fl_x] at h
    split at h
    next => exact hnx _ _ _ h
    next => exact h.elim
  | isub =>
    simp only [fl_x] at h
    split at h
    next => exact hnx _ _ _ h
    next => exact h.elim
  | imul =>
    simp only [fl_x] at h
    split at h
    next => exact hnx _ _ _ h
    next => exact h.elim
  | idiv =>
    simp only [fl_x] at h
    split at h
    next => exact ⟨h.1, hnx _ _ _ h.2⟩
    next => exact h.elim
  | irem =>
    simp only [fl_x] at h
    split at h
    next => exact ⟨h.1, hnx _ _ _ h.2⟩
    next => exact h.elim
  | ineg =>
    simp only [fl_x] at h
    split at h
    next => exact hnx _ _ _ h
    next => exact h.elim
  | iand =>
    simp only [fl_x] at h
    split at h
    next => exact hnx _ _ _ h
    next => exact h.elim
  | ior =>
    simp only [fl_x] at h
    split at h
    next => exact hnx _ _ _ h
    next => exact h.elim
  | ixor =>
    simp only [fl_x] at h
    split at h
    next => exact hnx _ _ _ h
    next => exact h.elim
  | ishl =>
    simp only [fl_x] at h
    split at h
    next => exact hnx _ _ _ h
    next => exact h.elim
  | ishr =>
    simp only [fl_x] at h
    split at h
    next => exact hnx _ _ _ h
    next => exact h.elim
  | iushr =>
    simp only [fl_x] at h
    split at h
    next => exact hnx _ _ _ h
    next => exact h.elim
  | goto o => exact hjp _ _ _ _ h
  | ifCond cd o =>
    simp only [fl_x] at h
    split at h
    next =>
      cases cd with
      | eq => exact ⟨fun q => hjp _ _ _ _ (h.1 q), fun q => hnx _ _ _ (h.2 q)⟩
      | ne => exact ⟨fun q => hnx _ _ _ (h.1 q), fun q => hjp _ _ _ _ (h.2 q)⟩
      | lt => exact ⟨fun q => hjp _ _ _ _ (h.1 q), fun q => hnx _ _ _ (h.2 q)⟩
      | ge => exact ⟨fun q => hnx _ _ _ (h.1 q), fun q => hjp _ _ _ _ (h.2 q)⟩
      | gt => exact ⟨fun q => hnx _ _ _ (h.1 q), fun q => hjp _ _ _ _ (h.2 q)⟩
      | le => exact ⟨fun q => hjp _ _ _ _ (h.1 q), fun q => hnx _ _ _ (h.2 q)⟩
    next => exact h.elim
  | if_icmp cd o =>
    simp only [fl_x] at h
    split at h
    next =>
      cases cd with
      | eq => exact ⟨fun q => hjp _ _ _ _ (h.1 q), fun q => hnx _ _ _ (h.2 q)⟩
      | ne => exact ⟨fun q => hnx _ _ _ (h.1 q), fun q => hjp _ _ _ _ (h.2 q)⟩
      | lt => exact ⟨fun q => hjp _ _ _ _ (h.1 q), fun q => hnx _ _ _ (h.2 q)⟩
      | ge => exact ⟨fun q => hnx _ _ _ (h.1 q), fun q => hjp _ _ _ _ (h.2 q)⟩
      | gt => exact ⟨fun q => hnx _ _ _ (h.1 q), fun q => hjp _ _ _ _ (h.2 q)⟩
      | le => exact ⟨fun q => hjp _ _ _ _ (h.1 q), fun q => hnx _ _ _ (h.2 q)⟩
    next => exact h.elim
  | tableswitch d lo hi os =>
    simp only [fl_x] at h
    split at h
    next x S' =>
      refine ⟨fun q => ⟨(h.1 q).1, hjp _ _ _ _ (h.1 q).2⟩, fun q => ?_⟩
      have h3 := h.2 q
      split at h3
      next o ho =>
        simp only [ho]
        exact ⟨h3.1, hjp _ _ _ _ h3.2⟩
      next => exact h3.elim
    next => exact h.elim
  | getfield ix =>
    simp only [fl_x] at h
    split at h
    next o S' =>
      split at h
      next =>
        obtain ⟨h1, h⟩ := h
        obtain ⟨l, hs, hk⟩ := fl_gI_s h1
        simp only [mi_x, mi_obj, fl_cell_o hs]
        refine ⟨trivial, ?_⟩
        rw [fl_fl_get, hk]
        simp only [Option.map_some, Nat.zero_add]
        exact hnx _ _ _ h
      next =>
        simp only [fl_gR] at h
        split at h
        next c l hs =>
          obtain ⟨rfl, h⟩ := h
          split at h
          next q hk =>
            simp only [mi_x, mi_obj, fl_cell_o hs]
            refine ⟨trivial, ?_⟩
            rw [fl_fl_get, hk]
            exact hnx _ _ _ h
          next => exact h.elim
        next => exact h.elim
    next => exact h.elim
  | putfield ix =>
    simp only [fl_x] at h
    split at h
    next x o S' =>
      obtain ⟨h1, h2, h⟩ := h
      obtain ⟨l, hs, hk⟩ := fl_gI_s h1
      simp only [mi_x, mi_obj, fl_cell_o hs]
      refine ⟨h2, trivial, ?_, ?_⟩
      · rw [fl_fl_len]; exact (List.getElem?_eq_some_iff.mp hk).1
      · rw [fl_up_o hs hk]
        exact hnx _ _ _ h
    next => exact h.elim
  | iaload =>
    simp only [fl_x, fl_aI] at h
    split at h
    next j a S' =>
      split at h
      next t l hs =>
        obtain ⟨rfl, h1, h⟩ := h
        simp only [mi_x, mi_ints, fl_cell_a hs]
        exact ⟨trivial, h1, hnx _ _ _ h⟩
      next => exact h.elim
    next => exact h.elim
  | baload =>
    simp only [fl_x, fl_aI] at h
    split at h
    next j a S' =>
      split at h
      next t l hs =>
        obtain ⟨rfl, h1, h⟩ := h
        simp only [mi_x, mi_ints, fl_cell_a hs]
        exact ⟨trivial, h1, hnx _ _ _ h⟩
      next => exact h.elim
    next => exact h.elim
  | aaload =>
    simp only [fl_x, fl_aR] at h
    split at h
    next j a S' =>
      split at h
      next n b hs =>
        obtain ⟨h1, h⟩ := h
        have hlt : j.toNatClampNeg < n := Nat.not_le.mp fun q => h1 (Or.inr q)
        simp only [mi_x, mi_refs, fl_cell_r hs, hlt, if_true]
        exact ⟨trivial, h1, hnx _ _ _ h⟩
      next => exact h.elim
    next => exact h.elim
  | iastore =>
    simp only [fl_x, fl_aI] at h
    split at h
    next x j a S' =>
      split at h
      next t l hs =>
        obtain ⟨rfl, h1, h⟩ := h
        simp only [mi_x, mi_ints, fl_cell_a hs]
        refine ⟨trivial, h1, ?_⟩
        rw [fl_up_a hs]
        exact hnx _ _ _ h
      next => exact h.elim
    next => exact h.elim
  | bastore =>
    simp only [fl_x, fl_aI] at h
    split at h
    next x j a S' =>
      obtain ⟨h01, h⟩ := h
      split at h
      next t l hs =>
        obtain ⟨rfl, h1, h⟩ := h
        simp only [mi_x, mi_ints, fl_cell_a hs]
        refine ⟨h01, trivial, h1, ?_⟩
        rw [fl_up_a hs]
        exact hnx _ _ _ h
      next => exact h.elim
    next => exact h.elim
  | arraylength =>
    simp only [fl_x, fl_aI] at h
    split at h
    next a S' =>
      split at h
      next t l hs =>
        obtain ⟨rfl, h⟩ := h
        simp only [mi_x, mi_len, fl_cell_a hs]
        exact ⟨Or.inl trivial, hnx _ _ _ h⟩
      next => exact h.elim
    next => exact h.elim
  | invokevirtual ix =>
    obtain ⟨h1, h2, h3, h4, h5⟩ : r2 ≤ S.length ∧ mi_w8 (S.drop r2) = true ∧ mi_c1 (S.take r2) = true ∧ fl_rc (S.take r2).reverse r3 ∧ C r1 (S.take r2).reverse W (fl_qq (mi_rt r1) fun vs W => nx L (vs ++ S.drop r2) W) := h
    refine ⟨h1, h2, h3, ?_, hC' _ _ _ _ _ (hC _ _ _ _ h5) (fun r M hq => ?_)⟩
    · unfold fl_rc at h4
      split at h4
      next a As hav =>
        obtain ⟨l, hl⟩ := fl_is_s h4
        simp only [hav, mi_obj, fl_cell_o hl]
        exact ⟨trivial, trivial⟩
      next => exact h4.elim
    · obtain ⟨W', rfl, hq⟩ := hq
      exact hnx _ _ _ (fl_qq_s hq)
  | invokestatic ix =>
    simp only [fl_x] at h
    split at h
    next =>
      split at h
      next => exact ⟨h.1, hnx _ _ _ h.2⟩
      next => exact h.elim
    next =>
      split at h
      next => exact ⟨h.1, hnx _ _ _ h.2⟩
      next => exact h.elim
    next n1 n2 =>
      obtain ⟨h1, h2, h3, h5⟩ := h
      simp only [mi_x]
      rw [if_neg (fun z => n1 z), if_neg (fun z => n2 z)]
      refine ⟨h1, h2, h3, hC' _ _ _ _ _ (hC _ _ _ _ h5) (fun r M hq => ?_)⟩
      obtain ⟨W', rfl, hq⟩ := hq
      exact hnx _ _ _ (fl_qq_s hq)
  | ireturn =>
    simp only [fl_x] at h
    split at h
    next => exact ⟨h.1, Nat.zero_le _, Nat.zero_le _, hQ _ _ h.2⟩
    next => exact h.elim
  | return_ =>
    simp only [fl_x] at h
    split at h
    next => exact ⟨h.1, Nat.zero_le _, Nat.zero_le _, hQ _ _ h.2⟩
    next => exact h.elim
  | _ => exact (show False from h).elim
theorem fl_goS (hC : ∀ k av W Q, C k av W Q → C' k av (fl_mk g W) (fun r M => ∃ W', M = fl_mk g W' ∧ Q r W')) (hC' : ∀ k av M Q Q', C' k av M Q → (∀ r M, Q r M → Q' r M) → C' k av M Q') (hQ : ∀ r W, Q r W → Q' r (fl_mk g W)) {k : Nat} {cuts : List Nat} {P : Nat → fl_K} {P' : Nat → mi_K} (hP : ∀ pc L S W, P pc L S W → P' pc L S 0 0 (fl_mk g W)) :
    ∀ (n : Nat) (tl : List mi_I) L S W, fl_go (fl_X C k Q) cuts (mi_tab k) P n tl L S W → mi_go (mi_X C' k Q') cuts (mi_tab k) P' n tl L S 0 0 (fl_mk g W) := by
  intro n
  induction n with
  | zero => intro tl L S W h; exact (show False from h).elim
  | succ n ih =>
    intro tl L S W h
    cases tl with
    | nil => exact (show False from h).elim
    | cons e tl =>
      have h' : fl_x C (mi_rt k) Q e.1 e.2.1 e.2.2.2.1 e.2.2.2.2.1 e.2.2.2.2.2 (fl_nxt cuts P (fl_go (fl_X C k Q) cuts (mi_tab k) P n tl) tl) (fun t => fl_jmp cuts P (fl_go (fl_X C k Q) cuts (mi_tab k) P n (mi_from (mi_tab k) t)) t) L S W := h
      show mi_x C' (mi_mc k) (mi_sl k) (mi_rt k) Q' e.1 e.2.1 e.2.2.2.1 e.2.2.2.2.1 e.2.2.2.2.2 (mi_nxt cuts P' (mi_go (mi_X C' k Q') cuts (mi_tab k) P' n tl) tl) (fun t => mi_jmp cuts P' (mi_go (mi_X C' k Q') cuts (mi_tab k) P' n (mi_from (mi_tab k) t)) t) L S 0 0 (fl_mk g W)
      refine fl_xS hC hC' hQ ?_ ?_ h'
      · intro L S W hn
        cases tl with
        | nil => exact (show False from hn).elim
        | cons e2 t =>
          by_cases hc : e2.1 ∈ cuts
          · simp only [fl_nxt, mi_nxt, hc, if_true] at hn ⊢
            exact hP _ _ _ _ hn
          · simp only [fl_nxt, mi_nxt, hc, if_false] at hn ⊢
            exact ih _ _ _ _ hn
      · intro t L S W hj
        by_cases hc : t ∈ cuts
        · simp only [fl_jmp, mi_jmp, hc, if_true] at hj ⊢
          exact hP _ _ _ _ hj
        · simp only [fl_jmp, mi_jmp, hc, if_false] at hj ⊢
          exact ih _ _ _ _ hj
end FLX
theorem fl_calS (g : Int64) : ∀ (d k : Nat) (av : List Value) (W : fl_W) (Q : fl_R), fl_cal d k av W Q → mi_cal d k av (fl_mk g W) (fun r M => ∃ W', M = fl_mk g W' ∧ Q r W') := by
  intro d
  induction d with
  | zero => intro k av W Q h; exact (show False from h).elim
  | succ d ih =>
    intro k av W Q h
    obtain ⟨cuts, Q0, hq, h⟩ := h
    refine ⟨cuts, fun r M => ∃ W', M = fl_mk g W' ∧ Q0 r W', fun r M ⟨W', e, z⟩ => ⟨W', e, hq r W' z⟩, ?_⟩
    refine h (fun pc L S W => mi_WP (mi_cal d) k cuts (fun r M => ∃ W', M = fl_mk g W' ∧ Q0 r W') pc L S 0 0 (fl_mk g W)) fun P' hP' pc L S W hF => ?_
    exact mi_fold (fl_goS ih (fun k av M Q Q' h1 h2 => mi_cal_cons h1 h2) (fun r W z => ⟨W, rfl, z⟩) hP' 400 _ L S W hF)
