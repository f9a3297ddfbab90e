/-! ===== the machine does what the small machine says ===== -/
section MIW
variable {p : Program} {l : Launch} {e : Env} {R : Room} {s : State} {m : MethodId} {args : Array Value} {below : List Frame} {meth : Method} {c : Code} {D : va_G} {ca : Nat → ClassId} {h0 d k : Nat}
def mi_DC : Prop := ∀ (ci : Nat) (q : vw_C), vwCl[ci]? = some q → ∀ j, j < q.2.2 → (q.2.1 j).1 = q.1
theorem mi_end (cx : mi_Cx p l e R s m args meth c D ca h0 d k) {Q : mi_R} {H : Heap} {locs : List Loc} {M : mi_M} {r : Option Value} (hz : H.size = h0 + M.1) (hP : va_P D vwCl (mi_ws h0 ca M) H) (hS : va_S (fun q => h0 ≤ q) s.heap H locs) (ho : mi_ok M) (hq : Q r M) : ∀ t : State, t.heap = H → s.WarmedH t.vm → mi_Qc h0 D ca Q args s (.returned (r.map (mi_cv h0))) t := by
  obtain ⟨hx, hb, hr, hml, hown, hts, hlk, hini, hK, hN, hh, hR⟩ := cx
  exact fun t ht hW => ⟨⟨r, M, rfl, hq, mi_Bat hK hN hz hP ho ht hW⟩, hS.F ht⟩
theorem mi_spl {S : List Value} {r : Nat} {v : Value} {As : List Value} (h : (S.take r).reverse = v :: As) : S = As.reverse ++ v :: S.drop r := by
  have h1 : S.take r = As.reverse ++ [v] := by
    have := congrArg List.reverse h
    simpa using this
  calc S = S.take r ++ S.drop r := (List.take_append_drop r S).symm
    _ = As.reverse ++ v :: S.drop r := by rw [h1]; simp
set_option maxHeartbeats 4000000 in
set_option maxRecDepth 100000 in
theorem mi_xS (cx : mi_Cx p l e R s m args meth c D ca h0 d k) (cf : mi_CF) (dc : mi_DC) (mf : ∀ k', k' < mi_nM → mi_MF k') {C : mi_C} (hC : ∀ k' av M Q, k' < mi_nM → av.length = mi_na k' → mi_c1 av = true → C k' av M Q → mi_Met l d k' av M Q) {Q Q0 : mi_R} (hQQ : ∀ r M, Q0 r M → Q r M) {pc : Nat} {i : Instr} {len r1 r2 r3 : Nat} (he : mi_st k (pc, i, len, r1, r2, r3)) (hd : decode (mi_code k) pc = .ok (i, len))
    {nx : mi_K} {jp : Nat → mi_K} (hnx : ∀ L S kc ks M, nx L S kc ks M → mi_Sd p l e R s m args below meth c D ca h0 (mi_maxL k) (mi_mc k) (mi_sl k) (mi_Qc h0 D ca Q) (pc + len) L S kc ks M) (hjp : ∀ t L S kc ks M, jp t L S kc ks M → mi_Sd p l e R s m args below meth c D ca h0 (mi_maxL k) (mi_mc k) (mi_sl k) (mi_Qc h0 D ca Q) t L S kc ks M)
    {L : mi_L} {S : List Value} {kc ks : Nat} {M : mi_M} (h : mi_x C (mi_mc k) (mi_sl k) (mi_rt k) Q0 pc i r1 r2 r3 nx jp L S kc ks M) : mi_Sd p l e R s m args below meth c D ca h0 (mi_maxL k) (mi_mc k) (mi_sl k) (mi_Qc h0 D ca Q) pc L S kc ks M := by
  have cx' := cx
  obtain ⟨hx, hb, hr, hml, hown, hts, hlk, hini, hK, hN, hh, hR⟩ := cx
  intro H locs ls hz hP hS hl ho hkc hks
  cases i with
  | iconst n =>
    obtain rfl : len = 1 := he.1
    exact lv_iconst hx hb hd rfl (hnx _ _ _ _ _ h H locs ls hz hP hS hl ho hkc hks)
  | bipush n =>
    obtain rfl : len = 2 := he.1
    exact lv_bipush hx hb hd rfl (hnx _ _ _ _ _ h H locs ls hz hP hS hl ho hkc hks)
  | sipush n =>
    obtain rfl : len = 3 := he.1
    exact lv_sipush hx hb hd rfl (hnx _ _ _ _ _ h H locs ls hz hP hS hl ho hkc hks)
  | ldc_w ix =>
    obtain rfl : len = 3 := he.1
    exact lv_ldcw hx hb hown (mi_gdw hts he.2) hd (hnx _ _ _ _ _ h H locs ls hz hP hS hl ho hkc hks)
  | ldc2_w ix =>
    obtain rfl : len = 3 := he.1
    exact lv_ldc2 hx hb hown (mi_gdw hts he.2) hd (hnx _ _ _ _ _ h H locs ls hz hP hS hl ho hkc hks)
  | lconst n =>
    obtain rfl : len = 1 := he.1
    exact lv_lconst hx hb hd rfl (hnx _ _ _ _ _ h H locs ls hz hP hS hl ho hkc hks)
  | iload j =>
    obtain rfl : len = 2 := he.1
    simp only [mi_x, mi_ldi] at h
    split at h
    next x hj => exact lv_iload hx hb hd (hl.2.2.2 _ _ hj).1 (hnx _ _ _ _ _ h H locs ls hz hP hS hl ho hkc hks)
    next => exact h.elim
  | iload_n j =>
    obtain rfl : len = 1 := he.1
    simp only [mi_x, mi_ldi] at h
    split at h
    next x hj => exact lv_iload_n hx hb hd rfl (hl.2.2.2 _ _ hj).1 (hnx _ _ _ _ _ h H locs ls hz hP hS hl ho hkc hks)
    next => exact h.elim
  | aload j =>
    obtain rfl : len = 2 := he.1
    simp only [mi_x, mi_ldr] at h
    split at h
    next x hj => exact lv_aload hx hb hd (hl.2.2.2 _ _ hj).1 (hnx _ _ _ _ _ h H locs ls hz hP hS hl ho hkc hks)
    next => exact h.elim
  | aload_n j =>
    obtain rfl : len = 1 := he.1
    simp only [mi_x, mi_ldr] at h
    split at h
    next x hj => exact lv_aload_n hx hb hd rfl (hl.2.2.2 _ _ hj).1 (hnx _ _ _ _ _ h H locs ls hz hP hS hl ho hkc hks)
    next => exact h.elim
  | istore j =>
    obtain rfl : len = 2 := he.1
    simp only [mi_x] at h
    split at h
    next x S' => exact lv_istore hx hb hd hl.lv (by rw [← hl.2.1]; exact h.1) rfl (fun ls' hl' => hnx _ _ _ _ _ h.2 H locs ls' hz hP hS (hl.st (v := .int x) rfl hl') ho hkc hks)
    next => exact h.elim
  | istore_n j =>
    obtain rfl : len = 1 := he.1
    simp only [mi_x] at h
    split at h
    next x S' => exact lv_istore_n hx hb hd rfl hl.lv (by rw [← hl.2.1]; exact h.1) rfl (fun ls' hl' => hnx _ _ _ _ _ h.2 H locs ls' hz hP hS (hl.st (v := .int x) rfl hl') ho hkc hks)
    next => exact h.elim
  | astore j =>
    obtain rfl : len = 2 := he.1
    simp only [mi_x] at h
    split at h
    next x S' => exact lv_astore hx hb hd hl.lv (by rw [← hl.2.1]; exact h.1) rfl (fun ls' hl' => hnx _ _ _ _ _ h.2 H locs ls' hz hP hS (hl.st (v := .ref x) rfl hl') ho hkc hks)
    next => exact h.elim
  | astore_n j =>
    obtain rfl : len = 1 := he.1
    simp only [mi_x] at h
    split at h
    next x S' => exact lv_astore_n hx hb hd rfl hl.lv (by rw [← hl.2.1]; exact h.1) rfl (fun ls' hl' => hnx _ _ _ _ _ h.2 H locs ls' hz hP hS (hl.st (v := .ref x) rfl hl') ho hkc hks)
    next => exact h.elim
  | iinc j n =>
    obtain rfl : len = 3 := he.1
    simp only [mi_x, mi_ldi] at h
    split at h
    next x hj =>
      obtain ⟨q, hq⟩ := List.getElem?_of_mem (mi_al_mem (h0 := h0) (q := (j, .int x)).mpr ⟨.int x, hj, rfl⟩)
      have hlt : j < mi_maxL k := by rw [← hl.2.1]; exact (List.getElem?_eq_some_iff.mp hj).1
      exact lv_iinc (k := q) hx hb hd hl.lv hq rfl hlt rfl (fun ls' hl' => hnx _ _ _ _ _ h H locs ls' hz hP hS (hl.st (v := .int (x + Int32.ofInt n)) rfl hl') ho hkc hks)
    next => exact h.elim
  | dup =>
    obtain rfl : len = 1 := he.1
    simp only [mi_x] at h
    split at h
    next v S' => exact lv_dup hx hb hd (by rw [mi_cat]; exact h.1) (hnx _ _ _ _ _ h.2 H locs ls hz hP hS hl ho hkc hks)
    next => exact h.elim
  | dup2 =>
    obtain rfl : len = 1 := he.1
    simp only [mi_x] at h
    split at h
    next v w S' => exact lv_dup2_11 hx hb hd (by rw [mi_cat]; exact h.1) (by rw [mi_cat]; exact h.2.1) (hnx _ _ _ _ _ h.2.2 H locs ls hz hP hS hl ho hkc hks)
    next => exact h.elim
  | pop =>
    obtain rfl : len = 1 := he.1
    simp only [mi_x] at h
    split at h
    next v S' => exact lv_pop hx hb hd (by rw [mi_cat]; exact h.1) (hnx _ _ _ _ _ h.2 H locs ls hz hP hS hl ho hkc hks)
    next => exact h.elim
  | iadd =>
    obtain rfl : len = 1 := he.1
    simp only [mi_x] at h
    split at h
    · exact lv_iadd hx hb hd (hnx _ _ _ _ _ h H locs ls hz hP hS hl ho hkc hks)
    · exact h.elim
  | isub =>
    obtain rfl : len = 1 := he.1
    simp only [mi_x] at h
    split at h
    · exact lv_isub hx hb hd (hnx _ _ _ _ _ h H locs ls hz hP hS hl ho hkc hks)
    · exact h.elim
  | imul =>
    obtain rfl : len = 1 := he.1
    simp only [mi_x] at h
    split at h
    · exact lv_imul hx hb hd (hnx _ _ _ _ _ h H locs ls hz hP hS hl ho hkc hks)
    · exact h.elim
  | idiv =>
    obtain rfl : len = 1 := he.1
    simp only [mi_x] at h
    split at h
    · exact lv_idiv hx hb hd h.1 (hnx _ _ _ _ _ h.2 H locs ls hz hP hS hl ho hkc hks)
    · exact h.elim
  | irem =>
    obtain rfl : len = 1 := he.1
    simp only [mi_x] at h
    split at h
    · exact lv_irem hx hb hd h.1 (hnx _ _ _ _ _ h.2 H locs ls hz hP hS hl ho hkc hks)
    · exact h.elim
  | ineg =>
    obtain rfl : len = 1 := he.1
    simp only [mi_x] at h
    split at h
    · exact lv_ineg hx hb hd (hnx _ _ _ _ _ h H locs ls hz hP hS hl ho hkc hks)
    · exact h.elim
  | iand =>
    obtain rfl : len = 1 := he.1
    simp only [mi_x] at h
    split at h
    · exact lv_iand hx hb hd (hnx _ _ _ _ _ h H locs ls hz hP hS hl ho hkc hks)
    · exact h.elim
  | ior =>
    obtain rfl : len = 1 := he.1
    simp only [mi_x] at h
    split at h
    · exact lv_ior hx hb hd (hnx _ _ _ _ _ h H locs ls hz hP hS hl ho hkc hks)
    · exact h.elim
  | ixor =>
    obtain rfl : len = 1 := he.1
    simp only [mi_x] at h
    split at h
    · exact lv_ixor hx hb hd (hnx _ _ _ _ _ h H locs ls hz hP hS hl ho hkc hks)
    · exact h.elim
  | ishl =>
    obtain rfl : len = 1 := he.1
    simp only [mi_x] at h
    split at h
    · exact lv_ishl hx hb hd (hnx _ _ _ _ _ h H locs ls hz hP hS hl ho hkc hks)
    · exact h.elim
  | ishr =>
    obtain rfl : len = 1 := he.1
    simp only [mi_x] at h
    split at h
    · exact lv_ishr hx hb hd (hnx _ _ _ _ _ h H locs ls hz hP hS hl ho hkc hks)
    · exact h.elim
  | iushr =>
    obtain rfl : len = 1 := he.1
    simp only [mi_x] at h
    split at h
    · exact lv_iushr hx hb hd rfl (hnx _ _ _ _ _ h H locs ls hz hP hS hl ho hkc hks)
    · exact h.elim
  | land =>
    obtain rfl : len = 1 := he.1
    simp only [mi_x] at h
    split at h
    · exact lv_land hx hb hd (hnx _ _ _ _ _ h H locs ls hz hP hS hl ho hkc hks)
    · exact h.elim
  | lor =>
    obtain rfl : len = 1 := he.1
    simp only [mi_x] at h
    split at h
    · exact lv_lor hx hb hd (hnx _ _ _ _ _ h H locs ls hz hP hS hl ho hkc hks)
    · exact h.elim
  | lxor =>
    obtain rfl : len = 1 := he.1
    simp only [mi_x] at h
    split at h
    · exact lv_lxor hx hb hd (hnx _ _ _ _ _ h H locs ls hz hP hS hl ho hkc hks)
    · exact h.elim
  | lshl =>
    obtain rfl : len = 1 := he.1
    simp only [mi_x] at h
    split at h
    · exact lv_lshl hx hb hd rfl (hnx _ _ _ _ _ h H locs ls hz hP hS hl ho hkc hks)
    · exact h.elim
  | lshr =>
    obtain rfl : len = 1 := he.1
    simp only [mi_x] at h
    split at h
    · exact lv_lshr hx hb hd rfl (hnx _ _ _ _ _ h H locs ls hz hP hS hl ho hkc hks)
    · exact h.elim
  | lcmp =>
    obtain rfl : len = 1 := he.1
    simp only [mi_x] at h
    split at h
    · exact W.lcmp hx hb hd (hnx _ _ _ _ _ h H locs ls hz hP hS hl ho hkc hks)
    · exact h.elim
  | goto o =>
    obtain rfl : len = 3 := he.1
    exact lv_goto hx hb hd he.2 (hjp _ _ _ _ _ _ h H locs ls hz hP hS hl ho hkc hks)
  | ifCond cd o =>
    obtain rfl : len = 3 := he.1
    simp only [mi_x] at h
    split at h
    next x S' =>
      cases cd with
      | eq => exact lv_if_eq hx hb hd he.2 (fun q => hjp _ _ _ _ _ _ (h.1 q) H locs ls hz hP hS hl ho hkc hks) (fun q => hnx _ _ _ _ _ (h.2 q) H locs ls hz hP hS hl ho hkc hks)
      | ne => exact lv_if_ne hx hb hd he.2 (fun q => hjp _ _ _ _ _ _ (h.2 q) H locs ls hz hP hS hl ho hkc hks) (fun q => hnx _ _ _ _ _ (h.1 q) H locs ls hz hP hS hl ho hkc hks)
      | lt => exact lv_if_lt hx hb hd he.2 (fun q => hjp _ _ _ _ _ _ (h.1 q) H locs ls hz hP hS hl ho hkc hks) (fun q => hnx _ _ _ _ _ (h.2 q) H locs ls hz hP hS hl ho hkc hks)
      | ge => exact lv_if_ge hx hb hd he.2 (fun q => hjp _ _ _ _ _ _ (h.2 (Int32.not_lt.mpr q)) H locs ls hz hP hS hl ho hkc hks) (fun q => hnx _ _ _ _ _ (h.1 (Int32.not_le.mp q)) H locs ls hz hP hS hl ho hkc hks)
      | gt => exact lv_if_gt hx hb hd he.2 (fun q => hjp _ _ _ _ _ _ (h.2 (Int32.not_le.mpr q)) H locs ls hz hP hS hl ho hkc hks) (fun q => hnx _ _ _ _ _ (h.1 (Int32.not_lt.mp q)) H locs ls hz hP hS hl ho hkc hks)
      | le => exact lv_if_le hx hb hd he.2 (fun q => hjp _ _ _ _ _ _ (h.1 q) H locs ls hz hP hS hl ho hkc hks) (fun q => hnx _ _ _ _ _ (h.2 q) H locs ls hz hP hS hl ho hkc hks)
    next => exact h.elim
  | if_icmp cd o =>
    obtain rfl : len = 3 := he.1
    simp only [mi_x] at h
    split at h
    next y x S' =>
      cases cd with
      | eq => exact lv_icmp_eq hx hb hd he.2 (fun q => hjp _ _ _ _ _ _ (h.1 q) H locs ls hz hP hS hl ho hkc hks) (fun q => hnx _ _ _ _ _ (h.2 q) H locs ls hz hP hS hl ho hkc hks)
      | ne => exact lv_icmp_ne hx hb hd he.2 (fun q => hjp _ _ _ _ _ _ (h.2 q) H locs ls hz hP hS hl ho hkc hks) (fun q => hnx _ _ _ _ _ (h.1 q) H locs ls hz hP hS hl ho hkc hks)
      | lt => exact lv_icmp_lt hx hb hd he.2 (fun q => hjp _ _ _ _ _ _ (h.1 q) H locs ls hz hP hS hl ho hkc hks) (fun q => hnx _ _ _ _ _ (h.2 q) H locs ls hz hP hS hl ho hkc hks)
      | ge => exact lv_icmp_ge hx hb hd he.2 (fun q => hjp _ _ _ _ _ _ (h.2 (Int32.not_lt.mpr q)) H locs ls hz hP hS hl ho hkc hks) (fun q => hnx _ _ _ _ _ (h.1 (Int32.not_le.mp q)) H locs ls hz hP hS hl ho hkc hks)
      | gt => exact lv_icmp_gt hx hb hd he.2 (fun q => hjp _ _ _ _ _ _ (h.2 (Int32.not_le.mpr q)) H locs ls hz hP hS hl ho hkc hks) (fun q => hnx _ _ _ _ _ (h.1 (Int32.not_lt.mp q)) H locs ls hz hP hS hl ho hkc hks)
      | le => exact lv_icmp_le hx hb hd he.2 (fun q => hjp _ _ _ _ _ _ (h.1 q) H locs ls hz hP hS hl ho hkc hks) (fun q => hnx _ _ _ _ _ (h.2 q) H locs ls hz hP hS hl ho hkc hks)
    next => exact h.elim
  | tableswitch dd lo hi os =>
    simp only [mi_x] at h
    split at h
    next x S' =>
      by_cases hq : x.toInt < lo ∨ hi < x.toInt
      · obtain ⟨h1, h2⟩ := h.1 hq
        exact lv_tableOut hx hb hd hq (Int.toNat_of_nonneg h1).symm (hjp _ _ _ _ _ _ h2 H locs ls hz hP hS hl ho hkc hks)
      · have h3 := h.2 hq
        split at h3
        next o ho' => exact lv_tableIn hx hb hd (fun z => hq (Or.inl z)) (fun z => hq (Or.inr z)) ho' (Int.toNat_of_nonneg h3.1).symm (hjp _ _ _ _ _ _ h3.2 H locs ls hz hP hS hl ho hkc hks)
        next => exact h3.elim
    next => exact h.elim
  | getfield ix =>
    obtain rfl : len = 3 := he.1
    obtain ⟨n, hfs⟩ := he.2
    simp only [mi_x, mi_obj] at h
    split at h
    next a S' =>
      split at h
      next ci fs ha =>
        obtain ⟨rfl, h⟩ := h
        split at h
        next v hv => exact mi_get cx' cf hP ho hfs ha hv hd (hnx _ _ _ _ _ h H locs ls hz hP hS hl ho hkc hks)
        next => exact h.elim
      next => exact h.elim
    next => exact h.elim
  | putfield ix =>
    obtain rfl : len = 3 := he.1
    obtain ⟨n, hfs, hfin⟩ := he.2
    simp only [mi_x, mi_obj] at h
    split at h
    next v a S' =>
      obtain ⟨hft, h⟩ := h
      split at h
      next ci fs ha =>
        obtain ⟨rfl, hlt, h⟩ := h
        exact mi_put cx' cf hz hP hS ho hfs hfin hft ha hlt hd (dc _) (fun H1 locs1 g1 g2 g3 g4 => hnx _ _ _ _ _ h H1 locs1 ls g1 g2 g3 hl g4 hkc hks)
      next => exact h.elim
    next => exact h.elim
  | iaload =>
    obtain rfl : len = 1 := he.1
    simp only [mi_x, mi_ints] at h
    split at h
    next j a S' =>
      split at h
      next u n f ha =>
        obtain ⟨rfl, hin, h⟩ := h
        exact va_iald hx hb hK hP a 0 (mi_wsI ho ha).2 rfl hin hd (hnx _ _ _ _ _ h H locs ls hz hP hS hl ho hkc hks)
      next => exact h.elim
    next => exact h.elim
  | baload =>
    obtain rfl : len = 1 := he.1
    simp only [mi_x, mi_ints] at h
    split at h
    next j a S' =>
      split at h
      next u n f ha =>
        obtain ⟨rfl, hin, h⟩ := h
        exact va_zald hx hb hK hP a 1 (mi_wsI ho ha).2 rfl hin hd (hnx _ _ _ _ _ h H locs ls hz hP hS hl ho hkc hks)
      next => exact h.elim
    next => exact h.elim
  | aaload =>
    obtain rfl : len = 1 := he.1
    simp only [mi_x, mi_refs] at h
    split at h
    next j a S' =>
      split at h
      next u n f ha =>
        obtain ⟨rfl, hin, h⟩ := h
        split at h
        next b hbq =>
          refine va_aldq hx hb hK hP a 2 (mi_wsQ ho ha).2 rfl hin hd ?_
          rw [hbq]
          exact hnx _ _ _ _ _ h H locs ls hz hP hS hl ho hkc hks
        next => exact h.elim
      next => exact h.elim
    next => exact h.elim
  | iastore =>
    obtain rfl : len = 1 := he.1
    simp only [mi_x, mi_ints] at h
    split at h
    next x j a S' =>
      split at h
      next u n f ha =>
        obtain ⟨rfl, hin, h⟩ := h
        exact mi_astI cx' hz hP hS ho ha hin hd (fun H1 locs1 g1 g2 g3 g4 => hnx _ _ _ _ _ h H1 locs1 ls g1 g2 g3 hl g4 hkc hks)
      next => exact h.elim
    next => exact h.elim
  | bastore =>
    obtain rfl : len = 1 := he.1
    simp only [mi_x, mi_ints] at h
    split at h
    next x j a S' =>
      obtain ⟨h01, h⟩ := h
      split at h
      next u n f ha =>
        obtain ⟨rfl, hin, h⟩ := h
        exact mi_astZ cx' h01 hz hP hS ho ha hin hd (fun H1 locs1 g1 g2 g3 g4 => hnx _ _ _ _ _ h H1 locs1 ls g1 g2 g3 hl g4 hkc hks)
      next => exact h.elim
    next => exact h.elim
  | aastore =>
    obtain rfl : len = 1 := he.1
    simp only [mi_x, mi_obj, mi_refs] at h
    split at h
    next b j a S' =>
      split at h
      next ci fs hbq =>
        obtain ⟨rfl, h⟩ := h
        split at h
        next u n f ha =>
          obtain ⟨rfl, hin, h⟩ := h
          exact mi_astQ cx' hz hP hS ho hbq ha hin hd (fun H1 locs1 g1 g2 g3 g4 => hnx _ _ _ _ _ h H1 locs1 ls g1 g2 g3 hl g4 hkc hks)
        next => exact h.elim
      next => exact h.elim
    next => exact h.elim
  | arraylength =>
    obtain rfl : len = 1 := he.1
    simp only [mi_x, mi_len] at h
    split at h
    next a S' =>
      split at h
      next u n f ha =>
        obtain ⟨hu, h⟩ := h
        rcases hu with rfl | rfl
        · exact va_alen hx hb hK hP a 0 (mi_wsI ho ha).2 (ty := .int) rfl rfl hd (hnx _ _ _ _ _ h H locs ls hz hP hS hl ho hkc hks)
        · exact va_alen hx hb hK hP a 1 (mi_wsI ho ha).2 (ty := .boolean) rfl rfl hd (hnx _ _ _ _ _ h H locs ls hz hP hS hl ho hkc hks)
      next u n f ha =>
        obtain ⟨rfl, h⟩ := h
        exact va_alen hx hb hK hP a 2 (mi_wsQ ho ha).2 (ty := .object RX6) rfl rfl hd (hnx _ _ _ _ _ h H locs ls hz hP hS hl ho hkc hks)
      next => exact h.elim
    next => exact h.elim
  | new ix =>
    obtain rfl : len = 3 := he.1
    obtain ⟨q, hq, rfl, hcl⟩ := he.2
    obtain ⟨c1, c2, c3, c4, c5, c6⟩ := cf r1 q hq
    have hin : ∀ w ∈ u_ws q.1 q.2.1 q.2.2, w ∈ mi_wd k := fun w hw => List.mem_cons_of_mem _ (c1 w hw)
    obtain ⟨h1, h2, h⟩ : kc + 1 ≤ mi_mc k ∧ ks + q.2.2 ≤ mi_sl k ∧ nx L (.ref M.1 :: S) (kc + 1) (ks + q.2.2) (mi_push M (.inr (r1, mi_dfs r1 q.2.2))) := h
    have hKn := hK.1 r1 q hq
    refine W.newcK hx hb hown (mi_gdw hts hcl) (mi_gdw hts c4) (mi_gdw hts c5) rfl hd (by rw [hR]; exact h1) (by rw [hR]; exact h2) hKn.2.1 rfl fun H1 kC hkC e1 z1 o1 => ?_
    obtain ⟨g1, g2, g3⟩ := mi_grow (x := .inr (r1, mi_dfs r1 q.2.2)) hz hP hS z1 o1 ⟨q, hq, (u_born (mi_tyf r1) hts hin hKn hkC e1 c2).to (mi_dfsV r1 q.2.2)⟩
    have := hnx _ _ _ _ _ h H1 locs ls g1 g2 g3 hl (mi_ok_push ho) h1 h2
    rw [hz]
    exact this
  | newarray at_ =>
    obtain rfl : len = 2 := he.1
    obtain ⟨hac, hty⟩ := he.2
    simp only [mi_x] at h
    split at h
    next n S' =>
      obtain ⟨hn, h2000, h1, h2, h⟩ := h
      rcases hty with ⟨rfl, hty⟩ | ⟨rfl, hty⟩
      · refine va_newaK hx hb (mi_gdw hts hac) rfl hd rfl hn rfl (by rw [hty]; show _ * 4 ≤ _; omega) (by rw [hR]; exact h1) (by rw [hR]; exact h2) rfl fun H1 cA e1 z1 o1 hAr hNm => ?_
        rw [hty] at e1 hNm
        have hcA : cA = ca 0 := mi_hK0 hK (t := 0) rfl hNm
        subst hcA
        obtain ⟨g1, g2, g3⟩ := mi_grow (x := .inl (0, n.toNatClampNeg, .inl fun _ => 0)) hz hP hS z1 o1 e1
        have := hnx _ _ _ _ _ h H1 locs ls g1 g2 g3 hl (mi_ok_push ho) h1 h2
        rw [hz]
        exact this
      · refine va_newaK hx hb (mi_gdw hts hac) rfl hd rfl hn rfl (by rw [hty]; show _ * 1 ≤ _; omega) (by rw [hR]; exact h1) (by rw [hR]; exact h2) rfl fun H1 cA e1 z1 o1 hAr hNm => ?_
        rw [hty] at e1 hNm
        have hcA : cA = ca 1 := mi_hK0 hK (t := 1) rfl hNm
        subst hcA
        obtain ⟨g1, g2, g3⟩ := mi_grow (x := .inl (1, n.toNatClampNeg, .inl fun _ => 0)) hz hP hS z1 o1 e1
        have := hnx _ _ _ _ _ h H1 locs ls g1 g2 g3 hl (mi_ok_push ho) h1 h2
        rw [hz]
        exact this
    next => exact h.elim
  | anewarray ix =>
    obtain rfl : len = 3 := he.1
    simp only [mi_x] at h
    split at h
    next n S' =>
      obtain ⟨hn, h2000, h1, h2, h⟩ := h
      refine W.anew hx hb hown (mi_gdw hts he.2) (va_AO.use hN.2) rfl hd rfl hn (by omega) (by rw [hR]; exact h1) (by rw [hR]; exact h2) fun cA kA comp f1 f2 f3 f4 => ?_
      generalize hH1 : H.push ({ cls := cA, slots := Array.replicate n.toNatClampNeg .null, vm := .none } : Cell) = H1
      have z1 : H1.size = H.size + 1 := by rw [← hH1, Array.size_push]
      have e1 : H1[H.size]? = some (arrV cA n.toNatClampNeg (fun _ => .null)) := by rw [← hH1, Array.getElem?_push_size, ← arrV_new]
      have o1 : ∀ q : Nat, q < H.size → H1[q]? = H[q]? := fun q hq => by rw [← hH1, Array.getElem?_push, if_neg (Nat.ne_of_lt hq)]
      have hcA : cA = ca 2 := mi_hK0 hK (t := 2) rfl f1
      subst hcA
      obtain ⟨g1, g2, g3⟩ := mi_grow (x := .inl (2, n.toNatClampNeg, .inr (.inr (.inr (.inr fun _ => none))))) hz hP hS z1 o1 e1
      have := hnx _ _ _ _ _ h H1 locs ls g1 g2 g3 hl (mi_ok_push ho) h1 h2
      rw [hz]
      exact this
    next => exact h.elim
  | invokevirtual ix =>
    obtain rfl : len = 3 := he.1
    obtain ⟨hcs, hlt, hna, hown3, h12, hinst, hsel, hmc, hsl⟩ := he.2
    obtain ⟨hr2, h8, hc1, hrc, hcall⟩ : r2 ≤ S.length ∧ mi_w8 (S.drop r2) = true ∧ mi_c1 (S.take r2) = true ∧ (match (S.take r2).reverse with
      | .ref a :: _ => mi_obj M a r3 fun _ => True
      | _ => False) ∧ C r1 (S.take r2).reverse M fun r M => nx L (r.toList ++ S.drop r2) kc ks M := h
    have hlen : (S.take r2).reverse.length = mi_na r1 := by simp [hr2, ← hna]
    have hc1' : mi_c1 (S.take r2).reverse = true := by simpa [mi_c1] using hc1
    have hMet := hC r1 _ M _ hlt hlen hc1' hcall
    clear hcall
    split at hrc
    next a As hav =>
      simp only [mi_obj] at hrc
      split at hrc
      next ci fs ha =>
        obtain ⟨rfl, -⟩ := hrc
        rw [hav] at hMet hlen
        have hrun := mi_runV (below := below) (locs := locs) (ls := ls) (kc := kc) (ks := ks) (rest := S.drop r2) cx' (mf r1 hlt) hcs hinst hsel (by simpa using hlen) hown3 h12 ha hMet hz hP ho hl.1 h8 hd (by rw [hR, hmc, hsl]; exact ⟨hkc, hks⟩)
        have hst : S.map (mi_cv h0) = (As.map (mi_cv h0)).reverse ++ .ref (h0 + a) :: (S.drop r2).map (mi_cv h0) := by
          conv => lhs; rw [mi_spl hav]
          simp [mi_cv]
        rw [hst]
        refine mi_goon hrun hS fun r M' H1 locs1 hq g1 g2 g3 g4 => ?_
        have := hnx _ _ _ _ _ hq H1 locs1 ls g1 g2 g4 hl g3 hkc hks
        rw [hmc, hsl]
        have e2 : (r.map (mi_cv h0)).toList ++ (S.drop r2).map (mi_cv h0) = (r.toList ++ S.drop r2).map (mi_cv h0) := by cases r <;> simp
        rw [e2]
        exact this
      next => exact hrc.elim
    next => exact hrc.elim
  | invokestatic ix =>
    obtain rfl : len = 3 := he.1
    have he2 := he.2
    simp only [mi_x] at h
    by_cases hm1 : r3 = 1
    · simp only [hm1, if_true] at h he2
      obtain ⟨k1, k2, k3, k4⟩ := he2
      split at h
      next y x S' =>
        have h8 := mi_S8 (h0 := h0) h.1
        exact va_mmax hx hb (by rw [hml]; exact hl.1.symm) hown (mi_gdw hts k1) (mi_gdw hts k2) (mi_gdw hts k3) (mi_gdw hts k4) (by rw [hR]; exact Nat.succ_le_succ (Nat.zero_le _)) (by rw [hR]; show _ + 13 ≤ 31 * (d + 1); omega) (by rw [hR]; exact hkc) (by rw [hR]; exact hks) hd (hnx _ _ _ _ _ h.2 H locs ls hz hP hS hl ho hkc hks)
      next => exact h.elim
    by_cases hm2 : r3 = 2
    · simp only [hm2, show ¬ (2 = 1) from by decide, if_true, if_false] at h he2
      obtain ⟨k1, k2, k3, k4⟩ := he2
      split at h
      next y x S' =>
        have h8 := mi_S8 (h0 := h0) h.1
        exact va_mmin hx hb (by rw [hml]; exact hl.1.symm) hown (mi_gdw hts k1) (mi_gdw hts k2) (mi_gdw hts k3) (mi_gdw hts k4) (by rw [hR]; exact Nat.succ_le_succ (Nat.zero_le _)) (by rw [hR]; show _ + 13 ≤ 31 * (d + 1); omega) (by rw [hR]; exact hkc) (by rw [hR]; exact hks) hd (hnx _ _ _ _ _ h.2 H locs ls hz hP hS hl ho hkc hks)
      next => exact h.elim
    simp only [hm1, hm2, if_false] at h he2
    obtain ⟨hcs, hlt, hna, hinst, hmc, hsl⟩ := he2
    obtain ⟨hr2, h8, hc1, hcall⟩ := h
    have hlen : (S.take r2).reverse.length = mi_na r1 := by simp [hr2, ← hna]
    have hc1' : mi_c1 (S.take r2).reverse = true := by simpa [mi_c1] using hc1
    have hMet := hC r1 _ M _ hlt hlen hc1' hcall
    have hrun := mi_runS (below := below) (locs := locs) (ls := ls) (kc := kc) (ks := ks) (rest := S.drop r2) cx' (mf r1 hlt) hcs hinst hlen hMet hz hP ho hl.1 h8 hd (by rw [hR, hmc, hsl]; exact ⟨hkc, hks⟩)
    have hst : S.map (mi_cv h0) = (((S.take r2).reverse).map (mi_cv h0)).reverse ++ (S.drop r2).map (mi_cv h0) := by
      rw [← List.map_reverse, List.reverse_reverse, ← List.map_append, List.take_append_drop]
    rw [hst]
    refine mi_goon hrun hS fun r M' H1 locs1 hq g1 g2 g3 g4 => ?_
    have := hnx _ _ _ _ _ hq H1 locs1 ls g1 g2 g4 hl g3 hkc hks
    rw [hmc, hsl]
    have e2 : (r.map (mi_cv h0)).toList ++ (S.drop r2).map (mi_cv h0) = (r.toList ++ S.drop r2).map (mi_cv h0) := by cases r <;> simp
    rw [e2]
    exact this
  | invokespecial ix =>
    obtain rfl : len = 3 := he.1
    have he2 := he.2
    simp only [mi_x] at h
    by_cases h9 : r1 = 999
    · simp only [h9, if_true] at h he2
      obtain ⟨k1, k2, k3⟩ := he2
      split at h
      next a S' =>
        exact W.objInit hx hb hown (mi_gdw hts k1) (mi_gdw hts k2) (mi_gdw hts k3) rfl (by rw [hml]; exact hl.1) rfl hd (by rw [hR]; exact Nat.succ_le_succ (Nat.zero_le _))
          (by
            have h8 := mi_S8 (h0 := h0) h.1
            have hmr : (F0 m pc ls ((Value.ref a :: S').map (mi_cv h0))).monitorRoom = 0 := rfl
            rw [hmr, hR]
            show 2 * 0 + _ + 12 ≤ 31 * (d + 1)
            omega) (hnx _ _ _ _ _ h.2 H locs ls hz hP hS hl ho hkc hks)
      next => exact h.elim
    · simp only [h9, if_false] at h he2
      obtain ⟨hcs, hlt, hna, hinst, hini', hrt⟩ := he2
      obtain ⟨hr2, h8, hc1, hb1, hb2, hrc, hcall⟩ := h
      have hlen : (S.take r2).reverse.length = mi_na r1 := by simp [hr2, ← hna]
      have hc1' : mi_c1 (S.take r2).reverse = true := by simpa [mi_c1] using hc1
      have hMet := hC r1 _ M _ hlt hlen hc1' hcall
      clear hcall
      split at hrc
      next a As hav =>
        rw [hav] at hMet hlen
        have hrun := mi_runI (below := below) (locs := locs) (ls := ls) (kc := kc) (ks := ks) (rest := S.drop r2) cx' (mf r1 hlt) hcs hinst hini' hrt (by simpa using hlen) hMet hz hP ho hl.1 h8 hd (by rw [hR]; exact ⟨hb1, hb2⟩)
        have hst : S.map (mi_cv h0) = (As.map (mi_cv h0)).reverse ++ .ref (h0 + a) :: (S.drop r2).map (mi_cv h0) := by
          conv => lhs; rw [mi_spl hav]
          simp [mi_cv]
        rw [hst]
        refine mi_goon hrun hS fun r M' H1 locs1 hq g1 g2 g3 g4 => ?_
        have := hnx _ _ _ _ _ hq H1 locs1 ls g1 g2 g4 hl g3 hb1 hb2
        have e2 : (r.map (mi_cv h0)).toList ++ (S.drop r2).map (mi_cv h0) = (r.toList ++ S.drop r2).map (mi_cv h0) := by cases r <;> simp
        rw [e2]
        exact this
      next => exact hrc.elim
  | ireturn =>
    obtain rfl : len = 1 := he.1
    simp only [mi_x, mi_nar] at h
    split at h
    next x =>
      obtain ⟨hn, h1, h2, hq⟩ := h
      refine W.widen h1 h2 ?_
      have hq' := mi_end cx' (r := some (.int x)) hz hP hS ho (hQQ _ _ hq)
      split at hn
      next hrt => exact W.zret hx hb (hr.trans hrt) (by rcases hn with rfl | rfl <;> rfl) hq' hS.2.2 hd hlk
      next hrt => exact W.zret hx hb (hr.trans hrt) rfl hq' hS.2.2 hd hlk
      next => exact hn.elim
    next => exact h.elim
  | return_ =>
    obtain rfl : len = 1 := he.1
    simp only [mi_x] at h
    split at h
    next =>
      obtain ⟨hrt, h1, h2, hq⟩ := h
      refine W.widen h1 h2 ?_
      exact W.vret hx hb (hr.trans hrt) (mi_end cx' (r := none) hz hP hS ho (hQQ _ _ hq)) hS.2.2 hd hlk
    next => exact h.elim
  | _ => exact (show False from h).elim
end MIW
