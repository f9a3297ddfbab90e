/-! ===== the law: its loop, its start ===== -/
section LWD
variable {p : Program} {l : Launch} {e : Env} {s : State} {m : MethodId} {below : List Frame} {meth : Method} {c : Code} {D : va_G} {ca : Nat → ClassId} {b L : Nat} {xs : Nat → Int32}
theorem lw_new (C0 : lw_C p s m meth c D ca b L xs) {ix ci n kc ks pc : Nat} {M : mi_M} {ls : Array Slot} {S : List Value} {q : vw_C} (hq : vwCl[ci]? = some q) (hn : q.2.2 = n) (hcl : Cond.classLink R_law ix q.1 ∈ mi_gd) (hd : decode code pc = .ok (.new ix, 3)) (hkc : kc + 1 ≤ 600000) (hks : ks + n ≤ 7302250)
    (kk : lw_G p l e s m below meth c D ca b (pc + 3) ls (.ref (s.heap.size + M.1) :: S) (kc + 1) (ks + n) (mi_push M (.inr (ci, mi_dfs ci n)))) : lw_G p l e s m below meth c D ca b pc ls S kc ks M := by
  obtain ⟨⟨hx, hb, hr, hml, hown, hts, hX, hbl, hlocks, hgv⟩, hK, hN⟩ := id C0
  intro H locs hz hP ho hS
  subst hn
  obtain ⟨c1, c2, c3, c4, c5, c6⟩ := mi_cf ci q hq
  have hin : ∀ w ∈ u_ws q.1 q.2.1 q.2.2, w ∈ lw_tbl := fun w hw => (List.mem_filter.mp (c1 w hw)).1
  have hKn := hK.1 ci q hq
  refine W.newcK hx hb hown (lw_gd hts hcl) (lw_gd hts c4) (lw_gd hts c5) rfl hd hkc hks hKn.2.1 rfl fun H1 kC hkC e1 z1 o1 => ?_
  obtain ⟨g1, g2, g3⟩ := mi_grow (x := .inr (ci, mi_dfs ci q.2.2)) hz hP hS z1 o1 ⟨q, hq, (u_born (mi_tyf ci) hts hin hKn hkC e1 c2).to (mi_dfsV ci q.2.2)⟩
  have := kk H1 locs g1 g2 (mi_ok_push ho) g3
  rw [hz]
  exact this
theorem lw_init (C0 : lw_C p s m meth c D ca b L xs) {k' ix a kc ks pc : Nat} {As rest : List Value} {M : mi_M} {Q : mi_R} {ls : Array Slot} (hk : k' < mi_nM) (hin : mi_inst k') (hini : (mi_y k').name = "<init>") (hrt : mi_rt k' = none) (hlk : Cond.methodLink R_law ix (mi_y k') ∈ mi_gd) (hna : As.length + 1 = mi_na k') (hc1 : mi_c1 (.ref a :: As) = true) (hcal : mi_cal 9 k' (.ref a :: As) M Q) (hl : ls.size = 4) (h8 : mi_w8 rest = true) (hd : decode code pc = .ok (.invokespecial ix, 3)) (hkc : kc + mi_mc k' ≤ 600000) (hks : ks + mi_sl k' ≤ 7302250)
    (kk : ∀ r M', Q r M' → lw_G p l e s m below meth c D ca b (pc + 3) ls ((r.map (mi_cv s.heap.size)).toList ++ rest.map (mi_cv s.heap.size)) (kc + mi_mc k') (ks + mi_sl k') M') : lw_G p l e s m below meth c D ca b pc ls ((As.map (mi_cv s.heap.size)).reverse ++ .ref (s.heap.size + a) :: rest.map (mi_cv s.heap.size)) kc ks M := by
  obtain ⟨⟨hx, hb, hr, hml, hown, hts, hX, hbl, hlocks, hgv⟩, hK, hN⟩ := id C0
  intro H locs hz hP ho hS
  have mf := mi_all.2.2.1 k' hk
  have hM := mi_calS mi_all l 9 k' (.ref a :: As) M Q hk (by rw [← hna]; rfl) hc1 hcal
  have hn : (parseMethodDescriptor (mi_y k').desc).map (fun d => d.parameters.length) = some As.length := mi_par (by rw [hna]; exact hin.2)
  have hpre : PreS s H (va_Pc ((Value.ref a :: As).map (mi_cv s.heap.size)) (mi_B s.heap.size D ca M)) (.ref (s.heap.size + a) :: As.map (mi_cv s.heap.size)) := ⟨mi_blind, fun U hU hW => ⟨rfl, mi_Bat hK hN hz hP ho hU hW⟩⟩
  have cb := lw_callB C0 mf hlk hn
  rw [hrt] at cb
  have run := va_runI (n := As.length) (meth := meth) (l := l) (below := below) (e := e) (locs := locs) (cells := kc) (slots := ks) (g := F0 m pc ls ((As.map (mi_cv s.heap.size)).reverse ++ .ref (s.heap.size + a) :: rest.map (mi_cv s.heap.size))) ⟨hx, hb, hml, hown, hts⟩ (hM s.heap.size D ca) ⟨cb, hini, lw_gd hts hin.1⟩ hpre rfl (by simp) hl rfl (lv_room (mi_S8 h8)) hd ⟨hkc, hks⟩
  exact mi_goon run hS fun r M' H1 locs1 hq z1 p1 o1 s1 => kk r M' hq H1 locs1 z1 p1 o1 s1
theorem lw_cmp {i : Nat} (hL : L ≤ 2048) (hi : i ≤ 4096) : Int32.ofNat L - 4 < nI i ↔ L < i + 4 := by
  have h1 : (Int32.ofNat L - 4).toInt = (L : Int) - 4 := by
    rw [Int32.toInt_sub, show (Int32.ofNat L).toInt = (L : Int) from nI_toInt (by omega), show (4 : Int32).toInt = 4 from rfl]
    exact Int.bmod_eq_of_le (by omega) (by omega)
  rw [i_lt, h1, nI_toInt (by omega)]
  omega
set_option maxHeartbeats 4000000 in
theorem lw_loop (C0 : lw_C p s m meth c D ca b L xs) (hL : L ≤ 2048) {kc ks : Nat} (hkc : kc ≤ 600000) (hks : ks ≤ 7302250) : ∀ (n i : Nat) (g : Int64) (w : fl_W) (ls : Array Slot), i ≤ 4096 → L < i + 4 * n + 4 → JJ w → lv_has ls 4 (lw_ls s b i) → lw_G p l e s m below meth c D ca b 18 ls [] kc ks (fl_mk g w) := by
  obtain ⟨⟨hx, hb, hr, hml, hown, hts, hX, hbl, hlocks, hgv⟩, hK, hN⟩ := id C0
  have hbA : ¬ (fun q : Nat => s.heap.size ≤ q) b := Nat.not_le.mpr hbl
  intro n
  induction n with
  | zero =>
    intro i g w ls h1 h2 hJ hl H locs hz hP ho hS
    refine lv_iload_n hx hb d_law_18 rfl (lv_at hl 3 rfl) ?_
    refine lv_aload_n hx hb d_law_19 rfl (lv_at hl 0 rfl) ?_
    refine va_slen hx hb hX hbl hbA hS d_law_20 ?_
    refine lv_iconst (v := 4) hx hb d_law_21 (by decide) ?_
    refine lv_isub hx hb d_law_22 ?_
    refine lv_icmp_gt (tgt := 560) hx hb d_law_23 (by decide) (fun _ => ?_) (fun z => absurd ((lw_cmp hL h1).mpr (by omega)) z)
    refine lv_iconst (v := 1) hx hb d_law_560 (by decide) ?_
    refine va_forget (fun q hq => hS.2.2 q hq) ?_
    refine W.widen (k := 600000) (n := 7302250) hkc hks ?_
    exact lw_ret hx hb hr hlocks d_law_561
  | succ n ih =>
    intro i g w ls h1 h2 hJ hl H locs hz hP ho hS
    refine lv_iload_n hx hb d_law_18 rfl (lv_at hl 3 rfl) ?_
    refine lv_aload_n hx hb d_law_19 rfl (lv_at hl 0 rfl) ?_
    refine va_slen hx hb hX hbl hbA hS d_law_20 ?_
    refine lv_iconst (v := 4) hx hb d_law_21 (by decide) ?_
    refine lv_isub hx hb d_law_22 ?_
    refine lv_icmp_gt (tgt := 560) hx hb d_law_23 (by decide) (fun _ => ?_) (fun z => ?_)
    · refine lv_iconst (v := 1) hx hb d_law_560 (by decide) ?_
      refine va_forget (fun q hq => hS.2.2 q hq) ?_
      refine W.widen (k := 600000) (n := 7302250) hkc hks ?_
      exact lw_ret hx hb hr hlocks d_law_561
    · rw [lw_cmp hL h1] at z
      have hi : i + 4 ≤ L := by omega
      have hgo : ∀ g' w', JJ w' → lw_G p l e s m below meth c D ca b 554 ls [] kc ks (fl_mk g' w') := fun g' w' hJ' H locs hz hP ho hS => by
        refine lv_iinc (v := nI (i + 4)) (lv' := [(3, .int (nI (i + 4))), (0, .ref b), (1, .ref (s.heap.size + 0)), (2, .ref (s.heap.size + 229))]) hx hb d_law_554 hl (k := 3) rfl (nI_add i 4) (by decide) rfl (fun ls' hl' => ?_)
        refine lv_goto (tgt := 18) hx hb d_law_557 (by decide) ?_
        exact ih (i + 4) g' w' ls' (by omega) (by omega) hJ' (lv_sub hl' [1, 2, 3, 0] rfl) H locs hz hP ho hS
      refine lv_aload_n hx hb d_law_26 rfl (lv_at hl 0 rfl) ?_
      refine lv_iload_n hx hb d_law_27 rfl (lv_at hl 3 rfl) ?_
      refine va_sld hx hb hX hbl hbA hS (in_N (by omega) (by omega)) d_law_28 ?_
      refine lv_bipush (v := 31) hx hb d_law_29 (by decide) ?_
      refine lv_iand hx hb d_law_31 ?_
      refine lv_topi (fun y ey => ?_)
      by_cases ho1 : y.toInt < 0 ∨ 17 < y.toInt
      · exact lv_tableOut (tgt := 554) hx hb d_law_32 ho1 (by decide) (hgo g w hJ H locs hz hP ho hS)
      · have hy : y.toInt = 0 ∨ y.toInt = 1 ∨ y.toInt = 2 ∨ y.toInt = 3 ∨ y.toInt = 4 ∨ y.toInt = 5 ∨ y.toInt = 6 ∨ y.toInt = 7 ∨ y.toInt = 8 ∨ y.toInt = 9 ∨ y.toInt = 10 ∨ y.toInt = 11 ∨ y.toInt = 12 ∨ y.toInt = 13 ∨ y.toInt = 14 ∨ y.toInt = 15 ∨ y.toInt = 16 ∨ y.toInt = 17 := by omega
        rcases hy with h | h | h | h | h | h | h | h | h | h | h | h | h | h | h | h | h | h
        · exact lv_tableIn (off := 88) (tgt := 120) hx hb d_law_32 (by omega) (by omega) (by rw [h]; rfl) (by decide) (lc_0 C0 hL hi hJ hl hkc hks hgo H locs hz hP ho hS)
        · exact lv_tableIn (off := 111) (tgt := 143) hx hb d_law_32 (by omega) (by omega) (by rw [h]; rfl) (by decide) (lc_1 C0 hL hi hJ hl hkc hks hgo H locs hz hP ho hS)
        · exact lv_tableIn (off := 144) (tgt := 176) hx hb d_law_32 (by omega) (by omega) (by rw [h]; rfl) (by decide) (lc_2 C0 hL hi hJ hl hkc hks hgo H locs hz hP ho hS)
        · exact lv_tableIn (off := 167) (tgt := 199) hx hb d_law_32 (by omega) (by omega) (by rw [h]; rfl) (by decide) (lc_3 C0 hL hi hJ hl hkc hks hgo H locs hz hP ho hS)
        · exact lv_tableIn (off := 200) (tgt := 232) hx hb d_law_32 (by omega) (by omega) (by rw [h]; rfl) (by decide) (lc_4 C0 hL hi hJ hl hkc hks hgo H locs hz hP ho hS)
        · exact lv_tableIn (off := 223) (tgt := 255) hx hb d_law_32 (by omega) (by omega) (by rw [h]; rfl) (by decide) (lc_5 C0 hL hi hJ hl hkc hks hgo H locs hz hP ho hS)
        · exact lv_tableIn (off := 236) (tgt := 268) hx hb d_law_32 (by omega) (by omega) (by rw [h]; rfl) (by decide) (lc_6 C0 hL hi hJ hl hkc hks hgo H locs hz hP ho hS)
        · exact lv_tableIn (off := 269) (tgt := 301) hx hb d_law_32 (by omega) (by omega) (by rw [h]; rfl) (by decide) (lc_7 C0 hL hi hJ hl hkc hks hgo H locs hz hP ho hS)
        · exact lv_tableIn (off := 312) (tgt := 344) hx hb d_law_32 (by omega) (by omega) (by rw [h]; rfl) (by decide) (lc_8 C0 hL hi hJ hl hkc hks hgo H locs hz hP ho hS)
        · exact lv_tableIn (off := 325) (tgt := 357) hx hb d_law_32 (by omega) (by omega) (by rw [h]; rfl) (by decide) (lc_9 C0 hL hi hJ hl hkc hks hgo H locs hz hP ho hS)
        · exact lv_tableIn (off := 358) (tgt := 390) hx hb d_law_32 (by omega) (by omega) (by rw [h]; rfl) (by decide) (lc_10 C0 hL hi hJ hl hkc hks hgo H locs hz hP ho hS)
        · exact lv_tableIn (off := 371) (tgt := 403) hx hb d_law_32 (by omega) (by omega) (by rw [h]; rfl) (by decide) (lc_11 C0 hL hi hJ hl hkc hks hgo H locs hz hP ho hS)
        · exact lv_tableIn (off := 394) (tgt := 426) hx hb d_law_32 (by omega) (by omega) (by rw [h]; rfl) (by decide) (lc_12 C0 hL hi hJ hl hkc hks hgo H locs hz hP ho hS)
        · exact lv_tableIn (off := 427) (tgt := 459) hx hb d_law_32 (by omega) (by omega) (by rw [h]; rfl) (by decide) (lc_13 C0 hL hi hJ hl hkc hks hgo H locs hz hP ho hS)
        · exact lv_tableIn (off := 440) (tgt := 472) hx hb d_law_32 (by omega) (by omega) (by rw [h]; rfl) (by decide) (lc_14 C0 hL hi hJ hl hkc hks hgo H locs hz hP ho hS)
        · exact lv_tableIn (off := 453) (tgt := 485) hx hb d_law_32 (by omega) (by omega) (by rw [h]; rfl) (by decide) (lc_15 C0 hL hi hJ hl hkc hks hgo H locs hz hP ho hS)
        · exact lv_tableIn (off := 486) (tgt := 518) hx hb d_law_32 (by omega) (by omega) (by rw [h]; rfl) (by decide) (lc_16 C0 hL hi hJ hl hkc hks hgo H locs hz hP ho hS)
        · exact lv_tableIn (off := 499) (tgt := 531) hx hb d_law_32 (by omega) (by omega) (by rw [h]; rfl) (by decide) (lc_17 C0 hL hi hJ hl hkc hks hgo H locs hz hP ho hS)
/-- what the start gives -/
theorem lw_known (C0 : lw_At p s m meth c b L xs) : ∃ (D : va_G) (ca : Nat → ClassId), lw_C p s m meth c D ca b L xs := by
  obtain ⟨hx, hb, hr, hml, hown, hts, hX, hbl, hlocks, hgv⟩ := id C0
  have hk : ∀ ci : Nat, ∃ z : ClassId × (Nat → Nat), ∀ q, vwCl[ci]? = some q → u_Kn s q.1 q.2.1 q.2.2 z.1 z.2 := fun ci => by
    cases h : vwCl[ci]? with
    | none => exact ⟨(m.cls, fun _ => 0), fun q hq => by cases hq⟩
    | some q =>
      obtain ⟨c1, c2, c3, c4, c5, c6⟩ := mi_cf ci q h
      obtain ⟨cC, iS, hKn⟩ := u_known (C := q.1) (T := q.2.1) (N := q.2.2) (n := q.2.2) hts (fun w hw => (List.mem_filter.mp (c1 w hw)).1) (lw_gd hts c4)
      exact ⟨(cC, iS), fun q' hq' => by cases hq'; exact hKn⟩
  obtain ⟨f, hf⟩ := Classical.skolem.mp hk
  obtain ⟨a0, k0, p0, x1, x2, x3⟩ := Cond.arrayClass_spec (hts (.arrayClass .int) (by decide +kernel))
  obtain ⟨a1, k1, p1, y1, y2, y3⟩ := Cond.arrayClass_spec (hts (.arrayClass .boolean) (by decide +kernel))
  have hov := hts (.arrayOver (.object RX6)) (by decide +kernel)
  obtain ⟨p2, a2, k2, z1, z2, z3, z4, z5⟩ := Cond.arrayOver_spec hov
  refine ⟨(fun ci => (f ci).1, fun ci => (f ci).2), fun t => if t = 0 then a0 else if t = 1 then a1 else a2, C0, ⟨fun ci q hq => hf ci q hq, fun k q hq => ?_⟩, fun w hw hn => va_Nw.of ?_ (hts w hw), va_AO.of hov⟩
  · match k, hq with
    | 0, hq => cases hq; exact ⟨fun n z => ⟨(fun k h => by cases h), k0, x2, p0, x3⟩, x1⟩
    | 1, hq => cases hq; exact ⟨fun n z => ⟨(fun k h => by cases h), k1, y2, p1, y3⟩, y1⟩
    | 2, hq => cases hq; exact ⟨fun n z => ⟨(fun k h => by cases h), k2, z3, p2, z4⟩, k2, p2, z3, z4, z1, z5⟩
    | k + 3, hq => simp [mi_tys] at hq
  · cases w <;> first | rfl | (exact absurd hn (by simp [mi_isN]))
end LWD
set_option maxHeartbeats 4000000 in
theorem whole_start {p : Program} {e : Env} {s : State} {m : MethodId} {below : List Frame} {meth : Method} {c : Code} (l : Launch) {b L : Nat} {xs : Nat → Int32} (hL : L ≤ 2048) (C0 : lw_At p s m meth c b L xs) : W p l e room_1 s m #[Value.ref b] below meth c s.heap [] 0 0 (lw_Z below #[Value.ref b] s) (entryFrame m ([Value.ref b] : List Value).toArray 4) := by
  obtain ⟨D, ca, C1⟩ := lw_known C0
  obtain ⟨hx, hb, hr, hml, hown, hts, hX, hbl, hlocks, hgv⟩ := id C0
  have hl := lv_entry ([.ref b]) (n := 4) (Nat.le_of_ble_eq_true rfl)
  rw [lg_entry_eq]
  generalize (lg_sl ([.ref b]) ++ List.replicate (4 - (lg_sl ([.ref b])).length) Slot.unset).toArray = ls at hl ⊢
  have hl : lv_has ls 4 [(0, .ref b)] := hl
  have go : lw_G p l e s m below meth c D ca b 0 ls [] 0 0 (mi_of []) := by
    refine lw_new C1 (ci := 11) (ix := 7) (n := 13) (q := (RX11, TX11, 13)) rfl rfl (mi_in 105 (by decide +kernel) rfl) d_law_0 (by decide) (by decide) ?_
    intro H locs hz hP ho hS
    refine lv_dup hx hb d_law_3 rfl ?_
    rw [of_push] at hz hP ho
    refine lw_init C1 (k' := 96) (ix := 9) (a := 0) (As := []) (rest := [.ref 0]) (M := mi_of ([] ++ [.inr (11, mi_dfs 11 13)])) (Q := fun r M => r = none ∧ M = mi_of cs_1) (by decide) mk_96 rfl rfl (mi_in 107 (by decide +kernel) rfl) rfl rfl (ct_96 ⟨rfl, rfl⟩) hl.1 rfl d_law_4 (by decide) (by decide) ?_ H locs hz hP ho hS
    rintro r M ⟨rfl, rfl⟩ H locs hz hP ho hS
    refine lv_astore_n (lv' := [(1, .ref (s.heap.size + 0)), (0, .ref b)]) hx hb d_law_7 rfl hl (by decide) rfl (fun ls hl => ?_)
    refine lw_new C1 (ci := 12) (ix := 10) (n := 49) (q := (RX12, TX12, 49)) rfl rfl (mi_in 990 (by decide +kernel) rfl) d_law_8 (by decide) (by decide) ?_ H locs hz hP ho hS
    intro H locs hz hP ho hS
    refine lv_dup hx hb d_law_11 rfl ?_
    rw [show (mi_of cs_1).1 = 229 from len_1]
    refine lw_init C1 (k' := 123) (ix := 12) (a := 229) (As := []) (rest := [.ref 229]) (M := mi_push (mi_of cs_1) (.inr (12, mi_dfs 12 49))) (Q := fun r M => r = none ∧ M = fl_mk 0 W_0) (by decide) mk_123 rfl rfl (mi_in 992 (by decide +kernel) rfl) rfl rfl (ct_ref ⟨rfl, rfl⟩) hl.1 rfl d_law_12 (by decide) (by decide) ?_ H locs hz hP ho hS
    rintro r M ⟨rfl, rfl⟩ H locs hz hP ho hS
    refine lv_astore_n (lv' := [(2, .ref (s.heap.size + 229)), (1, .ref (s.heap.size + 0)), (0, .ref b)]) hx hb d_law_15 rfl hl (by decide) rfl (fun ls hl => ?_)
    refine lv_iconst (v := 0) hx hb d_law_16 (by decide) ?_
    refine lv_istore_n (lv' := [(3, .int 0), (2, .ref (s.heap.size + 229)), (1, .ref (s.heap.size + 0)), (0, .ref b)]) hx hb d_law_17 rfl hl (by decide) rfl (fun ls hl => ?_)
    exact lw_loop C1 hL (by decide) (by decide) (L + 1) 0 0 W_0 ls (by omega) (by omega) jj_0 (lv_sub hl [3, 2, 1, 0] rfl) H locs hz hP ho hS
  exact go s.heap [] rfl (fun k q h => by simp [mi_ws, mi_of] at h) (fun k _ => by simp [mi_of]) va_S.rf
