/-! ===== the law: its state; a call out of it ===== -/
def lw_C (p : Program) (s : State) (m : MethodId) (meth : Method) (c : Code) (D : va_G) (ca : Nat → ClassId) (b L : Nat) (xs : Nat → Int32) : Prop := lw_At p s m meth c b L xs ∧ va_K D vwCl (mi_tys ca) s ∧ mi_NW s
def lw_G (p : Program) (l : Launch) (e : Env) (s : State) (m : MethodId) (below : List Frame) (meth : Method) (c : Code) (D : va_G) (ca : Nat → ClassId) (b : Nat) (pc : Nat) (ls : Array Slot) (S : List Value) (kc ks : Nat) (M : mi_M) : Prop :=
  ∀ (H : Heap) (locs : List Loc), H.size = s.heap.size + M.1 → va_P D vwCl (mi_ws s.heap.size ca M) H → mi_ok M → va_S (fun q => s.heap.size ≤ q) s.heap H locs → W p l e room_1 s m #[Value.ref b] below meth c H locs kc ks (lw_Z below #[Value.ref b] s) (F0 m pc ls S)
def lw_ls (s : State) (b i : Nat) : List (Nat × Value) := [(0, .ref b), (1, .ref (s.heap.size + 0)), (2, .ref (s.heap.size + 229)), (3, .int (nI i))]
theorem lw_gd {s : State} {b : Nat} (hts : ∀ w ∈ lw_tbl, w.before #[Value.ref b] s = true) {w : Cond} (h : w ∈ mi_gd) : w.before #[Value.ref b] s = true := hts w (List.mem_filter.mp h).1
theorem lw_wdG {k' : Nat} (h : mi_MF k') : GoodIn lw_tbl (mi_wd k') := by
  intro w hw
  have hw' : w ∈ mi_gd := by
    rcases List.mem_cons.mp hw with rfl | hw
    · exact h.1
    · exact hw
  exact ⟨(List.mem_filter.mp hw').1, good_of_word (List.mem_filter.mp hw').2⟩
section LWB
variable {p : Program} {l : Launch} {e : Env} {s : State} {m : MethodId} {below : List Frame} {meth : Method} {c : Code} {D : va_G} {ca : Nat → ClassId} {b L : Nat} {xs : Nat → Int32}
theorem lw_callB (C0 : lw_C p s m meth c D ca b L xs) {k' ix n : Nat} (mf : mi_MF k') (hl : Cond.methodLink R_law ix (mi_y k') ∈ mi_gd) (hn : (parseMethodDescriptor (mi_y k').desc).map (fun d => d.parameters.length) = some n) :
    CallB room_1 s #[Value.ref b] R_law ix (mi_y k') (mi_code k') (mi_maxL k') (mi_rt k') (mi_wd k') (mi_rm 9 k') (mi_mc k') (mi_sl k') n := by
  obtain ⟨⟨hx, hb, hr, hml, hown, hts, hX, hbl, hlocks, hgv⟩, hK, hN⟩ := C0
  obtain ⟨f1, f2, f3, f4, f5, f6, f7⟩ := mf
  refine callB_of n hts (lw_wdG ⟨f1, f2, f3, f4, f5, f6, f7⟩) rfl rfl rfl (lw_gd hts f2) (lw_gd hts hl) ⟨f5.1, f5.2, hn⟩ ?_
  exact ⟨by show 9 + 1 ≤ 10; omega, by show 8 + (mi_maxL k' + 11) + 31 * 9 ≤ 394; omega⟩
theorem lw_call (C0 : lw_C p s m meth c D ca b L xs) {k' ix a ci kc ks pc : Nat} {As rest : List Value} {M : mi_M} {Q : mi_R} {ls : Array Slot} {fs : List Value} (hk : k' < mi_nM) (hin : mi_inst k') (hsel : Cond.selects (mi_y k').cls (mi_y k') (mi_y k') ∈ mi_gd) (hlk : Cond.methodLink R_law ix (mi_y k') ∈ mi_gd) (hna : As.length + 1 = mi_na k') (hci : ci = mi_own k') (hc12 : ci ≤ 12) (ha : M.2 a = .inr (ci, fs)) (hc1 : mi_c1 (.ref a :: As) = true) (hcal : mi_cal 9 k' (.ref a :: As) M Q) (hl : ls.size = 4) (h8 : mi_w8 rest = true) (hd : decode code pc = .ok (.invokevirtual ix, 3)) (hmc : mi_mc k' = 0) (hsl : mi_sl k' = 0) (hkc : kc ≤ 600000) (hks : ks ≤ 7302250)
    (kk : ∀ r M', Q r M' → lw_G p l e s m below meth c D ca b (pc + 3) ls ((r.map (mi_cv s.heap.size)).toList ++ rest.map (mi_cv s.heap.size)) kc ks M') : lw_G p l e s m below meth c D ca b pc ls ((As.map (mi_cv s.heap.size)).reverse ++ .ref (s.heap.size + a) :: rest.map (mi_cv s.heap.size)) kc ks M := by
  obtain ⟨⟨hx, hb, hr, hml, hown, hts, hX, hbl, hlocks, hgv⟩, hK, hN⟩ := id C0
  intro H locs hz hP ho hS
  have mf := mi_all.2.2.1 k' hk
  have hM := mi_calS mi_all l 9 k' (.ref a :: As) M Q hk (by rw [← hna]; rfl) hc1 hcal
  obtain ⟨ha', hw⟩ := mi_wsO (h0 := s.heap.size) (ca := ca) ho hc12 ha
  obtain ⟨q, hq, hqn⟩ := mi_cnq ci hc12
  have hrecv := va_recv hK hP hq hw
  have hcls : q.1 = (mi_y k').cls := by rw [hqn, hci]; exact mf.2.2.1.symm
  rw [hcls] at hrecv
  have hn : (parseMethodDescriptor (mi_y k').desc).map (fun d => d.parameters.length) = some As.length := mi_par (by rw [hna]; exact hin.2)
  have hpre : PreV s H (mi_y k').cls (s.heap.size + a) (va_Pc ((Value.ref a :: As).map (mi_cv s.heap.size)) (mi_B s.heap.size D ca M)) (As.map (mi_cv s.heap.size)) := ⟨mi_blind, hrecv, fun U hU hW => ⟨rfl, mi_Bat hK hN hz hP ho hU hW⟩⟩
  have run := va_runV (n := As.length) (meth := meth) (l := l) (below := below) (e := e) (locs := locs) (cells := kc) (slots := ks) (g := F0 m pc ls ((As.map (mi_cv s.heap.size)).reverse ++ .ref (s.heap.size + a) :: rest.map (mi_cv s.heap.size))) ⟨hx, hb, hml, hown, hts⟩ (hM s.heap.size D ca) ⟨lw_callB C0 mf hlk hn, lw_gd hts hin.1, lw_gd hts hsel⟩ hpre rfl (by simp) hl rfl (lv_room (mi_S8 h8)) hd ⟨by rw [hmc]; exact hkc, by rw [hsl]; exact hks⟩
  refine mi_goon run hS fun r M' H1 locs1 hq z1 p1 o1 s1 => ?_
  have := kk r M' hq H1 locs1 z1 p1 o1 s1
  rw [hmc, hsl]
  exact this
theorem lw_in1 {i : Nat} (hL : L ≤ 2048) (hi : i + 4 ≤ L) : vp_in (nI i + 1) L := by
  rw [nI_1]; exact in_N (by omega) (by omega)
theorem lw_in2 {i : Nat} (hL : L ≤ 2048) (hi : i + 4 ≤ L) : vp_in (nI i + 2) L := by
  rw [show nI i + 2 = nI (i + 2) from nI_add i 2]; exact in_N (by omega) (by omega)
theorem lw_in3 {i : Nat} (hL : L ≤ 2048) (hi : i + 4 ≤ L) : vp_in (nI i + 3) L := by
  rw [show nI i + 3 = nI (i + 3) from nI_add i 3]; exact in_N (by omega) (by omega)
end LWB
