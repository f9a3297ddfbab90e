/-! ===== the machine does what the small machine says: calls, ends ===== -/
section MIZ
variable {p : Program} {l : Launch} {e : Env} {R : Room} {s : State} {m : MethodId} {args : Array Value} {below : List Frame} {meth : Method} {c : Code} {D : va_G} {ca : Nat → ClassId} {h0 d k : Nat}
theorem mi_callB (cx : mi_Cx p l e R s m args meth c D ca h0 d k) {k' ix n : Nat} (mf : mi_MF k') (hl : (Cond.methodLink (mi_cn (mi_own k)) ix (mi_y k')).before args s = true) (hn : (parseMethodDescriptor (mi_y k').desc).map (fun d => d.parameters.length) = some n) :
    CallB R s args (mi_cn (mi_own k)) ix (mi_y k') (mi_code k') (mi_maxL k') (mi_rt k') (mi_wd k') (mi_rm d k') (mi_mc k') (mi_sl k') n := by
  obtain ⟨hx, hb, hr, hml, hown, hts, hlk, hini, hK, hN, hh, hR⟩ := cx
  obtain ⟨f1, f2, f3, f4, f5, f6, f7⟩ := mf
  refine callB_of n hts (mi_wdG ⟨f1, f2, f3, f4, f5, f6, f7⟩) rfl rfl rfl (mi_gdw hts f2) hl ⟨f5.1, f5.2, hn⟩ ?_
  subst hR
  exact ⟨Nat.le_refl _, by show 8 + (mi_maxL k' + 11) + 31 * d ≤ 31 * (d + 1); omega⟩
theorem mi_callN (cx : mi_Cx p l e R s m args meth c D ca h0 d k) {k' ix n : Nat} {host : String} (mf : mi_MF k') (hl : va_Nw (.methodLinkNest (mi_cn (mi_own k)) ix (mi_y k') host) s) (hn : (parseMethodDescriptor (mi_y k').desc).map (fun d => d.parameters.length) = some n) :
    va_CN R s args (mi_cn (mi_own k)) ix (mi_y k') host (mi_code k') (mi_maxL k') (mi_rt k') (mi_wd k') (mi_rm d k') (mi_mc k') (mi_sl k') n := by
  obtain ⟨hx, hb, hr, hml, hown, hts, hlk, hini, hK, hN, hh, hR⟩ := cx
  obtain ⟨f1, f2, f3, f4, f5, f6, f7⟩ := mf
  refine va_cnB n hts (mi_wdG ⟨f1, f2, f3, f4, f5, f6, f7⟩) rfl rfl rfl hl (mi_gdw hts f2) ⟨f5.1, f5.2, hn⟩ ?_
  subst hR
  exact ⟨Nat.le_refl _, by show 8 + (mi_maxL k' + 11) + 31 * d ≤ 31 * (d + 1); omega⟩
theorem mi_par {o : Option MethodDescriptor} {n : Nat} (h : o.map (fun d => d.parameters.length + 1) = some (n + 1)) : o.map (fun d => d.parameters.length) = some n := by
  cases o with
  | none => cases h
  | some x =>
    have : x.parameters.length + 1 = n + 1 := Option.some.inj h
    show some x.parameters.length = some n
    rw [Nat.succ.inj this]
/-- the call's run, whatever the kind of the call -/
theorem mi_runV (cx : mi_Cx p l e R s m args meth c D ca h0 d k) {k' ix a ci kc ks pc : Nat} {As rest : List Value} {M : mi_M} {Q : mi_R} {H : Heap} {locs : List Loc} {ls : Array Slot} {fs : List Value} (mf : mi_MF k') (hs : mi_cs (mi_own k) ix k') (hin : mi_inst k') (hsel : Cond.selects (mi_y k').cls (mi_y k') (mi_y k') ∈ mi_gd) (hna : As.length + 1 = mi_na k') (hci : ci = mi_own k') (hc12 : ci ≤ 12) (ha : M.2 a = .inr (ci, fs))
    (hM : mi_Met l d k' (.ref a :: As) M Q) (hz : H.size = h0 + M.1) (hP : va_P D vwCl (mi_ws h0 ca M) H) (ho : mi_ok M) (hl : ls.size = mi_maxL k) (h8 : mi_w8 rest = true) (hd : decode (mi_code k) pc = .ok (.invokevirtual ix, 3)) (hf : kc + mi_mc k' ≤ R.cells ∧ ks + mi_sl k' ≤ R.slots) :
    va_Run p l e R s m args below meth c H locs kc ks (mi_mc k') (mi_sl k') (F0 m pc ls ((As.map (mi_cv h0)).reverse ++ .ref (h0 + a) :: rest.map (mi_cv h0))) (rest.map (mi_cv h0)) (mi_Qc h0 D ca Q (Value.ref (h0 + a) :: As.map (mi_cv h0)).toArray) (fun q => h0 ≤ q) := by
  have cx' := cx
  obtain ⟨hx, hb, hr, hml, hown, hts, hlk, hini, hK, hN, hh, hR⟩ := cx
  obtain ⟨ha', hw⟩ := mi_wsO (h0 := h0) (ca := ca) ho hc12 ha
  obtain ⟨q, hq, hqn⟩ := mi_cnq ci hc12
  have hrecv := va_recv hK hP hq hw
  have hcls : q.1 = (mi_y k').cls := by rw [hqn, hci]; exact mf.2.2.1.symm
  rw [hcls] at hrecv
  have hn : (parseMethodDescriptor (mi_y k').desc).map (fun d => d.parameters.length) = some As.length := mi_par (by rw [hna]; exact hin.2)
  have hpre : PreV s H (mi_y k').cls (h0 + a) (va_Pc ((Value.ref a :: As).map (mi_cv h0)) (mi_B h0 D ca M)) (As.map (mi_cv h0)) := ⟨mi_blind, hrecv, fun U hU hW => ⟨rfl, mi_Bat hK hN hz hP ho hU hW⟩⟩
  rcases hs with hs | ⟨host, hs⟩
  · exact va_runV (n := As.length) ⟨hx, hb, hml, hown, hts⟩ (hM h0 D ca) ⟨mi_callB cx' mf (mi_gdw hts hs) hn, mi_gdw hts hin.1, mi_gdw hts hsel⟩ hpre rfl (by simp) hl rfl (lv_room (mi_S8 h8)) hd hf
  · exact va_runVN (n := As.length) ⟨hx, hb, hml, hown, hts⟩ (hM h0 D ca) ⟨mi_callN cx' mf (hN.1 _ hs rfl) hn, mi_gdw hts hin.1, mi_gdw hts hsel⟩ hpre rfl (by simp) hl rfl (lv_room (mi_S8 h8)) hd hf
theorem mi_runS (cx : mi_Cx p l e R s m args meth c D ca h0 d k) {k' ix kc ks pc : Nat} {As rest : List Value} {M : mi_M} {Q : mi_R} {H : Heap} {locs : List Loc} {ls : Array Slot} (mf : mi_MF k') (hs : mi_cs (mi_own k) ix k') (hin : mi_stc k') (hna : As.length = mi_na k')
    (hM : mi_Met l d k' As M Q) (hz : H.size = h0 + M.1) (hP : va_P D vwCl (mi_ws h0 ca M) H) (ho : mi_ok M) (hl : ls.size = mi_maxL k) (h8 : mi_w8 rest = true) (hd : decode (mi_code k) pc = .ok (.invokestatic ix, 3)) (hf : kc + mi_mc k' ≤ R.cells ∧ ks + mi_sl k' ≤ R.slots) :
    va_Run p l e R s m args below meth c H locs kc ks (mi_mc k') (mi_sl k') (F0 m pc ls ((As.map (mi_cv h0)).reverse ++ rest.map (mi_cv h0))) (rest.map (mi_cv h0)) (mi_Qc h0 D ca Q (As.map (mi_cv h0)).toArray) (fun q => h0 ≤ q) := by
  have cx' := cx
  obtain ⟨hx, hb, hr, hml, hown, hts, hlk, hini, hK, hN, hh, hR⟩ := cx
  have hn : (parseMethodDescriptor (mi_y k').desc).map (fun d => d.parameters.length) = some As.length := by rw [hna]; exact hin.2
  have hpre : PreS s H (va_Pc (As.map (mi_cv h0)) (mi_B h0 D ca M)) (As.map (mi_cv h0)) := ⟨mi_blind, fun U hU hW => ⟨rfl, mi_Bat hK hN hz hP ho hU hW⟩⟩
  rcases hs with hs | ⟨host, hs⟩
  · exact va_runS (n := As.length) ⟨hx, hb, hml, hown, hts⟩ (hM h0 D ca) ⟨mi_callB cx' mf (mi_gdw hts hs) hn, mi_gdw hts hin.1⟩ hpre rfl (by simp) hl rfl (lv_room (mi_S8 h8)) hd hf
  · exact va_runSN (n := As.length) ⟨hx, hb, hml, hown, hts⟩ (hM h0 D ca) ⟨mi_callN cx' mf (hN.1 _ hs rfl) hn, mi_gdw hts hin.1, trivial⟩ hpre rfl (by simp) hl rfl (lv_room (mi_S8 h8)) hd hf
theorem mi_runI (cx : mi_Cx p l e R s m args meth c D ca h0 d k) {k' ix a kc ks pc : Nat} {As rest : List Value} {M : mi_M} {Q : mi_R} {H : Heap} {locs : List Loc} {ls : Array Slot} (mf : mi_MF k') (hs : mi_cs (mi_own k) ix k') (hin : mi_inst k') (hini : (mi_y k').name = "<init>") (hrt : mi_rt k' = none) (hna : As.length + 1 = mi_na k')
    (hM : mi_Met l d k' (.ref a :: As) M Q) (hz : H.size = h0 + M.1) (hP : va_P D vwCl (mi_ws h0 ca M) H) (ho : mi_ok M) (hl : ls.size = mi_maxL k) (h8 : mi_w8 rest = true) (hd : decode (mi_code k) pc = .ok (.invokespecial ix, 3)) (hf : kc + mi_mc k' ≤ R.cells ∧ ks + mi_sl k' ≤ R.slots) :
    va_Run p l e R s m args below meth c H locs kc ks (mi_mc k') (mi_sl k') (F0 m pc ls ((As.map (mi_cv h0)).reverse ++ .ref (h0 + a) :: rest.map (mi_cv h0))) (rest.map (mi_cv h0)) (mi_Qc h0 D ca Q (Value.ref (h0 + a) :: As.map (mi_cv h0)).toArray) (fun q => h0 ≤ q) := by
  have cx' := cx
  obtain ⟨hx, hb, hr, hml, hown, hts, hlk, hini2, hK, hN, hh, hR⟩ := cx
  have hn : (parseMethodDescriptor (mi_y k').desc).map (fun d => d.parameters.length) = some As.length := mi_par (by rw [hna]; exact hin.2)
  have hpre : PreS s H (va_Pc ((Value.ref a :: As).map (mi_cv h0)) (mi_B h0 D ca M)) (.ref (h0 + a) :: As.map (mi_cv h0)) := ⟨mi_blind, fun U hU hW => ⟨rfl, mi_Bat hK hN hz hP ho hU hW⟩⟩
  rcases hs with hs | ⟨host, hs⟩
  · have cb := mi_callB cx' mf (mi_gdw hts hs) hn
    rw [hrt] at cb
    exact va_runI (n := As.length) ⟨hx, hb, hml, hown, hts⟩ (hM h0 D ca) ⟨cb, hini, mi_gdw hts hin.1⟩ hpre rfl (by simp) hl rfl (lv_room (mi_S8 h8)) hd hf
  · have cb := mi_callN cx' mf (hN.1 _ hs rfl) hn
    rw [hrt] at cb
    exact va_runIN (n := As.length) ⟨hx, hb, hml, hown, hts⟩ (hM h0 D ca) ⟨cb, hini, mi_gdw hts hin.1⟩ hpre rfl (by simp) hl rfl (lv_room (mi_S8 h8)) hd hf
end MIZ
