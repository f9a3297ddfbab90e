/-! ===== the machine does what the small machine says: fields, arrays, new cells ===== -/
section MIY
variable {p : Program} {l : Launch} {e : Env} {R : Room} {s : State} {m : MethodId} {args : Array Value} {below : List Frame} {meth : Method} {c : Code} {D : va_G} {ca : Nat → ClassId} {h0 d k : Nat}
theorem mi_get (cx : mi_Cx p l e R s m args meth c D ca h0 d k) (cf : mi_CF) {M : mi_M} {H : Heap} {locs : List Loc} {ls : Array Slot} {Qw : State → Prop} {rest : List Value} {kc ks pc ix a ci j : Nat} {n : Bool} {fs : List Value} {v : Value}
    (hP : va_P D vwCl (mi_ws h0 ca M) H) (ho : mi_ok M) (hf : mi_fs (mi_own k) ix ci j n) (ha : M.2 a = .inr (ci, fs)) (hv : fs[j]? = some v) (hd : decode (mi_code k) pc = .ok (.getfield ix, 3))
    (kk : W p l e R s m args below meth c H locs kc ks Qw (F0 m (pc + 3) ls (mi_cv h0 v :: rest))) : W p l e R s m args below meth c H locs kc ks Qw (F0 m pc ls (.ref (h0 + a) :: rest)) := by
  obtain ⟨hx, hb, hr, hml, hown, hts, hlk, hin, hK, hN, hh, hR⟩ := cx
  obtain ⟨q, hq, hj, hl⟩ := hf
  obtain ⟨c1, c2, c3, c4, c5, c6⟩ := cf ci q hq
  obtain ⟨ha', hw⟩ := mi_wsO (h0 := h0) (ca := ca) ho c6 ha
  have hv' : (fs.map (mi_cv h0))[j]? = some (mi_cv h0 v) := by rw [List.getElem?_map, hv]; rfl
  cases n with
  | false => exact va_get hx hb hts (fun w hw => List.mem_cons_of_mem _ (c1 w hw)) hown hK hP a hw hq j hj (mi_gdw hts hl) (fun _ h => h) hv' hd kk
  | true =>
    obtain ⟨host, hl⟩ := hl
    exact va_getN hx hb hts (fun w hw => List.mem_cons_of_mem _ (c1 w hw)) hown hK hP a hw hq j hj (va_Nw.use rfl (hN.1 _ hl rfl)) (fun _ h => h) hv' hd kk
theorem mi_put (cx : mi_Cx p l e R s m args meth c D ca h0 d k) (cf : mi_CF) {M : mi_M} {H : Heap} {locs : List Loc} {ls : Array Slot} {Qw : State → Prop} {rest : List Value} {kc ks pc ix a ci j : Nat} {n : Bool} {fs : List Value} {v : Value}
    (hz : H.size = h0 + M.1) (hP : va_P D vwCl (mi_ws h0 ca M) H) (hS : va_S (fun q => h0 ≤ q) s.heap H locs) (ho : mi_ok M) (hf : mi_fs (mi_own k) ix ci j n) (hfin : mi_fin ci j = false ∨ (n = false ∧ (mi_y k).name = "<init>" ∧ ci = mi_own k ∧ (mi_own k) ≤ 12)) (hft : mi_fit (mi_tyf ci j) v) (ha : M.2 a = .inr (ci, fs)) (hv : j < fs.length) (hd : decode (mi_code k) pc = .ok (.putfield ix, 3))
    (hdecl : ∀ q : vw_C, vwCl[ci]? = some q → ∀ j, j < q.2.2 → (q.2.1 j).1 = q.1)
    (kk : ∀ (H1 : Heap) (locs1 : List Loc), H1.size = h0 + (mi_up M a (.inr (ci, fs.set j v))).1 → va_P D vwCl (mi_ws h0 ca (mi_up M a (.inr (ci, fs.set j v)))) H1 → va_S (fun q => h0 ≤ q) s.heap H1 locs1 → mi_ok (mi_up M a (.inr (ci, fs.set j v))) → W p l e R s m args below meth c H1 locs1 kc ks Qw (F0 m (pc + 3) ls rest)) : W p l e R s m args below meth c H locs kc ks Qw (F0 m pc ls (mi_cv h0 v :: .ref (h0 + a) :: rest)) := by
  obtain ⟨hx, hb, hr, hml, hown, hts, hlk, hini, hK, hN, hh, hR⟩ := cx
  obtain ⟨q, hq, hj, hl⟩ := hf
  obtain ⟨c1, c2, c3, c4, c5, c6⟩ := cf ci q hq
  obtain ⟨ha', hw⟩ := mi_wsO (h0 := h0) (ca := ca) ho c6 ha
  have hin : ∀ w ∈ u_ws q.1 q.2.1 q.2.2, w ∈ mi_wd k := fun w hw => List.mem_cons_of_mem _ (c1 w hw)
  have hD := mi_wsD (h0 := h0) (ca := ca) (M := M)
  have hap := va_apart (own := mi_cn (mi_own k)) hts hin (mi_tyf ci) c2 c3 hK hq
  have hv' : j < (fs.map (mi_cv h0)).length := by rw [List.length_map]; exact hv
  have hst : (fs.map (mi_cv h0)).set j (mi_cv h0 v) = (fs.set j v).map (mi_cv h0) := by rw [List.map_set]
  obtain ⟨r, h1, cell, q1, q2, q3, q4⟩ := hP a _ hw
  have hrq : r = q := Option.some.inj (h1.symm.trans hq)
  subst hrq
  obtain ⟨hS1, hfc, kC, hkC, hkind⟩ := hK.1 ci _ hq
  obtain ⟨cf0, kf, fi, f, hi, hsl⟩ := hS1 j hj
  obtain ⟨hn1, hn2⟩ := mi_fitV h0 hft
  have hst1 := (u_facts hfc hkC (u_lays hts hin hj) hi).1
  have fin : ∀ (H' : Heap), H'[h0 + a]? = some (cell.setSlot (D.2 ci j) (mi_cv h0 v)) → H'.size = H.size → (∀ x, x ≠ h0 + a → H'[x]? = H[x]?) → W p l e R s m args below meth c H' (locs ++ [⟨h0 + a, D.2 ci j⟩]) kc ks Qw (F0 m (pc + 3) ls rest) := by
    intro H' e1 e2 e3
    refine kk H' _ (by rw [e2, hz]; rfl) ?_ (hS.put e2 e3 (Nat.le_add_right _ _)) (mi_ok_up ho ha')
    rw [mi_ws_up]
    refine hP.set hD hw ⟨r, hq, ?_⟩ e3
    show t_OB (h0 + a) (D.1 ci) r.2.2 (D.2 ci) H' (vp_V ((fs.set j v).map (mi_cv h0)))
    rw [← hst]
    exact t_OB.to (V := updV (vp_V (fs.map (mi_cv h0))) j (mi_cv h0 v)) ⟨_, e1, q2, q3, t_set q4 hap hj (mi_cv h0 v)⟩ (fun i _ => vp_updV_set hv' (mi_cv h0 v) i)
  by_cases hfi : mi_fin ci j = false
  · have hfi' : (r.2.1 j).2.2.2 = false := by
      unfold mi_fin at hfi
      rw [hq] at hfi
      exact hfi
    have hlay := hts _ (hin _ (u_in_lay hj))
    unfold u_lay at hlay
    rw [if_neg (by rw [hfi']; decide)] at hlay
    have h6 := u_store hfc hkC hkind hlay hi (c2 j hj) hn1 hn2
    cases n with
    | false =>
      refine W.putK hx hb (f := f) ⟨hown, mi_gdw hts hl, ⟨_, _, _, hi⟩, hst1⟩ (by rw [q2]; exact h6) q1 q3 (by rw [hsl]; exact k2_hasslot (q4 j hj)) rfl rfl hd fun H' e1 e2 e3 => ?_
      rw [hsl] at e1 ⊢
      exact fin H' e1 e2 e3
    | true =>
      obtain ⟨host, hl⟩ := hl
      refine va_WputK hx hb (f := f) hown (va_Nw.use rfl (hN.1 _ hl rfl)) hi hst1 (by rw [q2]; exact h6) q1 q3 (by rw [hsl]; exact k2_hasslot (q4 j hj)) rfl rfl hd fun H' e1 e2 e3 => ?_
      rw [hsl] at e1 ⊢
      exact fin H' e1 e2 e3
  · obtain ⟨rfl, hin2, hciw, hw12⟩ := hfin.resolve_left hfi
    have hfi' : (r.2.1 j).2.2.2 = true := by
      unfold mi_fin at hfi
      rw [hq] at hfi
      simpa using hfi
    have hlay := hts _ (hin _ (u_in_lay hj))
    unfold u_lay at hlay
    rw [if_pos hfi'] at hlay
    have hdec : (r.2.1 j).1 = mi_cn (mi_own k) := by
      obtain ⟨q', hq', hn'⟩ := mi_cnq ci c6
      rw [hdecl r hq j hj]
      cases hq.symm.trans hq'
      rw [hn', hciw]
    have hcf : m.cls = cf0 := by
      obtain ⟨_, _, c', _, _, _, -, -, hf', -, -, -, hown2, -⟩ := Cond.laysFinal_spec hlay
      have e1 : c' = cf0 := by have := hi.symm.trans hf'; simp at this; exact this.1.symm
      rw [hdec] at hown2
      rw [← e1]; exact Option.some.inj (hown.symm.trans hown2)
    have h6 := u_fits hfc hkC hkind (Or.inr hlay) hi (c2 j hj) hn1 hn2
    refine W.putFinK hx hb hown (mi_gdw hts hl) hi hst1 hcf (hini hin2) (by rw [q2]; exact h6) q1 q3 (by rw [hsl]; exact k2_hasslot (q4 j hj)) rfl rfl hd fun H' e1 e2 e3 => ?_
    rw [hsl] at e1 ⊢
    exact fin H' e1 e2 e3
theorem mi_astI (cx : mi_Cx p l e R s m args meth c D ca h0 d k) {M : mi_M} {H : Heap} {locs : List Loc} {ls : Array Slot} {Qw : State → Prop} {rest : List Value} {kc ks pc a n : Nat} {f : Nat → Int32} {i x : Int32}
    (hz : H.size = h0 + M.1) (hP : va_P D vwCl (mi_ws h0 ca M) H) (hS : va_S (fun q => h0 ≤ q) s.heap H locs) (ho : mi_ok M) (ha : M.2 a = .inl (0, n, .inl f)) (hin : vp_in i n) (hd : decode (mi_code k) pc = .ok (.iastore, 1))
    (kk : ∀ (H1 : Heap) (locs1 : List Loc), H1.size = h0 + (mi_up M a (.inl (0, n, .inl (upd f i.toNatClampNeg x)))).1 → va_P D vwCl (mi_ws h0 ca (mi_up M a (.inl (0, n, .inl (upd f i.toNatClampNeg x))))) H1 → va_S (fun q => h0 ≤ q) s.heap H1 locs1 → mi_ok (mi_up M a (.inl (0, n, .inl (upd f i.toNatClampNeg x)))) → W p l e R s m args below meth c H1 locs1 kc ks Qw (F0 m (pc + 1) ls rest)) : W p l e R s m args below meth c H locs kc ks Qw (F0 m pc ls (.int x :: .int i :: .ref (h0 + a) :: rest)) := by
  obtain ⟨hx, hb, hr, hml, hown, hts, hlk, hini, hK, hN, hh, hR⟩ := cx
  obtain ⟨ha', hw⟩ := mi_wsI (h0 := h0) (ca := ca) ho ha
  refine W.iast hx hb (hP a _ hw) ((hK.2 0 _ rfl).1 n (fun j => .int (f j))) (fun q => by cases q) (by show ¬ (i < 0 ∨ (arrV _ _ _).slots.size ≤ _); rw [arrV_size]; exact hin) rfl rfl hd fun H1 e1 z oq => ?_
  refine kk H1 _ (by rw [z, hz]; rfl) ?_ (hS.put z oq (Nat.le_add_right _ _)) (mi_ok_up ho ha')
  rw [mi_ws_up]
  refine hP.set mi_wsD hw ?_ oq
  show H1[h0 + a]? = some (vp_cell (ca 0) (n, .inl (upd f i.toNatClampNeg x)))
  rw [e1, vp_cell_i, vp_cell_i, arrV_store]
  congr 2
  funext q
  by_cases hq : q = i.toNatClampNeg
  · subst hq
    simp [updV, upd]
  · simp [updV, upd, hq]
theorem mi_astZ (cx : mi_Cx p l e R s m args meth c D ca h0 d k) {M : mi_M} {H : Heap} {locs : List Loc} {ls : Array Slot} {Qw : State → Prop} {rest : List Value} {kc ks pc a n : Nat} {f : Nat → Int32} {i x : Int32} (hx01 : x = 0 ∨ x = 1)
    (hz : H.size = h0 + M.1) (hP : va_P D vwCl (mi_ws h0 ca M) H) (hS : va_S (fun q => h0 ≤ q) s.heap H locs) (ho : mi_ok M) (ha : M.2 a = .inl (1, n, .inl f)) (hin : vp_in i n) (hd : decode (mi_code k) pc = .ok (.bastore, 1))
    (kk : ∀ (H1 : Heap) (locs1 : List Loc), H1.size = h0 + (mi_up M a (.inl (1, n, .inl (upd f i.toNatClampNeg x)))).1 → va_P D vwCl (mi_ws h0 ca (mi_up M a (.inl (1, n, .inl (upd f i.toNatClampNeg x))))) H1 → va_S (fun q => h0 ≤ q) s.heap H1 locs1 → mi_ok (mi_up M a (.inl (1, n, .inl (upd f i.toNatClampNeg x)))) → W p l e R s m args below meth c H1 locs1 kc ks Qw (F0 m (pc + 1) ls rest)) : W p l e R s m args below meth c H locs kc ks Qw (F0 m pc ls (.int x :: .int i :: .ref (h0 + a) :: rest)) := by
  obtain ⟨hx, hb, hr, hml, hown, hts, hlk, hini, hK, hN, hh, hR⟩ := cx
  obtain ⟨ha', hw⟩ := mi_wsI (h0 := h0) (ca := ca) ho ha
  have hnr : narrow .boolean (.int x) = .int x := by rcases hx01 with rfl | rfl <;> rfl
  refine W.zast hx hb (hP a _ hw) ((hK.2 1 _ rfl).1 n (fun j => .int (f j))) (fun q => by cases q) (by show ¬ (i < 0 ∨ (arrV _ _ _).slots.size ≤ _); rw [arrV_size]; exact hin) rfl rfl hd fun H1 e1 z oq => ?_
  refine kk H1 _ (by rw [z, hz]; rfl) ?_ (hS.put z oq (Nat.le_add_right _ _)) (mi_ok_up ho ha')
  rw [mi_ws_up]
  refine hP.set mi_wsD hw ?_ oq
  show H1[h0 + a]? = some (vp_cell (ca 1) (n, .inl (upd f i.toNatClampNeg x)))
  rw [e1, vp_cell_i, vp_cell_i, arrV_store]
  congr 2
  funext q
  by_cases hq : q = i.toNatClampNeg
  · subst hq
    simp [updV, upd, hnr]
  · simp [updV, upd, hq]
theorem mi_astQ (cx : mi_Cx p l e R s m args meth c D ca h0 d k) {M : mi_M} {H : Heap} {locs : List Loc} {ls : Array Slot} {Qw : State → Prop} {rest : List Value} {kc ks pc a b n : Nat} {fs : List Value} {f : Nat → Option Nat} {i : Int32}
    (hz : H.size = h0 + M.1) (hP : va_P D vwCl (mi_ws h0 ca M) H) (hS : va_S (fun q => h0 ≤ q) s.heap H locs) (ho : mi_ok M) (hbb : M.2 b = .inr (6, fs)) (ha : M.2 a = .inl (2, n, .inr (.inr (.inr (.inr f))))) (hin : vp_in i n) (hd : decode (mi_code k) pc = .ok (.aastore, 1))
    (kk : ∀ (H1 : Heap) (locs1 : List Loc), H1.size = h0 + (mi_up M a (.inl (2, n, .inr (.inr (.inr (.inr (va_up f i.toNatClampNeg (some b)))))))).1 → va_P D vwCl (mi_ws h0 ca (mi_up M a (.inl (2, n, .inr (.inr (.inr (.inr (va_up f i.toNatClampNeg (some b))))))))) H1 → va_S (fun q => h0 ≤ q) s.heap H1 locs1 → mi_ok (mi_up M a (.inl (2, n, .inr (.inr (.inr (.inr (va_up f i.toNatClampNeg (some b)))))))) → W p l e R s m args below meth c H1 locs1 kc ks Qw (F0 m (pc + 1) ls rest)) : W p l e R s m args below meth c H locs kc ks Qw (F0 m pc ls (.ref (h0 + b) :: .int i :: .ref (h0 + a) :: rest)) := by
  obtain ⟨hx, hb, hr, hml, hown, hts, hlk, hini, hK, hN, hh, hR⟩ := cx
  obtain ⟨ha', hw⟩ := mi_wsQ (h0 := h0) (ca := ca) ho ha
  obtain ⟨hb', hwb⟩ := mi_wsO (h0 := h0) (ca := ca) ho (by omega) hbb
  have hlt : i.toNatClampNeg < n := Nat.not_le.mp fun q => hin (Or.inr q)
  have hi0 : ¬ i < 0 := fun q => hin (Or.inl q)
  obtain ⟨r', hr', cellV, g1, g2, g3, -⟩ := hP b _ hwb
  have hcls := (hK.1 6 _ rfl).2
  obtain ⟨kA, comp, k1, k2, k3, -⟩ := (hK.2 2 _ rfl).2
  have hcomp : comp = D.1 6 := Option.some.inj (k3.symm.trans hcls.1)
  subst hcomp
  obtain ⟨kC, hkC, -⟩ := hcls.2
  refine W.aast hx hb (hP a _ hw) (fun q h => by cases h) (fun h => by cases h) k1 k2 rfl hkC ⟨hi0, by show _ < (arrV _ _ _).slots.size; rw [arrV_size]; exact hlt⟩ g1 (fun q h => by rw [g3] at h; cases h) (by rw [g2]; exact hkC) (by rw [g2]; exact va_assign hcls) rfl rfl hd fun H1 e1 z oq => ?_
  refine kk H1 _ (by rw [z, hz]; rfl) ?_ (hS.put z oq (Nat.le_add_right _ _)) (mi_ok_up ho ha')
  rw [mi_ws_up]
  refine hP.set mi_wsD hw ?_ oq
  show H1[h0 + a]? = some (vp_cell (ca 2) (n, .inr (.inr (.inr (.inr fun j => (va_up f i.toNatClampNeg (some b) j).map (fun q => h0 + q))))))
  rw [e1, vp_cell_q, vp_cell_q, arrV_store]
  congr 2
  funext q
  by_cases hq : q = i.toNatClampNeg
  · subst hq
    simp [updV, va_up, va_rf]
  · simp [updV, va_up, hq]
end MIY
