/-! ===== Layout: the first ring, the rest; what the rings say of the turn ===== -/
theorem wyE_app_ok {V : Nat} {bes : gE} {s : List (List Nat) × gE} (hO : okE V bes) (h : LI V bes s) (hl : bes.length ≤ 60) : okE V s.2 ∧ s.2.length ≤ bes.length := ⟨h.okd hO, nd_sub_len h.1.2.1 h.1.1⟩
section LYC
variable {d : Nat} {Q : fl_R} {W : fl_W} {V b : Nat} {es bes dl : gE} {rs : List (List Nat)}
/-- Layout.laysRest -/
theorem ly_rest_l (hV : V ≤ 20) (hO : okE V bes) (h2 : TwoC bes) (hb60 : bes.length ≤ 60) : ∀ (n i f : Nat) (s : List (List Nat) × gE) (W : fl_W), bes.length - s.2.length ≤ n → n < f → i + n ≤ 60 → LW W V bes s → LI V bes s →
    (∀ W' s', runB bes f s = some s'.1 → LW W' V bes s' → LI V bes s' → s'.2.length = bes.length → EqX lyl W W' → Q (some (.int 1)) W') →
    (∀ W', runB bes f s = none → NetR W' 60 V bes → EqX lyl W W' → Q (some (.int 0)) W') → hd_30_2 (d + 4) Q (nI i) W := by
  intro n
  induction n with
  | zero =>
    intro i f s W h1 hf hi hW hL hy h0
    obtain ⟨hdO, hdl⟩ := wyE_app_ok hO hL hb60
    obtain ⟨f, rfl⟩ : ∃ f', f = f' + 1 := ⟨f - 1, by omega⟩
    have he : s.2.length = bes.length := by omega
    rw [runB, if_pos ((reps_len hO hL.1.1 hL.1.2.1).mpr he)] at hy
    have hfin : mi_br ((W 64 4) = (W 60 4)) (Q (some (.int (Int32.ofInt 1))) W) (Q (some (.int (Int32.ofInt 0))) W) := by
      rw [hW.1.2.2.2.2.1, hW.2.1.2.2.2.2.1, he]
      exact ⟨fun _ => hy W s rfl hW hL he EqX.rf, fun z => absurd rfl z⟩
    refine sx_30_2 _ W ⟨fun _ => ⟨fun q => absurd q ?_, fun _ => hfin⟩, fun _ => hfin⟩
    rw [hW.1.2.2.2.2.1, hW.2.1.2.2.2.2.1]; exact nI_nlt (by omega) (by omega)
  | succ n ih =>
    intro i f s W h1 hf hi hW hL hy h0
    obtain ⟨hdO, hdl⟩ := wyE_app_ok hO hL hb60
    rcases Nat.lt_or_ge s.2.length bes.length with hlt | hge
    case inr => exact ih i f s W (by omega) (by omega) (by omega) hW hL hy h0
    obtain ⟨f, rfl⟩ : ∃ f', f = f' + 1 := ⟨f - 1, by omega⟩
    have hne : reps bes s.2 ≠ [] := fun e => by
      have := (reps_len hO hL.1.1 hL.1.2.1).mp e
      omega
    rw [runB, if_neg hne] at hy h0
    refine sx_30_2 _ W ⟨fun _ => ⟨fun _ => ?_, fun q => absurd ?_ q⟩, fun q => absurd ?_ q⟩
    · refine ly_choose hne hW.1 hW.2.1 hW.2.2.1 hW.2.2.2 (fun W1 k1 k2 => ⟨fun _ => ?_, fun z => absurd rfl z⟩) fun W1 g j k1 k2 k3 k4 k5 k6 k7 => ⟨fun z => absurd z (by decide), fun _ => ?_⟩
      · rw [k1] at h0
        exact h0 W1 rfl (hW.1.fr k2 d_60_9) (k2.mono s_9)
      · rw [k1] at hy h0
        obtain ⟨gm, -⟩ := cho_some k1
        obtain ⟨g1, g2⟩ := reps_mem gm
        obtain ⟨hL', R, a, b, ws, hwo, hwr, hRr, ha, hb, hst, l1, l2⟩ := li_stp hV hO h2 hL g1 g2 k2
        have hla : leastN (feet bes s.2 g) = a := by
          have : (wayO bes s.2 g).1 = a := by rw [hwo]
          rw [← this]
          unfold wayO
          split
          · split <;> rfl
          · rfl
        have hany : anyN (feet bes s.2 g) = true := anyN_iff.mpr ⟨a, hwr.2.2.2.2.1 a (by simp), hwr.2.1⟩
        have ha20 := hwr.2.2.2.2.1 a (by simp)
        have hb20 := hwr.2.2.2.2.1 b (by simp)
        have hws20 : ∀ x ∈ ws, x < 20 := fun x hx => hwr.2.2.2.2.1 x (by simp [hx])
        refine st_leastN k5 hany ?_
        have hN1 := hW.1.fr k7 d_60_9
        refine ly_way hV h2 hL.1.1 hL.2.2.2.2 g1 g2 hN1 k4 k5 fun W2 m1 m2 m3 => ?_
        rw [hwo] at m1 m2
        rw [hla]
        have hR2 : RgR W2 s.1 := (hW.2.2.2.fr k7 d_rg9).fr m3 d_rgsr
        have h36 := hL.rs36 hO
        show fl_cal (d + 4) 61 [.ref 68, .int (W2 9 10), .int (nI a), .int (W2 153 3), .ref 157] W2 _
        rw [m1, m3 9 (by decide), k3]
        refine rg_part hR2 hRr ha hb m2 hws20 (by omega) l1 l2 fun W3 p1 p2 => ?_
        have hgD : s.1.getD j [] = R := by rw [List.getD_eq_getElem?_getD, hRr]; rfl
        have hR3 : RgR W3 (stR s.1 j a b ws) := by unfold stR; rw [hgD]; exact p1
        have hN64 : NetR W3 64 V s.2 := ((hW.2.1.fr k7 d_64_9).fr m3 (se_dis n64)).fr p2 d_64rg
        have hN60 : NetR W3 60 V bes := (hN1.fr m3 (se_dis n60)).fr p2 d_60rg
        have hm2 := m2.fr p2 (by rw [mem_rgl]; omega) (by rw [mem_rgl]; omega)
        have hO' : okE V (stp bes s g).2 := hL'.okd hO
        have hl' : (stp bes s g).2.length ≤ bes.length := nd_sub_len hL'.1.2.1 hL'.1.1
        rw [hst] at hO' hl'
        have h7 : W3 9 7 = W 9 7 := by rw [p2 9 (by rw [mem_rgl]; omega), m3 9 (by decide), k6]
        refine ly_mark ha20 hb20 hws20 hm2 (by rw [p2 153 (by rw [mem_rgl]; omega)]; exact m1) (lv := lvO s.2) (by rw [h7]; exact hW.2.2.1) hN64 hO' (Nat.le_trans hl' hb60) fun W4 q1 q2 q3 => ?_
        show hd_30_2 (d + 4) Q (nI i + Int32.ofInt 1) W4
        rw [ci_1, nI_add]
        have hE : EqX lyl W W4 := (((k7.mono s_9).tr (m3.mono s_sr)).tr (p2.mono s_rg)).tr (q3.mono s_964)
        have hwl := wy_lv (wyR_WY hwr)
        have hLW : LW W4 V bes (stp bes s g) := by
          rw [hst]
          refine ⟨hN60.fr q3 d_60_964, q1, q2.congr fun v hv => ?_, hR3.fr q3 d_rg964⟩
          show _ = lvO (s.2 ++ wyE (b :: (ws ++ [a]))) v
          rw [hwl v]
          by_cases e1 : v = a
          · rw [e1, feet_lv hwr.2.1]; simp
          · by_cases e2 : v = b
            · rw [e2, feet_lv hwr.2.2.1]; simp
            · simp [e1, e2]
        have hdec : (stp bes s g).2.length = s.2.length + ws.length + 1 := by
          rw [hst]
          show (s.2 ++ wyE (b :: (ws ++ [a]))).length = _
          rw [List.length_append, wyE_len]
          simp
          omega
        refine ih (i + 1) f (stp bes s g) W4 (by omega) (by omega) (by omega) hLW hL' (fun W' s' r1 r2 r3 r4 r5 => hy W' s' r1 r2 r3 r4 (hE.tr r5)) fun W' r1 r2 r3 => h0 W' r1 r2 (hE.tr r3)
    · rw [hW.1.2.2.2.2.1, hW.2.1.2.2.2.2.1]; exact nI_lt hlt (by omega)
    · rw [cb_60]; exact nI_lt (by omega) (by omega)
theorem ly_rest {s : List (List Nat) × gE} (hV : V ≤ 20) (hO : okE V bes) (h2 : TwoC bes) (hb60 : bes.length ≤ 60) (hW : LW W V bes s) (hL : LI V bes s)
    (hy : ∀ W' s', runB bes 61 s = some s'.1 → LW W' V bes s' → LI V bes s' → s'.2.length = bes.length → EqX lyl W W' → Q (some (.int 1)) W')
    (h0 : ∀ W', runB bes 61 s = none → NetR W' 60 V bes → EqX lyl W W' → Q (some (.int 0)) W') : fl_cal (d + 5) 30 [.ref 9] W Q :=
  sx_30 W (ly_rest_l hV hO h2 hb60 60 0 61 s W (by omega) (by omega) (by omega) hW hL hy h0)
/-- Layout.layFirstRing -/
theorem ly_first {lo hi : Nat} {t : gE} (h2 : TwoC bes) (hb : bes = (lo, hi) :: t) (ht : t ≠ []) (hN : NetR W 60 V bes) (h : ∀ W', LW W' V bes (st0 bes lo hi) → EqX lyl W W' → Q none W') : fl_cal (d + 4) 29 [.ref 9] W Q := by
  have hV := hN.1
  have hO := hN.2.2.1
  have h60 := hN.2.1
  have h0m : bes[0]? = some (lo, hi) := by rw [hb]; rfl
  have hlh := hO.1 (lo, hi) (List.mem_of_getElem? h0m)
  simp only at hlh
  have hLI := li_st0 hV hO h2 hb ht
  obtain ⟨w1, w2, w3, w4, w5⟩ := fw_ok hV hO h2 hb ht
  unfold st0 at h hLI
  generalize fstW bes lo hi = ws at *
  refine sx_29 W ?_
  rw [ci_0]
  refine net_low n60 hN h0m (net_high n60 hN h0m fun W3 e3 => ?_)
  have f3 : EqX [9] W W3 := by rw [e3]; exact EqX.uw (by simp)
  have hN3 := hN.fr f3 d_60_9
  rw [hN3.2.2.2.1]
  refine net_begin n64 hV fun W4 p1 p2 => ?_
  have hN4 := hN3.fr p2 d_60_64
  refine net_addE (p := (lo, hi)) n64 p1 ⟨hlh.1, hlh.2⟩ adj_nil (by simp) fun W5 q1 q2 => ?_
  have hN5 := hN4.fr q2 d_60_64
  refine st_bit (st_bit (st_bit ?_))
  have hlo : lo < 20 := by omega
  have hhi : hi < 20 := by omega
  refine se_seek n60 hN5 (s := hi) (th := fun v => decide (v ≠ lo) && decide (v ≠ hi)) (gs := fun v => decide (v = lo)) hhi ?_ (BS.bit hlo).lo (by simp) (by simp; omega) (fun v _ hv => by simp at hv; simp [hv]) fun W9 r1 r2 => ?_
  · rw [ci_m]
    exact ((BS.bit hlo).or (BS.bit hhi)).lo.not.congr fun v _ => by simp
  · have hfw : bfsP (clA bes (fun v => decide (v ≠ lo) && decide (v ≠ hi)) (fun v => decide (v = lo)) hi) (fun v => decide (v = lo)) hi = some (lo :: (ws ++ [hi])) := w1
    rw [hfw] at r1
    have r1' : W9 153 3 = nI lo ∧ RowR W9 157 (nL (ws ++ [hi]).dropLast) := r1
    rw [List.dropLast_concat] at r1'
    refine rg_begin hlo hhi r1'.2 w5 w4 fun W10 t1 t2 => ?_
    have hd64 := ((q1.fr r2 (se_dis n64)).fr t2 d_64rg)
    have hd60 := ((hN5.fr r2 (se_dis n60)).fr t2 d_60rg)
    have h7 : W10 9 7 = 0 := by
      rw [t2 9 (by rw [mem_rgl]; omega), r2 9 (by decide), q2 9 (by decide), p2 9 (by decide), e3, uw_s]
      rfl
    have hokd := hLI.okd hO
    have hld : _ ≤ bes.length := nd_sub_len hLI.1.2.1 hLI.1.1
    refine ly_mark (dl := [(lo, hi)]) (lv := fun _ => false) hhi hlo w5 (r1'.2.fr t2 (by rw [mem_rgl]; omega) (by rw [mem_rgl]; omega)) (by rw [t2 153 (by rw [mem_rgl]; omega)]; exact r1'.1) (by rw [h7]; exact BS.zero) hd64 hokd (Nat.le_trans hld h60) fun W11 u1 u2 u3 => ?_
    refine h W11 ⟨hd60.fr u3 d_60_964, u1, u2.congr fun v hv => ?_, t1.fr u3 d_rg964⟩ ?_
    · show _ = lvO ([(lo, hi)] ++ wyE (lo :: (ws ++ [hi]))) v
      rw [wy_lv w2 v]
      simp [lvO, inc, Bool.or_comm]
    · exact (((((f3.mono s_9).tr (p2.mono s_64)).tr (q2.mono s_64)).tr (r2.mono s_sr)).tr (t2.mono s_rg)).tr (u3.mono s_964)
end LYC
/-! what follows a dart -/
noncomputable def fw (rs : List (List Nat)) (x y : Nat) : Nat := Classical.epsilon fun z => fol rs x y z
theorem fol_fun {bes dl : gE} {rs : List (List Nat)} (hD : DI bes rs dl) {x y z z' : Nat} (h : fol rs x y z) (h' : fol rs x y z') : z = z' := by
  obtain ⟨r, r1, r2, r3⟩ := h
  obtain ⟨r', r1', r2', r3'⟩ := h'
  have e := fm_inj hD.2.2.2.1 r1 r1' r2 r2'
  rw [← e] at r3'
  exact cd_fun (hD.2.2.1 r r1) r3 r3'
theorem fw_eq {bes dl : gE} {rs : List (List Nat)} (hD : DI bes rs dl) {x y z : Nat} (h : fol rs x y z) : fw rs x y = z := fol_fun hD (Classical.epsilon_spec (p := fun z => fol rs x y z) ⟨z, h⟩) h
def itr (f : Nat → Nat) : Nat → Nat → List Nat
  | 0, _ => []
  | n + 1, x => x :: itr f n (f x)
theorem pd_pre : ∀ {l : List Nat} {x : Nat} {p : Nat × Nat}, p ∈ pd l → p ∈ pd (l ++ [x])
  | [], _, _, h => absurd h List.not_mem_nil
  | [_], _, _, h => absurd h List.not_mem_nil
  | a :: b :: l, x, p, h => by
    rw [pd] at h
    rw [List.cons_append, List.cons_append, pd]
    rcases List.mem_cons.mp h with e | e
    · rw [e]; exact List.mem_cons_self
    · exact List.mem_cons_of_mem _ (pd_pre (l := b :: l) e)
theorem itr_pd {f : Nat → Nat} : ∀ {t : List Nat} {x : Nat}, (∀ p, p ∈ pd (x :: t) → f p.1 = p.2) → itr f (t.length + 1) x = x :: t
  | [], x, _ => rfl
  | y :: t, x, h => by
    rw [List.length_cons, itr, h (x, y) (by simp [pd]), itr_pd fun p hp => h p (by rw [pd]; exact List.mem_cons_of_mem _ hp)]
theorem rotN_hd {ro : List Nat} {x : Nat} (h : x ∈ ro) : ∃ t, rotN ro x = x :: t ∧ t.length + 1 = ro.length := by
  obtain ⟨l, m, h1, h2⟩ : ∃ l m, ro = l ++ x :: m ∧ x ∉ l := by
    have hl := List.idxOf_lt_length_of_mem h
    refine ⟨ro.take (ro.idxOf x), ro.drop (ro.idxOf x + 1), ?_, fun z => ?_⟩
    · have e := List.take_append_drop (ro.idxOf x) ro
      have ex := idx_at h
      rw [List.getElem?_eq_getElem hl, Option.some.injEq] at ex
      rw [List.drop_eq_getElem_cons hl, ex] at e
      exact e.symm
    · have := List.idxOf_lt_length_of_mem z
      rw [List.length_take] at this
      have h3 : (ro.take (ro.idxOf x)).idxOf x = ro.idxOf x := by
        have e := List.take_append_drop (ro.idxOf x) ro
        have e2 : (ro.take (ro.idxOf x) ++ ro.drop (ro.idxOf x)).idxOf x = (ro.take (ro.idxOf x)).idxOf x := by rw [List.idxOf_append, if_pos z]
        rw [e] at e2
        exact e2.symm
      omega
  refine ⟨m ++ l, ?_, ?_⟩
  · rw [h1, rotN_mid l x m h2]; simp
  · rw [h1]; simp; omega
theorem rotN_cd {ro : List Nat} {x : Nat} : (cd (rotN ro x)).Perm (cd ro) := by
  have := cd_rot (ro.drop (ro.idxOf x)) (ro.take (ro.idxOf x))
  rw [List.take_append_drop] at this
  exact this
theorem rotN_nd {ro : List Nat} {x : Nat} (h : ro.Nodup) : (rotN ro x).Nodup := by
  have : (rotN ro x).Perm ro := by
    have := List.perm_append_comm (l₁ := ro.drop (ro.idxOf x)) (l₂ := ro.take (ro.idxOf x))
    rw [List.take_append_drop] at this
    exact this
  exact this.nodup_iff.mpr h
noncomputable def tuB (rs : List (List Nat)) (bes : gE) (y : Nat) : List Nat := itr (fun x => fw rs x y) (cnt (adj bes y) 20) (leastN (adj bes y))
theorem cnt_mem {p : Nat → Bool} {l : List Nat} (hn : l.Nodup) (h : ∀ x, x ∈ l ↔ p x = true) (h20 : ∀ x ∈ l, x < 20) : cnt p 20 = l.length := by
  have := cnt_list (p := fun _ => false) (n := 20) hn fun x hx => ⟨h20 x hx, rfl⟩
  rw [cnt_congr (q := fun v => false || l.contains v) fun i _ => by
    rw [Bool.false_or, Bool.eq_iff_iff, ← h i]; simp]
  rw [this, show cnt (fun _ => false) 20 = 0 by decide]
  omega
/-- the turn around y that the rings tell -/
theorem tuB_ok {V : Nat} {bes : gE} {s : List (List Nat) × gE} (hV : V ≤ 20) (hO : okE V bes) (h : LI V bes s) (he : s.2.length = bes.length) (y : Nat) : (tuB s.1 bes y).Nodup ∧ (∀ x, x ∈ tuB s.1 bes y ↔ adj bes y x = true) ∧ (∀ x z, (x, z) ∈ cd (tuB s.1 bes y) → fol s.1 x y z) ∧ ((∃ x, adj bes y x = true) → ∃ t, tuB s.1 bes y = leastN (adj bes y) :: t ∧ t.length + 1 = cnt (adj bes y) 20) := by
  have hall := nd_sub_all h.1.2.1 h.1.1 (by omega)
  have hadj : ∀ u v, adj s.2 u v = adj bes u v := fun u v => by
    rw [Bool.eq_iff_iff, adj_iff, adj_iff]
    exact ⟨fun z => z.imp (h.1.1 _) (h.1.1 _), fun z => z.imp (hall _) (hall _)⟩
  by_cases hy : ∃ x, adj bes y x = true
  · obtain ⟨ro, r1, r2, r3⟩ := h.2.1 y (lvO_adj.mpr (by obtain ⟨x, hx⟩ := hy; exact ⟨x, by rw [hadj]; exact hx⟩))
    have hro20 : ∀ x, x ∈ ro → x < 20 := fun x hx => by
      have := (adj_lt (h.okd hO) ((r2 x).mp hx)).2.1
      omega
    have hany : anyN (adj bes y) = true := by
      obtain ⟨x, hx⟩ := hy
      exact anyN_iff.mpr ⟨x, by have := (adj_lt hO hx).2.1; omega, hx⟩
    obtain ⟨l1, l2, -⟩ := leastN_spec hany
    have hx0 : leastN (adj bes y) ∈ ro := (r2 _).mpr (by rw [hadj]; exact l2)
    obtain ⟨t, t1, t2⟩ := rotN_hd hx0
    have hc : cnt (adj bes y) 20 = ro.length := cnt_mem r1 (fun x => by rw [r2 x, hadj]) hro20
    have hfw : ∀ p, p ∈ cd (rotN ro (leastN (adj bes y))) → fol s.1 p.1 y p.2 := fun p hp => r3 p.1 p.2 (rotN_cd.mem_iff.mp hp)
    have heq : tuB s.1 bes y = rotN ro (leastN (adj bes y)) := by
      unfold tuB
      rw [hc, t1, ← t2]
      refine itr_pd fun p hp => ?_
      refine fw_eq h.1 (hfw p ?_)
      rw [t1]
      have := pd_pre (x := leastN (adj bes y)) hp
      exact this
    rw [heq]
    exact ⟨rotN_nd r1, fun x => by rw [mem_rotN, r2 x, hadj], fun x z hxz => hfw (x, z) hxz, fun _ => ⟨t, t1, by rw [t2, hc]⟩⟩
  · have hc : cnt (adj bes y) 20 = 0 := by
      have := cnt_mem (p := adj bes y) (l := []) List.nodup_nil (fun x => ⟨fun z => absurd z List.not_mem_nil, fun z => absurd ⟨x, z⟩ hy⟩) (fun x hx => absurd hx List.not_mem_nil)
      exact this
    have : tuB s.1 bes y = [] := by unfold tuB; rw [hc]; rfl
    rw [this]
    exact ⟨List.nodup_nil, fun x => ⟨fun z => absurd z List.not_mem_nil, fun z => absurd ⟨x, z⟩ hy⟩, fun x z hxz => absurd hxz List.not_mem_nil, fun z => absurd z hy⟩
