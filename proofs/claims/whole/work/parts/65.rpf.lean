/-! ===== Reference: a part laid, a block laid ===== -/
theorem repS_sub {bes dl : gE} : ∀ {l : gE} {sn : Nat → Bool}, (repS bes dl l sn).Sublist l
  | [], _ => List.Sublist.refl _
  | f :: l, sn => by
    rw [repS]
    split
    · exact List.Sublist.cons _ repS_sub
    · exact List.Sublist.cons_cons _ repS_sub
def lpL : List Nat := [244, 246, 247, 248, 251, 252, 253]
def lpF : List Nat := [26, 28, 35, 36, 37]
section RPF
variable {d : Nat} {Q : fl_R} {W : fl_W} {V : Nat} {es bes : gE} {s : List (List Nat) × gE}
theorem rf_lp_12 {p a : Nat} {v2 : Int32} {q : Nat → Bool} (hp : p < 61) (hq : BS (W 250 p) q) (ha : a < 20) (hqa : q a = true) (hmin : ∀ j, j < a → q j = false) (h : fl_cal d 143 [.ref 229] W (fl_q1 fun x1 W2 => fl_cal d 142 [.ref 229, .int (nI a), .int ((W 250 p) &&& (((Int32.ofInt 1) <<< (nI a &&& 31)) ^^^ (Int32.ofInt (-1)))), .int (x1 &&& ((W2 229 28) ^^^ (Int32.ofInt (-1)))), .int (nI p), .int (Int32.ofInt (-1))] W2 (fl_q1 fun x2 W3 => fl_cal d 144 [.ref 229, .int (nI a), .int x2] W3 (fl_q0 fun W4 => vp_in v2 60 ∧ (hd_150_81 d Q v2 (nI a) x2 (W4 247 v2.toNatClampNeg) (Int32.ofInt 0) W4))))) : ∀ (n i : Nat), a - i = n → i ≤ a → hd_150_12 d Q (nI p) v2 (nI i) W := by
  intro n
  induction n with
  | zero =>
    intro i h1 h2
    have hi : i = a := by omega
    subst hi
    refine sx_150_12 _ _ _ W ⟨in_N hp (by omega), ?_⟩
    rw [nI_clamp (by omega)]
    refine ⟨fun z => ?_, fun _ => ⟨in_N hp (by omega), h⟩⟩
    have := (sb_ask (by omega) (W 250 p)).mp z
    rw [hq.lo i ha, hqa] at this
    cases this
  | succ n ih =>
    intro i h1 h2
    refine sx_150_12 _ _ _ W ⟨in_N hp (by omega), ?_⟩
    rw [nI_clamp (by omega)]
    refine ⟨fun _ => ?_, fun z => absurd ((sb_ask (by omega) (W 250 p)).mpr ?_) z⟩
    · rw [ci_1, nI_add]; exact ih (i + 1) (by omega) (by omega)
    · rw [hq.lo i (by omega)]; exact hmin i (by omega)
/-- layPart -/
theorem rf_layPart {p ri : Nat} {g : Nat × Nat} (h2 : TwoC bes) (hsl : bes.Sublist es) (hG : RfG W V es) (hH : HR W es bes) (hR : RRg W s.1) (hL : RLd W es s.2) (hP : RPt W es bes s.2 (reps bes s.2)) (hLI : LI V bes s) (hp : (reps bes s.2)[p]? = some g) (hf : fst1 bes s.2 s.1 g = some ri)
    (h : ∀ W', RRg W' (stp bes s g).1 → RLd W' es (stp bes s g).2 → EqF lpF lpL W W' → Q none W') : fl_cal (d + 3) 150 [.ref 229, .int (nI p)] W Q := by
  have hV := hG.1
  have hE := hG.2.1
  have hO := hG.2.2.1
  have hOb : okE V bes := okE_sub hO hsl
  have hgm := reps_mem (List.mem_of_getElem? hp)
  obtain ⟨hL', R, a, b, ws, hwo, hwr, hRr, haR, hbR, hst, l1, l2⟩ := li_stp hV hOb h2 hLI hgm.1 hgm.2 hf
  have hps : p < (reps bes s.2).length := (List.getElem?_eq_some_iff.mp hp).1
  have hpl : (reps bes s.2).length ≤ 60 := by
    have h3 : (reps bes s.2).length ≤ bes.length := repS_len
    have := hsl.length_le
    omega
  have ha20 := hwr.2.2.2.2.1 a (by simp)
  have hb20 := hwr.2.2.2.2.1 b (by simp)
  have hws20 : ∀ x ∈ ws, x < 20 := fun x hx => hwr.2.2.2.2.1 x (by simp [hx])
  have hwl : ws.length + 2 ≤ 20 := by
    have := nd_le 20 hwr.2.2.2.1 hwr.2.2.2.2.1
    simpa using this
  have haw : a ∉ ws := fun z => by
    have := hwr.2.2.2.1
    rw [List.nodup_cons, List.nodup_append] at this
    exact this.2.2.2 a z a (by simp) rfl
  have h36 := hLI.rs36 hOb
  have hri := (List.getElem?_eq_some_iff.mp hRr).1
  have hRm := List.mem_of_getElem? hRr
  have hRn := hLI.1.2.2.1 R hRm
  obtain ⟨rg1, rg2, rg3, rg4⟩ := hR.2.2 ri R hRr
  have hR3 := hLI.2.2.2.1 R hRm
  have hla : leastN (feet bes s.2 g) = a := by rw [← wayO_fst, hwo]
  have hany : anyN (feet bes s.2 g) = true := anyN_iff.mpr ⟨a, ha20, hwr.2.1⟩
  obtain ⟨-, -, hmin⟩ := leastN_spec hany
  rw [hla] at hmin
  have hq := hP.2.1 p g hp
  refine sx_150 _ W (rf_fit (by omega) hR hq fun W1 k1 k2 k3 => ?_)
  have hfs : fitF (feet bes s.2 g) s.1 0 = some ri := hf
  rw [hfs] at k1
  show hd_150_12 (d + 2) Q (nI p) (W1 229 36) (Int32.ofInt 0) W1
  rw [k1, ci_0]
  show hd_150_12 (d + 2) Q (nI p) (nI ri) (nI 0) W1
  have f1 : EqF lpF lpL W W1 := k3.mono (by decide) (by decide)
  have hG1 := hG.fr f1 (by decide) (by decide) (by decide) (by decide)
  have hH1 := hH.fr f1 (by decide) (by decide) (by decide)
  have hq1 : BS (W1 250 p) (feet bes s.2 g) := by rw [k3.1 250 (by decide) (by decide)]; exact hq
  have h28 : BS (W1 229 28) (lvO s.2) := by rw [k3.2 28 (by decide)]; exact hL.1
  refine rf_lp_12 (by omega) hq1 ha20 hwr.2.1 hmin ?_ a 0 (by omega) (Nat.zero_le _)
  refine rf_allV hG1 fun x1 hx1 => ?_
  have hpw : (reps bes s.2).Pairwise fun g g' => ∀ v, v < 20 → inc g' v = true → lvO s.2 v = false → innr bes s.2 g v = false := repS_pw (bes := bes) (dl := s.2) (l := bes) (sn := fun _ => false)
  have hndr : (reps bes s.2).Nodup := hOb.2.sublist repS_sub
  have hbfs := way_ref hV hO hsl hgm.1 hgm.2 hwr hwo
  refine rf_find (okP := fun f => decide (f ∈ bes) && prtE bes s.2 g f) (gs := fun v => feet bes s.2 g v && decide (v ≠ a)) (th := fun v => decide (v < V) && !lvO s.2 v) (A := fun x u => adj es u x && (decide ((min u x, max u x) ∈ bes) && prtE bes s.2 g (min u x, max u x)) && ((feet bes s.2 g u && decide (u ≠ a)) || (decide (u < V) && !lvO s.2 u))) hG1 hH1 ha20 ?_ ?_ (fun j f hj => ?_) (fun x u _ => rfl) (fun W2 c t' m1 m2 m3 m4 => ?_) (by rw [hbfs]; exact fun z => by cases z)
  · rw [ci_m]
    exact (hq1.and (BS.one ha20).lo.not).lo.congr fun v _ => by simp
  · rw [ci_m]
    exact (hx1.and h28.lo.not).lo
  · have hjl := (List.getElem?_eq_some_iff.mp hj).1
    have e249 : W1 249 = W 249 := k3.1 249 (by decide) (by decide)
    rw [Bool.and_eq_true, decide_eq_true_eq, e249]
    constructor
    · rintro ⟨e1, e2⟩
      refine ⟨fun z => nI_nm (by omega) z, e1, Or.inr ?_⟩
      rcases hP.2.2 j f hj with ⟨-, q2⟩ | ⟨k, g', q1, q2, q3, q4⟩
      · rw [q2 g (List.mem_of_getElem? hp) e1] at e2; cases e2
      · by_cases ek : k = p
        · rw [q2, ek]
        · exfalso
          have hg'm := reps_mem (List.mem_of_getElem? q1)
          have hne : g ≠ g' := fun e => ek ((List.getElem?_inj (List.getElem?_eq_some_iff.mp q1).1 hndr).mp (by rw [q1, hp, e]))
          obtain ⟨kl, ke⟩ := List.getElem?_eq_some_iff.mp q1
          obtain ⟨pl, pe⟩ := List.getElem?_eq_some_iff.mp hp
          rcases Nat.lt_or_ge k p with hlt | hge
          · have := List.pairwise_iff_getElem.mp hpw k p kl pl hlt
            rw [ke, pe] at this
            exact prt_dis hV hOb hg'm.1 hgm.1 (Ne.symm hne) this q3 q4 e2
          · have := List.pairwise_iff_getElem.mp hpw p k pl kl (by omega)
            rw [ke, pe] at this
            exact prt_dis hV hOb hgm.1 hg'm.1 hne this q3 e2 q4
    · rintro ⟨-, e1, e2⟩
      refine ⟨e1, ?_⟩
      have e2 := e2.resolve_left (nI_nm (by omega))
      rcases hP.2.2 j f hj with ⟨q1, -⟩ | ⟨k, g', q1, q2, q3, q4⟩
      · rw [q1] at e2
        exact absurd e2.symm (nI_nm (by omega))
      · have hkl := (List.getElem?_eq_some_iff.mp q1).1
        rw [q2, nI_eq (by omega) (by omega)] at e2
        rw [e2, hp] at q1
        cases q1
        exact q4
  rw [hbfs] at m1
  cases m1
  refine rf_tw ha20 hb20 m3 haw hws20 (by omega) fun W4 n1 n2 n3 => ⟨in_N (by omega) (by omega), ?_⟩
  have f4 : EqF lpF lpL W W4 := (f1.tr (m4.mono (by decide) (by decide))).tr (n3.mono (by decide) (by decide))
  have e246 : W4 246 = W 246 := by rw [n3.1 246 (by decide) (by decide), m4.1 246 (by decide) (by decide), k3.1 246 (by decide) (by decide)]
  have e247 : W4 247 = W 247 := by rw [n3.1 247 (by decide) (by decide), m4.1 247 (by decide) (by decide), k3.1 247 (by decide) (by decide)]
  have e26 : W4 229 26 = nI s.1.length := by rw [n3.2 26 (by decide), m4.2 26 (by decide), k3.2 26 (by decide)]; exact hR.2.1
  have e28 : BS (W4 229 28) (lvO s.2) := by rw [n3.2 28 (by decide), m4.2 28 (by decide)]; exact h28
  have e248 : ∀ j f, es[j]? = some f → W4 248 j = if f ∈ s.2 then 1 else 0 := fun j f hj => by rw [n3.1 248 (by decide) (by decide), m4.1 248 (by decide) (by decide), k3.1 248 (by decide) (by decide)]; exact hL.2 j f hj
  rw [nI_clamp (by omega), e247, rg3, ci_0]
  refine rf_lp_81 (R := R) rfl rg1 (by omega) R.length 0 W4 (by omega) (Nat.zero_le _) (fun j x hj => by rw [e246]; exact rg4 j x hj) (fun j x hj => by omega) fun W5 p1 p2 => ?_
  refine rf_lp_116 rg1 rg2 ha20 haR p1 ?_ (R.idxOf a) 0 (by omega) (Nat.zero_le _)
  have e246' : W5 246 = W 246 := by rw [p2.1 246 (by decide) (by decide)]; exact e246
  have hia := List.idxOf_lt_length_of_mem haR
  have hib := List.idxOf_lt_length_of_mem hbR
  refine rf_lp_140 (R := R) rfl rg1 (by omega) (by omega) rg2 ha20 hb20 (rotN R a) [] (R.idxOf a) W5 (fun t x ht => ?_) hia (mem_rotN.mpr hbR) (by rw [rotN_len]; simpa using rg1) p1 (fun j x hj => by simp at hj) fun W6 k' r1 r2 r3 r4 => ?_
  · have htl := (List.getElem?_eq_some_iff.mp ht).1
    rw [rotN_len] at htl
    rw [← rot_at haR htl]; exact ht
  rw [List.nil_append] at r2 ⊢
  have hkb : k' = R.idxOf b := (List.getElem?_inj (List.getElem?_eq_some_iff.mp r1).1 hRn).mp (r1.trans (idx_at hbR).symm)
  have e35 : W6 229 35 = nI ws.reverse.length := by rw [r4.2 35 (by decide), p2.2 35 (by decide), n1, List.length_reverse]
  have h252 : ∀ i x, ws.reverse[i]? = some x → W6 252 i = nI x := fun i x hi => by rw [r4.1 252 (by decide) (by decide), p2.1 252 (by decide) (by decide)]; exact n2 i x hi
  rw [e35, ci_1]
  refine rf_lp_211 (a := a) (b0 := b) (by omega) ws.reverse.length _ W6 ws.reverse rfl (by rw [List.length_reverse]; exact l1) h252 r2 fun W7 s1 s2 s3 W8 e8 => ?_
  rw [List.reverse_reverse] at s1 e8
  have f8 : EqF [] [246, 247] W6 W8 := by
    rw [e8]
    exact (s3.mono (by simp) (by simp)).tr (EqF.uwA (by simp) (by decide))
  have h253 : ∀ j x, R[j]? = some x → W8 253 j = nI x := fun j x hj => by rw [f8.1 253 (by decide) (by decide), r4.1 253 (by decide) (by decide)]; exact p1 j x hj
  have g26 : W8 229 26 = nI s.1.length := by rw [f8.2 26 (by decide), r4.2 26 (by decide), p2.2 26 (by decide)]; exact e26
  rw [hkb]
  refine rf_lp_255 (R := R) (ri := s.1.length) rfl rg1 (by omega) (by omega) rg2 ha20 hb20 (rotN R b) [] (R.idxOf b) W8 (fun t x ht => ?_) hib (mem_rotN.mpr haR) (by rw [rotN_len]; simpa using rg1) h253 g26 (fun j x hj => by simp at hj) fun W9 t1 t2 t3 => ?_
  · have htl := (List.getElem?_eq_some_iff.mp ht).1
    rw [rotN_len] at htl
    rw [← rot_at hbR htl]; exact ht
  rw [List.nil_append] at t1 ⊢
  have f9 : EqF [] [246, 247] W6 W9 := f8.tr (t3.mono (by simp) (by simp))
  refine rf_lp_325 (wr := ws.reverse) (ri := s.1.length) (by omega) (by rw [List.length_reverse]; omega) ws.reverse.length 0 _ W9 (by omega) (Nat.zero_le _) (by rw [Nat.sub_zero, List.length_reverse]; exact l2) (by rw [f9.2 35 (by decide)]; exact e35) (by rw [t3.2 26 (by decide)]; exact g26) (fun i x hi => by rw [f9.1 252 (by decide) (by decide)]; exact h252 i x hi) t1 fun W11 u1 u2 u3 W12 e12 W13 e13 => ?_
  rw [List.drop_zero] at u1 e12
  have f13 : EqF [26] [246, 247] W6 W13 := by
    rw [e13, e12]
    exact (((f9.mono (by simp) (by simp)).tr (u3.mono (by simp) (by simp))).tr (EqF.uwA (by simp) (by decide))).tr (EqF.uwF (by simp))
  have fA : EqF lpF lpL W W13 := ((f4.tr (p2.mono (by decide) (by decide))).tr (r4.mono (by decide) (by decide))).tr (f13.mono (by decide) (by decide))
  have hG13 := hG.fr fA (by decide) (by decide) (by decide) (by decide)
  have hwy : ∀ f, f ∈ wyE (b :: (ws ++ [a])) → f ∈ bes ∧ f ∉ s.2 := hwr.2.2.2.2.2.2
  have hrv : a :: (ws.reverse ++ [b]) = (b :: (ws ++ [a])).reverse := by simp
  -- what the rows are
  have q246 : ∀ i m, m < 20 → i ≠ ri → i ≠ s.1.length → W13 246 (20 * i + m) = W 246 (20 * i + m) := fun i m hm i1 i2 => by
    rw [e13, uw_n (by decide), e12, uw_n (by decide), u2 i m i2 hm, t2 i m i2 hm, e8, uw_n (by decide), s2 i m i1 hm, r3 i m i1 hm, e246']
  have rw1 : ∀ j x, (arcN (rotN R a) b ++ ws)[j]? = some x → W13 246 (20 * ri + j) = nI x := fun j x hj => by
    have hjl := (List.getElem?_eq_some_iff.mp hj).1
    rw [List.length_append] at hjl
    rw [e13, uw_n (by decide), e12, uw_n (by decide), u2 ri j (by omega) (by omega), t2 ri j (by omega) (by omega), e8, uw_n (by decide)]
    exact s1 j x hj
  have rw2 : ∀ j x, (arcN (rotN R b) a ++ ws.reverse)[j]? = some x → W13 246 (20 * s.1.length + j) = nI x := fun j x hj => by
    rw [e13, uw_n (by decide), e12, uw_n (by decide)]
    exact u1 j x hj
  have q247 : ∀ i, i ≠ ri → i ≠ s.1.length → W13 247 i = W 247 i := fun i i1 i2 => by
    rw [e13, uw_n (by decide), e12, uw_m i2, u3.1 247 (by decide) (by decide), t3.1 247 (by decide) (by decide), e8, uw_m i1, s3.1 247 (by decide) (by decide), r4.1 247 (by decide) (by decide), p2.1 247 (by decide) (by decide), e247]
  have q247a : W13 247 ri = nI (arcN (rotN R a) b ++ ws).length := by
    rw [e13, uw_n (by decide), e12, uw_m (by omega), u3.1 247 (by decide) (by decide), t3.1 247 (by decide) (by decide), e8, uw_s]
  have q247b : W13 247 s.1.length = nI (arcN (rotN R b) a ++ ws.reverse).length := by
    rw [e13, uw_n (by decide), e12, uw_s]
  have hgD : s.1.getD ri [] = R := by rw [List.getD_eq_getElem?_getD, hRr]; rfl
  have hRRg : RRg W13 (stR s.1 ri a b ws) := by
    unfold stR
    rw [hgD]
    refine ⟨by simp; omega, ?_, fun i r hr => ?_⟩
    · rw [e13, uw_s]; simp
    · have hil := (List.getElem?_eq_some_iff.mp hr).1
      rw [List.length_append, List.length_set, List.length_singleton] at hil
      by_cases ei : i = s.1.length
      · subst ei
        rw [List.getElem?_append_right (by rw [List.length_set]; exact Nat.le_refl _)] at hr
        simp at hr
        rw [← hr]
        refine ⟨by rw [List.length_append, List.length_reverse]; exact l2, fun x hx => ?_, q247b, rw2⟩
        rcases List.mem_append.mp hx with z | z
        · exact rg2 x (mem_rotN.mp (arcN_sub.subset z))
        · exact hws20 x (List.mem_reverse.mp z)
      · rw [List.getElem?_append_left (by rw [List.length_set]; omega)] at hr
        by_cases ej : i = ri
        · subst ej
          rw [List.getElem?_set_self (by omega)] at hr
          cases hr
          refine ⟨by rw [List.length_append]; exact l1, fun x hx => ?_, q247a, rw1⟩
          rcases List.mem_append.mp hx with z | z
          · exact rg2 x (mem_rotN.mp (arcN_sub.subset z))
          · exact hws20 x z
        · rw [List.getElem?_set_ne (by omega)] at hr
          obtain ⟨c1, c2, c3, c4⟩ := hR.2.2 i r hr
          refine ⟨c1, c2, by rw [q247 i ej ei]; exact c3, fun j x hj => ?_⟩
          have hjl := (List.getElem?_eq_some_iff.mp hj).1
          rw [q246 i j (by omega) ej ei]
          exact c4 j x hj
  refine sx_151 _ _ W13 ?_
  rw [ci_0]
  refine rf_mw_l (wr := ws.reverse) hb20 (fun x hx => hws20 x (List.mem_reverse.mp hx)) (by rw [List.length_reverse]; omega) ws.reverse 0 a W13 s.2 (lvO s.2) (by simp) (Nat.zero_le _) hG13 (by rw [f13.2 35 (by decide)]; exact e35) (fun i x hi => by rw [f13.1 252 (by decide) (by decide)]; exact h252 i x hi) ha20 (fun f hf => ?_) (by rw [f13.2 28 (by decide), r4.2 28 (by decide), p2.2 28 (by decide)]; exact e28) (fun j f hj => by rw [f13.1 248 (by decide) (by decide), r4.1 248 (by decide) (by decide), p2.1 248 (by decide) (by decide)]; exact e248 j f hj) fun W14 v1 v2 v3 => ?_
  · rw [hrv] at hf
    obtain ⟨x, y, e, -, -⟩ := wyE_mem hf
    have hadj : adj (wyE (b :: (ws ++ [a])).reverse) f.1 f.2 = true := adj_iff.mpr (Or.inl hf)
    rw [wyE_adj, pd_rev, pd_rev] at hadj
    have h3 : adj (wyE (b :: (ws ++ [a]))) f.1 f.2 = true := wyE_adj.mpr hadj.symm
    have h4 := adj_wyE_mem h3
    have h5 : (min f.1 f.2, max f.1 f.2) = f := by rw [e]; exact Prod.ext (by simp only; omega) (by simp only; omega)
    rw [h5] at h4
    exact hsl.subset (hwy f h4).1
  · rw [hst] at h
    refine h W14 (hRRg.fr v3 (by decide) (by decide) (by decide)) ⟨v1.congr fun v hv => ?_, fun j f hj => ?_⟩ (fA.tr (v3.mono (by decide) (by decide)))
    · show _ = lvO (s.2 ++ wyE (b :: (ws ++ [a]))) v
      rw [wy_lv (wyR_WY hwr) v, Bool.eq_iff_iff]
      simp only [Bool.or_eq_true, List.contains_eq_mem, decide_eq_true_eq, List.mem_append, List.mem_reverse, List.mem_singleton]
      constructor
      · rintro (z | z | z)
        · exact Or.inl z
        · exact Or.inr z
        · rw [z]; exact Or.inl (feet_lv hwr.2.2.1)
      · rintro (z | z)
        · exact Or.inl z
        · exact Or.inr (Or.inl z)
    · rw [v2 j f hj]
      have hfo := hO.1 f (List.mem_of_getElem? hj)
      have : f ∈ s.2 ++ wyE (a :: (ws.reverse ++ [b])) ↔ f ∈ s.2 ++ wyE (b :: (ws ++ [a])) := by
        rw [List.mem_append, List.mem_append, hrv, wyE_rev hfo.1]
      simp only [this]
/-- layBlock's rounds -/
theorem rf_lb_l (h2 : TwoC bes) (hsl : bes.Sublist es) : ∀ (n f : Nat) (s : List (List Nat) × gE) (W : fl_W), bes.length - s.2.length ≤ n → n < f → RfG W V es → HR W es bes → RRg W s.1 → RLd W es s.2 → RPt W es bes s.2 (reps bes s.2) → LI V bes s →
    (∀ W' s', runB bes f s = some s'.1 → RRg W' s'.1 → LI V bes s' → s'.2.length = bes.length → EqF (32 :: lpF) (249 :: 250 :: lpL) W W' → Q (some (.int 1)) W') →
    (∀ W', runB bes f s = none → EqF (32 :: lpF) (249 :: 250 :: lpL) W W' → Q (some (.int 0)) W') → hd_152_18 (d + 3) Q W := by
  intro n
  induction n with
  | zero =>
    intro f s W h1 hf hG hH hR hL hP hLI hy h0
    have hOb : okE V bes := okE_sub hG.2.2.1 hsl
    obtain ⟨f, rfl⟩ : ∃ f', f = f' + 1 := ⟨f - 1, by omega⟩
    have hdl : s.2.length ≤ bes.length := nd_sub_len hLI.1.2.1 hLI.1.1
    have he : s.2.length = bes.length := by omega
    have hre := (reps_len hOb hLI.1.1 hLI.1.2.1).mpr he
    rw [runB, if_pos hre] at hy
    refine sx_152_18 W ⟨fun _ => hy W s rfl hR hLI he EqF.rf, fun z => absurd ?_ z⟩
    rw [hP.1, hre]; decide
  | succ n ih =>
    intro f s W h1 hf hG hH hR hL hP hLI hy h0
    have hV := hG.1
    have hOb : okE V bes := okE_sub hG.2.2.1 hsl
    have hdl : s.2.length ≤ bes.length := nd_sub_len hLI.1.2.1 hLI.1.1
    rcases Nat.lt_or_ge s.2.length bes.length with hlt | hge
    case inr => exact ih f s W (by omega) (by omega) hG hH hR hL hP hLI hy h0
    obtain ⟨f, rfl⟩ : ∃ f', f = f' + 1 := ⟨f - 1, by omega⟩
    have hne : reps bes s.2 ≠ [] := fun e => by
      have := (reps_len hOb hLI.1.1 hLI.1.2.1).mp e
      omega
    have hpos := List.length_pos_iff.mpr hne
    have hpl : (reps bes s.2).length ≤ 60 := by
      have h3 : (reps bes s.2).length ≤ bes.length := repS_len
      have := hsl.length_le
      have := hG.2.1
      omega
    rw [runB, if_neg hne] at hy h0
    refine sx_152_18 W ⟨fun z => absurd z ?_, fun _ => ?_⟩
    · rw [hP.1, i_le, nI_toInt (by omega), i_0]; omega
    · refine rf_next hne hpl hR hP.1 hP.2.1 (fun W1 k1 k2 => ⟨fun _ => ?_, fun z => absurd (by decide) z⟩) fun W1 k g k1 k2 k3 => ?_
      · rw [k1] at h0
        exact h0 W1 rfl (k2.mono (by decide) (by decide))
      · have hkl := (List.getElem?_eq_some_iff.mp k2).1
        rw [k1] at hy h0
        obtain ⟨gm, ri, hri⟩ := cho_some k1
        obtain ⟨g1, g2⟩ := reps_mem gm
        have hst := li_stp hV hOb h2 hLI g1 g2 hri
        refine ⟨fun z => absurd z (nI_pos (by omega)), fun _ => ?_⟩
        have hP1 : RPt W1 es bes s.2 (reps bes s.2) := ⟨by rw [k3.2 32 (by decide)]; exact hP.1, fun k g hk => by rw [k3.1 250 (by decide) (by decide)]; exact hP.2.1 k g hk, fun j f hj => by rw [k3.1 249 (by decide) (by decide)]; exact hP.2.2 j f hj⟩
        have f1 : EqF (32 :: lpF) (249 :: 250 :: lpL) W W1 := k3.mono (by decide) (by decide)
        have hG1 := hG.fr f1 (by decide) (by decide) (by decide) (by decide)
        have hH1 := hH.fr f1 (by decide) (by decide) (by decide)
        refine rf_layPart h2 hsl hG1 hH1 (hR.fr k3 (by decide) (by decide) (by decide)) (hL.fr k3 (by decide) (by decide)) hP1 hLI k2 hri fun W6 m1 m2 m3 => ?_
        have f6 : EqF (32 :: lpF) (249 :: 250 :: lpL) W W6 := f1.tr (m3.mono (by decide) (by decide))
        have hG6 := hG.fr f6 (by decide) (by decide) (by decide) (by decide)
        have hH6 := hH.fr f6 (by decide) (by decide) (by decide)
        refine rf_parts hsl hG6 hH6 m2 fun W7 n1 n2 => ?_
        have f7 : EqF (32 :: lpF) (249 :: 250 :: lpL) W W7 := f6.tr (n2.mono (by decide) (by decide))
        have hdec : s.2.length < (stp bes s g).2.length := by
          obtain ⟨-, R, a, b, ws, -, -, -, -, -, e, -⟩ := hst
          rw [e]
          show _ < (s.2 ++ wyE (b :: (ws ++ [a]))).length
          rw [List.length_append, wyE_len]
          simp
        exact ih f (stp bes s g) W7 (by omega) (by omega) (hG.fr f7 (by decide) (by decide) (by decide) (by decide)) (hH.fr f7 (by decide) (by decide) (by decide)) (m1.fr n2 (by decide) (by decide) (by decide)) (m2.fr n2 (by decide) (by decide)) n1 hst.1 (fun W' s' r1 r2 r3 r4 r5 => hy W' s' r1 r2 r3 r4 (f7.tr r5)) fun W' r1 r2 => h0 W' r1 (f7.tr r2)
def lbF : List Nat := 29 :: 32 :: lpF
def lbL : List Nat := 249 :: 250 :: lpL
/-- layBlock -/
theorem rf_layBlock {k : Nat} (h2 : TwoC bes) (hsl : bes.Sublist es) (hl1 : bes.length ≠ 1) (hb : bes ≠ []) (hG : RfG W V es) (hH : ∀ j g, es[j]? = some g → (g ∈ bes ↔ (W 232 j ≠ 0 ∧ W 233 j = nI k)))
    (hy : ∀ W' s', layB bes = some s'.1 → RRg W' s'.1 → LI V bes s' → s'.2.length = bes.length → EqF lbF lbL W W' → Q (some (.int 1)) W')
    (h0 : ∀ W', layB bes = none → EqF lbF lbL W W' → Q (some (.int 0)) W') : fl_cal (d + 4) 152 [.ref 229, .int (nI k)] W Q := by
  have hV := hG.1
  have hOb : okE V bes := okE_sub hG.2.2.1 hsl
  obtain ⟨g, t, rfl⟩ : ∃ g t, bes = g :: t := by
    cases bes with
    | nil => exact absurd rfl hb
    | cons g t => exact ⟨g, t, rfl⟩
  have ht : t ≠ [] := fun e => hl1 (by rw [e]; rfl)
  refine sx_152 _ W fun W1 e1 => ?_
  have f1 : EqF lbF lbL W W1 := by rw [e1]; exact EqF.uwF (by decide)
  have hG1 := hG.fr f1 (by decide) (by decide) (by decide) (by decide)
  have hH1 : ∀ j f, es[j]? = some f → (f ∈ g :: t ↔ (W1 232 j ≠ 0 ∧ W1 233 j = nI k)) := fun j f hj => by rw [f1.1 232 (by decide) (by decide), f1.1 233 (by decide) (by decide)]; exact hH j f hj
  have hHR : HR W1 es (g :: t) := fun j f hj => by
    rw [show W1 229 29 = nI k by rw [e1, uw_s]]
    exact hH1 j f hj
  refine rf_least hG1 hsl rfl hH1 fun j0 hj0 => ?_
  refine rf_first (lo := g.1) (hi := g.2) (t := t) h2 rfl ht hsl hj0 hG1 hHR fun W3 k1 k2 k3 => ?_
  have f3 : EqF lbF lbL W W3 := f1.tr (k3.mono (by decide) (by decide))
  have hG3 := hG.fr f3 (by decide) (by decide) (by decide) (by decide)
  have hH3 := hHR.fr k3 (by decide) (by decide) (by decide)
  refine rf_parts hsl hG3 hH3 k2 fun W4 m1 m2 => ?_
  have f4 : EqF lbF lbL W W4 := f3.tr (m2.mono (by decide) (by decide))
  have hlen : (g :: t).length ≤ 60 := Nat.le_trans hsl.length_le hG.2.1
  refine rf_lb_l h2 hsl 60 61 (st0 (g :: t) g.1 g.2) W4 (by omega) (by omega) (hG.fr f4 (by decide) (by decide) (by decide) (by decide)) (hH3.fr m2 (by decide) (by decide) (by decide)) (k1.fr m2 (by decide) (by decide) (by decide)) (k2.fr m2 (by decide) (by decide)) m1 (li_st0 (lo := g.1) (hi := g.2) (t := t) hV hOb h2 rfl ht) (fun W' s' r1 r2 r3 r4 r5 => hy W' s' r1 r2 r3 r4 (f4.tr (r5.mono (by decide) (by decide)))) fun W' r1 r2 => h0 W' r1 (f4.tr (r2.mono (by decide) (by decide)))
end RPF
