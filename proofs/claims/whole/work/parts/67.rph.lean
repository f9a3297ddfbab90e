/-! ===== Reference: all blocks laid ===== -/
def laF : List Nat := 6 :: 22 :: lbF
def laL0 : List Nat := mbL ++ lbL
def laL : List Nat := 234 :: 235 :: 254 :: laL0
/-- what layAll leaves; the turn stays if it isn't to be kept -/
def FrK (kp : Int32) (W W' : fl_W) : Prop := EqF laF laL W W' ∧ (kp = 0 → EqF laF laL0 W W')
theorem FrK.tr {kp : Int32} {W W' W'' : fl_W} (h1 : FrK kp W W') (h2 : FrK kp W' W'') : FrK kp W W'' := ⟨h1.1.tr h2.1, fun z => (h1.2 z).tr (h2.2 z)⟩
theorem FrK.rf {kp : Int32} {W : fl_W} : FrK kp W W := ⟨EqF.rf, fun _ => EqF.rf⟩
theorem FrK.of {kp : Int32} {W W' : fl_W} {fs l : List Nat} (h : EqF fs l W W') (h1 : ∀ a ∈ fs, a ∈ laF) (h2 : ∀ a ∈ l, a ∈ laL0) : FrK kp W W' := ⟨h.mono h1 fun a ha => List.mem_cons_of_mem _ (List.mem_cons_of_mem _ (List.mem_cons_of_mem _ (h2 a ha))), fun _ => h.mono h1 h2⟩
section RPH
variable {d : Nat} {Q : fl_R} {W : fl_W} {V : Nat} {es : gE} {P : Nat → Bool}
/-- the turns of one block -/
theorem rf_la_t {k : Nat} {bes : gE} {kp : Int32} {R T : Nat → List Nat} (hsl : bes.Sublist es) (hT1 : ∀ v, v < V → (T v).Nodup ∧ (∀ x, x ∈ T v ↔ adj bes v x = true) ∧ ∀ x0 t, T v = x0 :: t → ∀ x, x ∈ T v → x0 ≤ x) (hlen : ∀ v, v < V → (R v).length + (T v).length ≤ 20) :
    ∀ (n i : Nat) (W : fl_W), V - i = n → i ≤ V → RfG W V es → (∀ j g, es[j]? = some g → (g ∈ bes ↔ (W 232 j ≠ 0 ∧ W 233 j = nI k))) → (∀ v, v < V → ∀ x z, (x, z) ∈ cd (T v) → W 254 (20 * v + x) = nI z) → RT W V (fun u => if u < i then R u ++ T u else R u) →
    (∀ W', RT W' V (fun u => R u ++ T u) → EqF [] [234, 235] W W' → hd_153_33 (d + 2) Q kp (nI (k + 1)) W') → hd_153_158 (d + 2) Q kp (nI k) (nI i) W := by
  intro n
  induction n with
  | zero =>
    intro i W h1 h2 hG hH hcd hT h
    have hV := hG.1
    refine sx_153_158 _ _ _ W ⟨fun q => absurd q ?_, fun _ => ?_⟩
    · rw [hG.2.2.2.1]; exact nI_nlt (by omega) (by omega)
    · rw [ci_1, nI_add]
      refine h W (fun u hu => ?_) EqF.rf
      have := hT u hu
      simpa [show u < i by omega] using this
  | succ n ih =>
    intro i W h1 h2 hG hH hcd hT h
    have hV := hG.1
    have hi : i < V := by omega
    obtain ⟨t1, t2, t3⟩ := hT1 i hi
    refine sx_153_158 _ _ _ W ⟨fun _ => ?_, fun q => absurd ?_ q⟩
    · refine rf_turnOf (l := T i) hi hG hsl hH t1 t2 t3 (hcd i hi) hT (by simp only [Nat.lt_irrefl, if_false]; exact hlen i hi) fun W1 k1 k2 => ?_
      show hd_153_158 (d + 2) Q kp (nI k) (nI i + Int32.ofInt 1) W1
      rw [ci_1, nI_add]
      refine ih (i + 1) W1 (by omega) (by omega) (hG.fr k2 (by decide) (by decide) (by decide) (by decide)) (fun j g hj => by rw [k2.1 232 (by decide) (by decide), k2.1 233 (by decide) (by decide)]; exact hH j g hj) (fun v hv x z hxz => by rw [k2.1 254 (by decide) (by decide)]; exact hcd v hv x z hxz) (fun u hu => ?_) fun W' j1 j2 => h W' j1 (k2.tr j2)
      have := k1 u hu
      by_cases e : u = i
      · subst e
        simpa using this
      · have e2 : (u < i + 1) = (u < i) := by rw [eq_iff_iff]; omega
        simpa [e, e2] using this
    · rw [hG.2.2.2.1]; exact nI_lt hi (by omega)
theorem rf_la_l {L : Nat × Nat → Nat} {kp : Int32} (hB : BlkOK V (prs P 0 es) L) : ∀ (n k : Nat) (W : fl_W) (R : Nat → List Nat), bcnt (prs P 0 es) L - k = n → k ≤ bcnt (prs P 0 es) L → RfG W V es → PrR W P es.length → W 229 6 = nI (bcnt (prs P 0 es) L) → (∀ j g, es[j]? = some g → W 233 j = if P j then nI (bnum (prs P 0 es) L g) else -1) → layK (prs P 0 es) (bnum (prs P 0 es) L) k = some R → (kp ≠ 0 → RT W V R) →
    (∀ W' R', layK (prs P 0 es) (bnum (prs P 0 es) L) (bcnt (prs P 0 es) L) = some R' → (kp ≠ 0 → RT W' V R') → FrK kp W W' → Q (some (.int 1)) W') →
    (∀ W', layK (prs P 0 es) (bnum (prs P 0 es) L) (bcnt (prs P 0 es) L) = none → FrK kp W W' → Q (some (.int 0)) W') → hd_153_33 (d + 4) Q kp (nI k) W := by
  have hbcl : bcnt (prs P 0 es) L ≤ es.length := by
    have h1 : bcnt (prs P 0 es) L ≤ (prs P 0 es).length := by
      unfold bcnt
      have hn := dst_nd ((prs P 0 es).map L) [] List.nodup_nil
      have := nd_sub_len (l := dst [] ((prs P 0 es).map L)) (m := (prs P 0 es).map L) hn fun x hx => ((dst_mem _ _ _).mp hx).resolve_left List.not_mem_nil
      rwa [List.length_map] at this
    exact Nat.le_trans h1 prs_sub.length_le
  intro n
  induction n with
  | zero =>
    intro k W R h1 h2 hG hP h6 h233 hK hT hy h0
    have hE := hG.2.1
    have hk : k = bcnt (prs P 0 es) L := by omega
    subst hk
    refine sx_153_33 _ _ W ⟨fun q => absurd q ?_, fun _ => hy W R hK hT FrK.rf⟩
    rw [h6]; exact nI_nlt (Nat.le_refl _) (by omega)
  | succ n ih =>
    intro k W R h1 h2 hG hP h6 h233 hK hT hy h0
    have hV := hG.1
    have hE := hG.2.1
    have hO := hG.2.2.1
    have hOf : okE V (prs P 0 es) := prs_ok hO
    have hkb : k < bcnt (prs P 0 es) L := by omega
    have hsl : (blkE (prs P 0 es) (bnum (prs P 0 es) L) k).Sublist es := List.filter_sublist.trans prs_sub
    have hOb : okE V (blkE (prs P 0 es) (bnum (prs P 0 es) L) k) := okE_sub hO hsl
    have h2C : TwoC (blkE (prs P 0 es) (bnum (prs P 0 es) L) k) := blk_TwoC hOf hB k
    obtain ⟨g0, gm, gk⟩ := bnum_ex hkb
    have hbne : blkE (prs P 0 es) (bnum (prs P 0 es) L) k ≠ [] := fun e => by
      have : g0 ∈ blkE (prs P 0 es) (bnum (prs P 0 es) L) k := List.mem_filter.mpr ⟨gm, by simp [gk]⟩
      rw [e] at this
      exact absurd this List.not_mem_nil
    have hbl : (blkE (prs P 0 es) (bnum (prs P 0 es) L) k).length ≤ es.length := hsl.length_le
    have hH : ∀ j g, es[j]? = some g → (g ∈ blkE (prs P 0 es) (bnum (prs P 0 es) L) k ↔ (W 232 j ≠ 0 ∧ W 233 j = nI k)) := fun j g hj => by
      have hjl := (List.getElem?_eq_some_iff.mp hj).1
      have hgf : g ∈ prs P 0 es ↔ P j = true := by
        rw [mem_prs]
        constructor
        · rintro ⟨j', e1, e2⟩
          rw [Nat.zero_add] at e2
          have := (List.getElem?_inj (List.getElem?_eq_some_iff.mp e1).1 hO.2).mp (e1.trans hj.symm)
          rw [← this]; exact e2
        · intro e; exact ⟨j, hj, by rw [Nat.zero_add]; exact e⟩
      rw [hP j hjl, h233 j g hj, blkE, List.mem_filter, hgf, decide_eq_true_eq]
      cases hPj : P j with
      | false => simp
      | true =>
        have hb := bnum_lt (L := L) (hgf.mpr hPj)
        simp only [true_and, if_true]
        rw [nI_eq (by omega) (by omega)]
        exact ⟨fun e => ⟨by decide, e⟩, fun e => e.2⟩
    have hroom : ∀ (T : Nat → List Nat), lay1 (blkE (prs P 0 es) (bnum (prs P 0 es) L) k) = some T → ∀ y, (R y).length + (T y).length ≤ 20 := fun T hT1 y => by
      have := layK_ok hV hOf hB (k + 1) (fun y => R y ++ T y) (by rw [layK, hK, hT1]; rfl) y
      have hn := nd_le 20 this.1 fun x hx => by
        have h3 := (this.2 x).mp hx
        have := (adj_lt (okE_sub hOf List.filter_sublist) h3).2.1
        omega
      rwa [List.length_append] at hn
    generalize hbes : blkE (prs P 0 es) (bnum (prs P 0 es) L) k = bes at *
    -- on with the next
    have next : ∀ (W' : fl_W) (T : Nat → List Nat), lay1 bes = some T → (kp ≠ 0 → RT W' V (fun u => R u ++ T u)) → EqF (26 :: lbF) (234 :: 235 :: 254 :: lbL) W W' → (kp = 0 → EqF lbF lbL W W') → hd_153_33 (d + 4) Q kp (nI (k + 1)) W' := fun W' T hT1 hT' hE' hE0 => by
      have hE2 : FrK kp W W' := ⟨hE'.mono (by decide) (by decide), fun z => (hE0 z).mono (by decide) (by decide)⟩
      refine ih (k + 1) W' (fun y => R y ++ T y) (by omega) (by omega) (hG.fr hE' (by decide) (by decide) (by decide) (by decide)) (fun i hi => by rw [hE'.1 232 (by decide) (by decide)]; exact hP i hi) (by rw [hE'.2 6 (by decide)]; exact h6) (fun j g hj => by rw [hE'.1 233 (by decide) (by decide)]; exact h233 j g hj) (by rw [layK, hK, hbes, hT1]; rfl) hT' (fun W'' R' j1 j2 j3 => hy W'' R' j1 j2 (hE2.tr j3)) fun W'' j1 j2 => h0 W'' j1 (hE2.tr j2)
    refine sx_153_33 _ _ W ⟨fun _ => rf_size hG hsl hH ⟨fun z => ⟨fun w => absurd w (by decide), fun _ => ⟨fun z2 => ?_, fun z2 => ⟨fun w => absurd w (by decide), fun _ => ?_⟩⟩⟩, fun z => ⟨fun _ => ?_, fun w => absurd rfl w⟩⟩, fun q => absurd ?_ q⟩
    · -- a single edge, not kept
      rw [ci_1, nI_eq (by omega) (by omega)] at z
      rw [ci_1, nI_add]
      exact next W _ (by unfold lay1; rw [if_pos z]) (fun w => absurd z2 w) EqF.rf (fun _ => EqF.rf)
    · -- a single edge
      rw [ci_1, nI_eq (by omega) (by omega)] at z
      obtain ⟨g, hg⟩ := List.length_eq_one_iff.mp z
      have hl1 : lay1 bes = some (t1e bes) := by unfold lay1; rw [if_pos z]
      refine rf_least hG hsl hg hH fun j hj => ?_
      have hjl := (List.getElem?_eq_some_iff.mp hj).1
      obtain ⟨c1, c2⟩ := hG.2.2.2.2.2 j g hj
      have hgo := hO.1 g (List.mem_of_getElem? hj)
      have hj61 : vp_in (nI j) 61 := in_N (by omega) (by omega)
      refine ⟨hj61, hj61, hj61, ?_⟩
      rw [nI_clamp (show j < 2 ^ 31 by omega), c1, c2, cb_20, i20 (by omega) (by omega), nI_clamp (by omega)]
      refine ⟨in_N (by omega) (by omega), fun W14 e14 => ⟨hj61, hj61, hj61, ?_⟩⟩
      have d1 : W14 230 j = nI g.1 := by rw [e14, uw_n (by decide)]; exact c1
      have d2 : W14 231 j = nI g.2 := by rw [e14, uw_n (by decide)]; exact c2
      rw [d1, d2, i20 (by omega) (by omega), nI_clamp (by omega)]
      refine ⟨in_N (by omega) (by omega), fun W15 e15 => ?_⟩
      have f15 : EqF [] [254] W W15 := by rw [e15, e14]; exact (EqF.uwA (by simp) (by decide)).tr (EqF.uwA (by simp) (by decide))
      have hok := lay1_ok hV hOb h2C hl1
      rw [ci_0]
      have h254a : W15 254 (20 * g.1 + g.2) = nI g.2 := by rw [e15, uw_m (by omega), e14, uw_s]
      have h254b : W15 254 (20 * g.2 + g.1) = nI g.1 := by rw [e15, uw_s]
      have tl1 : ∀ v, t1e bes v = if v = g.1 then [g.2] else if v = g.2 then [g.1] else [] := fun v => by rw [hg]; rfl
      refine rf_la_t (bes := bes) (R := R) (T := t1e bes) hsl (fun v hv => ⟨(hok v).1, (hok v).2, fun x0 t e x hx => ?_⟩) (fun v hv => hroom _ hl1 v) V 0 W15 (by omega) (Nat.zero_le _) (hG.fr f15 (by decide) (by decide) (by decide) (by decide)) (fun j g hj => by rw [f15.1 232 (by decide) (by decide), f15.1 233 (by decide) (by decide)]; exact hH j g hj) (fun v hv x z' hxz => ?_) (fun u hu => by simpa using ((hT z2).fr f15 (by decide) (by decide)) u hu) fun W' j1 j2 => next W' _ hl1 (fun _ => j1) ((f15.mono (by decide) (by decide)).tr (j2.mono (by decide) (by decide))) (fun w => absurd w z2)
      · rw [tl1 v] at e hx
        by_cases e1 : v = g.1
        · rw [if_pos e1] at e hx
          simp only [List.cons.injEq] at e
          rw [List.mem_singleton] at hx
          omega
        · rw [if_neg e1] at e hx
          by_cases e2 : v = g.2
          · rw [if_pos e2] at e hx
            simp only [List.cons.injEq] at e
            rw [List.mem_singleton] at hx
            omega
          · rw [if_neg e2] at e; cases e
      · rw [tl1 v] at hxz
        by_cases e1 : v = g.1
        · rw [if_pos e1] at hxz
          have : (x, z') ∈ [(g.2, g.2)] := hxz
          simp at this
          rw [e1, this.1, this.2]; exact h254a
        · rw [if_neg e1] at hxz
          by_cases e2 : v = g.2
          · rw [if_pos e2] at hxz
            have : (x, z') ∈ [(g.1, g.1)] := hxz
            simp at this
            rw [e2, this.1, this.2]; exact h254b
          · rw [if_neg e2] at hxz
            exact absurd hxz List.not_mem_nil
    · -- more than one edge
      rw [ci_1, nI_eq (by omega) (by omega)] at z
      have hl1 : lay1 bes = (layB bes).map fun rs y => tuB rs bes y := by unfold lay1; rw [if_neg z]
      refine rf_layBlock h2C hsl z hbne hG hH (fun W7 s' r1 r2 r3 r4 r5 => ⟨fun w => absurd w (by decide), fun _ => ?_⟩) fun W7 r1 r2 => ⟨fun _ => ?_, fun w => absurd rfl w⟩
      · have hl1' : lay1 bes = some fun y => tuB s'.1 bes y := by rw [hl1, r1]; rfl
        refine ⟨fun z2 => ?_, fun z2 => ⟨fun _ => ?_, fun w => absurd rfl w⟩⟩
        · rw [ci_1, nI_add]
          exact next W7 _ hl1' (fun w => absurd z2 w) (r5.mono (by decide) (by decide)) (fun _ => r5)
        · refine rf_tellN hOb hV r3 r2 fun W8 m1 m2 => ?_
          rw [ci_0]
          have f8 : EqF (26 :: lbF) (234 :: 235 :: 254 :: lbL) W W8 := (r5.mono (by decide) (by decide)).tr (m2.mono (by decide) (by decide))
          refine rf_la_t (bes := bes) (R := R) (T := fun y => tuB s'.1 bes y) hsl (fun v hv => ?_) (fun v hv => hroom _ hl1' v) V 0 W8 (by omega) (Nat.zero_le _) (hG.fr f8 (by decide) (by decide) (by decide) (by decide)) (fun j g hj => by rw [f8.1 232 (by decide) (by decide), f8.1 233 (by decide) (by decide)]; exact hH j g hj) (fun v hv x z' hxz => m1 x v z' ((tuB_ok hV hOb r3 r4 v).2.2.1 x z' hxz)) (fun u hu => ?_) fun W' j1 j2 => next W' _ hl1' (fun _ => j1) (f8.tr (j2.mono (by decide) (by decide))) (fun w => absurd w z2)
          · obtain ⟨q1, q2, q3, q4⟩ := tuB_ok hV hOb r3 r4 v
            refine ⟨q1, q2, fun x0 t e x hx => ?_⟩
            have hx' := (q2 x).mp hx
            obtain ⟨t', e', -⟩ := q4 ⟨x, hx'⟩
            rw [e'] at e
            injection e with e _
            rw [← e]
            have hx20 : x < 20 := by have := (adj_lt hOb hx').2.1; omega
            have hany : anyN (adj bes v) = true := anyN_iff.mpr ⟨x, hx20, hx'⟩
            obtain ⟨_, _, w3⟩ := leastN_spec hany
            rcases Nat.lt_or_ge x (leastN (adj bes v)) with q | q
            · rw [w3 x q] at hx'; cases hx'
            · exact q
          · have := (hT z2) u hu
            have hfr := RT.fr (hT z2) (r5.mono (fs' := lbF) (l' := lbL) (by decide) (by decide)) (by decide) (by decide)
            simpa using (RT.fr hfr m2 (by decide) (by decide)) u hu
      · refine h0 W7 ?_ (FrK.of r2 (by decide) (by decide))
        have hnone : lay1 bes = none := by rw [hl1, r1]; rfl
        have hk1 : layK (prs P 0 es) (bnum (prs P 0 es) L) (k + 1) = none := by rw [layK, hK, hbes, hnone]; rfl
        have mono : ∀ m, layK (prs P 0 es) (bnum (prs P 0 es) L) (k + 1 + m) = none := by
          intro m
          induction m with
          | zero => exact hk1
          | succ m ihm => rw [← Nat.add_assoc, layK, ihm]; rfl
        have := mono (bcnt (prs P 0 es) L - (k + 1))
        rwa [show k + 1 + (bcnt (prs P 0 es) L - (k + 1)) = bcnt (prs P 0 es) L by omega] at this
    · rw [h6]; exact nI_lt hkb (by omega)
theorem rf_la_d {kp : Int32} : ∀ (n i : Nat) (W : fl_W), V - i = n → i ≤ V → V ≤ 20 → W 229 0 = nI V → (∀ u, u < i → W 235 u = 0) → (∀ W', (∀ u, u < V → W' 235 u = 0) → EqF [] [235] W W' → hd_153_33 d Q kp (nI 0) W') → hd_153_10 d Q kp (nI i) W := by
  intro n
  induction n with
  | zero =>
    intro i W h1 h2 hV h0 hall h
    refine sx_153_10 _ _ W ⟨fun q => absurd q ?_, fun _ => h W (fun u hu => hall u (by omega)) EqF.rf⟩
    rw [h0]; exact nI_nlt (by omega) (by omega)
  | succ n ih =>
    intro i W h1 h2 hV h0 hall h
    refine sx_153_10 _ _ W ⟨fun _ => ⟨in_N (by omega) (by omega), fun W2 e2 => ?_⟩, fun q => absurd ?_ q⟩
    · rw [nI_clamp (by omega)] at e2
      have f2 : EqF [] [235] W W2 := by rw [e2]; exact EqF.uwA (by simp) (by decide)
      rw [ci_1, nI_add]
      refine ih (i + 1) W2 (by omega) (by omega) hV (by rw [f2.2 0 (by decide)]; exact h0) (fun u hu => ?_) fun W' k1 k2 => h W' k1 (f2.tr k2)
      rw [e2]
      by_cases e : u = i
      · rw [e, uw_s]; rfl
      · rw [uw_m e]; exact hall u (by omega)
    · rw [h0]; exact nI_lt (by omega) (by omega)
/-- layAll -/
theorem rf_layAll {kp : Int32} (hG : RfG W V es) (hP : PrR W P es.length)
    (hy : ∀ W' R', layG V (prs P 0 es) = some R' → (∃ L, BlkOK V (prs P 0 es) L) → (kp ≠ 0 → RT W' V R') → FrK kp W W' → Q (some (.int 1)) W')
    (h0 : ∀ W', layG V (prs P 0 es) = none → FrK kp W W' → Q (some (.int 0)) W') : fl_cal (d + 5) 153 [.ref 229, .int kp] W Q := by
  have hV := hG.1
  refine sx_153 _ W (rf_makeBlocks hG hP fun W1 k1 k2 => ?_)
  obtain ⟨L, c, b1, b2, b3, b4, b5⟩ := k1
  rw [layG_eq (prs_ok hG.2.2.1) b1] at hy h0
  have f1 : FrK kp W W1 := FrK.of k2 (by decide) (by decide)
  have hG1 := hG.fr f1.1 (by decide) (by decide) (by decide) (by decide)
  have hP1 : PrR W1 P es.length := fun i hi => by rw [k2.1 232 (by decide) (by decide)]; exact hP i hi
  refine ⟨fun z => ?_, fun z => ?_⟩
  · rw [ci_0]
    exact rf_la_l b1 _ 0 W1 (fun _ => []) rfl (Nat.zero_le _) hG1 hP1 b4 b5 rfl (fun w => absurd z w) (fun W' R' j1 j2 j3 => hy W' R' j1 ⟨L, b1⟩ j2 (f1.tr j3)) fun W' j1 j2 => h0 W' j1 (f1.tr j2)
  · rw [ci_0]
    refine rf_la_d V 0 W1 (by omega) (Nat.zero_le _) hV hG1.2.2.2.1 (fun u hu => by omega) fun W2 m1 m2 => ?_
    have f2 : FrK kp W W2 := f1.tr ⟨m2.mono (by decide) (by decide), fun w => absurd w z⟩
    refine rf_la_l b1 _ 0 W2 (fun _ => []) rfl (Nat.zero_le _) (hG.fr f2.1 (by decide) (by decide) (by decide) (by decide)) (fun i hi => by rw [m2.1 232 (by decide) (by decide)]; exact hP1 i hi) (by rw [m2.2 6 (by decide)]; exact b4) (fun j g hj => by rw [m2.1 233 (by decide) (by decide)]; exact b5 j g hj) rfl (fun _ u hu => ⟨by rw [m1 u hu]; rfl, by simp, fun i x hi => by simp at hi⟩) (fun W' R' j1 j2 j3 => hy W' R' j1 ⟨L, b1⟩ j2 (f2.tr j3)) fun W' j1 j2 => h0 W' j1 (f2.tr j2)
end RPH
