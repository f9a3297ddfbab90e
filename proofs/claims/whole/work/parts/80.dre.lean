/-! ===== Drawing of the class complete ===== -/
def dA (es : gE) : Nat := (es.getD 0 (0, 0)).1
def dB (es : gE) : Nat := (es.getD 0 (0, 0)).2
def dC (es : gE) (R : Nat → List Nat) : Nat := nxtN (R (dB es)) (dA es)
def dD (V : Nat) (es : gE) (R : Nat → List Nat) : List (Nat × List Nat) := drun es R (V - 2) [dA es, dC es R, dB es]
def ordL (V : Nat) (es : gE) (R : Nat → List Nat) : List Nat := dA es :: dB es :: ((dD V es R).map Prod.fst).reverse
/-- what is known of the whole run -/
def DRK (V : Nat) (es : gE) (R : Nat → List Nat) : Prop :=
  (dD V es R).length = V - 2 ∧ DCh es (dD V es R) ∧ (∃ v, (dD V es R)[V - 3]? = some (v, [dA es, v, dB es])) ∧ ((dD V es R).map Prod.fst).Nodup ∧ (∀ v, v ∈ (dD V es R).map Prod.fst → v < V ∧ v ≠ dA es ∧ v ≠ dB es) ∧ dA es < V ∧ dB es < V ∧ dA es ≠ dB es
section DRE
variable {d : Nat} {Q : fl_R} {W : fl_W} {V b t : Nat} {es : gE} {rs : List (List Nat)} {R : Nat → List Nat}
theorem tg_first (hT : TG V es rs R) (h3 : 3 ≤ V) (hfull : es.length + 6 = 3 * V) : es[0]? = some (dA es, dB es) ∧ fol rs (dA es) (dB es) (dC es R) := by
  have hl : 0 < es.length := by omega
  have h0 : es[0]? = some (dA es, dB es) := by
    unfold dA dB
    rw [List.getD_eq_getElem?_getD, List.getElem?_eq_getElem hl]
    rfl
  refine ⟨h0, ?_⟩
  have ha : adj es (dB es) (dA es) = true := adj_iff.mpr (Or.inr (List.mem_of_getElem? h0))
  have hx : dA es ∈ R (dB es) := ((hT.2.2.2.2.2.1 _).2 _).mpr ha
  have hlx := List.idxOf_lt_length_of_mem hx
  exact hT.2.2.2.2.2.2.1 _ _ _ (List.mem_of_getElem? (cd_get hlx (idx_at hx) (nxtN_at hx)))
theorem drk_of (hT : TG V es rs R) (hall : ∀ x, x < V → ∃ y, adj es x y = true) (h3 : 3 ≤ V) (hfull : es.length + 6 = 3 * V) : DRK V es R ∧ ∃ F, RS V es rs F [] [dA es, dC es R, dB es] := by
  obtain ⟨h0, hf⟩ := tg_first hT h3 hfull
  obtain ⟨F, hR⟩ := rs_first hT hf
  have hO := hT.2.1
  have hab := hO.1 _ (List.mem_of_getElem? h0)
  simp only at hab
  obtain ⟨r1, r2, -, r4, r5, r6⟩ := dr_run hT hall (a := dA es) (b := dB es) (V - 3) F [] [dA es, dC es R, dB es] hR (by simp; omega) ⟨[dC es R], rfl⟩
  have hk : V - 3 + 1 = V - 2 := by omega
  rw [hk] at r1 r2 r4 r5 r6
  exact ⟨⟨r1, r2, r4, r5, fun v hv => ⟨(r6 v hv).2.1, (r6 v hv).2.2⟩, by omega, hab.2, by omega⟩, F, hR⟩
theorem DRK.all (h : DRK V es R) (h3 : 3 ≤ V) : (ordL V es R).Nodup ∧ (ordL V es R).length = V ∧ (∀ u, u ∈ ordL V es R → u < V) ∧ ∀ u, u < V → u ∈ ordL V es R := by
  obtain ⟨k1, k2, k3, k4, k5, k6, k7, k8⟩ := h
  have hl : (ordL V es R).length = V := by unfold ordL; simp; omega
  have hn : (ordL V es R).Nodup := by
    unfold ordL
    rw [List.nodup_cons, List.nodup_cons]
    refine ⟨fun z => ?_, fun z => ?_, (List.reverse_perm _).nodup_iff.mpr k4⟩
    · rcases List.mem_cons.mp z with e | e
      · exact k8 e
      · exact (k5 _ (List.mem_reverse.mp e)).2.1 rfl
    · exact (k5 _ (List.mem_reverse.mp z)).2.2 rfl
  have hlt : ∀ u, u ∈ ordL V es R → u < V := fun u hu => by
    unfold ordL at hu
    rcases List.mem_cons.mp hu with e | e
    · rw [e]; exact k6
    · rcases List.mem_cons.mp e with e | e
      · rw [e]; exact k7
      · exact (k5 u (List.mem_reverse.mp e)).1
  refine ⟨hn, hl, hlt, fun u hu => ?_⟩
  exact nd_sub_all hn (fun x hx => List.mem_range.mpr (hlt x hx)) (by rw [List.length_range, hl]; exact Nat.le_refl _) u (List.mem_range.mpr hu)
theorem dr_carr_l : ∀ (n i : Nat) (W : fl_W), 20 - i = n → i ≤ 20 → (∀ u, u < i → W 216 u = bitI (nI u)) → (∀ W', (∀ u, u < 20 → W' 216 u = bitI (nI u)) → EqX [216] W W' → hd_16_20 (d + 1) Q b t (nI 20) W') → (hb : fl_net b) → (ht : fl_tur t) → hd_16_20 (d + 1) Q b t (nI i) W := by
  intro n
  induction n with
  | zero =>
    intro i W h1 h2 hall h hb ht
    have hi : i = 20 := by omega
    subst hi
    exact h W hall EqX.rf
  | succ n ih =>
    intro i W h1 h2 hall h hb ht
    have hi : i < 20 := by omega
    refine sx_16_20 b t _ W hb ht ⟨fun _ => st_bit ⟨in_N hi (by omega), fun W15 e15 => ?_⟩, fun z => absurd ?_ z⟩
    · rw [nI_clamp (by omega)] at e15
      have f15 : EqX [216] W W15 := by rw [e15]; exact EqX.uw (by simp)
      rw [ci_1, nI_add]
      refine ih (i + 1) W15 (by omega) (by omega) (fun u hu => ?_) (fun W' j1 j2 => h W' j1 (f15.tr j2)) hb ht
      rw [e15]
      by_cases e : u = i
      · rw [e, uw_s]
      · rw [uw_m e]; exact hall u (by omega)
    · rw [cb_20]; exact nI_lt hi (by omega)
theorem dr_loop (hb : fl_net b) (ht : fl_tur t) (hK : DRK V es R) (h3 : 3 ≤ V) : ∀ (j : Nat) (W : fl_W) (v : Nat) (rim : List Nat), (dD V es R)[j]? = some (v, rim) → NetR W b V es → RowR W 217 (nL (ordL V es R)) → DS W (((dD V es R).drop j).map Prod.fst ++ [dB es, dA es]) rim (plF (dB es) ((dD V es R).drop j)) →
    (∀ W', RowR W' 217 (nL (ordL V es R)) → (∀ u, u < V → W' 214 u = (plF (dB es) (dD V es R)).1 u ∧ W' 215 u = (plF (dB es) (dD V es R)).2.1 u) → EqX drl W W' → Q none W') → hd_16_118 (d + 4) Q b t (nI (V - j)) W := by
  have hK0 := hK
  obtain ⟨k1, k2, k3, k4, k5, k6, k7, k8⟩ := hK
  obtain ⟨o1, o2, o3, o4⟩ := hK0.all h3
  intro j
  induction j with
  | zero =>
    intro W v rim hj hN hord hD h
    have hV := hN.1
    rw [List.drop_zero] at hD
    refine sx_16_118 b t _ W hb ht (row_size (r := 217) rfl hord ⟨fun z => absurd z ?_, fun _ => h W hord (fun u hu => ?_) EqX.rf⟩)
    · rw [nL_len, o2]; exact nI_nlt (by omega) (by omega)
    · have hm : u ∈ (dD V es R).map Prod.fst ++ [dB es, dA es] := by
        have := o4 u hu
        unfold ordL at this
        simp only [List.mem_cons, List.mem_reverse] at this
        simp only [List.mem_append, List.mem_cons, List.not_mem_nil, or_false]
        rcases this with q | q | q
        · exact Or.inr (Or.inr q)
        · exact Or.inr (Or.inl q)
        · exact Or.inl q
      exact (hD.2.1 u hm).2
  | succ j ih =>
    intro W v rim hj hN hord hD h
    have hV := hN.1
    have hjl := (List.getElem?_eq_some_iff.mp hj).1
    have hjl' : j < (dD V es R).length := by omega
    obtain ⟨v', rim', hv'⟩ : ∃ v' rim', (dD V es R)[j]? = some (v', rim') := ⟨_, _, List.getElem?_eq_getElem hjl'⟩
    have hlk := k2 j v' rim' v rim hv' hj
    have hge : (dD V es R)[j] = (v', rim') := by
      rw [List.getElem?_eq_getElem hjl'] at hv'
      exact Option.some.inj hv'
    have hge2 : (dD V es R)[j + 1] = (v, rim) := by
      rw [List.getElem?_eq_getElem hjl] at hj
      exact Option.some.inj hj
    have hdr : (dD V es R).drop j = (v', rim') :: (dD V es R).drop (j + 1) := by rw [List.drop_eq_getElem_cons hjl', hge]
    have hdr2 : (dD V es R).drop (j + 1) = (v, rim) :: (dD V es R).drop (j + 2) := by rw [List.drop_eq_getElem_cons hjl, hge2]
    have hpl : plF (dB es) ((dD V es R).drop j) = raQ v' rim' rim (plF (dB es) ((dD V es R).drop (j + 1))) := by
      rw [hdr, hdr2, plF]
    have hvm : v' ∈ (dD V es R).map Prod.fst := List.mem_map.mpr ⟨_, List.mem_of_getElem? hv', rfl⟩
    have hvn : v' ∉ ((dD V es R).drop (j + 1)).map Prod.fst ++ [dB es, dA es] := fun z => by
      rcases List.mem_append.mp z with q | q
      · have : (((dD V es R).drop j).map Prod.fst).Nodup := by
          rw [List.map_drop]
          exact k4.sublist (List.drop_sublist _ _)
        rw [hdr, List.map_cons, List.nodup_cons] at this
        exact this.1 q
      · simp only [List.mem_cons, List.not_mem_nil, or_false] at q
        rcases q with q | q
        · exact (k5 v' hvm).2.2 q
        · exact (k5 v' hvm).2.1 q
    -- the next of the order
    have hget : getI (nL (ordL V es R)) (nI (V - (j + 1))) = nI v' := by
      refine getI_at (by omega) (nL_at ?_)
      unfold ordL
      rw [show V - (j + 1) = (V - 2 - 1 - j) + 2 by omega, List.getElem?_cons_succ, List.getElem?_cons_succ, List.getElem?_reverse (by rw [List.length_map]; omega), List.length_map, k1, show V - 2 - 1 - (V - 2 - 1 - j) = j by omega, List.getElem?_map, hv']
      rfl
    refine sx_16_118 b t _ W hb ht (row_size (r := 217) rfl hord ⟨fun _ => row_get (r := 217) rfl hord ?_, fun z => absurd ?_ z⟩)
    · rw [hget]
      refine dr_raise hb hN (k5 v' hvm).1 hvn hlk hD fun W1 m1 m2 => ?_
      show hd_16_118 (d + 4) Q b t (nI (V - (j + 1)) + Int32.ofInt 1) W1
      rw [ci_1, nI_add, show V - (j + 1) + 1 = V - j by omega]
      have h217 : RowR W1 217 (nL (ordL V es R)) := hord.fr m2 (by decide) (by decide)
      have m2 : EqX drl W W1 := m2.mono (by decide)
      refine ih W1 v' rim' hv' (hN.fr m2 (net_drl hb)) h217 (by rw [hpl, hdr]; exact m1) fun W' i1 i2 i3 => h W' i1 i2 (m2.tr i3)
    · rw [nL_len, o2]; exact nI_lt (by omega) (by omega)
/-- Drawing.make -/
theorem dr_make (hb : fl_net b) (ht : fl_tur t) (hT : TG V es rs R) (hall : ∀ x, x < V → ∃ y, adj es x y = true) (h3 : 3 ≤ V) (hfull : es.length + 6 = 3 * V) (hN : NetR W b V es) (hTu : TurR W t R) (h : ∀ W', RowR W' 217 (nL (ordL V es R)) → (∀ u, u < V → W' 214 u = (plF (dB es) (dD V es R)).1 u ∧ W' 215 u = (plF (dB es) (dD V es R)).2.1 u) → EqX drl W W' → Q none W') : fl_cal (d + 5) 16 [.ref 213, .ref b, .ref t, .int (nI (dC es R))] W Q := by
  have hV := hN.1
  obtain ⟨h0, hf⟩ := tg_first hT h3 hfull
  obtain ⟨hK, F, hR⟩ := drk_of hT hall h3 hfull
  have hK0 := hK
  obtain ⟨k1, k2, ⟨vl, k3⟩, k4, k5, k6, k7, k8⟩ := hK
  obtain ⟨o1, o2, o3, o4⟩ := hK0.all h3
  have hvlm : vl ∈ (dD V es R).map Prod.fst := List.mem_map.mpr ⟨_, List.mem_of_getElem? k3, rfl⟩
  obtain ⟨w1, w2, w3⟩ := k5 vl hvlm
  have hor : ∀ i x, (ordL V es R)[i]? = some x → getI (nL (ordL V es R)) (nI i) = nI x := fun i x hi => by
    have := (List.getElem?_eq_some_iff.mp hi).1
    exact getI_at (by omega) (nL_at hi)
  have hvl2 : (ordL V es R)[2]? = some vl := by
    unfold ordL
    rw [List.getElem?_cons_succ, List.getElem?_cons_succ, List.getElem?_reverse (by rw [List.length_map]; omega), List.length_map, k1, show V - 2 - 1 - 0 = V - 3 by omega, List.getElem?_map, k3]
    rfl
  refine sx_16 b t _ W hb ht ?_
  rw [ci_0]
  refine net_low hb hN h0 (net_high hb hN h0 (sx_19 b t _ _ _ W hb ht (dr_start fun W1 r1 f1 => row_clear (r := 219) rfl fun W2 r2 f2 => ?_)))
  have f12 : EqX drl W W2 := (f1.mono (by decide)).tr (f2.mono (by decide))
  have hN2 := hN.fr f12 (net_drl hb)
  have hTu2 := hTu.fr f12 (tur_drl ht)
  have hr2 := r1.fr f2 (by decide) (by decide)
  show hd_19_24 (d + 3) (fl_q0 fun W3 => hd_16_20 (d + 4) Q b t (nI 0) W3) b t (nI (dA es)) (nI (dB es)) (W2 b 3 - Int32.ofInt 1) W2
  rw [hN2.2.2.2.1, nI_sub1 (by omega), show V - 1 = V - 2 + 1 by omega]
  refine dr_ord_l hb ht hT hall (V - 2) W2 [dA es, dC es R, dB es] [] (Or.inr ⟨F, [], hR, by simp; omega⟩) (by simp; omega) hN2 hTu2 hr2 r2 fun W3 r3 f3 => ?_
  have f13 : EqX drl W W3 := f12.tr f3
  rw [List.nil_append] at r3
  have hord : RowR W3 217 (nL (ordL V es R)) := r3
  show hd_16_20 (d + 4) Q b t (nI 0) W3
  refine dr_carr_l 20 0 W3 (by omega) (by omega) (fun u hu => by omega) (fun W4 c1 c2 => ?_) hb ht
  have hord4 := hord.fr c2 (by decide) (by decide)
  refine sx_16_20 b t _ W4 hb ht ⟨fun z => absurd z (by rw [cb_20]; exact nI_nlt (Nat.le_refl _) (by omega)), fun _ => row_get (r := 217) rfl hord4 ?_⟩
  rw [ci_0, hor 0 (dA es) rfl]
  refine dr_put (by omega) fun W5 p1 p2 p3 p4 => ?_
  have hord5 := hord4.fr p4 (by decide) (by decide)
  refine row_get (r := 217) rfl hord5 ?_
  rw [ci_1, hor 1 (dB es) rfl]
  refine dr_put (by omega) fun W7 q1 q2 q3 q4 => ?_
  have hord7 := hord5.fr q4 (by decide) (by decide)
  refine row_get (r := 217) rfl hord7 ?_
  rw [ci_2, hor 2 vl hvl2]
  refine dr_put (by omega) fun W9 s1 s2 s3 s4 => ?_
  have hord9 := hord7.fr s4 (by decide) (by decide)
  refine row_get (r := 217) rfl hord9 ?_
  rw [hor 0 (dA es) rfl]
  refine row_get (r := 217) rfl hord9 ?_
  rw [hor 2 vl hvl2]
  refine row_get (r := 217) rfl hord9 ?_
  rw [hor 1 (dB es) rfl]
  refine dr_start fun W13 r13 f13' => ?_
  have fA : EqX drl W W13 := ((((f13.tr (c2.mono (by decide))).tr (p4.mono (by decide))).tr (q4.mono (by decide))).tr (s4.mono (by decide))).tr (f13'.mono (by decide))
  have hord13 := hord9.fr f13' (by decide) (by decide)
  have hd3 : (dD V es R).drop (V - 3) = [(vl, [dA es, vl, dB es])] := by
    have hl : V - 3 < (dD V es R).length := by omega
    rw [List.drop_eq_getElem_cons hl, List.drop_eq_nil_of_le (by omega)]
    rw [List.getElem?_eq_getElem hl] at k3
    rw [Option.some.inj k3]
  show hd_16_118 (d + 4) Q b t (Int32.ofInt 3) W13
  rw [ci_3, show (3 : Nat) = V - (V - 3) by omega]
  refine dr_loop hb ht hK0 h3 (V - 3) W13 vl [dA es, vl, dB es] k3 (hN.fr fA (net_drl hb)) hord13 ?_ fun W' m1 m2 m3 => h W' m1 m2 (fA.tr m3)
  rw [hd3]
  have g214 : W13 214 = W9 214 := f13' 214 (by decide)
  have g215 : W13 215 = W9 215 := f13' 215 (by decide)
  have g216 : ∀ u, u < 20 → W13 216 u = bitI (nI u) := fun u hu => by
    rw [f13' 216 (by decide), s4 216 (by decide), q4 216 (by decide), p4 216 (by decide)]
    exact c1 u hu
  refine ⟨r13, fun u hu => ?_, fun w hw => ?_⟩
  · rw [g214, g215]
    simp only [List.map_cons, List.map_nil, List.cons_append, List.nil_append, List.mem_cons, List.not_mem_nil, or_false] at hu
    show u < 20 ∧ W9 214 u = (if u = vl then Int32.ofInt 1 else if u = dB es then Int32.ofInt 2 else Int32.ofInt 0) ∧ W9 215 u = (if u = vl then Int32.ofInt 1 else Int32.ofInt 0)
    rcases hu with e | e | e
    · rw [e, if_pos rfl, if_pos rfl]
      exact ⟨by omega, s1, s2⟩
    · have hne : dB es ≠ vl := fun z => w3 z.symm
      rw [e, if_neg hne, if_neg hne, if_pos rfl]
      obtain ⟨x1, x2⟩ := s3 (dB es) hne
      exact ⟨by omega, by rw [x1]; exact q1, by rw [x2]; exact q2⟩
    · have hne : dA es ≠ vl := fun z => w2 z.symm
      rw [e, if_neg hne, if_neg hne, if_neg k8]
      obtain ⟨x1, x2⟩ := s3 (dA es) hne
      obtain ⟨y1, y2⟩ := q3 (dA es) k8
      exact ⟨by omega, by rw [x1, y1]; exact p1, by rw [x2, y2]; exact p2⟩
  · have hw' : w = dA es ∨ w = vl ∨ w = dB es := by simpa using hw
    have hw20 : w < 20 := by rcases hw' with e | e | e <;> omega
    refine ⟨?_, ?_, fun u hu => ?_⟩
    · rcases hw' with e | e | e <;> rw [e] <;> simp
    · rw [g216 w hw20]
      exact (BS.bit hw20).congr fun u _ => rfl
    · have : u = w := by
        have : (decide (u = w)) = true := hu
        simpa using this
      rw [this]
      rcases hw' with e | e | e <;> rw [e] <;> simp
end DRE
