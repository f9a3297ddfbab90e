/-! ===== Reference: places, isPlane, lay, the knot ===== -/
section RDD
variable {d : Nat} {Q : fl_R} {W : fl_W} {V : Nat} {es : gE} {rs : List (List Nat)} {R : Nat → List Nat}
theorem rf_pl_loop (hK : DRK V es R) (h3 : 3 ≤ V) : ∀ (j : Nat) (W : fl_W) (v : Nat) (rim : List Nat), (dD V es R)[j]? = some (v, rim) → RfG W V es → (∀ i x, (ordL V es R)[i]? = some x → W 256 i = nI x) → DSr W V (((dD V es R).drop j).map Prod.fst ++ [dB es, dA es]) rim (plF (dB es) ((dD V es R).drop j)) →
    (∀ W', (∀ u, u < V → W' 237 u = (plF (dB es) (dD V es R)).1 u ∧ W' 238 u = (plF (dB es) (dD V es R)).2.1 u) → EqF [45] mpL W W' → Q none W') → hd_185_79 (d + 1) Q (nI (V - j)) W := by
  have hK0 := hK
  obtain ⟨k1, k2, k3, k4, k5, k6, k7, k8⟩ := hK
  obtain ⟨o1, o2, o3, o4⟩ := hK0.all h3
  intro j
  induction j with
  | zero =>
    intro W v rim hj hG hord hD h
    have hV := hG.1
    rw [List.drop_zero] at hD
    refine sx_185_79 _ W ⟨fun z => absurd z ?_, fun _ => h W (fun u hu => ?_) EqF.rf⟩
    · rw [hG.2.2.2.1]; exact nI_nlt (by omega) (by omega)
    · have hm : u ∈ (dD V es R).map Prod.fst ++ [dB es, dA es] := by
        have := o4 u hu
        unfold ordL at this
        simp only [List.mem_cons, List.mem_reverse] at this
        simp only [List.mem_append, List.mem_cons, List.not_mem_nil, or_false]
        rcases this with q | q | q
        · exact Or.inr (Or.inr q)
        · exact Or.inr (Or.inl q)
        · exact Or.inl q
      exact (hD.2.1 u hm).2
  | succ j ih =>
    intro W v rim hj hG hord hD h
    have hV := hG.1
    have hjl := (List.getElem?_eq_some_iff.mp hj).1
    have hjl' : j < (dD V es R).length := by omega
    obtain ⟨v', rim', hv'⟩ : ∃ v' rim', (dD V es R)[j]? = some (v', rim') := ⟨_, _, List.getElem?_eq_getElem hjl'⟩
    have hlk := k2 j v' rim' v rim hv' hj
    have hge : (dD V es R)[j] = (v', rim') := by
      rw [List.getElem?_eq_getElem hjl'] at hv'
      exact Option.some.inj hv'
    have hge2 : (dD V es R)[j + 1] = (v, rim) := by
      rw [List.getElem?_eq_getElem hjl] at hj
      exact Option.some.inj hj
    have hdr : (dD V es R).drop j = (v', rim') :: (dD V es R).drop (j + 1) := by rw [List.drop_eq_getElem_cons hjl', hge]
    have hdr2 : (dD V es R).drop (j + 1) = (v, rim) :: (dD V es R).drop (j + 2) := by rw [List.drop_eq_getElem_cons hjl, hge2]
    have hpl : plF (dB es) ((dD V es R).drop j) = raQ v' rim' rim (plF (dB es) ((dD V es R).drop (j + 1))) := by
      rw [hdr, hdr2, plF]
    have hvm : v' ∈ (dD V es R).map Prod.fst := List.mem_map.mpr ⟨_, List.mem_of_getElem? hv', rfl⟩
    have hvn : v' ∉ ((dD V es R).drop (j + 1)).map Prod.fst ++ [dB es, dA es] := fun z => by
      rcases List.mem_append.mp z with q | q
      · have : (((dD V es R).drop j).map Prod.fst).Nodup := by
          rw [List.map_drop]
          exact k4.sublist (List.drop_sublist _ _)
        rw [hdr, List.map_cons, List.nodup_cons] at this
        exact this.1 q
      · simp only [List.mem_cons, List.not_mem_nil, or_false] at q
        rcases q with q | q
        · exact (k5 v' hvm).2.2 q
        · exact (k5 v' hvm).2.1 q
    have hget : W 256 (V - (j + 1)) = nI v' := by
      refine hord _ _ ?_
      unfold ordL
      rw [show V - (j + 1) = (V - 2 - 1 - j) + 2 by omega, List.getElem?_cons_succ, List.getElem?_cons_succ, List.getElem?_reverse (by rw [List.length_map]; omega), List.length_map, k1, show V - 2 - 1 - (V - 2 - 1 - j) = j by omega, List.getElem?_map, hv']
      rfl
    refine sx_185_79 _ W ⟨fun _ => ⟨in_N (by omega) (by omega), ?_⟩, fun z => absurd ?_ z⟩
    · rw [nI_clamp (by omega), hget, ci_0]
      refine rf_raise hG (k5 v' hvm).1 hvn hlk hD (by omega) fun W1 m1 m2 => ?_
      rw [show V - (j + 1) + 1 = V - j by omega]
      refine ih W1 v' rim' hv' (hG.fr m2 (by decide) (by decide) (by decide) (by decide)) (fun i x hi => by rw [m2.1 256 (by decide) (by decide)]; exact hord i x hi) (by rw [hpl, hdr]; exact m1) fun W' i1 i2 => h W' i1 (m2.tr i2)
    · rw [hG.2.2.2.1]; exact nI_lt (by omega) (by omega)
/-- makePlaces -/
theorem rf_makePlaces (hK : DRK V es R) (h3 : 3 ≤ V) (hG : RfG W V es) (hord : ∀ i x, (ordL V es R)[i]? = some x → W 256 i = nI x) (h : ∀ W', (∀ u, u < V → W' 237 u = (plF (dB es) (dD V es R)).1 u ∧ W' 238 u = (plF (dB es) (dD V es R)).2.1 u) → EqF [45] mpL W W' → Q none W') : fl_cal (d + 2) 185 [.ref 229] W Q := by
  have hV := hG.1
  have hK0 := hK
  obtain ⟨k1, k2, ⟨vl, k3⟩, k4, k5, k6, k7, k8⟩ := hK
  have hvlm : vl ∈ (dD V es R).map Prod.fst := List.mem_map.mpr ⟨_, List.mem_of_getElem? k3, rfl⟩
  obtain ⟨w1, w2, w3⟩ := k5 vl hvlm
  have o0 : W 256 0 = nI (dA es) := hord 0 _ rfl
  have o1 : W 256 1 = nI (dB es) := hord 1 _ rfl
  have o2 : W 256 2 = nI vl := by
    refine hord 2 _ ?_
    unfold ordL
    rw [List.getElem?_cons_succ, List.getElem?_cons_succ, List.getElem?_reverse (by rw [List.length_map]; omega), List.length_map, k1, show V - 2 - 1 - 0 = V - 3 by omega, List.getElem?_map, k3]
    rfl
  refine sx_185 W ⟨in_N (n := 0) (by omega) (by omega), ?_⟩
  show fl_cal (d + 1) 184 [.ref 229, .int (W 256 0), .int (Int32.ofInt 0), .int (Int32.ofInt 0)] W _
  rw [o0]
  refine rf_setP (by omega) fun W1 a1 a2 a3 a4 a5 => ⟨in_N (n := 1) (by omega) (by omega), ?_⟩
  show fl_cal (d + 1) 184 [.ref 229, .int (W1 256 1), .int (Int32.ofInt 2), .int (Int32.ofInt 0)] W1 _
  rw [a5.1 256 (by decide) (by decide), o1]
  refine rf_setP (by omega) fun W2 b1 b2 b3 b4 b5 => ⟨in_N (n := 2) (by omega) (by omega), ?_⟩
  show fl_cal (d + 1) 184 [.ref 229, .int (W2 256 2), .int (Int32.ofInt 1), .int (Int32.ofInt 1)] W2 _
  rw [b5.1 256 (by decide) (by decide), a5.1 256 (by decide) (by decide), o2]
  refine rf_setP (by omega) fun W3 c1 c2 c3 c4 c5 => ⟨in_N (n := 0) (by omega) (by omega), in_N (n := 0) (by omega) (by omega), fun W4 e4 => ⟨in_N (n := 2) (by omega) (by omega), in_N (n := 1) (by omega) (by omega), fun W5 e5 => ⟨in_N (n := 1) (by omega) (by omega), in_N (n := 2) (by omega) (by omega), fun W6 e6 W7 e7 => ?_⟩⟩⟩
  have h256 : W3 256 = W 256 := by rw [c5.1 256 (by decide) (by decide), b5.1 256 (by decide) (by decide), a5.1 256 (by decide) (by decide)]
  have e4 : W4 = fl_uw W3 258 0 (W3 256 0) := e4
  have e5 : W5 = fl_uw W4 258 1 (W4 256 2) := e5
  have e6 : W6 = fl_uw W5 258 2 (W5 256 1) := e6
  rw [h256, o0] at e4
  have h4 : W4 256 2 = nI vl := by rw [e4, uw_n (by decide), h256]; exact o2
  rw [h4] at e5
  have h5 : W5 256 1 = nI (dB es) := by rw [e5, uw_n (by decide), e4, uw_n (by decide), h256]; exact o1
  rw [h5] at e6
  have f7 : EqF [45] mpL W W7 := (((a5.tr b5).tr c5).mono (by decide) (by decide)).tr (by rw [e7, e6, e5, e4]; exact (((EqF.uwA (by decide) (by decide)).tr (EqF.uwA (by decide) (by decide))).tr (EqF.uwA (by decide) (by decide))).tr (EqF.uwF (by decide)))
  have g : ∀ a, a = 237 ∨ a = 238 ∨ a = 260 ∨ a = 256 → W7 a = W3 a := fun a ha => by
    rw [e7, uw_n (by omega), e6, uw_n (by omega), e5, uw_n (by omega), e4, uw_n (by omega)]
  have hd3 : (dD V es R).drop (V - 3) = [(vl, [dA es, vl, dB es])] := by
    have hl : V - 3 < (dD V es R).length := by omega
    rw [List.drop_eq_getElem_cons hl, List.drop_eq_nil_of_le (by omega)]
    rw [List.getElem?_eq_getElem hl] at k3
    rw [Option.some.inj k3]
  rw [ci_3, show (3 : Nat) = V - (V - 3) by omega]
  refine rf_pl_loop hK0 h3 (V - 3) W7 vl [dA es, vl, dB es] k3 (hG.fr f7 (by decide) (by decide) (by decide) (by decide)) (fun i x hi => by rw [g 256 (by simp), h256]; exact hord i x hi) ?_ fun W' m1 m2 => h W' m1 (f7.tr m2)
  rw [hd3]
  have hmem : ∀ w, w ∈ [dA es, vl, dB es] ↔ w = dA es ∨ w = vl ∨ w = dB es := fun w => by simp
  have hneA : dA es ≠ vl := fun z => w2 z.symm
  have hneB : dB es ≠ vl := fun z => w3 z.symm
  refine ⟨⟨by rw [e7, uw_s]; rfl, by simp, fun x hx => ?_, fun j x hj => ?_⟩, fun u hu => ?_, fun w hw => ⟨?_, ?_, fun u hu => ?_⟩, fun w w' hw hw' hne u hu => ?_⟩
  · rcases (hmem x).mp hx with e | e | e <;> omega
  · match j, hj with
    | 0, hj =>
      simp at hj
      rw [← hj, e7, uw_n (by decide), e6, uw_m (by decide), e5, uw_m (by decide), e4, uw_s]
    | 1, hj =>
      simp at hj
      rw [← hj, e7, uw_n (by decide), e6, uw_m (by decide), e5, uw_s]
    | 2, hj =>
      simp at hj
      rw [← hj, e7, uw_n (by decide), e6, uw_s]
    | j + 3, hj => simp at hj
  · rw [g 237 (by simp), g 238 (by simp)]
    simp only [List.map_cons, List.map_nil, List.cons_append, List.nil_append, List.mem_cons, List.not_mem_nil, or_false] at hu
    show u < V ∧ W3 237 u = (if u = vl then Int32.ofInt 1 else if u = dB es then Int32.ofInt 2 else Int32.ofInt 0) ∧ W3 238 u = (if u = vl then Int32.ofInt 1 else Int32.ofInt 0)
    rcases hu with e | e | e
    · rw [e, if_pos rfl, if_pos rfl]
      exact ⟨w1, c1, c2⟩
    · rw [e, if_neg hneB, if_neg hneB, if_pos rfl, (c4 _ hneB).1, (c4 _ hneB).2.1]
      exact ⟨k7, b1, b2⟩
    · rw [e, if_neg hneA, if_neg hneA, if_neg k8, (c4 _ hneA).1, (c4 _ hneA).2.1, (b4 _ k8).1, (b4 _ k8).2.1]
      exact ⟨k6, a1, a2⟩
  · rcases (hmem w).mp hw with e | e | e <;> rw [e] <;> simp
  · have h260 : W7 260 w = (Int32.ofInt 1) <<< (nI w &&& 31) := by
      rw [g 260 (by simp)]
      rcases (hmem w).mp hw with e | e | e
      · rw [e, (c4 _ hneA).2.2, (b4 _ k8).2.2]; exact a3
      · rw [e]; exact c3
      · rw [e, (c4 _ hneB).2.2]; exact b3
    rw [h260]
    have hw20 : w < 20 := by rcases (hmem w).mp hw with e | e | e <;> omega
    exact (BS.one hw20).congr fun u _ => rfl
  · have : u = w := by
      have : (decide (u = w)) = true := hu
      simpa using this
    rw [this]
    rcases (hmem w).mp hw with e | e | e <;> rw [e] <;> simp
  · have h1 : u = w := by
      have : (decide (u = w)) = true := hu
      simpa using this
    show decide (u = w') = false
    rw [h1]
    simpa using hne
/-- isPlane -/
def ipL : List Nat := 232 :: laL0
theorem rf_isPlane (hG : RfG W V es) (hy : ∀ W' R', layG V es = some R' → (∃ L, BlkOK V es L) → EqF laF ipL W W' → Q (some (.int 1)) W') (h0 : ∀ W', layG V es = none → EqF laF ipL W W' → Q (some (.int 0)) W') : fl_cal (d + 6) 156 [.ref 229] W Q := by
  refine sx_156 W (rf_all hG fun W1 k1 k2 => ?_)
  have hall : prs (fun _ => true) 0 es = es := prs_all fun j _ => rfl
  have f1 : EqF laF ipL W W1 := k2.mono (by decide) (by decide)
  refine rf_layAll (P := fun _ => true) (hG.fr f1 (by decide) (by decide) (by decide) (by decide)) (fun i hi => by rw [k1 i hi]; rfl) (fun W' R' j1 jb j2 j3 => ⟨Or.inr rfl, hy W' R' (by rw [hall] at j1; exact j1) (by rw [hall] at jb; exact jb) (f1.tr ((j3.2 rfl).mono (by decide) (by decide)))⟩) fun W' j1 j2 => ⟨Or.inl rfl, h0 W' (by rw [hall] at j1; exact j1) (f1.tr ((j2.2 rfl).mono (by decide) (by decide)))⟩
/-! the knot -/
noncomputable def knS (V : Nat) (es : gE) : Nat → Nat → Bool
  | 0 => fun _ => true
  | e + 1 => fun j => if j = e then (layG V (prs (fun i => if i = e then false else knS V es e i) 0 es)).isSome else knS V es e j
noncomputable def knL (V : Nat) (es : gE) : List Nat := (List.range es.length).filter fun e => knS V es es.length e
theorem knS_hi {V : Nat} {es : gE} : ∀ {e j : Nat}, e ≤ j → knS V es e j = true
  | 0, _, _ => rfl
  | e + 1, j, h => by
    have : ¬ j = e := by omega
    simp only [knS, if_neg this]
    exact knS_hi (by omega)
theorem rf_kn_a : ∀ (n e : Nat) (W : fl_W), es.length - e = n → e ≤ es.length → RfG W V es → PrR W (knS V es e) es.length → (∀ W', PrR W' (knS V es es.length) es.length → W' 229 11 = 0 → EqF (11 :: laF) ipL W W' → hd_161_49 (d + 5) Q (nI 0) W') → hd_161_6 (d + 5) Q (nI e) W := by
  intro n
  induction n with
  | zero =>
    intro e W h1 h2 hG hP h
    have hE := hG.2.1
    have he : e = es.length := by omega
    subst he
    refine sx_161_6 _ W ⟨fun q => absurd q ?_, fun _ W2 e2 => ?_⟩
    · rw [hG.2.2.2.2.1]; exact nI_nlt (Nat.le_refl _) (by omega)
    · rw [ci_0]
      exact h W2 (fun i hi => by rw [e2, uw_n (by decide)]; exact hP i hi) (by rw [e2, uw_s]; rfl) (by rw [e2]; exact EqF.uwF (by decide))
  | succ n ih =>
    intro e W h1 h2 hG hP h
    have hE := hG.2.1
    have he : e < es.length := by omega
    refine sx_161_6 _ W ⟨fun _ => ⟨in_N (by omega) (by omega), fun W3 e3 => ?_⟩, fun q => absurd ?_ q⟩
    · rw [nI_clamp (by omega)] at e3
      have f3 : EqF (11 :: laF) ipL W W3 := by rw [e3]; exact EqF.uwA (by decide) (by decide)
      have hG3 := hG.fr f3 (by decide) (by decide) (by decide) (by decide)
      have hP3 : PrR W3 (fun i => if i = e then false else knS V es e i) es.length := fun i hi => by
        rw [e3]
        by_cases q : i = e
        · rw [q, uw_s]; simp
        · rw [uw_m q, hP i hi]; simp [q]
      refine rf_layAll hG3 hP3 (fun W4 R' j1 _ j2 j3 => ⟨fun z => absurd z (by decide), fun _ => ⟨in_N (by omega) (by omega), fun W5 e5 => ?_⟩⟩) fun W4 j1 j2 => ⟨fun _ => ?_, fun z => absurd rfl z⟩
      · rw [nI_clamp (by omega)] at e5
        have f4 : EqF (11 :: laF) ipL W3 W4 := (j3.2 rfl).mono (by decide) (by decide)
        have f5 : EqF (11 :: laF) ipL W W5 := (f3.tr f4).tr (by rw [e5]; exact EqF.uwA (by decide) (by decide))
        rw [ci_1, nI_add]
        refine ih (e + 1) W5 (by omega) (by omega) (hG.fr f5 (by decide) (by decide) (by decide) (by decide)) (fun i hi => ?_) fun W' m1 m2 m3 => h W' m1 m2 (f5.tr m3)
        rw [e5]
        by_cases q : i = e
        · rw [q, uw_s]
          simp only [knS, if_true, j1, Option.isSome_some]
          rfl
        · rw [uw_m q, (j3.2 rfl).1 232 (by decide) (by decide), hP3 i hi]
          simp [knS, q]
      · have f4 : EqF (11 :: laF) ipL W3 W4 := (j2.2 rfl).mono (by decide) (by decide)
        have fA := f3.tr f4
        rw [ci_1, nI_add]
        refine ih (e + 1) W4 (by omega) (by omega) (hG.fr fA (by decide) (by decide) (by decide) (by decide)) (fun i hi => ?_) fun W' m1 m2 m3 => h W' m1 m2 (fA.tr m3)
        rw [(j2.2 rfl).1 232 (by decide) (by decide), hP3 i hi]
        by_cases q : i = e
        · simp only [knS, if_pos q, j1, Option.isSome_none]
        · simp [knS, q]
    · rw [hG.2.2.2.2.1]; exact nI_lt he (by omega)
theorem rf_kn_b {P : Nat → Bool} : ∀ (n e : Nat) (W : fl_W), es.length - e = n → e ≤ es.length → RfG W V es → PrR W P es.length → W 229 11 = nI ((List.range e).filter fun i => P i).length → (∀ j x, ((List.range e).filter fun i => P i)[j]? = some x → W 236 j = nI x) → (∀ W', W' 229 11 = nI ((List.range es.length).filter fun i => P i).length → (∀ j x, ((List.range es.length).filter fun i => P i)[j]? = some x → W' 236 j = nI x) → EqF [11] [236] W W' → Q none W') → hd_161_49 d Q (nI e) W := by
  intro n
  induction n with
  | zero =>
    intro e W h1 h2 hG hP h11 h236 h
    have hE := hG.2.1
    have he : e = es.length := by omega
    subst he
    refine sx_161_49 _ W ⟨fun q => absurd q ?_, fun _ => h W h11 h236 EqF.rf⟩
    rw [hG.2.2.2.2.1]; exact nI_nlt (Nat.le_refl _) (by omega)
  | succ n ih =>
    intro e W h1 h2 hG hP h11 h236 h
    have hE := hG.2.1
    have he : e < es.length := by omega
    have hfl : ((List.range e).filter fun i => P i).length ≤ e := by
      have := List.length_filter_le (fun i => P i) (List.range e)
      rwa [List.length_range] at this
    refine sx_161_49 _ W ⟨fun _ => ⟨in_N (by omega) (by omega), ?_⟩, fun q => absurd ?_ q⟩
    · rw [nI_clamp (by omega), hP e he, h11]
      cases hp : P e with
      | false =>
        have hr : ((List.range (e + 1)).filter fun i => P i) = (List.range e).filter fun i => P i := by rw [List.range_succ, List.filter_append]; simp [hp]
        refine ⟨fun _ => ?_, fun z => absurd rfl z⟩
        rw [ci_1, nI_add]
        exact ih (e + 1) W (by omega) (by omega) hG hP (by rw [hr]; exact h11) (by rw [hr]; exact h236) h
      | true =>
        have hr : ((List.range (e + 1)).filter fun i => P i) = ((List.range e).filter fun i => P i) ++ [e] := by rw [List.range_succ, List.filter_append]; simp [hp]
        refine ⟨fun z => absurd z (by decide), fun _ => ⟨in_N (by omega) (by omega), fun W6 e6 W7 e7 => ?_⟩⟩
        rw [nI_clamp (by omega)] at e6
        have h11' : W6 229 11 = nI ((List.range e).filter fun i => P i).length := by rw [e6, uw_n (by decide)]; exact h11
        rw [h11', ci_1, nI_add] at e7
        have f7 : EqF [11] [236] W W7 := by rw [e7, e6]; exact (EqF.uwA (by simp) (by decide)).tr (EqF.uwF (by simp))
        rw [ci_1, nI_add]
        refine ih (e + 1) W7 (by omega) (by omega) (hG.fr f7 (by decide) (by decide) (by decide) (by decide)) (fun i hi => by rw [f7.1 232 (by decide) (by decide)]; exact hP i hi) (by rw [hr, e7, uw_s]; simp) (fun j x hj => ?_) fun W' m1 m2 m3 => h W' m1 m2 (f7.tr m3)
        rw [hr] at hj
        rw [e7, uw_n (by decide), e6]
        by_cases q : j = ((List.range e).filter fun i => P i).length
        · subst q
          rw [List.getElem?_concat_length] at hj
          cases hj
          exact uw_s
        · have hjl : j < ((List.range e).filter fun i => P i).length := by
            have := (List.getElem?_eq_some_iff.mp hj).1
            rw [List.length_append, List.length_singleton] at this
            omega
          rw [uw_m q]
          rw [List.getElem?_append_left hjl] at hj
          exact h236 j x hj
    · rw [hG.2.2.2.2.1]; exact nI_lt he (by omega)
/-- makeKnot -/
theorem rf_makeKnot (hG : RfG W V es) (h : ∀ W', W' 229 11 = nI (knL V es).length → (∀ j x, (knL V es)[j]? = some x → W' 236 j = nI x) → EqF (11 :: laF) (236 :: ipL) W W' → Q none W') : fl_cal (d + 6) 161 [.ref 229] W Q := by
  refine sx_161 W (rf_all hG fun W1 k1 k2 => ?_)
  have f1 : EqF (11 :: laF) (236 :: ipL) W W1 := k2.mono (by decide) (by decide)
  show hd_161_6 (d + 5) Q (Int32.ofInt 0) W1
  rw [ci_0]
  refine rf_kn_a es.length 0 W1 (by omega) (Nat.zero_le _) (hG.fr f1 (by decide) (by decide) (by decide) (by decide)) (fun i hi => by rw [k1 i hi]; rfl) fun W2 m1 m2 m3 => ?_
  have f2 : EqF (11 :: laF) (236 :: ipL) W W2 := f1.tr (m3.mono (by decide) (by decide))
  refine rf_kn_b (P := knS V es es.length) es.length 0 W2 (by omega) (Nat.zero_le _) (hG.fr f2 (by decide) (by decide) (by decide) (by decide)) m1 (by rw [m2]; rfl) (fun j x hj => by simp at hj) fun W' n1 n2 n3 => h W' n1 n2 (f2.tr (n3.mono (by decide) (by decide)))
/-- lay -/
def lyF : List Nat := 9 :: 11 :: 41 :: laF
def lyL : List Nat := 232 :: 236 :: 255 :: laL
theorem rf_lay (hG : RfG W V es)
    (hy : ∀ W' R', layG V es = some R' → (∃ L, BlkOK V es L) → TOK es R' → W' 229 9 = 1 → RT W' V R' → W' 229 11 = W 229 11 → EqF lyF lyL W W' → Q (some (.int (nI (stF (nxD es R') (2 * es.length)).2.length))) W')
    (h0 : ∀ W', layG V es = none → W' 229 9 = 0 → W' 229 11 = nI (knL V es).length → (∀ j x, (knL V es)[j]? = some x → W' 236 j = nI x) → EqF lyF lyL W W' → Q (some (.int (-1))) W') : fl_cal (d + 7) 160 [.ref 229] W Q := by
  have hall : prs (fun _ => true) 0 es = es := prs_all fun j _ => rfl
  refine sx_160 W (rf_all hG fun W1 k1 k2 => ?_)
  have f1 : EqF lyF lyL W W1 := k2.mono (by decide) (by decide)
  refine rf_layAll (P := fun _ => true) (hG.fr f1 (by decide) (by decide) (by decide) (by decide)) (fun i hi => by rw [k1 i hi]; rfl) (fun W2 R' j1 jb j2 j3 => ⟨fun z => absurd z (by decide), fun _ W5 e5 => ?_⟩) fun W2 j1 j2 => ⟨fun _ W3 e3 => ?_, fun z => absurd rfl z⟩
  · rw [hall] at j1 jb
    obtain ⟨L, hL⟩ := jb
    have hTok : TOK es R' := fun y => layG_ok hG.1 hG.2.2.1 hL j1 y
    have f2 : EqF lyF lyL W W2 := f1.tr (j3.1.mono (by decide) (by decide))
    have f5 : EqF lyF lyL W W5 := f2.tr (by rw [e5]; exact EqF.uwF (by decide))
    have hG5 := hG.fr f5 (by decide) (by decide) (by decide) (by decide)
    have hR5 : RT W5 V R' := (j2 (by decide)).fr (show EqF [9] [] W2 W5 by rw [e5]; exact EqF.uwF (by simp)) (by decide) (by decide)
    have h9 : W5 229 9 = 1 := by rw [e5, uw_s]; rfl
    refine rf_faces (by rw [h9]; decide) hTok hG5 hR5 fun W6 g6 => hy W6 R' j1 ⟨L, hL⟩ hTok (by rw [g6.2 9 (by decide)]; exact h9) (hR5.fr g6 (by decide) (by decide)) ?_ (f5.tr (g6.mono (by decide) (by decide)))
    rw [g6.2 11 (by decide), e5, uw_m (by decide), j3.1.2 11 (by decide), k2.2 11 (by decide)]
  · rw [hall] at j1
    have f2 : EqF lyF lyL W W2 := f1.tr (j2.1.mono (by decide) (by decide))
    have f3 : EqF lyF lyL W W3 := f2.tr (by rw [e3]; exact EqF.uwF (by decide))
    refine rf_makeKnot (hG.fr f3 (by decide) (by decide) (by decide) (by decide)) fun W4 m1 m2 m3 => h0 W4 j1 ?_ m1 m2 (f3.tr (m3.mono (by decide) (by decide)))
    rw [m3.2 9 (by decide), e3, uw_s]; rfl
end RDD
