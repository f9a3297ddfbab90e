/-! ===== Reference: the first rings ===== -/
theorem nI_mod : ∀ a, a < 48 → ∀ n, n < 48 → 0 < n → nI a - nI a / nI n * nI n = nI (a % n) := by decide +kernel
theorem allv_b : ∀ V, V ≤ 20 → ∀ i, i < 32 → sb (((Int32.ofInt 1) <<< (nI V &&& 31)) - Int32.ofInt 1) i = decide (i < V) := by decide +kernel
theorem wyE_mem_pd {l : List Nat} {g : Nat × Nat} (hg : g.1 < g.2) : g ∈ wyE l ↔ (g.1, g.2) ∈ pd l ∨ (g.2, g.1) ∈ pd l := by
  rw [← wyE_adj]
  constructor
  · intro h; exact adj_iff.mpr (Or.inl h)
  · intro h
    have := adj_wyE_mem h
    rwa [show min g.1 g.2 = g.1 by omega, show max g.1 g.2 = g.2 by omega] at this
theorem wyE_rev {l : List Nat} {g : Nat × Nat} (hg : g.1 < g.2) : g ∈ wyE l.reverse ↔ g ∈ wyE l := by
  rw [wyE_mem_pd hg, wyE_mem_pd hg, pd_rev, pd_rev]
  exact or_comm
theorem pd_get : ∀ {l : List Nat} {i x y : Nat}, l[i]? = some x → l[i + 1]? = some y → (pd l)[i]? = some (x, y)
  | [], _, _, _, h, _ => by simp at h
  | [_], i, _, _, _, h => by simp at h
  | a :: b :: l, 0, x, y, h1, h2 => by
    simp at h1 h2
    simp [pd, h1, h2]
  | a :: b :: l, i + 1, x, y, h1, h2 => by
    rw [pd, List.getElem?_cons_succ]
    exact pd_get (l := b :: l) (by simpa using h1) (by simpa using h2)
theorem cd_get {r : List Nat} {i x y : Nat} (hi : i < r.length) (h1 : r[i]? = some x) (h2 : r[(i + 1) % r.length]? = some y) : (cd r)[i]? = some (x, y) := by
  cases r with
  | nil => simp at hi
  | cons a t =>
    show (pd (a :: (t ++ [a])))[i]? = _
    have e : a :: (t ++ [a]) = (a :: t) ++ [a] := rfl
    refine pd_get ?_ ?_
    · rw [e, List.getElem?_append_left hi]; exact h1
    · rw [e]
      by_cases hl : i + 1 < (a :: t).length
      · rw [List.getElem?_append_left hl]
        rwa [Nat.mod_eq_of_lt hl] at h2
      · have : i + 1 = (a :: t).length := by omega
        rw [this, Nat.mod_self] at h2
        rw [this, List.getElem?_concat_length]
        simpa using h2
def ed (p : Nat × Nat) : Nat × Nat := (min p.1 p.2, max p.1 p.2)
section RPC
variable {d : Nat} {Q : fl_R} {W : fl_W} {V : Nat} {es bes : gE}
theorem rf_allV (hG : RfG W V es) (h : ∀ x, BS x (fun v => decide (v < V)) → Q (some (.int x)) W) : fl_cal (d + 1) 143 [.ref 229] W Q := by
  have hV := hG.1
  refine sx_143 W ?_
  rw [hG.2.2.2.1]
  refine h _ fun i hi => ?_
  rw [allv_b V hV i hi]
  by_cases e : i < 20
  · simp [e]
  · have : ¬ i < V := by omega
    simp [e, this]
/-- ringlaying loop -/
theorem rf_fr_c {r : List Nat} (hr3 : 3 ≤ r.length) (hr20 : r.length ≤ 20) (hrV : ∀ x ∈ r, x < 20) (hadj : ∀ p, p ∈ cd r → adj es p.1 p.2 = true) : ∀ (n k : Nat) (W : fl_W), r.length - k = n → k ≤ r.length → RfG W V es → W 247 0 = nI r.length → (∀ j x, r[j]? = some x → W 246 j = nI x) → BS (W 229 28) (fun v => (r.take k).contains v) → (∀ j g, es[j]? = some g → W 248 j = if g ∈ ((cd r).take k).map ed then 1 else 0) →
    (∀ W', BS (W' 229 28) (fun v => r.contains v) → (∀ j g, es[j]? = some g → W' 248 j = if g ∈ (cd r).map ed then 1 else 0) → EqF [28] [248] W W' → Q none W') → hd_145_191 (d + 1) Q (nI k) W := by
  intro n
  induction n with
  | zero =>
    intro k W h1 h2 hG h247 h246 h28 h248 h
    refine sx_145_191 _ W ⟨in_N (n := 0) (by omega) (by omega), ?_⟩
    show mi_br (nI k < W 247 0) _ _
    rw [h247]
    refine ⟨fun z => absurd z (nI_nlt (by omega) (by omega)), fun _ => h W ?_ ?_ EqF.rf⟩
    · rwa [List.take_of_length_le (by omega)] at h28
    · rwa [List.take_of_length_le (by rw [cd_len]; omega)] at h248
  | succ n ih =>
    intro k W h1 h2 hG h247 h246 h28 h248 h
    have hk : k < r.length := by omega
    have hE := hG.2.1
    have hp := List.getElem?_eq_getElem hk
    have hm1 : (k + 1) % r.length < r.length := Nat.mod_lt _ (by omega)
    have hq := List.getElem?_eq_getElem hm1
    have hc := cd_get hk hp hq
    have hcm := List.mem_of_getElem? hc
    generalize hx : r[k] = x at hp hc hcm
    generalize hy : r[(k + 1) % r.length] = y at hq hc hcm
    have hx20 := hrV x (List.mem_of_getElem? hp)
    have hy20 := hrV y (List.mem_of_getElem? hq)
    refine sx_145_191 _ W ⟨in_N (n := 0) (by omega) (by omega), ?_⟩
    show mi_br (nI k < W 247 0) _ _
    rw [h247]
    refine ⟨fun _ => ⟨in_N (by omega) (by omega), fun W15 e15 => ?_⟩, fun z => absurd (nI_lt hk (by omega)) z⟩
    rw [nI_clamp (by omega), h246 k x hp] at e15
    have f15 : EqF [28] [248] W W15 := by rw [e15]; exact EqF.uwF (by simp)
    have e247 : W15 247 0 = nI r.length := by rw [f15.1 247 (by decide) (by decide)]; exact h247
    have e246 : W15 246 = W 246 := f15.1 246 (by decide) (by decide)
    have hmod : nI k + Int32.ofInt 1 - (nI k + Int32.ofInt 1) / nI r.length * nI r.length = nI ((k + 1) % r.length) := by
      rw [ci_1, nI_add, nI_mod (k + 1) (by omega) r.length (by omega) (by omega)]
    refine ⟨in_N (by omega) (by omega), in_N (n := 0) (by omega) (by omega), ?_, ?_⟩
    · show ¬ W15 247 0 = 0
      rw [e247, cz_0, nI_eq (by omega) (by omega)]; omega
    · show vp_in (nI k + Int32.ofInt 1 - (nI k + Int32.ofInt 1) / W15 247 0 * W15 247 0) 1200 ∧ fl_cal (d + 1) 128 [.ref 229, .int (W15 246 (nI k).toNatClampNeg), .int (W15 246 (nI k + Int32.ofInt 1 - (nI k + Int32.ofInt 1) / W15 247 0 * W15 247 0).toNatClampNeg)] W15 _
      rw [e247, hmod, nI_clamp (by omega), nI_clamp (by omega), e246, h246 k x hp, h246 _ y hq]
      refine ⟨in_N (by omega) (by omega), ?_⟩
      have hG15 := hG.fr f15 (by decide) (by decide) (by decide) (by decide)
      refine rf_eOf hx20 hy20 hG15 ?_
      obtain ⟨j0, hj0⟩ : ∃ j0, eNo es x y = some j0 := by
        have := hadj (x, y) hcm
        rw [← eNo_adj hG.2.2.1] at this
        exact Option.isSome_iff_exists.mp this
      rw [hj0]
      have hat := eNo_at hj0
      have hjl := eNo_lt hj0
      refine ⟨in_N (show j0 < 61 by omega) (by omega), fun W17 e17 => ?_⟩
      have e17 : W17 = fl_uw W15 248 j0 (Int32.ofInt 1) := by
        rw [e17]
        show fl_uw W15 248 (nI j0).toNatClampNeg _ = _
        rw [nI_clamp (by omega)]
      have f17 : EqF [28] [248] W15 W17 := by rw [e17]; exact EqF.uwA (by simp) (by decide)
      have fA := f15.tr f17
      rw [ci_1, nI_add]
      refine ih (k + 1) W17 (by omega) (by omega) (hG.fr fA (by decide) (by decide) (by decide) (by decide)) (by rw [fA.1 247 (by decide) (by decide)]; exact h247) (fun j z hj => by rw [fA.1 246 (by decide) (by decide)]; exact h246 j z hj) ?_ (fun j g hj => ?_) fun W' k1 k2 k3 => h W' k1 k2 (fA.tr k3)
      · rw [e17, uw_n (by decide), e15, uw_s]
        refine (h28.or (BS.one hx20)).congr fun v _ => ?_
        rw [List.take_succ_eq_append_getElem hk, hx, Bool.eq_iff_iff]
        simp only [Bool.or_eq_true, List.contains_eq_mem, decide_eq_true_eq, List.mem_append, List.mem_singleton]
      · have hck : k < (cd r).length := by rw [cd_len]; exact hk
        have hce : (cd r)[k] = (x, y) := by
          rw [List.getElem?_eq_getElem hck, Option.some.injEq] at hc
          exact hc
        have hmem : g ∈ ((cd r).take (k + 1)).map ed ↔ g ∈ ((cd r).take k).map ed ∨ g = ed (x, y) := by
          rw [List.take_succ_eq_append_getElem hck, hce, List.map_append, List.mem_append]
          simp
        rw [e17]
        by_cases ej : j = j0
        · subst ej
          rw [hat] at hj
          cases hj
          rw [uw_s, if_pos (hmem.mpr (Or.inr rfl))]; rfl
        · have hge : g ≠ ed (x, y) := fun e => by
            rw [e] at hj
            have hjl' := (List.getElem?_eq_some_iff.mp hj).1
            exact ej ((List.getElem?_inj hjl' hG.2.2.1.2).mp (hj.trans hat.symm))
          rw [uw_m ej, e15, uw_n (by decide), h248 j g hj]
          have : g ∈ ((cd r).take (k + 1)).map ed ↔ g ∈ ((cd r).take k).map ed := hmem.trans ⟨fun z => z.resolve_right hge, Or.inl⟩
          simp only [this]
theorem rf_fr_b : ∀ (n k : Nat) (W : fl_W), es.length - k = n → k ≤ es.length → RfG W V es → (∀ j, j < k → W 248 j = 0) → (∀ W', (∀ j, j < es.length → W' 248 j = 0) → W' 229 28 = 0 → EqF [28] [248] W W' → hd_145_191 (d + 1) Q (nI 0) W') → hd_145_160 (d + 1) Q (nI k) W := by
  intro n
  induction n with
  | zero =>
    intro k W h1 h2 hG h248 h
    have hE := hG.2.1
    refine sx_145_160 _ W ⟨fun q => absurd q ?_, fun _ W13 e13 => ?_⟩
    · rw [hG.2.2.2.2.1]; exact nI_nlt (by omega) (by omega)
    · exact h W13 (fun j hj => by rw [e13, uw_n (by decide)]; exact h248 j (by omega)) (by rw [e13, uw_s]; rfl) (by rw [e13]; exact EqF.uwF (by simp))
  | succ n ih =>
    intro k W h1 h2 hG h248 h
    have hE := hG.2.1
    refine sx_145_160 _ W ⟨fun _ => ⟨in_N (by omega) (by omega), fun W2 e2 => ?_⟩, fun q => absurd ?_ q⟩
    · rw [nI_clamp (by omega)] at e2
      have f2 : EqF [28] [248] W W2 := by rw [e2]; exact EqF.uwA (by simp) (by decide)
      rw [ci_1, nI_add]
      refine ih (k + 1) W2 (by omega) (by omega) (hG.fr f2 (by decide) (by decide) (by decide) (by decide)) (fun j hj => ?_) fun W' k1 k2 k3 => h W' k1 k2 (f2.tr k3)
      rw [e2]
      by_cases e : j = k
      · rw [e, uw_s]; rfl
      · rw [uw_m e]; exact h248 j (by omega)
    · rw [hG.2.2.2.2.1]; exact nI_lt (by omega) (by omega)
theorem rf_fr_a {lo hi : Nat} {ws : List Nat} (hl : ws.length + 2 ≤ 20) : ∀ (n k : Nat) (W : fl_W), ws.length - k = n → k ≤ ws.length → W 229 35 = nI ws.length → (∀ j x, ws.reverse[j]? = some x → W 252 j = nI x) → W 246 0 = nI lo → W 246 1 = nI hi → W 246 20 = nI lo → W 246 (21 + ws.length) = nI hi → (∀ j x, j < k → ws.reverse[j]? = some x → W 246 (2 + j) = nI x) → (∀ j x, j < k → ws[j]? = some x → W 246 (21 + j) = nI x) →
    (∀ W', (∀ j x, (lo :: hi :: ws.reverse)[j]? = some x → W' 246 j = nI x) → (∀ j x, (lo :: (ws ++ [hi]))[j]? = some x → W' 246 (20 + j) = nI x) → EqF [] [246] W W' → hd_145_160 (d + 1) Q (nI 0) W') → hd_145_102 (d + 1) Q (nI k) W := by
  intro n
  induction n with
  | zero =>
    intro k W h1 h2 h35 h252 a0 a1 a20 a21 b1 b2 h
    refine sx_145_102 _ W ⟨fun z => absurd z ?_, fun _ => h W (fun j x hj => ?_) (fun j x hj => ?_) EqF.rf⟩
    · rw [h35]; exact nI_nlt (by omega) (by omega)
    · match j, hj with
      | 0, hj => simp at hj; rw [← hj]; exact a0
      | 1, hj => simp at hj; rw [← hj]; exact a1
      | j + 2, hj =>
        rw [List.getElem?_cons_succ, List.getElem?_cons_succ] at hj
        have hjl := (List.getElem?_eq_some_iff.mp hj).1
        rw [List.length_reverse] at hjl
        rw [show j + 2 = 2 + j by omega]
        exact b1 j x (by omega) hj
    · match j, hj with
      | 0, hj => simp at hj; rw [← hj]; exact a20
      | j + 1, hj =>
        rw [List.getElem?_cons_succ] at hj
        rw [show 20 + (j + 1) = 21 + j by omega]
        by_cases e : j < ws.length
        · rw [List.getElem?_append_left e] at hj
          exact b2 j x (by omega) hj
        · have : j = ws.length := by
            have := (List.getElem?_eq_some_iff.mp hj).1
            rw [List.length_append, List.length_singleton] at this
            omega
          subst this
          rw [List.getElem?_concat_length] at hj
          cases hj
          exact a21
  | succ n ih =>
    intro k W h1 h2 h35 h252 a0 a1 a20 a21 b1 b2 h
    have hk : k < ws.length := by omega
    have hkr : k < ws.reverse.length := by rw [List.length_reverse]; exact hk
    have hp := List.getElem?_eq_getElem hkr
    have hq : ws.reverse[ws.length - 1 - k]? = some ws[k] := by
      rw [List.getElem?_reverse (by omega), show ws.length - 1 - (ws.length - 1 - k) = k by omega]
      exact List.getElem?_eq_getElem hk
    refine sx_145_102 _ W ⟨fun _ => ⟨in_N (by omega) (by omega), ?_⟩, fun z => absurd ?_ z⟩
    · rw [ci_2, nI_add, nI_clamp (by omega)]
      refine ⟨in_N (by omega) (by omega), fun W11 e11 => ?_⟩
      rw [nI_clamp (by omega), h252 k _ hp] at e11
      have f11 : EqF [] [246] W W11 := by rw [e11]; exact EqF.uwA (by simp) (by decide)
      have e35 : W11 229 35 = nI ws.length := by rw [f11.2 35 (by decide)]; exact h35
      have hsub : nI ws.length - Int32.ofInt 1 - nI k = nI (ws.length - 1 - k) := by
        rw [i_eq]
        have h5 : nI ws.length = nI (ws.length - 1 - k) + nI k + nI 1 := by rw [nI_add, nI_add]; congr 1; omega
        rw [h5, ci_1, Int32.add_sub_cancel, Int32.add_sub_cancel]
      rw [e35, hsub, cb_21, nI_add, nI_clamp (by omega), nI_clamp (by omega)]
      refine ⟨in_N (by omega) (by omega), in_N (by omega) (by omega), fun W12 e12 => ?_⟩
      have e252 : W11 252 = W 252 := f11.1 252 (by decide) (by decide)
      rw [e252, h252 _ _ hq] at e12
      have f12 : EqF [] [246] W11 W12 := by rw [e12]; exact EqF.uwA (by simp) (by decide)
      have fA := f11.tr f12
      have at' : ∀ m, m ≠ 2 + k → m ≠ 21 + k → W12 246 m = W 246 m := fun m m1 m2 => by rw [e12, uw_m m2, e11, uw_m m1]
      rw [ci_1, nI_add]
      refine ih (k + 1) W12 (by omega) (by omega) (by rw [fA.2 35 (by decide)]; exact h35) (fun j x hj => by rw [fA.1 252 (by decide) (by decide)]; exact h252 j x hj) (by rw [at' 0 (by omega) (by omega)]; exact a0) (by rw [at' 1 (by omega) (by omega)]; exact a1) (by rw [at' 20 (by omega) (by omega)]; exact a20) (by rw [at' _ (by omega) (by omega)]; exact a21) (fun j x hj hjx => ?_) (fun j x hj hjx => ?_) fun W' k1 k2 k3 => h W' k1 k2 (fA.tr k3)
      · by_cases e : j = k
        · subst e
          rw [e12, uw_m (by omega), e11, uw_s]
          rw [hp] at hjx; cases hjx; rfl
        · rw [at' _ (by omega) (by omega)]; exact b1 j x (by omega) hjx
      · by_cases e : j = k
        · subst e
          rw [e12, uw_s]
          rw [List.getElem?_eq_getElem hk] at hjx; cases hjx; rfl
        · rw [at' _ (by omega) (by omega)]; exact b2 j x (by omega) hjx
    · rw [h35]; exact nI_lt hk (by omega)
def frL : List Nat := [244, 246, 247, 248, 251, 252]
/-- firstRings -/
theorem rf_first {lo hi j0 : Nat} {t : gE} (h2 : TwoC bes) (hb : bes = (lo, hi) :: t) (ht : t ≠ []) (hsl : bes.Sublist es) (hj0 : es[j0]? = some (lo, hi)) (hG : RfG W V es) (hH : HR W es bes) (h : ∀ W', RRg W' (st0 bes lo hi).1 → RLd W' es (st0 bes lo hi).2 → EqF [26, 28, 35] frL W W' → Q none W') : fl_cal (d + 3) 145 [.ref 229, .int (nI j0)] W Q := by
  have hV := hG.1
  have hE := hG.2.1
  have hO := hG.2.2.1
  have hOb : okE V bes := okE_sub hO hsl
  have hjl := (List.getElem?_eq_some_iff.mp hj0).1
  have hlh := hO.1 (lo, hi) (List.mem_of_getElem? hj0)
  simp only at hlh
  have hLI := li_st0 hV hOb h2 hb ht
  obtain ⟨w1, w2, w3, w4, w5⟩ := fw_ok hV hOb h2 hb ht
  unfold st0 at h hLI
  generalize fstW bes lo hi = ws at *
  have hlo : lo < 20 := by omega
  have hhi : hi < 20 := by omega
  obtain ⟨g1, g2⟩ := hG.2.2.2.2.2 j0 _ hj0
  simp only at g1 g2
  have hemm : ∀ u x : Nat, adj es u x = true → ((min u x, max u x) ∈ bes ↔ adj bes x u = true) := fun u x _ => by
    constructor
    · intro z
      rcases Nat.le_total u x with q | q
      · rw [show min u x = u by omega, show max u x = x by omega] at z; exact adj_iff.mpr (Or.inr z)
      · rw [show min u x = x by omega, show max u x = u by omega] at z; exact adj_iff.mpr (Or.inl z)
    · intro z
      rw [adj_sym] at z
      exact adj_te hOb z
  -- breadth first is the same
  have hfw : bfsP (fun x u => adj es u x && (decide ((min u x, max u x) ≠ (lo, hi)) && decide ((min u x, max u x) ∈ bes)) && (decide (u = lo) || decide (u < V))) (fun v => decide (v = lo)) hi = some (lo :: (ws ++ [hi])) := by
    rw [← w1]
    unfold fW
    refine bfsP_congr (fun x => x ≠ lo) (by omega) (fun x v hx hv _ hg => by simpa using hg) fun x v hx hv hne => ?_
    simp only [clA]
    rw [Bool.eq_iff_iff]
    simp only [Bool.and_eq_true, Bool.or_eq_true, decide_eq_true_eq]
    constructor
    · rintro ⟨⟨a1, a2, a3⟩, a4⟩
      refine ⟨(hemm v x a1).mp a3, ?_⟩
      by_cases e : v = lo
      · refine Or.inr ⟨fun ex => a2 ?_, e⟩
        rw [e, ex, Prod.mk.injEq]; omega
      · exact Or.inl ⟨e, hne⟩
    · rintro ⟨a1, a2⟩
      have ha := adj_lt hOb a1
      have hes : adj es v x = true := by
        rcases adj_iff.mp a1 with z | z
        · exact adj_iff.mpr (Or.inr (hsl.subset z))
        · exact adj_iff.mpr (Or.inl (hsl.subset z))
      refine ⟨⟨hes, fun ee => ?_, (hemm v x hes).mpr a1⟩, Or.inr ha.2.1⟩
      rw [Prod.mk.injEq] at ee
      rcases a2 with z | z <;> omega
  refine sx_145 _ W ⟨in_N (by omega) (by omega), in_N (by omega) (by omega), rf_allV hG fun x1 hx1 => ?_⟩
  rw [nI_clamp (by omega), g1, g2]
  refine rf_find (okP := fun g => decide (g ≠ (lo, hi)) && decide (g ∈ bes)) (A := fun x u => adj es u x && (decide ((min u x, max u x) ≠ (lo, hi)) && decide ((min u x, max u x) ∈ bes)) && (decide (u = lo) || decide (u < V))) hG hH hhi (BS.one hlo).lo hx1.lo (fun j g hj => ?_) (fun x u _ => rfl) (fun W2 g t' k1 k2 k3 k4 => ?_) (by rw [hfw]; exact fun z => by cases z)
  · have hjj := (List.getElem?_eq_some_iff.mp hj).1
    rw [Bool.and_eq_true, decide_eq_true_eq, decide_eq_true_eq]
    constructor
    · rintro ⟨e1, e2⟩
      refine ⟨fun e => e1 ?_, e2, Or.inl rfl⟩
      have := (nI_eq (by omega) (by omega)).mp e
      rw [this, hj0] at hj
      exact (Option.some.inj hj).symm
    · rintro ⟨e1, e2, -⟩
      refine ⟨fun e => e1 ?_, e2⟩
      rw [e] at hj
      rw [(List.getElem?_inj hjj hO.2).mp (hj.trans hj0.symm)]
  rw [hfw] at k1
  cases k1
  have hnd := w2.2.1
  have hhw : hi ∉ ws := fun z => by
    rw [List.nodup_cons, List.nodup_append] at hnd
    exact hnd.2.2.2 hi z hi (by simp) rfl
  refine rf_tw hhi hlo k3 hhw w5 (by omega) fun W3 m1 m2 m3 => ?_
  intro W4 e4
  refine ⟨in_N (n := 0) (by omega) (by omega), fun W5 e5 => ⟨in_N (n := 1) (by omega) (by omega), fun W6 e6 => ⟨in_N (n := 0) (by omega) (by omega), fun W7 e7 => ⟨in_N (n := 1) (by omega) (by omega), fun W8 e8 => ⟨in_N (n := 20) (by omega) (by omega), fun W9 e9 => ?_⟩⟩⟩⟩⟩
  have q35 : ∀ a, a = W4 ∨ a = W5 ∨ a = W6 ∨ a = W7 ∨ a = W8 ∨ a = W9 → a 229 35 = nI ws.length := by
    have z4 : W4 229 35 = nI ws.length := by rw [e4, uw_m (by decide)]; exact m1
    have z5 : W5 229 35 = nI ws.length := by rw [e5, uw_n (by decide)]; exact z4
    have z6 : W6 229 35 = nI ws.length := by rw [e6, uw_n (by decide)]; exact z5
    have z7 : W7 229 35 = nI ws.length := by rw [e7, uw_n (by decide)]; exact z6
    have z8 : W8 229 35 = nI ws.length := by rw [e8, uw_n (by decide)]; exact z7
    have z9 : W9 229 35 = nI ws.length := by rw [e9, uw_n (by decide)]; exact z8
    rintro a (e | e | e | e | e | e) <;> rw [e] <;> assumption
  rw [q35 W9 (by simp), cb_21, nI_add, nI_clamp (by omega)]
  refine ⟨in_N (by omega) (by omega), fun W10 e10 => ?_⟩
  rw [q35 W4 (by simp), ci_2, nI_add] at e5
  rw [q35 W5 (by simp), ci_2, nI_add] at e6
  have e5 : W5 = fl_uw W4 247 0 (nI (ws.length + 2)) := e5
  have e6 : W6 = fl_uw W5 247 1 (nI (ws.length + 2)) := e6
  have e7 : W7 = fl_uw W6 246 0 (nI lo) := e7
  have e8 : W8 = fl_uw W7 246 1 (nI hi) := e8
  have e9 : W9 = fl_uw W8 246 20 (nI lo) := e9
  have f410 : EqF [26] [246, 247] W3 W10 := by
    rw [e10, e9, e8, e7, e6, e5, e4]
    exact ((((((EqF.uwF (by simp)).tr (EqF.uwA (by simp) (by decide))).tr (EqF.uwA (by simp) (by decide))).tr (EqF.uwA (by simp) (by decide))).tr (EqF.uwA (by simp) (by decide))).tr (EqF.uwA (by simp) (by decide))).tr (EqF.uwA (by simp) (by decide))
  have f10 : EqF [26, 28, 35] frL W W10 := ((k4.mono (by decide) (by decide)).tr (m3.mono (by decide) (by decide))).tr (f410.mono (by decide) (by decide))
  have h26 : W10 229 26 = nI 2 := by
    rw [e10, uw_n (by decide), e9, uw_n (by decide), e8, uw_n (by decide), e7, uw_n (by decide), e6, uw_n (by decide), e5, uw_n (by decide), e4, uw_s]; rfl
  have h247 : W10 247 = W6 247 := by rw [e10, uw_n (by decide), e9, uw_n (by decide), e8, uw_n (by decide), e7, uw_n (by decide)]
  have h2470 : W10 247 0 = nI (ws.length + 2) := by rw [h247, e6, uw_m (by decide), e5, uw_s]
  have h2471 : W10 247 1 = nI (ws.length + 2) := by rw [h247, e6, uw_s]
  rw [ci_0]
  have hG10 := hG.fr f10 (by decide) (by decide) (by decide) (by decide)
  refine rf_fr_a (lo := lo) (hi := hi) (ws := ws) w4 ws.length 0 W10 (by omega) (Nat.zero_le _) (by rw [f410.2 35 (by decide)]; exact m1) (fun j x hj => by rw [f410.1 252 (by decide) (by decide)]; exact m2 j x hj) (by rw [e10, uw_m (by omega), e9, uw_m (by omega), e8, uw_m (by omega), e7, uw_s]) (by rw [e10, uw_m (by omega), e9, uw_m (by omega), e8, uw_s]) (by rw [e10, uw_m (by omega), e9, uw_s]) (by rw [e10, uw_s]) (fun j x hj => by omega) (fun j x hj => by omega) fun W11 p1 p2 p3 => ?_
  have f11 := f10.tr (p3.mono (fs' := [26, 28, 35]) (l' := frL) (by decide) (by decide))
  have hG11 := hG.fr f11 (by decide) (by decide) (by decide) (by decide)
  refine rf_fr_b es.length 0 W11 (by omega) (Nat.zero_le _) hG11 (fun j hj => by omega) fun W12 q1 q2 q3 => ?_
  have f12 := f11.tr (q3.mono (fs' := [26, 28, 35]) (l' := frL) (by decide) (by decide))
  have hG12 := hG.fr f12 (by decide) (by decide) (by decide) (by decide)
  have hr0 : (lo :: hi :: ws.reverse).length = ws.length + 2 := by simp
  have hr1 : (lo :: (ws ++ [hi])).length = ws.length + 2 := by simp
  have hr0V : ∀ x ∈ lo :: hi :: ws.reverse, x < 20 := fun x hx => by
    simp only [List.mem_cons, List.mem_reverse] at hx
    rcases hx with e | e | e
    · omega
    · omega
    · exact w5 x e
  have hr1V : ∀ x ∈ lo :: (ws ++ [hi]), x < 20 := fun x hx => by
    simp only [List.mem_cons, List.mem_append, List.not_mem_nil, or_false] at hx
    rcases hx with e | e | e
    · omega
    · exact w5 x e
    · omega
  have hcd0 : ∀ p, p ∈ cd (lo :: hi :: ws.reverse) → adj bes p.1 p.2 = true := fun p hp => by
    have := (hLI.1.2.2.2.2.1 p.1 p.2).mp (List.mem_flatMap.mpr ⟨_, List.mem_cons_self, hp⟩)
    rcases adj_iff.mp this with z | z
    · exact adj_iff.mpr (Or.inl (hLI.1.1 _ z))
    · exact adj_iff.mpr (Or.inr (hLI.1.1 _ z))
  refine rf_fr_c (r := lo :: hi :: ws.reverse) (by rw [hr0]; have := List.length_pos_iff.mpr w3; omega) (by rw [hr0]; exact w4) hr0V (fun p hp => ?_) _ 0 W12 rfl (Nat.zero_le _) hG12 (by rw [q3.1 247 (by decide) (by decide), p3.1 247 (by decide) (by decide), h2470, hr0]) (fun j x hj => by rw [q3.1 246 (by decide) (by decide)]; exact p1 j x hj) (by rw [q2]; exact BS.zero.congr fun v _ => by simp) (fun j g hj => by rw [q1 j (List.getElem?_eq_some_iff.mp hj).1]; simp) fun W13 s1 s2 s3 => ?_
  · rcases adj_iff.mp (hcd0 p hp) with z | z
    · exact adj_iff.mpr (Or.inl (hsl.subset z))
    · exact adj_iff.mpr (Or.inr (hsl.subset z))
  have f13 := f12.tr (s3.mono (fs' := [26, 28, 35]) (l' := frL) (by decide) (by decide))
  refine h W13 ⟨by simp, ?_, fun i r hr => ?_⟩ ⟨s1.congr fun v hv => ?_, fun j g hj => ?_⟩ f13
  · rw [s3.2 26 (by decide), q3.2 26 (by decide), p3.2 26 (by decide), h26]; rfl
  · have e246 : W13 246 = W11 246 := by rw [s3.1 246 (by decide) (by decide), q3.1 246 (by decide) (by decide)]
    have e247 : W13 247 = W10 247 := by rw [s3.1 247 (by decide) (by decide), q3.1 247 (by decide) (by decide), p3.1 247 (by decide) (by decide)]
    rw [e246, e247]
    match i, hr with
    | 0, hr =>
      simp only [List.getElem?_cons_zero, Option.some.injEq] at hr
      rw [← hr]
      exact ⟨by rw [hr0]; exact w4, hr0V, by rw [hr0]; exact h2470, fun j x hj => by rw [Nat.mul_zero, Nat.zero_add]; exact p1 j x hj⟩
    | 1, hr =>
      simp only [List.getElem?_cons_succ, List.getElem?_cons_zero, Option.some.injEq] at hr
      rw [← hr]
      exact ⟨by rw [hr1]; exact w4, hr1V, by rw [hr1]; exact h2471, fun j x hj => by rw [Nat.mul_one]; exact p2 j x hj⟩
    | i + 2, hr => simp at hr
  · show _ = lvO ([(lo, hi)] ++ wyE (lo :: (ws ++ [hi]))) v
    rw [wy_lv w2 v, Bool.eq_iff_iff]
    simp only [List.contains_eq_mem, List.mem_cons, List.mem_reverse, decide_eq_true_eq, Bool.or_eq_true, lvO, List.any_cons, List.any_nil, inc, Bool.or_false]
    exact (or_assoc).symm
  · rw [s2 j g hj]
    have hgo := hO.1 g (List.mem_of_getElem? hj)
    have hm : g ∈ (cd (lo :: hi :: ws.reverse)).map ed ↔ g ∈ (lo, hi) :: wyE (lo :: (ws ++ [hi])) := by
      have hc : cd (lo :: hi :: ws.reverse) = (lo, hi) :: pd (hi :: (ws.reverse ++ [lo])) := rfl
      rw [hc, List.map_cons, List.mem_cons, List.mem_cons]
      have e1 : ed (lo, hi) = (lo, hi) := by unfold ed; rw [Prod.mk.injEq]; simp only; omega
      rw [e1]
      refine or_congr Iff.rfl ?_
      rw [wyE_mem_pd hgo.1, List.mem_map]
      have hrv : hi :: (ws.reverse ++ [lo]) = (lo :: (ws ++ [hi])).reverse := by simp
      rw [hrv]
      constructor
      · rintro ⟨p, p1, p2⟩
        have p1' : (p.1, p.2) ∈ pd (lo :: (ws ++ [hi])).reverse := p1
        rw [pd_rev] at p1'
        rcases Nat.le_total p.1 p.2 with q | q
        · have : g = (p.1, p.2) := by rw [← p2]; unfold ed; rw [Prod.mk.injEq]; omega
          rw [this]; exact Or.inr p1'
        · have : g = (p.2, p.1) := by rw [← p2]; unfold ed; rw [Prod.mk.injEq]; omega
          rw [this]; exact Or.inl p1'
      · rintro (z | z)
        · refine ⟨(g.2, g.1), pd_rev.mpr z, ?_⟩
          unfold ed
          exact Prod.ext (by simp only; omega) (by simp only; omega)
        · refine ⟨(g.1, g.2), pd_rev.mpr z, ?_⟩
          unfold ed
          exact Prod.ext (by simp only; omega) (by simp only; omega)
    simp only [hm]
end RPC
