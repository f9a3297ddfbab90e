/-! ===== Reference: the turn told ===== -/
def RT (W : fl_W) (V : Nat) (R : Nat → List Nat) : Prop := ∀ u, u < V → W 235 u = nI (R u).length ∧ (R u).length ≤ 20 ∧ ∀ i x, (R u)[i]? = some x → W 234 (20 * u + i) = nI x
theorem RT.fr {W W' : fl_W} {V : Nat} {R : Nat → List Nat} {fs l : List Nat} (h : RT W V R) (hE : EqF fs l W W') (h2 : 234 ∉ l) (h3 : 235 ∉ l) : RT W' V R := fun u hu => by
  rw [hE.1 234 (by decide) h2, hE.1 235 (by decide) h3]
  exact h u hu
section RPG
variable {d : Nat} {Q : fl_R} {W : fl_W} {V : Nat} {es bes : gE} {rs : List (List Nat)}
theorem rf_tn_i {ri : Nat} {r : List Nat} (hri : ri < 60) (hr3 : 3 ≤ r.length) (hr20 : r.length ≤ 20) (hrn : r.Nodup) (hrV : ∀ x ∈ r, x < 20) : ∀ (n k : Nat) (W : fl_W), r.length - k = n → k ≤ r.length → (∀ j x, r[j]? = some x → W 246 (20 * ri + j) = nI x) → (∀ j x y z, j < k → r[j]? = some x → r[(j + 1) % r.length]? = some y → r[(j + 2) % r.length]? = some z → W 254 (20 * y + x) = nI z) →
    (∀ W', (∀ p q u, (p, q) ∈ cd r → (q, u) ∈ cd r → W' 254 (20 * q + p) = nI u) → (∀ p q, p < 20 → q < 20 → (p, q) ∉ cd r → W' 254 (20 * q + p) = W 254 (20 * q + p)) → EqF [] [254] W W' → hd_154_2 d Q (nI (ri + 1)) W') → hd_154_19 d Q (nI ri) (nI r.length) (nI k) W := by
  intro n
  induction n with
  | zero =>
    intro k W h1 h2 h246 hd h
    refine sx_154_19 _ _ _ W ⟨fun z => absurd z (nI_nlt (by omega) (by omega)), fun _ => ?_⟩
    rw [ci_1, nI_add]
    refine h W (fun p q u hp hq => ?_) (fun _ _ _ _ _ => rfl) EqF.rf
    obtain ⟨j, hj⟩ := List.getElem?_of_mem hp
    have hjl := (List.getElem?_eq_some_iff.mp hj).1
    rw [cd_len] at hjl
    have hm1 : (j + 1) % r.length < r.length := Nat.mod_lt _ (by omega)
    have hm2 : (j + 2) % r.length < r.length := Nat.mod_lt _ (by omega)
    have c1 := cd_get hjl (List.getElem?_eq_getElem hjl) (List.getElem?_eq_getElem hm1)
    rw [hj] at c1
    simp only [Option.some.injEq, Prod.mk.injEq] at c1
    have hm2' : ((j + 1) % r.length + 1) % r.length = (j + 2) % r.length := by rw [Nat.mod_add_mod]
    have c2 := cd_get hm1 (List.getElem?_eq_getElem hm1) (by rw [hm2']; exact List.getElem?_eq_getElem hm2)
    have hu : r[(j + 2) % r.length] = u := by
      have := List.mem_of_getElem? c2
      rw [← c1.2] at this
      exact cd_fun hrn this hq
    refine hd j p q u (by omega) ?_ ?_ ?_
    · rw [List.getElem?_eq_getElem hjl, c1.1]
    · rw [List.getElem?_eq_getElem hm1, c1.2]
    · rw [List.getElem?_eq_getElem hm2, hu]
  | succ n ih =>
    intro k W h1 h2 h246 hd h
    have hk : k < r.length := by omega
    have hm1 : (k + 1) % r.length < r.length := Nat.mod_lt _ (by omega)
    have hm2 : (k + 2) % r.length < r.length := Nat.mod_lt _ (by omega)
    have g0 := List.getElem?_eq_getElem hk
    have g1 := List.getElem?_eq_getElem hm1
    have g2 := List.getElem?_eq_getElem hm2
    have hc := List.mem_of_getElem? (cd_get hk g0 g1)
    have hx := hrV _ (List.mem_of_getElem? g0)
    have hy := hrV _ (List.mem_of_getElem? g1)
    have hn0 : ¬ nI r.length = 0 := by rw [cz_0, nI_eq (by omega) (by omega)]; omega
    refine sx_154_19 _ _ _ W ⟨fun _ => ⟨hn0, ?_⟩, fun z => absurd (nI_lt hk (by omega)) z⟩
    rw [ci_1, ci_2, nI_add, nI_add, nI_mod (k + 1) (by omega) r.length (by omega) (by omega), nI_mod (k + 2) (by omega) r.length (by omega) (by omega), cb_20, nI_mul, nI_add, nI_add, nI_add, nI_clamp (by omega), nI_clamp (by omega), nI_clamp (by omega), h246 _ _ g0, h246 _ _ g1, h246 _ _ g2, i20 hy hx, nI_clamp (by omega)]
    refine ⟨in_N (by omega) (by omega), in_N (by omega) (by omega), hn0, in_N (by omega) (by omega), in_N (by omega) (by omega), fun W1 e1 => ?_⟩
    have f1 : EqF [] [254] W W1 := by rw [e1]; exact EqF.uwA (by simp) (by decide)
    refine ih (k + 1) W1 (by omega) (by omega) (fun j x hj => by rw [f1.1 246 (by decide) (by decide)]; exact h246 j x hj) (fun j x y z hj j1 j2 j3 => ?_) fun W' k1 k2 k3 => h W' k1 (fun p q hp hq hpq => ?_) (f1.tr k3)
    · have hx' := hrV x (List.mem_of_getElem? j1)
      have hy' := hrV y (List.mem_of_getElem? j2)
      by_cases e : j = k
      · subst e
        rw [g0] at j1; rw [g1] at j2; rw [g2] at j3
        cases j1; cases j2; cases j3
        rw [e1, uw_s]
      · have hne : x ≠ r[k] := fun ex => e ((List.getElem?_inj (List.getElem?_eq_some_iff.mp j1).1 hrn).mp (by rw [j1, g0, ex]))
        rw [e1, uw_m (by omega)]
        exact hd j x y z (by omega) j1 j2 j3
    · rw [k2 p q hp hq hpq, e1, uw_m]
      intro e
      refine hpq ?_
      have : p = r[k] ∧ q = r[(k + 1) % r.length] := by omega
      rw [this.1, this.2]
      exact hc
theorem rf_tn_o {V : Nat} {bes : gE} {s : List (List Nat) × gE} (hO : okE V bes) (hV : V ≤ 20) (hL : LI V bes s) : ∀ (n i : Nat) (W : fl_W), s.1.length - i = n → i ≤ s.1.length → RRg W s.1 → (∀ j r, j < i → s.1[j]? = some r → ∀ p q u, (p, q) ∈ cd r → (q, u) ∈ cd r → W 254 (20 * q + p) = nI u) →
    (∀ W', (∀ p q u, fol s.1 p q u → W' 254 (20 * q + p) = nI u) → EqF [] [254] W W' → Q none W') → hd_154_2 d Q (nI i) W := by
  intro n
  induction n with
  | zero =>
    intro i W h1 h2 hR hf h
    have := hR.1
    refine sx_154_2 _ W ⟨fun q => absurd q ?_, fun _ => h W (fun p q u hu => ?_) EqF.rf⟩
    · rw [hR.2.1]; exact nI_nlt (by omega) (by omega)
    · obtain ⟨r, r1, r2, r3⟩ := hu
      obtain ⟨j, hj⟩ := List.getElem?_of_mem r1
      have := (List.getElem?_eq_some_iff.mp hj).1
      exact hf j r (by omega) hj p q u r2 r3
  | succ n ih =>
    intro i W h1 h2 hR hf h
    have h60 := hR.1
    have hi : i < s.1.length := by omega
    have hr := List.getElem?_eq_getElem hi
    have hm := List.mem_of_getElem? hr
    obtain ⟨c1, c2, c3, c4⟩ := hR.2.2 i _ hr
    refine sx_154_2 _ W ⟨fun _ => ⟨in_N (by omega) (by omega), ?_⟩, fun q => absurd ?_ q⟩
    · rw [nI_clamp (by omega), c3, ci_0]
      refine rf_tn_i (r := s.1[i]) (by omega) (hL.2.2.2.1 _ hm) c1 (hL.1.2.2.1 _ hm) c2 _ 0 W rfl (Nat.zero_le _) c4 (fun j x y z hj => by omega) fun W1 k1 k2 k3 => ?_
      refine ih (i + 1) W1 (by omega) (by omega) (hR.fr k3 (by decide) (by decide) (by decide)) (fun j r hj hjr p q u hp hq => ?_) fun W' j1 j2 => h W' j1 (k3.tr j2)
      have hrm := List.mem_of_getElem? hjr
      by_cases e : (p, q) ∈ cd s.1[i]
      · have := fm_inj hL.1.2.2.2.1 hrm hm hp e
        rw [this] at hp hq
        exact k1 p q u hp hq
      · have hji : j < i := by
          rcases Nat.lt_or_ge j i with z | z
          · exact z
          · have : j = i := by omega
            subst this
            rw [hr, Option.some.injEq] at hjr
            rw [← hjr] at hp
            exact absurd hp e
        rw [k2 p q ?_ ?_ e]
        · exact hf j r hji hjr p q u hp hq
        · have := (hL.lt hO hrm (cd_in hp).1).1; omega
        · have := (hL.lt hO hrm (cd_in hp).2).1; omega
    · rw [hR.2.1]; exact nI_lt hi (by omega)
/-- tellNeighbours -/
theorem rf_tellN {s : List (List Nat) × gE} (hO : okE V bes) (hV : V ≤ 20) (hL : LI V bes s) (hR : RRg W s.1) (h : ∀ W', (∀ p q u, fol s.1 p q u → W' 254 (20 * q + p) = nI u) → EqF [] [254] W W' → Q none W') : fl_cal (d + 1) 154 [.ref 229] W Q :=
  sx_154 W (rf_tn_o hO hV hL s.1.length 0 W (by omega) (Nat.zero_le _) hR (fun j r hj => by omega) h)
/-- turnOf: going round -/
theorem rf_to_b {v x0 : Nat} {l0 : List Nat} (hv : v < V) (hV : V ≤ 20) : ∀ (rest : List Nat) (x : Nat) (W : fl_W) (R : Nat → List Nat), RT W V R → (∀ z, z ∈ x :: rest → z < 20) → x0 < 20 → x0 ∉ rest → (∀ p, p ∈ pd (x :: (rest ++ [x0])) → W 254 (20 * v + p.1) = nI p.2) → (R v).length + rest.length + 1 ≤ 20 →
    (∀ W', RT W' V (fun u => if u = v then R v ++ x :: rest else R u) → EqF [] [234, 235] W W' → Q none W') → hd_155_68 d Q (nI v) (nI x0) (nI x) W := by
  intro rest
  induction rest with
  | nil =>
    intro x W R hT hz hx0 hnot hf hl h
    have hx := hz x (by simp)
    obtain ⟨t1, t2, t3⟩ := hT v hv
    simp only [List.length_nil] at hl
    refine sx_155_68 _ _ _ W ⟨fun z => absurd z (nI_pos (by omega)), fun _ => ⟨in_N (by omega) (by omega), ?_⟩⟩
    rw [nI_clamp (by omega), t1, cb_20, i20 (by omega) (by omega), nI_clamp (by omega)]
    refine ⟨in_N (by omega) (by omega), fun W2 e2 => ⟨in_N (by omega) (by omega), in_N (by omega) (by omega), fun W3 e3 => ?_⟩⟩
    have e235 : W2 235 v = nI (R v).length := by rw [e2, uw_n (by decide)]; exact t1
    rw [e235, ci_1, nI_add] at e3
    rw [i20 (by omega) hx, nI_clamp (by omega)]
    refine ⟨in_N (by omega) (by omega), ?_⟩
    have e254 : W3 254 (20 * v + x) = nI x0 := by
      rw [e3, uw_n (by decide), e2, uw_n (by decide)]
      exact hf (x, x0) (by simp [pd])
    rw [e254]
    refine ⟨fun _ => ?_, fun z => absurd rfl z⟩
    refine sx_155_68 _ _ _ W3 ⟨fun _ => ?_, fun z => absurd (by decide) z⟩
    refine h W3 (fun u hu => ?_) (by rw [e3, e2]; exact (EqF.uwA (by simp) (by decide)).tr (EqF.uwA (by simp) (by decide)))
    obtain ⟨a1, a2, a3⟩ := hT u hu
    by_cases eu : u = v
    · subst eu
      simp only [if_true]
      refine ⟨by rw [e3, uw_s, List.length_append]; rfl, by simp; omega, fun i y hi => ?_⟩
      rw [e3, uw_n (by decide), e2]
      by_cases ei : i = (R u).length
      · subst ei
        rw [List.getElem?_concat_length] at hi
        cases hi
        rw [uw_s]
      · have hil : i < (R u).length := by
          have := (List.getElem?_eq_some_iff.mp hi).1
          rw [List.length_append, List.length_singleton] at this
          omega
        rw [uw_m (by omega)]
        rw [List.getElem?_append_left hil] at hi
        exact a3 i y hi
    · simp only [if_neg eu]
      refine ⟨by rw [e3, uw_m eu, e2, uw_n (by decide)]; exact a1, a2, fun i y hi => ?_⟩
      have hil := (List.getElem?_eq_some_iff.mp hi).1
      rw [e3, uw_n (by decide), e2, uw_m (by omega)]
      exact a3 i y hi
  | cons x' rest ih =>
    intro x W R hT hz hx0 hnot hf hl h
    have hx := hz x (by simp)
    have hx' := hz x' (by simp)
    obtain ⟨t1, t2, t3⟩ := hT v hv
    simp only [List.length_cons] at hl
    refine sx_155_68 _ _ _ W ⟨fun z => absurd z (nI_pos (by omega)), fun _ => ⟨in_N (by omega) (by omega), ?_⟩⟩
    rw [nI_clamp (by omega), t1, cb_20, i20 (by omega) (by omega), nI_clamp (by omega)]
    refine ⟨in_N (by omega) (by omega), fun W2 e2 => ⟨in_N (by omega) (by omega), in_N (by omega) (by omega), fun W3 e3 => ?_⟩⟩
    have e235 : W2 235 v = nI (R v).length := by rw [e2, uw_n (by decide)]; exact t1
    rw [e235, ci_1, nI_add] at e3
    rw [i20 (by omega) hx, nI_clamp (by omega)]
    refine ⟨in_N (by omega) (by omega), ?_⟩
    have f3 : EqF [] [234, 235] W W3 := by rw [e3, e2]; exact (EqF.uwA (by simp) (by decide)).tr (EqF.uwA (by simp) (by decide))
    have e254 : W3 254 (20 * v + x) = nI x' := by
      rw [f3.1 254 (by decide) (by decide)]
      exact hf (x, x') (by simp [pd])
    rw [e254]
    refine ⟨fun z => absurd ((nI_eq (by omega) (by omega)).mp z) (fun e => hnot (by rw [e]; simp)), fun _ => ?_⟩
    refine ih x' W3 (fun u => if u = v then R v ++ [x] else R u) (fun u hu => ?_) (fun z hz' => hz z (List.mem_cons_of_mem _ hz')) hx0 (fun z => hnot (List.mem_cons_of_mem _ z)) (fun p hp => by rw [f3.1 254 (by decide) (by decide)]; exact hf p (by rw [List.cons_append, pd]; exact List.mem_cons_of_mem _ hp)) (by simp; omega) fun W' j1 j2 => h W' (fun u hu => ?_) (f3.tr j2)
    · obtain ⟨a1, a2, a3⟩ := hT u hu
      by_cases eu : u = v
      · subst eu
        simp only [if_true]
        refine ⟨by rw [e3, uw_s, List.length_append]; rfl, by simp; omega, fun i y hi => ?_⟩
        rw [e3, uw_n (by decide), e2]
        by_cases ei : i = (R u).length
        · subst ei
          rw [List.getElem?_concat_length] at hi
          cases hi
          rw [uw_s]
        · have hil : i < (R u).length := by
            have := (List.getElem?_eq_some_iff.mp hi).1
            rw [List.length_append, List.length_singleton] at this
            omega
          rw [uw_m (by omega)]
          rw [List.getElem?_append_left hil] at hi
          exact a3 i y hi
      · simp only [if_neg eu]
        refine ⟨by rw [e3, uw_m eu, e2, uw_n (by decide)]; exact a1, a2, fun i y hi => ?_⟩
        have hil := (List.getElem?_eq_some_iff.mp hi).1
        rw [e3, uw_n (by decide), e2, uw_m (by omega)]
        exact a3 i y hi
    · have := j1 u hu
      by_cases eu : u = v
      · subst eu
        simpa using this
      · simpa [eu] using this
/-- turnOf: the least neighbour -/
theorem rf_to_a {v k : Nat} (hv : v < V) (hG : RfG W V es) (hsl : bes.Sublist es) (hH : ∀ j g, es[j]? = some g → (g ∈ bes ↔ (W 232 j ≠ 0 ∧ W 233 j = nI k)))
    (h0 : (∀ u, adj bes v u = false) → hd_155_68 (d + 1) Q (nI v) (-1) (-1) W) (hy : ∀ m, adj bes v m = true → (∀ u, u < m → adj bes v u = false) → hd_155_68 (d + 1) Q (nI v) (nI m) (nI m) W) :
    ∀ (c : Nat) (f : Int32), c ≤ V → ((f = -1 ∧ ∀ u, c ≤ u → adj bes v u = false) ∨ ∃ m, f = nI m ∧ c ≤ m ∧ adj bes v m = true ∧ ∀ u, c ≤ u → u < m → adj bes v u = false) → hd_155_10 (d + 1) Q (nI v) (nI k) f (nI c - nI 1) W := by
  have hV := hG.1
  have hE := hG.2.1
  have hO := hG.2.2.1
  have hOb := okE_sub hO hsl
  intro c
  induction c with
  | zero =>
    intro f hc hf
    refine sx_155_10 _ _ _ _ W ⟨fun _ => ?_, fun z => absurd (by decide) z⟩
    rcases hf with ⟨e, hno⟩ | ⟨m, e, -, hm, hno⟩
    · rw [e]; exact h0 fun u => hno u (Nat.zero_le _)
    · rw [e]; exact hy m hm fun u hu => hno u (Nat.zero_le _) hu
  | succ c ih =>
    intro f hc hf
    have hsub : nI (c + 1) - nI 1 = nI c := by rw [← nI_add, Int32.add_sub_cancel]
    have hneg : (Int32.ofInt (-1)) = -(nI 1) := by decide
    have hm1 : nI c + Int32.ofInt (-1) = nI c - nI 1 := by rw [hneg, Int32.sub_eq_add_neg]
    rw [hsub]
    have no : adj bes v c = false → hd_155_10 (d + 1) Q (nI v) (nI k) f (nI c + Int32.ofInt (-1)) W := fun hn => by
      rw [hm1]
      refine ih f (by omega) ?_
      rcases hf with ⟨e, hno⟩ | ⟨m, e, hcm, hm, hno⟩
      · refine Or.inl ⟨e, fun u hu => ?_⟩
        by_cases eu : u = c
        · rw [eu]; exact hn
        · exact hno u (by omega)
      · refine Or.inr ⟨m, e, by omega, hm, fun u hu hum => ?_⟩
        by_cases eu : u = c
        · rw [eu]; exact hn
        · exact hno u (by omega) hum
    refine sx_155_10 _ _ _ _ W ⟨fun z => absurd z (nI_pos (by omega)), fun _ => rf_eOf (by omega) (by omega) hG ⟨fun z => ?_, fun z => ?_⟩⟩
    · have := (nI_eq (by omega) (by omega)).mp z
      refine no ?_
      cases hh : adj bes v c with
      | false => rfl
      | true => exact absurd this.symm (adj_lt hOb hh).2.2
    · cases he : eNo es c v with
      | none =>
        refine ⟨fun _ => no ?_, fun w => absurd (show optI none < 0 by decide) w⟩
        have hna : adj es c v = false := by rw [← eNo_adj hO, he]; rfl
        cases hh : adj bes v c with
        | false => rfl
        | true =>
          have : adj es c v = true := by
            rcases adj_iff.mp hh with q | q
            · exact adj_iff.mpr (Or.inr (hsl.subset q))
            · exact adj_iff.mpr (Or.inl (hsl.subset q))
          rw [hna] at this; cases this
      | some j =>
        have hat := eNo_at he
        have hjl := eNo_lt he
        have hh := hH j _ hat
        have hb : (min c v, max c v) ∈ bes ↔ adj bes v c = true := by
          constructor
          · intro q
            rcases Nat.le_total c v with w | w
            · rw [show min c v = c by omega, show max c v = v by omega] at q; exact adj_iff.mpr (Or.inr q)
            · rw [show min c v = v by omega, show max c v = c by omega] at q; exact adj_iff.mpr (Or.inl q)
          · intro q; rw [adj_sym] at q; exact adj_te hOb q
        have nob : (min c v, max c v) ∉ bes → adj bes v c = false := fun hn => by
          cases hh : adj bes v c with
          | false => rfl
          | true => exact absurd (hb.mpr hh) hn
        refine ⟨fun w => absurd w (nI_pos (by omega)), fun _ => ⟨in_N (show j < 61 by omega) (by omega), ?_⟩⟩
        show mi_br (W 232 (nI j).toNatClampNeg = 0) _ _
        rw [nI_clamp (by omega)]
        refine ⟨fun w => no (nob fun q => (hh.mp q).1 w), fun w => ⟨in_N (show j < 61 by omega) (by omega), ?_⟩⟩
        show mi_br (W 233 (nI j).toNatClampNeg = nI k) _ _
        rw [nI_clamp (by omega)]
        refine ⟨fun w2 => ?_, fun w2 => no (nob fun q => w2 (hh.mp q).2)⟩
        have hadj := hb.mp (hh.mpr ⟨w, w2⟩)
        rw [hm1]
        exact ih (nI c) (by omega) (Or.inr ⟨c, rfl, Nat.le_refl _, hadj, fun u hu hum => by omega⟩)
theorem rf_turnOf {v k : Nat} {l : List Nat} {R : Nat → List Nat} (hv : v < V) (hG : RfG W V es) (hsl : bes.Sublist es) (hH : ∀ j g, es[j]? = some g → (g ∈ bes ↔ (W 232 j ≠ 0 ∧ W 233 j = nI k))) (hn : l.Nodup) (hm : ∀ x, x ∈ l ↔ adj bes v x = true) (hhd : ∀ x0 t, l = x0 :: t → ∀ x, x ∈ l → x0 ≤ x) (hcd : ∀ x z, (x, z) ∈ cd l → W 254 (20 * v + x) = nI z) (hT : RT W V R) (hlen : (R v).length + l.length ≤ 20)
    (h : ∀ W', RT W' V (fun u => if u = v then R v ++ l else R u) → EqF [] [234, 235] W W' → Q none W') : fl_cal (d + 2) 155 [.ref 229, .int (nI v), .int (nI k)] W Q := by
  have hV := hG.1
  have hOb := okE_sub hG.2.2.1 hsl
  refine sx_155 _ _ W ?_
  rw [hG.2.2.2.1, ci_1]
  refine rf_to_a hv hG hsl hH (fun hno => ?_) (fun m hm1 hm2 => ?_) V (-1) (Nat.le_refl _) (Or.inl ⟨rfl, fun u hu => ?_⟩)
  · have hnil : l = [] := List.eq_nil_iff_forall_not_mem.mpr fun x hx => by
      have := (hm x).mp hx
      rw [hno x] at this; cases this
    refine sx_155_68 _ _ _ W ⟨fun _ => h W (fun u hu => ?_) EqF.rf, fun z => absurd (by decide) z⟩
    have := hT u hu
    by_cases eu : u = v
    · subst eu
      simpa [hnil] using this
    · simpa [eu] using this
  · have hml := (hm m).mpr hm1
    obtain ⟨x0, t, hl⟩ : ∃ x0 t, l = x0 :: t := by
      cases l with
      | nil => exact absurd hml List.not_mem_nil
      | cons x0 t => exact ⟨x0, t, rfl⟩
    have hx0 : x0 = m := by
      have h1 := hhd x0 t hl m hml
      have h2 : adj bes v x0 = true := (hm x0).mp (by rw [hl]; simp)
      rcases Nat.lt_or_ge x0 m with q | q
      · rw [hm2 x0 q] at h2; cases h2
      · omega
    subst hx0
    rw [hl] at hcd hlen h hn
    rw [List.nodup_cons] at hn
    refine rf_to_b (l0 := l) hv hV t x0 W R hT (fun z hz => ?_) ?_ hn.1 (fun p hp => hcd p.1 p.2 hp) (by simpa [Nat.add_assoc] using hlen) h
    · have := (adj_lt hOb ((hm z).mp (by rw [hl]; exact hz))).2.1
      omega
    · have := (adj_lt hOb hm1).2.1
      omega
  · cases hh : adj bes v u with
    | false => rfl
    | true => have := (adj_lt hOb hh).2.1; omega
end RPG
