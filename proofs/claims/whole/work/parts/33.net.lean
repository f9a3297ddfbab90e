/-! ===== a graph, and a net that holds it ===== -/
abbrev gE : Type := List (Nat × Nat)
def adj (es : gE) (u v : Nat) : Bool := es.any fun p => (p.1 == u && p.2 == v) || (p.1 == v && p.2 == u)
def okE (V : Nat) (es : gE) : Prop := (∀ p ∈ es, p.1 < p.2 ∧ p.2 < V) ∧ es.Nodup
theorem adj_iff {es : gE} {u v : Nat} : adj es u v = true ↔ (u, v) ∈ es ∨ (v, u) ∈ es := by
  unfold adj
  rw [List.any_eq_true]
  constructor
  · rintro ⟨⟨a, b⟩, h1, h2⟩
    simp only [Bool.or_eq_true, Bool.and_eq_true, beq_iff_eq] at h2
    rcases h2 with ⟨rfl, rfl⟩ | ⟨rfl, rfl⟩
    · exact Or.inl h1
    · exact Or.inr h1
  · rintro (h | h)
    · exact ⟨_, h, by simp⟩
    · exact ⟨_, h, by simp⟩
theorem adj_sym {es : gE} {u v : Nat} : adj es u v = adj es v u := by
  rw [Bool.eq_iff_iff, adj_iff, adj_iff, or_comm]
theorem adj_lt {V : Nat} {es : gE} (h : okE V es) {u v : Nat} (ha : adj es u v = true) : u < V ∧ v < V ∧ u ≠ v := by
  rcases adj_iff.mp ha with q | q
  · have := h.1 _ q
    exact ⟨by omega, by omega, by omega⟩
  · have := h.1 _ q
    exact ⟨by omega, by omega, by omega⟩
theorem adj_app {es fs : gE} {u v : Nat} : adj (es ++ fs) u v = (adj es u v || adj fs u v) := by
  unfold adj
  rw [List.any_append]
theorem adj_nil {u v : Nat} : adj [] u v = false := rfl
theorem adj_one {a b u v : Nat} : adj [(a, b)] u v = ((a == u && b == v) || (a == v && b == u)) := by simp [adj]
def NetR (W : fl_W) (b V : Nat) (es : gE) : Prop := V ≤ 20 ∧ es.length ≤ 60 ∧ okE V es ∧ W b 3 = nI V ∧ W b 4 = nI es.length ∧ (∀ i p, es[i]? = some p → W (b + 1) i = nI p.1 ∧ W (b + 2) i = nI p.2) ∧ ∀ v, v < 20 → BS (W (b + 3) v) (adj es v)
def nl (b : Nat) : List Nat := [b, b + 1, b + 2, b + 3]
theorem NetR.fr {W W' : fl_W} {b V : Nat} {es : gE} {l : List Nat} (h : NetR W b V es) (hE : EqX l W W') (hd : ∀ a ∈ nl b, a ∉ l) : NetR W' b V es := by
  obtain ⟨h1, h2, h3, h4, h5, h6, h7⟩ := h
  have e0 := hE b (hd b (by simp [nl]))
  have e1 := hE (b + 1) (hd _ (by simp [nl]))
  have e2 := hE (b + 2) (hd _ (by simp [nl]))
  have e3 := hE (b + 3) (hd _ (by simp [nl]))
  refine ⟨h1, h2, h3, by rw [e0]; exact h4, by rw [e0]; exact h5, fun i p hp => ?_, fun v hv => ?_⟩
  · rw [e1, e2]; exact h6 i p hp
  · rw [e3]; exact h7 v hv
theorem net_bases : ∀ b, b < 280 → fl_isb b 4 = true → b = 1 ∨ b = 5 ∨ b = 60 ∨ b = 64 := by decide +kernel
theorem net_dis {b c : Nat} (hb : fl_net b) (hc : fl_net c) (h : b ≠ c) : ∀ a ∈ nl b, a ∉ nl c := by
  intro a ha hc2
  simp only [nl, List.mem_cons, List.not_mem_nil, or_false] at ha hc2
  have h1 := net_bases b (fl_lt hb) hb
  have h2 := net_bases c (fl_lt hc) hc
  omega
section NET
variable {d : Nat} {Q : fl_R} {b : Nat} {W : fl_W} {V : Nat} {es : gE}
/-! Arrays.fill -/
theorem ar_fill_l {a n : Nat} {x : Int32} (ha : fl_sh a = (1, 0, [n])) (hn : n < 2 ^ 31) : ∀ (m i : Nat) (W : fl_W), n - i = m → i ≤ n → (∀ W', (∀ j, i ≤ j → j < n → W' a j = x) → (∀ j, j < i → W' a j = W a j) → EqX [a] W W' → Q none W') → hd_192_5 d Q a x (nI i) (nI n) W := by
  intro m
  induction m with
  | zero =>
    intro i W h1 h2 h
    exact sx_192_5 a x _ _ W ha ⟨fun q => absurd q (nI_nlt (by omega) (by omega)), fun _ => h W (fun j _ _ => by omega) (fun _ _ => rfl) EqX.rf⟩
  | succ m ih =>
    intro i W h1 h2 h
    refine sx_192_5 a x _ _ W ha ⟨fun _ => ⟨in_N (by omega) hn, fun W1 e => ?_⟩, fun q => absurd (nI_lt (by omega) hn) q⟩
    rw [nI_clamp (by omega)] at e
    subst e
    rw [ci_1, nI_add]
    refine ih (i + 1) _ (by omega) (by omega) fun W' g1 g2 g3 => h W' (fun j hj1 hj2 => ?_) (fun j hj => ?_) ((EqX.uw (by simp)).tr g3)
    · rcases Nat.lt_or_ge i j with q | q
      · exact g1 j q hj2
      · have : j = i := by omega
        subst this
        rw [g2 j (by omega), uw_s]
    · rw [g2 j (by omega), uw_m (by omega)]
theorem ar_fill {a n : Nat} {x : Int32} (ha : fl_sh a = (1, 0, [n])) (hn : n < 2 ^ 31) (h : ∀ W', (∀ j, j < n → W' a j = x) → EqX [a] W W' → Q none W') : fl_cal (d + 1) 192 [.ref a, .int x] W Q :=
  sx_192 a x W ha (ar_fill_l ha hn n 0 W (by omega) (Nat.zero_le _) fun W' g1 _ g3 => h W' (fun j hj => g1 j (Nat.zero_le _) hj) g3)
theorem net_begin {n : Nat} (hb : fl_net b) (hn : n ≤ 20) (h : ∀ W', NetR W' b n [] → EqX (nl b) W W' → Q none W') : fl_cal (d + 2) 40 [.ref b, .int (nI n)] W Q := by
  refine sx_40 b _ W hb fun W1 e1 W2 e2 => ?_
  have e : (if Int32.ofInt 0 < (if (Int8.ofInt 20).toInt32 < nI n then (Int8.ofInt 20).toInt32 else nI n) then (if (Int8.ofInt 20).toInt32 < nI n then (Int8.ofInt 20).toInt32 else nI n) else Int32.ofInt 0) = nI n := by
    rw [cb_20, ci_0, if_neg (nI_nlt hn (by omega))]
    by_cases h0 : n = 0
    · subst h0; rw [if_neg (nI_nlt (Nat.le_refl _) (by omega))]
    · rw [if_pos (nI_lt (by omega) (by omega))]
  rw [e] at e1
  subst e1
  subst e2
  refine ar_fill (fl_net_all b (fl_lt hb) hb).2.2.2 (by omega) fun W' g1 g2 => h W' ⟨hn, by simp, ⟨fun p hp => by simp at hp, List.nodup_nil⟩, ?_, ?_, fun i p hp => by simp at hp, fun v hv => ?_⟩ ?_
  · rw [g2 b (by simp), uw_m (by omega), uw_s]
  · rw [g2 b (by simp), uw_s]; rfl
  · rw [g1 v hv]
    exact BS.zero.congr fun i _ => adj_nil.symm
  · refine ((EqX.uw (by simp [nl])).tr (EqX.uw (by simp [nl]))).tr (g2.mono (by simp [nl]))
theorem net_hasV {v : Int32} (hb : fl_net b) (hN : NetR W b V es) (h : Q (some (.int (if ixB v V then 1 else 0))) W) : fl_cal (d + 1) 42 [.ref b, .int v] W Q := by
  have hV := hN.1
  refine sx_42 b v W hb ⟨fun q => ?_, fun q => ⟨fun q2 => ?_, fun q2 => ?_⟩⟩
  · rw [ixB_neg q] at h; exact h
  · rw [hN.2.2.2.1] at q2; rw [ixB_lt (by omega) q q2] at h; exact h
  · rw [hN.2.2.2.1] at q2; rw [ixB_ge (by omega) q2] at h; exact h
theorem net_hasE {e : Int32} (hb : fl_net b) (hN : NetR W b V es) (h : Q (some (.int (if ixB e es.length then 1 else 0))) W) : fl_cal (d + 1) 43 [.ref b, .int e] W Q := by
  have hE := hN.2.1
  refine sx_43 b e W hb ⟨fun q => ?_, fun q => ⟨fun q2 => ?_, fun q2 => ?_⟩⟩
  · rw [ixB_neg q] at h; exact h
  · rw [hN.2.2.2.2.1] at q2; rw [ixB_lt (by omega) q q2] at h; exact h
  · rw [hN.2.2.2.2.1] at q2; rw [ixB_ge (by omega) q2] at h; exact h
theorem net_low {i : Nat} {p : Nat × Nat} (hb : fl_net b) (hN : NetR W b V es) (hp : es[i]? = some p) (h : Q (some (.int (nI p.1))) W) : fl_cal (d + 2) 44 [.ref b, .int (nI i)] W Q := by
  have hE := hN.2.1
  have hi := (List.getElem?_eq_some_iff.mp hp).1
  refine sx_44 b _ W hb (net_hasE hb hN ?_)
  rw [ixB_N (by omega), decide_eq_true hi]
  refine ⟨fun q => absurd q (by decide), fun _ => ⟨in_N (by omega) (by omega), ?_⟩⟩
  rw [nI_clamp (by omega), (hN.2.2.2.2.2.1 i p hp).1]
  exact h
theorem net_high {i : Nat} {p : Nat × Nat} (hb : fl_net b) (hN : NetR W b V es) (hp : es[i]? = some p) (h : Q (some (.int (nI p.2))) W) : fl_cal (d + 2) 45 [.ref b, .int (nI i)] W Q := by
  have hE := hN.2.1
  have hi := (List.getElem?_eq_some_iff.mp hp).1
  refine sx_45 b _ W hb (net_hasE hb hN ?_)
  rw [ixB_N (by omega), decide_eq_true hi]
  refine ⟨fun q => absurd q (by decide), fun _ => ⟨in_N (by omega) (by omega), ?_⟩⟩
  rw [nI_clamp (by omega), (hN.2.2.2.2.2.1 i p hp).2]
  exact h
theorem net_lowNo {e : Int32} (hb : fl_net b) (hN : NetR W b V es) (hp : ixB e es.length = false) (h : Q (some (.int (-1))) W) : fl_cal (d + 2) 44 [.ref b, .int e] W Q := by
  refine sx_44 b _ W hb (net_hasE hb hN ?_)
  rw [hp]
  exact ⟨fun _ => h, fun q => absurd rfl q⟩
theorem net_highNo {e : Int32} (hb : fl_net b) (hN : NetR W b V es) (hp : ixB e es.length = false) (h : Q (some (.int (-1))) W) : fl_cal (d + 2) 45 [.ref b, .int e] W Q := by
  refine sx_45 b _ W hb (net_hasE hb hN ?_)
  rw [hp]
  exact ⟨fun _ => h, fun q => absurd rfl q⟩
theorem net_around {v : Nat} (hb : fl_net b) (hN : NetR W b V es) (hv : v < V) (h : ∀ x, BS x (adj es v) → Q (some (.int x)) W) : fl_cal (d + 1) 46 [.ref b, .int (nI v)] W Q := by
  have hV := hN.1
  refine sx_46 b _ W hb ⟨fun q => absurd q (nI_pos (by omega)), fun _ => ⟨fun _ => ⟨in_N (by omega) (by omega), ?_⟩, fun q => absurd ?_ q⟩⟩
  · rw [nI_clamp (by omega)]
    exact h _ (hN.2.2.2.2.2.2 v (by omega))
  · rw [hN.2.2.2.1]; exact nI_lt hv (by omega)
theorem net_aroundNo {v : Int32} (hb : fl_net b) (hN : NetR W b V es) (hv : ixB v V = false) (h : Q (some (.int 0)) W) : fl_cal (d + 1) 46 [.ref b, .int v] W Q := by
  have hV := hN.1
  refine sx_46 b _ W hb ⟨fun _ => h, fun q => ⟨fun q2 => ?_, fun _ => h⟩⟩
  rw [hN.2.2.2.1] at q2
  rw [ixB_lt (by omega) q q2] at hv
  cases hv
theorem net_joined {u v : Nat} (hb : fl_net b) (hN : NetR W b V es) (hu : u < V) (hv : v < 20) (h : Q (some (.int (if adj es u v then 1 else 0))) W) : fl_cal (d + 2) 48 [.ref b, .int (nI u), .int (nI v)] W Q := by
  have hV := hN.1
  refine sx_48 b _ _ W hb ⟨fun q => absurd q (nI_pos (by omega)), fun _ => ⟨fun _ => ⟨in_N (by omega) (by omega), st_in ?_⟩, fun q => absurd ?_ q⟩⟩
  · rw [nI_clamp (by omega), inI_N hv, (hN.2.2.2.2.2.2 u (by omega)).lo v hv]
    generalize adj es u v = z at h ⊢
    cases z with
    | false => exact ⟨fun _ => h, fun q => absurd rfl q⟩
    | true => exact ⟨fun q => absurd q (by decide), fun _ => h⟩
  · rw [hN.2.2.2.1]; exact nI_lt hu (by omega)
theorem net_joinedNo {u v : Int32} (hb : fl_net b) (hN : NetR W b V es) (hn : ixB u V = false ∨ ixB v 20 = false) (h : Q (some (.int 0)) W) : fl_cal (d + 2) 48 [.ref b, .int u, .int v] W Q := by
  have hV := hN.1
  refine sx_48 b _ _ W hb ⟨fun _ => h, fun q => ⟨fun q2 => ?_, fun _ => h⟩⟩
  rw [hN.2.2.2.1] at q2
  obtain ⟨n, hn', rfl⟩ := i_nat q q2 (by omega)
  refine ⟨in_N (by omega) (by omega), st_in ?_⟩
  rw [ixB_N (by omega), decide_eq_true hn'] at hn
  rw [inI, hn.resolve_left (by decide)]
  exact ⟨fun _ => h, fun q => absurd rfl q⟩
def tkB (V : Nat) (es : gE) (u v : Int32) : Bool := ixB u V && ixB v V && decide (u ≠ v) && !adj es u.toNatClampNeg v.toNatClampNeg && decide (es.length < 60)
theorem net_takes {u v : Int32} (hb : fl_net b) (hN : NetR W b V es) (h : Q (some (.int (if tkB V es u v then 1 else 0))) W) : fl_cal (d + 1) 49 [.ref b, .int u, .int v] W Q := by
  have hV := hN.1
  have hE := hN.2.1
  have h3 := hN.2.2.2.1
  have no : tkB V es u v = false → Q (some (.int 0)) W := fun z => by rw [z] at h; exact h
  refine sx_49 b u v W hb ⟨fun q => no (by rw [tkB, ixB_neg q]; rfl), fun q1 => ⟨fun q2 => ⟨fun q => no (by rw [tkB, ixB_neg q]; simp), fun q3 => ⟨fun q4 => ⟨fun q => no (by rw [tkB, q]; simp), fun q5 => ?_⟩, fun q => no (by rw [h3] at q; rw [tkB, ixB_ge (v := v) (by omega) q]; simp)⟩⟩, fun q => no (by rw [h3] at q; rw [tkB, ixB_ge (by omega) q]; rfl)⟩⟩
  rw [h3] at q2 q4
  obtain ⟨a, ha, rfl⟩ := i_nat q1 q2 (by omega)
  obtain ⟨c, hc, rfl⟩ := i_nat q3 q4 (by omega)
  have hB := (hN.2.2.2.2.2.2 a (by omega)).lo c (by omega)
  have hT : tkB V es (nI a) (nI c) = (!adj es a c && decide (es.length < 60)) := by
    rw [tkB, ixB_N (by omega), ixB_N (by omega), decide_eq_true ha, decide_eq_true hc, decide_eq_true q5, nI_clamp (by omega), nI_clamp (by omega)]
    simp
  rw [hT] at h
  refine ⟨in_N (by omega) (by omega), ⟨fun q6 => ⟨fun q7 => ?_, fun q7 => ?_⟩, fun q6 => ?_⟩⟩
  · rw [nI_clamp (by omega)] at q6
    have := (sb_ask (by omega) _).mp q6
    rw [hN.2.2.2.2.1, cb_60] at q7
    rw [hB] at this
    rw [this, decide_eq_true ((nI_ltI (by omega) (by omega)).mp q7)] at h
    exact h
  · rw [hN.2.2.2.2.1, cb_60] at q7
    rw [decide_eq_false (fun z => q7 (nI_lt z (by omega)))] at h
    simpa using h
  · rw [nI_clamp (by omega)] at q6
    cases hq : adj es a c with
    | false => rw [hq] at hB; exact absurd ((sb_ask (by omega) _).mpr hB) q6
    | true => rw [hq] at h; exact h
theorem net_full (hb : fl_net b) (hN : NetR W b V es) (h : Q (some (.int (if decide (3 ≤ V ∧ es.length = 3 * V - 6) then 1 else 0))) W) : fl_cal (d + 1) 53 [.ref b] W Q := by
  have hV := hN.1
  have hE := hN.2.1
  refine sx_53 b W hb ?_
  rw [hN.2.2.2.1, hN.2.2.2.2.1, ci_3, cb_6]
  refine ⟨fun q => ?_, fun q => ?_⟩
  · rw [nI_ltI (by omega) (by omega)] at q
    rw [decide_eq_false (by omega)] at h; exact h
  · rw [nI_ltI (by omega) (by omega)] at q
    rw [pk_mul, pk_sub (by omega)]
    refine ⟨fun e => ?_, fun e => ?_⟩
    · rw [nI_eq (by omega) (by omega)] at e
      rw [decide_eq_true ⟨by omega, e⟩] at h; exact h
    · rw [nI_eq (by omega) (by omega)] at e
      rw [decide_eq_false (fun z => e z.2)] at h; exact h
/-! adding an edge, taking one away -/
theorem okE_add {u v : Nat} (hO : okE V es) (hu : u < V) (hv : v < V) (huv : u ≠ v) (hn : adj es u v = false) : okE V (es ++ [(min u v, max u v)]) := by
  refine ⟨fun p hp => ?_, ?_⟩
  · rcases List.mem_append.mp hp with q | q
    · exact hO.1 p q
    · rw [List.mem_singleton.mp q]
      show min u v < max u v ∧ max u v < V
      omega
  · rw [List.nodup_append]
    refine ⟨hO.2, by simp, fun p hp q hq e => ?_⟩
    rw [List.mem_singleton.mp hq] at e
    subst e
    have : adj es u v = true := by
      rw [adj_iff]
      rcases Nat.lt_or_ge u v with h | h
      · left; rwa [Nat.min_eq_left (by omega), Nat.max_eq_right (by omega)] at hp
      · right; rwa [Nat.min_eq_right (by omega), Nat.max_eq_left (by omega)] at hp
    rw [hn] at this
    cases this
theorem adj_mm {u v i j : Nat} : adj [(min u v, max u v)] i j = (decide (i = u ∧ j = v) || decide (i = v ∧ j = u)) := by
  rw [adj_one, Bool.eq_iff_iff]
  simp only [Bool.or_eq_true, Bool.and_eq_true, beq_iff_eq, decide_eq_true_eq]
  omega
theorem net_addNo {u v : Int32} (hb : fl_net b) (hN : NetR W b V es) (ht : tkB V es u v = false) (h : Q none W) : fl_cal (d + 2) 50 [.ref b, .int u, .int v] W Q := by
  refine sx_50 b u v W hb (net_takes hb hN ?_)
  rw [ht]
  exact ⟨fun _ => h, fun q => absurd rfl q⟩
theorem tkB_N {u v : Nat} (hu : u < 2 ^ 31) (hv : v < 2 ^ 31) : tkB V es (nI u) (nI v) = (decide (u < V) && decide (v < V) && decide (u ≠ v) && !adj es u v && decide (es.length < 60)) := by
  rw [tkB, ixB_N hu, ixB_N hv, nI_clamp hu, nI_clamp hv]
  congr 3
  rw [Bool.eq_iff_iff, decide_eq_true_iff, decide_eq_true_iff, Ne, nI_eq hu hv]
theorem net_add {u v : Nat} (hb : fl_net b) (hN : NetR W b V es) (hu : u < V) (hv : v < V) (huv : u ≠ v) (hn : adj es u v = false) (hl : es.length < 60) (h : ∀ W', NetR W' b V (es ++ [(min u v, max u v)]) → EqX (nl b) W W' → Q none W') : fl_cal (d + 2) 50 [.ref b, .int (nI u), .int (nI v)] W Q := by
  have hV := hN.1
  have h4 := hN.2.2.2.2.1
  refine sx_50 b _ _ W hb (net_takes hb hN ?_)
  rw [tkB_N (by omega) (by omega), decide_eq_true hu, decide_eq_true hv, decide_eq_true huv, hn, decide_eq_true hl]
  refine ⟨fun q => absurd q (by decide), fun _ => ⟨by rw [h4]; exact in_N hl (by omega), fun W2 e2 => ?_⟩⟩
  rw [h4, nI_clamp (by omega)] at e2
  have hW2 : W2 b = W b := by rw [e2]; exact uw_n (by omega)
  refine ⟨by rw [hW2, h4]; exact in_N hl (by omega), fun W3 e3 => ⟨in_N (by omega) (by omega), st_bit ⟨in_N (by omega) (by omega), fun W5 e5 => ⟨in_N (by omega) (by omega), st_bit ⟨in_N (by omega) (by omega), fun W7 e7 W8 e8 => ?_⟩⟩⟩⟩⟩
  rw [hW2, h4, nI_clamp (by omega)] at e3
  rw [nI_clamp (by omega)] at e5
  rw [nI_clamp (by omega)] at e7
  have f2 : EqX (nl b) W W2 := by rw [e2]; exact EqX.uw (by simp [nl])
  have f3 : EqX (nl b) W2 W3 := by rw [e3]; exact EqX.uw (by simp [nl])
  have f5 : EqX (nl b) W3 W5 := by rw [e5]; exact EqX.uw (by simp [nl])
  have f7 : EqX (nl b) W5 W7 := by rw [e7]; exact EqX.uw (by simp [nl])
  have f8 : EqX (nl b) W7 W8 := by rw [e8]; exact EqX.uw (by simp [nl])
  have a7 : W7 b = W b := by rw [e7, uw_n (by omega), e5, uw_n (by omega), e3, uw_n (by omega), hW2]
  rw [a7, h4, ci_1, nI_add] at e8
  have hmin : (if nI v < nI u then nI v else nI u) = nI (min u v) := by
    by_cases q : v < u
    · rw [if_pos (nI_lt q (by omega)), Nat.min_eq_right (by omega)]
    · rw [if_neg (nI_nlt (by omega) (by omega)), Nat.min_eq_left (by omega)]
  have hmax : (if nI u < nI v then nI v else nI u) = nI (max u v) := by
    by_cases q : u < v
    · rw [if_pos (nI_lt q (by omega)), Nat.max_eq_right (by omega)]
    · rw [if_neg (nI_nlt (by omega) (by omega)), Nat.max_eq_left (by omega)]
  rw [hmin] at e2
  rw [hmax] at e3
  have b1 : W8 (b + 1) = upd (W (b + 1)) es.length (nI (min u v)) := by
    rw [e8, uw_n (by omega), e7, uw_n (by omega), e5, uw_n (by omega), e3, uw_n (by omega), e2]
    simp [fl_uw]
  have b2 : W8 (b + 2) = upd (W (b + 2)) es.length (nI (max u v)) := by
    rw [e8, uw_n (by omega), e7, uw_n (by omega), e5, uw_n (by omega), e3]
    simp only [fl_uw, if_true]
    rw [e2, uw_n (by omega)]
  have n3 : W3 (b + 3) = W (b + 3) := by rw [e3, uw_n (by omega), e2, uw_n (by omega)]
  have b3 : ∀ i, i < 20 → BS (W8 (b + 3) i) (adj (es ++ [(min u v, max u v)]) i) := by
    intro i hi
    have g := hN.2.2.2.2.2.2
    have key : ∀ j, adj (es ++ [(min u v, max u v)]) i j = (adj es i j || (decide (i = u ∧ j = v) || decide (i = v ∧ j = u))) := fun j => by rw [adj_app, adj_mm]
    rw [e8, uw_n (by omega), e7]
    by_cases hiv : i = v
    · subst hiv
      rw [uw_s, e5, uw_m (by omega), n3]
      refine ((g i hi).or (BS.bit (by omega))).congr fun j hj => ?_
      rw [key]
      simp [huv.symm]
    · rw [uw_m hiv, e5]
      by_cases hiu : i = u
      · subst hiu
        rw [uw_s, n3]
        refine ((g i hi).or (BS.bit (by omega))).congr fun j hj => ?_
        rw [key]
        simp [huv]
      · rw [uw_m hiu, n3]
        refine (g i hi).congr fun j hj => ?_
        rw [key]
        simp [hiu, hiv]
  refine h W8 ⟨hV, by simp; omega, okE_add hN.2.2.1 hu hv huv hn, ?_, ?_, fun i p hp => ?_, b3⟩ ((((f2.tr f3).tr f5).tr f7).tr f8)
  · rw [e8, uw_m (by omega), a7]; exact hN.2.2.2.1
  · rw [e8, uw_s]; simp
  · rw [b1, b2]
    by_cases hi : i = es.length
    · subst hi
      rw [List.getElem?_concat_length] at hp
      cases hp
      simp [upd]
    · have hl2 := (List.getElem?_eq_some_iff.mp hp).1
      simp only [List.length_append, List.length_singleton] at hl2
      rw [List.getElem?_append_left (by omega)] at hp
      simp only [upd, hi, if_false]
      exact hN.2.2.2.2.2.1 i p hp
end NET
