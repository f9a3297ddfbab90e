/-! ===== Reference: makePlaces ===== -/
def DSr (W : fl_W) (V : Nat) (S rim : List Nat) (s : PS) : Prop := RM W rim ∧ (∀ u, u ∈ S → u < V ∧ W 237 u = s.1 u ∧ W 238 u = s.2.1 u) ∧ (∀ w, w ∈ rim → w ∈ S ∧ BS (W 260 w) (s.2.2 w) ∧ ∀ u, s.2.2 w u = true → u ∈ S) ∧ ∀ w w', w ∈ rim → w' ∈ rim → w ≠ w' → ∀ u, s.2.2 w u = true → s.2.2 w' u = false
theorem nI_subN {a c : Nat} (h : c ≤ a) : nI a - nI c = nI (a - c) := by
  have : nI a = nI (a - c) + nI c := by rw [nI_add]; congr 1; omega
  rw [this]; exact Int32.add_sub_cancel _ _
theorem nI_addsub {a b c : Nat} (h : c ≤ a + b) : nI a + (nI b - nI c) = nI (a + b - c) := by
  rw [Int32.sub_eq_add_neg, ← Int32.add_assoc, ← Int32.sub_eq_add_neg, nI_add, nI_subN h]
def mpL : List Nat := [237, 238, 253, 258, 260]
section RDC
variable {d : Nat} {Q : fl_R} {W : fl_W} {V : Nat} {es : gE} {rs : List (List Nat)} {R : Nat → List Nat}
theorem rf_move {x k : Int32} {p : Nat → Bool} (hV : V ≤ 20) (h0 : W 229 0 = nI V) (hx : BS x p) (h : ∀ W', (∀ u, u < V → W' 237 u = mvX p k (W 237) u) → EqF [] [237] W W' → Q none W') : fl_cal (d + 1) 183 [.ref 229, .int x, .int k] W Q := by
  refine sx_183 _ _ W ?_
  have lp : ∀ (n i : Nat) (W1 : fl_W), V - i = n → i ≤ V → W1 229 0 = nI V → (∀ u, u < V → W1 237 u = if u < i then mvX p k (W 237) u else W 237 u) → EqF [] [237] W W1 → hd_183_2 d Q x k (nI i) W1 := by
    intro n
    induction n with
    | zero =>
      intro i W1 h1 h2 h00 hW hE
      refine sx_183_2 _ _ _ W1 ⟨fun z => absurd z ?_, fun _ => h W1 (fun u hu => by rw [hW u hu, if_pos (by omega)]) hE⟩
      rw [h00]; exact nI_nlt (by omega) (by omega)
    | succ n ih =>
      intro i W1 h1 h2 h00 hW hE
      have hi : i < V := by omega
      have hWi := hW i hi
      rw [if_neg (Nat.lt_irrefl _)] at hWi
      refine sx_183_2 _ _ _ W1 ⟨fun _ => ⟨fun z => ⟨in_N (by omega) (by omega), in_N (by omega) (by omega), fun W2 e2 => ?_⟩, fun z => ?_⟩, fun z => absurd ?_ z⟩
      · have hp : p i = true := by rw [← hx.lo i (by omega)]; exact (sb_ask1 (by omega) x).mp z
        rw [nI_clamp (by omega), hWi] at e2
        rw [ci_1, nI_add]
        refine ih (i + 1) W2 (by omega) (by omega) (by rw [e2, uw_n (by decide)]; exact h00) (fun u hu => ?_) (hE.tr (by rw [e2]; exact EqF.uwA (by simp) (by decide)))
        rw [e2]
        by_cases e : u = i
        · subst e
          rw [uw_s, if_pos (by omega), mvX, hp]; rfl
        · have : u < i + 1 ↔ u < i := by omega
          rw [uw_m e, hW u hu]
          simp only [this]
      · have hp : p i = false := by
          cases hh : p i with
          | false => rfl
          | true => exact absurd ((sb_ask1 (by omega) x).mpr (by rw [hx.lo i (by omega)]; exact hh)) z
        rw [ci_1, nI_add]
        refine ih (i + 1) W1 (by omega) (by omega) h00 (fun u hu => ?_) hE
        by_cases e : u = i
        · subst e
          rw [hWi, if_pos (by omega), mvX, hp]; rfl
        · have : u < i + 1 ↔ u < i := by omega
          rw [hW u hu]
          simp only [this]
      · rw [h00]; exact nI_lt hi (by omega)
  rw [ci_0]
  exact lp V 0 W (by omega) (Nat.zero_le _) h0 (fun u hu => by rw [if_neg (by omega)]) EqF.rf
theorem rf_setP {v : Nat} {x y : Int32} (hv : v < 20) (h : ∀ W', W' 237 v = x → W' 238 v = y → W' 260 v = (Int32.ofInt 1) <<< (nI v &&& 31) → (∀ u, u ≠ v → W' 237 u = W 237 u ∧ W' 238 u = W 238 u ∧ W' 260 u = W 260 u) → EqF [] [237, 238, 260] W W' → Q none W') : fl_cal (d + 1) 184 [.ref 229, .int (nI v), .int x, .int y] W Q := by
  refine sx_184 _ _ _ W ⟨in_N hv (by omega), fun W1 e1 => ⟨in_N hv (by omega), fun W2 e2 => ⟨in_N hv (by omega), fun W3 e3 => ?_⟩⟩⟩
  rw [nI_clamp (by omega)] at e1 e2 e3
  refine h W3 ?_ ?_ (by rw [e3, uw_s]) (fun u hu => ⟨?_, ?_, ?_⟩) ?_
  · rw [e3, uw_n (by decide), e2, uw_n (by decide), e1, uw_s]
  · rw [e3, uw_n (by decide), e2, uw_s]
  · rw [e3, uw_n (by decide), e2, uw_n (by decide), e1, uw_m hu]
  · rw [e3, uw_n (by decide), e2, uw_m hu, e1, uw_n (by decide)]
  · rw [e3, uw_m hu, e2, uw_n (by decide), e1, uw_n (by decide)]
  · rw [e3, e2, e1]
    exact ((EqF.uwA (by simp) (by decide)).tr (EqF.uwA (by simp) (by decide))).tr (EqF.uwA (by simp) (by decide))
/-- one vertex raised; the next place is k + 1 -/
theorem rf_raise {k v : Nat} {rim rim' S : List Nat} {s : PS} (hG : RfG W V es) (hv : v < V) (hvS : v ∉ S) (hlk : LK es v rim rim') (hD : DSr W V S rim' s) (hk : k < 20)
    (h : ∀ W', DSr W' V (v :: S) rim (raQ v rim rim' s) → EqF [45] mpL W W' → hd_185_79 (d + 1) Q (nI (k + 1)) W') : hd_185_96 (d + 1) Q (nI k) (nI v) (nI 0) W := by
  have hV := hG.1
  have hlk' := hlk
  obtain ⟨A0, p0, n0, M0, Z0, -, -, -, -, u5, u6, u7, u8, u9⟩ := hlk'
  obtain ⟨A, p, n, M, Z, e1, e2, e3, e4, e5, e6, e7, e8, e9⟩ := hlk.at
  obtain ⟨hM, hS, hln, hdj⟩ := hD
  have hll := hM.2.1
  have hrl : rim.length ≤ 20 := nd_le 20 u7 u8
  have hlen : rim'.length = A.length + 1 + Z.length + 1 + M.length := by rw [e2]; simp; omega
  have hlen2 : rim.length = A.length + 3 + M.length := by rw [e1]; simp; omega
  have hpl : p ∈ rim' := by rw [e2]; simp
  have hnl : n ∈ rim' := by rw [e2]; simp
  have hp20 := u9 p hpl
  have hn20 := u9 n hnl
  have hpS := (hln p hpl).1
  have hnS := (hln n hnl).1
  have hi : rAt rim' A.length = p := by
    have h5 : rim'[A.length]? = some p := by rw [e2, List.getElem?_append_right (Nat.le_refl _)]; simp
    rw [rAt_get (by omega)] at h5
    exact Option.some.inj h5
  have hj : rAt rim' (A.length + 1 + Z.length) = n := by
    have h5 : rim'[A.length + 1 + Z.length]? = some n := by
      rw [e2, List.getElem?_append_right (by omega), show A.length + 1 + Z.length - A.length = Z.length + 1 by omega, List.getElem?_cons_succ, List.getElem?_append_right (Nat.le_refl _)]
      simp
    rw [rAt_get (by omega)] at h5
    exact Option.some.inj h5
  have hadj : ∀ i, i < rim'.length → adj es (rAt rim' i) v = decide (A.length ≤ i ∧ i ≤ A.length + 1 + Z.length) := fun i hi' => by
    rw [adj_sym]
    have hg := rAt_get (rim := rim') hi'
    rw [e2] at hg
    by_cases q1 : i < A.length
    · rw [List.getElem?_append_left q1] at hg
      rw [← e2] at hg
      rw [e4 _ (Or.inl (List.mem_of_getElem? hg))]
      simp; omega
    · rw [List.getElem?_append_right (by omega)] at hg
      rw [← e2] at hg
      have h5 : p :: (Z ++ n :: M) = (p :: (Z ++ [n])) ++ M := by simp
      rw [h5] at hg
      by_cases q2 : i ≤ A.length + 1 + Z.length
      · rw [List.getElem?_append_left (by simp; omega)] at hg
        rw [e3 _ (List.mem_of_getElem? hg)]
        simp; omega
      · rw [List.getElem?_append_right (by simp; omega)] at hg
        rw [e4 _ (Or.inr (List.mem_of_getElem? hg))]
        simp; omega
  have hdq : rim'.drop (A.length + 1 + Z.length) = n :: M := by
    rw [e2, show A ++ p :: (Z ++ n :: M) = (A ++ p :: Z) ++ n :: M by simp, List.drop_append_of_le_length (by simp; omega), List.drop_eq_nil_of_le (by simp; omega)]
    rfl
  have hdp : rim'.drop (A.length + 1) = Z ++ n :: M := by
    rw [e2, show A ++ p :: (Z ++ n :: M) = (A ++ [p]) ++ (Z ++ n :: M) by simp, List.drop_append_of_le_length (by simp)]
    simp
  have hra : raQ v rim rim' s = (fun u => if u = v then (x2Q v rim rim' s p + x2Q v rim rim' s n + s.2.1 n - s.2.1 p) / Int32.ofInt 2 else x2Q v rim rim' s u, fun u => if u = v then (x2Q v rim rim' s n - x2Q v rim rim' s p + s.2.1 p + s.2.1 n) / Int32.ofInt 2 else s.2.1 u, fun w u => if w = v then (blQ v rim rim' s u || decide (u = v)) else s.2.2 w u) := by
    unfold raQ
    rw [e5, e6, e7]
  have hbq : ∀ u, blQ v rim rim' s u = Z.any fun w => s.2.2 w u := fun u => by unfold blQ; rw [e5, e8]
  have hrq : ∀ u, rgQ v rim s u = (n :: M).any fun w => s.2.2 w u := fun u => by unfold rgQ; rw [e5, e9]
  -- the new rim written
  have fin : ∀ (W12 : fl_W), RM W12 rim' → (∀ W', RM W' rim → EqF [45] [253, 258] W12 W' → hd_185_79 (d + 1) Q (nI (k + 1)) W') → hd_185_328 (d + 1) Q (nI k) (nI v) (nI A.length) (nI (A.length + 1 + Z.length)) (nI 0) W12 := by
    intro W12 hM12 hK
    have cp : ∀ (m i : Nat) (W : fl_W), rim'.length - i = m → i ≤ rim'.length → RM W rim' → (∀ j x, j < i → rim'[j]? = some x → W 253 j = nI x) → (∀ W', (∀ j x, rim'[j]? = some x → W' 253 j = nI x) → RM W' rim' → EqF [45] [253, 258] W W' → hd_185_328 (d + 1) Q (nI k) (nI v) (nI A.length) (nI (A.length + 1 + Z.length)) (nI rim'.length) W') → hd_185_328 (d + 1) Q (nI k) (nI v) (nI A.length) (nI (A.length + 1 + Z.length)) (nI i) W := by
      intro m
      induction m with
      | zero =>
        intro i W h1 h2 hMM h253 hc
        have : i = rim'.length := by omega
        subst this
        exact hc W (fun j x hj => h253 j x (List.getElem?_eq_some_iff.mp hj).1 hj) hMM EqF.rf
      | succ m ih =>
        intro i W h1 h2 hMM h253 hc
        have hi' : i < rim'.length := by omega
        refine sx_185_328 _ _ _ _ _ W ⟨fun _ => ⟨in_N (by omega) (by omega), in_N (by omega) (by omega), fun W15 e15 => ?_⟩, fun z => absurd ?_ z⟩
        · rw [nI_clamp (by omega), hMM.at hi'] at e15
          have f15 : EqF [45] [253, 258] W W15 := by rw [e15]; exact EqF.uwA (by simp) (by decide)
          have hM15 : RM W15 rim' := hMM.fr (show EqF [] [253] W W15 by rw [e15]; exact EqF.uwA (by simp) (by decide)) (by decide) (by decide)
          rw [ci_1, nI_add]
          refine ih (i + 1) W15 (by omega) (by omega) hM15 (fun j x hjj hjx => ?_) fun W' c1 c2 c3 => hc W' c1 c2 (f15.tr c3)
          rw [e15]
          by_cases e : j = i
          · subst e
            rw [rAt_get hi'] at hjx; cases hjx
            exact uw_s
          · rw [uw_m e]; exact h253 j x (by omega) hjx
        · rw [hMM.1]; exact nI_lt hi' (by omega)
    refine cp _ 0 W12 rfl (Nat.zero_le _) hM12 (fun j x hjj => by omega) fun W13 c1 c2 c3 => ?_
    refine sx_185_328 _ _ _ _ _ W13 ⟨fun z => absurd z ?_, fun _ => ?_⟩
    · rw [c2.1]; exact nI_nlt (Nat.le_refl _) (by omega)
    rw [ci_1, nI_add]
    refine ⟨in_N (by omega) (by omega), fun W14 e14 => ?_⟩
    rw [nI_clamp (by omega)] at e14
    have f14 : EqF [45] [253, 258] W13 W14 := by rw [e14]; exact EqF.uwA (by simp) (by decide)
    -- what stands behind
    have mv : ∀ (m j : Nat) (W : fl_W), rim'.length - j = m → A.length + 1 + Z.length ≤ j → j ≤ rim'.length → W 229 45 = nI rim'.length → (∀ i x, rim'[i]? = some x → W 253 i = nI x) → (∀ i, i ≤ A.length + 1 → W 258 i = W14 258 i) → (∀ i x, A.length + 1 + Z.length ≤ i → i < j → rim'[i]? = some x → W 258 (A.length + 2 + i - (A.length + 1 + Z.length)) = nI x) → (∀ W', W' 229 45 = nI rim.length → (∀ i, i ≤ A.length + 1 → W' 258 i = W14 258 i) → (∀ i x, A.length + 1 + Z.length ≤ i → rim'[i]? = some x → W' 258 (A.length + 2 + i - (A.length + 1 + Z.length)) = nI x) → EqF [45] [253, 258] W W' → hd_185_79 (d + 1) Q (nI (k + 1)) W') → hd_185_370 (d + 1) Q (nI k) (nI A.length) (nI (A.length + 1 + Z.length)) (nI j) W := by
      intro m
      induction m with
      | zero =>
        intro j W h1 h2 h3 h45 h253 hlo hw hc
        have : j = rim'.length := by omega
        subst this
        refine sx_185_370 _ _ _ _ W ⟨fun z => absurd z ?_, fun _ W16 e16 => ?_⟩
        · rw [h45]; exact nI_nlt (Nat.le_refl _) (by omega)
        · rw [h45, ci_2, nI_add, nI_addsub (by omega)] at e16
          rw [ci_1, nI_add]
          refine hc W16 (by rw [e16, uw_s]; congr 1; omega) (fun i hi' => by rw [e16, uw_n (by decide)]; exact hlo i hi') (fun i x hi' hix => by rw [e16, uw_n (by decide)]; exact hw i x hi' (List.getElem?_eq_some_iff.mp hix).1 hix) (by rw [e16]; exact EqF.uwF (by simp))
      | succ m ih =>
        intro j W h1 h2 h3 h45 h253 hlo hw hc
        have hj' : j < rim'.length := by omega
        refine sx_185_370 _ _ _ _ W ⟨fun _ => ⟨in_N (by omega) (by omega), ?_⟩, fun z => absurd ?_ z⟩
        · rw [ci_2, nI_add, nI_add, nI_subN (by omega), nI_clamp (by omega), nI_clamp (by omega), h253 j _ (rAt_get hj')]
          refine ⟨in_N (by omega) (by omega), fun W17 e17 => ?_⟩
          have f17 : EqF [45] [253, 258] W W17 := by rw [e17]; exact EqF.uwA (by simp) (by decide)
          rw [ci_1, nI_add]
          refine ih (j + 1) W17 (by omega) (by omega) (by omega) (by rw [e17, uw_n (by decide)]; exact h45) (fun i x hix => by rw [e17, uw_n (by decide)]; exact h253 i x hix) (fun i hi' => by rw [e17, uw_m (by omega)]; exact hlo i hi') (fun i x h5 h6 hix => ?_) fun W' c1 c2 c3 c4 => hc W' c1 c2 c3 (f17.tr c4)
          rw [e17]
          by_cases e : i = j
          · subst e
            rw [rAt_get hj'] at hix; cases hix
            exact uw_s
          · rw [uw_m (by omega)]; exact hw i x h5 (by omega) hix
        · rw [h45]; exact nI_lt hj' (by omega)
    refine mv _ (A.length + 1 + Z.length) W14 rfl (Nat.le_refl _) (by omega) (by rw [e14, uw_n (by decide)]; exact c2.1) (fun i x hix => by rw [e14, uw_n (by decide)]; exact c1 i x hix) (fun _ _ => rfl) (fun i x h5 h6 => by omega) fun W18 d1 d2 d3 d4 => hK W18 ⟨d1, hrl, u8, fun i x hix => ?_⟩ ((c3.tr f14).tr d4)
    have hil := (List.getElem?_eq_some_iff.mp hix).1
    by_cases q1 : i ≤ A.length
    · have h5 : rim'[i]? = some x := by
        rw [e1, show A ++ p :: v :: n :: M = (A ++ [p]) ++ v :: n :: M by simp, List.getElem?_append_left (by simp; omega)] at hix
        rw [e2, show A ++ p :: (Z ++ n :: M) = (A ++ [p]) ++ (Z ++ n :: M) by simp, List.getElem?_append_left (by simp; omega)]
        exact hix
      rw [d2 i (by omega), e14, uw_m (by omega)]
      exact c2.2.2.2 i x h5
    · by_cases q2 : i = A.length + 1
      · subst q2
        rw [e1, List.getElem?_append_right (by omega), show A.length + 1 - A.length = 1 by omega] at hix
        simp at hix
        rw [d2 _ (Nat.le_refl _), e14, uw_s, hix]
      · have h5 : rim'[i - 2 - A.length + (A.length + 1 + Z.length)]? = some x := by
          have h6 : rim.drop (A.length + 1 + 1) = rim'.drop (A.length + 1 + Z.length) := by rw [e9, hdq]
          have h7 : (rim.drop (A.length + 1 + 1))[i - 2 - A.length]? = some x := by
            rw [List.getElem?_drop, show A.length + 1 + 1 + (i - 2 - A.length) = i by omega]
            exact hix
          rw [h6, List.getElem?_drop] at h7
          rw [Nat.add_comm]
          exact h7
        have := d3 _ x (by omega) h5
        rwa [show A.length + 2 + (i - 2 - A.length + (A.length + 1 + Z.length)) - (A.length + 1 + Z.length) = i by omega] at this
  -- from the sums on
  have sums : ∀ (y : Int32), BS y (blQ v rim rim' s) → fl_cal (d + 1) 183 [.ref 229, .int y, .int (Int32.ofInt 1)] W (fl_q0 fun W10 => hd_185_194 (d + 1) Q (nI k) (nI v) (nI A.length) (nI (A.length + 1 + Z.length)) y (nI (A.length + 1 + Z.length)) W10) := by
    intro y hy
    refine rf_move hV hG.2.2.2.1 hy fun W10 m1 m2 => ?_
    have mv2 : ∀ (m j : Nat) (W1 : fl_W), rim'.length - j = m → A.length + 1 + Z.length ≤ j → j ≤ rim'.length → EqF [] [237] W W1 → (∀ u, u < V → W1 237 u = mvX (fun u => ((rim'.drop (A.length + 1 + Z.length)).take (j - (A.length + 1 + Z.length))).any fun w => s.2.2 w u) (Int32.ofInt 2) (W10 237) u) → (∀ W', EqF [] [237] W W' → (∀ u, u < V → W' 237 u = mvX (rgQ v rim s) (Int32.ofInt 2) (W10 237) u) → hd_185_194 (d + 1) Q (nI k) (nI v) (nI A.length) (nI (A.length + 1 + Z.length)) y (nI rim'.length) W') → hd_185_194 (d + 1) Q (nI k) (nI v) (nI A.length) (nI (A.length + 1 + Z.length)) y (nI j) W1 := by
      intro m
      induction m with
      | zero =>
        intro j W1 h1 h2 h3 hE hX hc
        have : j = rim'.length := by omega
        subst this
        refine hc W1 hE fun u hu => ?_
        rw [hX u hu]
        unfold mvX
        rw [List.take_of_length_le (by rw [List.length_drop]; exact Nat.le_refl _), hdq]
        simp only [hrq u]
      | succ m ih =>
        intro j W1 h1 h2 h3 hE hX hc
        have hj' : j < rim'.length := by omega
        have hM1 := hM.fr hE (by decide) (by decide)
        have hwm := rAt_mem (rim := rim') hj'
        have hw20 := u9 _ hwm
        refine sx_185_194 _ _ _ _ _ _ W1 ⟨fun _ => ⟨in_N (by omega) (by omega), ?_⟩, fun z => absurd ?_ z⟩
        · rw [nI_clamp (by omega), hM1.at hj', nI_clamp (by omega)]
          refine ⟨in_N hw20 (by omega), ?_⟩
          have hKw : BS (W1 260 (rAt rim' j)) (s.2.2 (rAt rim' j)) := by rw [hE.1 260 (by decide) (by decide)]; exact (hln _ hwm).2.1
          refine rf_move hV (by rw [hE.2 0 (by decide)]; exact hG.2.2.2.1) hKw fun W2 x1 x2 => ?_
          show hd_185_194 (d + 1) Q (nI k) (nI v) (nI A.length) (nI (A.length + 1 + Z.length)) y (nI j + Int32.ofInt 1) W2
          rw [ci_1, nI_add]
          refine ih (j + 1) W2 (by omega) (by omega) (by omega) (hE.tr x2) (fun u hu => ?_) hc
          rw [x1 u hu]
          unfold mvX
          rw [hX u hu]
          unfold mvX
          have hsp : (rim'.drop (A.length + 1 + Z.length)).take (j + 1 - (A.length + 1 + Z.length)) = (rim'.drop (A.length + 1 + Z.length)).take (j - (A.length + 1 + Z.length)) ++ [rAt rim' j] := by
            have hl5 : j - (A.length + 1 + Z.length) < (rim'.drop (A.length + 1 + Z.length)).length := by rw [List.length_drop]; omega
            rw [show j + 1 - (A.length + 1 + Z.length) = (j - (A.length + 1 + Z.length)) + 1 by omega, List.take_succ_eq_append_getElem hl5]
            have hge : (rim'.drop (A.length + 1 + Z.length))[j - (A.length + 1 + Z.length)] = rAt rim' j := by
              apply Option.some.inj
              rw [← List.getElem?_eq_getElem hl5, List.getElem?_drop, show A.length + 1 + Z.length + (j - (A.length + 1 + Z.length)) = j by omega]
              exact rAt_get hj'
            rw [hge]
          rw [hsp]
          simp only [List.any_append, List.any_cons, List.any_nil, Bool.or_false]
          cases hk1 : s.2.2 (rAt rim' j) u with
          | false => simp
          | true =>
            have hno : (((rim'.drop (A.length + 1 + Z.length)).take (j - (A.length + 1 + Z.length))).any fun w => s.2.2 w u) = false := by
              rw [List.any_eq_false]
              intro w hw
              have hwr : w ∈ rim' := List.drop_subset _ _ (List.take_subset _ _ hw)
              obtain ⟨i, hi'⟩ := List.getElem?_of_mem hw
              have hil := (List.getElem?_eq_some_iff.mp hi').1
              rw [List.length_take] at hil
              rw [List.getElem?_take, if_pos (by omega), List.getElem?_drop] at hi'
              have hne : w ≠ rAt rim' j := fun e => by
                have h7 : rim'[A.length + 1 + Z.length + i]? = rim'[j]? := by rw [hi', rAt_get hj', e]
                have := (List.getElem?_inj (List.getElem?_eq_some_iff.mp hi').1 u5).mp h7
                omega
              rw [hdj _ _ hwm hwr (Ne.symm hne) u hk1]
              simp
            simp [hno]
        · rw [hM1.1]; exact nI_lt hj' (by omega)
    refine mv2 _ (A.length + 1 + Z.length) W10 rfl (Nat.le_refl _) (by omega) m2 (fun u hu => by unfold mvX; simp) fun W6 f6 hX6 => ?_
    have hM6 := hM.fr f6 (by decide) (by decide)
    have hX : ∀ u, u ∈ S → W6 237 u = x2Q v rim rim' s u := fun u hu => by
      obtain ⟨o1, o2, -⟩ := hS u hu
      rw [hX6 u o1]
      unfold x2Q mvX
      rw [m1 u o1]
      unfold mvX
      rw [o2]
    have hY : ∀ u, u ∈ S → W6 238 u = s.2.1 u := fun u hu => by rw [f6.1 238 (by decide) (by decide)]; exact (hS u hu).2.2
    refine sx_185_194 _ _ _ _ _ _ W6 ⟨fun z => absurd z ?_, fun _ => ?_⟩
    · rw [hM6.1]; exact nI_nlt (Nat.le_refl _) (by omega)
    rw [nI_clamp (show A.length < 2 ^ 31 by omega), nI_clamp (show A.length + 1 + Z.length < 2 ^ 31 by omega), hM6.at (by omega), hM6.at (by omega), hi, hj, nI_clamp (show p < 2 ^ 31 by omega), nI_clamp (show n < 2 ^ 31 by omega), hX p hpS, hX n hnS, hY p hpS, hY n hnS]
    have ip : vp_in (nI p) 20 := in_N hp20 (by omega)
    have iq : vp_in (nI n) 20 := in_N hn20 (by omega)
    refine ⟨in_N (by omega) (by omega), in_N (by omega) (by omega), ip, iq, iq, ip, iq, ip, ip, iq, ?_⟩
    refine rf_setP (by omega) fun W11 s1 s2 s3 s4 s5 => ⟨in_N (by omega) (by omega), in_N (by omega) (by omega), fun W12 e12 => ?_⟩
    rw [nI_clamp (by omega), s3] at e12
    have f12 : EqF [] [237, 238, 260] W W12 := ((f6.mono (by simp) (by simp)).tr s5).tr (by rw [e12]; exact EqF.uwA (by simp) (by decide))
    rw [ci_0]
    refine fin W12 (hM.fr f12 (by decide) (by decide)) fun W' x1 x2 => ?_
    have fA : EqF [45] mpL W W' := (f12.mono (by decide) (by decide)).tr (x2.mono (by decide) (by decide))
    refine h W' ?_ fA
    have g237 : W' 237 = W11 237 := by rw [x2.1 237 (by decide) (by decide), e12, uw_n (by decide)]
    have g238 : W' 238 = W11 238 := by rw [x2.1 238 (by decide) (by decide), e12, uw_n (by decide)]
    have g260 : W' 260 = W12 260 := x2.1 260 (by decide) (by decide)
    have h260 : ∀ w, w ≠ v → W' 260 w = W 260 w := fun w hw => by
      rw [g260, e12, uw_m hw, (s4 w hw).2.2, f6.1 260 (by decide) (by decide)]
    have hrimm : ∀ w, w ∈ rim → w ≠ v → w ∈ rim' := fun w hw e => by
      rw [e1] at hw
      rw [e2]
      simp only [List.mem_append, List.mem_cons] at hw ⊢
      rcases hw with q | q | q | q | q
      · exact Or.inl q
      · exact Or.inr (Or.inl q)
      · exact absurd q e
      · exact Or.inr (Or.inr (Or.inr (Or.inl q)))
      · exact Or.inr (Or.inr (Or.inr (Or.inr q)))
    have hnotZ : ∀ w, w ∈ rim → w ∉ Z := fun w hw hz => by
      have hnd := u5
      rw [e2, List.nodup_append, List.nodup_cons, List.nodup_append] at hnd
      obtain ⟨-, ⟨n1, n2, n3, n4⟩, n5⟩ := hnd
      by_cases ev : w = v
      · exact u6 (by rw [← ev, e2]; simp [hz])
      · rw [e1] at hw
        simp only [List.mem_append, List.mem_cons] at hw
        rcases hw with q | q | q | q | q
        · exact n5 w q w (by simp [hz]) rfl
        · exact n1 (by rw [← q]; simp [hz])
        · exact ev q
        · exact n4 w hz n (by simp) q
        · exact n4 w hz w (by simp [q]) rfl
    have hbu : ∀ u, blQ v rim rim' s u = true → u ∈ S := fun u hu => by
      rw [hbq] at hu
      obtain ⟨x, y1, y2⟩ := List.any_eq_true.mp hu
      exact (hln x (by rw [e2]; simp [y1])).2.2 u y2
    rw [hra]
    refine ⟨x1, fun u hu => ?_, fun w hw => ?_, fun w w' hw hw' hne u hu => ?_⟩
    · rw [g237, g238]
      rcases List.mem_cons.mp hu with e | e
      · subst e
        simp only [if_true]
        exact ⟨hv, s1, s2⟩
      · have hne : u ≠ v := fun z => hvS (z ▸ e)
        simp only [if_neg hne]
        exact ⟨(hS u e).1, by rw [(s4 u hne).1]; exact hX u e, by rw [(s4 u hne).2.1]; exact hY u e⟩
    · by_cases e : w = v
      · subst e
        simp only [if_true]
        refine ⟨by simp, ?_, fun u hu => ?_⟩
        · rw [g260, e12, uw_s]
          exact ((BS.one (show w < 20 by omega)).or hy).congr fun u _ => Bool.or_comm _ _
        · rw [Bool.or_eq_true, decide_eq_true_eq] at hu
          rcases hu with q | q
          · exact List.mem_cons_of_mem _ (hbu u q)
          · rw [q]; simp
      · simp only [if_neg e]
        obtain ⟨o1, o2, o3⟩ := hln w (hrimm w hw e)
        exact ⟨List.mem_cons_of_mem _ o1, by rw [h260 w e]; exact o2, fun u hu => List.mem_cons_of_mem _ (o3 u hu)⟩
    · by_cases ew : w = v
      · have ew' : w' ≠ v := fun z => hne (ew.trans z.symm)
        simp only [if_pos ew, if_neg ew'] at hu ⊢
        rw [Bool.or_eq_true, decide_eq_true_eq] at hu
        cases hh : s.2.2 w' u with
        | false => rfl
        | true =>
          exfalso
          rcases hu with q | q
          · rw [hbq] at q
            obtain ⟨x, y1, y2⟩ := List.any_eq_true.mp q
            have := hdj x w' (by rw [e2]; simp [y1]) (hrimm w' hw' ew') (fun z => hnotZ w' hw' (z ▸ y1)) u y2
            rw [hh] at this; cases this
          · exact hvS (q ▸ (hln w' (hrimm w' hw' ew')).2.2 u hh)
      · simp only [if_neg ew] at hu
        by_cases ew' : w' = v
        · simp only [if_pos ew']
          rw [Bool.or_eq_false_iff, decide_eq_false_iff_not]
          refine ⟨?_, fun z => hvS (z ▸ (hln w (hrimm w hw ew)).2.2 u hu)⟩
          rw [hbq, List.any_eq_false]
          intro x hx
          rw [hdj w x (hrimm w hw ew) (by rw [e2]; simp [hx]) (fun z => hnotZ w hw (z ▸ hx)) u hu]
          simp
        · simp only [if_neg ew']
          exact hdj w w' (hrimm w hw ew) (hrimm w' hw' ew') hne u hu
  -- what is carried
  have carry : ∀ (m j : Nat) (y : Int32), A.length + 1 + Z.length - j = m → A.length + 1 ≤ j → j ≤ A.length + 1 + Z.length → BS y (fun u => ((rim'.drop (A.length + 1)).take (j - (A.length + 1))).any fun w => s.2.2 w u) → hd_185_153 (d + 1) Q (nI k) (nI v) (nI A.length) (nI (A.length + 1 + Z.length)) y (nI j) W := by
    intro m
    induction m with
    | zero =>
      intro j y h1 h2 h3 hy
      have hjj : j = A.length + 1 + Z.length := by omega
      subst hjj
      refine sx_185_153 _ _ _ _ _ _ W ⟨fun z => absurd z (nI_nlt (Nat.le_refl _) (by omega)), fun _ => sums y (hy.congr fun u _ => ?_)⟩
      rw [hbq, hdp, show A.length + 1 + Z.length - (A.length + 1) = Z.length by omega, List.take_left]
    | succ m ih =>
      intro j y h1 h2 h3 hy
      have hj' : j < rim'.length := by omega
      have hwm := rAt_mem (rim := rim') hj'
      have hw20 := u9 _ hwm
      refine sx_185_153 _ _ _ _ _ _ W ⟨fun _ => ⟨in_N (by omega) (by omega), ?_⟩, fun z => absurd (nI_lt (by omega) (by omega)) z⟩
      rw [nI_clamp (by omega), hM.at hj', nI_clamp (by omega)]
      refine ⟨in_N hw20 (by omega), ?_⟩
      rw [ci_1, nI_add]
      refine ih (j + 1) _ (by omega) (by omega) (by omega) ((hy.or (hln _ hwm).2.1).congr fun u _ => ?_)
      have hl5 : j - (A.length + 1) < (rim'.drop (A.length + 1)).length := by rw [List.length_drop]; omega
      have hge : (rim'.drop (A.length + 1))[j - (A.length + 1)] = rAt rim' j := by
        apply Option.some.inj
        rw [← List.getElem?_eq_getElem hl5, List.getElem?_drop, show A.length + 1 + (j - (A.length + 1)) = j by omega]
        exact rAt_get hj'
      rw [show j + 1 - (A.length + 1) = (j - (A.length + 1)) + 1 by omega, List.take_succ_eq_append_getElem hl5, List.any_append, hge]
      simp only [List.any_cons, List.any_nil, Bool.or_false]
  -- the last neighbour
  have lastQ : ∀ (m j : Nat), j - (A.length + 1 + Z.length) = m → A.length + 1 + Z.length ≤ j → j < rim'.length → hd_185_124 (d + 1) Q (nI k) (nI v) (nI A.length) (nI j) W := by
    intro m
    induction m with
    | zero =>
      intro j h1 h2 h3
      have hjj : j = A.length + 1 + Z.length := by omega
      subst hjj
      refine sx_185_124 _ _ _ _ W ⟨in_N (by omega) (by omega), ?_⟩
      rw [nI_clamp (by omega), hM.at h3]
      refine rf_eOf (u9 _ (rAt_mem h3)) (by omega) hG ⟨fun z => ?_, fun _ => ?_⟩
      · exfalso
        rw [rf_eNo_neg hG, hadj _ h3] at z
        simp at z
        omega
      · rw [ci_0, ci_1, nI_add]
        exact carry _ (A.length + 1) _ rfl (Nat.le_refl _) (by omega) (BS.zero.congr fun u _ => by simp)
    | succ m ih =>
      intro j h1 h2 h3
      refine sx_185_124 _ _ _ _ W ⟨in_N (by omega) (by omega), ?_⟩
      rw [nI_clamp (by omega), hM.at h3]
      refine rf_eOf (u9 _ (rAt_mem h3)) (by omega) hG ⟨fun _ => ?_, fun z => absurd ?_ z⟩
      · have hneg : (Int32.ofInt (-1)) = -(nI 1) := by decide
        rw [hneg, ← Int32.sub_eq_add_neg, nI_subN (by omega)]
        exact ih (j - 1) (by omega) (by omega) (by omega)
      · rw [rf_eNo_neg hG, hadj _ h3]
        simp; omega
  -- the first neighbour
  have firstP : ∀ (m i : Nat), A.length - i = m → i ≤ A.length → hd_185_96 (d + 1) Q (nI k) (nI v) (nI i) W := by
    intro m
    induction m with
    | zero =>
      intro i h1 h2
      have hii : i = A.length := by omega
      subst hii
      refine sx_185_96 _ _ _ W ⟨in_N (by omega) (by omega), ?_⟩
      rw [nI_clamp (by omega), hM.at (by omega)]
      refine rf_eOf (u9 _ (rAt_mem (by omega))) (by omega) hG ⟨fun z => ?_, fun _ => ?_⟩
      · exfalso
        rw [rf_eNo_neg hG, hadj _ (by omega)] at z
        simp at z
        omega
      · show hd_185_124 (d + 1) Q (nI k) (nI v) (nI A.length) (W 229 45 - Int32.ofInt 1) W
        rw [hM.1, nI_sub1 (by omega)]
        exact lastQ _ (rim'.length - 1) rfl (by omega) (by omega)
    | succ m ih =>
      intro i h1 h2
      refine sx_185_96 _ _ _ W ⟨in_N (by omega) (by omega), ?_⟩
      rw [nI_clamp (by omega), hM.at (by omega)]
      refine rf_eOf (u9 _ (rAt_mem (by omega))) (by omega) hG ⟨fun _ => ?_, fun z => absurd ?_ z⟩
      · rw [ci_1, nI_add]; exact ih (i + 1) (by omega) (by omega)
      · rw [rf_eNo_neg hG, hadj _ (by omega)]
        simp; omega
  exact firstP _ 0 rfl (Nat.zero_le _)
end RDC
