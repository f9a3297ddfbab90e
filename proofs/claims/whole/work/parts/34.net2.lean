/-! ===== a net: taking away, copying, all around ===== -/
theorem nd_split {es : gE} {e : Nat} {p : Nat × Nat} (hp : es[e]? = some p) : es = es.take e ++ p :: es.drop (e + 1) := by
  obtain ⟨h1, h2⟩ := List.getElem?_eq_some_iff.mp hp
  rw [← h2, ← List.drop_eq_getElem_cons h1, List.take_append_drop]
theorem mem_erase {es : gE} (hn : es.Nodup) {e : Nat} {p q : Nat × Nat} (hp : es[e]? = some p) : q ∈ es.eraseIdx e ↔ q ∈ es ∧ q ≠ p := by
  rw [List.eraseIdx_eq_take_drop_succ]
  have hs := nd_split hp
  generalize es.take e = l1 at hs ⊢
  generalize es.drop (e + 1) = l2 at hs ⊢
  subst hs
  rw [List.nodup_append] at hn
  obtain ⟨n1, n2, n3⟩ := hn
  rw [List.nodup_cons] at n2
  simp only [List.mem_append, List.mem_cons]
  constructor
  · rintro (h | h)
    · exact ⟨Or.inl h, n3 q h p List.mem_cons_self⟩
    · exact ⟨Or.inr (Or.inr h), fun z => n2.1 (z ▸ h)⟩
  · rintro ⟨h | h | h, z⟩
    · exact Or.inl h
    · exact absurd h z
    · exact Or.inr h
theorem adj_erase {V : Nat} {es : gE} (hO : okE V es) {e : Nat} {p : Nat × Nat} (hp : es[e]? = some p) (i j : Nat) : adj (es.eraseIdx e) i j = (adj es i j && !(decide (i = p.1 ∧ j = p.2) || decide (i = p.2 ∧ j = p.1))) := by
  have hm := hO.1 p (List.mem_of_getElem? hp)
  obtain ⟨a, b⟩ := p
  rw [Bool.eq_iff_iff]
  simp only [Bool.and_eq_true, Bool.not_eq_true', Bool.or_eq_false_iff, decide_eq_false_iff_not, adj_iff, mem_erase hO.2 hp, Ne, Prod.mk.injEq]
  constructor
  · rintro (⟨h1, h2⟩ | ⟨h1, h2⟩)
    · have := hO.1 _ h1
      refine ⟨Or.inl h1, h2, fun z => ?_⟩
      simp only at hm this
      omega
    · have := hO.1 _ h1
      refine ⟨Or.inr h1, fun z => ?_, fun z => h2 ⟨z.2, z.1⟩⟩
      simp only at hm this
      omega
  · rintro ⟨h1 | h1, h2, h3⟩
    · exact Or.inl ⟨h1, h2⟩
    · exact Or.inr ⟨h1, fun z => h3 ⟨z.2, z.1⟩⟩
theorem okE_erase {V : Nat} {es : gE} (hO : okE V es) (e : Nat) : okE V (es.eraseIdx e) :=
  ⟨fun p hp => hO.1 p ((List.eraseIdx_sublist es e).subset hp), hO.2.sublist (List.eraseIdx_sublist es e)⟩
theorem okE_sub {V : Nat} {es fs : gE} (hO : okE V es) (h : fs.Sublist es) : okE V fs := ⟨fun p hp => hO.1 p (h.subset hp), hO.2.sublist h⟩
/-- an edge of a graph isn't among those ahead of it -/
theorem adj_ahead {V : Nat} {es l1 l2 : gE} {p : Nat × Nat} (hO : okE V es) (h : es = l1 ++ p :: l2) : adj l1 p.1 p.2 = false := by
  cases hq : adj l1 p.1 p.2 with
  | false => rfl
  | true =>
    exfalso
    subst h
    have hm := hO.1 p (by simp)
    have hn := hO.2
    rw [List.nodup_append] at hn
    rcases adj_iff.mp hq with z | z
    · exact hn.2.2 _ z p List.mem_cons_self rfl
    · have := hO.1 _ (List.mem_append_left _ z)
      simp only at this
      omega
section NET2
variable {d : Nat} {Q : fl_R} {b : Nat} {W : fl_W} {V : Nat} {es : gE}
/-- adding an edge as it stands in a list -/
theorem net_addE {p : Nat × Nat} (hb : fl_net b) (hN : NetR W b V es) (hp : p.1 < p.2 ∧ p.2 < V) (hn : adj es p.1 p.2 = false) (hl : es.length < 60) (h : ∀ W', NetR W' b V (es ++ [p]) → EqX (nl b) W W' → Q none W') : fl_cal (d + 2) 50 [.ref b, .int (nI p.1), .int (nI p.2)] W Q := by
  refine net_add hb hN (by omega) hp.2 (by omega) hn hl fun W' g1 g2 => h W' ?_ g2
  rwa [Nat.min_eq_left (by omega), Nat.max_eq_right (by omega)] at g1
theorem net_rem_l {m : Nat} (hb : fl_net b) (hm : m < 60) : ∀ (n i : Nat) (W : fl_W), m - i = n → i ≤ m → W b 4 = nI m → (∀ W', (∀ j, j < i → W' (b + 1) j = W (b + 1) j ∧ W' (b + 2) j = W (b + 2) j) → (∀ j, i ≤ j → j < m → W' (b + 1) j = W (b + 1) (j + 1) ∧ W' (b + 2) j = W (b + 2) (j + 1)) → EqX [b + 1, b + 2] W W' → Q none W') → hd_51_66 d Q b (nI i) W := by
  intro n
  induction n with
  | zero =>
    intro i W h1 h2 h4 h
    refine sx_51_66 b _ W hb ⟨fun q => absurd q ?_, fun _ => h W (fun _ _ => ⟨rfl, rfl⟩) (fun j _ _ => by omega) EqX.rf⟩
    rw [h4]; exact nI_nlt (by omega) (by omega)
  | succ n ih =>
    intro i W h1 h2 h4 h
    have e1 : nI i + Int32.ofInt 1 = nI (i + 1) := by rw [ci_1, nI_add]
    refine sx_51_66 b _ W hb ⟨fun _ => ?_, fun q => absurd ?_ q⟩
    · rw [e1]
      refine ⟨in_N (by omega) (by omega), in_N (by omega) (by omega), fun W7 e7 => ⟨in_N (by omega) (by omega), in_N (by omega) (by omega), fun W8 e8 => ?_⟩⟩
      rw [nI_clamp (by omega), nI_clamp (by omega)] at e7
      rw [nI_clamp (by omega), nI_clamp (by omega)] at e8
      have a1 : ∀ j, W8 (b + 1) j = if j = i then W (b + 1) (i + 1) else W (b + 1) j := by
        intro j
        rw [e8, uw_n (by omega), e7]
        by_cases hj : j = i
        · subst hj; rw [uw_s, if_pos rfl]
        · rw [uw_m hj, if_neg hj]
      have a2 : ∀ j, W8 (b + 2) j = if j = i then W (b + 2) (i + 1) else W (b + 2) j := by
        intro j
        rw [e8]
        by_cases hj : j = i
        · subst hj; rw [uw_s, if_pos rfl, e7, uw_n (by omega)]
        · rw [uw_m hj, if_neg hj, e7, uw_n (by omega)]
      have f : EqX [b + 1, b + 2] W W8 := by rw [e8, e7]; exact (EqX.uw (by simp)).tr (EqX.uw (by simp))
      refine ih (i + 1) W8 (by omega) (by omega) (by rw [f b (by simp)]; exact h4) fun W' g1 g2 g3 => h W' (fun j hj => ?_) (fun j hj1 hj2 => ?_) (f.tr g3)
      · have := g1 j (by omega)
        rw [a1, a2, if_neg (by omega), if_neg (by omega)] at this
        exact this
      · rcases Nat.lt_or_ge i j with q | q
        · have := g2 j q hj2
          rw [a1, a2, if_neg (by omega), if_neg (by omega)] at this
          exact this
        · have hji : j = i := by omega
          subst hji
          have := g1 j (by omega)
          rw [a1, a2, if_pos rfl, if_pos rfl] at this
          exact this
    · rw [h4]; exact nI_lt (by omega) (by omega)
theorem net_rem {e : Nat} {p : Nat × Nat} (hb : fl_net b) (hN : NetR W b V es) (hp : es[e]? = some p) (h : ∀ W', NetR W' b V (es.eraseIdx e) → EqX (nl b) W W' → Q none W') : fl_cal (d + 2) 51 [.ref b, .int (nI e)] W Q := by
  have hV := hN.1
  have hE := hN.2.1
  have h4 := hN.2.2.2.2.1
  have hi := (List.getElem?_eq_some_iff.mp hp).1
  have hpp := hN.2.2.1.1 p (List.mem_of_getElem? hp)
  obtain ⟨c1, c2⟩ := hN.2.2.2.2.2.1 e p hp
  refine sx_51 b _ W hb (net_hasE hb hN ?_)
  rw [ixB_N (by omega), decide_eq_true hi]
  refine ⟨fun q => absurd q (by decide), fun _ => ?_⟩
  simp only [nI_clamp (show e < 2 ^ 31 by omega), c1, c2, nI_clamp (show p.1 < 2 ^ 31 by omega), nI_clamp (show p.2 < 2 ^ 31 by omega)]
  refine ⟨in_N (by omega) (by omega), in_N (by omega) (by omega), in_N (by omega) (by omega), st_bit ⟨in_N (by omega) (by omega), fun W3 e3 => ⟨in_N (by omega) (by omega), st_bit ⟨in_N (by omega) (by omega), fun W5 e5 W6 e6 => ?_⟩⟩⟩⟩
  have a5 : W5 b = W b := by rw [e5, uw_n (by omega), e3, uw_n (by omega)]
  rw [a5, h4, ci_1, pk_sub (by omega)] at e6
  have f : EqX (nl b) W W6 := by
    rw [e6, e5, e3]
    exact ((EqX.uw (by simp [nl])).tr (EqX.uw (by simp [nl]))).tr (EqX.uw (by simp [nl]))
  have l1 : W6 (b + 1) = W (b + 1) := by rw [e6, uw_n (by omega), e5, uw_n (by omega), e3, uw_n (by omega)]
  have l2 : W6 (b + 2) = W (b + 2) := by rw [e6, uw_n (by omega), e5, uw_n (by omega), e3, uw_n (by omega)]
  have l3 : ∀ i, i < 20 → BS (W6 (b + 3) i) (adj (es.eraseIdx e) i) := by
    intro i hi20
    have g := hN.2.2.2.2.2.2
    rw [e6, uw_n (by omega), e5]
    by_cases hiv : i = p.2
    · subst hiv
      rw [uw_s, e3, uw_m (by omega)]
      refine ((g _ hi20).and (BT.not (BS.bit (by omega)).lo)).congr fun j hj => ?_
      rw [adj_erase hN.2.2.1 hp]
      have : ¬ p.2 = p.1 := by omega
      simp [this]
    · rw [uw_m hiv, e3]
      by_cases hiu : i = p.1
      · subst hiu
        rw [uw_s]
        refine ((g _ hi20).and (BT.not (BS.bit (by omega)).lo)).congr fun j hj => ?_
        rw [adj_erase hN.2.2.1 hp]
        have : ¬ p.1 = p.2 := by omega
        simp [this]
      · rw [uw_m hiu]
        refine (g _ hi20).congr fun j hj => ?_
        rw [adj_erase hN.2.2.1 hp]
        simp [hiu, hiv]
  refine net_rem_l hb (m := es.length - 1) (by omega) _ e W6 rfl (by omega) (by rw [e6, uw_s]) fun W' g1 g2 g3 => h W' ⟨hV, ?_, okE_erase hN.2.2.1 e, ?_, ?_, fun i q hq => ?_, fun v hv => ?_⟩ (f.tr (g3.mono (by simp [nl])))
  · rw [List.length_eraseIdx]; split <;> omega
  · rw [g3 b (by simp), e6, uw_m (by omega), a5]; exact hN.2.2.2.1
  · rw [g3 b (by simp), e6, uw_s, List.length_eraseIdx, if_pos hi]
  · rw [List.getElem?_eraseIdx] at hq
    by_cases hie : i < e
    · rw [if_pos hie] at hq
      rw [(g1 i hie).1, (g1 i hie).2, l1, l2]
      exact hN.2.2.2.2.2.1 i q hq
    · rw [if_neg hie] at hq
      have hl := (List.getElem?_eq_some_iff.mp hq).1
      have := g2 i (by omega) (by omega)
      rw [this.1, this.2, l1, l2]
      exact hN.2.2.2.2.2.1 (i + 1) q hq
  · rw [g3 (b + 3) (by simp)]
    exact l3 v hv
theorem net_copy_l {b2 : Nat} {fs : gE} (hb : fl_net b) (hb2 : fl_net b2) (hne : b ≠ b2) : ∀ (n i : Nat) (W : fl_W), fs.length - i = n → i ≤ fs.length → NetR W b2 V fs → NetR W b V (fs.take i) → (∀ W', NetR W' b V fs → EqX (nl b) W W' → Q none W') → hd_41_10 (d + 2) Q b b2 (nI i) W := by
  have hdis := net_dis hb2 hb (Ne.symm hne)
  intro n
  induction n with
  | zero =>
    intro i W h1 h2 hS hN h
    have := hS.2.1
    refine sx_41_10 b b2 _ W hb hb2 ⟨fun q => absurd q ?_, fun _ => h W ?_ EqX.rf⟩
    · rw [hS.2.2.2.2.1]; exact nI_nlt (by omega) (by omega)
    · rwa [List.take_of_length_le (by omega)] at hN
  | succ n ih =>
    intro i W h1 h2 hS hN h
    have := hS.2.1
    have hi : i < fs.length := by omega
    have hp := List.getElem?_eq_getElem hi
    refine sx_41_10 b b2 _ W hb hb2 ⟨fun _ => ?_, fun q => absurd ?_ q⟩
    · refine net_low hb2 hS hp (net_high hb2 hS hp (net_addE hb hN (hS.2.2.1.1 _ (List.mem_of_getElem? hp)) (adj_ahead hS.2.2.1 (nd_split hp)) (by simp; omega) fun W' g1 g2 => ?_))
      show hd_41_10 (d + 2) Q b b2 (nI i + Int32.ofInt 1) W'
      rw [ci_1, nI_add]
      refine ih (i + 1) W' (by omega) (by omega) (hS.fr g2 hdis) ?_ fun W'' k1 k2 => h W'' k1 (g2.tr k2)
      rwa [List.take_succ_eq_append_getElem hi]
    · rw [hS.2.2.2.2.1]; exact nI_lt hi (by omega)
theorem net_copy {b2 : Nat} {fs : gE} (hb : fl_net b) (hb2 : fl_net b2) (hne : b ≠ b2) (hS : NetR W b2 V fs) (h : ∀ W', NetR W' b V fs → EqX (nl b) W W' → Q none W') : fl_cal (d + 3) 41 [.ref b, .ref b2] W Q := by
  have hdis := net_dis hb2 hb (Ne.symm hne)
  refine sx_41 b b2 W hb hb2 ?_
  rw [hS.2.2.2.1]
  refine net_begin hb hS.1 fun W' g1 g2 => ?_
  exact net_copy_l hb hb2 hne fs.length 0 W' (by simp) (Nat.zero_le _) (hS.fr g2 hdis) (by simpa using g1) fun W'' k1 k2 => h W'' k1 (g2.tr k2)
/-- all neighbours of a set -/
def arnd (es : gE) (p : Nat → Bool) (n : Nat) (i : Nat) : Bool := (List.range n).any fun v => p v && adj es v i
theorem arnd_succ {p : Nat → Bool} {n i : Nat} : arnd es p (n + 1) i = (arnd es p n i || (p n && adj es n i)) := by
  unfold arnd
  rw [List.range_succ, List.any_append]
  simp
theorem net_all_l {p : Nat → Bool} {x : Int32} (hb : fl_net b) (hN : NetR W b V es) (hx : BT x p) : ∀ (n i : Nat) (y : Int32), V - i = n → i ≤ V → BS y (arnd es p i) → (∀ z, BS z (arnd es p V) → Q (some (.int z)) W) → hd_47_4 d Q b x y (nI i) W := by
  have hV := hN.1
  intro n
  induction n with
  | zero =>
    intro i y h1 h2 hy h
    refine sx_47_4 b _ _ _ W hb ⟨fun q => absurd q ?_, fun _ => h y ?_⟩
    · rw [hN.2.2.2.1]; exact nI_nlt (by omega) (by omega)
    · rwa [show i = V by omega] at hy
  | succ n ih =>
    intro i y h1 h2 hy h
    have e1 : nI i + Int32.ofInt 1 = nI (i + 1) := by rw [ci_1, nI_add]
    refine sx_47_4 b _ _ _ W hb ⟨fun _ => ⟨fun q => ?_, fun q => ?_⟩, fun q => absurd ?_ q⟩
    · rw [e1]
      refine ih (i + 1) y (by omega) (by omega) (hy.congr fun j hj => ?_) h
      have := (sb_ask (by omega) x).mp q
      rw [hx i (by omega)] at this
      rw [arnd_succ, this]
      simp
    · refine ⟨in_N (by omega) (by omega), ?_⟩
      rw [e1, nI_clamp (by omega)]
      refine ih (i + 1) _ (by omega) (by omega) ((hy.or (hN.2.2.2.2.2.2 i (by omega))).congr fun j hj => ?_) h
      have : p i = true := by
        cases hq : p i with
        | true => rfl
        | false => rw [← hx i (by omega)] at hq; exact absurd ((sb_ask (by omega) x).mpr hq) q
      rw [arnd_succ, this]
      simp
    · rw [hN.2.2.2.1]; exact nI_lt (by omega) (by omega)
theorem net_all {p : Nat → Bool} {x : Int32} (hb : fl_net b) (hN : NetR W b V es) (hx : BT x p) (h : ∀ z, BS z (arnd es p V) → Q (some (.int z)) W) : fl_cal (d + 1) 47 [.ref b, .int x] W Q :=
  sx_47 b x W hb (net_all_l hb hN hx V 0 _ (by omega) (Nat.zero_le _) (BS.zero.congr fun i _ => by simp [arnd]) h)
def lonB (es : gE) (v : Nat) : Bool := (List.range 20).all fun j => !adj es v j
theorem net_lon_l (hb : fl_net b) (hN : NetR W b V es) : ∀ (n i : Nat), V - i = n → i ≤ V → Q (some (.int (nI (cnt (lonB es) V)))) W → hd_52_4 d Q b (nI (cnt (lonB es) i)) (nI i) W := by
  have hV := hN.1
  intro n
  induction n with
  | zero =>
    intro i h1 h2 h
    refine sx_52_4 b _ _ W hb ⟨fun q => absurd q ?_, fun _ => ?_⟩
    · rw [hN.2.2.2.1]; exact nI_nlt (by omega) (by omega)
    · rwa [show i = V by omega]
  | succ n ih =>
    intro i h1 h2 h
    have e1 : nI i + Int32.ofInt 1 = nI (i + 1) := by rw [ci_1, nI_add]
    have hz := (hN.2.2.2.2.2.2 i (by omega)).z
    have hl : (lonB es i = true) ↔ W (b + 3) i = 0 := by
      rw [hz, lonB, List.all_eq_true]
      constructor
      · intro z j hj
        simpa using z j (List.mem_range.mpr hj)
      · intro z j hj
        simpa using z j (List.mem_range.mp hj)
    refine sx_52_4 b _ _ W hb ⟨fun _ => ⟨in_N (by omega) (by omega), ⟨fun q => ?_, fun q => ?_⟩⟩, fun q => absurd ?_ q⟩
    · rw [nI_clamp (by omega)] at q
      have := ih (i + 1) (by omega) (by omega) h
      rw [cnt, hl.mpr q] at this
      rw [e1, ci_1, nI_add]
      exact this
    · rw [nI_clamp (by omega)] at q
      have := ih (i + 1) (by omega) (by omega) h
      rw [cnt, if_neg (fun z => q (hl.mp z))] at this
      rw [e1]
      exact this
    · rw [hN.2.2.2.1]; exact nI_lt (by omega) (by omega)
theorem net_lon (hb : fl_net b) (hN : NetR W b V es) (h : Q (some (.int (nI (cnt (lonB es) V)))) W) : fl_cal (d + 1) 52 [.ref b] W Q :=
  sx_52 b W hb (net_lon_l hb hN V 0 (by omega) (Nat.zero_le _) h)
end NET2
