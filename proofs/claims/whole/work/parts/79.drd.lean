/-! ===== Drawing of the class: order and places ===== -/
section DRD
variable {d : Nat} {Q : fl_R} {W : fl_W} {V b t : Nat} {es : gE} {rs : List (List Nat)} {R : Nat → List Nat}
/-- findOrder -/
theorem dr_ord_l {a bb : Nat} (hb : fl_net b) (ht : fl_tur t) (hT : TG V es rs R) (hall : ∀ x, x < V → ∃ y, adj es x y = true) : ∀ (k : Nat) (W : fl_W) (rim bw : List Nat), (k = 0 ∨ ∃ F P, RS V es rs F P rim ∧ P.length + 2 + k = V) → bw.length + k + 2 = V → NetR W b V es → TurR W t R → RowR W 221 (nL rim) → RowR W 219 (nL bw) →
    (∀ W', RowR W' 217 (nL (a :: bb :: (bw ++ (drun es R k rim).map Prod.fst).reverse)) → EqX drl W W' → Q none W') → hd_19_24 (d + 3) Q b t (nI a) (nI bb) (nI (k + 1)) W := by
  have hV := hT.1
  have hO := hT.2.1
  have hTok : ∀ y, (R y).Nodup ∧ ∀ x, x ∈ R y → x < 20 := fun y => ⟨(hT.2.2.2.2.2.1 y).1, fun x hx => by have := (adj_lt hO (((hT.2.2.2.2.2.1 y).2 x).mp hx)).2.1; omega⟩
  intro k
  induction k with
  | zero =>
    intro W rim bw hk hbl hN hTu hrow h219 h
    rw [drun, List.map_nil, List.append_nil] at h
    refine sx_19_24 b t _ _ _ W hb ht ⟨fun _ => ?_, fun z => absurd (show nI (0 + 1) < Int32.ofInt 2 by decide) z⟩
    refine row_clear (r := 217) rfl fun W3 r3 f3 => row_add (r := 217) rfl r3 (by decide) fun W4 r4 f4 => row_add (r := 217) rfl r4 (by show 1 < 20; omega) fun W5 r5 f5 => ?_
    have h219' := ((h219.fr f3 (by decide) (by decide)).fr f4 (by decide) (by decide)).fr f5 (by decide) (by decide)
    refine row_back (r := 217) (s := 219) rfl rfl (by decide) h219' r5 (by show 2 + _ ≤ 20; rw [nL_len]; omega) fun W6 r6 f6 => ?_
    refine h W6 ?_ ((((f3.mono (by decide)).tr (f4.mono (by decide))).tr (f5.mono (by decide))).tr (f6.mono (by decide)))
    have : ([] ++ [nI a] ++ [nI bb] ++ (nL bw).reverse) = nL (a :: bb :: bw.reverse) := by simp [nL]
    rw [this] at r6; exact r6
  | succ k ih =>
    intro W rim bw hk hbl hN hTu hrow h219 h
    obtain ⟨F, P, hR, hP⟩ := hk.resolve_left (by omega)
    clear hk
    obtain ⟨ti, t1, t2, t3, t4, t5, t6, t7, ⟨Wd, t8, t8n, t8w⟩, t9, t10⟩ := dr_step hT hall hR (by omega)
    have hlk := t5
    obtain ⟨A, p, n, M, Z, -, -, -, -, e5, -, e7, e8, e9⟩ := hlk
    have hd : drun es R (k + 1) rim = (rAt rim ti, rim) :: drun es R k (rimS R rim ti) := by rw [drun, t1]
    have hrl : rim.length ≤ 20 := nd_le 20 e7 e8
    refine sx_19_24 b t _ _ _ W hb ht ⟨fun z => absurd z ?_, fun _ => ?_⟩
    · rw [ci_2]; exact nI_nlt (by omega) (by omega)
    · refine dr_free hb hN hrow hR.2.1 hR.2.2.2.1 hR.2.2.1 ?_
      rw [t1]
      refine row_get (r := 221) rfl hrow ?_
      show fl_cal (d + 3) 65 [.ref 219, .int (getI (nL rim) (nI ti))] W _
      rw [nL_rAt (by omega) (by omega)]
      refine row_add (r := 219) rfl h219 (by rw [nL_len]; show _ < 20; omega) fun W9 r9 f9 => ?_
      have hrow9 := hrow.fr f9 (by decide) (by decide)
      have f9' : EqX drl W W9 := f9.mono (by decide)
      have hT9 := hTu.fr f9' (tur_drl ht)
      have hlen' : (rimS R rim ti).length ≤ 20 := nd_le 20 e5 e9
      refine dr_take ht hT9 hTok hrow9 t2 t3 e8 e7 t8 t8n hlen' fun W10 j1 j2 => ?_
      show hd_19_24 (d + 3) Q b t (nI a) (nI bb) (nI (k + 1 + 1) + Int32.ofInt (-1)) W10
      have hneg : (Int32.ofInt (-1)) = -(nI 1) := by decide
      rw [hneg, ← Int32.sub_eq_add_neg, ← nI_add (a := k + 1), Int32.add_sub_cancel]
      have f10 : EqX drl W W10 := f9'.tr (j2.mono (by decide))
      have r9' : RowR W10 219 (nL (bw ++ [rAt rim ti])) := by
        rw [nL_app]
        exact r9.fr j2 (by decide) (by decide)
      refine ih W10 (rimS R rim ti) (bw ++ [rAt rim ti]) ?_ (by simp; omega) (hN.fr f10 (net_drl hb)) (hTu.fr f10 (tur_drl ht)) j1 r9' fun W' m1 m2 => h W' ?_ (f10.tr m2)
      · by_cases hk0 : k = 0
        · exact Or.inl hk0
        · obtain ⟨F', hR'⟩ := t10 (by omega)
          exact Or.inr ⟨F', _, hR', by simp; omega⟩
      · rw [hd, List.map_cons]
        rw [List.append_assoc, List.singleton_append] at m1
        exact m1
/-- carriedByLine -/
theorem dr_carry_l {line : List Nat} {K : Nat → Nat → Bool} {e : Nat} (hrow : RowR W 221 (nL line)) (hl20 : ∀ w, w ∈ line → w < 20) (hK : ∀ w, w ∈ line → BS (W 216 w) (K w)) (he : e ≤ line.length) (hll : line.length ≤ 20) : ∀ (n i : Nat) (x : Int32) (p : Nat → Bool), e - i = n → i ≤ e → BS x p → (∀ y, BS y (fun u => p u || ((line.drop i).take (e - i)).any fun w => K w u) → Q (some (.int y)) W) → hd_23_5 (d + 1) Q (nI e) x (nI i) W := by
  intro n
  induction n with
  | zero =>
    intro i x p h1 h2 hx h
    refine sx_23_5 _ _ _ W ⟨fun z => absurd z (nI_nlt (by omega) (by omega)), fun _ => h x (hx.congr fun u _ => ?_)⟩
    rw [h1]
    simp
  | succ n ih =>
    intro i x p h1 h2 hx h
    have hi : i < line.length := by omega
    have hw := rAt_mem (rim := line) hi
    have hw20 := hl20 _ hw
    refine sx_23_5 _ _ _ W ⟨fun _ => row_get (r := 221) rfl hrow ?_, fun z => absurd (nI_lt (by omega) (by omega)) z⟩
    rw [nL_rAt hi (by omega)]
    refine st_can ?_
    rw [ixB_N (by omega), decide_eq_true hw20]
    refine ⟨fun z => absurd z (by decide), fun _ => ⟨in_N hw20 (by omega), ?_⟩⟩
    rw [nI_clamp (by omega), ci_1, nI_add]
    refine ih (i + 1) _ (fun u => p u || K (rAt line i) u) (by omega) (by omega) (hx.or (hK _ hw)) fun y hy => h y (hy.congr fun u _ => ?_)
    have hd : line.drop i = rAt line i :: line.drop (i + 1) := by
      rw [List.drop_eq_getElem_cons hi]
      congr 1
      have := rAt_get hi
      rw [List.getElem?_eq_getElem hi] at this
      exact Option.some.inj this
    rw [hd, show e - i = (e - (i + 1)) + 1 by omega, List.take_succ_cons, List.any_cons, Bool.or_assoc]
theorem dr_carry {line : List Nat} {K : Nat → Nat → Bool} {e i : Nat} (hrow : RowR W 221 (nL line)) (hl20 : ∀ w, w ∈ line → w < 20) (hK : ∀ w, w ∈ line → BS (W 216 w) (K w)) (he : e ≤ line.length) (hll : line.length ≤ 20) (hi : i ≤ e) (h : ∀ y, BS y (fun u => ((line.drop i).take (e - i)).any fun w => K w u) → Q (some (.int y)) W) : fl_cal (d + 2) 23 [.ref 213, .int (nI i), .int (nI e)] W Q :=
  sx_23 _ _ W (dr_carry_l hrow hl20 hK he hll _ i 0 (fun _ => false) rfl hi BS.zero fun y hy => h y (hy.congr fun u _ => Bool.false_or _))
/-- move -/
theorem dr_move_l {x far : Int32} {p : Nat → Bool} (hx : BS x p) : ∀ (n i : Nat) (W0 W : fl_W), 20 - i = n → i ≤ 20 → (∀ u, u < 20 → W 214 u = if u < i then mvX p far (W0 214) u else W0 214 u) → (∀ W', (∀ u, u < 20 → W' 214 u = mvX p far (W0 214) u) → EqX [214] W W' → Q none W') → hd_24_2 (d + 1) Q x far (nI i) W := by
  intro n
  induction n with
  | zero =>
    intro i W0 W h1 h2 hW h
    refine sx_24_2 _ _ _ W ⟨fun z => absurd z ?_, fun _ => h W (fun u hu => by rw [hW u hu, if_pos (by omega)]) EqX.rf⟩
    rw [cb_20]; exact nI_nlt (by omega) (by omega)
  | succ n ih =>
    intro i W0 W h1 h2 hW h
    have hi : i < 20 := by omega
    refine sx_24_2 _ _ _ W ⟨fun _ => st_in ?_, fun z => absurd ?_ z⟩
    · rw [inI_N hi, hx.lo i hi]
      have hWi := hW i hi
      rw [if_neg (Nat.lt_irrefl _)] at hWi
      rw [ci_1, nI_add]
      cases hp : p i with
      | false =>
        refine ⟨fun _ => ih (i + 1) W0 W (by omega) (by omega) (fun u hu => ?_) h, fun z => absurd rfl z⟩
        by_cases e : u = i
        · subst e
          rw [hWi, if_pos (by omega), mvX, hp]; rfl
        · have : u < i + 1 ↔ u < i := by omega
          rw [hW u hu]
          simp only [this]
      | true =>
        refine ⟨fun z => absurd z (by decide), fun _ => ⟨in_N hi (by omega), in_N hi (by omega), fun W2 e2 => ?_⟩⟩
        rw [nI_clamp (by omega), hWi] at e2
        have f2 : EqX [214] W W2 := by rw [e2]; exact EqX.uw (by simp)
        refine ih (i + 1) W0 W2 (by omega) (by omega) (fun u hu => ?_) fun W' j1 j2 => h W' j1 (f2.tr j2)
        rw [e2]
        by_cases e : u = i
        · subst e
          rw [uw_s, if_pos (by omega), mvX, hp]; rfl
        · have : u < i + 1 ↔ u < i := by omega
          rw [uw_m e, hW u hu]
          simp only [this]
    · rw [cb_20]; exact nI_lt hi (by omega)
theorem dr_move {x far : Int32} {p : Nat → Bool} (hx : BS x p) (h : ∀ W', (∀ u, u < 20 → W' 214 u = mvX p far (W 214) u) → EqX [214] W W' → Q none W') : fl_cal (d + 2) 24 [.ref 213, .int x, .int far] W Q :=
  sx_24 _ _ W (dr_move_l hx 20 0 W W (by omega) (by omega) (fun u hu => by rw [if_neg (by omega)]) h)
theorem dr_put {v : Nat} {x y : Int32} (hv : v < 20) (h : ∀ W', W' 214 v = x → W' 215 v = y → (∀ u, u ≠ v → W' 214 u = W 214 u ∧ W' 215 u = W 215 u) → EqX [214, 215] W W' → Q none W') : fl_cal (d + 2) 18 [.ref 213, .int (nI v), .int x, .int y] W Q := by
  refine sx_18 _ _ _ W (st_can ?_)
  rw [ixB_N (by omega), decide_eq_true hv]
  refine ⟨fun z => absurd z (by decide), fun _ => ⟨in_N hv (by omega), fun W2 e2 => ⟨in_N hv (by omega), fun W3 e3 => ?_⟩⟩⟩
  rw [nI_clamp (by omega)] at e2 e3
  refine h W3 (by rw [e3, uw_n (by decide), e2, uw_s]) (by rw [e3, uw_s]) (fun u hu => ⟨by rw [e3, uw_n (by decide), e2, uw_m hu], by rw [e3, uw_m hu, e2, uw_n (by decide)]⟩) ?_
  rw [e3, e2]
  exact (EqX.uw (by simp)).tr (EqX.uw (by simp))
/-- the state while places are found -/
def DS (W : fl_W) (S line : List Nat) (s : PS) : Prop := RowR W 221 (nL line) ∧ (∀ u, u ∈ S → u < 20 ∧ W 214 u = s.1 u ∧ W 215 u = s.2.1 u) ∧ (∀ w, w ∈ line → w ∈ S ∧ BS (W 216 w) (s.2.2 w) ∧ ∀ u, s.2.2 w u = true → u ∈ S)
/-- first and last neighbour on the line -/
theorem dr_pq {line A M Z : List Nat} {v p n : Nat} (hb : fl_net b) (hN : NetR W b V es) (hv : v < V) (hrow : RowR W 221 (nL line)) (hl20 : ∀ w, w ∈ line → w < 20) (hll : line.length ≤ 20) (hline : line = A ++ p :: (Z ++ n :: M)) (hyes : ∀ w, w ∈ p :: (Z ++ [n]) → adj es v w = true) (hno : ∀ w, w ∈ A ∨ w ∈ M → adj es v w = false)
    (h : hd_22_8 (d + 2) Q b (nI v) (nI A.length) (nI (A.length + 1 + Z.length)) (nI line.length) W) : ∀ (k i : Nat), line.length - i = k → i ≤ line.length → hd_22_8 (d + 2) Q b (nI v) (if i ≤ A.length then -1 else nI A.length) (if i ≤ A.length then -1 else if i ≤ A.length + 1 + Z.length then nI (i - 1) else nI (A.length + 1 + Z.length)) (nI i) W := by
  have hlen : line.length = A.length + 1 + Z.length + 1 + M.length := by rw [hline]; simp; omega
  intro k
  induction k with
  | zero =>
    intro i h1 h2
    have hi : i = line.length := by omega
    rw [if_neg (by omega), if_neg (by omega)]
    by_cases e : i ≤ A.length + 1 + Z.length
    · omega
    · rw [if_neg e, hi]; exact h
  | succ k ih =>
    intro i h1 h2
    have hi : i < line.length := by omega
    have hw := hl20 _ (rAt_mem (rim := line) hi)
    have hadj : adj es v (rAt line i) = decide (A.length ≤ i ∧ i ≤ A.length + 1 + Z.length) := by
      have hg := rAt_get (rim := line) hi
      rw [hline] at hg
      by_cases e1 : i < A.length
      · rw [List.getElem?_append_left e1] at hg
        rw [← hline] at hg
        rw [hno _ (Or.inl (List.mem_of_getElem? hg))]
        simp; omega
      · rw [List.getElem?_append_right (by omega)] at hg
        rw [← hline] at hg
        by_cases e2 : i ≤ A.length + 1 + Z.length
        · have hm : rAt line i ∈ p :: (Z ++ [n]) := by
            have h5 : p :: (Z ++ n :: M) = (p :: (Z ++ [n])) ++ M := by simp
            rw [h5, List.getElem?_append_left (by simp; omega)] at hg
            exact List.mem_of_getElem? hg
          rw [hyes _ hm]
          simp; omega
        · have hm : rAt line i ∈ M := by
            have h5 : p :: (Z ++ n :: M) = (p :: (Z ++ [n])) ++ M := by simp
            rw [h5, List.getElem?_append_right (by simp; omega)] at hg
            exact List.mem_of_getElem? hg
          rw [hno _ (Or.inr hm)]
          simp; omega
    have nx := ih (i + 1) (by omega) (by omega)
    generalize hf : (if i ≤ A.length then (-1 : Int32) else nI A.length) = f
    generalize hg : (if i ≤ A.length then (-1 : Int32) else if i ≤ A.length + 1 + Z.length then nI (i - 1) else nI (A.length + 1 + Z.length)) = g
    refine sx_22_8 b _ _ _ _ W hb (row_size (r := 221) rfl hrow ⟨fun _ => row_get (r := 221) rfl hrow ?_, fun z => absurd ?_ z⟩)
    · rw [nL_rAt hi (by omega)]
      refine net_joined hb hN hv hw ?_
      rw [hadj, ci_1, nI_add]
      by_cases e : A.length ≤ i ∧ i ≤ A.length + 1 + Z.length
      · rw [decide_eq_true e]
        refine ⟨fun z => absurd z (by decide), fun _ => ⟨fun z => ?_, fun z => ?_⟩⟩
        · have hiA : i = A.length := by
            rw [← hf] at z
            by_cases q : i ≤ A.length
            · omega
            · rw [if_neg q] at z; exact absurd z (nI_nm (by omega))
          rw [if_neg (by omega), if_neg (by omega)] at nx
          by_cases q : i + 1 ≤ A.length + 1 + Z.length
          · rw [if_pos q, show i + 1 - 1 = i by omega] at nx
            rw [hiA] at nx ⊢; exact nx
          · rw [if_neg q] at nx
            have : i = A.length + 1 + Z.length := by omega
            omega
        · have hiA : ¬ i ≤ A.length := fun q => by rw [← hf, if_pos q] at z; exact z rfl
          rw [← hf, if_neg hiA]
          rw [if_neg (by omega), if_neg (by omega)] at nx
          by_cases q : i + 1 ≤ A.length + 1 + Z.length
          · rw [if_pos q, show i + 1 - 1 = i by omega] at nx; exact nx
          · rw [if_neg q] at nx
            have : i = A.length + 1 + Z.length := by omega
            rw [this] at nx ⊢
            exact nx
      · rw [decide_eq_false e]
        refine ⟨fun _ => ?_, fun z => absurd rfl z⟩
        rw [← hf, ← hg]
        by_cases q : i + 1 ≤ A.length
        · rw [if_pos (by omega), if_pos (by omega)]
          rw [if_pos q, if_pos q] at nx; exact nx
        · have hq : A.length + 1 + Z.length < i := by omega
          rw [if_neg (by omega), if_neg (by omega), if_neg (by omega)]
          rw [if_neg q, if_neg q, if_neg (by omega)] at nx; exact nx
    · rw [nL_len]; exact nI_lt hi (by omega)
def rsl : List Nat := [214, 215, 216, 221, 222, 223, 224]
/-- raise -/
theorem dr_raise {v : Nat} {rim rim' S : List Nat} {s : PS} (hb : fl_net b) (hN : NetR W b V es) (hv : v < V) (hvS : v ∉ S) (hlk : LK es v rim rim') (hD : DS W S rim' s) (h : ∀ W', DS W' (v :: S) rim (raQ v rim rim' s) → EqX rsl W W' → Q none W') : fl_cal (d + 4) 22 [.ref 213, .ref b, .int (nI v)] W Q := by
  have hV := hN.1
  have hlk' := hlk
  obtain ⟨A0, p0, n0, M0, Z0, -, -, -, -, u5, u6, u7, u8, u9⟩ := hlk'
  obtain ⟨A, p, n, M, Z, e1, e2, e3, e4, e5, e6, e7, e8, e9⟩ := hlk.at
  obtain ⟨hrow, hS, hln⟩ := hD
  have hll : rim'.length ≤ 20 := nd_le 20 u5 u9
  have hrl : rim.length ≤ 20 := nd_le 20 u7 u8
  have hlen : rim'.length = A.length + 1 + Z.length + 1 + M.length := by rw [e2]; simp; omega
  have hlen2 : rim.length = A.length + 3 + M.length := by rw [e1]; simp; omega
  have hpl : p ∈ rim' := by rw [e2]; simp
  have hnl : n ∈ rim' := by rw [e2]; simp
  have hp20 := u9 p hpl
  have hn20 := u9 n hnl
  have hpS := (hln p hpl).1
  have hnS := (hln n hnl).1
  have hpv : p ≠ v := fun e => hvS (e ▸ hpS)
  have hnv : n ≠ v := fun e => hvS (e ▸ hnS)
  have hK : ∀ w, w ∈ rim' → BS (W 216 w) (s.2.2 w) := fun w hw => (hln w hw).2.1
  have hi : rAt rim' A.length = p := by
    have h5 : rim'[A.length]? = some p := by rw [e2, List.getElem?_append_right (Nat.le_refl _)]; simp
    rw [rAt_get (by omega)] at h5
    exact Option.some.inj h5
  have hj : rAt rim' (A.length + 1 + Z.length) = n := by
    have h5 : rim'[A.length + 1 + Z.length]? = some n := by
      rw [e2, List.getElem?_append_right (by omega), show A.length + 1 + Z.length - A.length = Z.length + 1 by omega, List.getElem?_cons_succ, List.getElem?_append_right (Nat.le_refl _)]
      simp
    rw [rAt_get (by omega)] at h5
    exact Option.some.inj h5
  have hbl : ∀ u, (((rim'.drop (A.length + 1)).take (A.length + 1 + Z.length - (A.length + 1))).any fun w => s.2.2 w u) = blQ v rim rim' s u := fun u => by
    unfold blQ
    rw [e5]
    congr 2
    omega
  have hrg : ∀ u, (((rim'.drop (A.length + 1 + Z.length)).take (rim'.length - (A.length + 1 + Z.length))).any fun w => s.2.2 w u) = rgQ v rim s u := fun u => by
    unfold rgQ
    rw [e5, e9]
    congr 1
    rw [List.take_of_length_le (by rw [List.length_drop]; exact Nat.le_refl _), e2, show A ++ p :: (Z ++ n :: M) = (A ++ p :: Z) ++ n :: M by simp, List.drop_append_of_le_length (by simp; omega)]
    rw [List.drop_eq_nil_of_le (by simp; omega)]
    rfl
  refine sx_22 b _ W hb ?_
  have start := dr_pq (d := d + 1) (Q := Q) (line := rim') hb hN hv hrow u9 hll e2 e3 e4 ?_ rim'.length 0 (by omega) (Nat.zero_le _)
  · rw [if_pos (Nat.zero_le _), if_pos (Nat.zero_le _)] at start
    exact start
  refine sx_22_8 b _ _ _ _ W hb (row_size (r := 221) rfl hrow ⟨fun z => absurd z ?_, fun _ => ?_⟩)
  · rw [nL_len]; exact nI_nlt (Nat.le_refl _) (by omega)
  rw [ci_1, nI_add]
  refine dr_carry (K := s.2.2) hrow u9 hK (by omega) hll (by omega) fun y hy => ?_
  have hy' : BS y (blQ v rim rim' s) := hy.congr fun u _ => hbl u
  refine dr_move hy' fun W3 m1 m2 => ?_
  have hrow3 := hrow.fr m2 (by decide) (by decide)
  refine row_size (r := 221) rfl hrow3 ?_
  rw [nL_len]
  have hK3 : ∀ w, w ∈ rim' → BS (W3 216 w) (s.2.2 w) := fun w hw => by rw [m2 216 (by decide)]; exact hK w hw
  refine dr_carry (K := s.2.2) hrow3 u9 hK3 (Nat.le_refl _) hll (by omega) fun z hz => ?_
  have hz' : BS z (rgQ v rim s) := hz.congr fun u _ => hrg u
  refine dr_move hz' fun W6 k1 k2 => ?_
  have f6 : EqX [214] W W6 := m2.tr k2
  have hrow6 := hrow.fr f6 (by decide) (by decide)
  -- the places now
  have hX : ∀ u, u ∈ S → W6 214 u = x2Q v rim rim' s u := fun u hu => by
    obtain ⟨o1, o2, -⟩ := hS u hu
    rw [k1 u o1]
    unfold x2Q mvX
    rw [m1 u o1]
    unfold mvX
    rw [o2]
    rfl
  have hY : ∀ u, u ∈ S → W6 215 u = s.2.1 u := fun u hu => by rw [f6 215 (by decide)]; exact (hS u hu).2.2
  refine row_get (r := 221) rfl hrow6 ?_
  rw [nL_rAt (by omega) (by omega), hi]
  refine row_get (r := 221) rfl hrow6 ?_
  rw [nL_rAt (by omega) (by omega), hj]
  refine sx_25 _ _ _ W6 (st_can ?_)
  rw [ixB_N (by omega), decide_eq_true hp20]
  refine ⟨fun w => absurd w (by decide), fun _ => st_can ?_⟩
  rw [ixB_N (by omega), decide_eq_true hn20]
  refine ⟨fun w => absurd w (by decide), fun _ => ?_⟩
  have ip : vp_in (nI p) 20 := in_N hp20 (by omega)
  have iq : vp_in (nI n) 20 := in_N hn20 (by omega)
  refine ⟨ip, iq, iq, ip, iq, ip, ip, iq, ?_⟩
  rw [nI_clamp (show p < 2 ^ 31 by omega), nI_clamp (show n < 2 ^ 31 by omega), hX p hpS, hX n hnS, hY p hpS, hY n hnS]
  refine dr_put (by omega) fun W9 q1 q2 q3 q4 => ?_
  refine st_can ?_
  rw [ixB_N (by omega), decide_eq_true (show v < 20 by omega)]
  refine ⟨fun w => absurd w (by decide), fun _ => st_bit ⟨in_N (by omega) (by omega), fun W18 e18 => ?_⟩⟩
  rw [nI_clamp (by omega)] at e18
  have f18 : EqX [214, 215, 216] W W18 := ((f6.mono (by decide)).tr (q4.mono (by decide))).tr (by rw [e18]; exact EqX.uw (by simp))
  have hrow18 := hrow.fr f18 (by decide) (by decide)
  refine row_clear (r := 223) rfl fun W19 r19 f19 => ?_
  have hrow19 := hrow18.fr f19 (by decide) (by decide)
  refine row_part (r := 223) (s := 221) (ys := nL rim') (a := 0) (b := A.length + 1) rfl rfl (by decide) (Nat.zero_le _) (by rw [nL_len]; omega) hrow19 r19 (by show _ ≤ 20; simp; omega) fun W20 r20 f20 => ?_
  refine row_add (r := 223) rfl r20 (by rw [List.length_append, List.length_take, List.length_drop, nL_len]; show _ < 20; simp; omega) fun W21 r21 f21 => ?_
  have hrow21 := (hrow19.fr f20 (by decide) (by decide)).fr f21 (by decide) (by decide)
  refine row_size (r := 221) rfl hrow21 ?_
  rw [nL_len]
  refine row_part (r := 223) (s := 221) (ys := nL rim') (a := A.length + 1 + Z.length) (b := rim'.length) rfl rfl (by decide) (by omega) (by rw [nL_len]; exact Nat.le_refl _) hrow21 r21 (by simp only [List.length_append, List.length_take, List.length_drop, nL_len, List.length_singleton, List.length_nil]; show _ ≤ 20; omega) fun W22 r22 f22 => ?_
  have hres : ([] ++ ((nL rim').drop 0).take (A.length + 1 - 0) ++ [nI v] ++ ((nL rim').drop (A.length + 1 + Z.length)).take (rim'.length - (A.length + 1 + Z.length))) = nL rim := by
    have h1 : ((nL rim').drop 0).take (A.length + 1 - 0) = nL (A ++ [p]) := by
      rw [List.drop_zero, Nat.sub_zero, e2]
      unfold nL
      rw [← List.map_take]
      congr 1
      rw [show A ++ p :: (Z ++ n :: M) = (A ++ [p]) ++ (Z ++ n :: M) by simp, List.take_append_of_le_length (by simp), List.take_of_length_le (by simp)]
    have h2 : ((nL rim').drop (A.length + 1 + Z.length)).take (rim'.length - (A.length + 1 + Z.length)) = nL (n :: M) := by
      rw [List.take_of_length_le (by rw [List.length_drop, nL_len]; exact Nat.le_refl _), e2]
      unfold nL
      rw [← List.map_drop]
      congr 1
      rw [show A ++ p :: (Z ++ n :: M) = (A ++ p :: Z) ++ n :: M by simp, List.drop_append_of_le_length (by simp; omega), List.drop_eq_nil_of_le (by simp; omega)]
      rfl
    rw [h1, h2, e1]
    simp [nL]
  rw [hres] at r22
  refine row_copy (r := 221) (s := 223) rfl rfl (by decide) r22 (by rw [nL_len]; exact hrl) fun W24 r24 f24 => ?_
  have fB : EqX [221, 222, 223, 224] W18 W24 := ((((f19.mono (by decide)).tr (f20.mono (by decide))).tr (f21.mono (by decide))).tr (f22.mono (by decide))).tr (f24.mono (by decide))
  have g214 : W24 214 = W9 214 := by rw [fB 214 (by decide), e18, uw_n (by decide)]
  have g215 : W24 215 = W9 215 := by rw [fB 215 (by decide), e18, uw_n (by decide)]
  have g216 : W24 216 = upd (W 216) v (y ||| bitI (nI v)) := by
    rw [fB 216 (by decide), e18]
    have : W9 216 = W 216 := by rw [q4 216 (by decide), f6 216 (by decide)]
    simp [fl_uw, this]
  have hra : raQ v rim rim' s = (fun u => if u = v then (x2Q v rim rim' s p + x2Q v rim rim' s n + s.2.1 n - s.2.1 p) / Int32.ofInt 2 else x2Q v rim rim' s u, fun u => if u = v then (x2Q v rim rim' s n - x2Q v rim rim' s p + s.2.1 p + s.2.1 n) / Int32.ofInt 2 else s.2.1 u, fun w u => if w = v then (blQ v rim rim' s u || decide (u = v)) else s.2.2 w u) := by
    unfold raQ
    rw [e5, e6, e7]
  refine h W24 ?_ ((f18.mono (by decide)).tr (fB.mono (by decide)))
  rw [hra]
  refine ⟨r24, fun u hu => ?_, fun w hw => ?_⟩
  · rw [g214, g215]
    rcases List.mem_cons.mp hu with e | e
    · subst e
      simp only [if_true]
      exact ⟨by omega, q1, q2⟩
    · have hne : u ≠ v := fun z => hvS (z ▸ e)
      simp only [if_neg hne]
      obtain ⟨o1, o2⟩ := q3 u hne
      exact ⟨(hS u e).1, by rw [o1]; exact hX u e, by rw [o2]; exact hY u e⟩
  · rw [g216]
    by_cases e : w = v
    · subst e
      simp only [if_true]
      refine ⟨by simp, ?_, fun u hu => ?_⟩
      · simp only [upd, if_true]
        exact hy'.or (BS.bit (by omega))
      · rw [Bool.or_eq_true, decide_eq_true_eq] at hu
        rcases hu with q | q
        · unfold blQ at q
          obtain ⟨x, x1, x2⟩ := List.any_eq_true.mp q
          exact List.mem_cons_of_mem _ ((hln x (List.drop_subset _ _ (List.take_subset _ _ x1))).2.2 u x2)
        · rw [q]; simp
    · have hwr : w ∈ rim' := by
        rw [e1] at hw
        rw [e2]
        simp only [List.mem_append, List.mem_cons] at hw ⊢
        rcases hw with q | q | q | q | q
        · exact Or.inl q
        · exact Or.inr (Or.inl q)
        · exact absurd q e
        · exact Or.inr (Or.inr (Or.inr (Or.inl q)))
        · exact Or.inr (Or.inr (Or.inr (Or.inr q)))
      simp only [if_neg e]
      obtain ⟨o1, o2, o3⟩ := hln w hwr
      refine ⟨List.mem_cons_of_mem _ o1, ?_, fun u hu => List.mem_cons_of_mem _ (o3 u hu)⟩
      simp only [upd, if_neg e]
      exact o2
end DRD
