/-! ===== Drawing of the class: the order ===== -/
def drl : List Nat := [213, 214, 215, 216, 217, 218, 219, 220, 221, 222, 223, 224]
theorem net_drl {b : Nat} (hb : fl_net b) : ∀ a ∈ nl b, a ∉ drl := by
  intro a ha hc
  simp only [nl, drl, List.mem_cons, List.not_mem_nil, or_false] at ha hc
  have h1 := net_bases b (fl_lt hb) hb
  omega
theorem tur_drl {t : Nat} (ht : fl_tur t) : ∀ a ∈ tl t, a ∉ drl := by
  intro a ha hc
  rw [mem_tl] at ha
  simp only [drl, List.mem_cons, List.not_mem_nil, or_false] at hc
  have h1 := tur_bases t (fl_lt ht) ht
  omega
theorem cd_nxt {l : List Nat} (hn : l.Nodup) {x z : Nat} (h : (x, z) ∈ cd l) : nxtN l x = z := by
  have hx := (cd_in h).1
  have hl := List.idxOf_lt_length_of_mem hx
  have h1 := cd_get hl (idx_at hx) (nxtN_at hx)
  exact (cd_fun hn h (List.mem_of_getElem? h1)).symm
section DRC
variable {d : Nat} {Q : fl_R} {W : fl_W} {V b t : Nat} {es : gE} {rs : List (List Nat)} {R : Nat → List Nat} {rim : List Nat}
theorem dr_start {x y z : Nat} (h : ∀ W', RowR W' 221 (nL [x, y, z]) → EqX [221, 222] W W' → Q none W') : fl_cal (d + 2) 17 [.ref 213, .int (nI x), .int (nI y), .int (nI z)] W Q := by
  refine sx_17 _ _ _ W (row_clear (r := 221) rfl fun W1 r1 f1 => row_add (r := 221) rfl r1 (by decide) fun W2 r2 f2 => row_add (r := 221) rfl r2 (by show 1 < 20; omega) fun W3 r3 f3 => row_add (r := 221) rfl r3 (by show 2 < 20; omega) fun W4 r4 f4 => ?_)
  exact h W4 r4 (((f1.tr f2).tr f3).tr f4)
theorem nI_sub1 {i : Nat} (h : 1 ≤ i) : nI i - Int32.ofInt 1 = nI (i - 1) := by
  have : nI i = nI (i - 1) + nI 1 := by rw [nI_add]; congr 1; omega
  rw [this, ci_1]
  exact Int32.add_sub_cancel _ _
theorem nL_rAt {i : Nat} (h : i < rim.length) (h31 : i < 2 ^ 31) : getI (nL rim) (nI i) = nI (rAt rim i) := getI_at h31 (nL_at (rAt_get h))
/-- findFree -/
theorem dr_free_l {x : Int32} (hb : fl_net b) (hN : NetR W b V es) (hrow : RowR W 221 (nL rim)) (hn : rim.Nodup) (hV : ∀ y, y ∈ rim → y < V) (hlen : 3 ≤ rim.length) (hx : BS x (fun v => rim.contains v)) : ∀ (n i : Nat), rim.length - 1 - i = n → 1 ≤ i → i ≤ rim.length - 1 → Q (some (.int (optI (pkF es rim (rim.length - 1))))) W → hd_20_13 (d + 1) Q b x (optI (pkF es rim i)) (nI i) W := by
  have h20 := hN.1
  have hO := hN.2.2.1
  have hl20 : rim.length ≤ 20 := nd_le 20 hn fun y hy => by have := hV y hy; omega
  intro n
  induction n with
  | zero =>
    intro i h1 h2 h3 h
    have hi : i = rim.length - 1 := by omega
    refine sx_20_13 b _ _ _ W hb (row_size (r := 221) rfl hrow ⟨fun z => absurd z ?_, fun _ => ?_⟩)
    · rw [nL_len, nI_sub1 (by omega)]; exact nI_nlt (by omega) (by omega)
    · rw [hi]; exact h
  | succ n ih =>
    intro i h1 h2 h3 h
    have hi : i + 1 < rim.length := by omega
    have hv := hV _ (rAt_mem (rim := rim) (t := i) (by omega))
    have hp := hV _ (rAt_mem (rim := rim) (t := i - 1) (by omega))
    have hnx := hV _ (rAt_mem (rim := rim) (t := i + 1) hi)
    refine sx_20_13 b _ _ _ W hb (row_size (r := 221) rfl hrow ⟨fun _ => ?_, fun z => absurd ?_ z⟩)
    · refine row_get (r := 221) rfl hrow ?_
      rw [nI_sub1 h2, nL_rAt (by omega) (by omega)]
      refine st_bit (row_get (r := 221) rfl hrow ?_)
      rw [ci_1, nI_add, nL_rAt hi (by omega)]
      refine st_bit (row_get (r := 221) rfl hrow ?_)
      rw [nL_rAt (by omega) (by omega)]
      refine net_around hb hN hv fun y hy => ?_
      -- free as told
      have hiff : ((y &&& x) &&& ((bitI (nI (rAt rim (i - 1))) ||| bitI (nI (rAt rim (i + 1)))) ^^^ (Int32.ofInt (-1)))) = 0 ↔ frP es rim i = true := by
        rw [ci_m, ((hy.and hx.lo).and ((BS.bit (by omega)).or (BS.bit (by omega))).lo.not).z, frP_iff]
        constructor
        · intro z l hl hd
          have hw := hV _ (rAt_mem (rim := rim) (t := l) hl)
          have := z (rAt rim l) (by omega)
          have e1 : rAt rim l ≠ rAt rim (i - 1) := fun e => by have := rAt_inj hn hl (by omega) e; omega
          have e2 : rAt rim l ≠ rAt rim (i + 1) := fun e => by have := rAt_inj hn hl hi e; omega
          have e3 : rim.contains (rAt rim l) = true := by simpa using rAt_mem hl
          rw [adj_sym]
          rw [e3, decide_eq_false e1, decide_eq_false e2] at this
          simpa using this
        · intro z w hw
          cases ha : adj es (rAt rim i) w with
          | false => rfl
          | true =>
            cases hc : rim.contains w with
            | false => rfl
            | true =>
              have hwm : w ∈ rim := by simpa using hc
              obtain ⟨l, hl⟩ := List.getElem?_of_mem hwm
              have hll := (List.getElem?_eq_some_iff.mp hl).1
              rw [rAt_get hll] at hl
              have hwl : rAt rim l = w := Option.some.inj hl
              by_cases e : l + 2 ≤ i ∨ i + 2 ≤ l
              · have := z l hll e
                rw [hwl, adj_sym, ha] at this; cases this
              · have : l = i ∨ l = i - 1 ∨ l = i + 1 := by omega
                rcases this with q | q | q
                · rw [← hwl, q] at ha
                  exact absurd rfl (adj_lt hO ha).2.2
                · rw [← hwl, q]; simp
                · rw [← hwl, q]; simp
      have hpk : pkF es rim (i + 1) = if decide (1 ≤ i) && frP es rim i then (match pkF es rim i with | none => some i | some b => if rAt rim i < rAt rim b then some i else some b) else pkF es rim i := by
        rw [pkF]
        cases pkF es rim i <;> rfl
      rw [decide_eq_true h2, Bool.true_and] at hpk
      refine ⟨fun z => ⟨fun w => absurd w (by decide), fun _ => ?_⟩, fun z => ⟨fun _ => ?_, fun w => absurd rfl w⟩⟩
      · rw [hiff.mp z, if_pos rfl] at hpk
        cases hb0 : pkF es rim i with
        | none =>
          rw [hb0] at hpk
          have := ih (i + 1) (by omega) (by omega) (by omega) h
          rw [hpk] at this
          exact ⟨fun _ => this, fun w => absurd rfl w⟩
        | some c =>
          rw [hb0] at hpk
          obtain ⟨c1, c2, -⟩ := (pkF_sp i).1 c hb0
          have := ih (i + 1) (by omega) (by omega) (by omega) h
          rw [hpk] at this
          refine ⟨fun w => absurd w (nI_nm (by omega)), fun _ => row_get (r := 221) rfl hrow (row_get (r := 221) rfl hrow ?_)⟩
          show mi_br (getI (nL rim) (nI i) < getI (nL rim) (nI c)) _ _
          have hcV := hV _ (rAt_mem (rim := rim) (t := c) (by omega))
          rw [nL_rAt (by omega) (by omega), nL_rAt (by omega) (by omega)]
          refine ⟨fun w => ?_, fun w => ?_⟩
          · rw [nI_ltI (by omega) (by omega)] at w
            simp only [if_pos w] at this
            exact this
          · rw [nI_ltI (by omega) (by omega)] at w
            simp only [if_neg w] at this
            exact this
      · have hf : frP es rim i = false := by
          cases hh : frP es rim i with
          | false => rfl
          | true => exact absurd (hiff.mpr hh) z
        rw [hf] at hpk
        have := ih (i + 1) (by omega) (by omega) (by omega) h
        rw [hpk] at this
        exact this
    · rw [nL_len, nI_sub1 (by omega)]; exact nI_lt (by omega) (by omega)
theorem dr_free (hb : fl_net b) (hN : NetR W b V es) (hrow : RowR W 221 (nL rim)) (hn : rim.Nodup) (hV : ∀ y, y ∈ rim → y < V) (hlen : 3 ≤ rim.length) (h : Q (some (.int (optI (pkF es rim (rim.length - 1))))) W) : fl_cal (d + 3) 20 [.ref 213, .ref b] W Q := by
  have h20 := hN.1
  refine sx_20 b W hb (row_bits (r := 221) rfl hrow ?_)
  have hx : BS (bitsL (nL rim) 0) (fun v => rim.contains v) := (bitsL_BS BS.zero fun y hy => by have := hV y hy; omega).congr fun v _ => Bool.false_or _
  have h1 : pkF es rim 1 = none := by rw [pkF]; rfl
  have := dr_free_l (d := d + 1) (Q := Q) hb hN hrow hn hV hlen hx (rim.length - 2) 1 (by omega) (by omega) (by omega) h
  rw [h1] at this
  exact this
/-- takeFromRim -/
theorem dr_take_l {ti v n : Nat} {l : List Nat} (ht : fl_tur t) (hv : v < 20) (hRv : (R v).Nodup) (hRl : ∀ y, y ∈ R v → y < 20) (hti : ti + 1 < rim.length) (hr20 : ∀ y, y ∈ rim → y < 20) (hrl : rim.length ≤ 20) : ∀ (rest : List Nat) (cur k : Nat) (W : fl_W) (l : List Nat), k + rest.length < 20 → RowR W 221 (nL rim) → RowR W 223 (nL l) → TurR W t R → (∀ u w, (u, w) ∈ pd (cur :: (rest ++ [n])) → nxtN (R v) u = w ∧ u ∈ R v) → n ∉ cur :: rest → (∀ y, y ∈ cur :: rest → y < 20) → n < 20 → l.length + rest.length + 1 + (rim.length - (ti + 1)) ≤ 20 →
    (∀ W', RowR W' 221 (nL (l ++ cur :: rest ++ rim.drop (ti + 1))) → EqX [221, 222, 223, 224] W W' → Q none W') → hd_21_61 (d + 2) Q t (nI ti) (nI v) (nI n) (nI cur) (nI k) W := by
  have fin : ∀ (W : fl_W) (l : List Nat), RowR W 221 (nL rim) → RowR W 223 (nL l) → l.length + (rim.length - (ti + 1)) ≤ 20 → (∀ W', RowR W' 221 (nL (l ++ rim.drop (ti + 1))) → EqX [221, 222, 223, 224] W W' → Q none W') → fl_cal (d + 2) 63 [.ref 221] W (fl_q1 fun x6 W10 => fl_cal (d + 2) 71 [.ref 223, .ref 221, .int (nI ti + (Int32.ofInt 1)), .int x6] W10 (fl_q0 fun W11 => fl_cal (d + 2) 70 [.ref 221, .ref 223] W11 (fl_q0 fun W12 => Q none W12))) := by
    intro W l hrow h223 hl h
    refine row_size (r := 221) rfl hrow ?_
    rw [nL_len]
    show fl_cal (d + 2) 71 [.ref 223, .ref 221, .int (nI ti + (Int32.ofInt 1)), .int (nI rim.length)] W _
    rw [ci_1, nI_add]
    refine row_part (r := 223) (s := 221) rfl rfl (by decide) (by omega) (by rw [nL_len]; exact Nat.le_refl _) hrow h223 (by rw [nL_len]; show _ ≤ 20; omega) fun W1 r1 f1 => ?_
    have hd : nL l ++ ((nL rim).drop (ti + 1)).take (rim.length - (ti + 1)) = nL (l ++ rim.drop (ti + 1)) := by
      rw [nL_app]
      congr 1
      rw [List.take_of_length_le (by rw [List.length_drop, nL_len]; exact Nat.le_refl _)]
      simp [nL, List.map_drop]
    rw [hd] at r1
    refine row_copy (r := 221) (s := 223) rfl rfl (by decide) r1 (by rw [nL_len, List.length_append, List.length_drop]; show _ ≤ 20; omega) fun W2 r2 f2 => ?_
    exact h W2 r2 ((f1.mono (by decide)).tr (f2.mono (by decide)))
  intro rest
  induction rest with
  | nil =>
    intro cur k W l hk hrow h223 hT hnx hnc hc20 hn20 hl h
    have hcn : cur ≠ n := fun e => hnc (by rw [e]; simp)
    have hcu := hc20 cur (by simp)
    obtain ⟨e1, e2⟩ := hnx cur n (by simp [pd])
    simp only [List.length_nil] at hk hl
    refine sx_21_61 t _ _ _ _ _ W ht ⟨fun _ => ⟨fun z => absurd ((nI_eq (by omega) (by omega)).mp z) hcn, fun _ => ⟨fun z => absurd z (nI_nm (by omega)), fun _ => ?_⟩⟩, fun z => absurd ?_ z⟩
    · refine row_add (r := 223) rfl h223 (by rw [nL_len]; show _ < 20; omega) fun W1 r1 f1 => ?_
      have hT1 := hT.fr f1 (fun a ha hc => tur_drl ht a ha (by simp at hc; rcases hc with e | e <;> rw [e] <;> decide))
      refine tur_behind ht hT1 hv hRl e2 ?_
      rw [e1]
      show hd_21_61 (d + 2) Q t (nI ti) (nI v) (nI n) (nI n) (nI k + Int32.ofInt 1) W1
      rw [ci_1, nI_add]
      have hrow1 := hrow.fr f1 (by decide) (by decide)
      have r1' : RowR W1 223 (nL (l ++ [cur])) := by rw [nL_app]; exact r1
      have hfin := fin W1 (l ++ [cur]) hrow1 r1' (by simp; omega) fun W' j1 j2 => h W' (by simpa using j1) ((f1.mono (by decide)).tr j2)
      exact sx_21_61 t _ _ _ _ _ W1 ht ⟨fun _ => ⟨fun _ => hfin, fun z => absurd rfl z⟩, fun _ => hfin⟩
    · rw [cb_20]; exact nI_lt (by omega) (by omega)
  | cons u rest ih =>
    intro cur k W l hk hrow h223 hT hnx hnc hc20 hn20 hl h
    have hcn : cur ≠ n := fun e => hnc (by rw [e]; simp)
    have hcu := hc20 cur (by simp)
    obtain ⟨e1, e2⟩ := hnx cur u (by simp [pd])
    simp only [List.length_cons] at hk hl
    refine sx_21_61 t _ _ _ _ _ W ht ⟨fun _ => ⟨fun z => absurd ((nI_eq (by omega) (by omega)).mp z) hcn, fun _ => ⟨fun z => absurd z (nI_nm (by omega)), fun _ => ?_⟩⟩, fun z => absurd ?_ z⟩
    · refine row_add (r := 223) rfl h223 (by rw [nL_len]; show _ < 20; omega) fun W1 r1 f1 => ?_
      have hT1 := hT.fr f1 (fun a ha hc => tur_drl ht a ha (by simp at hc; rcases hc with e | e <;> rw [e] <;> decide))
      refine tur_behind ht hT1 hv hRl e2 ?_
      rw [e1]
      show hd_21_61 (d + 2) Q t (nI ti) (nI v) (nI n) (nI u) (nI k + Int32.ofInt 1) W1
      rw [ci_1, nI_add]
      have r1' : RowR W1 223 (nL (l ++ [cur])) := by rw [nL_app]; exact r1
      refine ih u (k + 1) W1 (l ++ [cur]) (by omega) (hrow.fr f1 (by decide) (by decide)) r1' hT1 (fun a w haw => hnx a w (by rw [List.cons_append, pd]; exact List.mem_cons_of_mem _ haw)) (fun z => hnc (List.mem_cons_of_mem _ z)) (fun y hy => hc20 y (List.mem_cons_of_mem _ hy)) hn20 (by simp; omega) fun W' j1 j2 => h W' (by simpa using j1) ((f1.mono (by decide)).tr j2)
    · rw [cb_20]; exact nI_lt (by omega) (by omega)
theorem dr_take {ti : Nat} {Wd : List Nat} (ht : fl_tur t) (hT : TurR W t R) (hTok : ∀ y, (R y).Nodup ∧ ∀ x, x ∈ R y → x < 20) (hrow : RowR W 221 (nL rim)) (h1 : 1 ≤ ti) (h2 : ti + 1 < rim.length) (hr20 : ∀ y, y ∈ rim → y < 20) (hrn : rim.Nodup) (hrot : rotN (R (rAt rim ti)) (rAt rim (ti - 1)) = rAt rim (ti - 1) :: (secZ (R (rAt rim ti)) (rAt rim (ti - 1)) (rAt rim (ti + 1)) ++ rAt rim (ti + 1) :: Wd)) (hrotn : (rAt rim (ti - 1) :: (secZ (R (rAt rim ti)) (rAt rim (ti - 1)) (rAt rim (ti + 1)) ++ rAt rim (ti + 1) :: Wd)).Nodup) (hlen : (rimS R rim ti).length ≤ 20) (h : ∀ W', RowR W' 221 (nL (rimS R rim ti)) → EqX [221, 222, 223, 224] W W' → Q none W') : fl_cal (d + 3) 21 [.ref 213, .ref t, .int (nI ti)] W Q := by
  have hrl : rim.length ≤ 20 := nd_le 20 hrn hr20
  have hv := hr20 _ (rAt_mem (rim := rim) (t := ti) (by omega))
  have hn := hr20 _ (rAt_mem (rim := rim) (t := ti + 1) h2)
  unfold rimS at h hlen
  generalize hZ : secZ (R (rAt rim ti)) (rAt rim (ti - 1)) (rAt rim (ti + 1)) = Z at *
  generalize hvv : rAt rim ti = v at *
  generalize hpp : rAt rim (ti - 1) = p at *
  generalize hnn : rAt rim (ti + 1) = n at *
  have hpR : p ∈ R v := mem_rotN.mp (by rw [hrot]; simp)
  have hnx : ∀ u w, (u, w) ∈ pd (p :: (Z ++ [n])) → nxtN (R v) u = w ∧ u ∈ R v := fun u w huw => by
    have hc : (u, w) ∈ cd (R v) := by
      refine rotN_cd (x := p).mem_iff.mp ?_
      rw [hrot]
      show (u, w) ∈ pd (p :: (Z ++ n :: Wd ++ [p]))
      rw [show p :: (Z ++ n :: Wd ++ [p]) = (p :: Z) ++ n :: (Wd ++ [p]) by simp, pd_cat]
      exact List.mem_append_left _ huw
    exact ⟨cd_nxt (hTok v).1 hc, (cd_in hc).1⟩
  have hnd := hrotn
  rw [List.nodup_cons, List.nodup_append] at hnd
  have hlz : rim.length + Z.length ≤ 21 := by
    simp only [List.length_append, List.length_take, List.length_drop] at hlen
    omega
  refine sx_21 t _ W ht (row_get (r := 221) rfl hrow ?_)
  rw [nL_rAt (by omega) (by omega), hvv]
  refine row_get (r := 221) rfl hrow ?_
  rw [ci_1, nI_add, nL_rAt h2 (by omega), hnn]
  refine row_get (r := 221) rfl hrow ?_
  have hs1 : nI ti - nI 1 = nI (ti - 1) := nI_sub1 h1
  rw [hs1, nL_rAt (by omega) (by omega), hpp]
  obtain ⟨w0, hw0⟩ := pd_succ (l := Z) (x := p) (w := n) (z := p) (by simp)
  obtain ⟨e1, -⟩ := hnx p w0 hw0
  refine tur_behind ht hT hv (hTok v).2 hpR ?_
  rw [e1]
  refine row_clear (r := 223) rfl fun W5 r5 f5 => ?_
  have hrow5 := hrow.fr f5 (by decide) (by decide)
  refine row_part (r := 223) (s := 221) (ys := nL rim) (a := 0) (b := ti) rfl rfl (by decide) (Nat.zero_le _) (by rw [nL_len]; omega) hrow5 r5 (by show _ ≤ 20; simp; omega) fun W6 r6 f6 => ?_
  have hr6 : RowR W6 223 (nL (rim.take ti)) := by
    have : ([] : List Int32) ++ ((nL rim).drop 0).take (ti - 0) = nL (rim.take ti) := by simp [nL, List.map_take]
    rw [this] at r6; exact r6
  have hrow6 := hrow5.fr f6 (by decide) (by decide)
  have fA : EqX [221, 222, 223, 224] W W6 := (f5.mono (by decide)).tr (f6.mono (by decide))
  have hT6 := hT.fr fA (fun a ha hc => tur_drl ht a ha (by simp at hc; rcases hc with e | e | e | e <;> rw [e] <;> decide))
  show hd_21_61 (d + 2) Q t (nI ti) (nI v) (nI n) (nI w0) (Int32.ofInt 0) W6
  rw [ci_0]
  cases hZ' : Z with
  | nil =>
    rw [hZ'] at hw0 h
    have hw : w0 = n := by
      have : (p, w0) = (p, n) := by simpa [pd] using hw0
      rw [Prod.mk.injEq] at this; exact this.2
    rw [hw]
    -- the end at once
    have hfin : fl_cal (d + 2) 63 [.ref 221] W6 (fl_q1 fun x6 W10 => fl_cal (d + 2) 71 [.ref 223, .ref 221, .int (nI ti + (Int32.ofInt 1)), .int x6] W10 (fl_q0 fun W11 => fl_cal (d + 2) 70 [.ref 221, .ref 223] W11 (fl_q0 fun W12 => Q none W12))) := by
      refine row_size (r := 221) rfl hrow6 ?_
      rw [nL_len]
      show fl_cal (d + 2) 71 [.ref 223, .ref 221, .int (nI ti + (Int32.ofInt 1)), .int (nI rim.length)] W6 _
      rw [ci_1, nI_add]
      refine row_part (r := 223) (s := 221) rfl rfl (by decide) (by omega) (by rw [nL_len]; exact Nat.le_refl _) hrow6 hr6 (by rw [nL_len, List.length_take]; show _ ≤ 20; omega) fun W1 r1 f1 => ?_
      have hd : nL (rim.take ti) ++ ((nL rim).drop (ti + 1)).take (rim.length - (ti + 1)) = nL (rim.take ti ++ [] ++ rim.drop (ti + 1)) := by
        rw [List.append_nil, nL_app]
        congr 1
        rw [List.take_of_length_le (by rw [List.length_drop, nL_len]; exact Nat.le_refl _)]
        simp [nL, List.map_drop]
      rw [hd] at r1
      refine row_copy (r := 221) (s := 223) rfl rfl (by decide) r1 (by rw [nL_len]; simp; show _ ≤ 20; omega) fun W2 r2 f2 => ?_
      exact h W2 r2 ((fA.tr (f1.mono (by decide))).tr (f2.mono (by decide)))
    exact sx_21_61 t _ _ _ _ _ W6 ht ⟨fun _ => ⟨fun _ => hfin, fun z => absurd rfl z⟩, fun _ => hfin⟩
  | cons u rest =>
    rw [hZ'] at hw0 h hnx hnd hlz
    have hw : w0 = u := pd_fun (l := p :: (u :: rest ++ [n])) (by
      have h8 : p :: (u :: rest ++ n :: Wd) = (p :: (u :: rest ++ [n])) ++ Wd := by simp
      rw [hZ', h8, List.nodup_append] at hrotn
      exact hrotn.1) hw0 (by simp [pd])
    rw [hw]
    simp only [List.length_cons] at hlz
    refine dr_take_l (l := []) ht hv (hTok v).1 (hTok v).2 h2 hr20 hrl rest u 0 W6 (rim.take ti) (by omega) hrow6 hr6 hT6 (fun a w haw => hnx a w (by rw [List.cons_append, pd]; exact List.mem_cons_of_mem _ haw)) (fun z => hnd.2.2.2 n z n (by simp) rfl) (fun y hy => ?_) hn (by rw [List.length_take]; omega) fun W' j1 j2 => h W' j1 (fA.tr j2)
    exact (hTok v).2 y (mem_rotN.mp (by rw [hrot, hZ']; simp only [List.mem_cons, List.mem_append] at hy ⊢; rcases hy with q | q <;> simp [q]))
end DRC
