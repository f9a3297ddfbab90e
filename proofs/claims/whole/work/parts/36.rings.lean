/-! ===== the rings ===== -/
def arcN : List Nat → Nat → List Nat
  | [], _ => []
  | z :: l, x => if z = x then [z] else z :: arcN l x
theorem arcL_N : ∀ {l : List Nat} {x : Nat}, x < 2 ^ 31 → (∀ y ∈ l, y < 2 ^ 31) → arcL (nL l) (nI x) = nL (arcN l x)
  | [], _, _, _ => rfl
  | y :: l, x, hx, hl => by
    show (if nI y = nI x then [nI y] else nI y :: arcL (nL l) (nI x)) = nL (if y = x then [y] else y :: arcN l x)
    by_cases e : y = x
    · rw [if_pos (by rw [e]), if_pos e]; rfl
    · rw [if_neg (nI_ne (hl y List.mem_cons_self) hx e), if_neg e, arcL_N hx fun z hz => hl z (List.mem_cons_of_mem _ hz)]
      rfl
theorem arcN_sub : ∀ {l : List Nat} {x : Nat}, (arcN l x).Sublist l
  | [], _ => List.Sublist.refl _
  | y :: l, x => by
    rw [arcN]
    split
    · exact List.Sublist.cons_cons _ (List.nil_sublist _)
    · exact List.Sublist.cons_cons _ arcN_sub
theorem arcN_len {l : List Nat} {x : Nat} : (arcN l x).length ≤ l.length := arcN_sub.length_le
/-- the ring from a on -/
def rotN (l : List Nat) (a : Nat) : List Nat := l.drop (l.idxOf a) ++ l.take (l.idxOf a)
theorem rotN_len {l : List Nat} {a : Nat} : (rotN l a).length = l.length := by simp [rotN]; omega
theorem mem_rotN {l : List Nat} {a x : Nat} : x ∈ rotN l a ↔ x ∈ l := by
  unfold rotN
  rw [List.mem_append]
  constructor
  · rintro (h | h)
    · exact List.mem_of_mem_drop h
    · exact List.mem_of_mem_take h
  · intro h
    rw [← List.take_append_drop (l.idxOf a) l, List.mem_append] at h
    exact h.symm
theorem bitsL_BS : ∀ {l : List Nat} {a : Int32} {p : Nat → Bool}, BS a p → (∀ x ∈ l, x < 20) → BS (bitsL (nL l) a) (fun v => p v || l.contains v)
  | [], a, p, h, _ => h.congr fun i _ => by simp
  | y :: l, a, p, h, hl => by
    have := bitsL_BS (l := l) (h.or (BS.bit (hl y List.mem_cons_self))) fun z hz => hl z (List.mem_cons_of_mem _ hz)
    refine BS.congr (x := bitsL (nL l) (a ||| bitI (nI y))) this fun i _ => ?_
    rw [List.contains_cons, Bool.or_assoc]
    congr 1
/-- whether a ring has all the feet -/
def fitB (q : Nat → Bool) (r : List Nat) : Bool := (List.range 20).all fun v => !q v || r.contains v
def fitF (q : Nat → Bool) : List (List Nat) → Nat → Option Nat
  | [], _ => none
  | r :: l, i => if fitB q r then some i else fitF q l (i + 1)
def optI : Option Nat → Int32
  | none => -1
  | some i => nI i
def RgR (W : fl_W) (rs : List (List Nat)) : Prop := rs.length ≤ 40 ∧ W 68 3 = nI rs.length ∧ ∀ i r, rs[i]? = some r → RowR W (73 + 2 * i) (nL r) ∧ BS (W 70 i) (fun v => r.contains v) ∧ ∀ x ∈ r, x < 20
def rgl : List Nat := 68 :: 70 :: (List.range 82).map fun i => 71 + i
theorem mem_rgl {a : Nat} : a ∈ rgl ↔ a = 68 ∨ a = 70 ∨ (71 ≤ a ∧ a < 153) := by
  unfold rgl
  rw [List.mem_cons, List.mem_cons, List.mem_map]
  constructor
  · rintro (h | h | ⟨i, hi, rfl⟩)
    · exact Or.inl h
    · exact Or.inr (Or.inl h)
    · have := List.mem_range.mp hi; omega
  · rintro (h | h | h)
    · exact Or.inl h
    · exact Or.inr (Or.inl h)
    · exact Or.inr (Or.inr ⟨a - 71, List.mem_range.mpr (by omega), by omega⟩)
theorem RgR.fr {W W' : fl_W} {rs : List (List Nat)} {l : List Nat} (h : RgR W rs) (hE : EqX l W W') (hd : ∀ a ∈ rgl, a ∉ l) : RgR W' rs := by
  refine ⟨h.1, by rw [hE 68 (hd _ (mem_rgl.mpr (by omega)))]; exact h.2.1, fun i r hr => ?_⟩
  have hi := (List.getElem?_eq_some_iff.mp hr).1
  have h1 := h.1
  obtain ⟨g1, g2, g3⟩ := h.2.2 i r hr
  refine ⟨g1.fr hE (hd _ (mem_rgl.mpr (by omega))) (hd _ (mem_rgl.mpr (by omega))), ?_, g3⟩
  rw [hE 70 (hd _ (mem_rgl.mpr (by omega)))]
  exact g2
theorem rg_rw {i : Nat} (h : i < 40) : fl_row (73 + 2 * i) := (fl_rg_all i h).1
theorem RgR.len {W : fl_W} {rs : List (List Nat)} (h : RgR W rs) {i : Nat} {r : List Nat} (hr : rs[i]? = some r) : r.length ≤ 20 := by
  have hi := (List.getElem?_eq_some_iff.mp hr).1
  have := (h.2.2 i r hr).1.2.1
  rwa [nL_len, rg_cap (by have := h.1; omega)] at this
section RINGS
variable {d : Nat} {Q : fl_R} {W : fl_W} {rs : List (List Nat)}
theorem rg_has {v : Int32} (hR : RgR W rs) (h : Q (some (.int (if ixB v rs.length then 1 else 0))) W) : fl_cal (d + 1) 55 [.ref 68, .int v] W Q := by
  have h1 := hR.1
  refine sx_55 v W ⟨fun q => ?_, fun q => ⟨fun q2 => ?_, fun q2 => ?_⟩⟩
  · rw [ixB_neg q] at h; exact h
  · rw [hR.2.1] at q2; rw [ixB_lt (by omega) q q2] at h; exact h
  · rw [hR.2.1] at q2; rw [ixB_ge (by omega) q2] at h; exact h
theorem rg_size {i : Nat} {r : List Nat} (hR : RgR W rs) (hr : rs[i]? = some r) (h : Q (some (.int (nI r.length))) W) : fl_cal (d + 2) 56 [.ref 68, .int (nI i)] W Q := by
  have h1 := hR.1
  have hi := (List.getElem?_eq_some_iff.mp hr).1
  refine sx_56 _ W (rg_has hR ?_)
  rw [ixB_N (by omega), decide_eq_true hi]
  refine ⟨fun q => absurd q (by decide), fun _ => ⟨in_N (by omega) (by omega), ?_⟩⟩
  rw [nI_clamp (by omega)]
  refine row_size (rg_rw (by omega)) (hR.2.2 i r hr).1 ?_
  rw [nL_len]
  exact h
theorem rg_get {i : Nat} {r : List Nat} {j : Int32} (hR : RgR W rs) (hr : rs[i]? = some r) (h : Q (some (.int (getI (nL r) j))) W) : fl_cal (d + 2) 57 [.ref 68, .int (nI i), .int j] W Q := by
  have h1 := hR.1
  have hi := (List.getElem?_eq_some_iff.mp hr).1
  refine sx_57 _ _ W (rg_has hR ?_)
  rw [ixB_N (by omega), decide_eq_true hi]
  refine ⟨fun q => absurd q (by decide), fun _ => ⟨in_N (by omega) (by omega), ?_⟩⟩
  rw [nI_clamp (by omega)]
  exact row_get (rg_rw (by omega)) (hR.2.2 i r hr).1 h
theorem rg_behind {i : Nat} {r : List Nat} {j : Int32} (hR : RgR W rs) (hr : rs[i]? = some r) (h : Q (some (.int (if j + 1 < nI r.length then j + 1 else 0))) W) : fl_cal (d + 2) 58 [.ref 68, .int (nI i), .int j] W Q := by
  have h1 := hR.1
  have hi := (List.getElem?_eq_some_iff.mp hr).1
  refine sx_58 _ _ W (rg_has hR ?_)
  rw [ixB_N (by omega), decide_eq_true hi]
  refine ⟨fun q => absurd q (by decide), fun _ => ⟨in_N (by omega) (by omega), ?_⟩⟩
  rw [nI_clamp (by omega)]
  refine row_behind (rg_rw (by omega)) (hR.2.2 i r hr).1 ?_
  rw [nL_len]
  exact h
theorem rg_fit_l {x : Int32} {q : Nat → Bool} (hR : RgR W rs) (hx : BS x q) : ∀ (n i : Nat), rs.length - i = n → i ≤ rs.length → Q (some (.int (optI (fitF q (rs.drop i) i)))) W → hd_59_6 d Q x (nI i) W := by
  have h1 := hR.1
  intro n
  induction n with
  | zero =>
    intro i a1 a2 h
    refine sx_59_6 x _ W ⟨fun z => absurd z ?_, fun _ => ?_⟩
    · rw [hR.2.1]; exact nI_nlt (by omega) (by omega)
    · rw [List.drop_eq_nil_of_le (by omega)] at h; exact h
  | succ n ih =>
    intro i a1 a2 h
    have hi : i < rs.length := by omega
    have hr := List.getElem?_eq_getElem hi
    rw [List.drop_eq_getElem_cons hi] at h
    have hb := (hR.2.2 i _ hr).2.1
    have hiff : (W 70 i &&& x = x) ↔ fitB q rs[i] = true := by
      rw [(hb.and hx.lo).eq hx, fitB, List.all_eq_true]
      constructor
      · intro z v hv
        have := z v (List.mem_range.mp hv)
        cases hq : q v with
        | false => rfl
        | true => rw [hq, Bool.and_true] at this; rw [this]; rfl
      · intro z v hv
        have := z v (List.mem_range.mpr hv)
        cases hq : q v with
        | false => simp
        | true => rw [hq] at this; simpa using this
    refine sx_59_6 x _ W ⟨fun _ => ⟨in_N (by omega) (by omega), ⟨fun z => ?_, fun z => ?_⟩⟩, fun z => absurd ?_ z⟩
    · rw [nI_clamp (by omega)] at z
      rw [fitF, if_pos (hiff.mp z)] at h
      exact h
    · rw [nI_clamp (by omega)] at z
      rw [fitF, if_neg (fun w => z (hiff.mpr w))] at h
      rw [ci_1, nI_add]
      exact ih (i + 1) (by omega) (by omega) h
    · rw [hR.2.1]; exact nI_lt hi (by omega)
theorem rg_fit {x : Int32} {q : Nat → Bool} {i : Nat} (hR : RgR W rs) (hx : BS x q) (hi : i ≤ rs.length) (h : Q (some (.int (optI (fitF q (rs.drop i) i)))) W) : fl_cal (d + 1) 59 [.ref 68, .int x, .int (nI i)] W Q := by
  have h1 := hR.1
  refine sx_59 x _ W ?_
  rw [ci_0, if_neg (nI_nlt (Nat.zero_le _) (by omega))]
  exact rg_fit_l hR hx _ i rfl hi h
/-- the first two rings; the way lies in row 157 -/
theorem rg_begin {lo hi : Nat} {ws : List Nat} (hlo : lo < 20) (hhi : hi < 20) (hw : RowR W 157 (nL ws)) (hw20 : ∀ x ∈ ws, x < 20) (hl : ws.length + 2 ≤ 20) (h : ∀ W', RgR W' [lo :: hi :: ws.reverse, lo :: (ws ++ [hi])] → EqX rgl W W' → Q none W') : fl_cal (d + 3) 60 [.ref 68, .int (nI lo), .int (nI hi), .ref 157] W Q := by
  have hc0 : fl_cap 73 = 20 := rfl
  have hc1 : fl_cap 75 = 20 := rfl
  have m0 : ∀ a ∈ [73, 73 + 1], a ∈ rgl := by decide +kernel
  have m1 : ∀ a ∈ [75, 75 + 1], a ∈ rgl := by decide +kernel
  have v0 : vp_in (Int32.ofInt 0) 40 := in_N (n := 0) (by omega) (by omega)
  have v1 : vp_in (Int32.ofInt 1) 40 := in_N (n := 1) (by omega) (by omega)
  refine sx_60 157 _ _ W rfl ⟨v0, ?_⟩
  show fl_cal (d + 2) 64 [.ref 73] W _
  refine row_clear rfl fun W1 r1 f1 => ?_
  show fl_cal (d + 2) 65 [.ref 73, .int (nI lo)] W1 _
  refine row_add rfl r1 (by decide) fun W2 r2 f2 => ?_
  show fl_cal (d + 2) 65 [.ref 73, .int (nI hi)] W2 _
  refine row_add rfl r2 (by rw [hc0]; simp) fun W3 r3 f3 => ?_
  have w3 := ((hw.fr f1 (by decide) (by decide)).fr f2 (by decide) (by decide)).fr f3 (by decide) (by decide)
  show fl_cal (d + 2) 72 [.ref 73, .ref 157] W3 _
  refine row_back rfl rfl (by decide) w3 r3 (by rw [hc0, nL_len]; simp; omega) fun W4 r4 f4 => ⟨v1, ?_⟩
  show fl_cal (d + 2) 64 [.ref 75] W4 _
  refine row_clear rfl fun W5 r5 f5 => ?_
  show fl_cal (d + 2) 65 [.ref 75, .int (nI lo)] W5 _
  refine row_add rfl r5 (by decide) fun W6 r6 f6 => ?_
  have w6 := ((w3.fr f4 (by decide) (by decide)).fr f5 (by decide) (by decide)).fr f6 (by decide) (by decide)
  show fl_cal (d + 2) 63 [.ref 157] W6 _
  refine row_size rfl w6 ?_
  show fl_cal (d + 2) 71 [.ref 75, .ref 157, .int (nI 0), .int (nI (nL ws).length)] W6 _
  refine row_part (r := 75) (s := 157) rfl rfl (by decide) (Nat.zero_le _) (Nat.le_refl _) w6 r6 (by rw [hc1, nL_len]; simp; omega) fun W7 r7 f7 => ?_
  rw [List.drop_zero, Nat.sub_zero, List.take_length] at r7
  show fl_cal (d + 2) 65 [.ref 75, .int (nI hi)] W7 _
  refine row_add rfl r7 (by rw [hc1]; simp [nL_len]; omega) fun W8 r8 f8 => ?_
  have r48 := ((((r4.fr f5 (by decide) (by decide)).fr f6 (by decide) (by decide)).fr f7 (by decide) (by decide)).fr f8 (by decide) (by decide))
  show fl_cal (d + 2) 74 [.ref 73] W8 _
  refine row_bits rfl r48 ⟨v0, fun W11 e11 => ⟨v0, v1, fun W12 e12 W13 e13 => ?_⟩⟩
  have e4 : nL (lo :: hi :: ws.reverse) = [] ++ [nI lo] ++ [nI hi] ++ (nL ws).reverse := by simp [nL]
  have e8 : nL (lo :: (ws ++ [hi])) = [] ++ [nI lo] ++ nL ws ++ [nI hi] := by simp [nL]
  have z0 : (Int32.ofInt 0).toNatClampNeg = 0 := rfl
  have z1 : (Int32.ofInt 1).toNatClampNeg = 1 := rfl
  rw [z0] at e11
  rw [z0, z1] at e12
  rw [← e4] at e11
  have hmem : ∀ x ∈ lo :: hi :: ws.reverse, x < 20 := by
    intro x hx
    simp only [List.mem_cons, List.mem_reverse] at hx
    rcases hx with rfl | rfl | hx
    · exact hlo
    · exact hhi
    · exact hw20 x hx
  have hB := bitsL_BS BS.zero hmem
  have fA : EqX rgl W W8 := ((((((((f1.mono m0).tr (f2.mono m0)).tr (f3.mono m0)).tr (f4.mono m0)).tr (f5.mono m1)).tr (f6.mono m1)).tr (f7.mono m1)).tr (f8.mono m1))
  have fB : EqX [68, 70] W8 W13 := by
    rw [e13, e12, e11]
    exact ((EqX.uw (by simp)).tr (EqX.uw (by simp))).tr (EqX.uw (by simp))
  have b0 : W13 70 0 = bitsL (nL (lo :: hi :: ws.reverse)) 0 := by rw [e13, uw_n (by decide), e12, uw_m (by decide), e11, uw_s]
  have b1 : W13 70 1 = bitsL (nL (lo :: hi :: ws.reverse)) 0 := by rw [e13, uw_n (by decide), e12, uw_s, e11, uw_s]
  refine h W13 ⟨by simp, by rw [e13, uw_s]; rfl, fun i r hr => ?_⟩ (fA.tr (fB.mono (by decide +kernel)))
  match i, hr with
  | 0, hr =>
    cases hr
    refine ⟨?_, ?_, hmem⟩
    · rw [e4]; exact r48.fr fB (by decide) (by decide)
    · rw [b0]; exact hB.congr fun v _ => by simp
  | 1, hr =>
    cases hr
    refine ⟨?_, ?_, ?_⟩
    · rw [e8]; exact r8.fr fB (by decide) (by decide)
    · rw [b1]
      refine hB.congr fun v _ => ?_
      rw [Bool.eq_iff_iff]
      simp
      constructor
      · rintro (h | h | h) <;> simp [h]
      · rintro (h | h | h) <;> simp [h]
    · intro x hx
      simp only [List.mem_cons, List.mem_append, List.not_mem_nil, or_false] at hx
      rcases hx with rfl | hx | rfl
      · exact hlo
      · exact hw20 x hx
      · exact hhi
theorem nL_rot {l : List Nat} {a : Nat} : (nL l).drop (l.idxOf a) ++ (nL l).take (l.idxOf a) = nL (rotN l a) := by simp [nL, rotN, List.map_drop, List.map_take]
theorem rg_part {ri a b : Nat} {ring ws : List Nat} (hR : RgR W rs) (hri : rs[ri]? = some ring) (ha : a ∈ ring) (hb : b ∈ ring) (hw : RowR W 157 (nL ws)) (hw20 : ∀ x ∈ ws, x < 20) (h40 : rs.length < 40) (l1 : (arcN (rotN ring a) b).length + ws.length ≤ 20) (l2 : (arcN (rotN ring b) a).length + ws.length ≤ 20)
    (h : ∀ W', RgR W' (rs.set ri (arcN (rotN ring a) b ++ ws) ++ [arcN (rotN ring b) a ++ ws.reverse]) → EqX rgl W W' → Q none W') : fl_cal (d + 3) 61 [.ref 68, .int (nI ri), .int (nI a), .int (nI b), .ref 157] W Q := by
  have hl := (List.getElem?_eq_some_iff.mp hri).1
  have hlen := hR.len hri
  obtain ⟨hrow, hbits, hr20⟩ := hR.2.2 ri ring hri
  have hrX := rg_rw (i := ri) (by omega)
  have hrY := rg_rw (i := rs.length) h40
  have cX := rg_cap (j := ri) (by omega)
  have cY := rg_cap (j := rs.length) h40
  have a20 := hr20 a ha
  have b20 := hr20 b hb
  have big : ∀ y ∈ ring, y < 2 ^ 31 := fun y hy => by have := hr20 y hy; omega
  have rb : ∀ z, ∀ y ∈ rotN ring z, y < 2 ^ 31 := fun z y hy => big y (mem_rotN.mp hy)
  have ia := List.idxOf_lt_length_of_mem ha
  have ib := List.idxOf_lt_length_of_mem hb
  generalize hX : 73 + 2 * ri = X at hrX cX hrow
  generalize hY : 73 + 2 * rs.length = Y at hrY cY
  have vX : vp_in (nI ri) 40 := in_N (by omega) (by omega)
  have eX : 73 + 2 * (nI ri).toNatClampNeg = X := by rw [nI_clamp (by omega)]; exact hX
  have vY : vp_in (nI rs.length) 40 := in_N h40 (by omega)
  have eY : 73 + 2 * (nI rs.length).toNatClampNeg = Y := by rw [nI_clamp (by omega)]; exact hY
  refine sx_61 157 _ _ _ W rfl (rg_has hR ?_)
  rw [ixB_N (by omega), decide_eq_true hl]
  refine ⟨fun q => absurd q (by decide), fun _ => ⟨fun _ => ⟨vX, ?_⟩, fun q => absurd ?_ q⟩⟩
  rotate_left
  · rw [hR.2.1, cb_40]; exact nI_lt h40 (by omega)
  rw [eX]
  have m71 : ∀ z ∈ [71, 71 + 1], z ∈ rgl := by decide +kernel
  have mX : ∀ z ∈ [X, X + 1], z ∈ rgl := by intro z hz; rw [mem_rgl]; simp at hz; omega
  have mY : ∀ z ∈ [Y, Y + 1], z ∈ rgl := by intro z hz; rw [mem_rgl]; simp at hz; omega
  refine row_copy (r := 71) (s := X) rfl hrX (by omega) hrow (by rw [nL_len]; show ring.length ≤ 20; exact hlen) fun W2 r2 f2 => ⟨vX, ?_⟩
  refine row_clear hrX fun W3 r3 f3 => ⟨vX, ?_⟩
  have q3 := r2.fr f3 (by simp; omega) (by simp; omega)
  refine row_arc (r := X) (s := 71) (a := ring.idxOf a) hrX rfl (by omega) ?_ (by rw [nL_len]; exact ia) q3 r3 (by rw [cX, nL_len]; simpa using hlen) fun W4 r4 f4 => ⟨vX, ?_⟩
  · rw [fndF_in (by omega) big ha, Nat.zero_add]
  rw [nL_rot, arcL_N (by omega) (rb a), List.nil_append] at r4
  have q4 := q3.fr f4 (by simp; omega) (by simp; omega)
  have w4 := ((hw.fr f2 (by decide) (by decide)).fr f3 (by simp; omega) (by simp; omega)).fr f4 (by simp; omega) (by simp; omega)
  refine row_size rfl w4 ?_
  show fl_cal (d + 2) 71 [.ref X, .ref 157, .int (nI 0), .int (nI (nL ws).length)] W4 _
  refine row_part (r := X) (s := 157) hrX rfl (by omega) (Nat.zero_le _) (Nat.le_refl _) w4 r4 (by rw [cX, nL_len, nL_len]; simpa using l1) fun W6 r6 f6 => ⟨vX, ?_⟩
  rw [List.drop_zero, Nat.sub_zero, List.take_length, ← nL_app] at r6
  refine row_bits hrX r6 ⟨vX, fun W8 e8 => ?_⟩
  rw [nI_clamp (by omega)] at e8
  have f8 : EqX [70] W6 W8 := by rw [e8]; exact EqX.uw (by simp)
  have c8 : W8 68 3 = nI rs.length := by
    rw [f8 68 (by decide), f6 68 (by simp; omega), f4 68 (by simp; omega), f3 68 (by simp; omega), f2 68 (by decide)]
    exact hR.2.1
  rw [c8]
  refine ⟨vY, ?_⟩
  rw [eY]
  refine row_clear hrY fun W9 r9 f9 => ?_
  have c9 : W9 68 3 = nI rs.length := by rw [f9 68 (by simp; omega)]; exact c8
  show vp_in (W9 68 3) 40 ∧ _
  rw [c9]
  refine ⟨vY, ?_⟩
  rw [eY]
  have q9 := ((q4.fr f6 (by simp; omega) (by simp; omega)).fr f8 (by decide) (by decide)).fr f9 (by simp; omega) (by simp; omega)
  have w9 := ((w4.fr f6 (by simp; omega) (by simp; omega)).fr f8 (by decide) (by decide)).fr f9 (by simp; omega) (by simp; omega)
  refine row_arc (r := Y) (s := 71) (a := ring.idxOf b) hrY rfl (by omega) ?_ (by rw [nL_len]; exact ib) q9 r9 (by rw [cY, nL_len]; simpa using hlen) fun W10 r10 f10 => ?_
  · rw [fndF_in (by omega) big hb, Nat.zero_add]
  rw [nL_rot, arcL_N (by omega) (rb b), List.nil_append] at r10
  have w10 := w9.fr f10 (by simp; omega) (by simp; omega)
  have c10 : W10 68 3 = nI rs.length := by rw [f10 68 (by simp; omega)]; exact c9
  show vp_in (W10 68 3) 40 ∧ _
  rw [c10]
  refine ⟨vY, ?_⟩
  rw [eY]
  refine row_back (r := Y) (s := 157) hrY rfl (by omega) w10 r10 (by rw [cY, nL_len, nL_len]; exact l2) fun W11 r11 f11 => ?_
  have c11 : W11 68 3 = nI rs.length := by rw [f11 68 (by simp; omega)]; exact c10
  have e11 : nL (arcN (rotN ring b) a) ++ (nL ws).reverse = nL (arcN (rotN ring b) a ++ ws.reverse) := by simp [nL]
  rw [e11] at r11
  show vp_in (W11 68 3) 40 ∧ _
  rw [c11]
  refine ⟨vY, ?_⟩
  rw [eY]
  refine row_bits hrY r11 ?_
  show vp_in (nI rs.length) 40 ∧ _
  refine ⟨vY, fun W13 e13 W14 e14 => ?_⟩
  rw [nI_clamp (by omega)] at e13
  have c13 : W13 68 3 = nI rs.length := by rw [e13, uw_n (by decide)]; exact c11
  rw [c13, ci_1, nI_add] at e14
  have f13 : EqX [68, 70] W11 W14 := by rw [e14, e13]; exact (EqX.uw (by simp)).tr (EqX.uw (by simp))
  have hB1 := bitsL_BS (l := arcN (rotN ring a) b ++ ws) BS.zero (by
    intro x hx
    rcases List.mem_append.mp hx with hx | hx
    · exact hr20 x (mem_rotN.mp (arcN_sub.subset hx))
    · exact hw20 x hx)
  have hB2 := bitsL_BS (l := arcN (rotN ring b) a ++ ws.reverse) BS.zero (by
    intro x hx
    rcases List.mem_append.mp hx with hx | hx
    · exact hr20 x (mem_rotN.mp (arcN_sub.subset hx))
    · exact hw20 x (List.mem_reverse.mp hx))
  have m2 : ∀ z ∈ [68, 70], z ∈ rgl := by decide +kernel
  have fAll : EqX rgl W W14 := (((((((((f2.mono m71).tr (f3.mono mX)).tr (f4.mono mX)).tr (f6.mono mX)).tr (f8.mono (by decide +kernel))).tr (f9.mono mY)).tr (f10.mono mY)).tr (f11.mono mY)).tr (f13.mono m2))
  -- the cells of bits
  have s70 : ∀ j, j ≠ rs.length → W14 70 j = W8 70 j := by
    intro j hj
    rw [e14, uw_n (by decide), e13, uw_m hj, f11 70 (by simp; omega), f10 70 (by simp; omega), f9 70 (by simp; omega)]
  have s70' : ∀ j, j ≠ ri → W8 70 j = W 70 j := by
    intro j hj
    rw [e8, uw_m hj, f6 70 (by simp; omega), f4 70 (by simp; omega), f3 70 (by simp; omega), f2 70 (by decide)]
  have hsz : (rs.set ri (arcN (rotN ring a) b ++ ws) ++ [arcN (rotN ring b) a ++ ws.reverse]).length = rs.length + 1 := by simp
  refine h W14 ⟨by rw [hsz]; omega, by rw [hsz, e14, uw_s], fun i r hr => ?_⟩ fAll
  by_cases hin : i = rs.length
  · subst hin
    rw [List.getElem?_append_right (by simp), List.length_set, Nat.sub_self] at hr
    cases hr
    refine ⟨?_, ?_, ?_⟩
    · rw [hY]; exact r11.fr f13 (by simp; omega) (by simp; omega)
    · rw [e14, uw_n (by decide), e13, uw_s]
      exact hB2.congr fun v _ => by simp
    · intro x hx
      rcases List.mem_append.mp hx with hx | hx
      · exact hr20 x (mem_rotN.mp (arcN_sub.subset hx))
      · exact hw20 x (List.mem_reverse.mp hx)
  · have hlt : i < rs.length := by
      have := (List.getElem?_eq_some_iff.mp hr).1
      rw [hsz] at this
      omega
    rw [List.getElem?_append_left (by simpa using hlt), List.getElem?_set] at hr
    by_cases hir : ri = i
    · subst hir
      rw [if_pos rfl, if_pos hlt] at hr
      cases hr
      refine ⟨?_, ?_, ?_⟩
      · rw [hX]
        exact ((((r6.fr f8 (by simp; omega) (by simp; omega)).fr f9 (by simp; omega) (by simp; omega)).fr f10 (by simp; omega) (by simp; omega)).fr f11 (by simp; omega) (by simp; omega)).fr f13 (by simp; omega) (by simp; omega)
      · rw [s70 ri (by omega), e8, uw_s]
        exact hB1.congr fun v _ => by simp
      · intro x hx
        rcases List.mem_append.mp hx with hx | hx
        · exact hr20 x (mem_rotN.mp (arcN_sub.subset hx))
        · exact hw20 x hx
    · rw [if_neg hir] at hr
      obtain ⟨g1, g2, g3⟩ := hR.2.2 i r hr
      refine ⟨?_, ?_, g3⟩
      · exact ((((((((g1.fr f2 (by simp; omega) (by simp; omega)).fr f3 (by simp; omega) (by simp; omega)).fr f4 (by simp; omega) (by simp; omega)).fr f6 (by simp; omega) (by simp; omega)).fr f8 (by simp; omega) (by simp; omega)).fr f9 (by simp; omega) (by simp; omega)).fr f10 (by simp; omega) (by simp; omega)).fr f11 (by simp; omega) (by simp; omega)).fr f13 (by simp; omega) (by simp; omega)
      · rw [s70 i hin, s70' i (Ne.symm hir)]
        exact g2
end RINGS
