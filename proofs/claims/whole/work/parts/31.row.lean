/-! ===== a row: the rest of its methods ===== -/
theorem row_nr {r : Nat} (h : fl_row r) : ¬ fl_row (r + 1) := by
  have h1 := (fl_row_all r (fl_lt h) h).2
  intro h2
  unfold fl_row fl_isb at h2
  rw [h1] at h2
  simp at h2
theorem row_ap {r s : Nat} (hr : fl_row r) (hs : fl_row s) (h : r ≠ s) : s ∉ [r, r + 1] ∧ s + 1 ∉ [r, r + 1] := by
  have h1 : s ≠ r + 1 := fun e => row_nr hr (e ▸ hs)
  have h2 : r ≠ s + 1 := fun e => row_nr hs (e ▸ hr)
  constructor <;> simp <;> omega
/-- the first place of x in a list, told from i on, or -1 -/
def fndF : List Int32 → Int32 → Nat → Int32
  | [], _, _ => -1
  | y :: l, x, i => if y = x then nI i else fndF l x (i + 1)
/-- a list up to x, x too -/
def arcL : List Int32 → Int32 → List Int32
  | [], _ => []
  | z :: l, x => if z = x then [z] else z :: arcL l x
def bitI (v : Int32) : Int32 := if v < 0 then 0 else if v < nI 20 then 1 <<< (v &&& 31) else 0
def bitsL (xs : List Int32) (a : Int32) : Int32 := xs.foldl (fun a x => a ||| bitI x) a
theorem getI_at {xs : List Int32} {n : Nat} {x : Int32} (hn : n < 2 ^ 31) (h : xs[n]? = some x) : getI xs (nI n) = x := by
  rw [getI_N hn, List.getD_eq_getElem?_getD, h]; rfl
section ROW2
variable {d : Nat} {Q : fl_R} {r s : Nat} {W : fl_W} {xs ys : List Int32}
theorem row_find_l {x : Int32} (hr : fl_row r) (hR : RowR W r xs) : ∀ (n i : Nat), xs.length - i = n → i ≤ xs.length → Q (some (.int (fndF (xs.drop i) x i))) W → hd_67_2 d Q r x (nI i) W := by
  have hcap := row_cap hr
  have hl := hR.2.1
  intro n
  induction n with
  | zero =>
    intro i h1 h2 h
    have hi : i = xs.length := by omega
    subst hi
    refine sx_67_2 r x _ W hr ⟨fun q => absurd q ?_, fun _ => ?_⟩
    · rw [hR.1]; exact nI_nlt (Nat.le_refl _) (by omega)
    · simpa [fndF] using h
  | succ n ih =>
    intro i h1 h2 h
    have hi : i < xs.length := by omega
    rw [List.drop_eq_getElem_cons hi] at h
    have hx := hR.2.2 i _ (List.getElem?_eq_getElem hi)
    refine sx_67_2 r x _ W hr ⟨fun _ => ⟨in_N (by omega) (by omega), ?_⟩, fun q => absurd ?_ q⟩
    · rw [nI_clamp (by omega), hx]
      refine ⟨fun e => ?_, fun e => ?_⟩
      · simpa [fndF, e] using h
      · rw [ci_1, nI_add]
        refine ih (i + 1) (by omega) (by omega) ?_
        simpa [fndF, e] using h
    · rw [hR.1]; exact nI_lt hi (by omega)
theorem row_find {x : Int32} (hr : fl_row r) (hR : RowR W r xs) (h : Q (some (.int (fndF xs x 0))) W) : fl_cal (d + 1) 67 [.ref r, .int x] W Q :=
  sx_67 r x W hr (row_find_l hr hR xs.length 0 (by simp) (Nat.zero_le _) (by simpa using h))
theorem row_behind {i : Int32} (hr : fl_row r) (hR : RowR W r xs) (h : Q (some (.int (if i + 1 < nI xs.length then i + 1 else 0))) W) : fl_cal (d + 1) 69 [.ref r, .int i] W Q := by
  refine sx_69 r i W hr ⟨fun q => ?_, fun q => ?_⟩
  · rw [hR.1] at q
    rw [if_pos (show i + 1 < nI xs.length from q)] at h
    exact h
  · rw [hR.1] at q
    rw [if_neg (show ¬ i + 1 < nI xs.length from q)] at h
    exact h
theorem row_exch_no {i k : Int32} (hr : fl_row r) (hR : RowR W r xs) (hn : ¬ (vp_in i xs.length ∧ vp_in k xs.length)) (h : Q (some (.int 0)) W) : fl_cal (d + 1) 68 [.ref r, .int i, .int k] W Q := by
  have hcap := row_cap hr
  have hl := hR.2.1
  refine sx_68 r i k W hr ⟨fun _ => h, fun q1 => ⟨fun q2 => ⟨fun _ => h, fun q3 => ⟨fun q4 => absurd ?_ hn, fun _ => h⟩⟩, fun _ => h⟩⟩
  rw [hR.1] at q2 q4
  obtain ⟨a, ha, rfl⟩ := i_nat q1 q2 (by omega)
  obtain ⟨b, hb, rfl⟩ := i_nat q3 q4 (by omega)
  exact ⟨in_N ha (by omega), in_N hb (by omega)⟩
theorem row_exch {a b : Nat} {x y : Int32} (hr : fl_row r) (hR : RowR W r xs) (ha : xs[a]? = some x) (hb : xs[b]? = some y) (h : ∀ W', RowR W' r ((xs.set a y).set b x) → EqX [r, r + 1] W W' → Q (some (.int 1)) W') : fl_cal (d + 1) 68 [.ref r, .int (nI a), .int (nI b)] W Q := by
  have hcap := row_cap hr
  have hl := hR.2.1
  have la := (List.getElem?_eq_some_iff.mp ha).1
  have lb := (List.getElem?_eq_some_iff.mp hb).1
  refine sx_68 r _ _ W hr ⟨fun q => absurd q (nI_pos (by omega)), fun q1 => ⟨fun q2 => ⟨fun q => absurd q (nI_pos (by omega)), fun q3 => ⟨fun q4 => ⟨in_N (by omega) (by omega), in_N (by omega) (by omega), in_N (by omega) (by omega), fun W1 e1 => ⟨in_N (by omega) (by omega), fun W2 e2 => ?_⟩⟩, fun q => absurd ?_ q⟩⟩, fun q => absurd ?_ q⟩⟩
  · rw [nI_clamp (by omega), nI_clamp (by omega), hR.2.2 b y hb] at e1
    rw [nI_clamp (by omega), nI_clamp (by omega), hR.2.2 a x ha] at e2
    subst e1
    subst e2
    refine h _ ⟨?_, by simpa using hl, fun i z hz => ?_⟩ ((EqX.uw (by simp)).tr (EqX.uw (by simp)))
    · rw [uw_n (by omega : r ≠ r + 1), uw_n (by omega : r ≠ r + 1), hR.1]; simp
    · by_cases hib : i = b
      · subst hib
        rw [uw_s]
        rw [List.getElem?_set_self (by simpa using lb)] at hz
        exact Option.some.inj hz
      · rw [uw_m hib]
        rw [List.getElem?_set_ne (Ne.symm hib)] at hz
        by_cases hia : i = a
        · subst hia
          rw [uw_s]
          rw [List.getElem?_set_self la] at hz
          exact Option.some.inj hz
        · rw [uw_m hia]
          rw [List.getElem?_set_ne (Ne.symm hia)] at hz
          exact hR.2.2 i z hz
  · rw [hR.1]; exact nI_lt lb (by omega)
  · rw [hR.1]; exact nI_lt la (by omega)
theorem row_copy_l (hr : fl_row r) (hs : fl_row s) (hrs : r ≠ s) (hfit : ys.length ≤ fl_cap r) : ∀ (n i : Nat) (W : fl_W) (xs : List Int32), ys.length - i = n → i ≤ ys.length → RowR W s ys → RowR W r xs → xs = ys.take i → (∀ W', RowR W' r ys → EqX [r, r + 1] W W' → Q none W') → hd_70_6 (d + 1) Q r s (nI i) W := by
  have hcap := row_cap hr
  have hap := row_ap hr hs hrs
  intro n
  induction n with
  | zero =>
    intro i W xs h1 h2 hS hR hx h
    have hi : i = ys.length := by omega
    have hcs := row_cap hs
    have := hS.2.1
    refine sx_70_6 r s _ W hr hs ⟨fun q => absurd q ?_, fun _ => h W ?_ EqX.rf⟩
    · rw [hS.1, hi]; exact nI_nlt (Nat.le_refl _) (by omega)
    · rw [hx, hi, List.take_length] at hR; exact hR
  | succ n ih =>
    intro i W xs h1 h2 hS hR hx h
    have hcs := row_cap hs
    have := hS.2.1
    have hi : i < ys.length := by omega
    refine sx_70_6 r s _ W hr hs ⟨fun _ => ?_, fun q => absurd ?_ q⟩
    · refine row_get hs hS ?_
      have hxl : xs.length = i := by rw [hx, List.length_take]; omega
      rw [getI_at (by omega) (List.getElem?_eq_getElem hi)]
      refine row_add hr hR (by omega) fun W' hR' hE => ?_
      show hd_70_6 (d + 1) Q r s (nI i + Int32.ofInt 1) W'
      rw [ci_1, nI_add]
      refine ih (i + 1) W' _ (by omega) (by omega) (hS.fr hE hap.1 hap.2) hR' ?_ fun W'' g1 g2 => h W'' g1 (hE.tr g2)
      rw [hx, List.take_add_one, List.getElem?_eq_getElem hi]
      rfl
    · rw [hS.1]; exact nI_lt hi (by omega)
theorem row_copy (hr : fl_row r) (hs : fl_row s) (hrs : r ≠ s) (hS : RowR W s ys) (hfit : ys.length ≤ fl_cap r) (h : ∀ W', RowR W' r ys → EqX [r, r + 1] W W' → Q none W') : fl_cal (d + 2) 70 [.ref r, .ref s] W Q := by
  have hap := row_ap hr hs hrs
  refine sx_70 r s W hr hs (row_clear hr fun W' hR hE => ?_)
  exact row_copy_l hr hs hrs hfit ys.length 0 W' [] (by simp) (Nat.zero_le _) (hS.fr hE hap.1 hap.2) hR (by simp) fun W'' g1 g2 => h W'' g1 (hE.tr g2)
theorem row_part_l (hr : fl_row r) (hs : fl_row s) (hrs : r ≠ s) {b : Nat} : ∀ (n i : Nat) (W : fl_W) (xs : List Int32), b - i = n → i ≤ b → b ≤ ys.length → xs.length + (b - i) ≤ fl_cap r → RowR W s ys → RowR W r xs → (∀ W', RowR W' r (xs ++ (ys.drop i).take (b - i)) → EqX [r, r + 1] W W' → Q none W') → hd_71_3 (d + 1) Q r s (nI b) (nI i) W := by
  have hcap := row_cap hr
  have hap := row_ap hr hs hrs
  intro n
  induction n with
  | zero =>
    intro i W xs h1 h2 h3 h4 hS hR h
    have hcs := row_cap hs
    have := hS.2.1
    refine sx_71_3 r s _ _ W hr hs ⟨fun q => absurd q (nI_nlt (by omega) (by omega)), fun _ => h W ?_ EqX.rf⟩
    rw [show b - i = 0 by omega]
    simpa using hR
  | succ n ih =>
    intro i W xs h1 h2 h3 h4 hS hR h
    have hcs := row_cap hs
    have := hS.2.1
    have hi : i < ys.length := by omega
    refine sx_71_3 r s _ _ W hr hs ⟨fun _ => ?_, fun q => absurd (nI_lt (by omega) (by omega)) q⟩
    refine row_get hs hS ?_
    rw [getI_at (by omega) (List.getElem?_eq_getElem hi)]
    refine row_add hr hR (by omega) fun W' hR' hE => ?_
    show hd_71_3 (d + 1) Q r s (nI b) (nI i + Int32.ofInt 1) W'
    rw [ci_1, nI_add]
    refine ih (i + 1) W' _ (by omega) (by omega) h3 (by simp; omega) (hS.fr hE hap.1 hap.2) hR' fun W'' g1 g2 => h W'' ?_ (hE.tr g2)
    rw [List.drop_eq_getElem_cons hi, show b - i = (b - (i + 1)) + 1 by omega, List.take_succ_cons]
    simpa using g1
theorem row_part (hr : fl_row r) (hs : fl_row s) (hrs : r ≠ s) {a b : Nat} (hab : a ≤ b) (hb : b ≤ ys.length) (hS : RowR W s ys) (hR : RowR W r xs) (hfit : xs.length + (b - a) ≤ fl_cap r) (h : ∀ W', RowR W' r (xs ++ (ys.drop a).take (b - a)) → EqX [r, r + 1] W W' → Q none W') : fl_cal (d + 2) 71 [.ref r, .ref s, .int (nI a), .int (nI b)] W Q :=
  sx_71 r s _ _ W hr hs (row_part_l hr hs hrs (b - a) a W xs rfl hab hb hfit hS hR h)
theorem row_back_l (hr : fl_row r) (hs : fl_row s) (hrs : r ≠ s) : ∀ (i : Nat) (W : fl_W) (xs : List Int32), i ≤ ys.length → xs.length + i ≤ fl_cap r → RowR W s ys → RowR W r xs → (∀ W', RowR W' r (xs ++ (ys.take i).reverse) → EqX [r, r + 1] W W' → Q none W') → hd_72_7 (d + 1) Q r s (nI i - 1) W := by
  have hcap := row_cap hr
  have hap := row_ap hr hs hrs
  intro i
  induction i with
  | zero =>
    intro W xs h2 h4 hS hR h
    refine sx_72_7 r s _ W hr hs ⟨fun _ => h W (by simpa using hR) EqX.rf, fun q => absurd (by decide) q⟩
  | succ i ih =>
    intro W xs h2 h4 hS hR h
    have hcs := row_cap hs
    have := hS.2.1
    have hi : i < ys.length := by omega
    rw [nI_pred]
    refine sx_72_7 r s _ W hr hs ⟨fun q => absurd q (nI_pos (by omega)), fun _ => ?_⟩
    refine row_get hs hS ?_
    rw [getI_at (by omega) (List.getElem?_eq_getElem hi)]
    refine row_add hr hR (by omega) fun W' hR' hE => ?_
    show hd_72_7 (d + 1) Q r s (nI i + Int32.ofInt (-1)) W'
    rw [ci_m, show nI i + (-1) = nI i - 1 from (Int32.sub_eq_add_neg (nI i) 1).symm]
    refine ih W' _ (by omega) (by simp; omega) (hS.fr hE hap.1 hap.2) hR' fun W'' g1 g2 => h W'' ?_ (hE.tr g2)
    have e : (ys.take (i + 1)).reverse = ys[i] :: (ys.take i).reverse := by rw [List.take_succ_eq_append_getElem hi, List.reverse_append]; rfl
    rw [e]
    simpa using g1
theorem row_back (hr : fl_row r) (hs : fl_row s) (hrs : r ≠ s) (hS : RowR W s ys) (hR : RowR W r xs) (hfit : xs.length + ys.length ≤ fl_cap r) (h : ∀ W', RowR W' r (xs ++ ys.reverse) → EqX [r, r + 1] W W' → Q none W') : fl_cal (d + 2) 72 [.ref r, .ref s] W Q := by
  refine sx_72 r s W hr hs ?_
  rw [hS.1, ci_1]
  exact row_back_l hr hs hrs ys.length W xs (Nat.le_refl _) hfit hS hR (by simpa using h)
theorem row_arc_l (hr : fl_row r) (hs : fl_row s) (hrs : r ≠ s) {x : Int32} : ∀ (n i a : Nat) (W : fl_W) (xs : List Int32), ys.length - i = n → i ≤ ys.length → a < ys.length → xs.length + (ys.length - i) ≤ fl_cap r → RowR W s ys → RowR W r xs → (∀ W', RowR W' r (xs ++ arcL ((ys.drop a ++ ys.take a).take (ys.length - i)) x) → EqX [r, r + 1] W W' → Q none W') → hd_73_10 (d + 1) Q r s x (nI a) (nI i) W := by
  have hcap := row_cap hr
  have hap := row_ap hr hs hrs
  intro n
  induction n with
  | zero =>
    intro i a W xs h1 h2 h3 h4 hS hR h
    have hcs := row_cap hs
    have := hS.2.1
    refine sx_73_10 r s _ _ _ W hr hs ⟨fun q => absurd q ?_, fun _ => h W ?_ EqX.rf⟩
    · rw [hS.1]; exact nI_nlt (by omega) (by omega)
    · rw [show ys.length - i = 0 by omega]
      simpa [arcL] using hR
  | succ n ih =>
    intro i a W xs h1 h2 h3 h4 hS hR h
    have hcs := row_cap hs
    have := hS.2.1
    have ha := List.getElem?_eq_getElem h3
    refine sx_73_10 r s _ _ _ W hr hs ⟨fun _ => ?_, fun q => absurd ?_ q⟩
    · refine row_get hs hS ?_
      rw [getI_at (by omega) ha]
      refine row_add hr hR (by omega) fun W' hR' hE => ?_
      have hdr : ys.drop a ++ ys.take a = ys[a] :: (ys.drop (a + 1) ++ ys.take a) := by rw [List.drop_eq_getElem_cons h3]; rfl
      have hL : ys.length - i = (ys.length - (i + 1)) + 1 := by omega
      refine ⟨fun e => h W' ?_ hE, fun e => ?_⟩
      · rw [hdr, hL, List.take_succ_cons, arcL, if_pos e]
        exact hR'
      · refine row_behind hs (hS.fr hE hap.1 hap.2) ?_
        show hd_73_10 (d + 1) Q r s x _ (nI i + Int32.ofInt 1) W'
        rw [ci_1, nI_add]
        have hg : ∀ W'' : fl_W, RowR W'' r ((xs ++ [ys[a]]) ++ arcL ((ys.drop (a + 1) ++ ys.take a).take (ys.length - (i + 1))) x) → EqX [r, r + 1] W' W'' → Q none W'' := fun W'' g1 g2 => h W'' (by
          rw [hdr, hL, List.take_succ_cons, arcL, if_neg e]
          simpa using g1) (hE.tr g2)
        have hl' : (xs ++ [ys[a]]).length + (ys.length - (i + 1)) ≤ fl_cap r := by simp; omega
        by_cases hlast : a + 1 < ys.length
        · rw [if_pos (show nI a + 1 < nI ys.length by rw [show nI a + 1 = nI (a + 1) from nI_1 a]; exact nI_lt hlast (by omega)), show nI a + 1 = nI (a + 1) from nI_1 a]
          refine ih (i + 1) (a + 1) W' _ (by omega) (by omega) hlast hl' (hS.fr hE hap.1 hap.2) hR' fun W'' g1 g2 => hg W'' ?_ g2
          have e2 : (ys.drop (a + 1) ++ ys.take (a + 1)).take (ys.length - (i + 1)) = (ys.drop (a + 1) ++ ys.take a).take (ys.length - (i + 1)) := by
            rw [List.take_succ_eq_append_getElem h3, ← List.append_assoc, List.take_append_of_le_length]
            simp; omega
          rw [e2] at g1
          exact g1
        · rw [if_neg (show ¬ nI a + 1 < nI ys.length by rw [show nI a + 1 = nI (a + 1) from nI_1 a]; exact nI_nlt (by omega) (by omega)), cz_0]
          refine ih (i + 1) 0 W' _ (by omega) (by omega) (by omega) hl' (hS.fr hE hap.1 hap.2) hR' fun W'' g1 g2 => hg W'' ?_ g2
          have e1 : ys.drop (a + 1) = [] := List.drop_eq_nil_of_le (by omega)
          have e2 : (ys.drop 0 ++ ys.take 0).take (ys.length - (i + 1)) = (ys.drop (a + 1) ++ ys.take a).take (ys.length - (i + 1)) := by
            rw [e1, List.drop_zero, List.take_zero, List.append_nil, List.nil_append, List.take_take, Nat.min_eq_left (by omega)]
          rw [e2] at g1
          exact g1
    · rw [hS.1]; exact nI_lt (by omega) (by omega)
theorem row_arc (hr : fl_row r) (hs : fl_row s) (hrs : r ≠ s) {x y : Int32} {a : Nat} (ha : fndF ys y 0 = nI a) (hal : a < ys.length) (hS : RowR W s ys) (hR : RowR W r xs) (hfit : xs.length + ys.length ≤ fl_cap r) (h : ∀ W', RowR W' r (xs ++ arcL (ys.drop a ++ ys.take a) x) → EqX [r, r + 1] W W' → Q none W') : fl_cal (d + 2) 73 [.ref r, .ref s, .int y, .int x] W Q := by
  refine sx_73 r s _ _ W hr hs (row_find hs hS ?_)
  rw [ha]
  refine row_arc_l hr hs hrs ys.length 0 a W xs (by simp) (Nat.zero_le _) hal (by simpa using hfit) hS hR fun W' g1 g2 => h W' ?_ g2
  rw [List.take_of_length_le (by simp; omega)] at g1
  exact g1
theorem st_bit {v : Int32} (h : Q (some (.int (bitI v))) W) : fl_cal (d + 1) 120 [.int v] W Q := by
  refine sx_120 v W ⟨fun q => ?_, fun q => ⟨fun q2 => ?_, fun q2 => ?_⟩⟩
  · rw [bitI, if_pos q] at h; exact h
  · rw [bitI, if_neg q, if_pos (show v < nI 20 from q2)] at h; exact h
  · rw [bitI, if_neg q, if_neg (show ¬ v < nI 20 from q2)] at h; exact h
theorem row_bits_l (hr : fl_row r) (hR : RowR W r xs) : ∀ (n i : Nat) (a : Int32), xs.length - i = n → i ≤ xs.length → Q (some (.int (bitsL (xs.drop i) a))) W → hd_74_4 (d + 1) Q r a (nI i) W := by
  have hcap := row_cap hr
  have hl := hR.2.1
  intro n
  induction n with
  | zero =>
    intro i a h1 h2 h
    refine sx_74_4 r a _ W hr ⟨fun q => absurd q ?_, fun _ => ?_⟩
    · rw [hR.1]; exact nI_nlt (by omega) (by omega)
    · rw [List.drop_eq_nil_of_le (by omega)] at h; exact h
  | succ n ih =>
    intro i a h1 h2 h
    have hi : i < xs.length := by omega
    rw [List.drop_eq_getElem_cons hi] at h
    refine sx_74_4 r a _ W hr ⟨fun _ => ⟨in_N (by omega) (by omega), ?_⟩, fun q => absurd ?_ q⟩
    · rw [nI_clamp (by omega), hR.2.2 i _ (List.getElem?_eq_getElem hi)]
      refine st_bit ?_
      show hd_74_4 (d + 1) Q r (a ||| bitI xs[i]) (nI i + Int32.ofInt 1) W
      rw [ci_1, nI_add]
      exact ih (i + 1) _ (by omega) (by omega) h
    · rw [hR.1]; exact nI_lt hi (by omega)
theorem row_bits (hr : fl_row r) (hR : RowR W r xs) (h : Q (some (.int (bitsL xs 0))) W) : fl_cal (d + 2) 74 [.ref r] W Q :=
  sx_74 r W hr (row_bits_l hr hR xs.length 0 _ (by simp) (Nat.zero_le _) h)
end ROW2
