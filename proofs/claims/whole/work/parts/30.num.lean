/-! ===== numbers ===== -/
theorem ci_0 : Int32.ofInt 0 = nI 0 := rfl
theorem ci_1 : Int32.ofInt 1 = nI 1 := rfl
theorem ci_2 : Int32.ofInt 2 = nI 2 := rfl
theorem ci_3 : Int32.ofInt 3 = nI 3 := rfl
theorem ci_4 : Int32.ofInt 4 = nI 4 := rfl
theorem ci_5 : Int32.ofInt 5 = nI 5 := rfl
theorem ci_m : Int32.ofInt (-1) = -1 := rfl
theorem cb_6 : (Int8.ofInt 6).toInt32 = nI 6 := rfl
theorem cb_20 : (Int8.ofInt 20).toInt32 = nI 20 := rfl
theorem cb_21 : (Int8.ofInt 21).toInt32 = nI 21 := rfl
theorem cb_40 : (Int8.ofInt 40).toInt32 = nI 40 := rfl
theorem cb_60 : (Int8.ofInt 60).toInt32 = nI 60 := rfl
theorem cb_100 : (Int8.ofInt 100).toInt32 = nI 100 := rfl
theorem cb_120 : (Int8.ofInt 120).toInt32 = nI 120 := rfl
theorem cs_200 : (Int16.ofInt 200).toInt32 = nI 200 := rfl
theorem cz_0 : (0 : Int32) = nI 0 := rfl
theorem cz_1 : (1 : Int32) = nI 1 := rfl
theorem co_N (n : Nat) : Int32.ofNat n = nI n := rfl
theorem i_lt {a b : Int32} : a < b ↔ a.toInt < b.toInt := Int32.lt_iff_toInt_lt
theorem i_le {a b : Int32} : a ≤ b ↔ a.toInt ≤ b.toInt := Int32.le_iff_toInt_le
theorem i_eq {a b : Int32} : a = b ↔ a.toInt = b.toInt := Int32.toInt_inj.symm
theorem i_m1 : (-1 : Int32).toInt = -1 := rfl
theorem i_0 : (0 : Int32).toInt = 0 := rfl
theorem i_1 : (1 : Int32).toInt = 1 := rfl
/-- an Int32 that isn't below 0 and is below nI n is some nI k -/
theorem i_nat {v : Int32} {n : Nat} (h0 : ¬ v < 0) (h : v < nI n) (hn : n < 2 ^ 31) : ∃ k, k < n ∧ v = nI k := by
  rw [i_lt, i_0] at h0
  rw [i_lt, nI_toInt hn] at h
  refine ⟨v.toInt.toNat, by omega, ?_⟩
  rw [i_eq, nI_toInt (by omega)]
  omega
theorem i_nonneg {v : Int32} (h0 : ¬ v < 0) : ∃ k, k < 2 ^ 31 ∧ v = nI k := nI_of h0
theorem nI_ne {a b : Nat} (ha : a < 2 ^ 31) (hb : b < 2 ^ 31) (h : a ≠ b) : nI a ≠ nI b := fun e => h ((nI_eq ha hb).mp e)
theorem nI_nm {a : Nat} (ha : a < 2 ^ 31) : nI a ≠ -1 := fun e => by
  have := congrArg Int32.toInt e
  rw [nI_toInt ha, i_m1] at this
  omega
theorem in_N {n N : Nat} (h : n < N) (hN : N < 2 ^ 31) : vp_in (nI n) N := vp_in_nI h hN
/-! ===== the flat memory's changes ===== -/
theorem uw_s {W : fl_W} {i j : Nat} {x : Int32} : fl_uw W i j x i j = x := by simp [fl_uw, upd]
theorem uw_n {W : fl_W} {i j a : Nat} {x : Int32} (h : a ≠ i) : fl_uw W i j x a = W a := by simp [fl_uw, h]
theorem uw_m {W : fl_W} {i j b : Nat} {x : Int32} (h : b ≠ j) : fl_uw W i j x i b = W i b := by simp [fl_uw, upd, h]
/-- nothing has changed but in the cells of l -/
def EqX (l : List Nat) (W W' : fl_W) : Prop := ∀ a, a ∉ l → W' a = W a
theorem EqX.rf {l : List Nat} {W : fl_W} : EqX l W W := fun _ _ => rfl
theorem EqX.tr {l : List Nat} {W W' W'' : fl_W} (h1 : EqX l W W') (h2 : EqX l W' W'') : EqX l W W'' := fun a ha => (h2 a ha).trans (h1 a ha)
theorem EqX.mono {l l' : List Nat} {W W' : fl_W} (h : EqX l W W') (hl : ∀ a ∈ l, a ∈ l') : EqX l' W W' := fun a ha => h a fun q => ha (hl a q)
theorem EqX.uw {l : List Nat} {W : fl_W} {i j : Nat} {x : Int32} (hi : i ∈ l) : EqX l W (fl_uw W i j x) := fun a ha => uw_n fun e => ha (e ▸ hi)
/-! ===== a row ===== -/
def RowR (W : fl_W) (r : Nat) (xs : List Int32) : Prop := W r 1 = nI xs.length ∧ xs.length ≤ fl_cap r ∧ ∀ i x, xs[i]? = some x → W (r + 1) i = x
theorem RowR.fr {W W' : fl_W} {r : Nat} {xs : List Int32} {l : List Nat} (h : RowR W r xs) (hE : EqX l W W') (h1 : r ∉ l) (h2 : r + 1 ∉ l) : RowR W' r xs := by
  refine ⟨by rw [hE r h1]; exact h.1, h.2.1, fun i x hx => ?_⟩
  rw [hE _ h2]
  exact h.2.2 i x hx
theorem fl_cap_le : ∀ r, r < 280 → fl_cap r ≤ 1200 := by decide +kernel
theorem row_cap {r : Nat} (h : fl_row r) : fl_cap r ≤ 1200 := fl_cap_le r (fl_lt h)
section ROW
variable {d : Nat} {Q : fl_R} {r : Nat} {W : fl_W} {xs : List Int32}
theorem row_size (hr : fl_row r) (hR : RowR W r xs) (h : Q (some (.int (nI xs.length))) W) : fl_cal (d + 1) 63 [.ref r] W Q := by
  refine sx_63 r W hr ?_
  rw [hR.1]
  exact h
theorem row_clear (hr : fl_row r) (h : ∀ W', RowR W' r [] → EqX [r, r + 1] W W' → Q none W') : fl_cal (d + 1) 64 [.ref r] W Q := by
  refine sx_64 r W hr fun W1 e => ?_
  subst e
  exact h _ ⟨uw_s, Nat.zero_le _, fun i x hx => by simp at hx⟩ (EqX.uw (by simp))
theorem row_add {x : Int32} (hr : fl_row r) (hR : RowR W r xs) (hc : xs.length < fl_cap r) (h : ∀ W', RowR W' r (xs ++ [x]) → EqX [r, r + 1] W W' → Q none W') : fl_cal (d + 1) 65 [.ref r, .int x] W Q := by
  have hcap := row_cap hr
  refine sx_65 r x W hr ⟨fun q => ⟨?_, fun W1 e1 W2 e2 => ?_⟩, fun q => absurd ?_ q⟩
  · rw [hR.1]; exact in_N hc (by omega)
  · rw [hR.1, nI_clamp (by omega)] at e1
    subst e1
    rw [uw_n (by omega : r ≠ r + 1), hR.1, ci_1, nI_add] at e2
    subst e2
    refine h _ ⟨?_, by simp; omega, fun i y hy => ?_⟩ ((EqX.uw (by simp)).tr (EqX.uw (by simp)))
    · rw [uw_s]; simp
    · rw [uw_n (by omega : r + 1 ≠ r)]
      by_cases hi : i = xs.length
      · subst hi
        rw [uw_s]
        simpa using hy
      · rw [uw_m hi]
        have hl := (List.getElem?_eq_some_iff.mp hy).1
        rw [List.length_append, List.length_singleton] at hl
        rw [List.getElem?_append_left (by omega)] at hy
        exact hR.2.2 i y hy
  · rw [hR.1, co_N]; exact nI_lt hc (by omega)
/-- what stands at a place, or -1 -/
def getI (xs : List Int32) (i : Int32) : Int32 := if i < 0 then -1 else xs.getD i.toNatClampNeg (-1)
theorem getI_N {xs : List Int32} {n : Nat} (hn : n < 2 ^ 31) : getI xs (nI n) = xs.getD n (-1) := by
  rw [getI, if_neg (nI_pos hn), nI_clamp hn]
theorem row_get {i : Int32} (hr : fl_row r) (hR : RowR W r xs) (h : Q (some (.int (getI xs i))) W) : fl_cal (d + 1) 66 [.ref r, .int i] W Q := by
  have hcap := row_cap hr
  have hl := hR.2.1
  refine sx_66 r i W hr ⟨fun q => ?_, fun q => ⟨fun q2 => ?_, fun q2 => ?_⟩⟩
  · rw [getI, if_pos q] at h
    exact h
  · rw [hR.1] at q2
    obtain ⟨n, hn, rfl⟩ := i_nat q q2 (by omega)
    refine ⟨in_N (by omega) (by omega), ?_⟩
    rw [getI_N (by omega)] at h
    rw [nI_clamp (by omega), hR.2.2 n _ (List.getElem?_eq_getElem hn)]
    simpa [List.getD_eq_getElem?_getD, hn] using h
  · rw [hR.1] at q2
    obtain ⟨n, hn, rfl⟩ := i_nonneg q
    rw [nI_ltI hn (by omega)] at q2
    rw [getI_N hn] at h
    simpa [List.getD_eq_getElem?_getD, List.getElem?_eq_none (Nat.not_lt.mp q2)] using h
end ROW
