/-! ===== rows, nets, turnings at any place ===== -/
def fl_row (r : Nat) : Prop := fl_isb r 6 = true
def fl_net (b : Nat) : Prop := fl_isb b 4 = true
def fl_tur (t : Nat) : Prop := fl_isb t 9 = true
def fl_cap (r : Nat) : Nat := (fl_sh (r + 1)).2.2.headD 0
theorem fl_big {i : Nat} (h : 280 ≤ i) : fl_sh i = (9, 0, []) := by
  unfold fl_sh
  split <;> first | rfl | omega
theorem fl_lt {i c : Nat} (h : fl_isb i c = true) : i < 280 := by
  rcases Nat.lt_or_ge i 280 with q | q
  · exact q
  · rw [fl_isb, fl_big q] at h
    simp at h
theorem fl_row_all : ∀ r, r < 280 → fl_isb r 6 = true → fl_sh r = (0, 6, [r + 1 + 2, 0]) ∧ fl_sh (r + 1) = (1, 0, [fl_cap r]) := by decide +kernel
theorem fl_net_a0 : ∀ b, b < 280 → fl_isb b 4 = true → fl_sh b = (0, 4, [b + 1 + 2, b + 2 + 2, b + 3 + 2, 0, 0]) := by decide +kernel
theorem fl_net_a1 : ∀ b, b < 280 → fl_isb b 4 = true → fl_sh (b + 1) = (1, 0, [60]) := by decide +kernel
theorem fl_net_a2 : ∀ b, b < 280 → fl_isb b 4 = true → fl_sh (b + 2) = (1, 0, [60]) := by decide +kernel
theorem fl_net_a3 : ∀ b, b < 280 → fl_isb b 4 = true → fl_sh (b + 3) = (1, 0, [20]) := by decide +kernel
theorem fl_net_all (b : Nat) (h1 : b < 280) (h : fl_isb b 4 = true) : fl_sh b = (0, 4, [b + 1 + 2, b + 2 + 2, b + 3 + 2, 0, 0]) ∧ fl_sh (b + 1) = (1, 0, [60]) ∧ fl_sh (b + 2) = (1, 0, [60]) ∧ fl_sh (b + 3) = (1, 0, [20]) := ⟨fl_net_a0 b h1 h, fl_net_a1 b h1 h, fl_net_a2 b h1 h, fl_net_a3 b h1 h⟩
theorem fl_tur_a0 : ∀ t, t < 280 → fl_isb t 9 = true → fl_sh t = (0, 9, [t + 1 + 2]) ∧ fl_sh (t + 1) = (2, 20, [t + 2]) := by decide +kernel
theorem fl_tur_a1 : ∀ t, t < 280 → fl_isb t 9 = true → ∀ j, j < 20 → fl_isb (t + 2 + 2 * j) 6 = true := by decide +kernel
theorem fl_tur_a2 : ∀ t, t < 280 → fl_isb t 9 = true → ∀ j, j < 20 → fl_cap (t + 2 + 2 * j) = 20 := by decide +kernel
theorem fl_tur_all (t : Nat) (h1 : t < 280) (h : fl_isb t 9 = true) : fl_sh t = (0, 9, [t + 1 + 2]) ∧ fl_sh (t + 1) = (2, 20, [t + 2]) ∧ ∀ j, j < 20 → fl_isb (t + 2 + 2 * j) 6 = true ∧ fl_cap (t + 2 + 2 * j) = 20 := ⟨(fl_tur_a0 t h1 h).1, (fl_tur_a0 t h1 h).2, fun j hj => ⟨fl_tur_a1 t h1 h j hj, fl_tur_a2 t h1 h j hj⟩⟩
theorem fl_rg_all : ∀ j, j < 40 → fl_isb (73 + 2 * j) 6 = true ∧ fl_cap (73 + 2 * j) = 20 := by decide +kernel
theorem fl_gI_of {o c k : Nat} {l : List Nat} (h : fl_sh o = (0, c, l)) (hk : l[k]? = some 0) : fl_gI o c k := by
  simp [fl_gI, fl_gIb, h, hk]
theorem fl_gR_of {o c k q : Nat} {l : List Nat} {K : Nat → Prop} (h : fl_sh o = (0, c, l)) (hk : l[k]? = some (q + 2)) (hK : K q) : fl_gR fl_sh o c k K := by
  simp only [fl_gR, h, hk]
  exact ⟨trivial, hK⟩
theorem fl_aI_of {a t n : Nat} {K : Nat → Prop} (h : fl_sh a = (1, t, [n])) (hK : K n) : fl_aI fl_sh a t K := by
  simp only [fl_aI, h]
  exact ⟨trivial, hK⟩
section FLR
variable {r b t : Nat} {K : Nat → Prop}
theorem rw_I (h : fl_row r) : fl_gI r 6 1 := fl_gI_of (fl_row_all r (fl_lt h) h).1 rfl
theorem rw_R (h : fl_row r) (hK : K (r + 1)) : fl_gR fl_sh r 6 0 K := fl_gR_of (fl_row_all r (fl_lt h) h).1 rfl hK
theorem rw_A (h : fl_row r) (hK : K (fl_cap r)) : fl_aI fl_sh (r + 1) 0 K := fl_aI_of (fl_row_all r (fl_lt h) h).2 hK
theorem rw_is (h : fl_row r) : fl_is r 6 := h
theorem nt_I3 (h : fl_net b) : fl_gI b 4 3 := fl_gI_of (fl_net_all b (fl_lt h) h).1 rfl
theorem nt_I4 (h : fl_net b) : fl_gI b 4 4 := fl_gI_of (fl_net_all b (fl_lt h) h).1 rfl
theorem nt_R0 (h : fl_net b) (hK : K (b + 1)) : fl_gR fl_sh b 4 0 K := fl_gR_of (fl_net_all b (fl_lt h) h).1 rfl hK
theorem nt_R1 (h : fl_net b) (hK : K (b + 2)) : fl_gR fl_sh b 4 1 K := fl_gR_of (fl_net_all b (fl_lt h) h).1 rfl hK
theorem nt_R2 (h : fl_net b) (hK : K (b + 3)) : fl_gR fl_sh b 4 2 K := fl_gR_of (fl_net_all b (fl_lt h) h).1 rfl hK
theorem nt_A0 (h : fl_net b) (hK : K 60) : fl_aI fl_sh (b + 1) 0 K := fl_aI_of (fl_net_all b (fl_lt h) h).2.1 hK
theorem nt_A1 (h : fl_net b) (hK : K 60) : fl_aI fl_sh (b + 2) 0 K := fl_aI_of (fl_net_all b (fl_lt h) h).2.2.1 hK
theorem nt_A2 (h : fl_net b) (hK : K 20) : fl_aI fl_sh (b + 3) 0 K := fl_aI_of (fl_net_all b (fl_lt h) h).2.2.2 hK
theorem nt_is (h : fl_net b) : fl_is b 4 := h
theorem tu_R (h : fl_tur t) (hK : K (t + 1)) : fl_gR fl_sh t 9 0 K := fl_gR_of (fl_tur_all t (fl_lt h) h).1 rfl hK
theorem tu_is (h : fl_tur t) : fl_is t 9 := h
theorem fl_in_lt {j : Int32} {n : Nat} (h : vp_in j n) : j.toNatClampNeg < n := Nat.not_le.mp fun q => h (Or.inr q)
theorem tu_A {K : Nat → Nat → Prop} (h : fl_tur t) (hK : K 20 (t + 2)) : fl_aR fl_sh (t + 1) K := by
  simp only [fl_aR, (fl_tur_all t (fl_lt h) h).2.1]
  exact hK
theorem tu_row {j : Int32} (h : fl_tur t) (hj : vp_in j 20) : fl_row (t + 2 + 2 * j.toNatClampNeg) := ((fl_tur_all t (fl_lt h) h).2.2 _ (fl_in_lt hj)).1
theorem tu_cap {j : Nat} (h : fl_tur t) (hj : j < 20) : fl_cap (t + 2 + 2 * j) = 20 := ((fl_tur_all t (fl_lt h) h).2.2 _ hj).2
theorem rg_row {j : Int32} (hj : vp_in j 40) : fl_row (73 + 2 * j.toNatClampNeg) := (fl_rg_all _ (fl_in_lt hj)).1
theorem rg_cap {j : Nat} (hj : j < 40) : fl_cap (73 + 2 * j) = 20 := (fl_rg_all _ hj).2
end FLR
theorem fl_c0 {d k : Nat} {av : List Value} {W : fl_W} {K K' : fl_W → Prop} (h : fl_cal d k av W (fl_q0 K)) (hk : ∀ W, K W → K' W) : fl_cal d k av W (fl_q0 K') := fl_cons h fun r W q => by
  cases r with
  | none => exact hk W q
  | some v => exact q.elim
theorem fl_c1 {d k : Nat} {av : List Value} {W : fl_W} {K K' : Int32 → fl_W → Prop} (h : fl_cal d k av W (fl_q1 K)) (hk : ∀ x W, K x W → K' x W) : fl_cal d k av W (fl_q1 K') := fl_cons h fun r W q => by
  cases r with
  | none => exact (show False from q).elim
  | some v => cases v <;> first | exact hk _ W q | exact (show False from q).elim
theorem fl_tsG {n : Nat} {x : Int32} {A : Prop} {B : Int → Prop} {os : Array Int} {hi : Int} (hhi : hi + 1 = n) (hn : os.size = n) (hs : n < 1000) (hc : ∀ (i : Nat) (h : i < os.size), x = Int32.ofNat i → B os[i]) (hd : (∀ i, i < n → ¬ x = Int32.ofNat i) → A) :
    mi_br (x.toInt < 0 ∨ hi < x.toInt) A (match os[(x.toInt - 0).toNat]? with
      | some o => B o
      | none => False) := by
  have hv : ∀ i : Nat, i < n → (Int32.ofNat i).toInt = i := fun i h => nI_toInt (by omega)
  refine ⟨fun h => hd fun i hi' e => ?_, fun h => ?_⟩
  · rw [e, hv i hi'] at h
    omega
  · have h1 : 0 ≤ x.toInt := by omega
    have h2 : x.toInt.toNat < n := by omega
    have h3 : x = Int32.ofNat x.toInt.toNat := Int32.toInt_inj.mp (by rw [hv _ h2]; omega)
    have h4 : x.toInt.toNat < os.size := by omega
    rw [Int.sub_zero, Array.getElem?_eq_getElem h4]
    exact hc _ h4 h3
theorem fl_ts3 {x : Int32} {A : Prop} {B : Int → Prop} {o0 o1 o2 : Int} (h0 : x = Int32.ofNat 0 → B o0) (h1 : x = Int32.ofNat 1 → B o1) (h2 : x = Int32.ofNat 2 → B o2) (hd : (¬ x = Int32.ofNat 0 ∧ ¬ x = Int32.ofNat 1 ∧ ¬ x = Int32.ofNat 2) → A) :
    mi_br (x.toInt < 0 ∨ 2 < x.toInt) A (match (#[o0, o1, o2] : Array Int)[(x.toInt - 0).toNat]? with
      | some o => B o
      | none => False) := by
  refine fl_tsG (n := 3) rfl rfl (by omega) (fun i h e => ?_) (fun h => hd ⟨h 0 (by omega), h 1 (by omega), h 2 (by omega)⟩)
  match i, h with
  | 0, _ => exact h0 e
  | 1, _ => exact h1 e
  | 2, _ => exact h2 e
theorem fl_ts6 {x : Int32} {A : Prop} {B : Int → Prop} {o0 o1 o2 o3 o4 o5 : Int} (h0 : x = Int32.ofNat 0 → B o0) (h1 : x = Int32.ofNat 1 → B o1) (h2 : x = Int32.ofNat 2 → B o2) (h3 : x = Int32.ofNat 3 → B o3) (h4 : x = Int32.ofNat 4 → B o4) (h5 : x = Int32.ofNat 5 → B o5) (hd : (¬ x = Int32.ofNat 0 ∧ ¬ x = Int32.ofNat 1 ∧ ¬ x = Int32.ofNat 2 ∧ ¬ x = Int32.ofNat 3 ∧ ¬ x = Int32.ofNat 4 ∧ ¬ x = Int32.ofNat 5) → A) :
    mi_br (x.toInt < 0 ∨ 5 < x.toInt) A (match (#[o0, o1, o2, o3, o4, o5] : Array Int)[(x.toInt - 0).toNat]? with
      | some o => B o
      | none => False) := by
  refine fl_tsG (n := 6) rfl rfl (by omega) (fun i h e => ?_) (fun h => hd ⟨h 0 (by omega), h 1 (by omega), h 2 (by omega), h 3 (by omega), h 4 (by omega), h 5 (by omega)⟩)
  match i, h with
  | 0, _ => exact h0 e
  | 1, _ => exact h1 e
  | 2, _ => exact h2 e
  | 3, _ => exact h3 e
  | 4, _ => exact h4 e
  | 5, _ => exact h5 e
