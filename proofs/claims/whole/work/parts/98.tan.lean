/-! ===== Tangle of the class: bits of a long; its methods over the small machine ===== -/
def lb (x : Int64) (i : Nat) : Bool := x.toBitVec.getLsbD i
theorem lb_ext {x y : Int64} (h : ∀ i, i < 64 → lb x i = lb y i) : x = y := Int64.toBitVec_inj.mp (BitVec.eq_of_getLsbD_eq (fun i hi => h i hi))
theorem lb_or (x y : Int64) (i : Nat) : lb (x ||| y) i = (lb x i || lb y i) := by unfold lb; rw [Int64.toBitVec_or, BitVec.getLsbD_or]
theorem lb_and (x y : Int64) (i : Nat) : lb (x &&& y) i = (lb x i && lb y i) := by unfold lb; rw [Int64.toBitVec_and, BitVec.getLsbD_and]
theorem lb_xor (x y : Int64) (i : Nat) : lb (x ^^^ y) i = (lb x i ^^ lb y i) := by unfold lb; rw [Int64.toBitVec_xor, BitVec.getLsbD_xor]
theorem lb_big {x : Int64} {i : Nat} (h : 64 ≤ i) : lb x i = false := BitVec.getLsbD_of_ge _ _ h
theorem lb_a1 : ∀ i, i < 64 → lb (-1) i = true := by decide +kernel
theorem lb_0 (i : Nat) : lb 0 i = false := BitVec.getLsbD_zero
theorem lb_1 : ∀ i, i < 64 → lb 1 i = decide (i = 0) := by decide +kernel
theorem lb_sl : ∀ n, n < 64 → (((nI n).toInt64 &&& 63).toBitVec.smod 64).toNat = n := by decide +kernel
theorem lb_shl (n : Nat) (hn : n < 64) (x : Int64) {i : Nat} (hi : i < 64) : lb (x <<< ((nI n).toInt64 &&& 63)) i = (decide (n ≤ i) && lb x (i - n)) := by
  unfold lb
  rw [Int64.toBitVec_shiftLeft]
  show (x.toBitVec <<< (((nI n).toInt64 &&& 63).toBitVec.smod 64).toNat).getLsbD i = _
  rw [lb_sl n hn, BitVec.getLsbD_shiftLeft]
  rcases Nat.lt_or_ge i n with h | h
  · simp [h, Nat.not_le.mpr h]
  · simp [hi, h, Nat.not_lt.mpr h]
theorem lb_sshr (n : Nat) (hn : n < 64) (x : Int64) {i : Nat} (hi : i < 64) : lb (x >>> ((nI n).toInt64 &&& 63)) i = if n + i < 64 then lb x (n + i) else lb x 63 := by
  unfold lb
  rw [Int64.toBitVec_shiftRight]
  show (x.toBitVec.sshiftRight (((nI n).toInt64 &&& 63).toBitVec.smod 64).toNat).getLsbD i = _
  rw [lb_sl n hn, BitVec.getLsbD_sshiftRight, BitVec.msb_eq_getLsbD_last]
  simp [hi]
theorem lb_z {x : Int64} : x = 0 ↔ ∀ i, i < 64 → lb x i = false := ⟨fun h i _ => by rw [h]; exact lb_0 i, fun h => lb_ext fun i hi => by rw [h i hi, lb_0]⟩
theorem lb_one {v : Nat} (hv : v < 64) {i : Nat} (hi : i < 64) : lb ((1 : Int64) <<< ((nI v).toInt64 &&& 63)) i = decide (i = v) := by
  rw [lb_shl v hv 1 hi, lb_1 (i - v) (by omega)]
  by_cases h : i = v
  · simp [h]
  · by_cases h2 : v ≤ i
    · simp [h, h2]; omega
    · simp [h, h2]
theorem lb_ask {v : Nat} (hv : v < 64) (x : Int64) : ((x >>> ((nI v).toInt64 &&& 63)) &&& 1) = 0 ↔ lb x v = false := by
  rw [lb_z]
  constructor
  · intro h
    have := h 0 (by decide)
    rw [lb_and, lb_sshr v hv x (by decide), lb_1 0 (by decide), if_pos (by omega)] at this
    simpa using this
  · intro h i hi
    rw [lb_and, lb_1 i hi]
    by_cases q : i = 0
    · subst q
      rw [lb_sshr v hv x (by decide), if_pos (by omega), Nat.add_zero, h]; rfl
    · simp [q]
/-! the memory with another long -/
theorem fl_no1 : ∀ i, i < 280 → i ≠ 208 → (1 : Nat) ∉ (fl_sh i).2.2 ∨ (fl_sh i).1 ≠ 0 := by decide +kernel
theorem fl_fl_g {g x : Int64} {Wi : Nat → Int32} : ∀ {l : List Nat} {k : Nat}, (1 : Nat) ∉ l → fl_fl g Wi k l = fl_fl x Wi k l
  | [], _, _ => rfl
  | q :: l, k, h => by
    have h1 : q ≠ 1 := fun e => h (by simp [e])
    have h2 : (1 : Nat) ∉ l := fun e => h (List.mem_cons_of_mem _ e)
    have ih := fl_fl_g (g := g) (x := x) (Wi := Wi) (k := k + 1) h2
    match q, h1 with
    | 0, _ => show _ :: fl_fl g Wi (k + 1) l = _ :: fl_fl x Wi (k + 1) l; rw [ih]
    | 1, h1 => exact absurd rfl h1
    | a + 2, _ => show _ :: fl_fl g Wi (k + 1) l = _ :: fl_fl x Wi (k + 1) l; rw [ih]
theorem fl_cell_g {g x : Int64} {W : fl_W} {i : Nat} (h : i ≠ 208) : fl_cell g W i = fl_cell x W i := by
  unfold fl_cell
  rcases Nat.lt_or_ge i 280 with q | q
  · have := fl_no1 i q h
    split
    · rename_i c l e
      rw [e] at this
      rw [fl_fl_g (this.resolve_right fun z => z rfl)]
    · rfl
    · rfl
    · rfl
  · rw [fl_big q]; rfl
theorem fl_up_g {g x : Int64} {W : fl_W} : mi_up (fl_mk g W) 208 (.inr (8, [.ref 209, .ref 211, .long x])) = fl_mk x W := by
  unfold mi_up fl_mk
  refine Prod.ext rfl (funext fun i => ?_)
  by_cases e : i = 208
  · subst e; rfl
  · simp only [if_neg e]
    exact fl_cell_g e
theorem mi_v0 {d k : Nat} {av : List Value} {g : Int64} {W : fl_W} {K : mi_R} (h : fl_cal d k av W (fl_q0 fun W' => K none (fl_mk g W'))) : mi_cal d k av (fl_mk g W) K :=
  mi_cal_cons (fl_calS g d k av W _ h) fun r M ⟨W', e, q⟩ => by
    subst e
    cases r with
    | none => exact q
    | some _ => exact q.elim
theorem mi_v1 {d k : Nat} {av : List Value} {g : Int64} {W : fl_W} {K : mi_R} (h : fl_cal d k av W (fl_q1 fun x W' => K (some (.int x)) (fl_mk g W'))) : mi_cal d k av (fl_mk g W) K :=
  mi_cal_cons (fl_calS g d k av W _ h) fun r M ⟨W', e, q⟩ => by
    subst e
    match r, q with
    | some (.int x), q => exact q
def hm_81 (d : Nat) (Q : mi_R) (i : Int32) (g : Int64) (W : fl_W) : Prop := mi_WP (mi_cal d) 81 [10] Q 10 [some (.ref 208), some (.ref 1), some (.ref 5), some (.int i)] [] 0 0 (fl_mk g W)
theorem sm_81_10 {d : Nat} {Q : mi_R} (i : Int32) (g : Int64) (W : fl_W) (h : mi_br (i < W 1 4) (mi_br (lg_cmp ((g >>> (i.toInt64 &&& 63)) &&& 1) 0 = 0) (fl_cal d 44 [.ref 1, .int i] W (fl_q1 fun x1 W1 => fl_cal d 45 [.ref 1, .int i] W1 (fl_q1 fun x2 W2 => fl_cal d 50 [.ref 5, .int x1, .int x2] W2 (fl_q0 fun W3 => hm_81 d Q (i + Int32.ofInt 1) g W3)))) (hm_81 d Q (i + Int32.ofInt 1) g W)) (Q none (fl_mk g W))) : hm_81 d Q i g W :=
  mi_fold ⟨rfl, ⟨fun q => have h := h.1 q; ⟨rfl, ⟨fun q => have h := h.1 q; ⟨Nat.le_of_ble_eq_true rfl, rfl, rfl, ⟨rfl, trivial⟩, mi_v1 (fl_c1 h fun x1 W1 h => ⟨Nat.le_of_ble_eq_true rfl, rfl, rfl, ⟨rfl, trivial⟩, mi_v1 (fl_c1 h fun x2 W2 h => ⟨Nat.le_of_ble_eq_true rfl, rfl, rfl, ⟨rfl, trivial⟩, mi_v0 h⟩)⟩)⟩, fun q => h.2 q⟩⟩, fun q => ⟨rfl, Nat.zero_le _, Nat.zero_le _, h.2 q⟩⟩⟩
theorem sm_81 {d : Nat} {Q : mi_R} (g : Int64) (W : fl_W) (h : fl_cal d 40 [.ref 5, .int (W 1 3)] W (fl_q0 fun W1 => hm_81 d Q (Int32.ofInt 0) g W1)) : mi_cal (d + 1) 81 [.ref 208, .ref 1, .ref 5] (fl_mk g W) Q :=
  ⟨[10], Q, fun _ _ h => h, mi_fold ⟨rfl, ⟨Nat.le_of_ble_eq_true rfl, rfl, rfl, ⟨rfl, trivial⟩, mi_v0 (fl_c0 h fun W1 h => ⟨Nat.le_of_ble_eq_true rfl, h⟩)⟩⟩⟩
theorem hm_up {C : mi_C} {k : Nat} {cuts : List Nat} {Q : mi_R} {pc kc ks : Nat} {L : mi_L} {S : List Value} {g x : Int64} {W : fl_W} (h : mi_WP C k cuts Q pc L S kc ks (fl_mk x W)) : mi_WP C k cuts Q pc L S kc ks (mi_up (fl_mk g W) 208 (.inr (8, [.ref 209, .ref 211, .long x]))) := by
  rw [fl_up_g]; exact h
def hm_80 (pc d : Nat) (Q : mi_R) (i : Int32) (g : Int64) (W : fl_W) : Prop := mi_WP (mi_cal d) 80 [5, 15, 37, 68, 99] Q pc [some (.ref 208), some (.ref 1), some (.ref 5), some (.ref 9), some (.int i)] [] 0 0 (fl_mk g W)
theorem sm_80_68 {d : Nat} {Q : mi_R} (i : Int32) (g : Int64) (W : fl_W) (h : fl_cal d 65 [.ref 209, .int i] W (fl_q0 fun W1 => hm_80 15 d Q (i + Int32.ofInt 1) g W1)) : hm_80 68 d Q i g W :=
  mi_fold ⟨rfl, ⟨Nat.le_of_ble_eq_true rfl, rfl, rfl, ⟨rfl, trivial⟩, mi_v0 h⟩⟩
theorem sm_80_37 {d : Nat} {Q : mi_R} (i : Int32) (g : Int64) (W : fl_W) (h : mi_cal d 81 [.ref 208, .ref 1, .ref 5] (fl_mk g W) fun r M => r = none ∧ ∃ W1, M = fl_mk g W1 ∧ fl_cal d 27 [.ref 9, .ref 5] W1 (fl_q1 fun x1 W2 => mi_br (x1 = 0) (hm_80 15 d Q (i + Int32.ofInt 1) g W2) (hm_80 68 d Q i (g &&& ((1 <<< (i.toInt64 &&& 63)) ^^^ (-1))) W2))) : hm_80 37 d Q i g W :=
  mi_fold ⟨Nat.le_of_ble_eq_true rfl, rfl, rfl, ⟨rfl, trivial⟩, mi_cal_cons h fun r M ⟨e, W1, e1, h⟩ => by
    subst e e1
    exact ⟨Nat.le_of_ble_eq_true rfl, rfl, rfl, ⟨rfl, trivial⟩, mi_v1 (fl_c1 h fun x1 W2 h => ⟨fun q => h.1 q, fun q => ⟨rfl, ⟨rfl, trivial, ⟨rfl, ⟨Nat.le_of_ble_eq_true rfl, hm_up (h.2 q)⟩⟩⟩⟩⟩)⟩⟩
theorem sm_80_99 {d : Nat} {Q : mi_R} (i : Int32) (g : Int64) (W : fl_W) (h : mi_br (i < W 5 3) (fl_cal d 46 [.ref 5, .int i] W (fl_q1 fun x1 W1 => fl_cal d 191 [.int x1] W1 (fl_q1 fun x2 W2 => mi_br (x2 < Int32.ofInt 3) (hm_80 99 d Q (i + Int32.ofInt 1) g W2) (fl_cal d 65 [.ref 211, .int i] W2 (fl_q0 fun W3 => hm_80 99 d Q (i + Int32.ofInt 1) g W3))))) (Q none (fl_mk g W))) : hm_80 99 d Q i g W :=
  mi_fold ⟨rfl, ⟨fun q => have h := h.1 q; ⟨Nat.le_of_ble_eq_true rfl, rfl, rfl, ⟨rfl, trivial⟩, mi_v1 (fl_c1 h fun x1 W1 h => ⟨Nat.le_of_ble_eq_true rfl, rfl, rfl, mi_v1 (fl_c1 h fun x2 W2 h => ⟨fun q => h.1 q, fun q => ⟨rfl, ⟨Nat.le_of_ble_eq_true rfl, rfl, rfl, ⟨rfl, trivial⟩, mi_v0 (h.2 q)⟩⟩⟩)⟩)⟩, fun q => ⟨rfl, Nat.zero_le _, Nat.zero_le _, h.2 q⟩⟩⟩
theorem sm_80_15 {d : Nat} {Q : mi_R} (i : Int32) (g : Int64) (W : fl_W) (h : mi_br (i < W 1 4) (hm_80 37 d Q i (g ||| (1 <<< (i.toInt64 &&& 63))) W) (mi_cal d 81 [.ref 208, .ref 1, .ref 5] (fl_mk g W) fun r M => r = none ∧ ∃ W1, M = fl_mk g W1 ∧ fl_cal d 64 [.ref 211] W1 (fl_q0 fun W2 => hm_80 99 d Q (Int32.ofInt 0) g W2))) : hm_80 15 d Q i g W :=
  mi_fold ⟨rfl, ⟨fun q => ⟨rfl, ⟨rfl, trivial, ⟨rfl, ⟨Nat.le_of_ble_eq_true rfl, hm_up (h.1 q)⟩⟩⟩⟩, fun q => ⟨Nat.le_of_ble_eq_true rfl, rfl, rfl, ⟨rfl, trivial⟩, mi_cal_cons (h.2 q) fun r M ⟨e, W1, e1, h⟩ => by
    subst e e1
    exact ⟨rfl, ⟨Nat.le_of_ble_eq_true rfl, rfl, rfl, ⟨rfl, trivial⟩, mi_v0 (fl_c0 h fun W2 h => ⟨Nat.le_of_ble_eq_true rfl, h⟩)⟩⟩⟩⟩⟩
def hm_80a (d : Nat) (Q : mi_R) (g : Int64) (W : fl_W) : Prop := mi_WP (mi_cal d) 80 [5, 15, 37, 68, 99] Q 5 [some (.ref 208), some (.ref 1), some (.ref 5), some (.ref 9), none] [] 0 0 (fl_mk g W)
theorem sm_80_5 {d : Nat} {Q : mi_R} (g : Int64) (W : fl_W) (h : fl_cal d 64 [.ref 209] W (fl_q0 fun W1 => hm_80 15 d Q (Int32.ofInt 0) g W1)) : hm_80a d Q g W :=
  mi_fold ⟨rfl, ⟨Nat.le_of_ble_eq_true rfl, rfl, rfl, ⟨rfl, trivial⟩, mi_v0 (fl_c0 h fun W1 h => ⟨Nat.le_of_ble_eq_true rfl, h⟩)⟩⟩
theorem sm_80 {d : Nat} {Q : mi_R} (g : Int64) (W : fl_W) (h : hm_80a d Q 0 W) : mi_cal (d + 1) 80 [.ref 208, .ref 1, .ref 5, .ref 9] (fl_mk g W) Q :=
  ⟨[5, 15, 37, 68, 99], Q, fun _ _ h => h, mi_fold ⟨trivial, ⟨rfl, ⟨Nat.le_of_ble_eq_true rfl, hm_up h⟩⟩⟩⟩
theorem fl_sh0 : fl_sh 0 = (0, 11, [3, 7, 11, 162, 204, 210, 215, 227, 0, 0, 0, 0, 0]) := rfl
theorem hm_up0 {C : mi_C} {k : Nat} {cuts : List Nat} {Q : mi_R} {pc kc ks : Nat} {L : mi_L} {S : List Value} {g : Int64} {x : Int32} {W : fl_W} (h : mi_WP C k cuts Q pc L S kc ks (fl_mk g (fl_uw W 0 9 x))) : mi_WP C k cuts Q pc L S kc ks (mi_up (fl_mk g W) 0 (.inr (11, (fl_fl g (W 0) 0 [3, 7, 11, 162, 204, 210, 215, 227, 0, 0, 0, 0, 0]).set 9 (.int x)))) := by
  rw [fl_up_o fl_sh0 rfl]; exact h
theorem sm_102_46 {d : Nat} {Q : mi_R} {g : Int64} {W : fl_W} (h : Q (some (.int (-1))) (fl_mk g W)) : mi_WP (mi_cal d) 102 [46] Q 46 [some (.ref 0)] [] 0 0 (fl_mk g W) :=
  mi_fold ⟨trivial, Nat.zero_le _, Nat.zero_le _, h⟩
theorem sm_102 {d : Nat} {Q : mi_R} (g : Int64) (W : fl_W) (h : fl_cal d 117 [.ref 0] W (fl_q1 fun x1 W1 => mi_br (x1 = 0) (mi_br (W1 0 9 = 0) (mi_cal d 80 [.ref 208, .ref 1, .ref 5, .ref 9] (fl_mk g W1) fun r M => r = none ∧ ∃ g' W2, M = fl_mk g' W2 ∧ Q (some (.int (-1))) (fl_mk g' (fl_uw W2 0 9 1))) (Q (some (.int (-1))) (fl_mk g W1))) (Q (some (.int (W1 202 4))) (fl_mk g W1)))) : mi_cal (d + 1) 102 [.ref 0] (fl_mk g W) Q :=
  ⟨[46], Q, fun _ _ h => h, mi_fold ⟨Nat.le_of_ble_eq_true rfl, rfl, rfl, ⟨rfl, trivial⟩, mi_v1 (fl_c1 h fun x1 W1 h => ⟨fun q => have h := h.1 q; ⟨rfl, ⟨fun q => ⟨rfl, ⟨rfl, ⟨rfl, ⟨rfl, ⟨Nat.le_of_ble_eq_true rfl, rfl, rfl, ⟨rfl, trivial⟩, mi_cal_cons (h.1 q) fun r M ⟨e, g', W2, e1, h⟩ => by
    subst e e1
    exact ⟨Or.inr rfl, ⟨rfl, ⟨Nat.le_of_ble_eq_true rfl, hm_up0 (sm_102_46 h)⟩⟩⟩⟩⟩⟩⟩⟩, fun q => sm_102_46 (h.2 q)⟩⟩, fun q => ⟨rfl, ⟨rfl, ⟨trivial, Nat.zero_le _, Nat.zero_le _, h.2 q⟩⟩⟩⟩)⟩⟩
