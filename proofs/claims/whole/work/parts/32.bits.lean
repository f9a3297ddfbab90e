/-! ===== bits (the first rows after the kit's family of bits) ===== -/
def sb (x : Int32) (i : Nat) : Bool := x.toBitVec.getLsbD i
theorem sb_ext {x y : Int32} (h : ∀ i, i < 32 → sb x i = sb y i) : x = y := Int32.toBitVec_inj.mp (BitVec.eq_of_getLsbD_eq (fun i hi => h i hi))
theorem sb_or (x y : Int32) (i : Nat) : sb (x ||| y) i = (sb x i || sb y i) := by unfold sb; rw [Int32.toBitVec_or, BitVec.getLsbD_or]
theorem sb_and (x y : Int32) (i : Nat) : sb (x &&& y) i = (sb x i && sb y i) := by unfold sb; rw [Int32.toBitVec_and, BitVec.getLsbD_and]
theorem sb_xor (x y : Int32) (i : Nat) : sb (x ^^^ y) i = (sb x i ^^ sb y i) := by unfold sb; rw [Int32.toBitVec_xor, BitVec.getLsbD_xor]
theorem sb_big {x : Int32} {i : Nat} (h : 32 ≤ i) : sb x i = false := BitVec.getLsbD_of_ge _ _ h
theorem sb_a1 : ∀ i, i < 32 → sb (-1) i = true := by decide +kernel
theorem sb_0 (i : Nat) : sb 0 i = false := BitVec.getLsbD_zero
theorem sb_1 : ∀ i, i < 32 → sb 1 i = decide (i = 0) := by decide +kernel
theorem sb_sl : ∀ n, n < 32 → ((nI n &&& 31).toBitVec.smod 32).toNat = n := by decide +kernel
theorem sb_shl (n : Nat) (hn : n < 32) (x : Int32) {i : Nat} (hi : i < 32) : sb (x <<< (nI n &&& 31)) i = (decide (n ≤ i) && sb x (i - n)) := by
  unfold sb
  rw [Int32.toBitVec_shiftLeft]
  show (x.toBitVec <<< ((nI n &&& 31).toBitVec.smod 32).toNat).getLsbD i = _
  rw [sb_sl n hn, BitVec.getLsbD_shiftLeft]
  rcases Nat.lt_or_ge i n with h | h
  · simp [h, Nat.not_le.mpr h]
  · simp [hi, h, Nat.not_lt.mpr h]
theorem sb_sshr (n : Nat) (hn : n < 32) (x : Int32) {i : Nat} (hi : i < 32) : sb (x >>> (nI n &&& 31)) i = if n + i < 32 then sb x (n + i) else sb x 31 := by
  unfold sb
  rw [Int32.toBitVec_shiftRight]
  show (x.toBitVec.sshiftRight ((nI n &&& 31).toBitVec.smod 32).toNat).getLsbD i = _
  rw [sb_sl n hn, BitVec.getLsbD_sshiftRight, BitVec.msb_eq_getLsbD_last]
  simp [hi]
theorem sb_not (x : Int32) {i : Nat} (hi : i < 32) : sb (x ^^^ (-1)) i = !sb x i := by rw [sb_xor, sb_a1 i hi]; cases sb x i <;> rfl
theorem sb_z {x : Int32} : x = 0 ↔ ∀ i, i < 32 → sb x i = false := ⟨fun h i _ => by rw [h]; exact sb_0 i, fun h => sb_ext fun i hi => by rw [h i hi, sb_0]⟩
/-- the bit v, v < 32 -/
theorem sb_one {v : Nat} (hv : v < 32) (i : Nat) : sb ((1 : Int32) <<< (nI v &&& 31)) i = decide (i = v) := by
  rcases Nat.lt_or_ge i 32 with hi | hi
  · rw [sb_shl v hv 1 hi, sb_1 (i - v) (by omega)]
    by_cases h : i = v
    · simp [h]
    · by_cases h2 : v ≤ i
      · simp [h, h2]; omega
      · simp [h, h2]
  · rw [sb_big hi, decide_eq_false (by omega)]
/-- asking for the bit v -/
theorem sb_ask {v : Nat} (hv : v < 32) (x : Int32) : ((x >>> (nI v &&& 31)) &&& 1) = 0 ↔ sb x v = false := by
  rw [sb_z]
  constructor
  · intro h
    have := h 0 (by omega)
    rw [sb_and, sb_sshr v hv x (by omega), sb_1 0 (by omega), if_pos (by omega)] at this
    simpa using this
  · intro h i hi
    rw [sb_and, sb_1 i hi]
    by_cases h0 : i = 0
    · subst h0
      rw [sb_sshr v hv x hi, if_pos (by omega)]
      simpa using h
    · simp [h0]
theorem sb_ask1 {v : Nat} (hv : v < 32) (x : Int32) : ((x >>> (nI v &&& 31)) &&& 1) = 1 ↔ sb x v = true := by
  constructor
  · intro h
    cases hb : sb x v with
    | true => rfl
    | false => rw [(sb_ask hv x).mpr hb] at h; exact absurd h (by decide)
  · intro h
    apply sb_ext
    intro i hi
    rw [sb_and, sb_1 i hi]
    by_cases h0 : i = 0
    · subst h0
      rw [sb_sshr v hv x hi, if_pos (by omega)]
      simpa using h
    · simp [h0]
theorem sb_nI {n i : Nat} (hn : n < 2 ^ 32) : sb (nI n) i = n.testBit i := by
  unfold sb
  rw [← BitVec.testBit_toNat, pk_tn hn]
/-- the bits of a vertex: none for what is none -/
theorem sb_bit {v : Nat} (hv : v < 20) (i : Nat) : sb (bitI (nI v)) i = decide (i = v) := by
  rw [bitI, if_neg (nI_pos (by omega)), if_pos (nI_lt hv (by omega))]
  exact sb_one (by omega) i
theorem bitI_m : bitI (-1) = 0 := by rw [bitI, if_pos (by decide)]
/-! how many bits -/
def cnt (p : Nat → Bool) : Nat → Nat
  | 0 => 0
  | k + 1 => cnt p k + (if p k then 1 else 0)
theorem cnt_congr {p q : Nat → Bool} : ∀ {n : Nat}, (∀ i, i < n → p i = q i) → cnt p n = cnt q n
  | 0, _ => rfl
  | n + 1, h => by
    rw [cnt, cnt, cnt_congr (fun i hi => h i (by omega)), h n (by omega)]
theorem cnt_add (p : Nat → Bool) (a : Nat) : ∀ b, cnt p (a + b) = cnt p a + cnt (fun i => p (a + i)) b
  | 0 => rfl
  | b + 1 => by
    rw [← Nat.add_assoc, cnt, cnt_add p a b, cnt]
    omega
theorem cnt_le (p : Nat → Bool) : ∀ n, cnt p n ≤ n
  | 0 => Nat.le_refl _
  | n + 1 => by
    have := cnt_le p n
    rw [cnt]
    split <;> omega
theorem pc_L {a y m M k : Nat} (ha : a < 2 ^ 8) (hk : k ≤ 8) (hm : m < 2 ^ (8 - k)) : ((2 ^ 8 * y + a) / 2 ^ k) &&& (2 ^ 8 * M + m) = 2 ^ 8 * ((y / 2 ^ k) &&& M) + ((a / 2 ^ k) &&& m) := by
  have hm8 : m < 2 ^ 8 := Nat.lt_of_lt_of_le hm (Nat.pow_le_pow_right (by omega) (by omega))
  apply Nat.eq_of_testBit_eq
  intro j
  rw [Nat.testBit_and, Nat.testBit_div_two_pow, Nat.testBit_two_pow_mul_add _ ha, Nat.testBit_two_pow_mul_add _ hm8, Nat.testBit_two_pow_mul_add _ (Nat.and_lt_two_pow _ hm8)]
  by_cases hj : j < 8
  · simp only [hj, if_true, Nat.testBit_and, Nat.testBit_div_two_pow]
    by_cases hjk : j + k < 8
    · simp only [hjk, if_true]
    · have : m.testBit j = false := Nat.testBit_lt_two_pow (Nat.lt_of_lt_of_le hm (Nat.pow_le_pow_right (by omega) (by omega)))
      simp [this]
  · have h2 : ¬ j + k < 8 := by omega
    simp only [hj, h2, if_false, Nat.testBit_and, Nat.testBit_div_two_pow]
    rw [show j + k - 8 = j - 8 + k by omega]
def pc_1 (m n : Nat) : Nat := n - ((n / 2 ^ 1) &&& m)
def pc_2 (m n : Nat) : Nat := ((n / 2 ^ 0) &&& m) + ((n / 2 ^ 2) &&& m)
theorem pc_1L {a y M : Nat} (ha : a < 2 ^ 8) : pc_1 (2 ^ 8 * M + 85) (2 ^ 8 * y + a) = 2 ^ 8 * pc_1 M y + pc_1 85 a := by
  have h1 : (a / 2 ^ 1) &&& 85 ≤ a / 2 ^ 1 := Nat.and_le_left
  have h2 : (y / 2 ^ 1) &&& M ≤ y / 2 ^ 1 := Nat.and_le_left
  unfold pc_1
  rw [pc_L ha (by omega) (by decide)]
  omega
theorem pc_2L {a y M : Nat} (ha : a < 2 ^ 8) : pc_2 (2 ^ 8 * M + 51) (2 ^ 8 * y + a) = 2 ^ 8 * pc_2 M y + pc_2 51 a := by
  unfold pc_2
  rw [pc_L ha (by omega) (by decide), pc_L ha (by omega) (by decide)]
  omega
def pc_3 (n : Nat) : Nat := (n + n / 16) &&& 252645135
def pc_4 (n : Nat) : Nat := n + n / 256
def pc_5 (n : Nat) : Nat := n + n / 65536
theorem pc_byte : ∀ a, a < 256 → pc_1 85 a < 256 ∧ pc_2 51 (pc_1 85 a) % 16 ≤ 4 ∧ pc_2 51 (pc_1 85 a) ≤ 68 ∧ pc_2 51 (pc_1 85 a) % 16 + pc_2 51 (pc_1 85 a) / 16 = cnt a.testBit 8 := by decide +kernel
theorem pc_top : ∀ a, a < 16 → pc_1 21845 a < 256 ∧ pc_2 13107 (pc_1 21845 a) ≤ 4 ∧ pc_2 13107 (pc_1 21845 a) = cnt a.testBit 4 := by decide +kernel
theorem pc_end : ∀ a, a < 69 → a % 16 ≤ 4 → ∀ b, b < 69 → b % 16 ≤ 4 → ∀ c, c < 5 → (pc_5 (pc_4 (pc_3 (2 ^ 8 * (2 ^ 8 * c + b) + a)))) &&& 63 = (a % 16 + a / 16) + (b % 16 + b / 16) + c := by decide +kernel
theorem pc_all {n : Nat} (hn : n < 2 ^ 20) : (pc_5 (pc_4 (pc_3 (pc_2 858993459 (pc_1 1431655765 n))))) &&& 63 = cnt n.testBit 20 := by
  obtain ⟨a, b, c, rfl, ha, hb, hc⟩ : ∃ a b c, n = 2 ^ 8 * (2 ^ 8 * c + b) + a ∧ a < 2 ^ 8 ∧ b < 2 ^ 8 ∧ c < 16 := ⟨n % 256, n / 256 % 256, n / 65536, by omega, by omega, by omega, by omega⟩
  obtain ⟨a1, a2, a3, a4⟩ := pc_byte a ha
  obtain ⟨b1, b2, b3, b4⟩ := pc_byte b hb
  obtain ⟨c1, c2, c3⟩ := pc_top c hc
  have e1 : pc_1 1431655765 (2 ^ 8 * (2 ^ 8 * c + b) + a) = 2 ^ 8 * (2 ^ 8 * pc_1 21845 c + pc_1 85 b) + pc_1 85 a := by
    rw [show (1431655765 : Nat) = 2 ^ 8 * (2 ^ 8 * 21845 + 85) + 85 from rfl, pc_1L ha, pc_1L hb]
  have e2 : pc_2 858993459 (2 ^ 8 * (2 ^ 8 * pc_1 21845 c + pc_1 85 b) + pc_1 85 a) = 2 ^ 8 * (2 ^ 8 * pc_2 13107 (pc_1 21845 c) + pc_2 51 (pc_1 85 b)) + pc_2 51 (pc_1 85 a) := by
    rw [show (858993459 : Nat) = 2 ^ 8 * (2 ^ 8 * 13107 + 51) + 51 from rfl, pc_2L a1, pc_2L b1]
  rw [e1, e2, pc_end _ (by omega) a2 _ (by omega) b2 _ (by omega), a4, b4, c3]
  rw [show (20 : Nat) = 8 + (8 + 4) from rfl, cnt_add, cnt_add, ← Nat.add_assoc]
  congr 1
  · congr 1
    · apply cnt_congr
      intro i hi
      rw [Nat.testBit_two_pow_mul_add _ ha, if_pos hi]
    · apply cnt_congr
      intro i hi
      rw [Nat.testBit_two_pow_mul_add _ ha, if_neg (by omega), Nat.testBit_two_pow_mul_add _ hb, if_pos (by omega)]
      congr 1; omega
  · apply cnt_congr
    intro i hi
    rw [Nat.testBit_two_pow_mul_add _ ha, if_neg (by omega), Nat.testBit_two_pow_mul_add _ hb, if_neg (by omega)]
    congr 1; omega
def usI (x : Int32) (k : Nat) : Int32 := (x.toUInt32 >>> ((nI k).toUInt32 &&& Int32.toUInt32 31)).toInt32
def bc_1 (x : Int32) : Int32 := x - (usI x 1 &&& Int32.ofNat 1431655765)
def bc_2 (x : Int32) : Int32 := (bc_1 x &&& Int32.ofNat 858993459) + (usI (bc_1 x) 2 &&& Int32.ofNat 858993459)
def bc_3 (x : Int32) : Int32 := (bc_2 x + usI (bc_2 x) 4) &&& Int32.ofNat 252645135
def bc_4 (x : Int32) : Int32 := bc_3 x + usI (bc_3 x) 8
def bcI (x : Int32) : Int32 := (bc_4 x + usI (bc_4 x) 16) &&& nI 63
theorem st_bc {d : Nat} {Q : fl_R} {W : fl_W} {v : Int32} (h : Q (some (.int (bcI v))) W) : fl_cal (d + 1) 191 [.int v] W Q := sx_191 v W h
theorem nI_and (a b : Nat) : nI a &&& nI b = nI (a &&& b) := by
  apply sb_ext
  intro i hi
  show (nI a &&& nI b).toBitVec.getLsbD i = (nI (a &&& b)).toBitVec.getLsbD i
  have e : ∀ n : Nat, (nI n).toBitVec = BitVec.ofNat 32 n := fun n => rfl
  rw [Int32.toBitVec_and, BitVec.getLsbD_and, e, e, e, BitVec.getLsbD_ofNat, BitVec.getLsbD_ofNat, BitVec.getLsbD_ofNat, Nat.testBit_and]
  simp [hi]
theorem usI_N {n k : Nat} (hn : n < 2 ^ 32) (hk : k < 32) : usI (nI n) k = nI (n / 2 ^ k) := by
  have : ∀ k, k < 32 → (((nI k).toUInt32 &&& Int32.toUInt32 31).toBitVec % 32).toNat = k := by decide +kernel
  exact pk_ushrN hn (nI k) k (this k hk)
theorem pc_1le (m n : Nat) : pc_1 m n ≤ n := Nat.sub_le _ _
theorem bcI_N {n : Nat} (hn : n < 2 ^ 20) : bcI (nI n) = nI (cnt n.testBit 20) := by
  have h1 : bc_1 (nI n) = nI (pc_1 1431655765 n) := by
    unfold bc_1
    rw [usI_N (by omega) (by omega), show Int32.ofNat 1431655765 = nI 1431655765 from rfl, nI_and, pk_sub]
    · rfl
    · exact Nat.le_trans Nat.and_le_left (Nat.div_le_self _ _)
  have l1 := pc_1le 1431655765 n
  have h2 : bc_2 (nI n) = nI (pc_2 858993459 (pc_1 1431655765 n)) := by
    unfold bc_2
    rw [h1, usI_N (by omega) (by omega), show Int32.ofNat 858993459 = nI 858993459 from rfl, nI_and, nI_and, nI_add, pc_2, Nat.pow_zero, Nat.div_one]
  have l2 : pc_2 858993459 (pc_1 1431655765 n) < 2 ^ 22 := by
    have a1 : (pc_1 1431655765 n / 2 ^ 0) &&& 858993459 ≤ pc_1 1431655765 n / 2 ^ 0 := Nat.and_le_left
    have a2 : (pc_1 1431655765 n / 2 ^ 2) &&& 858993459 ≤ pc_1 1431655765 n / 2 ^ 2 := Nat.and_le_left
    unfold pc_2
    omega
  have h3 : bc_3 (nI n) = nI (pc_3 (pc_2 858993459 (pc_1 1431655765 n))) := by
    unfold bc_3
    rw [h2, usI_N (by omega) (by omega), show Int32.ofNat 252645135 = nI 252645135 from rfl, nI_add, nI_and]
    rfl
  have l3 : pc_3 (pc_2 858993459 (pc_1 1431655765 n)) < 2 ^ 23 := by
    have a1 : (pc_2 858993459 (pc_1 1431655765 n) + pc_2 858993459 (pc_1 1431655765 n) / 16) &&& 252645135 ≤ pc_2 858993459 (pc_1 1431655765 n) + pc_2 858993459 (pc_1 1431655765 n) / 16 := Nat.and_le_left
    unfold pc_3
    omega
  have h4 : bc_4 (nI n) = nI (pc_4 (pc_3 (pc_2 858993459 (pc_1 1431655765 n)))) := by
    unfold bc_4
    rw [h3, usI_N (by omega) (by omega), nI_add]
    rfl
  have l4 : pc_4 (pc_3 (pc_2 858993459 (pc_1 1431655765 n))) < 2 ^ 24 := by unfold pc_4; omega
  unfold bcI
  rw [h4, usI_N (by omega) (by omega), nI_add, nI_and, ← pc_all hn]
  rfl
/-- a set of vertices as bits -/
def BS (x : Int32) (p : Nat → Bool) : Prop := ∀ i, i < 32 → sb x i = (decide (i < 20) && p i)
theorem sb_nat (x : Int32) : ∃ n, n < 2 ^ 32 ∧ x = nI n ∧ ∀ i, n.testBit i = sb x i := by
  have h1 : x.toBitVec.toNat < 2 ^ 32 := x.toBitVec.isLt
  have h2 : ∀ i, x.toBitVec.toNat.testBit i = sb x i := fun i => by unfold sb; rw [BitVec.testBit_toNat]
  exact ⟨_, h1, sb_ext fun i _ => by rw [sb_nI h1, h2], h2⟩
theorem BS.nat {x : Int32} {p : Nat → Bool} (h : BS x p) : ∃ n, n < 2 ^ 20 ∧ x = nI n ∧ ∀ i, i < 20 → n.testBit i = p i := by
  obtain ⟨n, h1, h2, h3⟩ := sb_nat x
  refine ⟨n, Nat.lt_pow_two_of_testBit n fun i hi => ?_, h2, fun i hi => ?_⟩
  · rw [h3]
    rcases Nat.lt_or_ge i 32 with q | q
    · rw [h i q, decide_eq_false (by omega)]; rfl
    · exact sb_big q
  · rw [h3, h i (by omega), decide_eq_true hi]; rfl
/-- the low bits, whatever stands above -/
def BT (x : Int32) (p : Nat → Bool) : Prop := ∀ i, i < 20 → sb x i = p i
theorem BS.lo {x : Int32} {p : Nat → Bool} (h : BS x p) : BT x p := fun i hi => by rw [h i (by omega), decide_eq_true hi]; rfl
theorem BS.congr {x : Int32} {p q : Nat → Bool} (h : BS x p) (e : ∀ i, i < 20 → p i = q i) : BS x q := fun i hi => by
  rw [h i hi]
  by_cases h2 : i < 20
  · rw [e i h2]
  · simp [h2]
theorem BT.congr {x : Int32} {p q : Nat → Bool} (h : BT x p) (e : ∀ i, i < 20 → p i = q i) : BT x q := fun i hi => by rw [h i hi, e i hi]
theorem BS.and {x y : Int32} {p q : Nat → Bool} (h : BS x p) (g : BT y q) : BS (x &&& y) (fun i => p i && q i) := fun i hi => by
  rw [sb_and, h i hi]
  by_cases h2 : i < 20
  · simp [h2, g i h2]
  · simp [h2]
theorem BS.and' {x y : Int32} {p q : Nat → Bool} (h : BT x p) (g : BS y q) : BS (x &&& y) (fun i => p i && q i) := fun i hi => by
  rw [sb_and, g i hi]
  by_cases h2 : i < 20
  · simp [h2, h i h2]
  · simp [h2]
theorem BT.and {x y : Int32} {p q : Nat → Bool} (h : BT x p) (g : BT y q) : BT (x &&& y) (fun i => p i && q i) := fun i hi => by rw [sb_and, h i hi, g i hi]
theorem BS.or {x y : Int32} {p q : Nat → Bool} (h : BS x p) (g : BS y q) : BS (x ||| y) (fun i => p i || q i) := fun i hi => by
  rw [sb_or, h i hi, g i hi]
  by_cases h2 : i < 20 <;> simp [h2]
theorem BT.or {x y : Int32} {p q : Nat → Bool} (h : BT x p) (g : BT y q) : BT (x ||| y) (fun i => p i || q i) := fun i hi => by rw [sb_or, h i hi, g i hi]
theorem BT.not {x : Int32} {p : Nat → Bool} (h : BT x p) : BT (x ^^^ (-1)) (fun i => !p i) := fun i hi => by rw [sb_not x (by omega), h i hi]
theorem BS.zero : BS 0 (fun _ => false) := fun i _ => by rw [sb_0]; simp
theorem BS.bit {v : Nat} (hv : v < 20) : BS (bitI (nI v)) (fun i => decide (i = v)) := fun i hi => by
  rw [sb_bit hv]
  by_cases h : i = v
  · simp [h, hv]
  · simp [h]
theorem BS.one {v : Nat} (hv : v < 20) : BS ((1 : Int32) <<< (nI v &&& 31)) (fun i => decide (i = v)) := fun i hi => by
  rw [sb_one (by omega)]
  by_cases h : i = v
  · simp [h, hv]
  · simp [h]
theorem BS.eq {x y : Int32} {p q : Nat → Bool} (h : BS x p) (g : BS y q) : x = y ↔ ∀ i, i < 20 → p i = q i := by
  constructor
  · intro e i hi
    rw [← h.lo i hi, ← g.lo i hi, e]
  · intro e
    exact sb_ext fun i hi => by rw [(h.congr e) i hi, g i hi]
theorem BS.z {x : Int32} {p : Nat → Bool} (h : BS x p) : x = 0 ↔ ∀ i, i < 20 → p i = false := h.eq BS.zero
theorem BS.pc {x : Int32} {p : Nat → Bool} (h : BS x p) : bcI x = nI (cnt p 20) := by
  obtain ⟨n, h1, rfl, h3⟩ := h.nat
  rw [bcI_N h1, cnt_congr h3]
theorem bc_low : ∀ k, k ≤ 20 → 2 ^ k - 1 < 2 ^ 20 ∧ cnt (2 ^ k - 1).testBit 20 = k := by decide +kernel
/-- the least of the bits -/
theorem bc_least {x : Int32} {k : Nat} (hk : k ≤ 20) (h1 : sb x k = true) (h2 : ∀ j, j < k → sb x j = false) : bcI ((x &&& (-x)) - nI 1) = nI k := by
  have e : x &&& (-x) = nI (2 ^ k) := by
    apply sb_ext
    intro i hi
    have hp : (2 : Nat) ^ k < 2 ^ 32 := Nat.pow_lt_pow_right (by omega) (by omega)
    rw [sb_nI hp, Nat.testBit_two_pow, sb_and]
    have hn : sb (-x) i = (sb x i ^^ decide (∃ j, j < i ∧ sb x j = true)) := by
      show (-x).toBitVec.getLsbD i = _
      rw [Int32.toBitVec_neg, BitVec.getLsbD_neg, decide_eq_true hi]
      rfl
    rw [hn]
    by_cases hik : i = k
    · subst hik
      have hno : ¬ ∃ j, j < i ∧ sb x j = true := fun ⟨j, g1, g2⟩ => by rw [h2 j g1] at g2; cases g2
      simp [h1, hno]
    · rcases Nat.lt_or_ge i k with q | q
      · simp [h2 i q, Ne.symm hik]
      · have hex : ∃ j, j < i ∧ sb x j = true := ⟨k, by omega, h1⟩
        simp [hex, Ne.symm hik]
  obtain ⟨g1, g2⟩ := bc_low k hk
  rw [e, pk_sub (Nat.one_le_two_pow), bcI_N g1, g2]
/-- whether an int is a place below n -/
def ixB (v : Int32) (n : Nat) : Bool := decide (0 ≤ v.toInt) && decide (v.toInt < (n : Int))
theorem ixB_iff {v : Int32} {n : Nat} : ixB v n = true ↔ vp_in v n := by
  rw [vp_in_iff, ixB, Bool.and_eq_true, decide_eq_true_iff, decide_eq_true_iff]
theorem ixB_N {k n : Nat} (hk : k < 2 ^ 31) : ixB (nI k) n = decide (k < n) := by
  rw [ixB, nI_toInt hk]
  by_cases h : k < n
  · simp [h]
  · simp [h]
theorem ixB_neg {v : Int32} {n : Nat} (h : v < 0) : ixB v n = false := by
  rw [i_lt, i_0] at h
  rw [ixB, decide_eq_false (by omega)]; rfl
theorem ixB_ge {v : Int32} {n : Nat} (hn : n < 2 ^ 31) (h : ¬ v < nI n) : ixB v n = false := by
  rw [i_lt, nI_toInt hn] at h
  rw [ixB, decide_eq_false (p := v.toInt < (n : Int)) (by omega), Bool.and_false]
theorem ixB_lt {v : Int32} {n : Nat} (hn : n < 2 ^ 31) (h0 : ¬ v < 0) (h : v < nI n) : ixB v n = true := by
  rw [i_lt, nI_toInt hn] at h
  rw [i_lt, i_0] at h0
  rw [ixB, decide_eq_true (by omega), decide_eq_true (by omega)]; rfl
theorem ixB_ex {v : Int32} {n : Nat} (hn : n < 2 ^ 31) (h : ixB v n = true) : ∃ k, k < n ∧ v = nI k := by
  rw [ixB_iff] at h
  exact vp_in_of h hn
section STAT
variable {d : Nat} {Q : fl_R} {W : fl_W}
theorem st_leastNo (h : Q (some (.int (-1))) W) : fl_cal (d + 2) 122 [.int 0] W Q := sx_122 0 W ⟨fun _ => h, fun q => absurd rfl q⟩
theorem st_least {x : Int32} {k : Nat} (hk : k ≤ 20) (h1 : sb x k = true) (h2 : ∀ j, j < k → sb x j = false) (h : Q (some (.int (nI k))) W) : fl_cal (d + 2) 122 [.int x] W Q := by
  refine sx_122 x W ⟨fun q => ?_, fun _ => st_bc ?_⟩
  · rw [q, sb_0] at h1; cases h1
  · show Q (some (.int (bcI ((x &&& (-x)) - nI 1)))) W
    rw [bc_least hk h1 h2]
    exact h
theorem st_can {v : Int32} (h : Q (some (.int (if ixB v 20 then 1 else 0))) W) : fl_cal (d + 1) 119 [.int v] W Q := by
  refine sx_119 v W ⟨fun q => ?_, fun q => ⟨fun q2 => ?_, fun q2 => ?_⟩⟩
  · rw [ixB_neg q] at h; exact h
  · rw [ixB_lt (n := 20) (by omega) q q2] at h; exact h
  · rw [ixB_ge (n := 20) (by omega) q2] at h; exact h
/-- whether v is one of the bits -/
def inI (x v : Int32) : Bool := ixB v 20 && sb x v.toNatClampNeg
theorem inI_N {x : Int32} {n : Nat} (hn : n < 20) : inI x (nI n) = sb x n := by
  rw [inI, ixB_N (by omega), decide_eq_true hn, nI_clamp (by omega)]; rfl
theorem st_in {x v : Int32} (h : Q (some (.int (if inI x v then 1 else 0))) W) : fl_cal (d + 1) 121 [.int x, .int v] W Q := by
  refine sx_121 x v W ⟨fun q => ?_, fun q => ⟨fun q2 => ?_, fun q2 => ?_⟩⟩
  · rw [inI, ixB_neg q] at h; exact h
  · obtain ⟨n, hn, rfl⟩ := i_nat (n := 20) q q2 (by omega)
    rw [inI_N hn] at h
    refine ⟨fun z => ?_, fun z => ?_⟩
    · rw [(sb_ask (by omega) x).mp z] at h; exact h
    · cases hb : sb x n with
      | false => exact absurd ((sb_ask (by omega) x).mpr hb) z
      | true => rw [hb] at h; exact h
  · rw [inI, ixB_ge (n := 20) (by omega) q2] at h; exact h
end STAT
