/-! ===== darts and faces ===== -/
def tlD (es : gE) (d : Nat) : Nat := if d % 2 = 0 then (es.getD (d / 2) (0, 0)).1 else (es.getD (d / 2) (0, 0)).2
def twD (d : Nat) : Nat := if d % 2 = 0 then d + 1 else d - 1
def hdD (es : gE) (d : Nat) : Nat := tlD es (twD d)
def dno (es : gE) (u v : Nat) : Nat := 2 * (eNo es u v).getD 0 + (if u < v then 0 else 1)
def nxD (es : gE) (R : Nat → List Nat) (d : Nat) : Nat := dno es (hdD es d) (nxtN (R (hdD es d)) (tlD es d))
def TOK (es : gE) (R : Nat → List Nat) : Prop := ∀ y, (R y).Nodup ∧ ∀ x, x ∈ R y ↔ adj es y x = true
theorem fwx_1 : ∀ d, d < 120 → nI d ^^^ Int32.ofInt 1 = nI (twD d) := by decide +kernel
theorem fwx_2 : ∀ d, d < 120 → nI d >>> (Int32.ofInt 1 &&& 31) = nI (d / 2) := by decide +kernel
theorem fwx_3 : ∀ d, d < 120 → nI d &&& Int32.ofInt 1 = nI (d % 2) := by decide +kernel
theorem fwx_4 : ∀ d, d < 120 → nI d / Int32.ofInt 2 = nI (d / 2) := by decide +kernel
theorem fwx_5 : ∀ d, d < 120 → nI d - nI d / Int32.ofInt 2 * Int32.ofInt 2 = nI (d % 2) := by decide +kernel
section DRT
variable {V : Nat} {es : gE} {R : Nat → List Nat}
theorem tw_lt {d m : Nat} (h : d < 2 * m) : twD d < 2 * m ∧ twD d / 2 = d / 2 := by
  unfold twD
  split <;> omega
theorem dart_ends {d : Nat} (hd : d < 2 * es.length) : ∃ g, es[d / 2]? = some g ∧ ((d % 2 = 0 ∧ tlD es d = g.1 ∧ hdD es d = g.2) ∨ (d % 2 = 1 ∧ tlD es d = g.2 ∧ hdD es d = g.1)) := by
  have hl : d / 2 < es.length := by omega
  refine ⟨es[d / 2], List.getElem?_eq_getElem hl, ?_⟩
  have e1 : es.getD (d / 2) (0, 0) = es[d / 2] := by rw [List.getD_eq_getElem?_getD, List.getElem?_eq_getElem hl]; rfl
  have e2 : es.getD (twD d / 2) (0, 0) = es[d / 2] := by rw [(tw_lt hd).2]; exact e1
  unfold hdD
  rcases Nat.mod_two_eq_zero_or_one d with h | h
  · refine Or.inl ⟨h, by rw [tlD, if_pos h, e1], ?_⟩
    rw [tlD, if_neg (by unfold twD; rw [if_pos h]; omega), e2]
  · refine Or.inr ⟨h, by rw [tlD, if_neg (by omega), e1], ?_⟩
    rw [tlD, if_pos (by unfold twD; rw [if_neg (by omega)]; omega), e2]
theorem dart_adj {d : Nat} (hd : d < 2 * es.length) : adj es (tlD es d) (hdD es d) = true := by
  obtain ⟨g, g1, g2⟩ := dart_ends hd
  rcases g2 with ⟨-, e1, e2⟩ | ⟨-, e1, e2⟩ <;> rw [e1, e2]
  · exact adj_iff.mpr (Or.inl (List.mem_of_getElem? g1))
  · exact adj_iff.mpr (Or.inr (List.mem_of_getElem? g1))
theorem dno_ok (hO : okE V es) {u v : Nat} (h : adj es u v = true) : dno es u v < 2 * es.length ∧ tlD es (dno es u v) = u ∧ hdD es (dno es u v) = v := by
  obtain ⟨j, hj⟩ : ∃ j, eNo es u v = some j := by
    rw [← eNo_adj hO] at h
    exact Option.isSome_iff_exists.mp h
  have hat := eNo_at hj
  have hjl := eNo_lt hj
  have hne := (adj_lt hO h).2.2
  have hd : dno es u v = 2 * j + (if u < v then 0 else 1) := by unfold dno; rw [hj]; rfl
  have hlt : dno es u v < 2 * es.length := by rw [hd]; split <;> omega
  refine ⟨hlt, ?_⟩
  obtain ⟨g, g1, g2⟩ := dart_ends hlt
  have hdiv : dno es u v / 2 = j := by rw [hd]; split <;> omega
  rw [hdiv, hat] at g1
  cases g1
  by_cases huv : u < v
  · rw [if_pos huv] at hd
    rcases g2 with ⟨m, e1, e2⟩ | ⟨m, e1, e2⟩
    · exact ⟨by rw [e1]; simp only; omega, by rw [e2]; simp only; omega⟩
    · omega
  · rw [if_neg huv] at hd
    rcases g2 with ⟨m, e1, e2⟩ | ⟨m, e1, e2⟩
    · omega
    · exact ⟨by rw [e1]; simp only; omega, by rw [e2]; simp only; omega⟩
theorem dart_inj (hO : okE V es) {d d' : Nat} (hd : d < 2 * es.length) (hd' : d' < 2 * es.length) (h1 : tlD es d = tlD es d') (h2 : hdD es d = hdD es d') : d = d' := by
  obtain ⟨g, g1, g2⟩ := dart_ends hd
  obtain ⟨f, f1, f2⟩ := dart_ends hd'
  have hg := hO.1 g (List.mem_of_getElem? g1)
  have hf := hO.1 f (List.mem_of_getElem? f1)
  have key : g = f ∧ d % 2 = d' % 2 := by
    rcases g2 with ⟨m, e1, e2⟩ | ⟨m, e1, e2⟩ <;> rcases f2 with ⟨m', e1', e2'⟩ | ⟨m', e1', e2'⟩
    · exact ⟨Prod.ext (by omega) (by omega), by omega⟩
    · omega
    · omega
    · exact ⟨Prod.ext (by omega) (by omega), by omega⟩
  rw [key.1] at g1
  have := (List.getElem?_inj (List.getElem?_eq_some_iff.mp g1).1 hO.2).mp (g1.trans f1.symm)
  omega
theorem nxtN_mem {l : List Nat} {x : Nat} (h : x ∈ l) : nxtN l x ∈ l := by
  have hl := List.idxOf_lt_length_of_mem h
  unfold nxtN
  split
  · rename_i q
    rw [List.getD_eq_getElem?_getD, List.getElem?_eq_getElem q]
    exact List.getElem_mem q
  · have h0 : 0 < l.length := by omega
    rw [List.getD_eq_getElem?_getD, List.getElem?_eq_getElem h0]
    exact List.getElem_mem h0
theorem nxtN_at {l : List Nat} {x : Nat} (h : x ∈ l) : l[(l.idxOf x + 1) % l.length]? = some (nxtN l x) := by
  have hl := List.idxOf_lt_length_of_mem h
  unfold nxtN
  split
  · rename_i q
    rw [Nat.mod_eq_of_lt q, List.getD_eq_getElem?_getD, List.getElem?_eq_getElem q]; rfl
  · have h0 : 0 < l.length := by omega
    have : l.idxOf x + 1 = l.length := by omega
    rw [this, Nat.mod_self, List.getD_eq_getElem?_getD, List.getElem?_eq_getElem h0]; rfl
theorem nxtN_inj {l : List Nat} (hn : l.Nodup) {x y : Nat} (hx : x ∈ l) (hy : y ∈ l) (h : nxtN l x = nxtN l y) : x = y := by
  have hl := List.idxOf_lt_length_of_mem hx
  have hl' := List.idxOf_lt_length_of_mem hy
  have e1 := nxtN_at hx
  have e2 := nxtN_at hy
  rw [h] at e1
  have hm : (l.idxOf x + 1) % l.length < l.length := Nat.mod_lt _ (by omega)
  have := (List.getElem?_inj hm hn).mp (e1.trans e2.symm)
  have hidx : l.idxOf x = l.idxOf y := by
    by_cases q : l.idxOf x + 1 < l.length
    · rw [Nat.mod_eq_of_lt q] at this
      by_cases q' : l.idxOf y + 1 < l.length
      · rw [Nat.mod_eq_of_lt q'] at this; omega
      · rw [show l.idxOf y + 1 = l.length by omega, Nat.mod_self] at this; omega
    · rw [show l.idxOf x + 1 = l.length by omega, Nat.mod_self] at this
      by_cases q' : l.idxOf y + 1 < l.length
      · rw [Nat.mod_eq_of_lt q'] at this; omega
      · omega
  have a1 := idx_at hx
  rw [hidx, idx_at hy] at a1
  exact (Option.some.inj a1).symm
theorem nx_ok (hO : okE V es) (hT : TOK es R) {d : Nat} (hd : d < 2 * es.length) : nxD es R d < 2 * es.length ∧ adj es (hdD es d) (nxtN (R (hdD es d)) (tlD es d)) = true ∧ tlD es d ∈ R (hdD es d) := by
  have ha := dart_adj hd
  have hx : tlD es d ∈ R (hdD es d) := ((hT _).2 _).mpr (by rw [adj_sym]; exact ha)
  have hz := ((hT _).2 _).mp (nxtN_mem hx)
  exact ⟨(dno_ok hO hz).1, hz, hx⟩
theorem nx_inj (hO : okE V es) (hT : TOK es R) {d d' : Nat} (hd : d < 2 * es.length) (hd' : d' < 2 * es.length) (h : nxD es R d = nxD es R d') : d = d' := by
  obtain ⟨a1, a2, a3⟩ := nx_ok hO hT hd
  obtain ⟨b1, b2, b3⟩ := nx_ok hO hT hd'
  obtain ⟨-, c1, c2⟩ := dno_ok hO a2
  obtain ⟨-, c1', c2'⟩ := dno_ok hO b2
  have h : dno es (hdD es d) (nxtN (R (hdD es d)) (tlD es d)) = dno es (hdD es d') (nxtN (R (hdD es d')) (tlD es d')) := h
  have e1 : hdD es d = hdD es d' := by rw [← c1, ← c1', h]
  have e2 : nxtN (R (hdD es d)) (tlD es d) = nxtN (R (hdD es d')) (tlD es d') := by rw [← c2, ← c2', h]
  rw [← e1] at e2 b3
  exact dart_inj hO hd hd' (nxtN_inj (hT _).1 a3 b3 e2) e1
end DRT
/-! faces -/
def mkF (nx : Nat → Nat) : Nat → Nat → Nat → (Nat → Option Nat) → Nat → Option Nat
  | 0, _, _, F => F
  | k + 1, x, c, F => if (F x).isSome then F else mkF nx k (nx x) c (fun y => if y = x then some c else F y)
def stF (nx : Nat → Nat) : Nat → (Nat → Option Nat) × List Nat
  | 0 => (fun _ => none, [])
  | n + 1 => if ((stF nx n).1 n).isSome then stF nx n else (mkF nx 120 n (stF nx n).2.length (stF nx n).1, (stF nx n).2 ++ [n])
def unm (F : Nat → Option Nat) (m : Nat) : Nat := cnt (fun d => (F d).isNone) m
theorem unm_set {F : Nat → Option Nat} {m x c : Nat} (hx : x < m) (h : F x = none) : unm F m = unm (fun y => if y = x then some c else F y) m + 1 := by
  unfold unm
  exact (cnt_drop (p := fun d => (F d).isNone) (q := fun d => (if d = x then some c else F d).isNone) (a := x) (n := m) hx (by simp [h]) (by simp) fun i _ hne => by simp [hne]).symm
theorem unm_pos {F : Nat → Option Nat} {m x : Nat} (hx : x < m) (h : F x = none) : 0 < unm F m := by
  rw [unm_set (c := 0) hx h]; omega
section FAC
variable {nx : Nat → Nat} {m : Nat}
theorem mkF_fuel (hnx : ∀ d, d < m → nx d < m) : ∀ (k k' x c : Nat) (F : Nat → Option Nat), x < m → unm F m ≤ k → unm F m ≤ k' → mkF nx k x c F = mkF nx k' x c F
  | 0, 0, _, _, _, _, _, _ => rfl
  | 0, k' + 1, x, c, F, hx, h1, _ => by
    have : (F x).isSome = true := by
      cases hF : F x with
      | some y => rfl
      | none => have := unm_pos hx hF; omega
    rw [mkF, mkF, if_pos this]
  | k + 1, 0, x, c, F, hx, _, h2 => by
    have : (F x).isSome = true := by
      cases hF : F x with
      | some y => rfl
      | none => have := unm_pos hx hF; omega
    rw [mkF, mkF, if_pos this]
  | k + 1, k' + 1, x, c, F, hx, h1, h2 => by
    rw [mkF, mkF]
    cases hF : F x with
    | some y => rfl
    | none =>
      have := unm_set (c := c) hx hF
      simp only [Option.isSome_none, Bool.false_eq_true, if_false]
      exact mkF_fuel hnx k k' (nx x) c _ (hnx x hx) (by omega) (by omega)
/-- what marking does -/
theorem mkF_sp : ∀ (k x c : Nat) (F : Nat → Option Nat), (∀ d, (F d).isSome → mkF nx k x c F d = F d) ∧ ∀ d, F d = none → mkF nx k x c F d = none ∨ mkF nx k x c F d = some c
  | 0, x, c, F => ⟨fun _ _ => rfl, fun d h => Or.inl h⟩
  | k + 1, x, c, F => by
    rw [mkF]
    cases hF : F x with
    | some y => exact ⟨fun _ _ => rfl, fun d h => Or.inl h⟩
    | none =>
      simp only [Option.isSome_none, Bool.false_eq_true, if_false]
      obtain ⟨a1, a2⟩ := mkF_sp k (nx x) c (fun y => if y = x then some c else F y)
      refine ⟨fun d hd => ?_, fun d hd => ?_⟩
      · have hne : d ≠ x := fun e => by rw [e, hF] at hd; cases hd
        have := a1 d (by simp [hne, hd])
        rw [this]
        simp [hne]
      · by_cases e : d = x
        · rw [e]
          have := a1 x (by simp)
          right
          rw [this]
          simp
        · exact a2 d (by simp [e, hd])
theorem mkF_hd {k x c : Nat} {F : Nat → Option Nat} (h : F x = none) : mkF nx (k + 1) x c F x = some c := by
  rw [mkF, h]
  simp only [Option.isSome_none, Bool.false_eq_true, if_false]
  have := (mkF_sp (nx := nx) k (nx x) c (fun y => if y = x then some c else F y)).1 x (by simp)
  rw [this]
  simp
/-- the faces by their numbers -/
theorem stF_sp : ∀ n, (∀ d, d < n → ((stF nx n).1 d).isSome = true) ∧ (∀ d c, (stF nx n).1 d = some c → c < (stF nx n).2.length) ∧ (∀ f d, (stF nx n).2[f]? = some d → d < n ∧ (stF nx n).1 d = some f ∧ ∀ d', (stF nx n).1 d' = some f → d ≤ d') ∧ (stF nx n).2.length ≤ n
  | 0 => ⟨fun d hd => by omega, fun d c h => (by cases h), fun f d h => by simp [stF] at h, by simp [stF]⟩
  | n + 1 => by
    obtain ⟨a1, a2, a3, a4⟩ := stF_sp n
    rw [stF]
    cases hF : (stF nx n).1 n with
    | some y =>
      simp only [Option.isSome_some, if_true]
      refine ⟨fun d hd => ?_, a2, fun f d h => ⟨by have := (a3 f d h).1; omega, (a3 f d h).2⟩, by omega⟩
      by_cases e : d = n
      · rw [e, hF]; rfl
      · exact a1 d (by omega)
    | none =>
      simp only [Option.isSome_none, Bool.false_eq_true, if_false]
      obtain ⟨b1, b2⟩ := mkF_sp (nx := nx) 120 n (stF nx n).2.length (stF nx n).1
      have b3 : mkF nx 120 n (stF nx n).2.length (stF nx n).1 n = some (stF nx n).2.length := mkF_hd hF
      have old : ∀ d c, mkF nx 120 n (stF nx n).2.length (stF nx n).1 d = some c → c ≠ (stF nx n).2.length → (stF nx n).1 d = some c := fun d c h hne => by
        cases hd : (stF nx n).1 d with
        | some y => rw [← h, b1 d (by rw [hd]; rfl), hd]
        | none =>
          rcases b2 d hd with e | e
          · rw [e] at h; cases h
          · rw [e] at h; cases h; exact absurd rfl hne
      refine ⟨fun d hd => ?_, fun d c h => ?_, fun f d h => ?_, by simp; omega⟩
      · by_cases e : d = n
        · rw [e, b3]; rfl
        · have := a1 d (by omega)
          rw [b1 d this]; exact this
      · rw [List.length_append, List.length_singleton]
        by_cases e : c = (stF nx n).2.length
        · omega
        · have := a2 d c (old d c h e)
          omega
      · by_cases e : f = (stF nx n).2.length
        · subst e
          rw [List.getElem?_concat_length] at h
          cases h
          refine ⟨by omega, b3, fun d' hd' => ?_⟩
          rcases Nat.lt_or_ge d' n with q | q
          · have := a1 d' q
            rw [b1 d' this] at hd'
            have := a2 d' _ hd'
            omega
          · exact q
        · have hfl : f < (stF nx n).2.length := by
            have := (List.getElem?_eq_some_iff.mp h).1
            rw [List.length_append, List.length_singleton] at this
            omega
          rw [List.getElem?_append_left hfl] at h
          obtain ⟨c1, c2, c3⟩ := a3 f d h
          refine ⟨by omega, by rw [b1 d (by rw [c2]; rfl)]; exact c2, fun d' hd' => c3 d' (old d' f hd' e)⟩
/-- going on from a dart, until it comes back -/
def itn (nx : Nat → Nat) (a : Nat) : Nat → Nat → Option Nat
  | 0, x => some x
  | i + 1, x => if nx x = a then none else itn nx a i (nx x)
def itp (nx : Nat → Nat) : Nat → Nat → Nat
  | 0, x => x
  | i + 1, x => itp nx i (nx x)
theorem itp_lt (hnx : ∀ d, d < m → nx d < m) : ∀ (i x : Nat), x < m → itp nx i x < m
  | 0, _, h => h
  | i + 1, x, h => itp_lt hnx i (nx x) (hnx x h)
theorem itp_succ : ∀ (i x : Nat), itp nx (i + 1) x = nx (itp nx i x)
  | 0, _ => rfl
  | i + 1, x => by rw [itp, itp_succ i (nx x)]; rfl
theorem itp_inj (hnx : ∀ d, d < m → nx d < m) (hin : ∀ d d', d < m → d' < m → nx d = nx d' → d = d') : ∀ (i j x : Nat), x < m → itp nx i x = itp nx (i + j) x → itp nx j x = x
  | 0, j, x, _, h => by rw [Nat.zero_add] at h; exact h.symm
  | i + 1, j, x, hx, h => by
    rw [show i + 1 + j = (i + j) + 1 by omega, itp_succ, itp_succ] at h
    exact itp_inj hnx hin i j x hx (hin _ _ (itp_lt hnx i x hx) (itp_lt hnx (i + j) x hx) h)
theorem itn_back {a : Nat} : ∀ (i x n : Nat), itp nx n x = a → 0 < n → n ≤ i → itn nx a i x = none
  | 0, _, n, _, h1, h2 => by omega
  | i + 1, x, n, h, h1, h2 => by
    rw [itn]
    by_cases e : nx x = a
    · rw [if_pos e]
    · rw [if_neg e]
      obtain ⟨n, rfl⟩ : ∃ n', n = n' + 1 := ⟨n - 1, by omega⟩
      rw [itp] at h
      have : n ≠ 0 := fun z => by rw [z] at h; exact e h
      exact itn_back i (nx x) n h (by omega) (by omega)
theorem itn_all (hnx : ∀ d, d < m → nx d < m) (hin : ∀ d d', d < m → d' < m → nx d = nx d' → d = d') {a i : Nat} (ha : a < m) (hi : m ≤ i) : itn nx a i a = none := by
  -- among m + 1 there are two that are one
  have hex : ∃ i j, i < j ∧ j ≤ m ∧ itp nx i a = itp nx j a := by
    refine Classical.byContradiction fun hn => ?_
    have hnd : ((List.range (m + 1)).map fun i => itp nx i a).Nodup := by
      refine List.pairwise_iff_getElem.mpr fun i j hi hj hij e => hn ⟨i, j, hij, ?_, ?_⟩
      · simp at hj; omega
      · simpa using e
    have := nd_le m hnd fun x hx => by
      obtain ⟨i, -, rfl⟩ := List.mem_map.mp hx
      exact itp_lt hnx i a ha
    simp at this
    omega
  obtain ⟨i', j', h1, h2, h3⟩ := hex
  have := itp_inj hnx hin i' (j' - i') a ha (by rw [show i' + (j' - i') = j' by omega]; exact h3)
  exact itn_back i a (j' - i') this (by omega) (by omega)
end FAC
/-- what face(f, i) answers -/
def faceI (es : gE) (R : Nat → List Nat) (f i : Int32) : Int32 :=
  if i < 0 then -1 else if f < 0 then -1 else
    match (stF (nxD es R) (2 * es.length)).2[f.toNatClampNeg]? with
    | none => -1
    | some d => match itn (nxD es R) d i.toNatClampNeg d with
      | none => -1
      | some x => nI (tlD es x)
