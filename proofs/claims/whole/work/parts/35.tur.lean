/-! ===== a turning: around each vertex a list ===== -/
def nL (l : List Nat) : List Int32 := l.map nI
theorem nL_len {l : List Nat} : (nL l).length = l.length := by simp [nL]
theorem nL_at {l : List Nat} {i x : Nat} (h : l[i]? = some x) : (nL l)[i]? = some (nI x) := by simp [nL, h]
theorem nL_app {l l' : List Nat} : nL (l ++ l') = nL l ++ nL l' := by simp [nL]
theorem nL_get {l : List Nat} {n : Nat} (hn : n < 2 ^ 31) (h : n < l.length) : getI (nL l) (nI n) = nI (l[n]'h) := getI_at hn (nL_at (List.getElem?_eq_getElem h))
theorem nL_getNo {l : List Nat} {i : Int32} (hl : l.length < 2 ^ 31) (h : ixB i l.length = false) : getI (nL l) i = -1 := by
  rw [getI]
  split
  · rfl
  · rename_i q
    obtain ⟨n, hn, rfl⟩ := i_nonneg q
    rw [ixB_N hn, decide_eq_false_iff_not] at h
    rw [nI_clamp hn, List.getD_eq_getElem?_getD, List.getElem?_eq_none (by rw [nL_len]; omega)]
    rfl
theorem fndF_in : ∀ {l : List Nat} {x i : Nat}, x < 2 ^ 31 → (∀ y ∈ l, y < 2 ^ 31) → x ∈ l → fndF (nL l) (nI x) i = nI (i + l.idxOf x)
  | [], x, i, _, _, h => absurd h List.not_mem_nil
  | y :: l, x, i, hx, hl, h => by
    show (if nI y = nI x then nI i else fndF (nL l) (nI x) (i + 1)) = _
    by_cases e : y = x
    · subst e
      rw [if_pos rfl, List.idxOf_cons_self, Nat.add_zero]
    · have hy := hl y List.mem_cons_self
      rw [if_neg (nI_ne hy hx e), fndF_in hx (fun z hz => hl z (List.mem_cons_of_mem _ hz)) ((List.mem_cons.mp h).resolve_left (Ne.symm e)), show (y :: l).idxOf x = l.idxOf x + 1 by rw [List.idxOf_cons, show (y == x) = false by simpa using e]; rfl, Nat.add_right_comm, Nat.add_assoc]
theorem fndF_no : ∀ {l : List Nat} {x i : Nat}, x < 2 ^ 31 → (∀ y ∈ l, y < 2 ^ 31) → x ∉ l → fndF (nL l) (nI x) i = -1
  | [], x, i, _, _, h => rfl
  | y :: l, x, i, hx, hl, h => by
    show (if nI y = nI x then nI i else fndF (nL l) (nI x) (i + 1)) = _
    have e : y ≠ x := fun e => h (e ▸ List.mem_cons_self)
    rw [if_neg (nI_ne (hl y List.mem_cons_self) hx e), fndF_no hx (fun z hz => hl z (List.mem_cons_of_mem _ hz)) fun z => h (List.mem_cons_of_mem _ z)]
/-- what follows x in a ring -/
def nxtN (l : List Nat) (x : Nat) : Nat := l.getD (if l.idxOf x + 1 < l.length then l.idxOf x + 1 else 0) 0
def TurR (W : fl_W) (t : Nat) (R : Nat → List Nat) : Prop := ∀ v, v < 20 → RowR W (t + 2 + 2 * v) (nL (R v))
def tl (t : Nat) : List Nat := (List.range 40).map fun i => t + 2 + i
theorem mem_tl {t a : Nat} : a ∈ tl t ↔ t + 2 ≤ a ∧ a < t + 42 := by
  unfold tl
  rw [List.mem_map]
  constructor
  · rintro ⟨i, hi, rfl⟩
    have := List.mem_range.mp hi
    omega
  · intro h
    exact ⟨a - (t + 2), List.mem_range.mpr (by omega), by omega⟩
theorem TurR.fr {W W' : fl_W} {t : Nat} {R : Nat → List Nat} {l : List Nat} (h : TurR W t R) (hE : EqX l W W') (hd : ∀ a ∈ tl t, a ∉ l) : TurR W' t R :=
  fun v hv => (h v hv).fr hE (hd _ (mem_tl.mpr (by omega))) (hd _ (mem_tl.mpr (by omega)))
theorem tur_row {t v : Nat} (ht : fl_tur t) (hv : v < 20) : fl_row (t + 2 + 2 * v) := ((fl_tur_all t (fl_lt ht) ht).2.2 v hv).1
theorem tur_bases : ∀ t, t < 280 → fl_isb t 9 = true → t = 18 ∨ t = 160 := by decide +kernel
section TUR
variable {d : Nat} {Q : fl_R} {t : Nat} {W : fl_W} {R : Nat → List Nat}
theorem tur_clear_l (ht : fl_tur t) : ∀ (n i : Nat) (W : fl_W), 20 - i = n → i ≤ 20 → (∀ v, v < i → RowR W (t + 2 + 2 * v) []) → (∀ W', TurR W' t (fun _ => []) → EqX (tl t) W W' → Q none W') → hd_84_2 (d + 1) Q t (nI i) W := by
  intro n
  induction n with
  | zero =>
    intro i W h1 h2 hR h
    refine sx_84_2 t _ W ht ⟨fun q => absurd q ?_, fun _ => h W (fun v hv => hR v (by omega)) EqX.rf⟩
    rw [cb_20]; exact nI_nlt (by omega) (by omega)
  | succ n ih =>
    intro i W h1 h2 hR h
    refine sx_84_2 t _ W ht ⟨fun _ => ⟨in_N (by omega) (by omega), ?_⟩, fun q => absurd ?_ q⟩
    · rw [nI_clamp (by omega)]
      have hri := tur_row ht (v := i) (by omega)
      refine row_clear hri fun W' g1 g2 => ?_
      show hd_84_2 (d + 1) Q t (nI i + Int32.ofInt 1) W'
      rw [ci_1, nI_add]
      refine ih (i + 1) W' (by omega) (by omega) (fun v hv => ?_) fun W'' k1 k2 => h W'' k1 ((g2.mono fun a ha => ?_).tr k2)
      · by_cases hvi : v = i
        · subst hvi; exact g1
        · refine (hR v (by omega)).fr g2 ?_ ?_ <;> simp <;> omega
      · rw [mem_tl]; simp at ha; omega
    · rw [cb_20]; exact nI_lt (by omega) (by omega)
theorem tur_clear (ht : fl_tur t) (h : ∀ W', TurR W' t (fun _ => []) → EqX (tl t) W W' → Q none W') : fl_cal (d + 2) 84 [.ref t] W Q :=
  sx_84 t W ht (tur_clear_l ht 20 0 W rfl (by omega) (fun v hv => by omega) h)
theorem tur_copy_l {s : Nat} (ht : fl_tur t) (hs : fl_tur s) (hts : t ≠ s) (hlen : ∀ v, v < 20 → (R v).length ≤ 20) : ∀ (n i : Nat) (W : fl_W), 20 - i = n → i ≤ 20 → TurR W s R → (∀ v, v < i → RowR W (t + 2 + 2 * v) (nL (R v))) → (∀ W', TurR W' t R → EqX (tl t) W W' → Q none W') → hd_85_2 (d + 2) Q t s (nI i) W := by
  have hb1 := tur_bases t (fl_lt ht) ht
  have hb2 := tur_bases s (fl_lt hs) hs
  intro n
  induction n with
  | zero =>
    intro i W h1 h2 hS hR h
    refine sx_85_2 t s _ W ht hs ⟨fun q => absurd q ?_, fun _ => h W (fun v hv => hR v (by omega)) EqX.rf⟩
    rw [cb_20]; exact nI_nlt (by omega) (by omega)
  | succ n ih =>
    intro i W h1 h2 hS hR h
    refine sx_85_2 t s _ W ht hs ⟨fun _ => ⟨in_N (by omega) (by omega), in_N (by omega) (by omega), ?_⟩, fun q => absurd ?_ q⟩
    · rw [nI_clamp (by omega)]
      refine row_copy (tur_row ht (v := i) (by omega)) (tur_row hs (v := i) (by omega)) (by omega) (hS i (by omega)) ?_ fun W' g1 g2 => ?_
      · rw [nL_len, tu_cap ht (by omega)]; exact hlen i (by omega)
      · show hd_85_2 (d + 2) Q t s (nI i + Int32.ofInt 1) W'
        rw [ci_1, nI_add]
        refine ih (i + 1) W' (by omega) (by omega) (hS.fr g2 fun a ha => ?_) (fun v hv => ?_) fun W'' k1 k2 => h W'' k1 ((g2.mono fun a ha => ?_).tr k2)
        · rw [mem_tl] at ha; simp; omega
        · by_cases hvi : v = i
          · subst hvi; exact g1
          · refine (hR v (by omega)).fr g2 ?_ ?_ <;> simp <;> omega
        · rw [mem_tl]; simp at ha; omega
    · rw [cb_20]; exact nI_lt (by omega) (by omega)
theorem tur_copy {s : Nat} (ht : fl_tur t) (hs : fl_tur s) (hts : t ≠ s) (hS : TurR W s R) (hlen : ∀ v, v < 20 → (R v).length ≤ 20) (h : ∀ W', TurR W' t R → EqX (tl t) W W' → Q none W') : fl_cal (d + 3) 85 [.ref t, .ref s] W Q :=
  sx_85 t s W ht hs (tur_copy_l ht hs hts hlen 20 0 W rfl (by omega) hS (fun v hv => by omega) h)
theorem tur_add {v x : Nat} (ht : fl_tur t) (hR : TurR W t R) (hv : v < 20) (hl : (R v).length < 20) (h : ∀ W', TurR W' t (fun u => if u = v then R v ++ [x] else R u) → EqX (tl t) W W' → Q none W') : fl_cal (d + 2) 86 [.ref t, .int (nI v), .int (nI x)] W Q := by
  refine sx_86 t _ _ W ht (st_can ?_)
  rw [ixB_N (by omega), decide_eq_true hv]
  refine ⟨fun q => absurd q (by decide), fun _ => ⟨in_N hv (by omega), ?_⟩⟩
  rw [nI_clamp (by omega)]
  refine row_add (tur_row ht hv) (hR v hv) (by rw [nL_len, tu_cap ht hv]; exact hl) fun W' g1 g2 => h W' (fun u hu => ?_) (g2.mono fun a ha => ?_)
  · by_cases huv : u = v
    · subst huv
      show RowR W' _ (nL (if u = u then _ else _))
      rw [if_pos rfl, nL_app]
      exact g1
    · show RowR W' _ (nL (if u = v then _ else _))
      rw [if_neg huv]
      refine (hR u hu).fr g2 ?_ ?_ <;> simp <;> omega
  · rw [mem_tl]; simp at ha; omega
theorem tur_nb {v i : Int32} (ht : fl_tur t) (hR : TurR W t R) (h : Q (some (.int (if ixB v 20 then getI (nL (R v.toNatClampNeg)) i else -1))) W) : fl_cal (d + 2) 87 [.ref t, .int v, .int i] W Q := by
  refine sx_87 t _ _ W ht (st_can ?_)
  cases hv : ixB v 20 with
  | false =>
    rw [hv] at h
    exact ⟨fun _ => h, fun q => absurd rfl q⟩
  | true =>
    rw [hv] at h
    obtain ⟨n, hn, rfl⟩ := ixB_ex (by omega) hv
    refine ⟨fun q => absurd q (by decide), fun _ => ⟨in_N hn (by omega), ?_⟩⟩
    rw [nI_clamp (by omega)] at h ⊢
    exact row_get (tur_row ht hn) (hR n hn) h
theorem tur_exNo {v i k : Int32} (ht : fl_tur t) (hR : TurR W t R) (hn : ixB v 20 = false ∨ ¬ (vp_in i (R v.toNatClampNeg).length ∧ vp_in k (R v.toNatClampNeg).length)) (h : Q (some (.int 0)) W) : fl_cal (d + 2) 88 [.ref t, .int v, .int i, .int k] W Q := by
  refine sx_88 t _ _ _ W ht (st_can ?_)
  cases hv : ixB v 20 with
  | false => exact ⟨fun _ => h, fun q => absurd rfl q⟩
  | true =>
    have hn := hn.resolve_left (by rw [hv]; decide)
    obtain ⟨n, hn2, rfl⟩ := ixB_ex (by omega) hv
    refine ⟨fun q => absurd q (by decide), fun _ => ⟨in_N hn2 (by omega), ?_⟩⟩
    rw [nI_clamp (by omega)] at hn ⊢
    refine row_exch_no (tur_row ht hn2) (hR n hn2) (by rw [nL_len]; exact hn) ⟨fun _ => h, fun q => absurd rfl q⟩
theorem tur_ex {v a c x y : Nat} (ht : fl_tur t) (hR : TurR W t R) (hv : v < 20) (ha : (R v)[a]? = some x) (hc : (R v)[c]? = some y) (h : ∀ W', TurR W' t (fun u => if u = v then ((R v).set a y).set c x else R u) → EqX (tl t) W W' → Q (some (.int 1)) W') : fl_cal (d + 2) 88 [.ref t, .int (nI v), .int (nI a), .int (nI c)] W Q := by
  refine sx_88 t _ _ _ W ht (st_can ?_)
  rw [ixB_N (by omega), decide_eq_true hv]
  refine ⟨fun q => absurd q (by decide), fun _ => ⟨in_N hv (by omega), ?_⟩⟩
  rw [nI_clamp (by omega)]
  refine row_exch (tur_row ht hv) (hR v hv) (nL_at ha) (nL_at hc) fun W' g1 g2 => ⟨fun q => absurd q (by decide), fun _ => h W' (fun u hu => ?_) (g2.mono fun a ha => ?_)⟩
  · by_cases huv : u = v
    · subst huv
      show RowR W' _ (nL (if u = u then _ else _))
      rw [if_pos rfl]
      have e : nL (((R u).set a y).set c x) = ((nL (R u)).set a (nI y)).set c (nI x) := by simp [nL, List.map_set]
      rw [e]
      exact g1
    · show RowR W' _ (nL (if u = v then _ else _))
      rw [if_neg huv]
      refine (hR u hu).fr g2 ?_ ?_ <;> simp <;> omega
  · rw [mem_tl]; simp at ha; omega
theorem tur_behind {v x : Nat} (ht : fl_tur t) (hR : TurR W t R) (hv : v < 20) (hl : ∀ y ∈ R v, y < 20) (hx : x ∈ R v) (h : Q (some (.int (nI (nxtN (R v) x)))) W) : fl_cal (d + 2) 89 [.ref t, .int (nI v), .int (nI x)] W Q := by
  have hr := tur_row ht hv
  have hlen := (hR v hv).2.1
  rw [nL_len, tu_cap ht hv] at hlen
  have hi := List.idxOf_lt_length_of_mem hx
  refine sx_89 t _ _ W ht (st_can ?_)
  rw [ixB_N (by omega), decide_eq_true hv]
  refine ⟨fun q => absurd q (by decide), fun _ => ⟨in_N hv (by omega), ?_⟩⟩
  rw [nI_clamp (by omega)]
  refine row_find hr (hR v hv) ?_
  rw [fndF_in (by have := hl x hx; omega) (fun y hy => by have := hl y hy; omega) hx, Nat.zero_add]
  refine ⟨fun q => absurd q (nI_nm (by omega)), fun _ => ⟨in_N hv (by omega), in_N hv (by omega), ?_⟩⟩
  refine row_behind hr (hR v hv) ?_
  refine row_get hr (hR v hv) ?_
  rw [nL_len, show nI ((R v).idxOf x) + 1 = nI ((R v).idxOf x + 1) from nI_1 _]
  rw [nxtN] at h
  by_cases hq : (R v).idxOf x + 1 < (R v).length
  · rw [if_pos hq, List.getD_eq_getElem?_getD, List.getElem?_eq_getElem hq] at h
    rw [if_pos (nI_lt hq (by omega)), nL_get (by omega) hq]
    exact h
  · have h0 : 0 < (R v).length := by omega
    rw [if_neg hq, List.getD_eq_getElem?_getD, List.getElem?_eq_getElem h0] at h
    rw [if_neg (nI_nlt (by omega) (by omega)), cz_0, nL_get (by omega) h0]
    exact h
theorem tur_behindNo {v x : Nat} (ht : fl_tur t) (hR : TurR W t R) (hv : v < 20) (hx20 : x < 20) (hl : ∀ y ∈ R v, y < 20) (hx : x ∉ R v) (h : Q (some (.int (-1))) W) : fl_cal (d + 2) 89 [.ref t, .int (nI v), .int (nI x)] W Q := by
  refine sx_89 t _ _ W ht (st_can ?_)
  rw [ixB_N (by omega), decide_eq_true hv]
  refine ⟨fun q => absurd q (by decide), fun _ => ⟨in_N hv (by omega), ?_⟩⟩
  rw [nI_clamp (by omega)]
  refine row_find (tur_row ht hv) (hR v hv) ?_
  rw [fndF_no (by omega) (fun y hy => by have := hl y hy; omega) hx]
  exact ⟨fun _ => h, fun q => absurd rfl q⟩
end TUR
