/-! ===== colours ===== -/
def tie (es : gE) (L : Nat → Bool) (v : Nat) : Nat := cnt (fun u => adj es v u && L u) 20
def bst (es : gE) (L : Nat → Bool) : Nat → Option Nat
  | 0 => none
  | i + 1 => if L i then (match bst es L i with
    | none => some i
    | some b => if tie es L i < tie es L b then some i else some b) else bst es L i
def tkn (es : gE) (V : Nat) : Nat → List Nat × (Nat → Bool)
  | 0 => ([], fun v => decide (v < V))
  | i + 1 => ((tkn es V i).1 ++ [(bst es (tkn es V i).2 V).getD 0], fun u => (tkn es V i).2 u && decide (u ≠ (bst es (tkn es V i).2 V).getD 0))
def usd (es : gE) (col : Nat → Option Nat) (v c : Nat) : Bool := anyN fun u => adj es v u && decide (col u = some c)
def colF (es : gE) : List Nat → (Nat → Option Nat) → Nat → (Nat → Option Nat) × Nat
  | [], col, m => (col, m)
  | v :: l, col, m => colF es l (fun u => if u = v then some (leastN fun c => !usd es col v c) else col u) (if m < (leastN fun c => !usd es col v c) + 1 then (leastN fun c => !usd es col v c) + 1 else m)
def clR (es : gE) (V : Nat) : (Nat → Option Nat) × Nat := colF es (tkn es V V).1.reverse (fun _ => none) 0
theorem bst_sp {es : gE} {L : Nat → Bool} : ∀ (i : Nat), (∀ b, bst es L i = some b → b < i ∧ L b = true) ∧ (bst es L i = none → ∀ v, v < i → L v = false)
  | 0 => ⟨fun b h => (by cases h), fun _ v hv => by omega⟩
  | i + 1 => by
    obtain ⟨h1, h2⟩ := bst_sp (es := es) (L := L) i
    rw [bst]
    cases hL : L i with
    | false =>
      simp only [Bool.false_eq_true, if_false]
      refine ⟨fun b hb => ⟨by have := (h1 b hb).1; omega, (h1 b hb).2⟩, fun hn v hv => ?_⟩
      by_cases e : v = i
      · rw [e]; exact hL
      · exact h2 hn v (by omega)
    | true =>
      simp only [if_true]
      cases hb : bst es L i with
      | none => exact ⟨fun b h => by cases h; exact ⟨by omega, hL⟩, fun h => by cases h⟩
      | some b0 =>
        simp only
        split
        · exact ⟨fun b h => by cases h; exact ⟨by omega, hL⟩, fun h => by cases h⟩
        · refine ⟨fun b h => ?_, fun h => by cases h⟩
          cases h
          exact ⟨by have := (h1 b0 hb).1; omega, (h1 b0 hb).2⟩
theorem tkn_sp {es : gE} {V : Nat} : ∀ (i : Nat), i ≤ V → (tkn es V i).1.length = i ∧ (tkn es V i).1.Nodup ∧ (∀ v, v ∈ (tkn es V i).1 → v < V) ∧ (∀ v, (tkn es V i).2 v = (decide (v < V) && !(tkn es V i).1.contains v)) ∧ (i < V → ∃ b, bst es (tkn es V i).2 V = some b ∧ b < V ∧ b ∉ (tkn es V i).1)
  | i, hi => by
    have main : (tkn es V i).1.length = i ∧ (tkn es V i).1.Nodup ∧ (∀ v, v ∈ (tkn es V i).1 → v < V) ∧ (∀ v, (tkn es V i).2 v = (decide (v < V) && !(tkn es V i).1.contains v)) := by
      induction i with
      | zero => exact ⟨rfl, List.nodup_nil, fun v hv => absurd hv List.not_mem_nil, fun v => by simp [tkn]⟩
      | succ i ih =>
        obtain ⟨a1, a2, a3, a4⟩ := ih (by omega)
        have ⟨b, b1, b2, b3⟩ : ∃ b, bst es (tkn es V i).2 V = some b ∧ b < V ∧ b ∉ (tkn es V i).1 := by
          cases hb : bst es (tkn es V i).2 V with
          | some b =>
            have := (bst_sp V).1 b hb
            rw [a4] at this
            simp at this
            exact ⟨b, rfl, this.1, this.2⟩
          | none =>
            exfalso
            have hn := (bst_sp V).2 hb
            have : V ≤ (tkn es V i).1.length := by
              have := nd_sub_len (l := List.range V) (m := (tkn es V i).1) List.nodup_range fun x hx => by
                have hx := List.mem_range.mp hx
                have := hn x hx
                rw [a4] at this
                simpa [hx] using this
              simpa using this
            omega
        rw [tkn, b1]
        refine ⟨by simp [a1], ?_, fun v hv => ?_, fun v => ?_⟩
        · rw [List.nodup_append]
          refine ⟨a2, by simp, fun x hx y hy e => ?_⟩
          simp at hy
          rw [e, hy] at hx
          exact b3 hx
        · rcases List.mem_append.mp hv with q | q
          · exact a3 v q
          · simp at q; omega
        · simp only [Option.getD_some]
          rw [a4, Bool.eq_iff_iff]
          simp [and_assoc]
    obtain ⟨a1, a2, a3, a4⟩ := main
    refine ⟨a1, a2, a3, a4, fun hlt => ?_⟩
    cases hb : bst es (tkn es V i).2 V with
    | some b =>
      have := (bst_sp V).1 b hb
      rw [a4] at this
      simp at this
      exact ⟨b, rfl, this.1, this.2⟩
    | none =>
      exfalso
      have hn := (bst_sp V).2 hb
      have : V ≤ (tkn es V i).1.length := by
        have := nd_sub_len (l := List.range V) (m := (tkn es V i).1) List.nodup_range fun x hx => by
          have hx := List.mem_range.mp hx
          have := hn x hx
          rw [a4] at this
          simpa [hx] using this
        simpa using this
      omega
/-- a colour that is free -/
theorem usd_free {es : gE} {col : Nat → Option Nat} {n : Nat} (hn : n < 20) (h : ∀ u c, col u = some c → c < n) (v : Nat) : anyN (fun c => !usd es col v c) = true ∧ (leastN fun c => !usd es col v c) ≤ n := by
  have hno : usd es col v n = false := by
    unfold usd
    refine anyN_no.mpr fun u hu => ?_
    cases ha : adj es v u with
    | false => rfl
    | true =>
      have : ¬ col u = some n := fun e => by have := h u n e; omega
      simp [this]
  have hany : anyN (fun c => !usd es col v c) = true := anyN_iff.mpr ⟨n, hn, by rw [hno]; rfl⟩
  obtain ⟨h1, h2, h3⟩ := leastN_spec hany
  refine ⟨hany, ?_⟩
  rcases Nat.lt_or_ge n (leastN fun c => !usd es col v c) with q | q
  · have := h3 n q
    rw [hno] at this
    cases this
  · exact q
section COL
variable {d : Nat} {Q : fl_R} {W : fl_W} {V b : Nat} {es : gE}
def cll : List Nat := [225, 226, 227, 228]
theorem net_cll {b : Nat} (hb : fl_net b) : ∀ a ∈ nl b, a ∉ cll := by
  intro a ha hc
  simp only [nl, cll, List.mem_cons, List.not_mem_nil, or_false] at ha hc
  have h1 := net_bases b (fl_lt hb) hb
  omega
/-- leastTied -/
theorem co_tied_l {L : Nat → Bool} {x : Int32} (hb : fl_net b) (hN : NetR W b V es) (hx : BS x L) : ∀ (n i : Nat) (f t : Int32), V - i = n → i ≤ V → ((bst es L i = none ∧ f = -1 ∧ t = nI 20) ∨ ∃ c, bst es L i = some c ∧ f = nI c ∧ t = nI (tie es L c)) → Q (some (.int (optI (bst es L V)))) W → hd_13_9 (d + 1) Q b x f t (nI i) W := by
  have hV := hN.1
  have hO := hN.2.2.1
  have ht20 : ∀ v, v < V → tie es L v < 20 := fun v hv => by
    have h1 : cnt (fun u => adj es v u && L u) 20 + 1 ≤ cnt (fun _ => true) 20 := cnt_strict (a := v) (by omega) (fun _ _ _ => rfl) (by
      cases ha : adj es v v with
      | false => rfl
      | true => exact absurd rfl (adj_lt hO ha).2.2) rfl
    have := cnt_le (fun _ => true) 20
    unfold tie
    omega
  intro n
  induction n with
  | zero =>
    intro i f t h1 h2 hf h
    have hi : i = V := by omega
    subst hi
    refine sx_13_9 b _ _ _ _ W hb ⟨fun q => absurd q ?_, fun _ => ?_⟩
    · rw [hN.2.2.2.1]; exact nI_nlt (by omega) (by omega)
    · rcases hf with ⟨e1, e2, -⟩ | ⟨c, e1, e2, -⟩
      · rw [e1] at h; rw [e2]; exact h
      · rw [e1] at h; rw [e2]; exact h
  | succ n ih =>
    intro i f t h1 h2 hf h
    have hi : i < V := by omega
    refine sx_13_9 b _ _ _ _ W hb ⟨fun _ => net_around hb hN hi fun y hy => st_bc ?_, fun q => absurd ?_ q⟩
    · have hbc : bcI (y &&& x) = nI (tie es L i) := (hy.and hx.lo).pc
      rw [hbc]
      refine st_in ?_
      rw [inI_N (by omega), hx.lo i (by omega)]
      have hbs : bst es L (i + 1) = if L i then (match bst es L i with | none => some i | some b => if tie es L i < tie es L b then some i else some b) else bst es L i := by
        rw [bst]
      rw [ci_1, nI_add]
      cases hL : L i with
      | false =>
        rw [hL] at hbs
        refine ⟨fun _ => ih (i + 1) f t (by omega) (by omega) (by rw [hbs]; exact hf) h, fun z => absurd rfl z⟩
      | true =>
        rw [hL, if_pos rfl] at hbs
        refine ⟨fun z => absurd z (by decide), fun _ => ⟨fun z => ih (i + 1) _ _ (by omega) (by omega) (Or.inr ⟨i, ?_, rfl, rfl⟩) h, fun z => ih (i + 1) f t (by omega) (by omega) ?_ h⟩⟩
        · rcases hf with ⟨e1, -, -⟩ | ⟨c, e1, -, e3⟩
          · rw [hbs, e1]
          · rw [hbs, e1]
            have hc := (bst_sp i).1 c e1
            rw [e3, nI_ltI (by have := ht20 i hi; omega) (by have := ht20 c (by omega); omega)] at z
            simp only [if_pos z]
        · rcases hf with ⟨e1, -, e3⟩ | ⟨c, e1, e2, e3⟩
          · rw [e3] at z
            exact absurd (nI_lt (ht20 i hi) (by omega)) z
          · refine Or.inr ⟨c, ?_, e2, e3⟩
            have hc := (bst_sp i).1 c e1
            rw [hbs, e1]
            rw [e3, nI_ltI (by have := ht20 i hi; omega) (by have := ht20 c (by omega); omega)] at z
            simp only [if_neg z]
    · rw [hN.2.2.2.1]; exact nI_lt hi (by omega)
theorem co_take_b (hb : fl_net b) : ∀ (n i : Nat) (W : fl_W) (x : Int32), V - i = n → i ≤ V → NetR W b V es → BS x (tkn es V i).2 → RowR W 227 (nL (tkn es V i).1) → (∀ W', RowR W' 227 (nL (tkn es V V).1) → EqX cll W W' → Q none W') → hd_12_34 (d + 2) Q b x (nI i) W := by
  intro n
  induction n with
  | zero =>
    intro i W x h1 h2 hN hx hrow h
    have hV := hN.1
    have hi : i = V := by omega
    subst hi
    refine sx_12_34 b _ _ W hb ⟨fun q => absurd q ?_, fun _ => h W hrow EqX.rf⟩
    rw [hN.2.2.2.1]; exact nI_nlt (by omega) (by omega)
  | succ n ih =>
    intro i W x h1 h2 hN hx hrow h
    have hV := hN.1
    have hi : i < V := by omega
    obtain ⟨s1, s2, s3, s4, s5⟩ := tkn_sp (es := es) (V := V) i (by omega)
    obtain ⟨c, c1, c2, c3⟩ := s5 hi
    clear s5
    have htk : tkn es V (i + 1) = ((tkn es V i).1 ++ [c], fun u => (tkn es V i).2 u && decide (u ≠ c)) := by rw [tkn, c1]; rfl
    refine sx_12_34 b _ _ W hb ⟨fun _ => sx_13 b _ W hb ?_, fun q => absurd ?_ q⟩
    · rw [ci_0, cb_20]
      refine co_tied_l hb hN hx V 0 (-1) (nI 20) (by omega) (Nat.zero_le _) (Or.inl ⟨rfl, rfl, rfl⟩) ?_
      rw [c1]
      show fl_cal (d + 2) 65 [.ref 227, .int (nI c)] W _
      refine row_add (r := 227) rfl hrow (by rw [nL_len, s1]; show i < 20; omega) fun W4 r4 f4 => ?_
      refine st_bit ?_
      show hd_12_34 (d + 2) Q b (x &&& (bitI (nI c) ^^^ Int32.ofInt (-1))) (nI i + Int32.ofInt 1) W4
      rw [ci_1, nI_add, ci_m]
      have f4' : EqX cll W W4 := f4.mono (by decide)
      refine ih (i + 1) W4 _ (by omega) (by omega) (hN.fr f4' (net_cll hb)) (by rw [htk]; exact (hx.and (BS.bit (by omega)).lo.not).congr fun v _ => by simp) (by rw [htk, nL_app]; exact r4) fun W' j1 j2 => h W' j1 (f4'.tr j2)
    · rw [hN.2.2.2.1]; exact nI_lt hi (by omega)
theorem co_take_a (hb : fl_net b) (hN : NetR W b V es) (h : ∀ W', RowR W' 227 (nL (tkn es V V).1) → EqX cll W W' → Q none W') : ∀ (n i : Nat) (x : Int32), V - i = n → i ≤ V → BS x (fun v => decide (v < i)) → hd_12_4 (d + 2) Q b x (nI i) W := by
  have hV := hN.1
  intro n
  induction n with
  | zero =>
    intro i x h1 h2 hx
    have hi : i = V := by omega
    subst hi
    refine sx_12_4 b _ _ W hb ⟨fun q => absurd q ?_, fun _ => row_clear (r := 227) rfl fun W1 r1 f1 => ?_⟩
    · rw [hN.2.2.2.1]; exact nI_nlt (by omega) (by omega)
    · have f1' : EqX cll W W1 := f1.mono (by decide)
      rw [ci_0]
      exact co_take_b hb _ 0 W1 x rfl (Nat.zero_le _) (hN.fr f1' (net_cll hb)) hx r1 fun W' j1 j2 => h W' j1 (f1'.tr j2)
  | succ n ih =>
    intro i x h1 h2 hx
    refine sx_12_4 b _ _ W hb ⟨fun _ => st_bit ?_, fun q => absurd ?_ q⟩
    · show hd_12_4 (d + 2) Q b (x ||| bitI (nI i)) (nI i + Int32.ofInt 1) W
      rw [ci_1, nI_add]
      refine ih (i + 1) _ (by omega) (by omega) ((hx.or (BS.bit (by omega))).congr fun v _ => ?_)
      rw [Bool.eq_iff_iff]
      simp
      omega
    · rw [hN.2.2.2.1]; exact nI_lt (by omega) (by omega)
/-- leastFree -/
theorem co_free_l {col : Nat → Option Nat} {P : Nat → Bool} {x : Int32} {n0 : Nat} (hx : BS x P) (hc : ∀ u c, col u = some c → c < n0) (hn0 : n0 < 20) (hP : ∀ u, u < 20 → P u = true → ∃ c, col u = some c ∧ W 226 u = nI c) (hfree : anyN (fun c => !anyN fun u => P u && decide (col u = some c)) = true) (h : Q (some (.int (nI (leastN fun c => !anyN fun u => P u && decide (col u = some c))))) W) : ∀ (n i : Nat) (y : Int32), 20 - i = n → i ≤ 20 → BS y (fun c => (List.range i).any fun u => P u && decide (col u = some c)) → hd_14_4 (d + 2) Q x y (nI i) W := by
  intro n
  induction n with
  | zero =>
    intro i y h1 h2 hy
    have hi : i = 20 := by omega
    subst hi
    refine sx_14_4 _ _ _ W ⟨fun z => absurd z ?_, fun _ => ?_⟩
    · rw [cb_20]; exact nI_nlt (by omega) (by omega)
    · obtain ⟨l1, l2, l3⟩ := leastN_spec hfree
      have hb : ∀ c, c < 20 → sb (y ^^^ Int32.ofInt (-1)) c = !(anyN fun u => P u && decide (col u = some c)) := fun c hc' => by
        rw [ci_m, sb_not _ (by omega), hy.lo c hc']
        rfl
      refine st_least (k := leastN fun c => !anyN fun u => P u && decide (col u = some c)) (by omega) (by rw [hb _ l1]; exact l2) (fun j hj => by rw [hb j (by omega)]; exact l3 j hj) h
  | succ n ih =>
    intro i y h1 h2 hy
    have hi : i < 20 := by omega
    refine sx_14_4 _ _ _ W ⟨fun _ => st_in ?_, fun z => absurd ?_ z⟩
    · rw [inI_N hi, hx.lo i hi, ci_1, nI_add]
      cases hPi : P i with
      | false =>
        refine ⟨fun _ => ih (i + 1) y (by omega) (by omega) (hy.congr fun c _ => ?_), fun z => absurd rfl z⟩
        rw [List.range_succ, List.any_append]
        simp [hPi]
      | true =>
        obtain ⟨c, c1, c2⟩ := hP i hi hPi
        have hc20 := hc i c c1
        refine ⟨fun z => absurd z (by decide), fun _ => ⟨in_N hi (by omega), ?_⟩⟩
        rw [nI_clamp (by omega), c2]
        refine st_bit (ih (i + 1) _ (by omega) (by omega) ((hy.or (BS.bit (by omega))).congr fun e _ => ?_))
        rw [List.range_succ, List.any_append]
        simp only [List.any_cons, List.any_nil, hPi, c1, Bool.true_and, Bool.or_false, Option.some.injEq]
        congr 1
        rw [Bool.eq_iff_iff]
        simp [eq_comm]
    · rw [cb_20]; exact nI_lt hi (by omega)
/-- the colours given -/
theorem co_make_l {T : List Nat} (hb : fl_net b) (hT20 : T.length ≤ 20) (hTn : T.Nodup) (hTV : ∀ v ∈ T, v < V) : ∀ (i : Nat) (W : fl_W) (col : Nat → Option Nat) (m : Nat) (x : Int32), i ≤ T.length → NetR W b V es → RowR W 227 (nL T) → BS x (fun v => (T.drop i).contains v) → (∀ u, (col u).isSome = (T.drop i).contains u) → (∀ u c, col u = some c → c < T.length - i ∧ W 226 u = nI c) → m ≤ T.length - i →
    (∀ W', (∀ u c, (colF es (T.take i).reverse col m).1 u = some c → W' 226 u = nI c) → EqX cll W W' → Q (some (.int (nI (colF es (T.take i).reverse col m).2))) W') → hd_11_20 (d + 3) Q b (nI m) x (nI i - nI 1) W := by
  intro i
  induction i with
  | zero =>
    intro W col m x hi hN hrow hx hcol hc hm h
    refine sx_11_20 b _ _ _ W hb ⟨fun _ => h W (fun u c hu => (hc u c hu).2) EqX.rf, fun z => absurd (by decide) z⟩
  | succ i ih =>
    intro W col m x hi hN hrow hx hcol hc hm h
    have hV := hN.1
    have hO := hN.2.2.1
    have hil : i < T.length := by omega
    have hsub : nI (i + 1) - nI 1 = nI i := by rw [← nI_add, Int32.add_sub_cancel]
    have hneg : (Int32.ofInt (-1)) = -(nI 1) := by decide
    have hm1 : nI i + Int32.ofInt (-1) = nI i - nI 1 := by rw [hneg, Int32.sub_eq_add_neg]
    have hp := List.getElem?_eq_getElem hil
    have hv := hTV _ (List.getElem_mem hil)
    have hdr := List.drop_eq_getElem_cons hil
    have htr : (T.take (i + 1)).reverse = T[i] :: (T.take i).reverse := by rw [List.take_succ_eq_append_getElem hil]; simp
    rw [htr] at h
    generalize hvv : T[i] = v at hp hv hdr h
    have hvn : v ∉ T.drop (i + 1) := by
      have : (T.drop i).Nodup := hTn.sublist (List.drop_sublist _ _)
      rw [hdr, List.nodup_cons] at this
      exact this.1
    rw [hsub]
    refine sx_11_20 b _ _ _ W hb ⟨fun z => absurd z (nI_pos (by omega)), fun _ => row_get (r := 227) rfl hrow ?_⟩
    rw [nL_get (by omega) hil, hvv]
    refine net_around hb hN hv fun y hy => sx_14 _ W ?_
    -- what is used
    have hus : ∀ c, (anyN fun u => (adj es v u && (T.drop (i + 1)).contains u) && decide (col u = some c)) = usd es col v c := fun c => by
      unfold usd
      refine anyN_congr fun u hu => ?_
      cases hcu : col u with
      | none => simp
      | some e =>
        have := hcol u
        rw [hcu] at this
        rw [← this]
        simp
    have hlf : (leastN fun c => !anyN fun u => (adj es v u && (T.drop (i + 1)).contains u) && decide (col u = some c)) = leastN fun c => !usd es col v c := by
      congr 1
      funext c
      rw [hus c]
    have hb20 : ∀ u c, col u = some c → c < T.length - (i + 1) := fun u c hu => (hc u c hu).1
    obtain ⟨fr1, fr2⟩ := usd_free (es := es) (n := T.length - (i + 1)) (by omega) hb20 v
    have hfun : (fun c => !anyN fun u => (adj es v u && (T.drop (i + 1)).contains u) && decide (col u = some c)) = fun c => !usd es col v c := by
      funext c
      rw [hus c]
    rw [ci_0]
    refine co_free_l (P := fun u => adj es v u && (T.drop (i + 1)).contains u) (col := col) (n0 := T.length - (i + 1)) (hy.and hx.lo) hb20 (by omega) (fun u hu hPu => ?_) (by rw [hfun]; exact fr1) ?_ 20 0 0 (by omega) (by omega) (BS.zero.congr fun c _ => by simp)
    · rw [Bool.and_eq_true] at hPu
      have := hcol u
      rw [hPu.2] at this
      obtain ⟨c, e⟩ := Option.isSome_iff_exists.mp this
      exact ⟨c, e, (hc u c e).2⟩
    rw [hfun]
    rw [colF] at h
    generalize hkk : (leastN fun c => !usd es col v c) = k at *
    refine st_can ?_
    rw [ixB_N (by omega), decide_eq_true (show v < 20 by omega)]
    refine ⟨fun z => absurd z (by decide), fun _ => ⟨in_N (by omega) (by omega), fun W8 e8 => st_bit ?_⟩⟩
    rw [nI_clamp (by omega)] at e8
    have f8 : EqX cll W W8 := by rw [e8]; exact EqX.uw (by simp [cll])
    have hmx : (if nI m < nI k + Int32.ofInt 1 then nI k + Int32.ofInt 1 else nI m) = nI (if m < k + 1 then k + 1 else m) := by
      rw [ci_1, nI_add]
      by_cases q : m < k + 1
      · rw [if_pos q, if_pos (nI_lt q (by omega))]
      · rw [if_neg q, if_neg (nI_nlt (by omega) (by omega))]
    show hd_11_20 (d + 3) Q b (if nI m < nI k + Int32.ofInt 1 then nI k + Int32.ofInt 1 else nI m) (x ||| bitI (nI v)) (nI i + Int32.ofInt (-1)) W8
    rw [hmx, hm1]
    refine ih W8 (fun u => if u = v then some k else col u) _ _ (by omega) (hN.fr f8 (net_cll hb)) (hrow.fr (l := [226]) (by rw [e8]; exact EqX.uw (by simp)) (by decide) (by decide)) ?_ (fun u => ?_) (fun u c hu => ?_) (by split <;> omega) fun W' j1 j2 => h W' j1 (f8.tr j2)
    · refine (hx.or (BS.bit (by omega))).congr fun u _ => ?_
      rw [hdr, Bool.eq_iff_iff]
      simp [or_comm]
    · rw [hdr]
      by_cases e : u = v
      · simp [e]
      · simp only [if_neg e, List.contains_cons]
        rw [hcol u]
        simp [e]
    · by_cases e : u = v
      · simp only [if_pos e, Option.some.injEq] at hu
        rw [e8, e, uw_s, hu]
        exact ⟨by omega, rfl⟩
      · simp only [if_neg e] at hu
        obtain ⟨o1, o2⟩ := hc u c hu
        rw [e8, uw_m e]
        exact ⟨by omega, o2⟩
/-- Colouring.make -/
theorem co_make (hb : fl_net b) (hN : NetR W b V es) (h : ∀ W', (∀ u c, (clR es V).1 u = some c → W' 226 u = nI c) → EqX cll W W' → Q (some (.int (nI (clR es V).2))) W') : fl_cal (d + 4) 11 [.ref 225, .ref b] W Q := by
  have hV := hN.1
  obtain ⟨s1, s2, s3, s4, -⟩ := tkn_sp (es := es) (V := V) V (Nat.le_refl _)
  refine sx_11 b W hb (sx_12 b W hb ?_)
  rw [ci_0]
  refine co_take_a hb hN (fun W1 r1 f1 => ?_) V 0 0 (by omega) (Nat.zero_le _) (BS.zero.congr fun v _ => by simp)
  refine row_size (r := 227) rfl r1 ?_
  rw [nL_len, ci_1]
  refine co_make_l (T := (tkn es V V).1) hb (by omega) s2 s3 (tkn es V V).1.length W1 (fun _ => none) 0 _ (Nat.le_refl _) (hN.fr f1 (net_cll hb)) r1 (by rw [List.drop_eq_nil_of_le (Nat.le_refl _)]; exact BS.zero.congr fun v _ => by simp) (fun u => by rw [List.drop_eq_nil_of_le (Nat.le_refl _)]; simp) (fun u c hu => by cases hu) (by omega) fun W' j1 j2 => ?_
  rw [List.take_of_length_le (Nat.le_refl _)] at j1 ⊢
  exact h W' j1 (f1.tr j2)
end COL
