/-! ===== colours of the reference ===== -/
section RCO
variable {d : Nat} {Q : fl_R} {W : fl_W} {V : Nat} {es : gE}
theorem rf_joined_l {v : Nat} {L : Nat → Bool} {x : Int32} (hv : v < V) (hG : RfG W V es) (hx : BS x L) : ∀ (n i : Nat), V - i = n → i ≤ V → Q (some (.int (nI (tie es L v)))) W → hd_188_5 (d + 1) Q (nI v) x (nI (cnt (fun u => adj es v u && L u) i)) (nI i) W := by
  have hV := hG.1
  have hO := hG.2.2.1
  intro n
  induction n with
  | zero =>
    intro i h1 h2 h
    have hi : i = V := by omega
    subst hi
    refine sx_188_5 _ _ _ _ W ⟨fun q => absurd q ?_, fun _ => ?_⟩
    · rw [hG.2.2.2.1]; exact nI_nlt (by omega) (by omega)
    · have : tie es L v = cnt (fun u => adj es v u && L u) i := by
        unfold tie
        rw [show 20 = i + (20 - i) by omega, cnt_add, cnt_congr (p := fun j => (fun u => adj es v u && L u) (i + j)) (q := fun _ => false) fun j _ => ?_]
        · have : cnt (fun _ => false) (20 - i) = 0 := by
            have : ∀ m, cnt (fun _ => false) m = 0 := fun m => by
              induction m with
              | zero => rfl
              | succ m ih => rw [cnt, ih]; rfl
            exact this _
          rw [this]; omega
        · show (adj es v (i + j) && L (i + j)) = false
          cases ha : adj es v (i + j) with
          | false => rfl
          | true => have := (adj_lt hO ha).2.1; omega
      rw [← this]; exact h
  | succ n ih =>
    intro i h1 h2 h
    have hi : i < V := by omega
    have hle := cnt_le (fun u => adj es v u && L u) i
    have no : (adj es v i && L i) = false → hd_188_5 (d + 1) Q (nI v) x (nI (cnt (fun u => adj es v u && L u) i) + Int32.ofInt 0) (nI i + Int32.ofInt 1) W := fun hn => by
      rw [ci_1, nI_add, ci_0, nI_add]
      have := ih (i + 1) (by omega) (by omega) h
      rw [cnt, hn] at this
      exact this
    refine sx_188_5 _ _ _ _ W ⟨fun _ => ⟨fun z => ⟨fun z2 => ?_, fun z2 => rf_eOf (by omega) (by omega) hG ?_⟩, fun z => no ?_⟩, fun q => absurd ?_ q⟩
    · have := (nI_eq (by omega) (by omega)).mp z2
      refine no ?_
      rw [this]
      cases ha : adj es v v with
      | false => rfl
      | true => exact absurd rfl (adj_lt hO ha).2.2
    · have hL : L i = true := by rw [← hx.lo i (by omega)]; exact (sb_ask1 (by omega) x).mp z
      rw [show fl_q1 _ = fl_q1 _ from rfl]
      refine ⟨fun z3 => ?_, fun z3 => ?_⟩
      · rw [rf_eNo_neg hG] at z3
        exact no (by rw [adj_sym, z3]; rfl)
      · have ha : adj es v i = true := by
          rw [adj_sym]
          cases hh : adj es i v with
          | true => rfl
          | false => exact absurd ((rf_eNo_neg hG).mpr hh) z3
        rw [ci_1, nI_add, nI_add]
        have := ih (i + 1) (by omega) (by omega) h
        rw [cnt, ha, hL] at this
        exact this
    · have hL : L i = false := by
        cases hh : L i with
        | false => rfl
        | true => exact absurd ((sb_ask1 (by omega) x).mpr (by rw [hx.lo i (by omega)]; exact hh)) z
      rw [hL, Bool.and_false]
    · rw [hG.2.2.2.1]; exact nI_lt hi (by omega)
theorem rf_joined {v : Nat} {L : Nat → Bool} {x : Int32} (hv : v < V) (hG : RfG W V es) (hx : BS x L) (h : Q (some (.int (nI (tie es L v)))) W) : fl_cal (d + 2) 188 [.ref 229, .int (nI v), .int x] W Q :=
  sx_188 _ _ W (rf_joined_l hv hG hx V 0 (by omega) (Nat.zero_le _) h)
theorem rf_best {k : Nat} {L : Nat → Bool} {x : Int32} (hG : RfG W V es) (hx : BS x L) : ∀ (n i : Nat) (f : Int32), V - i = n → i ≤ V → f = optI (bst es L i) → (∀ f, f = optI (bst es L V) → vp_in (nI k) 20 ∧ (∀ W3 : fl_W, W3 = fl_uw W 244 (nI k).toNatClampNeg f → hd_189_7 (d + 2) Q (x ^^^ ((Int32.ofInt 1) <<< (f &&& 31))) (nI k + Int32.ofInt 1) W3)) → hd_189_20 (d + 2) Q x (nI k) f (nI i) W := by
  have hV := hG.1
  have hO := hG.2.2.1
  intro n
  induction n with
  | zero =>
    intro i f h1 h2 hf h
    have hi : i = V := by omega
    subst hi
    refine sx_189_20 _ _ _ _ W ⟨fun q => absurd q ?_, fun _ => h f hf⟩
    rw [hG.2.2.2.1]; exact nI_nlt (by omega) (by omega)
  | succ n ih =>
    intro i f h1 h2 hf h
    have hi : i < V := by omega
    have hbs : bst es L (i + 1) = if L i then (match bst es L i with | none => some i | some b => if tie es L i < tie es L b then some i else some b) else bst es L i := by
      rw [bst]
      cases bst es L i <;> rfl
    have tl20 : ∀ v, tie es L v ≤ 20 := fun v => cnt_le _ _
    refine sx_189_20 _ _ _ _ W ⟨fun _ => ⟨fun z => ?_, fun z => ?_⟩, fun q => absurd ?_ q⟩
    · have hL : L i = true := by rw [← hx.lo i (by omega)]; exact (sb_ask1 (by omega) x).mp z
      rw [hL, if_pos rfl] at hbs
      rw [ci_1, nI_add]
      cases hb : bst es L i with
      | none =>
        rw [hb] at hf hbs
        rw [hf]
        refine ⟨fun _ => ih (i + 1) (nI i) (by omega) (by omega) (by rw [hbs]; rfl) h, fun w => absurd (show optI none < 0 by decide) w⟩
      | some c =>
        rw [hb] at hf hbs
        have hc := (bst_sp i).1 c hb
        rw [hf]
        refine ⟨fun w => absurd w (nI_pos (by omega)), fun _ => rf_joined hi hG hx ?_⟩
        show fl_cal (d + 2) 188 [.ref 229, .int (nI c), .int x] W _
        refine rf_joined (by omega) hG hx ⟨fun w => ?_, fun w => ?_⟩
        · rw [nI_ltI (by have := tl20 i; omega) (by have := tl20 c; omega)] at w
          exact ih (i + 1) (nI i) (by omega) (by omega) (by rw [hbs]; simp only [if_pos w]; rfl) h
        · rw [nI_ltI (by have := tl20 i; omega) (by have := tl20 c; omega)] at w
          exact ih (i + 1) (nI c) (by omega) (by omega) (by rw [hbs]; simp only [if_neg w]; rfl) h
    · have hL : L i = false := by
        cases hh : L i with
        | false => rfl
        | true => exact absurd ((sb_ask1 (by omega) x).mpr (by rw [hx.lo i (by omega)]; exact hh)) z
      rw [hL] at hbs
      rw [ci_1, nI_add]
      exact ih (i + 1) f (by omega) (by omega) (by rw [hbs]; exact hf) h
    · rw [hG.2.2.2.1]; exact nI_lt hi (by omega)
theorem rf_order : ∀ (n k : Nat) (W : fl_W) (x : Int32), V - k = n → k ≤ V → RfG W V es → BS x (tkn es V k).2 → (∀ j v, (tkn es V k).1[j]? = some v → W 244 j = nI v) → (∀ W', (∀ j v, (tkn es V V).1[j]? = some v → W' 244 j = nI v) → EqF [] [244] W W' → hd_189_91 (d + 2) Q (nI 0) (nI 0) W') → hd_189_7 (d + 2) Q x (nI k) W := by
  intro n
  induction n with
  | zero =>
    intro k W x h1 h2 hG hx hq h
    have hV := hG.1
    have hk : k = V := by omega
    subst hk
    refine sx_189_7 _ _ W ⟨fun q => absurd q ?_, fun _ => h W hq EqF.rf⟩
    rw [hG.2.2.2.1]; exact nI_nlt (by omega) (by omega)
  | succ n ih =>
    intro k W x h1 h2 hG hx hq h
    have hV := hG.1
    have hk : k < V := by omega
    obtain ⟨s1, s2, s3, s4, s5⟩ := tkn_sp (es := es) (V := V) k (by omega)
    obtain ⟨c, c1, c2, c3⟩ := s5 hk
    clear s5
    have htk : tkn es V (k + 1) = ((tkn es V k).1 ++ [c], fun u => (tkn es V k).2 u && decide (u ≠ c)) := by rw [tkn, c1]; rfl
    refine sx_189_7 _ _ W ⟨fun _ => ?_, fun q => absurd ?_ q⟩
    · rw [ci_0]
      refine rf_best hG hx V 0 (-1) (by omega) (Nat.zero_le _) rfl fun f hf => ⟨in_N (by omega) (by omega), fun W3 e3 => ?_⟩
      rw [c1] at hf
      have hf : f = nI c := hf
      rw [nI_clamp (by omega), hf] at e3
      have f3 : EqF [] [244] W W3 := by rw [e3]; exact EqF.uwA (by simp) (by decide)
      rw [hf, ci_1, nI_add]
      refine ih (k + 1) W3 _ (by omega) (by omega) (hG.fr f3 (by decide) (by decide) (by decide) (by decide)) ?_ (fun j v hj => ?_) fun W' j1 j2 => h W' j1 (f3.tr j2)
      · rw [htk]
        intro i hi
        have h1' := hx i hi
        have h2' := (BS.one (v := c) (by omega)) i hi
        have hLc : (tkn es V k).2 c = true := by rw [s4]; simp [c2, c3]
        rw [sb_xor, h1', show sb ((nI 1) <<< (nI c &&& 31)) i = _ from h2']
        by_cases e : i = c
        · rw [e, hLc]; simp
        · simp [e]
      · rw [htk] at hj
        simp only at hj
        rw [e3]
        by_cases ej : j = k
        · subst ej
          have : ((tkn es V j).1 ++ [c])[(tkn es V j).1.length]? = some c := List.getElem?_concat_length
          rw [s1] at this
          rw [this] at hj
          cases hj
          exact uw_s
        · have hjl : j < (tkn es V k).1.length := by
            have := (List.getElem?_eq_some_iff.mp hj).1
            rw [List.length_append, List.length_singleton] at this
            omega
          rw [uw_m ej]
          rw [List.getElem?_append_left hjl] at hj
          exact hq j v hj
    · rw [hG.2.2.2.1]; exact nI_lt hk (by omega)
theorem rf_uncol {m : Int32} : ∀ (n i : Nat) (W : fl_W), V - i = n → i ≤ V → RfG W V es → (∀ u, u < i → W 240 u = -1) → (∀ W', (∀ u, u < V → W' 240 u = -1) → EqF [] [240] W W' → hd_189_119 d Q m (nI V - nI 1) W') → hd_189_91 d Q m (nI i) W := by
  intro n
  induction n with
  | zero =>
    intro i W h1 h2 hG hall h
    have hV := hG.1
    refine sx_189_91 _ _ W ⟨fun q => absurd q ?_, fun _ => ?_⟩
    · rw [hG.2.2.2.1]; exact nI_nlt (by omega) (by omega)
    · rw [hG.2.2.2.1, ci_1]
      exact h W (fun u hu => hall u (by omega)) EqF.rf
  | succ n ih =>
    intro i W h1 h2 hG hall h
    have hV := hG.1
    refine sx_189_91 _ _ W ⟨fun _ => ⟨in_N (by omega) (by omega), fun W2 e2 => ?_⟩, fun q => absurd ?_ q⟩
    · rw [nI_clamp (by omega)] at e2
      have f2 : EqF [] [240] W W2 := by rw [e2]; exact EqF.uwA (by simp) (by decide)
      rw [ci_1, nI_add]
      refine ih (i + 1) W2 (by omega) (by omega) (hG.fr f2 (by decide) (by decide) (by decide) (by decide)) (fun u hu => ?_) fun W' k1 k2 => h W' k1 (f2.tr k2)
      rw [e2]
      by_cases e : u = i
      · rw [e, uw_s]; rfl
      · rw [uw_m e]; exact hall u (by omega)
    · rw [hG.2.2.2.1]; exact nI_lt (by omega) (by omega)
/-- what is had -/
theorem rf_had {k v n0 : Nat} {m : Int32} {col : Nat → Option Nat} (hG : RfG W V es) (hk : k < 20) (hv : v < V) (h244 : W 244 k = nI v) (hcol : ∀ u, u < V → W 240 u = optI (col u)) (hc : ∀ u c, col u = some c → c < n0) (hn0 : n0 ≤ 20) (h : ∀ y, BS y (fun c => usd es col v c) → hd_189_186 (d + 1) Q m (nI k) y (nI 0) W) : ∀ (n i : Nat) (y : Int32), V - i = n → i ≤ V → BS y (fun c => (List.range i).any fun u => adj es v u && decide (col u = some c)) → hd_189_129 (d + 1) Q m (nI k) y (nI i) W := by
  have hV := hG.1
  have hO := hG.2.2.1
  intro n
  induction n with
  | zero =>
    intro i y h1 h2 hy
    have hi : i = V := by omega
    subst hi
    refine sx_189_129 _ _ _ _ W ⟨fun q => absurd q ?_, fun _ => h y (hy.congr fun c _ => ?_)⟩
    · rw [hG.2.2.2.1]; exact nI_nlt (by omega) (by omega)
    · unfold usd
      rw [Bool.eq_iff_iff, anyN_iff, List.any_eq_true]
      constructor
      · rintro ⟨u, u1, u2⟩
        exact ⟨u, by have := List.mem_range.mp u1; omega, u2⟩
      · rintro ⟨u, u1, u2⟩
        have hu2 := u2
        rw [Bool.and_eq_true] at hu2
        exact ⟨u, List.mem_range.mpr (adj_lt hO hu2.1).2.1, u2⟩
  | succ n ih =>
    intro i y h1 h2 hy
    have hi : i < V := by omega
    have skip : (∀ c, (adj es v i && decide (col i = some c)) = false) → hd_189_129 (d + 1) Q m (nI k) y (nI i + Int32.ofInt 1) W := fun hn => by
      rw [ci_1, nI_add]
      refine ih (i + 1) y (by omega) (by omega) (hy.congr fun c _ => ?_)
      rw [List.range_succ, List.any_append]
      simp only [List.any_cons, List.any_nil, hn c, Bool.or_false]
    refine sx_189_129 _ _ _ _ W ⟨fun _ => ⟨in_N (by omega) (by omega), ?_⟩, fun q => absurd ?_ q⟩
    · rw [nI_clamp (by omega), hcol i hi]
      cases hci : col i with
      | none =>
        refine ⟨fun _ => skip fun c => by rw [hci]; simp, fun w => absurd (show optI none < 0 by decide) w⟩
      | some e =>
        have he := hc i e hci
        refine ⟨fun w => absurd w (nI_pos (by omega)), fun _ => ⟨in_N hk (by omega), ?_⟩⟩
        rw [nI_clamp (by omega), h244]
        refine rf_eOf (by omega) (by omega) hG ⟨fun z3 => ?_, fun z3 => ⟨in_N (by omega) (by omega), ?_⟩⟩
        · rw [rf_eNo_neg hG] at z3
          exact skip fun c => by rw [adj_sym, z3]; rfl
        · have ha : adj es v i = true := by
            rw [adj_sym]
            cases hh : adj es i v with
            | true => rfl
            | false => exact absurd ((rf_eNo_neg hG).mpr hh) z3
          show hd_189_129 (d + 1) Q m (nI k) (y ||| ((Int32.ofInt 1) <<< ((W 240 i) &&& 31))) (nI i + Int32.ofInt 1) W
          rw [hcol i hi, hci, ci_1, nI_add]
          refine ih (i + 1) _ (by omega) (by omega) ((hy.or (BS.one (v := e) (by omega))).congr fun c _ => ?_)
          rw [List.range_succ, List.any_append]
          simp only [List.any_cons, List.any_nil, ha, hci, Bool.true_and, Bool.or_false, Option.some.injEq]
          congr 1
          rw [Bool.eq_iff_iff]
          simp [eq_comm]
    · rw [hG.2.2.2.1]; exact nI_lt hi (by omega)
theorem rf_give {T : List Nat} (hT20 : T.length ≤ 20) (hTn : T.Nodup) (hTV : ∀ v ∈ T, v < V) : ∀ (i : Nat) (W : fl_W) (col : Nat → Option Nat) (m : Nat), i ≤ T.length → RfG W V es → (∀ j v, T[j]? = some v → W 244 j = nI v) → (∀ u, u < V → W 240 u = optI (col u)) → (∀ u c, col u = some c → c < T.length - i) → m ≤ T.length - i →
    (∀ W', (∀ u, u < V → W' 240 u = optI ((colF es (T.take i).reverse col m).1 u)) → W' 229 17 = 1 → EqF [17] [240] W W' → Q (some (.int (nI (colF es (T.take i).reverse col m).2))) W') → hd_189_119 (d + 1) Q (nI m) (nI i - nI 1) W := by
  intro i
  induction i with
  | zero =>
    intro W col m hi hG hq hcol hc hm h
    refine sx_189_119 _ _ W ⟨fun _ W6 e6 => h W6 (fun u hu => by rw [e6, uw_n (by decide)]; exact hcol u hu) (by rw [e6, uw_s]; rfl) (by rw [e6]; exact EqF.uwF (by simp)), fun z => absurd (by decide) z⟩
  | succ i ih =>
    intro W col m hi hG hq hcol hc hm h
    have hV := hG.1
    have hil : i < T.length := by omega
    have hsub : nI (i + 1) - nI 1 = nI i := by rw [← nI_add, Int32.add_sub_cancel]
    have hneg : (Int32.ofInt (-1)) = -(nI 1) := by decide
    have hm1 : nI i + Int32.ofInt (-1) = nI i - nI 1 := by rw [hneg, Int32.sub_eq_add_neg]
    have hp := List.getElem?_eq_getElem hil
    have hv := hTV _ (List.getElem_mem hil)
    have htr : (T.take (i + 1)).reverse = T[i] :: (T.take i).reverse := by rw [List.take_succ_eq_append_getElem hil]; simp
    rw [htr] at h
    generalize hvv : T[i] = v at hp hv h
    rw [hsub]
    obtain ⟨fr1, fr2⟩ := usd_free (es := es) (n := T.length - (i + 1)) (by omega) hc v
    obtain ⟨l1, l2, l3⟩ := leastN_spec fr1
    rw [colF] at h
    generalize hkk : (leastN fun c => !usd es col v c) = k at *
    refine sx_189_119 _ _ W ⟨fun z => absurd z (nI_pos (by omega)), fun _ => ?_⟩
    rw [ci_0]
    refine rf_had (n0 := T.length - (i + 1)) hG (by omega) hv (hq i v hp) hcol hc (by omega) (fun y hy => ?_) V 0 _ (by omega) (Nat.zero_le _) (BS.zero.congr fun c _ => by simp)
    -- the least that is free
    have scan : ∀ (n j : Nat), k - j = n → j ≤ k → hd_189_186 (d + 1) Q (nI m) (nI i) y (nI j) W := by
      intro n
      induction n with
      | zero =>
        intro j j1 j2
        have hj : j = k := by omega
        subst hj
        have hno : usd es col v j = false := by simpa using l2
        refine sx_189_186 _ _ _ _ W ⟨fun z => ?_, fun _ => ⟨in_N (by omega) (by omega), ?_⟩⟩
        · have := (sb_ask1 (by omega) y).mp z
          have h5 := (hy.lo j (by omega)).symm.trans this
          simp only [hno] at h5
          cases h5
        · rw [nI_clamp (by omega), hq i v hp, nI_clamp (by omega)]
          refine ⟨in_N (by omega) (by omega), fun W8 e8 => ?_⟩
          have f8 : EqF [17] [240] W W8 := by rw [e8]; exact EqF.uwA (by simp) (by decide)
          have next : hd_189_119 (d + 1) Q (nI (if m < j + 1 then j + 1 else m)) (nI i - nI 1) W8 := by
            refine ih W8 (fun u => if u = v then some j else col u) _ (by omega) (hG.fr f8 (by decide) (by decide) (by decide) (by decide)) (fun q w hqw => by rw [f8.1 244 (by decide) (by decide)]; exact hq q w hqw) (fun u hu => ?_) (fun u c hu => ?_) (by split <;> omega) fun W' k1 k2 k3 => h W' k1 k2 (f8.tr k3)
            · rw [e8]
              by_cases e : u = v
              · rw [e, uw_s, if_pos rfl]; rfl
              · rw [uw_m e, if_neg e]; exact hcol u hu
            · by_cases e : u = v
              · simp only [if_pos e, Option.some.injEq] at hu; omega
              · simp only [if_neg e] at hu
                have := hc u c hu
                omega
          rw [ci_1, nI_add, hm1]
          refine ⟨fun w => ?_, fun w => ?_⟩
          · rw [i_le, nI_toInt (by omega), nI_toInt (by omega)] at w
            rw [if_neg (by omega)] at next
            exact next
          · rw [i_le, nI_toInt (by omega), nI_toInt (by omega)] at w
            rw [if_pos (by omega)] at next
            exact next
      | succ n ihn =>
        intro j j1 j2
        have hyes : usd es col v j = true := by simpa using l3 j (by omega)
        refine sx_189_186 _ _ _ _ W ⟨fun _ => ?_, fun z => absurd ((sb_ask1 (by omega) y).mpr ?_) z⟩
        · rw [ci_1, nI_add]; exact ihn (j + 1) (by omega) (by omega)
        · rw [hy.lo j (by omega)]; exact hyes
    exact scan k 0 (by omega) (Nat.zero_le _)
/-- colour -/
theorem rf_colour (hG : RfG W V es) (h : ∀ W', (∀ u, u < V → W' 240 u = optI ((clR es V).1 u)) → W' 229 17 = 1 → EqF [17] [240, 244] W W' → Q (some (.int (nI (clR es V).2))) W') : fl_cal (d + 3) 189 [.ref 229] W Q := by
  have hV := hG.1
  obtain ⟨s1, s2, s3, s4, -⟩ := tkn_sp (es := es) (V := V) V (Nat.le_refl _)
  refine sx_189 W (rf_allV hG fun x hx => ?_)
  rw [ci_0]
  refine rf_order V 0 W x (by omega) (Nat.zero_le _) hG hx (fun j v hj => by simp [tkn] at hj) fun W1 k1 k2 => ?_
  have hG1 := hG.fr k2 (by decide) (by decide) (by decide) (by decide)
  refine rf_uncol V 0 W1 (by omega) (Nat.zero_le _) hG1 (fun u hu => by omega) fun W2 m1 m2 => ?_
  have hG2 := hG1.fr m2 (by decide) (by decide) (by decide) (by decide)
  have := rf_give (d := d + 1) (Q := Q) (es := es) (V := V) (T := (tkn es V V).1) (by omega) s2 s3 (tkn es V V).1.length W2 (fun _ => none) 0 (Nat.le_refl _) hG2 (fun j v hj => by rw [m2.1 244 (by decide) (by decide)]; exact k1 j v hj) (fun u hu => by rw [m1 u hu]; rfl) (fun u c hu => by cases hu) (by omega) fun W' j1 j2 j3 => ?_
  · rw [s1] at this
    exact this
  · rw [List.take_of_length_le (Nat.le_refl _)] at j1 ⊢
    exact h W' j1 j2 (((k2.mono (by simp) (by simp)).tr (m2.mono (by simp) (by simp))).tr (j3.mono (by simp) (by simp)))
end RCO
