/-! ===== Reference: a part laid ===== -/
section RPD
variable {d : Nat} {Q : fl_R} {W : fl_W} {V : Nat} {es bes dl : gE} {rs : List (List Nat)}
/-- markWay -/
theorem rf_mw_l {b0 : Nat} {wr : List Nat} (hb0 : b0 < 20) (hwr : ∀ x ∈ wr, x < 20) (hwl : wr.length ≤ 19) : ∀ (rest : List Nat) (j v : Nat) (W : fl_W) (D : gE) (lv : Nat → Bool), wr.drop j = rest → j ≤ wr.length → RfG W V es → W 229 35 = nI wr.length → (∀ i x, wr[i]? = some x → W 252 i = nI x) → v < 20 → (∀ g, g ∈ wyE (v :: (rest ++ [b0])) → g ∈ es) → BS (W 229 28) lv → (∀ i g, es[i]? = some g → W 248 i = if g ∈ D then 1 else 0) →
    (∀ W', BS (W' 229 28) (fun u => lv u || (rest ++ [b0]).contains u) → (∀ i g, es[i]? = some g → W' 248 i = if g ∈ D ++ wyE (v :: (rest ++ [b0])) then 1 else 0) → EqF [28] [248] W W' → Q none W') → hd_151_5 (d + 1) Q (nI b0) (nI v) (nI j) W := by
  have mark : ∀ (v u : Nat) (W : fl_W) (D : gE) (lv : Nat → Bool) (K : fl_W → Prop), RfG W V es → v < 20 → u < 20 → (min v u, max v u) ∈ es → BS (W 229 28) lv → (∀ i g, es[i]? = some g → W 248 i = if g ∈ D then 1 else 0) → (∀ W', BS (W' 229 28) (fun x => lv x || decide (x = u)) → (∀ i g, es[i]? = some g → W' 248 i = if g ∈ D ++ [(min v u, max v u)] then 1 else 0) → EqF [28] [248] W W' → K W') →
      fl_cal (d + 1) 128 [.ref 229, .int (nI v), .int (nI u)] W (fl_q1 fun x1 W1 => vp_in x1 61 ∧ (∀ W2 : fl_W, W2 = fl_uw W1 248 x1.toNatClampNeg (Int32.ofInt 1) → ∀ W3 : fl_W, W3 = fl_uw W2 229 28 ((W2 229 28) ||| ((Int32.ofInt 1) <<< (nI u &&& 31))) → K W3)) := by
    intro v u W D lv K hG hv hu he h28 h248 hK
    have hE := hG.2.1
    refine rf_eOf hv hu hG ?_
    obtain ⟨j0, hj0⟩ : ∃ j0, eNo es v u = some j0 := by
      have : adj es v u = true := by
        rcases Nat.le_total v u with q | q
        · rw [show min v u = v by omega, show max v u = u by omega] at he; exact adj_iff.mpr (Or.inl he)
        · rw [show min v u = u by omega, show max v u = v by omega] at he; exact adj_iff.mpr (Or.inr he)
      rw [← eNo_adj hG.2.2.1] at this
      exact Option.isSome_iff_exists.mp this
    rw [hj0]
    have hat := eNo_at hj0
    have hjl := eNo_lt hj0
    refine ⟨in_N (show j0 < 61 by omega) (by omega), fun W2 e2 W3 e3 => ?_⟩
    have e2 : W2 = fl_uw W 248 j0 (Int32.ofInt 1) := by
      rw [e2]
      show fl_uw W 248 (nI j0).toNatClampNeg _ = _
      rw [nI_clamp (by omega)]
    have f3 : EqF [28] [248] W W3 := by
      rw [e3, e2]
      exact (EqF.uwA (by simp) (by decide)).tr (EqF.uwF (by simp))
    refine hK W3 ?_ (fun i g hi => ?_) f3
    · rw [e3, uw_s, e2, uw_n (by decide)]
      exact h28.or (BS.one hu)
    · rw [e3, uw_n (by decide), e2]
      have hmem : g ∈ D ++ [(min v u, max v u)] ↔ g ∈ D ∨ g = (min v u, max v u) := by simp
      by_cases ei : i = j0
      · subst ei
        rw [hat] at hi; cases hi
        rw [uw_s, if_pos (hmem.mpr (Or.inr rfl))]; rfl
      · have hge : g ≠ (min v u, max v u) := fun e => by
          rw [e] at hi
          have hil := (List.getElem?_eq_some_iff.mp hi).1
          exact ei ((List.getElem?_inj hil hG.2.2.1.2).mp (hi.trans hat.symm))
        rw [uw_m ei, h248 i g hi]
        have : g ∈ D ++ [(min v u, max v u)] ↔ g ∈ D := hmem.trans ⟨fun z => z.resolve_right hge, Or.inl⟩
        simp only [this]
  intro rest
  induction rest with
  | nil =>
    intro j v W D lv hd hj hG h35 h252 hv hes h28 h248 h
    have hil : wr.length ≤ j := List.drop_eq_nil_iff.mp hd
    have hjj : j = wr.length := by omega
    subst hjj
    rw [List.nil_append] at hes h
    refine sx_151_5 _ _ _ W ⟨fun _ => ⟨fun z => absurd z ?_, fun _ => ?_⟩, fun z => absurd ?_ z⟩
    · rw [h35]; exact nI_nlt (Nat.le_refl _) (by omega)
    · refine mark v b0 W D lv _ hG hv hb0 (hes _ (by rw [wyE_two]; simp)) h28 h248 fun W3 k1 k2 k3 => ?_
      rw [ci_1, nI_add]
      refine sx_151_5 _ _ _ W3 ⟨fun z => absurd z ?_, fun _ => h W3 (k1.congr fun x _ => by simp) (by rw [wyE_two]; exact k2) k3⟩
      rw [k3.2 35 (by decide), h35, i_le, nI_toInt (by omega), nI_toInt (by omega)]
      omega
    · rw [h35, i_le]; omega
  | cons u rest ih =>
    intro j v W D lv hd hj hG h35 h252 hv hes h28 h248 h
    have hil : j < wr.length := by
      rcases Nat.lt_or_ge j wr.length with q | q
      · exact q
      · rw [List.drop_eq_nil_of_le q] at hd; cases hd
    rw [List.drop_eq_getElem_cons hil] at hd
    injection hd with hu hd
    have hp : wr[j]? = some u := by rw [List.getElem?_eq_getElem hil, hu]
    have hu20 := hwr u (List.mem_of_getElem? hp)
    rw [List.cons_append] at hes h
    refine sx_151_5 _ _ _ W ⟨fun _ => ⟨fun _ => ⟨in_N (by omega) (by omega), ?_⟩, fun z => absurd ?_ z⟩, fun z => absurd ?_ z⟩
    · rw [nI_clamp (by omega), h252 j u hp]
      refine mark v u W D lv _ hG hv hu20 (hes _ (by rw [wyE]; simp)) h28 h248 fun W3 k1 k2 k3 => ?_
      rw [ci_1, nI_add]
      refine ih (j + 1) u W3 (D ++ [(min v u, max v u)]) _ hd (by omega) (hG.fr k3 (by decide) (by decide) (by decide) (by decide)) (by rw [k3.2 35 (by decide)]; exact h35) (fun i x hi => by rw [k3.1 252 (by decide) (by decide)]; exact h252 i x hi) hu20 (fun g hg => hes g (by rw [wyE]; exact List.mem_cons_of_mem _ hg)) k1 k2 fun W' j1 j2 j3 => h W' (j1.congr fun x _ => ?_) (by rw [wyE]; rw [List.append_assoc, List.singleton_append] at j2; exact j2) (k3.tr j3)
      rw [Bool.eq_iff_iff]
      simp only [Bool.or_eq_true, decide_eq_true_eq, List.contains_eq_mem, List.mem_cons]
      exact or_assoc
    · rw [h35]; exact nI_lt hil (by omega)
    · rw [h35, i_le, nI_toInt (by omega), nI_toInt (by omega)]; omega
/-- a row being written -/
def RW (W : fl_W) (i : Nat) (l : List Nat) : Prop := ∀ j x, l[j]? = some x → W 246 (20 * i + j) = nI x
theorem RW.add {W' : fl_W} {i x : Nat} {l : List Nat} (h : RW W i l) (e : W' = fl_uw W 246 (20 * i + l.length) (nI x)) : RW W' i (l ++ [x]) := fun j y hj => by
  rw [e]
  by_cases ej : j = l.length
  · subst ej
    rw [List.getElem?_concat_length] at hj
    cases hj
    exact uw_s
  · have hjl : j < l.length := by
      have := (List.getElem?_eq_some_iff.mp hj).1
      rw [List.length_append, List.length_singleton] at this
      omega
    rw [uw_m (by omega)]
    rw [List.getElem?_append_left hjl] at hj
    exact h j y hj
theorem RW.keep {W' : fl_W} {i i' m : Nat} {x : Int32} {l : List Nat} (h : RW W i' l) (hl : l.length ≤ 20) (hii : i' ≠ i) (hm : m < 20) (e : W' = fl_uw W 246 (20 * i + m) x) : RW W' i' l := fun j y hj => by
  have hjl := (List.getElem?_eq_some_iff.mp hj).1
  rw [e, uw_m (by omega)]
  exact h j y hj
theorem rot_at {R : List Nat} {a k : Nat} (ha : a ∈ R) (hk : k < R.length) : (rotN R a)[k]? = R[(R.idxOf a + k) % R.length]? := by
  have hl := List.idxOf_lt_length_of_mem ha
  unfold rotN
  by_cases e : k < (R.drop (R.idxOf a)).length
  · rw [List.getElem?_append_left e, List.getElem?_drop]
    rw [List.length_drop] at e
    rw [Nat.mod_eq_of_lt (by omega)]
  · rw [List.length_drop] at e
    rw [List.getElem?_append_right (by rw [List.length_drop]; omega), List.length_drop, List.getElem?_take, if_pos (by omega)]
    have : (R.idxOf a + k) % R.length = k - (R.length - R.idxOf a) := by
      rw [Nat.mod_eq_sub_mod (by omega), Nat.mod_eq_of_lt (by omega)]
      omega
    rw [this]
/-- going along the old ring from k until x: the row ri is written -/
theorem rf_lp_140 {ri n a b0 : Nat} {R : List Nat} (hn : n = R.length) (hn20 : n ≤ 20) (hn0 : 0 < n) (hri : ri < 60) (hR20 : ∀ x ∈ R, x < 20) (ha20 : a < 20) (hb20 : b0 < 20) : ∀ (rest l : List Nat) (k : Nat) (W : fl_W), (∀ t x, rest[t]? = some x → R[(k + t) % n]? = some x) → k < n → b0 ∈ rest → l.length + rest.length ≤ 20 → (∀ j x, R[j]? = some x → W 253 j = nI x) → RW W ri l →
    (∀ W' k', R[k']? = some b0 → RW W' ri (l ++ arcN rest b0) → (∀ i m, i ≠ ri → m < 20 → W' 246 (20 * i + m) = W 246 (20 * i + m)) → EqF [] [246] W W' → hd_150_211 d Q (nI ri) (nI a) (nI b0) (nI n) (nI (l ++ arcN rest b0).length) (nI k') ((W' 229 35) - (Int32.ofInt 1)) W') → hd_150_140 d Q (nI ri) (nI a) (nI b0) (nI n) (nI l.length) (nI k) W := by
  intro rest
  induction rest with
  | nil => intro l k W h1 hk hb; exact absurd hb List.not_mem_nil
  | cons x rest ih =>
    intro l k W h1 hk hb hlen h253 hW h
    have hx := h1 0 x rfl
    rw [Nat.add_zero, Nat.mod_eq_of_lt hk] at hx
    have hx20 := hR20 x (List.mem_of_getElem? hx)
    rw [List.length_cons] at hlen
    refine sx_150_140 _ _ _ _ _ _ W ⟨in_N (by omega) (by omega), ?_⟩
    rw [nI_clamp (by omega), h253 k x hx, cb_20, nI_mul, nI_add, nI_clamp (by omega)]
    refine ⟨fun z => ⟨in_N (by omega) (by omega), fun W6 e6 => ?_⟩, fun z => ⟨in_N (by omega) (by omega), in_N (by omega) (by omega), fun W7 e7 => ⟨?_, ?_⟩⟩⟩
    · have hxb := (nI_eq (by omega) (by omega)).mp z
      rw [ci_1, nI_add]
      have harc : arcN (x :: rest) b0 = [x] := by rw [arcN, if_pos hxb]
      rw [harc] at h
      have := h W6 k (by rw [← hxb]; exact hx) (hW.add (by rw [e6, hxb])) (fun i m hi hm => by rw [e6, uw_m (by omega)]) (by rw [e6]; exact EqF.uwA (by simp) (by decide))
      rwa [List.length_append, List.length_singleton] at this
    · rw [cz_0, nI_eq (by omega) (by omega)]; omega
    · have hxb : x ≠ b0 := fun e => z (by rw [e])
      have harc : arcN (x :: rest) b0 = x :: arcN rest b0 := by rw [arcN, if_neg hxb]
      rw [harc] at h
      have hb' : b0 ∈ rest := by
        rcases List.mem_cons.mp hb with e | e
        · exact absurd e.symm hxb
        · exact e
      have f7 : EqF [] [246] W W7 := by rw [e7]; exact EqF.uwA (by simp) (by decide)
      rw [ci_1, nI_add, nI_add, nI_mod (k + 1) (by omega) n (by omega) hn0]
      have := ih (l ++ [x]) ((k + 1) % n) W7 (fun t y ht => ?_) (Nat.mod_lt _ hn0) hb' (by simp; omega) (fun j y hj => by rw [f7.1 253 (by decide) (by decide)]; exact h253 j y hj) (hW.add e7) fun W' k' k1 k2 k3 k4 => ?_
      · rwa [List.length_append, List.length_singleton] at this
      · have := h1 (t + 1) y (by rw [List.getElem?_cons_succ]; exact ht)
        rw [Nat.mod_add_mod, show k + 1 + t = k + (t + 1) by omega]
        exact this
      · rw [List.append_assoc, List.singleton_append] at k2 ⊢
        refine h W' k' k1 k2 (fun i m hi hm => by rw [k3 i m hi hm, e7, uw_m (by omega)]) (f7.tr k4)
theorem rf_lp_255 {ri n a b0 : Nat} {R : List Nat} (hn : n = R.length) (hn20 : n ≤ 20) (hn0 : 0 < n) (hri : ri < 60) (hR20 : ∀ x ∈ R, x < 20) (ha20 : a < 20) (hb20 : b0 < 20) : ∀ (rest l : List Nat) (k : Nat) (W : fl_W), (∀ t x, rest[t]? = some x → R[(k + t) % n]? = some x) → k < n → a ∈ rest → l.length + rest.length ≤ 20 → (∀ j x, R[j]? = some x → W 253 j = nI x) → W 229 26 = nI ri → RW W ri l →
    (∀ W', RW W' ri (l ++ arcN rest a) → (∀ i m, i ≠ ri → m < 20 → W' 246 (20 * i + m) = W 246 (20 * i + m)) → EqF [] [246] W W' → hd_150_325 d Q (nI a) (nI b0) (nI (l ++ arcN rest a).length) (nI 0) W') → hd_150_255 d Q (nI a) (nI b0) (nI n) (nI l.length) (nI k) W := by
  intro rest
  induction rest with
  | nil => intro l k W h1 hk hb; exact absurd hb List.not_mem_nil
  | cons x rest ih =>
    intro l k W h1 hk hb hlen h253 h26 hW h
    have hx := h1 0 x rfl
    rw [Nat.add_zero, Nat.mod_eq_of_lt hk] at hx
    have hx20 := hR20 x (List.mem_of_getElem? hx)
    rw [List.length_cons] at hlen
    refine sx_150_255 _ _ _ _ _ W ⟨in_N (by omega) (by omega), ?_⟩
    rw [nI_clamp (by omega), h253 k x hx, h26, cb_20, nI_mul, nI_add, nI_clamp (by omega)]
    refine ⟨fun z => ⟨in_N (by omega) (by omega), fun W6 e6 => ?_⟩, fun z => ⟨in_N (by omega) (by omega), in_N (by omega) (by omega), fun W7 e7 => ⟨?_, ?_⟩⟩⟩
    · have hxb := (nI_eq (by omega) (by omega)).mp z
      rw [ci_1, nI_add, ci_0]
      have harc : arcN (x :: rest) a = [x] := by rw [arcN, if_pos hxb]
      rw [harc] at h
      have := h W6 (hW.add (by rw [e6, hxb])) (fun i m hi hm => by rw [e6, uw_m (by omega)]) (by rw [e6]; exact EqF.uwA (by simp) (by decide))
      rwa [List.length_append, List.length_singleton] at this
    · rw [cz_0, nI_eq (by omega) (by omega)]; omega
    · have hxb : x ≠ a := fun e => z (by rw [e])
      have harc : arcN (x :: rest) a = x :: arcN rest a := by rw [arcN, if_neg hxb]
      rw [harc] at h
      have hb' : a ∈ rest := by
        rcases List.mem_cons.mp hb with e | e
        · exact absurd e.symm hxb
        · exact e
      have f7 : EqF [] [246] W W7 := by rw [e7]; exact EqF.uwA (by simp) (by decide)
      rw [ci_1, nI_add, nI_add, nI_mod (k + 1) (by omega) n (by omega) hn0]
      have := ih (l ++ [x]) ((k + 1) % n) W7 (fun t y ht => ?_) (Nat.mod_lt _ hn0) hb' (by simp; omega) (fun j y hj => by rw [f7.1 253 (by decide) (by decide)]; exact h253 j y hj) (by rw [f7.2 26 (by decide)]; exact h26) (hW.add e7) fun W' k2 k3 k4 => ?_
      · rwa [List.length_append, List.length_singleton] at this
      · have := h1 (t + 1) y (by rw [List.getElem?_cons_succ]; exact ht)
        rw [Nat.mod_add_mod, show k + 1 + t = k + (t + 1) by omega]
        exact this
      · rw [List.append_assoc, List.singleton_append] at k2 ⊢
        refine h W' k2 (fun i m hi hm => by rw [k3 i m hi hm, e7, uw_m (by omega)]) (f7.tr k4)
/-- the way behind the first arc, backwards -/
theorem rf_lp_211 {ri a b0 : Nat} {v5 v8 : Int32} (hri : ri < 60) : ∀ (m : Nat) (l : List Nat) (W : fl_W) (wr : List Nat), m = wr.length → l.length + m ≤ 20 → (∀ i x, wr[i]? = some x → W 252 i = nI x) → RW W ri l →
    (∀ W', RW W' ri (l ++ wr.reverse) → (∀ i k, i ≠ ri → k < 20 → W' 246 (20 * i + k) = W 246 (20 * i + k)) → EqF [] [246] W W' → ∀ W8 : fl_W, W8 = fl_uw W' 247 ri (nI (l ++ wr.reverse).length) → hd_150_255 d Q (nI a) (nI b0) v5 (nI 0) v8 W8) → hd_150_211 d Q (nI ri) (nI a) (nI b0) v5 (nI l.length) v8 (nI m - nI 1) W := by
  intro m
  induction m with
  | zero =>
    intro l W wr hm hl h252 hW h
    have hnil : wr = [] := List.length_eq_zero_iff.mp hm.symm
    subst hnil
    refine sx_150_211 _ _ _ _ _ _ _ W ⟨fun _ => ⟨in_N hri (by omega), fun W8 e8 => ?_⟩, fun z => absurd (by decide) z⟩
    rw [nI_clamp (by omega)] at e8
    rw [ci_0]
    have := h W (by simpa using hW) (fun _ _ _ _ => rfl) EqF.rf W8 (by simpa using e8)
    exact this
  | succ m ih =>
    intro l W wr hm hl h252 hW h
    have hsub : nI (m + 1) - nI 1 = nI m := by rw [← nI_add, Int32.add_sub_cancel]
    have hml : m < wr.length := by omega
    have hp := List.getElem?_eq_getElem hml
    have hdl : wr = wr.take m ++ [wr[m]] := by
      have := List.take_succ_eq_append_getElem hml
      rw [List.take_of_length_le (by omega)] at this
      exact this
    have hrev : wr.reverse = wr[m] :: (wr.take m).reverse := by
      conv => lhs; rw [hdl]
      simp
    rw [hsub]
    refine sx_150_211 _ _ _ _ _ _ _ W ⟨fun z => absurd z (nI_pos (by omega)), fun _ => ⟨in_N (by omega) (by omega), ?_⟩⟩
    rw [cb_20, nI_mul, nI_add, nI_clamp (by omega), nI_clamp (by omega), h252 m _ hp]
    refine ⟨in_N (by omega) (by omega), fun W9 e9 => ?_⟩
    have f9 : EqF [] [246] W W9 := by rw [e9]; exact EqF.uwA (by simp) (by decide)
    have hneg : (Int32.ofInt (-1)) = -(nI 1) := by decide
    have hm1 : nI m + Int32.ofInt (-1) = nI m - nI 1 := by rw [hneg, Int32.sub_eq_add_neg]
    rw [ci_1, nI_add, hm1]
    have := ih (l ++ [wr[m]]) W9 (wr.take m) (by rw [List.length_take]; omega) (by simp; omega) (fun i x hi => ?_) (hW.add e9) fun W' k1 k2 k3 W8 e8 => ?_
    · rw [List.length_append, List.length_singleton] at this
      exact this
    · rw [f9.1 252 (by decide) (by decide)]
      have hil := (List.getElem?_eq_some_iff.mp hi).1
      rw [List.length_take] at hil
      rw [List.getElem?_take, if_pos (by omega)] at hi
      exact h252 i x hi
    · rw [List.append_assoc, List.singleton_append, ← hrev] at k1 e8
      exact h W' k1 (fun i k hi hk => by rw [k2 i k hi hk, e9, uw_m (by omega)]) (f9.tr k3) W8 e8
end RPD
