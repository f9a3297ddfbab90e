/-! ===== Layout: the turn told, all blocks ===== -/
def tr3 : List Nat → List (Nat × Nat × Nat)
  | x :: y :: z :: l => (x, y, z) :: tr3 (y :: z :: l)
  | _ => []
theorem tr3_pd : ∀ {l : List Nat} {w x y : Nat}, (x, y) ∈ pd l → ∃ z, (x, y, z) ∈ tr3 (l ++ [w])
  | [], _, _, _, h => absurd h List.not_mem_nil
  | [_], _, _, _, h => absurd h List.not_mem_nil
  | a :: b :: l, w, x, y, h => by
    rw [pd] at h
    obtain ⟨c, l', e⟩ : ∃ c l', l ++ [w] = c :: l' := by
      cases l with
      | nil => exact ⟨w, [], rfl⟩
      | cons c l => exact ⟨c, l ++ [w], rfl⟩
    have e2 : tr3 (a :: b :: l ++ [w]) = (a, b, c) :: tr3 (b :: l ++ [w]) := by
      rw [List.cons_append, List.cons_append, e, tr3]
    rw [e2]
    rcases List.mem_cons.mp h with q | q
    · cases q
      exact ⟨c, List.mem_cons_self⟩
    · obtain ⟨z, hz⟩ := tr3_pd (w := w) q
      exact ⟨z, List.mem_cons_of_mem _ hz⟩
theorem tr3_out : ∀ {l : List Nat} {a x y z : Nat}, (x, y, z) ∈ tr3 (a :: l) → (y, z) ∈ pd l
  | [], _, _, _, _, h => absurd h List.not_mem_nil
  | [_], _, _, _, _, h => absurd h List.not_mem_nil
  | b :: c :: l, a, x, y, z, h => by
    rw [tr3] at h
    rcases List.mem_cons.mp h with q | q
    · cases q
      simp [pd]
    · rw [pd]
      exact List.mem_cons_of_mem _ (tr3_out q)
theorem tr3_all {r : List Nat} (hn : r.Nodup) {h0 la : Nat} {t m : List Nat} (e1 : r = h0 :: t) (e2 : r = m ++ [la]) {x y z : Nat} (h1 : (x, y) ∈ cd r) (h2 : (y, z) ∈ cd r) : (x, y, z) ∈ tr3 (la :: (r ++ [h0])) := by
  have q1 : (x, y) ∈ pd (la :: r) := by
    have := (cd_rot [la] m).mem_iff.mpr (e2 ▸ h1 : (x, y) ∈ cd (m ++ [la]))
    rw [List.singleton_append] at this
    have q : cd (la :: m) = pd (la :: (m ++ [la])) := rfl
    rw [q, ← e2] at this
    exact this
  obtain ⟨z', hz⟩ := tr3_pd (w := h0) q1
  rw [List.cons_append] at hz
  have q2 : (y, z') ∈ cd r := by
    have := tr3_out hz
    rw [e1] at this ⊢
    exact this
  rw [cd_fun hn h2 q2]
  exact hz
section LYD
variable {d : Nat} {Q : fl_R} {W : fl_W} {V b : Nat} {es bes dl : gE} {rs : List (List Nat)}
theorem nI_mul {a b : Nat} : nI a * nI b = nI (a * b) := (Int32.ofNat_mul a b).symm
theorem i20 {y x : Nat} (hy : y < 20) (hx : x < 20) : nI 20 * nI y + nI x = nI (20 * y + x) := by rw [nI_mul, nI_add]
/-- Layout.tellRing -/
theorem ly_ring_l {ri h0 : Nat} {t r : List Nat} (hri : rs[ri]? = some r) (hr0 : r = h0 :: t) (hrn : r.Nodup) (hrV : ∀ x ∈ r, x < V) : ∀ (rest : List Nat) (i x : Nat) (W : fl_W), r.drop i = rest → i ≤ r.length → NetR W 60 V bes → RgR W rs → x < V → x ∉ rest.dropLast →
    (∀ W', (∀ p q u, (p, q, u) ∈ tr3 (x :: (rest ++ [h0])) → W' 159 (20 * q + p) = nI u) → (∀ p q, p < 20 → q < 20 → (p, q) ∉ pd (x :: rest) → W' 159 (20 * q + p) = W 159 (20 * q + p)) → EqX [159] W W' → Q none W') → hd_37_24 (d + 2) Q (nI ri) (nI r.length) (nI x) (nI i) W := by
  intro rest
  induction rest with
  | nil =>
    intro i x W hd hi hN hR hx hxr h
    have hil : r.length ≤ i := List.drop_eq_nil_iff.mp hd
    have h20 := hR.len hri
    refine sx_37_24 _ _ _ _ W ⟨fun z => absurd z (nI_nlt hil (by omega)), fun _ => h W (fun p q u hu => ?_) (fun p q _ _ _ => rfl) EqX.rf⟩
    rw [List.nil_append] at hu
    exact absurd hu List.not_mem_nil
  | cons y rest ih =>
    intro i x W hd hi hN hR hx hxr h
    have hV := hN.1
    have h20 := hR.len hri
    have hil : i < r.length := by
      rcases Nat.lt_or_ge i r.length with q | q
      · exact q
      · rw [List.drop_eq_nil_of_le q] at hd; cases hd
    rw [List.drop_eq_getElem_cons hil] at hd
    injection hd with hy hd
    have hyr : y ∈ r := hy ▸ List.getElem_mem hil
    have hyV := hrV y hyr
    -- what stands behind
    obtain ⟨u, l', hu, hul⟩ : ∃ u l', rest ++ [h0] = u :: l' ∧ getI (nL r) (if nI i + 1 < nI r.length then nI i + 1 else 0) = nI u ∧ u < 20 := by
      rw [cz_1, nI_add]
      by_cases hl : i + 1 < r.length
      · rw [if_pos (nI_lt hl (by omega)), nL_get (by omega) hl]
        rw [List.drop_eq_getElem_cons hl] at hd
        refine ⟨r[i + 1], r.drop (i + 2) ++ [h0], by rw [← hd]; rfl, rfl, ?_⟩
        have := hrV _ (List.getElem_mem hl)
        omega
      · rw [if_neg (nI_nlt (by omega) (by omega))]
        rw [List.drop_eq_nil_of_le (by omega)] at hd
        refine ⟨h0, [], by rw [← hd]; rfl, ?_, ?_⟩
        · rw [cz_0, nL_get (by omega) (by omega)]
          congr 1
          subst hr0
          rfl
        · have := hrV h0 (by rw [hr0]; simp)
          omega
    refine sx_37_24 _ _ _ _ W ⟨fun _ => ?_, fun z => absurd (nI_lt hil (by omega)) z⟩
    refine rg_get hR hri ?_
    rw [nL_get (by omega) hil, hy]
    refine net_hasV n60 hN ?_
    rw [ixB_N (by omega), decide_eq_true hx]
    refine ⟨fun z => absurd z (by decide), fun _ => net_hasV n60 hN ?_⟩
    rw [ixB_N (by omega), decide_eq_true hyV]
    refine ⟨fun z => absurd z (by decide), fun _ => rg_behind hR hri (rg_get hR hri ?_)⟩
    rw [hul.1, cb_20, i20 (by omega) (by omega)]
    refine ⟨in_N (by omega) (by omega), fun W8 e8 => ?_⟩
    rw [nI_clamp (by omega)] at e8
    have f8 : EqX [159] W W8 := by rw [e8]; exact EqX.uw (by simp)
    rw [ci_1, nI_add]
    have hyn : y ∉ rest := by
      have : (r.drop i).Nodup := hrn.sublist (List.drop_sublist _ _)
      rw [List.drop_eq_getElem_cons hil, hy, hd, List.nodup_cons] at this
      exact this.1
    refine ih (i + 1) y W8 hd (by omega) (hN.fr f8 (by decide)) (hR.fr f8 (fun a ha hc => by rw [mem_rgl] at ha; simp at hc; omega)) hyV (fun z => hyn (List.dropLast_subset _ z)) fun W' k1 k2 k3 => h W' (fun p q v hv => ?_) (fun p q hp hq hpq => ?_) (f8.tr k3)
    · rw [List.cons_append, hu, tr3] at hv
      rcases List.mem_cons.mp hv with e | e
      · cases e
        rw [k2 x y (by omega) (by omega) ?_, e8, uw_s]
        intro z
        have := pd_tgt z
        exact hyn this
      · rw [← hu] at e
        exact k1 p q v e
    · rw [pd, List.mem_cons, not_or] at hpq
      rw [k2 p q hp hq hpq.2, e8]
      by_cases e : 20 * q + p = 20 * y + x
      · exfalso
        refine hpq.1 ?_
        rw [Prod.mk.injEq]
        omega
      · exact congrFun (show fl_uw W 159 (20 * y + x) (nI u) 159 = upd (W 159) (20 * y + x) (nI u) by simp [fl_uw]) _ |>.trans (by simp [upd, e])
theorem ly_ring {ri : Nat} {r : List Nat} (hri : rs[ri]? = some r) (hr3 : 3 ≤ r.length) (hrn : r.Nodup) (hrV : ∀ x ∈ r, x < V) (hN : NetR W 60 V bes) (hR : RgR W rs)
    (h : ∀ W', (∀ p q u, (p, q) ∈ cd r → (q, u) ∈ cd r → W' 159 (20 * q + p) = nI u) → (∀ p q, p < 20 → q < 20 → (p, q) ∉ cd r → W' 159 (20 * q + p) = W 159 (20 * q + p)) → EqX [159] W W' → Q none W') : fl_cal (d + 3) 37 [.ref 9, .int (nI ri)] W Q := by
  have h20 := hR.len hri
  obtain ⟨h0, t, e1⟩ : ∃ h0 t, r = h0 :: t := by
    cases r with
    | nil => simp at hr3
    | cons a t => exact ⟨a, t, rfl⟩
  have hne : r ≠ [] := by rw [e1]; simp
  have e2 : r = r.dropLast ++ [r.getLast hne] := (List.dropLast_concat_getLast hne).symm
  have hla : r[r.length - 1]'(by omega) = r.getLast hne := (List.getLast_eq_getElem hne).symm
  refine sx_37 _ W (rg_size hR hri (rg_get hR hri ?_))
  have hsub : nI r.length - Int32.ofInt 1 = nI (r.length - 1) := by
    have : nI r.length = nI (r.length - 1) + nI 1 := by rw [nI_add]; congr 1; omega
    rw [this, ci_1]
    exact Int32.add_sub_cancel _ _
  rw [hsub, nL_get (by omega) (by omega), hla]
  have hln : r.getLast hne ∉ r.dropLast := by
    have := hrn
    rw [e2, List.nodup_append] at this
    exact fun z => this.2.2 _ z _ (List.mem_singleton.mpr rfl) rfl
  rw [ci_0]
  refine ly_ring_l hri e1 hrn hrV r 0 (r.getLast hne) W (by simp) (Nat.zero_le _) hN hR (hrV _ (List.getLast_mem hne)) hln fun W' k1 k2 k3 => h W' (fun p q u hp hq => k1 p q u (tr3_all hrn e1 e2 hp hq)) (fun p q hp hq hpq => k2 p q hp hq fun z => hpq ?_) k3
  have q : (p, q) ∈ cd (r.getLast hne :: r.dropLast) := by
    show (p, q) ∈ pd (r.getLast hne :: (r.dropLast ++ [r.getLast hne]))
    rw [← e2]; exact z
  have := (cd_rot [r.getLast hne] r.dropLast).mem_iff.mp q
  rw [← e2] at this
  exact this
/-- Layout.tellAround -/
theorem ly_around_l {y : Nat} {R : Nat → List Nat} (hy : y < V) : ∀ (rest : List Nat) (i x n : Nat) (W : fl_W) (R : Nat → List Nat), n = i + rest.length + 1 → n ≤ 20 → NetR W 60 V bes → TurR W 18 R → (∀ z, z ∈ x :: rest → z < V) → (∀ p, p ∈ pd (x :: rest) → W 159 (20 * y + p.1) = nI p.2) → (R y).length + rest.length + 1 ≤ 20 →
    (∀ W', TurR W' 18 (fun u => if u = y then R y ++ x :: rest else R u) → EqX (tl 18) W W' → Q none W') → hd_38_27 (d + 2) Q (nI y) (nI x) (nI n) (nI i) W := by
  intro rest
  induction rest with
  | nil =>
    intro i x n W R hn hn20 hN hT hz hf hl h
    have hV := hN.1
    have hx := hz x (by simp)
    simp only [List.length_nil] at hn hl
    refine sx_38_27 _ _ _ _ W ⟨fun _ => ?_, fun z => absurd (nI_lt (by omega) (by omega)) z⟩
    refine net_hasV n60 hN ?_
    rw [ixB_N (by omega), decide_eq_true hy]
    refine ⟨fun z => absurd z (by decide), fun _ => net_hasV n60 hN ?_⟩
    rw [ixB_N (by omega), decide_eq_true hx]
    refine ⟨fun z => absurd z (by decide), fun _ => tur_add (t := 18) rfl hT (by omega) (by omega) fun W7 k1 k2 => ?_⟩
    rw [cb_20]
    refine ⟨by rw [i20 (by omega) (by omega)]; exact in_N (by omega) (by omega), ?_⟩
    rw [ci_1, nI_add]
    exact sx_38_27 _ _ _ _ W7 ⟨fun z => absurd z (nI_nlt (by omega) (by omega)), fun _ => h W7 k1 k2⟩
  | cons x' rest ih =>
    intro i x n W R hn hn20 hN hT hz hf hl h
    have hV := hN.1
    have hx := hz x (by simp)
    simp only [List.length_cons] at hn hl
    refine sx_38_27 _ _ _ _ W ⟨fun _ => ?_, fun z => absurd (nI_lt (by omega) (by omega)) z⟩
    refine net_hasV n60 hN ?_
    rw [ixB_N (by omega), decide_eq_true hy]
    refine ⟨fun z => absurd z (by decide), fun _ => net_hasV n60 hN ?_⟩
    rw [ixB_N (by omega), decide_eq_true hx]
    refine ⟨fun z => absurd z (by decide), fun _ => tur_add (t := 18) rfl hT (by omega) (by omega) fun W7 k1 k2 => ?_⟩
    rw [cb_20, i20 (by omega) (by omega), nI_clamp (by omega)]
    refine ⟨in_N (by omega) (by omega), ?_⟩
    rw [ci_1, nI_add, k2 159 (by rw [mem_tl]; omega), hf (x, x') (by simp [pd])]
    refine ih (i + 1) x' n W7 _ (by omega) hn20 (hN.fr k2 (fun a ha hc => by rw [mem_tl] at hc; simp [nl] at ha; omega)) k1 (fun z hz' => hz z (List.mem_cons_of_mem _ hz')) (fun p hp => by rw [k2 159 (by rw [mem_tl]; omega)]; exact hf p (by rw [pd]; exact List.mem_cons_of_mem _ hp)) (by simp; omega) fun W' j1 j2 => h W' ?_ (k2.tr j2)
    intro v hv
    have := j1 v hv
    by_cases e : v = y
    · subst e
      simpa using this
    · simpa [e] using this
theorem ly_around {y : Nat} {R : Nat → List Nat} {s : List (List Nat) × gE} (hO : okE V bes) (hL : LI V bes s) (he : s.2.length = bes.length) (hy : y < V) (hN : NetR W 60 V bes) (hT : TurR W 18 R) (hf : ∀ p q u, fol s.1 p q u → W 159 (20 * q + p) = nI u) (hlen : (R y).length + (tuB s.1 bes y).length ≤ 20)
    (h : ∀ W', TurR W' 18 (fun u => if u = y then R y ++ tuB s.1 bes y else R u) → EqX (tl 18) W W' → Q none W') : fl_cal (d + 3) 38 [.ref 9, .int (nI y)] W Q := by
  have hV := hN.1
  obtain ⟨t1, t2, t3, t4⟩ := tuB_ok hV hO hL he y
  refine sx_38 _ W (net_around n60 hN hy fun x1 hx1 => ?_)
  by_cases hex : ∃ x, adj bes y x = true
  · obtain ⟨t, e1, e2⟩ := t4 hex
    have hany : anyN (adj bes y) = true := by
      obtain ⟨x, hx⟩ := hex
      exact anyN_iff.mpr ⟨x, by have := (adj_lt hO hx).2.1; omega, hx⟩
    refine st_leastN hx1 hany (net_around n60 hN hy fun x3 hx3 => st_bc ?_)
    rw [hx3.pc, ci_0]
    rw [e1] at h hlen t2 t3
    simp only [List.length_cons] at hlen
    refine ly_around_l (R := R) hy t 0 _ _ W R (by omega) (cnt_le _ _) hN hT (fun z hz => (adj_lt hO ((t2 z).mp hz)).2.1) (fun p hp => hf p.1 y p.2 (t3 p.1 p.2 ?_)) (by omega) h
    have := pd_pre (x := leastN (adj bes y)) hp
    exact this
  · have hno : ∀ v, v < 20 → adj bes y v = false := fun v _ => by
      cases hh : adj bes y v with
      | false => rfl
      | true => exact absurd ⟨v, hh⟩ hex
    have hx0 : x1 = 0 := hx1.z.mpr hno
    rw [hx0]
    refine st_leastNo (net_around n60 hN hy fun x3 hx3 => st_bc ?_)
    have hc : bcI x3 = 0 := by
      rw [hx3.z.mpr hno]
      rfl
    rw [hc]
    refine sx_38_27 _ _ _ _ W ⟨fun z => absurd z (by decide), fun _ => h W ?_ EqX.rf⟩
    have hnil : tuB s.1 bes y = [] := List.eq_nil_iff_forall_not_mem.mpr fun x hx => hex ⟨x, (t2 x).mp hx⟩
    intro v hv
    show RowR W (18 + 2 + 2 * v) (nL (if v = y then R y ++ tuB s.1 bes y else R v))
    by_cases e : v = y
    · rw [if_pos e, hnil, List.append_nil, ← e]; exact hT v hv
    · rw [if_neg e]; exact hT v hv
/-- Layout.tellTurn -/
def tnl : List Nat := 159 :: tl 18
theorem ly_turn_r {s : List (List Nat) × gE} (hO : okE V bes) (hL : LI V bes s) : ∀ (n i : Nat) (W : fl_W), s.1.length - i = n → i ≤ s.1.length → NetR W 60 V bes → RgR W s.1 → (∀ j r, j < i → s.1[j]? = some r → ∀ p q u, (p, q) ∈ cd r → (q, u) ∈ cd r → W 159 (20 * q + p) = nI u) →
    (∀ W', (∀ p q u, fol s.1 p q u → W' 159 (20 * q + p) = nI u) → EqX [159] W W' → hd_36_26 (d + 3) Q (nI 0) W') → hd_36_2 (d + 3) Q (nI i) W := by
  intro n
  induction n with
  | zero =>
    intro i W h1 h2 hN hR hf h
    have := hR.1
    refine sx_36_2 _ W ⟨fun q => absurd q ?_, fun _ => h W (fun p q u hu => ?_) EqX.rf⟩
    · rw [hR.2.1]; exact nI_nlt (by omega) (by omega)
    · obtain ⟨r, r1, r2, r3⟩ := hu
      obtain ⟨j, hj⟩ := List.getElem?_of_mem r1
      have := (List.getElem?_eq_some_iff.mp hj).1
      exact hf j r (by omega) hj p q u r2 r3
  | succ n ih =>
    intro i W h1 h2 hN hR hf h
    have := hR.1
    have hV := hN.1
    have hi : i < s.1.length := by omega
    have hr := List.getElem?_eq_getElem hi
    have hm := List.mem_of_getElem? hr
    refine sx_36_2 _ W ⟨fun _ => ?_, fun q => absurd ?_ q⟩
    · refine ly_ring hr (hL.2.2.2.1 _ hm) (hL.1.2.2.1 _ hm) (fun x hx => (hL.lt hO hm hx).1) hN hR fun W1 k1 k2 k3 => ?_
      show hd_36_2 (d + 3) Q (nI i + Int32.ofInt 1) W1
      rw [ci_1, nI_add]
      refine ih (i + 1) W1 (by omega) (by omega) (hN.fr k3 (by decide)) (hR.fr k3 (fun a ha hc => by rw [mem_rgl] at ha; simp at hc; omega)) (fun j r hj hjr p q u hp hq => ?_) fun W' j1 j2 => h W' j1 (k3.tr j2)
      have hrm := List.mem_of_getElem? hjr
      by_cases e : (p, q) ∈ cd s.1[i]
      · have := fm_inj hL.1.2.2.2.1 hrm hm hp e
        rw [this] at hp hq
        exact k1 p q u hp hq
      · have hji : j < i := by
          rcases Nat.lt_or_ge j i with z | z
          · exact z
          · have : j = i := by omega
            subst this
            rw [hr, Option.some.injEq] at hjr
            rw [← hjr] at hp
            exact absurd hp e
        rw [k2 p q ?_ ?_ e]
        · exact hf j r hji hjr p q u hp hq
        · have := (hL.lt hO hrm (cd_in hp).1).1; omega
        · have := (hL.lt hO hrm (cd_in hp).2).1; omega
    · rw [hR.2.1]; exact nI_lt hi (by omega)
theorem ly_turn_a {s : List (List Nat) × gE} {R0 : Nat → List Nat} (hO : okE V bes) (hL : LI V bes s) (he : s.2.length = bes.length) (hlen : ∀ y, y < V → (R0 y).length + (tuB s.1 bes y).length ≤ 20) : ∀ (n i : Nat) (W : fl_W), V - i = n → i ≤ V → NetR W 60 V bes → TurR W 18 (fun u => if u < i then R0 u ++ tuB s.1 bes u else R0 u) → (∀ p q u, fol s.1 p q u → W 159 (20 * q + p) = nI u) →
    (∀ W', TurR W' 18 (fun u => R0 u ++ tuB s.1 bes u) → EqX (tl 18) W W' → Q none W') → hd_36_26 (d + 3) Q (nI i) W := by
  intro n
  induction n with
  | zero =>
    intro i W h1 h2 hN hT hf h
    have hV := hN.1
    have hi : i = V := by omega
    subst hi
    refine sx_36_26 _ W ⟨fun q => absurd q ?_, fun _ => h W (fun v hv => ?_) EqX.rf⟩
    · rw [hN.2.2.2.1]; exact nI_nlt (by omega) (by omega)
    · have := hT v hv
      by_cases e : v < i
      · simpa [e] using this
      · have hnil : tuB s.1 bes v = [] := List.eq_nil_iff_forall_not_mem.mpr fun x hx => e (adj_lt hO (((tuB_ok hV hO hL he v).2.1 x).mp hx)).1
        simpa [e, hnil] using this
  | succ n ih =>
    intro i W h1 h2 hN hT hf h
    have hV := hN.1
    refine sx_36_26 _ W ⟨fun _ => ?_, fun q => absurd ?_ q⟩
    · refine ly_around hO hL he (y := i) (by omega) hN hT hf (by simp only [Nat.lt_irrefl, if_false]; exact hlen i (by omega)) fun W1 k1 k2 => ?_
      show hd_36_26 (d + 3) Q (nI i + Int32.ofInt 1) W1
      rw [ci_1, nI_add]
      refine ih (i + 1) W1 (by omega) (by omega) (hN.fr k2 (fun a ha hc => by rw [mem_tl] at hc; simp [nl] at ha; omega)) (fun v hv => ?_) (fun p q u hu => by rw [k2 159 (by rw [mem_tl]; omega)]; exact hf p q u hu) fun W' j1 j2 => h W' j1 (k2.tr j2)
      have := k1 v hv
      by_cases e : v = i
      · subst e
        simpa using this
      · have e2 : (v < i + 1) = (v < i) := by rw [eq_iff_iff]; omega
        simpa [e, e2] using this
    · rw [hN.2.2.2.1]; exact nI_lt (by omega) (by omega)
theorem ly_turn {s : List (List Nat) × gE} {R0 : Nat → List Nat} (hO : okE V bes) (hL : LI V bes s) (he : s.2.length = bes.length) (hlen : ∀ y, y < V → (R0 y).length + (tuB s.1 bes y).length ≤ 20) (hN : NetR W 60 V bes) (hR : RgR W s.1) (hT : TurR W 18 R0)
    (h : ∀ W', TurR W' 18 (fun u => R0 u ++ tuB s.1 bes u) → EqX tnl W W' → Q none W') : fl_cal (d + 4) 36 [.ref 9] W Q := by
  refine sx_36 W ?_
  rw [ci_0]
  refine ly_turn_r hO hL s.1.length 0 W (by omega) (Nat.zero_le _) hN hR (fun j r hj => by omega) fun W1 k1 k2 => ?_
  refine ly_turn_a (R0 := R0) hO hL he hlen V 0 W1 (by omega) (Nat.zero_le _) (hN.fr k2 (by decide)) (fun v hv => by simpa using (hT.fr k2 (fun a ha hc => by rw [mem_tl] at ha; simp at hc; omega)) v hv) k1 fun W' j1 j2 => h W' j1 ((k2.mono ?_).tr (j2.mono ?_))
  · intro a ha; simp at ha; rw [ha]; exact List.mem_cons_self
  · intro a ha; exact List.mem_cons_of_mem _ ha
end LYD
