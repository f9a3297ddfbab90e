/-! ===== a graph of triangles, its rim ===== -/
def fcs (rs : List (List Nat)) (F : Nat × Nat → Bool) : Prop := ∀ r, r ∈ rs → ∀ p, p ∈ cd r → ∀ q, q ∈ cd r → F p = F q
def TG (V : Nat) (es : gE) (rs : List (List Nat)) (R : Nat → List Nat) : Prop :=
  V ≤ 20 ∧ okE V es ∧ (∀ r, r ∈ rs → r.Nodup ∧ r.length = 3) ∧ (rs.flatMap cd).Nodup ∧ (∀ x y, (x, y) ∈ rs.flatMap cd ↔ adj es x y = true) ∧ (∀ y, (R y).Nodup ∧ ∀ x, x ∈ R y ↔ adj es y x = true) ∧ (∀ y x z, (x, z) ∈ cd (R y) → fol rs x y z) ∧ JI V rs es ∧ TwoC es
def RS (V : Nat) (es : gE) (rs : List (List Nat)) (F : Nat × Nat → Bool) (P rim : List Nat) : Prop :=
  fcs rs F ∧ rim.Nodup ∧ 3 ≤ rim.length ∧ (∀ x, x ∈ rim → x < V) ∧ (∀ x, x ∈ P → x < V) ∧ P.Nodup ∧ (∀ x, x ∈ P → x ∉ rim) ∧
  (∀ x y, adj es x y = true → ((F (x, y) = true ∧ F (y, x) = false) ↔ (x, y) ∈ cd rim)) ∧ (∀ x y, (x, y) ∈ cd rim → adj es x y = true) ∧
  (∀ x y, x ∈ P → adj es x y = true → F (x, y) = false ∧ F (y, x) = false) ∧
  (∀ x y, x < V → x ∉ P → x ∉ rim → adj es x y = true → F (x, y) = true ∧ F (y, x) = true) ∧
  (∀ x y, adj es x y = true → x ∉ P → y ∉ P → F (x, y) = true ∨ F (y, x) = true)
theorem fol_F {rs : List (List Nat)} {F : Nat × Nat → Bool} (hF : fcs rs F) {x y z : Nat} (h : fol rs x y z) : F (x, y) = F (y, z) := by
  obtain ⟨r, r1, r2, r3⟩ := h
  exact hF r r1 _ r2 _ r3
/-- along a row of neighbours -/
theorem walkx {G : Nat × Nat → Bool} {C : Nat → Bool} {y : Nat} : ∀ (l : List Nat) (x w : Nat), (∀ u v, (u, v) ∈ pd (x :: (l ++ [w])) → G (u, y) = G (y, v)) → (∀ z, z ∈ l → C z = (G (z, y) ^^ G (y, z))) → G (y, w) = (G (x, y) ^^ xsm C l)
  | [], x, w, h, _ => by
    have := h x w (by simp [pd])
    rw [← this]
    show _ = (_ ^^ false)
    simp
  | z :: l, x, w, h, hC => by
    have h1 := h x z (by simp [pd])
    have ih := walkx l z w (fun u v huv => h u v (by rw [List.cons_append, pd]; exact List.mem_cons_of_mem _ huv)) fun u hu => hC u (List.mem_cons_of_mem _ hu)
    have h2 := hC z List.mem_cons_self
    rw [ih, xsm, h1, h2]
    cases G (z, y) <;> cases G (y, z) <;> cases xsm C l <;> rfl
section TRI
variable {V : Nat} {es : gE} {rs : List (List Nat)} {R : Nat → List Nat} {F : Nat × Nat → Bool} {P rim : List Nat}
theorem tri_fol (hT : TG V es rs R) {x y z : Nat} (h : fol rs x y z) : fol rs y z x ∧ fol rs z x y ∧ x ≠ z ∧ x ≠ y ∧ y ≠ z := by
  obtain ⟨r, r1, r2, r3⟩ := h
  obtain ⟨h1, h2⟩ := hT.2.2.1 r r1
  obtain ⟨a, b, c, rfl⟩ : ∃ a b c, r = [a, b, c] := by
    match r, h2 with
    | [a, b, c], _ => exact ⟨a, b, c, rfl⟩
  have hc : cd [a, b, c] = [(a, b), (b, c), (c, a)] := rfl
  have key : ∀ u v w, (u, v) ∈ cd [a, b, c] → (v, w) ∈ cd [a, b, c] → (w, u) ∈ cd [a, b, c] ∧ u ≠ w ∧ u ≠ v ∧ v ≠ w := by
    intro u v w h3 h4
    rw [hc] at h3 h4 ⊢
    simp only [List.nodup_cons, List.mem_cons, List.not_mem_nil, or_false, not_or, not_false_eq_true, List.nodup_nil, and_true] at h1
    simp only [List.mem_cons, List.not_mem_nil, or_false, Prod.mk.injEq] at h3 h4 ⊢
    omega
  obtain ⟨k1, k2, k3, k4⟩ := key x y z r2 r3
  exact ⟨⟨_, r1, r3, k1⟩, ⟨_, r1, k1, r2⟩, k2, k3, k4⟩
theorem rot_pd (hT : TG V es rs R) {y p : Nat} {Z Wd : List Nat} {n : Nat} (he : rotN (R y) p = p :: (Z ++ n :: Wd)) : (∀ u v, (u, v) ∈ pd (p :: (Z ++ [n])) → fol rs u y v) ∧ (∀ u v, (u, v) ∈ pd (n :: (Wd ++ [p])) → fol rs u y v) := by
  have hc : cd (p :: (Z ++ n :: Wd)) = pd (p :: (Z ++ [n])) ++ pd (n :: (Wd ++ [p])) := by
    show pd (p :: (Z ++ n :: Wd ++ [p])) = _
    rw [show p :: (Z ++ n :: Wd ++ [p]) = (p :: Z) ++ n :: (Wd ++ [p]) by simp, pd_cat]
    simp
  have hall : ∀ u v, (u, v) ∈ cd (p :: (Z ++ n :: Wd)) → fol rs u y v := fun u v h => by
    rw [← he] at h
    exact hT.2.2.2.2.2.2.1 y u v (rotN_cd.mem_iff.mp h)
  rw [hc] at hall
  exact ⟨fun u v h => hall u v (List.mem_append_left _ h), fun u v h => hall u v (List.mem_append_right _ h)⟩
/-- the sector of a rim vertex -/
theorem rs_sec (hT : TG V es rs R) (hR : RS V es rs F P rim) {p y n : Nat} (hp : (p, y) ∈ cd rim) (hn : (y, n) ∈ cd rim) : p ≠ n ∧ ∃ Z Wd, rotN (R y) p = p :: (Z ++ n :: Wd) ∧ (p :: (Z ++ n :: Wd)).Nodup ∧ (∀ z, z ∈ Z → F (z, y) = true ∧ F (y, z) = true) ∧ (∀ w, w ∈ Wd → F (w, y) = false ∧ F (y, w) = false) ∧ (∀ x, x ∈ p :: (Z ++ n :: Wd) ↔ adj es y x = true) := by
  obtain ⟨a1, a2, a3, a4, a5, a6, a7, a8, a9, a10, a11, a12⟩ := hR
  have hpa := a9 p y hp
  have hna := a9 y n hn
  have fp := (a8 p y hpa).mpr hp
  have fn := (a8 y n hna).mpr hn
  have hpn : p ≠ n := fun e => by
    rw [← e] at fn
    rw [fp.2] at fn
    cases fn.1
  have hpR : p ∈ R y := ((hT.2.2.2.2.2.1 y).2 p).mpr (by rw [adj_sym]; exact hpa)
  have hnR : n ∈ R y := ((hT.2.2.2.2.2.1 y).2 n).mpr hna
  obtain ⟨t, t1, t2⟩ := rotN_hd hpR
  have hnd : (rotN (R y) p).Nodup := rotN_nd (hT.2.2.2.2.2.1 y).1
  have hnt : n ∈ t := by
    have : n ∈ rotN (R y) p := mem_rotN.mpr hnR
    rw [t1] at this
    exact (List.mem_cons.mp this).resolve_left fun e => hpn e.symm
  obtain ⟨Z, Wd, e⟩ := List.append_of_mem hnt
  rw [e] at t1
  rw [t1] at hnd
  obtain ⟨q1, q2⟩ := rot_pd hT t1
  have hmem : ∀ x, x ∈ p :: (Z ++ n :: Wd) ↔ adj es y x = true := fun x => by
    rw [← t1, mem_rotN]
    exact (hT.2.2.2.2.2.1 y).2 x
  -- only the rim's edges part
  have hsame : ∀ x, x ∈ p :: (Z ++ n :: Wd) → x ≠ p → x ≠ n → F (x, y) = F (y, x) := fun x hx h1 h2 => by
    have hxa := (hmem x).mp hx
    have hxa' : adj es x y = true := by rw [adj_sym]; exact hxa
    cases f1 : F (x, y) with
    | true =>
      cases f2 : F (y, x) with
      | true => rfl
      | false => exact absurd (cd_inj a2 ((a8 x y hxa').mp ⟨f1, f2⟩) hp) h1
    | false =>
      cases f2 : F (y, x) with
      | false => rfl
      | true => exact absurd (cd_fun a2 ((a8 y x hxa).mp ⟨f2, f1⟩) hn) h2
  have hndp := hnd
  rw [List.nodup_cons, List.nodup_append, List.nodup_cons] at hndp
  obtain ⟨d1, d2, ⟨d3, d4⟩, d5⟩ := hndp
  have hZ : ∀ z, z ∈ Z → z ≠ p ∧ z ≠ n := fun z hz => ⟨fun e => d1 (by rw [← e]; exact List.mem_append_left _ hz), fun e => d5 z hz n (by simp) e⟩
  have hW : ∀ z, z ∈ Wd → z ≠ p ∧ z ≠ n := fun z hz => ⟨fun e => d1 (by rw [← e]; exact List.mem_append_right _ (List.mem_cons_of_mem _ hz)), fun e => d3 (e ▸ hz)⟩
  have walk : ∀ (l : List Nat) (x w : Nat), (∀ u v, (u, v) ∈ pd (x :: (l ++ [w])) → fol rs u y v) → (∀ z, z ∈ l → F (z, y) = F (y, z)) → ∀ z, z ∈ l → F (y, z) = F (x, y) := by
    intro l
    induction l with
    | nil => intro x w _ _ z hz; exact absurd hz List.not_mem_nil
    | cons u l ih =>
      intro x w h1 h2 z hz
      have e1 := fol_F a1 (h1 x u (by simp [pd]))
      rcases List.mem_cons.mp hz with e | e
      · rw [e, e1]
      · rw [ih u w (fun a b hab => h1 a b (by rw [List.cons_append, pd]; exact List.mem_cons_of_mem _ hab)) (fun v hv => h2 v (List.mem_cons_of_mem _ hv)) z e, h2 u List.mem_cons_self, ← e1]
  refine ⟨hpn, Z, Wd, t1, hnd, fun z hz => ?_, fun w hw => ?_, hmem⟩
  · have h1 := walk Z p n q1 (fun v hv => hsame v (by simp [hv]) (hZ v hv).1 (hZ v hv).2) z hz
    rw [fp.1] at h1
    exact ⟨by rw [hsame z (by simp [hz]) (hZ z hz).1 (hZ z hz).2]; exact h1, h1⟩
  · have h1 := walk Wd n p q2 (fun v hv => hsame v (by simp [hv]) (hW v hv).1 (hW v hv).2) w hw
    have fn2 : F (n, y) = false := fn.2
    rw [fn2] at h1
    exact ⟨by rw [hsame w (by simp [hw]) (hW w hw).1 (hW w hw).2]; exact h1, h1⟩
/-! a rim vertex that is free -/
def rAt (rim : List Nat) (t : Nat) : Nat := rim.getD t 0
theorem rAt_get {t : Nat} (h : t < rim.length) : rim[t]? = some (rAt rim t) := by
  unfold rAt
  rw [List.getD_eq_getElem?_getD, List.getElem?_eq_getElem h]; rfl
theorem rAt_mem {t : Nat} (h : t < rim.length) : rAt rim t ∈ rim := List.mem_of_getElem? (rAt_get h)
theorem rAt_inj (hn : rim.Nodup) {s t : Nat} (hs : s < rim.length) (ht : t < rim.length) (h : rAt rim s = rAt rim t) : s = t :=
  (List.getElem?_inj hs hn).mp (by rw [rAt_get hs, rAt_get ht, h])
theorem rAt_cd {t : Nat} (h : t < rim.length) : (rAt rim t, rAt rim ((t + 1) % rim.length)) ∈ cd rim :=
  List.mem_of_getElem? (cd_get h (rAt_get h) (rAt_get (Nat.mod_lt _ (by omega))))
theorem seg_get (rim : List Nat) (i j t : Nat) (h : t ≤ j - i) (hj : j < rim.length) (hij : i ≤ j) : ((rim.drop i).take (j - i + 1))[t]? = some (rAt rim (i + t)) := by
  rw [List.getElem?_take, if_pos (by omega), List.getElem?_drop]
  exact rAt_get (by omega)
theorem pd_seg : ∀ {l : List Nat} {u v : Nat}, (u, v) ∈ pd l → ∃ t, l[t]? = some u ∧ l[t + 1]? = some v
  | [], _, _, h => absurd h List.not_mem_nil
  | [_], _, _, h => absurd h List.not_mem_nil
  | a :: b :: l, u, v, h => by
    rw [pd] at h
    rcases List.mem_cons.mp h with e | e
    · cases e
      exact ⟨0, rfl, rfl⟩
    · obtain ⟨t, t1, t2⟩ := pd_seg e
      exact ⟨t + 1, t1, t2⟩
/-- no chord of the rim stands -/
theorem no_chord (hT : TG V es rs R) (hR : RS V es rs F P rim) (hnf : ∀ t, 1 ≤ t → t + 1 < rim.length → ∃ l, l < rim.length ∧ (l + 2 ≤ t ∨ t + 2 ≤ l) ∧ adj es (rAt rim t) (rAt rim l) = true) : ∀ (s i j : Nat), j - i = s → i + 2 ≤ j → j < rim.length → ¬ (i = 0 ∧ j + 1 = rim.length) → adj es (rAt rim i) (rAt rim j) = true → False := by
  have hRS := hR
  obtain ⟨a1, a2, a3, a4, a5, a6, a7, a8, a9, a10, a11, a12⟩ := hR
  have hO := hT.2.1
  intro s
  induction s using Nat.strongRecOn with
  | ind s ih =>
    intro i j hs hij hj hno hadj
    obtain ⟨l, l1, l2, l3⟩ := hnf (i + 1) (by omega) (by omega)
    -- a chord within would be shorter
    have hout : l < i ∨ j < l := by
      refine Classical.byContradiction fun hn => ?_
      have hl : i + 3 ≤ l ∧ l ≤ j := by omega
      exact ih (l - (i + 1)) (by omega) (i + 1) l rfl (by omega) l1 (by omega) l3
    -- the ring of the chord and the rim's part
    have hseg : ∃ m, (rim.drop i).take (j - i + 1) = rAt rim i :: (m ++ [rAt rim j]) := by
      have hlen : ((rim.drop i).take (j - i + 1)).length = j - i + 1 := by rw [List.length_take, List.length_drop]; omega
      have hne : (rim.drop i).take (j - i + 1) ≠ [] := fun e => by rw [e] at hlen; simp at hlen
      generalize hsg : (rim.drop i).take (j - i + 1) = sg at *
      obtain ⟨x, t, rfl⟩ : ∃ x t, sg = x :: t := by
        cases sg with
        | nil => exact absurd rfl hne
        | cons x t => exact ⟨x, t, rfl⟩
      have h0 := seg_get rim i j 0 (by omega) hj (by omega)
      have hl := seg_get rim i j (j - i) (Nat.le_refl _) hj (by omega)
      rw [hsg] at h0 hl
      simp at h0
      have htne : t ≠ [] := fun e => by rw [e] at hlen; simp at hlen; omega
      refine ⟨t.dropLast, ?_⟩
      have hlast : t.getLast htne = rAt rim j := by
        have h5 : (x :: t)[j - i]? = some (t.getLast htne) := by
          rw [show j - i = (j - i - 1) + 1 by omega, List.getElem?_cons_succ]
          have : t.length = j - i := by simp at hlen; omega
          rw [List.getLast_eq_getElem, List.getElem?_eq_getElem (by omega)]
          congr 2
          omega
        rw [hl] at h5
        have := Option.some.inj h5
        rw [← this]
        congr 1
        omega
      rw [h0, ← hlast, List.dropLast_concat_getLast htne]
    obtain ⟨m, hm⟩ := hseg
    have hsn : (rAt rim i :: (m ++ [rAt rim j])).Nodup := by
      rw [← hm]
      exact (a2.sublist (List.drop_sublist _ _)).sublist (List.take_sublist _ _)
    have hpds : ∀ u v, (u, v) ∈ pd (rAt rim i :: (m ++ [rAt rim j])) → ∃ t, i ≤ t ∧ t < j ∧ u = rAt rim t ∧ v = rAt rim (t + 1) := fun u v huv => by
      rw [← hm] at huv
      obtain ⟨t, t1, t2⟩ := pd_seg huv
      have htl := (List.getElem?_eq_some_iff.mp t2).1
      rw [List.length_take, List.length_drop] at htl
      rw [seg_get rim i j t (by omega) hj (by omega)] at t1
      rw [seg_get rim i j (t + 1) (by omega) hj (by omega)] at t2
      exact ⟨i + t, by omega, by omega, (Option.some.inj t1).symm, (Option.some.inj t2).symm⟩
    have hne : rAt rim i ≠ rAt rim j := fun e => by have := rAt_inj a2 (by omega) hj e; omega
    have hsub : ∀ g, g ∈ wyE (rAt rim i :: (m ++ [rAt rim j])) → g ∈ es := fun g hg => by
      obtain ⟨x, y, e, -, -⟩ := wyE_mem hg
      have h1 : adj (wyE (rAt rim i :: (m ++ [rAt rim j]))) g.1 g.2 = true := adj_iff.mpr (Or.inl hg)
      have h2 : adj es g.1 g.2 = true := by
        rcases wyE_adj.mp h1 with q | q
        · obtain ⟨t, t1, t2, t3, t4⟩ := hpds _ _ q
          have h5 := rAt_cd (rim := rim) (t := t) (by omega)
          rw [Nat.mod_eq_of_lt (by omega)] at h5
          rw [t3, t4]; exact a9 _ _ h5
        · obtain ⟨t, t1, t2, t3, t4⟩ := hpds _ _ q
          have h5 := rAt_cd (rim := rim) (t := t) (by omega)
          rw [Nat.mod_eq_of_lt (by omega)] at h5
          rw [adj_sym, t3, t4]; exact a9 _ _ h5
      have h3 := adj_te hO h2
      have h4 : (min g.1 g.2, max g.1 g.2) = g := by rw [e]; exact Prod.ext (by simp only; omega) (by simp only; omega)
      rw [h4] at h3; exact h3
    let C : Nat × Nat → Bool := fun e => (wyE (rAt rim i :: (m ++ [rAt rim j]))).contains e ^^ decide (e = (min (rAt rim i) (rAt rim j), max (rAt rim i) (rAt rim j)))
    have hev : ev V es C := fun v hv => by
      have h1 : xsm (fun e => C e && inc e v) es = (xsm (fun e => (wyE (rAt rim i :: (m ++ [rAt rim j]))).contains e && inc e v) es ^^ xsm (fun e => decide (e = (min (rAt rim i) (rAt rim j), max (rAt rim i) (rAt rim j))) && inc e v) es) := by
        rw [← xsm_xor]
        refine xsm_congr fun e _ => ?_
        show ((_ ^^ _) && _) = _
        cases inc e v <;> simp
      rw [h1, xsm_sub hO.2 (wyE_nd hsn) hsub, wyE_par m _ _ v hsn, xsm_one hO.2 (adj_te hO hadj), inc_mm]
      by_cases e1 : v = rAt rim i
      · by_cases e2 : v = rAt rim j
        · exact absurd (e1.symm.trans e2) hne
        · rw [decide_eq_true e1, decide_eq_false e2]; rfl
      · by_cases e2 : v = rAt rim j
        · rw [decide_eq_false e1, decide_eq_true e2]; rfl
        · rw [decide_eq_false e1, decide_eq_false e2]; rfl
    obtain ⟨G, g1, g2⟩ := hT.2.2.2.2.2.2.2.1 C hev
    -- which spokes of the rim are of the ring
    have hCz : ∀ t z, t < rim.length → adj es (rAt rim t) z = true → z ≠ rAt rim ((t + 1) % rim.length) → (∀ u, u < rim.length → (u + 1) % rim.length = t → z ≠ rAt rim u) → C (min z (rAt rim t), max z (rAt rim t)) = (decide (t = i ∧ z = rAt rim j) || decide (t = j ∧ z = rAt rim i)) := fun t z ht hz hz1 hz2 => by
      have hnw : (wyE (rAt rim i :: (m ++ [rAt rim j]))).contains (min z (rAt rim t), max z (rAt rim t)) = false := by
        cases hh : (wyE (rAt rim i :: (m ++ [rAt rim j]))).contains (min z (rAt rim t), max z (rAt rim t)) with
        | false => rfl
        | true =>
          exfalso
          rw [List.contains_eq_mem, decide_eq_true_eq] at hh
          have h5 : adj (wyE (rAt rim i :: (m ++ [rAt rim j]))) z (rAt rim t) = true := by
            rcases Nat.le_total z (rAt rim t) with q | q
            · rw [show min z (rAt rim t) = z by omega, show max z (rAt rim t) = rAt rim t by omega] at hh; exact adj_iff.mpr (Or.inl hh)
            · rw [show min z (rAt rim t) = rAt rim t by omega, show max z (rAt rim t) = z by omega] at hh; exact adj_iff.mpr (Or.inr hh)
          rcases wyE_adj.mp h5 with q | q
          · obtain ⟨t', t1, t2, t3, t4⟩ := hpds _ _ q
            have := rAt_inj a2 ht (by omega) t4
            exact hz2 t' (by omega) (by rw [Nat.mod_eq_of_lt (by omega)]; omega) t3
          · obtain ⟨t', t1, t2, t3, t4⟩ := hpds _ _ q
            have := rAt_inj a2 ht (by omega) t3
            refine hz1 ?_
            rw [t4, this, Nat.mod_eq_of_lt (by omega)]
      show (_ ^^ decide _) = _
      rw [hnw, Bool.false_xor, Bool.eq_iff_iff, Bool.or_eq_true, decide_eq_true_eq, decide_eq_true_eq, decide_eq_true_eq, Prod.mk.injEq]
      constructor
      · intro q
        have : (z = rAt rim i ∧ rAt rim t = rAt rim j) ∨ (z = rAt rim j ∧ rAt rim t = rAt rim i) := by omega
        rcases this with w | w
        · exact Or.inr ⟨rAt_inj a2 ht hj w.2, w.1⟩
        · exact Or.inl ⟨rAt_inj a2 ht (by omega) w.2, w.1⟩
      · rintro (⟨w1, w2⟩ | ⟨w1, w2⟩)
        · rw [w1, w2]; omega
        · rw [w1, w2]; omega
    -- round a rim vertex
    have hrd : ∀ u t, u < rim.length → t < rim.length → (u + 1) % rim.length = t → ∃ Z, G (rAt rim t, rAt rim ((t + 1) % rim.length)) = (G (rAt rim u, rAt rim t) ^^ xsm (fun z => decide (t = i ∧ z = rAt rim j) || decide (t = j ∧ z = rAt rim i)) Z) ∧ Z.Nodup ∧ (∀ z, z ∈ Z → ∃ Z1, (∀ x, x ∈ Z1 → x ∈ Z ∧ x ≠ z) ∧ G (rAt rim t, z) = (G (rAt rim u, rAt rim t) ^^ xsm (fun z => decide (t = i ∧ z = rAt rim j) || decide (t = j ∧ z = rAt rim i)) Z1)) ∧ (∀ z, adj es (rAt rim t) z = true → z ≠ rAt rim u → z ≠ rAt rim ((t + 1) % rim.length) → F (rAt rim t, z) = true → z ∈ Z) := fun u t hu ht hut => by
      have hp : (rAt rim u, rAt rim t) ∈ cd rim := by rw [← hut]; exact rAt_cd hu
      have hn : (rAt rim t, rAt rim ((t + 1) % rim.length)) ∈ cd rim := rAt_cd ht
      obtain ⟨hpn, Z, Wd, e1, e2, e3, e4, e5⟩ := rs_sec hT hRS hp hn
      obtain ⟨q1, -⟩ := rot_pd hT e1
      have e2' := e2
      rw [List.nodup_cons, List.nodup_append] at e2'
      have hZ : ∀ z, z ∈ Z → C (min z (rAt rim t), max z (rAt rim t)) = (decide (t = i ∧ z = rAt rim j) || decide (t = j ∧ z = rAt rim i)) := fun z hz => hCz t z ht ((e5 z).mp (by simp [hz])) (fun e => e2'.2.2.2 z hz _ (by simp) e) (fun u' hu' hut' e => e2'.1 (by
        have : u' = u := by
          rcases Nat.lt_or_ge (u' + 1) rim.length with w | w
          · rcases Nat.lt_or_ge (u + 1) rim.length with w' | w'
            · rw [Nat.mod_eq_of_lt w] at hut'; rw [Nat.mod_eq_of_lt w'] at hut; omega
            · rw [Nat.mod_eq_of_lt w] at hut'; rw [show u + 1 = rim.length by omega, Nat.mod_self] at hut; omega
          · rw [show u' + 1 = rim.length by omega, Nat.mod_self] at hut'
            rcases Nat.lt_or_ge (u + 1) rim.length with w' | w'
            · rw [Nat.mod_eq_of_lt w'] at hut; omega
            · omega
        rw [← this, ← e]; exact List.mem_append_left _ hz))
      have hGz : ∀ z, z ∈ Z → (decide (t = i ∧ z = rAt rim j) || decide (t = j ∧ z = rAt rim i)) = (G (z, rAt rim t) ^^ G (rAt rim t, z)) := fun z hz => by
        rw [← hZ z hz]
        refine g2 z (rAt rim t) ?_
        rw [adj_sym]; exact (e5 z).mp (by simp [hz])
      refine ⟨Z, walkx Z _ _ (fun a b hab => fol_F g1 (q1 a b hab)) hGz, e2'.2.1, fun z hz => ?_, fun z z1 z2 z3 z4 => ?_⟩
      · obtain ⟨Z1, Z2, e6⟩ := List.append_of_mem hz
        have hzn := e2'.2.1
        rw [e6, List.nodup_append] at hzn
        refine ⟨Z1, fun x hx => ⟨by rw [e6]; exact List.mem_append_left _ hx, fun e => hzn.2.2 x hx z (by simp) e⟩, ?_⟩
        refine walkx Z1 _ _ (fun a b hab => fol_F g1 (q1 a b ?_)) fun x hx => hGz x (by rw [e6]; exact List.mem_append_left _ hx)
        rw [e6, show rAt rim u :: (Z1 ++ z :: Z2 ++ [rAt rim ((t + 1) % rim.length)]) = (rAt rim u :: Z1) ++ z :: (Z2 ++ [rAt rim ((t + 1) % rim.length)]) by simp, pd_cat]
        exact List.mem_append_left _ hab
      · have := (e5 z).mpr z1
        simp only [List.mem_cons, List.mem_append] at this
        rcases this with w | w | w | w
        · exact absurd w z2
        · exact w
        · exact absurd w z3
        · rw [(e4 z w).2] at z4; cases z4
    -- edges between rim vertices lie inside
    have hin : ∀ t l, t < rim.length → l < rim.length → adj es (rAt rim t) (rAt rim l) = true → (t + 1) % rim.length ≠ l → (l + 1) % rim.length ≠ t → F (rAt rim t, rAt rim l) = true := fun t l ht hl ha h1 h2 => by
      have hmod : ∀ u, (u + 1) % rim.length < rim.length := fun u => Nat.mod_lt _ (by omega)
      have ha' : adj es (rAt rim l) (rAt rim t) = true := by rw [adj_sym]; exact ha
      cases f1 : F (rAt rim t, rAt rim l) with
      | true => rfl
      | false =>
        exfalso
        have f2 := (a12 _ _ ha (fun z => a7 _ z (rAt_mem ht)) (fun z => a7 _ z (rAt_mem hl))).resolve_left (by rw [f1]; exact fun z => by cases z)
        have h5 := (a8 _ _ ha').mp ⟨f2, f1⟩
        have h6 := cd_fun a2 h5 (rAt_cd hl)
        have := rAt_inj a2 ht (hmod l) h6
        exact h2 this.symm
    -- the sides of the rim
    let c : Nat → Bool := fun t => G (rAt rim t, rAt rim ((t + 1) % rim.length))
    have hstep : ∀ t, 1 ≤ t → t < rim.length → t ≠ i → t ≠ j → c t = c (t - 1) := fun t h1 h2 h3 h4 => by
      obtain ⟨Z, z1, -, -, -⟩ := hrd (t - 1) t (by omega) h2 (by rw [Nat.mod_eq_of_lt (by omega)]; omega)
      have hz : xsm (fun z => decide (t = i ∧ z = rAt rim j) || decide (t = j ∧ z = rAt rim i)) Z = false := xsm_zero fun z _ => by simp [h3, h4]
      rw [hz, Bool.xor_false] at z1
      show G _ = G _
      rw [z1, show (t - 1 + 1) % rim.length = t by rw [Nat.mod_eq_of_lt (by omega)]; omega]
    have hflip : ∀ t o, 1 ≤ t → t < rim.length → o < rim.length → ((t = i ∧ o = j) ∨ (t = j ∧ o = i)) → c t = !c (t - 1) := fun t o h1 h2 ho h3 => by
      obtain ⟨Z, z1, z2, -, z4⟩ := hrd (t - 1) t (by omega) h2 (by rw [Nat.mod_eq_of_lt (by omega)]; omega)
      have hoa : adj es (rAt rim t) (rAt rim o) = true := by
        rcases h3 with ⟨q1, q2⟩ | ⟨q1, q2⟩
        · rw [q1, q2]; exact hadj
        · rw [q1, q2, adj_sym]; exact hadj
      have hcyc : (t + 1) % rim.length ≠ o ∧ (o + 1) % rim.length ≠ t ∧ t - 1 ≠ o := by
        refine ⟨fun e => ?_, fun e => ?_, by omega⟩
        · rcases Nat.lt_or_ge (t + 1) rim.length with w | w
          · rw [Nat.mod_eq_of_lt w] at e; omega
          · rw [show t + 1 = rim.length by omega, Nat.mod_self] at e; omega
        · rcases Nat.lt_or_ge (o + 1) rim.length with w | w
          · rw [Nat.mod_eq_of_lt w] at e; omega
          · rw [show o + 1 = rim.length by omega, Nat.mod_self] at e; omega
      have hmod : (t + 1) % rim.length < rim.length := Nat.mod_lt _ (by omega)
      have hoZ : rAt rim o ∈ Z := z4 _ hoa (fun e => hcyc.2.2 (rAt_inj a2 (by omega) (by omega) e.symm)) (fun e => hcyc.1 (rAt_inj a2 hmod ho e.symm)) (hin t o h2 ho hoa hcyc.1 hcyc.2.1)
      have hz : xsm (fun z => decide (t = i ∧ z = rAt rim j) || decide (t = j ∧ z = rAt rim i)) Z = true := by
        have h5 : xsm (fun z => decide (t = i ∧ z = rAt rim j) || decide (t = j ∧ z = rAt rim i)) Z = xsm (fun z => decide (z = rAt rim o) && true) Z := xsm_congr fun z _ => by
          rcases h3 with ⟨q1, q2⟩ | ⟨q1, q2⟩
          · have : t ≠ j := by omega
            simp [q1, q2]
            omega
          · have : t ≠ i := by omega
            simp [q1, q2]
            omega
        rw [h5, xsm_one z2 hoZ]
      rw [hz] at z1
      show G _ = !G _
      rw [z1, show (t - 1 + 1) % rim.length = t by rw [Nat.mod_eq_of_lt (by omega)]; omega]
      simp
    -- the crossing chord has one side
    have hside : ∀ t o, t < rim.length → o < rim.length → t ≠ i → t ≠ j → adj es (rAt rim t) (rAt rim o) = true → (t + 1) % rim.length ≠ o → (o + 1) % rim.length ≠ t → G (rAt rim t, rAt rim o) = c t := fun t o h1 h2 h3 h4 h5 h6 h7 => by
      obtain ⟨u, u1, u2⟩ : ∃ u, u < rim.length ∧ (u + 1) % rim.length = t := by
        by_cases q : t = 0
        · exact ⟨rim.length - 1, by omega, by rw [show rim.length - 1 + 1 = rim.length by omega, Nat.mod_self]; exact q.symm⟩
        · exact ⟨t - 1, by omega, by rw [Nat.mod_eq_of_lt (by omega)]; omega⟩
      obtain ⟨Z, z1, z2, z3, z4⟩ := hrd u t u1 h1 u2
      have hmod : (t + 1) % rim.length < rim.length := Nat.mod_lt _ (by omega)
      have hoZ : rAt rim o ∈ Z := z4 _ h5 (fun e => h7 (by rw [rAt_inj a2 h2 u1 e]; exact u2)) (fun e => h6 (rAt_inj a2 hmod h2 e.symm)) (hin t o h1 h2 h5 h6 h7)
      obtain ⟨Z1, -, y2⟩ := z3 _ hoZ
      have hz : ∀ Z' : List Nat, xsm (fun z => decide (t = i ∧ z = rAt rim j) || decide (t = j ∧ z = rAt rim i)) Z' = false := fun Z' => xsm_zero fun z _ => by simp [h3, h4]
      rw [hz, Bool.xor_false] at y2 z1
      rw [y2]
      exact z1.symm
    have hconst : ∀ (n t : Nat), 1 ≤ t → t + n < rim.length → (∀ u, t < u → u ≤ t + n → u ≠ i ∧ u ≠ j) → c (t + n) = c t := by
      intro n
      induction n with
      | zero => intro t _ _ _; rfl
      | succ n ihn =>
        intro t h1 h2 h3
        have h4 := h3 (t + n + 1) (by omega) (by omega)
        have h5 := hstep (t + n + 1) (by omega) (by omega) h4.1 h4.2
        rw [← Nat.add_assoc, h5, show t + n + 1 - 1 = t + n by omega]
        exact ihn t h1 (by omega) fun u hu hu2 => h3 u hu (by omega)
    have hconst0 : ∀ (n t : Nat), t + n < rim.length → (∀ u, t < u → u ≤ t + n → u ≠ i ∧ u ≠ j) → c (t + n) = c t := by
      intro n
      induction n with
      | zero => intro t _ _; rfl
      | succ n ihn =>
        intro t h2 h3
        have h4 := h3 (t + n + 1) (by omega) (by omega)
        have h5 := hstep (t + n + 1) (by omega) (by omega) h4.1 h4.2
        rw [← Nat.add_assoc, h5, show t + n + 1 - 1 = t + n by omega]
        exact ihn t (by omega) fun u hu hu2 => h3 u hu (by omega)
    have hk : i + 1 < rim.length := by omega
    have hcy1 : (i + 1 + 1) % rim.length ≠ l := fun e => by
      rcases Nat.lt_or_ge (i + 1 + 1) rim.length with w | w
      · rw [Nat.mod_eq_of_lt w] at e; omega
      · rw [show i + 1 + 1 = rim.length by omega, Nat.mod_self] at e; omega
    have hcy2 : (l + 1) % rim.length ≠ i + 1 := fun e => by
      rcases Nat.lt_or_ge (l + 1) rim.length with w | w
      · rw [Nat.mod_eq_of_lt w] at e; omega
      · rw [show l + 1 = rim.length by omega, Nat.mod_self] at e; omega
    have s1 := hside (i + 1) l hk l1 (by omega) (by omega) l3 hcy1 hcy2
    have s2 := hside l (i + 1) l1 hk (by omega) (by omega) (by rw [adj_sym]; exact l3) hcy2 hcy1
    have hCk : (G (rAt rim l, rAt rim (i + 1)) ^^ G (rAt rim (i + 1), rAt rim l)) = false := by
      rw [← g2 _ _ (show adj es (rAt rim l) (rAt rim (i + 1)) = true by rw [adj_sym]; exact l3)]
      rw [hCz (i + 1) (rAt rim l) hk l3 (fun e => hcy1 (rAt_inj a2 (Nat.mod_lt _ (by omega)) l1 e.symm)) (fun u hu hut e => by
        have : l = u := rAt_inj a2 l1 hu e
        rw [this] at hcy2
        exact hcy2 hut)]
      have : ¬ (i + 1 = i) ∧ ¬ (i + 1 = j) := by omega
      simp [this.2]
    have hcl : c l = c (i + 1) := by
      rw [← s1, ← s2]
      revert hCk
      cases G (rAt rim l, rAt rim (i + 1)) <;> cases G (rAt rim (i + 1), rAt rim l) <;> simp
    have hci : c (i + 1) = c i := by
      have := hstep (i + 1) (by omega) hk (by omega) (by omega)
      rwa [show i + 1 - 1 = i by omega] at this
    rcases hout with q | q
    · -- before
      have h1 := hflip i j (by omega) (by omega) hj (Or.inl ⟨rfl, rfl⟩)
      have h2 := hconst0 (i - 1 - l) l (by omega) fun u hu hu2 => by omega
      rw [show l + (i - 1 - l) = i - 1 by omega] at h2
      rw [h2, hcl, hci] at h1
      cases hh : c i <;> rw [hh] at h1 <;> cases h1
    · -- behind
      have h1 := hflip j i (by omega) hj (by omega) (Or.inr ⟨rfl, rfl⟩)
      have h2 := hconst0 (l - j) j (by omega) fun u hu hu2 => by omega
      rw [show j + (l - j) = l by omega] at h2
      have h3 := hconst0 (j - 1 - (i + 1)) (i + 1) (by omega) fun u hu hu2 => by omega
      rw [show i + 1 + (j - 1 - (i + 1)) = j - 1 by omega] at h3
      rw [← h2, hcl, h3] at h1
      cases hh : c (i + 1) <;> rw [hh] at h1 <;> cases h1
/-- some vertex within the rim is tied to its neighbours on the rim alone -/
theorem free_ex (hT : TG V es rs R) (hR : RS V es rs F P rim) : ∃ t, 1 ≤ t ∧ t + 1 < rim.length ∧ ∀ l, l < rim.length → l + 2 ≤ t ∨ t + 2 ≤ l → adj es (rAt rim t) (rAt rim l) = false := by
  refine Classical.byContradiction fun hn => ?_
  have hnf : ∀ t, 1 ≤ t → t + 1 < rim.length → ∃ l, l < rim.length ∧ (l + 2 ≤ t ∨ t + 2 ≤ l) ∧ adj es (rAt rim t) (rAt rim l) = true := fun t h1 h2 => by
    refine Classical.byContradiction fun hn2 => hn ⟨t, h1, h2, fun l hl hd => ?_⟩
    cases hh : adj es (rAt rim t) (rAt rim l) with
    | false => rfl
    | true => exact absurd ⟨l, hl, hd, hh⟩ hn2
  have h3 := hR.2.2.1
  obtain ⟨l, l1, l2, l3⟩ := hnf 1 (by omega) (by omega)
  exact no_chord hT hR hnf (l - 1) 1 l rfl (by omega) l1 (by omega) l3
end TRI
