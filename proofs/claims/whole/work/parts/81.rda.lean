/-! ===== Reference: the order of drawing ===== -/
def RM (W : fl_W) (rim : List Nat) : Prop := W 229 45 = nI rim.length ∧ rim.length ≤ 20 ∧ (∀ x, x ∈ rim → x < 20) ∧ ∀ j x, rim[j]? = some x → W 258 j = nI x
def PLc (W : fl_W) (V : Nat) (P : List Nat) : Prop := ∀ u, u < V → W 257 u = if u ∈ P then 1 else 0
theorem RM.fr {W W' : fl_W} {rim : List Nat} {fs l : List Nat} (h : RM W rim) (hE : EqF fs l W W') (h0 : 45 ∉ fs) (h2 : 258 ∉ l) : RM W' rim := by
  refine ⟨by rw [hE.2 45 h0]; exact h.1, h.2.1, h.2.2.1, fun j x hj => ?_⟩
  rw [hE.1 258 (by decide) h2]; exact h.2.2.2 j x hj
theorem RM.at {W : fl_W} {rim : List Nat} (h : RM W rim) {t : Nat} (ht : t < rim.length) : W 258 t = nI (rAt rim t) := h.2.2.2 t _ (rAt_get ht)
section RDA
variable {d : Nat} {Q : fl_R} {W : fl_W} {V : Nat} {es : gE} {rs : List (List Nat)} {R : Nat → List Nat} {rim P : List Nat}
theorem rf_rimP_l {v : Nat} (hv : v < 20) (hM : RM W rim) (hy : ∀ k, v ∈ rim → k < 20 → Q (some (.int (nI k))) W) (hn : v ∉ rim → Q (some (.int (-1))) W) : ∀ (n i : Nat), rim.length - i = n → i ≤ rim.length → (∀ j, j < i → rAt rim j ≠ v) → hd_177_2 d Q (nI v) (nI i) W := by
  have hl := hM.2.1
  intro n
  induction n with
  | zero =>
    intro i h1 h2 hno
    refine sx_177_2 _ _ W ⟨fun z => absurd z ?_, fun _ => ⟨fun z => absurd z ?_, fun _ => hn fun hm => ?_⟩⟩
    · rw [hM.1]; exact nI_nlt (by omega) (by omega)
    · rw [hM.1]; exact nI_nlt (by omega) (by omega)
    · obtain ⟨j, hj⟩ := List.getElem?_of_mem hm
      have hjl := (List.getElem?_eq_some_iff.mp hj).1
      rw [rAt_get hjl] at hj
      exact hno j (by omega) (Option.some.inj hj)
  | succ n ih =>
    intro i h1 h2 hno
    have hi : i < rim.length := by omega
    have hx := hM.2.2.1 _ (rAt_mem hi)
    refine sx_177_2 _ _ W ⟨fun _ => ⟨in_N (by omega) (by omega), ?_⟩, fun z => absurd ?_ z⟩
    · rw [nI_clamp (by omega), hM.at hi, hM.1]
      refine ⟨fun z => ⟨fun _ => hy i ?_ (by omega), fun w => absurd (nI_lt hi (by omega)) w⟩, fun z => ?_⟩
      · have := (nI_eq (by omega) (by omega)).mp z
        rw [← this]; exact rAt_mem hi
      · rw [ci_1, nI_add]
        refine ih (i + 1) (by omega) (by omega) fun j hj => ?_
        by_cases e : j = i
        · rw [e]; exact fun q => z (by rw [q])
        · exact hno j (by omega)
    · rw [hM.1]; exact nI_lt hi (by omega)
/-- isNew -/
theorem rf_isNew {v : Nat} (hv : v < V) (hV : V ≤ 20) (hM : RM W rim) (hP : PLc W V P) (h : Q (some (.int (if v ∈ P ∨ v ∈ rim then 0 else 1))) W) : fl_cal (d + 2) 180 [.ref 229, .int (nI v)] W Q := by
  refine sx_180 _ W ⟨in_N (by omega) (by omega), ?_⟩
  rw [nI_clamp (by omega), hP v hv]
  by_cases hp : v ∈ P
  · rw [if_pos hp]
    rw [if_pos (Or.inl hp)] at h
    exact ⟨fun z => absurd z (by decide), fun _ => h⟩
  · rw [if_neg hp]
    refine ⟨fun _ => sx_177 _ W ?_, fun z => absurd rfl z⟩
    rw [ci_0]
    refine rf_rimP_l (by omega) hM (fun k hk hk20 => ⟨fun z => absurd z (nI_pos (by omega)), fun _ => ?_⟩) (fun hk => ⟨fun _ => ?_, fun z => absurd (by decide) z⟩) _ 0 rfl (Nat.zero_le _) (fun j hj => by omega)
    · rw [if_pos (Or.inr hk)] at h; exact h
    · rw [if_neg (by rintro (q | q); exact hp q; exact hk q)] at h; exact h
/-- isFree -/
theorem rf_free_l {t : Nat} (ht : t < rim.length) (ht1 : 1 ≤ t) (hG : RfG W V es) (hM : RM W rim) (hy : frP es rim t = true → Q (some (.int 1)) W) (hn : frP es rim t = false → Q (some (.int 0)) W) : ∀ (n i : Nat), rim.length - i = n → i ≤ rim.length → (∀ l, l < i → l + 2 ≤ t ∨ t + 2 ≤ l → adj es (rAt rim l) (rAt rim t) = false) → hd_178_2 (d + 1) Q (nI t) (nI i) W := by
  have hl := hM.2.1
  intro n
  induction n with
  | zero =>
    intro i h1 h2 hno
    refine sx_178_2 _ _ W ⟨fun z => absurd z ?_, fun _ => hy (frP_iff.mpr fun l hl hd => hno l (by omega) hd)⟩
    rw [hM.1]; exact nI_nlt (by omega) (by omega)
  | succ n ih =>
    intro i h1 h2 hno
    have hi : i < rim.length := by omega
    have hx := hM.2.2.1 _ (rAt_mem hi)
    have hx' := hM.2.2.1 _ (rAt_mem ht)
    have next : (i + 2 ≤ t ∨ t + 2 ≤ i → adj es (rAt rim i) (rAt rim t) = false) → hd_178_2 (d + 1) Q (nI t) (nI i + Int32.ofInt 1) W := fun hh => by
      rw [ci_1, nI_add]
      refine ih (i + 1) (by omega) (by omega) fun l hl hd => ?_
      by_cases e : l = i
      · rw [e] at hd ⊢; exact hh hd
      · exact hno l (by omega) hd
    refine sx_178_2 _ _ W ⟨fun _ => ⟨fun z => next fun hd => ?_, fun z => ⟨fun z2 => next fun hd => ?_, fun z2 => ⟨fun z3 => next fun hd => ?_, fun z3 => ⟨in_N (by omega) (by omega), in_N (by omega) (by omega), ?_⟩⟩⟩⟩, fun z => absurd ?_ z⟩
    · have := (nI_eq (by omega) (by omega)).mp z
      omega
    · rw [nI_sub1 ht1, nI_eq (by omega) (by omega)] at z2
      omega
    · rw [ci_1, nI_add, nI_eq (by omega) (by omega)] at z3
      omega
    · rw [nI_clamp (by omega), nI_clamp (by omega), hM.at hi, hM.at ht]
      refine rf_eOf hx hx' hG ⟨fun z4 => next fun _ => (rf_eNo_neg hG).mp z4, fun z4 => hn ?_⟩
      cases hh : frP es rim t with
      | false => rfl
      | true =>
        exfalso
        refine z4 ((rf_eNo_neg hG).mpr (frP_iff.mp hh i hi ?_))
        have q1 : i ≠ t := fun e => z (by rw [e])
        have q2 : i ≠ t - 1 := fun e => z2 (by rw [nI_sub1 ht1, e])
        have q3 : i ≠ t + 1 := fun e => z3 (by rw [ci_1, nI_add, e])
        omega
    · rw [hM.1]; exact nI_lt hi (by omega)
theorem rf_isFree {t : Nat} (ht : t < rim.length) (ht1 : 1 ≤ t) (hG : RfG W V es) (hM : RM W rim) (h : Q (some (.int (if frP es rim t then 1 else 0))) W) : fl_cal (d + 2) 178 [.ref 229, .int (nI t)] W Q := by
  refine sx_178 _ W ?_
  rw [ci_0]
  exact rf_free_l ht ht1 hG hM (fun e => by rw [e] at h; exact h) (fun e => by rw [e] at h; exact h) _ 0 rfl (Nat.zero_le _) (fun l hl => by omega)
/-- turnPlace -/
theorem rf_turnP {v u : Nat} (hv : v < V) (hV : V ≤ 20) (hR : RT W V R) (hu : u ∈ R v) (h20 : ∀ x, x ∈ R v → x < 20) (h : Q (some (.int (nI ((R v).idxOf u)))) W) : fl_cal (d + 1) 179 [.ref 229, .int (nI v), .int (nI u)] W Q := by
  obtain ⟨t1, t2, t3⟩ := hR v hv
  have hl := List.idxOf_lt_length_of_mem hu
  refine sx_179 _ _ W ?_
  have lp : ∀ (n k : Nat), (R v).idxOf u - k = n → k ≤ (R v).idxOf u → hd_179_2 d Q (nI v) (nI u) (nI k) W := by
    intro n
    induction n with
    | zero =>
      intro k h1 h2
      have hk : k = (R v).idxOf u := by omega
      have hat := idx_at hu
      rw [← hk] at hat
      refine sx_179_2 _ _ _ W ?_
      rw [cb_20, i20 (by omega) (by omega), nI_clamp (by omega), t3 k u hat]
      exact ⟨in_N (by omega) (by omega), fun _ => by rw [hk]; exact h, fun z => absurd rfl z⟩
    | succ n ih =>
      intro k h1 h2
      have hkl : k < (R v).length := by omega
      have hp := List.getElem?_eq_getElem hkl
      have hne : (R v)[k] ≠ u := fun e => by
        rw [e] at hp
        have := idx_min hp
        omega
      have hz := h20 _ (List.getElem_mem hkl)
      have hu20 := h20 u hu
      refine sx_179_2 _ _ _ W ?_
      rw [cb_20, i20 (by omega) (by omega), nI_clamp (by omega), t3 k _ hp]
      refine ⟨in_N (by omega) (by omega), fun z => absurd ((nI_eq (by omega) (by omega)).mp z) hne, fun _ => ?_⟩
      rw [ci_1, nI_add]
      exact ih (k + 1) (by omega) (by omega)
  rw [ci_0]
  exact lp _ 0 rfl (Nat.zero_le _)
/-- gather, the first way round -/
theorem rf_gather {v p n : Nat} {Z Wd : List Nat} (hv : v < V) (hV : V ≤ 20) (hM : RM W rim) (hP : PLc W V P) (hR : RT W V R) (h20 : ∀ x, x ∈ R v → x < V) (hrot : rotN (R v) p = p :: (Z ++ n :: Wd)) (hnd : (p :: (Z ++ n :: Wd)).Nodup) (hRn : (R v).Nodup) (hpr : p ∈ rim) (hnr : n ∈ rim) (hZ : ∀ z, z ∈ Z → z ∉ rim ∧ z ∉ P) (hW : ∀ w, w ∈ Wd → w ∈ P)
    (h : ∀ W', W' 229 47 = nI Z.length → (∀ j x, Z[j]? = some x → W' 259 j = nI x) → EqF [47] [259] W W' → Q (some (.int 1)) W') : fl_cal (d + 3) 181 [.ref 229, .int (nI v), .int (nI p), .int (nI n), .int (Int32.ofInt 1)] W Q := by
  obtain ⟨t1, t2, t3⟩ := hR v hv
  have hpR : p ∈ R v := mem_rotN.mp (by rw [hrot]; simp)
  have hil := List.idxOf_lt_length_of_mem hpR
  have hlen : (R v).length = Z.length + Wd.length + 2 := by
    have := rotN_len (l := R v) (a := p)
    rw [hrot] at this
    simp at this
    omega
  have hmemR : ∀ x, x ∈ p :: (Z ++ n :: Wd) → x ∈ R v := fun x hx => mem_rotN.mp (by rw [hrot]; exact hx)
  -- the count of new ones
  have hcount : ((R v).filter fun u => decide (¬ (u ∈ P ∨ u ∈ rim))).length = Z.length := by
    have hperm : (R v).Perm (p :: (Z ++ n :: Wd)) := by
      rw [← hrot]
      have := List.perm_append_comm (l₁ := (R v).take ((R v).idxOf p)) (l₂ := (R v).drop ((R v).idxOf p))
      rw [List.take_append_drop] at this
      exact this
    rw [(hperm.filter _).length_eq]
    rw [List.filter_cons_of_neg (by simp [hpr]), List.filter_append, List.filter_cons_of_neg (by simp [hnr])]
    rw [List.filter_eq_self.mpr fun z hz => by simp [(hZ z hz).1, (hZ z hz).2], List.filter_eq_nil_iff.mpr fun w hw => by simp [hW w hw], List.append_nil]
  have cnt_l : ∀ (W : fl_W), RM W rim → PLc W V P → RT W V R → W 229 47 = nI Z.length → Q (some (.int 1)) W → ∀ (k i : Nat), (R v).length - i = k → i ≤ (R v).length → hd_181_114 (d + 2) Q (nI v) (nI (R v).length) (nI (((R v).take i).filter fun u => decide (¬ (u ∈ P ∨ u ∈ rim))).length) (nI i) W := by
    intro W hM hP hR h47 hq k
    obtain ⟨t1, t2, t3⟩ := hR v hv
    induction k with
    | zero =>
      intro i h1 h2
      refine sx_181_114 _ _ _ _ W ⟨fun z => absurd z (nI_nlt (by omega) (by omega)), fun _ => ⟨fun _ => hq, fun z => absurd ?_ z⟩⟩
      rw [h47, List.take_of_length_le (by omega), hcount]
    | succ k ih =>
      intro i h1 h2
      have hi : i < (R v).length := by omega
      have hp := List.getElem?_eq_getElem hi
      have hx := h20 _ (List.getElem_mem hi)
      have hts := List.take_succ_eq_append_getElem hi
      have nx := ih (i + 1) (by omega) (by omega)
      rw [hts, List.filter_append, List.length_append] at nx
      refine sx_181_114 _ _ _ _ W ⟨fun _ => ?_, fun z => absurd (nI_lt hi (by omega)) z⟩
      rw [cb_20, i20 (by omega) (by omega), nI_clamp (by omega), t3 i _ hp]
      refine ⟨in_N (by omega) (by omega), rf_isNew hx hV hM hP ?_⟩
      rw [ci_0, ci_1, nI_add, nI_add, nI_add]
      by_cases e : (R v)[i] ∈ P ∨ (R v)[i] ∈ rim
      · rw [if_pos e]
        rw [List.filter_cons_of_neg (by rw [decide_eq_true_eq]; exact fun w => w e), List.filter_nil, List.length_nil] at nx
        exact ⟨fun _ => nx, fun z => absurd rfl z⟩
      · rw [if_neg e]
        rw [List.filter_cons_of_pos (by rw [decide_eq_true_eq]; exact e), List.filter_nil, List.length_singleton] at nx
        exact ⟨fun z => absurd z (by decide), fun _ => nx⟩
  -- going on
  have go : ∀ (rest done : List Nat) (W : fl_W), Z = done ++ rest → RM W rim → PLc W V P → RT W V R → W 229 47 = nI done.length → (∀ j x, done[j]? = some x → W 259 j = nI x) → (∀ W', W' 229 47 = nI Z.length → (∀ j x, Z[j]? = some x → W' 259 j = nI x) → EqF [47] [259] W W' → Q (some (.int 1)) W') → hd_181_30 (d + 2) Q (nI v) (nI n) (Int32.ofInt 1) (nI (R v).length) (nI (((R v).idxOf p + 1 + done.length) % (R v).length)) W := by
    intro rest
    induction rest with
    | nil =>
      intro done W hd hM hP hR h47 h259 h
      obtain ⟨t1, t2, t3⟩ := hR v hv
      rw [List.append_nil] at hd
      have hat : (R v)[((R v).idxOf p + 1 + done.length) % (R v).length]? = some n := by
        have := rot_at (k := 1 + done.length) hpR (by rw [← hd]; omega)
        rw [hrot, ← hd, show 1 + Z.length = Z.length + 1 by omega, List.getElem?_cons_succ, List.getElem?_append_right (Nat.le_refl _)] at this
        rw [← hd, show (R v).idxOf p + 1 + Z.length = (R v).idxOf p + (Z.length + 1) by omega, ← this]
        simp
      have hm : ((R v).idxOf p + 1 + done.length) % (R v).length < (R v).length := Nat.mod_lt _ (by omega)
      refine sx_181_30 _ _ _ _ _ W ?_
      rw [cb_20, i20 (by omega) (by omega), nI_clamp (by omega), t3 _ n hat]
      refine ⟨in_N (by omega) (by omega), fun _ => ?_, fun z => absurd rfl z⟩
      rw [ci_0]
      rw [← hd] at h47 h259
      exact cnt_l W hM hP hR h47 (h W h47 h259 EqF.rf) _ 0 rfl (Nat.zero_le _)
    | cons z rest ih =>
      intro done W hd hM hP hR h47 h259 h
      obtain ⟨t1, t2, t3⟩ := hR v hv
      have hdl : done.length + rest.length + 1 = Z.length := by rw [hd]; simp; omega
      have hzZ : z ∈ Z := by rw [hd]; simp
      have hzR : z ∈ R v := hmemR z (by simp [hzZ])
      have hzV := h20 z hzR
      have hzn : z ≠ n := fun e => by
        rw [List.nodup_cons, List.nodup_append] at hnd
        exact hnd.2.2.2 z hzZ n (by simp) e
      have hnV := h20 n (hmemR n (by simp))
      have hat : (R v)[((R v).idxOf p + 1 + done.length) % (R v).length]? = some z := by
        have := rot_at (k := 1 + done.length) hpR (by omega)
        rw [hrot, show 1 + done.length = done.length + 1 by omega, List.getElem?_cons_succ, hd, List.append_assoc, List.getElem?_append_right (Nat.le_refl _)] at this
        rw [show (R v).idxOf p + 1 + done.length = (R v).idxOf p + (done.length + 1) by omega, ← this]
        simp
      have hm : ((R v).idxOf p + 1 + done.length) % (R v).length < (R v).length := Nat.mod_lt _ (by omega)
      refine sx_181_30 _ _ _ _ _ W ?_
      rw [cb_20, i20 (by omega) (by omega), nI_clamp (by omega), t3 _ z hat]
      refine ⟨in_N (by omega) (by omega), fun w => absurd ((nI_eq (by omega) (by omega)).mp w) hzn, fun _ => ⟨in_N (by omega) (by omega), rf_isNew hzV hV hM hP ?_⟩⟩
      rw [if_neg (by rintro (q | q); exact (hZ z hzZ).2 q; exact (hZ z hzZ).1 q)]
      refine ⟨fun w => absurd w (by decide), fun _ => ?_⟩
      rw [h47]
      refine ⟨in_N (by omega) (by omega), fun W4 e4 W5 e5 => ⟨by rw [cz_0, nI_eq (by omega) (by omega)]; omega, ?_⟩⟩
      rw [nI_clamp (by omega)] at e4
      have e47 : W4 229 47 = nI done.length := by rw [e4, uw_n (by decide)]; exact h47
      rw [e47, ci_1, nI_add] at e5
      have f5 : EqF [47] [259] W W5 := by rw [e5, e4]; exact (EqF.uwA (by simp) (by decide)).tr (EqF.uwF (by simp))
      have hmod : nI (((R v).idxOf p + 1 + done.length) % (R v).length) + Int32.ofInt 1 + nI (R v).length - (nI (((R v).idxOf p + 1 + done.length) % (R v).length) + Int32.ofInt 1 + nI (R v).length) / nI (R v).length * nI (R v).length = nI (((R v).idxOf p + 1 + (done ++ [z]).length) % (R v).length) := by
        rw [ci_1, nI_add, nI_add, nI_mod _ (by omega) _ (by omega) (by omega)]
        congr 1
        rw [Nat.add_mod_right, Nat.mod_add_mod, List.length_append, List.length_singleton]
        congr 1
      rw [hmod]
      refine ih (done ++ [z]) W5 (by rw [hd]; simp) (hM.fr f5 (by decide) (by decide)) (fun u hu => by rw [f5.1 257 (by decide) (by decide)]; exact hP u hu) (hR.fr f5 (by decide) (by decide)) (by rw [e5, uw_s]; simp) (fun j x hj => ?_) fun W' j1 j2 j3 => h W' j1 j2 (f5.tr j3)
      rw [e5, uw_n (by decide), e4]
      by_cases ej : j = done.length
      · subst ej
        rw [List.getElem?_concat_length] at hj
        cases hj
        exact uw_s
      · have hjl : j < done.length := by
          have := (List.getElem?_eq_some_iff.mp hj).1
          rw [List.length_append, List.length_singleton] at this
          omega
        rw [uw_m ej]
        rw [List.getElem?_append_left hjl] at hj
        exact h259 j x hj
  refine sx_181 _ _ _ _ W ⟨in_N (by omega) (by omega), fun W1 e1 => ?_⟩
  have f1 : EqF [47] [259] W W1 := by rw [e1]; exact EqF.uwF (by simp)
  refine rf_turnP hv hV (hR.fr f1 (by decide) (by decide)) hpR (fun x hx => by have := h20 x hx; omega) ?_
  rw [nI_clamp (by omega), t1]
  refine ⟨by rw [cz_0, nI_eq (by omega) (by omega)]; omega, ?_⟩
  have hmod : nI ((R v).idxOf p) + Int32.ofInt 1 + nI (R v).length - (nI ((R v).idxOf p) + Int32.ofInt 1 + nI (R v).length) / nI (R v).length * nI (R v).length = nI (((R v).idxOf p + 1 + ([] : List Nat).length) % (R v).length) := by
    rw [ci_1, nI_add, nI_add, nI_mod _ (by omega) _ (by omega) (by omega)]
    congr 1
    rw [Nat.add_mod_right]
    rfl
  rw [hmod]
  exact go Z [] W1 rfl (hM.fr f1 (by decide) (by decide)) (fun u hu => by rw [f1.1 257 (by decide) (by decide)]; exact hP u hu) (hR.fr f1 (by decide) (by decide)) (by rw [e1, uw_s]; rfl) (fun j x hj => by simp at hj) fun W' j1 j2 j3 => h W' j1 j2 (f1.tr j3)
end RDA
