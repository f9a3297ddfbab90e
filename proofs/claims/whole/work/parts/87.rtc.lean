/-! ===== Reference: may, fill, knot ===== -/
def PL (V : Nat) (es : gE) : Prop := (∃ R, layG V es = some R) ∧ ∃ L, BlkOK V es L
theorem pl_len {V : Nat} {es : gE} (hV : V ≤ 20) (hO : okE V es) (h : PL V es) : es.length < 60 ∧ (3 ≤ V → es.length + 6 ≤ 3 * V) := by
  obtain ⟨⟨R, hR⟩, L, hL⟩ := h
  have h3 : 3 ≤ V → es.length + 6 ≤ 3 * V := fun h3 => (lay_bound hV h3 hO hL hR).1
  refine ⟨?_, h3⟩
  by_cases q : 3 ≤ V
  · have := h3 q; omega
  · have : es.length ≤ [((0 : Nat), (1 : Nat))].length := nd_sub_len hO.2 fun p hp => by
      have := hO.1 p hp
      have e : p = (0, 1) := Prod.ext (by show p.1 = 0; omega) (by show p.2 = 1; omega)
      rw [e]; exact List.mem_singleton.mpr rfl
    simp at this
    omega
/-- one more edge, if it fits -/
noncomputable def addF (V : Nat) (es : gE) (u v : Nat) : gE := if adj es u v = true ∨ (3 ≤ V ∧ es.length + 6 = 3 * V) then es else if (layG V (es ++ [(min u v, max u v)])).isSome = true then es ++ [(min u v, max u v)] else es
noncomputable def flV (V u : Nat) : Nat → Nat → gE → gE
  | 0, _, es => es
  | n + 1, v, es => flV V u n (v + 1) (addF V es u v)
noncomputable def flU (V : Nat) : Nat → Nat → gE → gE
  | 0, _, es => es
  | n + 1, u, es => flU V n (u + 1) (flV V u (V - (u + 1)) (u + 1) es)
theorem addF_len {V : Nat} {es : gE} {u v : Nat} : es.length ≤ (addF V es u v).length := by
  unfold addF
  split
  · exact Nat.le_refl _
  · split
    · simp
    · exact Nat.le_refl _
theorem flV_len {V u : Nat} : ∀ (n v : Nat) (es : gE), es.length ≤ (flV V u n v es).length
  | 0, _, _ => Nat.le_refl _
  | n + 1, v, es => Nat.le_trans addF_len (flV_len n (v + 1) _)
theorem flU_len {V : Nat} : ∀ (n u : Nat) (es : gE), es.length ≤ (flU V n u es).length
  | 0, _, _ => Nat.le_refl _
  | n + 1, u, es => Nat.le_trans (flV_len _ _ _) (flU_len n (u + 1) _)
def flF : List Nat := 1 :: laF
def flL : List Nat := 230 :: 231 :: ipL
section RTC
variable {d : Nat} {Q : fl_R} {W : fl_W} {V : Nat} {es : gE} {R : Nat → List Nat}
/-- may -/
noncomputable def mayI (V : Nat) (es : gE) (u v : Int32) : Int32 :=
  if tkB V es u v = true ∧ (layG V es).isSome = true then (if (layG V (es ++ [(min u.toNatClampNeg v.toNatClampNeg, max u.toNatClampNeg v.toNatClampNeg)])).isSome then 1 else 0) else -1
theorem rf_may {u v : Int32} (hG : RfG W V es) (h : ∀ W', RfG W' V es → EqF laF flL W W' → Q (some (.int (mayI V es u v))) W') : fl_cal (d + 8) 175 [.ref 229, .int u, .int v] W Q := by
  have hV := hG.1
  have hE := hG.2.1
  have no : tkB V es u v = false → Q (some (.int (-1))) W := fun z => by
    have := h W hG EqF.rf
    unfold mayI at this
    rw [if_neg (fun q => by rw [z] at q; cases q.1)] at this
    exact this
  refine sx_175 u v W (rf_isV hG ?_)
  cases hu : ixB u V with
  | false => exact ⟨fun _ => no (by unfold tkB; rw [hu]; rfl), fun q => absurd rfl q⟩
  | true =>
    refine ⟨fun q => absurd q (by decide), fun _ => rf_isV hG ?_⟩
    cases hv : ixB v V with
    | false => exact ⟨fun _ => no (by unfold tkB; rw [hu, hv]; rfl), fun q => absurd rfl q⟩
    | true =>
      obtain ⟨a, ha, rfl⟩ := ixB_ex (by omega) hu
      obtain ⟨c, hc, rfl⟩ := ixB_ex (by omega) hv
      rw [tkB_N (by omega) (by omega), decide_eq_true ha, decide_eq_true hc] at no
      refine ⟨fun q => absurd q (by decide), fun _ => ⟨fun huv => no ?_, fun huv => ?_⟩⟩
      · rw [nI_eq (by omega) (by omega)] at huv
        simp [huv]
      · have hne : a ≠ c := fun z => huv (by rw [z])
        refine rf_eOf (by omega) (by omega) hG ⟨fun hneg => ?_, fun hneg => no ?_⟩
        · rw [rf_eNo_neg hG] at hneg
          rw [hG.2.2.2.2.1, cb_60]
          refine ⟨fun q => no ?_, fun q => ?_⟩
          · rw [nI_eq (by omega) (by omega)] at q
            simp [q]
          · have hl : es.length < 60 := Nat.lt_of_le_of_ne hE fun z => q (by rw [z])
            have htk : tkB V es (nI a) (nI c) = true := by
              rw [tkB_N (by omega) (by omega), decide_eq_true ha, decide_eq_true hc, hneg, decide_eq_true hne, decide_eq_true hl]; rfl
            unfold mayI at h
            rw [htk, nI_clamp (by omega), nI_clamp (by omega)] at h
            refine rf_isPlane hG (fun W1 R1 j1 jb j2 => ⟨fun q => absurd q (by decide), fun _ => ?_⟩) fun W1 j1 j2 => ⟨fun _ => ?_, fun q => absurd rfl q⟩
            · have f1 : EqF laF flL W W1 := j2.mono (by decide) (by decide)
              have hG1 := hG.fr j2 (by decide) (by decide) (by decide) (by decide)
              refine rf_could hG1 ha hc hne hneg hl fun W2 _ k1 k2 => ?_
              have := h W2 k1 (f1.tr (k2.mono (by decide) (by decide)))
              rw [j1, if_pos ⟨rfl, rfl⟩] at this
              cases hs : (layG V (es ++ [(min a c, max a c)])).isSome with
              | true => rw [hs] at this; exact ⟨fun z => absurd z (by decide), fun _ => this⟩
              | false => rw [hs] at this; exact ⟨fun _ => this, fun z => absurd rfl z⟩
            · have := h W1 (hG.fr j2 (by decide) (by decide) (by decide) (by decide)) (j2.mono (by decide) (by decide))
              rw [j1, if_neg (fun q => by cases q.2)] at this
              exact this
        · have : adj es a c = true := by
            cases hh : adj es a c with
            | true => rfl
            | false => exact absurd ((rf_eNo_neg hG).mpr hh) hneg
          rw [this]; simp
/-- fill -/
theorem rf_fl_v {u : Nat} {x : Int32} (hu : u < V) : ∀ (n v : Nat) (es : gE) (W : fl_W), V - v = n → u < v → v ≤ V → RfG W V es → PL V es → (∀ W', RfG W' V (flV V u n v es) → PL V (flV V u n v es) → EqF flF flL W W' → hd_176_16 (d + 7) Q x (nI (u + 1)) W') → hd_176_28 (d + 7) Q x (nI u) (nI v) W := by
  intro n
  induction n with
  | zero =>
    intro v es W h1 h2 h3 hG hP h
    have hV := hG.1
    refine sx_176_28 _ _ _ W ⟨fun q => absurd q ?_, fun _ => ?_⟩
    · rw [hG.2.2.2.1]; exact nI_nlt (by omega) (by omega)
    · rw [ci_1, nI_add]; exact h W hG hP EqF.rf
  | succ n ih =>
    intro v es W h1 h2 h3 hG hP h
    have hV := hG.1
    have hv : v < V := by omega
    obtain ⟨hl, hb⟩ := pl_len hV hG.2.2.1 hP
    rw [flV] at h
    have nx : ∀ W1, RfG W1 V (addF V es u v) → PL V (addF V es u v) → EqF flF flL W W1 → hd_176_28 (d + 7) Q x (nI u) (nI v + Int32.ofInt 1) W1 := fun W1 g1 p1 f1 => by
      rw [ci_1, nI_add]
      exact ih (v + 1) _ W1 (by omega) (by omega) (by omega) g1 p1 fun W' m1 m2 m3 => h W' m1 m2 (f1.tr m3)
    have same : addF V es u v = es → ∀ W1, RfG W1 V es → EqF flF flL W W1 → hd_176_28 (d + 7) Q x (nI u) (nI v + Int32.ofInt 1) W1 := fun e W1 g1 f1 => nx W1 (by rw [e]; exact g1) (by rw [e]; exact hP) f1
    refine sx_176_28 _ _ _ W ⟨fun _ => ?_, fun q => absurd ?_ q⟩
    · refine rf_eOf (by omega) (by omega) hG ⟨fun hneg => ?_, fun hneg => ?_⟩
      · rw [rf_eNo_neg hG] at hneg
        refine rf_could hG hu hv (by omega) hneg hl fun W1 k0 k1 k2 => ?_
        have f1 : EqF flF flL W W1 := k2.mono (by decide) (by decide)
        cases hs : (layG V (es ++ [(min u v, max u v)])).isSome with
        | false =>
          refine ⟨fun _ => same ?_ W1 k1 f1, fun z => absurd rfl z⟩
          unfold addF
          rw [hs]
          split
          · rfl
          · rfl
        | true =>
          obtain ⟨R1, hR1⟩ := Option.isSome_iff_exists.mp hs
          have hO1 := okE_add hG.2.2.1 hu hv (by omega) hneg
          have hP1 : PL V (es ++ [(min u v, max u v)]) := ⟨⟨R1, hR1⟩, k0 hs⟩
          have hnf : ¬ (3 ≤ V ∧ es.length + 6 = 3 * V) := fun z => by
            have := (pl_len hV hO1 hP1).2 z.1
            simp at this
            omega
          have he : addF V es u v = es ++ [(min u v, max u v)] := by
            unfold addF
            rw [if_neg (fun z => z.elim (fun q => by rw [hneg] at q; cases q) hnf), if_pos hs]
          refine ⟨fun z => absurd z (by decide), fun _ => rf_put k1 hu hv (by omega) hneg hl fun W2 m1 m2 => nx W2 (by rw [he]; exact m1) (by rw [he]; exact hP1) (f1.tr (m2.mono (by decide) (by decide)))⟩
      · refine same ?_ W hG EqF.rf
        have : adj es u v = true := by
          cases hh : adj es u v with
          | true => rfl
          | false => exact absurd ((rf_eNo_neg hG).mpr hh) hneg
        unfold addF
        rw [if_pos (Or.inl this)]
    · rw [hG.2.2.2.1]; exact nI_lt hv (by omega)
theorem rf_fl_u {m : Nat} {x : Int32} (hx : x = nI m) (hm : m < 60) : ∀ (n u : Nat) (es : gE) (W : fl_W), V - u = n → u ≤ V → m ≤ es.length → RfG W V es → PL V es → (∀ W', RfG W' V (flU V n u es) → PL V (flU V n u es) → ((flU V n u es).length > m → W' 229 9 = 0 ∧ W' 229 11 = 0 ∧ W' 229 15 = 0 ∧ W' 229 17 = 0) → ((flU V n u es).length = m → EqF flF flL W W') → EqF (fgL ++ flF) flL W W' → Q (some (.int (nI ((flU V n u es).length - m)))) W') → hd_176_16 (d + 7) Q x (nI u) W := by
  intro n
  induction n with
  | zero =>
    intro u es W h1 h2 hm2 hG hP h
    have hV := hG.1
    obtain ⟨hl, hb⟩ := pl_len hV hG.2.2.1 hP
    refine sx_176_16 _ _ W ⟨fun q => absurd q ?_, fun _ => ?_⟩
    · rw [hG.2.2.2.1]; exact nI_nlt (by omega) (by omega)
    · rw [hG.2.2.2.2.1, hx]
      rw [flU] at h
      refine ⟨fun z => ?_, fun z => ?_⟩
      · rw [nI_leI (by omega) (by omega)] at z
        rw [nI_subN hm2]
        exact h W hG hP (fun q => by omega) (fun _ => EqF.rf) EqF.rf
      · rw [nI_leI (by omega) (by omega)] at z
        refine rf_forget fun W1 a1 a2 a3 a4 f1 => ?_
        have hG1 := hG.fr f1 (by decide) (by decide) (by decide) (by decide)
        show Q (some (.int (W1 229 1 - nI m))) W1
        rw [hG1.2.2.2.2.1, nI_subN hm2]
        exact h W1 hG1 hP (fun _ => ⟨a1, a2, a3, a4⟩) (fun q => by omega) (f1.mono (by decide) (by decide))
  | succ n ih =>
    intro u es W h1 h2 hm2 hG hP h
    have hV := hG.1
    have hu : u < V := by omega
    refine sx_176_16 _ _ W ⟨fun _ => ?_, fun q => absurd ?_ q⟩
    · rw [ci_1, nI_add]
      refine rf_fl_v hu (V - (u + 1)) (u + 1) es W rfl (by omega) (by omega) hG hP fun W1 g1 p1 f1 => ?_
      refine ih (u + 1) _ W1 (by omega) (by omega) (Nat.le_trans hm2 (flV_len _ _ _)) g1 p1 fun W' m1 m2 m3 m4 m5 => h W' m1 m2 m3 (fun q => f1.tr (m4 q)) ((f1.mono (by decide) (by decide)).tr m5)
    · rw [hG.2.2.2.1]; exact nI_lt hu (by omega)
theorem rf_fill (hG : RfG W V es) (h0 : ∀ W', layG V es = none → EqF laF ipL W W' → Q (some (.int (-1))) W')
    (hy : ∀ W', PL V es → RfG W' V (flU V V 0 es) → PL V (flU V V 0 es) → ((flU V V 0 es).length > es.length → W' 229 9 = 0 ∧ W' 229 11 = 0 ∧ W' 229 15 = 0 ∧ W' 229 17 = 0) → ((flU V V 0 es).length = es.length → EqF flF flL W W') → EqF (fgL ++ flF) flL W W' → Q (some (.int (nI ((flU V V 0 es).length - es.length)))) W') : fl_cal (d + 8) 176 [.ref 229] W Q := by
  have hV := hG.1
  refine sx_176 W (rf_isPlane hG (fun W1 R1 j1 jb j2 => ⟨fun q => absurd q (by decide), fun _ => ?_⟩) fun W1 j1 j2 => ⟨fun _ => h0 W1 j1 j2, fun q => absurd rfl q⟩)
  have hG1 := hG.fr j2 (by decide) (by decide) (by decide) (by decide)
  have hP : PL V es := ⟨⟨R1, j1⟩, jb⟩
  obtain ⟨hl, hb⟩ := pl_len hV hG.2.2.1 hP
  rw [ci_0]
  refine rf_fl_u hG1.2.2.2.2.1 hl V 0 es W1 (by omega) (by omega) (Nat.le_refl _) hG1 hP fun W' m1 m2 m3 m4 m5 => hy W' hP m1 m2 m3 (fun q => (j2.mono (by decide) (by decide)).tr (m4 q)) ((j2.mono (by decide) (by decide)).tr m5)
end RTC
