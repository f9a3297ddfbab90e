/-! ===== the reference: its graph ===== -/
/-- nothing has changed but the fields fs of the reference and the arrays of l -/
def EqF (fs l : List Nat) (W W' : fl_W) : Prop := (∀ a, a ≠ 229 → a ∉ l → W' a = W a) ∧ ∀ k, k ∉ fs → W' 229 k = W 229 k
theorem EqF.rf {fs l : List Nat} {W : fl_W} : EqF fs l W W := ⟨fun _ _ _ => rfl, fun _ _ => rfl⟩
theorem EqF.tr {fs l : List Nat} {W W' W'' : fl_W} (h1 : EqF fs l W W') (h2 : EqF fs l W' W'') : EqF fs l W W'' := ⟨fun a h3 h4 => (h2.1 a h3 h4).trans (h1.1 a h3 h4), fun k hk => (h2.2 k hk).trans (h1.2 k hk)⟩
theorem EqF.mono {fs l fs' l' : List Nat} {W W' : fl_W} (h : EqF fs l W W') (h1 : ∀ a ∈ fs, a ∈ fs') (h2 : ∀ a ∈ l, a ∈ l') : EqF fs' l' W W' := ⟨fun a h3 h4 => h.1 a h3 fun z => h4 (h2 a z), fun k hk => h.2 k fun z => hk (h1 k z)⟩
theorem EqF.uwF {fs l : List Nat} {W : fl_W} {j : Nat} {x : Int32} (hj : j ∈ fs) : EqF fs l W (fl_uw W 229 j x) := ⟨fun a h1 _ => uw_n h1, fun k hk => uw_m fun e => hk (e ▸ hj)⟩
theorem EqF.uwA {fs l : List Nat} {W : fl_W} {a j : Nat} {x : Int32} (ha : a ∈ l) (h9 : a ≠ 229) : EqF fs l W (fl_uw W a j x) := ⟨fun b _ h2 => uw_n fun e => h2 (e ▸ ha), fun k _ => by rw [uw_n (Ne.symm h9)]⟩
def RfG (W : fl_W) (V : Nat) (es : gE) : Prop := V ≤ 20 ∧ es.length ≤ 60 ∧ okE V es ∧ W 229 0 = nI V ∧ W 229 1 = nI es.length ∧ ∀ i p, es[i]? = some p → W 230 i = nI p.1 ∧ W 231 i = nI p.2
theorem RfG.fr {W W' : fl_W} {V : Nat} {es : gE} {fs l : List Nat} (h : RfG W V es) (hE : EqF fs l W W') (h0 : 0 ∉ fs) (h1 : 1 ∉ fs) (h2 : 230 ∉ l) (h3 : 231 ∉ l) : RfG W' V es := by
  obtain ⟨a1, a2, a3, a4, a5, a6⟩ := h
  refine ⟨a1, a2, a3, by rw [hE.2 0 h0]; exact a4, by rw [hE.2 1 h1]; exact a5, fun i p hp => ?_⟩
  rw [hE.1 230 (by decide) h2, hE.1 231 (by decide) h3]
  exact a6 i p hp
section REF1
variable {d : Nat} {Q : fl_R} {W : fl_W} {V : Nat} {es : gE}
theorem rf_isIn {v a c : Int32} (h : Q (some (.int (if decide (a.toInt ≤ v.toInt) && decide (v.toInt ≤ c.toInt) then 1 else 0))) W) : fl_cal (d + 1) 124 [.int v, .int a, .int c] W Q := by
  refine sx_124 v a c W ⟨fun q => ?_, fun q => ⟨fun q2 => ?_, fun q2 => ?_⟩⟩
  · rw [i_lt] at q
    rw [decide_eq_false (by omega)] at h; exact h
  · rw [i_lt] at q
    rw [i_le] at q2
    rw [decide_eq_true (by omega), decide_eq_true q2] at h; exact h
  · rw [i_le] at q2
    rw [decide_eq_false (p := v.toInt ≤ c.toInt) q2, Bool.and_false] at h; exact h
theorem nI_m1 {n : Nat} (hn : n ≤ 1000) : (nI n - nI 1).toInt = (n : Int) - 1 := by
  cases n with
  | zero => rfl
  | succ n => rw [show nI 1 = 1 from rfl, nI_pred, nI_toInt (by omega)]; omega
theorem rf_ix {v : Int32} {n : Nat} (hn : n ≤ 1000) : (decide ((nI 0).toInt ≤ v.toInt) && decide (v.toInt ≤ (nI n - nI 1).toInt)) = ixB v n := by
  rw [nI_m1 hn, show (nI 0).toInt = 0 from rfl, ixB]
  congr 1
  rw [Bool.eq_iff_iff, decide_eq_true_iff, decide_eq_true_iff]
  omega
theorem rf_inN {v : Int32} {n : Nat} (hn : n ≤ 1000) (h : Q (some (.int (if ixB v n then 1 else 0))) W) : fl_cal (d + 1) 124 [.int v, .int (nI 0), .int (nI n - nI 1)] W Q := rf_isIn (by rw [rf_ix hn]; exact h)
theorem rf_isV {v : Int32} (hG : RfG W V es) (h : Q (some (.int (if ixB v V then 1 else 0))) W) : fl_cal (d + 2) 125 [.ref 229, .int v] W Q := by
  refine sx_125 v W ?_
  rw [hG.2.2.2.1]
  refine rf_inN (by have := hG.1; omega) ⟨?_, h⟩
  cases ixB v V
  · exact Or.inl rfl
  · exact Or.inr rfl
def fgL : List Nat := [9, 11, 15, 17]
theorem rf_forget (h : ∀ W', W' 229 9 = 0 → W' 229 11 = 0 → W' 229 15 = 0 → W' 229 17 = 0 → EqF fgL [] W W' → Q none W') : fl_cal (d + 1) 126 [.ref 229] W Q := by
  refine sx_126 W fun W1 e1 W2 e2 W3 e3 W4 e4 => ?_
  subst e1; subst e2; subst e3; subst e4
  refine h _ ?_ ?_ ?_ ?_ ((((EqF.uwF (by simp [fgL])).tr (EqF.uwF (by simp [fgL]))).tr (EqF.uwF (by simp [fgL]))).tr (EqF.uwF (by simp [fgL])))
  · rw [uw_m (by decide), uw_m (by decide), uw_m (by decide), uw_s]; rfl
  · rw [uw_m (by decide), uw_m (by decide), uw_s]; rfl
  · rw [uw_m (by decide), uw_s]; rfl
  · rw [uw_s]; rfl
theorem rf_graphNo {n : Int32} (hn : ixB n 21 = false) (h : Q (some (.int 0)) W) : fl_cal (d + 2) 127 [.ref 229, .int n] W Q := by
  refine sx_127 n W ?_
  have e : (Int8.ofInt 20).toInt32 = nI 21 - nI 1 := rfl
  rw [e]
  refine rf_inN (n := 21) (by omega) ?_
  rw [hn]
  exact ⟨fun _ => h, fun q => absurd rfl q⟩
theorem rf_graph {n : Nat} (hn : n ≤ 20) (h : ∀ W', RfG W' n [] → W' 229 9 = 0 → W' 229 11 = 0 → W' 229 15 = 0 → W' 229 17 = 0 → EqF (0 :: 1 :: fgL) [] W W' → Q (some (.int 1)) W') : fl_cal (d + 2) 127 [.ref 229, .int (nI n)] W Q := by
  refine sx_127 _ W ?_
  have e : (Int8.ofInt 20).toInt32 = nI 21 - nI 1 := rfl
  rw [e]
  refine rf_inN (n := 21) (by omega) ?_
  rw [ixB_N (by omega), decide_eq_true (by omega)]
  refine ⟨fun q => absurd q (by decide), fun _ W2 e2 W3 e3 => rf_forget fun W4 a1 a2 a3 a4 f4 => ?_⟩
  have f : EqF (0 :: 1 :: fgL) [] W W3 := by rw [e3, e2]; exact (EqF.uwF (by simp)).tr (EqF.uwF (by simp))
  refine h W4 ⟨hn, by simp, ⟨fun p hp => by simp at hp, List.nodup_nil⟩, ?_, ?_, fun i p hp => by simp at hp⟩ a1 a2 a3 a4 (f.tr (f4.mono (by decide) (by simp)))
  · rw [f4.2 0 (by decide), e3, uw_m (by decide), e2, uw_s]
  · rw [f4.2 1 (by decide), e3, uw_s]; rfl
/-- the number of an edge, told from i on -/
def eIx (a c : Nat) : gE → Nat → Option Nat
  | [], _ => none
  | p :: l, i => if p.1 = a ∧ p.2 = c then some i else eIx a c l (i + 1)
theorem rf_eOf_l {a c : Nat} (ha : a < 20) (hc : c < 20) (hG : RfG W V es) : ∀ (n i : Nat), es.length - i = n → i ≤ es.length → Q (some (.int (optI (eIx a c (es.drop i) i)))) W → hd_128_26 d Q (nI a) (nI c) (nI i) W := by
  have hE := hG.2.1
  have hV := hG.1
  intro n
  induction n with
  | zero =>
    intro i h1 h2 h
    refine sx_128_26 _ _ _ W ⟨fun q => absurd q ?_, fun _ => ?_⟩
    · rw [hG.2.2.2.2.1]; exact nI_nlt (by omega) (by omega)
    · rw [List.drop_eq_nil_of_le (by omega)] at h; exact h
  | succ n ih =>
    intro i h1 h2 h
    have hi : i < es.length := by omega
    have hp := List.getElem?_eq_getElem hi
    have hpp := hG.2.2.1.1 _ (List.mem_of_getElem? hp)
    obtain ⟨c1, c2⟩ := hG.2.2.2.2.2 i _ hp
    rw [List.drop_eq_getElem_cons hi, eIx] at h
    have nxt : ¬ (es[i].1 = a ∧ es[i].2 = c) → hd_128_26 d Q (nI a) (nI c) (nI i + Int32.ofInt 1) W := fun z => by
      rw [if_neg z] at h
      rw [ci_1, nI_add]
      exact ih (i + 1) (by omega) (by omega) h
    refine sx_128_26 _ _ _ W ⟨fun _ => ⟨in_N (by omega) (by omega), ?_⟩, fun q => absurd ?_ q⟩
    · rw [nI_clamp (by omega), c1, c2]
      refine ⟨fun e1 => ⟨in_N (by omega) (by omega), ⟨fun e2 => ?_, fun e2 => nxt fun z => e2 (by rw [z.2])⟩⟩, fun e1 => nxt fun z => e1 (by rw [z.1])⟩
      rw [nI_eq (by omega) (by omega)] at e1 e2
      rw [if_pos ⟨e1, e2⟩] at h
      exact h
    · rw [hG.2.2.2.2.1]; exact nI_lt hi (by omega)
/-- the number of the edge between u and v -/
def eNo (es : gE) (u v : Nat) : Option Nat := eIx (min u v) (max u v) es 0
theorem rf_eOf {u v : Nat} (hu : u < 20) (hv : v < 20) (hG : RfG W V es) (h : Q (some (.int (optI (eNo es u v)))) W) : fl_cal (d + 1) 128 [.ref 229, .int (nI u), .int (nI v)] W Q := by
  have go := rf_eOf_l (d := d) (Q := Q) (a := min u v) (c := max u v) (by omega) (by omega) hG es.length 0 (by simp) (Nat.zero_le _) h
  refine sx_128 _ _ W ⟨fun q => ⟨fun _ => ?_, fun q2 => absurd q q2⟩, fun q => ⟨fun q2 => absurd q2 q, fun _ => ?_⟩⟩
  · rw [nI_ltI (by omega) (by omega)] at q
    rwa [Nat.min_eq_left (by omega), Nat.max_eq_right (by omega)] at go
  · rw [nI_ltI (by omega) (by omega)] at q
    rwa [Nat.min_eq_right (by omega), Nat.max_eq_left (by omega)] at go
theorem eIx_some {a c : Nat} : ∀ {es : gE} {i k : Nat}, eIx a c es i = some k → i ≤ k ∧ es[k - i]? = some (a, c)
  | [], i, k, h => by cases h
  | p :: l, i, k, h => by
    rw [eIx] at h
    split at h
    · cases h
      rename_i z
      refine ⟨Nat.le_refl _, ?_⟩
      rw [Nat.sub_self]
      show some p = _
      rw [← z.1, ← z.2]
    · obtain ⟨h1, h2⟩ := eIx_some h
      refine ⟨by omega, ?_⟩
      rw [show k - i = (k - (i + 1)) + 1 by omega, List.getElem?_cons_succ]
      exact h2
theorem eIx_none {a c : Nat} : ∀ {es : gE} {i : Nat}, eIx a c es i = none → (a, c) ∉ es
  | [], i, h => List.not_mem_nil
  | p :: l, i, h => by
    rw [eIx] at h
    split at h
    · cases h
    · rename_i z
      intro hm
      rcases List.mem_cons.mp hm with e | e
      · exact z (by rw [← e]; exact ⟨rfl, rfl⟩)
      · exact eIx_none h e
theorem eNo_adj {u v : Nat} (hO : okE V es) : (eNo es u v).isSome = adj es u v := by
  rw [Bool.eq_iff_iff, adj_iff]
  cases h : eNo es u v with
  | none =>
    have h1 := eIx_none h
    simp only [Option.isSome_none, Bool.false_eq_true, false_iff, not_or]
    constructor
    · intro z
      have := hO.1 _ z
      simp only at this
      rw [Nat.min_eq_left (by omega), Nat.max_eq_right (by omega)] at h1
      exact h1 z
    · intro z
      have := hO.1 _ z
      simp only at this
      rw [Nat.min_eq_right (by omega), Nat.max_eq_left (by omega)] at h1
      exact h1 z
  | some k =>
    have h1 := List.mem_of_getElem? (eIx_some h).2
    simp only [Option.isSome_some, true_iff]
    rcases Nat.lt_or_ge u v with q | q
    · rw [Nat.min_eq_left (by omega), Nat.max_eq_right (by omega)] at h1
      exact Or.inl h1
    · rw [Nat.min_eq_right (by omega), Nat.max_eq_left (by omega)] at h1
      exact Or.inr h1
theorem eNo_at {u v k : Nat} (h : eNo es u v = some k) : es[k]? = some (min u v, max u v) := by
  have := (eIx_some h).2
  rwa [Nat.sub_zero] at this
theorem eNo_of {i : Nat} {p : Nat × Nat} (hO : okE V es) (hp : es[i]? = some p) : eNo es p.1 p.2 = some i := by
  have hm := hO.1 p (List.mem_of_getElem? hp)
  have h1 := eNo_adj (u := p.1) (v := p.2) hO
  rw [adj_iff.mpr (Or.inl (List.mem_of_getElem? hp))] at h1
  obtain ⟨k, hk⟩ := Option.isSome_iff_exists.mp h1
  have h2 := eNo_at hk
  rw [Nat.min_eq_left (by omega), Nat.max_eq_right (by omega)] at h2
  have hl1 := (List.getElem?_eq_some_iff.mp hp).1
  rw [hk]
  congr 1
  exact ((List.getElem?_inj hl1 hO.2).mp (hp.trans h2.symm)).symm
theorem eNo_sym {u v : Nat} : eNo es u v = eNo es v u := by rw [eNo, eNo, Nat.min_comm, Nat.max_comm]
end REF1
