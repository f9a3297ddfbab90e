/-! ===== Reference: a part laid (whole) ===== -/
theorem bfsRow_one {Ax goal : Nat → Bool} {p : List Nat} {b : Nat} (hg : goal b = true) : ∀ (vs : List Nat) (q : List (List Nat)), b ∉ hds q → (∀ v, v ∈ vs → Ax v = decide (v = b)) → b ∈ vs → bfsRow Ax goal p vs q = .inl (b :: p)
  | [], _, _, _, h => absurd h List.not_mem_nil
  | v :: vs, q, hq, hA, hb => by
    rw [bfsRow, hA v List.mem_cons_self]
    by_cases e : v = b
    · subst e
      simp [hq, hg]
    · rw [decide_eq_false e]
      exact bfsRow_one hg vs q hq (fun w hw => hA w (List.mem_cons_of_mem _ hw)) ((List.mem_cons.mp hb).resolve_left fun z => e z.symm)
theorem wayO_fst {bes dl : gE} {g : Nat × Nat} : (wayO bes dl g).1 = leastN (feet bes dl g) := by
  unfold wayO
  split
  · split <;> rfl
  · rfl
theorem idx_min {a : Nat} : ∀ {l : List Nat} {k : Nat}, l[k]? = some a → l.idxOf a ≤ k
  | [], _, h => by simp at h
  | x :: l, 0, h => by
    simp at h
    rw [h, List.idxOf_cons_self]
    exact Nat.le_refl _
  | x :: l, k + 1, h => by
    rw [List.getElem?_cons_succ] at h
    have := idx_min h
    rw [List.idxOf_cons]
    cases x == a
    · exact Nat.succ_le_succ this
    · exact Nat.zero_le _
theorem way_bfs {V : Nat} {bes dl : gE} {g : Nat × Nat} {a b : Nat} {ws : List Nat} (hw : wayR bes dl g a b ws) (hwo : wayO bes dl g = (a, b, ws)) (hi : anyN (innr bes dl g) = true) : bfsP (clA bes (innr bes dl g) (fun v => feet bes dl g v && decide (v ≠ a)) a) (fun v => feet bes dl g v && decide (v ≠ a)) a = some (b :: (ws ++ [a])) := by
  have ha20 := hw.2.2.2.2.1 a (by simp)
  have hla : leastN (feet bes dl g) = a := by
    have : (wayO bes dl g).1 = a := by rw [hwo]
    rw [← this, wayO_fst]
  have sp := bfsP_spec (A := clA bes (innr bes dl g) (fun v => feet bes dl g v && decide (v ≠ a)) a) (goal := fun v => feet bes dl g v && decide (v ≠ a)) (s := a) ha20 (by simp)
  unfold wayO at hwo
  rw [if_pos hi, hla] at hwo
  cases hb : bfsP (clA bes (innr bes dl g) (fun v => feet bes dl g v && decide (v ≠ a)) a) (fun v => feet bes dl g v && decide (v ≠ a)) a with
  | none =>
    rw [hb] at hwo
    simp only [Prod.mk.injEq] at hwo
    exact absurd hwo.2.1 hw.1
  | some r =>
    rw [hb] at sp hwo
    obtain ⟨c, l, rfl, -⟩ := sp
    simp only [Prod.mk.injEq, List.dropLast_concat] at hwo
    rw [hwo.2.1, hwo.2.2]
section RPE
variable {d : Nat} {Q : fl_R} {W : fl_W} {V : Nat} {es bes : gE} {s : List (List Nat) × gE}
/-- breadth first in a part, as the reference goes -/
theorem way_ref {dl : gE} {g : Nat × Nat} {a b : Nat} {ws : List Nat} (hV : V ≤ 20) (hO : okE V es) (hsl : bes.Sublist es) (hg : g ∈ bes) (hgd : g ∉ dl) (hw : wayR bes dl g a b ws) (hwo : wayO bes dl g = (a, b, ws)) : bfsP (fun x u => adj es u x && (decide ((min u x, max u x) ∈ bes) && prtE bes dl g (min u x, max u x)) && ((feet bes dl g u && decide (u ≠ a)) || (decide (u < V) && !lvO dl u))) (fun v => feet bes dl g v && decide (v ≠ a)) a = some (b :: (ws ++ [a])) := by
  have hOb : okE V bes := okE_sub hO hsl
  have ha20 := hw.2.2.2.2.1 a (by simp)
  have hb20 := hw.2.2.2.2.1 b (by simp)
  have hla := feet_lv hw.2.1
  have hgo := hOb.1 g hg
  have hmm : ∀ u x : Nat, (min u x, max u x) ∈ bes ↔ adj bes x u = true := fun u x => by
    constructor
    · intro z
      rcases Nat.le_total u x with q | q
      · rw [show min u x = u by omega, show max u x = x by omega] at z; exact adj_iff.mpr (Or.inr z)
      · rw [show min u x = x by omega, show max u x = u by omega] at z; exact adj_iff.mpr (Or.inl z)
    · intro z
      rw [adj_sym] at z
      exact adj_te hOb z
  have hes : ∀ u x : Nat, adj bes x u = true → adj es u x = true := fun u x z => by
    rcases adj_iff.mp z with q | q
    · exact adj_iff.mpr (Or.inr (hsl.subset q))
    · exact adj_iff.mpr (Or.inl (hsl.subset q))
  have hincm : ∀ u x : Nat, inc (min u x, max u x) u = true ∧ inc (min u x, max u x) x = true := fun u x => by rw [inc_mm, inc_mm]; simp
  have hprt : ∀ u x : Nat, prtE bes dl g (min u x, max u x) = true ↔ (min u x, max u x) = g ∨ innr bes dl g u = true ∨ innr bes dl g x = true := fun u x => by
    unfold prtE
    rw [Bool.or_eq_true, Bool.or_eq_true, decide_eq_true_eq, or_assoc]
    refine or_congr Iff.rfl ?_
    simp only
    rcases Nat.le_total u x with q | q
    · rw [show min u x = u by omega, show max u x = x by omega]
    · rw [show min u x = x by omega, show max u x = u by omega]; exact or_comm
  have hun : ∀ v, v < 20 → lvO dl v = true → innr bes dl g v = false := fun v hv hl => by
    cases hh : innr bes dl g v with
    | false => rfl
    | true => rw [innr_un hv hh] at hl; cases hl
  by_cases hi : anyN (innr bes dl g) = true
  · rw [← way_bfs (V := V) hw hwo hi]
    have heq : ∀ x v, (x = a ∨ (x < 20 ∧ innr bes dl g x = true)) → v < 20 → v ≠ a → (adj es v x && (decide ((min v x, max v x) ∈ bes) && prtE bes dl g (min v x, max v x)) && ((feet bes dl g v && decide (v ≠ a)) || (decide (v < V) && !lvO dl v))) = clA bes (innr bes dl g) (fun v => feet bes dl g v && decide (v ≠ a)) a x v := by
      intro x v hx hv hva
      rw [Bool.eq_iff_iff, clA]
      simp only [Bool.and_eq_true, Bool.or_eq_true, decide_eq_true_eq, Bool.not_eq_true']
      rw [hprt]
      rcases hx with hx | ⟨hx20, hx⟩
      · rw [hx]
        constructor
        · rintro ⟨⟨a1, a2, a3⟩, a4⟩
          refine ⟨(hmm v a).mp a2, Or.inl ?_⟩
          rcases a3 with z | z | z
          · -- the part's own edge
            have hS : ∃ u, u < 20 ∧ inc g u = true ∧ lvO dl u = false := by
              refine Classical.byContradiction fun hn => ?_
              obtain ⟨u, u1, u2⟩ := anyN_iff.mp hi
              have : innr bes dl g u = false := clo_emp (anyN_no.mpr fun w hw => by
                cases h3 : inc g w with
                | false => rfl
                | true =>
                  cases h4 : lvO dl w with
                  | true => rfl
                  | false => exact absurd ⟨w, hw, h3, h4⟩ hn) 20 u u1
              rw [this] at u2; cases u2
            obtain ⟨u, u1, u2, u3⟩ := hS
            rw [← z, inc_mm, Bool.or_eq_true, decide_eq_true_eq, decide_eq_true_eq] at u2
            rcases u2 with e | e
            · rw [e] at u3
              refine innr_end ?_ u3
              rw [← z]; exact (hincm v a).1
            · rw [e, hla] at u3; cases u3
          · exact z
          · rw [hun a ha20 hla] at z; cases z
        · rintro ⟨a1, a2⟩
          have a2 : innr bes dl g v = true := a2.resolve_right fun z => z.1 rfl
          have hvV := (adj_lt hOb a1).2.1
          exact ⟨⟨hes v a a1, (hmm v a).mpr a1, Or.inr (Or.inl a2)⟩, Or.inr ⟨hvV, innr_un hv a2⟩⟩
      · have hxa : x ≠ a := fun e => by rw [e, hun a ha20 hla] at hx; cases hx
        constructor
        · rintro ⟨⟨a1, a2, -⟩, a4⟩
          have a2' := (hmm v x).mp a2
          refine ⟨a2', ?_⟩
          rcases a4 with z | z
          · exact Or.inr ⟨hxa, z⟩
          · exact Or.inl (innr_cld x v hx20 hv hx a2' z.2)
        · rintro ⟨a1, a2⟩
          have hvV := (adj_lt hOb a1).2.1
          refine ⟨⟨hes v x a1, (hmm v x).mpr a1, Or.inr (Or.inr hx)⟩, ?_⟩
          rcases a2 with z | z
          · exact Or.inr ⟨hvV, innr_un hv z⟩
          · exact Or.inl z.2
    refine bfsP_congr (fun x => x = a ∨ (x < 20 ∧ innr bes dl g x = true)) (Or.inl rfl) (fun x v hx hva h1 h2 => ?_) fun x v hx hv hva => heq x v hx hv hva
    have hv20 : v < 20 := by
      simp only [Bool.and_eq_true] at h1
      have := (adj_lt hO h1.1.1).1
      omega
    rw [heq x v hx hv20 hva, clA] at h1
    simp only [h2, Bool.and_false, Bool.or_false, Bool.and_eq_true] at h1
    exact Or.inr ⟨hv20, h1.2⟩
  · have hi0 := anyN_no.mp (by simpa using hi)
    have hws : ws = [] ∧ (min b a, max b a) = g := by
      have hwo' := hwo
      unfold wayO at hwo'
      rw [if_neg hi] at hwo'
      simp only [Prod.mk.injEq] at hwo'
      have hfi : ∀ v, feet bes dl g v = true → inc g v = true := fun v h => by
        rw [feet, Bool.and_eq_true, Bool.or_eq_true] at h
        rcases h.2 with q | q
        · exact q
        · obtain ⟨u, u1, u2⟩ := anyN_iff.mp q
          rw [hi0 u u1] at u2; cases u2
      refine ⟨hwo'.2.2.symm, ?_⟩
      have ia := inc_iff.mp (hfi a hw.2.1)
      have ib := inc_iff.mp (hfi b hw.2.2.1)
      have hab := hw.1
      refine Prod.ext ?_ ?_ <;> simp only <;> omega
    rw [hws.1, List.nil_append]
    have hgs : (feet bes dl g b && decide (b ≠ a)) = true := by rw [hw.2.2.1, decide_eq_true (Ne.symm hw.1)]; rfl
    have hAa : ∀ v, v ∈ List.range 20 → (adj es v a && (decide ((min v a, max v a) ∈ bes) && prtE bes dl g (min v a, max v a)) && ((feet bes dl g v && decide (v ≠ a)) || (decide (v < V) && !lvO dl v))) = decide (v = b) := fun v hv => by
      have hv20 := List.mem_range.mp hv
      rw [Bool.eq_iff_iff]
      simp only [Bool.and_eq_true, decide_eq_true_eq]
      rw [hprt]
      constructor
      · rintro ⟨⟨a1, a2, a3⟩, a4⟩
        have e : (min v a, max v a) = g := a3.resolve_right fun z => by
          rcases z with z | z
          · rw [hi0 v hv20] at z; cases z
          · rw [hi0 a ha20] at z; cases z
        rw [← hws.2, Prod.mk.injEq] at e
        have := hw.1
        omega
      · intro e
        rw [e, hws.2]
        exact ⟨⟨hes b a ((hmm b a).mp (by rw [hws.2]; exact hg)), hg, Or.inl rfl⟩, by rw [hgs]; rfl⟩
    unfold bfsP
    rw [bfs]
    show (match bfsRow (fun u => adj es u a && (decide ((min u a, max u a) ∈ bes) && prtE bes dl g (min u a, max u a)) && ((feet bes dl g u && decide (u ≠ a)) || (decide (u < V) && !lvO dl u))) (fun v => feet bes dl g v && decide (v ≠ a)) [a] (List.range 20) [[a]] with | .inl r => some r | .inr q' => _) = _
    rw [bfsRow_one (b := b) hgs (List.range 20) [[a]] (by simp [hds]; exact Ne.symm hw.1) hAa (List.mem_range.mpr hb20)]
/-- the way behind the second arc -/
theorem rf_lp_325 {ri a b0 : Nat} {wr : List Nat} (hri : ri < 60) (hwl : wr.length ≤ 19) : ∀ (n j : Nat) (l : List Nat) (W : fl_W), wr.length - j = n → j ≤ wr.length → l.length + (wr.length - j) ≤ 20 → W 229 35 = nI wr.length → W 229 26 = nI ri → (∀ i x, wr[i]? = some x → W 252 i = nI x) → RW W ri l →
    (∀ W', RW W' ri (l ++ wr.drop j) → (∀ i k, i ≠ ri → k < 20 → W' 246 (20 * i + k) = W 246 (20 * i + k)) → EqF [] [246] W W' → ∀ W12 : fl_W, W12 = fl_uw W' 247 ri (nI (l ++ wr.drop j).length) → ∀ W13 : fl_W, W13 = fl_uw W12 229 26 (nI (ri + 1)) → fl_cal d 151 [.ref 229, .int (nI a), .int (nI b0)] W13 (fl_q0 fun W14 => Q none W14)) → hd_150_325 d Q (nI a) (nI b0) (nI l.length) (nI j) W := by
  intro n
  induction n with
  | zero =>
    intro j l W h1 h2 hl h35 h26 h252 hW h
    refine sx_150_325 _ _ _ _ W ⟨fun z => absurd z ?_, fun _ => ?_⟩
    · rw [h35]; exact nI_nlt (by omega) (by omega)
    · rw [List.drop_eq_nil_of_le (by omega), List.append_nil] at h
      rw [h26]
      refine ⟨in_N hri (by omega), fun W12 e12 W13 e13 => ?_⟩
      rw [nI_clamp (by omega)] at e12
      have e26 : W12 229 26 = nI ri := by rw [e12, uw_n (by decide)]; exact h26
      rw [e26, ci_1, nI_add] at e13
      exact h W hW (fun _ _ _ _ => rfl) EqF.rf W12 e12 W13 e13
  | succ n ih =>
    intro j l W h1 h2 hl h35 h26 h252 hW h
    have hj : j < wr.length := by omega
    have hp := List.getElem?_eq_getElem hj
    refine sx_150_325 _ _ _ _ W ⟨fun _ => ⟨in_N (by omega) (by omega), ?_⟩, fun z => absurd ?_ z⟩
    · rw [h26, cb_20, nI_mul, nI_add, nI_clamp (by omega), nI_clamp (by omega), h252 j _ hp]
      refine ⟨in_N (by omega) (by omega), fun W15 e15 => ?_⟩
      have f15 : EqF [] [246] W W15 := by rw [e15]; exact EqF.uwA (by simp) (by decide)
      rw [ci_1, nI_add, nI_add]
      have := ih (j + 1) (l ++ [wr[j]]) W15 (by omega) (by omega) (by simp; omega) (by rw [f15.2 35 (by decide)]; exact h35) (by rw [f15.2 26 (by decide)]; exact h26) (fun i x hi => by rw [f15.1 252 (by decide) (by decide)]; exact h252 i x hi) (hW.add e15) fun W' k1 k2 k3 W12 e12 W13 e13 => ?_
      · rw [List.length_append, List.length_singleton] at this
        exact this
      · rw [List.append_assoc, List.singleton_append, ← List.drop_eq_getElem_cons hj] at k1 e12
        exact h W' k1 (fun i k hi hk => by rw [k2 i k hi hk, e15, uw_m (by omega)]) (f15.tr k3) W12 e12 W13 e13
    · rw [h35]; exact nI_lt hj (by omega)
theorem rf_lp_81 {ri n : Nat} {R : List Nat} {v3 v4 : Int32} (hn : n = R.length) (hn20 : n ≤ 20) (hri : ri < 60) : ∀ (m k : Nat) (W : fl_W), n - k = m → k ≤ n → (∀ j x, R[j]? = some x → W 246 (20 * ri + j) = nI x) → (∀ j x, j < k → R[j]? = some x → W 253 j = nI x) →
    (∀ W', (∀ j x, R[j]? = some x → W' 253 j = nI x) → EqF [] [253] W W' → hd_150_116 d Q (nI ri) v3 v4 (nI n) (nI 0) W') → hd_150_81 d Q (nI ri) v3 v4 (nI n) (nI k) W := by
  intro m
  induction m with
  | zero =>
    intro k W h1 h2 h246 h253 h
    refine sx_150_81 _ _ _ _ _ W ⟨fun z => absurd z (nI_nlt (by omega) (by omega)), fun _ => h W (fun j x hj => h253 j x ?_ hj) EqF.rf⟩
    have := (List.getElem?_eq_some_iff.mp hj).1
    omega
  | succ m ih =>
    intro k W h1 h2 h246 h253 h
    have hk : k < R.length := by omega
    have hp := List.getElem?_eq_getElem hk
    refine sx_150_81 _ _ _ _ _ W ⟨fun _ => ?_, fun z => absurd (nI_lt (by omega) (by omega)) z⟩
    rw [cb_20, nI_mul, nI_add, nI_clamp (by omega), nI_clamp (by omega), h246 k _ hp]
    refine ⟨in_N (by omega) (by omega), in_N (by omega) (by omega), fun W5 e5 => ?_⟩
    have f5 : EqF [] [253] W W5 := by rw [e5]; exact EqF.uwA (by simp) (by decide)
    rw [ci_1, nI_add]
    refine ih (k + 1) W5 (by omega) (by omega) (fun j x hj => by rw [f5.1 246 (by decide) (by decide)]; exact h246 j x hj) (fun j x hj hjx => ?_) fun W' k1 k2 => h W' k1 (f5.tr k2)
    rw [e5]
    by_cases e : j = k
    · subst e; rw [uw_s]; rw [hp] at hjx; cases hjx; rfl
    · rw [uw_m e]; exact h253 j x (by omega) hjx
theorem rf_lp_116 {ri n a : Nat} {R : List Nat} {v4 : Int32} (hn20 : R.length ≤ 20) (hR20 : ∀ x ∈ R, x < 20) (ha20 : a < 20) (ha : a ∈ R) (h253 : ∀ j x, R[j]? = some x → W 253 j = nI x) (h : hd_150_140 d Q (nI ri) (nI a) v4 (nI n) (nI 0) (nI (R.idxOf a)) W) : ∀ (m k : Nat), R.idxOf a - k = m → k ≤ R.idxOf a → hd_150_116 d Q (nI ri) (nI a) v4 (nI n) (nI k) W := by
  have hl := List.idxOf_lt_length_of_mem ha
  intro m
  induction m with
  | zero =>
    intro k h1 h2
    have hk : k = R.idxOf a := by omega
    refine sx_150_116 _ _ _ _ _ W ⟨in_N (by omega) (by omega), ?_⟩
    rw [nI_clamp (by omega), h253 k a (by rw [hk]; exact idx_at ha)]
    exact ⟨fun _ => by rw [ci_0, hk]; exact h, fun z => absurd rfl z⟩
  | succ m ih =>
    intro k h1 h2
    have hk : k < R.length := by omega
    have hp := List.getElem?_eq_getElem hk
    have hne : R[k] ≠ a := fun e => by
      rw [e] at hp
      have := idx_min hp
      omega
    have hx := hR20 _ (List.getElem_mem hk)
    refine sx_150_116 _ _ _ _ _ W ⟨in_N (by omega) (by omega), ?_⟩
    rw [nI_clamp (by omega), h253 k _ hp]
    refine ⟨fun z => absurd ((nI_eq (by omega) (by omega)).mp z) hne, fun _ => ?_⟩
    rw [ci_1, nI_add]
    exact ih (k + 1) (by omega) (by omega)
end RPE
