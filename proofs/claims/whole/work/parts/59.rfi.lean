/-! ===== Reference: edges of a block, ways found ===== -/
/-- the edges bes are those that are here -/
def HR (W : fl_W) (es bes : gE) : Prop := ∀ j g, es[j]? = some g → (g ∈ bes ↔ (W 232 j ≠ 0 ∧ W 233 j = W 229 29))
theorem HR.fr {W W' : fl_W} {es bes : gE} {fs l : List Nat} (h : HR W es bes) (hE : EqF fs l W W') (h0 : 29 ∉ fs) (h2 : 232 ∉ l) (h3 : 233 ∉ l) : HR W' es bes := fun j g hj => by
  rw [hE.1 232 (by decide) h2, hE.1 233 (by decide) h3, hE.2 29 h0]; exact h j g hj
theorem bfsRow_ext {Ax goal : Nat → Bool} {p ws : List Nat} (hw : ∀ w ∈ ws, Ax w = false) : ∀ (vs : List Nat) (q : List (List Nat)), bfsRow Ax goal p (vs ++ ws) q = bfsRow Ax goal p vs q
  | [], q => by
    rw [List.nil_append]
    induction ws with
    | nil => rfl
    | cons w ws ih =>
      have := ih fun v hv => hw v (List.mem_cons_of_mem _ hv)
      show (if Ax w && !(hds q).contains w then _ else _) = _
      rw [hw w List.mem_cons_self]
      exact this
  | v :: vs, q => by
    rw [List.cons_append, bfsRow, bfsRow, bfsRow_ext hw vs q, bfsRow_ext hw vs (q ++ [v :: p])]
theorem bfsRow_congr {Ax Ax' goal : Nat → Bool} {p : List Nat} {s : Nat} : ∀ (vs : List Nat) (q : List (List Nat)), s ∈ hds q → (∀ v, v ∈ vs → v ≠ s → Ax v = Ax' v) → bfsRow Ax goal p vs q = bfsRow Ax' goal p vs q
  | [], q, _, _ => rfl
  | v :: vs, q, hs, h => by
    have ih1 := bfsRow_congr (goal := goal) (p := p) vs q hs fun w hw => h w (List.mem_cons_of_mem _ hw)
    have ih2 := bfsRow_congr (goal := goal) (p := p) vs (q ++ [v :: p]) (by rw [hds_app]; exact List.mem_append_left _ hs) fun w hw => h w (List.mem_cons_of_mem _ hw)
    rw [bfsRow, bfsRow, ih1, ih2]
    by_cases e : v = s
    · have : (hds q).contains v = true := by rw [e]; simpa using hs
      rw [this]
      simp
    · rw [h v List.mem_cons_self e]
theorem bfs_congr {A A' : Nat → Nat → Bool} {goal : Nat → Bool} {s : Nat} (S : Nat → Prop) (hs : S s) (hcl : ∀ x v, S x → v ≠ s → A x v = true → goal v = false → S v) (heq : ∀ x v, S x → v < 20 → v ≠ s → A x v = A' x v) : ∀ (f k : Nat) (q : List (List Nat)), s ∈ hds q → (∀ x ∈ hds q, S x) → bfs A goal f k q = bfs A' goal f k q
  | 0, _, _, _, _ => rfl
  | f + 1, k, q, hsq, hq => by
    rw [bfs, bfs]
    cases hp : q[k]? with
    | none => rfl
    | some p =>
      have hx : S (p.headD 0) := hq _ (List.mem_map.mpr ⟨p, List.mem_of_getElem? hp, rfl⟩)
      have e := bfsRow_congr (Ax := A (p.headD 0)) (Ax' := A' (p.headD 0)) (goal := goal) (p := p) (List.range 20) q hsq fun v hv hne => heq _ v hx (List.mem_range.mp hv) hne
      show (match bfsRow (A (p.headD 0)) goal p (List.range 20) q with | .inl r => some r | .inr q' => bfs A goal f (k + 1) q') = (match bfsRow (A' (p.headD 0)) goal p (List.range 20) q with | .inl r => some r | .inr q' => bfs A' goal f (k + 1) q')
      cases hr : bfsRow (A (p.headD 0)) goal p (List.range 20) q with
      | inl r => rw [hr] at e; rw [← e]
      | inr q' =>
        rw [hr] at e
        rw [← e]
        have hm := bRow_mem hr
        refine bfs_congr S hs hcl heq f (k + 1) q' ?_ fun x hx' => ?_
        · -- what was there stays
          have mono : ∀ (vs : List Nat) (q q' : List (List Nat)), bfsRow (A (p.headD 0)) goal p vs q = .inr q' → s ∈ hds q → s ∈ hds q' := by
            intro vs
            induction vs with
            | nil => intro q q' h hs; cases h; exact hs
            | cons v vs ih =>
              intro q q' h hs
              rw [bfsRow] at h
              split at h
              · split at h
                · cases h
                · exact ih _ _ h (by rw [hds_app]; exact List.mem_append_left _ hs)
              · exact ih _ _ h hs
          exact mono _ _ _ hr hsq
        · rcases hm x hx' with z | z
          · exact hq x z
          · by_cases e : x = s
            · rw [e]; exact hs
            · exact hcl _ x hx e z.1 z.2
theorem bfsP_congr {A A' : Nat → Nat → Bool} {goal : Nat → Bool} {s : Nat} (S : Nat → Prop) (hs : S s) (hcl : ∀ x v, S x → v ≠ s → A x v = true → goal v = false → S v) (heq : ∀ x v, S x → v < 20 → v ≠ s → A x v = A' x v) : bfsP A goal s = bfsP A' goal s :=
  bfs_congr S hs hcl heq 21 0 [[s]] (by simp [hds]) fun x hx => by simp [hds] at hx; rw [hx]; exact hs
section RFI
variable {d : Nat} {Q : fl_R} {W : fl_W} {V : Nat} {es bes : gE}
theorem rf_here {j : Nat} {g : Nat × Nat} (hj : es[j]? = some g) (hl : es.length ≤ 60) (hH : HR W es bes) (h : Q (some (.int (if g ∈ bes then 1 else 0))) W) : fl_cal (d + 1) 139 [.ref 229, .int (nI j)] W Q := by
  have hjl := (List.getElem?_eq_some_iff.mp hj).1
  have hh := hH j g hj
  refine sx_139 _ W ⟨in_N (by omega) (by omega), ?_⟩
  rw [nI_clamp (by omega)]
  refine ⟨fun z => ?_, fun z => ⟨in_N (by omega) (by omega), fun z2 => ?_, fun z2 => ?_⟩⟩
  · rw [if_neg (fun w => (hh.mp w).1 z)] at h; exact h
  · rw [if_pos (hh.mpr ⟨z, z2⟩)] at h; exact h
  · rw [if_neg (fun w => z2 (hh.mp w).2)] at h; exact h
/-- what find keeps -/
def FI (W : fl_W) (V : Nat) (es bes : gE) (q : List (List Nat)) : Prop := RfG W V es ∧ HR W es bes ∧ (∀ j x, (hds q)[j]? = some x → W 244 j = nI x) ∧ ∀ p ∈ q, chn (W 251) p
theorem rf_find_i {s k x : Nat} {p : List Nat} {A : Nat → Nat → Bool} {gs th : Nat → Bool} {okP : Nat × Nat → Bool} {goals thr part wo : Int32} {P249 : Nat → Int32} (hgs : BT goals gs) (hth : BT thr th) (hpx : p.headD 0 = x) (hx20 : x < 20) (hk20 : k < 20)
    (hok : ∀ j g, es[j]? = some g → (okP g = true ↔ (nI j ≠ wo ∧ g ∈ bes ∧ (part = -1 ∨ P249 j = part)))) (hA : ∀ u, u < 20 → A x u = (adj es u x && okP (min u x, max u x) && (gs u || th u))) :
    ∀ (n i : Nat) (W : fl_W) (q : List (List Nat)) (seen : Int32), V - i = n → i ≤ V → bInv A gs s q → q[k]? = some p → FI W V es bes q → W 249 = P249 → BS seen (fun v => (hds q).contains v) →
      (∀ W' q' seen', bfsRow (A x) gs p ((List.range V).drop i) q = .inr q' → bInv A gs s q' → FI W' V es bes q' → W' 249 = P249 → BS seen' (fun v => (hds q').contains v) → EqF [] [244, 251] W W' → hd_142_18 (d + 1) Q goals thr part wo seen' (nI q'.length) (nI (k + 1)) W') →
      (∀ W' g, bfsRow (A x) gs p ((List.range V).drop i) q = .inl (g :: p) → g < 20 → chn (W' 251) (g :: p) → EqF [] [244, 251] W W' → Q (some (.int (nI g))) W') →
      hd_142_37 (d + 1) Q goals thr part wo seen (nI q.length) (nI k) (nI x) (nI i) W := by
  intro n
  induction n with
  | zero =>
    intro i W q seen a1 a2 hI hp hF h249 hse h1 h2
    have hV := hF.1.1
    refine sx_142_37 _ _ _ _ _ _ _ _ _ W ⟨fun z => absurd z ?_, fun _ => ?_⟩
    · rw [hF.1.2.2.2.1]; exact nI_nlt (by omega) (by omega)
    · rw [ci_1, nI_add]
      exact h1 W q seen (by rw [List.drop_eq_nil_of_le (by simp; omega)]; rfl) hI hF h249 hse EqF.rf
  | succ n ih =>
    intro i W q seen a1 a2 hI hp hF h249 hse h1 h2
    have hV := hF.1.1
    have hiV : i < V := by omega
    have hi : i < 20 := by omega
    have hO := hF.1.2.2.1
    have hE := hF.1.2.1
    have hrd : (List.range V).drop i = i :: (List.range V).drop (i + 1) := by
      rw [List.drop_eq_getElem_cons (by simpa using hiV)]; simp
    rw [hrd] at h1 h2
    -- passing over
    have skip : (A x i && !(hds q).contains i) = false → hd_142_37 (d + 1) Q goals thr part wo seen (nI q.length) (nI k) (nI x) (nI i + Int32.ofInt 1) W := fun hc => by
      rw [ci_1, nI_add]
      have e : bfsRow (A x) gs p (i :: (List.range V).drop (i + 1)) q = bfsRow (A x) gs p ((List.range V).drop (i + 1)) q := by rw [bfsRow, hc]; rfl
      rw [e] at h1 h2
      exact ih (i + 1) W q seen (by omega) (by omega) hI hp hF h249 hse h1 h2
    -- an edge that may be gone
    have pro : (hds q).contains i = false → adj es i x = true → okP (min i x, max i x) = true → mi_br (((goals >>> (nI i &&& 31)) &&& (Int32.ofInt 1)) = (Int32.ofInt 1)) (vp_in (nI i) 20 ∧ (∀ W6 : fl_W, W6 = fl_uw W 251 (nI i).toNatClampNeg (nI x) → Q (some (.int (nI i))) W6)) (mi_br (((thr >>> (nI i &&& 31)) &&& (Int32.ofInt 1)) = 0) (hd_142_37 (d + 1) Q goals thr part wo seen (nI q.length) (nI k) (nI x) (nI i + Int32.ofInt 1) W) (vp_in (nI i) 20 ∧ (∀ W4 : fl_W, W4 = fl_uw W 251 (nI i).toNatClampNeg (nI x) → vp_in (nI q.length) 20 ∧ (∀ W5 : fl_W, W5 = fl_uw W4 244 (nI q.length).toNatClampNeg (nI i) → hd_142_37 (d + 1) Q goals thr part wo (seen ||| ((Int32.ofInt 1) <<< (nI i &&& 31))) (nI q.length + Int32.ofInt 1) (nI k) (nI x) (nI i + Int32.ofInt 1) W5)))) := by
      intro hnc hadj hokp
      have hnot : i ∉ hds q := by simpa using hnc
      have hAi : A x i = (gs i || th i) := by rw [hA i hi, hadj, hokp]; rfl
      have h251 : ∀ W' : fl_W, W' 251 = upd (W 251) i (nI x) → (∀ r ∈ q, chn (W' 251) r) ∧ chn (W' 251) (i :: p) := fun W' e => by
        have hchq : ∀ r ∈ q, chn (W' 251) r := by
          intro r hr
          rw [e]
          obtain ⟨j, hj⟩ := List.getElem?_of_mem hr
          obtain ⟨l, b1, b2, b3, b4, -⟩ := hI.2.1 j r hj
          exact chn_upd (fun z => hnot (b4 i z)) (hF.2.2.2 r hr)
        refine ⟨hchq, ?_⟩
        cases hpl : p with
        | nil => trivial
        | cons u t =>
          have hux : u = x := by rw [hpl] at hpx; exact hpx
          refine ⟨?_, ?_⟩
          · rw [e, hux]; simp [upd]
          · rw [← hpl]; exact hchq p (List.mem_of_getElem? hp)
      refine ⟨fun z => ⟨in_N hi (by omega), fun W6 e6 => ?_⟩, fun z => ⟨fun z2 => ?_, fun z2 => ⟨in_N hi (by omega), fun W4 e4 => ?_⟩⟩⟩
      · have hg : gs i = true := by rw [← hgs i hi]; exact (sb_ask1 (by omega) goals).mp z
        rw [nI_clamp (by omega)] at e6
        refine h2 W6 i ?_ hi (h251 W6 (by rw [e6]; simp [fl_uw])).2 (by rw [e6]; exact EqF.uwA (by simp) (by decide))
        rw [bfsRow, if_pos (by simp [hAi, hg, hnot]), hg]; rfl
      · have ht : th i = false := by rw [← hth i hi]; exact (sb_ask (by omega) thr).mp z2
        have hg : gs i = false := by
          cases hh : gs i with
          | false => rfl
          | true => exact absurd ((sb_ask1 (by omega) goals).mpr (by rw [hgs i hi]; exact hh)) z
        exact skip (by rw [hAi, hg, ht]; rfl)
      · have ht : th i = true := by
          cases hh : th i with
          | true => rfl
          | false => exact absurd ((sb_ask (by omega) thr).mpr (by rw [hth i hi]; exact hh)) z2
        have hg : gs i = false := by
          cases hh : gs i with
          | false => rfl
          | true => exact absurd ((sb_ask1 (by omega) goals).mpr (by rw [hgs i hi]; exact hh)) z
        have hlq := hI.len
        have hhl : q.length < 20 := by
          have h5 : (hds q ++ [i]).length ≤ 20 := nd_le 20 (by
            rw [List.nodup_append]
            exact ⟨hI.2.2.1, by simp, fun a ha c hcc e => hnot (by simp at hcc; rw [← hcc, ← e]; exact ha)⟩) (by
            intro y hy
            rcases List.mem_append.mp hy with z | z
            · exact hI.2.2.2.1 y z
            · simp at z; omega)
          simp [hds] at h5; omega
        refine ⟨in_N hhl (by omega), fun W5 e5 => ?_⟩
        rw [nI_clamp (by omega)] at e4 e5
        have e251 : W5 251 = upd (W 251) i (nI x) := by rw [e5, uw_n (by decide), e4]; simp [fl_uw]
        have f5 : EqF [] [244, 251] W W5 := by
          rw [e5, e4]
          exact (EqF.uwA (by simp) (by decide)).tr (EqF.uwA (by simp) (by decide))
        have hk := (List.getElem?_eq_some_iff.mp hp).1
        have hI' := hI.push hp hi (by rw [hpx, hAi, ht]; simp) hnot hg
        have e : bfsRow (A x) gs p (i :: (List.range V).drop (i + 1)) q = bfsRow (A x) gs p ((List.range V).drop (i + 1)) (q ++ [i :: p]) := by
          rw [bfsRow, if_pos (by simp [hAi, ht, hnot]), hg]; rfl
        rw [e] at h1 h2
        rw [ci_1, nI_add, nI_add]
        have hql : q.length + 1 = (q ++ [i :: p]).length := by simp
        rw [hql]
        refine ih (i + 1) W5 (q ++ [i :: p]) _ (by omega) (by omega) hI' (by rw [List.getElem?_append_left hk]; exact hp) ⟨hF.1.fr f5 (by decide) (by decide) (by decide) (by decide), hF.2.1.fr f5 (by decide) (by decide) (by decide), fun j y hj => ?_, fun r hr => ?_⟩ (by rw [f5.1 249 (by decide) (by decide)]; exact h249) ?_ (fun W' q' se' k1 k2 k3 k4 k5 k6 => h1 W' q' se' k1 k2 k3 k4 k5 (f5.tr k6)) fun W' g k1 k2 k3 k4 => h2 W' g k1 k2 k3 (f5.tr k4)
        · rw [hds_app] at hj
          have hlh : (hds q).length = q.length := by simp [hds]
          rw [e5]
          by_cases ej : j = q.length
          · subst ej
            rw [← hlh, List.getElem?_concat_length] at hj
            cases hj
            rw [uw_s]; rfl
          · rw [uw_m ej, e4, uw_n (by decide)]
            have hjl : j < (hds q).length := by
              have := (List.getElem?_eq_some_iff.mp hj).1
              rw [List.length_append, List.length_singleton] at this
              omega
            rw [List.getElem?_append_left hjl] at hj
            exact hF.2.2.1 j y hj
        · rcases List.mem_append.mp hr with z | z
          · exact (h251 W5 e251).1 r z
          · rw [List.mem_singleton.mp z]; exact (h251 W5 e251).2
        · refine (hse.or (BS.one hi)).congr fun v _ => ?_
          rw [hds_app, Bool.eq_iff_iff]
          simp
    refine sx_142_37 _ _ _ _ _ _ _ _ _ W ⟨fun _ => ⟨fun z => ⟨fun _ => ?_, fun w => absurd (by decide) w⟩, fun z => ?_⟩, fun z => absurd ?_ z⟩
    · have hc : (hds q).contains i = true := (hse.lo i hi).symm.trans ((sb_ask1 (by omega) seen).mp z)
      exact skip (by rw [hc]; simp)
    · have hnc : (hds q).contains i = false := by
        cases hh : (hds q).contains i with
        | false => rfl
        | true => exact absurd ((sb_ask1 (by omega) seen).mpr (by rw [hse.lo i hi]; exact hh)) z
      refine rf_eOf hi hx20 hF.1 ?_
      cases he : eNo es i x with
      | none =>
        have hna : adj es i x = false := by rw [← eNo_adj hO, he]; rfl
        refine ⟨fun _ => skip (by rw [hA i hi, hna]; rfl), fun w => absurd (show optI none < 0 by decide) w⟩
      | some j =>
        have hadj : adj es i x = true := by rw [← eNo_adj hO, he]; rfl
        have hat := eNo_at he
        have hjl := eNo_lt he
        have hokj := hok j _ hat
        refine ⟨fun w => absurd w (nI_pos (by omega)), fun _ => ⟨fun w => skip ?_, fun w => ?_⟩⟩
        · have : okP (min i x, max i x) = false := by
            cases hh : okP (min i x, max i x) with
            | false => rfl
            | true => exact absurd w (hokj.mp hh).1
          rw [hA i hi, this]; simp
        · refine rf_here hat hE hF.2.1 ⟨fun w2 => ?_, fun w2 => ?_⟩
          · refine skip ?_
            have : okP (min i x, max i x) = false := by
              cases hh : okP (min i x, max i x) with
              | false => rfl
              | true =>
                rw [if_pos (hokj.mp hh).2.1] at w2
                exact absurd w2 (by decide)
            rw [hA i hi, this]; simp
          · have hbm : (min i x, max i x) ∈ bes := by
              refine Classical.byContradiction fun hn => ?_
              rw [if_neg hn] at w2
              exact w2 rfl
            refine ⟨fun w3 => pro hnc hadj (hokj.mpr ⟨w, hbm, Or.inl w3⟩), fun w3 => ⟨in_N (by omega) (by omega), ?_⟩⟩
            show mi_br (W 249 (nI j).toNatClampNeg = part) _ _
            rw [nI_clamp (by omega), h249]
            refine ⟨fun w4 => pro hnc hadj (hokj.mpr ⟨w, hbm, Or.inr w4⟩), fun w4 => skip ?_⟩
            have : okP (min i x, max i x) = false := by
              cases hh : okP (min i x, max i x) with
              | false => rfl
              | true => exact absurd (hokj.mp hh).2.2 (by rintro (q | q); exact w3 q; exact w4 q)
            rw [hA i hi, this]; simp
    · rw [hF.1.2.2.2.1]; exact nI_lt hiV (by omega)
theorem rf_find_o {s : Nat} {A : Nat → Nat → Bool} {gs th : Nat → Bool} {okP : Nat × Nat → Bool} {goals thr part wo : Int32} {P249 : Nat → Int32} (hgs : BT goals gs) (hth : BT thr th) 
    (hok : ∀ j g, es[j]? = some g → (okP g = true ↔ (nI j ≠ wo ∧ g ∈ bes ∧ (part = -1 ∨ P249 j = part)))) (hA : ∀ x u, x < 20 → A x u = (adj es u x && okP (min u x, max u x) && (gs u || th u))) :
    ∀ (f k : Nat) (q : List (List Nat)) (seen : Int32) (W : fl_W), 21 ≤ f + k → k ≤ q.length → bInv A gs s q → FI W V es bes q → W 249 = P249 → BS seen (fun v => (hds q).contains v) →
      (∀ W', bfs A gs f k q = none → EqF [] [244, 251] W W' → Q (some (.int (-1))) W') →
      (∀ W' g t, bfs A gs f k q = some (g :: t) → g < 20 → chn (W' 251) (g :: t) → EqF [] [244, 251] W W' → Q (some (.int (nI g))) W') →
      hd_142_18 (d + 1) Q goals thr part wo seen (nI q.length) (nI k) W := by
  intro f
  induction f with
  | zero =>
    intro k q seen W h1 h2 hI
    have := hI.len
    omega
  | succ f ih =>
    intro k q seen W h1 h2 hI hF h249 hse hn hs
    have hlen := hI.len
    have hV := hF.1.1
    have hO := hF.1.2.2.1
    refine sx_142_18 _ _ _ _ _ _ _ W ⟨fun z => ?_, fun z => ?_⟩
    · rw [nI_ltI (by omega) (by omega)] at z
      obtain ⟨p, hp⟩ : ∃ p, q[k]? = some p := ⟨_, List.getElem?_eq_getElem z⟩
      have hx20 : p.headD 0 < 20 := hI.2.2.2.1 _ (List.mem_map.mpr ⟨p, List.mem_of_getElem? hp, rfl⟩)
      have hhd : (hds q)[k]? = some (p.headD 0) := by rw [hds, List.getElem?_map, hp]; rfl
      rw [bfs, hp] at hn hs
      generalize hx : p.headD 0 = x at *
      have hr20 : bfsRow (A x) gs p (List.range 20) q = bfsRow (A x) gs p ((List.range V).drop 0) q := by
        rw [List.drop_zero]
        have : List.range 20 = List.range V ++ (List.range 20).drop V := by
          have h3 := List.take_append_drop V (List.range 20)
          rw [List.take_range, Nat.min_eq_left hV] at h3
          exact h3.symm
        rw [this]
        refine bfsRow_ext (fun w hw => ?_) _ _
        have hw2 : V ≤ w := by
          obtain ⟨j, hj⟩ := List.getElem?_of_mem hw
          rw [List.getElem?_drop] at hj
          have h4 := List.getElem?_eq_some_iff.mp hj
          obtain ⟨h5, h6⟩ := h4
          rw [List.getElem_range] at h6
          omega
        rw [hA x w hx20]
        cases ha : adj es w x with
        | false => rfl
        | true => have := (adj_lt hO ha).1; omega
      simp only at hn hs
      rw [hx, hr20] at hn hs
      refine ⟨in_N (by omega) (by omega), ?_⟩
      rw [nI_clamp (by omega), hF.2.2.1 k x hhd, ci_0]
      refine rf_find_i (A := A) (s := s) (p := p) (bes := bes) hgs hth hx hx20 (by omega) hok (fun u _ => hA x u hx20) V 0 W q seen (by omega) (Nat.zero_le _) hI hp hF h249 hse (fun W' q' se' k1 k2 k3 k4 k5 k6 => ?_) fun W' g k1 k2 k3 k4 => ?_
      · rw [k1] at hn hs
        refine ih (k + 1) q' se' W' (by omega) ?_ k2 k3 k4 k5 (fun W'' j1 j2 => hn W'' j1 (k6.tr j2)) fun W'' g t j1 j2 j3 j4 => hs W'' g t j1 j2 j3 (k6.tr j4)
        -- the queue is no shorter
        have mono : ∀ (vs : List Nat) (q q' : List (List Nat)), bfsRow (A x) gs p vs q = .inr q' → q.length ≤ q'.length := by
          intro vs
          induction vs with
          | nil => intro q q' h; cases h; exact Nat.le_refl _
          | cons v vs ih =>
            intro q q' h
            rw [bfsRow] at h
            split at h
            · split at h
              · cases h
              · have := ih _ _ h
                rw [List.length_append, List.length_singleton] at this
                omega
            · exact ih _ _ h
        have := mono _ _ _ k1
        omega
      · rw [k1] at hs
        exact hs W' g p rfl k2 k3 k4
    · rw [nI_ltI (by omega) (by omega)] at z
      rw [bfs, List.getElem?_eq_none (by omega)] at hn
      exact hn W rfl EqF.rf
/-- find -/
theorem rf_find {s : Nat} {A : Nat → Nat → Bool} {gs th : Nat → Bool} {okP : Nat × Nat → Bool} {goals thr part wo : Int32} (hG : RfG W V es) (hH : HR W es bes) (hs : s < 20) (hgs : BT goals gs) (hth : BT thr th) (hok : ∀ j g, es[j]? = some g → (okP g = true ↔ (nI j ≠ wo ∧ g ∈ bes ∧ (part = -1 ∨ W 249 j = part)))) (hA : ∀ x u, x < 20 → A x u = (adj es u x && okP (min u x, max u x) && (gs u || th u)))
    (h : ∀ W' g t, bfsP A gs s = some (g :: t) → g < 20 → chn (W' 251) (g :: t) → EqF [] [244, 251] W W' → Q (some (.int (nI g))) W') (hsome : bfsP A gs s ≠ none) : fl_cal (d + 2) 142 [.ref 229, .int (nI s), .int goals, .int thr, .int part, .int wo] W Q := by
  refine sx_142 _ _ _ _ _ W ⟨in_N (n := 0) (by omega) (by omega), fun W1 e1 => ?_⟩
  have f1 : EqF [] [244, 251] W W1 := by rw [e1]; exact EqF.uwA (by simp) (by decide)
  have e249 : W1 249 = W 249 := f1.1 249 (by decide) (by decide)
  rw [ci_1, ci_0]
  refine rf_find_o (A := A) (s := s) (bes := bes) (okP := okP) (P249 := W 249) hgs hth hok hA 21 0 [[s]] _ W1 (by omega) (Nat.zero_le _) (bInv.start hs) ⟨hG.fr f1 (by decide) (by decide) (by decide) (by decide), hH.fr f1 (by decide) (by decide) (by decide), fun j x hj => ?_, fun p hp => ?_⟩ e249 ?_ (fun W' k1 _ => absurd k1 hsome) fun W' g t k1 k2 k3 k4 => h W' g t k1 k2 k3 (f1.tr k4)
  · cases j with
    | zero =>
      cases hj
      rw [e1]
      show fl_uw W 244 0 (nI s) 244 0 = _
      rw [uw_s]; rfl
    | succ j => simp [hds] at hj
  · rw [List.mem_singleton.mp hp]; trivial
  · exact (BS.one hs).congr fun v _ => by simp [hds]
/-- takeWay -/
theorem rf_tw_a {a : Nat} (ha : a < 20) {g : Nat} (hg : g < 20) : ∀ (l : List Nat) (v m : Nat) (W : fl_W), chn (W 251) (v :: (l ++ [a])) → a ∉ l → v < 20 → (∀ x ∈ l, x < 20) → W 229 35 = nI m → m + l.length ≤ 19 → (∀ W', W' 229 35 = nI (m + l.length) → EqF [35] [] W W' → hd_144_50 d Q (nI a) (nI (m + l.length)) (W 251 g) W') → hd_144_12 d Q (nI a) (nI g) (W 251 v) W := by
  intro l
  induction l with
  | nil =>
    intro v m W hc hal hv hl hm hlen h
    have e : W 251 v = nI a := hc.1
    rw [e]
    refine sx_144_12 _ _ _ W ⟨fun _ => ⟨in_N hg (by omega), ?_⟩, fun z => absurd rfl z⟩
    rw [nI_clamp (by omega), hm]
    exact h W hm EqF.rf
  | cons x l ih =>
    intro v m W hc hal hv hl hm hlen h
    have e : W 251 v = nI x := hc.1
    have hx := hl x (by simp)
    rw [e]
    simp only [List.length_cons] at hlen h
    refine sx_144_12 _ _ _ W ⟨fun z => ?_, fun _ W2 e2 => ⟨in_N hx (by omega), ?_⟩⟩
    · rw [nI_eq (by omega) (by omega)] at z
      exact absurd (by simp [z]) hal
    · rw [hm, ci_1, nI_add] at e2
      have f2 : EqF [35] [] W W2 := by rw [e2]; exact EqF.uwF (by simp)
      have e251 : W2 251 = W 251 := f2.1 251 (by decide) (by decide)
      rw [nI_clamp (by omega)]
      refine ih x (m + 1) W2 (by rw [e251]; exact hc.2) (fun z => hal (List.mem_cons_of_mem _ z)) hx (fun y hy => hl y (List.mem_cons_of_mem _ hy)) (by rw [e2, uw_s]) (by omega) fun W' k1 k2 => ?_
      rw [e251, show m + 1 + l.length = m + (l.length + 1) by omega]
      exact h W' (by rw [k1]; congr 1; omega) (f2.tr k2)
theorem rf_tw_b {a : Nat} (ha : a < 20) : ∀ (l : List Nat) (v : Nat) (W : fl_W), chn (W 251) (v :: (l ++ [a])) → a ∉ l → v < 20 → (∀ x ∈ l, x < 20) → l.length ≤ 19 → (∀ W', (∀ j x, l.reverse[j]? = some x → W' 252 j = nI x) → (∀ j, l.length ≤ j → W' 252 j = W 252 j) → EqF [] [252] W W' → Q none W') → hd_144_50 d Q (nI a) (nI l.length) (W 251 v) W := by
  intro l
  induction l with
  | nil =>
    intro v W hc hal hv hl hlen h
    have e : W 251 v = nI a := hc.1
    rw [e]
    exact sx_144_50 _ _ _ W ⟨fun _ => h W (fun j x hj => by simp at hj) (fun j _ => rfl) EqF.rf, fun z => absurd rfl z⟩
  | cons x l ih =>
    intro v W hc hal hv hl hlen h
    have e : W 251 v = nI x := hc.1
    have hx := hl x (by simp)
    rw [e]
    simp only [List.length_cons] at hlen h
    have hsub : nI (l.length + 1) + Int32.ofInt (-1) = nI l.length := by
      rw [← nI_add, ← ci_1, Int32.add_assoc]
      exact Int32.add_zero _
    rw [List.length_cons]
    refine sx_144_50 _ _ _ W ⟨fun z => ?_, fun _ => ?_⟩
    · rw [nI_eq (by omega) (by omega)] at z
      exact absurd (by simp [z]) hal
    · rw [hsub]
      refine ⟨in_N (by omega) (by omega), fun W3 e3 => ⟨in_N hx (by omega), ?_⟩⟩
      rw [nI_clamp (by omega)] at e3 ⊢
      have f3 : EqF [] [252] W W3 := by rw [e3]; exact EqF.uwA (by simp) (by decide)
      have e251 : W3 251 = W 251 := f3.1 251 (by decide) (by decide)
      refine ih x W3 (by rw [e251]; exact hc.2) (fun z => hal (List.mem_cons_of_mem _ z)) hx (fun y hy => hl y (List.mem_cons_of_mem _ hy)) (by omega) fun W' k1 k2 k3 => h W' (fun j y hj => ?_) (fun j hj => ?_) (f3.tr k3)
      · rw [List.reverse_cons] at hj
        by_cases ej : j < l.length
        · rw [List.getElem?_append_left (by rw [List.length_reverse]; exact ej)] at hj
          exact k1 j y hj
        · have : j = l.length := by
            have := (List.getElem?_eq_some_iff.mp hj).1
            rw [List.length_append, List.length_reverse, List.length_singleton] at this
            omega
          subst this
          rw [List.getElem?_append_right (by simp)] at hj
          simp at hj
          rw [k2 _ (Nat.le_refl _), e3, uw_s, hj]
      · rw [k2 j (by omega), e3, uw_m (by omega)]
theorem rf_tw {a g : Nat} {l : List Nat} (ha : a < 20) (hg : g < 20) (hc : chn (W 251) (g :: (l ++ [a]))) (hal : a ∉ l) (hl : ∀ x ∈ l, x < 20) (hlen : l.length ≤ 19) (h : ∀ W', W' 229 35 = nI l.length → (∀ j x, l.reverse[j]? = some x → W' 252 j = nI x) → EqF [35] [252] W W' → Q none W') : fl_cal (d + 1) 144 [.ref 229, .int (nI a), .int (nI g)] W Q := by
  refine sx_144 _ _ W fun W1 e1 => ⟨in_N hg (by omega), ?_⟩
  have f1 : EqF [35] [] W W1 := by rw [e1]; exact EqF.uwF (by simp)
  have e251 : W1 251 = W 251 := f1.1 251 (by decide) (by decide)
  rw [nI_clamp (by omega)]
  refine rf_tw_a ha hg l g 0 W1 (by rw [e251]; exact hc) hal hg hl (by rw [e1, uw_s]; rfl) (by omega) fun W2 k1 k2 => ?_
  rw [Nat.zero_add] at k1 ⊢
  have e251' : W2 251 = W1 251 := k2.1 251 (by decide) (by decide)
  rw [← e251']
  refine rf_tw_b ha l g W2 (by rw [e251', e251]; exact hc) hal hg hl hlen fun W' j1 j2 j3 => h W' (by rw [j3.2 35 (by decide)]; exact k1) j1 ?_
  exact ((f1.tr k2).mono (by simp) (by simp)).tr (j3.mono (by simp) (by simp))
end RFI
