/-! ===== the class's search is breadth first ===== -/
def chn (f : Nat → Int32) : List Nat → Prop
  | u :: w :: l => f u = nI w ∧ chn f (w :: l)
  | _ => True
theorem chn_upd {f : Nat → Int32} {v : Nat} {x : Int32} : ∀ {l : List Nat}, v ∉ l → chn f l → chn (upd f v x) l
  | [], _, _ => trivial
  | [_], _, _ => trivial
  | u :: w :: l, hn, h => by
    refine ⟨?_, chn_upd (fun z => hn (List.mem_cons_of_mem _ z)) h.2⟩
    have : u ≠ v := fun e => hn (e ▸ List.mem_cons_self)
    simp only [upd, this, if_false]
    exact h.1
def srl : List Nat := [153, 154, 155, 156, 157, 158]
def sPost (W : fl_W) : Option (List Nat) → Prop
  | some (g :: t) => W 153 3 = nI g ∧ RowR W 157 (nL t.dropLast)
  | _ => W 153 3 = -1 ∧ RowR W 157 []
theorem bRow_mem {Ax goal : Nat → Bool} {p : List Nat} : ∀ {vs : List Nat} {q q' : List (List Nat)}, bfsRow Ax goal p vs q = .inr q' → ∀ v ∈ hds q', v ∈ hds q ∨ (Ax v = true ∧ goal v = false)
  | [], q, q', h, v, hv => by
    cases h
    exact Or.inl hv
  | u :: vs, q, q', h, v, hv => by
    rw [bfsRow] at h
    by_cases hc : (Ax u && !(hds q).contains u) = true
    · rw [if_pos hc] at h
      by_cases hg : goal u = true
      · rw [if_pos hg] at h; cases h
      · rw [if_neg hg] at h
        rcases bRow_mem h v hv with z | z
        · rw [hds_app] at z
          rcases List.mem_append.mp z with z | z
          · exact Or.inl z
          · simp at z
            subst z
            simp only [Bool.and_eq_true] at hc
            exact Or.inr ⟨hc.1, by simpa using hg⟩
        · exact Or.inr z
    · rw [if_neg hc] at h
      exact bRow_mem h v hv
section SEARCH
variable {d : Nat} {Q : fl_R} {b : Nat} {W : fl_W} {V : Nat} {es : gE}
theorem se_trace_l {s : Nat} (hs : s < 20) : ∀ (l : List Nat) (v i : Nat) (W : fl_W) (xs : List Nat), RowR W 157 (nL xs) → chn (W 154) (v :: (l ++ [s])) → s ∉ l → v < 20 → (∀ x ∈ l, x < 20) → i + l.length < 20 → xs.length ≤ i → (∀ W', RowR W' 157 (nL (xs ++ l)) → EqX [157, 158] W W' → Q none W') → hd_78_14 (d + 1) Q (nI s) (nI v) (nI i) W := by
  intro l
  induction l with
  | nil =>
    intro v i W xs hR hc hsl hv hl hi hxs h
    refine sx_78_14 _ _ _ W ⟨fun _ => st_can ?_, fun q => absurd ?_ q⟩
    · rw [ixB_N (by omega), decide_eq_true hv]
      refine ⟨fun q => absurd q (by decide), fun _ => ⟨in_N hv (by omega), ?_⟩⟩
      rw [nI_clamp (by omega)]
      exact ⟨fun _ => h W (by simpa using hR) EqX.rf, fun q => absurd hc.1 q⟩
    · rw [cb_20]; exact nI_lt (by simp at hi; omega) (by omega)
  | cons w l ih =>
    intro v i W xs hR hc hsl hv hl hi hxs h
    have hw := hl w List.mem_cons_self
    have hws : w ≠ s := fun e => hsl (e ▸ List.mem_cons_self)
    simp only [List.length_cons] at hi
    refine sx_78_14 _ _ _ W ⟨fun _ => st_can ?_, fun q => absurd ?_ q⟩
    · rw [ixB_N (by omega), decide_eq_true hv]
      refine ⟨fun q => absurd q (by decide), fun _ => ⟨in_N hv (by omega), ?_⟩⟩
      have hcv : W 154 v = nI w := hc.1
      rw [nI_clamp (by omega), hcv]
      refine ⟨fun q => absurd q (nI_ne (by omega) (by omega) hws), fun _ => ⟨in_N hv (by omega), ?_⟩⟩
      refine row_add (r := 157) rfl hR (by rw [nL_len]; show xs.length < 20; omega) fun W' g1 g2 => ?_
      show hd_78_14 (d + 1) Q (nI s) (nI w) (nI i + Int32.ofInt 1) W'
      rw [ci_1, nI_add]
      refine ih w (i + 1) W' (xs ++ [w]) (by rw [nL_app]; exact g1) ?_ (fun z => hsl (List.mem_cons_of_mem _ z)) hw (fun x hx => hl x (List.mem_cons_of_mem _ hx)) (by omega) (by simp; omega) fun W'' k1 k2 => h W'' (by simpa using k1) (g2.tr k2)
      rw [g2 154 (by decide)]
      exact hc.2
    · rw [cb_20]; exact nI_lt (by omega) (by omega)
theorem se_trace {s g : Nat} {l : List Nat} (hs : s < 20) (hg : W 153 3 = nI g) (hc : chn (W 154) (g :: (l ++ [s]))) (hsl : s ∉ l) (hg20 : g < 20) (hl : ∀ x ∈ l, x < 20) (hlen : l.length ≤ 19) (h : ∀ W', RowR W' 157 (nL l) → EqX [157, 158] W W' → Q none W') : fl_cal (d + 2) 78 [.ref 153, .int (nI s)] W Q := by
  refine sx_78 _ W (row_clear (r := 157) rfl fun W1 r1 f1 => ?_)
  show hd_78_14 (d + 1) Q (nI s) (W1 153 3) (Int32.ofInt 0) W1
  rw [f1 153 (by decide), hg]
  refine se_trace_l hs l g 0 W1 [] r1 ?_ hsl hg20 hl (by omega) (by simp) fun W' k1 k2 => h W' (by simpa using k1) (f1.tr k2)
  rw [f1 154 (by decide)]
  exact hc
theorem se_traceNo {s : Nat} (hg : W 153 3 = -1) (h : ∀ W', RowR W' 157 [] → EqX [157, 158] W W' → Q none W') : fl_cal (d + 2) 78 [.ref 153, .int (nI s)] W Q := by
  refine sx_78 _ W (row_clear (r := 157) rfl fun W1 r1 f1 => ?_)
  show hd_78_14 (d + 1) Q (nI s) (W1 153 3) (Int32.ofInt 0) W1
  rw [f1 153 (by decide), hg]
  refine sx_78_14 _ _ _ W1 ⟨fun _ => st_can ?_, fun q => absurd ?_ q⟩
  · rw [ixB_neg (by decide)]
    exact ⟨fun _ => h W1 r1 f1, fun q => absurd rfl q⟩
  · decide
/-- the step of the class: by an edge, to what may be gone through, or, but from s, to a goal -/
def clA (es : gE) (th gs : Nat → Bool) (s : Nat) (x v : Nat) : Bool := adj es x v && (th v || (decide (x ≠ s) && gs v))
def sInv (W : fl_W) (b V : Nat) (es : gE) (q : List (List Nat)) : Prop := NetR W b V es ∧ RowR W 155 (nL (hds q)) ∧ ∀ p ∈ q, chn (W 154) p
theorem se_dis {b : Nat} (hb : fl_net b) : ∀ a ∈ nl b, a ∉ srl := by
  intro a ha
  have := net_bases b (fl_lt hb) hb
  simp only [nl, srl, List.mem_cons, List.not_mem_nil, or_false] at ha ⊢
  omega
theorem range_drop {i : Nat} (h : i < 20) : (List.range 20).drop i = i :: (List.range 20).drop (i + 1) := by
  rw [List.drop_eq_getElem_cons (by simpa using h)]
  simp
theorem se_inner {s k x : Nat} {p : List Nat} {A : Nat → Nat → Bool} {gs : Nat → Bool} {goals left next : Int32} (hb : fl_net b) (hgs : BT goals gs) (hpx : p.headD 0 = x) (hk20 : k < 20) :
    ∀ (n i : Nat) (W : fl_W) (q : List (List Nat)), 20 - i = n → i ≤ 20 → bInv A gs s q → q[k]? = some p → sInv W b V es q → W 153 3 = -1 → (∀ v, i ≤ v → v < 20 → sb next v = (A x v && !(hds q).contains v)) →
      (∀ W' q', bfsRow (A x) gs p ((List.range 20).drop i) q = .inr q' → bInv A gs s q' → sInv W' b V es q' → W' 153 3 = -1 → EqX srl W W' → hd_76_26 (d + 2) Q b (nI s) goals left (nI (k + 1)) W') →
      (∀ W' g, bfsRow (A x) gs p ((List.range 20).drop i) q = .inl (g :: p) → g < 20 → W' 153 3 = nI g → chn (W' 154) (g :: p) → EqX srl W W' → hd_76_26 (d + 2) Q b (nI s) goals left (nI (k + 1)) W') →
      hd_76_101 (d + 2) Q b (nI s) goals left (nI k) (nI x) next (nI i) W := by
  intro n
  induction n with
  | zero =>
    intro i W q a1 a2 hI hp hS hg hn h1 h2
    have hi : i = 20 := by omega
    subst hi
    refine sx_76_101 b _ _ _ _ _ _ _ W hb ⟨fun z => absurd z ?_, fun _ => ?_⟩
    · rw [cb_20]; exact nI_nlt (Nat.le_refl _) (by omega)
    · rw [ci_1, nI_add]
      exact h1 W q (by rw [List.drop_eq_nil_of_le (by simp)]; rfl) hI hS hg EqX.rf
  | succ n ih =>
    intro i W q a1 a2 hI hp hS hg hn h1 h2
    have hi : i < 20 := by omega
    rw [range_drop hi] at h1 h2
    have hni := hn i (Nat.le_refl _) hi
    refine sx_76_101 b _ _ _ _ _ _ _ W hb ⟨fun _ => ⟨fun _ => st_in ?_, fun z => absurd hg z⟩, fun z => absurd ?_ z⟩
    · rw [inI_N hi, hni]
      cases hc : (A x i && !(hds q).contains i) with
      | false =>
        refine ⟨fun _ => ?_, fun z => absurd rfl z⟩
        rw [ci_1, nI_add]
        have e : bfsRow (A x) gs p (i :: (List.range 20).drop (i + 1)) q = bfsRow (A x) gs p ((List.range 20).drop (i + 1)) q := by rw [bfsRow, hc]; rfl
        rw [e] at h1 h2
        exact ih (i + 1) W q (by omega) (by omega) hI hp hS hg (fun v hv1 hv2 => hn v (by omega) hv2) h1 h2
      | true =>
        refine ⟨fun z => absurd z (by decide), fun _ => ⟨in_N hi (by omega), fun W11 e11 => ?_⟩⟩
        rw [nI_clamp (by omega)] at e11
        simp only [Bool.and_eq_true, Bool.not_eq_true', List.contains_eq_mem, decide_eq_false_iff_not] at hc
        have hnot := hc.2
        have f11 : EqX srl W W11 := by rw [e11]; exact EqX.uw (by simp [srl])
        have hR11 : RowR W11 155 (nL (hds q)) := hS.2.1.fr (l := [154]) (by rw [e11]; exact EqX.uw (by simp)) (by decide) (by decide)
        have hlq := hI.len
        have hhl : (hds q).length < 20 := by
          have h5 : (hds q ++ [i]).length ≤ 20 := nd_le 20 (by
            rw [List.nodup_append]
            exact ⟨hI.2.2.1, by simp, fun a ha c hcc e => hnot (by simp at hcc; rw [← hcc, ← e]; exact ha)⟩) (by
            intro y hy
            rcases List.mem_append.mp hy with z | z
            · exact hI.2.2.2.1 y z
            · simp at z; omega)
          simp at h5; omega
        refine row_add (r := 155) rfl hR11 (by rw [nL_len]; exact hhl) fun W12 r12 f12 => ?_
        have f12' : EqX srl W11 W12 := f12.mono (by decide)
        refine st_in ?_
        rw [inI_N hi, hgs i hi]
        have h154 : W12 154 = upd (W 154) i (nI x) := by
          rw [f12 154 (by decide), e11]
          simp [fl_uw]
        have hchq : ∀ r ∈ q, chn (W12 154) r := by
          intro r hr
          rw [h154]
          obtain ⟨j, hj⟩ := List.getElem?_of_mem hr
          obtain ⟨l, b1, b2, b3, b4, -⟩ := hI.2.1 j r hj
          exact chn_upd (fun z => hnot (b4 i z)) (hS.2.2 r hr)
        have hchp : chn (W12 154) (i :: p) := by
          cases hpl : p with
          | nil => trivial
          | cons u t =>
            have hux : u = x := by rw [hpl] at hpx; exact hpx
            refine ⟨?_, ?_⟩
            · rw [h154, hux]; simp [upd]
            · rw [← hpl]; exact hchq p (List.mem_of_getElem? hp)
        cases hgi : gs i with
        | false =>
          refine ⟨fun _ W14 e14 => ?_, fun z => absurd rfl z⟩
          rw [ci_1, nI_add]
          have f14 : EqX srl W12 W14 := by rw [e14]; exact EqX.uw (by simp [srl])
          have f14' : EqX [153] W12 W14 := by rw [e14]; exact EqX.uw (by simp)
          have hk := (List.getElem?_eq_some_iff.mp hp).1
          have hI' := hI.push hp hi (by rw [hpx]; exact hc.1) hnot hgi
          have fAll := (f11.tr f12').tr f14
          have e : bfsRow (A x) gs p (i :: (List.range 20).drop (i + 1)) q = bfsRow (A x) gs p ((List.range 20).drop (i + 1)) (q ++ [i :: p]) := by
            rw [bfsRow, if_pos (by simp [hc.1, hnot]), hgi]; rfl
          rw [e] at h1 h2
          refine ih (i + 1) W14 (q ++ [i :: p]) (by omega) (by omega) hI' (by rw [List.getElem?_append_left hk]; exact hp) ⟨hS.1.fr fAll (se_dis hb), ?_, ?_⟩ (by rw [e14, uw_s]; rfl) (fun v hv1 hv2 => ?_) (fun W' q' k1 k2 k3 k4 k5 => h1 W' q' k1 k2 k3 k4 (fAll.tr k5)) (fun W' g k1 k2 k3 k4 k5 => h2 W' g k1 k2 k3 k4 (fAll.tr k5))
          · rw [hds_app, nL_app]
            exact r12.fr f14' (by decide) (by decide)
          · intro r hr
            rw [f14' 154 (by decide)]
            rcases List.mem_append.mp hr with z | z
            · exact hchq r z
            · rw [List.mem_singleton.mp z]; exact hchp
          · rw [hn v (by omega) hv2, hds_app]
            congr 2
            rw [Bool.eq_iff_iff]
            simp
            omega
        | true =>
          refine ⟨fun z => absurd z (by decide), fun _ W15 e15 => ?_⟩
          have f15 : EqX srl W12 W15 := by rw [e15]; exact EqX.uw (by simp [srl])
          have fAll := (f11.tr f12').tr f15
          have e : bfsRow (A x) gs p (i :: (List.range 20).drop (i + 1)) q = .inl (i :: p) := by
            rw [bfsRow, if_pos (by simp [hc.1, hnot]), hgi]; rfl
          have fin := h2 W15 i e hi (by rw [e15, uw_s]) (by rw [e15, uw_n (by decide)]; exact hchp) fAll
          rw [ci_1, nI_add]
          refine sx_76_101 b _ _ _ _ _ _ _ W15 hb ⟨fun _ => ⟨fun z => ?_, fun _ => ?_⟩, fun _ => ?_⟩
          · rw [e15, uw_s] at z
            exact absurd z (nI_nm (by omega))
          · rw [ci_1, nI_add]; exact fin
          · rw [ci_1, nI_add]; exact fin
    · rw [cb_20]; exact nI_lt hi (by omega)
theorem se_outer {s : Nat} {th gs : Nat → Bool} {goals : Int32} (hb : fl_net b) (hs : s < 20) (hgs : BT goals gs) (hgss : gs s = false) (hdj : ∀ v, v < 20 → gs v = true → th v = false) :
    ∀ (f k : Nat) (q : List (List Nat)) (left : Int32) (W : fl_W), 21 ≤ f + k → k ≤ q.length → bInv (clA es th gs s) gs s q → sInv W b V es q → W 153 3 = -1 → BT left (fun v => th v && !(hds q).contains v) →
      (∀ W', sPost W' (bfs (clA es th gs s) gs f k q) → EqX srl W W' → Q none W') → hd_76_26 (d + 2) Q b (nI s) goals left (nI k) W := by
  intro f
  induction f with
  | zero =>
    intro k q left W h1 h2 hI
    have := hI.len
    omega
  | succ f ih =>
    intro k q left W h1 h2 hI hS hg hleft h
    have hlen := hI.len
    have hRlen : (nL (hds q)).length = q.length := by simp [nL, hds]
    -- what happens when the queue is at its end
    have stop : q[k]? = none → fl_cal (d + 2) 78 [.ref 153, .int (nI s)] W (fl_q0 fun W' => Q none W') := by
      intro hq
      refine se_traceNo hg fun W' k1 k2 => ?_
      show Q none W'
      refine h W' ?_ (k2.mono (by decide))
      rw [bfs, hq]
      exact ⟨by rw [k2 153 (by decide)]; exact hg, k1⟩
    refine sx_76_26 b _ _ _ _ W hb ⟨fun hk => ?_, fun hk => stop ?_⟩
    · refine row_size (r := 155) rfl hS.2.1 ?_
      rw [hRlen]
      refine ⟨fun hkq => ⟨fun _ => ?_, fun z => absurd hg z⟩, fun hkq => stop ?_⟩
      · rw [nI_ltI (by omega) (by omega)] at hkq
        have hk20 : k < 20 := by omega
        obtain ⟨p, hp⟩ : ∃ p, q[k]? = some p := ⟨_, List.getElem?_eq_getElem hkq⟩
        have hx20 : p.headD 0 < 20 := hI.2.2.2.1 _ (List.mem_map.mpr ⟨p, List.mem_of_getElem? hp, rfl⟩)
        generalize hx : p.headD 0 = x at hx20
        refine row_get (r := 155) rfl hS.2.1 ?_
        have hgx : getI (nL (hds q)) (nI k) = nI x := by
          refine getI_at (by omega) (nL_at ?_)
          rw [hds, List.getElem?_map, hp]
          show some (p.headD 0) = some x
          rw [hx]
        rw [hgx]
        have hV := hS.1.1
        -- the neighbours of x that are new
        have row : ∀ (y : Int32), BS y (adj es x) → mi_br (nI x = nI s)
            (hd_76_101 (d + 2) Q b (nI s) goals (left &&& ((y &&& left) ^^^ (Int32.ofInt (-1)))) (nI k) (nI x) (y &&& left) (Int32.ofInt 0) W)
            (hd_76_101 (d + 2) Q b (nI s) goals (left &&& ((y &&& (left ||| goals)) ^^^ (Int32.ofInt (-1)))) (nI k) (nI x) (y &&& (left ||| goals)) (Int32.ofInt 0) W) := by
          intro y hy
          -- one proof for both
          have both : ∀ (nx : Int32), (∀ v, v < 20 → sb nx v = (clA es th gs s x v && !(hds q).contains v)) → hd_76_101 (d + 2) Q b (nI s) goals (left &&& (nx ^^^ (Int32.ofInt (-1)))) (nI k) (nI x) nx (nI 0) W := by
            intro nx hnx
            refine se_inner (A := clA es th gs s) hb hgs hx hk20 20 0 W q rfl (by omega) hI hp hS hg (fun v _ hv => hnx v hv) (fun W' q' k1 k2 k3 k4 k5 => ?_) (fun W' g k1 k2 k3 k4 k5 => ?_)
            · rw [List.drop_zero] at k1
              have sp := bRow_spec (A := clA es th gs s) (goal := gs) (s := s) (k := k) (p := p) (List.range 20) q hI hp (fun v hv => List.mem_range.mp hv)
              rw [hx, k1] at sp
              refine ih (k + 1) q' _ W' (by omega) ?_ k2 k3 k4 (fun v hv => ?_) fun W'' j1 j2 => h W'' ?_ (k5.tr j2)
              · exact (List.getElem?_eq_some_iff.mp (sp.2.1 k p hp)).1
              · rw [sb_and, ci_m, sb_not _ (by omega), hleft v hv, hnx v hv]
                have hm := bRow_mem k1 v
                have hm2 := sp.2.2 v (List.mem_range.mpr hv)
                have hsub : v ∈ hds q → v ∈ hds q' := fun z => by
                  obtain ⟨r, hr, hrv⟩ := List.mem_map.mp z
                  obtain ⟨j, hj⟩ := List.getElem?_of_mem hr
                  exact List.mem_map.mpr ⟨r, List.mem_of_getElem? (sp.2.1 j r hj), hrv⟩
                rw [Bool.eq_iff_iff]
                simp only [Bool.and_eq_true, Bool.not_eq_true', Bool.and_eq_false_iff, List.contains_eq_mem, decide_eq_false_iff_not, decide_eq_true_eq, Bool.not_eq_false']
                constructor
                · rintro ⟨⟨z1, z2⟩, z3⟩
                  refine ⟨z1, fun z4 => ?_⟩
                  rcases hm z4 with z5 | z5
                  · exact z2 z5
                  · rcases z3 with z6 | z6
                    · rw [z5.1] at z6; cases z6
                    · exact z2 z6
                · rintro ⟨z1, z2⟩
                  refine ⟨⟨z1, fun z => z2 (hsub z)⟩, ?_⟩
                  cases hA : clA es th gs s x v with
                  | false => exact Or.inl rfl
                  | true => exact absurd (hm2 hA) z2
              · rw [bfs, hp]
                show sPost W'' (match bfsRow (clA es th gs s (p.headD 0)) gs p (List.range 20) q with
                  | .inl r => some r
                  | .inr q' => bfs (clA es th gs s) gs f (k + 1) q')
                rw [hx, k1]
                exact j1
            · rw [List.drop_zero] at k1
              have sp := bfs_spec (A := clA es th gs s) (goal := gs) (s := s) hgss
              have hb2 : bfs (clA es th gs s) gs (f + 1) k q = some (g :: p) := by
                rw [bfs, hp]
                show (match bfsRow (clA es th gs s (p.headD 0)) gs p (List.range 20) q with
                  | .inl r => some r
                  | .inr q' => bfs (clA es th gs s) gs f (k + 1) q') = _
                rw [hx, k1]
              obtain ⟨l, b1, b2, b3, b4, b5⟩ := hI.2.1 k p hp
              have tr : fl_cal (d + 2) 78 [.ref 153, .int (nI s)] W' (fl_q0 fun W'' => Q none W'') := by
                refine se_trace (l := l) hs k3 (by rw [← b1]; exact k4) b2 k2 (fun y hy => hI.2.2.2.1 y (b4 y (by rw [b1]; exact List.mem_append_left _ hy))) (by omega) fun W'' j1 j2 => ?_
                show Q none W''
                refine h W'' ?_ (k5.tr (j2.mono (by decide)))
                rw [hb2]
                refine ⟨by rw [j2 153 (by decide)]; exact k3, ?_⟩
                rw [b1, List.dropLast_concat]
                exact j1
              refine sx_76_26 b _ _ _ _ W' hb ⟨fun _ => sx_63 155 W' rfl ⟨fun _ => ⟨fun z => ?_, fun _ => tr⟩, fun _ => tr⟩, fun _ => tr⟩
              rw [k3] at z
              exact absurd z (nI_nm (by omega))
          refine ⟨fun e => ?_, fun e => ?_⟩
          · refine both (y &&& left) fun v hv => ?_
            have hlv : sb left v = (th v && !(hds q).contains v) := hleft v hv
            rw [sb_and, hy.lo v hv, hlv, clA, decide_eq_false (by rw [nI_eq (by omega) (by omega)] at e; simp [e])]
            cases adj es x v <;> cases th v <;> simp
          · refine both (y &&& (left ||| goals)) fun v hv => ?_
            have hxs : x ≠ s := fun z => e (by rw [z])
            have hlv : sb left v = (th v && !(hds q).contains v) := hleft v hv
            rw [sb_and, sb_or, hy.lo v hv, hlv, hgs v hv, clA, decide_eq_true hxs]
            cases hgv : gs v with
            | false => cases adj es x v <;> cases th v <;> simp
            | true =>
              have h3 := hdj v hv hgv
              have h4 : (hds q).contains v = false := by
                rw [List.contains_eq_mem, decide_eq_false_iff_not]
                intro z
                by_cases e2 : v = s
                · rw [e2, hgss] at hgv; cases hgv
                · rw [hI.2.2.2.2 v z e2] at hgv; cases hgv
              rw [h3, h4]
              cases adj es x v <;> simp
        by_cases hxV : x < V
        · refine net_around hb hS.1 hxV fun y hy => row y hy
        · refine net_aroundNo hb hS.1 (by rw [ixB_N (by omega), decide_eq_false hxV]) (row 0 (BS.zero.congr fun i hi => ?_))
          cases hA : adj es x i with
          | false => rfl
          | true => exact absurd (adj_lt hS.1.2.2.1 hA).1 hxV
      · rw [nI_ltI (by omega) (by omega)] at hkq
        exact List.getElem?_eq_none (by omega)
    · rw [cb_20, nI_ltI (by omega) (by omega)] at hk
      exact List.getElem?_eq_none (by omega)
/-- Search.seek: breadth first from s -/
theorem se_seek {s : Nat} {th gs : Nat → Bool} {through goals : Int32} (hb : fl_net b) (hN : NetR W b V es) (hs : s < 20) (hth : BT through th) (hgs : BT goals gs) (hths : th s = false) (hgss : gs s = false) (hdj : ∀ v, v < 20 → gs v = true → th v = false) (h : ∀ W', sPost W' (bfsP (clA es th gs s) gs s) → EqX srl W W' → Q none W') : fl_cal (d + 3) 76 [.ref 153, .ref b, .int (nI s), .int through, .int goals] W Q := by
  refine sx_76 b _ _ _ W hb fun W1 e1 => ?_
  have f1 : EqX srl W W1 := by rw [e1]; exact EqX.uw (by simp [srl])
  refine row_clear (r := 155) rfl fun W2 r2 f2 => ?_
  refine row_add (r := 155) rfl r2 (by decide) fun W3 r3 f3 => ?_
  have fA : EqX srl W W3 := (f1.tr (f2.mono (by decide))).tr (f3.mono (by decide))
  refine se_outer hb hs hgs hgss hdj 21 0 [[s]] through W3 (by omega) (Nat.zero_le _) (bInv.start hs) ⟨hN.fr fA (se_dis hb), r3, fun p hp => ?_⟩ ?_ (fun v hv => ?_) fun W' k1 k2 => h W' k1 (fA.tr k2)
  · rw [List.mem_singleton.mp hp]; trivial
  · rw [f3 153 (by decide), f2 153 (by decide), e1, uw_s]; rfl
  · show sb through v = (th v && !(hds [[s]]).contains v)
    rw [hth v hv]
    by_cases e : v = s
    · rw [e, hths]; rfl
    · simp [hds, e]
theorem se_straight {x : Int32} (h : ∀ W', W' 153 3 = x → RowR W' 157 [] → EqX srl W W' → Q none W') : fl_cal (d + 2) 77 [.ref 153, .int x] W Q := by
  refine sx_77 x W fun W1 e1 => row_clear (r := 157) rfl fun W2 r2 f2 => ?_
  refine h W2 (by rw [f2 153 (by decide), e1, uw_s]) r2 ?_
  exact (show EqX srl W W1 by rw [e1]; exact EqX.uw (by simp [srl])).tr (f2.mono (by decide))
end SEARCH
