/-! ===== a whole graph laid, block by block ===== -/
def t1e (bes : gE) (y : Nat) : List Nat :=
  match bes with
  | [] => []
  | g :: _ => if y = g.1 then [g.2] else if y = g.2 then [g.1] else []
noncomputable def lay1 (bes : gE) : Option (Nat → List Nat) :=
  if bes.length = 1 then some (t1e bes) else (layB bes).map fun rs y => tuB rs bes y
def blkE (es : gE) (nb : Nat × Nat → Nat) (k : Nat) : gE := es.filter fun g => decide (nb g = k)
noncomputable def layK (es : gE) (nb : Nat × Nat → Nat) : Nat → Option (Nat → List Nat)
  | 0 => some fun _ => []
  | k + 1 => (layK es nb k).bind fun R => (lay1 (blkE es nb k)).map fun T y => R y ++ T y
noncomputable def layG (V : Nat) (es : gE) : Option (Nat → List Nat) := layK es (bnum es (Classical.epsilon (BlkOK V es))) (bcnt es (Classical.epsilon (BlkOK V es)))
theorem layK_congr {es : gE} {nb nb' : Nat × Nat → Nat} (h : ∀ g, g ∈ es → nb g = nb' g) : ∀ k, layK es nb k = layK es nb' k
  | 0 => rfl
  | k + 1 => by
    have : blkE es nb k = blkE es nb' k := List.filter_congr fun g hg => by rw [h g hg]
    rw [layK, layK, layK_congr h k, this]
theorem layG_eq {V : Nat} {es : gE} (hO : okE V es) {L : Nat × Nat → Nat} (h : BlkOK V es L) : layG V es = layK es (bnum es L) (bcnt es L) := by
  obtain ⟨h1, h2⟩ := blk_num hO (Classical.epsilon_spec (p := BlkOK V es) ⟨L, h⟩) h
  unfold layG
  rw [h1, layK_congr h2]
theorem run_ok {V : Nat} {bes : gE} (hV : V ≤ 20) (hO : okE V bes) (h2 : TwoC bes) : ∀ (f : Nat) (s : List (List Nat) × gE) (rs : List (List Nat)), LI V bes s → runB bes f s = some rs → ∃ s', s'.1 = rs ∧ LI V bes s' ∧ s'.2.length = bes.length
  | 0, s, rs, _, h => by cases h
  | f + 1, s, rs, hL, h => by
    rw [runB] at h
    by_cases e : reps bes s.2 = []
    · rw [if_pos e] at h
      cases h
      exact ⟨s, rfl, hL, (reps_len hO hL.1.1 hL.1.2.1).mp e⟩
    · rw [if_neg e] at h
      cases hc : cho bes s.2 s.1 (reps bes s.2) with
      | none => rw [hc] at h; cases h
      | some g =>
        rw [hc] at h
        obtain ⟨gm, i, hi⟩ := cho_some hc
        obtain ⟨g1, g2⟩ := reps_mem gm
        exact run_ok hV hO h2 f _ rs (li_stp hV hO h2 hL g1 g2 hi).1 h
theorem layB_ok {V : Nat} {bes : gE} (hV : V ≤ 20) (hO : okE V bes) (h2 : TwoC bes) (h1 : bes.length ≠ 1) {rs : List (List Nat)} (h : layB bes = some rs) : ∃ s, s.1 = rs ∧ LI V bes s ∧ s.2.length = bes.length := by
  cases bes with
  | nil => cases h
  | cons g t =>
    have ht : t ≠ [] := fun e => h1 (by rw [e]; rfl)
    exact run_ok hV hO h2 61 _ rs (li_st0 (lo := g.1) (hi := g.2) (t := t) hV hO h2 rfl ht) h
theorem lay1_ok {V : Nat} {bes : gE} (hV : V ≤ 20) (hO : okE V bes) (h2 : TwoC bes) {T : Nat → List Nat} (h : lay1 bes = some T) (y : Nat) : (T y).Nodup ∧ ∀ x, x ∈ T y ↔ adj bes y x = true := by
  unfold lay1 at h
  by_cases e : bes.length = 1
  · rw [if_pos e] at h
    cases h
    obtain ⟨g, rfl⟩ := List.length_eq_one_iff.mp e
    have hg := hO.1 g (by simp)
    unfold t1e
    have hadj : ∀ x, adj [g] y x = true ↔ (y = g.1 ∧ x = g.2) ∨ (y = g.2 ∧ x = g.1) := fun x => by
      rw [adj_one]
      simp
      omega
    by_cases e1 : y = g.1
    · simp only [if_pos e1]
      refine ⟨by simp, fun x => ?_⟩
      rw [hadj, List.mem_singleton]
      omega
    · by_cases e2 : y = g.2
      · simp only [if_neg e1, if_pos e2]
        refine ⟨by simp, fun x => ?_⟩
        rw [hadj, List.mem_singleton]
        omega
      · simp only [if_neg e1, if_neg e2]
        refine ⟨by simp, fun x => ?_⟩
        rw [hadj]
        simp [e1, e2]
  · rw [if_neg e] at h
    cases hb : layB bes with
    | none => rw [hb] at h; cases h
    | some rs =>
      rw [hb] at h
      cases h
      obtain ⟨s, e1, hL, he⟩ := layB_ok hV hO h2 e hb
      obtain ⟨t1, t2, -, -⟩ := tuB_ok hV hO hL he y
      rw [← e1]
      exact ⟨t1, t2⟩
theorem layK_ok {V : Nat} {es : gE} (hV : V ≤ 20) (hO : okE V es) {L : Nat × Nat → Nat} (hB : BlkOK V es L) : ∀ (k : Nat) (R : Nat → List Nat), layK es (bnum es L) k = some R → ∀ y, (R y).Nodup ∧ ∀ x, x ∈ R y ↔ adj (es.filter fun g => decide (bnum es L g < k)) y x = true
  | 0, R, h, y => by
    cases h
    refine ⟨List.nodup_nil, fun x => ?_⟩
    have : (es.filter fun g => decide (bnum es L g < 0)) = [] := List.filter_eq_nil_iff.mpr fun g _ => by simp
    rw [this, adj_nil]
    simp
  | k + 1, R, h, y => by
    rw [layK] at h
    cases hk : layK es (bnum es L) k with
    | none => rw [hk] at h; cases h
    | some R0 =>
      rw [hk, Option.bind_some] at h
      cases h1 : lay1 (blkE es (bnum es L) k) with
      | none => rw [h1] at h; cases h
      | some T =>
        rw [h1] at h
        cases h
        obtain ⟨a1, a2⟩ := layK_ok hV hO hB k R0 hk y
        obtain ⟨b1, b2⟩ := lay1_ok hV (okE_sub hO List.filter_sublist) (blk_TwoC hO hB k) h1 y
        have b2 : ∀ x, x ∈ T y ↔ adj (blkE es (bnum es L) k) y x = true := b2
        have m1 : ∀ u v, adj (es.filter fun g => decide (bnum es L g < k)) u v = true ↔ ∃ g, g ∈ es ∧ bnum es L g < k ∧ (g = (u, v) ∨ g = (v, u)) := fun u v => by
          rw [adj_iff, List.mem_filter, List.mem_filter]
          simp only [decide_eq_true_eq]
          constructor
          · rintro (q | q)
            · exact ⟨_, q.1, q.2, Or.inl rfl⟩
            · exact ⟨_, q.1, q.2, Or.inr rfl⟩
          · rintro ⟨g, g1, g2, g3 | g3⟩
            · rw [g3] at g1 g2; exact Or.inl ⟨g1, g2⟩
            · rw [g3] at g1 g2; exact Or.inr ⟨g1, g2⟩
        have m2 : ∀ u v, adj (blkE es (bnum es L) k) u v = true ↔ ∃ g, g ∈ es ∧ bnum es L g = k ∧ (g = (u, v) ∨ g = (v, u)) := fun u v => by
          rw [blkE, adj_iff, List.mem_filter, List.mem_filter]
          simp only [decide_eq_true_eq]
          constructor
          · rintro (q | q)
            · exact ⟨_, q.1, q.2, Or.inl rfl⟩
            · exact ⟨_, q.1, q.2, Or.inr rfl⟩
          · rintro ⟨g, g1, g2, g3 | g3⟩
            · rw [g3] at g1 g2; exact Or.inl ⟨g1, g2⟩
            · rw [g3] at g1 g2; exact Or.inr ⟨g1, g2⟩
        have m3 : ∀ u v, adj (es.filter fun g => decide (bnum es L g < k + 1)) u v = true ↔ ∃ g, g ∈ es ∧ bnum es L g < k + 1 ∧ (g = (u, v) ∨ g = (v, u)) := fun u v => by
          rw [adj_iff, List.mem_filter, List.mem_filter]
          simp only [decide_eq_true_eq]
          constructor
          · rintro (q | q)
            · exact ⟨_, q.1, q.2, Or.inl rfl⟩
            · exact ⟨_, q.1, q.2, Or.inr rfl⟩
          · rintro ⟨g, g1, g2, g3 | g3⟩
            · rw [g3] at g1 g2; exact Or.inl ⟨g1, g2⟩
            · rw [g3] at g1 g2; exact Or.inr ⟨g1, g2⟩
        refine ⟨List.nodup_append.mpr ⟨a1, b1, fun x hx z hz e => ?_⟩, fun x => ?_⟩
        · rw [← e] at hz
          obtain ⟨g, g1, g2, g3⟩ := (m1 y x).mp ((a2 x).mp hx)
          obtain ⟨f, f1, f2, f3⟩ := (m2 y x).mp ((b2 x).mp hz)
          have hg := hO.1 g g1
          have hf := hO.1 f f1
          have : g = f := by
            rcases g3 with q | q <;> rcases f3 with w | w <;> rw [q] at hg ⊢ <;> rw [w] at hf ⊢ <;> simp only at hg hf <;> omega
          rw [this] at g2
          omega
        · show x ∈ R0 y ++ T y ↔ _
          rw [List.mem_append, a2, b2, m1, m2, m3]
          constructor
          · rintro (⟨g, g1, g2, g3⟩ | ⟨g, g1, g2, g3⟩)
            · exact ⟨g, g1, by omega, g3⟩
            · exact ⟨g, g1, by omega, g3⟩
          · rintro ⟨g, g1, g2, g3⟩
            by_cases e : bnum es L g = k
            · exact Or.inr ⟨g, g1, e, g3⟩
            · exact Or.inl ⟨g, g1, by omega, g3⟩
/-- the rows of a laid graph are its neighbours -/
theorem layG_ok {V : Nat} {es : gE} (hV : V ≤ 20) (hO : okE V es) {L : Nat × Nat → Nat} (hB : BlkOK V es L) {R : Nat → List Nat} (h : layG V es = some R) (y : Nat) : (R y).Nodup ∧ ∀ x, x ∈ R y ↔ adj es y x = true := by
  rw [layG_eq hO hB] at h
  obtain ⟨a1, a2⟩ := layK_ok hV hO hB _ R h y
  refine ⟨a1, fun x => ?_⟩
  rw [a2, List.filter_eq_self.mpr fun g hg => by simpa using bnum_lt hg]
def ll : List Nat := (List.range 151).map fun i => 9 + i
theorem mem_ll {a : Nat} : a ∈ ll ↔ 9 ≤ a ∧ a < 160 := by
  unfold ll
  rw [List.mem_map]
  constructor
  · rintro ⟨i, hi, rfl⟩
    have := List.mem_range.mp hi; omega
  · intro h
    exact ⟨a - 9, List.mem_range.mpr (by omega), by omega⟩
section LYE
variable {d : Nat} {Q : fl_R} {W : fl_W} {V b : Nat} {es : gE}
/-- cells of a net that lies outside of Layout -/
theorem net_ll {b : Nat} (hb : fl_net b) (h60 : b ≠ 60) (h64 : b ≠ 64) : ∀ a ∈ nl b, a ∉ ll := by
  intro a ha hc
  rw [mem_ll] at hc
  simp only [nl, List.mem_cons, List.not_mem_nil, or_false] at ha
  have h1 := net_bases b (fl_lt hb) hb
  omega
theorem bll_lyl : ∀ a ∈ bll, a ∉ lyl := fun a ha hc => by rw [mem_lyl] at hc; simp [bll] at ha; omega
theorem lyl_ll : ∀ a ∈ lyl, a ∈ ll := fun a ha => by rw [mem_lyl] at ha; rw [mem_ll]; omega
theorem tl_ll : ∀ a ∈ tl 18, a ∈ ll := fun a ha => by rw [mem_tl] at ha; rw [mem_ll]; omega
theorem tnl_ll : ∀ a ∈ tnl, a ∈ ll := fun a ha => by
  rw [mem_ll]
  rcases List.mem_cons.mp ha with e | e
  · omega
  · rw [mem_tl] at e; omega
theorem nl60_ll : ∀ a ∈ nl 60, a ∈ ll := fun a ha => by simp [nl] at ha; rw [mem_ll]; omega
theorem ly_all_l {L : Nat × Nat → Nat} (hb : fl_net b) (h60 : b ≠ 60) (h64 : b ≠ 64) (hB : BlkOK V es L) : ∀ (n k : Nat) (W : fl_W) (R : Nat → List Nat), bcnt es L - k = n → k ≤ bcnt es L → NetR W b V es → W 10 8 = nI (bcnt es L) → (∀ j g, es[j]? = some g → W 15 j = nI (bnum es L g)) → layK es (bnum es L) k = some R → TurR W 18 R →
    (∀ W' R', layK es (bnum es L) (bcnt es L) = some R' → TurR W' 18 R' → EqX ll W W' → Q (some (.int 1)) W') →
    (∀ W', layK es (bnum es L) (bcnt es L) = none → EqX ll W W' → Q (some (.int 0)) W') → hd_27_17 (d + 5) Q b (nI k) W := by
  have hdis := net_ll hb h60 h64
  have hd60 := net_dis hb n60 h60
  intro n
  induction n with
  | zero =>
    intro k W R h1 h2 hN h8 h15 hK hT hy h0
    have hbc : bcnt es L < 2 ^ 31 := by
      have : bcnt es L ≤ es.length := by
        unfold bcnt
        have hn := dst_nd (es.map L) [] List.nodup_nil
        have := nd_sub_len (l := dst [] (es.map L)) (m := es.map L) hn fun x hx => ((dst_mem _ _ _).mp hx).resolve_left List.not_mem_nil
        rwa [List.length_map] at this
      have := hN.2.1
      omega
    have hk : k = bcnt es L := by omega
    subst hk
    refine sx_27_17 b _ W hb ⟨fun q => absurd q ?_, fun _ => hy W R hK hT EqX.rf⟩
    rw [h8]; exact nI_nlt (Nat.le_refl _) hbc
  | succ n ih =>
    intro k W R h1 h2 hN h8 h15 hK hT hy h0
    have hbc : bcnt es L ≤ es.length := by
      unfold bcnt
      have hn := dst_nd (es.map L) [] List.nodup_nil
      have := nd_sub_len (l := dst [] (es.map L)) (m := es.map L) hn fun x hx => ((dst_mem _ _ _).mp hx).resolve_left List.not_mem_nil
      rwa [List.length_map] at this
    have hl60 := hN.2.1
    have hV := hN.1
    have hO := hN.2.2.1
    have hkb : k < bcnt es L := by omega
    have hOb : okE V (blkE es (bnum es L) k) := okE_sub hO List.filter_sublist
    have h2C : TwoC (blkE es (bnum es L) k) := blk_TwoC hO hB k
    have hlb : (blkE es (bnum es L) k).length ≤ 60 := Nat.le_trans (List.filter_sublist.length_le) hl60
    obtain ⟨g0, gm, gk⟩ := bnum_ex hkb
    have hbne : blkE es (bnum es L) k ≠ [] := fun e => by
      have : g0 ∈ blkE es (bnum es L) k := List.mem_filter.mpr ⟨gm, by simp [gk]⟩
      rw [e] at this
      exact absurd this List.not_mem_nil
    have hRok := layK_ok hV hO hB k R hK
    -- room in the rows
    have hroom : ∀ (T : Nat → List Nat), lay1 (blkE es (bnum es L) k) = some T → ∀ y, (R y).length + (T y).length ≤ 20 := fun T hT1 y => by
      have := layK_ok hV hO hB (k + 1) (fun y => R y ++ T y) (by rw [layK, hK, hT1]; rfl) y
      have hn := nd_le 20 this.1 fun x hx => by
        have h3 := (this.2 x).mp hx
        have := (adj_lt (okE_sub hO List.filter_sublist) h3).2.1
        omega
      rwa [List.length_append] at hn
    refine sx_27_17 b _ W hb ⟨fun _ => ?_, fun q => absurd ?_ q⟩
    · refine ly_take hb h60 (nb := bnum es L) (by omega) (fun g hg => by have := bnum_lt (L := L) hg; omega) hN h15 fun W3 p1 p2 => ?_
      have hN3 := hN.fr p2 hd60
      have e3 : ∀ a, 10 ≤ a → a < 60 → W3 a = W a := fun a h1 h2 => p2 a (by simp [nl]; omega)
      have hT3 := hT.fr p2 (fun a ha hc => by rw [mem_tl] at ha; simp [nl] at hc; omega)
      have p1 : NetR W3 60 V (blkE es (bnum es L) k) := p1
      generalize hbes : blkE es (bnum es L) k = bes at *
      -- on with the next
      have next : ∀ (W' : fl_W) (T : Nat → List Nat), lay1 bes = some T → TurR W' 18 (fun y => R y ++ T y) → EqX ll W W' → (∀ a, a ∈ bll → W' a = W a) → hd_27_17 (d + 5) Q b (nI k + Int32.ofInt 1) W' := fun W' T hT1 hT' hE hbl => by
        rw [ci_1, nI_add]
        refine ih (k + 1) W' (fun y => R y ++ T y) (by omega) (by omega) (hN.fr hE hdis) (by rw [hbl 10 (by decide)]; exact h8) (fun j g hj => by rw [hbl 15 (by decide)]; exact h15 j g hj) (by rw [layK, hK, hbes, hT1]; rfl) hT' (fun W'' R' j1 j2 j3 => hy W'' R' j1 j2 (hE.tr j3)) fun W'' j1 j2 => h0 W'' j1 (hE.tr j2)
      refine ⟨fun z => ?_, fun z => ?_⟩
      · rw [p1.2.2.2.2.1, ci_1, nI_eq (by omega) (by omega)] at z
        obtain ⟨g, hg⟩ := List.length_eq_one_iff.mp z
        have hl1 : lay1 bes = some (t1e bes) := by unfold lay1; rw [if_pos z]
        have g0' : bes[0]? = some g := by rw [hg]; rfl
        have hgb := hOb.1 g (List.mem_of_getElem? g0')
        have rm := hroom _ hl1
        have t1 : t1e bes g.1 = [g.2] := by rw [hg]; simp [t1e]
        have t2 : t1e bes g.2 = [g.1] := by
          rw [hg]
          have : ¬ g.2 = g.1 := by omega
          simp [t1e, this]
        have r1 := rm g.1
        have r2 := rm g.2
        rw [t1] at r1
        rw [t2] at r2
        simp only [List.length_cons, List.length_nil] at r1 r2
        rw [ci_0]
        refine net_low n60 p1 g0' (net_high n60 p1 g0' (tur_add (t := 18) rfl hT3 (by omega) (by omega) fun W9 q1 q2 => ?_))
        have p9 : NetR W9 60 V bes := p1.fr q2 (fun a ha hc => by rw [mem_tl] at hc; simp [nl] at ha; omega)
        refine net_high n60 p9 g0' (net_low n60 p9 g0' (tur_add (t := 18) rfl q1 (by omega) (by rw [if_neg (by omega)]; omega) fun W12 u1 u2 => ?_))
        refine next W12 _ hl1 (fun v hv => ?_) (((p2.mono nl60_ll).tr (q2.mono tl_ll)).tr (u2.mono tl_ll)) fun a ha => ?_
        · have := u1 v hv
          have hne : ¬ g.2 = g.1 := by omega
          simp only [if_neg hne] at this
          show RowR W12 (18 + 2 + 2 * v) (nL (R v ++ t1e bes v))
          by_cases e1 : v = g.2
          · rw [if_pos e1] at this
            rw [show t1e bes v = [g.1] by rw [e1]; exact t2, show R v = R g.2 by rw [e1]]
            exact this
          · rw [if_neg e1] at this
            by_cases e2 : v = g.1
            · rw [if_pos e2] at this
              rw [show t1e bes v = [g.2] by rw [e2]; exact t1, show R v = R g.1 by rw [e2]]
              exact this
            · rw [if_neg e2] at this
              have : t1e bes v = [] := by rw [hg]; simp [t1e, e1, e2]
              rw [this, List.append_nil]
              assumption
        · have h18 : a ∉ tl 18 := fun hc => by rw [mem_tl] at hc; simp [bll] at ha; omega
          rw [u2 a h18, q2 a h18, e3 a (by simp [bll] at ha; omega) (by simp [bll] at ha; omega)]
      · rw [p1.2.2.2.2.1, ci_1, nI_eq (by omega) (by omega)] at z
        obtain ⟨g, t, hgt⟩ : ∃ g t, bes = g :: t := by
          cases bes with
          | nil => exact absurd rfl hbne
          | cons g t => exact ⟨g, t, rfl⟩
        have ht : t ≠ [] := fun e => z (by rw [hgt, e]; rfl)
        have hl1 : lay1 bes = (layB bes).map fun rs y => tuB rs bes y := by unfold lay1; rw [if_neg z]
        have hlB : layB bes = runB bes 61 (st0 bes g.1 g.2) := by
          conv => lhs; rw [hgt]
          rw [layB, ← hgt]
        refine ly_first (lo := g.1) (hi := g.2) (t := t) h2C hgt ht p1 fun W4 q1 q2 => ?_
        have hLI := li_st0 (lo := g.1) (hi := g.2) (t := t) hV hOb h2C hgt ht
        refine ly_rest hV hOb h2C hlb q1 hLI (fun W5 s' r1 r2 r3 r4 r5 => ⟨fun w => absurd w (by decide), fun _ => ?_⟩) (fun W5 r1 r2 r3 => ⟨fun _ => ?_, fun w => absurd rfl w⟩)
        · have hl1' : lay1 bes = some fun y => tuB s'.1 bes y := by rw [hl1, hlB, r1]; rfl
          have h18l : ∀ a ∈ tl 18, a ∉ lyl := fun a ha hc => by rw [mem_tl] at ha; rw [mem_lyl] at hc; omega
          refine ly_turn (R0 := R) hOb r3 r4 (fun y _ => hroom _ hl1' y) r2.1 r2.2.2.2 ((hT3.fr q2 h18l).fr r5 h18l) fun W6 u1 u2 => ?_
          refine next W6 _ hl1' u1 ((((p2.mono nl60_ll).tr (q2.mono lyl_ll)).tr (r5.mono lyl_ll)).tr (u2.mono tnl_ll)) fun a ha => ?_
          have ha' := bll_lyl a ha
          rw [u2 a ?_, r5 a ha', q2 a ha', e3 a (by simp [bll] at ha; omega) (by simp [bll] at ha; omega)]
          intro hc
          rcases List.mem_cons.mp hc with e | e
          · simp [bll] at ha; omega
          · rw [mem_tl] at e; simp [bll] at ha; omega
        · refine h0 W5 ?_ (((p2.mono nl60_ll).tr (q2.mono lyl_ll)).tr (r3.mono lyl_ll))
          have hnone : lay1 bes = none := by rw [hl1, hlB, r1]; rfl
          have hk1 : layK es (bnum es L) (k + 1) = none := by rw [layK, hK, hbes, hnone]; rfl
          have mono : ∀ m, layK es (bnum es L) (k + 1 + m) = none := by
            intro m
            induction m with
            | zero => exact hk1
            | succ m ihm => rw [← Nat.add_assoc, layK, ihm]; rfl
          have := mono (bcnt es L - (k + 1))
          rwa [show k + 1 + (bcnt es L - (k + 1)) = bcnt es L by omega] at this
    · rw [h8]; exact nI_lt hkb (by omega)
/-- Layout.lays -/
theorem ly_lays (hb : fl_net b) (h60 : b ≠ 60) (h64 : b ≠ 64) (hN : NetR W b V es)
    (hy : ∀ W' R, layG V es = some R → (∃ L, BlkOK V es L) → TurR W' 18 R → EqX ll W W' → Q (some (.int 1)) W')
    (h0 : ∀ W', layG V es = none → EqX ll W W' → Q (some (.int 0)) W') : fl_cal (d + 6) 27 [.ref 9, .ref b] W Q := by
  refine sx_27 b W hb (bl_find hb hN fun W1 k1 k2 => ?_)
  obtain ⟨L, c, b1, b2, b3, b4, b5⟩ := k1
  rw [layG_eq hN.2.2.1 b1] at hy h0
  have f1 : EqX ll W W1 := k2.mono fun a ha => by simp [bll] at ha; rw [mem_ll]; omega
  refine tur_clear (t := 18) rfl fun W2 p1 p2 => ?_
  have f2 : EqX ll W1 W2 := p2.mono tl_ll
  have hbl : ∀ a ∈ bll, W2 a = W1 a := fun a ha => p2 a fun hc => by rw [mem_tl] at hc; simp [bll] at ha; omega
  rw [ci_0]
  exact ly_all_l hb h60 h64 b1 (bcnt es L) 0 W2 (fun _ => []) (by omega) (Nat.zero_le _) ((hN.fr f1 (net_ll hb h60 h64)).fr f2 (net_ll hb h60 h64)) (by rw [hbl 10 (by decide)]; exact b4) (fun j g hj => by rw [hbl 15 (by decide)]; exact b5 j g hj) rfl p1 (fun W' R' j1 j2 j3 => hy W' R' j1 ⟨L, b1⟩ j2 ((f1.tr f2).tr j3)) fun W' j1 j2 => h0 W' j1 ((f1.tr f2).tr j2)
end LYE
