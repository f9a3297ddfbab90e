/-! ===== Blocks: rings are closed, numbers are given ===== -/
theorem cnt_drop {p q : Nat → Bool} {a : Nat} : ∀ {n : Nat}, a < n → p a = true → q a = false → (∀ i, i < n → i ≠ a → q i = p i) → cnt q n + 1 = cnt p n
  | 0, h, _, _, _ => by omega
  | n + 1, h, hp, hq, he => by
    rw [cnt, cnt]
    by_cases e : a = n
    · subst e
      rw [hp, hq, cnt_congr (p := q) (q := p) fun i hi => he i (by omega) (by omega)]
      simp
    · have := cnt_drop (p := p) (q := q) (a := a) (n := n) (by omega) hp hq fun i hi hne => he i (by omega) hne
      rw [he n (by omega) (fun z => e z.symm)]
      omega
theorem cnt_all {p : Nat → Bool} : ∀ {n : Nat}, (∀ i, i < n → p i = true) → cnt p n = n
  | 0, _ => rfl
  | n + 1, h => by rw [cnt, cnt_all fun i hi => h i (by omega), h n (by omega)]; simp
theorem cnt_pos {p : Nat → Bool} {a : Nat} : ∀ {n : Nat}, a < n → p a = true → 1 ≤ cnt p n
  | 0, h, _ => by omega
  | n + 1, h, hp => by
    rw [cnt]
    by_cases e : a = n
    · subst e; rw [hp]; simp
    · have := cnt_pos (p := p) (a := a) (n := n) (by omega) hp
      omega
def UF (W : fl_W) (V : Nat) (st ht : Nat → Nat) : Prop := ∀ x, x < V → st x < V ∧ ht (st x) = 0 ∧ st (st x) = st x ∧ (ht x = 0 → st x = x ∧ W 13 x = nI x) ∧ (ht x ≠ 0 → ∃ y, y < V ∧ y ≠ x ∧ W 13 x = nI y ∧ ht x = ht y + 1 ∧ st y = st x) ∧ ht x + cnt (fun v => decide (ht v = 0)) V ≤ V
def UI (W : fl_W) (V : Nat) (ps : List (Nat × Nat)) (st ht : Nat → Nat) : Prop := UF W V st ht ∧ (∀ p, p ∈ ps → st p.1 = st p.2) ∧ ∀ f : Nat → Nat, (∀ p, p ∈ ps → f p.1 = f p.2) → ∀ x, x < V → f (st x) = f x
theorem UF.fr {W W' : fl_W} {V : Nat} {st ht : Nat → Nat} (h : UF W V st ht) (e : W' 13 = W 13) : UF W' V st ht := fun x hx => by rw [e]; exact h x hx
theorem UI.fr {W W' : fl_W} {V : Nat} {ps : List (Nat × Nat)} {st ht : Nat → Nat} (h : UI W V ps st ht) (e : W' 13 = W 13) : UI W' V ps st ht := ⟨h.1.fr e, h.2⟩
theorem UF.ht {W : fl_W} {V : Nat} {st ht : Nat → Nat} (h : UF W V st ht) {x : Nat} (hx : x < V) : ht x < V := by
  obtain ⟨a1, a2, _, _, _, a6⟩ := h x hx
  have := cnt_pos (p := fun v => decide (ht v = 0)) a1 (decide_eq_true a2)
  omega
def FF (W : fl_W) (V : Nat) (far par : Nat → Nat) : Prop := ∀ x, x < V → W 12 x = nI (far x) ∧ (far x ≠ 0 → W 11 x = nI (par x))
def dpr (far : Nat → Nat) (g : Nat × Nat) : Nat := if far g.2 < far g.1 then g.1 else g.2
section BLM
variable {d : Nat} {Q : fl_R} {b : Nat} {W : fl_W} {V : Nat} {es : gE} {far par rt st ht : Nat → Nat} {ps : List (Nat × Nat)}
theorem bl_of {i : Nat} (hi : i < 60) (h : Q (some (.int (W 15 i))) W) : fl_cal (d + 1) 1 [.ref 10, .int (nI i)] W Q := by
  refine sx_1 _ W ⟨fun q => absurd q (nI_pos (by omega)), fun _ => ⟨fun _ => ⟨in_N hi (by omega), ?_⟩, fun q => absurd ?_ q⟩⟩
  · rw [nI_clamp (by omega)]; exact h
  · rw [cb_60]; exact nI_lt hi (by omega)
theorem bl_deep {u v : Nat} (hV : V ≤ 20) (hF : FF W V far par) (hB : ∀ x, x < V → far x < V) (hu : u < V) (hv : v < V) (h : Q (some (.int (nI (dpr far (u, v))))) W) : fl_cal (d + 2) 5 [.ref 10, .int (nI u), .int (nI v)] W Q := by
  refine sx_5 _ _ W (st_can ?_)
  rw [ixB_N (by omega), decide_eq_true (by omega)]
  refine ⟨fun z => absurd z (by decide), fun _ => st_can ?_⟩
  rw [ixB_N (by omega), decide_eq_true (by omega)]
  refine ⟨fun z => absurd z (by decide), fun _ => ⟨in_N (by omega) (by omega), in_N (by omega) (by omega), ?_⟩⟩
  have h1 := hB u hu
  have h2 := hB v hv
  rw [nI_clamp (by omega), nI_clamp (by omega), (hF u hu).1, (hF v hv).1]
  refine ⟨fun z => ?_, fun z => ?_⟩
  · rw [i_le, nI_toInt (by omega), nI_toInt (by omega)] at z
    rw [dpr, if_neg (by simp only; omega)] at h; exact h
  · rw [i_le, nI_toInt (by omega), nI_toInt (by omega)] at z
    rw [dpr, if_pos (by simp only; omega)] at h; exact h
theorem bl_sf_l (hV : V ≤ 20) (hU : UF W V st ht) : ∀ (n a s : Nat), a < V → ht a = n → s + n < 20 → Q (some (.int (nI (st a)))) W → hd_8_4 d Q (nI a) (nI s) W := by
  intro n
  induction n with
  | zero =>
    intro a s ha hn hs h
    obtain ⟨a1, a2, a3, a4, a5, a6⟩ := hU a ha
    refine sx_8_4 _ _ W ⟨fun _ => ⟨fun z => absurd z (nI_pos (by omega)), fun _ => ⟨fun _ => ⟨in_N (by omega) (by omega), ?_⟩, fun z => absurd ?_ z⟩⟩, fun z => absurd ?_ z⟩
    · rw [nI_clamp (by omega), (a4 hn).2]
      refine ⟨fun _ => ?_, fun z => absurd rfl z⟩
      rw [(a4 hn).1] at h; exact h
    · rw [cb_20]; exact nI_lt (by omega) (by omega)
    · rw [cb_20]; exact nI_lt (by omega) (by omega)
  | succ n ih =>
    intro a s ha hn hs h
    obtain ⟨a1, a2, a3, a4, a5, a6⟩ := hU a ha
    obtain ⟨y, y1, y2, y3, y4, y5⟩ := a5 (by omega)
    refine sx_8_4 _ _ W ⟨fun _ => ⟨fun z => absurd z (nI_pos (by omega)), fun _ => ⟨fun _ => ⟨in_N (by omega) (by omega), ?_⟩, fun z => absurd ?_ z⟩⟩, fun z => absurd ?_ z⟩
    · rw [nI_clamp (by omega), y3]
      refine ⟨fun z => absurd z (nI_ne (by omega) (by omega) y2), fun _ => ⟨in_N (by omega) (by omega), ?_⟩⟩
      rw [ci_1, nI_add]
      exact ih y (s + 1) y1 (by omega) (by omega) (by rw [y5]; exact h)
    · rw [cb_20]; exact nI_lt (by omega) (by omega)
    · rw [cb_20]; exact nI_lt (by omega) (by omega)
theorem bl_sf {a : Nat} (hV : V ≤ 20) (hU : UF W V st ht) (ha : a < V) (h : Q (some (.int (nI (st a)))) W) : fl_cal (d + 1) 8 [.ref 10, .int (nI a)] W Q :=
  sx_8 _ W (bl_sf_l hV hU (ht a) a 0 ha rfl (by have := hU.ht ha; omega) h)
theorem UI.merge {W' : fl_W} (h : UI W V ps st ht) {u v : Nat} (hu : u < V) (hv : v < V) (e : W' 13 = upd (W 13) (st u) (nI (st v))) : ∃ st' ht', UI W' V (ps ++ [(u, v)]) st' ht' := by
  obtain ⟨hU, hC, hS⟩ := h
  obtain ⟨u1, u2, u3, u4, u5, u6⟩ := hU u hu
  obtain ⟨v1, v2, v3, v4, v5, v6⟩ := hU v hv
  by_cases hab : st u = st v
  · refine ⟨st, ht, fun x hx => ?_, fun p hp => ?_, fun f hf x hx => hS f (fun p hp => hf p (List.mem_append_left _ hp)) x hx⟩
    · have e2 : W' 13 = W 13 := by
        rw [e]
        funext j
        by_cases hj : j = st u
        · have h9 := ((hU (st u) u1).2.2.2.1 u2).2
          rw [hj, upd_s, ← hab, h9]
        · rw [upd_n hj]
      rw [e2]
      exact hU x hx
    · rcases List.mem_append.mp hp with z | z
      · exact hC p z
      · rw [List.mem_singleton.mp z]; exact hab
  · have hst : ∀ x, x < V → ht x = 0 → st x = x := fun x hx h0 => ((hU x hx).2.2.2.1 h0).1
    refine ⟨fun x => if st x = st u then st v else st x, fun x => if st x = st u then ht x + 1 else ht x, fun x hx => ?_, fun p hp => ?_, fun f hf x hx => ?_⟩
    · obtain ⟨x1, x2, x3, x4, x5, x6⟩ := hU x hx
      have hcnt : cnt (fun v => decide ((if st v = st u then ht v + 1 else ht v) = 0)) V + 1 = cnt (fun v => decide (ht v = 0)) V := by
        refine cnt_drop u1 (decide_eq_true u2) ?_ fun i hi hne => ?_
        · rw [if_pos u3]; exact decide_eq_false (by omega)
        · by_cases hs : st i = st u
          · rw [if_pos hs, decide_eq_false (by omega), decide_eq_false fun z => ?_]
            exact hne ((hst i hi z).symm.trans hs)
          · rw [if_neg hs]
      by_cases hs : st x = st u
      · simp only [if_pos hs]
        refine ⟨v1, ?_, ?_, fun z => by omega, fun _ => ?_, by omega⟩
        · rw [if_neg (by rw [v3]; exact fun z => hab z.symm)]; exact v2
        · rw [if_neg (by rw [v3]; exact fun z => hab z.symm)]; exact v3
        · by_cases h0 : ht x = 0
          · have hxu : x = st u := (hst x hx h0).symm.trans hs
            refine ⟨st v, v1, fun z => hab (by rw [z, hxu]), ?_, ?_, ?_⟩
            · rw [e, hxu, upd_s]
            · rw [if_neg (by rw [v3]; exact fun z => hab z.symm), h0, v2]
            · rw [if_neg (by rw [v3]; exact fun z => hab z.symm)]; exact v3
          · obtain ⟨y, y1, y2, y3, y4, y5⟩ := x5 h0
            have hxu : x ≠ st u := fun z => h0 (by rw [z]; exact u2)
            refine ⟨y, y1, y2, ?_, ?_, ?_⟩
            · rw [e, upd_n hxu]; exact y3
            · rw [if_pos (by rw [y5]; exact hs)]; omega
            · rw [if_pos (by rw [y5]; exact hs)]
      · simp only [if_neg hs]
        have hs2 : ¬ st (st x) = st u := by rw [x3]; exact hs
        have hxu : x ≠ st u := fun z => hs (by rw [z]; exact u3)
        refine ⟨x1, by rw [if_neg hs2]; exact x2, by rw [if_neg hs2]; exact x3, fun z => ?_, fun z => ?_, by omega⟩
        · rw [e, upd_n hxu]; exact x4 z
        · obtain ⟨y, y1, y2, y3, y4, y5⟩ := x5 z
          refine ⟨y, y1, y2, by rw [e, upd_n hxu]; exact y3, ?_, ?_⟩
          · rw [if_neg (by rw [y5]; exact hs)]; exact y4
          · rw [if_neg (by rw [y5]; exact hs)]; exact y5
    · rcases List.mem_append.mp hp with z | z
      · simp only [hC p z]
      · rw [List.mem_singleton.mp z]
        simp only [if_true]
        split <;> rfl
    · have h1 := hS f (fun p hp => hf p (List.mem_append_left _ hp))
      have h2 := hf (u, v) (by simp)
      simp only
      by_cases hs : st x = st u
      · rw [if_pos hs, h1 v hv, ← h2, ← h1 u hu, ← hs]
        exact h1 x hx
      · rw [if_neg hs]; exact h1 x hx
theorem bl_merge {u v : Nat} (hV : V ≤ 20) (hU : UI W V ps st ht) (hu : u < V) (hv : v < V) (h : ∀ W' st' ht', UI W' V (ps ++ [(u, v)]) st' ht' → EqX [13] W W' → Q none W') : fl_cal (d + 2) 7 [.ref 10, .int (nI u), .int (nI v)] W Q := by
  have l1 := (hU.1 u hu).1
  have l2 := (hU.1 v hv).1
  refine sx_7 _ _ W (bl_sf hV hU.1 hu (bl_sf hV hU.1 hv (st_can ?_)))
  rw [ixB_N (by omega), decide_eq_true (by omega)]
  refine ⟨fun z => absurd z (by decide), fun _ => st_can ?_⟩
  rw [ixB_N (by omega), decide_eq_true (by omega)]
  refine ⟨fun z => absurd z (by decide), fun _ => ⟨in_N (by omega) (by omega), fun W5 e5 => ?_⟩⟩
  rw [nI_clamp (by omega)] at e5
  obtain ⟨st', ht', hU'⟩ := hU.merge (W' := W5) hu hv (by rw [e5]; simp [fl_uw])
  exact h W5 st' ht' hU' (by rw [e5]; exact EqX.uw (by simp))
/-- the pairs that an edge's ring merges -/
def mrg (far par : Nat → Nat) (g : Nat × Nat) : List (Nat × Nat) := (wlk far par false 40 g.1 g.2).map fun x => (dpr far g, x)
theorem bl_close_l {fst : Nat} (hV : V ≤ 20) (hFr : Frs V es far par rt) (hfst : fst < V) : ∀ (n u v : Nat) (W : fl_W) (ps : List (Nat × Nat)) (st ht : Nat → Nat), n ≤ 40 → u < V → v < V → rt u = rt v → FF W V far par → UI W V ps st ht →
    (∀ W' st' ht', UI W' V (ps ++ (wlk far par false n u v).map fun x => (fst, x)) st' ht' → EqX [13] W W' → Q none W') → hd_6_17 (d + 2) Q (nI u) (nI v) (nI fst) (nI (40 - n)) W := by
  have hB : ∀ x, x < V → far x < V := fun x hx => frs_far hFr hx
  intro n
  induction n with
  | zero =>
    intro u v W ps st ht h1 hu hv hr hF hU h
    refine sx_6_17 _ _ _ _ W ⟨fun z => absurd z ?_, fun _ => h W st ht (by rw [wlk, List.map_nil, List.append_nil]; exact hU) EqX.rf⟩
    rw [cb_40]; exact nI_nlt (by omega) (by omega)
  | succ n ih =>
    intro u v W ps st ht h1 hu hv hr hF hU h
    refine sx_6_17 _ _ _ _ W ⟨fun _ => ⟨fun z => ?_, fun z => ?_⟩, fun z => absurd ?_ z⟩
    · rw [nI_eq (by omega) (by omega)] at z
      exact h W st ht (by rw [wlk, if_pos z, List.map_nil, List.append_nil]; exact hU) EqX.rf
    · have hne : u ≠ v := fun e => z (by rw [e])
      rw [wlk, if_neg hne] at h
      have h0 := hFr.p2 u v hu hv hne hr
      refine bl_deep hV hF hB hu hv ?_
      have hk : pkA far false u v = decide (far v < far u) := rfl
      by_cases hp : far v < far u
      · rw [hk, decide_eq_true hp, if_pos rfl] at h
        rw [dpr, if_pos hp]
        obtain ⟨p1, p2⟩ := hFr.p1 u hu (by omega)
        refine st_can ?_
        rw [ixB_N (by omega), decide_eq_true (by omega)]
        refine ⟨fun z => absurd z (by decide), fun _ => bl_merge hV hU hfst hu fun W4 st4 ht4 u4 f4 => ?_⟩
        refine ⟨fun _ => ⟨in_N (by omega) (by omega), ?_⟩, fun z => absurd rfl z⟩
        have hF4 : FF W4 V far par := fun x hx => by rw [f4 11 (by decide), f4 12 (by decide)]; exact hF x hx
        rw [nI_clamp (by omega), (hF4 u hu).2 (by omega), ci_1, nI_add, show 40 - (n + 1) + 1 = 40 - n by omega]
        refine ih (par u) v W4 _ st4 ht4 (by omega) p1 hv ((hFr.p3 u hu (by omega)).trans hr) hF4 u4 fun W' st' ht' k1 k2 => h W' st' ht' ?_ (f4.tr k2)
        rw [List.map_cons, ← List.singleton_append, ← List.append_assoc]
        exact k1
      · rw [hk, decide_eq_false hp] at h
        simp only [Bool.false_eq_true, if_false] at h
        rw [dpr, if_neg hp]
        obtain ⟨p1, p2⟩ := hFr.p1 v hv (by omega)
        refine st_can ?_
        rw [ixB_N (by omega), decide_eq_true (by omega)]
        refine ⟨fun z => absurd z (by decide), fun _ => bl_merge hV hU hfst hv fun W4 st4 ht4 u4 f4 => ?_⟩
        refine ⟨fun q => absurd q (nI_ne (by omega) (by omega) (Ne.symm hne)), fun _ => ⟨in_N (by omega) (by omega), ?_⟩⟩
        have hF4 : FF W4 V far par := fun x hx => by rw [f4 11 (by decide), f4 12 (by decide)]; exact hF x hx
        rw [nI_clamp (by omega), (hF4 v hv).2 (by omega), ci_1, nI_add, show 40 - (n + 1) + 1 = 40 - n by omega]
        refine ih u (par v) W4 _ st4 ht4 (by omega) hu p1 (hr.trans (hFr.p3 v hv (by omega)).symm) hF4 u4 fun W' st' ht' k1 k2 => h W' st' ht' ?_ (f4.tr k2)
        rw [List.map_cons, ← List.singleton_append, ← List.append_assoc]
        exact k1
    · rw [cb_40]; exact nI_lt (by omega) (by omega)
theorem bl_close {g : Nat × Nat} (hV : V ≤ 20) (hFr : Frs V es far par rt) (hO : okE V es) (hg : g ∈ es) (hF : FF W V far par) (hU : UI W V ps st ht) (h : ∀ W' st' ht', UI W' V (ps ++ mrg far par g) st' ht' → EqX [13] W W' → Q none W') : fl_cal (d + 3) 6 [.ref 10, .int (nI g.1), .int (nI g.2)] W Q := by
  have hp := hO.1 g hg
  have hd : dpr far g < V := by rw [dpr]; split <;> omega
  refine sx_6 _ _ W (bl_deep hV hF (fun x hx => frs_far hFr hx) (by omega) (by omega) ?_)
  exact bl_close_l hV hFr hd 40 g.1 g.2 W ps st ht (Nat.le_refl _) (by omega) (by omega) (hFr.2 g hg) hF hU h
/-- what the merges make of the edges -/
theorem dpr_te (hFr : Frs V es far par rt) {x : Nat} (hx : x < V) (hf : far x ≠ 0) : dpr far (te par x) = x := by
  have h1 := (hFr.p4 x hx hf).1
  rw [dpr, te]
  simp only
  rcases Nat.lt_or_ge x (par x) with q | q
  · rw [show min x (par x) = x by omega, show max x (par x) = par x by omega, if_pos (by omega)]
  · rw [show min x (par x) = par x by omega, show max x (par x) = x by omega, if_neg (by omega)]
theorem dpr_in {g : Nat × Nat} (h : g.1 ≠ g.2) : dpr far g ∈ wlk far par false 40 g.1 g.2 := by
  rw [wlk, if_neg h, dpr]
  have hk : pkA far false g.1 g.2 = decide (far g.2 < far g.1) := rfl
  rw [hk]
  by_cases hp : far g.2 < far g.1
  · rw [decide_eq_true hp, if_pos rfl, if_pos hp]; exact List.mem_cons_self
  · rw [decide_eq_false hp, if_neg hp]; exact List.mem_cons_self
theorem UI.blk (hV : V ≤ 20) (hO : okE V es) (hFr : Frs V es far par rt) (h : UI W V (es.flatMap (mrg far par)) st ht) : BlkOK V es (fun g => st (dpr far g)) := by
  have hFC := frs_FC (tie := false) hO hV hFr
  refine ⟨far, par, wX far par false, hFC, fun g hg x hX => ?_, fun f hf g hg g' hg' hL => ?_⟩
  · obtain ⟨a1, a2⟩ := hFC.2.1 g hg x hX
    show st (dpr far g) = st (dpr far (te par x))
    rw [dpr_te hFr a1 a2]
    exact h.2.1 (dpr far g, x) (List.mem_flatMap.mpr ⟨g, hg, List.mem_map.mpr ⟨x, wX_iff.mp hX, rfl⟩⟩)
  · have self : ∀ g, g ∈ es → f g = f (te par (dpr far g)) := fun g hg => hf g hg _ (wX_iff.mpr (dpr_in (by have := hO.1 g hg; omega)))
    have dl : ∀ g, g ∈ es → dpr far g < V := fun g hg => by
      have := hO.1 g hg
      rw [dpr]; split <;> omega
    have h1 := h.2.2 (fun x => f (te par x)) (fun p hp => by
      obtain ⟨g, hg, hm⟩ := List.mem_flatMap.mp hp
      obtain ⟨x, hx, e⟩ := List.mem_map.mp hm
      rw [← e]
      simp only
      rw [← self g hg]
      exact hf g hg x (wX_iff.mpr hx))
    have e1 := h1 _ (dl g hg)
    have e2 := h1 _ (dl g' hg')
    simp only at hL e1 e2
    rw [hL] at e1
    rw [self g hg, self g' hg', ← e1, ← e2]
/-! numbers -/
theorem bl_num_l (hb : fl_net b) (hFr : Frs V es far par rt) : ∀ (n i : Nat) (W : fl_W), es.length - i = n → i ≤ es.length → NetR W b V es → FF W V far par → UF W V st ht →
    W 10 8 = nI (dst [] ((es.take i).map fun g => st (dpr far g))).length → (∀ x, x < V → W 14 x = if x ∈ dst [] ((es.take i).map fun g => st (dpr far g)) then nI ((dst [] ((es.take i).map fun g => st (dpr far g))).idxOf x) else -1) → (∀ j g, j < i → es[j]? = some g → W 15 j = nI ((dst [] ((es.take i).map fun g => st (dpr far g))).idxOf (st (dpr far g)))) →
    (∀ W', W' 10 8 = nI (bcnt es fun g => st (dpr far g)) → (∀ j g, es[j]? = some g → W' 15 j = nI (bnum es (fun g => st (dpr far g)) g)) → W' 10 7 = W 10 7 → EqX [10, 14, 15] W W' → Q none W') → hd_9_7 (d + 2) Q b (nI i) W := by
  have hB : ∀ x, x < V → far x < V := fun x hx => frs_far hFr hx
  intro n
  induction n with
  | zero =>
    intro i W h1 h2 hN hF hU h8 h14 h15 h
    have hi : i = es.length := by omega
    have hE := hN.2.1
    subst hi
    rw [List.take_length] at h8 h14 h15
    refine sx_9_7 b _ W hb ⟨fun z => absurd z ?_, fun _ => h W h8 (fun j g hj => h15 j g (List.getElem?_eq_some_iff.mp hj).1 hj) rfl EqX.rf⟩
    rw [hN.2.2.2.2.1]; exact nI_nlt (by omega) (by omega)
  | succ n ih =>
    intro i W h1 h2 hN hF hU h8 h14 h15 h
    have hi : i < es.length := by omega
    have hE := hN.2.1
    have hV := hN.1
    have hp := List.getElem?_eq_getElem hi
    generalize es[i] = g at hp
    have hg := List.mem_of_getElem? hp
    have hgp := hN.2.2.1.1 g hg
    have hdl : dpr far g < V := by rw [dpr]; split <;> omega
    have hst := (hU _ hdl).1
    have ht1 : (es.take (i + 1)).map (fun g => st (dpr far g)) = (es.take i).map (fun g => st (dpr far g)) ++ [st (dpr far g)] := by
      rw [List.take_add_one, hp, List.map_append]; rfl
    have hd1 : dst [] ((es.take (i + 1)).map fun g => st (dpr far g)) = if st (dpr far g) ∈ dst [] ((es.take i).map fun g => st (dpr far g)) then dst [] ((es.take i).map fun g => st (dpr far g)) else dst [] ((es.take i).map fun g => st (dpr far g)) ++ [st (dpr far g)] := by
      rw [ht1, dst_app]; rfl
    have hlen : (dst [] ((es.take i).map fun g => st (dpr far g))).length ≤ 20 := by
      refine nd_le 20 (dst_nd _ _ List.nodup_nil) fun x hx => ?_
      rcases (dst_mem _ _ _).mp hx with z | z
      · exact absurd z List.not_mem_nil
      · obtain ⟨g1, z1, z2⟩ := List.mem_map.mp z
        have z3 := hN.2.2.1.1 g1 (List.mem_of_mem_take z1)
        have z4 : dpr far g1 < V := by rw [dpr]; split <;> omega
        have := (hU _ z4).1
        omega
    have hin : ∀ j g1, j < i → es[j]? = some g1 → st (dpr far g1) ∈ dst [] ((es.take i).map fun g => st (dpr far g)) := fun j g1 hj hg1 =>
      (dst_mem _ _ _).mpr (Or.inr (List.mem_map.mpr ⟨g1, List.mem_iff_getElem?.mpr ⟨j, by rw [List.getElem?_take, if_pos hj]; exact hg1⟩, rfl⟩))
    generalize hL : st (dpr far g) = s at *
    generalize hD : dst [] ((es.take i).map fun g => st (dpr far g)) = D at *
    refine sx_9_7 b _ W hb ⟨fun _ => net_low hb hN hp (net_high hb hN hp (bl_deep hV hF hB (by omega) (by omega) (bl_sf hV hU hdl ?_))), fun z => absurd ?_ z⟩
    · rw [hL]
      refine st_can ?_
      rw [ixB_N (by omega), decide_eq_true (by omega)]
      refine ⟨fun z => absurd z (by decide), fun _ => ⟨in_N (by omega) (by omega), ?_⟩⟩
      rw [nI_clamp (by omega), nI_clamp (by omega), h14 s hst, ci_1, nI_add]
      have e1 : ∀ {W' : fl_W}, EqX [10, 14, 15] W W' → NetR W' b V es := fun f => hN.fr (f.mono (by decide)) (net_bll hb)
      have e2 : ∀ {W' : fl_W}, EqX [10, 14, 15] W W' → FF W' V far par := fun f x hx => by rw [f 11 (by decide), f 12 (by decide)]; exact hF x hx
      have e3 : ∀ {W' : fl_W}, EqX [10, 14, 15] W W' → UF W' V st ht := fun f => hU.fr (f 13 (by decide))
      by_cases hs : s ∈ D
      · rw [if_pos hs] at hd1 ⊢
        refine ⟨fun z => absurd z (nI_nm (by have := List.idxOf_lt_length_of_mem hs; omega)), fun _ => ⟨in_N (by omega) (by omega), in_N (by omega) (by omega), fun W7 e7 => ?_⟩⟩
        have f7 : EqX [10, 14, 15] W W7 := by rw [e7]; exact EqX.uw (by simp)
        have a10 : W7 10 = W 10 := by rw [e7]; exact uw_n (by decide)
        refine ih (i + 1) W7 (by omega) (by omega) (e1 f7) (e2 f7) (e3 f7) (by rw [a10, hd1]; exact h8) (fun x hx => ?_) (fun j g1 hj hg1 => ?_) fun W' k1 k2 k3 k4 => h W' k1 k2 (by rw [k3, a10]) (f7.tr k4)
        · rw [e7, uw_n (by decide), hd1]; exact h14 x hx
        · rw [hd1]
          by_cases e : j = i
          · subst e
            rw [hp] at hg1
            cases hg1
            rw [e7, uw_s, hL]
          · rw [e7, uw_m e]; exact h15 j g1 (by omega) hg1
      · rw [if_neg hs] at hd1 ⊢
        refine ⟨fun _ => ⟨in_N (by omega) (by omega), fun W8 e8 W9 e9 => ⟨in_N (by omega) (by omega), in_N (by omega) (by omega), fun W10 e10 => ?_⟩⟩, fun z => absurd rfl z⟩
        have a8 : W8 10 = W 10 := by rw [e8]; exact uw_n (by decide)
        rw [h8] at e8
        have b9 : W9 14 = upd (W 14) s (nI D.length) := by rw [e9, uw_n (by decide), e8]; simp [fl_uw]
        rw [b9, upd_s] at e10
        have f10 : EqX [10, 14, 15] W W10 := by
          rw [e10, e9, e8]
          exact ((EqX.uw (by simp)).tr (EqX.uw (by simp))).tr (EqX.uw (by simp))
        have a10 : W10 10 = W9 10 := by rw [e10]; exact uw_n (by decide)
        refine ih (i + 1) W10 (by omega) (by omega) (e1 f10) (e2 f10) (e3 f10) ?_ (fun x hx => ?_) (fun j g1 hj hg1 => ?_) fun W' k1 k2 k3 k4 => h W' k1 k2 (by rw [k3, a10, e9, uw_m (by decide), a8]) (f10.tr k4)
        · rw [a10, e9, uw_s, a8, h8, nI_add, hd1, List.length_append]; rfl
        · rw [e10, uw_n (by decide), b9, hd1]
          by_cases e : x = s
          · rw [e, upd_s, if_pos (by simp), List.idxOf_append, if_neg hs]
            simp
          · rw [upd_n e, h14 x hx]
            by_cases hx2 : x ∈ D
            · rw [if_pos hx2, if_pos (List.mem_append_left _ hx2), idx_app hx2]
            · rw [if_neg hx2, if_neg (by simp [hx2, e])]
        · rw [hd1]
          by_cases e : j = i
          · subst e
            rw [hp] at hg1
            cases hg1
            rw [e10, uw_s, hL, List.idxOf_append, if_neg hs]
            simp
          · rw [e10, uw_m e]
            have b15 : W9 15 = W 15 := by rw [e9, uw_n (by decide), e8, uw_n (by decide)]
            rw [b15, idx_app (hin j g1 (by omega) hg1)]
            exact h15 j g1 (by omega) hg1
    · rw [hN.2.2.2.2.1]; exact nI_lt hi (by omega)
/-! find -/
def BlkR (W : fl_W) (V : Nat) (es : gE) : Prop := ∃ L c, BlkOK V es L ∧ CmpR V es c ∧ W 10 7 = nI c ∧ W 10 8 = nI (bcnt es L) ∧ ∀ j g, es[j]? = some g → W 15 j = nI (bnum es L g)
theorem bl_find_c {c : Nat} (hb : fl_net b) (hV : V ≤ 20) (hFr : Frs V es far par rt) (hO : okE V es) (hc : CmpR V es c) : ∀ (n i : Nat) (W : fl_W) (st ht : Nat → Nat), es.length - i = n → i ≤ es.length → NetR W b V es → FF W V far par → (∀ x, x < V → W 14 x = -1) → W 10 7 = nI c → UI W V ((es.take i).flatMap (mrg far par)) st ht →
    (∀ W', BlkR W' V es → EqX bll W W' → Q none W') → hd_2_55 (d + 3) Q b (nI i) W := by
  intro n
  induction n with
  | zero =>
    intro i W st ht h1 h2 hN hF h14 h7 hU h
    have hi : i = es.length := by omega
    have hE := hN.2.1
    subst hi
    rw [List.take_length] at hU
    refine sx_2_55 b _ W hb ⟨fun z => absurd z ?_, fun _ => sx_9 b W hb fun W1 e1 => ?_⟩
    · rw [hN.2.2.2.2.1]; exact nI_nlt (by omega) (by omega)
    · have f1 : EqX bll W W1 := by rw [e1]; exact EqX.uw (by simp [bll])
      have g : ∀ a, a ≠ 10 → W1 a = W a := fun a ha => by rw [e1]; exact uw_n ha
      refine bl_num_l (st := st) (ht := ht) hb hFr es.length 0 W1 (by simp) (Nat.zero_le _) (hN.fr f1 (net_bll hb)) (fun x hx => by rw [g 11 (by decide), g 12 (by decide)]; exact hF x hx) (hU.1.fr (g 13 (by decide))) (by rw [e1, uw_s]; rfl) (fun x hx => ?_) (fun j g hj => by omega) fun W' k1 k2 k3 k4 => ?_
      · rw [g 14 (by decide), h14 x hx]; simp [dst]
      · refine h W' ⟨_, c, hU.blk hV hO hFr, hc, ?_, k1, k2⟩ (f1.tr (k4.mono (by decide)))
        rw [k3, e1, uw_m (by decide)]; exact h7
  | succ n ih =>
    intro i W st ht h1 h2 hN hF h14 h7 hU h
    have hi : i < es.length := by omega
    have hE := hN.2.1
    have hp := List.getElem?_eq_getElem hi
    generalize es[i] = g at hp
    have hg := List.mem_of_getElem? hp
    refine sx_2_55 b _ W hb ⟨fun _ => net_low hb hN hp (net_high hb hN hp (bl_close hV hFr hO hg hF hU fun W9 st9 ht9 u9 f9 => ?_)), fun z => absurd ?_ z⟩
    · have f9' : EqX bll W W9 := f9.mono (by decide)
      show hd_2_55 (d + 3) Q b (nI i + Int32.ofInt 1) W9
      rw [ci_1, nI_add]
      refine ih (i + 1) W9 st9 ht9 (by omega) (by omega) (hN.fr f9' (net_bll hb)) (fun x hx => by rw [f9 11 (by decide), f9 12 (by decide)]; exact hF x hx) (fun x hx => by rw [f9 14 (by decide)]; exact h14 x hx) (by rw [f9 10 (by decide)]; exact h7) ?_ fun W' k1 k2 => h W' k1 (f9'.tr k2)
      rw [List.take_add_one, hp, List.flatMap_append]
      simpa using u9
    · rw [hN.2.2.2.2.1]; exact nI_lt hi (by omega)
theorem bl_find_r (hb : fl_net b) : ∀ (n i : Nat) (W : fl_W) (S : Nat → Bool) (far par rt : Nat → Nat), V - i = n → i ≤ V → NetR W b V es → W 10 7 = nI (cnt (fun v => decide (far v = 0)) i) → BS (W 10 6) S → FM W S far par → PF V es S far par rt → Cls es S rt → (∀ u, u < i → S u = true) → (∀ x, S x = true → rt x < i) →
    (∀ W', BlkR W' V es → EqX bll W W' → Q none W') → hd_2_12 (d + 3) Q b (nI i) W := by
  intro n
  induction n with
  | zero =>
    intro i W S far par rt h1 h2 hN h7 hS hM hP hC hall hlt h
    have hi : i = V := by omega
    have hV := hN.1
    subst hi
    have hFr := hP.frs hN.2.2.1 hC hall
    refine sx_2_12 b _ W hb ⟨fun z => absurd z ?_, fun _ => ?_⟩
    · rw [hN.2.2.2.1]; exact nI_nlt (Nat.le_refl _) (by omega)
    · refine bl_find_c hb hV hFr hN.2.2.1 ⟨far, par, rt, hFr, rfl⟩ es.length 0 W (fun x => x) (fun _ => 0) (by simp) (Nat.zero_le _) hN (fun x hx => ⟨(hM x (hall x hx)).1, (hM x (hall x hx)).2.2.2⟩) (fun x hx => (hM x (hall x hx)).2.2.1) h7 ⟨fun x hx => ⟨hx, rfl, rfl, fun _ => ⟨rfl, (hM x (hall x hx)).2.1⟩, fun z => absurd rfl z, ?_⟩, fun p hp => by simp at hp, fun f _ x _ => rfl⟩ h
      have := cnt_le (fun _ => decide (0 = 0)) i
      simp only at this ⊢
      omega
  | succ n ih =>
    intro i W S far par rt h1 h2 hN h7 hS hM hP hC hall hlt h
    have hi : i < V := by omega
    have hV := hN.1
    refine sx_2_12 b _ W hb ⟨fun _ => st_in ?_, fun z => absurd ?_ z⟩
    · rw [inI_N (by omega), hS.lo i (by omega)]
      cases hs : S i with
      | true =>
        refine ⟨fun z => absurd z (by decide), fun _ => ?_⟩
        rw [ci_1, nI_add]
        have hfi : far i ≠ 0 := fun z => by
          have h3 := hlt i hs
          rcases (hP i hs).2.2 with w | w
          · omega
          · exact w.1 z
        refine ih (i + 1) W S far par rt (by omega) (by omega) hN ?_ hS hM hP hC (fun u hu => ?_) (fun x hx => by have := hlt x hx; omega) h
        · rw [cnt, decide_eq_false hfi]; exact h7
        · by_cases e : u = i
          · rw [e]; exact hs
          · exact hall u (by omega)
      | false =>
        refine ⟨fun _ W4 e4 => ?_, fun z => absurd rfl z⟩
        rw [h7, ci_1, nI_add] at e4
        have f4 : EqX bll W W4 := by rw [e4]; exact EqX.uw (by simp [bll])
        have g : ∀ a, a ≠ 10 → W4 a = W a := fun a ha => by rw [e4]; exact uw_n ha
        refine bl_grow (c := cnt (fun v => decide (far v = 0)) i + 1) hb hall hi hs (hN.fr f4 (net_bll hb)) (by rw [e4, uw_s]) (by rw [e4, uw_m (by decide)]; exact hS) (fun x hx => by rw [g 11 (by decide), g 12 (by decide), g 13 (by decide), g 14 (by decide)]; exact hM x hx) hP hC fun W5 S5 far5 par5 rt5 b1 b2 b3 b4 b5 b6 b7 b8 b9 b10 b11 => ?_
        show hd_2_12 (d + 3) Q b (nI i + Int32.ofInt 1) W5
        rw [ci_1, nI_add]
        refine ih (i + 1) W5 S5 far5 par5 rt5 (by omega) (by omega) b1 ?_ b3 b4 b5 b6 (fun u hu => ?_) (fun x hx => ?_) fun W' k1 k2 => h W' k1 ((f4.tr b11).tr k2)
        · rw [b2, cnt, decide_eq_true b9, cnt_congr (p := fun v => decide (far5 v = 0)) (q := fun v => decide (far v = 0)) fun u hu => by rw [(b7 u (hall u hu)).2.1]]
          rfl
        · by_cases e : u = i
          · rw [e]; exact b8
          · exact (b7 u (hall u (by omega))).1
        · cases hx0 : S x with
          | true => have := hlt x hx0; rw [(b7 x hx0).2.2]; omega
          | false => rw [b10 x hx hx0]; omega
    · rw [hN.2.2.2.1]; exact nI_lt hi (by omega)
/-- Blocks.find -/
theorem bl_find (hb : fl_net b) (hN : NetR W b V es) (h : ∀ W', BlkR W' V es → EqX bll W W' → Q none W') : fl_cal (d + 4) 2 [.ref 10, .ref b] W Q := by
  refine sx_2 b W hb fun W1 e1 W2 e2 => ?_
  have f : EqX bll W W2 := by rw [e2, e1]; exact (EqX.uw (by simp [bll])).tr (EqX.uw (by simp [bll]))
  refine bl_find_r hb V 0 W2 (fun _ => false) (fun _ => 0) (fun _ => 0) (fun _ => 0) (by omega) (Nat.zero_le _) (hN.fr f (net_bll hb)) (by rw [e2, uw_s]; rfl) ?_ (fun x hx => by cases hx) (fun x hx => by cases hx) (fun x hx => by cases hx) (fun u hu => by omega) (fun x hx => by cases hx) fun W' k1 k2 => h W' k1 (f.tr k2)
  rw [e2, uw_m (by decide), e1, uw_s]
  exact BS.zero
end BLM
