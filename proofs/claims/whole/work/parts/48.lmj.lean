/-! ===== each even set of laid edges parts the rings in two ===== -/
def JI (V : Nat) (rs : List (List Nat)) (dl : gE) : Prop :=
  ∀ C : Nat × Nat → Bool, ev V dl C → ∃ F : Nat × Nat → Bool, (∀ r, r ∈ rs → ∀ p, p ∈ cd r → ∀ q, q ∈ cd r → F p = F q) ∧ ∀ x y, adj dl x y = true → C (min x y, max x y) = (F (x, y) ^^ F (y, x))
theorem inc_mm {x y v : Nat} : inc (min x y, max x y) v = (decide (v = x) || decide (v = y)) := by
  rw [Bool.eq_iff_iff, inc_iff, Bool.or_eq_true, decide_eq_true_eq, decide_eq_true_eq]
  simp only
  omega
theorem wyE_par : ∀ (m : List Nat) (x z v : Nat), (x :: (m ++ [z])).Nodup → xsm (fun g => inc g v) (wyE (x :: (m ++ [z]))) = (decide (v = x) ^^ decide (v = z))
  | [], x, z, v, h => by
    have hne : x ≠ z := by intro e; rw [e] at h; simp at h
    rw [List.nil_append, wyE, xsm, inc_mm]
    have : xsm (fun g => inc g v) (wyE [z]) = false := rfl
    rw [this]
    have : ¬ (v = x ∧ v = z) := fun q => hne (q.1.symm.trans q.2)
    revert this
    by_cases h1 : v = x <;> by_cases h2 : v = z
    · exact fun q => absurd ⟨h1, h2⟩ q
    · intro _; rw [decide_eq_true h1, decide_eq_false h2]; rfl
    · intro _; rw [decide_eq_false h1, decide_eq_true h2]; rfl
    · intro _; rw [decide_eq_false h1, decide_eq_false h2]; rfl
  | y :: m, x, z, v, h => by
    rw [List.cons_append] at h ⊢
    rw [List.nodup_cons] at h
    have ih := wyE_par m y z v h.2
    rw [wyE, xsm, inc_mm, ih]
    have hne : x ≠ y := fun e => h.1 (e ▸ List.mem_cons_self)
    by_cases h1 : v = x
    · have : v ≠ y := fun e => hne (h1.symm.trans e)
      simp [h1, hne]
    · rw [decide_eq_false h1]
      cases decide (v = y) <;> cases decide (v = z) <;> rfl
theorem wyE_out {C : Nat × Nat → Bool} {l : List Nat} {w : Nat} (h : w ∉ l) : xsm (fun g => C g && inc g w) (wyE l) = false := by
  refine xsm_zero fun g hg => ?_
  obtain ⟨x, y, h1, h2, h3⟩ := wyE_mem hg
  rw [h1, inc_mm]
  have e1 : w ≠ x := fun e => h (e ▸ h2)
  have e2 : w ≠ y := fun e => h (e ▸ h3)
  simp [e1, e2]
theorem wyE_const {C : Nat × Nat → Bool} : ∀ (l : List Nat) (x y : Nat), (x :: y :: l).Nodup → (∀ w, w ∈ (y :: l).dropLast → xsm (fun g => C g && inc g w) (wyE (x :: y :: l)) = false) → ∀ g, g ∈ wyE (x :: y :: l) → C g = C (min x y, max x y)
  | [], x, y, _, _, g, hg => by
    rw [wyE] at hg
    rcases List.mem_cons.mp hg with e | e
    · rw [e]
    · simp [wyE] at e
  | z :: l, x, y, hn, h, g, hg => by
    rw [wyE] at hg
    rw [List.nodup_cons] at hn
    have hxy : x ≠ y := fun e => hn.1 (e ▸ List.mem_cons_self)
    have hn2 := hn.2
    rw [List.nodup_cons] at hn2
    have hyz : y ≠ z := fun e => hn2.1 (e ▸ List.mem_cons_self)
    have h0 := h y (by simp)
    rw [wyE, wyE, xsm, xsm, wyE_out hn2.1, inc_mm, inc_mm] at h0
    have h1 : C (min x y, max x y) = C (min y z, max y z) := by
      simp [hxy, hyz, Ne.symm hxy] at h0
      exact h0
    rcases List.mem_cons.mp hg with e | e
    · rw [e]
    · rw [h1]
      refine wyE_const l y z hn.2 (fun w hw => ?_) g e
      have hw' := h w (by simp only [List.dropLast_cons₂]; exact List.mem_cons_of_mem _ hw)
      have hwm : w ∈ z :: l := List.dropLast_subset _ hw
      have e1 : w ≠ x := fun e => hn.1 (e ▸ List.mem_cons_of_mem _ hwm)
      have e2 : w ≠ y := fun e => hn2.1 (e ▸ hwm)
      rw [wyE, xsm, inc_mm] at hw'
      simpa [e1, e2] using hw'
section LMJ
variable {bes dl : gE} {rs rs' rest : List (List Nat)} {R R1 R2 A B ws : List Nat} {a b : Nat}
theorem ji_base {V lo hi : Nat} (h : lo < hi) (hV : hi < V) : JI V [[lo, hi]] [(lo, hi)] := fun C hC => by
  refine ⟨fun _ => false, fun _ _ _ _ _ _ => rfl, fun x y hxy => ?_⟩
  have h1 := hC lo (by omega)
  simp only [xsm, inc, decide_true, Bool.true_or, Bool.and_true, Bool.xor_false] at h1
  rw [adj_one] at hxy
  have : (min x y, max x y) = (lo, hi) := by
    simp at hxy
    rw [Prod.mk.injEq]
    omega
  rw [this, h1]
  rfl
theorem adj_wyE_mem {l : List Nat} {x y : Nat} (h : adj (wyE l) x y = true) : (min x y, max x y) ∈ wyE l := by
  rcases adj_iff.mp h with e | e
  · obtain ⟨u, v, h1, -, -⟩ := wyE_mem e
    rw [Prod.mk.injEq] at h1
    have : (min x y, max x y) = (x, y) := by rw [Prod.mk.injEq]; omega
    rw [this]; exact e
  · obtain ⟨u, v, h1, -, -⟩ := wyE_mem e
    rw [Prod.mk.injEq] at h1
    have : (min x y, max x y) = (y, x) := by rw [Prod.mk.injEq]; omega
    rw [this]; exact e
theorem ji_step {V : Nat} (hO : okE V bes) (hD : DI bes rs dl) (hW : WY bes dl a b ws) (h : SP rs rs' rest R R1 R2 A B a b ws) (hJ : JI V rs dl) : JI V rs' (dl ++ wyE (b :: (ws ++ [a]))) := fun C hC => by
  have hD' := di_step hO hD hW h
  obtain ⟨d1, d2, d3, d4, d5, d6⟩ := hD
  have hWY := hW
  obtain ⟨w1, w2, w3, w4, w5, w6⟩ := hW
  have hSP := h
  obtain ⟨s1, s2, s3, s4, s5, s6, s7, s8⟩ := h
  have hwd := wy_darts hWY
  have hA8 : (a :: (A ++ [b])).Nodup := by
    have : (a :: (A ++ b :: B)) = (a :: (A ++ [b])) ++ B := by simp
    rw [this] at s8
    exact (List.nodup_append.mp s8).1
  -- the first edge of the way
  obtain ⟨w0, wt, hwt⟩ : ∃ w0 wt, ws ++ [a] = w0 :: wt := by
    cases ws with
    | nil => exact ⟨a, [], rfl⟩
    | cons x l => exact ⟨x, l ++ [a], rfl⟩
  have hdrop : (w0 :: wt).dropLast = ws := by rw [← hwt]; simp
  have hws : ∀ x, x ∈ ws → x < V := fun x hx => by
    have : lvO (wyE (b :: (ws ++ [a]))) x = true := by
      rw [hwt, lvO_wy, ← hwt]; simp [hx]
    obtain ⟨g, hg, hi⟩ := lvO_iff.mp this
    have := hO.1 g (w6 g hg).1
    rw [inc_iff] at hi
    omega
  have hcon : ∀ g, g ∈ wyE (b :: (ws ++ [a])) → C g = C (min b w0, max b w0) := fun g hg => by
    rw [hwt] at hg
    refine wyE_const wt b w0 (by rw [← hwt]; exact w2) (fun w hw => ?_) g hg
    rw [hdrop] at hw
    have e := hC w (hws w hw)
    rw [xsm_app, hwt] at e
    have e0 : xsm (fun g => C g && inc g w) dl = false := xsm_zero fun g hg => by
      cases hi : inc g w with
      | false => simp
      | true =>
        have := (w3 w hw).2
        rw [lvO_iff.mpr ⟨g, hg, hi⟩] at this
        cases this
    rw [e0] at e
    simpa using e
  generalize hc : C (min b w0, max b w0) = c at hcon
  -- without the way
  have harc : ∀ x y, adj (wyE (a :: (A ++ [b]))) x y = true → adj dl x y = true := fun x y hxy => by
    rw [wyE_adj] at hxy
    have hm : ∀ p, p ∈ pd (a :: (A ++ [b])) → p ∈ rs.flatMap cd := fun p hp => List.mem_flatMap.mpr ⟨R, (sp_R hSP).1, s3.mem_iff.mpr (List.mem_append_left _ hp)⟩
    rcases hxy with q | q
    · exact (d5 _ _).mp (hm _ q)
    · rw [adj_sym]; exact (d5 _ _).mp (hm _ q)
  have hOd : okE V dl := ⟨fun p hp => hO.1 p (d1 p hp), d2⟩
  have harcm : ∀ g, g ∈ wyE (a :: (A ++ [b])) → g ∈ dl := fun g hg => by
    obtain ⟨x, y, e, -, -⟩ := wyE_mem hg
    have : adj (wyE (a :: (A ++ [b]))) g.1 g.2 = true := adj_iff.mpr (Or.inl hg)
    have := adj_te hOd (harc _ _ this)
    have e2 : (min g.1 g.2, max g.1 g.2) = g := by rw [e]; rw [Prod.mk.injEq]; simp only; omega
    rw [e2] at this
    exact this
  have hev : ev V dl (fun g => C g ^^ (c && (wyE (a :: (A ++ [b]))).contains g)) := fun v hv => by
    have e := hC v hv
    rw [xsm_app] at e
    have e1 : xsm (fun g => C g && inc g v) (wyE (b :: (ws ++ [a]))) = (c && (decide (v = b) ^^ decide (v = a))) := by
      rw [xsm_congr (g := fun g => c && inc g v) fun g hg => by rw [hcon g hg], xsm_and, wyE_par ws b a v w2]
    have e2 : xsm (fun g => (wyE (a :: (A ++ [b]))).contains g && inc g v) dl = (decide (v = a) ^^ decide (v = b)) := by
      rw [xsm_sub d2 (wyE_nd hA8) harcm, wyE_par A a b v hA8]
    have e3 : xsm (fun g => (C g ^^ (c && (wyE (a :: (A ++ [b]))).contains g)) && inc g v) dl = (xsm (fun g => C g && inc g v) dl ^^ (c && xsm (fun g => (wyE (a :: (A ++ [b]))).contains g && inc g v) dl)) := by
      rw [← xsm_and, ← xsm_xor]
      refine xsm_congr fun g _ => ?_
      cases C g <;> cases c <;> cases inc g v <;> simp
    rw [e3, e2]
    rw [e1] at e
    revert e
    cases xsm (fun g => C g && inc g v) dl <;> cases c <;> cases decide (v = a) <;> cases decide (v = b) <;> simp
  obtain ⟨F, f1, f2⟩ := hJ _ hev
  obtain ⟨p0, hp0⟩ : ∃ p0, (p0, b) ∈ pd (a :: (A ++ [b])) := pd_last a A b
  have hk : ∀ p, p ∈ cd R → F p = F (p0, b) := fun p hp => f1 R (sp_R hSP).1 p hp _ (s3.mem_iff.mpr (List.mem_append_left _ hp0))
  generalize F (p0, b) = k at hk
  have hold : ∀ p, p ∈ cd R → adj dl p.1 p.2 = true := fun p hp => (d5 _ _).mp (List.mem_flatMap.mpr ⟨R, (sp_R hSP).1, hp⟩)
  have hnew : ∀ x y, adj (wyE (b :: (ws ++ [a]))) x y = true → adj dl x y = false := fun x y hxy => by
    cases hh : adj dl x y with
    | false => rfl
    | true => exact absurd (adj_te hOd hh) (w6 _ (adj_wyE_mem hxy)).2
  have hN1 : ∀ x y, (x, y) ∈ pd (b :: (ws ++ [a])) → adj (wyE (b :: (ws ++ [a]))) x y = true := fun x y hp => wyE_adj.mpr (Or.inl hp)
  have hN2 : ∀ x y, (x, y) ∈ pd (a :: (ws.reverse ++ [b])) → adj (wyE (b :: (ws ++ [a]))) x y = true := fun x y hp => by
    rw [rev_pth] at hp
    exact wyE_adj.mpr (Or.inr (pd_rev.mp hp))
  have hdis : ∀ p, p ∈ pd (a :: (A ++ [b])) → p ∈ pd (b :: (B ++ [a])) → False := fun p h1 h2 => by
    have := s3.nodup_iff.mp (cd_nd (d3 R (sp_R hSP).1))
    exact (List.nodup_append.mp this).2.2 p h1 p h2 rfl
  let F' : Nat × Nat → Bool := fun p => if p ∈ pd (a :: (A ++ [b])) ∨ p ∈ pd (b :: (ws ++ [a])) then (k ^^ c) else if p ∈ pd (a :: (ws.reverse ++ [b])) then k else F p
  have g1 : ∀ p, p ∈ cd R1 → F' p = (k ^^ c) := fun p hp => by
    rw [s4.mem_iff, List.mem_append] at hp
    exact if_pos hp
  have g2 : ∀ p, p ∈ cd R2 → F' p = k := fun p hp => by
    rw [s5.mem_iff, List.mem_append] at hp
    rcases hp with hp | hp
    · have ha : adj dl p.1 p.2 = true := hold p (s3.mem_iff.mpr (List.mem_append_right _ hp))
      have e1 : ¬ (p ∈ pd (a :: (A ++ [b])) ∨ p ∈ pd (b :: (ws ++ [a]))) := by
        rintro (q | q)
        · exact hdis p q hp
        · rw [hnew _ _ (hN1 p.1 p.2 q)] at ha; cases ha
      have e2 : p ∉ pd (a :: (ws.reverse ++ [b])) := fun q => by rw [hnew _ _ (hN2 p.1 p.2 q)] at ha; cases ha
      show (if _ then _ else _) = _
      rw [if_neg e1, if_neg e2]
      exact hk p (s3.mem_iff.mpr (List.mem_append_right _ hp))
    · have e1 : ¬ (p ∈ pd (a :: (A ++ [b])) ∨ p ∈ pd (b :: (ws ++ [a]))) := by
        rintro (q | q)
        · have ha : adj dl p.1 p.2 = true := hold p (s3.mem_iff.mpr (List.mem_append_left _ q))
          rw [hnew _ _ (hN2 p.1 p.2 hp)] at ha; cases ha
        · rw [rev_pth] at hp
          exact pd_asym w2 (x := p.1) (y := p.2) q (pd_rev.mp hp)
      show (if _ then _ else _) = _
      rw [if_neg e1, if_pos hp]
  -- of an old edge
  have g3 : ∀ x y, adj dl x y = true → F' (x, y) = (F (x, y) ^^ (c && decide ((x, y) ∈ pd (a :: (A ++ [b]))))) := fun x y hxy => by
    have e1 : (x, y) ∉ pd (b :: (ws ++ [a])) := fun q => by rw [hnew _ _ (hN1 x y q)] at hxy; cases hxy
    have e2 : (x, y) ∉ pd (a :: (ws.reverse ++ [b])) := fun q => by rw [hnew _ _ (hN2 x y q)] at hxy; cases hxy
    show (if _ then _ else _) = _
    by_cases q : (x, y) ∈ pd (a :: (A ++ [b]))
    · rw [if_pos (Or.inl q), hk _ (s3.mem_iff.mpr (List.mem_append_left _ q))]
      simp [q]
    · rw [if_neg (by rintro (z | z); exact q z; exact e1 z), if_neg e2]
      simp [q]
  refine ⟨F', fun r hr p hp q hq => ?_, fun x y hxy => ?_⟩
  · by_cases e1 : r = R1
    · rw [e1] at hp hq
      rw [g1 p hp, g1 q hq]
    · by_cases e2 : r = R2
      · rw [e2] at hp hq
        rw [g2 p hp, g2 q hq]
      · have e3 := (sp_new hSP hr).resolve_left e1 |>.resolve_left e2
        have key : ∀ p, p ∈ cd r → F' p = F p := fun p hp => by
          have n1 : ¬ (p ∈ pd (a :: (A ++ [b])) ∨ p ∈ pd (b :: (ws ++ [a]))) := fun z => e1 (fm_inj hD'.2.2.2.1 hr (sp_R hSP).2.1 hp (s4.mem_iff.mpr (List.mem_append.mpr z)))
          have n2 : p ∉ pd (a :: (ws.reverse ++ [b])) := fun z => e2 (fm_inj hD'.2.2.2.1 hr (sp_R hSP).2.2 hp (s5.mem_iff.mpr (List.mem_append_right _ z)))
          show (if _ then _ else _) = _
          rw [if_neg n1, if_neg n2]
        rw [key p hp, key q hq]
        exact f1 r e3.2 p hp q hq
  · rw [adj_app, Bool.or_eq_true] at hxy
    rcases hxy with hxy | hxy
    · rw [g3 x y hxy, g3 y x (by rw [adj_sym]; exact hxy)]
      have e := f2 x y hxy
      have e4 : (wyE (a :: (A ++ [b]))).contains (min x y, max x y) = (decide ((x, y) ∈ pd (a :: (A ++ [b]))) ^^ decide ((y, x) ∈ pd (a :: (A ++ [b])))) := by
        have q1 : (min x y, max x y) ∈ wyE (a :: (A ++ [b])) ↔ ((x, y) ∈ pd (a :: (A ++ [b])) ∨ (y, x) ∈ pd (a :: (A ++ [b]))) := by
          rw [← wyE_adj]
          refine ⟨fun z => ?_, adj_wyE_mem⟩
          rw [adj_iff]
          by_cases hle : x ≤ y
          · have : (min x y, max x y) = (x, y) := by rw [Prod.mk.injEq]; omega
            rw [this] at z; exact Or.inl z
          · have : (min x y, max x y) = (y, x) := by rw [Prod.mk.injEq]; omega
            rw [this] at z; exact Or.inr z
        have q2 : (x, y) ∈ pd (a :: (A ++ [b])) → (y, x) ∉ pd (a :: (A ++ [b])) := pd_asym hA8
        rw [Bool.eq_iff_iff, List.contains_eq_mem, decide_eq_true_eq, q1]
        by_cases z1 : (x, y) ∈ pd (a :: (A ++ [b])) <;> by_cases z2 : (y, x) ∈ pd (a :: (A ++ [b])) <;> simp [z1, z2]
        exact q2 z1 z2
      rw [e4] at e
      revert e
      cases C (min x y, max x y) <;> cases c <;> cases F (x, y) <;> cases F (y, x) <;> cases decide ((x, y) ∈ pd (a :: (A ++ [b]))) <;> cases decide ((y, x) ∈ pd (a :: (A ++ [b]))) <;> simp
    · rw [hcon _ (adj_wyE_mem hxy)]
      have key : ∀ u v, (u, v) ∈ pd (b :: (ws ++ [a])) → F' (u, v) = (k ^^ c) ∧ F' (v, u) = k := fun u v q =>
        ⟨g1 _ (s4.mem_iff.mpr (List.mem_append_right _ q)), g2 _ (s5.mem_iff.mpr (List.mem_append_right _ (by rw [rev_pth]; exact pd_rev.mpr q)))⟩
      rcases wyE_adj.mp hxy with q | q
      · rw [(key x y q).1, (key x y q).2]
        cases c <;> cases k <;> rfl
      · rw [(key y x q).1, (key y x q).2]
        cases c <;> cases k <;> rfl
end LMJ
