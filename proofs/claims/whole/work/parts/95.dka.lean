/-! ===== PlaneDesk of the class: what it holds ===== -/
/-- nothing has changed but the fields fs of the desk and the cells of l -/
def EqC (fs l : List Nat) (W W' : fl_W) : Prop := (∀ a, a ≠ 0 → a ∉ l → W' a = W a) ∧ ∀ k, k ∉ fs → W' 0 k = W 0 k
theorem EqC.rf {fs l : List Nat} {W : fl_W} : EqC fs l W W := ⟨fun _ _ _ => rfl, fun _ _ => rfl⟩
theorem EqC.tr {fs l : List Nat} {W W' W'' : fl_W} (h1 : EqC fs l W W') (h2 : EqC fs l W' W'') : EqC fs l W W'' := ⟨fun a h3 h4 => (h2.1 a h3 h4).trans (h1.1 a h3 h4), fun k hk => (h2.2 k hk).trans (h1.2 k hk)⟩
theorem EqC.mono {fs l fs' l' : List Nat} {W W' : fl_W} (h : EqC fs l W W') (h1 : ∀ a ∈ fs, a ∈ fs') (h2 : ∀ a ∈ l, a ∈ l') : EqC fs' l' W W' := ⟨fun a h3 h4 => h.1 a h3 fun z => h4 (h2 a z), fun k hk => h.2 k fun z => hk (h1 k z)⟩
theorem EqC.uw {fs l : List Nat} {W : fl_W} {j : Nat} {x : Int32} (hj : j ∈ fs) : EqC fs l W (fl_uw W 0 j x) := ⟨fun a h1 _ => uw_n h1, fun k hk => uw_m fun e => hk (e ▸ hj)⟩
theorem EqX.toC {fs l : List Nat} {W W' : fl_W} (h : EqX l W W') (h0 : 0 ∉ l) : EqC fs l W W' := ⟨fun a _ ha => h a ha, fun k _ => by rw [h 0 h0]⟩
/-- the reference is as it was -/
def Hi (W W' : fl_W) : Prop := ∀ a, 229 ≤ a → W' a = W a
theorem Hi.rf {W : fl_W} : Hi W W := fun _ _ => rfl
theorem Hi.tr {W W' W'' : fl_W} (h1 : Hi W W') (h2 : Hi W' W'') : Hi W W'' := fun a ha => (h2 a ha).trans (h1 a ha)
theorem EqX.hi {l : List Nat} {W W' : fl_W} (h : EqX l W W') (hl : ∀ a ∈ l, a < 229) : Hi W W' := fun a ha => h a fun z => by have := hl a z; omega
theorem EqC.hi {fs l : List Nat} {W W' : fl_W} (h : EqC fs l W W') (hl : ∀ a ∈ l, a < 229) : Hi W W' := fun a ha => h.1 a (by omega) fun z => by have := hl a z; omega
theorem uw0_hi {W : fl_W} {j : Nat} {x : Int32} : Hi W (fl_uw W 0 j x) := fun a ha => uw_n (by omega)
theorem RowR.eq {W W' : fl_W} {r : Nat} {xs : List Int32} (h : RowR W r xs) (h1 : W' r = W r) (h2 : W' (r + 1) = W (r + 1)) : RowR W' r xs := by
  unfold RowR at h ⊢
  rw [h1, h2]; exact h
abbrev tuR : Type := Nat → List Nat
def ckT (W : fl_W) (es : gE) : Option tuR → Prop
  | none => W 0 8 = 0
  | some R => W 0 8 = 1 ∧ TOK es R ∧ TurR W 160 R ∧ WkR W es R
def ckK (W : fl_W) (V : Nat) (es : gE) : Bool → Prop
  | false => W 0 9 = 0
  | true => W 0 9 = 1 ∧ RowR W 209 (nL (knL V es)) ∧ RowR W 211 (nL (brL V (knE V es)))
def ckD (W : fl_W) (V : Nat) (es : gE) : Option tuR → Prop
  | none => W 0 10 = 0
  | some R => W 0 10 = 1 ∧ RowR W 217 (nL (ordL V es R)) ∧ ∀ u, u < V → W 214 u = (plF (dB es) (dD V es R)).1 u ∧ W 215 u = (plF (dB es) (dD V es R)).2.1 u
def ckC (W : fl_W) (V : Nat) (es : gE) : Bool → Prop
  | false => W 0 11 = 0
  | true => W 0 11 = 1 ∧ ∀ u c, (clR es V).1 u = some c → W 226 u = nI c
def ckF (W : fl_W) (V : Nat) (es : gE) : Prop := W 0 12 = 2 ∨ (W 0 12 = 1 ∧ PL V es) ∨ (W 0 12 = 0 ∧ layG V es = none)
def CQ (W : fl_W) (V : Nat) (es : gE) (T : Option tuR) (K : Bool) (D : Option tuR) (C : Bool) : Prop := NetR W 1 V es ∧ ckT W es T ∧ ckK W V es K ∧ ckD W V es D ∧ ckC W V es C
def CK (W : fl_W) (V : Nat) (es : gE) (T : Option tuR) (K : Bool) (D : Option tuR) (C : Bool) : Prop := CQ W V es T K D C ∧ ckF W V es
theorem ckT.eq {W W' : fl_W} {es : gE} {T : Option tuR} (h : ckT W es T) (h8 : W' 0 8 = W 0 8) (hE : ∀ a, 160 ≤ a → a < 208 → W' a = W a) : ckT W' es T := by
  cases T with
  | none => exact h8.trans h
  | some R =>
    obtain ⟨a1, a2, a3, a4, a5, a6⟩ := h
    refine ⟨h8.trans a1, a2, fun v hv => (a3 v hv).eq (hE _ (by omega) (by omega)) (hE _ (by omega) (by omega)), fun x hx => ?_, a5.eq (hE _ (by decide) (by decide)) (hE _ (by decide) (by decide)), ?_⟩
    · rw [hE 203 (by decide) (by decide)]; exact a4 x hx
    · rw [hE 202 (by decide) (by decide)]; exact a6
theorem ckK.eq {W W' : fl_W} {V : Nat} {es : gE} {K : Bool} (h : ckK W V es K) (h8 : W' 0 9 = W 0 9) (hE : ∀ a, 209 ≤ a → a < 213 → W' a = W a) : ckK W' V es K := by
  cases K with
  | false => exact h8.trans h
  | true => exact ⟨h8.trans h.1, h.2.1.eq (hE _ (by decide) (by decide)) (hE _ (by decide) (by decide)), h.2.2.eq (hE _ (by decide) (by decide)) (hE _ (by decide) (by decide))⟩
theorem ckD.eq {W W' : fl_W} {V : Nat} {es : gE} {D : Option tuR} (h : ckD W V es D) (h8 : W' 0 10 = W 0 10) (hE : ∀ a, 213 ≤ a → a < 225 → W' a = W a) : ckD W' V es D := by
  cases D with
  | none => exact h8.trans h
  | some R => exact ⟨h8.trans h.1, h.2.1.eq (hE _ (by decide) (by decide)) (hE _ (by decide) (by decide)), fun u hu => by rw [hE 214 (by decide) (by decide), hE 215 (by decide) (by decide)]; exact h.2.2 u hu⟩
theorem ckC.eq {W W' : fl_W} {V : Nat} {es : gE} {C : Bool} (h : ckC W V es C) (h8 : W' 0 11 = W 0 11) (hE : ∀ a, 225 ≤ a → a < 229 → W' a = W a) : ckC W' V es C := by
  cases C with
  | false => exact h8.trans h
  | true => exact ⟨h8.trans h.1, fun u c hu => by rw [hE 226 (by decide) (by decide)]; exact h.2 u c hu⟩
theorem NetR.eq1 {W W' : fl_W} {V : Nat} {es : gE} (h : NetR W 1 V es) (hE : ∀ a, 1 ≤ a → a < 5 → W' a = W a) : NetR W' 1 V es := by
  obtain ⟨a1, a2, a3, a4, a5, a6, a7⟩ := h
  refine ⟨a1, a2, a3, ?_, ?_, fun i p hp => ?_, fun v hv => ?_⟩
  · rw [hE 1 (by decide) (by decide)]; exact a4
  · rw [hE 1 (by decide) (by decide)]; exact a5
  · rw [hE 2 (by decide) (by decide), hE 3 (by decide) (by decide)]; exact a6 i p hp
  · rw [hE 4 (by decide) (by decide)]; exact a7 v hv
section DKA
variable {d : Nat} {Q : fl_R} {W W' : fl_W} {V : Nat} {es : gE} {T D : Option tuR} {K C : Bool}
theorem CQ.fr {fs l : List Nat} (h : CQ W V es T K D C) (hE : EqC fs l W W') (h8 : 8 ∉ fs) (h9 : 9 ∉ fs) (h10 : 10 ∉ fs) (h11 : 11 ∉ fs) (hl : ∀ a ∈ l, 5 ≤ a ∧ a < 160) : CQ W' V es T K D C := by
  have hc : ∀ a, a ≠ 0 → ¬ (5 ≤ a ∧ a < 160) → W' a = W a := fun a ha hb => hE.1 a ha fun z => hb (hl a z)
  exact ⟨h.1.eq1 fun a a1 a2 => hc a (by omega) (by omega), h.2.1.eq (hE.2 8 h8) fun a a1 a2 => hc a (by omega) (by omega), h.2.2.1.eq (hE.2 9 h9) fun a a1 a2 => hc a (by omega) (by omega), h.2.2.2.1.eq (hE.2 10 h10) fun a a1 a2 => hc a (by omega) (by omega), h.2.2.2.2.eq (hE.2 11 h11) fun a a1 a2 => hc a (by omega) (by omega)⟩
theorem ckF.eq (h : ckF W V es) (he : W' 0 12 = W 0 12) : ckF W' V es := by
  unfold ckF at h ⊢
  rw [he]; exact h
theorem CK.fr {fs l : List Nat} (h : CK W V es T K D C) (hE : EqC fs l W W') (h8 : 8 ∉ fs) (h9 : 9 ∉ fs) (h10 : 10 ∉ fs) (h11 : 11 ∉ fs) (h12 : 12 ∉ fs) (hl : ∀ a ∈ l, 5 ≤ a ∧ a < 160) : CK W' V es T K D C := ⟨h.1.fr hE h8 h9 h10 h11 hl, h.2.eq (hE.2 12 h12)⟩
theorem CK.lo {W' : fl_W} (h : CK W V es T K D C) (hE : ∀ a, a < 229 → W' a = W a) : CK W' V es T K D C := by
  have h0 : ∀ k, W' 0 k = W 0 k := fun k => by rw [hE 0 (by decide)]
  exact ⟨⟨h.1.1.eq1 fun a a1 a2 => hE a (by omega), h.1.2.1.eq (h0 8) fun a a1 a2 => hE a (by omega), h.1.2.2.1.eq (h0 9) fun a a1 a2 => hE a (by omega), h.1.2.2.2.1.eq (h0 10) fun a a1 a2 => hE a (by omega), h.1.2.2.2.2.eq (h0 11) fun a a1 a2 => hE a (by omega)⟩, h.2.eq (h0 12)⟩
theorem ll_in : ∀ a ∈ ll, 5 ≤ a ∧ a < 160 := fun a ha => by rw [mem_ll] at ha; omega
theorem ll_lo : ∀ a ∈ ll, a < 229 := fun a ha => by rw [mem_ll] at ha; omega
theorem ll_0 : 0 ∉ ll := fun h => by rw [mem_ll] at h; omega
/-! forget, graph, join, cut -/
theorem pd_forget (h : ∀ W', W' 0 8 = 0 → W' 0 9 = 0 → W' 0 10 = 0 → W' 0 11 = 0 → W' 0 12 = 2 → EqC [8, 9, 10, 11, 12] [] W W' → Q none W') : fl_cal (d + 1) 115 [.ref 0] W Q := by
  refine sx_115 W fun W1 e1 W2 e2 W3 e3 W4 e4 W5 e5 => ?_
  have f : EqC [8, 9, 10, 11, 12] [] W W5 := by
    rw [e5, e4, e3, e2, e1]
    exact ((((EqC.uw (by simp)).tr (EqC.uw (by simp))).tr (EqC.uw (by simp))).tr (EqC.uw (by simp))).tr (EqC.uw (by simp))
  refine h W5 ?_ ?_ ?_ ?_ ?_ f
  · rw [e5, uw_m (by decide), e4, uw_m (by decide), e3, uw_m (by decide), e2, uw_m (by decide), e1, uw_s]; rfl
  · rw [e5, uw_m (by decide), e4, uw_m (by decide), e3, uw_m (by decide), e2, uw_s]; rfl
  · rw [e5, uw_m (by decide), e4, uw_m (by decide), e3, uw_s]; rfl
  · rw [e5, uw_m (by decide), e4, uw_s]; rfl
  · rw [e5, uw_s]; rfl
theorem ck_new (hN : NetR W 1 V es) (h8 : W 0 8 = 0) (h9 : W 0 9 = 0) (h10 : W 0 10 = 0) (h11 : W 0 11 = 0) (h12 : W 0 12 = 2) : CK W V es none false none false := ⟨⟨hN, h8, h9, h10, h11⟩, Or.inl h12⟩
theorem pd_forgetN (hN : NetR W 1 V es) (h : ∀ W', CK W' V es none false none false → Hi W W' → Q none W') : fl_cal (d + 1) 115 [.ref 0] W Q :=
  pd_forget fun W' a1 a2 a3 a4 a5 f => h W' (ck_new (hN.eq1 fun a b1 b2 => f.1 a (by omega) (by simp)) a1 a2 a3 a4 a5) (f.hi (by simp))
theorem pd_graphNo {n : Int32} (hn : ixB n 21 = false) (h : Q (some (.int 0)) W) : fl_cal (d + 3) 97 [.ref 0, .int n] W Q := by
  refine sx_97 _ W ⟨fun _ => h, fun z => ⟨fun z2 => ?_, fun _ => h⟩⟩
  rw [cb_20] at z2
  have : ixB n 21 = true := ixB_lt (by decide) z (by rw [i_lt, nI_toInt (by decide)]; rw [i_le, nI_toInt (by decide)] at z2; omega)
  rw [hn] at this; cases this
theorem nl1_lo : ∀ a ∈ nl 1, a < 229 := by decide
theorem pd_graph {n : Nat} (hn : n ≤ 20) (h : ∀ W', CK W' n [] none false none false → Hi W W' → Q (some (.int 1)) W') : fl_cal (d + 3) 97 [.ref 0, .int (nI n)] W Q := by
  refine sx_97 _ W ⟨fun z => absurd z (nI_pos (by omega)), fun z => ⟨fun z2 => ?_, fun z2 => absurd ?_ z2⟩⟩
  · refine net_begin (b := 1) rfl hn fun W1 k1 k2 => ?_
    exact pd_forgetN k1 fun W2 m1 m2 => h W2 m1 ((k2.hi nl1_lo).tr m2)
  · rw [cb_20]; exact nI_le hn (by decide)
theorem pd_joinNo {u v : Int32} (hC : CK W V es T K D C) (ht : tkB V es u v = false) (h : Q (some (.int (-1))) W) : fl_cal (d + 3) 98 [.ref 0, .int u, .int v] W Q := by
  refine sx_98 _ _ W (net_takes (b := 1) rfl hC.1.1 ?_)
  rw [ht]
  exact ⟨fun _ => h, fun z => absurd rfl z⟩
theorem pd_join {u v : Nat} (hC : CK W V es T K D C) (hu : u < V) (hv : v < V) (huv : u ≠ v) (hn : adj es u v = false) (hl : es.length < 60) (h : ∀ W', CK W' V (es ++ [(min u v, max u v)]) none false none false → Hi W W' → Q (some (.int (nI es.length))) W') : fl_cal (d + 3) 98 [.ref 0, .int (nI u), .int (nI v)] W Q := by
  have hV := hC.1.1.1
  refine sx_98 _ _ W (net_takes (b := 1) rfl hC.1.1 ?_)
  rw [tkB_N (by omega) (by omega), decide_eq_true hu, decide_eq_true hv, decide_eq_true huv, hn, decide_eq_true hl]
  refine ⟨fun z => absurd z (by decide), fun _ => net_add (b := 1) rfl hC.1.1 hu hv huv hn hl fun W1 k1 k2 => ?_⟩
  refine pd_forgetN k1 fun W2 m1 m2 => ?_
  show Q (some (.int (W2 1 4 - Int32.ofInt 1))) W2
  rw [m1.1.1.2.2.2.2.1, List.length_append, List.length_singleton, nI_sub1 (by omega), Nat.add_sub_cancel]
  exact h W2 m1 ((k2.hi nl1_lo).tr m2)
theorem pd_cutNo {e : Int32} (hC : CK W V es T K D C) (he : ixB e es.length = false) (h : Q (some (.int 0)) W) : fl_cal (d + 3) 99 [.ref 0, .int e] W Q := by
  refine sx_99 _ W (net_hasE (b := 1) rfl hC.1.1 ?_)
  rw [he]
  exact ⟨fun _ => h, fun z => absurd rfl z⟩
theorem pd_cut {e : Nat} (hC : CK W V es T K D C) (he : e < es.length) (h : ∀ W', CK W' V (es.eraseIdx e) none false none false → Hi W W' → Q (some (.int 1)) W') : fl_cal (d + 3) 99 [.ref 0, .int (nI e)] W Q := by
  have hE := hC.1.1.2.1
  refine sx_99 _ W (net_hasE (b := 1) rfl hC.1.1 ?_)
  rw [ixB_N (by omega), decide_eq_true he]
  refine ⟨fun z => absurd z (by decide), fun _ => net_rem (b := 1) rfl hC.1.1 (List.getElem?_eq_getElem he) fun W1 k1 k2 => ?_⟩
  exact pd_forgetN k1 fun W2 m1 m2 => h W2 m1 ((k2.hi nl1_lo).tr m2)
/-! edge, fits, about -/
theorem bll_in : ∀ a ∈ bll, 5 ≤ a ∧ a < 160 := by decide
theorem bll_lo : ∀ a ∈ bll, a < 229 := by decide
theorem pd_edge {e w : Int32} (hC : CK W V es T K D C) (h : ∀ W', CK W' V es T K D C → Hi W W' → Q (some (.int (edgeI V es e w))) W') : fl_cal (d + 5) 100 [.ref 0, .int e, .int w] W Q := by
  have hE := hC.1.1.2.1
  have hO := hC.1.1.2.2.1
  refine sx_100 _ _ W (net_hasE (b := 1) rfl hC.1.1 ?_)
  unfold edgeI at h
  cases hx : ixB e es.length with
  | false =>
    rw [hx] at h
    exact ⟨fun _ => h W hC Hi.rf, fun z => absurd rfl z⟩
  | true =>
    obtain ⟨j, hj, rfl⟩ := ixB_ex (by omega) hx
    have hp := List.getElem?_eq_getElem hj
    have hgd : es.getD (nI j).toNatClampNeg (0, 0) = es[j] := by rw [nI_clamp (by omega), List.getD_eq_getElem?_getD, hp]; rfl
    rw [hx, hgd] at h
    simp only [if_true] at h
    refine ⟨fun z => absurd z (by decide), fun _ => ⟨fun z => net_low (b := 1) rfl hC.1.1 hp ?_, fun z => net_high (b := 1) rfl hC.1.1 hp ?_, fun z => bl_find (b := 1) rfl hC.1.1 fun W1 k1 k2 => ?_, fun z => ?_⟩⟩
    · have := h W hC Hi.rf
      rw [if_pos (show w = 0 from z)] at this; exact this
    · subst z
      have := h W hC Hi.rf
      rw [if_neg (by decide), if_pos (by decide)] at this; exact this
    · subst z
      obtain ⟨L, c, b1, b2, b3, b4, b5⟩ := k1
      have := h W1 (hC.fr (k2.toC (fs := []) (by decide)) (by simp) (by simp) (by simp) (by simp) (by simp) bll_in) (k2.hi bll_lo)
      rw [if_neg (by decide), if_neg (by decide), if_pos (by decide)] at this
      refine bl_of (by omega) ?_
      rw [b5 j _ hp, cbn_eq hO b1 (List.mem_of_getElem? hp)]
      exact this
    · have := h W hC Hi.rf
      rw [if_neg (show ¬ w = 0 from z.1), if_neg (show ¬ w = 1 from z.2.1), if_neg (show ¬ w = 2 from z.2.2)] at this; exact this
theorem pd_fits (hC : CK W V es T K D C) (h : ∀ W', ((layG V es).isSome = true → PL V es) → CK W' V es T K D C → Hi W W' → Q (some (.int (if (layG V es).isSome then 1 else 0))) W') : fl_cal (d + 7) 116 [.ref 0] W Q := by
  have hF := hC.2
  refine sx_116 W ?_
  rw [ci_2, ci_1]
  rcases hF with hF | ⟨hF, hP⟩ | ⟨hF, hP⟩
  · refine ⟨fun _ => ly_lays (b := 1) rfl (by decide) (by decide) hC.1.1 (fun W1 R j1 jb j2 j3 => ⟨fun z => absurd z (by decide), fun _ W3 e3 => ?_⟩) fun W1 j1 j2 => ⟨fun _ W2 e2 => ?_, fun z => absurd rfl z⟩, fun z => absurd hF z⟩
    · have f1 : EqC [12] ll W W1 := j3.toC ll_0
      have f3 : EqC [12] ll W W3 := f1.tr (by rw [e3]; exact EqC.uw (by simp))
      have hPL : PL V es := ⟨⟨R, j1⟩, jb⟩
      have h12 : W3 0 12 = 1 := by rw [e3, uw_s]; rfl
      have := h W3 (fun _ => hPL) ⟨hC.1.fr f3 (by simp) (by simp) (by simp) (by simp) ll_in, Or.inr (Or.inl ⟨h12, hPL⟩)⟩ (f3.hi ll_lo)
      rw [j1] at this
      exact ⟨fun _ => this, fun z => absurd h12 z⟩
    · have f1 : EqC [12] ll W W1 := j2.toC ll_0
      have f3 : EqC [12] ll W W2 := f1.tr (by rw [e2]; exact EqC.uw (by simp))
      have h12 : W2 0 12 = 0 := by rw [e2, uw_s]; rfl
      have := h W2 (fun z => by rw [j1] at z; cases z) ⟨hC.1.fr f3 (by simp) (by simp) (by simp) (by simp) ll_in, Or.inr (Or.inr ⟨h12, j1⟩)⟩ (f3.hi ll_lo)
      rw [j1] at this
      exact ⟨fun z => absurd z (by rw [h12]; decide), fun _ => this⟩
  · have := h W (fun _ => hP) hC Hi.rf
    obtain ⟨⟨R, hR⟩, -⟩ := hP
    rw [hR] at this
    exact ⟨fun z => absurd z (by rw [hF]; decide), fun _ => ⟨fun _ => this, fun z => absurd hF z⟩⟩
  · have := h W (fun z => by rw [hP] at z; cases z) hC Hi.rf
    rw [hP] at this
    exact ⟨fun z => absurd z (by rw [hF]; decide), fun _ => ⟨fun z => absurd z (by rw [hF]; decide), fun _ => this⟩⟩
theorem pd_about {w : Int32} (hC : CK W V es T K D C) (h : ∀ W', CK W' V es T K D C → Hi W W' → Q (some (.int (abtI V es w))) W') : fl_cal (d + 8) 101 [.ref 0, .int w] W Q := by
  have hO := hC.1.1.2.2.1
  have hb : ∀ W1, EqX bll W W1 → Q (some (.int (abtI V es w))) W1 := fun W1 k2 => h W1 (hC.fr (k2.toC (fs := []) (by decide)) (by simp) (by simp) (by simp) (by simp) (by simp) bll_in) (k2.hi bll_lo)
  refine sx_101 _ W ⟨fun z => ?_, fun z => ?_, fun z => bl_find (b := 1) rfl hC.1.1 fun W1 k1 k2 => ?_, fun z => net_lon (b := 1) rfl hC.1.1 ?_, fun z => bl_find (b := 1) rfl hC.1.1 fun W1 k1 k2 => ?_, fun z => pd_fits hC fun W1 _ k1 k2 => ?_, fun z => ?_⟩
  · subst z
    rw [hC.1.1.2.2.2.1]; exact h W hC Hi.rf
  · subst z
    rw [hC.1.1.2.2.2.2.1]; exact h W hC Hi.rf
  · subst z
    obtain ⟨L, c, b1, b2, b3, b4, b5⟩ := k1
    have := hb W1 k2
    show Q (some (.int (W1 10 7))) W1
    rw [b3, ccm_eq b2]; exact this
  · subst z
    exact h W hC Hi.rf
  · subst z
    obtain ⟨L, c, b1, b2, b3, b4, b5⟩ := k1
    have := hb W1 k2
    show Q (some (.int (W1 10 8))) W1
    rw [b4, cbc_eq hO b1]; exact this
  · subst z
    have := h W1 k1 k2
    have e : abtI V es (Int32.ofNat 5) = if (layG V es).isSome then 1 else 0 := rfl
    rw [e] at this
    cases hs : (layG V es).isSome with
    | true => rw [hs] at this; exact ⟨fun z => absurd z (by decide), fun _ => this⟩
    | false => rw [hs] at this; exact ⟨fun _ => this, fun z => absurd rfl z⟩
  · have := h W hC Hi.rf
    unfold abtI at this
    rw [if_neg (show ¬ w = 0 from z.1), if_neg (show ¬ w = 1 from z.2.1), if_neg (show ¬ w = 2 from z.2.2.1), if_neg (show ¬ w = 3 from z.2.2.2.1), if_neg (show ¬ w = 4 from z.2.2.2.2.1), if_neg (show ¬ w = 5 from z.2.2.2.2.2)] at this
    exact this
end DKA
