/-! ===== Blocks: the forest ===== -/
/-- a forest on what was seen -/
def PF (V : Nat) (es : gE) (S : Nat → Bool) (far par rt : Nat → Nat) : Prop := ∀ x, S x = true → x < V ∧ rt x ≤ x ∧ ((far x = 0 ∧ rt x = x) ∨ (far x ≠ 0 ∧ S (par x) = true ∧ far x = far (par x) + 1 ∧ te par x ∈ es ∧ rt (par x) = rt x))
def setN (f : Nat → Nat) (v x : Nat) : Nat → Nat := fun j => if j = v then x else f j
def setB (S : Nat → Bool) (v : Nat) : Nat → Bool := fun j => S j || decide (j = v)
theorem setN_s {f : Nat → Nat} {v x : Nat} : setN f v x v = x := by simp [setN]
theorem setN_n {f : Nat → Nat} {v x j : Nat} (h : j ≠ v) : setN f v x j = f j := by simp [setN, h]
theorem setB_iff {S : Nat → Bool} {v j : Nat} : setB S v j = true ↔ S j = true ∨ j = v := by simp [setB]
theorem te_setN {par : Nat → Nat} {v x j : Nat} (h : j ≠ v) : te (setN par v x) j = te par j := by simp [te, setN_n h]
theorem adj_te {es : gE} {V : Nat} (hO : okE V es) {u v : Nat} (h : adj es u v = true) : (min u v, max u v) ∈ es := by
  rcases adj_iff.mp h with q | q
  · have := hO.1 _ q
    simp only at this
    rw [show min u v = u by omega, show max u v = v by omega]; exact q
  · have := hO.1 _ q
    simp only at this
    rw [show min u v = v by omega, show max u v = u by omega]; exact q
theorem PF.add {V : Nat} {es : gE} {S : Nat → Bool} {far par rt : Nat → Nat} (hO : okE V es) (h : PF V es S far par rt) {x v : Nat} (hx : S x = true) (hv : v < V) (hn : S v = false) (ha : adj es x v = true) (hr : rt x ≤ v) : PF V es (setB S v) (setN far v (far x + 1)) (setN par v x) (setN rt v (rt x)) := by
  have hxv : x ≠ v := fun e => by rw [e, hn] at hx; cases hx
  intro y hy
  rcases setB_iff.mp hy with q | q
  · have hyv : y ≠ v := fun e => by rw [e, hn] at q; cases q
    obtain ⟨a1, a2, a3⟩ := h y q
    rw [setN_n hyv, setN_n hyv, setN_n hyv, te_setN hyv]
    refine ⟨a1, a2, a3.imp id fun z => ?_⟩
    have hpv : par y ≠ v := fun e => by rw [e, hn] at z; cases z.2.1
    rw [setN_n hpv, setN_n hpv]
    exact ⟨z.1, setB_iff.mpr (Or.inl z.2.1), z.2.2⟩
  · subst q
    rw [setN_s, setN_s, setN_s, setN_n hxv, setN_n hxv]
    refine ⟨hv, hr, Or.inr ⟨by omega, setB_iff.mpr (Or.inl hx), rfl, ?_, rfl⟩⟩
    rw [te, setN_s]
    exact adj_te hO (by rw [adj_sym]; exact ha)
theorem PF.root {V : Nat} {es : gE} {S : Nat → Bool} {far par rt : Nat → Nat} (h : PF V es S far par rt) {v p : Nat} (hv : v < V) (hn : S v = false) : PF V es (setB S v) (setN far v 0) (setN par v p) (setN rt v v) := by
  intro y hy
  rcases setB_iff.mp hy with q | q
  · have hyv : y ≠ v := fun e => by rw [e, hn] at q; cases q
    obtain ⟨a1, a2, a3⟩ := h y q
    rw [setN_n hyv, setN_n hyv, setN_n hyv, te_setN hyv]
    refine ⟨a1, a2, a3.imp id fun z => ?_⟩
    have hpv : par y ≠ v := fun e => by rw [e, hn] at z; cases z.2.1
    rw [setN_n hpv, setN_n hpv]
    exact ⟨z.1, setB_iff.mpr (Or.inl z.2.1), z.2.2⟩
  · subst q
    rw [setN_s, setN_s]
    exact ⟨hv, Nat.le_refl _, Or.inl ⟨rfl, rfl⟩⟩
/-- closed: what is next to it is of it, and of the same tree -/
def Cls (es : gE) (S : Nat → Bool) (rt : Nat → Nat) : Prop := ∀ x, S x = true → ∀ v, adj es x v = true → S v = true ∧ rt v = rt x
theorem PF.frs {V : Nat} {es : gE} {S : Nat → Bool} {far par rt : Nat → Nat} (hO : okE V es) (h : PF V es S far par rt) (hc : Cls es S rt) (ha : ∀ v, v < V → S v = true) : Frs V es far par rt := by
  refine ⟨fun x hx => ?_, fun g hg => ?_⟩
  · obtain ⟨_, a2, a3⟩ := h x (ha x hx)
    exact ⟨a2, a3.imp id fun z => ⟨z.1, (h _ z.2.1).1, z.2.2⟩⟩
  · have hp := hO.1 g hg
    exact (hc g.1 (ha _ (by omega)) g.2 (adj_iff.mpr (Or.inl hg))).2.symm
/-- a tree that grows from r: S0 was seen before, q is the queue -/
def TI (S0 S : Nat → Bool) (rt : Nat → Nat) (r : Nat) (q : List Nat) : Prop := (∀ x, S x = (S0 x || q.contains x)) ∧ q.Nodup ∧ ∀ x, x ∈ q → S0 x = false ∧ rt x = r
theorem TI.add {S0 S : Nat → Bool} {rt : Nat → Nat} {r : Nat} {q : List Nat} (h : TI S0 S rt r q) {v : Nat} (hn : S v = false) : TI S0 (setB S v) (setN rt v r) r (q ++ [v]) := by
  have h1 := h.1 v
  rw [hn] at h1
  have h2 : S0 v = false := by
    cases hs : S0 v with
    | false => rfl
    | true => rw [hs] at h1; cases h1
  have h3 : v ∉ q := fun z => by simp [z] at h1
  refine ⟨fun x => ?_, ?_, fun x hx => ?_⟩
  · rw [setB, h.1 x]
    simp only [List.contains_eq_mem, List.mem_append, List.mem_singleton]
    by_cases e : x = v <;> simp [e]
  · rw [List.nodup_append]
    exact ⟨h.2.1, by simp, fun a ha b hb e => h3 (by simp at hb; rw [← hb, ← e]; exact ha)⟩
  · rcases List.mem_append.mp hx with z | z
    · have hxv : x ≠ v := fun e => h3 (e ▸ z)
      rw [setN_n hxv]
      exact h.2.2 x z
    · rw [List.mem_singleton.mp z, setN_s]
      exact ⟨h2, rfl⟩
theorem TI.cls {es : gE} {S0 S : Nat → Bool} {rt : Nat → Nat} {r : Nat} {q : List Nat} (h : TI S0 S rt r q) (h0 : Cls es S0 rt) (hq : ∀ x, x ∈ q → ∀ v, adj es x v = true → S v = true) : Cls es S rt := by
  intro x hx v hv
  rw [h.1 x, Bool.or_eq_true] at hx
  rcases hx with z | z
  · obtain ⟨a, b⟩ := h0 x z v hv
    exact ⟨by rw [h.1 v, a]; rfl, b⟩
  · have z' : x ∈ q := by simpa using z
    have h1 := hq x z' v hv
    refine ⟨h1, ?_⟩
    rw [h.1 v, Bool.or_eq_true] at h1
    rcases h1 with w | w
    · have := (h0 v w x (by rw [adj_sym]; exact hv)).1
      rw [(h.2.2 x z').1] at this
      cases this
    · rw [(h.2.2 x z').2, (h.2.2 v (by simpa using w)).2]
def bll : List Nat := [10, 11, 12, 13, 14, 15, 16, 17]
theorem net_bll {b : Nat} (hb : fl_net b) : ∀ a ∈ nl b, a ∉ bll := by
  intro a ha hc
  simp only [nl, bll, List.mem_cons, List.not_mem_nil, or_false] at ha hc
  have h1 := net_bases b (fl_lt hb) hb
  omega
def FM (W : fl_W) (S : Nat → Bool) (far par : Nat → Nat) : Prop := ∀ x, S x = true → W 12 x = nI (far x) ∧ W 13 x = nI x ∧ W 14 x = -1 ∧ (far x ≠ 0 → W 11 x = nI (par x))
def GS (W : fl_W) (b V : Nat) (es : gE) (c r : Nat) (S0 S : Nat → Bool) (far par rt far0 rt0 : Nat → Nat) (q : List Nat) : Prop :=
  NetR W b V es ∧ W 10 7 = nI c ∧ BS (W 10 6) S ∧ FM W S far par ∧ RowR W 16 (nL q) ∧ PF V es S far par rt ∧ TI S0 S rt r q ∧ (∀ x, S0 x = true → far x = far0 x ∧ rt x = rt0 x) ∧ far r = 0
section BLK
variable {d : Nat} {Q : fl_R} {b : Nat} {W : fl_W} {V : Nat} {es : gE}
theorem bl_reach {v : Nat} {fr dp : Int32} {q : List Nat} (hv : v < 20) (hq : RowR W 16 (nL q)) (hl : q.length < 20)
    (h : ∀ W', (∀ S, BS (W 10 6) S → BS (W' 10 6) (setB S v)) → W' 10 7 = W 10 7 → W' 11 = upd (W 11) v fr → W' 12 = upd (W 12) v dp → W' 13 = upd (W 13) v (nI v) → W' 14 = upd (W 14) v (-1) → RowR W' 16 (nL (q ++ [v])) → EqX bll W W' → Q none W') : fl_cal (d + 2) 4 [.ref 10, .int (nI v), .int fr, .int dp] W Q := by
  refine sx_4 _ _ _ W (st_can ?_)
  rw [ixB_N (by omega), decide_eq_true hv]
  refine ⟨fun z => absurd z (by decide), fun _ => st_bit ?_⟩
  intro W3 e3
  have hin : vp_in (nI v) 20 := in_N hv (by omega)
  refine ⟨hin, fun W4 e4 => ⟨hin, fun W5 e5 => ⟨hin, fun W6 e6 => ⟨hin, fun W7 e7 => ?_⟩⟩⟩⟩
  rw [nI_clamp (by omega)] at e4 e5 e6 e7
  have f3 : EqX bll W W3 := by rw [e3]; exact EqX.uw (by simp [bll])
  have f4 : EqX bll W3 W4 := by rw [e4]; exact EqX.uw (by simp [bll])
  have f5 : EqX bll W4 W5 := by rw [e5]; exact EqX.uw (by simp [bll])
  have f6 : EqX bll W5 W6 := by rw [e6]; exact EqX.uw (by simp [bll])
  have f7 : EqX bll W6 W7 := by rw [e7]; exact EqX.uw (by simp [bll])
  have hq7 : RowR W7 16 (nL q) := by
    refine hq.fr (l := [10, 11, 12, 13, 14]) ?_ (by decide) (by decide)
    rw [e7, e6, e5, e4, e3]
    exact ((((EqX.uw (by simp)).tr (EqX.uw (by simp))).tr (EqX.uw (by simp))).tr (EqX.uw (by simp))).tr (EqX.uw (by simp))
  refine row_add (r := 16) rfl hq7 (by rw [nL_len]; exact hl) fun W8 r8 f8 => ?_
  have a10 : W8 10 = W3 10 := by rw [f8 10 (by decide), e7, uw_n (by decide), e6, uw_n (by decide), e5, uw_n (by decide), e4, uw_n (by decide)]
  refine h W8 (fun S hS => ?_) ?_ ?_ ?_ ?_ ?_ (by rw [nL_app]; exact r8) (((((f3.tr f4).tr f5).tr f6).tr f7).tr (f8.mono (by decide)))
  · rw [a10, e3, uw_s]
    exact hS.or (BS.bit hv)
  · rw [a10, e3, uw_m (by decide)]
  · rw [f8 11 (by decide), e7, uw_n (by decide), e6, uw_n (by decide), e5, uw_n (by decide), e4, e3]
    simp [fl_uw]
  · rw [f8 12 (by decide), e7, uw_n (by decide), e6, uw_n (by decide), e5, e4, e3]
    simp [fl_uw]
  · rw [f8 13 (by decide), e7, uw_n (by decide), e6, e5, e4, e3]
    simp [fl_uw]
  · rw [f8 14 (by decide), e7, e6, e5, e4, e3]
    simp [fl_uw]
theorem upd_s {f : Nat → Int32} {v : Nat} {x : Int32} : upd f v x v = x := by simp [upd]
theorem upd_n {f : Nat → Int32} {v j : Nat} {x : Int32} (h : j ≠ v) : upd f v x j = f j := by simp [upd, h]
theorem FM.add {W' : fl_W} {S : Nat → Bool} {far par : Nat → Nat} {v x dd : Nat} {fr : Int32} (h : FM W S far par) (hn : S v = false) (h11 : W' 11 = upd (W 11) v fr) (h12 : W' 12 = upd (W 12) v (nI dd)) (h13 : W' 13 = upd (W 13) v (nI v)) (h14 : W' 14 = upd (W 14) v (-1)) (hfr : dd ≠ 0 → fr = nI x) : FM W' (setB S v) (setN far v dd) (setN par v x) := by
  intro y hy
  rw [h11, h12, h13, h14]
  by_cases e : y = v
  · subst e
    rw [upd_s, upd_s, upd_s, upd_s, setN_s, setN_s]
    exact ⟨rfl, rfl, rfl, hfr⟩
  · rw [upd_n e, upd_n e, upd_n e, upd_n e, setN_n e, setN_n e]
    exact h y ((setB_iff.mp hy).resolve_right e)
theorem GS.lt {c r : Nat} {S0 S : Nat → Bool} {far par rt far0 rt0 : Nat → Nat} {q : List Nat} (h : GS W b V es c r S0 S far par rt far0 rt0 q) {x : Nat} (hx : x ∈ q) : S x = true ∧ x < V := by
  obtain ⟨-, -, -, -, -, hP, hT, -, -⟩ := h
  have h1 : S x = true := by rw [hT.1 x]; simp [hx]
  exact ⟨h1, (hP x h1).1⟩
theorem GS.room {c r : Nat} {S0 S : Nat → Bool} {far par rt far0 rt0 : Nat → Nat} {q : List Nat} (h : GS W b V es c r S0 S far par rt far0 rt0 q) {v : Nat} (hv : v < V) (hn : S v = false) : q.length < 20 := by
  have hT := h.2.2.2.2.2.2.1
  have h1 := hT.1 v
  rw [hn] at h1
  have h3 : v ∉ q := fun z => by simp [z] at h1
  have h5 : (q ++ [v]).length ≤ 20 := nd_le 20 (by
    rw [List.nodup_append]
    exact ⟨hT.2.1, by simp, fun a ha c hcc e => h3 (by simp at hcc; rw [← hcc, ← e]; exact ha)⟩) (by
    intro y hy
    have hV := h.1.1
    rcases List.mem_append.mp hy with z | z
    · have := (h.lt z).2; omega
    · simp at z; omega)
  simp at h5; omega
theorem bl_row {c r k x : Nat} {S0 Sk : Nat → Bool} {far0 rt0 : Nat → Nat} {fresh deep : Int32} (hb : fl_net b) (hk : k < 20) (hfr : BS fresh (fun v => adj es x v && !Sk v)) (hr : ∀ u, u < r → S0 u = true) :
    ∀ (n i : Nat) (W : fl_W) (S : Nat → Bool) (far par rt : Nat → Nat) (q : List Nat), V - i = n → i ≤ V → GS W b V es c r S0 S far par rt far0 rt0 q → S r = true → x ∈ q → deep = nI (far x + 1) → (∀ v, Sk v = true → S v = true) → (∀ v, i ≤ v → S v = Sk v) → (∀ v, v < i → adj es x v = true → S v = true) →
      (∀ W' S' far' par' rt' t, GS W' b V es c r S0 S' far' par' rt' far0 rt0 (q ++ t) → (∀ v, S v = true → S' v = true) → (∀ v, adj es x v = true → S' v = true) → EqX bll W W' → hd_3_16 (d + 2) Q b (nI (k + 1)) W') →
      hd_3_84 (d + 2) Q b (nI k) (nI x) fresh deep (nI i) W := by
  intro n
  induction n with
  | zero =>
    intro i W S far par rt q h1 h2 hG hrq hx hdp hm he hc h
    have hi : i = V := by omega
    refine sx_3_84 b _ _ _ _ _ W hb ⟨fun z => absurd z ?_, fun _ => ?_⟩
    · rw [hG.1.2.2.2.1, hi]; exact nI_nlt (Nat.le_refl _) (by have := hG.1.1; omega)
    · rw [ci_1, nI_add]
      exact h W S far par rt [] (by rw [List.append_nil]; exact hG) (fun _ z => z) (fun v hv => hc v (by rw [hi]; exact (adj_lt hG.1.2.2.1 hv).2.1) hv) EqX.rf
  | succ n ih =>
    intro i W S far par rt q h1 h2 hG hrq hx hdp hm he hc h
    have hi : i < V := by omega
    have hV := hG.1.1
    refine sx_3_84 b _ _ _ _ _ W hb ⟨fun _ => ⟨fun z => ?_, fun _ => st_in ?_⟩, fun z => absurd ?_ z⟩
    · rw [ci_1, nI_add]
      refine h W S far par rt [] (by rw [List.append_nil]; exact hG) (fun _ z => z) (fun v hv => ?_) EqX.rf
      have h4 := hfr.z.mp z v (by have := (adj_lt hG.1.2.2.1 hv).2.1; omega)
      rw [hv, Bool.true_and, Bool.not_eq_false'] at h4
      exact hm v h4
    · have hfi : sb fresh i = (adj es x i && !S i) := by rw [he i (Nat.le_refl _)]; exact hfr.lo i (by omega)
      rw [inI_N (by omega), hfi]
      cases hf : (adj es x i && !S i) with
      | false =>
        refine ⟨fun _ => ?_, fun z => absurd rfl z⟩
        rw [ci_1, nI_add]
        refine ih (i + 1) W S far par rt q (by omega) (by omega) hG hrq hx hdp hm (fun v hv => he v (by omega)) (fun v hv hv2 => ?_) h
        by_cases e : v = i
        · rw [e] at hv2 ⊢
          rw [hv2, Bool.true_and, Bool.not_eq_false'] at hf
          exact hf
        · exact hc v (by omega) hv2
      | true =>
        simp only [Bool.and_eq_true, Bool.not_eq_true'] at hf
        refine ⟨fun z => absurd z (by decide), fun _ => ?_⟩
        obtain ⟨g1, g2, g3, g4, g5, g6, g7, g8, g9⟩ := id hG
        obtain ⟨hSx, hxV⟩ := hG.lt hx
        refine bl_reach (by omega) g5 (hG.room hi hf.2) fun W8 a1 a2 a3 a4 a5 a6 a7 a8 => ?_
        rw [ci_1, nI_add]
        rw [hdp] at a4
        have hrx := (g7.2.2 x hx).2
        have hri : r ≤ i := by
          rcases Nat.lt_or_ge i r with z | z
          · have z1 := hr i z
            have z2 := g7.1 i
            rw [z1, hf.2] at z2
            cases z2
          · exact z
        have hxi : x ≠ i := fun e => by rw [e, hf.2] at hSx; cases hSx
        have hG' : GS W8 b V es c r S0 (setB S i) (setN far i (far x + 1)) (setN par i x) (setN rt i (rt x)) far0 rt0 (q ++ [i]) := by
          refine ⟨g1.fr a8 (net_bll hb), by rw [a2]; exact g2, a1 S g3, g4.add hf.2 a3 a4 a5 a6 (fun _ => rfl), a7, g6.add g1.2.2.1 hSx hi hf.2 hf.1 (by rw [hrx]; exact hri), ?_, fun y hy => ?_, ?_⟩
          · rw [hrx]; exact g7.add hf.2
          · have hyi : y ≠ i := fun e => by
              have z2 := g7.1 i
              rw [← e, hy, e, hf.2] at z2
              cases z2
            rw [setN_n hyi, setN_n hyi]
            exact g8 y hy
          · have hri2 : r ≠ i := fun e => by
              have z1 := hrq
              rw [e, hf.2] at z1
              cases z1
            rw [setN_n hri2]; exact g9
        refine ih (i + 1) W8 _ _ _ _ (q ++ [i]) (by omega) (by omega) hG' (setB_iff.mpr (Or.inl hrq)) (List.mem_append_left _ hx) (by rw [setN_n hxi]; exact hdp) (fun v hv => setB_iff.mpr (Or.inl (hm v hv))) (fun v hv => ?_) (fun v hv hv2 => ?_) fun W' S' far' par' rt' t k1 k2 k3 k4 => ?_
        · rw [setB, decide_eq_false (by omega), Bool.or_false, he v (by omega)]
        · by_cases e : v = i
          · exact setB_iff.mpr (Or.inr e)
          · exact setB_iff.mpr (Or.inl (hc v (by omega) hv2))
        · rw [List.append_assoc] at k1
          exact h W' S' far' par' rt' _ k1 (fun v hv => k2 v (setB_iff.mpr (Or.inl hv))) k3 (a8.tr k4)
    · rw [hG.1.2.2.2.1]; exact nI_lt hi (by omega)
theorem bl_grow_l {c r : Nat} {S0 : Nat → Bool} {far0 rt0 : Nat → Nat} (hb : fl_net b) (hr : ∀ u, u < r → S0 u = true) :
    ∀ (n k : Nat) (W : fl_W) (S : Nat → Bool) (far par rt : Nat → Nat) (q : List Nat), 20 - k = n → k ≤ q.length → GS W b V es c r S0 S far par rt far0 rt0 q → r ∈ q → (∀ j y, j < k → q[j]? = some y → ∀ v, adj es y v = true → S v = true) →
      (∀ W' S' far' par' rt' t, GS W' b V es c r S0 S' far' par' rt' far0 rt0 (q ++ t) → (∀ y, y ∈ q ++ t → ∀ v, adj es y v = true → S' v = true) → EqX bll W W' → Q none W') →
      hd_3_16 (d + 2) Q b (nI k) W := by
  intro n
  induction n with
  | zero =>
    intro k W S far par rt q h1 h2 hG hrq hc h
    have hql : q.length ≤ 20 := nd_le 20 hG.2.2.2.2.2.2.1.2.1 fun x hx => by have := (hG.lt hx).2; have := hG.1.1; omega
    have hk : k = 20 := by omega
    refine sx_3_16 b _ W hb ⟨fun z => absurd z ?_, fun _ => h W S far par rt [] (by rw [List.append_nil]; exact hG) (fun y hy v hv => ?_) EqX.rf⟩
    · rw [cb_20, hk]; exact nI_nlt (Nat.le_refl _) (by omega)
    · rw [List.append_nil] at hy
      obtain ⟨j, hj⟩ := List.getElem?_of_mem hy
      exact hc j y (by have := (List.getElem?_eq_some_iff.mp hj).1; omega) hj v hv
  | succ n ih =>
    intro k W S far par rt q h1 h2 hG hrq hc h
    obtain ⟨g1, g2, g3, g4, g5, g6, g7, g8, g9⟩ := id hG
    have hV := g1.1
    have hql : q.length ≤ 20 := nd_le 20 g7.2.1 fun x hx => by have := (hG.lt hx).2; omega
    refine sx_3_16 b _ W hb ⟨fun _ => row_size (r := 16) rfl g5 ?_, fun z => absurd ?_ z⟩
    · rw [nL_len]
      refine ⟨fun hkq => ?_, fun hkq => ?_⟩
      · rw [nI_ltI (by omega) (by omega)] at hkq
        have hx : q[k]? = some q[k] := List.getElem?_eq_getElem hkq
        generalize q[k] = x at hx
        have hxq := List.mem_of_getElem? hx
        obtain ⟨hSx, hxV⟩ := hG.lt hxq
        refine row_get (r := 16) rfl g5 ?_
        rw [getI_at (by omega) (nL_at hx)]
        refine net_around hb g1 hxV fun y hy => st_can ?_
        rw [ixB_N (by omega), decide_eq_true (by omega)]
        refine ⟨fun z => absurd z (by decide), fun _ => ⟨in_N (by omega) (by omega), ?_⟩⟩
        rw [nI_clamp (by omega), (g4 x hSx).1, ci_1, nI_add]
        refine bl_row (Sk := S) hb (by omega) (hy.and (by rw [ci_m]; exact g3.lo.not)) hr V 0 W S far par rt q (by omega) (by omega) hG (hG.lt hrq).1 hxq rfl (fun _ z => z) (fun _ _ => rfl) (fun v hv => by omega) fun W' S' far' par' rt' t k1 k2 k3 k4 => ?_
        refine ih (k + 1) W' S' far' par' rt' (q ++ t) (by omega) (by simp; omega) k1 (List.mem_append_left _ hrq) (fun j y hj hy2 v hv => ?_) fun W2 S2 far2 par2 rt2 t2 m1 m2 m3 => ?_
        · rw [List.getElem?_append_left (by omega)] at hy2
          by_cases e : j = k
          · rw [e, hx] at hy2
            cases hy2
            exact k3 v hv
          · exact k2 v (hc j y (by omega) hy2 v hv)
        · rw [List.append_assoc] at m1 m2
          exact h W2 S2 far2 par2 rt2 _ m1 m2 (k4.tr m3)
      · rw [nI_ltI (by omega) (by omega)] at hkq
        refine h W S far par rt [] (by rw [List.append_nil]; exact hG) (fun y hy v hv => ?_) EqX.rf
        rw [List.append_nil] at hy
        obtain ⟨j, hj⟩ := List.getElem?_of_mem hy
        exact hc j y (by have := (List.getElem?_eq_some_iff.mp hj).1; omega) hj v hv
    · rw [cb_20]; exact nI_lt (by omega) (by omega)
/-- growTree: what was closed is closed again, with r's tree -/
theorem bl_grow {c r : Nat} {S0 : Nat → Bool} {far par rt : Nat → Nat} (hb : fl_net b) (hr : ∀ u, u < r → S0 u = true) (hrV : r < V) (hnr : S0 r = false) (hN : NetR W b V es) (hc7 : W 10 7 = nI c) (hS : BS (W 10 6) S0) (hM : FM W S0 far par) (hP : PF V es S0 far par rt) (hCl : Cls es S0 rt)
    (h : ∀ W' S' far' par' rt', NetR W' b V es → W' 10 7 = nI c → BS (W' 10 6) S' → FM W' S' far' par' → PF V es S' far' par' rt' → Cls es S' rt' → (∀ x, S0 x = true → S' x = true ∧ far' x = far x ∧ rt' x = rt x) → S' r = true → far' r = 0 → (∀ x, S' x = true → S0 x = false → rt' x = r) → EqX bll W W' → Q none W') : fl_cal (d + 3) 3 [.ref 10, .ref b, .int (nI r)] W Q := by
  have hV := hN.1
  refine sx_3 b _ W hb (row_clear (r := 16) rfl fun W1 r1 f1 => ?_)
  have f1' : EqX bll W W1 := f1.mono (by decide)
  refine bl_reach (q := []) (by omega) r1 (by simp) fun W2 a1 a2 a3 a4 a5 a6 a7 a8 => ?_
  have e10 : W1 10 = W 10 := f1 10 (by decide)
  have hM1 : FM W1 S0 far par := fun x hx => by
    rw [f1 11 (by decide), f1 12 (by decide), f1 13 (by decide), f1 14 (by decide)]; exact hM x hx
  have hTI0 : TI S0 S0 rt r [] := ⟨fun x => by simp, List.nodup_nil, fun x hx => absurd hx List.not_mem_nil⟩
  rw [ci_m, ci_0] at *
  have hG : GS W2 b V es c r S0 (setB S0 r) (setN far r 0) (setN par r 0) (setN rt r r) far rt [r] := by
    refine ⟨(hN.fr f1' (net_bll hb)).fr a8 (net_bll hb), by rw [a2, e10]; exact hc7, a1 S0 (by rw [e10]; exact hS), hM1.add hnr a3 a4 a5 a6 (fun z => absurd rfl z), a7, hP.root hrV hnr, hTI0.add hnr, fun x hx => ?_, setN_s⟩
    have hxr : x ≠ r := fun e => by rw [e, hnr] at hx; cases hx
    rw [setN_n hxr, setN_n hxr]
    exact ⟨rfl, rfl⟩
  refine bl_grow_l hb hr 20 0 W2 _ _ _ _ [r] rfl (by simp) hG (by simp) (fun j y hj => by omega) fun W' S' far' par' rt' t k1 k2 k3 => ?_
  obtain ⟨g1, g2, g3, g4, g5, g6, g7, g8, g9⟩ := id k1
  have hCl' : Cls es S0 rt' := fun x hx v hv => by
    obtain ⟨z1, z2⟩ := hCl x hx v hv
    exact ⟨z1, by rw [(g8 v z1).2, (g8 x hx).2, z2]⟩
  have hrq : r ∈ [r] ++ t := by simp
  obtain ⟨hSr, _⟩ := k1.lt hrq
  refine h W' S' far' par' rt' g1 g2 g3 g4 g6 (g7.cls hCl' k2) (fun x hx => ⟨by rw [g7.1 x, hx]; rfl, g8 x hx⟩) hSr ?_ (fun x hx hx0 => ?_) ((f1'.tr a8).tr k3)
  · exact g9
  · rw [g7.1 x, hx0] at hx
    exact (g7.2.2 x (by simpa using hx)).2
end BLK
