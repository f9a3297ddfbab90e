/-! ===== the reference: which edges are present; its forest ===== -/
def prs (P : Nat → Bool) : Nat → gE → gE
  | _, [] => []
  | i, g :: l => if P i then g :: prs P (i + 1) l else prs P (i + 1) l
theorem prs_sub {P : Nat → Bool} : ∀ {l : gE} {i : Nat}, (prs P i l).Sublist l
  | [], _ => List.Sublist.refl _
  | g :: l, i => by
    rw [prs]
    split
    · exact prs_sub.cons₂ g
    · exact prs_sub.cons g
theorem prs_app {P : Nat → Bool} : ∀ {l m : gE} {i : Nat}, prs P i (l ++ m) = prs P i l ++ prs P (i + l.length) m
  | [], m, i => by simp [prs]
  | g :: l, m, i => by
    rw [List.cons_append, prs, prs, prs_app, List.length_cons, show i + 1 + l.length = i + (l.length + 1) by omega]
    split <;> simp
theorem mem_prs {P : Nat → Bool} {g : Nat × Nat} : ∀ {l : gE} {i : Nat}, g ∈ prs P i l ↔ ∃ j, l[j]? = some g ∧ P (i + j) = true
  | [], i => by simp [prs]
  | h :: l, i => by
    have ih := mem_prs (P := P) (g := g) (l := l) (i := i + 1)
    have key : (∃ j, (h :: l)[j]? = some g ∧ P (i + j) = true) ↔ (h = g ∧ P i = true) ∨ ∃ j, l[j]? = some g ∧ P (i + 1 + j) = true := by
      constructor
      · rintro ⟨j, h1, h2⟩
        cases j with
        | zero => exact Or.inl ⟨Option.some.inj h1, h2⟩
        | succ j => exact Or.inr ⟨j, h1, by rw [show i + 1 + j = i + (j + 1) by omega]; exact h2⟩
      · rintro (⟨h1, h2⟩ | ⟨j, h1, h2⟩)
        · exact ⟨0, by rw [h1]; rfl, h2⟩
        · exact ⟨j + 1, h1, by rw [show i + (j + 1) = i + 1 + j by omega]; exact h2⟩
    rw [key, ← ih, prs]
    cases hP : P i with
    | true =>
      rw [if_pos rfl, List.mem_cons]
      constructor
      · rintro (z | z)
        · exact Or.inl ⟨z.symm, rfl⟩
        · exact Or.inr z
      · rintro (z | z)
        · exact Or.inl z.1.symm
        · exact Or.inr z
    | false =>
      simp
theorem prs_all {P : Nat → Bool} : ∀ {l : gE} {i : Nat}, (∀ j, j < l.length → P (i + j) = true) → prs P i l = l
  | [], _, _ => rfl
  | g :: l, i, h => by
    have h0 : P i = true := h 0 (by simp)
    rw [prs, if_pos h0, prs_all fun j hj => ?_]
    rw [show i + 1 + j = i + (j + 1) by omega]
    exact h (j + 1) (by simp; omega)
def PrR (W : fl_W) (P : Nat → Bool) (m : Nat) : Prop := ∀ i, i < m → W 232 i = if P i then 1 else 0
def RFM (W : fl_W) (V : Nat) (es : gE) (P : Nat → Bool) (S : Nat → Bool) (far par : Nat → Nat) : Prop := ∀ x, x < V → (S x = true → W 243 x = nI (far x) ∧ (far x = 0 → W 242 x = -1) ∧ (far x ≠ 0 → W 241 x = nI (par x) ∧ ∃ e, es[e]? = some (te par x) ∧ P e = true ∧ W 242 x = nI e)) ∧ (S x = false → W 243 x = -1)
def RGS (W : fl_W) (V : Nat) (es : gE) (P : Nat → Bool) (c r : Nat) (S0 S : Nat → Bool) (far par rt far0 rt0 : Nat → Nat) (q : List Nat) : Prop :=
  RfG W V es ∧ PrR W P es.length ∧ W 229 22 = nI c ∧ RFM W V es P S far par ∧ (∀ j x, q[j]? = some x → W 244 j = nI x) ∧ PF V (prs P 0 es) S far par rt ∧ TI S0 S rt r q ∧ (∀ x, S0 x = true → far x = far0 x ∧ rt x = rt0 x) ∧ far r = 0
theorem pf_far_l {V : Nat} {es : gE} {S : Nat → Bool} {far par rt : Nat → Nat} (h : PF V es S far par rt) : ∀ (n x : Nat), S x = true → far x = n → ∃ l : List Nat, l.length = n + 1 ∧ l.Nodup ∧ (∀ y ∈ l, y < V) ∧ ∀ y ∈ l, far y ≤ n := by
  intro n
  induction n with
  | zero => intro x hx hf; exact ⟨[x], rfl, by simp, fun y hy => by simp at hy; rw [hy]; exact (h x hx).1, fun y hy => by simp at hy; rw [hy]; omega⟩
  | succ n ih =>
    intro x hx hf
    rcases (h x hx).2.2 with q | q
    · omega
    · obtain ⟨l, h1, h2, h3, h4⟩ := ih (par x) q.2.1 (by omega)
      refine ⟨x :: l, by simp [h1], List.nodup_cons.mpr ⟨fun z => ?_, h2⟩, fun y hy => ?_, fun y hy => ?_⟩
      · have := h4 x z; omega
      · rcases List.mem_cons.mp hy with q | q
        · rw [q]; exact (h x hx).1
        · exact h3 y q
      · rcases List.mem_cons.mp hy with q | q
        · rw [q]; omega
        · have := h4 y q; omega
theorem pf_far {V : Nat} {es : gE} {S : Nat → Bool} {far par rt : Nat → Nat} (h : PF V es S far par rt) {x : Nat} (hx : S x = true) : far x < V := by
  obtain ⟨l, h1, h2, h3, _⟩ := pf_far_l h (far x) x hx rfl
  have := nd_le V h2 h3
  omega
section RFO
variable {d : Nat} {Q : fl_R} {W : fl_W} {V : Nat} {es : gE} {P : Nat → Bool}
theorem prs_ok (hO : okE V es) : okE V (prs P 0 es) := okE_sub hO prs_sub
theorem prs_adj {u v : Nat} : adj (prs P 0 es) u v = true ↔ ∃ e g, es[e]? = some g ∧ P e = true ∧ (g = (u, v) ∨ g = (v, u)) := by
  rw [adj_iff, mem_prs, mem_prs]
  simp only [Nat.zero_add]
  constructor
  · rintro (⟨j, h1, h2⟩ | ⟨j, h1, h2⟩)
    · exact ⟨j, _, h1, h2, Or.inl rfl⟩
    · exact ⟨j, _, h1, h2, Or.inr rfl⟩
  · rintro ⟨e, g, h1, h2, (h3 | h3)⟩
    · exact Or.inl ⟨e, by rw [h1, h3], h2⟩
    · exact Or.inr ⟨e, by rw [h1, h3], h2⟩
theorem RGS.lt {c r : Nat} {S0 S : Nat → Bool} {far par rt far0 rt0 : Nat → Nat} {q : List Nat} (h : RGS W V es P c r S0 S far par rt far0 rt0 q) {x : Nat} (hx : x ∈ q) : S x = true ∧ x < V := by
  obtain ⟨-, -, -, -, -, hP, hT, -, -⟩ := h
  have h1 : S x = true := by rw [hT.1 x]; simp [hx]
  exact ⟨h1, (hP x h1).1⟩
theorem RGS.room {c r : Nat} {S0 S : Nat → Bool} {far par rt far0 rt0 : Nat → Nat} {q : List Nat} (h : RGS W V es P c r S0 S far par rt far0 rt0 q) {v : Nat} (hv : v < V) (hn : S v = false) : q.length < 20 := by
  have hT := h.2.2.2.2.2.2.1
  have h1 := hT.1 v
  rw [hn] at h1
  have h3 : v ∉ q := fun z => by simp [z] at h1
  have h5 : (q ++ [v]).length ≤ 20 := nd_le 20 (by
    rw [List.nodup_append]
    exact ⟨hT.2.1, by simp, fun a ha c hcc e => h3 (by simp at hcc; rw [← hcc, ← e]; exact ha)⟩) (by
    intro y hy
    have hV := h.1.1
    rcases List.mem_append.mp hy with z | z
    · have := (h.lt z).2; omega
    · simp at z; omega)
  simp at h5; omega
theorem othN_mem {g : Nat × Nat} {x u : Nat} (h : othN g x = some u) : g = (x, u) ∨ g = (u, x) := by
  rw [othN] at h
  split at h
  · rename_i e
    cases h
    exact Or.inl (by rw [← e])
  · split at h
    · rename_i e
      cases h
      exact Or.inr (by rw [← e])
    · cases h
theorem mem_othN {g : Nat × Nat} {x u : Nat} (hne : g.1 ≠ g.2) (h : g = (x, u) ∨ g = (u, x)) : othN g x = some u := by
  rcases h with rfl | rfl
  · simp [othN]
  · simp only at hne
    rw [othN, if_neg hne, if_pos rfl]
theorem rf_spread_l {c r x : Nat} {S0 : Nat → Bool} {far0 rt0 : Nat → Nat} (hr : ∀ u, u < r → S0 u = true) :
    ∀ (n i : Nat) (W : fl_W) (S : Nat → Bool) (far par rt : Nat → Nat) (q : List Nat), es.length - i = n → i ≤ es.length → RGS W V es P c r S0 S far par rt far0 rt0 q → S r = true → x ∈ q → (∀ e g u, e < i → es[e]? = some g → P e = true → othN g x = some u → S u = true) →
      (∀ W' S' far' par' rt' t, RGS W' V es P c r S0 S' far' par' rt' far0 rt0 (q ++ t) → (∀ v, S v = true → S' v = true) → (∀ v, adj (prs P 0 es) x v = true → S' v = true) → EqF [] [241, 242, 243, 244] W W' → Q (some (.int (nI (q ++ t).length))) W') →
      hd_135_5 (d + 1) Q (nI x) (nI q.length) (nI i) W := by
  intro n
  induction n with
  | zero =>
    intro i W S far par rt q h1 h2 hG hrq hx hc h
    have hi : i = es.length := by omega
    have hE := hG.1.2.1
    refine sx_135_5 _ _ _ W ⟨fun z => absurd z ?_, fun _ => ?_⟩
    · rw [hG.1.2.2.2.2.1]; exact nI_nlt (by omega) (by omega)
    · have := h W S far par rt [] (by rw [List.append_nil]; exact hG) (fun _ z => z) (fun v hv => ?_) EqF.rf
      · rw [List.append_nil] at this; exact this
      · obtain ⟨e, g, g1, g2, g3⟩ := prs_adj.mp hv
        have hp := hG.1.2.2.1.1 g (List.mem_of_getElem? g1)
        exact hc e g v (by rw [hi]; exact (List.getElem?_eq_some_iff.mp g1).1) g1 g2 (mem_othN (by omega) g3)
  | succ n ih =>
    intro i W S far par rt q h1 h2 hG hrq hx hc h
    have hi : i < es.length := by omega
    have hE := hG.1.2.1
    have hV := hG.1.1
    have hp := List.getElem?_eq_getElem hi
    generalize es[i] = g at hp
    obtain ⟨g1, g2, g3, g4, g5, g6, g7, g8, g9⟩ := id hG
    obtain ⟨hSx, hxV⟩ := hG.lt hx
    have hgp := g1.2.2.1.1 g (List.mem_of_getElem? hp)
    have next : (∀ u, P i = true → othN g x = some u → S u = true) → hd_135_5 (d + 1) Q (nI x) (nI q.length) (nI i + Int32.ofInt 1) W := fun hh => by
      rw [ci_1, nI_add]
      refine ih (i + 1) W S far par rt q (by omega) (by omega) hG hrq hx (fun e g' u he hg' hP ho => ?_) h
      by_cases ee : e = i
      · rw [ee] at hg' hP
        rw [hp] at hg'
        cases hg'
        exact hh u hP ho
      · exact hc e g' u (by omega) hg' hP ho
    refine sx_135_5 _ _ _ W ⟨fun _ => ⟨in_N (by omega) (by omega), ?_⟩, fun z => absurd ?_ z⟩
    · rw [nI_clamp (by omega), g2 i hi]
      cases hP : P i with
      | false => exact ⟨fun _ => ⟨fun _ => next fun u z => (by rw [hP] at z; cases z), fun z => absurd (by decide) z⟩, fun z => absurd rfl z⟩
      | true =>
        refine ⟨fun z => absurd z (by decide), fun _ => rf_other g1 hp (by omega) ?_⟩
        cases ho : othN g x with
        | none => exact ⟨fun _ => next fun u _ z => (by rw [ho] at z; cases z), fun z => absurd (by decide) z⟩
        | some u =>
          have hu : u < V := by
            rcases othN_mem ho with z | z
            · rw [z] at hgp; simp only at hgp; omega
            · rw [z] at hgp; simp only at hgp; omega
          have hadj : adj (prs P 0 es) x u = true := prs_adj.mpr ⟨i, g, hp, hP, othN_mem ho⟩
          rw [show optI (some u) = nI u from rfl]
          refine ⟨fun z => absurd z (nI_pos (by omega)), fun _ => ⟨in_N (by omega) (by omega), ?_⟩⟩
          rw [nI_clamp (by omega)]
          cases hSu : S u with
          | true =>
            have hf := (hG.2.2.2.1 u hu).1 hSu
            rw [hf.1]
            exact ⟨fun z => absurd z (nI_pos (by have := pf_far g6 hSu; omega)), fun _ => next fun u' _ z => (by rw [ho] at z; cases z; exact hSu)⟩
          | false =>
            rw [((g4 u hu).2 hSu)]
            refine ⟨fun _ => ⟨in_N (by omega) (by omega), in_N (by omega) (by omega), fun W6 e6 => ⟨in_N (by omega) (by omega), fun W7 e7 => ⟨in_N (by omega) (by omega), fun W8 e8 => ⟨in_N (by have := hG.room hu hSu; omega) (by omega), fun W9 e9 => ?_⟩⟩⟩⟩, fun z => absurd (by decide) z⟩
            have hroom := hG.room hu hSu
            rw [nI_clamp (by omega), ((g4 x hxV).1 hSx).1, ci_1, nI_add] at e6
            rw [nI_clamp (by omega)] at e9
            have hrx := (g7.2.2 x hx).2
            have hri : r ≤ u := by
              rcases Nat.lt_or_ge u r with z | z
              · have z1 := hr u z
                have z2 := g7.1 u
                rw [z1, hSu] at z2
                cases z2
              · exact z
            have f9 : EqF [] [241, 242, 243, 244] W W9 := by
              rw [e9, e8, e7, e6]
              exact (((EqF.uwA (by simp) (by decide)).tr (EqF.uwA (by simp) (by decide))).tr (EqF.uwA (by simp) (by decide))).tr (EqF.uwA (by simp) (by decide))
            have c243 : W9 243 = upd (W 243) u (nI (far x + 1)) := by rw [e9, uw_n (by decide), e8, uw_n (by decide), e7, uw_n (by decide), e6]; simp [fl_uw]
            have c241 : W9 241 = upd (W 241) u (nI x) := by rw [e9, uw_n (by decide), e8, uw_n (by decide), e7, e6]; simp [fl_uw]
            have c242 : W9 242 = upd (W 242) u (nI i) := by rw [e9, uw_n (by decide), e8, e7, e6]; simp [fl_uw]
            have c244 : W9 244 = upd (W 244) q.length (nI u) := by rw [e9, e8, e7, e6]; simp [fl_uw]
            have hxu : x ≠ u := fun e => by rw [e, hSu] at hSx; cases hSx
            have hru : r ≠ u := fun e => by rw [e, hSu] at hrq; cases hrq
            have hG' : RGS W9 V es P c r S0 (setB S u) (setN far u (far x + 1)) (setN par u x) (setN rt u (rt x)) far0 rt0 (q ++ [u]) := by
              refine ⟨g1.fr f9 (by simp) (by simp) (by decide) (by decide), fun j hj => by rw [f9.1 232 (by decide) (by decide)]; exact g2 j hj, by rw [f9.2 22 (by simp)]; exact g3, fun y hy => ?_, fun j y hj => ?_, g6.add (prs_ok g1.2.2.1) hSx hu hSu hadj (by rw [hrx]; exact hri), by rw [hrx]; exact g7.add hSu, fun y hy => ?_, by rw [setN_n hru]; exact g9⟩
              · rw [c243, c241, c242]
                by_cases e : y = u
                · subst e
                  rw [upd_s, upd_s, upd_s, setN_s, setN_s]
                  refine ⟨fun _ => ⟨rfl, fun z => by omega, fun _ => ⟨rfl, i, ?_, hP, rfl⟩⟩, fun z => by rw [setB_iff.mpr (Or.inr rfl)] at z; cases z⟩
                  rw [te, setN_s, hp]
                  rcases othN_mem ho with z | z
                  · rw [z] at hgp ⊢
                    simp only at hgp
                    rw [show min y x = x by omega, show max y x = y by omega]
                  · rw [z] at hgp ⊢
                    simp only at hgp
                    rw [show min y x = y by omega, show max y x = x by omega]
                · rw [upd_n e, upd_n e, upd_n e, setN_n e, setN_n e, te_setN e]
                  have h7 := g4 y hy
                  refine ⟨fun z => h7.1 ((setB_iff.mp z).resolve_right e), fun z => h7.2 ?_⟩
                  simp only [setB, Bool.or_eq_false_iff] at z
                  exact z.1
              · rw [c244]
                by_cases e : j = q.length
                · rw [e, List.getElem?_concat_length] at hj
                  cases hj
                  rw [e, upd_s]
                · have hl := (List.getElem?_eq_some_iff.mp hj).1
                  simp only [List.length_append, List.length_singleton] at hl
                  rw [List.getElem?_append_left (by omega)] at hj
                  rw [upd_n e]
                  exact g5 j y hj
              · have hyu : y ≠ u := fun e => by
                  have z2 := g7.1 u
                  rw [← e, hy, e, hSu] at z2
                  cases z2
                rw [setN_n hyu, setN_n hyu]
                exact g8 y hy
            rw [ci_1, nI_add, nI_add, show q.length + 1 = (q ++ [u]).length by simp]
            refine ih (i + 1) W9 _ _ _ _ (q ++ [u]) (by omega) (by omega) hG' (setB_iff.mpr (Or.inl hrq)) (List.mem_append_left _ hx) (fun e g' u' he hg' hP' ho' => ?_) fun W' S' far' par' rt' t k1 k2 k3 k4 => ?_
            · by_cases ee : e = i
              · rw [ee, hp] at hg'
                cases hg'
                rw [ho] at ho'
                cases ho'
                exact setB_iff.mpr (Or.inr rfl)
              · exact setB_iff.mpr (Or.inl (hc e g' u' (by omega) hg' hP' ho'))
            · rw [List.append_assoc] at k1 ⊢
              exact h W' S' far' par' rt' _ k1 (fun v hv => k2 v (setB_iff.mpr (Or.inl hv))) k3 (f9.tr k4)
    · rw [g1.2.2.2.2.1]; exact nI_lt hi (by omega)
theorem rf_tree_l {c r : Nat} {S0 : Nat → Bool} {far0 rt0 : Nat → Nat} (hr : ∀ u, u < r → S0 u = true) :
    ∀ (n k : Nat) (W : fl_W) (S : Nat → Bool) (far par rt : Nat → Nat) (q : List Nat), 20 - k = n → k ≤ q.length → RGS W V es P c r S0 S far par rt far0 rt0 q → r ∈ q → (∀ j y, j < k → q[j]? = some y → ∀ v, adj (prs P 0 es) y v = true → S v = true) →
      (∀ W' S' far' par' rt' t, RGS W' V es P c r S0 S' far' par' rt' far0 rt0 (q ++ t) → (∀ y, y ∈ q ++ t → ∀ v, adj (prs P 0 es) y v = true → S' v = true) → EqF [] [241, 242, 243, 244] W W' → hd_134_30 (d + 2) Q (nI r + Int32.ofInt 1) W') →
      hd_134_92 (d + 2) Q (nI r) (nI q.length) (nI k) W := by
  intro n
  induction n with
  | zero =>
    intro k W S far par rt q h1 h2 hG hrq hc h
    have hql : q.length ≤ 20 := nd_le 20 hG.2.2.2.2.2.2.1.2.1 fun x hx => by have := (hG.lt hx).2; have := hG.1.1; omega
    refine sx_134_92 _ _ _ W ⟨fun z => absurd z (nI_nlt (by omega) (by omega)), fun _ => h W S far par rt [] (by rw [List.append_nil]; exact hG) (fun y hy v hv => ?_) EqF.rf⟩
    rw [List.append_nil] at hy
    obtain ⟨j, hj⟩ := List.getElem?_of_mem hy
    exact hc j y (by have := (List.getElem?_eq_some_iff.mp hj).1; omega) hj v hv
  | succ n ih =>
    intro k W S far par rt q h1 h2 hG hrq hc h
    obtain ⟨g1, g2, g3, g4, g5, g6, g7, g8, g9⟩ := id hG
    have hV := g1.1
    have hql : q.length ≤ 20 := nd_le 20 g7.2.1 fun x hx => by have := (hG.lt hx).2; omega
    refine sx_134_92 _ _ _ W ⟨fun hkq => ⟨in_N (by omega) (by omega), ?_⟩, fun hkq => ?_⟩
    · rw [nI_ltI (by omega) (by omega)] at hkq
      have hx : q[k]? = some q[k] := List.getElem?_eq_getElem hkq
      generalize q[k] = x at hx
      have hxq := List.mem_of_getElem? hx
      rw [nI_clamp (by omega), g5 k x hx]
      refine sx_135 _ _ W (rf_spread_l hr es.length 0 W S far par rt q (by simp) (Nat.zero_le _) hG (hG.lt hrq).1 hxq (fun e g u he => by omega) fun W' S' far' par' rt' t k1 k2 k3 k4 => ?_)
      show hd_134_92 (d + 2) Q (nI r) (nI (q ++ t).length) (nI k + Int32.ofInt 1) W'
      rw [ci_1, nI_add]
      refine ih (k + 1) W' S' far' par' rt' (q ++ t) (by omega) (by simp; omega) k1 (List.mem_append_left _ hrq) (fun j y hj hy2 v hv => ?_) fun W2 S2 far2 par2 rt2 t2 m1 m2 m3 => ?_
      · rw [List.getElem?_append_left (by omega)] at hy2
        by_cases e : j = k
        · rw [e, hx] at hy2
          cases hy2
          exact k3 v hv
        · exact k2 v (hc j y (by omega) hy2 v hv)
      · rw [List.append_assoc] at m1 m2
        exact h W2 S2 far2 par2 rt2 _ m1 m2 (k4.tr m3)
    · rw [nI_ltI (by omega) (by omega)] at hkq
      refine h W S far par rt [] (by rw [List.append_nil]; exact hG) (fun y hy v hv => ?_) EqF.rf
      rw [List.append_nil] at hy
      obtain ⟨j, hj⟩ := List.getElem?_of_mem hy
      exact hc j y (by have := (List.getElem?_eq_some_iff.mp hj).1; omega) hj v hv
def foL : List Nat := [241, 242, 243, 244]
/-- what the forest leaves -/
def RFR (W : fl_W) (V : Nat) (es : gE) (P : Nat → Bool) (far par rt : Nat → Nat) : Prop := Frs V (prs P 0 es) far par rt ∧ W 229 22 = nI (cnt (fun v => decide (far v = 0)) V) ∧ ∀ x, x < V → W 243 x = nI (far x) ∧ (far x = 0 → W 242 x = -1) ∧ (far x ≠ 0 → W 241 x = nI (par x) ∧ ∃ e, es[e]? = some (te par x) ∧ P e = true ∧ W 242 x = nI e)
theorem rf_forest_r : ∀ (n i : Nat) (W : fl_W) (S : Nat → Bool) (far par rt : Nat → Nat), V - i = n → i ≤ V → RfG W V es → PrR W P es.length → W 229 22 = nI (cnt (fun v => decide (far v = 0)) i) → RFM W V es P S far par → PF V (prs P 0 es) S far par rt → Cls (prs P 0 es) S rt → (∀ u, u < i → S u = true) → (∀ x, S x = true → rt x < i) →
    (∀ W' far' par' rt', RFR W' V es P far' par' rt' → EqF [22] foL W W' → Q none W') → hd_134_30 (d + 2) Q (nI i) W := by
  intro n
  induction n with
  | zero =>
    intro i W S far par rt h1 h2 hN hPr h7 hM hP hC hall hlt h
    have hi : i = V := by omega
    have hV := hN.1
    subst hi
    refine sx_134_30 _ W ⟨fun z => absurd z ?_, fun _ => h W far par rt ⟨hP.frs (prs_ok hN.2.2.1) hC hall, h7, fun x hx => (hM x hx).1 (hall x hx)⟩ EqF.rf⟩
    rw [hN.2.2.2.1]; exact nI_nlt (Nat.le_refl _) (by omega)
  | succ n ih =>
    intro i W S far par rt h1 h2 hN hPr h7 hM hP hC hall hlt h
    have hi : i < V := by omega
    have hV := hN.1
    refine sx_134_30 _ W ⟨fun _ => ⟨in_N (by omega) (by omega), ?_⟩, fun z => absurd ?_ z⟩
    · rw [nI_clamp (by omega)]
      cases hs : S i with
      | true =>
        rw [((hM i hi).1 hs).1]
        refine ⟨fun z => absurd z (nI_pos (by have := pf_far hP hs; omega)), fun _ => ?_⟩
        rw [ci_1, nI_add]
        have hfi : far i ≠ 0 := fun z => by
          have h3 := hlt i hs
          rcases (hP i hs).2.2 with w | w
          · omega
          · exact w.1 z
        refine ih (i + 1) W S far par rt (by omega) (by omega) hN hPr ?_ hM hP hC (fun u hu => ?_) (fun x hx => by have := hlt x hx; omega) h
        · rw [cnt, decide_eq_false hfi]; exact h7
        · by_cases e : u = i
          · rw [e]; exact hs
          · exact hall u (by omega)
      | false =>
        rw [(hM i hi).2 hs]
        refine ⟨fun _ W3 e3 => ⟨in_N (by omega) (by omega), fun W4 e4 => ⟨in_N (by omega) (by omega), fun W5 e5 => ⟨in_N (by omega) (by omega), fun W6 e6 => ⟨in_N (n := 0) (by omega) (by omega), fun W7 e7 => ?_⟩⟩⟩⟩, fun z => absurd (by decide) z⟩
        rw [h7, ci_1, nI_add] at e3
        rw [ci_0, nI_clamp (by omega)] at e7
        have f7 : EqF [22] foL W W7 := by
          rw [e7, e6, e5, e4, e3]
          exact ((((EqF.uwF (by simp)).tr (EqF.uwA (by simp [foL]) (by decide))).tr (EqF.uwA (by simp [foL]) (by decide))).tr (EqF.uwA (by simp [foL]) (by decide))).tr (EqF.uwA (by simp [foL]) (by decide))
        have c243 : W7 243 = upd (W 243) i (nI 0) := by rw [e7, uw_n (by decide), e6, uw_n (by decide), e5, uw_n (by decide), e4, e3]; simp [fl_uw, ci_0]
        have c242 : W7 242 = upd (W 242) i (-1) := by rw [e7, uw_n (by decide), e6, e5, e4, e3]; simp [fl_uw, ci_m]
        have c241 : ∀ j, j ≠ i → W7 241 j = W 241 j := fun j hj => by rw [e7, uw_n (by decide), e6, uw_n (by decide), e5, uw_m hj, e4, uw_n (by decide), e3, uw_n (by decide)]
        have c244 : W7 244 0 = nI i := by rw [e7, uw_s]
        have c22 : W7 229 22 = nI (cnt (fun v => decide (far v = 0)) i + 1) := by rw [e7, uw_n (by decide), e6, uw_n (by decide), e5, uw_n (by decide), e4, uw_n (by decide), e3, uw_s]
        have hTI0 : TI S S rt i [] := ⟨fun x => by simp, List.nodup_nil, fun x hx => absurd hx List.not_mem_nil⟩
        have hG : RGS W7 V es P (cnt (fun v => decide (far v = 0)) i + 1) i S (setB S i) (setN far i 0) (setN par i 0) (setN rt i i) far rt [i] := by
          refine ⟨hN.fr f7 (by simp) (by simp) (by decide) (by decide), fun j hj => by rw [f7.1 232 (by decide) (by decide)]; exact hPr j hj, c22, fun y hy => ?_, fun j y hj => ?_, hP.root hi hs, hTI0.add hs, fun x hx => ?_, setN_s⟩
          · rw [c243, c242]
            by_cases e : y = i
            · subst e
              rw [upd_s, upd_s, setN_s]
              exact ⟨fun _ => ⟨rfl, fun _ => rfl, fun z => absurd rfl z⟩, fun z => by rw [setB_iff.mpr (Or.inr rfl)] at z; cases z⟩
            · rw [upd_n e, upd_n e, setN_n e, setN_n e, te_setN e, c241 y e]
              have h7 := hM y hy
              refine ⟨fun z => h7.1 ((setB_iff.mp z).resolve_right e), fun z => h7.2 ?_⟩
              simp only [setB, Bool.or_eq_false_iff] at z
              exact z.1
          · cases j with
            | zero => cases hj; exact c244
            | succ j => simp at hj
          · have hxr : x ≠ i := fun e => by rw [e, hs] at hx; cases hx
            rw [setN_n hxr, setN_n hxr]
            exact ⟨rfl, rfl⟩
        refine rf_tree_l hall 20 0 W7 _ _ _ _ [i] rfl (by simp) hG (by simp) (fun j y hj => by omega) fun W' S' far' par' rt' t k1 k2 k3 => ?_
        rw [ci_1, nI_add]
        obtain ⟨b1, b2, b3, b4, b5, b6, b7, b8, b9⟩ := id k1
        have hCl' : Cls (prs P 0 es) S rt' := fun x hx v hv => by
          obtain ⟨z1, z2⟩ := hC x hx v hv
          exact ⟨z1, by rw [(b8 v z1).2, (b8 x hx).2, z2]⟩
        have hSi := (k1.lt (x := i) (by simp)).1
        refine ih (i + 1) W' S' far' par' rt' (by omega) (by omega) b1 b2 ?_ b4 b6 (b7.cls hCl' k2) (fun u hu => ?_) (fun x hx => ?_) fun W2 far2 par2 rt2 m1 m2 => h W2 far2 par2 rt2 m1 ((f7.tr (k3.mono (by simp) (by simp [foL]))).tr m2)
        · rw [b3, cnt, decide_eq_true b9, cnt_congr (p := fun v => decide (far' v = 0)) (q := fun v => decide (far v = 0)) fun u hu => by rw [(b8 u (hall u hu)).1]]
          rfl
        · by_cases e : u = i
          · rw [e]; exact hSi
          · rw [b7.1 u, hall u (by omega)]; rfl
        · cases hx0 : S x with
          | true => have := hlt x hx0; rw [(b8 x hx0).2]; omega
          | false =>
            rw [b7.1 x, hx0] at hx
            rw [(b7.2.2 x (by simpa using hx)).2]; omega
    · rw [hN.2.2.2.1]; exact nI_lt hi (by omega)
theorem rf_forest_i : ∀ (n i : Nat) (W : fl_W), V - i = n → i ≤ V → W 229 0 = nI V → V ≤ 20 → (∀ x, x < i → W 243 x = -1) → (∀ W', (∀ x, x < V → W' 243 x = -1) → EqF [] [243] W W' → hd_134_30 d Q (nI 0) W') → hd_134_7 d Q (nI i) W := by
  intro n
  induction n with
  | zero =>
    intro i W h1 h2 hv hV hall h
    have hi : i = V := by omega
    refine sx_134_7 _ W ⟨fun z => absurd z ?_, fun _ => h W (fun x hx => hall x (by omega)) EqF.rf⟩
    rw [hv]; exact nI_nlt (by omega) (by omega)
  | succ n ih =>
    intro i W h1 h2 hv hV hall h
    refine sx_134_7 _ W ⟨fun _ => ⟨in_N (by omega) (by omega), fun W2 e2 => ?_⟩, fun z => absurd ?_ z⟩
    · rw [nI_clamp (by omega)] at e2
      rw [ci_1, nI_add]
      have f2 : EqF [] [243] W W2 := by rw [e2]; exact EqF.uwA (by simp) (by decide)
      refine ih (i + 1) W2 (by omega) (by omega) (by rw [f2.2 0 (by simp)]; exact hv) hV (fun x hx => ?_) fun W' k1 k2 => h W' k1 (f2.tr k2)
      by_cases e : x = i
      · rw [e, e2, uw_s]; rfl
      · rw [e2, uw_m e]; exact hall x (by omega)
    · rw [hv]; exact nI_lt (by omega) (by omega)
theorem rf_forest (hG : RfG W V es) (hP : PrR W P es.length) (h : ∀ W' far' par' rt', RFR W' V es P far' par' rt' → EqF [22] foL W W' → Q none W') : fl_cal (d + 3) 134 [.ref 229] W Q := by
  refine sx_134 W fun W1 e1 => ?_
  have f1 : EqF [22] foL W W1 := by rw [e1]; exact EqF.uwF (by simp)
  have hG1 := hG.fr f1 (by simp) (by simp) (by decide) (by decide)
  refine rf_forest_i V 0 W1 (by omega) (Nat.zero_le _) hG1.2.2.2.1 hG.1 (fun x hx => by omega) fun W2 k1 k2 => ?_
  have f2 : EqF [22] foL W1 W2 := k2.mono (by simp) (by decide)
  refine rf_forest_r V 0 W2 (fun _ => false) (fun _ => 0) (fun _ => 0) (fun _ => 0) (by omega) (Nat.zero_le _) (hG1.fr f2 (by simp) (by simp) (by decide) (by decide)) (fun i hi => ?_) ?_ (fun x hx => ⟨fun z => (by cases z), fun _ => k1 x hx⟩) (fun x hx => by cases hx) (fun x hx => by cases hx) (fun u hu => by omega) (fun x hx => by cases hx) fun W' far' par' rt' m1 m2 => h W' far' par' rt' m1 ((f1.tr f2).tr m2)
  · rw [f2.1 232 (by decide) (by decide), f1.1 232 (by decide) (by decide)]; exact hP i hi
  · rw [k2.2 22 (by simp), e1, uw_s]; rfl
end RFO
