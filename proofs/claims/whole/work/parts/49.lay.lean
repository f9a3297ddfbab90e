/-! ===== laying a block ===== -/
def repS (bes dl : gE) : gE → (Nat → Bool) → gE
  | [], _ => []
  | g :: l, sn => if g ∈ dl ∨ (anyN fun v => inc g v && !lvO dl v && sn v) = true then repS bes dl l sn else g :: repS bes dl l (fun v => sn v || innr bes dl g v)
def reps (bes dl : gE) : gE := repS bes dl bes (fun _ => false)
def fst1 (bes dl : gE) (rs : List (List Nat)) (g : Nat × Nat) : Option Nat := fitF (feet bes dl g) rs 0
def one1 (bes dl : gE) (rs : List (List Nat)) (g : Nat × Nat) : Bool :=
  match fst1 bes dl rs g with
  | some i => (fitF (feet bes dl g) (rs.drop (i + 1)) (i + 1)).isNone
  | none => false
def cho (bes dl : gE) (rs : List (List Nat)) (ps : gE) : Option (Nat × Nat) :=
  if ps.any (fun g => (fst1 bes dl rs g).isNone) then none else
    match ps.find? (fun g => one1 bes dl rs g) with
    | some g => some g
    | none => ps.head?
def stR (rs : List (List Nat)) (ri a b : Nat) (ws : List Nat) : List (List Nat) :=
  rs.set ri (arcN (rotN (rs.getD ri []) a) b ++ ws) ++ [arcN (rotN (rs.getD ri []) b) a ++ ws.reverse]
def stp (bes : gE) (s : List (List Nat) × gE) (g : Nat × Nat) : List (List Nat) × gE :=
  (stR s.1 ((fst1 bes s.2 s.1 g).getD 0) (wayO bes s.2 g).1 (wayO bes s.2 g).2.1 (wayO bes s.2 g).2.2, s.2 ++ wyE ((wayO bes s.2 g).2.1 :: ((wayO bes s.2 g).2.2 ++ [(wayO bes s.2 g).1])))
def runB (bes : gE) : Nat → List (List Nat) × gE → Option (List (List Nat))
  | 0, _ => none
  | n + 1, s => if reps bes s.2 = [] then some s.1 else
    match cho bes s.2 s.1 (reps bes s.2) with
    | none => none
    | some g => runB bes n (stp bes s g)
def fW (bes : gE) (lo hi : Nat) : Option (List Nat) := bfsP (clA bes (fun v => decide (v ≠ lo) && decide (v ≠ hi)) (fun v => decide (v = lo)) hi) (fun v => decide (v = lo)) hi
def fstW (bes : gE) (lo hi : Nat) : List Nat :=
  match fW bes lo hi with
  | some (_ :: t) => t.dropLast
  | _ => []
def st0 (bes : gE) (lo hi : Nat) : List (List Nat) × gE :=
  ([lo :: hi :: (fstW bes lo hi).reverse, lo :: (fstW bes lo hi ++ [hi])], (lo, hi) :: wyE (lo :: (fstW bes lo hi ++ [hi])))
def layB (bes : gE) : Option (List (List Nat)) :=
  match bes with
  | [] => none
  | g :: _ => runB bes 61 (st0 bes g.1 g.2)
/-- what holds of the rings and of the laid edges -/
def LI (V : Nat) (bes : gE) (s : List (List Nat) × gE) : Prop := DI bes s.1 s.2 ∧ RI s.1 s.2 ∧ JI V s.1 s.2 ∧ (∀ r, r ∈ s.1 → 3 ≤ r.length) ∧ s.2 ≠ []
theorem repS_mem {bes dl : gE} : ∀ {l : gE} {sn : Nat → Bool} {g : Nat × Nat}, g ∈ repS bes dl l sn → g ∈ l ∧ g ∉ dl
  | [], _, _, h => absurd h List.not_mem_nil
  | f :: l, sn, g, h => by
    rw [repS] at h
    by_cases q : f ∈ dl ∨ (anyN fun v => inc f v && !lvO dl v && sn v) = true
    · rw [if_pos q] at h
      exact ⟨List.mem_cons_of_mem _ (repS_mem h).1, (repS_mem h).2⟩
    · rw [if_neg q] at h
      rcases List.mem_cons.mp h with e | e
      · rw [e]; exact ⟨List.mem_cons_self, fun z => q (Or.inl z)⟩
      · exact ⟨List.mem_cons_of_mem _ (repS_mem e).1, (repS_mem e).2⟩
theorem reps_mem {bes dl : gE} {g : Nat × Nat} (h : g ∈ reps bes dl) : g ∈ bes ∧ g ∉ dl := repS_mem h
theorem repS_emp {bes dl : gE} : ∀ {l : gE}, repS bes dl l (fun _ => false) = [] → ∀ g, g ∈ l → g ∈ dl
  | [], _, g, hg => absurd hg List.not_mem_nil
  | f :: l, h, g, hg => by
    rw [repS] at h
    have hn : ¬ (anyN fun v => inc f v && !lvO dl v && (fun _ => false) v) = true := by
      intro z
      obtain ⟨v, -, hv⟩ := anyN_iff.mp z
      simp at hv
    by_cases q : f ∈ dl
    · rw [if_pos (Or.inl q)] at h
      rcases List.mem_cons.mp hg with e | e
      · rw [e]; exact q
      · exact repS_emp h g e
    · rw [if_neg (fun z => z.elim q hn)] at h
      cases h
theorem nd_sub_len {α : Type} [DecidableEq α] : ∀ {l m : List α}, l.Nodup → (∀ x ∈ l, x ∈ m) → l.length ≤ m.length
  | [], _, _, _ => by simp
  | a :: l, m, hn, h => by
    rw [List.nodup_cons] at hn
    have ha := h a List.mem_cons_self
    have h1 := nd_sub_len (l := l) (m := m.erase a) hn.2 fun x hx => (List.mem_erase_of_ne fun (e : x = a) => hn.1 (e ▸ hx)).mpr (h x (List.mem_cons_of_mem _ hx))
    rw [List.length_erase_of_mem ha] at h1
    have := List.length_pos_of_mem ha
    rw [List.length_cons]
    omega
theorem nd_sub_all {α : Type} [DecidableEq α] {l m : List α} (hl : l.Nodup) (h : ∀ x ∈ l, x ∈ m) (hm : m.length ≤ l.length) : ∀ x ∈ m, x ∈ l := fun x hx => by
  refine Classical.byContradiction fun hn => ?_
  have := nd_sub_len (l := x :: l) (m := m) (List.nodup_cons.mpr ⟨hn, hl⟩) fun y hy => by
    rcases List.mem_cons.mp hy with e | e
    · rw [e]; exact hx
    · exact h y e
  rw [List.length_cons] at this
  omega
theorem split_at {α : Type} : ∀ {l : List α} {i : Nat} {x : α}, l[i]? = some x → ∃ l1 l2, l = l1 ++ x :: l2 ∧ l1.length = i ∧ ∀ y, l.set i y = l1 ++ y :: l2
  | [], i, x, h => by simp at h
  | a :: l, 0, x, h => by
    simp at h
    exact ⟨[], l, by rw [h]; rfl, rfl, fun y => rfl⟩
  | a :: l, i + 1, x, h => by
    rw [List.getElem?_cons_succ] at h
    obtain ⟨l1, l2, h1, h2, h3⟩ := split_at h
    exact ⟨a :: l1, l2, by rw [h1]; rfl, by rw [List.length_cons, h2], fun y => by rw [List.set_cons_succ, h3 y]; rfl⟩
theorem reps_len {V : Nat} {bes dl : gE} (hO : okE V bes) (hd : ∀ f, f ∈ dl → f ∈ bes) (hn : dl.Nodup) : reps bes dl = [] ↔ dl.length = bes.length := by
  constructor
  · intro h
    have h1 := nd_sub_len hO.2 (repS_emp h)
    have h2 := nd_sub_len hn hd
    omega
  · intro h
    have h1 := nd_sub_all hn hd (by omega)
    cases hr : reps bes dl with
    | nil => rfl
    | cons g l =>
      have := reps_mem (bes := bes) (dl := dl) (g := g) (by rw [hr]; exact List.mem_cons_self)
      exact absurd (h1 g this.1) this.2
theorem fitF_sp {q : Nat → Bool} : ∀ {rs : List (List Nat)} {i j : Nat}, fitF q rs i = some j → i ≤ j ∧ ∃ r, rs[j - i]? = some r ∧ fitB q r = true
  | [], i, j, h => by cases h
  | r :: l, i, j, h => by
    rw [fitF] at h
    by_cases e : fitB q r = true
    · rw [if_pos e] at h
      cases h
      exact ⟨Nat.le_refl _, r, by simp, e⟩
    · rw [if_neg e] at h
      obtain ⟨h1, r', h2, h3⟩ := fitF_sp h
      refine ⟨by omega, r', ?_, h3⟩
      rw [show j - i = (j - (i + 1)) + 1 by omega, List.getElem?_cons_succ]
      exact h2
theorem fitB_mem {q : Nat → Bool} {r : List Nat} (h : fitB q r = true) {v : Nat} (hv : v < 20) (hq : q v = true) : v ∈ r := by
  unfold fitB at h
  have := List.all_eq_true.mp h v (List.mem_range.mpr hv)
  rw [hq] at this
  simpa using this
theorem cho_some {bes dl : gE} {rs : List (List Nat)} {ps : gE} {g : Nat × Nat} (h : cho bes dl rs ps = some g) : g ∈ ps ∧ ∃ i, fst1 bes dl rs g = some i := by
  unfold cho at h
  by_cases q : ps.any (fun g => (fst1 bes dl rs g).isNone) = true
  · rw [if_pos q] at h; cases h
  · rw [if_neg q] at h
    have hm : g ∈ ps := by
      cases hf : ps.find? (fun g => one1 bes dl rs g) with
      | some g' =>
        rw [hf] at h
        cases h
        exact List.mem_of_find?_eq_some hf
      | none =>
        rw [hf] at h
        exact List.mem_of_mem_head? h
    refine ⟨hm, ?_⟩
    cases hi : fst1 bes dl rs g with
    | some i => exact ⟨i, rfl⟩
    | none => exact absurd (List.any_eq_true.mpr ⟨g, hm, by rw [hi]; rfl⟩) q
theorem darts_len {V : Nat} {dl : gE} (hO : okE V dl) {l : List (Nat × Nat)} (hn : l.Nodup) (h : ∀ x y, (x, y) ∈ l ↔ adj dl x y = true) : l.length = 2 * dl.length := by
  have hnd : ∀ {m : gE}, (∀ p ∈ m, p.1 < p.2) → m.Nodup → (m.flatMap fun g => [(g.1, g.2), (g.2, g.1)]).Nodup := by
    intro m
    induction m with
    | nil => intro _ _; exact List.nodup_nil
    | cons g m ih =>
      intro h1 h2
      rw [List.nodup_cons] at h2
      rw [List.flatMap_cons, List.nodup_append]
      have hg := h1 g List.mem_cons_self
      refine ⟨by simp; omega, ih (fun p hp => h1 p (List.mem_cons_of_mem _ hp)) h2.2, fun p hp q hq e => ?_⟩
      rw [← e] at hq
      obtain ⟨f, f1, f2⟩ := List.mem_flatMap.mp hq
      have hf := h1 f (List.mem_cons_of_mem _ f1)
      have : f = g := by
        simp only [List.mem_cons, List.not_mem_nil, or_false] at hp f2
        rcases hp with e1 | e1 <;> rcases f2 with e2 | e2 <;> (rw [e1, Prod.mk.injEq] at e2; refine Prod.ext ?_ ?_ <;> omega)
      exact h2.1 (this ▸ f1)
  have hp : l.Perm (dl.flatMap fun g => [(g.1, g.2), (g.2, g.1)]) := by
    refine (List.perm_ext_iff_of_nodup hn (hnd (fun p hp => (hO.1 p hp).1) hO.2)).mpr fun p => ?_
    rw [h p.1 p.2, adj_iff, List.mem_flatMap]
    constructor
    · rintro (e | e)
      · exact ⟨p, e, by simp⟩
      · exact ⟨(p.2, p.1), e, by simp⟩
    · rintro ⟨g, g1, g2⟩
      simp only [List.mem_cons, List.not_mem_nil, or_false] at g2
      rcases g2 with e | e
      · rw [e]; exact Or.inl g1
      · rw [e]; exact Or.inr g1
  rw [hp.length_eq]
  have : ∀ m : gE, (m.flatMap fun g => [(g.1, g.2), (g.2, g.1)]).length = 2 * m.length := by
    intro m
    induction m with
    | nil => rfl
    | cons g m ih => rw [List.flatMap_cons, List.length_append, ih]; simp; omega
  exact this dl
theorem fm_len : ∀ {rs : List (List Nat)}, (∀ r, r ∈ rs → 3 ≤ r.length) → 3 * rs.length ≤ (rs.flatMap cd).length
  | [], _ => by simp
  | r :: rs, h => by
    have ih := fm_len (rs := rs) fun r hr => h r (List.mem_cons_of_mem _ hr)
    have := h r List.mem_cons_self
    rw [List.flatMap_cons, List.length_append, cd_len, List.length_cons]
    omega
theorem fm_tri : ∀ {rs : List (List Nat)}, (∀ r, r ∈ rs → 3 ≤ r.length) → (rs.flatMap cd).length = 3 * rs.length → ∀ r, r ∈ rs → r.length = 3
  | [], _, _, r, hr => absurd hr List.not_mem_nil
  | r :: rs, h, he, r', hr' => by
    have h1 := fm_len (rs := rs) fun r hr => h r (List.mem_cons_of_mem _ hr)
    have h2 := h r List.mem_cons_self
    rw [List.flatMap_cons, List.length_append, cd_len, List.length_cons] at he
    rcases List.mem_cons.mp hr' with e | e
    · rw [e]; omega
    · exact fm_tri (fun r hr => h r (List.mem_cons_of_mem _ hr)) (by omega) r' e
section LAY
variable {V : Nat} {bes : gE} {s : List (List Nat) × gE}
theorem LI.okd (hO : okE V bes) (h : LI V bes s) : okE V s.2 := ⟨fun p hp => hO.1 p (h.1.1 p hp), h.1.2.1⟩
theorem LI.darts (hO : okE V bes) (h : LI V bes s) : (s.1.flatMap cd).length = 2 * s.2.length := darts_len (h.okd hO) h.1.2.2.2.1 h.1.2.2.2.2.1
theorem LI.rs (hO : okE V bes) (h : LI V bes s) : s.1.length + 4 ≤ 2 * cnt (lvO s.2) 20 ∧ s.2.length + 6 ≤ 3 * cnt (lvO s.2) 20 := by
  have h1 := h.darts hO
  have h2 := fm_len h.2.2.2.1
  have h3 := h.1.2.2.2.2.2
  omega
theorem LI.tri (hO : okE V bes) (h : LI V bes s) (he : s.2.length + 6 = 3 * cnt (lvO s.2) 20) : ∀ r, r ∈ s.1 → r.length = 3 := by
  have h1 := h.darts hO
  have h3 := h.1.2.2.2.2.2
  exact fm_tri h.2.2.2.1 (by omega)
theorem LI.rs36 (hO : okE V bes) (h : LI V bes s) : s.1.length ≤ 36 := by
  have := (h.rs hO).1
  have := cnt_le (lvO s.2) 20
  omega
theorem LI.lt (hO : okE V bes) (h : LI V bes s) {r : List Nat} (hr : r ∈ s.1) {x : Nat} (hx : x ∈ r) : x < V ∧ lvO s.2 x = true := by
  obtain ⟨y, hy⟩ := cd_src hx
  have ha := (h.1.2.2.2.2.1 x y).mp (List.mem_flatMap.mpr ⟨r, hr, hy⟩)
  exact ⟨(adj_lt (h.okd hO) ha).1, lvO_adj.mpr ⟨y, ha⟩⟩
/-- one step keeps it -/
theorem li_step (hV : V ≤ 20) (hO : okE V bes) (h : LI V bes s) {ri a b : Nat} {R ws : List Nat} (hR : s.1[ri]? = some R) (ha : a ∈ R) (hb : b ∈ R) (hW : WY bes s.2 a b ws) : LI V bes (stR s.1 ri a b ws, s.2 ++ wyE (b :: (ws ++ [a]))) ∧ (arcN (rotN R a) b).length + ws.length ≤ 20 ∧ (arcN (rotN R b) a).length + ws.length ≤ 20 := by
  have hRm : R ∈ s.1 := List.mem_of_getElem? hR
  have hRn := h.1.2.2.1 R hRm
  obtain ⟨A, B, e1, e2, e3, e4⟩ := rot_split hRn ha hb hW.1
  obtain ⟨l1, l2, p1, p2, p3⟩ := split_at hR
  have hgD : s.1.getD ri [] = R := by rw [List.getD_eq_getElem?_getD, hR]; rfl
  have hn4 : (a :: (A ++ b :: B)).Nodup := e4.nodup_iff.mpr hRn
  have hws : ∀ x, x ∈ ws → x ∉ R := fun x hx z => by
    have := (hW.2.2.1 x hx).2
    rw [(h.lt hO hRm z).2] at this
    cases this
  have hwsn : ws.Nodup := by
    have := hW.2.1
    rw [List.nodup_cons, List.nodup_append] at this
    exact this.2.1
  have hA1 : (a :: (A ++ [b])).Nodup := by
    have : (a :: (A ++ b :: B)) = (a :: (A ++ [b])) ++ B := by simp
    rw [this] at hn4
    exact (List.nodup_append.mp hn4).1
  have hn5 : (b :: (B ++ a :: A)).Nodup := by
    have : (b :: (B ++ a :: A)).Perm (a :: (A ++ b :: B)) := by
      have := List.perm_append_comm (l₁ := b :: B) (l₂ := a :: A)
      simpa using this
    exact this.nodup_iff.mpr hn4
  have hB1 : (b :: (B ++ [a])).Nodup := by
    have : (b :: (B ++ a :: A)) = (b :: (B ++ [a])) ++ A := by simp
    rw [this] at hn5
    exact (List.nodup_append.mp hn5).1
  have hAm : ∀ x, x ∈ a :: (A ++ [b]) → x ∈ R := fun x hx => e4.mem_iff.mp (by
    simp only [List.mem_cons, List.mem_append, List.not_mem_nil, or_false] at hx ⊢
    rcases hx with q | q | q <;> simp [q])
  have hBm : ∀ x, x ∈ b :: (B ++ [a]) → x ∈ R := fun x hx => e4.mem_iff.mp (by
    simp only [List.mem_cons, List.mem_append, List.not_mem_nil, or_false] at hx ⊢
    rcases hx with q | q | q <;> simp [q])
  have n1 : (a :: (A ++ [b]) ++ ws).Nodup := List.nodup_append.mpr ⟨hA1, hwsn, fun x hx y hy e => hws y hy (e ▸ hAm x hx)⟩
  have n2 : (b :: (B ++ [a]) ++ ws.reverse).Nodup := List.nodup_append.mpr ⟨hB1, (List.reverse_perm _).nodup_iff.mpr hwsn, fun x hx y hy e => hws y (List.mem_reverse.mp hy) (e ▸ hBm x hx)⟩
  have hsp : SP s.1 (stR s.1 ri a b ws) (l1 ++ l2) R (a :: (A ++ [b]) ++ ws) (b :: (B ++ [a]) ++ ws.reverse) A B a b ws := by
    refine ⟨?_, ?_, e3, ?_, ?_, n1, n2, hn4⟩
    · rw [p1]; exact List.perm_middle
    · unfold stR
      rw [hgD, e1, e2, p3]
      refine (List.perm_middle.append_right _).trans ?_
      rw [List.cons_append]
      exact List.Perm.cons _ (List.perm_append_singleton _ _)
    · have : cd (a :: (A ++ [b]) ++ ws) = pd ((a :: A) ++ b :: (ws ++ [a])) := by
        show pd _ = _
        simp
      rw [this, pd_cat]
      simp
    · have : cd (b :: (B ++ [a]) ++ ws.reverse) = pd ((b :: B) ++ a :: (ws.reverse ++ [b])) := by
        show pd _ = _
        simp
      rw [this, pd_cat]
      simp
  have hlen : ∀ l : List Nat, l.Nodup → (∀ x ∈ l, x < 20) → l.length ≤ 20 := fun l h1 h2 => nd_le 20 h1 h2
  have hR20 : ∀ x, x ∈ R → x < 20 := fun x hx => by have := (h.lt hO hRm hx).1; omega
  refine ⟨⟨di_step hO h.1 hW hsp, ri_step hO h.1 hW hsp h.2.1, ji_step hO h.1 hW hsp h.2.2.1, fun r hr => ?_, fun e => ?_⟩, ?_, ?_⟩
  · have hold : ∀ p, p ∈ cd R → adj s.2 p.1 p.2 = true := fun p hp => (h.1.2.2.2.2.1 _ _).mp (List.mem_flatMap.mpr ⟨R, hRm, hp⟩)
    have hno : ws = [] → adj s.2 a b = false := fun e => by
      cases hh : adj s.2 a b with
      | false => rfl
      | true =>
        have := (hW.2.2.2.2.2 (min b a, max b a) (by rw [e]; simp [wyE])).2
        rw [adj_sym] at hh
        exact absurd (adj_te (h.okd hO) hh) this
    have hA0 : ws = [] → A ≠ [] := fun e z => by
      have := hold (a, b) (e3.mem_iff.mpr (List.mem_append_left _ (by rw [z]; simp [pd])))
      rw [hno e] at this; cases this
    have hB0 : ws = [] → B ≠ [] := fun e z => by
      have := hold (b, a) (e3.mem_iff.mpr (List.mem_append_right _ (by rw [z]; simp [pd])))
      rw [adj_sym, hno e] at this; cases this
    rcases sp_new hsp hr with e | e | e
    · rw [e]
      simp only [List.length_append, List.length_cons, List.length_nil]
      cases hws : ws with
      | nil =>
        have := List.length_pos_iff.mpr (hA0 hws)
        omega
      | cons x l => simp only [List.length_cons]; omega
    · rw [e]
      simp only [List.length_append, List.length_cons, List.length_nil, List.length_reverse]
      cases hws : ws with
      | nil =>
        have := List.length_pos_iff.mpr (hB0 hws)
        omega
      | cons x l => simp only [List.length_cons]; omega
    · exact h.2.2.2.1 r e.2
  · exact h.2.2.2.2 (List.append_eq_nil_iff.mp e).1
  · rw [e1]
    have := hlen _ n1 fun x hx => by
      rcases List.mem_append.mp hx with q | q
      · exact hR20 x (hAm x q)
      · exact (hW.2.2.1 x q).1
    rw [List.length_append] at this
    exact this
  · rw [e2]
    have := hlen _ n2 fun x hx => by
      rcases List.mem_append.mp hx with q | q
      · exact hR20 x (hBm x q)
      · exact (hW.2.2.1 x (List.mem_reverse.mp q)).1
    rw [List.length_append, List.length_reverse] at this
    exact this
theorem wyR_WY {g : Nat × Nat} {dl : gE} {a b : Nat} {ws : List Nat} (h : wayR bes dl g a b ws) : WY bes dl a b ws :=
  ⟨h.1, h.2.2.2.1, fun x hx => ⟨h.2.2.2.2.1 x (by simp [hx]), h.2.2.2.2.2.1 x hx⟩, feet_lv h.2.1, feet_lv h.2.2.1, h.2.2.2.2.2.2⟩
/-- what a chosen part gives -/
theorem li_stp (hV : V ≤ 20) (hO : okE V bes) (h2 : TwoC bes) (h : LI V bes s) {g : Nat × Nat} (hg : g ∈ bes) (hgd : g ∉ s.2) {ri : Nat} (hf : fst1 bes s.2 s.1 g = some ri) :
    LI V bes (stp bes s g) ∧ ∃ R a b ws, wayO bes s.2 g = (a, b, ws) ∧ wayR bes s.2 g a b ws ∧ s.1[ri]? = some R ∧ a ∈ R ∧ b ∈ R ∧ stp bes s g = (stR s.1 ri a b ws, s.2 ++ wyE (b :: (ws ++ [a]))) ∧ (arcN (rotN R a) b).length + ws.length ≤ 20 ∧ (arcN (rotN R b) a).length + ws.length ≤ 20 := by
  have hw := way_ok hV hO h2 h.1.1 h.2.2.2.2 hg hgd
  obtain ⟨-, R, hR, hfit⟩ := fitF_sp hf
  rw [Nat.sub_zero] at hR
  have hst : stp bes s g = (stR s.1 ri (wayO bes s.2 g).1 (wayO bes s.2 g).2.1 (wayO bes s.2 g).2.2, s.2 ++ wyE ((wayO bes s.2 g).2.1 :: ((wayO bes s.2 g).2.2 ++ [(wayO bes s.2 g).1]))) := by
    unfold stp
    rw [hf]
    rfl
  generalize hwo : wayO bes s.2 g = w at *
  obtain ⟨a, b, ws⟩ := w
  have ha : a ∈ R := fitB_mem hfit (hw.2.2.2.2.1 a (by simp)) hw.2.1
  have hb : b ∈ R := fitB_mem hfit (hw.2.2.2.2.1 b (by simp)) hw.2.2.1
  obtain ⟨l1, l2, l3⟩ := li_step hV hO h hR ha hb (wyR_WY hw)
  exact ⟨by rw [hst]; exact l1, R, a, b, ws, rfl, hw, hR, ha, hb, hst, l2, l3⟩
theorem li_base {lo hi : Nat} {t : gE} (hO : okE V bes) (hb : bes = (lo, hi) :: t) (hV : V ≤ 20) : DI bes [[lo, hi]] [(lo, hi)] ∧ RI [[lo, hi]] [(lo, hi)] ∧ JI V [[lo, hi]] [(lo, hi)] := by
  have h0 := hO.1 (lo, hi) (by rw [hb]; exact List.mem_cons_self)
  simp only at h0
  have hlv : ∀ v, lvO [(lo, hi)] v = (decide (v = lo) || decide (v = hi)) := fun v => by simp [lvO, inc]
  refine ⟨⟨fun f hf => ?_, by simp, fun r hr => ?_, ?_, fun x y => ?_, ?_⟩, fun y hy => ?_, ji_base h0.1 h0.2⟩
  · rw [List.mem_singleton] at hf
    rw [hf, hb]
    exact List.mem_cons_self
  · rw [List.mem_singleton] at hr
    rw [hr]
    simp
    omega
  · show ([(lo, hi), (hi, lo)] : List (Nat × Nat)).Nodup
    simp
    omega
  · rw [adj_one]
    show (x, y) ∈ ([(lo, hi), (hi, lo)] : List (Nat × Nat)) ↔ _
    simp
    omega
  · have := cnt_list (p := fun _ => false) (n := 20) (l := [lo, hi]) (by simp; omega) (fun x hx => by simp at hx; constructor; omega; rfl)
    rw [cnt_congr (q := fun v => false || [lo, hi].contains v) fun i _ => by rw [hlv]; simp [Bool.or_comm]]
    rw [this]
    have : cnt (fun _ => false) 20 = 0 := by decide
    rw [this]
    rfl
  · rw [hlv, Bool.or_eq_true, decide_eq_true_eq, decide_eq_true_eq] at hy
    rcases hy with e | e
    · refine ⟨[hi], by simp, fun x => ?_, fun x z hxz => ?_⟩
      · rw [e, adj_one]; simp; omega
      · have : (x, z) ∈ [(hi, hi)] := hxz
        simp at this
        rw [this.1, this.2, e]
        exact ⟨[lo, hi], by simp, by simp [cd, pd], by simp [cd, pd]⟩
    · refine ⟨[lo], by simp, fun x => ?_, fun x z hxz => ?_⟩
      · rw [e, adj_one]; simp; omega
      · have : (x, z) ∈ [(lo, lo)] := hxz
        simp at this
        rw [this.1, this.2, e]
        exact ⟨[lo, hi], by simp, by simp [cd, pd], by simp [cd, pd]⟩
/-- the first way -/
theorem fw_ok {lo hi : Nat} {t : gE} (hV : V ≤ 20) (hO : okE V bes) (h2 : TwoC bes) (hb : bes = (lo, hi) :: t) (ht : t ≠ []) : fW bes lo hi = some (lo :: (fstW bes lo hi ++ [hi])) ∧ WY bes [(lo, hi)] hi lo (fstW bes lo hi) ∧ fstW bes lo hi ≠ [] ∧ (fstW bes lo hi).length + 2 ≤ 20 ∧ ∀ x ∈ fstW bes lo hi, x < 20 := by
  have h0m : (lo, hi) ∈ bes := by rw [hb]; exact List.mem_cons_self
  have h0 := hO.1 (lo, hi) h0m
  simp only at h0
  have sp := bfsP_spec (A := clA bes (fun v => decide (v ≠ lo) && decide (v ≠ hi)) (fun v => decide (v = lo)) hi) (goal := fun v => decide (v = lo)) (s := hi) (by omega) (by simp; omega)
  have hfw : fW bes lo hi = bfsP (clA bes (fun v => decide (v ≠ lo) && decide (v ≠ hi)) (fun v => decide (v = lo)) hi) (fun v => decide (v = lo)) hi := rfl
  rw [← hfw] at sp
  cases hr : fW bes lo hi with
  | none =>
    exfalso
    rw [hr] at sp
    obtain ⟨S, s1, s2, s3⟩ := sp
    have hloS : lo ∉ S := fun z => by have := s2 lo z; simp at this
    by_cases hex : ∃ u, u ∈ S ∧ u ≠ hi ∧ u < 20 ∧ ∃ w, adj bes u w = true
    · obtain ⟨u, u1, u2, u3, w, u4⟩ := hex
      have hcl : ∀ x y, x ∈ S → x ≠ hi → adj bes x y = true → y ≠ lo ∧ (y ∈ S) := fun x y hx hxh hxy => by
        have hy := (adj_lt hO hxy).2.1
        have : y ≠ lo := fun e => by
          have := s3 x hx y (by omega) (by rw [clA, hxy]; simp [hxh, e])
          rw [e] at this
          exact hloS this
        refine ⟨this, ?_⟩
        by_cases e : y = hi
        · rw [e]; exact s1
        · exact s3 x hx y (by omega) (by rw [clA, hxy]; simp [this, e])
      let P : Nat × Nat → Bool := fun g => (S.contains g.1 && decide (g.1 ≠ hi)) || (S.contains g.2 && decide (g.2 ≠ hi))
      have hPlh : P (lo, hi) = false := by simp [P, hloS]
      have hPu : P (min u w, max u w) = true := by
        rcases Nat.le_total u w with q | q
        · rw [show min u w = u by omega, show max u w = w by omega]; simp [P, u1, u2]
        · rw [show min u w = w by omega, show max u w = u by omega]; simp [P, u1, u2]
      obtain ⟨v1, v2, hv, hv12⟩ := h2 P _ _ (adj_te hO u4) h0m hPu hPlh
      have only : ∀ v, (∃ g, g ∈ bes ∧ P g = true ∧ inc g v = true) → (∃ g, g ∈ bes ∧ P g = false ∧ inc g v = true) → v = hi := by
        rintro v ⟨g, g1, g2, g3⟩ ⟨f, f1, f2, f3⟩
        have hvS : v ∈ S := by
          rw [inc_iff] at g3
          simp only [P, Bool.or_eq_true, Bool.and_eq_true, List.contains_eq_mem, decide_eq_true_eq] at g2
          have ga : adj bes g.1 g.2 = true := adj_iff.mpr (Or.inl g1)
          have gb : adj bes g.2 g.1 = true := by rw [adj_sym]; exact ga
          rcases g3 with e | e <;> rw [e] <;> rcases g2 with q | q
          · exact q.1
          · exact (hcl _ _ q.1 q.2 gb).2
          · exact (hcl _ _ q.1 q.2 ga).2
          · exact q.1
        refine Classical.byContradiction fun hne => ?_
        have : P f = true := by
          simp only [P, Bool.or_eq_true, Bool.and_eq_true, List.contains_eq_mem, decide_eq_true_eq]
          rcases inc_iff.mp f3 with e | e
          · exact Or.inl (e ▸ ⟨hvS, hne⟩)
          · exact Or.inr (e ▸ ⟨hvS, hne⟩)
        rw [this] at f2; cases f2
      exact hv ((only v1 (hv12 v1 (Or.inl rfl)).1 (hv12 v1 (Or.inl rfl)).2).trans (only v2 (hv12 v2 (Or.inr rfl)).1 (hv12 v2 (Or.inr rfl)).2).symm)
    · -- the high end has no other edge
      have hnohi : ∀ y, adj bes hi y = true → y = lo := fun y hy => by
        refine Classical.byContradiction fun hne => hex ⟨y, ?_, ?_, ?_, hi, by rw [adj_sym]; exact hy⟩
        · have hl := adj_lt hO hy
          exact s3 hi s1 y (by omega) (by rw [clA, hy]; simp [hne]; exact Ne.symm hl.2.2)
        · exact Ne.symm (adj_lt hO hy).2.2
        · have := (adj_lt hO hy).2.1; omega
      obtain ⟨f, t', rfl⟩ : ∃ f t', t = f :: t' := by
        cases t with
        | nil => exact absurd rfl ht
        | cons f t' => exact ⟨f, t', rfl⟩
      have hfb : f ∈ bes := by rw [hb]; simp
      have hfne : f ≠ (lo, hi) := fun e => by
        have := hO.2
        rw [hb, e] at this
        simp at this
      obtain ⟨v1, v2, hv, hv12⟩ := h2 (fun g => decide (g = (lo, hi))) _ _ h0m hfb (by simp) (by simp [hfne])
      have only : ∀ v, (∃ g, g ∈ bes ∧ decide (g = (lo, hi)) = true ∧ inc g v = true) → (∃ g, g ∈ bes ∧ decide (g = (lo, hi)) = false ∧ inc g v = true) → v = lo := by
        rintro v ⟨g, g1, g2, g3⟩ ⟨f, f1, f2, f3⟩
        simp only [decide_eq_true_eq, decide_eq_false_iff_not] at g2 f2
        rw [g2, inc_iff] at g3
        simp only at g3
        refine g3.resolve_right fun e => f2 ?_
        rw [e] at f3
        have hf := hO.1 f f1
        rcases inc_iff.mp f3 with q | q
        · have := hnohi f.2 (by rw [q]; exact adj_iff.mpr (Or.inl f1))
          omega
        · have := hnohi f.1 (by rw [q]; exact adj_iff.mpr (Or.inr f1))
          exact Prod.ext this q.symm
      exact hv ((only v1 (hv12 v1 (Or.inl rfl)).1 (hv12 v1 (Or.inl rfl)).2).trans (only v2 (hv12 v2 (Or.inr rfl)).1 (hv12 v2 (Or.inr rfl)).2).symm)
  | some r =>
    rw [hr] at sp
    obtain ⟨b, l, rfl, c1, c2, c3, c4, c5, c6, c7, c8⟩ := sp
    have hbl : b = lo := by simpa using c4
    rw [hbl] at hr c1 c6 c7 c8
    have hl : fstW bes lo hi = l := by
      unfold fstW
      rw [hr]
      simp
    rw [hl]
    have hlne : l ≠ [] := fun e => by
      rw [e] at c6
      have := c6.1
      rw [clA] at this
      simp at this
    have hlx : ∀ x ∈ l, x ≠ lo ∧ x ≠ hi := fun x hx => by
      rw [List.nodup_cons] at c7
      refine ⟨fun e => c7.1 (by rw [← e]; simp [hx]), fun e => c2 (e ▸ hx)⟩
    have hlen := nd_le 20 c7 c8
    refine ⟨by rw [hbl], ⟨by omega, c7, fun x hx => ⟨c8 x (by simp [hx]), ?_⟩, by simp [lvO, inc], by simp [lvO, inc], fun f hf => ⟨wy_bes hO (fun x y h => by rw [clA, Bool.and_eq_true] at h; exact h.1) c6 f hf, fun hfd => ?_⟩⟩, hlne, by simpa using hlen, fun x hx => c8 x (by simp [hx])⟩
    · simp [lvO, inc, hlx x hx]
    · rw [List.mem_singleton] at hfd
      have h1 : adj (wyE (lo :: (l ++ [hi]))) lo hi = true := adj_iff.mpr (Or.inl (hfd ▸ hf))
      rw [wyE_adj] at h1
      obtain ⟨y, l', rfl⟩ : ∃ y l', l = y :: l' := by
        cases l with
        | nil => exact absurd rfl hlne
        | cons y l' => exact ⟨y, l', rfl⟩
      have hy := hlx y (by simp)
      rcases h1 with q | q
      · have := pd_fun c7 q (show (lo, y) ∈ pd (lo :: (y :: l' ++ [hi])) by simp [pd])
        exact hy.2 this.symm
      · have := pd_tgt q
        rw [List.nodup_cons] at c7
        exact c7.1 this
theorem li_st0 {lo hi : Nat} {t : gE} (hV : V ≤ 20) (hO : okE V bes) (h2 : TwoC bes) (hb : bes = (lo, hi) :: t) (ht : t ≠ []) : LI V bes (st0 bes lo hi) := by
  obtain ⟨h1, hW, h3, h4, h5⟩ := fw_ok hV hO h2 hb ht
  obtain ⟨b1, b2, b3⟩ := li_base hO hb hV
  unfold st0
  generalize fstW bes lo hi = ws at *
  have hsp : SP [[lo, hi]] [lo :: hi :: ws.reverse, lo :: (ws ++ [hi])] [] [lo, hi] (lo :: (ws ++ [hi])) (lo :: hi :: ws.reverse) [] [] hi lo ws := by
    refine ⟨List.Perm.refl _, List.Perm.swap _ _ _, List.Perm.swap _ _ _, ?_, ?_, hW.2.1, ?_, by simp; exact hW.1⟩
    · show (pd (lo :: (ws ++ [hi] ++ [lo]))).Perm _
      rw [show lo :: (ws ++ [hi] ++ [lo]) = (lo :: ws) ++ hi :: [lo] by simp, pd_cat]
      exact List.perm_append_comm
    · show (pd (lo :: (hi :: ws.reverse ++ [lo]))).Perm _
      rw [List.cons_append, pd]
      exact List.Perm.refl _
    · have := hW.2.1
      have hp : (lo :: hi :: ws.reverse).Perm (lo :: (ws ++ [hi])) := List.Perm.cons _ (((List.reverse_perm ws).cons hi).trans (List.perm_append_singleton hi ws).symm)
      exact hp.nodup_iff.mpr this
  refine ⟨di_step hO b1 hW hsp, ri_step hO b1 hW hsp b2, ji_step hO b1 hW hsp b3, fun r hr => ?_, by simp⟩
  have := List.length_pos_iff.mpr h3
  simp only [List.mem_cons, List.not_mem_nil, or_false] at hr
  rcases hr with e | e <;> rw [e] <;> simp <;> omega
end LAY
/-- a block of more than one edge is two-connected -/
theorem blk_TwoC {V : Nat} {es : gE} (hO : okE V es) {L : Nat × Nat → Nat} (h : BlkOK V es L) (b : Nat) : TwoC (es.filter fun g => decide (bnum es L g = b)) := fun P p q hp hq hP hQ => by
  rw [List.mem_filter, decide_eq_true_eq] at hp hq
  obtain ⟨v1, v2, hv, h12⟩ := blk_two hO h hp.1 hq.1 ((bnum_eq hp.1 hq.1).mp (hp.2.trans hq.2.symm)) hP hQ
  refine ⟨v1, v2, hv, fun v hv => ?_⟩
  obtain ⟨⟨g, g1, g2, g3, g4⟩, f, f1, f2, f3, f4⟩ := h12 v hv
  have e : ∀ g, g ∈ es → L g = L p → g ∈ es.filter fun g => decide (bnum es L g = b) := fun g hg hL => List.mem_filter.mpr ⟨hg, by rw [decide_eq_true_eq, ← hp.2]; exact (bnum_eq hg hp.1).mpr hL⟩
  exact ⟨⟨g, e g g1 g2, g3, g4⟩, f, e f f1 f2, f3, f4⟩
