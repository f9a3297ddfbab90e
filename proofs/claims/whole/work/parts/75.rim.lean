/-! ===== a rim vertex taken away ===== -/
def fvB (rs : List (List Nat)) (v : Nat) (q : Nat × Nat) : Bool := rs.any fun r => r.contains v && (cd r).contains q
section RIM
variable {V : Nat} {es : gE} {rs : List (List Nat)} {R : Nat → List Nat} {F : Nat × Nat → Bool} {P rim : List Nat}
theorem tg_fun (hT : TG V es rs R) {x y z z' : Nat} (h : fol rs x y z) (h' : fol rs x y z') : z = z' := by
  obtain ⟨r, r1, r2, r3⟩ := h
  obtain ⟨r', r1', r2', r3'⟩ := h'
  have e := fm_inj hT.2.2.2.1 r1 r1' r2 r2'
  rw [← e] at r3'
  exact cd_fun (hT.2.2.1 r r1).1 r3 r3'
theorem tg_inj (hT : TG V es rs R) {x x' y z : Nat} (h : fol rs x y z) (h' : fol rs x' y z) : x = x' := by
  obtain ⟨r, r1, r2, r3⟩ := h
  obtain ⟨r', r1', r2', r3'⟩ := h'
  have e := fm_inj hT.2.2.2.1 r1 r1' r3 r3'
  rw [← e] at r2'
  exact cd_inj (hT.2.2.1 r r1).1 r2 r2'
theorem fol_adj (hT : TG V es rs R) {x y z : Nat} (h : fol rs x y z) : adj es x y = true ∧ adj es y z = true := by
  obtain ⟨r, r1, r2, r3⟩ := h
  exact ⟨(hT.2.2.2.2.1 x y).mp (List.mem_flatMap.mpr ⟨r, r1, r2⟩), (hT.2.2.2.2.1 y z).mp (List.mem_flatMap.mpr ⟨r, r1, r3⟩)⟩
theorem fvB_iff (hT : TG V es rs R) {v x y : Nat} (h : adj es x y = true) : fvB rs v (x, y) = true ↔ v = x ∨ v = y ∨ fol rs x y v := by
  unfold fvB
  rw [List.any_eq_true]
  constructor
  · rintro ⟨r, r1, r2⟩
    rw [Bool.and_eq_true, List.contains_eq_mem, List.contains_eq_mem, decide_eq_true_eq, decide_eq_true_eq] at r2
    obtain ⟨h1, h2⟩ := hT.2.2.1 r r1
    obtain ⟨a, b, c, rfl⟩ : ∃ a b c, r = [a, b, c] := by
      match r, h2 with
      | [a, b, c], _ => exact ⟨a, b, c, rfl⟩
    have hc : cd [a, b, c] = [(a, b), (b, c), (c, a)] := rfl
    have h3 := r2.2
    have h4 := r2.1
    rw [hc] at h3
    simp only [List.mem_cons, List.not_mem_nil, or_false, Prod.mk.injEq] at h3 h4
    rcases h3 with ⟨e1, e2⟩ | ⟨e1, e2⟩ | ⟨e1, e2⟩
    · rcases h4 with w | w | w
      · exact Or.inl (w.trans e1.symm)
      · exact Or.inr (Or.inl (w.trans e2.symm))
      · exact Or.inr (Or.inr ⟨_, r1, by rw [hc, e1, e2]; simp, by rw [hc, e2, w]; simp⟩)
    · rcases h4 with w | w | w
      · exact Or.inr (Or.inr ⟨_, r1, by rw [hc, e1, e2]; simp, by rw [hc, e2, w]; simp⟩)
      · exact Or.inl (w.trans e1.symm)
      · exact Or.inr (Or.inl (w.trans e2.symm))
    · rcases h4 with w | w | w
      · exact Or.inr (Or.inl (w.trans e2.symm))
      · exact Or.inr (Or.inr ⟨_, r1, by rw [hc, e1, e2]; simp, by rw [hc, e2, w]; simp⟩)
      · exact Or.inl (w.trans e1.symm)
  · intro h1
    have hd := (hT.2.2.2.2.1 x y).mpr h
    obtain ⟨r, r1, r2⟩ := List.mem_flatMap.mp hd
    refine ⟨r, r1, ?_⟩
    rw [Bool.and_eq_true, List.contains_eq_mem, List.contains_eq_mem, decide_eq_true_eq, decide_eq_true_eq]
    refine ⟨?_, r2⟩
    rcases h1 with e | e | ⟨r', q1, q2, q3⟩
    · rw [e]; exact (cd_in r2).1
    · rw [e]; exact (cd_in r2).2
    · have := fm_inj hT.2.2.2.1 r1 q1 r2 q2
      rw [this]; exact (cd_in q3).2
theorem fvB_c (hT : TG V es rs R) {v : Nat} {r : List Nat} (hr : r ∈ rs) {p : Nat × Nat} (hp : p ∈ cd r) : fvB rs v p = r.contains v := by
  unfold fvB
  rw [Bool.eq_iff_iff, List.any_eq_true]
  constructor
  · rintro ⟨r', r1, r2⟩
    rw [Bool.and_eq_true, List.contains_eq_mem, List.contains_eq_mem, decide_eq_true_eq, decide_eq_true_eq] at r2
    have := fm_inj hT.2.2.2.1 hr r1 hp r2.2
    rw [this]; simpa using r2.1
  · intro h
    exact ⟨r, hr, by rw [h]; simpa using hp⟩
theorem pd_succ {l : List Nat} {x w z : Nat} (h : z ∈ x :: l) : ∃ z', (z, z') ∈ pd (x :: (l ++ [w])) := by
  induction l generalizing x with
  | nil =>
    rw [List.mem_singleton] at h
    exact ⟨w, by rw [h]; simp [pd]⟩
  | cons u l ih =>
    rcases List.mem_cons.mp h with e | e
    · exact ⟨u, by rw [e]; simp [pd]⟩
    · obtain ⟨z', hz'⟩ := ih e
      exact ⟨z', by rw [List.cons_append, pd]; exact List.mem_cons_of_mem _ hz'⟩
/-- a free rim vertex taken away -/
theorem rs_step (hT : TG V es rs R) (hall : ∀ x, x < V → ∃ y, adj es x y = true) (hR : RS V es rs F P rim) {A M : List Nat} {p v n : Nat} (hrim : rim = A ++ p :: v :: n :: M) (hfree : ∀ w, w ∈ rim → adj es v w = true → w = p ∨ w = n) :
    ∃ Z Wd, rotN (R v) p = p :: (Z ++ n :: Wd) ∧ (p :: (Z ++ n :: Wd)).Nodup ∧ (∀ x, x ∈ p :: (Z ++ n :: Wd) ↔ adj es v x = true) ∧ (∀ z, z ∈ Z → z ∉ rim ∧ z ∉ P ∧ z < V) ∧ (∀ w, w ∈ Wd → w ∈ P) ∧
      (3 ≤ (A ++ p :: (Z ++ n :: M)).length → RS V es rs (fun q => F q && !fvB rs v q) (v :: P) (A ++ p :: (Z ++ n :: M))) ∧ (¬ 3 ≤ (A ++ p :: (Z ++ n :: M)).length → ∀ x, x < V → x ∈ v :: P ∨ x ∈ A ++ p :: (Z ++ n :: M)) := by
  have hRS := hR
  obtain ⟨a1, a2, a3, a4, a5, a6, a7, a8, a9, a10, a11, a12⟩ := hR
  have hO := hT.2.1
  -- the rim's darts
  have hcdr : ∀ q, q ∈ cd rim ↔ q = (p, v) ∨ q = (v, n) ∨ q ∈ pd (n :: (M ++ A ++ [p])) := fun q => by
    rw [hrim, (cd_rot A (p :: v :: n :: M)).mem_iff]
    show q ∈ pd (p :: (v :: n :: M ++ A ++ [p])) ↔ _
    rw [List.cons_append, List.cons_append, List.cons_append, List.cons_append, pd, pd, List.mem_cons, List.mem_cons]
  have hpv : (p, v) ∈ cd rim := (hcdr _).mpr (Or.inl rfl)
  have hvn : (v, n) ∈ cd rim := (hcdr _).mpr (Or.inr (Or.inl rfl))
  obtain ⟨hpn, Z, Wd, e1, e2, e3, e4, e5⟩ := rs_sec hT hRS hpv hvn
  obtain ⟨q1, -⟩ := rot_pd hT e1
  have hpa := a9 p v hpv
  have hna := a9 v n hvn
  have fp := (a8 p v hpa).mpr hpv
  have fn := (a8 v n hna).mpr hvn
  have e2' := e2
  rw [List.nodup_cons, List.nodup_append, List.nodup_cons] at e2'
  obtain ⟨d1, d2, ⟨d3, d4⟩, d5⟩ := e2'
  have hvr : v ∈ rim := by rw [hrim]; simp
  have hpr : p ∈ rim := by rw [hrim]; simp
  have hnr : n ∈ rim := by rw [hrim]; simp
  have hvP : v ∉ P := fun z => a7 v z hvr
  have hZn : ∀ z, z ∈ Z → z ≠ p ∧ z ≠ n := fun z hz => ⟨fun e => d1 (by rw [← e]; exact List.mem_append_left _ hz), fun e => d5 z hz n (by simp) e⟩
  have hZa : ∀ z, z ∈ Z → adj es v z = true := fun z hz => (e5 z).mp (by simp [hz])
  have hZr : ∀ z, z ∈ Z → z ∉ rim := fun z hz hm => by
    rcases hfree z hm (hZa z hz) with w | w
    · exact (hZn z hz).1 w
    · exact (hZn z hz).2 w
  have hZP : ∀ z, z ∈ Z → z ∉ P := fun z hz hm => by
    have := (a10 z v hm (by rw [adj_sym]; exact hZa z hz)).1
    rw [(e3 z hz).1] at this; cases this
  have hWP : ∀ w, w ∈ Wd → w ∈ P := fun w hw => Classical.byContradiction fun hn => by
    have hwa := (e5 w).mp (by simp [hw])
    rcases a12 v w hwa hvP hn with q | q
    · rw [(e4 w hw).2] at q; cases q
    · rw [(e4 w hw).1] at q; cases q
  -- neighbours of v by their sides
  have hup : ∀ x, adj es v x = true → F (x, v) = true → x ∈ p :: Z := fun x hx hf => by
    have := (e5 x).mpr hx
    simp only [List.mem_cons, List.mem_append] at this ⊢
    rcases this with w | w | w | w
    · exact Or.inl w
    · exact Or.inr w
    · rw [w, fn.2] at hf; cases hf
    · rw [(e4 x w).1] at hf; cases hf
  have hdn : ∀ x, adj es v x = true → F (v, x) = true → x ∈ Z ∨ x = n := fun x hx hf => by
    have := (e5 x).mpr hx
    simp only [List.mem_cons, List.mem_append] at this
    rcases this with w | w | w | w
    · rw [w, fp.2] at hf; cases hf
    · exact Or.inl w
    · exact Or.inr w
    · rw [(e4 x w).2] at hf; cases hf
  have hpF : ∀ x, x ∈ p :: Z → F (x, v) = true := fun x hx => by
    rcases List.mem_cons.mp hx with w | w
    · rw [w]; exact fp.1
    · exact (e3 x w).1
  -- the successor of such a one
  have hsuc : ∀ x y, x ∈ p :: Z → fol rs x v y → (x, y) ∈ pd (p :: (Z ++ [n])) := fun x y hx hf => by
    obtain ⟨y', hy'⟩ := pd_succ (w := n) hx
    rw [tg_fun hT hf (q1 x y' hy')]
    exact hy'
  have hpth : (p :: (Z ++ [n])).Nodup := by
    have : p :: (Z ++ n :: Wd) = (p :: (Z ++ [n])) ++ Wd := by simp
    rw [this, List.nodup_append] at e2
    exact e2.1
  have hvnot : v ∉ n :: (M ++ A ++ [p]) := by
    have := a2
    rw [hrim] at this
    have h2 : (A ++ p :: v :: n :: M).Perm (v :: (n :: (M ++ A ++ [p]))) := by
      refine List.perm_append_comm.trans ?_
      rw [List.cons_append, List.cons_append, List.cons_append]
      refine (List.Perm.swap _ _ _).trans (List.Perm.cons _ ?_)
      refine (List.Perm.swap _ _ _).trans (List.Perm.cons _ ?_)
      exact (List.perm_append_singleton _ _).symm
    rw [h2.nodup_iff, List.nodup_cons] at this
    exact this.1
  have hpn2 : (n :: (M ++ A ++ [p])).Nodup := by
    have := a2
    rw [hrim] at this
    have h2 : (A ++ p :: v :: n :: M).Perm (v :: (n :: (M ++ A ++ [p]))) := by
      refine List.perm_append_comm.trans ?_
      rw [List.cons_append, List.cons_append, List.cons_append]
      refine (List.Perm.swap _ _ _).trans (List.Perm.cons _ ?_)
      refine (List.Perm.swap _ _ _).trans (List.Perm.cons _ ?_)
      exact (List.perm_append_singleton _ _).symm
    rw [h2.nodup_iff, List.nodup_cons] at this
    exact this.2
  have hDr : ∀ x y, (x, y) ∈ pd (n :: (M ++ A ++ [p])) → x ∈ rim ∧ y ∈ rim ∧ x ≠ v ∧ y ≠ v := fun x y h => by
    have h1 := (hcdr (x, y)).mpr (Or.inr (Or.inr h))
    have h2 := pd_in h
    exact ⟨(cd_in h1).1, (cd_in h1).2, fun e => hvnot (e ▸ h2.1), fun e => hvnot (e ▸ h2.2)⟩
  -- the darts that stay on one side alone
  have hone : ∀ x y, adj es x y = true → (F (x, y) && !fvB rs v (x, y)) = true → (F (y, x) && !fvB rs v (y, x)) = false → (x, y) ∈ pd (p :: (Z ++ [n])) ∨ (x, y) ∈ pd (n :: (M ++ A ++ [p])) := fun x y ha h1 h2 => by
    have ha' : adj es y x = true := by rw [adj_sym]; exact ha
    rw [Bool.and_eq_true, Bool.not_eq_true'] at h1
    have hnv : ¬ (v = x ∨ v = y ∨ fol rs x y v) := fun z => by
      have := (fvB_iff hT ha).mpr z
      rw [h1.2] at this; cases this
    cases f2 : F (y, x) with
    | false =>
      rcases (hcdr (x, y)).mp ((a8 x y ha).mp ⟨h1.1, f2⟩) with w | w | w
      · cases w; exact absurd (Or.inr (Or.inl rfl)) hnv
      · cases w; exact absurd (Or.inl rfl) hnv
      · exact Or.inr w
    | true =>
      rw [f2, Bool.true_and, Bool.not_eq_false'] at h2
      rcases (fvB_iff hT ha').mp h2 with w | w | w
      · exact absurd (Or.inr (Or.inl w)) hnv
      · exact absurd (Or.inl w) hnv
      · obtain ⟨t1, t2, -⟩ := tri_fol hT w
        -- y x v, x v y
        have hxv := fol_F a1 w
        rw [f2] at hxv
        have hax := (fol_adj hT w).2
        exact Or.inl (hsuc x y (hup x (by rw [adj_sym]; exact hax) hxv.symm) t1)
  -- what is neither taken nor on the new rim is inside
  have hins : ∀ x y, x < V → x ∉ v :: P → x ∉ A ++ p :: (Z ++ n :: M) → adj es x y = true → (F (x, y) && !fvB rs v (x, y)) = true ∧ (F (y, x) && !fvB rs v (y, x)) = true := fun x y hx hxP hxr ha => by
    have hxv : x ≠ v := fun e => hxP (by rw [e]; simp)
    have hxPP : x ∉ P := fun z => hxP (List.mem_cons_of_mem _ z)
    have hxrim : x ∉ rim := fun z => by
      rw [hrim] at z
      refine hxr ?_
      simp only [List.mem_append, List.mem_cons] at z ⊢
      rcases z with w | w | w | w | w
      · exact Or.inl w
      · exact Or.inr (Or.inl w)
      · exact absurd w hxv
      · exact Or.inr (Or.inr (Or.inr (Or.inl w)))
      · exact Or.inr (Or.inr (Or.inr (Or.inr w)))
    have hxpZ : x ∉ p :: Z := fun z => hxr (by
      simp only [List.mem_append, List.mem_cons] at z ⊢
      rcases z with w | w
      · exact Or.inr (Or.inl w)
      · exact Or.inr (Or.inr (Or.inl w)))
    have hxZn : ¬ (x ∈ Z ∨ x = n) := fun z => hxr (by
      simp only [List.mem_append, List.mem_cons]
      rcases z with w | w
      · exact Or.inr (Or.inr (Or.inl w))
      · exact Or.inr (Or.inr (Or.inr (Or.inl w))))
    obtain ⟨f1, f2⟩ := a11 x y hx hxPP hxrim ha
    have ha' : adj es y x = true := by rw [adj_sym]; exact ha
    have hyv : v ≠ y := fun e => by
      rw [← e] at ha f1
      exact hxpZ (hup x (by rw [adj_sym]; exact ha) f1)
    refine ⟨?_, ?_⟩
    · rw [f1, Bool.true_and, Bool.not_eq_true']
      cases hh : fvB rs v (x, y) with
      | false => rfl
      | true =>
        exfalso
        rcases (fvB_iff hT ha).mp hh with w | w | w
        · exact hxv w.symm
        · exact hyv w
        · obtain ⟨t1, t2, -⟩ := tri_fol hT w
          have := fol_F a1 t2
          rw [f1] at this
          exact hxZn (hdn x (fol_adj hT t2).1 this)
    · rw [f2, Bool.true_and, Bool.not_eq_true']
      cases hh : fvB rs v (y, x) with
      | false => rfl
      | true =>
        exfalso
        rcases (fvB_iff hT ha').mp hh with w | w | w
        · exact hyv w
        · exact hxv w.symm
        · have := fol_F a1 w
          rw [f2] at this
          exact hxpZ (hup x (by rw [adj_sym]; exact (fol_adj hT w).2) this.symm)
  refine ⟨Z, Wd, e1, e2, e5, fun z hz => ⟨hZr z hz, hZP z hz, (adj_lt hO (hZa z hz)).2.1⟩, hWP, fun h3 => ?_, fun h3 => ?_⟩
  · -- the new rim
    have hlong : ¬ (Z = [] ∧ M ++ A = []) := fun z => by
      have h5 := List.append_eq_nil_iff.mp z.2
      rw [z.1, h5.1, h5.2] at h3
      simp at h3
    have hnpD : (n, p) ∈ pd (n :: (M ++ A ++ [p])) → M ++ A = [] := fun h => by
      cases hMA : M ++ A with
      | nil => rfl
      | cons u t =>
        exfalso
        rw [hMA] at h hpn2
        have := pd_fun hpn2 h (show (n, u) ∈ pd (n :: (u :: t ++ [p])) by simp [pd])
        rw [List.nodup_cons, List.nodup_append] at hpn2
        exact hpn2.2.2.2 u (by simp) p (by simp) this.symm
    have hpnD : (p, n) ∉ pd (n :: (M ++ A ++ [p])) := fun h => by
      have := pd_tgt h
      rw [List.nodup_cons] at hpn2
      exact hpn2.1 this
    have hcd' : ∀ q, q ∈ cd (A ++ p :: (Z ++ n :: M)) ↔ q ∈ pd (p :: (Z ++ [n])) ∨ q ∈ pd (n :: (M ++ A ++ [p])) := fun q => by
      rw [(cd_rot A (p :: (Z ++ n :: M))).mem_iff]
      show q ∈ pd (p :: (Z ++ n :: M ++ A ++ [p])) ↔ _
      rw [show p :: (Z ++ n :: M ++ A ++ [p]) = (p :: Z) ++ n :: (M ++ A ++ [p]) by simp, pd_cat, List.mem_append]
      simp
    -- the sector's outer darts
    have hsecF : ∀ x y, (x, y) ∈ pd (p :: (Z ++ [n])) → adj es x y = true ∧ (F (x, y) && !fvB rs v (x, y)) = true ∧ (F (y, x) && !fvB rs v (y, x)) = false := fun x y h => by
      have hf := q1 x y h
      obtain ⟨t1, t2, t3, t4, t5⟩ := tri_fol hT hf
      -- v y x, y x v
      have hayx := (fol_adj hT t2).1
      have ha : adj es x y = true := by rw [adj_sym]; exact hayx
      have hxs : x ∈ p :: Z := pd_src h
      have hyt := pd_tgt h
      have fyx : F (y, x) = true := by rw [fol_F a1 t2]; exact hpF x hxs
      have fxy : F (x, y) = true := by
        cases hh : F (x, y) with
        | true => rfl
        | false =>
          exfalso
          have h5 := (a8 y x hayx).mp ⟨fyx, hh⟩
          have hxr := (cd_in h5).2
          have hyr := (cd_in h5).1
          have hx : x = p := by
            rcases List.mem_cons.mp hxs with w | w
            · exact w
            · exact absurd hxr (hZr x w)
          have hy : y = n := by
            rcases List.mem_append.mp hyt with w | w
            · exact absurd hyr (hZr y w)
            · exact List.mem_singleton.mp w
          rw [hx, hy] at h5 h
          have hMA : M ++ A = [] := by
            rcases (hcdr (n, p)).mp h5 with w | w | w
            · rw [Prod.mk.injEq] at w; exact absurd w.1.symm hpn
            · rw [Prod.mk.injEq] at w
              exact absurd w.2 hpn
            · exact hnpD w
          refine hlong ⟨?_, hMA⟩
          cases hZ : Z with
          | nil => rfl
          | cons u t =>
            exfalso
            rw [hZ] at h hpth
            have := pd_fun hpth h (show (p, u) ∈ pd (p :: (u :: t ++ [n])) by simp [pd])
            exact (hZn u (by rw [hZ]; simp)).2 this.symm
      refine ⟨ha, ?_, ?_⟩
      · rw [fxy, Bool.true_and, Bool.not_eq_true']
        cases hh : fvB rs v (x, y) with
        | false => rfl
        | true =>
          exfalso
          rcases (fvB_iff hT ha).mp hh with w | w | w
          · exact t4 w.symm
          · exact t5 w
          · obtain ⟨s1, s2, -⟩ := tri_fol hT w
            -- y v x
            have fyv : F (y, v) = true := by rw [← fol_F a1 w]; exact fxy
            have fvx : F (v, x) = true := by rw [← fol_F a1 s1]; exact fyv
            have hyp := hup y (by rw [adj_sym]; exact (fol_adj hT s1).1) fyv
            have h6 := hsuc y x hyp s1
            exact pd_asym hpth h h6
      · rw [(fvB_iff hT hayx).mpr (Or.inr (Or.inr t2)), fyx]; rfl
    have hDF : ∀ x y, (x, y) ∈ pd (n :: (M ++ A ++ [p])) → (F (x, y) && !fvB rs v (x, y)) = true ∧ (F (y, x) && !fvB rs v (y, x)) = false := fun x y h => by
      have h1 := (hcdr (x, y)).mpr (Or.inr (Or.inr h))
      have ha := a9 x y h1
      obtain ⟨f1, f2⟩ := (a8 x y ha).mpr h1
      obtain ⟨r1, r2, r3, r4⟩ := hDr x y h
      refine ⟨?_, by rw [f2]; rfl⟩
      rw [f1, Bool.true_and, Bool.not_eq_true']
      cases hh : fvB rs v (x, y) with
      | false => rfl
      | true =>
        exfalso
        rcases (fvB_iff hT ha).mp hh with w | w | w
        · exact r3 w.symm
        · exact r4 w.symm
        · obtain ⟨s1, s2, -⟩ := tri_fol hT w
          have hx := hfree x r1 (fol_adj hT s2).1
          have hy := hfree y r2 (by rw [adj_sym]; exact (fol_adj hT s1).1)
          have hxy := (adj_lt hO ha).2.2
          rcases hx with hx | hx <;> rcases hy with hy | hy
          · exact hxy (hx.trans hy.symm)
          · rw [hx, hy] at h; exact hpnD h
          · rw [hx, hy] at h s1
            -- p v n follows at once
            refine hlong ⟨?_, hnpD h⟩
            have h6 := hsuc p n (by simp) s1
            cases hZ : Z with
            | nil => rfl
            | cons u t =>
              exfalso
              rw [hZ] at h6 hpth
              have := pd_fun hpth h6 (show (p, u) ∈ pd (p :: (u :: t ++ [n])) by simp [pd])
              exact (hZn u (by rw [hZ]; simp)).2 this.symm
          · exact hxy (hx.trans hy.symm)
    have hrimnd : (A ++ p :: (Z ++ n :: M)).Nodup := by
      have h2 : (A ++ p :: (Z ++ n :: M)).Perm (Z ++ (n :: (M ++ A ++ [p]))) := by
        refine List.perm_append_comm.trans ?_
        rw [List.cons_append, List.append_assoc]
        refine (List.perm_append_singleton _ _).symm.trans ?_
        rw [List.append_assoc]
        refine List.Perm.append_left Z ?_
        rw [List.cons_append, List.cons_append]
      rw [h2.nodup_iff, List.nodup_append]
      refine ⟨d2, hpn2, fun z hz w hw e => hZr z hz ?_⟩
      rw [e, hrim]
      simp only [List.mem_cons, List.mem_append, List.not_mem_nil, or_false] at hw ⊢
      rcases hw with q | (q | q) | q
      · simp [q]
      · simp [q]
      · simp [q]
      · simp [q]
    have hmem' : ∀ x, x ∈ A ++ p :: (Z ++ n :: M) → x ∈ Z ∨ (x ∈ rim ∧ x ≠ v) := fun x hx => by
      simp only [List.mem_append, List.mem_cons] at hx
      have hne : ∀ y, y ∈ n :: (M ++ A ++ [p]) → y ≠ v := fun y hy e => hvnot (e ▸ hy)
      rcases hx with w | w | w | w | w
      · exact Or.inr ⟨by rw [hrim]; simp [w], hne x (by simp [w])⟩
      · exact Or.inr ⟨by rw [hrim]; simp [w], hne x (by simp [w])⟩
      · exact Or.inl w
      · exact Or.inr ⟨by rw [hrim]; simp [w], hne x (by simp [w])⟩
      · exact Or.inr ⟨by rw [hrim]; simp [w], hne x (by simp [w])⟩
    refine ⟨fun r hr q hq q' hq' => ?_, hrimnd, h3, fun x hx => ?_, fun x hx => ?_, ?_, fun x hx hm => ?_, fun x y ha => ?_, fun x y h => ?_, fun x y hx ha => ?_, hins, fun x y ha hx hy => ?_⟩
    · show (F q && !fvB rs v q) = (F q' && !fvB rs v q')
      rw [a1 r hr q hq q' hq', fvB_c hT hr hq, fvB_c hT hr hq']
    · rcases hmem' x hx with w | w
      · exact (adj_lt hO (hZa x w)).2.1
      · exact a4 x w.1
    · rcases List.mem_cons.mp hx with w | w
      · rw [w]; exact a4 v hvr
      · exact a5 x w
    · exact List.nodup_cons.mpr ⟨hvP, a6⟩
    · rcases hmem' x hm with w | w
      · rcases List.mem_cons.mp hx with q | q
        · exact hZr x w (q ▸ hvr)
        · exact hZP x w q
      · rcases List.mem_cons.mp hx with q | q
        · exact w.2 q
        · exact a7 x q w.1
    · rw [hcd']
      constructor
      · rintro ⟨h1, h2⟩
        exact hone x y ha h1 h2
      · rintro (h | h)
        · exact (hsecF x y h).2
        · exact hDF x y h
    · rcases (hcd' _).mp h with w | w
      · exact (hsecF x y w).1
      · exact a9 x y ((hcdr _).mpr (Or.inr (Or.inr w)))
    · have ha' : adj es y x = true := by rw [adj_sym]; exact ha
      show (F (x, y) && !fvB rs v (x, y)) = false ∧ (F (y, x) && !fvB rs v (y, x)) = false
      rcases List.mem_cons.mp hx with w | w
      · rw [(fvB_iff hT ha).mpr (Or.inl w.symm), (fvB_iff hT ha').mpr (Or.inr (Or.inl w.symm))]
        simp
      · rw [(a10 x y w ha).1, (a10 x y w ha).2]
        exact ⟨rfl, rfl⟩
    · -- an edge between vertices that stay has a side
      have key : ∀ x y, adj es x y = true → x ∉ v :: P → y ∉ v :: P → F (x, y) = true → (F (x, y) && !fvB rs v (x, y)) = true ∨ (F (y, x) && !fvB rs v (y, x)) = true := fun x y ha hx hy f1 => by
        cases hh : fvB rs v (x, y) with
        | false => left; rw [f1]; rfl
        | true =>
          right
          rcases (fvB_iff hT ha).mp hh with w | w | w
          · exact absurd (by rw [w]; simp) hx
          · exact absurd (by rw [w]; simp) hy
          · obtain ⟨s1, s2, -⟩ := tri_fol hT w
            have fyv : F (y, v) = true := by rw [← fol_F a1 w]; exact f1
            have hyp := hup y (by rw [adj_sym]; exact (fol_adj hT s1).1) fyv
            exact (hsecF y x (hsuc y x hyp s1)).2.1
      rcases a12 x y ha (fun z => hx (List.mem_cons_of_mem _ z)) (fun z => hy (List.mem_cons_of_mem _ z)) with w | w
      · exact key x y ha hx hy w
      · exact (key y x (by rw [adj_sym]; exact ha) hy hx w).symm
  · -- nothing is left
    intro x hx
    refine Classical.byContradiction fun hn => ?_
    rw [not_or] at hn
    have hA : A = [] ∧ Z = [] ∧ M = [] := by
      simp only [List.length_append, List.length_cons] at h3
      refine ⟨?_, ?_, ?_⟩ <;> refine List.length_eq_zero_iff.mp ?_ <;> omega
    obtain ⟨hA, hZ, hM⟩ := hA
    obtain ⟨y, hy⟩ := hall x hx
    have hxin := hins x y hx hn.1 hn.2 hy
    -- both sides of each edge are alike
    have hsym : ∀ u w, adj es u w = true → (F (u, w) && !fvB rs v (u, w)) = (F (w, u) && !fvB rs v (w, u)) := fun u w ha => by
      have ha' : adj es w u = true := by rw [adj_sym]; exact ha
      have hfpn : (F (p, n) && !fvB rs v (p, n)) = false ∧ (F (n, p) && !fvB rs v (n, p)) = false := by
        have h5 : (n, p) ∈ cd rim := (hcdr _).mpr (Or.inr (Or.inr (by rw [hM, hA]; simp [pd])))
        have h6 := (a8 n p (a9 n p h5)).mpr h5
        have h7 := q1 p n (by rw [hZ]; simp [pd])
        obtain ⟨-, t2, -⟩ := tri_fol hT h7
        refine ⟨by rw [h6.2]; rfl, ?_⟩
        rw [(fvB_iff hT (a9 n p h5)).mpr (Or.inr (Or.inr t2))]; simp
      have bad : ∀ u w, adj es u w = true → (F (u, w) && !fvB rs v (u, w)) = true → (F (w, u) && !fvB rs v (w, u)) = false → False := fun u w ha h1 h2 => by
        rcases hone u w ha h1 h2 with q | q
        · rw [hZ] at q
          have : (u, w) = (p, n) := by simpa [pd] using q
          rw [Prod.mk.injEq] at this
          rw [this.1, this.2, hfpn.1] at h1; cases h1
        · rw [hM, hA] at q
          have : (u, w) = (n, p) := by simpa [pd] using q
          rw [Prod.mk.injEq] at this
          rw [this.1, this.2, hfpn.2] at h1; cases h1
      cases h1 : (F (u, w) && !fvB rs v (u, w)) with
      | true =>
        cases h2 : (F (w, u) && !fvB rs v (w, u)) with
        | true => rfl
        | false => exact (bad u w ha h1 h2).elim
      | false =>
        cases h2 : (F (w, u) && !fvB rs v (w, u)) with
        | false => rfl
        | true => exact (bad w u ha' h2 h1).elim
    -- all edges of a vertex are alike
    have hfc : fcs rs (fun q => F q && !fvB rs v q) := fun r hr q hq q' hq' => by
      show (F q && !fvB rs v q) = (F q' && !fvB rs v q')
      rw [a1 r hr q hq q' hq', fvB_c hT hr hq, fvB_c hT hr hq']
    have hvx : ∀ w u u', adj es w u = true → adj es w u' = true → (F (w, u) && !fvB rs v (w, u)) = (F (w, u') && !fvB rs v (w, u')) := fun w u u' h1 h2 => by
      have hRw := hT.2.2.2.2.2.1 w
      have hcy : ∀ a b, (a, b) ∈ cd (R w) → (F (w, b) && !fvB rs v (w, b)) = (F (w, a) && !fvB rs v (w, a)) := fun a b hab => by
        have hf := hT.2.2.2.2.2.2.1 w a b hab
        have h5 : (F (a, w) && !fvB rs v (a, w)) = (F (w, b) && !fvB rs v (w, b)) := fol_F hfc hf
        rw [← h5]
        exact hsym a w (fol_adj hT hf).1
      have hgen : ∀ (l : List Nat) (x0 : Nat), (∀ a b, (a, b) ∈ pd (x0 :: l) → (F (w, b) && !fvB rs v (w, b)) = (F (w, a) && !fvB rs v (w, a))) → ∀ z, z ∈ x0 :: l → (F (w, z) && !fvB rs v (w, z)) = (F (w, x0) && !fvB rs v (w, x0)) := by
        intro l
        induction l with
        | nil => intro x0 _ z hz; rw [List.mem_singleton.mp hz]
        | cons c l ih =>
          intro x0 h z hz
          rcases List.mem_cons.mp hz with q | q
          · rw [q]
          · rw [ih c (fun a b hab => h a b (by rw [pd]; exact List.mem_cons_of_mem _ hab)) z q]
            exact h x0 c (by simp [pd])
      have hu := (hRw.2 u).mpr h1
      have hu' := (hRw.2 u').mpr h2
      obtain ⟨x0, l, hl⟩ : ∃ x0 l, R w = x0 :: l := by
        cases hh : R w with
        | nil => rw [hh] at hu; exact absurd hu List.not_mem_nil
        | cons x0 l => exact ⟨x0, l, rfl⟩
      rw [hl] at hu hu'
      have hpre : ∀ a b, (a, b) ∈ pd (x0 :: l) → (F (w, b) && !fvB rs v (w, b)) = (F (w, a) && !fvB rs v (w, a)) := fun a b hab => hcy a b (by rw [hl]; exact pd_pre (x := x0) hab)
      rw [hgen l x0 hpre u hu, hgen l x0 hpre u' hu']
    -- two kinds of edges would meet
    have hpe : adj es p v = true := hpa
    have hP1 : (min x y, max x y) ∈ es := adj_te hO hy
    have hP2 : (min p v, max p v) ∈ es := adj_te hO hpe
    have hval : ∀ u w, adj es u w = true → (fun e : Nat × Nat => F (e.1, e.2) && !fvB rs v (e.1, e.2)) (min u w, max u w) = (F (u, w) && !fvB rs v (u, w)) := fun u w ha => by
      rcases Nat.le_total u w with q | q
      · rw [show min u w = u by omega, show max u w = w by omega]
      · rw [show min u w = w by omega, show max u w = u by omega]
        exact (hsym u w ha).symm
    obtain ⟨v1, v2, -, hv12⟩ := hT.2.2.2.2.2.2.2.2 (fun e => F (e.1, e.2) && !fvB rs v (e.1, e.2)) _ _ hP1 hP2 ((hval x y hy).trans hxin.1) ((hval p v hpe).trans (by rw [(fvB_iff hT hpe).mpr (Or.inr (Or.inl rfl))]; simp))
    obtain ⟨⟨g, g1, g2, g3⟩, f, f1, f2, f3⟩ := hv12 v1 (Or.inl rfl)
    have hend : ∀ e : Nat × Nat, e ∈ es → inc e v1 = true → ∃ u, adj es v1 u = true ∧ (F (e.1, e.2) && !fvB rs v (e.1, e.2)) = (F (v1, u) && !fvB rs v (v1, u)) := fun e he hi => by
      have ha : adj es e.1 e.2 = true := adj_iff.mpr (Or.inl he)
      rcases inc_iff.mp hi with w | w
      · exact ⟨e.2, by rw [w]; exact ha, by rw [w]⟩
      · exact ⟨e.1, by rw [w, adj_sym]; exact ha, by rw [w]; exact hsym _ _ ha⟩
    obtain ⟨u, u1, u2⟩ := hend g g1 g3
    obtain ⟨u', u1', u2'⟩ := hend f f1 f3
    rw [u2] at g2
    rw [u2'] at f2
    rw [hvx v1 u u' u1 u1', f2] at g2
    cases g2
end RIM
