/-! ===== the order of drawing ===== -/
def frP (es : gE) (rim : List Nat) (t : Nat) : Bool := (List.range rim.length).all fun l => decide (l = t) || decide (l + 1 = t) || decide (t + 1 = l) || !adj es (rAt rim l) (rAt rim t)
def pkF (es : gE) (rim : List Nat) : Nat → Option Nat
  | 0 => none
  | i + 1 => if decide (1 ≤ i) && frP es rim i then (match pkF es rim i with
    | none => some i
    | some b => if rAt rim i < rAt rim b then some i else some b) else pkF es rim i
def secZ (l : List Nat) (p n : Nat) : List Nat := (rotN l p).tail.takeWhile fun x => decide (x ≠ n)
def rimS (R : Nat → List Nat) (rim : List Nat) (t : Nat) : List Nat := rim.take t ++ secZ (R (rAt rim t)) (rAt rim (t - 1)) (rAt rim (t + 1)) ++ rim.drop (t + 1)
def drun (es : gE) (R : Nat → List Nat) : Nat → List Nat → List (Nat × List Nat)
  | 0, _ => []
  | k + 1, rim => match pkF es rim (rim.length - 1) with
    | none => []
    | some t => (rAt rim t, rim) :: drun es R k (rimS R rim t)
theorem pkF_sp {es : gE} {rim : List Nat} : ∀ (i : Nat), (∀ b, pkF es rim i = some b → 1 ≤ b ∧ b < i ∧ frP es rim b = true) ∧ (pkF es rim i = none → ∀ t, 1 ≤ t → t < i → frP es rim t = false)
  | 0 => ⟨fun b h => (by cases h), fun _ t _ ht => by omega⟩
  | i + 1 => by
    obtain ⟨h1, h2⟩ := pkF_sp (es := es) (rim := rim) i
    rw [pkF]
    cases hL : (decide (1 ≤ i) && frP es rim i) with
    | false =>
      simp only [Bool.false_eq_true, if_false]
      refine ⟨fun b hb => ⟨(h1 b hb).1, by have := (h1 b hb).2.1; omega, (h1 b hb).2.2⟩, fun hn t ht1 ht2 => ?_⟩
      by_cases e : t = i
      · rw [e] at ht1 ⊢
        rw [decide_eq_true ht1, Bool.true_and] at hL
        exact hL
      · exact h2 hn t ht1 (by omega)
    | true =>
      rw [Bool.and_eq_true, decide_eq_true_eq] at hL
      simp only [if_true]
      cases hb : pkF es rim i with
      | none => exact ⟨fun b h => by cases h; exact ⟨hL.1, by omega, hL.2⟩, fun h => by cases h⟩
      | some b0 =>
        simp only
        split
        · exact ⟨fun b h => by cases h; exact ⟨hL.1, by omega, hL.2⟩, fun h => by cases h⟩
        · refine ⟨fun b h => ?_, fun h => by cases h⟩
          cases h
          exact ⟨(h1 b0 hb).1, by have := (h1 b0 hb).2.1; omega, (h1 b0 hb).2.2⟩
theorem takeW_split {n : Nat} : ∀ {Z W : List Nat}, n ∉ Z → (Z ++ n :: W).takeWhile (fun x => decide (x ≠ n)) = Z
  | [], W, _ => by simp
  | z :: Z, W, h => by
    have hz : z ≠ n := fun e => h (by rw [e]; simp)
    rw [List.cons_append, List.takeWhile_cons, if_pos (by simpa using hz), takeW_split fun q => h (List.mem_cons_of_mem _ q)]
theorem secZ_eq {l Z Wd : List Nat} {p n : Nat} (h : rotN l p = p :: (Z ++ n :: Wd)) (hn : n ∉ Z) : secZ l p n = Z := by
  unfold secZ
  rw [h, List.tail_cons, takeW_split hn]
/-- what a step is -/
def LK (es : gE) (v : Nat) (rim rim' : List Nat) : Prop := ∃ A p n M Z, rim = A ++ p :: v :: n :: M ∧ rim' = A ++ p :: (Z ++ n :: M) ∧ (∀ w, w ∈ p :: (Z ++ [n]) → adj es v w = true) ∧ (∀ w, w ∈ A ∨ w ∈ M → adj es v w = false) ∧ rim'.Nodup ∧ v ∉ rim' ∧ rim.Nodup ∧ (∀ x, x ∈ rim → x < 20) ∧ (∀ x, x ∈ rim' → x < 20)
section DRP
variable {V : Nat} {es : gE} {rs : List (List Nat)} {R : Nat → List Nat} {F : Nat × Nat → Bool} {P rim : List Nat}
theorem frP_iff {t : Nat} : frP es rim t = true ↔ ∀ l, l < rim.length → (l + 2 ≤ t ∨ t + 2 ≤ l) → adj es (rAt rim l) (rAt rim t) = false := by
  unfold frP
  rw [List.all_eq_true]
  constructor
  · intro h l hl hd
    have := h l (List.mem_range.mpr hl)
    have e1 : ¬ l = t := by omega
    have e2 : ¬ l + 1 = t := by omega
    have e3 : ¬ t + 1 = l := by omega
    simpa [e1, e2, e3] using this
  · intro h l hl
    have hl := List.mem_range.mp hl
    by_cases e : l + 2 ≤ t ∨ t + 2 ≤ l
    · rw [h l hl e]; simp
    · have : l = t ∨ l + 1 = t ∨ t + 1 = l := by omega
      rcases this with w | w | w <;> simp [w]
theorem rim_cut {t : Nat} (h1 : 1 ≤ t) (h2 : t + 1 < rim.length) : rim = rim.take (t - 1) ++ rAt rim (t - 1) :: rAt rim t :: rAt rim (t + 1) :: rim.drop (t + 2) := by
  have g : ∀ u, u < rim.length → rim.drop u = rAt rim u :: rim.drop (u + 1) := fun u hu => by
    rw [List.drop_eq_getElem_cons hu]
    congr 1
    have := rAt_get hu
    rw [List.getElem?_eq_getElem hu] at this
    exact Option.some.inj this
  have e := List.take_append_drop (t - 1) rim
  rw [g (t - 1) (by omega), show t - 1 + 1 = t by omega, g t (by omega), g (t + 1) h2] at e
  exact e.symm
/-- a step of the order -/
theorem dr_step (hT : TG V es rs R) (hall : ∀ x, x < V → ∃ y, adj es x y = true) (hR : RS V es rs F P rim) (hk : P.length + 3 ≤ V) :
    ∃ t, pkF es rim (rim.length - 1) = some t ∧ 1 ≤ t ∧ t + 1 < rim.length ∧ frP es rim t = true ∧ LK es (rAt rim t) rim (rimS R rim t) ∧ rAt rim t ∉ P ∧ rAt rim t < V ∧
      (∃ Wd, rotN (R (rAt rim t)) (rAt rim (t - 1)) = rAt rim (t - 1) :: (secZ (R (rAt rim t)) (rAt rim (t - 1)) (rAt rim (t + 1)) ++ rAt rim (t + 1) :: Wd) ∧ (rAt rim (t - 1) :: (secZ (R (rAt rim t)) (rAt rim (t - 1)) (rAt rim (t + 1)) ++ rAt rim (t + 1) :: Wd)).Nodup ∧ (∀ w, w ∈ Wd → w ∈ P)) ∧
      (∀ z, z ∈ secZ (R (rAt rim t)) (rAt rim (t - 1)) (rAt rim (t + 1)) → z ∉ rim ∧ z ∉ P ∧ z < V) ∧
      (P.length + 4 ≤ V → ∃ F', RS V es rs F' (rAt rim t :: P) (rimS R rim t)) := by
  have hRS := hR
  obtain ⟨t0, t1, t2, t3⟩ := free_ex hT hRS
  obtain ⟨s1, s2⟩ := pkF_sp (es := es) (rim := rim) (rim.length - 1)
  obtain ⟨t, ht⟩ : ∃ t, pkF es rim (rim.length - 1) = some t := by
    cases hh : pkF es rim (rim.length - 1) with
    | some t => exact ⟨t, rfl⟩
    | none =>
      have := s2 hh t0 t1 (by omega)
      rw [frP_iff.mpr fun l hl hd => by rw [adj_sym]; exact t3 l hl hd] at this
      cases this
  obtain ⟨u1, u2, u3⟩ := s1 t ht
  have hu2 : t + 1 < rim.length := by omega
  have hcut := rim_cut (rim := rim) u1 hu2
  obtain ⟨a1, a2, a3, a4, a5, a6, a7, a8, a9, a10, a11, a12⟩ := hR
  have hO := hT.2.1
  have hV := hT.1
  have hfree : ∀ w, w ∈ rim → adj es (rAt rim t) w = true → w = rAt rim (t - 1) ∨ w = rAt rim (t + 1) := fun w hw ha => by
    obtain ⟨l, hl⟩ := List.getElem?_of_mem hw
    have hll := (List.getElem?_eq_some_iff.mp hl).1
    rw [rAt_get hll] at hl
    have hwl : rAt rim l = w := Option.some.inj hl
    by_cases e : l + 2 ≤ t ∨ t + 2 ≤ l
    · have := frP_iff.mp u3 l hll e
      rw [hwl, adj_sym, ha] at this; cases this
    · have : l = t ∨ l = t - 1 ∨ l = t + 1 := by omega
      rcases this with q | q | q
      · rw [← hwl, q] at ha
        exact absurd rfl (adj_lt hO ha).2.2
      · left; rw [← hwl, q]
      · right; rw [← hwl, q]
  obtain ⟨Z, Wd, e1, e2, e3, e4, e5, e6, e7⟩ := rs_step hT hall hRS hcut hfree
  have e2' := e2
  rw [List.nodup_cons, List.nodup_append] at e2'
  have hnZ : rAt rim (t + 1) ∉ Z := fun z => e2'.2.2.2 _ z _ (by simp) rfl
  have hsec : secZ (R (rAt rim t)) (rAt rim (t - 1)) (rAt rim (t + 1)) = Z := secZ_eq e1 hnZ
  have hrS : rimS R rim t = rim.take (t - 1) ++ rAt rim (t - 1) :: (Z ++ rAt rim (t + 1) :: rim.drop (t + 2)) := by
    unfold rimS
    rw [hsec]
    have h5 : rim.take t = rim.take (t - 1) ++ [rAt rim (t - 1)] := by
      have hlt : t - 1 < rim.length := by omega
      have := List.take_succ_eq_append_getElem hlt
      rw [show t - 1 + 1 = t by omega] at this
      rw [this]
      have h6 := rAt_get hlt
      rw [List.getElem?_eq_getElem hlt] at h6
      rw [Option.some.inj h6]
    have h6 : rim.drop (t + 1) = rAt rim (t + 1) :: rim.drop (t + 2) := by
      rw [List.drop_eq_getElem_cons hu2]
      have h7 := rAt_get hu2
      rw [List.getElem?_eq_getElem hu2] at h7
      rw [Option.some.inj h7]
    rw [h5, h6]
    simp
  have hvr : rAt rim t ∈ rim := rAt_mem (by omega)
  have hvnd := a2
  rw [hcut] at hvnd
  have hvA : rAt rim t ∉ rim.take (t - 1) ∧ rAt rim t ∉ rim.drop (t + 2) ∧ rAt rim t ≠ rAt rim (t - 1) ∧ rAt rim t ≠ rAt rim (t + 1) := by
    rw [List.nodup_append, List.nodup_cons, List.nodup_cons] at hvnd
    obtain ⟨-, ⟨n1, n2, -⟩, n3⟩ := hvnd
    refine ⟨fun z => n3 _ z _ (by simp) rfl, fun z => n2 (List.mem_cons_of_mem _ z), fun z => n1 (by rw [← z]; simp), fun z => n2 (by rw [← z]; simp)⟩
  have hZv : ∀ z, z ∈ Z → z ≠ rAt rim t := fun z hz e => (e4 z hz).1 (by rw [e]; exact hvr)
  have hnd' : (rim.take (t - 1) ++ rAt rim (t - 1) :: (Z ++ rAt rim (t + 1) :: rim.drop (t + 2))).Nodup := by
    have hsub : (rim.take (t - 1) ++ rAt rim (t - 1) :: rAt rim (t + 1) :: rim.drop (t + 2)).Nodup := by
      have : (rim.take (t - 1) ++ rAt rim (t - 1) :: rAt rim (t + 1) :: rim.drop (t + 2)).Sublist rim := by
        conv => rhs; rw [hcut]
        exact List.Sublist.append_left (List.Sublist.cons_cons _ (List.Sublist.cons _ (List.Sublist.refl _))) _
      exact a2.sublist this
    have hp : (rim.take (t - 1) ++ rAt rim (t - 1) :: (Z ++ rAt rim (t + 1) :: rim.drop (t + 2))).Perm (Z ++ (rim.take (t - 1) ++ rAt rim (t - 1) :: rAt rim (t + 1) :: rim.drop (t + 2))) := by
      have h8 : rim.take (t - 1) ++ rAt rim (t - 1) :: (Z ++ rAt rim (t + 1) :: rim.drop (t + 2)) = (rim.take (t - 1) ++ [rAt rim (t - 1)]) ++ (Z ++ rAt rim (t + 1) :: rim.drop (t + 2)) := by simp
      have h9 : Z ++ (rim.take (t - 1) ++ rAt rim (t - 1) :: rAt rim (t + 1) :: rim.drop (t + 2)) = Z ++ ((rim.take (t - 1) ++ [rAt rim (t - 1)]) ++ rAt rim (t + 1) :: rim.drop (t + 2)) := by simp
      rw [h8, h9, ← List.append_assoc, ← List.append_assoc Z]
      exact List.Perm.append_right _ List.perm_append_comm
    rw [hp.nodup_iff, List.nodup_append]
    have hZn : Z.Nodup := e2'.2.1
    refine ⟨hZn, hsub, fun z hz w hw e => (e4 z hz).1 ?_⟩
    rw [e, hcut]
    simp only [List.mem_append, List.mem_cons] at hw ⊢
    rcases hw with q | q | q | q
    · exact Or.inl q
    · exact Or.inr (Or.inl q)
    · exact Or.inr (Or.inr (Or.inr (Or.inl q)))
    · exact Or.inr (Or.inr (Or.inr (Or.inr q)))
  have hlt' : ∀ x, x ∈ rim.take (t - 1) ++ rAt rim (t - 1) :: (Z ++ rAt rim (t + 1) :: rim.drop (t + 2)) → x < V := fun x hx => by
    simp only [List.mem_append, List.mem_cons] at hx
    rcases hx with q | q | q | q | q
    · exact a4 x (List.take_subset _ _ q)
    · rw [q]; exact a4 _ (rAt_mem (by omega))
    · exact (e4 x q).2.2
    · rw [q]; exact a4 _ (rAt_mem hu2)
    · exact a4 x (List.drop_subset _ _ q)
  refine ⟨t, ht, u1, hu2, u3, ?_, fun z => a7 _ z hvr, a4 _ hvr, ?_, ?_, fun hk4 => ?_⟩
  · rw [hrS]
    refine ⟨rim.take (t - 1), rAt rim (t - 1), rAt rim (t + 1), rim.drop (t + 2), Z, hcut, rfl, fun w hw => ?_, fun w hw => ?_, hnd', fun hm => ?_, a2, fun x hx => by have := a4 x hx; omega, fun x hx => by have := hlt' x hx; omega⟩
    · refine (e3 w).mp ?_
      simp only [List.mem_cons, List.mem_append, List.not_mem_nil, or_false] at hw ⊢
      rcases hw with q | q | q
      · exact Or.inl q
      · exact Or.inr (Or.inl q)
      · exact Or.inr (Or.inr (Or.inl q))
    · cases hh : adj es (rAt rim t) w with
      | false => rfl
      | true =>
        exfalso
        have hwr : w ∈ rim := by
          rcases hw with q | q
          · exact List.take_subset _ _ q
          · exact List.drop_subset _ _ q
        have hnn := a2
        rw [hcut, List.nodup_append, List.nodup_cons, List.nodup_cons, List.nodup_cons] at hnn
        obtain ⟨-, ⟨n1, n2, n3, -⟩, n4⟩ := hnn
        rcases hfree w hwr hh with e | e <;> rcases hw with q | q
        · exact n4 w q _ (by simp) e
        · exact n1 (by rw [← e]; simp [q])
        · exact n4 w q _ (by simp) e
        · exact n3 (e ▸ q)
    · simp only [List.mem_append, List.mem_cons] at hm
      rcases hm with q | q | q | q | q
      · exact hvA.1 q
      · exact hvA.2.2.1 q
      · exact hZv _ q rfl
      · exact hvA.2.2.2 q
      · exact hvA.2.1 q
  · rw [hsec]
    exact ⟨Wd, e1, e2, e5⟩
  · rw [hsec]; exact e4
  · rw [hrS]
    refine ⟨_, e6 ?_⟩
    refine Classical.byContradiction fun hn => ?_
    have hcov := e7 hn
    have : V ≤ ((rAt rim t :: P) ++ (rim.take (t - 1) ++ rAt rim (t - 1) :: (Z ++ rAt rim (t + 1) :: rim.drop (t + 2)))).length := by
      have := nd_sub_len (l := List.range V) (m := (rAt rim t :: P) ++ (rim.take (t - 1) ++ rAt rim (t - 1) :: (Z ++ rAt rim (t + 1) :: rim.drop (t + 2)))) List.nodup_range fun x hx => List.mem_append.mpr (hcov x (List.mem_range.mp hx))
      simpa using this
    rw [List.length_append, List.length_cons] at this
    omega
theorem xsm_perm {α : Type} {f : α → Bool} {l m : List α} (h : l.Perm m) : xsm f l = xsm f m := by
  induction h with
  | nil => rfl
  | cons a _ ih => rw [xsm, xsm, ih]
  | swap a b l =>
    rw [xsm, xsm, xsm, xsm]
    cases f a <;> cases f b <;> cases xsm f l <;> rfl
  | trans _ _ ih1 ih2 => exact ih1.trans ih2
/-- a full graph that is laid is of triangles -/
theorem tg_of (hV : V ≤ 20) (h3 : 3 ≤ V) (hO : okE V es) {L : Nat × Nat → Nat} (hB : BlkOK V es L) (h : layG V es = some R) (hfull : es.length + 6 = 3 * V) : (∃ rs, TG V es rs R) ∧ ∀ x, x < V → ∃ y, adj es x y = true := by
  obtain ⟨b1, b2, b3⟩ := (lay_bound hV h3 hO hB h).2 hfull
  have hh := h
  rw [layG_eq hO hB, b1, layK, layK, Option.bind_some] at hh
  have hbe : blkE es (bnum es L) 0 = es := List.filter_eq_self.mpr fun g hg => by
    have := bnum_lt (L := L) hg
    rw [b1] at this
    simp
    omega
  have h2C : TwoC es := by
    have := blk_TwoC hO hB 0
    have h5 : (es.filter fun g => decide (bnum es L g = 0)) = es := hbe
    rw [h5] at this
    exact this
  rw [hbe] at hh
  unfold lay1 at hh
  rw [if_neg b2] at hh
  cases hl : layB es with
  | none => rw [hl] at hh; cases hh
  | some rs =>
    rw [hl] at hh
    obtain ⟨s, s1, hL, he⟩ := layB_ok hV hO h2C b2 hl
    have hR : R = fun y => [] ++ tuB rs es y := by
      simp only [Option.map_some, Option.some.injEq] at hh
      exact hh.symm
    have hRy : ∀ y, R y = tuB s.1 es y := fun y => by rw [hR, s1]; rfl
    have hperm : s.2.Perm es := (List.perm_ext_iff_of_nodup hL.1.2.1 hO.2).mpr fun g => ⟨hL.1.1 g, nd_sub_all hL.1.2.1 hL.1.1 (by omega) g⟩
    have hadj : ∀ u v, adj s.2 u v = adj es u v := fun u v => by
      rw [Bool.eq_iff_iff, adj_iff, adj_iff, hperm.mem_iff, hperm.mem_iff]
    have hlv : cnt (lvO s.2) 20 = V := by
      rw [← b3]
      refine cnt_congr fun v _ => ?_
      rw [Bool.eq_iff_iff, lvO_iff, lvO_iff]
      exact ⟨fun ⟨g, g1, g2⟩ => ⟨g, hperm.mem_iff.mp g1, g2⟩, fun ⟨g, g1, g2⟩ => ⟨g, hperm.mem_iff.mpr g1, g2⟩⟩
    refine ⟨⟨s.1, hV, hO, fun r hr => ⟨hL.1.2.2.1 r hr, hL.tri hO (by omega) r hr⟩, hL.1.2.2.2.1, fun x y => by rw [hL.1.2.2.2.2.1, hadj], fun y => ?_, fun y x z hxz => ?_, fun C hC => ?_, h2C⟩, fun x hx => ?_⟩
    · rw [hRy y]
      exact ⟨(tuB_ok hV hO hL he y).1, (tuB_ok hV hO hL he y).2.1⟩
    · rw [hRy y] at hxz
      exact (tuB_ok hV hO hL he y).2.2.1 x z hxz
    · obtain ⟨G, g1, g2⟩ := hL.2.2.1 C (fun v hv => by rw [xsm_perm hperm]; exact hC v hv)
      exact ⟨G, g1, fun x y hxy => g2 x y (by rw [hadj]; exact hxy)⟩
    · -- each vertex is laid
      have hle : cnt (lvO es) 20 ≤ cnt (fun v => decide (v < V)) 20 := cnt_mono fun v _ hv => by
        obtain ⟨g, g1, g2⟩ := lvO_iff.mp hv
        have := hO.1 g g1
        rcases inc_iff.mp g2 with w | w <;> simp <;> omega
      cases hxl : lvO es x with
      | true => exact lvO_adj.mp hxl
      | false =>
        exfalso
        have h5 : cnt (lvO es) 20 + 1 ≤ cnt (fun v => decide (v < V)) 20 := cnt_strict (a := x) (by omega) (fun v _ hv => by
          obtain ⟨g, g1, g2⟩ := lvO_iff.mp hv
          have := hO.1 g g1
          rcases inc_iff.mp g2 with w | w <;> simp <;> omega) hxl (by simpa using hx)
        have h6 : cnt (fun v => decide (v < V)) 20 = V := by
          have := cnt_mem (p := fun v => decide (v < V)) (l := List.range V) List.nodup_range (fun x => by simp) (fun x hx => by have := List.mem_range.mp hx; omega)
          rw [this, List.length_range]
        omega
/-- the first rim -/
theorem rs_first (hT : TG V es rs R) {a b c : Nat} (h : fol rs a b c) : ∃ F, RS V es rs F [] [a, c, b] := by
  have hO := hT.2.1
  obtain ⟨t1, t2, t3, t4, t5⟩ := tri_fol hT h
  obtain ⟨r, r1, r2, r3⟩ := h
  have r4 : (c, a) ∈ cd r := by
    obtain ⟨r', q1, q2, q3⟩ := t1
    have := fm_inj hT.2.2.2.1 r1 q1 r3 q2
    rw [this]; exact q3
  have hlen := (hT.2.2.1 r r1).2
  have hrn := (hT.2.2.1 r r1).1
  have hcr : ∀ q, q ∈ cd r ↔ q = (a, b) ∨ q = (b, c) ∨ q = (c, a) := fun q => by
    have hsub : ∀ x ∈ [(a, b), (b, c), (c, a)], x ∈ cd r := fun x hx => by
      simp only [List.mem_cons, List.not_mem_nil, or_false] at hx
      rcases hx with e | e | e <;> rw [e] <;> assumption
    have hnd : ([(a, b), (b, c), (c, a)] : List (Nat × Nat)).Nodup := by
      simp only [List.nodup_cons, List.mem_cons, List.not_mem_nil, or_false, not_or, Prod.mk.injEq, not_false_eq_true, List.nodup_nil, and_true]
      omega
    have := nd_sub_all hnd hsub (by rw [cd_len, hlen]; simp)
    constructor
    · intro hq
      simpa using this q hq
    · intro hq
      exact hsub q (by simpa using hq)
  have had : ∀ x y, (x, y) ∈ cd r → adj es x y = true := fun x y hq => (hT.2.2.2.2.1 x y).mp (List.mem_flatMap.mpr ⟨r, r1, hq⟩)
  have hcd : ∀ q, q ∈ cd [a, c, b] ↔ q = (a, c) ∨ q = (c, b) ∨ q = (b, a) := fun q => by
    show q ∈ [(a, c), (c, b), (b, a)] ↔ _
    simp
  have ltV : ∀ x y, adj es x y = true → x < V ∧ y < V := fun x y ha => ⟨(adj_lt hO ha).1, (adj_lt hO ha).2.1⟩
  refine ⟨fun q => !(cd r).contains q, fun r' hr' p hp q hq => ?_, ?_, by simp, fun x hx => ?_, fun x hx => absurd hx List.not_mem_nil, List.nodup_nil, fun x hx => absurd hx List.not_mem_nil, fun x y ha => ?_, fun x y hq => ?_, fun x y hx => absurd hx List.not_mem_nil, fun x y hx _ hxr ha => ?_, fun x y ha _ _ => ?_⟩
  · have key : ∀ p, p ∈ cd r' → (cd r).contains p = decide (r = r') := fun p hp => by
      rw [Bool.eq_iff_iff, List.contains_eq_mem, decide_eq_true_eq, decide_eq_true_eq]
      exact ⟨fun z => fm_inj hT.2.2.2.1 r1 hr' z hp, fun e => e ▸ hp⟩
    show (!_) = (!_)
    rw [key p hp, key q hq]
  · simp only [List.nodup_cons, List.mem_cons, List.not_mem_nil, or_false, not_or, not_false_eq_true, List.nodup_nil, and_true]
    omega
  · have h1 := ltV _ _ (had a b r2)
    have h2 := ltV _ _ (had b c r3)
    simp only [List.mem_cons, List.not_mem_nil, or_false] at hx
    rcases hx with e | e | e <;> rw [e] <;> omega
  · have hc1 : ∀ q, (cd r).contains q = decide (q = (a, b) ∨ q = (b, c) ∨ q = (c, a)) := fun q => by
      rw [Bool.eq_iff_iff, List.contains_eq_mem, decide_eq_true_eq, decide_eq_true_eq]; exact hcr q
    show ((!(cd r).contains (x, y)) = true ∧ (!(cd r).contains (y, x)) = false) ↔ _
    rw [hc1, hc1, hcd]
    simp only [Bool.not_eq_true', decide_eq_false_iff_not, Bool.not_eq_false', decide_eq_true_eq, Prod.mk.injEq]
    omega
  · rcases (hcd _).mp hq with e | e | e <;> rw [Prod.mk.injEq] at e <;> rw [e.1, e.2, adj_sym]
    · exact had c a r4
    · exact had b c r3
    · exact had a b r2
  · simp only [List.mem_cons, List.not_mem_nil, or_false, not_or] at hxr
    have hno : ∀ q : Nat × Nat, (q.1 = x ∨ q.2 = x) → (cd r).contains q = false := fun q hq => by
      cases hh : (cd r).contains q with
      | false => rfl
      | true =>
        exfalso
        rw [List.contains_eq_mem, decide_eq_true_eq] at hh
        rcases (hcr q).mp hh with e | e | e <;> rw [e] at hq <;> simp only at hq <;> omega
    show (!_) = true ∧ (!_) = true
    rw [hno (x, y) (Or.inl rfl), hno (y, x) (Or.inr rfl)]
    exact ⟨rfl, rfl⟩
  · show (!_) = true ∨ (!_) = true
    cases h1 : (cd r).contains (x, y) with
    | false => left; rfl
    | true =>
      right
      cases h2 : (cd r).contains (y, x) with
      | false => rfl
      | true =>
        exfalso
        rw [List.contains_eq_mem, decide_eq_true_eq] at h1 h2
        have q1 := (hcr _).mp h1
        have q2 := (hcr _).mp h2
        simp only [Prod.mk.injEq] at q1 q2
        omega
end DRP
