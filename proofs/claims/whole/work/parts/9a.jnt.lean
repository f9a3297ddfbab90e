/-! ===== both desks side by side ===== -/
def rkT (W : fl_W) (V : Nat) : Option tuR → Prop
  | none => W 229 9 = 0
  | some R => W 229 9 = 1 ∧ RT W V R
def rkK (W : fl_W) (V : Nat) (es : gE) : Bool → Prop
  | false => W 229 11 = 0
  | true => KnR W es.length (knL V es)
def rkD (W : fl_W) (V : Nat) (es : gE) : Option tuR → Prop
  | none => W 229 15 = 0
  | some R => W 229 15 = 1 ∧ (∀ i x, (ordL V es R)[i]? = some x → W 239 x = nI i) ∧ ∀ u, u < V → W 237 u = (plF (dB es) (dD V es R)).1 u ∧ W 238 u = (plF (dB es) (dD V es R)).2.1 u
def rkC (W : fl_W) (V : Nat) (es : gE) : Bool → Prop
  | false => W 229 17 = 0
  | true => W 229 17 = 1 ∧ ∀ u, u < V → W 240 u = optI ((clR es V).1 u)
def RK (W : fl_W) (V : Nat) (es : gE) (T : Option tuR) (K : Bool) (D : Option tuR) (C : Bool) : Prop := RfG W V es ∧ rkT W V T ∧ rkK W V es K ∧ rkD W V es D ∧ rkC W V es C
def PK (V : Nat) (es : gE) (T : Option tuR) (K : Bool) (D : Option tuR) : Prop := (T.isSome = true → PL V es) ∧ (K = true → layG V es = none) ∧ ∀ R, D = some R → 3 ≤ V ∧ DRK V es R
section JNT
variable {W W' : fl_W} {V : Nat} {es : gE} {T D : Option tuR} {K C : Bool} {R : tuR} {fs l : List Nat}
theorem rkT.eq (h : rkT W V T) (h9 : W' 229 9 = W 229 9) (h1 : W' 234 = W 234) (h2 : W' 235 = W 235) : rkT W' V T := by
  cases T with
  | none => exact h9.trans h
  | some R => exact ⟨h9.trans h.1, fun u hu => by rw [h1, h2]; exact h.2 u hu⟩
theorem rkK.eq (h : rkK W V es K) (h9 : W' 229 11 = W 229 11) (h1 : W' 236 = W 236) : rkK W' V es K := by
  cases K with
  | false => exact h9.trans h
  | true => exact ⟨h9.trans h.1, h.2.1, fun j x hj => by rw [h1]; exact h.2.2 j x hj⟩
theorem rkD.eq (h : rkD W V es D) (h9 : W' 229 15 = W 229 15) (h1 : W' 237 = W 237) (h2 : W' 238 = W 238) (h3 : W' 239 = W 239) : rkD W' V es D := by
  cases D with
  | none => exact h9.trans h
  | some R => exact ⟨h9.trans h.1, fun i x hi => by rw [h3]; exact h.2.1 i x hi, fun u hu => by rw [h1, h2]; exact h.2.2 u hu⟩
theorem rkC.eq (h : rkC W V es C) (h9 : W' 229 17 = W 229 17) (h1 : W' 240 = W 240) : rkC W' V es C := by
  cases C with
  | false => exact h9.trans h
  | true => exact ⟨h9.trans h.1, fun u hu => by rw [h1]; exact h.2 u hu⟩
theorem rkT.fr (h : rkT W V T) (hE : EqF fs l W W') (h9 : 9 ∉ fs) (h1 : 234 ∉ l) (h2 : 235 ∉ l) : rkT W' V T := h.eq (hE.2 9 h9) (hE.1 234 (by decide) h1) (hE.1 235 (by decide) h2)
theorem rkK.fr (h : rkK W V es K) (hE : EqF fs l W W') (h9 : 11 ∉ fs) (h1 : 236 ∉ l) : rkK W' V es K := h.eq (hE.2 11 h9) (hE.1 236 (by decide) h1)
theorem rkD.fr (h : rkD W V es D) (hE : EqF fs l W W') (h9 : 15 ∉ fs) (h1 : 237 ∉ l) (h2 : 238 ∉ l) (h3 : 239 ∉ l) : rkD W' V es D := h.eq (hE.2 15 h9) (hE.1 237 (by decide) h1) (hE.1 238 (by decide) h2) (hE.1 239 (by decide) h3)
theorem rkC.fr (h : rkC W V es C) (hE : EqF fs l W W') (h9 : 17 ∉ fs) (h1 : 240 ∉ l) : rkC W' V es C := h.eq (hE.2 17 h9) (hE.1 240 (by decide) h1)
def frOK (fs l : List Nat) : Bool := !fs.contains 9 && !fs.contains 11 && !fs.contains 15 && !fs.contains 17 && !l.contains 234 && !l.contains 235 && !l.contains 236 && !l.contains 237 && !l.contains 238 && !l.contains 239 && !l.contains 240
theorem RK.fr (h : RK W V es T K D C) (hG : RfG W' V es) (hE : EqF fs l W W') (hf : frOK fs l = true) : RK W' V es T K D C := by
  simp only [frOK, Bool.and_eq_true, Bool.not_eq_true', List.contains_eq_mem, decide_eq_false_iff_not] at hf
  obtain ⟨⟨⟨⟨⟨⟨⟨⟨⟨⟨a1, a2⟩, a3⟩, a4⟩, a5⟩, a6⟩, a7⟩, a8⟩, a9⟩, a10⟩, a11⟩ := hf
  exact ⟨hG, h.2.1.fr hE a1 a5 a6, h.2.2.1.fr hE a2 a7, h.2.2.2.1.fr hE a3 a8 a9 a10, h.2.2.2.2.fr hE a4 a11⟩
theorem RK.fr2 (h : RK W V es T K D C) (hE : EqF fs l W W') (hf : frOK fs l = true) (h0 : 0 ∉ fs) (h1 : 1 ∉ fs) (h2 : 230 ∉ l) (h3 : 231 ∉ l) : RK W' V es T K D C := h.fr (h.1.fr hE h0 h1 h2 h3) hE hf
theorem RK.hi (h : RK W V es T K D C) (hE : Hi W W') : RK W' V es T K D C := by
  have z : ∀ k, W' 229 k = W 229 k := fun k => by rw [hE 229 (by decide)]
  have hF : EqF [] [] W W → True := fun _ => trivial
  obtain ⟨g1, g2, g3, g4, g5, g6⟩ := h.1
  exact ⟨⟨g1, g2, g3, (z 0).trans g4, (z 1).trans g5, fun i p hp => by rw [hE 230 (by decide), hE 231 (by decide)]; exact g6 i p hp⟩, h.2.1.eq (z 9) (hE _ (by decide)) (hE _ (by decide)), h.2.2.1.eq (z 11) (hE _ (by decide)), h.2.2.2.1.eq (z 15) (hE _ (by decide)) (hE _ (by decide)) (hE _ (by decide)), h.2.2.2.2.eq (z 17) (hE _ (by decide))⟩
theorem EqF.lo (h : EqF fs l W W') (hl : ∀ b ∈ l, 229 ≤ b) : ∀ a, a < 229 → W' a = W a := fun a ha => h.1 a (by omega) fun z => by have := hl a z; omega
theorem rk_new (hG : RfG W V es) (h9 : W 229 9 = 0) (h11 : W 229 11 = 0) (h15 : W 229 15 = 0) (h17 : W 229 17 = 0) : RK W V es none false none false := ⟨hG, h9, h11, h15, h17⟩
theorem pk_new : PK V es none false none := ⟨fun h => by (cases h), fun h => by (cases h), fun R h => by (cases h)⟩
def JJ (W : fl_W) : Prop := ∃ V es T K D C, CK W V es T K D C ∧ RK W V es T K D C ∧ PK V es T K D
def jn_S (kc kr : Nat) (av : List Value) : Prop := ∀ g W, JJ W → mi_cal 9 kc (.ref 0 :: av) (fl_mk g W) fun r M => ∃ x g' W', r = some (.int x) ∧ M = fl_mk g' W' ∧ mi_cal 9 kr (.ref 229 :: av) (fl_mk g' W') fun r2 M2 => r2 = some (.int x) ∧ ∃ W2, M2 = fl_mk g' W2 ∧ JJ W2
theorem stp_of {kc kr : Nat} {av : List Value} (h : ∀ W, JJ W → fl_cal 9 kc (.ref 0 :: av) W (fl_q1 fun x W1 => fl_cal 9 kr (.ref 229 :: av) W1 (fl_q1 fun y W2 => y = x ∧ JJ W2))) : jn_S kc kr av := fun g W hJ =>
  mi_v1 (fl_c1 (h W hJ) fun x W1 h1 => ⟨x, g, W1, rfl, rfl, mi_v1 (fl_c1 h1 fun y W2 h2 => ⟨by rw [h2.1], W2, rfl, h2.2⟩)⟩)
/-! the calls -/
theorem st_graph (n : Int32) : jn_S 97 127 [.int n] := stp_of fun W hJ => by
  cases hn : ixB n 21 with
  | false => exact pd_graphNo hn (rf_graphNo hn ⟨rfl, hJ⟩)
  | true =>
    obtain ⟨k, hk, rfl⟩ := ixB_ex (by decide) hn
    refine pd_graph (by omega) fun W1 c1 h1 => rf_graph (by omega) fun W2 g2 a1 a2 a3 a4 f2 => ⟨rfl, k, [], none, false, none, false, c1.lo (f2.lo (by decide)), rk_new g2 a1 a2 a3 a4, pk_new⟩
theorem st_join (u v : Int32) : jn_S 98 130 [.int u, .int v] := stp_of fun W hJ => by
  obtain ⟨V, es, T, K, D, C, hC, hR, hP⟩ := id hJ
  have hV := hC.1.1.1
  cases ht : tkB V es u v with
  | false => exact pd_joinNo hC ht (rf_joinNo hR.1 ht ⟨rfl, hJ⟩)
  | true =>
    have hx : ixB u V = true ∧ ixB v V = true := by
      have := ht
      unfold tkB at this
      simp only [Bool.and_eq_true] at this
      exact ⟨this.1.1.1.1, this.1.1.1.2⟩
    obtain ⟨a, ha, rfl⟩ := ixB_ex (by omega) hx.1
    obtain ⟨c, hc, rfl⟩ := ixB_ex (by omega) hx.2
    rw [tkB_N (by omega) (by omega)] at ht
    simp only [Bool.and_eq_true, decide_eq_true_eq, Bool.not_eq_true'] at ht
    obtain ⟨⟨⟨-, hne⟩, hna⟩, hl⟩ := ht
    exact pd_join hC ha hc hne hna hl fun W1 c1 h1 => rf_join (hR.hi h1).1 ha hc hne hna hl fun W2 g2 a1 a2 a3 a4 f2 => ⟨rfl, V, _, none, false, none, false, c1.lo (f2.lo (by decide)), rk_new g2 a1 a2 a3 a4, pk_new⟩
theorem st_cut (e : Int32) : jn_S 99 131 [.int e] := stp_of fun W hJ => by
  obtain ⟨V, es, T, K, D, C, hC, hR, hP⟩ := id hJ
  have hE := hC.1.1.2.1
  cases he : ixB e es.length with
  | false => exact pd_cutNo hC he (rf_cutNo hR.1 he ⟨rfl, hJ⟩)
  | true =>
    obtain ⟨a, ha, rfl⟩ := ixB_ex (by omega) he
    exact pd_cut hC ha fun W1 c1 h1 => rf_cut (hR.hi h1).1 ha fun W2 g2 a1 a2 a3 a4 f2 => ⟨rfl, V, _, none, false, none, false, c1.lo (f2.lo (by decide)), rk_new g2 a1 a2 a3 a4, pk_new⟩
theorem st_edge (e w : Int32) : jn_S 100 157 [.int e, .int w] := stp_of fun W hJ => by
  obtain ⟨V, es, T, K, D, C, hC, hR, hP⟩ := hJ
  exact pd_edge hC fun W1 c1 h1 => rf_edge (hR.hi h1).1 fun W2 f2 => ⟨rfl, V, es, T, K, D, C, c1.lo (f2.lo (by decide)), (hR.hi h1).fr2 f2 (by decide) (by decide) (by decide) (by decide) (by decide), hP⟩
theorem st_about (w : Int32) : jn_S 101 159 [.int w] := stp_of fun W hJ => by
  obtain ⟨V, es, T, K, D, C, hC, hR, hP⟩ := hJ
  exact pd_about hC fun W1 c1 h1 => rf_about (hR.hi h1).1 fun W2 f2 => ⟨rfl, V, es, T, K, D, C, c1.lo (f2.lo (by decide)), (hR.hi h1).fr2 f2 (by decide) (by decide) (by decide) (by decide) (by decide), hP⟩
theorem st_turn (v i : Int32) : jn_S 103 162 [.int v, .int i] := stp_of fun W hJ => by
  obtain ⟨V, es, T, K, D, C, hC, hR, hP⟩ := id hJ
  cases T with
  | none => exact pd_turnNo hC (rf_turnNo hR.2.1 ⟨rfl, hJ⟩)
  | some R => exact pd_turn hC (rf_turn (by rw [hR.2.1.1]; decide) hR.1 hR.2.1.2 ⟨rfl, hJ⟩)
theorem st_swap (v i k : Int32) : jn_S 104 163 [.int v, .int i, .int k] := stp_of fun W hJ => by
  obtain ⟨V, es, T, K, D, C, hC, hR, hP⟩ := id hJ
  have hV := hC.1.1.1
  cases T with
  | none => exact pd_swapNo hC (fun R h => by (cases h)) (rf_swapNo (R := fun _ => []) hR.1 (fun z => absurd hR.2.1 z) (Or.inl hR.2.1) ⟨rfl, hJ⟩)
  | some R =>
    have no : (ixB v V = false ∨ ixB i (R v.toNatClampNeg).length = false ∨ ixB k (R v.toNatClampNeg).length = false) → fl_cal 9 104 [.ref 0, .int v, .int i, .int k] W (fl_q1 fun x W1 => fl_cal 9 163 [.ref 229, .int v, .int i, .int k] W1 (fl_q1 fun y W2 => y = x ∧ JJ W2)) := fun z => pd_swapNo hC (fun R' h => by cases h; exact z) (rf_swapNo (R := R) hR.1 (fun _ => hR.2.1.2) (Or.inr z) ⟨rfl, hJ⟩)
    cases h1 : ixB v V with
    | false => exact no (Or.inl h1)
    | true =>
      cases h2 : ixB i (R v.toNatClampNeg).length with
      | false => exact no (Or.inr (Or.inl h2))
      | true =>
        cases h3 : ixB k (R v.toNatClampNeg).length with
        | false => exact no (Or.inr (Or.inr h3))
        | true =>
          obtain ⟨u, hu, rfl⟩ := ixB_ex (by omega) h1
          rw [nI_clamp (by omega)] at h2 h3
          have hlen := (hR.2.1.2 u hu).2.1
          obtain ⟨a, ha, rfl⟩ := ixB_ex (by omega) h2
          obtain ⟨c, hc, rfl⟩ := ixB_ex (by omega) h3
          have ea := List.getElem?_eq_getElem ha
          have ec := List.getElem?_eq_getElem hc
          refine pd_swap hC hu ea ec fun W1 c1 g1 => ?_
          have hR1 := hR.hi g1
          refine rf_swap (by rw [hR1.2.1.1]; decide) hR1.1 hR1.2.1.2 hu ea ec fun W2 t2 f2 => ⟨rfl, V, es, _, K, D, C, c1.lo (f2.lo (by decide)), ⟨hR1.1.fr f2 (by simp) (by simp) (by decide) (by decide), ⟨(f2.2 9 (by simp)).trans hR1.2.1.1, t2⟩, hR1.2.2.1.fr f2 (by simp) (by decide), hR1.2.2.2.1.fr f2 (by simp) (by decide) (by decide) (by decide), hR1.2.2.2.2.fr f2 (by simp) (by decide)⟩, ⟨fun _ => hP.1 rfl, hP.2.1, hP.2.2⟩⟩
theorem st_faces : jn_S 105 168 [] := stp_of fun W hJ => by
  obtain ⟨V, es, T, K, D, C, hC, hR, hP⟩ := id hJ
  cases T with
  | none => exact pd_facesNo hC (rf_facesNo hR.2.1 ⟨rfl, hJ⟩)
  | some R => exact pd_faces hC (rf_faces (by rw [hR.2.1.1]; decide) hC.1.2.1.2.1 hR.1 hR.2.1.2 fun W2 f2 => ⟨rfl, V, es, some R, K, D, C, hC.lo (f2.lo (by decide)), hR.fr2 f2 (by decide) (by decide) (by decide) (by decide) (by decide), hP⟩)
theorem st_face (f i : Int32) : jn_S 106 169 [.int f, .int i] := stp_of fun W hJ => by
  obtain ⟨V, es, T, K, D, C, hC, hR, hP⟩ := id hJ
  cases T with
  | none => exact pd_faceNo hC (rf_faceNo hR.2.1 ⟨rfl, hJ⟩)
  | some R => exact pd_face hC (rf_face (by rw [hR.2.1.1]; decide) hC.1.2.1.2.1 hR.1 hR.2.1.2 fun W2 f2 => ⟨rfl, V, es, some R, K, D, C, hC.lo (f2.lo (by decide)), hR.fr2 f2 (by decide) (by decide) (by decide) (by decide) (by decide), hP⟩)
theorem st_genus : jn_S 107 170 [] := stp_of fun W hJ => by
  obtain ⟨V, es, T, K, D, C, hC, hR, hP⟩ := id hJ
  cases T with
  | none => exact pd_genusNo hC (rf_genusNo hR.2.1 ⟨rfl, hJ⟩)
  | some R =>
    refine pd_genus hC fun W1 c1 h1 => ?_
    have hR1 := hR.hi h1
    exact rf_genus (by rw [hR1.2.1.1]; decide) c1.1.2.1.2.1 hR1.1 hR1.2.1.2 fun W2 f2 => ⟨rfl, V, es, some R, K, D, C, c1.lo (f2.lo (by decide)), hR1.fr2 f2 (by decide) (by decide) (by decide) (by decide) (by decide), hP⟩
theorem st_may (u v : Int32) : jn_S 109 175 [.int u, .int v] := stp_of fun W hJ => by
  obtain ⟨V, es, T, K, D, C, hC, hR, hP⟩ := hJ
  exact pd_may hC fun W1 c1 h1 => rf_may (hR.hi h1).1 fun W2 g2 f2 => ⟨rfl, V, es, T, K, D, C, c1.lo (f2.lo (by decide)), (hR.hi h1).fr g2 f2 (by decide), hP⟩
theorem st_fill : jn_S 110 176 [] := stp_of fun W hJ => by
  obtain ⟨V, es, T, K, D, C, hC, hR, hP⟩ := hJ
  refine pd_fill hC (fun W1 n1 c1 h1 => rf_fill (hR.hi h1).1 (fun W2 _ f2 => ⟨rfl, V, es, T, K, D, C, c1.lo (f2.lo (by decide)), (hR.hi h1).fr2 f2 (by decide) (by decide) (by decide) (by decide) (by decide), hP⟩) fun W2 p2 => ?_) fun W1 p1 p2 c1 c2 h1 => rf_fill (hR.hi h1).1 (fun W2 n2 _ => ?_) fun W2 _ g2 _ r1 r2 f2 => ⟨rfl, ?_⟩
  · obtain ⟨⟨R, hR⟩, -⟩ := p2
    rw [hR] at n1; cases n1
  · obtain ⟨⟨R, hR⟩, -⟩ := p1
    rw [hR] at n2; cases n2
  · have hge := flU_len (V := V) V 0 es
    by_cases q : (flU V V 0 es).length = es.length
    · rw [flU_same q] at g2
      exact ⟨V, es, T, K, D, C, (c2 q).lo (f2.lo (by decide)), (hR.hi h1).fr g2 (r2 q) (by decide), hP⟩
    · obtain ⟨b1, b2, b3, b4⟩ := r1 (by omega)
      exact ⟨V, flU V V 0 es, none, false, none, false, (c1 (by omega)).lo (f2.lo (by decide)), rk_new g2 b1 b2 b3 b4, pk_new⟩
theorem st_draw : jn_S 111 186 [] := stp_of fun W hJ => by
  obtain ⟨V, es, T, K, D, C, hC, hR, hP⟩ := hJ
  refine pd_draw hC (fun W1 n1 c1 h1 => rf_draw (hR.hi h1).1 (fun W2 _ f2 => ⟨rfl, V, es, T, K, D, C, c1.lo (f2.lo (by decide)), (hR.hi h1).fr2 f2 (by decide) (by decide) (by decide) (by decide) (by decide), hP⟩) fun W2 R a1 a2 a3 => ?_) fun W1 R a1 a2 a3 ap c1 h1 => rf_draw (hR.hi h1).1 (fun W2 n2 _ => ?_) fun W2 R2 b1 b2 b3 b4 b5 b6 b7 b8 b9 b10 b11 f2 => ⟨rfl, V, es, some R, K, some R, C, c1.lo (f2.lo (by decide)), ?_⟩
  · rcases n1 with z | z
    · exact absurd ⟨a1, a2⟩ z
    · rw [a3] at z; cases z
  · rcases n2 with z | z
    · exact absurd ⟨a1, a2⟩ z
    · rw [a3] at z; cases z
  · rw [a3] at b3
    cases b3
    have hR1 := hR.hi h1
    refine ⟨⟨hR1.1.fr f2 (by decide) (by decide) (by decide) (by decide), ⟨b6, b7⟩, ?_, ⟨b9, b10, b11⟩, hR1.2.2.2.2.fr f2 (by decide) (by decide)⟩, fun _ => ap, hP.2.1, fun R' e => by cases e; exact ⟨a1, b5⟩⟩
    cases K with
    | false => exact b8.trans hR1.2.2.1
    | true => have := hP.2.1 rfl; rw [a3] at this; cases this
theorem st_colour : jn_S 113 189 [] := stp_of fun W hJ => by
  obtain ⟨V, es, T, K, D, C, hC, hR, hP⟩ := hJ
  refine pd_colour hC fun W1 c1 h1 => rf_colour (hR.hi h1).1 fun W2 a1 a2 f2 => ⟨rfl, V, es, T, K, D, true, c1.lo (f2.lo (by decide)), ?_, hP⟩
  have hR1 := hR.hi h1
  exact ⟨hR1.1.fr f2 (by decide) (by decide) (by decide) (by decide), hR1.2.1.fr f2 (by decide) (by decide) (by decide), hR1.2.2.1.fr f2 (by decide) (by decide), hR1.2.2.2.1.fr f2 (by decide) (by decide) (by decide) (by decide), ⟨a2, a1⟩⟩
theorem st_colourOf (v : Int32) : jn_S 114 190 [.int v] := stp_of fun W hJ => by
  obtain ⟨V, es, T, K, D, C, hC, hR, hP⟩ := id hJ
  have hV := hC.1.1.1
  refine pd_colourOf hC (rf_colourOf hR.1 (fun z => ?_) fun z => ?_)
  · cases C with
    | false => exact ⟨rfl, hJ⟩
    | true => exact absurd (hR.2.2.2.2.1.symm.trans z) (by decide)
  · cases C with
    | false => exact absurd hR.2.2.2.2 z
    | true =>
      refine ⟨?_, hJ⟩
      cases hx : ixB v V with
      | false => rfl
      | true =>
        obtain ⟨u, hu, rfl⟩ := ixB_ex (by omega) hx
        simp only [if_true]
        rw [nI_clamp (by omega)]
        exact hR.2.2.2.2.2 u hu
theorem st_at (v w : Int32) : jn_S 112 187 [.int v, .int w] := stp_of fun W hJ => by
  obtain ⟨V, es, T, K, D, C, hC, hR, hP⟩ := id hJ
  have hV := hC.1.1.1
  cases D with
  | none => exact pd_atNo hC (rf_at hR.1 (fun _ => ⟨rfl, hJ⟩) fun z => absurd hR.2.2.2.1 z)
  | some R =>
    obtain ⟨h3, hK⟩ := hP.2.2 R rfl
    refine pd_at hC h3 hK (rf_at hR.1 (fun z => absurd (hR.2.2.2.1.1.symm.trans z) (by decide)) fun _ => ⟨?_, hJ⟩)
    obtain ⟨-, r2, r3⟩ := hR.2.2.2.1
    obtain ⟨o1, o2, o3, o4⟩ := hK.all h3
    unfold atI
    cases hx : ixB v V with
    | false => rfl
    | true =>
      obtain ⟨u, hu, rfl⟩ := ixB_ex (by omega) hx
      simp only [if_true]
      rw [nI_clamp (by omega), (r3 u hu).1, (r3 u hu).2, r2 _ u (idx_at (o4 u hu))]
theorem layG_nil : (layG V []).isSome = true := rfl
theorem kn_ne (h : layG V es = none) : knL V es ≠ [] := fun z => by
  have hf : ∀ e, e < es.length → knS V es es.length e = false := fun e he => by
    cases hk : knS V es es.length e with
    | false => rfl
    | true =>
      have : e ∈ knL V es := List.mem_filter.mpr ⟨List.mem_range.mpr he, hk⟩
      rw [z] at this; exact absurd this List.not_mem_nil
  cases hm : es.length with
  | zero =>
    rw [List.length_eq_zero_iff.mp hm] at h
    have := layG_nil (V := V)
    rw [h] at this; cases this
  | succ m =>
    rw [hm] at hf
    have hk : ∀ j, knS V es (m + 1) j = if j = m then (layG V (prs (fun i => if i = m then false else knS V es m i) 0 es)).isSome else knS V es m j := fun j => rfl
    have hp : prs (fun i => if i = m then false else knS V es m i) 0 es = [] := List.eq_nil_iff_forall_not_mem.mpr fun g hg => by
      obtain ⟨j, h1, h2⟩ := mem_prs.mp hg
      have hj := (List.getElem?_eq_some_iff.mp h1).1
      rw [Nat.zero_add] at h2
      by_cases q : j = m
      · simp [q] at h2
      · simp only [if_neg q] at h2
        have := hf j (by omega)
        rw [hk, if_neg q, h2] at this
        cases this
    have := hf m (by omega)
    rw [hk, if_pos rfl, hp, layG_nil] at this
    cases this
theorem st_knot (w : Int32) : jn_S 108 173 [.int w] := stp_of fun W hJ => by
  obtain ⟨V, es, T, K, D, C, hC, hR, hP⟩ := id hJ
  cases K with
  | false => exact pd_knotNo hC (rf_knotNo hR.2.2.1 ⟨rfl, hJ⟩)
  | true => exact pd_knot hC (rf_knot (P := knS V es es.length) hR.1 hR.2.2.1 (kn_ne (hP.2.1 rfl)) ⟨rfl, hJ⟩)
theorem knr_of {W : fl_W} (hE : es.length ≤ 60) (h11 : W 229 11 = nI (knL V es).length) (h : ∀ j x, (knL V es)[j]? = some x → W 236 j = nI x) : KnR W es.length (knL V es) := by
  have hl := List.length_filter_le (fun e => knS V es es.length e) (List.range es.length)
  rw [List.length_range] at hl
  refine ⟨h11, Nat.le_trans hl hE, fun j x hj => ⟨h j x hj, ?_⟩⟩
  exact List.mem_range.mp (List.mem_filter.mp (List.mem_of_getElem? hj)).1
theorem st_lay : jn_S 102 160 [] := fun g W hJ => by
  obtain ⟨V, es, T, K, D, C, hC, hR, hP⟩ := hJ
  have hE := hC.1.1.2.1
  refine pd_lay hC (fun W1 R a1 ap c1 h1 => ⟨_, g, W1, rfl, rfl, mi_v1 (rf_lay (hR.hi h1).1 (fun W2 R2 b1 b2 b3 b4 b5 b6 f2 => ?_) fun W2 b1 => ?_)⟩) fun W1 g' a1 c1 h1 => ⟨_, g', W1, rfl, rfl, mi_v1 (rf_lay (hR.hi h1).1 (fun W2 R2 b1 => ?_) fun W2 b1 b2 b3 b4 f2 => ?_)⟩
  · rw [a1] at b1
    cases b1
    have hR1 := hR.hi h1
    refine ⟨rfl, W2, rfl, V, es, some R, K, D, C, c1.lo (f2.lo (by decide)), ⟨hR1.1.fr f2 (by decide) (by decide) (by decide) (by decide), ⟨b4, b5⟩, ?_, hR1.2.2.2.1.fr f2 (by decide) (by decide) (by decide) (by decide), hR1.2.2.2.2.fr f2 (by decide) (by decide)⟩, fun _ => ap, hP.2.1, hP.2.2⟩
    cases K with
    | false => exact b6.trans hR1.2.2.1
    | true => have := hP.2.1 rfl; rw [a1] at this; cases this
  · rw [a1] at b1; cases b1
  · rw [a1] at b1; cases b1
  · have hR1 := hR.hi h1
    have hTn : T = none := by
      cases T with
      | none => rfl
      | some R =>
        obtain ⟨⟨R', e⟩, -⟩ := hP.1 rfl
        rw [a1] at e; cases e
    subst hTn
    exact ⟨rfl, W2, rfl, V, es, none, true, D, C, c1.lo (f2.lo (by decide)), ⟨hR1.1.fr f2 (by decide) (by decide) (by decide) (by decide), b2, knr_of hE b3 b4, hR1.2.2.2.1.fr f2 (by decide) (by decide) (by decide) (by decide), hR1.2.2.2.2.fr f2 (by decide) (by decide)⟩, fun z => by (cases z), fun _ => a1, hP.2.2⟩
end JNT
