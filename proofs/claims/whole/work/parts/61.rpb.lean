/-! ===== Reference: the parts ===== -/
theorem repS_len {bes dl : gE} : ∀ {l : gE} {sn : Nat → Bool}, (repS bes dl l sn).length ≤ l.length
  | [], _ => Nat.le_refl _
  | f :: l, sn => by
    rw [repS]
    split
    · exact Nat.le_trans repS_len (Nat.le_succ _)
    · rw [List.length_cons, List.length_cons]
      exact Nat.succ_le_succ repS_len
theorem repS_sn {bes dl : gE} : ∀ {l : gE} {sn : Nat → Bool} {g : Nat × Nat}, g ∈ repS bes dl l sn → ∀ v, v < 20 → inc g v = true → lvO dl v = false → sn v = false
  | [], _, _, h => absurd h List.not_mem_nil
  | f :: l, sn, g, h => by
    intro v hv h1 h2
    rw [repS] at h
    by_cases q : f ∈ dl ∨ (anyN fun v => inc f v && !lvO dl v && sn v) = true
    · rw [if_pos q] at h
      exact repS_sn h v hv h1 h2
    · rw [if_neg q] at h
      rcases List.mem_cons.mp h with e | e
      · rw [e] at h1
        cases hs : sn v with
        | false => rfl
        | true => exact absurd (Or.inr (anyN_iff.mpr ⟨v, hv, by rw [h1, h2, hs]; rfl⟩)) q
      · have := repS_sn e v hv h1 h2
        rw [Bool.or_eq_false_iff] at this
        exact this.1
theorem repS_pw {bes dl : gE} : ∀ {l : gE} {sn : Nat → Bool}, (repS bes dl l sn).Pairwise fun g g' => ∀ v, v < 20 → inc g' v = true → lvO dl v = false → innr bes dl g v = false
  | [], _ => List.Pairwise.nil
  | f :: l, sn => by
    rw [repS]
    split
    · exact repS_pw
    · refine List.Pairwise.cons (fun g' hg' v hv h1 h2 => ?_) repS_pw
      have := repS_sn hg' v hv h1 h2
      rw [Bool.or_eq_false_iff] at this
      exact this.2
/-- parts have nothing in common -/
theorem prt_dis {V : Nat} {bes dl : gE} {g g' f : Nat × Nat} (hV : V ≤ 20) (hO : okE V bes) (hg : g ∈ bes) (hg' : g' ∈ bes) (hne : g ≠ g') (hd : ∀ v, v < 20 → inc g' v = true → lvO dl v = false → innr bes dl g v = false) (hf : f ∈ bes) (h : prtE bes dl g f = true) (h' : prtE bes dl g' f = true) : False := by
  have hgb := hO.1 g hg
  have hgb' := hO.1 g' hg'
  have hfb := hO.1 f hf
  -- an inner vertex of both
  have key : ∀ u, u < 20 → innr bes dl g u = true → innr bes dl g' u = true → False := fun u hu h1 h2 => by
    have hsub := innr_conn (dl := dl) hV hO hg' (S := innr bes dl g) (fun x y hx hy s1 s2 s3 s4 => innr_cld x y hx hy s1 s4 (innr_un hy s3)) hu h2 h1
    -- an end of g' that isn't laid
    have hend : ∃ v, v < 20 ∧ inc g' v = true ∧ lvO dl v = false := by
      refine Classical.byContradiction fun hn => ?_
      have : innr bes dl g' u = false := clo_emp (anyN_no.mpr fun v hv => by
        cases h3 : inc g' v with
        | false => rfl
        | true =>
          cases h4 : lvO dl v with
          | true => rfl
          | false => exact absurd ⟨v, hv, h3, h4⟩ hn) 20 u hu
      rw [this] at h2; cases h2
    obtain ⟨v, v1, v2, v3⟩ := hend
    have h5 := hsub v v1 (innr_end v2 v3)
    rw [hd v v1 v2 v3] at h5
    cases h5
  -- an end of f in the one part and in the other
  have ends : ∀ g, g ∈ bes → prtE bes dl g f = true → f = g ∨ ∃ u, u < 20 ∧ inc f u = true ∧ innr bes dl g u = true := fun g hg h => by
    unfold prtE at h
    rw [Bool.or_eq_true, Bool.or_eq_true, decide_eq_true_eq] at h
    rcases h with (h | h) | h
    · exact Or.inl h
    · exact Or.inr ⟨f.1, by omega, inc_iff.mpr (Or.inl rfl), h⟩
    · exact Or.inr ⟨f.2, by omega, inc_iff.mpr (Or.inr rfl), h⟩
  have clos : ∀ g u w, innr bes dl g u = true → inc f u = true → inc f w = true → u < 20 → w < 20 → lvO dl w = false → innr bes dl g w = true := fun g u w h1 h2 h3 h4 h5 h6 => by
    by_cases e : u = w
    · rw [← e]; exact h1
    · refine innr_cld u w h4 h5 h1 (adj_iff.mpr ?_) h6
      rcases inc_iff.mp h2 with q | q <;> rcases inc_iff.mp h3 with w | w
      · exact absurd (q.trans w.symm) e
      · exact Or.inl (by rw [q, w]; exact hf)
      · exact Or.inr (by rw [q, w]; exact hf)
      · exact absurd (q.trans w.symm) e
  rcases ends g hg h with e | ⟨u, u1, u2, u3⟩
  · rcases ends g' hg' h' with e' | ⟨w, w1, w2, w3⟩
    · exact hne (e.symm.trans e')
    · refine key w w1 (innr_end ?_ (innr_un w1 w3)) w3
      rw [← e]; exact w2
  · rcases ends g' hg' h' with e' | ⟨w, w1, w2, w3⟩
    · refine key u u1 u3 (innr_end ?_ (innr_un u1 u3))
      rw [← e']; exact u2
    · exact key w w1 (clos g u w u3 u2 w2 u1 w1 (innr_un w1 w3)) w3
/-- the laid edges and vertices -/
def RLd (W : fl_W) (es dl : gE) : Prop := BS (W 229 28) (lvO dl) ∧ ∀ j g, es[j]? = some g → W 248 j = if g ∈ dl then 1 else 0
theorem RLd.fr {W W' : fl_W} {es dl : gE} {fs l : List Nat} (h : RLd W es dl) (hE : EqF fs l W W') (h0 : 28 ∉ fs) (h2 : 248 ∉ l) : RLd W' es dl := by
  refine ⟨by rw [hE.2 28 h0]; exact h.1, fun j g hj => ?_⟩
  rw [hE.1 248 (by decide) h2]
  exact h.2 j g hj
/-- the parts -/
def RPt (W : fl_W) (es bes dl ps : gE) : Prop := W 229 32 = nI ps.length ∧ (∀ k g, ps[k]? = some g → BS (W 250 k) (feet bes dl g)) ∧
  ∀ j f, es[j]? = some f → (W 249 j = -1 ∧ ∀ g, g ∈ ps → f ∈ bes → prtE bes dl g f = false) ∨ ∃ k g, ps[k]? = some g ∧ W 249 j = nI k ∧ f ∈ bes ∧ prtE bes dl g f = true
section RPB
variable {d : Nat} {Q : fl_R} {W : fl_W} {V : Nat} {es bes dl : gE}
theorem ends_BS {W : fl_W} {j : Nat} {f : Nat × Nat} (hG : RfG W V es) (hj : es[j]? = some f) : BS (((Int32.ofInt 1) <<< ((W 230 j) &&& 31)) ||| ((Int32.ofInt 1) <<< ((W 231 j) &&& 31))) (fun v => inc f v) := by
  have hV := hG.1
  have hf := hG.2.2.1.1 f (List.mem_of_getElem? hj)
  obtain ⟨h1, h2⟩ := hG.2.2.2.2.2 j f hj
  rw [h1, h2]
  exact ((BS.one (show f.1 < 20 by omega)).or (BS.one (show f.2 < 20 by omega))).congr fun v _ => rfl
/-- marking the edges of a part -/
theorem rf_mp_d {e K : Nat} {f0 : Nat × Nat} {x : Int32} {W0 : fl_W} (hK : K < 61) (he : es[e]? = some f0) (hf0 : f0 ∈ bes) (hsub : ∀ f, f ∈ bes → f ∈ es) (hx : BS x (innr bes dl f0)) : ∀ (n m : Nat) (W : fl_W), es.length - m = n → m ≤ es.length → RfG W V es → HR W es bes → RLd W es dl → W 229 32 = nI K →
    (∀ j f, es[j]? = some f → W 249 j = if j < m ∧ f ∈ bes ∧ prtE bes dl f0 f = true then nI K else W0 249 j) → BS (W 250 K) (fun v => lvO dl v && (es.take m).any (fun f => decide (f ∈ bes) && prtE bes dl f0 f && inc f v)) → (∀ k, k ≠ K → W 250 k = W0 250 k) →
    (∀ W', (∀ j f, es[j]? = some f → W' 249 j = if f ∈ bes ∧ prtE bes dl f0 f = true then nI K else W0 249 j) → BS (W' 250 K) (feet bes dl f0) → (∀ k, k ≠ K → W' 250 k = W0 250 k) → W' 229 32 = nI (K + 1) → EqF [32] [249, 250] W W' → hd_146_30 (d + 1) Q (nI (e + 1)) W') → hd_146_197 (d + 1) Q (nI e) x (nI m) W := by
  have hel := (List.getElem?_eq_some_iff.mp he).1
  intro n
  induction n with
  | zero =>
    intro m W h1 h2 hG hH hL h32 h249 h250 h250' h
    have hE := hG.2.1
    have hV := hG.1
    have hO := hG.2.2.1
    have hm : m = es.length := by omega
    subst hm
    refine sx_146_197 _ _ _ W ⟨fun q => absurd q ?_, fun _ W5 e5 => ?_⟩
    · rw [hG.2.2.2.2.1]; exact nI_nlt (Nat.le_refl _) (by omega)
    · rw [ci_1, nI_add]
      have f5 : EqF [32] [249, 250] W W5 := by rw [e5]; exact EqF.uwF (by simp)
      have e249 : W5 249 = W 249 := by rw [e5]; exact uw_n (by decide)
      have e250 : W5 250 = W 250 := by rw [e5]; exact uw_n (by decide)
      refine h W5 (fun j f hj => ?_) ?_ (fun k hk => by rw [e250]; exact h250' k hk) (by rw [e5, uw_s, h32, ci_1, nI_add]) f5
      · have hjl := (List.getElem?_eq_some_iff.mp hj).1
        rw [e249, h249 j f hj]
        simp [hjl]
      · rw [e250]
        refine h250.congr fun v hv => ?_
        rw [List.take_of_length_le (Nat.le_refl _), feet]
        cases hlv : lvO dl v with
        | false => rfl
        | true =>
          rw [Bool.true_and, Bool.true_and, Bool.eq_iff_iff, List.any_eq_true, Bool.or_eq_true, anyN_iff]
          constructor
          · rintro ⟨f, f1, f2⟩
            rw [Bool.and_eq_true, Bool.and_eq_true, decide_eq_true_eq] at f2
            obtain ⟨⟨fb, fp⟩, fi⟩ := f2
            have hfo := hO.1 f f1
            unfold prtE at fp
            rw [Bool.or_eq_true, Bool.or_eq_true, decide_eq_true_eq] at fp
            rcases fp with (q | q) | q
            · rw [q] at fi; exact Or.inl fi
            · refine Or.inr ⟨f.1, by omega, ?_⟩
              rcases inc_iff.mp fi with w | w
              · rw [w, innr_un (by omega) q] at hlv; cases hlv
              · rw [q, w, adj_iff.mpr (Or.inl fb)]; rfl
            · refine Or.inr ⟨f.2, by omega, ?_⟩
              rcases inc_iff.mp fi with w | w
              · rw [q, w, adj_iff.mpr (Or.inr fb)]; rfl
              · rw [w, innr_un (by omega) q] at hlv; cases hlv
          · rintro (q | ⟨u, u1, u2⟩)
            · exact ⟨f0, List.mem_of_getElem? he, by rw [q, decide_eq_true hf0]; simp [prtE]⟩
            · rw [Bool.and_eq_true] at u2
              obtain ⟨u2, u3⟩ := u2
              rcases adj_iff.mp u3 with w | w
              · exact ⟨(u, v), hsub _ w, by rw [decide_eq_true w]; simp [prtE, u2, inc]⟩
              · exact ⟨(v, u), hsub _ w, by rw [decide_eq_true w]; simp [prtE, u2, inc]⟩
  | succ n ih =>
    intro m W h1 h2 hG hH hL h32 h249 h250 h250' h
    have hE := hG.2.1
    have hO := hG.2.2.1
    have hm : m < es.length := by omega
    have hp := List.getElem?_eq_getElem hm
    have hmm := List.getElem_mem hm
    generalize hf : es[m] = f at hp hmm
    have hts := List.take_succ_eq_append_getElem hm
    rw [hf] at hts
    have hends := ends_BS hG hp
    have hfo := hO.1 f hmm
    have hV := hG.1
    have hem : m = e ↔ f = f0 := by
      constructor
      · intro z; rw [z, he] at hp; exact (Option.some.inj hp).symm
      · intro z
        rw [z] at hp
        exact (List.getElem?_inj hm hO.2).mp (hp.trans he.symm)
    have hset : ((((Int32.ofInt 1) <<< ((W 230 m) &&& 31)) ||| ((Int32.ofInt 1) <<< ((W 231 m) &&& 31))) &&& x) = 0 ↔ (innr bes dl f0 f.1 || innr bes dl f0 f.2) = false := by
      rw [(hends.and hx.lo).z, Bool.or_eq_false_iff]
      constructor
      · intro z
        have z1 := z f.1 (by omega)
        have z2 := z f.2 (by omega)
        simp only [inc, decide_true, Bool.true_or, Bool.or_true, Bool.true_and] at z1 z2
        exact ⟨z1, z2⟩
      · intro z v hv
        cases hi : inc f v with
        | false => rfl
        | true =>
          rcases inc_iff.mp hi with w | w
          · rw [w, z.1]; rfl
          · rw [w, z.2]; rfl
    -- an edge that isn't of the part
    have skip : ¬ (f ∈ bes ∧ prtE bes dl f0 f = true) → hd_146_197 (d + 1) Q (nI e) x (nI m + Int32.ofInt 1) W := fun hn => by
      rw [ci_1, nI_add]
      refine ih (m + 1) W (by omega) (by omega) hG hH hL h32 (fun j f' hj => ?_) (h250.congr fun v _ => ?_) h250' h
      · rw [h249 j f' hj]
        by_cases ej : j = m
        · subst ej
          rw [hp] at hj; cases hj
          rw [if_neg (fun z => hn z.2), if_neg (fun z => hn z.2)]
        · have : j < m ↔ j < m + 1 := by omega
          simp only [this]
      · rw [hts, List.any_append]
        have : (decide (f ∈ bes) && prtE bes dl f0 f && inc f v) = false := by
          cases hb : decide (f ∈ bes) with
          | false => rfl
          | true =>
            cases hq : prtE bes dl f0 f with
            | false => rfl
            | true => exact absurd ⟨of_decide_eq_true hb, hq⟩ hn
        simp [this]
    -- one that is
    have take : f ∈ bes → prtE bes dl f0 f = true → vp_in (nI m) 61 ∧ (∀ W7 : fl_W, W7 = fl_uw W 249 (nI m).toNatClampNeg (W 229 32) → vp_in (W7 229 32) 61 ∧ (vp_in (W7 229 32) 61 ∧ (∀ W8 : fl_W, W8 = fl_uw W7 250 (W7 229 32).toNatClampNeg ((W7 250 (W7 229 32).toNatClampNeg) ||| ((((Int32.ofInt 1) <<< ((W 230 m) &&& 31)) ||| ((Int32.ofInt 1) <<< ((W 231 m) &&& 31))) &&& (W7 229 28))) → hd_146_197 (d + 1) Q (nI e) x (nI m + Int32.ofInt 1) W8))) := fun hb hq => by
      refine ⟨in_N (by omega) (by omega), fun W7 e7 => ?_⟩
      rw [nI_clamp (by omega), h32] at e7
      have e32 : W7 229 32 = nI K := by rw [e7, uw_n (by decide)]; exact h32
      rw [e32]
      refine ⟨in_N hK (by omega), in_N hK (by omega), fun W8 e8 => ?_⟩
      rw [nI_clamp (by omega)] at e8
      have f8 : EqF [32] [249, 250] W W8 := by
        rw [e8, e7]
        exact (EqF.uwA (by simp) (by decide)).tr (EqF.uwA (by simp) (by decide))
      have e249 : W8 249 = upd (W 249) m (nI K) := by rw [e8, uw_n (by decide), e7]; simp [fl_uw]
      have e250 : W7 250 = W 250 := by rw [e7]; exact uw_n (by decide)
      have e28 : W7 229 28 = W 229 28 := by rw [e7, uw_n (by decide)]
      rw [e250, e28] at e8
      rw [ci_1, nI_add]
      refine ih (m + 1) W8 (by omega) (by omega) (hG.fr (f8.mono (fs' := [32]) (l' := [249, 250]) (by simp) (by simp)) (by decide) (by decide) (by decide) (by decide)) (hH.fr f8 (by decide) (by decide) (by decide)) (hL.fr f8 (by decide) (by decide)) (by rw [e8, uw_n (by decide)]; exact e32) (fun j f' hj => ?_) ?_ (fun k hk => ?_) fun W' k1 k2 k3 k4 k5 => h W' k1 k2 k3 k4 (f8.tr k5)
      · rw [e249]
        by_cases ej : j = m
        · subst ej
          rw [hp] at hj; cases hj
          rw [if_pos ⟨by omega, hb, hq⟩]
          simp [upd]
        · have : j < m + 1 ↔ j < m := by omega
          simp only [this]
          rw [← h249 j f' hj]
          simp [upd, ej]
      · rw [e8, uw_s]
        refine (h250.or (hends.and hL.1.lo)).congr fun v _ => ?_
        rw [hts, List.any_append]
        simp only [List.any_cons, List.any_nil, decide_eq_true hb, hq, Bool.true_and, Bool.or_false]
        cases lvO dl v <;> simp
      · rw [e8]
        show fl_uw W7 250 K _ 250 k = _
        rw [uw_m hk, e250]
        exact h250' k hk
    refine sx_146_197 _ _ _ W ⟨fun _ => ⟨in_N (by omega) (by omega), in_N (by omega) (by omega), ?_⟩, fun q => absurd ?_ q⟩
    · refine rf_here hp hE hH ⟨fun z => skip fun w => ?_, fun z => ?_⟩
      · rw [if_pos w.1] at z; exact absurd z (by decide)
      · have hb : f ∈ bes := by
          refine Classical.byContradiction fun hn => ?_
          rw [if_neg hn] at z
          exact z rfl
        rw [nI_clamp (by omega)]
        refine ⟨fun z2 => ?_, fun z2 => ⟨fun z3 => ?_, fun z3 => ?_⟩⟩
        · have := (nI_eq (by omega) (by omega)).mp z2
          have hff := hem.mp this
          have tk := take hb (by rw [hff]; simp [prtE])
          rw [nI_clamp (by omega)] at tk
          exact tk
        · refine skip fun w => ?_
          have hff : f ≠ f0 := fun q => z2 (by rw [hem.mpr q])
          have h3 := hset.mp z3
          have h4 := w.2
          unfold prtE at h4
          rw [Bool.or_assoc, h3, Bool.or_false, decide_eq_true_eq] at h4
          exact hff h4
        · have h3 : (innr bes dl f0 f.1 || innr bes dl f0 f.2) = true := by
            cases hh : (innr bes dl f0 f.1 || innr bes dl f0 f.2) with
            | true => rfl
            | false => exact absurd (hset.mpr hh) z3
          have tk := take hb (by unfold prtE; rw [Bool.or_assoc, h3, Bool.or_true])
          rw [nI_clamp (by omega)] at tk
          exact tk
    · rw [hG.2.2.2.2.1]; exact nI_lt hm (by omega)
/-- what hangs together -/
theorem rf_mp_c {e : Nat} {S : Nat → Bool} (hSl : ∀ v, v < 20 → S v = true → lvO dl v = false) (hsub : ∀ f, f ∈ bes → f ∈ es) (hG : RfG W V es) (hH : HR W es bes) (hL : RLd W es dl)
    (h : ∀ z, BS z (clo (adj bes) (lvO dl) 20 S) → vp_in (W 229 32) 61 ∧ (∀ W4 : fl_W, W4 = fl_uw W 250 (W 229 32).toNatClampNeg (Int32.ofInt 0) → hd_146_197 (d + 1) Q (nI e) z (Int32.ofInt 0) W4)) :
    ∀ (n : Nat) (T H : Nat → Bool) (tx hx : Int32), 20 - cnt H 20 ≤ n → BS tx T → BS hx H → (∀ v, v < 20 → H v = true → T v = true) → (∀ v, v < 20 → S v = true → T v = true) → (∀ U : Nat → Bool, (∀ v, v < 20 → S v = true → U v = true) → cld (adj bes) (lvO dl) U → ∀ v, v < 20 → T v = true → U v = true) → ((∀ v, v < 20 → T v = H v) → cld (adj bes) (lvO dl) T) → hd_146_94 (d + 1) Q (nI e) tx hx W := by
  have hE := hG.2.1
  have hV := hG.1
  have hO := hG.2.2.1
  intro n
  induction n with
  | zero =>
    intro T H tx hx h1 hT hH' hHT hST hmin hcl
    have hfull := cnt_full (p := H) (n := 20) (by omega)
    have heq : ∀ v, v < 20 → T v = H v := fun v hv => by rw [hfull v hv, hHT v hv (hfull v hv)]
    refine sx_146_94 _ _ _ W ⟨fun _ => h tx (hT.congr (clo_eq (by omega) hST (hcl heq) hmin)), fun z => absurd ((hT.eq hH').mpr heq) z⟩
  | succ n ih =>
    intro T H tx hx h1 hT hH' hHT hST hmin hcl
    refine sx_146_94 _ _ _ W ⟨fun z => h tx (hT.congr (clo_eq (by omega) hST (hcl ((hT.eq hH').mp z)) hmin)), fun z => ?_⟩
    have hlt : cnt H 20 + 1 ≤ cnt T 20 := by
      have : ∃ a, a < 20 ∧ H a = false ∧ T a = true := by
        refine Classical.byContradiction fun hn => z ((hT.eq hH').mpr fun v hv => ?_)
        cases h3 : H v with
        | true => exact hHT v hv h3
        | false =>
          cases h4 : T v with
          | false => rfl
          | true => exact absurd ⟨v, hv, h3, h4⟩ hn
      obtain ⟨a, a1, a2, a3⟩ := this
      exact cnt_strict a1 hHT a2 a3
    -- one pass over the edges
    have pass : ∀ (k m : Nat) (T' : Nat → Bool) (tx' : Int32), es.length - m = k → m ≤ es.length → BS tx' T' → (∀ v, v < 20 → T v = true → T' v = true) → (∀ U : Nat → Bool, (∀ v, v < 20 → S v = true → U v = true) → cld (adj bes) (lvO dl) U → ∀ v, v < 20 → T' v = true → U v = true) → (∀ j f, j < m → es[j]? = some f → f ∈ bes → ∀ u v, u < 20 → v < 20 → inc f u = true → inc f v = true → T u = true → lvO dl v = false → T' v = true) → hd_146_104 (d + 1) Q (nI e) tx' tx (nI m) W := by
      intro k
      induction k with
      | zero =>
        intro m T' tx' a1 a2 hT' hTT hmin' hdone
        refine sx_146_104 _ _ _ _ W ⟨fun q => absurd q ?_, fun _ => ?_⟩
        · rw [hG.2.2.2.2.1]; exact nI_nlt (by omega) (by omega)
        · refine ih T' T tx' tx (by omega) hT' hT hTT (fun v hv hs => hTT v hv (hST v hv hs)) hmin' fun heq u v hu hv s1 s2 s3 => ?_
          rcases adj_iff.mp s2 with w | w
          · obtain ⟨j, hj⟩ := List.getElem?_of_mem (hsub _ w)
            have := (List.getElem?_eq_some_iff.mp hj).1
            exact hdone j _ (by omega) hj w u v hu hv (inc_iff.mpr (Or.inl rfl)) (inc_iff.mpr (Or.inr rfl)) (by rw [← heq u hu]; exact s1) s3
          · obtain ⟨j, hj⟩ := List.getElem?_of_mem (hsub _ w)
            have := (List.getElem?_eq_some_iff.mp hj).1
            exact hdone j _ (by omega) hj w u v hu hv (inc_iff.mpr (Or.inr rfl)) (inc_iff.mpr (Or.inl rfl)) (by rw [← heq u hu]; exact s1) s3
      | succ k ihk =>
        intro m T' tx' a1 a2 hT' hTT hmin' hdone
        have hm : m < es.length := by omega
        have hp := List.getElem?_eq_getElem hm
        have hmm := List.getElem_mem hm
        generalize hf : es[m] = f at hp hmm
        have hends := ends_BS hG hp
        have hfo := hO.1 f hmm
        refine sx_146_104 _ _ _ _ W ⟨fun _ => rf_here hp hE hH ⟨fun z => ?_, fun z => ⟨in_N (by omega) (by omega), in_N (by omega) (by omega), ?_⟩⟩, fun q => absurd ?_ q⟩
        · have hb : f ∉ bes := fun w => by rw [if_pos w] at z; exact absurd z (by decide)
          rw [ci_1, nI_add]
          refine ihk (m + 1) T' tx' (by omega) (by omega) hT' hTT hmin' fun j f' hj hjf hfb => ?_
          by_cases ej : j = m
          · subst ej; rw [hp] at hjf; cases hjf; exact absurd hfb hb
          · exact hdone j f' (by omega) hjf hfb
        · have hb : f ∈ bes := by
            refine Classical.byContradiction fun hn => ?_
            rw [if_neg hn] at z
            exact z rfl
          rw [nI_clamp (by omega), ci_1, nI_add]
          refine ⟨fun z2 => ?_, fun z2 => ⟨in_N (by omega) (by omega), in_N (by omega) (by omega), ?_⟩⟩
          · have hno := (hends.and hT'.lo).z.mp z2
            refine ihk (m + 1) T' tx' (by omega) (by omega) hT' hTT hmin' fun j f' hj hjf hfb u v hu hv i1 i2 t1 l1 => ?_
            by_cases ej : j = m
            · subst ej
              rw [hp] at hjf; cases hjf
              have := hno u hu
              rw [i1, hTT u hu t1] at this
              cases this
            · exact hdone j f' (by omega) hjf hfb u v hu hv i1 i2 t1 l1
          · obtain ⟨u0, hu0, iu0, tu0⟩ : ∃ u, u < 20 ∧ inc f u = true ∧ T' u = true := by
              refine Classical.byContradiction fun hn => z2 ((hends.and hT'.lo).z.mpr fun v hv => ?_)
              cases h3 : inc f v with
              | false => rfl
              | true =>
                cases h4 : T' v with
                | false => rfl
                | true => exact absurd ⟨v, hv, h3, h4⟩ hn
            refine ihk (m + 1) (fun v => T' v || (inc f v && !lvO dl v)) _ (by omega) (by omega) (hT'.or (hends.and (by rw [ci_m]; exact hL.1.lo.not))) (fun v hv t => by rw [hTT v hv t]; rfl) (fun U hU1 hU2 v hv t => ?_) fun j f' hj hjf hfb u v hu hv i1 i2 t1 l1 => ?_
            · simp only [Bool.or_eq_true, Bool.and_eq_true, Bool.not_eq_true'] at t
              rcases t with t | ⟨t1, t2⟩
              · exact hmin' U hU1 hU2 v hv t
              · have hUu := hmin' U hU1 hU2 u0 hu0 tu0
                by_cases ev : u0 = v
                · rw [← ev]; exact hUu
                · refine hU2 u0 v hu0 hv hUu (adj_iff.mpr ?_) t2
                  rcases inc_iff.mp iu0 with q | q <;> rcases inc_iff.mp t1 with w | w
                  · exact absurd (q.trans w.symm) ev
                  · exact Or.inl (by rw [q, w]; exact hb)
                  · exact Or.inr (by rw [q, w]; exact hb)
                  · exact absurd (q.trans w.symm) ev
            · by_cases ej : j = m
              · subst ej
                rw [hp] at hjf; cases hjf
                simp only [i2, l1, Bool.not_false, Bool.and_self, Bool.or_true]
              · simp only [Bool.or_eq_true]
                exact Or.inl (hdone j f' (by omega) hjf hfb u v hu hv i1 i2 t1 l1)
        · rw [hG.2.2.2.2.1]; exact nI_lt hm (by omega)
    rw [ci_0]
    exact pass es.length 0 T tx (by omega) (Nat.zero_le _) hT (fun v _ t => t) hmin fun j f hj => by omega
/-- makeParts -/
theorem rf_mp_b (hsl : bes.Sublist es) : ∀ (n i : Nat) (W : fl_W) (ps : gE) (sn : Nat → Bool), es.length - i = n → i ≤ es.length → RfG W V es → HR W es bes → RLd W es dl → RPt W es bes dl ps → reps bes dl = ps ++ repS bes dl ((es.drop i).filter fun g => decide (g ∈ bes)) sn → (∀ v, v < 20 → (sn v = true ↔ ∃ g, g ∈ ps ∧ innr bes dl g v = true)) → (∀ g, g ∈ ps → ∃ j, j < i ∧ es[j]? = some g) →
    (∀ W', RPt W' es bes dl (reps bes dl) → EqF [32] [249, 250] W W' → Q none W') → hd_146_30 (d + 1) Q (nI i) W := by
  have hsub : ∀ f, f ∈ bes → f ∈ es := fun f hf => hsl.subset hf
  intro n
  induction n with
  | zero =>
    intro i W ps sn h1 h2 hG hH hL hP hre hsn hps h
    have hE := hG.2.1
    refine sx_146_30 _ W ⟨fun q => absurd q ?_, fun _ => ?_⟩
    · rw [hG.2.2.2.2.1]; exact nI_nlt (by omega) (by omega)
    · rw [List.drop_eq_nil_of_le (by omega), List.filter_nil, repS, List.append_nil] at hre
      rw [hre] at h
      exact h W hP EqF.rf
  | succ n ih =>
    intro i W ps sn h1 h2 hG hH hL hP hre hsn hps h
    have hE := hG.2.1
    have hV := hG.1
    have hO := hG.2.2.1
    have hi : i < es.length := by omega
    have hp := List.getElem?_eq_getElem hi
    have hmm := List.getElem_mem hi
    have hdr := List.drop_eq_getElem_cons hi
    generalize hf : es[i] = f at hp hmm hdr
    have hfo := hO.1 f hmm
    have hps' : ∀ g, g ∈ ps → ∃ j, j < i + 1 ∧ es[j]? = some g := fun g hg => by
      obtain ⟨j, j1, j2⟩ := hps g hg
      exact ⟨j, by omega, j2⟩
    have hfps : f ∉ ps := fun hm => by
      obtain ⟨j, j1, j2⟩ := hps f hm
      have := (List.getElem?_inj (by omega) hO.2).mp (j2.trans hp.symm)
      omega
    -- passing over
    have skip : reps bes dl = ps ++ repS bes dl ((es.drop (i + 1)).filter fun g => decide (g ∈ bes)) sn → hd_146_30 (d + 1) Q (nI i + Int32.ofInt 1) W := fun hr => by
      rw [ci_1, nI_add]
      exact ih (i + 1) W ps sn (by omega) (by omega) hG hH hL hP hr hsn hps' h
    refine sx_146_30 _ W ⟨fun _ => rf_here hp hE hH ⟨fun z => ?_, fun z => ?_⟩, fun q => absurd ?_ q⟩
    · have hb : f ∉ bes := fun w => by rw [if_pos w] at z; exact absurd z (by decide)
      refine skip ?_
      rw [hre, hdr, List.filter_cons_of_neg (by simpa using hb)]
    · have hb : f ∈ bes := by
        refine Classical.byContradiction fun hn => ?_
        rw [if_neg hn] at z
        exact z rfl
      rw [hdr, List.filter_cons_of_pos (by simpa using hb)] at hre
      refine ⟨in_N (by omega) (by omega), ?_⟩
      rw [nI_clamp (by omega), hL.2 i f hp]
      -- whether an earlier part has it
      have hcond : (anyN fun v => inc f v && !lvO dl v && sn v) = true ↔ ∃ g, g ∈ ps ∧ prtE bes dl g f = true := by
        rw [anyN_iff]
        constructor
        · rintro ⟨v, v1, v2⟩
          rw [Bool.and_eq_true, Bool.and_eq_true] at v2
          obtain ⟨g, g1, g2⟩ := (hsn v v1).mp v2.2
          refine ⟨g, g1, ?_⟩
          unfold prtE
          rcases inc_iff.mp v2.1.1 with w | w
          · rw [← w, g2]; simp
          · rw [← w, g2]; simp
        · rintro ⟨g, g1, g2⟩
          unfold prtE at g2
          rw [Bool.or_eq_true, Bool.or_eq_true, decide_eq_true_eq] at g2
          rcases g2 with (q | q) | q
          · exact absurd (q ▸ g1) hfps
          · exact ⟨f.1, by omega, by rw [innr_un (by omega) q, (hsn f.1 (by omega)).mpr ⟨g, g1, q⟩]; simp [inc]⟩
          · exact ⟨f.2, by omega, by rw [innr_un (by omega) q, (hsn f.2 (by omega)).mpr ⟨g, g1, q⟩]; simp [inc]⟩
      refine ⟨fun z2 => ⟨in_N (by omega) (by omega), ?_⟩, fun z2 => ?_⟩
      · have hfd : f ∉ dl := fun w => by rw [if_pos w] at z2; exact absurd z2 (by decide)
        rcases hP.2.2 i f hp with ⟨p1, p2⟩ | ⟨k, g, p1, p2, p3, p4⟩
        · rw [p1]
          refine ⟨fun _ => ⟨in_N (by omega) (by omega), in_N (by omega) (by omega), ?_⟩, fun w => absurd (by decide) w⟩
          have hnc : ¬ (f ∈ dl ∨ (anyN fun v => inc f v && !lvO dl v && sn v) = true) := by
            rintro (w | w)
            · exact hfd w
            · obtain ⟨g, g1, g2⟩ := hcond.mp w
              rw [p2 g g1 hb] at g2; cases g2
          rw [repS, if_neg hnc] at hre
          have hK : ps.length < 61 := by
            have h3 : (reps bes dl).length ≤ bes.length := repS_len
            have h4 := hsl.length_le
            rw [hre, List.length_append, List.length_cons] at h3
            omega
          have hS : BS ((((Int32.ofInt 1) <<< ((W 230 i) &&& 31)) ||| ((Int32.ofInt 1) <<< ((W 231 i) &&& 31))) &&& ((W 229 28) ^^^ (Int32.ofInt (-1)))) (fun v => inc f v && !lvO dl v) := (ends_BS hG hp).and (by rw [ci_m]; exact hL.1.lo.not)
          have hSl : ∀ v, v < 20 → (inc f v && !lvO dl v) = true → lvO dl v = false := fun v _ hv => by
            rw [Bool.and_eq_true, Bool.not_eq_true'] at hv; exact hv.2
          refine rf_mp_c (S := fun v => inc f v && !lvO dl v) hSl hsub hG hH hL (fun zz hz => ?_) 20 (fun v => inc f v && !lvO dl v) (fun _ => false) _ _ (by omega) hS BS.zero (fun v _ w => by cases w) (fun v _ w => w) (fun U hU _ v hv w => hU v hv w) fun heq u v hu hv w => by
            have := heq u hu
            simp only at this w
            rw [this] at w; cases w
          rw [hP.1]
          refine ⟨in_N hK (by omega), fun W4 e4 => ?_⟩
          rw [nI_clamp (by omega)] at e4
          have f4 : EqF [32] [249, 250] W W4 := by rw [e4]; exact EqF.uwA (by simp) (by decide)
          have e249 : W4 249 = W 249 := by rw [e4]; exact uw_n (by decide)
          rw [ci_0]
          refine rf_mp_d (W0 := W) hK hp hb hsub hz es.length 0 W4 (by omega) (Nat.zero_le _) (hG.fr f4 (by decide) (by decide) (by decide) (by decide)) (hH.fr f4 (by decide) (by decide) (by decide)) (hL.fr f4 (by decide) (by decide)) (by rw [e4, uw_n (by decide)]; exact hP.1) (fun j f' hj => by rw [e249, if_neg (fun w => by omega)]) ?_ (fun k hk => by rw [e4]; exact uw_m hk) fun W' k1 k2 k3 k4 k5 => ?_
          · rw [e4, uw_s]
            exact BS.zero.congr fun v _ => by simp
          · have fA := f4.tr k5
            refine ih (i + 1) W' (ps ++ [f]) (fun v => sn v || innr bes dl f v) (by omega) (by omega) (hG.fr fA (by decide) (by decide) (by decide) (by decide)) (hH.fr fA (by decide) (by decide) (by decide)) (hL.fr fA (by decide) (by decide)) ⟨by rw [k4, List.length_append]; rfl, fun k g hk => ?_, fun j f' hj => ?_⟩ (by rw [hre]; simp) (fun v hv => ?_) (fun g hg => ?_) fun W'' j1 j2 => h W'' j1 (fA.tr j2)
            · by_cases ek : k = ps.length
              · subst ek
                rw [List.getElem?_concat_length] at hk
                cases hk
                exact k2
              · have hkl : k < ps.length := by
                  have := (List.getElem?_eq_some_iff.mp hk).1
                  rw [List.length_append, List.length_singleton] at this
                  omega
                rw [List.getElem?_append_left hkl] at hk
                rw [k3 k ek]
                exact hP.2.1 k g hk
            · rw [k1 j f' hj]
              by_cases hin : f' ∈ bes ∧ prtE bes dl f f' = true
              · rw [if_pos hin]
                exact Or.inr ⟨ps.length, f, by rw [List.getElem?_concat_length], rfl, hin⟩
              · rw [if_neg hin]
                rcases hP.2.2 j f' hj with ⟨q1, q2⟩ | ⟨k, g, q1, q2, q3⟩
                · refine Or.inl ⟨q1, fun g hg hfb => ?_⟩
                  rcases List.mem_append.mp hg with w | w
                  · exact q2 g w hfb
                  · rw [List.mem_singleton.mp w]
                    cases hh : prtE bes dl f f' with
                    | false => rfl
                    | true => exact absurd ⟨hfb, hh⟩ hin
                · have hkl := (List.getElem?_eq_some_iff.mp q1).1
                  exact Or.inr ⟨k, g, by rw [List.getElem?_append_left hkl]; exact q1, q2, q3⟩
            · simp only [Bool.or_eq_true]
              rw [hsn v hv]
              constructor
              · rintro (⟨g, g1, g2⟩ | w)
                · exact ⟨g, List.mem_append_left _ g1, g2⟩
                · exact ⟨f, by simp, w⟩
              · rintro ⟨g, g1, g2⟩
                rcases List.mem_append.mp g1 with w | w
                · exact Or.inl ⟨g, w, g2⟩
                · rw [List.mem_singleton.mp w] at g2; exact Or.inr g2
            · rcases List.mem_append.mp hg with w | w
              · exact hps' g w
              · rw [List.mem_singleton.mp w]; exact ⟨i, by omega, hp⟩
        · rw [p2]
          refine ⟨fun w => absurd w (nI_pos ?_), fun _ => skip ?_⟩
          · have hkl := (List.getElem?_eq_some_iff.mp p1).1
            have h3 : (reps bes dl).length ≤ bes.length := repS_len
            have h4 := hsl.length_le
            rw [hre, List.length_append] at h3
            omega
          · rw [hre, repS, if_pos (Or.inr (hcond.mpr ⟨g, List.mem_of_getElem? p1, p4⟩))]
      · have hfd : f ∈ dl := by
          refine Classical.byContradiction fun hn => ?_
          rw [if_neg hn] at z2
          exact z2 rfl
        refine skip ?_
        rw [hre, repS, if_pos (Or.inl hfd)]
    · rw [hG.2.2.2.2.1]; exact nI_lt hi (by omega)
theorem rf_mp_a : ∀ (n i : Nat) (W : fl_W), es.length - i = n → i ≤ es.length → RfG W V es → (∀ j, j < i → W 249 j = -1) → (∀ W', (∀ j, j < es.length → W' 249 j = -1) → EqF [] [249] W W' → hd_146_30 d Q (nI 0) W') → hd_146_7 d Q (nI i) W := by
  intro n
  induction n with
  | zero =>
    intro i W h1 h2 hG hall h
    have hE := hG.2.1
    refine sx_146_7 _ W ⟨fun q => absurd q ?_, fun _ => h W (fun j hj => hall j (by omega)) EqF.rf⟩
    rw [hG.2.2.2.2.1]; exact nI_nlt (by omega) (by omega)
  | succ n ih =>
    intro i W h1 h2 hG hall h
    have hE := hG.2.1
    refine sx_146_7 _ W ⟨fun _ => ⟨in_N (by omega) (by omega), fun W2 e2 => ?_⟩, fun q => absurd ?_ q⟩
    · rw [nI_clamp (by omega)] at e2
      have f2 : EqF [] [249] W W2 := by rw [e2]; exact EqF.uwA (by simp) (by decide)
      rw [ci_1, nI_add]
      refine ih (i + 1) W2 (by omega) (by omega) (hG.fr f2 (by decide) (by decide) (by decide) (by decide)) (fun j hj => ?_) fun W' k1 k2 => h W' k1 (f2.tr k2)
      rw [e2]
      by_cases e : j = i
      · rw [e, uw_s]; rfl
      · rw [uw_m e]; exact hall j (by omega)
    · rw [hG.2.2.2.2.1]; exact nI_lt (by omega) (by omega)
theorem rf_parts (hsl : bes.Sublist es) (hG : RfG W V es) (hH : HR W es bes) (hL : RLd W es dl) (h : ∀ W', RPt W' es bes dl (reps bes dl) → EqF [32] [249, 250] W W' → Q none W') : fl_cal (d + 2) 146 [.ref 229] W Q := by
  refine sx_146 W fun W1 e1 => ?_
  have f1 : EqF [32] [249, 250] W W1 := by rw [e1]; exact EqF.uwF (by simp)
  rw [ci_0]
  refine rf_mp_a es.length 0 W1 (by omega) (Nat.zero_le _) (hG.fr f1 (by decide) (by decide) (by decide) (by decide)) (fun j hj => by omega) fun W2 k1 k2 => ?_
  have fA := f1.tr (k2.mono (by simp) (by simp))
  refine rf_mp_b hsl es.length 0 W2 [] (fun _ => false) (by omega) (Nat.zero_le _) (hG.fr fA (by decide) (by decide) (by decide) (by decide)) (hH.fr fA (by decide) (by decide) (by decide)) (hL.fr fA (by decide) (by decide)) ⟨?_, fun k g hk => by simp at hk, fun j f hj => Or.inl ⟨k1 j (List.getElem?_eq_some_iff.mp hj).1, fun g hg => absurd hg List.not_mem_nil⟩⟩ ?_ (fun v _ => by simp) (fun g hg => absurd hg List.not_mem_nil) fun W' j1 j2 => h W' j1 (fA.tr j2)
  · rw [k2.2 32 (by decide), e1, uw_s]; rfl
  · rw [List.drop_zero, filter_mem_sub hsl hG.2.2.1.2]; rfl
end RPB
