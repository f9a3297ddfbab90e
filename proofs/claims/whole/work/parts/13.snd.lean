/-! ===== a method's contract out of the small machine ===== -/
def mi_ctg : List mi_I → Bool
  | [] => true
  | [_] => true
  | e :: e2 :: t => (e2.1 == e.1 + e.2.2.1) && mi_ctg (e2 :: t)
def mi_TB (k : Nat) : Prop := (∀ e ∈ mi_tab k, mi_st k e) ∧ (∀ e ∈ mi_tab k, decode (mi_code k) e.1 = .ok (e.2.1, e.2.2.1)) ∧ mi_ctg (mi_tab k) = true
def mi_ALL : Prop := mi_CF ∧ mi_DC ∧ (∀ k, k < mi_nM → mi_MF k) ∧ (∀ k, k < mi_nM → mi_TB k)
theorem mi_ctg_tl {e : mi_I} {t : List mi_I} (h : mi_ctg (e :: t) = true) : mi_ctg t = true := by
  cases t with
  | nil => rfl
  | cons e2 t =>
    simp only [mi_ctg, Bool.and_eq_true] at h
    exact h.2
theorem mi_from_spec (t : Nat) : ∀ (tab : List mi_I), mi_ctg tab = true → (∀ e ∈ mi_from tab t, e ∈ tab) ∧ mi_ctg (mi_from tab t) = true ∧ ∀ e tl, mi_from tab t = e :: tl → e.1 = t
  | [], _ => ⟨fun e h => h, rfl, fun e tl h => by cases h⟩
  | a :: tab, h => by
    unfold mi_from
    by_cases ha : a.1 = t
    · rw [if_pos ha]
      exact ⟨fun e h => h, h, fun e tl h => by cases h; exact ha⟩
    · rw [if_neg ha]
      obtain ⟨h1, h2, h3⟩ := mi_from_spec t tab (mi_ctg_tl h)
      exact ⟨fun e h => List.mem_cons_of_mem _ (h1 e h), h2, h3⟩
section MIV
variable {p : Program} {l : Launch} {e : Env} {R : Room} {s : State} {m : MethodId} {args : Array Value} {below : List Frame} {meth : Method} {c : Code} {D : va_G} {ca : Nat → ClassId} {h0 d k : Nat}
theorem mi_goS (cx : mi_Cx p l e R s m args meth c D ca h0 d k) (al : mi_ALL) (hk : k < mi_nM) {C : mi_C} (hC : ∀ k' av M Q, k' < mi_nM → av.length = mi_na k' → mi_c1 av = true → C k' av M Q → mi_Met l d k' av M Q) {Q Q0 : mi_R} (hQQ : ∀ r M, Q0 r M → Q r M) {cuts : List Nat} {P : Nat → mi_K}
    (hPS : ∀ pc L S kc ks M, P pc L S kc ks M → mi_Sd p l e R s m args below meth c D ca h0 (mi_maxL k) (mi_mc k) (mi_sl k) (mi_Qc h0 D ca Q) pc L S kc ks M) :
    ∀ (n : Nat) (a : mi_I) (tl : List mi_I), (∀ q ∈ a :: tl, q ∈ mi_tab k) → mi_ctg (a :: tl) = true → ∀ L S kc ks M, mi_go (mi_X C k Q0) cuts (mi_tab k) P n (a :: tl) L S kc ks M → mi_Sd p l e R s m args below meth c D ca h0 (mi_maxL k) (mi_mc k) (mi_sl k) (mi_Qc h0 D ca Q) a.1 L S kc ks M := by
  intro n
  induction n with
  | zero => intro a tl _ _ L S kc ks M h; exact (show False from h).elim
  | succ n ih =>
    intro a tl hmem hctg L S kc ks M h
    obtain ⟨al1, al2, al3, al4⟩ := al
    obtain ⟨t1, t2, t3⟩ := al4 k hk
    have hst := t1 a (hmem a List.mem_cons_self)
    have hde := t2 a (hmem a List.mem_cons_self)
    obtain ⟨pc, i, len, r1, r2, r3⟩ := a
    rw [mi_go_s] at h
    change mi_x C (mi_mc k) (mi_sl k) (mi_rt k) Q0 pc i r1 r2 r3 (mi_nxt cuts P (mi_go (mi_X C k Q0) cuts (mi_tab k) P n tl) tl) (fun t => mi_jmp cuts P (mi_go (mi_X C k Q0) cuts (mi_tab k) P n (mi_from (mi_tab k) t)) t) L S kc ks M at h
    refine mi_xS cx al1 al2 al3 hC hQQ hst hde ?_ ?_ h
    · intro L S kc ks M hn
      cases tl with
      | nil => exact (show False from hn).elim
      | cons e2 t =>
        simp only [mi_ctg, Bool.and_eq_true, beq_iff_eq] at hctg
        have he2 : e2.1 = pc + len := hctg.1
        rw [← he2]
        by_cases hc : e2.1 ∈ cuts
        · exact hPS _ _ _ _ _ _ (by simpa only [mi_nxt, hc, if_true] using hn)
        · exact ih e2 t (fun q hq => hmem q (List.mem_cons_of_mem _ hq)) hctg.2 L S kc ks M (by simpa only [mi_nxt, hc, if_false] using hn)
    · intro t L S kc ks M hj
      by_cases hc : t ∈ cuts
      · exact hPS _ _ _ _ _ _ (by simpa only [mi_jmp, hc, if_true] using hj)
      · have hj' : mi_go (mi_X C k Q0) cuts (mi_tab k) P n (mi_from (mi_tab k) t) L S kc ks M := by simpa only [mi_jmp, hc, if_false] using hj
        obtain ⟨f1, f2, f3⟩ := mi_from_spec t (mi_tab k) t3
        cases hfr : mi_from (mi_tab k) t with
        | nil =>
          rw [hfr] at hj'
          cases n <;> exact (show False from hj').elim
        | cons e2 t2' =>
          rw [hfr] at hj' f1 f2
          have := ih e2 t2' f1 f2 L S kc ks M hj'
          rwa [f3 e2 t2' hfr] at this
theorem mi_wpS (cx : mi_Cx p l e R s m args meth c D ca h0 d k) (al : mi_ALL) (hk : k < mi_nM) {C : mi_C} (hC : ∀ k' av M Q, k' < mi_nM → av.length = mi_na k' → mi_c1 av = true → C k' av M Q → mi_Met l d k' av M Q) {Q Q0 : mi_R} (hQQ : ∀ r M, Q0 r M → Q r M) {cuts : List Nat} {pc : Nat} {L : mi_L} {S : List Value} {kc ks : Nat} {M : mi_M} (h : mi_WP C k cuts Q0 pc L S kc ks M) :
    mi_Sd p l e R s m args below meth c D ca h0 (mi_maxL k) (mi_mc k) (mi_sl k) (mi_Qc h0 D ca Q) pc L S kc ks M := by
  refine h _ fun P' hP' pc L S kc ks M hF => ?_
  obtain ⟨f1, f2, f3⟩ := mi_from_spec pc (mi_tab k) (al.2.2.2 k hk).2.2
  have hF' : mi_go (mi_X C k Q0) cuts (mi_tab k) P' 400 (mi_from (mi_tab k) pc) L S kc ks M := hF
  cases hfr : mi_from (mi_tab k) pc with
  | nil =>
    rw [hfr] at hF'
    exact (show False from hF').elim
  | cons e2 t2 =>
    rw [hfr] at hF' f1 f2
    have := mi_goS cx al hk hC hQQ hP' 400 e2 t2 f1 f2 L S kc ks M hF'
    rwa [f3 e2 t2 hfr] at this
end MIV
theorem mi_calS (al : mi_ALL) (l : Launch) : ∀ (d k : Nat) (av : List Value) (M : mi_M) (Q : mi_R), k < mi_nM → av.length = mi_na k → mi_c1 av = true → mi_cal d k av M Q → mi_Met l d k av M Q := by
  intro d
  induction d with
  | zero => intro k av M Q _ _ _ h; exact (show False from h).elim
  | succ d ih =>
    intro k av M Q hk hna hc1 h h0 D ca
    have mf := al.2.2.1 k hk
    obtain ⟨f1, f2, f3, f4, f5, f6, f7⟩ := mf
    obtain ⟨cuts, Q0, hQQ, h⟩ := h
    refine Met.ofW (cc := mi_code k) (maxL := mi_maxL k) (ret := mi_rt k) f4 rfl ?_
    intro p e s m args below meth c s₁ B hml hv
    obtain ⟨rfl, b1, b2, b3, b4, b5⟩ := hv
    have hown : s.vm.findClass (mi_y k).cls = some m.cls := findClass_of_methodNamed B.named
    rw [f3] at hown
    have cx : mi_Cx p l e (headSpec (mi_wd k) (mi_rm (d + 1) k)).room s m (av.map (mi_cv h0)).toArray meth c D ca h0 d k := ⟨B.exec, B.bytes, B.returns, hml, hown, atoms_spec (ws := mi_wd k) B.pre, B.notSynchronized, fun hi => (name_of_methodNamed B.named B.method).1.trans hi, b3, b4, by omega, rfl⟩
    rw [lg_entry_eq]
    exact mi_wpS cx al hk ih hQQ h s.heap [] _ b1 b2 va_S.rf (mi_has.ent (by omega) hc1) b5 (Nat.zero_le _) (Nat.zero_le _)
