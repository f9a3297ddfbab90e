/-! ===== a program's look at a table, and that it is enough ===== -/
def mi_stb (k : Nat) (e : mi_I) : Bool := match e with
  | (pc, i, len, r1, r2, r3) => match i with
    | .tableswitch _ _ _ _ => true
    | i => decide (len = mi_ln i) && match i with
      | .getfield ix => mi_FSL.any fun q => decide (q.1 = mi_own k ∧ q.2.1 = ix ∧ q.2.2.1 = r1 ∧ q.2.2.2.1 = r2)
      | .putfield ix => mi_FSL.any fun q => decide (q.1 = mi_own k ∧ q.2.1 = ix ∧ q.2.2.1 = r1 ∧ q.2.2.2.1 = r2 ∧ (mi_fin r1 r2 = false ∨ (q.2.2.2.2 = false ∧ (mi_y k).name = "<init>" ∧ r1 = mi_own k ∧ (mi_own k) ≤ 12)))
      | .ldc_w ix => mi_KSL.any fun q => decide (q.1 = mi_own k ∧ q.2.1 = ix ∧ q.2.2 = r1)
      | .ldc2_w ix => decide (mi_own k = 8 ∧ ix = 45)
      | .goto o => decide ((pc : Int) + o = (r1 : Int))
      | .ifCond _ o => decide ((pc : Int) + o = (r1 : Int))
      | .if_icmp _ o => decide ((pc : Int) + o = (r1 : Int))
      | .new ix => (mi_NSL.any fun q => decide (q.1 = mi_own k ∧ q.2.1 = ix ∧ q.2.2 = r1)) && decide (vwCl[r1]?.map (fun q => q.2.2) = some r2)
      | .newarray a => decide ((r1 = 0 ∧ newarray.typeOf a = .int) ∨ (r1 = 1 ∧ newarray.typeOf a = .boolean))
      | .anewarray ix => mi_NSL.any fun q => decide (q.1 = mi_own k ∧ q.2.1 = ix ∧ q.2.2 = 6)
      | .invokevirtual ix => (mi_CSL.any fun q => decide (q.1 = mi_own k ∧ q.2.1 = ix ∧ q.2.2 = r1)) && decide (r1 < mi_nM ∧ r2 = mi_na r1 ∧ r3 = mi_own r1 ∧ r3 ≤ 12 ∧ r1 ∈ mi_VSL ∧ mi_mc r1 = 0 ∧ mi_sl r1 = 0)
      | .invokestatic ix => if r3 = 1 then mi_XmaxL.any fun q => decide (q.1 = mi_own k ∧ q.2 = ix) else if r3 = 2 then mi_XminL.any fun q => decide (q.1 = mi_own k ∧ q.2 = ix) else (mi_CSL.any fun q => decide (q.1 = mi_own k ∧ q.2.1 = ix ∧ q.2.2 = r1)) && decide (r1 < mi_nM ∧ r2 = mi_na r1 ∧ r1 ∈ mi_SSL ∧ mi_mc r1 = 0 ∧ mi_sl r1 = 0)
      | .invokespecial ix => if r1 = 999 then mi_OSL.any fun q => decide (q.1 = mi_own k ∧ q.2 = ix) else (mi_CSL.any fun q => decide (q.1 = mi_own k ∧ q.2.1 = ix ∧ q.2.2 = r1)) && decide (r1 < mi_nM ∧ r2 = mi_na r1 ∧ r1 ∈ mi_INL ∧ mi_rt r1 = none)
      | _ => true
theorem mi_csb {k ix r1 : Nat} (h : (mi_CSL.any fun q => decide (q.1 = mi_own k ∧ q.2.1 = ix ∧ q.2.2 = r1)) = true) : mi_cs (mi_own k) ix r1 := by
  obtain ⟨q, hq, hd⟩ := List.any_eq_true.mp h
  obtain ⟨e1, e2, e3⟩ := of_decide_eq_true hd
  have := mi_CSL_ok q hq
  rwa [e1, e2, e3] at this
theorem mi_stb_ok {k : Nat} {e : mi_I} (h : mi_stb k e = true) : mi_st k e := by
  obtain ⟨pc, i, len, r1, r2, r3⟩ := e
  have two : ∀ {a b : Bool}, (a && b) = true → a = true ∧ b = true := fun h => by simpa using h
  cases i with
  | tableswitch => exact trivial
  | getfield ix =>
    obtain ⟨h1, h2⟩ := two h
    refine ⟨of_decide_eq_true h1, ?_⟩
    obtain ⟨q, hq, hd⟩ := List.any_eq_true.mp h2
    obtain ⟨e1, e2, e3, e4⟩ := of_decide_eq_true hd
    have := mi_FSL_ok q hq
    rw [e1, e2, e3, e4] at this
    exact ⟨_, this⟩
  | putfield ix =>
    obtain ⟨h1, h2⟩ := two h
    refine ⟨of_decide_eq_true h1, ?_⟩
    obtain ⟨q, hq, hd⟩ := List.any_eq_true.mp h2
    obtain ⟨e1, e2, e3, e4, e5⟩ := of_decide_eq_true hd
    have := mi_FSL_ok q hq
    rw [e1, e2, e3, e4] at this
    exact ⟨_, this, e5⟩
  | ldc_w ix =>
    obtain ⟨h1, h2⟩ := two h
    refine ⟨of_decide_eq_true h1, ?_⟩
    obtain ⟨q, hq, hd⟩ := List.any_eq_true.mp h2
    obtain ⟨e1, e2, e3⟩ := of_decide_eq_true hd
    have := mi_KSL_ok q hq
    rw [e1, e2, e3] at this
    exact this
  | ldc2_w ix =>
    obtain ⟨h1, h2⟩ := two h
    refine ⟨of_decide_eq_true h1, ?_⟩
    obtain ⟨e1, e2⟩ := of_decide_eq_true h2
    show Cond.constantLong (mi_cn (mi_own k)) ix (-1) ∈ mi_gd
    rw [e1, e2]
    exact ks_long
  | goto o =>
    obtain ⟨h1, h2⟩ := two h
    exact ⟨of_decide_eq_true h1, of_decide_eq_true h2⟩
  | ifCond cd o =>
    obtain ⟨h1, h2⟩ := two h
    exact ⟨of_decide_eq_true h1, of_decide_eq_true h2⟩
  | if_icmp cd o =>
    obtain ⟨h1, h2⟩ := two h
    exact ⟨of_decide_eq_true h1, of_decide_eq_true h2⟩
  | new ix =>
    obtain ⟨h1, h2⟩ := two h
    refine ⟨of_decide_eq_true h1, ?_⟩
    obtain ⟨h2, h3⟩ := two h2
    obtain ⟨q, hq, hd⟩ := List.any_eq_true.mp h2
    obtain ⟨e1, e2, e3⟩ := of_decide_eq_true hd
    obtain ⟨z, hz1, hz2⟩ := mi_NSL_ok q hq
    rw [e3] at hz1
    rw [e1, e2] at hz2
    have h4 := of_decide_eq_true h3
    rw [hz1] at h4
    exact ⟨z, hz1, (Option.some.inj h4).symm, hz2⟩
  | newarray a =>
    obtain ⟨h1, h2⟩ := two h
    refine ⟨of_decide_eq_true h1, ?_⟩
    have h3 := of_decide_eq_true h2
    refine ⟨?_, h3⟩
    rcases h3 with ⟨-, h3⟩ | ⟨-, h3⟩
    · rw [h3]; exact ar_int
    · rw [h3]; exact ar_bool
  | anewarray ix =>
    obtain ⟨h1, h2⟩ := two h
    refine ⟨of_decide_eq_true h1, ?_⟩
    obtain ⟨q, hq, hd⟩ := List.any_eq_true.mp h2
    obtain ⟨e1, e2, e3⟩ := of_decide_eq_true hd
    obtain ⟨z, hz1, hz2⟩ := mi_NSL_ok q hq
    rw [e3] at hz1
    rw [e1, e2] at hz2
    cases hz1
    exact hz2
  | invokevirtual ix =>
    obtain ⟨h1, h2⟩ := two h
    refine ⟨of_decide_eq_true h1, ?_⟩
    obtain ⟨h2, h3⟩ := two h2
    obtain ⟨e1, e2, e3, e4, e5, e6, e7⟩ := of_decide_eq_true h3
    obtain ⟨g1, g2⟩ := mi_VSL_ok r1 e5
    exact ⟨mi_csb h2, e1, e2, e3, e4, g1, g2, e6, e7⟩
  | invokestatic ix =>
    obtain ⟨h1, h2⟩ := two h
    refine ⟨of_decide_eq_true h1, ?_⟩
    by_cases hm1 : r3 = 1
    · simp only [hm1, if_true] at h2 ⊢
      obtain ⟨q, hq, hd⟩ := List.any_eq_true.mp h2
      obtain ⟨e1, e2⟩ := of_decide_eq_true hd
      have := mi_XmaxL_ok q hq
      rw [e1, e2] at this
      exact ⟨this, xo_max⟩
    by_cases hm2 : r3 = 2
    · simp only [hm2, show ¬ (2 = 1) from by decide, if_true, if_false] at h2 ⊢
      obtain ⟨q, hq, hd⟩ := List.any_eq_true.mp h2
      obtain ⟨e1, e2⟩ := of_decide_eq_true hd
      have := mi_XminL_ok q hq
      rw [e1, e2] at this
      exact ⟨this, xo_min⟩
    simp only [hm1, hm2, if_false] at h2 ⊢
    obtain ⟨h2, h3⟩ := two h2
    obtain ⟨e1, e2, e5, e6, e7⟩ := of_decide_eq_true h3
    exact ⟨mi_csb h2, e1, e2, mi_SSL_ok r1 e5, e6, e7⟩
  | invokespecial ix =>
    obtain ⟨h1, h2⟩ := two h
    refine ⟨of_decide_eq_true h1, ?_⟩
    by_cases h9 : r1 = 999
    · simp only [h9, if_true] at h2 ⊢
      obtain ⟨q, hq, hd⟩ := List.any_eq_true.mp h2
      obtain ⟨e1, e2⟩ := of_decide_eq_true hd
      have := mi_OSL_ok q hq
      rw [e1, e2] at this
      exact ⟨this, ob_1, ob_2⟩
    · simp only [h9, if_false] at h2 ⊢
      obtain ⟨h2, h3⟩ := two h2
      obtain ⟨e1, e2, e3, e4⟩ := of_decide_eq_true h3
      obtain ⟨g1, g2⟩ := mi_INL_ok r1 e3
      exact ⟨mi_csb h2, e1, e2, g1, g2, e4⟩
  | _ =>
    obtain ⟨h1, h2⟩ := two h
    exact ⟨of_decide_eq_true h1, trivial⟩
theorem mi_tbk (k : Nat) (h : (mi_tab k).all (mi_stb k) = true) (hd : ∀ e ∈ mi_tab k, decode (mi_code k) e.1 = .ok (e.2.1, e.2.2.1)) (hc : mi_ctg (mi_tab k) = true) : mi_TB k := ⟨fun e he => mi_stb_ok (List.all_eq_true.mp h e he), hd, hc⟩
