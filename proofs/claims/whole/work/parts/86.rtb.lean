/-! ===== Reference: draw, at, could ===== -/
def dwF : List Nat := 15 :: 45 :: 47 :: lyF
def dwL : List Nat := 239 :: (moL ++ mpL ++ lyL)
section RTB
variable {d : Nat} {Q : fl_R} {W : fl_W} {V : Nat} {es : gE} {R : Nat → List Nat}
theorem rf_pof {o : List Nat} (hn : o.Nodup) (hl : o.length = V) (ho : ∀ u, u ∈ o → u < V) : ∀ (n k : Nat) (W : fl_W), V - k = n → k ≤ V → RfG W V es → (∀ i x, o[i]? = some x → W 256 i = nI x) → (∀ i x, i < k → o[i]? = some x → W 239 x = nI i) → (∀ W', (∀ i x, o[i]? = some x → W' 239 x = nI i) → W' 229 15 = 1 → EqF [15] [239] W W' → Q (some (.int 1)) W') → hd_186_48 d Q (nI k) W := by
  intro n
  induction n with
  | zero =>
    intro k W h1 h2 hG hord hp h
    have hV := hG.1
    refine sx_186_48 _ W ⟨fun q => absurd q ?_, fun _ W5 e5 => ?_⟩
    · rw [hG.2.2.2.1]; exact nI_nlt (by omega) (by omega)
    · refine h W5 (fun i x hi => ?_) (by rw [e5, uw_s]; rfl) (by rw [e5]; exact EqF.uwF (by simp))
      have := (List.getElem?_eq_some_iff.mp hi).1
      rw [e5, uw_n (by decide)]
      exact hp i x (by omega) hi
  | succ n ih =>
    intro k W h1 h2 hG hord hp h
    have hV := hG.1
    have hk : k < o.length := by omega
    have hg := List.getElem?_eq_getElem hk
    have hx := ho _ (List.getElem_mem hk)
    refine sx_186_48 _ W ⟨fun _ => ⟨in_N (by omega) (by omega), ?_⟩, fun q => absurd ?_ q⟩
    · rw [nI_clamp (by omega), hord k _ hg, nI_clamp (by omega)]
      refine ⟨in_N (by omega) (by omega), fun W6 e6 => ?_⟩
      have f6 : EqF [15] [239] W W6 := by rw [e6]; exact EqF.uwA (by simp) (by decide)
      rw [ci_1, nI_add]
      refine ih (k + 1) W6 (by omega) (by omega) (hG.fr f6 (by decide) (by decide) (by decide) (by decide)) (fun i x hi => by rw [f6.1 256 (by decide) (by decide)]; exact hord i x hi) (fun i x hik hi => ?_) fun W' m1 m2 m3 => h W' m1 m2 (f6.tr m3)
      rw [e6]
      by_cases e : i = k
      · subst e
        rw [hg] at hi; cases hi
        exact uw_s
      · have hne : x ≠ o[k] := fun ex => e ((List.getElem?_inj (List.getElem?_eq_some_iff.mp hi).1 hn).mp (by rw [hi, hg, ex]))
        rw [uw_m hne]
        exact hp i x (by omega) hi
    · rw [hG.2.2.2.1]; exact nI_lt (by omega) (by omega)
/-- draw -/
theorem rf_draw (hG : RfG W V es)
    (h0 : ∀ W', (¬ (3 ≤ V ∧ es.length + 6 = 3 * V) ∨ layG V es = none) → EqF laF ipL W W' → Q (some (.int 0)) W')
    (hy : ∀ W' R, 3 ≤ V → es.length + 6 = 3 * V → layG V es = some R → TOK es R → DRK V es R → W' 229 9 = 1 → RT W' V R → W' 229 11 = W 229 11 → W' 229 15 = 1 → (∀ i x, (ordL V es R)[i]? = some x → W' 239 x = nI i) → (∀ u, u < V → W' 237 u = (plF (dB es) (dD V es R)).1 u ∧ W' 238 u = (plF (dB es) (dD V es R)).2.1 u) → EqF dwF dwL W W' → Q (some (.int 1)) W') : fl_cal (d + 8) 186 [.ref 229] W Q := by
  have hV := hG.1
  have hE := hG.2.1
  have hO := hG.2.2.1
  refine sx_186 W ?_
  rw [hG.2.2.2.1, hG.2.2.2.2.1, ci_3]
  refine ⟨fun z => ?_, fun z => ⟨fun z2 => ?_, fun z2 => ?_⟩⟩
  · rw [nI_ltI (by omega) (by omega)] at z
    exact h0 W (Or.inl fun q => by omega) EqF.rf
  · rw [nI_ltI (by omega) (by omega)] at z
    rw [nI_mul, cb_6, nI_subN (by omega), nI_eq (by omega) (by omega)] at z2
    have hfull : es.length + 6 = 3 * V := by omega
    refine rf_isPlane hG (fun W1 R1 j1 jb j2 => ⟨fun q => absurd q (by decide), fun _ => ?_⟩) fun W1 j1 j2 => ⟨fun _ => h0 W1 (Or.inr j1) j2, fun q => absurd rfl q⟩
    have f1 : EqF dwF dwL W W1 := j2.mono (by decide) (by decide)
    refine rf_lay (hG.fr f1 (by decide) (by decide) (by decide) (by decide)) (fun W2 R k1 kb k2 k3 k4 k5 k6 => ?_) fun W2 k1 => by rw [j1] at k1; cases k1
    obtain ⟨L, hL⟩ := kb
    obtain ⟨⟨rs, hT⟩, hall⟩ := tg_of hV (by omega) hO hL k1 hfull
    obtain ⟨hK, -⟩ := drk_of hT hall (by omega) hfull
    have f2 : EqF dwF dwL W W2 := f1.tr (k6.mono (by decide) (by decide))
    have hG2 := hG.fr f2 (by decide) (by decide) (by decide) (by decide)
    refine rf_makeOrder hT hall (by omega) hfull (by rw [k3]; decide) hG2 k4 fun W3 m1 m2 => ?_
    have f3 : EqF dwF dwL W W3 := f2.tr (m2.mono (by decide) (by decide))
    refine rf_makePlaces hK (by omega) (hG.fr f3 (by decide) (by decide) (by decide) (by decide)) m1 fun W4 n1 n2 => ?_
    have f4 : EqF dwF dwL W W4 := f3.tr (n2.mono (by decide) (by decide))
    obtain ⟨o1, o2, o3, o4⟩ := hK.all (by omega)
    show hd_186_48 (d + 7) Q (Int32.ofInt 0) W4
    rw [ci_0]
    refine rf_pof o1 o2 o3 V 0 W4 (by omega) (Nat.zero_le _) (hG.fr f4 (by decide) (by decide) (by decide) (by decide)) (fun i x hi => by rw [n2.1 256 (by decide) (by decide)]; exact m1 i x hi) (fun i x hi => by omega) fun W5 q1 q2 q3 => ?_
    refine hy W5 R (by omega) hfull k1 k2 hK ?_ ?_ ?_ q2 q1 (fun u hu => ?_) (f4.tr (q3.mono (by decide) (by decide)))
    · rw [q3.2 9 (by decide), n2.2 9 (by decide), m2.2 9 (by decide)]; exact k3
    · exact ((k4.fr m2 (by decide) (by decide)).fr n2 (by decide) (by decide)).fr q3 (by decide) (by decide)
    · rw [q3.2 11 (by decide), n2.2 11 (by decide), m2.2 11 (by decide), k5, j2.2 11 (by decide)]
    · rw [q3.1 237 (by decide) (by decide), q3.1 238 (by decide) (by decide)]
      exact n1 u hu
  · rw [nI_ltI (by omega) (by omega)] at z
    rw [nI_mul, cb_6, nI_subN (by omega)] at z2
    refine h0 W (Or.inl fun q => z2 ?_) EqF.rf
    congr 1
    omega
/-- at -/
theorem rf_at {v w : Int32} (hG : RfG W V es) (h0 : W 229 15 = 0 → Q (some (.int (-1))) W) (hy : W 229 15 ≠ 0 → Q (some (.int (if ixB v V then (if w = 0 then W 237 v.toNatClampNeg else if w = 1 then W 238 v.toNatClampNeg else if w = 2 then W 239 v.toNatClampNeg else -1) else -1))) W) : fl_cal (d + 3) 187 [.ref 229, .int v, .int w] W Q := by
  have hV := hG.1
  refine sx_187 _ _ W ⟨h0, fun z => rf_isV hG ?_⟩
  have := hy z
  cases hx : ixB v V with
  | false => rw [hx] at this; exact ⟨fun _ => this, fun z => absurd rfl z⟩
  | true =>
    obtain ⟨u, hu, rfl⟩ := ixB_ex (by omega) hx
    rw [hx] at this
    simp only [if_true] at this
    have iv : vp_in (nI u) 20 := in_N (by omega) (by omega)
    refine ⟨fun z => absurd z (by decide), fun _ => ⟨fun z1 => ⟨iv, ?_⟩, fun z1 => ⟨fun z2 => ⟨iv, ?_⟩, fun z2 => ⟨fun z3 => ⟨iv, ?_⟩, fun z3 => ?_⟩⟩⟩⟩
    · rw [if_pos z1] at this; exact this
    · rw [if_neg z1, if_pos (show w = 1 from z2)] at this; exact this
    · rw [if_neg z1, if_neg (show ¬ w = 1 from z2), if_pos (show w = 2 from z3)] at this; exact this
    · rw [if_neg z1, if_neg (show ¬ w = 1 from z2), if_neg (show ¬ w = 2 from z3)] at this; exact this
/-- could -/
theorem rf_could {u v : Nat} (hG : RfG W V es) (hu : u < V) (hv : v < V) (huv : u ≠ v) (hn : adj es u v = false) (hl : es.length < 60) (h : ∀ W', ((layG V (es ++ [(min u v, max u v)])).isSome = true → ∃ L, BlkOK V (es ++ [(min u v, max u v)]) L) → RfG W' V es → EqF laF (230 :: 231 :: ipL) W W' → Q (some (.int (if (layG V (es ++ [(min u v, max u v)])).isSome then 1 else 0))) W') : fl_cal (d + 7) 174 [.ref 229, .int (nI u), .int (nI v)] W Q := by
  refine sx_174 _ _ W (rf_put hG hu hv huv hn hl fun W1 k1 k2 => ?_)
  have fin : ∀ (W2 : fl_W) (x : Int32), (x = 0 ∨ x = 1) → (x = if (layG V (es ++ [(min u v, max u v)])).isSome then 1 else 0) → ((layG V (es ++ [(min u v, max u v)])).isSome = true → ∃ L, BlkOK V (es ++ [(min u v, max u v)]) L) → EqF laF ipL W1 W2 → ∀ W3 : fl_W, W3 = fl_uw W2 229 1 ((W2 229 1) - (Int32.ofInt 1)) → (x = 0 ∨ x = 1) ∧ Q (some (.int x)) W3 := fun W2 x hx hx2 hL hE W3 e3 => by
    refine ⟨hx, ?_⟩
    rw [hx2]
    have hG2 := k1.fr hE (by decide) (by decide) (by decide) (by decide)
    have h1 : W2 229 1 = nI (es.length + 1) := by rw [hG2.2.2.2.2.1]; simp
    rw [h1, nI_sub1 (by omega)] at e3
    refine h W3 hL ⟨hG.1, by omega, hG.2.2.1, ?_, ?_, fun i p hp => ?_⟩ ⟨fun a a1 a2 => ?_, fun k hk => ?_⟩
    · rw [e3, uw_m (by decide)]; exact hG2.2.2.2.1
    · rw [e3, uw_s]; rfl
    · have hil := (List.getElem?_eq_some_iff.mp hp).1
      rw [e3, uw_n (by decide), uw_n (by decide)]
      exact hG2.2.2.2.2.2 i p (by rw [List.getElem?_append_left hil]; exact hp)
    · rw [e3, uw_n a1, hE.1 a a1 (fun q => a2 (List.mem_cons_of_mem _ (List.mem_cons_of_mem _ q))), k2.1 a a1 (fun q => a2 (by simp at q; rcases q with w | w <;> rw [w] <;> simp))]
    · by_cases e : k = 1
      · subst e
        rw [e3, uw_s, hG.2.2.2.2.1]; rfl
      · rw [e3, uw_m e, hE.2 k hk, k2.2 k (by simpa using e)]
  refine rf_isPlane k1 (fun W2 R' j1 jb j2 => fin W2 1 (Or.inr rfl) (by rw [j1]; rfl) (fun _ => jb) j2) fun W2 j1 j2 => fin W2 0 (Or.inl rfl) (by rw [j1]; rfl) (fun z => by rw [j1] at z; cases z) j2
end RTB
