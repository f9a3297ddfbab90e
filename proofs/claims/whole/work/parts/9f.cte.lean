/-! ===== the first graph; both desks as they are made ===== -/
section CTE
variable {C : mi_C} {k : Nat} {cuts : List Nat} {Q : mi_R} {pc kc ks : Nat} {L : mi_L} {S : List Value} {M : mi_M} {a b c n t d : Nat}
theorem up_self {e : mi_E} (h : M.2 a = e) : mi_up M a e = M := by
  refine Prod.ext rfl (funext fun j => ?_)
  show (if j = a then e else M.2 j) = M.2 j
  by_cases q : j = a
  · rw [if_pos q, q, h]
  · rw [if_neg q]
theorem wp_same {e e' : mi_E} (hb : M.2 a = e) (he : e' = e) (h : mi_WP C k cuts Q pc L S kc ks M) : mi_WP C k cuts Q pc L S kc ks (mi_up M a e') := by
  rw [he, up_self hb]; exact h
theorem ob_of {fs : List Value} {K : List Value → Prop} (hb : M.2 a = .inr (c, fs)) (h : K fs) : mi_obj M a c K := by
  unfold mi_obj
  rw [hb]
  exact ⟨rfl, h⟩
theorem in_of {f : Nat → Int32} {K : Nat → (Nat → Int32) → Prop} (hb : M.2 a = .inl (t, n, .inl f)) (h : K n f) : mi_ints M a t K := by
  unfold mi_ints
  rw [hb]
  exact ⟨rfl, h⟩
theorem ln_of {f : Nat → Int32} {K : Nat → Prop} (hb : M.2 a = .inl (0, n, .inl f)) (h : K n) : mi_len M a K := by
  unfold mi_len
  rw [hb]
  exact ⟨Or.inl rfl, h⟩
theorem fz_5 (hx : M.2 a = .inl (0, 20, .inl fun _ => 0)) (h : Q none M) : ∀ (m i : Nat), 20 - i = m → i ≤ 20 → mi_WP (mi_cal d) 192 [5, 14] Q 5 [some (.ref a), some (.int (Int32.ofInt 0)), some (.int (nI i)), some (.int (nI 20))] [] 0 0 M := by
  intro m
  induction m with
  | zero =>
    intro i h1 h2
    have hi : i = 20 := by omega
    subst hi
    exact mi_fold ⟨fun q => absurd q (nI_nlt (Nat.le_refl _) (by decide)), fun _ => ⟨rfl, Nat.zero_le _, Nat.zero_le _, h⟩⟩
  | succ m ih =>
    intro i h1 h2
    have nx := ih (i + 1) (by omega) (by omega)
    rw [← nI_add, ← ci_1] at nx
    have h14 : mi_WP (mi_cal d) 192 [5, 14] Q 14 [some (.ref a), some (.int (Int32.ofInt 0)), some (.int (nI i)), some (.int (nI 20))] [] 0 0 M := mi_fold nx
    have hu : upd (fun _ => (0 : Int32)) (nI i).toNatClampNeg (Int32.ofInt 0) = fun _ => 0 := funext fun j => by
      unfold upd
      split <;> rfl
    exact mi_fold ⟨fun _ => in_of hx ⟨in_N (by omega) (by decide), wp_same hx (by rw [hu]) h14⟩, fun q => absurd (nI_lt (show i < 20 by omega) (by decide)) q⟩
theorem fz (hx : M.2 a = .inl (0, 20, .inl fun _ => 0)) (h : Q none M) : mi_cal (d + 1) 192 [.ref a, .int (Int32.ofInt 0)] M Q :=
  ⟨[5, 14], Q, fun _ _ h => h, mi_fold ⟨Nat.le_of_ble_eq_true rfl, ln_of hx ⟨Nat.le_of_ble_eq_true rfl, fz_5 hx h 20 0 rfl (by decide)⟩⟩⟩
theorem beg0 {x1 x2 x3 : Nat} (hb : M.2 b = .inr (4, [.ref x1, .ref x2, .ref x3, .int 0, .int 0])) (hx : M.2 x3 = .inl (0, 20, .inl fun _ => 0)) (h : Q none M) : mi_cal (d + 2) 40 [.ref b, .int (Int32.ofInt 0)] M Q := by
  have h27 : mi_WP (mi_cal (d + 1)) 40 [14, 19, 27] Q 27 [some (.ref b), some (.int (Int32.ofInt 0))] [] 0 0 M := mi_fold ⟨rfl, Nat.zero_le _, Nat.zero_le _, h⟩
  have h19 : mi_WP (mi_cal (d + 1)) 40 [14, 19, 27] Q 19 [some (.ref b), some (.int (Int32.ofInt 0))] [] 0 0 M := mi_fold (ob_of hb ⟨Nat.le_of_ble_eq_true rfl, rfl, rfl, fz hx h27⟩)
  have h14 : mi_WP (mi_cal (d + 1)) 40 [14, 19, 27] Q 14 [some (.ref b), some (.int (Int32.ofInt 0))] [] 0 0 M := mi_fold ⟨trivial, ob_of hb ⟨Nat.le_of_ble_eq_true rfl, wp_same hb rfl h19⟩⟩
  exact ⟨[14, 19, 27], Q, fun _ _ h => h, mi_fold ⟨rfl, rfl, trivial, ob_of hb ⟨Nat.le_of_ble_eq_true rfl, wp_same hb rfl h14⟩⟩⟩
theorem mo_in {cs0 : List mi_E} {fs : List Value} {l : List shT} {j : Nat} {q : shT} (h : l[j]? = some q) : (mo cs0 c fs l).2 (cs0.length + (j + 1)) = ce q := of_at (by
  rw [List.getElem?_append_right (by omega), Nat.add_sub_cancel_left, List.getElem?_cons_succ, List.getElem?_map, h]; rfl)
end CTE
def fs_0 : List Value := [.ref 1, .ref 5, .ref 9, .ref 160, .ref 202, .ref 208, .ref 213, .ref 225, .int 0, .int 0, .int 0, .int 0, .int 2]
def cs_1 : List mi_E := .inr (11, fs_0) :: (cl_96_9 0).map ce
theorem len_1 : cs_1.length = 229 := by rw [cs_1, List.length_cons, List.length_map, ln_96_9]
/-- the constructor of the class's desk -/
theorem ct_96 {d : Nat} {Q : mi_R} (h : Q none (mi_of cs_1)) : mi_cal (d + 4) 96 [.ref 0] (mi_of [.inr (11, mi_dfs 11 13)]) Q := by
  refine cu_96 (cs0 := []) ?_
  have h1 : (cl_96_9 0)[0]? = some (0, 4, sh_39 1) := by decide +kernel
  have h2 : (cl_96_9 0)[3]? = some (1, 0, [20]) := by decide +kernel
  have m1 := mo_in (cs0 := []) (c := 11) (fs := fs_0) h1
  have m2 := mo_in (cs0 := []) (c := 11) (fs := fs_0) h2
  exact mi_fold ⟨rfl, Nat.le_of_ble_eq_true rfl, rfl, rfl, ob_of m1 trivial, beg0 m1 m2 ⟨rfl, Nat.le_of_ble_eq_true rfl, Nat.le_of_ble_eq_true rfl, h⟩⟩
def W_0 : fl_W := fl_uw (fun _ _ => 0) 0 12 2
theorem sh_all : cl_96_9 0 ++ ((0, 12, sh_123 229) :: nc_123 229) = (List.range 260).map fun k => fl_sh (k + 1) := by decide +kernel
theorem fl_out : ∀ k, k < 280 → 261 ≤ k → fl_sh k = (9, 0, []) := by decide +kernel
theorem ce_fl {k : Nat} (h : k ≠ 0) : ce (fl_sh k) = fl_cell 0 W_0 k := by
  unfold ce fl_cell
  rw [show W_0 k = fun _ => 0 from uw_n h]
  rfl
theorem fl_fresh : mo cs_1 12 (fl_fl 0 (fun _ => 0) 0 (sh_123 229)) (nc_123 229) = fl_mk 0 W_0 := by
  have e : cs_1 ++ ((.inr (12, fl_fl 0 (fun _ => 0) 0 (sh_123 229)) : mi_E) :: (nc_123 229).map ce) = .inr (11, fs_0) :: ((List.range 260).map fun k => fl_sh (k + 1)).map ce := by
    rw [← sh_all, List.map_append, List.map_cons]; rfl
  unfold mo
  rw [e]
  refine Prod.ext (by simp [mi_of, fl_mk, fl_N]) (funext fun k => ?_)
  show List.getD _ k mi_dead = fl_cell 0 W_0 k
  rw [List.getD_eq_getElem?_getD]
  cases k with
  | zero => rfl
  | succ k =>
    rw [List.getElem?_cons_succ, List.getElem?_map, List.getElem?_map, ← ce_fl (Nat.succ_ne_zero k)]
    rcases Nat.lt_or_ge k 260 with q | q
    · rw [List.getElem?_range q]; rfl
    · rw [List.getElem?_eq_none (by simp; omega)]
      have : fl_sh (k + 1) = (9, 0, []) := by
        rcases Nat.lt_or_ge (k + 1) 280 with z | z
        · exact fl_out _ z (by omega)
        · exact fl_big z
      rw [this]; rfl
/-- the constructor of the reference -/
theorem ct_ref {d : Nat} {Q : mi_R} (h : Q none (fl_mk 0 W_0)) : mi_cal (d + 1) 123 [.ref 229] (mi_push (mi_of cs_1) (.inr (12, mi_dfs 12 49))) Q := by
  have := ct_123.callO (d := d + 1) (R := Q) (cs := cs_1) (by
    rw [len_1]
    rw [← fl_fresh] at h
    exact h)
  rw [len_1] at this
  exact this
theorem w0_z {a k : Nat} (h : a ≠ 0 ∨ k ≠ 12) : W_0 a k = 0 := by
  unfold W_0
  by_cases e : a = 0
  · subst e; rw [uw_m (h.resolve_left fun z => z rfl)]
  · rw [uw_n e]
theorem jj_0 : JJ W_0 := by
  refine ⟨0, [], none, false, none, false, ck_new ⟨by decide, by decide, ⟨fun p hp => absurd hp List.not_mem_nil, List.nodup_nil⟩, w0_z (Or.inl (by decide)), w0_z (Or.inl (by decide)), fun i p hp => by simp at hp, fun v hv => ?_⟩ (w0_z (Or.inr (by decide))) (w0_z (Or.inr (by decide))) (w0_z (Or.inr (by decide))) (w0_z (Or.inr (by decide))) uw_s, rk_new ⟨by decide, by decide, ⟨fun p hp => absurd hp List.not_mem_nil, List.nodup_nil⟩, w0_z (Or.inl (by decide)), w0_z (Or.inl (by decide)), fun i p hp => by simp at hp⟩ (w0_z (Or.inl (by decide))) (w0_z (Or.inl (by decide))) (w0_z (Or.inl (by decide))) (w0_z (Or.inl (by decide))), pk_new⟩
  rw [w0_z (Or.inl (by decide))]
  exact BS.zero.congr fun i _ => by rw [adj_nil]
