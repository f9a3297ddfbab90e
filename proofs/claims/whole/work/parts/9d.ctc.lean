/-! ===== constructors with rows of rows ===== -/
def rfc (N i b : Nat) : mi_E := .inl (2, N, .inr (.inr (.inr (.inr fun j => if j < i then some (b + 2 * j) else none))))
def rws (b : Nat) : Nat → List shT
  | 0 => []
  | i + 1 => rws b i ++ ((0, 6, sh_row (b + 2 * i)) :: nc_row 20)
theorem rws_len {b : Nat} : ∀ i, (rws b i).length = 2 * i
  | 0 => rfl
  | i + 1 => by rw [rws, List.length_append, rws_len i]; rfl
def mx (cs0 : List mi_E) (c : Nat) (fs : List Value) (e : mi_E) (l : List shT) : mi_M := mi_of (cs0 ++ (.inr (c, fs) :: e :: l.map ce))
theorem rfc_0 {N b : Nat} : rfc N 0 b = .inl (2, N, .inr (.inr (.inr (.inr fun _ => none)))) := by
  unfold rfc
  have : (fun j => if j < 0 then some (b + 2 * j) else none) = fun _ : Nat => (none : Option Nat) := funext fun j => if_neg (by omega)
  rw [this]
section CTC
variable {cs0 : List mi_E} {c : Nat} {fs fs' : List Value} {e e' : mi_E} {l : List shT} {q : shT} {K : List Value → Prop} {C : mi_C} {k : Nat} {cuts : List Nat} {Q : mi_R} {pc kc ks N b i : Nat} {L : mi_L} {S : List Value}
theorem mx_1 : (mx cs0 c fs e l).1 = cs0.length + (l.length + 2) := by simp [mx, mi_of]
theorem mx_at : (mx cs0 c fs e l).2 cs0.length = .inr (c, fs) := of_at (by rw [List.getElem?_append_right (Nat.le_refl _), Nat.sub_self]; rfl)
theorem mx_e : (mx cs0 c fs e l).2 (cs0.length + 1) = e := of_at (by rw [List.getElem?_append_right (by omega), Nat.add_sub_cancel_left]; rfl)
theorem mx_up : mi_up (mx cs0 c fs e l) cs0.length (.inr (c, fs')) = mx cs0 c fs' e l := by
  unfold mx
  rw [of_up (by simp)]
  congr 1
  rw [List.set_append_right _ _ (Nat.le_refl _), Nat.sub_self]; rfl
theorem mx_upe : mi_up (mx cs0 c fs e l) (cs0.length + 1) e' = mx cs0 c fs e' l := by
  unfold mx
  rw [of_up (by simp)]
  congr 1
  rw [List.set_append_right _ _ (by omega), Nat.add_sub_cancel_left]; rfl
theorem mx_push : mi_push (mx cs0 c fs e l) (ce q) = mx cs0 c fs e (l ++ [q]) := by
  unfold mx
  rw [of_push]
  simp
theorem ob_mx (h : K fs) : mi_obj (mx cs0 c fs e l) cs0.length c K := by
  unfold mi_obj
  rw [mx_at]
  exact ⟨rfl, h⟩
theorem ob_mxa (h : K fs) : mi_obj (mi_push (mx cs0 c fs e l) (ce q)) cs0.length c K := by
  rw [mx_push]; exact ob_mx h
theorem mx_v {l0 : List shT} {fs0 : List Value} {m : Nat} (hm : m = l0.length + 2) : Value.ref (mx cs0 c fs0 e l0).1 = .ref (cs0.length + m) := by rw [mx_1, hm]
theorem wp_mxa {v : Value} (hv : fs' = fs.set pc v) {pc' : Nat} (h : mi_WP C k cuts Q pc' L S kc ks (mx cs0 c fs' e (l ++ [q]))) : mi_WP C k cuts Q pc' L S kc ks (mi_up (mi_push (mx cs0 c fs e l) (ce q)) cs0.length (.inr (c, fs.set pc v))) := by
  rw [mx_push, mx_up, ← hv]; exact h
theorem wp_mx {v : Value} (hv : fs' = fs.set pc v) {pc' : Nat} (h : mi_WP C k cuts Q pc' L S kc ks (mx cs0 c fs' e l)) : mi_WP C k cuts Q pc' L S kc ks (mi_up (mx cs0 c fs e l) cs0.length (.inr (c, fs.set pc v))) := by
  rw [mx_up, ← hv]; exact h
theorem mo_ref : mi_push (mo cs0 c fs []) (.inl (2, N, .inr (.inr (.inr (.inr fun _ => none))))) = mx cs0 c fs (rfc N 0 b) [] := by
  rw [rfc_0]
  unfold mo mx
  rw [of_push]
  simp
theorem ob_ref (h : K fs) : mi_obj (mi_push (mo cs0 c fs []) (.inl (2, N, .inr (.inr (.inr (.inr fun _ => none)))))) cs0.length c K := by
  rw [mo_ref (b := 0)]; exact ob_mx h
theorem wp_ref {v : Value} (hv : fs' = fs.set pc v) {pc' : Nat} (h : mi_WP C k cuts Q pc' L S kc ks (mx cs0 c fs' (rfc N 0 b) [])) : mi_WP C k cuts Q pc' L S kc ks (mi_up (mi_push (mo cs0 c fs []) (.inl (2, N, .inr (.inr (.inr (.inr fun _ => none)))))) cs0.length (.inr (c, fs.set pc v))) := by
  rw [mo_ref (b := b), mx_up, ← hv]; exact h
theorem CtS.callO {d kY cY nY : Nat} {av : List Value} {sh : Nat → List Nat} {nc : Nat → List shT} (h : CtS d kY cY nY av sh nc) {R : mi_R} {cs : List mi_E} (hK : R none (mi_of (cs ++ ((0, cY, sh cs.length) :: nc cs.length).map ce))) : mi_cal d kY (.ref cs.length :: av) (mi_push (mi_of cs) (.inr (cY, mi_dfs cY nY))) R := by
  rw [of_push]
  exact h cs R hK
theorem CtS.callX {d kY cY nY : Nat} {av : List Value} {sh : Nat → List Nat} {nc : Nat → List shT} (h : CtS d kY cY nY av sh nc) {R : mi_R} {m : Nat} (hm : m = l.length + 2) (hK : R none (mx cs0 c fs e (l ++ ((0, cY, sh (cs0.length + m)) :: nc (cs0.length + m))))) : mi_cal d kY (.ref (mx cs0 c fs e l).1 :: av) (mi_push (mx cs0 c fs e l) (.inr (cY, mi_dfs cY nY))) R := by
  have e2 : (cs0 ++ (Sum.inr (c, fs) :: e :: l.map ce : List mi_E)).length = cs0.length + m := by simp; omega
  have e4 : mx cs0 c fs e (l ++ ((0, cY, sh (cs0.length + m)) :: nc (cs0.length + m))) = mi_of ((cs0 ++ (Sum.inr (c, fs) :: e :: l.map ce : List mi_E)) ++ ((0, cY, sh (cs0.length + m)) :: nc (cs0.length + m)).map ce) := by
    unfold mx
    rw [List.map_append, List.append_assoc]
    rfl
  rw [e4, ← e2] at hK
  exact CtS.callO h hK
/-- the cell of the row that was just made -/
theorem mx_row {cY : Nat} {gs : List Nat} {l' : List shT} : (mx cs0 c fs e (l ++ ((0, cY, gs) :: l'))).2 (mx cs0 c fs e l).1 = .inr (cY, fl_fl 0 (fun _ => 0) 0 gs) := by
  rw [mx_1]
  refine of_at ?_
  rw [List.getElem?_append_right (by omega), Nat.add_sub_cancel_left, List.getElem?_cons_succ, List.getElem?_cons_succ, List.map_append, List.getElem?_append_right (by simp), List.length_map, Nat.sub_self]
  rfl
theorem rfc_up {x : Nat} (hx : x = b + 2 * i) : (.inl (2, N, .inr (.inr (.inr (.inr (va_up (fun j => if j < i then some (b + 2 * j) else none) i (some x))))) ) : mi_E) = rfc N (i + 1) b := by
  unfold rfc
  have : va_up (fun j => if j < i then some (b + 2 * j) else none) i (some x) = fun j => if j < i + 1 then some (b + 2 * j) else none := funext fun j => by
    unfold va_up
    by_cases q : j = i
    · subst q; rw [if_pos rfl, if_pos (by omega), hx]
    · rw [if_neg q]
      show (if j < i then some (b + 2 * j) else none) = _
      by_cases q2 : j < i
      · rw [if_pos q2, if_pos (by omega)]
      · rw [if_neg q2, if_neg (by omega)]
  rw [this]
/-- a row put at its place -/
theorem as_mx {l' : List shT} {x : Int32} {P : mi_M → Prop} (hl : l = rws b i ∨ True) (hb : cs0.length + (l.length + 2) = b + 2 * i) (hx : x = nI i) (hi : i < N) (hN : N ≤ 1000) (h : P (mx cs0 c fs (rfc N (i + 1) b) (l ++ ((0, 6, sh_row (cs0.length + (l.length + 2))) :: l')))) : mi_obj (mx cs0 c fs (rfc N i b) (l ++ ((0, 6, sh_row (cs0.length + (l.length + 2))) :: l'))) (mx cs0 c fs (rfc N i b) l).1 6 fun _ => mi_refs (mx cs0 c fs (rfc N i b) (l ++ ((0, 6, sh_row (cs0.length + (l.length + 2))) :: l'))) (cs0.length + 1) fun n f => vp_in x n ∧ P (mi_up (mx cs0 c fs (rfc N i b) (l ++ ((0, 6, sh_row (cs0.length + (l.length + 2))) :: l'))) (cs0.length + 1) (.inl (2, n, .inr (.inr (.inr (.inr (va_up f x.toNatClampNeg (some (mx cs0 c fs (rfc N i b) l).1)))))))) := by
  unfold mi_obj
  rw [mx_row]
  refine ⟨rfl, ?_⟩
  unfold mi_refs
  rw [mx_e]
  refine ⟨rfl, ?_⟩
  subst hx
  refine ⟨in_N hi (by omega), ?_⟩
  rw [nI_clamp (by omega), mx_1, rfc_up hb, mx_upe]
  exact h
end CTC
def sh_83 (n : Nat) : List Nat := [n + 1 + 2]
def nc_83 (n : Nat) : List shT := (2, 20, [n + 2]) :: rws (n + 2) 20
theorem ln_83 {n : Nat} : (nc_83 n).length = 41 := by rw [nc_83, List.length_cons, rws_len]
theorem mx_mo {cs0 : List mi_E} {c : Nat} {fs : List Value} {q : shT} {l : List shT} : mx cs0 c fs (ce q) l = mo cs0 c fs (q :: l) := rfl
theorem rfc_ce {N b : Nat} : rfc N N b = ce (2, N, [b]) := rfl
theorem cy_83_36 {d : Nat} {cs0 : List mi_E} {Q : mi_R} {i : Int32} {kc ks : Nat} {M : mi_M} (h : mi_WP (mi_cal (d + 1)) 83 [13, 15, 36] Q 15 [some (.ref cs0.length), some (.int (i + Int32.ofInt 1))] [] kc ks M) : mi_WP (mi_cal (d + 1)) 83 [13, 15, 36] Q 36 [some (.ref cs0.length), some (.int i)] [] kc ks M := mi_fold h
theorem cy_83_15 {d : Nat} {cs0 : List mi_E} {Q : mi_R} {i kc ks : Nat} {fs : List Value} (hi : i < 20) (hc : kc + 2 ≤ 41) (hs : ks + 122 ≤ 2460) (hfs : fs = [.ref (cs0.length + 1)])
    (h : mi_WP (mi_cal (d + 1)) 83 [13, 15, 36] Q 36 [some (.ref cs0.length), some (.int (nI i))] [] (kc + 1 + 1) (ks + 2 + 120) (mx cs0 9 fs (rfc 20 (i + 1) (cs0.length + 2)) (rws (cs0.length + 2) (i + 1)))) : mi_WP (mi_cal (d + 1)) 83 [13, 15, 36] Q 15 [some (.ref cs0.length), some (.int (nI i))] [] kc ks (mx cs0 9 fs (rfc 20 i (cs0.length + 2)) (rws (cs0.length + 2) i)) := by
  subst hfs
  refine mi_fold ⟨fun _ => ob_mx ⟨show kc + 1 ≤ 41 by omega, show ks + 2 ≤ 2460 by omega, rfl, Nat.le_of_ble_eq_true rfl, rfl, rfl, show kc + 1 + 1 ≤ 41 by omega, show ks + 2 + 120 ≤ 2460 by omega, trivial, ct_row20.callX (l := rws (cs0.length + 2) i) rfl (as_mx (Or.inr trivial) (by rw [rws_len]; omega) rfl hi (by decide) ?_)⟩, fun q => absurd (nI_lt hi (by decide)) q⟩
  have e : cs0.length + ((rws (cs0.length + 2) i).length + 2) = cs0.length + 2 + 2 * i := by rw [rws_len]; omega
  rw [e]
  exact h
theorem cy_83_l {d : Nat} {cs0 : List mi_E} {Q : mi_R} {fs : List Value} (hfs : fs = [.ref (cs0.length + 1)]) (h : Q none (mx cs0 9 fs (rfc 20 20 (cs0.length + 2)) (rws (cs0.length + 2) 20))) : ∀ (m i kc ks : Nat), 20 - i = m → i ≤ 20 → kc + 2 * m ≤ 41 → ks + 122 * m ≤ 2460 → mi_WP (mi_cal (d + 1)) 83 [13, 15, 36] Q 15 [some (.ref cs0.length), some (.int (nI i))] [] kc ks (mx cs0 9 fs (rfc 20 i (cs0.length + 2)) (rws (cs0.length + 2) i)) := by
  intro m
  induction m with
  | zero =>
    intro i kc ks h1 h2 h3 h4
    have hi : i = 20 := by omega
    subst hi
    exact mi_fold ⟨fun q => absurd q (nI_nlt (Nat.le_refl _) (by decide)), fun _ => ⟨rfl, show kc ≤ 41 by omega, show ks ≤ 2460 by omega, h⟩⟩
  | succ m ih =>
    intro i kc ks h1 h2 h3 h4
    refine cy_83_15 (by omega) (by omega) (by omega) hfs (cy_83_36 ?_)
    rw [ci_1, nI_add]
    exact ih (i + 1) (kc + 1 + 1) (ks + 2 + 120) (by omega) (by omega) (by omega) (by omega)
theorem ct_83 {d : Nat} : CtS (d + 2) 83 9 1 [] sh_83 nc_83 := fun cs0 Q h => by
  have h15 := cy_83_l (d := d) (cs0 := cs0) (Q := Q) rfl h 20 0 1 20 rfl (by decide) (by decide) (by decide)
  have h13 : mi_WP (mi_cal (d + 1)) 83 [13, 15, 36] Q 13 [some (.ref cs0.length), none] [] 1 20 (mx cs0 9 [.ref (cs0.length + 1)] (rfc 20 0 (cs0.length + 2)) []) := mi_fold ⟨Nat.le_of_ble_eq_true rfl, h15⟩
  exact ⟨[13, 15, 36], Q, fun _ _ h => h, mi_fold ⟨rfl, by decide, by decide, Nat.le_of_ble_eq_true rfl, Nat.le_of_ble_eq_true rfl, trivial, ob_ref ⟨Nat.le_of_ble_eq_true rfl, wp_ref (by rw [mo_v (m := 1) rfl]; rfl) h13⟩⟩⟩
/-! the rings -/
def sh_54 (n : Nat) : List Nat := [n + 1 + 2, n + 2 + 2, n + 3 + 2, 0]
def pr_54 (n : Nat) : List shT := [(1, 0, [40]), (0, 6, sh_row (n + 3)), (1, 0, [20])]
def rw_54 (n : Nat) : Nat → List shT
  | 0 => pr_54 n
  | i + 1 => rw_54 n i ++ ((0, 6, sh_row (n + 5 + 2 * i)) :: nc_row 20)
theorem rw_54_len {n : Nat} : ∀ i, (rw_54 n i).length = 2 * i + 3
  | 0 => rfl
  | i + 1 => by rw [rw_54, List.length_append, rw_54_len i]; simp [nc_row]; omega
def nc_54 (n : Nat) : List shT := (2, 40, [n + 5]) :: rw_54 n 40
theorem ln_54 {n : Nat} : (nc_54 n).length = 84 := by rw [nc_54, List.length_cons, rw_54_len]
theorem cy_54_57 {d : Nat} {cs0 : List mi_E} {Q : mi_R} {i : Int32} {kc ks : Nat} {M : mi_M} (h : mi_WP (mi_cal (d + 1)) 54 [13, 21, 34, 36, 57] Q 36 [some (.ref cs0.length), some (.int (i + Int32.ofInt 1))] [] kc ks M) : mi_WP (mi_cal (d + 1)) 54 [13, 21, 34, 36, 57] Q 57 [some (.ref cs0.length), some (.int i)] [] kc ks M := mi_fold h
theorem cy_54_36 {d : Nat} {cs0 : List mi_E} {Q : mi_R} {i kc ks : Nat} {fs : List Value} (hi : i < 40) (hc : kc + 2 ≤ 84) (hs : ks + 122 ≤ 5082) (hfs : fs = [.ref (cs0.length + 1), .ref (cs0.length + 2), .ref (cs0.length + 3), .int 0])
    (h : mi_WP (mi_cal (d + 1)) 54 [13, 21, 34, 36, 57] Q 57 [some (.ref cs0.length), some (.int (nI i))] [] (kc + 1 + 1) (ks + 2 + 120) (mx cs0 5 fs (rfc 40 (i + 1) (cs0.length + 5)) (rw_54 cs0.length (i + 1)))) : mi_WP (mi_cal (d + 1)) 54 [13, 21, 34, 36, 57] Q 36 [some (.ref cs0.length), some (.int (nI i))] [] kc ks (mx cs0 5 fs (rfc 40 i (cs0.length + 5)) (rw_54 cs0.length i)) := by
  subst hfs
  refine mi_fold ⟨fun _ => ob_mx ⟨show kc + 1 ≤ 84 by omega, show ks + 2 ≤ 5082 by omega, rfl, Nat.le_of_ble_eq_true rfl, rfl, rfl, show kc + 1 + 1 ≤ 84 by omega, show ks + 2 + 120 ≤ 5082 by omega, trivial, ct_row20.callX (l := rw_54 cs0.length i) rfl (as_mx (Or.inr trivial) (by rw [rw_54_len]; omega) rfl hi (by decide) ?_)⟩, fun q => absurd (nI_lt hi (by decide)) q⟩
  have e : cs0.length + ((rw_54 cs0.length i).length + 2) = cs0.length + 5 + 2 * i := by rw [rw_54_len]; omega
  rw [e]
  exact h
theorem cy_54_l {d : Nat} {cs0 : List mi_E} {Q : mi_R} {fs : List Value} (hfs : fs = [.ref (cs0.length + 1), .ref (cs0.length + 2), .ref (cs0.length + 3), .int 0]) (h : Q none (mx cs0 5 fs (rfc 40 40 (cs0.length + 5)) (rw_54 cs0.length 40))) : ∀ (m i kc ks : Nat), 40 - i = m → i ≤ 40 → kc + 2 * m ≤ 84 → ks + 122 * m ≤ 5082 → mi_WP (mi_cal (d + 1)) 54 [13, 21, 34, 36, 57] Q 36 [some (.ref cs0.length), some (.int (nI i))] [] kc ks (mx cs0 5 fs (rfc 40 i (cs0.length + 5)) (rw_54 cs0.length i)) := by
  intro m
  induction m with
  | zero =>
    intro i kc ks h1 h2 h3 h4
    have hi : i = 40 := by omega
    subst hi
    exact mi_fold ⟨fun q => absurd q (nI_nlt (Nat.le_refl _) (by decide)), fun _ => ⟨rfl, show kc ≤ 84 by omega, show ks ≤ 5082 by omega, h⟩⟩
  | succ m ih =>
    intro i kc ks h1 h2 h3 h4
    refine cy_54_36 (by omega) (by omega) (by omega) hfs (cy_54_57 ?_)
    rw [ci_1, nI_add]
    exact ih (i + 1) (kc + 1 + 1) (ks + 2 + 120) (by omega) (by omega) (by omega) (by omega)
theorem ct_54 {d : Nat} : CtS (d + 2) 54 5 4 [] sh_54 nc_54 := fun cs0 Q h => by
  have h36 := cy_54_l (d := d) (cs0 := cs0) (Q := Q) rfl h 40 0 4 202 rfl (by decide) (by decide) (by decide)
  have h34 : mi_WP (mi_cal (d + 1)) 54 [13, 21, 34, 36, 57] Q 34 [some (.ref cs0.length), none] [] 4 202 (mx cs0 5 [.ref (cs0.length + 1), .ref (cs0.length + 2), .ref (cs0.length + 3), .int 0] (rfc 40 0 (cs0.length + 5)) (pr_54 cs0.length)) := mi_fold ⟨Nat.le_of_ble_eq_true rfl, h36⟩
  have h21 : mi_WP (mi_cal (d + 1)) 54 [13, 21, 34, 36, 57] Q 21 [some (.ref cs0.length), none] [] 2 80 (mx cs0 5 [.ref (cs0.length + 1), .ref (cs0.length + 2), .null, .int 0] (rfc 40 0 (cs0.length + 5)) [(1, 0, [40])]) := mi_fold ⟨Nat.le_of_ble_eq_true rfl, Nat.le_of_ble_eq_true rfl, rfl, Nat.le_of_ble_eq_true rfl, rfl, rfl, Nat.le_of_ble_eq_true rfl, Nat.le_of_ble_eq_true rfl, trivial, ct_row20.callX (l := [(1, 0, [40])]) (m := 3) rfl ⟨trivial, ob_mx ⟨Nat.le_of_ble_eq_true rfl, wp_mx (by rw [mx_v (m := 3) rfl]; rfl) h34⟩⟩⟩
  have h13 : mi_WP (mi_cal (d + 1)) 54 [13, 21, 34, 36, 57] Q 13 [some (.ref cs0.length), none] [] 1 40 (mx cs0 5 [.ref (cs0.length + 1), .null, .null, .int 0] (rfc 40 0 (cs0.length + 5)) []) := mi_fold ⟨by decide, by decide, Nat.le_of_ble_eq_true rfl, Nat.le_of_ble_eq_true rfl, trivial, ob_mxa (q := (1, 0, [40])) ⟨Nat.le_of_ble_eq_true rfl, wp_mxa (q := (1, 0, [40])) (l := []) (by rw [mx_v (m := 2) rfl]; rfl) h21⟩⟩
  exact ⟨[13, 21, 34, 36, 57], Q, fun _ _ h => h, mi_fold ⟨rfl, by decide, by decide, Nat.le_of_ble_eq_true rfl, Nat.le_of_ble_eq_true rfl, trivial, ob_ref ⟨Nat.le_of_ble_eq_true rfl, wp_ref (by rw [mo_v (m := 1) rfl]; rfl) h13⟩⟩⟩
