/-! ===== constructors: the small machine over lists of cells ===== -/
abbrev shT : Type := Nat × Nat × List Nat
def mi_of (cs : List mi_E) : mi_M := (cs.length, fun k => cs.getD k mi_dead)
def ce (q : shT) : mi_E := match q with
  | (0, c, l) => .inr (c, fl_fl 0 (fun _ => 0) 0 l)
  | (1, t, l) => .inl (t, l.headD 0, .inl fun _ => 0)
  | (2, n, l) => .inl (2, n, .inr (.inr (.inr (.inr fun j => if j < n then some (l.headD 0 + 2 * j) else none))))
  | _ => mi_dead
/-- cs0, then an object, then cells -/
def mo (cs0 : List mi_E) (c : Nat) (fs : List Value) (l : List shT) : mi_M := mi_of (cs0 ++ (.inr (c, fs) :: l.map ce))
theorem of_push {cs : List mi_E} {x : mi_E} : mi_push (mi_of cs) x = mi_of (cs ++ [x]) := by
  refine Prod.ext (by simp [mi_push, mi_of]) (funext fun j => ?_)
  show (if j = cs.length then x else cs.getD j mi_dead) = (cs ++ [x]).getD j mi_dead
  rw [List.getD_eq_getElem?_getD, List.getD_eq_getElem?_getD]
  by_cases e : j = cs.length
  · subst e; rw [if_pos rfl, List.getElem?_concat_length]; rfl
  · rw [if_neg e]
    rcases Nat.lt_or_ge j cs.length with q | q
    · rw [List.getElem?_append_left q]
    · rw [List.getElem?_eq_none q, List.getElem?_eq_none (by simp; omega)]
theorem of_up {cs : List mi_E} {a : Nat} {x : mi_E} (ha : a < cs.length) : mi_up (mi_of cs) a x = mi_of (cs.set a x) := by
  refine Prod.ext (by simp [mi_up, mi_of]) (funext fun j => ?_)
  show (if j = a then x else cs.getD j mi_dead) = (cs.set a x).getD j mi_dead
  rw [List.getD_eq_getElem?_getD, List.getD_eq_getElem?_getD, List.getElem?_set]
  by_cases e : j = a
  · subst e; rw [if_pos rfl, if_pos rfl, if_pos ha]; rfl
  · rw [if_neg e, if_neg (fun z => e z.symm)]
theorem of_at {cs : List mi_E} {a : Nat} {x : mi_E} (h : cs[a]? = some x) : (mi_of cs).2 a = x := by
  show cs.getD a mi_dead = x
  rw [List.getD_eq_getElem?_getD, h]; rfl
section CTA
variable {cs0 : List mi_E} {c : Nat} {fs fs' : List Value} {l : List shT} {q : shT} {K : List Value → Prop} {C : mi_C} {k : Nat} {cuts : List Nat} {Q : mi_R} {pc kc ks : Nat} {L : mi_L} {S : List Value}
theorem mo_1 : (mo cs0 c fs l).1 = cs0.length + (l.length + 1) := by simp [mo, mi_of]
theorem mo_at : (mo cs0 c fs l).2 cs0.length = .inr (c, fs) := of_at (by rw [List.getElem?_append_right (Nat.le_refl _), Nat.sub_self]; rfl)
theorem mo_push : mi_push (mo cs0 c fs l) (ce q) = mo cs0 c fs (l ++ [q]) := by
  unfold mo
  rw [of_push]
  simp
theorem mo_up : mi_up (mo cs0 c fs l) cs0.length (.inr (c, fs')) = mo cs0 c fs' l := by
  unfold mo
  rw [of_up (by simp)]
  congr 1
  rw [List.set_append_right _ _ (Nat.le_refl _), Nat.sub_self]; rfl
theorem ob_mo (h : K fs) : mi_obj (mo cs0 c fs l) cs0.length c K := by
  unfold mi_obj
  rw [mo_at]
  exact ⟨rfl, h⟩
theorem ob_arr (h : K fs) : mi_obj (mi_push (mo cs0 c fs l) (ce q)) cs0.length c K := by
  rw [mo_push]; exact ob_mo h
theorem wp_arr {v : Value} (hv : fs' = fs.set pc v) {pc' : Nat} (h : mi_WP C k cuts Q pc' L S kc ks (mo cs0 c fs' (l ++ [q]))) : mi_WP C k cuts Q pc' L S kc ks (mi_up (mi_push (mo cs0 c fs l) (ce q)) cs0.length (.inr (c, fs.set pc v))) := by
  rw [mo_push, mo_up, ← hv]; exact h
theorem mo_v {l0 : List shT} {fs0 : List Value} {m : Nat} (hm : m = l0.length + 1) : Value.ref (mo cs0 c fs0 l0).1 = .ref (cs0.length + m) := by rw [mo_1, hm]
theorem wp_mo {v : Value} (hv : fs' = fs.set pc v) {pc' : Nat} (h : mi_WP C k cuts Q pc' L S kc ks (mo cs0 c fs' l)) : mi_WP C k cuts Q pc' L S kc ks (mi_up (mo cs0 c fs l) cs0.length (.inr (c, fs.set pc v))) := by
  rw [mo_up, ← hv]; exact h
/-- a constructor: the fields of its object and the cells that it makes, both told from the object's place -/
def CtS (d kY cY nY : Nat) (av : List Value) (sh : Nat → List Nat) (nc : Nat → List shT) : Prop := ∀ (cs0 : List mi_E) (Q : mi_R), Q none (mo cs0 cY (fl_fl 0 (fun _ => 0) 0 (sh cs0.length)) (nc cs0.length)) → mi_cal d kY (.ref cs0.length :: av) (mo cs0 cY (mi_dfs cY nY) []) Q
theorem mo_cat {cY : Nat} {gs : List Value} {l' : List shT} : mo (cs0 ++ (.inr (c, fs) :: l.map ce)) cY gs l' = mi_of (cs0 ++ (.inr (c, fs) :: (l.map ce ++ (.inr (cY, gs) :: l'.map ce)))) := by
  unfold mo
  simp
theorem CtS.call {d kY cY nY : Nat} {av : List Value} {sh : Nat → List Nat} {nc : Nat → List shT} (h : CtS d kY cY nY av sh nc) {R : mi_R} {m : Nat} (hm : m = l.length + 1) (hK : R none (mo cs0 c fs (l ++ ((0, cY, sh (cs0.length + m)) :: nc (cs0.length + m))))) : mi_cal d kY (.ref (mo cs0 c fs l).1 :: av) (mi_push (mo cs0 c fs l) (.inr (cY, mi_dfs cY nY))) R := by
  have e1 : mi_push (mo cs0 c fs l) (.inr (cY, mi_dfs cY nY)) = mo (cs0 ++ (.inr (c, fs) :: l.map ce)) cY (mi_dfs cY nY) [] := by
    rw [mo_cat]
    unfold mo
    rw [of_push]
    simp
  have e2 : (cs0 ++ (Sum.inr (c, fs) :: l.map ce : List mi_E)).length = cs0.length + m := by simp; omega
  have e3 : (mo cs0 c fs l).1 = (cs0 ++ (Sum.inr (c, fs) :: l.map ce : List mi_E)).length := rfl
  rw [e1, e3]
  refine h _ R ?_
  rw [e2, mo_cat]
  have e4 : mo cs0 c fs (l ++ ((0, cY, sh (cs0.length + m)) :: nc (cs0.length + m))) = mi_of (cs0 ++ (.inr (c, fs) :: (l.map ce ++ (.inr (cY, fl_fl 0 (fun _ => 0) 0 (sh (cs0.length + m))) :: (nc (cs0.length + m)).map ce)))) := by
    unfold mo
    rw [List.map_append, List.map_cons]
    rfl
  rw [← e4]
  exact hK
end CTA
theorem ct_row20 {d : Nat} : CtS (d + 1) 62 6 2 [.int (Int8.ofInt 20).toInt32] (fun n => [n + 1 + 2, 0]) (fun n => [(1, 0, [20])]) := fun cs0 Q h => by
  have h15 : mi_WP (mi_cal d) 62 [15] Q 15 [some (.ref cs0.length), some (.int (Int8.ofInt 20).toInt32)] [] 1 20 (mo cs0 6 [.ref (cs0.length + 1), .int 0] [(1, 0, [20])]) := mi_fold ⟨rfl, Nat.le_of_ble_eq_true rfl, Nat.le_of_ble_eq_true rfl, h⟩
  exact ⟨[15], Q, fun _ _ h => h, mi_fold ⟨rfl, rfl, by decide, by decide, Nat.le_of_ble_eq_true rfl, Nat.le_of_ble_eq_true rfl, trivial, ob_arr (q := (1, 0, [20])) ⟨Nat.le_of_ble_eq_true rfl, wp_arr (q := (1, 0, [20])) (l := []) (by rw [mo_v (m := 1) rfl]; rfl) h15⟩⟩⟩
theorem ct_row60 {d : Nat} : CtS (d + 1) 62 6 2 [.int (Int8.ofInt 60).toInt32] (fun n => [n + 1 + 2, 0]) (fun n => [(1, 0, [60])]) := fun cs0 Q h => by
  have h15 : mi_WP (mi_cal d) 62 [15] Q 15 [some (.ref cs0.length), some (.int (Int8.ofInt 60).toInt32)] [] 1 60 (mo cs0 6 [.ref (cs0.length + 1), .int 0] [(1, 0, [60])]) := mi_fold ⟨rfl, Nat.le_of_ble_eq_true rfl, Nat.le_of_ble_eq_true rfl, h⟩
  exact ⟨[15], Q, fun _ _ h => h, mi_fold ⟨rfl, rfl, by decide, by decide, Nat.le_of_ble_eq_true rfl, Nat.le_of_ble_eq_true rfl, trivial, ob_arr (q := (1, 0, [60])) ⟨Nat.le_of_ble_eq_true rfl, wp_arr (q := (1, 0, [60])) (l := []) (by rw [mo_v (m := 1) rfl]; rfl) h15⟩⟩⟩
theorem ct_row120 {d : Nat} : CtS (d + 1) 62 6 2 [.int (Int8.ofInt 120).toInt32] (fun n => [n + 1 + 2, 0]) (fun n => [(1, 0, [120])]) := fun cs0 Q h => by
  have h15 : mi_WP (mi_cal d) 62 [15] Q 15 [some (.ref cs0.length), some (.int (Int8.ofInt 120).toInt32)] [] 1 120 (mo cs0 6 [.ref (cs0.length + 1), .int 0] [(1, 0, [120])]) := mi_fold ⟨rfl, Nat.le_of_ble_eq_true rfl, Nat.le_of_ble_eq_true rfl, h⟩
  exact ⟨[15], Q, fun _ _ h => h, mi_fold ⟨rfl, rfl, by decide, by decide, Nat.le_of_ble_eq_true rfl, Nat.le_of_ble_eq_true rfl, trivial, ob_arr (q := (1, 0, [120])) ⟨Nat.le_of_ble_eq_true rfl, wp_arr (q := (1, 0, [120])) (l := []) (by rw [mo_v (m := 1) rfl]; rfl) h15⟩⟩⟩
