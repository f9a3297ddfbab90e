/-! ===== the machine over the flat memory ===== -/
def fl_fl (g : Int64) (Wi : Nat → Int32) : Nat → List Nat → List Value
  | _, [] => []
  | k, q :: l => (match q with
    | 0 => .int (Wi k)
    | 1 => .long g
    | a + 2 => .ref a) :: fl_fl g Wi (k + 1) l
def fl_cell (g : Int64) (W : fl_W) (i : Nat) : mi_E := match fl_sh i with
  | (0, c, l) => .inr (c, fl_fl g (W i) 0 l)
  | (1, t, l) => .inl (t, l.headD 0, .inl (W i))
  | (2, n, l) => .inl (2, n, .inr (.inr (.inr (.inr fun j => if j < n then some (l.headD 0 + 2 * j) else none))))
  | _ => mi_dead
def fl_mk (g : Int64) (W : fl_W) : mi_M := (fl_N, fl_cell g W)
def fl_uw (W : fl_W) (i j : Nat) (x : Int32) : fl_W := fun a => if a = i then upd (W i) j x else W a
abbrev fl_K : Type := mi_L → List Value → fl_W → Prop
abbrev fl_R : Type := Option Value → fl_W → Prop
abbrev fl_C : Type := Nat → List Value → fl_W → fl_R → Prop
def fl_gIb (o ci k : Nat) : Bool := (fl_sh o).1 == 0 && ((fl_sh o).2.1 == ci && (fl_sh o).2.2[k]? == some 0)
def fl_gI (o ci k : Nat) : Prop := fl_gIb o ci k = true
def fl_gR (sh : Nat → Nat × Nat × List Nat) (o ci k : Nat) (K : Nat → Prop) : Prop := match sh o with
  | (0, c, l) => c = ci ∧ (match l[k]? with
    | some (q + 2) => K q
    | _ => False)
  | _ => False
def fl_aI (sh : Nat → Nat × Nat × List Nat) (a t : Nat) (K : Nat → Prop) : Prop := match sh a with
  | (1, u, [n]) => u = t ∧ K n
  | _ => False
def fl_aR (sh : Nat → Nat × Nat × List Nat) (a : Nat) (K : Nat → Nat → Prop) : Prop := match sh a with
  | (2, n, [b]) => K n b
  | _ => False
def fl_isb (a ci : Nat) : Bool := (fl_sh a).1 == 0 && (fl_sh a).2.1 == ci
def fl_is (a ci : Nat) : Prop := fl_isb a ci = true
def fl_rc (av : List Value) (ci : Nat) : Prop := match av with
  | .ref a :: _ => fl_is a ci
  | _ => False
def fl_q0 (K : fl_W → Prop) : fl_R := fun r W => match r with
  | none => K W
  | _ => False
def fl_q1 (K : Int32 → fl_W → Prop) : fl_R := fun r W => match r with
  | some (.int x) => K x W
  | _ => False
def fl_qq (rt : Option FieldType) (nx : List Value → fl_W → Prop) : fl_R := match rt with
  | none => fl_q0 fun W => nx [] W
  | some _ => fl_q1 fun x W => nx [.int x] W
def fl_isI (ty : FieldType) : Bool := match ty with
  | .int => true
  | .boolean => true
  | _ => false
def fl_x (C : fl_C) (rt : Option FieldType) (Q : fl_R) (pc : Nat) (i : Instr) (r1 r2 r3 : Nat) (nx : fl_K) (jp : Nat → fl_K) (L : mi_L) (S : List Value) (W : fl_W) : Prop :=
  match i with
  | .iconst n => nx L (.int (Int32.ofInt n) :: S) W
  | .bipush n => nx L (.int (Int8.ofInt n).toInt32 :: S) W
  | .sipush n => nx L (.int (Int16.ofInt n).toInt32 :: S) W
  | .ldc_w _ => nx L (.int (Int32.ofNat r1) :: S) W
  | .iload j => mi_ldi L j fun x => nx L (.int x :: S) W
  | .iload_n j => mi_ldi L j fun x => nx L (.int x :: S) W
  | .aload j => mi_ldr L j fun x => nx L (.ref x :: S) W
  | .aload_n j => mi_ldr L j fun x => nx L (.ref x :: S) W
  | .istore j => match S with
    | .int x :: S => j < L.length ∧ nx (L.set j (some (.int x))) S W
    | _ => False
  | .istore_n j => match S with
    | .int x :: S => j.val < L.length ∧ nx (L.set j.val (some (.int x))) S W
    | _ => False
  | .astore j => match S with
    | .ref x :: S => j < L.length ∧ nx (L.set j (some (.ref x))) S W
    | _ => False
  | .astore_n j => match S with
    | .ref x :: S => j.val < L.length ∧ nx (L.set j.val (some (.ref x))) S W
    | _ => False
  | .iinc j n => mi_ldi L j fun x => nx (L.set j (some (.int (x + Int32.ofInt n)))) S W
  | .dup => match S with
    | v :: S => v.category = 1 ∧ nx L (v :: v :: S) W
    | _ => False
  | .dup2 => match S with
    | v :: w :: S => v.category = 1 ∧ w.category = 1 ∧ nx L (v :: w :: v :: w :: S) W
    | _ => False
  | .pop => match S with
    | v :: S => v.category = 1 ∧ nx L S W
    | _ => False
  | .iadd => match S with
    | .int y :: .int x :: S => nx L (.int (x + y) :: S) W
    | _ => False
  | .isub => match S with
    | .int y :: .int x :: S => nx L (.int (x - y) :: S) W
    | _ => False
  | .imul => match S with
    | .int y :: .int x :: S => nx L (.int (x * y) :: S) W
    | _ => False
  | .idiv => match S with
    | .int y :: .int x :: S => ¬ y = 0 ∧ nx L (.int (x / y) :: S) W
    | _ => False
  | .irem => match S with
    | .int y :: .int x :: S => ¬ y = 0 ∧ nx L (.int (x - x / y * y) :: S) W
    | _ => False
  | .ineg => match S with
    | .int x :: S => nx L (.int (-x) :: S) W
    | _ => False
  | .iand => match S with
    | .int y :: .int x :: S => nx L (.int (x &&& y) :: S) W
    | _ => False
  | .ior => match S with
    | .int y :: .int x :: S => nx L (.int (x ||| y) :: S) W
    | _ => False
  | .ixor => match S with
    | .int y :: .int x :: S => nx L (.int (x ^^^ y) :: S) W
    | _ => False
  | .ishl => match S with
    | .int y :: .int x :: S => nx L (.int (x <<< (y &&& 31)) :: S) W
    | _ => False
  | .ishr => match S with
    | .int y :: .int x :: S => nx L (.int (x >>> (y &&& 31)) :: S) W
    | _ => False
  | .iushr => match S with
    | .int y :: .int x :: S => nx L (.int (x.toUInt32 >>> (y.toUInt32 &&& Int32.toUInt32 31)).toInt32 :: S) W
    | _ => False
  | .goto _ => jp r1 L S W
  | .ifCond c _ => match S with
    | .int x :: S => match c with
      | .eq => mi_br (x = 0) (jp r1 L S W) (nx L S W)
      | .ne => mi_br (x = 0) (nx L S W) (jp r1 L S W)
      | .lt => mi_br (x < 0) (jp r1 L S W) (nx L S W)
      | .ge => mi_br (x < 0) (nx L S W) (jp r1 L S W)
      | .gt => mi_br (x ≤ 0) (nx L S W) (jp r1 L S W)
      | .le => mi_br (x ≤ 0) (jp r1 L S W) (nx L S W)
    | _ => False
  | .if_icmp c _ => match S with
    | .int y :: .int x :: S => match c with
      | .eq => mi_br (x = y) (jp r1 L S W) (nx L S W)
      | .ne => mi_br (x = y) (nx L S W) (jp r1 L S W)
      | .lt => mi_br (x < y) (jp r1 L S W) (nx L S W)
      | .ge => mi_br (x < y) (nx L S W) (jp r1 L S W)
      | .gt => mi_br (x ≤ y) (nx L S W) (jp r1 L S W)
      | .le => mi_br (x ≤ y) (jp r1 L S W) (nx L S W)
    | _ => False
  | .tableswitch d lo hi os => match S with
    | .int x :: S => mi_br (x.toInt < lo ∨ hi < x.toInt) (0 ≤ (pc : Int) + d ∧ jp ((pc : Int) + d).toNat L S W)
        (match os[(x.toInt - lo).toNat]? with
          | some o => 0 ≤ (pc : Int) + o ∧ jp ((pc : Int) + o).toNat L S W
          | none => False)
    | _ => False
  | .getfield _ => match S with
    | .ref o :: S => match fl_isI (mi_tyf r1 r2) with
      | true => fl_gI o r1 r2 ∧ nx L (.int (W o r2) :: S) W
      | false => fl_gR fl_sh o r1 r2 fun a => nx L (.ref a :: S) W
    | _ => False
  | .putfield _ => match S with
    | .int x :: .ref o :: S => fl_gI o r1 r2 ∧ mi_fit (mi_tyf r1 r2) (.int x) ∧ nx L S (fl_uw W o r2 x)
    | _ => False
  | .iaload => match S with
    | .int j :: .ref a :: S => fl_aI fl_sh a 0 fun n => vp_in j n ∧ nx L (.int (W a j.toNatClampNeg) :: S) W
    | _ => False
  | .baload => match S with
    | .int j :: .ref a :: S => fl_aI fl_sh a 1 fun n => vp_in j n ∧ nx L (.int (W a j.toNatClampNeg) :: S) W
    | _ => False
  | .aaload => match S with
    | .int j :: .ref a :: S => fl_aR fl_sh a fun n b => vp_in j n ∧ nx L (.ref (b + 2 * j.toNatClampNeg) :: S) W
    | _ => False
  | .iastore => match S with
    | .int x :: .int j :: .ref a :: S => fl_aI fl_sh a 0 fun n => vp_in j n ∧ nx L S (fl_uw W a j.toNatClampNeg x)
    | _ => False
  | .bastore => match S with
    | .int x :: .int j :: .ref a :: S => (x = 0 ∨ x = 1) ∧ fl_aI fl_sh a 1 fun n => vp_in j n ∧ nx L S (fl_uw W a j.toNatClampNeg x)
    | _ => False
  | .arraylength => match S with
    | .ref a :: S => fl_aI fl_sh a 0 fun n => nx L (.int (Int32.ofNat n) :: S) W
    | _ => False
  | .invokevirtual _ => r2 ≤ S.length ∧ mi_w8 (S.drop r2) = true ∧ mi_c1 (S.take r2) = true ∧ fl_rc (S.take r2).reverse r3 ∧ C r1 (S.take r2).reverse W (fl_qq (mi_rt r1) fun vs W => nx L (vs ++ S.drop r2) W)
  | .invokestatic _ => match r3 with
    | 1 => (match S with
      | .int y :: .int x :: S => mi_w8 S = true ∧ nx L (.int (if x < y then y else x) :: S) W
      | _ => False)
    | 2 => (match S with
      | .int y :: .int x :: S => mi_w8 S = true ∧ nx L (.int (if y < x then y else x) :: S) W
      | _ => False)
    | _ => r2 ≤ S.length ∧ mi_w8 (S.drop r2) = true ∧ mi_c1 (S.take r2) = true ∧ C r1 (S.take r2).reverse W (fl_qq (mi_rt r1) fun vs W => nx L (vs ++ S.drop r2) W)
  | .ireturn => match S with
    | [.int x] => mi_nar rt x ∧ Q (some (.int x)) W
    | _ => False
  | .return_ => match S with
    | [] => rt = none ∧ Q none W
    | _ => False
  | _ => False
def fl_nxt (cuts : List Nat) (P : Nat → fl_K) (g : fl_K) : List mi_I → fl_K
  | [] => fun _ _ _ => False
  | e2 :: _ => if e2.1 ∈ cuts then P e2.1 else g
def fl_jmp (cuts : List Nat) (P : Nat → fl_K) (g : fl_K) (t : Nat) : fl_K := if t ∈ cuts then P t else g
def fl_go (X : mi_I → fl_K → (Nat → fl_K) → fl_K) (cuts : List Nat) (tab : List mi_I) (P : Nat → fl_K) : Nat → List mi_I → fl_K
  | 0, _ => fun _ _ _ => False
  | _ + 1, [] => fun _ _ _ => False
  | k + 1, e :: tl => X e (fl_nxt cuts P (fl_go X cuts tab P k tl) tl) (fun t => fl_jmp cuts P (fl_go X cuts tab P k (mi_from tab t)) t)
def fl_X (C : fl_C) (k : Nat) (Q : fl_R) : mi_I → fl_K → (Nat → fl_K) → fl_K := fun e nx jp => fl_x C (mi_rt k) Q e.1 e.2.1 e.2.2.2.1 e.2.2.2.2.1 e.2.2.2.2.2 nx jp
def fl_F (C : fl_C) (k : Nat) (cuts : List Nat) (Q : fl_R) (P : Nat → fl_K) (pc : Nat) : fl_K := fl_go (fl_X C k Q) cuts (mi_tab k) P 400 (mi_from (mi_tab k) pc)
def fl_WP (C : fl_C) (k : Nat) (cuts : List Nat) (Q : fl_R) (pc : Nat) : fl_K := fun L S W => ∀ P : Nat → fl_K, (∀ P' : Nat → fl_K, (∀ pc L S W, P' pc L S W → P pc L S W) → ∀ pc L S W, fl_F C k cuts Q P' pc L S W → P pc L S W) → P pc L S W
def fl_cal : Nat → fl_C
  | 0 => fun _ _ _ _ => False
  | d + 1 => fun k av W Q => ∃ (cuts : List Nat) (Q0 : fl_R), (∀ r W, Q0 r W → Q r W) ∧ fl_WP (fl_cal d) k cuts Q0 0 (mi_ent k av) [] W
theorem fl_fold {C : fl_C} {k : Nat} {cuts : List Nat} {Q : fl_R} {pc : Nat} {L : mi_L} {S : List Value} {W : fl_W} (h : fl_F C k cuts Q (fl_WP C k cuts Q) pc L S W) : fl_WP C k cuts Q pc L S W :=
  fun P hP => hP (fl_WP C k cuts Q) (fun _ _ _ _ h => h P hP) pc L S W h
theorem fl_cons {d k : Nat} {av : List Value} {W : fl_W} {Q Q' : fl_R} (h : fl_cal d k av W Q) (hq : ∀ r W, Q r W → Q' r W) : fl_cal d k av W Q' := by
  cases d with
  | zero => exact (show False from h).elim
  | succ d =>
    obtain ⟨cuts, Q0, h1, h2⟩ := h
    exact ⟨cuts, Q0, fun r M z => hq r M (h1 r M z), h2⟩
theorem fl_intro {d k : Nat} {av : List Value} {W : fl_W} {Q : fl_R} (cuts : List Nat) (h : fl_WP (fl_cal d) k cuts Q 0 (mi_ent k av) [] W) : fl_cal (d + 1) k av W Q := ⟨cuts, Q, fun _ _ h => h, h⟩
