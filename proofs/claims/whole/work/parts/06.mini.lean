/-! ===== a small machine: the methods' tables run over a small memory; what it comes to is a proposition ===== -/
abbrev mi_E : Type := (Nat × vp_A) ⊕ (Nat × List Value)
abbrev mi_M : Type := Nat × (Nat → mi_E)
abbrev mi_L : Type := List (Option Value)
abbrev mi_K : Type := mi_L → List Value → Nat → Nat → mi_M → Prop
abbrev mi_R : Type := Option Value → mi_M → Prop
abbrev mi_C : Type := Nat → List Value → mi_M → mi_R → Prop
def mi_up (M : mi_M) (k : Nat) (x : mi_E) : mi_M := (M.1, fun j => if j = k then x else M.2 j)
def mi_push (M : mi_M) (x : mi_E) : mi_M := (M.1 + 1, fun j => if j = M.1 then x else M.2 j)
def mi_ldi (L : mi_L) (i : Nat) (K : Int32 → Prop) : Prop := match L[i]? with
  | some (some (.int x)) => K x
  | _ => False
def mi_ldr (L : mi_L) (i : Nat) (K : Nat → Prop) : Prop := match L[i]? with
  | some (some (.ref x)) => K x
  | _ => False
def mi_obj (M : mi_M) (a ci : Nat) (K : List Value → Prop) : Prop := match M.2 a with
  | .inr (c, fs) => c = ci ∧ K fs
  | _ => False
def mi_ints (M : mi_M) (a t : Nat) (K : Nat → (Nat → Int32) → Prop) : Prop := match M.2 a with
  | .inl (u, n, .inl f) => u = t ∧ K n f
  | _ => False
def mi_refs (M : mi_M) (a : Nat) (K : Nat → (Nat → Option Nat) → Prop) : Prop := match M.2 a with
  | .inl (u, n, .inr (.inr (.inr (.inr f)))) => u = 2 ∧ K n f
  | _ => False
def mi_len (M : mi_M) (a : Nat) (K : Nat → Prop) : Prop := match M.2 a with
  | .inl (u, n, .inl _) => (u = 0 ∨ u = 1) ∧ K n
  | .inl (u, n, .inr (.inr (.inr (.inr _)))) => u = 2 ∧ K n
  | _ => False
def mi_br (c a b : Prop) : Prop := (c → a) ∧ (¬ c → b)
def mi_w8 (S : List Value) : Bool := decide ((S.map fun v => v.category).sum ≤ 8)
def mi_c1 (S : List Value) : Bool := S.all fun v => v.category == 1
def mi_nar (rt : Option FieldType) (x : Int32) : Prop := match rt with
  | some .boolean => x = 0 ∨ x = 1
  | some .int => True
  | _ => False
def mi_fit (ty : FieldType) (v : Value) : Prop := match ty, v with
  | .int, .int _ => True
  | .long, .long _ => True
  | .boolean, .int x => x = 0 ∨ x = 1
  | .array _, .ref _ => True
  | .object _, .ref _ => True
  | _, _ => False
def mi_dfs (ci n : Nat) : List Value := (List.range n).map fun j => defaultValue (mi_tyf ci j)
/-- one instruction: what it needs, and what goes on -/
def mi_x (C : mi_C) (mc ms : Nat) (rt : Option FieldType) (Q : mi_R) (pc : Nat) (i : Instr) (r1 r2 r3 : Nat) (nx : mi_K) (jp : Nat → mi_K) (L : mi_L) (S : List Value) (kc ks : Nat) (M : mi_M) : Prop :=
  match i with
  | .iconst n => nx L (.int (Int32.ofInt n) :: S) kc ks M
  | .bipush n => nx L (.int (Int8.ofInt n).toInt32 :: S) kc ks M
  | .sipush n => nx L (.int (Int16.ofInt n).toInt32 :: S) kc ks M
  | .ldc_w _ => nx L (.int (Int32.ofNat r1) :: S) kc ks M
  | .ldc2_w _ => nx L (.long (-1) :: S) kc ks M
  | .lconst n => nx L (.long (Int64.ofNat n) :: S) kc ks M
  | .iload j => mi_ldi L j fun x => nx L (.int x :: S) kc ks M
  | .iload_n j => mi_ldi L j fun x => nx L (.int x :: S) kc ks M
  | .aload j => mi_ldr L j fun x => nx L (.ref x :: S) kc ks M
  | .aload_n j => mi_ldr L j fun x => nx L (.ref x :: S) kc ks M
  | .istore j => match S with
    | .int x :: S => j < L.length ∧ nx (L.set j (some (.int x))) S kc ks M
    | _ => False
  | .istore_n j => match S with
    | .int x :: S => j.val < L.length ∧ nx (L.set j.val (some (.int x))) S kc ks M
    | _ => False
  | .astore j => match S with
    | .ref x :: S => j < L.length ∧ nx (L.set j (some (.ref x))) S kc ks M
    | _ => False
  | .astore_n j => match S with
    | .ref x :: S => j.val < L.length ∧ nx (L.set j.val (some (.ref x))) S kc ks M
    | _ => False
  | .iinc j n => mi_ldi L j fun x => nx (L.set j (some (.int (x + Int32.ofInt n)))) S kc ks M
  | .dup => match S with
    | v :: S => v.category = 1 ∧ nx L (v :: v :: S) kc ks M
    | _ => False
  | .dup2 => match S with
    | v :: w :: S => v.category = 1 ∧ w.category = 1 ∧ nx L (v :: w :: v :: w :: S) kc ks M
    | _ => False
  | .pop => match S with
    | v :: S => v.category = 1 ∧ nx L S kc ks M
    | _ => False
  | .iadd => match S with
    | .int y :: .int x :: S => nx L (.int (x + y) :: S) kc ks M
    | _ => False
  | .isub => match S with
    | .int y :: .int x :: S => nx L (.int (x - y) :: S) kc ks M
    | _ => False
  | .imul => match S with
    | .int y :: .int x :: S => nx L (.int (x * y) :: S) kc ks M
    | _ => False
  | .idiv => match S with
    | .int y :: .int x :: S => ¬ y = 0 ∧ nx L (.int (x / y) :: S) kc ks M
    | _ => False
  | .irem => match S with
    | .int y :: .int x :: S => ¬ y = 0 ∧ nx L (.int (x - x / y * y) :: S) kc ks M
    | _ => False
  | .ineg => match S with
    | .int x :: S => nx L (.int (-x) :: S) kc ks M
    | _ => False
  | .iand => match S with
    | .int y :: .int x :: S => nx L (.int (x &&& y) :: S) kc ks M
    | _ => False
  | .ior => match S with
    | .int y :: .int x :: S => nx L (.int (x ||| y) :: S) kc ks M
    | _ => False
  | .ixor => match S with
    | .int y :: .int x :: S => nx L (.int (x ^^^ y) :: S) kc ks M
    | _ => False
  | .ishl => match S with
    | .int y :: .int x :: S => nx L (.int (x <<< (y &&& 31)) :: S) kc ks M
    | _ => False
  | .ishr => match S with
    | .int y :: .int x :: S => nx L (.int (x >>> (y &&& 31)) :: S) kc ks M
    | _ => False
  | .iushr => match S with
    | .int y :: .int x :: S => nx L (.int (x.toUInt32 >>> (y.toUInt32 &&& Int32.toUInt32 31)).toInt32 :: S) kc ks M
    | _ => False
  | .land => match S with
    | .long y :: .long x :: S => nx L (.long (x &&& y) :: S) kc ks M
    | _ => False
  | .lor => match S with
    | .long y :: .long x :: S => nx L (.long (x ||| y) :: S) kc ks M
    | _ => False
  | .lxor => match S with
    | .long y :: .long x :: S => nx L (.long (x ^^^ y) :: S) kc ks M
    | _ => False
  | .lshl => match S with
    | .int y :: .long x :: S => nx L (.long (x <<< (y.toInt64 &&& 63)) :: S) kc ks M
    | _ => False
  | .lshr => match S with
    | .int y :: .long x :: S => nx L (.long (x >>> (y.toInt64 &&& 63)) :: S) kc ks M
    | _ => False
  | .lcmp => match S with
    | .long y :: .long x :: S => nx L (.int (lg_cmp x y) :: S) kc ks M
    | _ => False
  | .goto _ => jp r1 L S kc ks M
  | .ifCond c _ => match S with
    | .int x :: S => match c with
      | .eq => mi_br (x = 0) (jp r1 L S kc ks M) (nx L S kc ks M)
      | .ne => mi_br (x = 0) (nx L S kc ks M) (jp r1 L S kc ks M)
      | .lt => mi_br (x < 0) (jp r1 L S kc ks M) (nx L S kc ks M)
      | .ge => mi_br (x < 0) (nx L S kc ks M) (jp r1 L S kc ks M)
      | .gt => mi_br (x ≤ 0) (nx L S kc ks M) (jp r1 L S kc ks M)
      | .le => mi_br (x ≤ 0) (jp r1 L S kc ks M) (nx L S kc ks M)
    | _ => False
  | .if_icmp c _ => match S with
    | .int y :: .int x :: S => match c with
      | .eq => mi_br (x = y) (jp r1 L S kc ks M) (nx L S kc ks M)
      | .ne => mi_br (x = y) (nx L S kc ks M) (jp r1 L S kc ks M)
      | .lt => mi_br (x < y) (jp r1 L S kc ks M) (nx L S kc ks M)
      | .ge => mi_br (x < y) (nx L S kc ks M) (jp r1 L S kc ks M)
      | .gt => mi_br (x ≤ y) (nx L S kc ks M) (jp r1 L S kc ks M)
      | .le => mi_br (x ≤ y) (jp r1 L S kc ks M) (nx L S kc ks M)
    | _ => False
  | .tableswitch d lo hi os => match S with
    | .int x :: S => mi_br (x.toInt < lo ∨ hi < x.toInt) (0 ≤ (pc : Int) + d ∧ jp ((pc : Int) + d).toNat L S kc ks M)
        (match os[(x.toInt - lo).toNat]? with
          | some o => 0 ≤ (pc : Int) + o ∧ jp ((pc : Int) + o).toNat L S kc ks M
          | none => False)
    | _ => False
  | .getfield _ => match S with
    | .ref a :: S => mi_obj M a r1 fun fs => match fs[r2]? with
      | some v => nx L (v :: S) kc ks M
      | none => False
    | _ => False
  | .putfield _ => match S with
    | v :: .ref a :: S => mi_fit (mi_tyf r1 r2) v ∧ mi_obj M a r1 fun fs => r2 < fs.length ∧ nx L S kc ks (mi_up M a (.inr (r1, fs.set r2 v)))
    | _ => False
  | .iaload => match S with
    | .int j :: .ref a :: S => mi_ints M a 0 fun n f => vp_in j n ∧ nx L (.int (f j.toNatClampNeg) :: S) kc ks M
    | _ => False
  | .baload => match S with
    | .int j :: .ref a :: S => mi_ints M a 1 fun n f => vp_in j n ∧ nx L (.int (f j.toNatClampNeg) :: S) kc ks M
    | _ => False
  | .aaload => match S with
    | .int j :: .ref a :: S => mi_refs M a fun n f => vp_in j n ∧ match f j.toNatClampNeg with
      | some b => nx L (.ref b :: S) kc ks M
      | none => False
    | _ => False
  | .iastore => match S with
    | .int x :: .int j :: .ref a :: S => mi_ints M a 0 fun n f => vp_in j n ∧ nx L S kc ks (mi_up M a (.inl (0, n, .inl (upd f j.toNatClampNeg x))))
    | _ => False
  | .bastore => match S with
    | .int x :: .int j :: .ref a :: S => (x = 0 ∨ x = 1) ∧ mi_ints M a 1 fun n f => vp_in j n ∧ nx L S kc ks (mi_up M a (.inl (1, n, .inl (upd f j.toNatClampNeg x))))
    | _ => False
  | .aastore => match S with
    | .ref b :: .int j :: .ref a :: S => mi_obj M b 6 fun _ => mi_refs M a fun n f => vp_in j n ∧ nx L S kc ks (mi_up M a (.inl (2, n, .inr (.inr (.inr (.inr (va_up f j.toNatClampNeg (some b))))))))
    | _ => False
  | .arraylength => match S with
    | .ref a :: S => mi_len M a fun n => nx L (.int (Int32.ofNat n) :: S) kc ks M
    | _ => False
  | .new _ => kc + 1 ≤ mc ∧ ks + r2 ≤ ms ∧ nx L (.ref M.1 :: S) (kc + 1) (ks + r2) (mi_push M (.inr (r1, mi_dfs r1 r2)))
  | .newarray _ => match S with
    | .int n :: S => ¬ n < 0 ∧ n.toNatClampNeg ≤ 2000 ∧ kc + 1 ≤ mc ∧ ks + n.toNatClampNeg ≤ ms ∧ nx L (.ref M.1 :: S) (kc + 1) (ks + n.toNatClampNeg) (mi_push M (.inl (r1, n.toNatClampNeg, .inl fun _ => 0)))
    | _ => False
  | .anewarray _ => match S with
    | .int n :: S => ¬ n < 0 ∧ n.toNatClampNeg ≤ 2000 ∧ kc + 1 ≤ mc ∧ ks + n.toNatClampNeg ≤ ms ∧ nx L (.ref M.1 :: S) (kc + 1) (ks + n.toNatClampNeg) (mi_push M (.inl (2, n.toNatClampNeg, .inr (.inr (.inr (.inr fun _ => none))))))
    | _ => False
  | .invokevirtual _ => r2 ≤ S.length ∧ mi_w8 (S.drop r2) = true ∧ mi_c1 (S.take r2) = true ∧ (match (S.take r2).reverse with
      | .ref a :: _ => mi_obj M a r3 fun _ => True
      | _ => False) ∧ C r1 (S.take r2).reverse M fun r M => nx L (r.toList ++ S.drop r2) kc ks M
  | .invokestatic _ => if r3 = 1 then (match S with
      | .int y :: .int x :: S => mi_w8 S = true ∧ nx L (.int (if x < y then y else x) :: S) kc ks M
      | _ => False)
    else if r3 = 2 then (match S with
      | .int y :: .int x :: S => mi_w8 S = true ∧ nx L (.int (if y < x then y else x) :: S) kc ks M
      | _ => False)
    else r2 ≤ S.length ∧ mi_w8 (S.drop r2) = true ∧ mi_c1 (S.take r2) = true ∧ C r1 (S.take r2).reverse M fun r M => nx L (r.toList ++ S.drop r2) kc ks M
  | .invokespecial _ => if r1 = 999 then (match S with
      | .ref _ :: S => mi_w8 S = true ∧ nx L S kc ks M
      | _ => False)
    else r2 ≤ S.length ∧ mi_w8 (S.drop r2) = true ∧ mi_c1 (S.take r2) = true ∧ kc + mi_mc r1 ≤ mc ∧ ks + mi_sl r1 ≤ ms ∧ (match (S.take r2).reverse with
      | .ref _ :: _ => True
      | _ => False) ∧ C r1 (S.take r2).reverse M fun r M => nx L (r.toList ++ S.drop r2) (kc + mi_mc r1) (ks + mi_sl r1) M
  | .ireturn => match S with
    | [.int x] => mi_nar rt x ∧ kc ≤ mc ∧ ks ≤ ms ∧ Q (some (.int x)) M
    | _ => False
  | .return_ => match S with
    | [] => rt = none ∧ kc ≤ mc ∧ ks ≤ ms ∧ Q none M
    | _ => False
  | _ => False
def mi_from : List mi_I → Nat → List mi_I
  | [], _ => []
  | e :: tl, t => if e.1 = t then e :: tl else mi_from tl t
def mi_nxt (cuts : List Nat) (P : Nat → mi_K) (g : mi_K) : List mi_I → mi_K
  | [] => fun _ _ _ _ _ => False
  | e2 :: _ => if e2.1 ∈ cuts then P e2.1 else g
def mi_jmp (cuts : List Nat) (P : Nat → mi_K) (g : mi_K) (t : Nat) : mi_K := if t ∈ cuts then P t else g
def mi_go (X : mi_I → mi_K → (Nat → mi_K) → mi_K) (cuts : List Nat) (tab : List mi_I) (P : Nat → mi_K) : Nat → List mi_I → mi_K
  | 0, _ => fun _ _ _ _ _ => False
  | _ + 1, [] => fun _ _ _ _ _ => False
  | k + 1, e :: tl => X e (mi_nxt cuts P (mi_go X cuts tab P k tl) tl) (fun t => mi_jmp cuts P (mi_go X cuts tab P k (mi_from tab t)) t)
theorem mi_go_s (X : mi_I → mi_K → (Nat → mi_K) → mi_K) (cuts : List Nat) (tab : List mi_I) (P : Nat → mi_K) (k : Nat) (e : mi_I) (tl : List mi_I) : mi_go X cuts tab P (k + 1) (e :: tl) = X e (mi_nxt cuts P (mi_go X cuts tab P k tl) tl) (fun t => mi_jmp cuts P (mi_go X cuts tab P k (mi_from tab t)) t) := rfl
def mi_X (C : mi_C) (k : Nat) (Q : mi_R) : mi_I → mi_K → (Nat → mi_K) → mi_K := fun e nx jp => mi_x C (mi_mc k) (mi_sl k) (mi_rt k) Q e.1 e.2.1 e.2.2.2.1 e.2.2.2.2.1 e.2.2.2.2.2 nx jp
def mi_F (C : mi_C) (k : Nat) (cuts : List Nat) (Q : mi_R) (P : Nat → mi_K) (pc : Nat) : mi_K := mi_go (mi_X C k Q) cuts (mi_tab k) P 400 (mi_from (mi_tab k) pc)
/-- the least of what is closed under a stretch -/
def mi_WP (C : mi_C) (k : Nat) (cuts : List Nat) (Q : mi_R) (pc : Nat) : mi_K := fun L S kc ks M => ∀ P : Nat → mi_K, (∀ P' : Nat → mi_K, (∀ pc L S kc ks M, P' pc L S kc ks M → P pc L S kc ks M) → ∀ pc L S kc ks M, mi_F C k cuts Q P' pc L S kc ks M → P pc L S kc ks M) → P pc L S kc ks M
def mi_ent (k : Nat) (av : List Value) : mi_L := av.map some ++ List.replicate (mi_maxL k - av.length) none
def mi_cal : Nat → mi_C
  | 0 => fun _ _ _ _ => False
  | d + 1 => fun k av M Q => ∃ (cuts : List Nat) (Q0 : mi_R), (∀ r M, Q0 r M → Q r M) ∧ mi_WP (mi_cal d) k cuts Q0 0 (mi_ent k av) [] 0 0 M
theorem mi_fold {C : mi_C} {k : Nat} {cuts : List Nat} {Q : mi_R} {pc : Nat} {L : mi_L} {S : List Value} {kc ks : Nat} {M : mi_M} (h : mi_F C k cuts Q (mi_WP C k cuts Q) pc L S kc ks M) : mi_WP C k cuts Q pc L S kc ks M :=
  fun P hP => hP (mi_WP C k cuts Q) (fun _ _ _ _ _ _ h => h P hP) pc L S kc ks M h
theorem mi_cal_cons {d k : Nat} {av : List Value} {M : mi_M} {Q Q' : mi_R} (h : mi_cal d k av M Q) (hq : ∀ r M, Q r M → Q' r M) : mi_cal d k av M Q' := by
  cases d with
  | zero => exact (show False from h).elim
  | succ d =>
    obtain ⟨cuts, Q0, h1, h2⟩ := h
    exact ⟨cuts, Q0, fun r M z => hq r M (h1 r M z), h2⟩
