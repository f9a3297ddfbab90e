/-! ===== what a table's entry must be, for the machine to do it ===== -/
def mi_ln : Instr → Nat
  | .bipush _ | .iload _ | .aload _ | .istore _ | .astore _ | .newarray _ => 2
  | .sipush _ | .ldc_w _ | .ldc2_w _ | .iinc _ _ | .goto _ | .ifCond _ _ | .if_icmp _ _ | .getfield _ | .putfield _ | .new _ | .anewarray _ | .invokevirtual _ | .invokestatic _ | .invokespecial _ => 3
  | _ => 1
def mi_CF : Prop := ∀ (ci : Nat) (q : vw_C), vwCl[ci]? = some q → (∀ w ∈ u_ws q.1 q.2.1 q.2.2, w ∈ mi_gd) ∧ (∀ k, k < q.2.2 → parseFieldDescriptor (q.2.1 k).2.2.1 = some (mi_tyf ci k)) ∧ (∀ a, a < q.2.2 → ∀ b, b < q.2.2 → a ≠ b → (q.2.1 a).2.1 ≠ (q.2.1 b).2.1) ∧ Cond.instantiable q.1 q.2.2 ∈ mi_gd ∧ Cond.initialized q.1 ∈ mi_gd ∧ ci ≤ 12
/-- a field's place in the pool of class w: slot k of class ci; nest: whether by the nest -/
def mi_fs (w ix ci k : Nat) (nest : Bool) : Prop := ∃ q : vw_C, vwCl[ci]? = some q ∧ k < q.2.2 ∧ match nest with
  | false => Cond.fieldLink (mi_cn w) ix (q.2.1 k).1 (q.2.1 k).2.1 (q.2.1 k).2.2.1 ∈ mi_gd
  | true => ∃ host, Cond.fieldLinkNest (mi_cn w) ix (q.2.1 k).1 (q.2.1 k).2.1 (q.2.1 k).2.2.1 host ∈ lw_tbl
def mi_fin (ci k : Nat) : Bool := match vwCl[ci]? with
  | some q => (q.2.1 k).2.2.2
  | none => true
def mi_cs (w ix k : Nat) : Prop := Cond.methodLink (mi_cn w) ix (mi_y k) ∈ mi_gd ∨ ∃ host, Cond.methodLinkNest (mi_cn w) ix (mi_y k) host ∈ lw_tbl
/-- what is so of each method -/
def mi_MF (k : Nat) : Prop := Cond.code (mi_y k) (mi_code k) (mi_maxL k) (mi_rt k) ∈ mi_gd ∧ Cond.initialized (mi_y k).cls ∈ mi_gd ∧ (mi_y k).cls = mi_cn (mi_own k) ∧ plainName (mi_y k).cls = true ∧ ((mi_y k).cls ≠ "java/lang/invoke/MethodHandle" ∧ (mi_y k).cls ≠ "java/lang/invoke/VarHandle") ∧ mi_maxL k ≤ 12 ∧ mi_na k ≤ mi_maxL k
def mi_inst (k : Nat) : Prop := Cond.instanceMethod (mi_y k) ∈ mi_gd ∧ (parseMethodDescriptor (mi_y k).desc).map (fun d => d.parameters.length + 1) = some (mi_na k)
def mi_stc (k : Nat) : Prop := Cond.static (mi_y k) ∈ mi_gd ∧ (parseMethodDescriptor (mi_y k).desc).map (fun d => d.parameters.length) = some (mi_na k)
def mi_st (k : Nat) (e : mi_I) : Prop := match e with
  | (pc, i, len, r1, r2, r3) => match i with
    | .tableswitch _ _ _ _ => True
    | i => len = mi_ln i ∧ match i with
      | .getfield ix => ∃ n, mi_fs (mi_own k) ix r1 r2 n
      | .putfield ix => ∃ n, mi_fs (mi_own k) ix r1 r2 n ∧ (mi_fin r1 r2 = false ∨ (n = false ∧ (mi_y k).name = "<init>" ∧ r1 = mi_own k ∧ (mi_own k) ≤ 12))
      | .ldc_w ix => Cond.constant (mi_cn (mi_own k)) ix (Int32.ofNat r1) ∈ mi_gd
      | .ldc2_w ix => Cond.constantLong (mi_cn (mi_own k)) ix (-1) ∈ mi_gd
      | .goto o => (pc : Int) + o = (r1 : Int)
      | .ifCond _ o => (pc : Int) + o = (r1 : Int)
      | .if_icmp _ o => (pc : Int) + o = (r1 : Int)
      | .new ix => ∃ q : vw_C, vwCl[r1]? = some q ∧ r2 = q.2.2 ∧ Cond.classLink (mi_cn (mi_own k)) ix q.1 ∈ mi_gd
      | .newarray a => Cond.arrayClass (newarray.typeOf a) ∈ mi_gd ∧ ((r1 = 0 ∧ newarray.typeOf a = .int) ∨ (r1 = 1 ∧ newarray.typeOf a = .boolean))
      | .anewarray ix => Cond.classLink (mi_cn (mi_own k)) ix RX6 ∈ mi_gd
      | .invokevirtual ix => mi_cs (mi_own k) ix r1 ∧ r1 < mi_nM ∧ r2 = mi_na r1 ∧ r3 = mi_own r1 ∧ r3 ≤ 12 ∧ mi_inst r1 ∧ Cond.selects (mi_y r1).cls (mi_y r1) (mi_y r1) ∈ mi_gd ∧ mi_mc r1 = 0 ∧ mi_sl r1 = 0
      | .invokestatic ix => if r3 = 1 then Cond.methodLink (mi_cn (mi_own k)) ix Lib.Math.max.name ∈ mi_gd ∧ Cond.static Lib.Math.max.name ∈ mi_gd ∧ Cond.initialized "java/lang/Math" ∈ mi_gd ∧ Cond.code Lib.Math.max.name Lib.Math.max.code 2 (some .int) ∈ mi_gd
          else if r3 = 2 then Cond.methodLink (mi_cn (mi_own k)) ix Lib.Math.min.name ∈ mi_gd ∧ Cond.static Lib.Math.min.name ∈ mi_gd ∧ Cond.initialized "java/lang/Math" ∈ mi_gd ∧ Cond.code Lib.Math.min.name Lib.Math.min.code 2 (some .int) ∈ mi_gd
          else mi_cs (mi_own k) ix r1 ∧ r1 < mi_nM ∧ r2 = mi_na r1 ∧ mi_stc r1 ∧ mi_mc r1 = 0 ∧ mi_sl r1 = 0
      | .invokespecial ix => if r1 = 999 then Cond.methodLink (mi_cn (mi_own k)) ix Lib.objectInit ∈ mi_gd ∧ Cond.instanceMethod Lib.objectInit ∈ mi_gd ∧ Cond.code Lib.objectInit ⟨#[0xb1]⟩ 1 none ∈ mi_gd
          else mi_cs (mi_own k) ix r1 ∧ r1 < mi_nM ∧ r2 = mi_na r1 ∧ mi_inst r1 ∧ (mi_y r1).name = "<init>" ∧ mi_rt r1 = none
      | _ => True
def mi_Cx (p : Program) (l : Launch) (e : Env) (R : Room) (s : State) (m : MethodId) (args : Array Value) (meth : Method) (c : Code) (D : va_G) (ca : Nat → ClassId) (h0 d k : Nat) : Prop :=
  p.tables.exec = Jvm.exec ∧ c.code = mi_code k ∧ meth.sig.returnType = mi_rt k ∧ c.maxLocals = mi_maxL k ∧ s.vm.findClass (mi_cn (mi_own k)) = some m.cls ∧ (∀ w ∈ mi_wd k, w.before args s = true) ∧ meth.locks = false ∧ ((mi_y k).name = "<init>" → meth.name = "<init>") ∧ va_K D vwCl (mi_tys ca) s ∧ mi_NW s ∧ h0 ≤ s.heap.size ∧ R = mi_rm (d + 1) k
theorem mi_gdw {k : Nat} {args : Array Value} {s : State} (h : ∀ w ∈ mi_wd k, w.before args s = true) {w : Cond} (hw : w ∈ mi_gd) : w.before args s = true := h w (List.mem_cons_of_mem _ hw)
theorem mi_wdG {k k' : Nat} (h : mi_MF k') : GoodIn (mi_wd k) (mi_wd k') := by
  intro w hw
  have hw' : w ∈ mi_gd := by
    rcases List.mem_cons.mp hw with rfl | hw
    · exact h.1
    · exact hw
  exact ⟨List.mem_cons_of_mem _ hw', good_of_word (List.mem_filter.mp hw').2⟩
theorem mi_fitV {ty : FieldType} {v : Value} (h0 : Nat) (h : mi_fit ty v) : narrow ty (mi_cv h0 v) = mi_cv h0 v ∧ fits ty (mi_cv h0 v) = true := by
  unfold mi_fit at h
  split at h
  · exact ⟨rfl, rfl⟩
  · exact ⟨rfl, rfl⟩
  · rcases h with rfl | rfl <;> exact ⟨rfl, rfl⟩
  · exact ⟨rfl, rfl⟩
  · exact ⟨rfl, rfl⟩
  · exact h.elim
