/-! THE SMALL MACHINE: bytecode over cells that are numbered, whose references never change, whose ints and longs are read off a store; one theorem (below) takes its runs to the machine's own. A row of a method: pc, instruction, length, a (a local's place, a branch's target, a callee, a field), v (a constant), j (its link's place). -/
abbrev mz_M : Type := (Nat → Nat → Int32) × (Nat → Nat → Int64)
/-- a cell's shape: an array (kind 0 int, 1 byte, 2 long, from 3 on references; length; whom the places name), or an object (class, fields: none a number, some a reference) -/
abbrev mz_E : Type := (Nat × Nat × List Nat) ⊕ (Nat × List (Option Nat))
abbrev mz_L : Type := List (Option Value)
abbrev mz_C : Type := Nat × mz_L × List Value × mz_M
abbrev mz_R : Type := Nat × Instr × Nat × Nat × Int32 × Nat
/-- a method: name, code, locals, type, static, class, parameters, frames and locals below it, rows -/
abbrev mz_I : Type := MethodName × ByteArray × Nat × Option FieldType × Bool × Nat × Nat × Nat × Nat × List mz_R
def mz_get : mz_L → Nat → Option Value
  | [], _ => none
  | a :: _, 0 => a
  | _ :: l, n + 1 => mz_get l n
/-- is it a long one -/
def mz_wide (o : Option Value) : Bool := match o with
  | some (.long _) => true
  | some (.double _) => true
  | _ => false
/-- what stays of a place when the one behind it is stored -/
def mz_nw (o : Option Value) : Option Value := match o with
  | some (.long _) => none
  | some (.double _) => none
  | w => w
def mz_put : mz_L → Nat → Option Value → mz_L
  | [], _, _ => []
  | _ :: l, 0, v => v :: l
  | a :: l, n + 1, v => (match n with
    | 0 => mz_nw a
    | _ + 1 => a) :: mz_put l n v
def mz_fit (ls : mz_L) (i : Nat) : Bool := Nat.blt i ls.length
def mz_wr (M : mz_M) (a : Nat) (f : Nat → Int32) : mz_M := (fun b => if b = a then f else M.1 b, M.2)
def mz_wrl (M : mz_M) (a : Nat) (f : Nat → Int64) : mz_M := (M.1, fun b => if b = a then f else M.2 b)
def mz_find (pc : Nat) : List mz_R → Option mz_R
  | [] => none
  | r :: l => match Nat.beq r.1 pc with
    | true => some r
    | false => mz_find pc l
def mz_int (o : Option Value) : Option Int32 := match o with
  | some (.int x) => some x
  | _ => none
def mz_ref (o : Option Value) : Option Nat := match o with
  | some (.ref x) => some x
  | _ => none
def mz_long (o : Option Value) : Option Int64 := match o with
  | some (.long x) => some x
  | _ => none
def mz_bin (f : Int32 → Int32 → Int32) (P : Int32 → Int32 → List Prop) (pc : Nat) (ls : mz_L) (st : List Value) (M : mz_M) : Option (mz_C × List Prop) := match st with
  | .int y :: .int x :: r => some ((pc + 1, ls, .int (f x y) :: r, M), P x y)
  | _ => none
def mz_if (f : Int32 → Prop) (d : ∀ x, Decidable (f x)) (a pc : Nat) (ls : mz_L) (st : List Value) (M : mz_M) : Option (mz_C × List Prop) := match st with
  | .int x :: r => some ((@ite Nat (f x) (d x) a (pc + 3), ls, r, M), [])
  | _ => none
def mz_ic (f : Int32 → Int32 → Prop) (d : ∀ x y, Decidable (f x y)) (a pc : Nat) (ls : mz_L) (st : List Value) (M : mz_M) : Option (mz_C × List Prop) := match st with
  | .int y :: .int x :: r => some ((@ite Nat (f x y) (d x y) a (pc + 3), ls, r, M), [])
  | _ => none
def mz_T (o : Option mz_C) : Option (mz_C × List Prop) := match o with
  | some c => some (c, [])
  | none => none
/-- one instruction that neither calls nor returns: the next place, and what must hold for it -/
def mz_step (SK : List mz_E) (ins : Instr) (len a : Nat) (v : Int32) (pc : Nat) (ls : mz_L) (st : List Value) (M : mz_M) : Option (mz_C × List Prop) := match ins with
  | .iconst _ => some ((pc + 1, ls, .int v :: st, M), [])
  | .bipush _ => some ((pc + 2, ls, .int v :: st, M), [])
  | .sipush _ => some ((pc + 3, ls, .int v :: st, M), [])
  | .ldc _ => some ((pc + 2, ls, .int v :: st, M), [])
  | .ldc_w _ => some ((pc + 3, ls, .int v :: st, M), [])
  | .lconst _ => some ((pc + 1, ls, .long v.toInt64 :: st, M), [])
  | .ldc2_w _ => some ((pc + 3, ls, .long v.toInt64 :: st, M), [])
  | .iload _ => (match mz_int (mz_get ls a) with
    | some x => some ((pc + 2, ls, .int x :: st, M), [])
    | none => none)
  | .iload_n _ => (match mz_int (mz_get ls a) with
    | some x => some ((pc + 1, ls, .int x :: st, M), [])
    | none => none)
  | .aload _ => (match mz_ref (mz_get ls a) with
    | some x => some ((pc + 2, ls, .ref x :: st, M), [])
    | none => none)
  | .aload_n _ => (match mz_ref (mz_get ls a) with
    | some x => some ((pc + 1, ls, .ref x :: st, M), [])
    | none => none)
  | .lload _ => (match mz_long (mz_get ls a) with
    | some x => some ((pc + 2, ls, .long x :: st, M), [])
    | none => none)
  | .lload_n _ => (match mz_long (mz_get ls a) with
    | some x => some ((pc + 1, ls, .long x :: st, M), [])
    | none => none)
  | .istore _ => (match st with
    | .int x :: r => (match mz_fit ls a with
      | true => some ((pc + 2, mz_put ls a (some (.int x)), r, M), [])
      | false => none)
    | _ => none)
  | .istore_n _ => (match st with
    | .int x :: r => (match mz_fit ls a with
      | true => some ((pc + 1, mz_put ls a (some (.int x)), r, M), [])
      | false => none)
    | _ => none)
  | .astore _ => (match st with
    | .ref x :: r => (match mz_fit ls a with
      | true => some ((pc + 2, mz_put ls a (some (.ref x)), r, M), [])
      | false => none)
    | _ => none)
  | .astore_n _ => (match st with
    | .ref x :: r => (match mz_fit ls a with
      | true => some ((pc + 1, mz_put ls a (some (.ref x)), r, M), [])
      | false => none)
    | _ => none)
  | .iinc _ _ => (match mz_int (mz_get ls a) with
    | some x => (match mz_fit ls a with
      | true => some ((pc + 3, mz_put ls a (some (.int (x + v))), st, M), [])
      | false => none)
    | none => none)
  | .iadd => mz_bin (fun x y => x + y) (fun _ _ => []) pc ls st M
  | .isub => mz_bin (fun x y => x - y) (fun _ _ => []) pc ls st M
  | .imul => mz_bin (fun x y => x * y) (fun _ _ => []) pc ls st M
  | .iand => mz_bin (fun x y => x &&& y) (fun _ _ => []) pc ls st M
  | .ior => mz_bin (fun x y => x ||| y) (fun _ _ => []) pc ls st M
  | .ixor => mz_bin (fun x y => x ^^^ y) (fun _ _ => []) pc ls st M
  | .ishl => mz_bin (fun x y => x <<< (y &&& 31)) (fun _ _ => []) pc ls st M
  | .ishr => mz_bin (fun x y => x >>> (y &&& 31)) (fun _ _ => []) pc ls st M
  | .iushr => mz_bin (fun x y => (x.toUInt32 >>> (y.toUInt32 &&& Int32.toUInt32 31)).toInt32) (fun _ _ => []) pc ls st M
  | .idiv => mz_bin (fun x y => x / y) (fun _ y => [¬ y = 0]) pc ls st M
  | .irem => mz_bin (fun x y => x - x / y * y) (fun _ y => [¬ y = 0]) pc ls st M
  | .ladd => (match st with
    | .long y :: .long x :: r => some ((pc + 1, ls, .long (x + y) :: r, M), [])
    | _ => none)
  | .lcmp => (match st with
    | .long y :: .long x :: r => some ((pc + 1, ls, .int (lg_cmp x y) :: r, M), [])
    | _ => none)
  | .i2l => (match st with
    | .int x :: r => some ((pc + 1, ls, .long x.toInt64 :: r, M), [])
    | _ => none)
  | .l2i => (match st with
    | .long x :: r => some ((pc + 1, ls, .int x.toInt32 :: r, M), [])
    | _ => none)
  | .i2b => (match st with
    | .int x :: r => some ((pc + 1, ls, .int x.toInt8.toInt32 :: r, M), [])
    | _ => none)
  | .pop => (match st with
    | .int _ :: r => some ((pc + 1, ls, r, M), [])
    | _ => none)
  | .dup => (match st with
    | .int x :: r => some ((pc + 1, ls, .int x :: .int x :: r, M), [])
    | .ref x :: r => some ((pc + 1, ls, .ref x :: .ref x :: r, M), [])
    | _ => none)
  | .dup_x1 => (match st with
    | .int x :: .ref y :: r => some ((pc + 1, ls, .int x :: .ref y :: .int x :: r, M), [])
    | _ => none)
  | .dup2 => (match st with
    | .int x :: .ref y :: r => some ((pc + 1, ls, .int x :: .ref y :: .int x :: .ref y :: r, M), [])
    | _ => none)
  | .goto _ => some ((a, ls, st, M), [])
  | .ifCond .eq _ => mz_if (fun x => x = 0) (fun _ => inferInstance) a pc ls st M
  | .ifCond .ne _ => mz_if (fun x => ¬ x = 0) (fun _ => inferInstance) a pc ls st M
  | .ifCond .lt _ => mz_if (fun x => x < 0) (fun _ => inferInstance) a pc ls st M
  | .ifCond .ge _ => mz_if (fun x => 0 ≤ x) (fun _ => inferInstance) a pc ls st M
  | .ifCond .gt _ => mz_if (fun x => 0 < x) (fun _ => inferInstance) a pc ls st M
  | .ifCond .le _ => mz_if (fun x => x ≤ 0) (fun _ => inferInstance) a pc ls st M
  | .if_icmp .eq _ => mz_ic (fun x y => x = y) (fun _ _ => inferInstance) a pc ls st M
  | .if_icmp .ne _ => mz_ic (fun x y => ¬ x = y) (fun _ _ => inferInstance) a pc ls st M
  | .if_icmp .lt _ => mz_ic (fun x y => x < y) (fun _ _ => inferInstance) a pc ls st M
  | .if_icmp .ge _ => mz_ic (fun x y => y ≤ x) (fun _ _ => inferInstance) a pc ls st M
  | .if_icmp .gt _ => mz_ic (fun x y => y < x) (fun _ _ => inferInstance) a pc ls st M
  | .if_icmp .le _ => mz_ic (fun x y => x ≤ y) (fun _ _ => inferInstance) a pc ls st M
  | .iaload => (match st with
    | .int i :: .ref r :: q => (match mz_nth SK r with
      | some (.inl (0, n, _)) => some ((pc + 1, ls, .int (M.1 r i.toNatClampNeg) :: q, M), [vp_in i n])
      | _ => none)
    | _ => none)
  | .baload => (match st with
    | .int i :: .ref r :: q => (match mz_nth SK r with
      | some (.inl (1, n, _)) => some ((pc + 1, ls, .int (M.1 r i.toNatClampNeg) :: q, M), [vp_in i n])
      | _ => none)
    | _ => none)
  | .laload => (match st with
    | .int i :: .ref r :: q => (match mz_nth SK r with
      | some (.inl (2, n, _)) => some ((pc + 1, ls, .long (M.2 r i.toNatClampNeg) :: q, M), [vp_in i n])
      | _ => none)
    | _ => none)
  | .aaload => (match st with
    | .int i :: .ref r :: q => (match mz_nth SK r with
      | some (.inl (k + 3, n, rs)) => some ((pc + 1, ls, .ref (rs.getD i.toNatClampNeg 0) :: q, M), [vp_in i n, rs.length = n])
      | _ => none)
    | _ => none)
  | .iastore => (match st with
    | .int x :: .int i :: .ref r :: q => (match mz_nth SK r with
      | some (.inl (0, n, _)) => some ((pc + 1, ls, q, mz_wr M r (upd (M.1 r) i.toNatClampNeg x)), [vp_in i n])
      | _ => none)
    | _ => none)
  | .bastore => (match st with
    | .int x :: .int i :: .ref r :: q => (match mz_nth SK r with
      | some (.inl (1, n, _)) => some ((pc + 1, ls, q, mz_wr M r (upd (M.1 r) i.toNatClampNeg (vp_nar .byte x))), [vp_in i n])
      | _ => none)
    | _ => none)
  | .lastore => (match st with
    | .long x :: .int i :: .ref r :: q => (match mz_nth SK r with
      | some (.inl (2, n, _)) => some ((pc + 1, ls, q, mz_wrl M r (vp_updL (M.2 r) i.toNatClampNeg x)), [vp_in i n])
      | _ => none)
    | _ => none)
  | .arraylength => (match st with
    | .ref r :: q => (match mz_nth SK r with
      | some (.inl (_, n, _)) => some ((pc + 1, ls, .int (Int32.ofNat n) :: q, M), [])
      | _ => none)
    | _ => none)
  | .getfield _ => (match st with
    | .ref r :: q => (match mz_nth SK r with
      | some (.inr (ci, fs)) => (match mz_nth fs (a % 64) with
        | some none => (match Nat.beq ci (a / 64) with
          | true => some ((pc + 3, ls, .int (M.1 r (a % 64)) :: q, M), [])
          | false => none)
        | some (some z) => (match Nat.beq ci (a / 64) with
          | true => some ((pc + 3, ls, .ref z :: q, M), [])
          | false => none)
        | none => none)
      | _ => none)
    | _ => none)
  | .putfield _ => (match st with
    | .int x :: .ref r :: q => (match mz_nth SK r with
      | some (.inr (ci, fs)) => (match mz_nth fs (a % 64) with
        | some none => (match Nat.beq ci (a / 64) with
          | true => some ((pc + 3, ls, q, mz_wr M r (upd (M.1 r) (a % 64) x)), match v.toBitVec.toNat with
            | 0 => []
            | _ => [x = 0 ∨ x = 1])
          | false => none)
        | _ => none)
      | _ => none)
    | _ => none)
  | .tableswitch d lo hi offs => (match st with
    | .int x :: r => some ((if x.toInt < lo ∨ hi < x.toInt then a else ((pc : Int) + offs.getD (x.toInt - lo).toNat 0).toNat, ls, r, M), [])
    | _ => none)
  | _ => none
