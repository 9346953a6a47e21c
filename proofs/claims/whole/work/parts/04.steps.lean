/-! The machine's steps: what an instruction does to (pc, locals, stack, M), as a function; and that the bytecode does so. -/
section MS
def mx_len (i : Instr) : Nat := match i with
  | .bipush _ => 2
  | .iload _ => 2
  | .aload _ => 2
  | .istore _ => 2
  | .astore _ => 2
  | .sipush _ => 3
  | .iinc _ _ => 3
  | .getfield _ => 3
  | .putfield _ => 3
  | .goto _ => 3
  | _ => 1
abbrev mx_S : Type := Option (Option Prop × Nat × List Value × List Value × mx_M)
def mx_ld (pc : Nat) (ls st : List Value) (M : mx_M) (k : Nat) (n : Nat) (r : Bool) : mx_S := match ls[k]? with
  | some (.int x) => if r then none else some (none, pc + n, ls, .int x :: st, M)
  | some (.ref a) => if r then some (none, pc + n, ls, .ref a :: st, M) else none
  | _ => none
def mx_sto (pc : Nat) (ls st : List Value) (M : mx_M) (k : Nat) (n : Nat) (r : Bool) : mx_S := match st with
  | .int x :: st => if r then none else if k < ls.length then some (none, pc + n, ls.set k (.int x), st, M) else none
  | .ref a :: st => if r then (if k < ls.length then some (none, pc + n, ls.set k (.ref a), st, M) else none) else none
  | _ => none
def mx_bin (pc : Nat) (ls st : List Value) (M : mx_M) (f : Int32 → Int32 → Int32) : mx_S := match st with
  | .int y :: .int x :: st => some (none, pc + 1, ls, .int (f x y) :: st, M)
  | _ => none
def mx_dv (pc : Nat) (ls st : List Value) (M : mx_M) (f : Int32 → Int32 → Int32) : mx_S := match st with
  | .int y :: .int x :: st => some (some (¬ y = 0), pc + 1, ls, .int (f x y) :: st, M)
  | _ => none
def mx_one (v : Value) : Bool := match v with
  | .int _ => true
  | .ref _ => true
  | _ => false
def mx_gf (LK : mx_L) (M : mx_M) (a ci k : Nat) : Option Value := match LK.1[a]? with
  | some (.inr (.inl (c0, fs))) => if c0 = ci then (match fs[k]? with | some none => some (.int (M a k)) | some (some b) => some (.ref b) | none => none) else none
  | _ => none
def mx_pf (LK : mx_L) (a ci k : Nat) : Bool := match LK.1[a]? with
  | some (.inr (.inl (c0, fs))) => if c0 = ci then (match fs[k]? with | some none => true | _ => false) else false
  | _ => false
def mx_al (LK : mx_L) (a : Nat) : Option Nat := match LK.1[a]? with
  | some (.inl n) => some n
  | _ => none
def mx_zl (LK : mx_L) (a : Nat) : Option Nat := match LK.1[a]? with
  | some (.inr (.inr (.inr (.inr n)))) => some n
  | _ => none
def mx_ro (LK : mx_L) (a : Nat) : Option (Nat × (Nat → Int32)) := if 1000 ≤ a then LK.2[a - 1000]? else none
def mx_i (fl : mx_F) (LK : mx_L) (pc : Nat) (i : Instr) (ls st : List Value) (M : mx_M) : mx_S := match i with
  | .iconst c => some (none, pc + 1, ls, .int (Int32.ofInt c) :: st, M)
  | .bipush c => some (none, pc + 2, ls, .int (Int8.ofInt c).toInt32 :: st, M)
  | .sipush c => some (none, pc + 3, ls, .int (Int16.ofInt c).toInt32 :: st, M)
  | .iload_n k => mx_ld pc ls st M k 1 false
  | .iload k => mx_ld pc ls st M k 2 false
  | .aload_n k => mx_ld pc ls st M k 1 true
  | .aload k => mx_ld pc ls st M k 2 true
  | .istore_n k => mx_sto pc ls st M k 1 false
  | .istore k => mx_sto pc ls st M k 2 false
  | .astore_n k => mx_sto pc ls st M k 1 true
  | .astore k => mx_sto pc ls st M k 2 true
  | .iinc k c => (match ls[k]? with
    | some (.int x) => some (none, pc + 3, ls.set k (.int (x + Int32.ofInt c)), st, M)
    | _ => none)
  | .iadd => mx_bin pc ls st M (fun x y => x + y)
  | .isub => mx_bin pc ls st M (fun x y => x - y)
  | .imul => mx_bin pc ls st M (fun x y => x * y)
  | .iand => mx_bin pc ls st M (fun x y => x &&& y)
  | .ior => mx_bin pc ls st M (fun x y => x ||| y)
  | .ixor => mx_bin pc ls st M (fun x y => x ^^^ y)
  | .ishl => mx_bin pc ls st M (fun x y => x <<< (y &&& 31))
  | .ishr => mx_bin pc ls st M (fun x y => x >>> (y &&& 31))
  | .iushr => mx_bin pc ls st M (fun x y => (x.toUInt32 >>> (y.toUInt32 &&& Int32.toUInt32 31)).toInt32)
  | .idiv => mx_dv pc ls st M (fun x y => x / y)
  | .irem => mx_dv pc ls st M (fun x y => x - x / y * y)
  | .ineg => (match st with
    | .int x :: st => some (none, pc + 1, ls, .int (-x) :: st, M)
    | _ => none)
  | .dup => (match st with
    | v :: st => if mx_one v then some (none, pc + 1, ls, v :: v :: st, M) else none
    | _ => none)
  | .pop => (match st with
    | v :: st => if mx_one v then some (none, pc + 1, ls, st, M) else none
    | _ => none)
  | .dup_x1 => (match st with
    | v :: w :: st => if mx_one v && mx_one w then some (none, pc + 1, ls, v :: w :: v :: st, M) else none
    | _ => none)
  | .dup_x2 => (match st with
    | v :: w :: u :: st => if mx_one v && mx_one w && mx_one u then some (none, pc + 1, ls, v :: w :: u :: v :: st, M) else none
    | _ => none)
  | .dup2 => (match st with
    | v :: w :: st => if mx_one v && mx_one w then some (none, pc + 1, ls, v :: w :: v :: w :: st, M) else none
    | _ => none)
  | .goto off => if (0 : Int) ≤ (pc : Int) + off then some (none, ((pc : Int) + off).toNat, ls, st, M) else none
  | .getfield idx => (match st with
    | .ref a :: st => (match fl.lookup idx with
      | some (ci, kk, _) => (match mx_gf LK M a ci kk with
        | some v => some (none, pc + 3, ls, v :: st, M)
        | none => none)
      | none => none)
    | _ => none)
  | .putfield idx => (match st with
    | .int v :: .ref a :: st => (match fl.lookup idx with
      | some (ci, kk, t) => if mx_pf LK a ci kk then (if t = 1 then some (none, pc + 3, ls, st, mx_up M a kk v) else if t = 2 then some (some (v = 0 ∨ v = 1), pc + 3, ls, st, mx_up M a kk v) else none) else none
      | none => none)
    | _ => none)
  | .iaload => (match st with
    | .int i :: .ref a :: st => (match mx_al LK a with
      | some n => some (some (vp_in i n), pc + 1, ls, .int (M a i.toNatClampNeg) :: st, M)
      | none => (match mx_ro LK a with
        | some (n, f) => some (some (vp_in i n), pc + 1, ls, .int (f i.toNatClampNeg) :: st, M)
        | none => none))
    | _ => none)
  | .iastore => (match st with
    | .int v :: .int i :: .ref a :: st => (match mx_al LK a with
      | some n => some (some (vp_in i n), pc + 1, ls, st, mx_up M a i.toNatClampNeg v)
      | none => none)
    | _ => none)
  | .baload => (match st with
    | .int i :: .ref a :: st => (match mx_zl LK a with
      | some n => some (some (vp_in i n), pc + 1, ls, .int (M a i.toNatClampNeg) :: st, M)
      | none => none)
    | _ => none)
  | .bastore => (match st with
    | .int v :: .int i :: .ref a :: st => (match mx_zl LK a with
      | some n => some (some (vp_in i n ∧ (v = 0 ∨ v = 1)), pc + 1, ls, st, mx_up M a i.toNatClampNeg v)
      | none => none)
    | _ => none)
  | .arraylength => (match st with
    | .ref a :: st => (match mx_al LK a with
      | some n => some (none, pc + 1, ls, .int (Int32.ofNat n) :: st, M)
      | none => (match mx_ro LK a with
        | some (n, _) => some (none, pc + 1, ls, .int (Int32.ofNat n) :: st, M)
        | none => none))
    | _ => none)
  | _ => none
def mx_st (fl : mx_F) (LK : mx_L) (tab : mx_B) (pc : Nat) (ls st : List Value) (M : mx_M) : mx_S := match tab.lookup pc with
  | some (i, n) => if n = mx_len i then mx_i fl LK pc i ls st M else none
  | none => none
abbrev mx_SZ : Type := Option (Prop × Nat × List Value × List Value × mx_M)
def mx_run (fl : mx_F) (LK : mx_L) (tab : mx_B) : Nat → Nat → List Value → List Value → mx_M → mx_SZ
  | 0, pc, ls, st, M => some (True, pc, ls, st, M)
  | k + 1, pc, ls, st, M => match mx_st fl LK tab pc ls st M with
    | some (c, pc', ls', st', M') => (match mx_run fl LK tab k pc' ls' st' M' with
      | some (P, z) => some ((match c with | none => P | some q => q ∧ P), z)
      | none => none)
    | none => none
end MS
