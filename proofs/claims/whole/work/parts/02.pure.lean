section
/-! THE PURE MACHINE: values are Ints with a tag (int | long | reference: -1 null, -2 the text constant, -3 the script, else the cell's number) -/
abbrev qV : Type := Int ⊕ (Int ⊕ Int)
/-- how many cells, (kind, length) of each, references, numbers -/
abbrev qM : Type := Int × (Int → Int × Int) × (Int → Int → Int) × (Int → Int → Int)
abbrev qLv : Type := List (Nat × qV)
def q_top (M : qM) : Int := M.1
def q_kd (M : qM) (a : Int) : Int := (M.2.1 a).1
def q_ln (M : qM) (a : Int) : Int := (M.2.1 a).2
def q_rf (M : qM) (a i : Int) : Int := M.2.2.1 a i
def q_nm (M : qM) (a i : Int) : Int := M.2.2.2 a i
def q_wn (M : qM) (a i v : Int) : qM := (M.1, M.2.1, M.2.2.1, fun b j => if b = a ∧ j = i then v else M.2.2.2 b j)
def q_wr (M : qM) (a i v : Int) : qM := (M.1, M.2.1, (fun b j => if b = a ∧ j = i then v else M.2.2.1 b j), M.2.2.2)
def q_al (M : qM) (k n : Int) : qM := (M.1 + 1, (fun b => if b = M.1 then (k, n) else M.2.1 b), (fun b j => if b = M.1 then -1 else M.2.2.1 b j), fun b j => if b = M.1 then 0 else M.2.2.2 b j)
def q_mu (M : qM) (n k : Int) : qM := (M.1 + 1 + n, (fun b => if b = M.1 then (20, n) else if M.1 < b ∧ b ≤ M.1 + n then (14, k) else M.2.1 b), (fun b j => if b = M.1 then (if 0 ≤ j ∧ j < n then M.1 + 1 + j else -1) else if M.1 < b ∧ b ≤ M.1 + n then -1 else M.2.2.1 b j), fun b j => if M.1 ≤ b ∧ b ≤ M.1 + n then 0 else M.2.2.2 b j)
def q_cp (M : qM) (a sp b dp n : Int) : qM := (M.1, M.2.1, M.2.2.1, fun c j => if c = b ∧ dp ≤ j ∧ j < dp + n then M.2.2.2 a (sp + (j - dp)) else M.2.2.2 c j)
def w32 (x : Int) : Int := (x + 2147483648) % 4294967296 - 2147483648
def w64 (x : Int) : Int := (x + 9223372036854775808) % 18446744073709551616 - 9223372036854775808
def w8 (x : Int) : Int := (x + 128) % 256 - 128
def q_and (x y : Int) : Int := (Int32.ofInt x &&& Int32.ofInt y).toInt
def q_or (x y : Int) : Int := (Int32.ofInt x ||| Int32.ofInt y).toInt
def q_shl (x y : Int) : Int := (Int32.ofInt x <<< (Int32.ofInt y &&& 31)).toInt
def q_shr (x y : Int) : Int := (Int32.ofInt x >>> (Int32.ofInt y &&& 31)).toInt
def q_lxor (x y : Int) : Int := (Int64.ofInt x ^^^ Int64.ofInt y).toInt
def q_lushr (x y : Int) : Int := ((Int64.ofInt x).toUInt64 >>> ((Int32.ofInt y).toInt64.toUInt64 &&& Int64.toUInt64 63)).toInt64.toInt
def q_lc (x y : Int) : Int := if x < y then -1 else if x = y then 0 else 1
def q_bs (k x : Int) : Int := if k = 16 then x % 2 else w8 x
/-- the array kind over a class -/
def q_ak (c : Int) : Int := match c with
  | 1 => 17
  | 5 => 18
  | 6 => 19
  | _ => -2
def q_ns (c : Int) : Nat := match c with
  | 0 => 2 | 1 => 16 | 2 => 3 | 3 => 2 | 4 => 6 | 5 => 7 | 6 => 2 | 7 => 2 | 8 => 4 | 9 => 10 | 10 => 12 | 11 => 82 | _ => 0
def q_nk (t : ArrayType) : Int := match t with
  | .byte => 12 | .char => 13 | .int => 14 | .long => 15 | .boolean => 16 | _ => -2
def q_nkb (t : ArrayType) : Bool := match t with
  | .byte => true | .char => true | .int => true | .long => true | .boolean => true | _ => false
def q_akb (c : Int) : Bool := match c with
  | 1 => true | 5 => true | 6 => true | _ => false
def q_as {α : Type} (L : List (Nat × α)) (k : Nat) : Option α := match L with
  | [] => none
  | e :: t => bif Nat.beq e.1 k then some e.2 else q_as t k
/-- locals: by their numbers, in order -/
def q_get (lv : qLv) (k : Nat) : Option qV := match lv with
  | [] => none
  | (i, v) :: t => bif Nat.beq i k then some v else q_get t k
def q_lg (v : qV) : Bool := match v with
  | .inr (.inl _) => true
  | _ => false
/-- without k (and, if w, k + 1; and a long just below k) -/
def q_del (k : Nat) (w : Bool) (lv : qLv) : qLv := match lv with
  | [] => []
  | (i, v) :: t => bif (Nat.beq i k || (w && Nat.beq i (k + 1)) || (Nat.beq (i + 1) k && q_lg v)) then q_del k w t else (i, v) :: q_del k w t
def q_ins (k : Nat) (v : qV) (lv : qLv) : qLv := match lv with
  | [] => [(k, v)]
  | (i, u) :: t => bif Nat.blt i k then (i, u) :: q_ins k v t else (k, v) :: (i, u) :: t
def q_st (k : Nat) (v : qV) (lv : qLv) : qLv := q_ins k v (q_del k (q_lg v) lv)
def q_in (k : Nat) (l : List Nat) : Bool := match l with
  | [] => false
  | i :: t => bif Nat.beq i k then true else q_in k t
def q_mask (live : List Nat) (lv : qLv) : qLv := match lv with
  | [] => []
  | (i, v) :: t => bif q_in i live then (i, v) :: q_mask live t else q_mask live t
def q_en (k : Nat) (args : List qV) : qLv := match args with
  | [] => []
  | .inr (.inl x) :: t => (k, .inr (.inl x)) :: q_en (k + 2) t
  | v :: t => (k, v) :: q_en (k + 1) t
def q_cat (st : List qV) : Nat := match st with
  | [] => 0
  | .inr (.inl _) :: t => 2 + q_cat t
  | _ :: t => 1 + q_cat t
def q_tag (t : Nat) (v : Int) (st : List qV) : List qV := match t with
  | 0 => st
  | 1 => .inl v :: st
  | 2 => .inr (.inl v) :: st
  | 3 => .inr (.inr v) :: st
  | _ => .inl v :: st
/-- a class's links: fields (class, slot, is a reference, is final); constants; classes -/
abbrev qTb : Type := (Nat → Option (Int × Int × Bool × Bool)) × (Nat → Option qV) × (Nat → Option Int)
/-- a call: (number, how many on the stack, the receiver's class or -1, what it answers: 0 nothing, 1 int, 2 long, 3 reference, 4 boolean, its cells, its slots, its locals) -/
abbrev qCl : Type := Nat × Nat × Int × Nat × Nat × Nat × Nat
/-- a method: code, cut points with their live locals, links, calls, own class, is a constructor, what it answers, its cells, its slots -/
abbrev qMt : Type := List (Nat × Instr × Nat) × (Nat → Option (List Nat)) × qTb × (Nat → Option qCl) × Int × Bool × Nat × Nat × Nat
def q_lk (L : List (Nat × Instr × Nat)) (pc : Nat) : Option (Instr × Nat) := match L with
  | [] => none
  | e :: t => bif Nat.beq e.1 pc then some e.2 else q_lk t pc
/-- what an instruction does that neither branches nor calls nor returns: its condition, locals, stack, memory, new cells, new slots -/
abbrev qEx : Type := Option (Option Prop × qLv × List qV × qM × Option (Nat × Nat))
def q_ld (lv : qLv) (st : List qV) (M : qM) (k t : Nat) : qEx := match q_get lv k, t with
  | some (.inl x), 1 => some (none, lv, .inl x :: st, M, none)
  | some (.inr (.inl x)), 2 => some (none, lv, .inr (.inl x) :: st, M, none)
  | some (.inr (.inr x)), 3 => some (none, lv, .inr (.inr x) :: st, M, none)
  | _, _ => none
def q_sto (lv : qLv) (st : List qV) (M : qM) (k t : Nat) : qEx := match st, t with
  | .inl x :: r, 1 => some (none, q_st k (.inl x) lv, r, M, none)
  | .inr (.inl x) :: r, 2 => some (none, q_st k (.inr (.inl x)) lv, r, M, none)
  | .inr (.inr x) :: r, 3 => some (none, q_st k (.inr (.inr x)) lv, r, M, none)
  | _, _ => none
def q_ex (mt : qMt) (i : Instr) (lv : qLv) (st : List qV) (M : qM) : qEx := match i with
  | .aconst_null => some (none, lv, .inr (.inr (-1)) :: st, M, none)
  | .iconst v => some (none, lv, .inl v :: st, M, none)
  | .bipush v => some (none, lv, .inl v :: st, M, none)
  | .sipush v => some (none, lv, .inl v :: st, M, none)
  | .lconst v => some (none, lv, .inr (.inl (Int.ofNat v.val)) :: st, M, none)
  | .ldc k => match mt.2.2.1.2.1 k with
    | some v => some (none, lv, v :: st, M, none)
    | none => none
  | .ldc2_w k => match mt.2.2.1.2.1 k with
    | some v => some (none, lv, v :: st, M, none)
    | none => none
  | .iload k => q_ld lv st M k 1
  | .iload_n k => q_ld lv st M k.val 1
  | .lload k => q_ld lv st M k 2
  | .lload_n k => q_ld lv st M k.val 2
  | .aload k => q_ld lv st M k 3
  | .aload_n k => q_ld lv st M k.val 3
  | .istore k => q_sto lv st M k 1
  | .istore_n k => q_sto lv st M k.val 1
  | .lstore k => q_sto lv st M k 2
  | .lstore_n k => q_sto lv st M k.val 2
  | .astore k => q_sto lv st M k 3
  | .astore_n k => q_sto lv st M k.val 3
  | .iinc k c => match q_get lv k with
    | some (.inl x) => some (none, q_st k (.inl (w32 (x + c))) lv, st, M, none)
    | _ => none
  | .iadd => match st with
    | .inl y :: .inl x :: r => some (none, lv, .inl (w32 (x + y)) :: r, M, none)
    | _ => none
  | .isub => match st with
    | .inl y :: .inl x :: r => some (none, lv, .inl (w32 (x - y)) :: r, M, none)
    | _ => none
  | .imul => match st with
    | .inl y :: .inl x :: r => some (none, lv, .inl (w32 (x * y)) :: r, M, none)
    | _ => none
  | .iand => match st with
    | .inl y :: .inl x :: r => some (none, lv, .inl (q_and x y) :: r, M, none)
    | _ => none
  | .ior => match st with
    | .inl y :: .inl x :: r => some (none, lv, .inl (q_or x y) :: r, M, none)
    | _ => none
  | .ishl => match st with
    | .inl y :: .inl x :: r => some (none, lv, .inl (q_shl x y) :: r, M, none)
    | _ => none
  | .ishr => match st with
    | .inl y :: .inl x :: r => some (none, lv, .inl (q_shr x y) :: r, M, none)
    | _ => none
  | .idiv => match st with
    | .inl y :: .inl x :: r => some (some (y ≠ 0), lv, .inl (w32 (x.tdiv y)) :: r, M, none)
    | _ => none
  | .irem => match st with
    | .inl y :: .inl x :: r => some (some (y ≠ 0), lv, .inl (x.tmod y) :: r, M, none)
    | _ => none
  | .ineg => match st with
    | .inl x :: r => some (none, lv, .inl (w32 (-x)) :: r, M, none)
    | _ => none
  | .ladd => match st with
    | .inr (.inl y) :: .inr (.inl x) :: r => some (none, lv, .inr (.inl (w64 (x + y))) :: r, M, none)
    | _ => none
  | .lsub => match st with
    | .inr (.inl y) :: .inr (.inl x) :: r => some (none, lv, .inr (.inl (w64 (x - y))) :: r, M, none)
    | _ => none
  | .lmul => match st with
    | .inr (.inl y) :: .inr (.inl x) :: r => some (none, lv, .inr (.inl (w64 (x * y))) :: r, M, none)
    | _ => none
  | .lxor => match st with
    | .inr (.inl y) :: .inr (.inl x) :: r => some (none, lv, .inr (.inl (q_lxor x y)) :: r, M, none)
    | _ => none
  | .ldiv => match st with
    | .inr (.inl y) :: .inr (.inl x) :: r => some (some (y ≠ 0), lv, .inr (.inl (w64 (x.tdiv y))) :: r, M, none)
    | _ => none
  | .lrem => match st with
    | .inr (.inl y) :: .inr (.inl x) :: r => some (some (y ≠ 0), lv, .inr (.inl (x.tmod y)) :: r, M, none)
    | _ => none
  | .lneg => match st with
    | .inr (.inl x) :: r => some (none, lv, .inr (.inl (w64 (-x))) :: r, M, none)
    | _ => none
  | .lushr => match st with
    | .inl y :: .inr (.inl x) :: r => some (none, lv, .inr (.inl (q_lushr x y)) :: r, M, none)
    | _ => none
  | .lcmp => match st with
    | .inr (.inl y) :: .inr (.inl x) :: r => some (none, lv, .inl (q_lc x y) :: r, M, none)
    | _ => none
  | .i2l => match st with
    | .inl x :: r => some (none, lv, .inr (.inl x) :: r, M, none)
    | _ => none
  | .l2i => match st with
    | .inr (.inl x) :: r => some (none, lv, .inl (w32 x) :: r, M, none)
    | _ => none
  | .i2b => match st with
    | .inl x :: r => some (none, lv, .inl (w8 x) :: r, M, none)
    | _ => none
  | .dup => match st with
    | .inl x :: r => some (none, lv, .inl x :: .inl x :: r, M, none)
    | .inr (.inr x) :: r => some (none, lv, .inr (.inr x) :: .inr (.inr x) :: r, M, none)
    | _ => none
  | .dup2 => match st with
    | .inl x :: .inr (.inr y) :: r => some (none, lv, .inl x :: .inr (.inr y) :: .inl x :: .inr (.inr y) :: r, M, none)
    | .inr (.inl x) :: r => some (none, lv, .inr (.inl x) :: .inr (.inl x) :: r, M, none)
    | _ => none
  | .pop => match st with
    | .inl _ :: r => some (none, lv, r, M, none)
    | .inr (.inr _) :: r => some (none, lv, r, M, none)
    | _ => none
  | .arraylength => match st with
    | .inr (.inr a) :: r => some (some (12 ≤ q_kd M a), lv, .inl (q_ln M a) :: r, M, none)
    | _ => none
  | .iaload => match st with
    | .inl i :: .inr (.inr a) :: r => some (some (q_kd M a = 14 ∧ 0 ≤ i ∧ i < q_ln M a), lv, .inl (q_nm M a i) :: r, M, none)
    | _ => none
  | .baload => match st with
    | .inl i :: .inr (.inr a) :: r => some (some ((q_kd M a = 12 ∨ q_kd M a = 16) ∧ 0 ≤ i ∧ i < q_ln M a), lv, .inl (q_nm M a i) :: r, M, none)
    | _ => none
  | .caload => match st with
    | .inl i :: .inr (.inr a) :: r => some (some (q_kd M a = 13 ∧ 0 ≤ i ∧ i < q_ln M a), lv, .inl (q_nm M a i) :: r, M, none)
    | _ => none
  | .laload => match st with
    | .inl i :: .inr (.inr a) :: r => some (some (q_kd M a = 15 ∧ 0 ≤ i ∧ i < q_ln M a), lv, .inr (.inl (q_nm M a i)) :: r, M, none)
    | _ => none
  | .aaload => match st with
    | .inl i :: .inr (.inr a) :: r => some (some ((17 ≤ q_kd M a ∧ q_kd M a ≤ 20) ∧ 0 ≤ i ∧ i < q_ln M a), lv, .inr (.inr (q_rf M a i)) :: r, M, none)
    | _ => none
  | .iastore => match st with
    | .inl x :: .inl i :: .inr (.inr a) :: r => some (some ((0 ≤ a ∧ q_kd M a = 14) ∧ 0 ≤ i ∧ i < q_ln M a), lv, r, q_wn M a i x, none)
    | _ => none
  | .bastore => match st with
    | .inl x :: .inl i :: .inr (.inr a) :: r => some (some ((q_kd M a = 12 ∨ q_kd M a = 16) ∧ 0 ≤ i ∧ i < q_ln M a), lv, r, q_wn M a i (q_bs (q_kd M a) x), none)
    | _ => none
  | .castore => match st with
    | .inl x :: .inl i :: .inr (.inr a) :: r => some (some (q_kd M a = 13 ∧ 0 ≤ i ∧ i < q_ln M a), lv, r, q_wn M a i (x % 65536), none)
    | _ => none
  | .lastore => match st with
    | .inr (.inl x) :: .inl i :: .inr (.inr a) :: r => some (some (q_kd M a = 15 ∧ 0 ≤ i ∧ i < q_ln M a), lv, r, q_wn M a i x, none)
    | _ => none
  | .aastore => match st with
    | .inr (.inr v) :: .inl i :: .inr (.inr a) :: r => some (some (q_kd M a = q_ak (q_kd M v) ∧ 0 ≤ i ∧ i < q_ln M a), lv, r, q_wr M a i v, none)
    | _ => none
  | .checkcast _ => match st with
    | .inr (.inr a) :: r => some (some (0 ≤ a ∧ q_kd M a = 14), lv, .inr (.inr a) :: r, M, none)
    | _ => none
  | .getfield k => match mt.2.2.1.1 k, st with
    | some (ci, j, true, _), .inr (.inr a) :: r => some (some (q_kd M a = ci), lv, .inr (.inr (q_rf M a j)) :: r, M, none)
    | some (ci, j, false, _), .inr (.inr a) :: r => some (some (q_kd M a = ci), lv, .inl (q_nm M a j) :: r, M, none)
    | _, _ => none
  | .putfield k => match mt.2.2.1.1 k, st with
    | some (ci, j, true, fin), .inr (.inr v) :: .inr (.inr a) :: r => bif !fin || (mt.2.2.2.2.2.1 && decide (ci = mt.2.2.2.2.1)) then some (some (q_kd M a = ci ∧ -1 ≤ v), lv, r, q_wr M a j v, none) else none
    | some (ci, j, false, fin), .inl v :: .inr (.inr a) :: r => bif !fin || (mt.2.2.2.2.2.1 && decide (ci = mt.2.2.2.2.1)) then some (some (q_kd M a = ci), lv, r, q_wn M a j v, none) else none
    | _, _ => none
  | .new k => match mt.2.2.1.2.2 k with
    | some ci => some (none, lv, .inr (.inr (q_top M)) :: st, q_al M ci (Int.ofNat (q_ns ci)), some (1, q_ns ci))
    | none => none
  | .newarray t => match st with
    | .inl n :: r => bif q_nkb t then some (some (0 ≤ n ∧ n ≤ 1000000), lv, .inr (.inr (q_top M)) :: r, q_al M (q_nk t) n, some (1, n.toNat)) else none
    | _ => none
  | .anewarray k => match mt.2.2.1.2.2 k, st with
    | some ci, .inl n :: r => bif q_akb ci then some (some (0 ≤ n ∧ n ≤ 1000000), lv, .inr (.inr (q_top M)) :: r, q_al M (q_ak ci) n, some (1, n.toNat)) else none
    | _, _ => none
  | .multianewarray k d => match mt.2.2.1.2.2 k, st with
    | some ci, .inl m :: .inl n :: r => bif decide (ci = 20) && Nat.beq d 2 then some (some ((0 ≤ n ∧ n ≤ 1000000) ∧ 0 ≤ m ∧ m ≤ 1000000), lv, .inr (.inr (q_top M)) :: r, q_mu M n m, some (1 + n.toNat, n.toNat + n.toNat * m.toNat)) else none
    | _, _ => none
  | _ => none
def q_br (c : ClassFile.Cond) (x y : Int) (A B : Prop) : Prop := match c with
  | .eq => (x = y → A) ∧ (¬ x = y → B)
  | .ne => (¬ x = y → A) ∧ (x = y → B)
  | .lt => (x < y → A) ∧ (y ≤ x → B)
  | .ge => (y ≤ x → A) ∧ (x < y → B)
  | .gt => (y < x → A) ∧ (x ≤ y → B)
  | .le => (x ≤ y → A) ∧ (y < x → B)
abbrev qK : Type := Nat → qLv → List qV → qM → Nat → Nat → Prop
def q_jmp (pc : Nat) (off : Int) : Nat := (Int.ofNat pc + off).toNat
def q_swT (pc : Nat) (x v : Int) (offs : List Int) (k : Nat → Prop) : Prop := match offs with
  | [] => True
  | o :: t => (x = v → k (q_jmp pc o)) ∧ q_swT pc x (v + 1) t k
def q_swL (pc : Nat) (x : Int) (ps : List (Int × Int)) (d : Int) (k : Nat → Prop) : Prop := match ps with
  | [] => k (q_jmp pc d)
  | e :: t => (x = e.1 → k (q_jmp pc e.2)) ∧ (x ≠ e.1 → q_swL pc x t d k)
/-- the natives and the JDK's own that are taken as one step: 1000 Object(); 1001 arraycopy; 1002 length, 1003 charAt of the text constant; 1004 clone of an int row -/
def q_txt : List Int := [110, 111, 110, 101, 32, 101, 97, 114, 108, 121, 32, 108, 97, 116, 101, 32, 115, 119, 97, 112, 32, 116, 114, 97, 100, 101, 32, 98, 108, 101, 110, 100, 32, 110, 101, 97, 114, 32, 115, 101, 110, 115, 101, 32, 108, 111, 115, 116, 32, 119, 104, 101, 110, 32, 111, 114, 32, 97, 110, 100, 32, 110, 111, 116, 32, 97, 108, 108, 32, 114, 101, 97, 108, 32, 103, 97, 112, 32, 112, 108, 97, 99, 101, 32, 119, 111, 114, 100, 115, 32, 111, 102, 116, 101, 110, 32, 111, 119, 110, 32, 115, 111, 114, 116, 32, 102, 97, 114, 32, 109, 105, 110, 32, 109, 97, 120, 32]
def q_prim (y : Nat) (args : List qV) (M : qM) : Option (Prop × Int × qM × Option (Nat × Nat)) := match y, args with
  | 1000, [.inr (.inr a)] => some (0 ≤ a ∧ q_kd M a ≠ -1, 0, M, none)
  | 1001, [.inr (.inr a), .inl i, .inr (.inr b), .inl j, .inl n] => some (((q_kd M a = 12 ∧ q_kd M b = 12) ∨ (0 ≤ a ∧ 0 ≤ b ∧ q_kd M a = 14 ∧ q_kd M b = 14)) ∧ a ≠ b ∧ 0 ≤ i ∧ 0 ≤ j ∧ 0 ≤ n ∧ i + n ≤ q_ln M a ∧ j + n ≤ q_ln M b, 0, q_cp M a i b j n, none)
  | 1002, [.inr (.inr a)] => some (a = -2, 117, M, none)
  | 1003, [.inr (.inr a), .inl i] => some (a = -2 ∧ 0 ≤ i ∧ i < 117, q_txt.getD i.toNat 0, M, none)
  | 1004, [.inr (.inr a)] => some (0 ≤ a ∧ q_kd M a = 14, q_top M, q_cp (q_al M 14 (q_ln M a)) a 0 (q_top M) 0 (q_ln M a), some (1, (q_ln M a).toNat))
  | _, _ => none
abbrev qCall : Type := Nat → List qV → qM → (Int → qM → Prop) → Prop
/-- on to the next, with what was made -/
def q_on (mt : qMt) (k : qK) (pc : Nat) (lv : qLv) (st : List qV) (M : qM) (c s : Nat) (w : Option (Nat × Nat)) : Prop := match w with
  | none => k pc lv st M c s
  | some (a, b) => (c + a ≤ mt.2.2.2.2.2.2.2.1 ∧ s + b ≤ mt.2.2.2.2.2.2.2.2) ∧ k pc lv st M (c + a) (s + b)
def q_cal (mt : qMt) (call : qCall) (y : Nat) (args : List qV) (M : qM) (k : Int → qM → Nat → Nat → Prop) (c s : Nat) (w : Option (Nat × Nat)) : Prop := match w with
  | none => call y args M (fun v M' => k v M' c s)
  | some (a, b) => (c + a ≤ mt.2.2.2.2.2.2.2.1 ∧ s + b ≤ mt.2.2.2.2.2.2.2.2) ∧ call y args M (fun v M' => k v M' (c + a) (s + b))
def q_call (mt : qMt) (call : qCall) (cl : qCl) (args rest : List qV) (lv : qLv) (M : qM) (c s pc : Nat) (k : qK) : Prop := match Nat.ble (q_cat rest) 8 && (Nat.ble (q_cat args) cl.2.2.2.2.2.2 && Nat.beq args.length cl.2.1) with
  | false => False
  | true => match Nat.ble 1000 cl.1 with
    | true => match q_prim cl.1 args M with
      | none => False
      | some (φ, v, M', w) => φ ∧ q_on mt k (pc + 3) lv (q_tag cl.2.2.2.1 v rest) M' c s w
    | false => match cl.2.2.1, args with
      | Int.negSucc _, _ => q_cal mt call cl.1 args M (fun v M' c s => k (pc + 3) lv (q_tag cl.2.2.2.1 v rest) M' c s) c s (match cl.2.2.2.2.1 with | 0 => none | _ => some (cl.2.2.2.2.1, cl.2.2.2.2.2.1))
      | Int.ofNat ci, .inr (.inr a) :: _ => q_kd M a = Int.ofNat ci ∧ q_cal mt call cl.1 args M (fun v M' c s => k (pc + 3) lv (q_tag cl.2.2.2.1 v rest) M' c s) c s (match cl.2.2.2.2.1 with | 0 => none | _ => some (cl.2.2.2.2.1, cl.2.2.2.2.2.1))
      | _, _ => False
def q_ret (mt : qMt) (P : Int → qM → Prop) (t : Nat) (x : Int) (M : qM) : Prop := match mt.2.2.2.2.2.2.1, t with
  | 4, 1 => (0 ≤ x ∧ x ≤ 1) ∧ P x M
  | 1, 1 => P x M
  | 2, 2 => P x M
  | 3, 3 => P x M
  | 0, 0 => P x M
  | _, _ => False
/-- one instruction: k is what comes next -/
def q_body (mt : qMt) (call : qCall) (P : Int → qM → Prop) (k : qK) (i : Instr) (n pc : Nat) (lv : qLv) (st : List qV) (M : qM) (c s : Nat) : Prop := match i with
  | .if_icmp cd off => match st with
    | .inl y :: .inl x :: r => q_br cd x y (k (q_jmp pc off) lv r M c s) (k (pc + 3) lv r M c s)
    | _ => False
  | .ifCond cd off => match st with
    | .inl x :: r => q_br cd x 0 (k (q_jmp pc off) lv r M c s) (k (pc + 3) lv r M c s)
    | _ => False
  | .ifnull off => match st with
    | .inr (.inr x) :: r => (x = -1 → k (q_jmp pc off) lv r M c s) ∧ (¬ x = -1 → k (pc + 3) lv r M c s)
    | _ => False
  | .ifnonnull off => match st with
    | .inr (.inr x) :: r => (¬ x = -1 → k (q_jmp pc off) lv r M c s) ∧ (x = -1 → k (pc + 3) lv r M c s)
    | _ => False
  | .goto off => k (q_jmp pc off) lv st M c s
  | .tableswitch d lo hi offs => match st with
    | .inl x :: r => q_swT pc x lo offs.toList (fun t => k t lv r M c s) ∧ ((x < lo ∨ hi < x) → k (q_jmp pc d) lv r M c s)
    | _ => False
  | .lookupswitch d ps => match st with
    | .inl x :: r => q_swL pc x ps.toList d (fun t => k t lv r M c s)
    | _ => False
  | .invokevirtual x => match mt.2.2.2.1 x with
    | none => False
    | some cl => q_call mt call cl (st.take cl.2.1).reverse (st.drop cl.2.1) lv M c s pc k
  | .invokestatic x => match mt.2.2.2.1 x with
    | none => False
    | some cl => q_call mt call cl (st.take cl.2.1).reverse (st.drop cl.2.1) lv M c s pc k
  | .invokespecial x => match mt.2.2.2.1 x with
    | none => False
    | some cl => q_call mt call cl (st.take cl.2.1).reverse (st.drop cl.2.1) lv M c s pc k
  | .ireturn => match st with
    | [.inl x] => q_ret mt P 1 x M
    | _ => False
  | .lreturn => match st with
    | [.inr (.inl x)] => q_ret mt P 2 x M
    | _ => False
  | .areturn => match st with
    | [.inr (.inr x)] => q_ret mt P 3 x M
    | _ => False
  | .return_ => match st with
    | [] => q_ret mt P 0 0 M
    | _ => False
  | i => match q_ex mt i lv st M with
    | none => False
    | some (none, lv', st', M', w) => q_on mt k (pc + n) lv' st' M' c s w
    | some (some φ, lv', st', M', w) => φ ∧ q_on mt k (pc + n) lv' st' M' c s w
def q_go (mt : qMt) (call : qCall) (P : Int → qM → Prop) (X k : qK) (cut : Option (List Nat)) : qK := fun pc lv st M c s => match cut with
  | some live => X pc (q_mask live lv) st M c s
  | none => match q_lk mt.1 pc with
    | none => False
    | some e => q_body mt call P k e.1 e.2 pc lv st M c s
/-- up to f instructions, up to the next cut points -/
def q_seg (mt : qMt) (call : qCall) (P : Int → qM → Prop) (X : qK) (f : Nat) : qK := Nat.rec (motive := fun _ => qK) (fun _ _ _ _ _ _ => False) (fun _ ih pc lv st M c s => q_go mt call P X ih (mt.2.1 pc) pc lv st M c s) f
/-- from a cut point (or the entry): its own instruction first -/
def q_from (mt : qMt) (call : qCall) (P : Int → qM → Prop) (X : qK) (f : Nat) : qK := fun pc lv st M c s => q_go mt call P X (q_seg mt call P X f) none pc lv st M c s
/-- the least that is closed under q_from -/
def q_At (mt : qMt) (call : qCall) (P : Int → qM → Prop) : qK := fun pc lv st M c s => ∀ X : qK, (∀ pc lv st M c s, (∃ f, q_from mt call P X f pc lv st M c s) → X pc lv st M c s) → X pc lv st M c s
/-- the method y, d deep at most, comes to an end with P -/
def q_WP (Pr : Nat → qMt) (d : Nat) : qCall := Nat.rec (motive := fun _ => qCall) (fun _ _ _ _ => False) (fun _ ih y args M P => q_At (Pr y) ih P 0 (q_en 0 args) [] M 0 0) d
end
