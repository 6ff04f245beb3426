/-! THE SMALL MACHINE: the program run over a heap of numbered cells, as a function; all cells of the program's own have fixed numbers (64 .. 167), but for those that it makes later (168 ..). -/
/-- what the cells hold; of those made later the class; the next number; slots used; how long the script is -/
abbrev AH : Type := (Nat → Nat → Value) × (Nat → Nat) × Nat × Nat × Nat
def toI : Value → Int32
  | .int x => x
  | _ => 0
def toL : Value → Int64
  | .long x => x
  | _ => 0
def toR : Value → Value
  | .ref a => .ref a
  | _ => .null
def toD : Value → UInt64
  | .double x => x
  | _ => 0
/-- what a later cell is: below 100 an object's class, above an array and how long -/
def ax_dty (c : Nat) : Nat × Nat := if c < 100 then (c, 0) else if c % 2 = 0 then (20, (c - 100) / 2) else (24, (c - 101) / 2)
def ax_dcd (c len : Nat) : Nat := if c = 20 then 100 + 2 * len else if c = 24 then 101 + 2 * len else c
def ax_dok (c : Nat) : Prop := c < 12 ∨ (100 ≤ c ∧ c < 40000)
/-- a slot's content as its sort has it -/
def ax_tv (c : Nat) (v : Value) : Value := if c = 1 then .long (toL v) else if c = 2 then toR v else .int (toI v)
def ax_fk (c : Nat) : Nat := if c = 3 then 0 else c
def ax_df (c : Nat) : Value := if c = 1 then .long 0 else if c = 2 then .null else .int 0
def ax_ty (h : AH) (k : Nat) : Nat × Nat := if k < 48 then ax_ctyL.getD k (99, 0) else if k = 48 then (20, h.2.2.2.2) else if k < 64 then (99, 0) else if k < 168 then ax_styL.getD (k - 64) (99, 0) else ax_dty (h.2.1 k)
/-- what a cell holds at a place: constants; when all is made (ph) the final references; else the heap's own -/
def ax_rd (ph : Bool) (h : AH) (a j : Nat) : Value := if a < 48 then (ax_ccL.getD a []).getD j .null else if ph && decide (64 ≤ a) then (match (ax_cfL.getD (a - 64) []).getD j none with | some q => .ref q | none => h.1 a j) else h.1 a j
def ax_wok (ph : Bool) (a j : Nat) : Bool := decide (64 ≤ a) && (!ph || ((ax_cfL.getD (a - 64) []).getD j none).isNone)
/-- a cell that is there -/
def ax_ok (ph : Bool) (h : AH) (a : Nat) : Bool := decide (a < 64) || (ph && decide (a < 168)) || decide (a < h.2.2.1)
def ax_wr (h : AH) (a j : Nat) (v : Value) : AH := (fun b k => if b = a ∧ k = j then v else h.1 b k, h.2)
def ax_mk (h : AH) (c len : Nat) (f : Nat → Value) : AH := (fun b k => if b = h.2.2.1 then f k else h.1 b k, fun b => if b = h.2.2.1 then c else h.2.1 b, h.2.2.1 + 1, h.2.2.2.1 + len, h.2.2.2.2)
/-- a new object of class c -/
def ax_mkO (h : AH) (c : Nat) : Option AH := if 64 ≤ h.2.2.1 ∧ c < 12 ∧ (h.2.2.1 < 168 → ax_styL.getD (h.2.2.1 - 64) (99, 0) = (c, ax_nf c)) then some (ax_mk h c (ax_nf c) (fun j => ax_df (ax_fc c j))) else none
/-- a new array -/
def ax_mkA (h : AH) (c len : Nat) (v : Value) : Option AH := if 64 ≤ h.2.2.1 ∧ len < 19900 ∧ (h.2.2.1 < 168 → ax_styL.getD (h.2.2.1 - 64) (99, 0) = (c, len)) ∧ (¬ h.2.2.1 < 168 → c = 20 ∨ c = 24) then some (ax_mk h (ax_dcd c len) len (fun _ => v)) else none
/-- a copy of an int[] -/
def ax_mkC (h : AH) (a len : Nat) : Option AH := if 168 ≤ h.2.2.1 ∧ len < 19900 then some (ax_mk h (ax_dcd 20 len) len (fun j => .int (toI (h.1 a j)))) else none
def ax_junk : Value := .retAddr 0
def ax_isL : Value → Bool
  | .long _ => true
  | .double _ => true
  | _ => false
/-- 0 int, 1 long, 2 a reference or null, 4 double, 3 none of these -/
def ax_kd : Value → Nat
  | .int _ => 0
  | .long _ => 1
  | .null => 2
  | .ref _ => 2
  | .double _ => 4
  | _ => 3
def ax_put (ls : List Value) (i : Nat) (v : Value) : List Value :=
  (fun l : List Value => if ax_isL v then l.set (i + 1) ax_junk else l) ((if i = 0 then ls else if ax_isL (ls.getD (i - 1) ax_junk) then ls.set (i - 1) ax_junk else ls).set i v)
/-- a method's locals at its entry -/
def ax_ent0 : List Value → List Value
  | [] => []
  | v :: vs => if ax_isL v then v :: ax_junk :: ax_ent0 vs else v :: ax_ent0 vs
def ax_ent (vs : List Value) (n : Nat) : List Value := ax_ent0 vs ++ List.replicate (n - (ax_ent0 vs).length) ax_junk
def ax_lod (c : Nat) (ls : List Value) (n : Nat) : Option Value := if ax_kd (ls.getD n ax_junk) = c then some (ls.getD n ax_junk) else none
def ax_sto (c m : Nat) (ls st : List Value) (n : Nat) : Option (List Value × List Value) := match st with
  | [] => none
  | v :: r => if ax_kd v = c ∧ (if c = 1 ∨ c = 4 then n + 1 else n) < ls.length ∧ ls.length = ax_L m then some (ax_put ls n v, r) else none
def ax_ii (st : List Value) (f : Int32 → Int32 → Option Value) : Option (List Value) := match st with
  | .int y :: .int x :: r => (f x y).map (· :: r)
  | _ => none
def ax_ll (st : List Value) (f : Int64 → Int64 → Option Value) : Option (List Value) := match st with
  | .long y :: .long x :: r => (f x y).map (· :: r)
  | _ => none
def ax_dd (st : List Value) (f : UInt64 → UInt64 → Option Value) : Option (List Value) := match st with
  | .double y :: .double x :: r => (f x y).map (· :: r)
  | _ => none
def ax_li (st : List Value) (f : Int64 → Int32 → Option Value) : Option (List Value) := match st with
  | .int y :: .long x :: r => (f x y).map (· :: r)
  | _ => none
def ax_i (st : List Value) (f : Int32 → Value) : Option (List Value) := match st with
  | .int x :: r => some (f x :: r)
  | _ => none
def ax_l (st : List Value) (f : Int64 → Value) : Option (List Value) := match st with
  | .long x :: r => some (f x :: r)
  | _ => none
def ax_tg (pc : Nat) (off : Int) : Option Nat := if 0 ≤ (pc : Int) + off then some ((pc : Int) + off).toNat else none
def ax_c0 (c : Jvm.ClassFile.Cond) (x : Int32) : Bool := match c with
  | .eq => decide (x = 0)
  | .ne => !decide (x = 0)
  | .lt => decide (x < 0)
  | .ge => decide (0 ≤ x)
  | .gt => decide (0 < x)
  | .le => decide (x ≤ 0)
def ax_c2 (c : Jvm.ClassFile.Cond) (x y : Int32) : Bool := match c with
  | .eq => decide (x = y)
  | .ne => !decide (x = y)
  | .lt => decide (x < y)
  | .ge => decide (y ≤ x)
  | .gt => decide (y < x)
  | .le => decide (x ≤ y)
/-- an array's place -/
def ax_in (i : Int32) (n : Nat) : Bool := !(decide (i < 0) || decide (n ≤ i.toNatClampNeg))
/-- a new int[n][w] -/
def ax_mkM (h : AH) (n w : Nat) : Option AH := if 64 ≤ h.2.2.1 ∧ h.2.2.1 + n < 168 ∧ n ≤ 100 ∧ w ≤ 20000 ∧ ax_styL.getD (h.2.2.1 - 64) (99, 0) = (24, n) ∧ (List.range n).all (fun i => decide (ax_styL.getD (h.2.2.1 + 1 + i - 64) (99, 0) = (20, w))) = true then
    some (fun b k => if b = h.2.2.1 then .ref (h.2.2.1 + 1 + k) else if h.2.2.1 < b ∧ b < h.2.2.1 + 1 + n then .int 0 else h.1 b k, h.2.1, h.2.2.1 + 1 + n, h.2.2.2.1 + n + n * w, h.2.2.2.2) else none
/-- how long an instruction is, of those that are run -/
def ax_len (i : Instr) : Nat := match i with
  | .iload _ => 2 | .lload _ => 2 | .aload _ => 2 | .istore _ => 2 | .lstore _ => 2 | .astore _ => 2 | .dload _ => 2 | .dstore _ => 2 | .bipush _ => 2 | .ldc _ => 2 | .newarray _ => 2
  | .iinc _ _ => 3 | .sipush _ => 3 | .ldc_w _ => 3 | .ldc2_w _ => 3 | .goto _ => 3 | .ifCond _ _ => 3 | .if_icmp _ _ => 3 | .ifnull _ => 3 | .ifnonnull _ => 3 | .if_acmp _ _ => 3
  | .getfield _ => 3 | .putfield _ => 3 | .invokestatic _ => 3 | .getstatic _ => 3 | .new _ => 3 | .anewarray _ => 3 | .multianewarray _ _ => 4 | .checkcast _ => 3 | .invokevirtual _ => 3
  | _ => 1
def ax_tsw (i : Instr) : Bool := match i with
  | .tableswitch _ _ _ _ => true
  | _ => false
abbrev AX : Type := Nat × List Value × List Value × AH
def ax_wt (st : List Value) : Nat := (st.map fun v => if ax_isL v then 2 else 1).sum
/-- one instruction, but calls and returns -/
def ax_step (ph : Bool) (m : Nat) (i : Instr) (pc : Nat) (ls st : List Value) (h : AH) : Option AX := match i with
  | .iload n => (ax_lod 0 ls n).map fun v => (pc + 2, ls, v :: st, h)
  | .iload_n n => (ax_lod 0 ls n.val).map fun v => (pc + 1, ls, v :: st, h)
  | .lload n => (ax_lod 1 ls n).map fun v => (pc + 2, ls, v :: st, h)
  | .lload_n n => (ax_lod 1 ls n.val).map fun v => (pc + 1, ls, v :: st, h)
  | .aload n => (ax_lod 2 ls n).map fun v => (pc + 2, ls, v :: st, h)
  | .aload_n n => (ax_lod 2 ls n.val).map fun v => (pc + 1, ls, v :: st, h)
  | .istore n => (ax_sto 0 m ls st n).map fun q => (pc + 2, q.1, q.2, h)
  | .istore_n n => (ax_sto 0 m ls st n.val).map fun q => (pc + 1, q.1, q.2, h)
  | .lstore n => (ax_sto 1 m ls st n).map fun q => (pc + 2, q.1, q.2, h)
  | .lstore_n n => (ax_sto 1 m ls st n.val).map fun q => (pc + 1, q.1, q.2, h)
  | .astore n => (ax_sto 2 m ls st n).map fun q => (pc + 2, q.1, q.2, h)
  | .astore_n n => (ax_sto 2 m ls st n.val).map fun q => (pc + 1, q.1, q.2, h)
  | .dload n => (ax_lod 4 ls n).map fun v => (pc + 2, ls, v :: st, h)
  | .dload_n n => (ax_lod 4 ls n.val).map fun v => (pc + 1, ls, v :: st, h)
  | .dstore n => (ax_sto 4 m ls st n).map fun q => (pc + 2, q.1, q.2, h)
  | .dstore_n n => (ax_sto 4 m ls st n.val).map fun q => (pc + 1, q.1, q.2, h)
  | .dconst k => if k.val = 0 then some (pc + 1, ls, .double 0 :: st, h) else none
  | .iinc n k => (match ls.getD n ax_junk with
    | .int x => if n < ls.length ∧ ls.length = ax_L m then some (pc + 3, ax_put ls n (.int (x + Int32.ofInt k)), st, h) else none
    | _ => none)
  | .iconst k => some (pc + 1, ls, .int (Int32.ofInt k) :: st, h)
  | .bipush k => some (pc + 2, ls, .int (Int8.ofInt k).toInt32 :: st, h)
  | .sipush k => some (pc + 3, ls, .int (Int16.ofInt k).toInt32 :: st, h)
  | .lconst k => some (pc + 1, ls, .long (Int64.ofNat k.val) :: st, h)
  | .aconst_null => some (pc + 1, ls, .null :: st, h)
  | .ldc k => (match ax_ldc (ax_own m) k with
    | some (.int v) => some (pc + 2, ls, .int v :: st, h)
    | some (.ref v) => some (pc + 2, ls, .ref v :: st, h)
    | _ => none)
  | .ldc_w k => (match ax_ldc (ax_own m) k with
    | some (.int v) => some (pc + 3, ls, .int v :: st, h)
    | some (.ref v) => some (pc + 3, ls, .ref v :: st, h)
    | _ => none)
  | .ldc2_w k => (match ax_ldc (ax_own m) k with
    | some (.long v) => some (pc + 3, ls, .long v :: st, h)
    | some (.double v) => some (pc + 3, ls, .double v :: st, h)
    | _ => none)
  | .iadd => (ax_ii st fun x y => some (.int (x + y))).map fun r => (pc + 1, ls, r, h)
  | .isub => (ax_ii st fun x y => some (.int (x - y))).map fun r => (pc + 1, ls, r, h)
  | .imul => (ax_ii st fun x y => some (.int (x * y))).map fun r => (pc + 1, ls, r, h)
  | .iand => (ax_ii st fun x y => some (.int (x &&& y))).map fun r => (pc + 1, ls, r, h)
  | .ior => (ax_ii st fun x y => some (.int (x ||| y))).map fun r => (pc + 1, ls, r, h)
  | .ixor => (ax_ii st fun x y => some (.int (x ^^^ y))).map fun r => (pc + 1, ls, r, h)
  | .idiv => (ax_ii st fun x y => if y = 0 then none else some (.int (x / y))).map fun r => (pc + 1, ls, r, h)
  | .irem => (ax_ii st fun x y => if y = 0 then none else some (.int (x - x / y * y))).map fun r => (pc + 1, ls, r, h)
  | .ishl => (ax_ii st fun x y => some (.int (x <<< (y &&& 31)))).map fun r => (pc + 1, ls, r, h)
  | .ishr => (ax_ii st fun x y => some (.int (x >>> (y &&& 31)))).map fun r => (pc + 1, ls, r, h)
  | .iushr => (ax_ii st fun x y => some (.int (x.toUInt32 >>> (y.toUInt32 &&& Int32.toUInt32 31)).toInt32)).map fun r => (pc + 1, ls, r, h)
  | .ladd => (ax_ll st fun x y => some (.long (x + y))).map fun r => (pc + 1, ls, r, h)
  | .lmul => (ax_ll st fun x y => some (.long (x * y))).map fun r => (pc + 1, ls, r, h)
  | .land => (ax_ll st fun x y => some (.long (x &&& y))).map fun r => (pc + 1, ls, r, h)
  | .lor => (ax_ll st fun x y => some (.long (x ||| y))).map fun r => (pc + 1, ls, r, h)
  | .ldiv => (ax_ll st fun x y => if y = 0 then none else some (.long (x / y))).map fun r => (pc + 1, ls, r, h)
  | .lrem => (ax_ll st fun x y => if y = 0 then none else some (.long (x - x / y * y))).map fun r => (pc + 1, ls, r, h)
  | .lcmp => (ax_ll st fun x y => some (.int (lg_cmp x y))).map fun r => (pc + 1, ls, r, h)
  | .lshl => (ax_li st fun x y => some (.long (x <<< (y.toInt64 &&& 63)))).map fun r => (pc + 1, ls, r, h)
  | .lshr => (ax_li st fun x y => some (.long (x >>> (y.toInt64 &&& 63)))).map fun r => (pc + 1, ls, r, h)
  | .lneg => (ax_l st fun x => .long (-x)).map fun r => (pc + 1, ls, r, h)
  | .i2l => (ax_i st fun x => .long x.toInt64).map fun r => (pc + 1, ls, r, h)
  | .l2i => (ax_l st fun x => .int x.toInt32).map fun r => (pc + 1, ls, r, h)
  | .l2d => (ax_l st fun x => .double (FP.l2d x)).map fun r => (pc + 1, ls, r, h)
  | .ddiv => (ax_dd st fun x y => if FP.ddiv x y &&& 0x7fffffffffffffff ≤ 0x7ff0000000000000 then some (.double (FP.ddiv x y)) else none).map fun r => (pc + 1, ls, r, h)
  | .dadd => (ax_dd st fun x y => if FP.dadd x y &&& 0x7fffffffffffffff ≤ 0x7ff0000000000000 then some (.double (FP.dadd x y)) else none).map fun r => (pc + 1, ls, r, h)
  | .dsub => (ax_dd st fun x y => if FP.dsub x y &&& 0x7fffffffffffffff ≤ 0x7ff0000000000000 then some (.double (FP.dsub x y)) else none).map fun r => (pc + 1, ls, r, h)
  | .dcmp op => (ax_dd st fun x y => some (.int (Op.cmpValue (FP.dcmp x y) op))).map fun r => (pc + 1, ls, r, h)
  | .i2c => (ax_i st fun x => .int (x.toUInt32 % 65536).toInt32).map fun r => (pc + 1, ls, r, h)
  | .dup => (match st with
    | v :: r => if ax_kd v = 0 ∨ ax_kd v = 2 then some (pc + 1, ls, v :: v :: r, h) else none
    | [] => none)
  | .pop => (match st with
    | v :: r => if ax_kd v = 0 ∨ ax_kd v = 2 then some (pc + 1, ls, r, h) else none
    | [] => none)
  | .dup2 => (match st with
    | v :: w :: r => if (ax_kd v = 0 ∨ ax_kd v = 2) ∧ (ax_kd w = 0 ∨ ax_kd w = 2) then some (pc + 1, ls, v :: w :: v :: w :: r, h) else none
    | _ => none)
  | .dup_x1 => (match st with
    | v :: w :: r => if (ax_kd v = 0 ∨ ax_kd v = 2) ∧ (ax_kd w = 0 ∨ ax_kd w = 2) then some (pc + 1, ls, v :: w :: v :: r, h) else none
    | _ => none)
  | .checkcast k => (match st with
    | .ref a :: r => if ax_new (ax_own m) k = some 17 ∧ (ax_ty h a).1 = 20 ∧ 64 ≤ a ∧ ax_ok ph h a = true then some (pc + 3, ls, .ref a :: r, h) else none
    | _ => none)
  | .invokevirtual k => (match ax_cal (ax_own m) k with
    | some (9, _, _) => (match st with
      | .ref a :: r => if (ax_ty h a).1 = 20 ∧ 64 ≤ a ∧ ax_ok ph h a = true ∧ ax_wt r ≤ 8 ∧ ls.length = ax_L m then (ax_mkC h a (ax_ty h a).2).map fun h1 => (pc + 3, ls, .ref h.2.2.1 :: r, h1) else none
      | _ => none)
    | _ => none)
  | .goto off => (ax_tg pc off).map fun t => (t, ls, st, h)
  | .ifCond c off => (match st with
    | .int x :: r => (ax_tg pc off).map fun t => (if ax_c0 c x = true then t else pc + 3, ls, r, h)
    | _ => none)
  | .if_icmp c off => (match st with
    | .int y :: .int x :: r => (ax_tg pc off).map fun t => (if ax_c2 c x y = true then t else pc + 3, ls, r, h)
    | _ => none)
  | .ifnull off => (match st with
    | .null :: r => (ax_tg pc off).map fun t => (t, ls, r, h)
    | .ref k :: r => if k = 9 then none else some (pc + 3, ls, r, h)
    | _ => none)
  | .ifnonnull off => (match st with
    | .null :: r => some (pc + 3, ls, r, h)
    | .ref k :: r => if k = 9 then none else (ax_tg pc off).map fun t => (t, ls, r, h)
    | _ => none)
  | .if_acmp c off => (match st with
    | .ref y :: .ref x :: r => if x < 8 ∧ y < 8 then (ax_tg pc off).map fun t => (if (x = y ↔ c = .eq) then t else pc + 3, ls, r, h) else none
    | _ => none)
  | .tableswitch d lo hi offs => (match st with
    | .int x :: r => if x.toInt < lo ∨ hi < x.toInt then (ax_tg pc d).map fun t => (t, ls, r, h) else (match offs[(x.toInt - lo).toNat]? with
      | some off => (ax_tg pc off).map fun t => (t, ls, r, h)
      | none => none)
    | _ => none)
  | .getfield k => (match st with
    | .ref a :: r => (match ax_fld (ax_own m) k with
      | some q => if (ax_ty h a).1 = q.1 ∧ q.1 < 14 ∧ ax_ok ph h a = true then some (pc + 3, ls, ax_tv (ax_fc q.1 q.2) (ax_rd ph h a q.2) :: r, h) else none
      | none => none)
    | _ => none)
  | .putfield k => (match st with
    | v :: .ref a :: r => (match ax_fld (ax_own m) k with
      | some q => if (ax_ty h a).1 = q.1 ∧ q.1 < 12 ∧ ax_wok ph a q.2 = true ∧ ax_ok ph h a = true ∧ (ax_ff q.1 q.2 = true → (ax_y m).name = "<init>" ∧ q.1 = ax_own m) ∧ ax_kd v = ax_fk (ax_fc q.1 q.2) ∧ (ax_fc q.1 q.2 = 3 → toI v = 0 ∨ toI v = 1) then some (pc + 3, ls, r, ax_wr h a q.2 v) else none
      | none => none)
    | _ => none)
  | .getstatic k => (match ax_sta (ax_own m) k with
    | some v => some (pc + 3, ls, v :: st, h)
    | none => none)
  | .arraylength => (match st with
    | .ref a :: r => if 20 ≤ (ax_ty h a).1 ∧ (ax_ty h a).1 ≠ 99 ∧ ax_ok ph h a = true then some (pc + 1, ls, .int (Int32.ofNat (ax_ty h a).2) :: r, h) else none
    | _ => none)
  | .iaload => (match st with
    | .int j :: .ref a :: r => if (ax_ty h a).1 = 20 ∧ ax_in j (ax_ty h a).2 = true ∧ ax_ok ph h a = true then some (pc + 1, ls, .int (toI (ax_rd ph h a j.toNatClampNeg)) :: r, h) else none
    | _ => none)
  | .baload => (match st with
    | .int j :: .ref a :: r => if (ax_ty h a).1 = 22 ∧ ax_in j (ax_ty h a).2 = true ∧ ax_ok ph h a = true then some (pc + 1, ls, .int (toI (ax_rd ph h a j.toNatClampNeg)) :: r, h) else none
    | _ => none)
  | .laload => (match st with
    | .int j :: .ref a :: r => if (ax_ty h a).1 = 21 ∧ ax_in j (ax_ty h a).2 = true ∧ ax_ok ph h a = true then some (pc + 1, ls, .long (toL (ax_rd ph h a j.toNatClampNeg)) :: r, h) else none
    | _ => none)
  | .aaload => (match st with
    | .int j :: .ref a :: r => if ((ax_ty h a).1 = 24 ∨ 30 ≤ (ax_ty h a).1) ∧ (ax_ty h a).1 ≠ 99 ∧ ax_in j (ax_ty h a).2 = true ∧ ax_ok ph h a = true then some (pc + 1, ls, toR (ax_rd ph h a j.toNatClampNeg) :: r, h) else none
    | _ => none)
  | .iastore => (match st with
    | .int x :: .int j :: .ref a :: r => if (ax_ty h a).1 = 20 ∧ ax_in j (ax_ty h a).2 = true ∧ ax_wok ph a j.toNatClampNeg = true ∧ ax_ok ph h a = true then some (pc + 1, ls, r, ax_wr h a j.toNatClampNeg (.int x)) else none
    | _ => none)
  | .lastore => (match st with
    | .long x :: .int j :: .ref a :: r => if (ax_ty h a).1 = 21 ∧ ax_in j (ax_ty h a).2 = true ∧ ax_wok ph a j.toNatClampNeg = true ∧ ax_ok ph h a = true then some (pc + 1, ls, r, ax_wr h a j.toNatClampNeg (.long x)) else none
    | _ => none)
  | .aastore => (match st with
    | .null :: .int j :: .ref a :: r => if (30 ≤ (ax_ty h a).1 ∧ (ax_ty h a).1 < 44) ∧ ax_in j (ax_ty h a).2 = true ∧ ax_wok ph a j.toNatClampNeg = true ∧ ax_ok ph h a = true then some (pc + 1, ls, r, ax_wr h a j.toNatClampNeg .null) else none
    | .ref v :: .int j :: .ref a :: r => if ((30 ≤ (ax_ty h a).1 ∧ (ax_ty h a).1 < 42 ∧ (ax_ty h v).1 + 30 = (ax_ty h a).1) ∨ ((ax_ty h a).1 = 24 ∧ (ax_ty h v).1 = 20)) ∧ 64 ≤ v ∧ ax_ok ph h v = true ∧ ax_in j (ax_ty h a).2 = true ∧ ax_wok ph a j.toNatClampNeg = true ∧ ax_ok ph h a = true then some (pc + 1, ls, r, ax_wr h a j.toNatClampNeg (.ref v)) else none
    | _ => none)
  | .invokestatic k => (match ax_cal (ax_own m) k with
    | some (5, _, _) => if ax_wt (st.drop 2) ≤ 8 ∧ ls.length = ax_L m then (ax_ii st fun x y => some (.int (if x < y then y else x))).map fun r => (pc + 3, ls, r, h) else none
    | some (6, _, _) => if ax_wt (st.drop 2) ≤ 8 ∧ ls.length = ax_L m then (ax_ii st fun x y => some (.int (if y < x then y else x))).map fun r => (pc + 3, ls, r, h) else none
    | some (7, _, _) => if ax_wt (st.drop 1) ≤ 8 ∧ ls.length = ax_L m then (ax_l st fun x => .long (if 0 < x then x else -x)).map fun r => (pc + 3, ls, r, h) else none
    | some (8, _, _) => if ax_wt (st.drop 2) ≤ 8 ∧ ls.length = ax_L m then (ax_ll st fun x y => some (.long (if y < x then x else y))).map fun r => (pc + 3, ls, r, h) else none
    | _ => none)
  | .new k => (match ax_new (ax_own m) k with
    | some c => (ax_mkO h c).map fun h1 => (pc + 3, ls, .ref h.2.2.1 :: st, h1)
    | none => none)
  | .newarray t => (match st with
    | .int n :: r => if n < 0 then none else (match t with
      | .int => (ax_mkA h 20 n.toNatClampNeg (.int 0)).map fun h1 => (pc + 2, ls, .ref h.2.2.1 :: r, h1)
      | .long => (ax_mkA h 21 n.toNatClampNeg (.long 0)).map fun h1 => (pc + 2, ls, .ref h.2.2.1 :: r, h1)
      | _ => none)
    | _ => none)
  | .anewarray k => (match st with
    | .int n :: r => if n < 0 then none else (match ax_new (ax_own m) k with
      | some c => (ax_mkA h (if c = 17 then 24 else 30 + c) n.toNatClampNeg .null).map fun h1 => (pc + 3, ls, .ref h.2.2.1 :: r, h1)
      | none => none)
    | _ => none)
  | .multianewarray k d => (match st with
    | .int w :: .int n :: r => if n < 0 ∨ w < 0 ∨ ¬ d = 2 ∨ ax_mna (ax_own m) k = false then none else (ax_mkM h n.toNatClampNeg w.toNatClampNeg).map fun h1 => (pc + 4, ls, .ref h.2.2.1 :: r, h1)
    | _ => none)
  | _ => none
/-- what a method returns -/
def ax_retv (m : Nat) (i : Instr) (st : List Value) : Option (Option Value) := match i with
  | .ireturn => (match st with
    | [.int v] => if ax_ret m = some .int ∨ (ax_ret m = some .boolean ∧ (v = 0 ∨ v = 1)) ∨ (ax_ret m = some .char ∧ v.toUInt32.toUInt16.toUInt32.toInt32 = v) ∨ (ax_ret m = some .byte ∧ v.toInt8.toInt32 = v) then some (some (.int v)) else none
    | _ => none)
  | .lreturn => (match st with
    | [.long v] => if ax_ret m = some .long then some (some (.long v)) else none
    | _ => none)
  | .areturn => (match st with
    | [v] => if ax_kd v = 2 then (match ax_ret m with
      | some (.object _) => some (some v)
      | some (.array _) => some (some v)
      | _ => none) else none
    | _ => none)
  | .return_ => (match st with
    | [] => if ax_ret m = none then some none else none
    | _ => none)
  | _ => none
/-- a call: which method, its arguments, what is left on the stack -/
def ax_callv (ph : Bool) (m : Nat) (i : Instr) (st : List Value) (h : AH) : Option (Option Nat × List Value × List Value) := match i with
  | .invokevirtual k => (match ax_cal (ax_own m) k with
    | some (0, q, n) => (match st.drop n with
      | .ref a :: r => if (st.take n).length = n ∧ ax_wt r ≤ 8 ∧ (ax_ty h a).1 = ax_own q ∧ ax_own q < 14 ∧ ax_ok ph h a = true then some (some q, .ref a :: (st.take n).reverse, r) else none
      | _ => none)
    | _ => none)
  | .invokestatic k => (match ax_cal (ax_own m) k with
    | some (1, q, n) => if (st.take n).length = n ∧ ax_wt (st.drop n) ≤ 8 then some (some q, (st.take n).reverse, st.drop n) else none
    | some (10, q, n) => if (st.take n).length = n ∧ ax_wt (st.drop n) ≤ 8 then some (some q, (st.take n).reverse, st.drop n) else none
    | _ => none)
  | .invokespecial k => (match ax_cal (ax_own m) k with
    | some (2, q, n) => (match st.drop n with
      | .ref a :: r => if (st.take n).length = n ∧ ax_wt r ≤ 8 ∧ 64 ≤ a then some (some q, .ref a :: (st.take n).reverse, r) else none
      | _ => none)
    | some (3, q, n) => (match st.drop n with
      | .ref a :: r => if (st.take n).length = n ∧ ax_wt r ≤ 8 ∧ 64 ≤ a then some (some q, .ref a :: (st.take n).reverse, r) else none
      | _ => none)
    | some (4, _, _) => (match st with
      | .ref a :: r => if ax_wt r ≤ 8 ∧ 64 ≤ a then some (none, [], r) else none
      | _ => none)
    | _ => none)
  | _ => none
/-- the run: fuel, how many calls deep it may still go, the method, the place, locals, stack, heap -/
def ax_ex (ph : Bool) : Nat → Nat → Nat → Nat → List Value → List Value → AH → Option (Option Value × AH)
  | 0, _, _, _, _, _, _ => none
  | f + 1, d, m, pc, ls, st, h => match decode (ax_code m) pc with
    | .error _ => none
    | .ok (i, len) => match ax_step ph m i pc ls st h with
      | some (pc1, ls1, st1, h1) => if len = ax_len i ∨ ax_tsw i = true then ax_ex ph f d m pc1 ls1 st1 h1 else none
      | none => match ax_retv m i st with
        | some r => if len = ax_len i then some (r, h) else none
        | none => match ax_callv ph m i st h with
          | some (none, _, r) => if len = 3 then ax_ex ph f d m (pc + 3) ls r h else none
          | some (some q, as, r) => if len = 3 ∧ (ax_ent0 as).length ≤ ax_L q then (match d with
            | 0 => none
            | d1 + 1 => match ax_ex ph f d1 q 0 (ax_ent as (ax_L q)) [] h with
              | some (v, h1) => ax_ex ph f d m (pc + 3) ls (v.toList ++ r) h1
              | none => none) else none
          | none => none
/-- it comes to this end -/
def XX (ph : Bool) (d m pc : Nat) (ls st : List Value) (h : AH) (R : Option Value × AH) : Prop := ∃ f, ax_ex ph f d m pc ls st h = some R
