/-! THE SMALL MACHINE: a program of the tables over a store of numbered cells; what it answers, the real machine answers (part 06) -/
def XB : Nat := 1000000
/-- a store: how many cells; of each its kind (below 12 an object of that class, 20 int[], 21 byte[], 22 boolean[], 23 long[], 24, 25 arrays of objects, 26 int[][]) and length; its ints, its longs, its references; the slots used. From XB on: what is outside and never written -/
abbrev mS : Type := Nat × (Nat → Nat × Nat) × (Nat → Nat → Int32) × (Nat → Nat → Int64) × (Nat → Nat → Option Nat) × Nat
def mN (u : mS) : Nat := u.1
def mK (u : mS) : Nat → Nat × Nat := u.2.1
def mI (u : mS) : Nat → Nat → Int32 := u.2.2.1
def mL (u : mS) : Nat → Nat → Int64 := u.2.2.2.1
def mR (u : mS) : Nat → Nat → Option Nat := u.2.2.2.2.1
def mZ (u : mS) : Nat := u.2.2.2.2.2
def wIs (u : mS) (a : Nat) (f : Nat → Int32) : mS := (u.1, u.2.1, va_up u.2.2.1 a f, u.2.2.2)
def wI (u : mS) (a k : Nat) (x : Int32) : mS := wIs u a (upd (u.2.2.1 a) k x)
def wLs (u : mS) (a : Nat) (f : Nat → Int64) : mS := (u.1, u.2.1, u.2.2.1, va_up u.2.2.2.1 a f, u.2.2.2.2)
def wL (u : mS) (a k : Nat) (x : Int64) : mS := wLs u a (vp_updL (u.2.2.2.1 a) k x)
def wR (u : mS) (a k : Nat) (b : Nat) : mS := (u.1, u.2.1, u.2.2.1, u.2.2.2.1, va_up u.2.2.2.2.1 a (va_up (u.2.2.2.2.1 a) k (some b)), u.2.2.2.2.2)
/-- a new cell -/
def nC (u : mS) (kd len : Nat) : mS := (u.1 + 1, va_up u.2.1 u.1 (kd, len), va_up u.2.2.1 u.1 (fun _ => 0), va_up u.2.2.2.1 u.1 (fun _ => 0), va_up u.2.2.2.2.1 u.1 (fun _ => none), u.2.2.2.2.2 + len)
/-- new int[n][k] -/
def nM (u : mS) (n k : Nat) : mS := (u.1 + 1 + n, fun a => if a = u.1 then (26, n) else if u.1 < a ∧ a ≤ u.1 + n then (20, k) else u.2.1 a, fun a => if u.1 ≤ a ∧ a ≤ u.1 + n then fun _ => 0 else u.2.2.1 a, fun a => if u.1 ≤ a ∧ a ≤ u.1 + n then fun _ => 0 else u.2.2.2.1 a,
  fun a => if a = u.1 then (fun i => if i < n then some (u.1 + 1 + i) else none) else if u.1 < a ∧ a ≤ u.1 + n then (fun _ => none) else u.2.2.2.2.1 a, u.2.2.2.2.2 + n + n * k)
abbrev mV : Type := List (Nat × Value)
abbrev mF : Type := Nat × mV × List Value
def jT (pc : Nat) (off : Int) : Option Nat := if 0 ≤ (pc : Int) + off then some ((pc : Int) + off).toNat else none
def lget (i : Nat) (lv : mV) : Option Value := (lv.find? (fun q => q.1 == i)).map (fun q => q.2)
def lst1 (i : Nat) (v : Value) (lv : mV) : mV := (i, v) :: lv.filter (fun q => !(q.1 == i) && !(q.1 + 1 == i && q.2.category == 2))
def lst2 (i : Nat) (v : Value) (lv : mV) : mV := (i, v) :: lv.filter (fun q => !(q.1 == i) && (!(q.1 == i + 1) && !(q.1 + 1 == i && q.2.category == 2)))
def cH (c : ClassFile.Cond) (x y : Int32) : Bool := match c with
  | .eq => decide (x = y)
  | .ne => decide (¬ x = y)
  | .lt => decide (x < y)
  | .ge => decide (y ≤ x)
  | .gt => decide (y < x)
  | .le => decide (x ≤ y)
section FF
variable (len pc nL : Nat) (lv : mV) (st : List Value)
def fK (w : Nat) (v : Value) : Option mF := if len = w then some (pc + w, lv, v :: st) else none
def fIld (w i : Nat) : Option mF := if len = w then (match lget i lv with
  | some (.int x) => some (pc + w, lv, .int x :: st)
  | _ => none) else none
def fLld (w i : Nat) : Option mF := if len = w then (match lget i lv with
  | some (.long x) => some (pc + w, lv, .long x :: st)
  | _ => none) else none
def fAld (w i : Nat) : Option mF := if len = w then (match lget i lv with
  | some (.ref x) => some (pc + w, lv, .ref x :: st)
  | _ => none) else none
def fIst (w i : Nat) : Option mF := match st with
  | .int x :: r => if len = w ∧ i < nL then some (pc + w, lst1 i (.int x) lv, r) else none
  | _ => none
def fLst (w i : Nat) : Option mF := match st with
  | .long x :: r => if len = w ∧ i + 1 < nL then some (pc + w, lst2 i (.long x) lv, r) else none
  | _ => none
def fAst (w i : Nat) : Option mF := match st with
  | .ref x :: r => if len = w ∧ i < nL then some (pc + w, lst1 i (.ref x) lv, r) else none
  | _ => none
def fInc (i : Nat) (n : Int) : Option mF := if len = 3 ∧ i < nL then (match lget i lv with
  | some (.int x) => some (pc + 3, lst1 i (.int (x + Int32.ofInt n)) lv, st)
  | _ => none) else none
def fB (op : Int32 → Int32 → Int32) : Option mF := match st with
  | .int y :: .int x :: r => if len = 1 then some (pc + 1, lv, .int (op x y) :: r) else none
  | _ => none
def fD (op : Int32 → Int32 → Int32) : Option mF := match st with
  | .int y :: .int x :: r => if len = 1 ∧ ¬ y = 0 then some (pc + 1, lv, .int (op x y) :: r) else none
  | _ => none
def fBL (op : Int64 → Int64 → Int64) : Option mF := match st with
  | .long y :: .long x :: r => if len = 1 then some (pc + 1, lv, .long (op x y) :: r) else none
  | _ => none
def fDL (op : Int64 → Int64 → Int64) : Option mF := match st with
  | .long y :: .long x :: r => if len = 1 ∧ ¬ y = 0 then some (pc + 1, lv, .long (op x y) :: r) else none
  | _ => none
def fSL (op : Int64 → Int32 → Int64) : Option mF := match st with
  | .int y :: .long x :: r => if len = 1 then some (pc + 1, lv, .long (op x y) :: r) else none
  | _ => none
def fU (op : Int32 → Int32) : Option mF := match st with
  | .int x :: r => if len = 1 then some (pc + 1, lv, .int (op x) :: r) else none
  | _ => none
def fIL : Option mF := match st with
  | .int x :: r => if len = 1 then some (pc + 1, lv, .long x.toInt64 :: r) else none
  | _ => none
def fLI : Option mF := match st with
  | .long x :: r => if len = 1 then some (pc + 1, lv, .int x.toInt32 :: r) else none
  | _ => none
def fCmp : Option mF := match st with
  | .long y :: .long x :: r => if len = 1 then some (pc + 1, lv, .int (lg_cmp x y) :: r) else none
  | _ => none
def fDup : Option mF := match st with
  | v :: r => if len = 1 ∧ v.category = 1 then some (pc + 1, lv, v :: v :: r) else none
  | _ => none
def fPop : Option mF := match st with
  | v :: r => if len = 1 ∧ v.category = 1 then some (pc + 1, lv, r) else none
  | _ => none
def fDup2 : Option mF := match st with
  | v :: r => if len = 1 ∧ v.category = 2 then some (pc + 1, lv, v :: v :: r) else (match r with
    | w :: r2 => if len = 1 ∧ v.category = 1 ∧ w.category = 1 then some (pc + 1, lv, v :: w :: v :: w :: r2) else none
    | _ => none)
  | _ => none
def fIf (c : ClassFile.Cond) (off : Int) : Option mF := match st with
  | .int x :: r => if len = 3 then (match jT pc off with
    | some t => some (if cH c x 0 = true then t else pc + 3, lv, r)
    | none => none) else none
  | _ => none
def fIc (c : ClassFile.Cond) (off : Int) : Option mF := match st with
  | .int y :: .int x :: r => if len = 3 then (match jT pc off with
    | some t => some (if cH c x y = true then t else pc + 3, lv, r)
    | none => none) else none
  | _ => none
def fGo (off : Int) : Option mF := if len = 3 then (match jT pc off with
  | some t => some (t, lv, st)
  | none => none) else none
def fTab (df lo hi : Int) (offs : Array Int) : Option mF := match st with
  | .int x :: r => if x.toInt < lo ∨ hi < x.toInt then (match jT pc df with
    | some t => some (t, lv, r)
    | none => none) else (match offs[(x.toInt - lo).toNat]? with
    | some off => (match jT pc off with
      | some t => some (t, lv, r)
      | none => none)
    | none => none)
  | _ => none
end FF
/-- what a step does that touches the frame alone -/
def fF (ins : ClassFile.Instr) (len pc nL : Nat) (lv : mV) (st : List Value) : Option mF := match ins with
  | .iconst n => fK len pc lv st 1 (.int (Int32.ofInt n))
  | .bipush n => fK len pc lv st 2 (.int (Int8.ofInt n).toInt32)
  | .sipush n => fK len pc lv st 3 (.int (Int16.ofInt n).toInt32)
  | .lconst n => fK len pc lv st 1 (.long (Int64.ofNat (n : Nat)))
  | .iload i => fIld len pc lv st 2 i
  | .iload_n i => fIld len pc lv st 1 i
  | .lload i => fLld len pc lv st 2 i
  | .lload_n i => fLld len pc lv st 1 i
  | .aload i => fAld len pc lv st 2 i
  | .aload_n i => fAld len pc lv st 1 i
  | .istore i => fIst len pc nL lv st 2 i
  | .istore_n i => fIst len pc nL lv st 1 i
  | .lstore i => fLst len pc nL lv st 2 i
  | .lstore_n i => fLst len pc nL lv st 1 i
  | .astore i => fAst len pc nL lv st 2 i
  | .astore_n i => fAst len pc nL lv st 1 i
  | .iinc i n => fInc len pc nL lv st i n
  | .iadd => fB len pc lv st (fun x y => x + y)
  | .isub => fB len pc lv st (fun x y => x - y)
  | .imul => fB len pc lv st (fun x y => x * y)
  | .iand => fB len pc lv st (fun x y => x &&& y)
  | .ior => fB len pc lv st (fun x y => x ||| y)
  | .ixor => fB len pc lv st (fun x y => x ^^^ y)
  | .ishl => fB len pc lv st (fun x y => x <<< (y &&& 31))
  | .ishr => fB len pc lv st (fun x y => x >>> (y &&& 31))
  | .iushr => fB len pc lv st (fun x y => (x.toUInt32 >>> (y.toUInt32 &&& Int32.toUInt32 31)).toInt32)
  | .idiv => fD len pc lv st (fun x y => x / y)
  | .irem => fD len pc lv st (fun x y => x - x / y * y)
  | .ladd => fBL len pc lv st (fun x y => x + y)
  | .lsub => fBL len pc lv st (fun x y => x - y)
  | .lmul => fBL len pc lv st (fun x y => x * y)
  | .land => fBL len pc lv st (fun x y => x &&& y)
  | .lor => fBL len pc lv st (fun x y => x ||| y)
  | .ldiv => fDL len pc lv st (fun x y => x / y)
  | .lrem => fDL len pc lv st (fun x y => x - x / y * y)
  | .lshl => fSL len pc lv st (fun x y => x <<< (y.toInt64 &&& 63))
  | .lshr => fSL len pc lv st (fun x y => x >>> (y.toInt64 &&& 63))
  | .i2l => fIL len pc lv st
  | .l2i => fLI len pc lv st
  | .i2b => fU len pc lv st (fun x => x.toInt8.toInt32)
  | .i2s => fU len pc lv st (fun x => x.toInt16.toInt32)
  | .i2c => fU len pc lv st (fun x => (x.toUInt32 % 65536).toInt32)
  | .lcmp => fCmp len pc lv st
  | .dup => fDup len pc lv st
  | .dup2 => fDup2 len pc lv st
  | .pop => fPop len pc lv st
  | .ifCond c off => fIf len pc lv st c off
  | .if_icmp c off => fIc len pc lv st c off
  | .goto off => fGo len pc lv st off
  | .tableswitch df lo hi offs => fTab pc lv st df lo hi offs
  | _ => none
/-- the outside: the script of L ints xs, the class's one static array, the texts -/
def xT (k : Nat) : List Char := ((mm_sc.getD k (0, 0, "", 0)).2.2.1).toList
def xK (L : Nat) (a : Nat) : Nat × Nat := if a = XB then (20, L) else if a = XB + 1 then (20, 6) else if XB + 10 ≤ a ∧ a < XB + 66 then (if a % 2 = 0 then (30, 2) else (21, (xT ((a - XB - 10) / 2)).length)) else (99, 0)
def xI (xs : Nat → Int32) (a i : Nat) : Int32 := if a = XB then xs i else if a = XB + 1 then ([1, 1, 2, 6, 24, 120] : List Int32).getD i 0 else if XB + 10 ≤ a ∧ a < XB + 66 then nI ((xT ((a - XB - 10) / 2)).getD i 'a').toNat else 0
def u0 (L : Nat) (xs : Nat → Int32) : mS := (0, xK L, xI xs, fun _ _ => 0, fun _ _ => none, 0)
/-! the store's reads and writes, as they are asked -/
def oI (u : mS) (ci a k : Nat) : Option Int32 := if a < mN u ∧ (mK u a).1 = ci then some (mI u a k) else none
def oL (u : mS) (ci a k : Nat) : Option Int64 := if a < mN u ∧ (mK u a).1 = ci then some (mL u a k) else none
def oR (u : mS) (ci a k : Nat) : Option Nat := if a < mN u ∧ (mK u a).1 = ci then mR u a k else none
def pI (u : mS) (ci a k : Nat) (x : Int32) : Option mS := if a < mN u ∧ (mK u a).1 = ci then some (wI u a k x) else none
def pZ (u : mS) (ci a k : Nat) (x : Int32) : Option mS := if (a < mN u ∧ (mK u a).1 = ci) ∧ (x = 0 ∨ x = 1) then some (wI u a k x) else none
def pL (u : mS) (ci a k : Nat) (x : Int64) : Option mS := if a < mN u ∧ (mK u a).1 = ci then some (wL u a k x) else none
def pR (u : mS) (ci a k b : Nat) : Option mS := if (a < mN u ∧ (mK u a).1 = ci) ∧ b < mN u then some (wR u a k b) else none
/-- an array's number i: kind kd -/
def aI (u : mS) (kd a : Nat) (i : Int32) : Option Int32 := if (mK u a).1 = kd ∧ (a < mN u ∨ XB ≤ a) ∧ ¬ (i < 0 ∨ (mK u a).2 ≤ i.toNatClampNeg) then some (mI u a i.toNatClampNeg) else none
def aL (u : mS) (a : Nat) (i : Int32) : Option Int64 := if (mK u a).1 = 23 ∧ a < mN u ∧ ¬ (i < 0 ∨ (mK u a).2 ≤ i.toNatClampNeg) then some (mL u a i.toNatClampNeg) else none
def aR (u : mS) (kd a : Nat) (i : Int32) : Option Nat := if (mK u a).1 = kd ∧ a < mN u ∧ ¬ (i < 0 ∨ (mK u a).2 ≤ i.toNatClampNeg) then mR u a i.toNatClampNeg else none
def aLen (u : mS) (a : Nat) : Option Int32 := if 20 ≤ (mK u a).1 ∧ (mK u a).1 ≤ 26 ∧ (a < mN u ∨ (XB ≤ a ∧ (mK u a).1 ≤ 21)) then some (Int32.ofNat (mK u a).2) else none
def sI (u : mS) (a : Nat) (i x : Int32) : Option mS := if (mK u a).1 = 20 ∧ a < mN u ∧ ¬ (i < 0 ∨ (mK u a).2 ≤ i.toNatClampNeg) then some (wI u a i.toNatClampNeg x) else none
def sB (u : mS) (a : Nat) (i x : Int32) : Option mS := if (mK u a).1 = 21 ∧ a < mN u ∧ ¬ (i < 0 ∨ (mK u a).2 ≤ i.toNatClampNeg) then some (wI u a i.toNatClampNeg (vp_nar .byte x)) else none
def sZ (u : mS) (a : Nat) (i x : Int32) : Option mS := if (mK u a).1 = 22 ∧ a < mN u ∧ ¬ (i < 0 ∨ (mK u a).2 ≤ i.toNatClampNeg) then some (wI u a i.toNatClampNeg (vp_nar .boolean x)) else none
def sL (u : mS) (a : Nat) (i : Int32) (x : Int64) : Option mS := if (mK u a).1 = 23 ∧ a < mN u ∧ ¬ (i < 0 ∨ (mK u a).2 ≤ i.toNatClampNeg) then some (wL u a i.toNatClampNeg x) else none
/-- an array of objects (24 of Race, 25 of Row) -/
def eK (kd : Nat) : Nat := if kd = 24 then 2 else 4
def sR (u : mS) (a : Nat) (i : Int32) (b : Nat) : Option mS := if ((mK u a).1 = 24 ∨ (mK u a).1 = 25) ∧ a < mN u ∧ ¬ (i < 0 ∨ (mK u a).2 ≤ i.toNatClampNeg) ∧ b < mN u ∧ (mK u b).1 = eK (mK u a).1 then some (wR u a i.toNatClampNeg b) else none
/-- arraycopy of ints, of longs -/
def cpyI (u : mS) (a : Nat) (sp : Int32) (b : Nat) (dp n : Int32) : Option mS := if ((mK u a).1 = 20 ∧ (mK u b).1 = 20 ∧ a < mN u ∧ b < mN u) ∧ ¬ sp < 0 ∧ ¬ dp < 0 ∧ ¬ n < 0 ∧ sp.toNatClampNeg + n.toNatClampNeg ≤ (mK u a).2 ∧ dp.toNatClampNeg + n.toNatClampNeg ≤ (mK u b).2 then some (wIs u b (va_cpy (mI u a) (mI u b) sp.toNatClampNeg dp.toNatClampNeg n.toNatClampNeg)) else none
def cpyL (u : mS) (a : Nat) (sp : Int32) (b : Nat) (dp n : Int32) : Option mS := if ((mK u a).1 = 23 ∧ (mK u b).1 = 23 ∧ a < mN u ∧ b < mN u) ∧ ¬ sp < 0 ∧ ¬ dp < 0 ∧ ¬ n < 0 ∧ sp.toNatClampNeg + n.toNatClampNeg ≤ (mK u a).2 ∧ dp.toNatClampNeg + n.toNatClampNeg ≤ (mK u b).2 then some (wLs u b (va_cpy (mL u a) (mL u b) sp.toNatClampNeg dp.toNatClampNeg n.toNatClampNeg)) else none
/-! the tables asked -/
def mm_fld (o i : Nat) : Option (Nat × Nat) := (mm_fl.find? (fun q => q.1 == o && q.2.1 == i)).map (fun q => (q.2.2.1, q.2.2.2.1))
def mm_call (o i : Nat) : Option (Nat × Nat) := (mm_cl.find? (fun q => q.1 == o && q.2.1 == i)).map (fun q => (q.2.2.1, q.2.2.2.1))
def mm_int (o i : Nat) : Option Int32 := (mm_ic.find? (fun q => q.1 == o && q.2.1 == i)).map (fun q => q.2.2.1)
def mm_long (o i : Nat) : Option Int64 := (mm_lc.find? (fun q => q.1 == o && q.2.1 == i)).map (fun q => q.2.2.1)
def mm_str (o i : Nat) : Option Nat := mm_sc.findIdx? (fun q => q.1 == o && q.2.1 == i)
def mm_new (o i : Nat) : Option Nat := (mm_nw.find? (fun q => q.1 == o && q.2.1 == i)).map (fun q => q.2.2.1)
def fkOf (t : FieldType) : Nat := match t with
  | .int => 0
  | .long => 1
  | .boolean => 3
  | .object _ => 2
  | .array _ => 2
  | _ => 9
section HH
variable (o : Nat) (u : mS)
def hGet (i a : Nat) (r : List Value) : Option (List Value × mS) := match mm_fld o i with
  | some (ci, k) => (match fkOf (mm_ty ci k) with
    | 0 => (oI u ci a k).map (fun x => (.int x :: r, u))
    | 1 => (oL u ci a k).map (fun x => (.long x :: r, u))
    | 2 => (oR u ci a k).map (fun x => (.ref x :: r, u))
    | 3 => (oI u ci a k).map (fun x => (.int x :: r, u))
    | _ => none)
  | none => if o = 13 ∧ XB ≤ a ∧ (mK u a).1 = 30 then (if i = 9 then some (.ref (a + 1) :: r, u) else if i = 15 then some (.int 0 :: r, u) else none) else none
def mm_fin (ci k : Nat) : Bool := ((vwCl[ci]?).map (fun r => (r.2.1 k).2.2.2)).getD true
def hPutV (ci k : Nat) (v : Value) (a : Nat) (r : List Value) : Option (List Value × mS) := match fkOf (mm_ty ci k), v with
  | 0, .int x => (pI u ci a k x).map (fun w => (r, w))
  | 1, .long x => (pL u ci a k x).map (fun w => (r, w))
  | 2, .ref b => (pR u ci a k b).map (fun w => (r, w))
  | 3, .int x => (pZ u ci a k x).map (fun w => (r, w))
  | _, _ => none
def hPut (b : Bool) (i : Nat) (v : Value) (a : Nat) (r : List Value) : Option (List Value × mS) := match mm_fld o i with
  | some (ci, k) => if mm_fin ci k = false ∨ (b = true ∧ o = ci) then hPutV u ci k v a r else none
  | none => none
def hStat (i : Nat) : Option Value := if (o = 9 ∧ i = 325) ∨ (o = 6 ∧ i = 54) then some (.ref (XB + 1)) else if o = 13 ∧ i = 38 then some (.int 1) else if o = 13 ∧ i = 1053 then some (.retAddr 0) else none
def hConst (i : Nat) : Option Value := match mm_int o i with
  | some x => some (.int x)
  | none => (match mm_str o i with
    | some k => some (.ref (XB + 10 + 2 * k))
    | none => none)
def hNew (i : Nat) (r : List Value) : Option (List Value × mS) := match mm_new o i with
  | some ci => if ci < 11 ∧ mN u < XB then some (.ref (mN u) :: r, nC u ci (mm_nf ci)) else none
  | none => none
def hNewA (t : ClassFile.ArrayType) (n : Int32) (r : List Value) : Option (List Value × mS) := if ¬ n < 0 ∧ n.toNatClampNeg ≤ 20000 ∧ mN u < XB then (match t with
  | .int => some (.ref (mN u) :: r, nC u 20 n.toNatClampNeg)
  | .byte => some (.ref (mN u) :: r, nC u 21 n.toNatClampNeg)
  | .boolean => some (.ref (mN u) :: r, nC u 22 n.toNatClampNeg)
  | .long => some (.ref (mN u) :: r, nC u 23 n.toNatClampNeg)
  | _ => none) else none
def hNewR (i : Nat) (n : Int32) (r : List Value) : Option (List Value × mS) := match mm_new o i with
  | some ci => if (¬ n < 0 ∧ n.toNatClampNeg ≤ 20000 ∧ mN u < XB) ∧ (ci = 2 ∨ ci = 4) then some (.ref (mN u) :: r, nC u (if ci = 2 then 24 else 25) n.toNatClampNeg) else none
  | none => none
def hNewM (i : Nat) (n k : Int32) (r : List Value) : Option (List Value × mS) := match mm_new o i with
  | some ci => if (¬ n < 0 ∧ n.toNatClampNeg ≤ 20000 ∧ ¬ k < 0 ∧ k.toNatClampNeg ≤ 20000 ∧ mN u + n.toNatClampNeg < XB) ∧ ci = 26 then some (.ref (mN u) :: r, nM u n.toNatClampNeg k.toNatClampNeg) else none
  | none => none
/-- words on the stack below a call -/
def stW (r : List Value) : Nat := (r.map (fun v => v.category)).sum
def hPrim (i : Nat) (st : List Value) : Option (List Value × mS) := match mm_call o i, st with
  | some (11, _), .int y :: .int x :: r => if stW r ≤ 8 then some (.int (if x < y then y else x) :: r, u) else none
  | some (12, _), .int y :: .int x :: r => if stW r ≤ 8 then some (.int (if y < x then y else x) :: r, u) else none
  | some (13, _), .long x :: r => if stW r ≤ 8 then some (.long (if 0 < x then x else -x) :: r, u) else none
  | some (14, _), .int n :: .int dp :: .ref b :: .int sp :: .ref a :: r => if stW r ≤ 8 then (match cpyI u a sp b dp n with
    | some w => some (r, w)
    | none => (cpyL u a sp b dp n).map (fun w => (r, w))) else none
  | _, _ => none
def hObj (i a : Nat) (r : List Value) : Option (List Value × mS) := match mm_call o i with
  | some (10, _) => if stW r ≤ 8 ∧ a < mN u then some (r, u) else none
  | _ => none
end HH
/-- what a step does that touches the store, or asks one of the JDK's own -/
def hF (o d : Nat) (b : Bool) (ins : ClassFile.Instr) (len : Nat) (st : List Value) (u : mS) : Option (List Value × mS) := match ins, st with
  | .getfield i, .ref a :: r => if len = 3 then hGet o u i a r else none
  | .putfield i, v :: .ref a :: r => if len = 3 then hPut o u b i v a r else none
  | .iaload, .int i :: .ref a :: r => if len = 1 then (aI u 20 a i).map (fun x => (.int x :: r, u)) else none
  | .baload, .int i :: .ref a :: r => if len = 1 then (match aI u 21 a i with
    | some x => some (.int x :: r, u)
    | none => if a < mN u then (aI u 22 a i).map (fun x => (.int x :: r, u)) else none) else none
  | .laload, .int i :: .ref a :: r => if len = 1 then (aL u a i).map (fun x => (.long x :: r, u)) else none
  | .aaload, .int i :: .ref a :: r => if len = 1 ∧ 24 ≤ (mK u a).1 ∧ (mK u a).1 ≤ 26 then (aR u (mK u a).1 a i).map (fun x => (.ref x :: r, u)) else none
  | .iastore, .int x :: .int i :: .ref a :: r => if len = 1 then (sI u a i x).map (fun w => (r, w)) else none
  | .bastore, .int x :: .int i :: .ref a :: r => if len = 1 then (match sB u a i x with
    | some w => some (r, w)
    | none => (sZ u a i x).map (fun w => (r, w))) else none
  | .lastore, .long x :: .int i :: .ref a :: r => if len = 1 then (sL u a i x).map (fun w => (r, w)) else none
  | .aastore, .ref b :: .int i :: .ref a :: r => if len = 1 then (sR u a i b).map (fun w => (r, w)) else none
  | .arraylength, .ref a :: r => if len = 1 then (aLen u a).map (fun x => (.int x :: r, u)) else none
  | .getstatic i, r => if len = 3 then (hStat o i).map (fun v => (v :: r, u)) else none
  | .ldc i, r => if len = 2 then (hConst o i).map (fun v => (v :: r, u)) else none
  | .ldc_w i, r => if len = 3 then (mm_int o i).map (fun x => (.int x :: r, u)) else none
  | .ldc2_w i, r => if len = 3 then (mm_long o i).map (fun x => (.long x :: r, u)) else none
  | .new i, r => if len = 3 then hNew o u i r else none
  | .newarray t, .int n :: r => if len = 2 then hNewA u t n r else none
  | .anewarray i, .int n :: r => if len = 3 then hNewR o u i n r else none
  | .multianewarray i dm, .int k :: .int n :: r => if len = 4 ∧ dm = 2 then hNewM o u i n k r else none
  | .invokestatic i, s => if len = 3 ∧ 0 < d then hPrim o u i s else none
  | .invokespecial i, .ref a :: r => if len = 3 ∧ 0 < d then hObj o u i a r else none
  | _, _ => none
/-- a call of the program's own: the method, its arguments (this ahead), what stays -/
def cA (k : Nat) (st : List Value) : Option (Nat × List Value × List Value) := if stW (st.drop (mm_m k).2.2.2.2.2.1) ≤ 8 ∧ (mm_m k).2.2.2.2.2.1 ≤ st.length ∧ stW (st.take (mm_m k).2.2.2.2.2.1).reverse ≤ (mm_m k).2.2.2.1 then some (k, (st.take (mm_m k).2.2.2.2.2.1).reverse, st.drop (mm_m k).2.2.2.2.2.1) else none
/-- may the method k be called upon the first of these -/
def cR (u : mS) (k : Nat) (as : List Value) : Bool := match as with
  | .ref a :: _ => decide ((a < mN u ∧ (mK u a).1 = (mm_m k).1 ∧ (mm_m k).1 < 11) ∨ (XB ≤ a ∧ (mK u a).1 = 30 ∧ (mm_m k).1 = 13))
  | _ => false
def cO (as : List Value) : Bool := match as with
  | .ref _ :: _ => true
  | _ => false
def cF (o : Nat) (u : mS) (ins : ClassFile.Instr) (len : Nat) (st : List Value) : Option (Nat × List Value × List Value) := if len = 3 then (match ins with
  | .invokevirtual i => (match mm_call o i with
    | some (0, k) => (match cA k st with
      | some q => if cR u k q.2.1 = true then some q else none
      | none => none)
    | _ => none)
  | .invokestatic i => (match mm_call o i with
    | some (1, k) => cA k st
    | _ => none)
  | .invokespecial i => (match mm_call o i with
    | some (2, k) => (match cA k st with
      | some q => if cO q.2.1 = true then some q else none
      | none => none)
    | some (3, k) => (match cA k st with
      | some q => if cO q.2.1 = true then some q else none
      | none => none)
    | _ => none)
  | _ => none) else none
/-- a return -/
def rF (ret : Option FieldType) (ins : ClassFile.Instr) (len : Nat) (st : List Value) (u : mS) : Option (Option Value × mS) := match ins, st, ret with
  | .ireturn, [.int x], some .int => if len = 1 then some (some (.int x), u) else none
  | .ireturn, [.int x], some .boolean => if len = 1 ∧ (x = 0 ∨ x = 1) then some (some (.int x), u) else none
  | .ireturn, [.int x], some .byte => if len = 1 ∧ x.toInt8.toInt32 = x then some (some (.int x), u) else none
  | .ireturn, [.int x], some .char => if len = 1 ∧ (x.toUInt32 % 65536).toInt32 = x then some (some (.int x), u) else none
  | .lreturn, [.long x], some .long => if len = 1 then some (some (.long x), u) else none
  | .return_, [], none => if len = 1 then some (none, u) else none
  | _, _, _ => none
/-- the arguments as locals: a long takes two -/
def mA : Nat → List Value → mV
  | _, [] => []
  | i, v :: r => (i, v) :: mA (i + v.category) r
/-- the machine: at most n steps deep and long, d calls deep -/
def ev : Nat → Nat → Nat → Nat → mV → List Value → mS → Option (Option Value × mS)
  | 0, _, _, _, _, _, _ => none
  | n + 1, d, k, pc, lv, st, u => match decode (mm_m k).2.2.1 pc with
    | .error _ => none
    | .ok (ins, len) => (match fF ins len pc (mm_m k).2.2.2.1 lv st with
      | some (pc', lv', st') => ev n d k pc' lv' st' u
      | none => (match hF (mm_m k).1 d ((mm_m k).2.1.name == "<init>") ins len st u with
        | some (st', u') => ev n d k (pc + len) lv st' u'
        | none => (match cF (mm_m k).1 u ins len st with
          | some (k', as, r) => (match d with
            | 0 => none
            | d' + 1 => (match ev n d' k' 0 (mA 0 as) [] u with
              | some (v, u') => ev n (d' + 1) k (pc + 3) lv (v.toList ++ r) u'
              | none => none))
          | none => rF (mm_m k).2.2.2.2.1 ins len st u)))
