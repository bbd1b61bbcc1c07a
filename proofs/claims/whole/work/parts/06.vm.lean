/-! A PLAIN MACHINE: one step of the bytecode over a memory of cells, told as data; what a method comes to, as the least set closed under steps. -/
/-- cells: kind and size of each (a kind under 20: an object of that class; 20 int[], 21 long[], 22 byte[], 23 boolean[], 24 an array of objects); what each place holds -/
abbrev Mem : Type := List (Nat × Nat) × (Nat → Nat → Value)
abbrev Lo : Type := List (Option Value)
abbrev Cfg : Type := Nat × Lo × List Value × Mem × Nat × Nat
/-- what a step comes to: a next state; one under a condition; an end; a call -/
abbrev Out : Type := Option (Cfg ⊕ (Prop × Cfg) ⊕ (Prop × Option Value × Mem) ⊕ (Prop × Nat × List Value × Mem × (Option Value → Mem → Cfg)))
def lk (pc : Nat) : List Ent → Option Ent
  | [] => none
  | e :: l => match Nat.beq e.1 pc with
    | true => some e
    | false => lk pc l
def rowAt : List (List Ent) → Nat → List Ent
  | [], _ => []
  | r :: _, 0 => r
  | _ :: l, k + 1 => rowAt l k
def lkc (t : List (List Ent)) (pc : Nat) : Option Ent := lk pc (rowAt t (pc / 16))
def iv : Value → Int32
  | .int x => x
  | _ => 0
def jv : Value → Int64
  | .long x => x
  | _ => 0
def rv : Value → Option Nat
  | .ref a => some a
  | _ => none
def rfo : Option Nat → Value
  | some a => .ref a
  | none => .null
/-- a field's value by its kind: 1 long, 2 a reference, else an int -/
def fv (k : Nat) (v : Value) : Value := match k with
  | 1 => .long (jv v)
  | 2 => rfo (rv v)
  | _ => .int (iv v)
def up (M : Nat → Nat → Value) (o b : Nat) (v : Value) : Nat → Nat → Value := fun o' b' => if o' = o ∧ b' = b then v else M o' b'
def zr (M : Nat → Nat → Value) (o : Nat) : Nat → Nat → Value := fun o' b' => if o' = o then .null else M o' b'
def lget (L : Lo) (i : Nat) : Option Value := match L, i with
  | [], _ => none
  | v :: _, 0 => v
  | _ :: l, i + 1 => lget l i
/-- a place is written: it isn't, if there is no such place -/
def lset (L : Lo) (i : Nat) (v : Option Value) : Lo := match L, i with
  | [], _ => []
  | _ :: l, 0 => v :: l
  | w :: l, i + 1 => w :: lset l i v
/-- a long one place ahead is spoiled -/
def lkill (L : Lo) (i : Nat) : Lo := match i with
  | 0 => L
  | j + 1 => match lget L j with
    | some (.long _) => lset L j none
    | some (.double _) => lset L j none
    | _ => L
def lset1 (L : Lo) (i : Nat) (v : Value) : Lo := lset (lkill L i) i (some v)
def lset2 (L : Lo) (i : Nat) (v : Value) : Lo := lset (lset (lkill L i) i (some v)) (i + 1) none
def ocat : List Value → Nat
  | [] => 0
  | v :: l => v.category + ocat l
def popN {α : Type} : Nat → List Value → List Value → (List Value → List Value → Option α) → Option α
  | 0, acc, st, K => K acc st
  | n + 1, acc, v :: st, K => popN n (v :: acc) st K
  | _ + 1, _, [], _ => none
def xI {α : Type} (st : List Value) (K : Int32 → List Value → Option α) : Option α := match st with
  | .int x :: r => K x r
  | _ => none
def xJ {α : Type} (st : List Value) (K : Int64 → List Value → Option α) : Option α := match st with
  | .long x :: r => K x r
  | _ => none
def xR {α : Type} (st : List Value) (K : Nat → List Value → Option α) : Option α := match st with
  | .ref x :: r => K x r
  | _ => none
/-- a reference or null -/
def xV {α : Type} (st : List Value) (K : Value → List Value → Option α) : Option α := match st with
  | .ref x :: r => K (.ref x) r
  | .null :: r => K .null r
  | _ => none
def x1 {α : Type} (st : List Value) (K : Value → List Value → Option α) : Option α := match st with
  | .int x :: r => K (.int x) r
  | .ref x :: r => K (.ref x) r
  | .null :: r => K .null r
  | _ => none
def gI {α : Type} (L : Lo) (a : Nat) (K : Int32 → Option α) : Option α := match lget L a with
  | some (.int x) => K x
  | _ => none
def gJ {α : Type} (L : Lo) (a : Nat) (K : Int64 → Option α) : Option α := match lget L a with
  | some (.long x) => K x
  | _ => none
def gV {α : Type} (L : Lo) (a : Nat) (K : Value → Option α) : Option α := match lget L a with
  | some (.ref x) => K (.ref x)
  | some .null => K .null
  | _ => none
def cellN {α : Type} (sh : List (Nat × Nat)) (o k : Nat) (K : Nat → Option α) : Option α := match sh[o]? with
  | some p => match Nat.beq p.1 k with
    | true => K p.2
    | false => none
  | none => none
def bR {α : Type} (b : Bool) (x y : Option α) : Option α := match b with
  | true => x
  | false => y
/-- the plain step's own forms -/
def oGo (c : Cfg) : Out := some (.inl c)
def oChk (φ : Prop) (c : Cfg) : Out := some (.inr (.inl (φ, c)))
def oRet (φ : Prop) (v : Option Value) (m : Mem) : Out := some (.inr (.inr (.inl (φ, v, m))))
def oCall (φ : Prop) (g : Nat) (as : List Value) (m : Mem) (k : Option Value → Mem → Cfg) : Out := some (.inr (.inr (.inr (φ, g, as, m, k))))
/-- the law's script, if there is one: length and ints; the table of ACTIONS; the nine texts' bytes -/
abbrev Scr : Type := Option (Nat × (Nat → Int32))
def actF : Nat → Int32 := fun j => [0, 1, 2, 3, 4, 5, 6, 23, 29, 37, 39, 43, 45].getD j 0
/-- Kinds of cells outside: 1000 + i a text, 1100 + i its bytes, 2000 the script, 3000 the table -/
def intsAt (sc : Scr) (m : Mem) (o : Nat) (K : Nat → (Nat → Int32) → Out) : Out :=
  bR (Nat.blt o 1000) (cellN m.1 o 20 fun n => K n (fun j => iv (m.2 o j)))
    (bR (Nat.beq o 3000) (K 13 actF) (bR (Nat.beq o 2000) (match sc with
      | some q => K q.1 q.2
      | none => none) none))
def bytesAt (m : Mem) (o : Nat) (K : Nat → (Nat → Int32) → Out) : Out :=
  bR (Nat.blt o 1000) (match m.1[o]? with
    | some p => bR (Nat.beq p.1 22 || Nat.beq p.1 23) (K p.2 (fun j => iv (m.2 o j))) none
    | none => none)
    (bR (Nat.ble 1100 o && Nat.blt o 1109) (K (txN.getD (o - 1100) 0) (fun j => (txB.getD (o - 1100) []).getD j 0)) none)
def lenAt (sc : Scr) (m : Mem) (o : Nat) (K : Nat → Out) : Out :=
  bR (Nat.blt o 1000) (match m.1[o]? with
    | some p => bR (Nat.ble 20 p.1) (K p.2) none
    | none => none)
    (bR (Nat.beq o 3000) (K 13) (bR (Nat.beq o 2000) (match sc with
      | some q => K q.1
      | none => none) (bR (Nat.ble 1100 o && Nat.blt o 1109) (K (txN.getD (o - 1100) 0)) none)))
/-- is the receiver of the class asked for? 99: a text -/
def recvAt (m : Mem) (o k : Nat) (x : Out) : Out :=
  bR (Nat.beq k 99) (bR (Nat.ble 1000 o && Nat.blt o 1009) x none) (cellN m.1 o k fun _ => x)
def swT (pc lo hi : Int) (dflt : Int) (offs : Array Int) (x : Int32) : Nat :=
  if x.toInt < lo ∨ hi < x.toInt then (pc + dflt).toNat else (pc + offs.getD (x.toInt - lo).toNat 0).toNat
/-- what a method may make in all -/
abbrev AM : Type := Nat → Nat × Nat
/-- one step. n: the instruction's length; a b c: what it links to, or where it leaps to; w z: a constant -/
def out1 (sc : Scr) (aM : AM) (al : Nat × Nat) (i : Instr) (n a b c : Nat) (w : Int32) (z : Int64) (pc : Nat) (L : Lo) (st : List Value) (m : Mem) (kc ks : Nat) : Out :=
  match i with
  | .iconst _ => oGo (pc + n, L, .int w :: st, m, kc, ks)
  | .bipush _ => oGo (pc + n, L, .int w :: st, m, kc, ks)
  | .sipush _ => oGo (pc + n, L, .int w :: st, m, kc, ks)
  | .lconst _ => oGo (pc + n, L, .long z :: st, m, kc, ks)
  | .ldc _ => match a with
    | 0 => oGo (pc + n, L, .int w :: st, m, kc, ks)
    | _ => oGo (pc + n, L, .ref b :: st, m, kc, ks)
  | .ldc_w _ => oGo (pc + n, L, .int w :: st, m, kc, ks)
  | .ldc2_w _ => oGo (pc + n, L, .long z :: st, m, kc, ks)
  | .aconst_null => oGo (pc + n, L, .null :: st, m, kc, ks)
  | .iload _ => gI L a fun x => oGo (pc + n, L, .int x :: st, m, kc, ks)
  | .iload_n _ => gI L a fun x => oGo (pc + n, L, .int x :: st, m, kc, ks)
  | .lload _ => gJ L a fun x => oGo (pc + n, L, .long x :: st, m, kc, ks)
  | .lload_n _ => gJ L a fun x => oGo (pc + n, L, .long x :: st, m, kc, ks)
  | .aload _ => gV L a fun x => oGo (pc + n, L, x :: st, m, kc, ks)
  | .aload_n _ => gV L a fun x => oGo (pc + n, L, x :: st, m, kc, ks)
  | .istore _ => xI st fun x st => oGo (pc + n, lset1 L a (.int x), st, m, kc, ks)
  | .istore_n _ => xI st fun x st => oGo (pc + n, lset1 L a (.int x), st, m, kc, ks)
  | .lstore _ => xJ st fun x st => oGo (pc + n, lset2 L a (.long x), st, m, kc, ks)
  | .lstore_n _ => xJ st fun x st => oGo (pc + n, lset2 L a (.long x), st, m, kc, ks)
  | .astore _ => xV st fun x st => oGo (pc + n, lset1 L a x, st, m, kc, ks)
  | .astore_n _ => xV st fun x st => oGo (pc + n, lset1 L a x, st, m, kc, ks)
  | .iinc _ _ => gI L a fun x => oGo (pc + n, lset1 L a (.int (x + w)), st, m, kc, ks)
  | .dup => x1 st fun x st => oGo (pc + n, L, x :: x :: st, m, kc, ks)
  | .pop => x1 st fun _ st => oGo (pc + n, L, st, m, kc, ks)
  | .pop2 => xJ st fun _ st => oGo (pc + n, L, st, m, kc, ks)
  | .iadd => xI st fun y st => xI st fun x st => oGo (pc + n, L, .int (x + y) :: st, m, kc, ks)
  | .isub => xI st fun y st => xI st fun x st => oGo (pc + n, L, .int (x - y) :: st, m, kc, ks)
  | .imul => xI st fun y st => xI st fun x st => oGo (pc + n, L, .int (x * y) :: st, m, kc, ks)
  | .iand => xI st fun y st => xI st fun x st => oGo (pc + n, L, .int (x &&& y) :: st, m, kc, ks)
  | .ior => xI st fun y st => xI st fun x st => oGo (pc + n, L, .int (x ||| y) :: st, m, kc, ks)
  | .ixor => xI st fun y st => xI st fun x st => oGo (pc + n, L, .int (x ^^^ y) :: st, m, kc, ks)
  | .ishl => xI st fun y st => xI st fun x st => oGo (pc + n, L, .int (x <<< (y &&& 31)) :: st, m, kc, ks)
  | .ishr => xI st fun y st => xI st fun x st => oGo (pc + n, L, .int (x >>> (y &&& 31)) :: st, m, kc, ks)
  | .idiv => xI st fun y st => xI st fun x st => oChk (¬ y = 0) (pc + n, L, .int (x / y) :: st, m, kc, ks)
  | .irem => xI st fun y st => xI st fun x st => oChk (¬ y = 0) (pc + n, L, .int (x - x / y * y) :: st, m, kc, ks)
  | .ineg => xI st fun x st => oGo (pc + n, L, .int (-x) :: st, m, kc, ks)
  | .ladd => xJ st fun y st => xJ st fun x st => oGo (pc + n, L, .long (x + y) :: st, m, kc, ks)
  | .lsub => xJ st fun y st => xJ st fun x st => oGo (pc + n, L, .long (x - y) :: st, m, kc, ks)
  | .lmul => xJ st fun y st => xJ st fun x st => oGo (pc + n, L, .long (x * y) :: st, m, kc, ks)
  | .land => xJ st fun y st => xJ st fun x st => oGo (pc + n, L, .long (x &&& y) :: st, m, kc, ks)
  | .lor => xJ st fun y st => xJ st fun x st => oGo (pc + n, L, .long (x ||| y) :: st, m, kc, ks)
  | .ldiv => xJ st fun y st => xJ st fun x st => oChk (¬ y = 0) (pc + n, L, .long (x / y) :: st, m, kc, ks)
  | .lrem => xJ st fun y st => xJ st fun x st => oChk (¬ y = 0) (pc + n, L, .long (x - x / y * y) :: st, m, kc, ks)
  | .lneg => xJ st fun x st => oGo (pc + n, L, .long (-x) :: st, m, kc, ks)
  | .lshl => xI st fun y st => xJ st fun x st => oGo (pc + n, L, .long (x <<< (y.toInt64 &&& 63)) :: st, m, kc, ks)
  | .lshr => xI st fun y st => xJ st fun x st => oGo (pc + n, L, .long (x >>> (y.toInt64 &&& 63)) :: st, m, kc, ks)
  | .i2l => xI st fun x st => oGo (pc + n, L, .long x.toInt64 :: st, m, kc, ks)
  | .l2i => xJ st fun x st => oGo (pc + n, L, .int x.toInt32 :: st, m, kc, ks)
  | .i2b => xI st fun x st => oGo (pc + n, L, .int x.toInt8.toInt32 :: st, m, kc, ks)
  | .i2c => xI st fun x st => oGo (pc + n, L, .int (x.toUInt32 % 65536).toInt32 :: st, m, kc, ks)
  | .lcmp => xJ st fun y st => xJ st fun x st => oGo (pc + n, L, .int (lg_cmp x y) :: st, m, kc, ks)
  | .goto _ => oGo (a, L, st, m, kc, ks)
  | .ifCond q _ => xI st fun x st => match q with
    | .eq => oGo (if x = 0 then a else pc + 3, L, st, m, kc, ks)
    | .ne => oGo (if x = 0 then pc + 3 else a, L, st, m, kc, ks)
    | .lt => oGo (if x < 0 then a else pc + 3, L, st, m, kc, ks)
    | .ge => oGo (if 0 ≤ x then a else pc + 3, L, st, m, kc, ks)
    | .gt => oGo (if 0 < x then a else pc + 3, L, st, m, kc, ks)
    | .le => oGo (if x ≤ 0 then a else pc + 3, L, st, m, kc, ks)
  | .if_icmp q _ => xI st fun y st => xI st fun x st => match q with
    | .eq => oGo (if x = y then a else pc + 3, L, st, m, kc, ks)
    | .ne => oGo (if x = y then pc + 3 else a, L, st, m, kc, ks)
    | .lt => oGo (if x < y then a else pc + 3, L, st, m, kc, ks)
    | .ge => oGo (if y ≤ x then a else pc + 3, L, st, m, kc, ks)
    | .gt => oGo (if y < x then a else pc + 3, L, st, m, kc, ks)
    | .le => oGo (if x ≤ y then a else pc + 3, L, st, m, kc, ks)
  | .ifnull _ => xV st fun x st => oGo (match x with
    | .null => a
    | _ => pc + 3, L, st, m, kc, ks)
  | .ifnonnull _ => xV st fun x st => oGo (match x with
    | .null => pc + 3
    | _ => a, L, st, m, kc, ks)
  | .tableswitch d lo hi offs => xI st fun x st => oGo (swT pc lo hi d offs x, L, st, m, kc, ks)
  | .iaload => xI st fun j st => xR st fun o st => intsAt sc m o fun len f => oChk (vp_in j len) (pc + n, L, .int (f j.toNatClampNeg) :: st, m, kc, ks)
  | .baload => xI st fun j st => xR st fun o st => bytesAt m o fun len f => oChk (vp_in j len) (pc + n, L, .int (f j.toNatClampNeg) :: st, m, kc, ks)
  | .laload => xI st fun j st => xR st fun o st => cellN m.1 o 21 fun len => oChk (vp_in j len) (pc + n, L, .long (jv (m.2 o j.toNatClampNeg)) :: st, m, kc, ks)
  | .aaload => xI st fun j st => xR st fun o st => cellN m.1 o 24 fun len => oChk (vp_in j len) (pc + n, L, rfo (rv (m.2 o j.toNatClampNeg)) :: st, m, kc, ks)
  | .iastore => xI st fun x st => xI st fun j st => xR st fun o st => cellN m.1 o 20 fun len => oChk (vp_in j len) (pc + n, L, st, (m.1, up m.2 o j.toNatClampNeg (.int x)), kc, ks)
  | .bastore => xI st fun x st => xI st fun j st => xR st fun o st => match m.1[o]? with
    | some p => match p.1 with
      | 22 => oChk (vp_in j p.2) (pc + n, L, st, (m.1, up m.2 o j.toNatClampNeg (.int (vp_nar .byte x))), kc, ks)
      | 23 => oChk (vp_in j p.2) (pc + n, L, st, (m.1, up m.2 o j.toNatClampNeg (.int (vp_nar .boolean x))), kc, ks)
      | _ => none
    | none => none
  | .lastore => xJ st fun x st => xI st fun j st => xR st fun o st => cellN m.1 o 21 fun len => oChk (vp_in j len) (pc + n, L, st, (m.1, up m.2 o j.toNatClampNeg (.long x)), kc, ks)
  | .aastore => xR st fun x st => xI st fun j st => xR st fun o st => cellN m.1 o 24 fun len => cellN m.1 x 8 fun _ => oChk (vp_in j len) (pc + n, L, st, (m.1, up m.2 o j.toNatClampNeg (.ref x)), kc, ks)
  | .arraylength => xR st fun o st => lenAt sc m o fun len => oGo (pc + n, L, .int (Int32.ofNat len) :: st, m, kc, ks)
  | .getfield _ => xR st fun o st => match c with
    | 8 => bR (Nat.ble 1000 o && Nat.blt o 1009) (oGo (pc + n, L, .ref (o + 100) :: st, m, kc, ks)) none
    | 9 => bR (Nat.ble 1000 o && Nat.blt o 1009) (oGo (pc + n, L, .int 0 :: st, m, kc, ks)) none
    | c => cellN m.1 o a fun _ => oGo (pc + n, L, fv c (m.2 o b) :: st, m, kc, ks)
  | .putfield _ => match c with
    | 1 => xJ st fun x st => xR st fun o st => cellN m.1 o a fun _ => oGo (pc + n, L, st, (m.1, up m.2 o b (.long x)), kc, ks)
    | 2 => xV st fun x st => xR st fun o st => cellN m.1 o a fun _ => oGo (pc + n, L, st, (m.1, up m.2 o b x), kc, ks)
    | 3 => xI st fun x st => xR st fun o st => cellN m.1 o a fun _ => oChk (x = 0 ∨ x = 1) (pc + n, L, st, (m.1, up m.2 o b (.int x)), kc, ks)
    | _ => xI st fun x st => xR st fun o st => cellN m.1 o a fun _ => oGo (pc + n, L, st, (m.1, up m.2 o b (.int x)), kc, ks)
  | .getstatic _ => match a with
    | 0 => oGo (pc + n, L, .int 1 :: st, m, kc, ks)
    | _ => oGo (pc + n, L, .ref 3000 :: st, m, kc, ks)
  | .new _ => oChk (m.1.length < 1000 ∧ kc + 1 ≤ al.1 ∧ ks + b ≤ al.2) (pc + n, L, .ref m.1.length :: st, (m.1 ++ [(a, b)], zr m.2 m.1.length), kc + 1, ks + b)
  | .newarray _ => xI st fun x st => oChk (m.1.length < 1000 ∧ (¬ x < 0 ∧ x.toNatClampNeg ≤ 65536) ∧ kc + 1 ≤ al.1 ∧ ks + x.toNatClampNeg ≤ al.2) (pc + n, L, .ref m.1.length :: st, (m.1 ++ [(a, x.toNatClampNeg)], zr m.2 m.1.length), kc + 1, ks + x.toNatClampNeg)
  | .anewarray _ => xI st fun x st => oChk (m.1.length < 1000 ∧ (¬ x < 0 ∧ x.toNatClampNeg ≤ 65536) ∧ kc + 1 ≤ al.1 ∧ ks + x.toNatClampNeg ≤ al.2) (pc + n, L, .ref m.1.length :: st, (m.1 ++ [(24, x.toNatClampNeg)], zr m.2 m.1.length), kc + 1, ks + x.toNatClampNeg)
  | .invokestatic _ => match c with
    | 0 => popN b [] st fun as st => oCall (ocat st ≤ 8) a as m (fun r m1 => (pc + n, L, r.toList ++ st, m1, kc, ks))
    | 1 => xI st fun y st => xI st fun x st => oChk (ocat st ≤ 8) (pc + n, L, .int (if x < y then y else x) :: st, m, kc, ks)
    | 2 => xI st fun y st => xI st fun x st => oChk (ocat st ≤ 8) (pc + n, L, .int (if y < x then y else x) :: st, m, kc, ks)
    | 3 => xJ st fun y st => xJ st fun x st => oChk (ocat st ≤ 8) (pc + n, L, .long (if y < x then x else y) :: st, m, kc, ks)
    | 4 => xJ st fun y st => xJ st fun x st => oChk (ocat st ≤ 8) (pc + n, L, .long (if y < x then y else x) :: st, m, kc, ks)
    | 5 => xJ st fun x st => oChk (ocat st ≤ 8) (pc + n, L, .long (if 0 < x then x else -x) :: st, m, kc, ks)
    | _ => none
  | .invokevirtual _ => popN b [] st fun as st => xR st fun o st => recvAt m o c (oCall (ocat st ≤ 8) a (.ref o :: as) m (fun r m1 => (pc + n, L, r.toList ++ st, m1, kc, ks)))
  | .invokespecial _ => match c with
    | 0 => xR st fun _ st => oChk (ocat st ≤ 8) (pc + n, L, st, m, kc, ks)
    | _ => popN b [] st fun as st => xR st fun o st => oCall (ocat st ≤ 8 ∧ kc + (aM a).1 ≤ al.1 ∧ ks + (aM a).2 ≤ al.2) a (.ref o :: as) m (fun r m1 => (pc + n, L, r.toList ++ st, m1, kc + (aM a).1, ks + (aM a).2))
  | .ireturn => match st with
    | [.int x] => match a with
      | 0 => bR (Nat.beq kc al.1) (oRet True (some (.int x)) m) none
      | _ => bR (Nat.beq kc al.1) (oRet (x = 0 ∨ x = 1) (some (.int x)) m) none
    | _ => none
  | .lreturn => match st with
    | [.long x] => bR (Nat.beq kc al.1) (oRet True (some (.long x)) m) none
    | _ => none
  | .areturn => match st with
    | [.ref x] => bR (Nat.beq kc al.1) (oRet True (some (.ref x)) m) none
    | [.null] => bR (Nat.beq kc al.1) (oRet True (some .null) m) none
    | _ => none
  | .return_ => match st with
    | [] => bR (Nat.beq kc al.1) (oRet True none m) none
    | _ => none
  | _ => none
def out (sc : Scr) (aM : AM) (f : Mth) (c : Cfg) : Out := match c with
  | (pc, L, st, m, kc, ks) => match lkc f.2.2.2.2.2.1 pc with
    | some e => out1 sc aM f.2.2.2.2.1 e.2.1 e.2.2.1 e.2.2.2.1 e.2.2.2.2.1 e.2.2.2.2.2.1 e.2.2.2.2.2.2.2.1 e.2.2.2.2.2.2.2.2 pc L st m kc ks
    | none => none
theorem out_eq (sc : Scr) (aM : AM) (f : Mth) (pc : Nat) (L : Lo) (st : List Value) (m : Mem) (kc ks : Nat) : out sc aM f (pc, L, st, m, kc, ks) = (match lkc f.2.2.2.2.2.1 pc with
    | some e => out1 sc aM f.2.2.2.2.1 e.2.1 e.2.2.1 e.2.2.2.1 e.2.2.2.2.1 e.2.2.2.2.2.1 e.2.2.2.2.2.2.2.1 e.2.2.2.2.2.2.2.2 pc L st m kc ks
    | none => none) := rfl
/-- what a call comes to, for whoever asks -/
abbrev Cal : Type := Nat → List Value → Mem → (Option Value → Mem → Prop) → Prop
def ex1 (E : Cal) (P : Cfg → Prop) (Q : Option Value → Mem → Prop) (o : Out) : Prop := match o with
  | none => False
  | some (.inl c') => P c'
  | some (.inr (.inl (φ, c'))) => φ ∧ P c'
  | some (.inr (.inr (.inl (φ, v, m)))) => φ ∧ Q v m
  | some (.inr (.inr (.inr (φ, g, as, m, k)))) => φ ∧ E g as m (fun r m1 => P (k r m1))
def exec (sc : Scr) (aM : AM) (E : Cal) (f : Mth) (P : Cfg → Prop) (Q : Option Value → Mem → Prop) (c : Cfg) : Prop := ex1 E P Q (out sc aM f c)
def Mono (E : Cal) : Prop := ∀ (g : Nat) (as : List Value) (m : Mem) (Q Q' : Option Value → Mem → Prop), (∀ r m1, Q r m1 → Q' r m1) → E g as m Q → E g as m Q'
theorem exec_mono {sc : Scr} {aM : AM} {E : Cal} {f : Mth} (hE : Mono E) {P P' : Cfg → Prop} {Q Q' : Option Value → Mem → Prop} (hP : ∀ c, P c → P' c) (hQ : ∀ r m, Q r m → Q' r m) (c : Cfg) (h : exec sc aM E f P Q c) : exec sc aM E f P' Q' c := by
  unfold exec ex1 at h ⊢
  split
  · next e => rw [e] at h; exact h
  · next c' e => rw [e] at h; exact hP _ h
  · next φ c' e => rw [e] at h; exact ⟨h.1, hP _ h.2⟩
  · next φ v m e => rw [e] at h; exact ⟨h.1, hQ _ _ h.2⟩
  · next φ g as m k e => rw [e] at h; exact ⟨h.1, hE _ _ _ _ _ (fun r m1 => hP _) h.2⟩
def Go (sc : Scr) (aM : AM) (E : Cal) (f : Mth) (Q : Option Value → Mem → Prop) (c : Cfg) : Prop := ∀ P : Cfg → Prop, (∀ c, exec sc aM E f P Q c → P c) → P c
theorem Go.of_exec {sc : Scr} {aM : AM} {E : Cal} {f : Mth} {Q : Option Value → Mem → Prop} (hE : Mono E) {c : Cfg} (h : exec sc aM E f (Go sc aM E f Q) Q c) : Go sc aM E f Q c := fun P hP => hP c (exec_mono hE (fun c' h' => h' P hP) (fun _ _ h => h) c h)
theorem Go.mono {sc : Scr} {aM : AM} {E : Cal} {f : Mth} {Q Q' : Option Value → Mem → Prop} (hE : Mono E) (hQ : ∀ r m, Q r m → Q' r m) {c : Cfg} (h : Go sc aM E f Q c) : Go sc aM E f Q' c := fun P hP => h P (fun c' h' => hP c' (exec_mono hE (fun _ h => h) hQ c' h'))
/-- the locals at a method's entry -/
def entA : List Value → Lo
  | [] => []
  | .long x :: l => some (.long x) :: none :: entA l
  | .double x :: l => some (.double x) :: none :: entA l
  | v :: l => some v :: entA l
def entP (n : Nat) : Lo → Lo := fun l => match n, l with
  | 0, _ => []
  | n + 1, [] => none :: entP n []
  | n + 1, v :: l => v :: entP n l
def Ev (mt : Nat → Mth) (aM : AM) : Nat → Cal
  | 0 => fun _ _ _ _ => False
  | d + 1 => fun g as m Q => (entA as).length ≤ (mt g).2.2.1 ∧ Go none aM (Ev mt aM d) (mt g) Q (0, entP (mt g).2.2.1 (entA as), [], m, 0, 0)
theorem Ev.mono {mt : Nat → Mth} {aM : AM} : ∀ d, Mono (Ev mt aM d) := by
  intro d
  induction d with
  | zero => intro g as m Q Q' _ h; exact h
  | succ d ih => intro g as m Q Q' hQ h; exact ⟨h.1, h.2.mono ih hQ⟩
/-- plain steps, n at most, up to what is none -/
def runN (sc : Scr) (aM : AM) (f : Mth) : Nat → Cfg → Out
  | 0, c => some (.inl c)
  | n + 1, c => match out sc aM f c with
    | some (.inl c') => runN sc aM f n c'
    | o => o
theorem Go.of_run {sc : Scr} {aM : AM} {E : Cal} {f : Mth} {Q : Option Value → Mem → Prop} (hE : Mono E) : ∀ (n : Nat) (c : Cfg), ex1 E (Go sc aM E f Q) Q (runN sc aM f n c) → Go sc aM E f Q c := by
  intro n
  induction n with
  | zero => intro c h; exact h
  | succ n ih =>
    intro c h
    apply Go.of_exec hE
    unfold exec ex1
    unfold runN at h
    split
    · next e => rw [e] at h; exact h
    · next c' e => rw [e] at h; exact ih c' h
    · next φ c' e => rw [e] at h; exact h
    · next φ v m e => rw [e] at h; exact h
    · next φ g as m k e => rw [e] at h; exact h
