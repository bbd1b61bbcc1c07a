/-! What is checked of every method's code as data, by the kernel: its instructions, what they link to. -/
def wd (j : Nat) (w : Cond) : Bool := decide (lw_tbl[j]? = some w) && goodWord w
def kdD (d : String) : Nat := if d = "I" then 0 else if d = "J" then 1 else if d = "Z" then 3 else 2
def jmp (pc : Nat) (off : Int) (a : Nat) : Bool := decide ((pc : Int) + off = (a : Int))
def nth {α : Type} (l : List α) (k : Nat) (d : α) : α := match l, k with
  | [], _ => d
  | x :: _, 0 => x
  | _ :: l, k + 1 => nth l k d
def cls0 : vw_C := ("", fun _ => ("", "", "", false), 0)
def clA (a : Nat) : vw_C := nth vwCl a cls0
def fldOk (R : String) (i a b c j : Nat) (put : Bool) (nm : String) : Bool :=
  let q := clA a
  decide (a < 12) && decide (b < q.2.2) && decide (c < 4) && decide (kdD (q.2.1 b).2.2.1 = c) && wd j (.fieldLink R i (q.2.1 b).1 (q.2.1 b).2.1 (q.2.1 b).2.2.1) && (!put || !(q.2.1 b).2.2.2 || (decide (nm = "<init>") && decide ((q.2.1 b).1 = R)))
/-- what a callee's row says of it: name, what it makes, how many arguments, its kind -/
abbrev Sg : Type := MethodName × (Nat × Nat) × Nat × Nat
def okE (sg : Nat → Sg) (y : MethodName) (maxL : Nat) (ret : Option FieldType) (bs : ByteArray) (e : Ent) : Bool :=
  let R := y.cls
  let pc := e.1; let n := e.2.2.1; let a := e.2.2.2.1; let b := e.2.2.2.2.1; let c := e.2.2.2.2.2.1; let j := e.2.2.2.2.2.2.1; let w := e.2.2.2.2.2.2.2.1; let z := e.2.2.2.2.2.2.2.2
  decide (decode bs pc = .ok (e.2.1, n)) && (match e.2.1 with
  | .iconst x => decide (Int32.ofInt x = w) && decide (n = 1)
  | .bipush x => decide ((Int8.ofInt x).toInt32 = w) && decide (n = 2)
  | .sipush x => decide ((Int16.ofInt x).toInt32 = w) && decide (n = 3)
  | .lconst k => decide (Int64.ofNat (k : Nat) = z) && decide (n = 1)
  | .ldc i => decide (n = 2) && (match a with
    | 0 => wd j (.constant R i w)
    | _ => Nat.ble 1000 b && Nat.blt b 1009 && decide ((nth txL (b - 1000) ("", 0, "")).1 = R) && decide ((nth txL (b - 1000) ("", 0, "")).2.1 = i))
  | .ldc_w i => decide (n = 3) && wd j (.constant R i w)
  | .ldc2_w i => decide (n = 3) && wd j (.constantLong R i z)
  | .aconst_null => decide (n = 1)
  | .iload i => decide (i = a) && decide (n = 2)
  | .lload i => decide (i = a) && decide (n = 2)
  | .aload i => decide (i = a) && decide (n = 2)
  | .iload_n i => decide ((i : Nat) = a) && decide (n = 1)
  | .lload_n i => decide ((i : Nat) = a) && decide (n = 1)
  | .aload_n i => decide ((i : Nat) = a) && decide (n = 1)
  | .istore i => decide (i = a) && decide (n = 2) && decide (a < maxL)
  | .astore i => decide (i = a) && decide (n = 2) && decide (a < maxL)
  | .lstore i => decide (i = a) && decide (n = 2) && decide (a + 1 < maxL)
  | .istore_n i => decide ((i : Nat) = a) && decide (n = 1) && decide (a < maxL)
  | .astore_n i => decide ((i : Nat) = a) && decide (n = 1) && decide (a < maxL)
  | .lstore_n i => decide ((i : Nat) = a) && decide (n = 1) && decide (a + 1 < maxL)
  | .iinc i x => decide (i = a) && decide (n = 3) && decide (a < maxL) && decide (Int32.ofInt x = w)
  | .goto o => jmp pc o a && decide (n = 3)
  | .ifCond _ o => jmp pc o a && decide (n = 3)
  | .if_icmp _ o => jmp pc o a && decide (n = 3)
  | .ifnull o => jmp pc o a && decide (n = 3)
  | .ifnonnull o => jmp pc o a && decide (n = 3)
  | .tableswitch d lo hi offs => decide (0 ≤ (pc : Int) + d) && offs.toList.all (fun o => decide (0 ≤ (pc : Int) + o)) && decide (hi + 1 - lo = (offs.size : Int))
  | .getfield i => decide (n = 3) && (match c with
    | 8 => wd j (.fieldLink R i "java/lang/String" "value" "[B")
    | 9 => wd j (.fieldLink R i "java/lang/String" "coder" "B")
    | _ => fldOk R i a b c j false y.name)
  | .putfield i => decide (n = 3) && fldOk R i a b c j true y.name
  | .getstatic i => decide (n = 3) && (match a with
    | 0 => wd j (.fieldLink R i "java/lang/String" "COMPACT_STRINGS" "Z")
    | _ => wd j (.fieldLink R i "ThreeToSend$Best" "ACTIONS" "[I"))
  | .new i => decide (n = 3) && decide (a < 12) && decide (b = (clA a).2.2) && wd j (.classLink R i (clA a).1)
  | .newarray t => decide (n = 2) && (match t with
    | .int => decide (a = 20)
    | .long => decide (a = 21)
    | .byte => decide (a = 22)
    | .boolean => decide (a = 23)
    | _ => false)
  | .anewarray i => decide (n = 3) && wd j (.classLink R i RX9)
  | .invokestatic i => decide (n = 3) && (match c with
    | 0 => decide ((sg a).2.2.1 = b) && decide ((sg a).2.2.2 = 0) && decide ((sg a).2.1 = (0, 0)) && wd j (.methodLink R i (sg a).1)
    | 1 => wd j (.methodLink R i Lib.Math.max.name)
    | 2 => wd j (.methodLink R i Lib.Math.min.name)
    | 3 => wd j (.methodLink R i Lib.MathLoose.max_long.x)
    | 4 => wd j (.methodLink R i Lib.MathLoose.min_long.x)
    | 5 => wd j (.methodLink R i Lib.MathLoose.abs_long.x)
    | _ => true)
  | .invokevirtual i => decide (n = 3) && decide ((sg a).2.2.1 = b) && decide ((sg a).2.2.2 = 1) && decide ((sg a).2.1 = (0, 0)) && wd j (.methodLink R i (sg a).1) && (if c = 99 then decide ((sg a).1.cls = "java/lang/String") else decide (c < 12) && decide ((clA c).1 = (sg a).1.cls))
  | .invokespecial i => decide (n = 3) && (match c with
    | 0 => wd j (.methodLink R i Lib.objectInit)
    | _ => decide ((sg a).2.2.1 = b) && decide ((sg a).2.2.2 = 2) && wd j (.methodLink R i (sg a).1))
  | .ireturn => decide (n = 1) && (match a with
    | 0 => decide (ret = some .int)
    | _ => decide (ret = some .boolean) || decide (ret = some .byte))
  | .lreturn => decide (n = 1) && decide (ret = some .long)
  | .areturn => decide (n = 1) && (match ret with
    | some (.object _) => true
    | _ => false)
  | .return_ => decide (n = 1) && decide (ret = none)
  | .lcmp => decide (n = 1)
  | .athrow => true
  | _ => decide (n = 1))
def okM (sg : Nat → Sg) (f : Mth) : Bool :=
  let y := f.1; let p := f.2.2.2.2.2.2.1; let k := f.2.2.2.2.2.2.2.2
  f.2.2.2.2.2.1.all (fun r => r.all (okE sg y f.2.2.1 f.2.2.2.1 f.2.1)) && (decide (k = 3) ||
  (wd p.1 (.code y f.2.1 f.2.2.1 f.2.2.2.1) && wd p.2.1 (.initialized y.cls) && (match k with
    | 0 => wd p.2.2.1 (.static y)
    | 1 => wd p.2.2.1 (.instanceMethod y) && wd p.2.2.2 (.selects y.cls y y)
    | _ => wd p.2.2.1 (.instanceMethod y) && decide (y.name = "<init>") && decide (f.2.2.2.1 = none))
  && decide (f.2.2.1 ≤ 40) && decide (y.cls ≠ "java/lang/invoke/MethodHandle" ∧ y.cls ≠ "java/lang/invoke/VarHandle") && plainName y.cls
  && decide ((parseMethodDescriptor y.desc).map (fun d => d.parameters.length) = some f.2.2.2.2.2.2.2.1)))
