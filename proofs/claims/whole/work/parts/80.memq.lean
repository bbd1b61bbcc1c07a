/-! A memory may be another one of the same ints, longs and references. -/
def VQe (M1 M2 : Nat → Nat → Value) : Prop := ∀ o b, (o = 13 → b < 8) → iv (M1 o b) = iv (M2 o b) ∧ jv (M1 o b) = jv (M2 o b) ∧ rv (M1 o b) = rv (M2 o b)
/-- the cell of the eight texts is there -/
def WQ (s : List (Nat × Nat)) (M1 M2 : Nat → Nat → Value) : Prop := s[13]? = some (24, 8) ∧ VQe M1 M2
def MQe (m1 m2 : Mem) : Prop := m1.1 = m2.1 ∧ WQ m1.1 m1.2 m2.2
def CQ (c1 c2 : Cfg) : Prop := c1.1 = c2.1 ∧ c1.2.1 = c2.2.1 ∧ c1.2.2.1 = c2.2.2.1 ∧ MQe c1.2.2.2.1 c2.2.2.2.1 ∧ c1.2.2.2.2 = c2.2.2.2.2
theorem WQ.upd {s : List (Nat × Nat)} {M1 M2 : Nat → Nat → Value} (h : WQ s M1 M2) (o b : Nat) (v : Value) : WQ s (up M1 o b v) (up M2 o b v) := ⟨h.1, fun o' b' hb => by
  unfold up
  by_cases c : o' = o ∧ b' = b
  · rw [if_pos c, if_pos c]; exact ⟨rfl, rfl, rfl⟩
  · rw [if_neg c, if_neg c]; exact h.2 o' b' hb⟩
theorem WQ.zer {s : List (Nat × Nat)} {M1 M2 : Nat → Nat → Value} (h : WQ s M1 M2) (x : Nat × Nat) (o : Nat) : WQ (s ++ [x]) (zr M1 o) (zr M2 o) := by
  refine ⟨?_, fun o' b' hb => ?_⟩
  · have hl : 13 < s.length := by
      rcases Nat.lt_or_ge 13 s.length with q | q
      · exact q
      · have := h.1
        rw [List.getElem?_eq_none q] at this
        cases this
    rw [List.getElem?_append_left hl]
    exact h.1
  · unfold zr
    by_cases c : o' = o
    · rw [if_pos c, if_pos c]; exact ⟨rfl, rfl, rfl⟩
    · rw [if_neg c, if_neg c]; exact h.2 o' b' hb
theorem WQ.fld {s : List (Nat × Nat)} {M1 M2 : Nat → Nat → Value} (h : WQ s M1 M2) {o : Nat} (ho : o ≠ 13) (k b : Nat) : fv k (M1 o b) = fv k (M2 o b) := by
  obtain ⟨h1, h2, h3⟩ := h.2 o b (fun q => absurd q ho)
  unfold fv
  rw [h1, h2, h3]
theorem WQ.ivs {s : List (Nat × Nat)} {M1 M2 : Nat → Nat → Value} (h : WQ s M1 M2) {o : Nat} (ho : o ≠ 13) : (fun j => iv (M1 o j)) = fun j => iv (M2 o j) := funext fun j => (h.2 o j (fun q => absurd q ho)).1
theorem WQ.no {s : List (Nat × Nat)} {M1 M2 : Nat → Nat → Value} (h : WQ s M1 M2) {o k n : Nat} (hk : k ≠ 24) (hs : s[o]? = some (k, n)) : o ≠ 13 := fun q => by
  rw [q, h.1] at hs
  exact hk (congrArg Prod.fst (Option.some.inj hs)).symm
/-- the outcomes of two steps that differ in the memory alone -/
def OMe (o1 o2 : Out) : Prop := match o1, o2 with
  | none, _ => True
  | some (.inl c1), some (.inl c2) => CQ c1 c2
  | some (.inr (.inl (f1, c1))), some (.inr (.inl (f2, c2))) => f1 = f2 ∧ (f1 → CQ c1 c2)
  | some (.inr (.inr (.inl (f1, v1, m1)))), some (.inr (.inr (.inl (f2, v2, m2)))) => f1 = f2 ∧ v1 = v2 ∧ MQe m1 m2
  | some (.inr (.inr (.inr (f1, g1, a1, m1, k1)))), some (.inr (.inr (.inr (f2, g2, a2, m2, k2)))) => f1 = f2 ∧ g1 = g2 ∧ a1 = a2 ∧ MQe m1 m2 ∧ ∀ r a b, MQe a b → CQ (k1 r a) (k2 r b)
  | _, _ => False
section OME
variable {sc : Scr} {p o k a : Nat} {L : Lo} {st : List Value} {s : List (Nat × Nat)} {M1 M2 : Nat → Nat → Value} {q : Nat × Nat} {f : Prop}
theorem OMe.go (h : WQ s M1 M2) : OMe (oGo (p, L, st, (s, M1), q)) (oGo (p, L, st, (s, M2), q)) := ⟨rfl, rfl, rfl, ⟨rfl, h⟩, rfl⟩
theorem OMe.go2 {s1 s2 : List Value} (h : WQ s M1 M2) (e : s1 = s2) : OMe (oGo (p, L, s1, (s, M1), q)) (oGo (p, L, s2, (s, M2), q)) := ⟨rfl, rfl, e, ⟨rfl, h⟩, rfl⟩
theorem OMe.chk (h : WQ s M1 M2) : OMe (oChk f (p, L, st, (s, M1), q)) (oChk f (p, L, st, (s, M2), q)) := ⟨rfl, fun _ => ⟨rfl, rfl, rfl, ⟨rfl, h⟩, rfl⟩⟩
theorem OMe.chk2 {s1 s2 : List Value} (h : WQ s M1 M2) (e : f → s1 = s2) : OMe (oChk f (p, L, s1, (s, M1), q)) (oChk f (p, L, s2, (s, M2), q)) := ⟨rfl, fun hf => ⟨rfl, rfl, e hf, ⟨rfl, h⟩, rfl⟩⟩
theorem OMe.ret {v : Option Value} (h : WQ s M1 M2) : OMe (oRet f v (s, M1)) (oRet f v (s, M2)) := ⟨rfl, rfl, rfl, h⟩
theorem OMe.xI {st : List Value} {K1 K2 : Int32 → List Value → Out} (h : ∀ x r, OMe (K1 x r) (K2 x r)) : OMe (xI st K1) (xI st K2) := by
  cases st with
  | nil => exact trivial
  | cons v r => cases v with
    | int x => exact h x r
    | _ => exact trivial
theorem OMe.xJ {st : List Value} {K1 K2 : Int64 → List Value → Out} (h : ∀ x r, OMe (K1 x r) (K2 x r)) : OMe (xJ st K1) (xJ st K2) := by
  cases st with
  | nil => exact trivial
  | cons v r => cases v with
    | long x => exact h x r
    | _ => exact trivial
theorem OMe.xR {st : List Value} {K1 K2 : Nat → List Value → Out} (h : ∀ x r, OMe (K1 x r) (K2 x r)) : OMe (xR st K1) (xR st K2) := by
  cases st with
  | nil => exact trivial
  | cons v r => cases v with
    | ref x => exact h x r
    | _ => exact trivial
theorem OMe.xV {st : List Value} {K1 K2 : Value → List Value → Out} (h : ∀ x r, OMe (K1 x r) (K2 x r)) : OMe (xV st K1) (xV st K2) := by
  cases st with
  | nil => exact trivial
  | cons v r => cases v with
    | ref x => exact h _ r
    | null => exact h _ r
    | _ => exact trivial
theorem OMe.x1 {st : List Value} {K1 K2 : Value → List Value → Out} (h : ∀ x r, OMe (K1 x r) (K2 x r)) : OMe (x1 st K1) (x1 st K2) := by
  cases st with
  | nil => exact trivial
  | cons v r => cases v with
    | int x => exact h _ r
    | ref x => exact h _ r
    | null => exact h _ r
    | _ => exact trivial
theorem OMe.gI {K1 K2 : Int32 → Out} (h : ∀ x, OMe (K1 x) (K2 x)) : OMe (gI L a K1) (gI L a K2) := by
  show OMe (match lget L a with | some (.int x) => K1 x | _ => none) (match lget L a with | some (.int x) => K2 x | _ => none)
  cases lget L a with
  | none => exact trivial
  | some v => cases v with
    | int x => exact h x
    | _ => exact trivial
theorem OMe.gJ {K1 K2 : Int64 → Out} (h : ∀ x, OMe (K1 x) (K2 x)) : OMe (gJ L a K1) (gJ L a K2) := by
  show OMe (match lget L a with | some (.long x) => K1 x | _ => none) (match lget L a with | some (.long x) => K2 x | _ => none)
  cases lget L a with
  | none => exact trivial
  | some v => cases v with
    | long x => exact h x
    | _ => exact trivial
theorem OMe.gV {K1 K2 : Value → Out} (h : ∀ x, OMe (K1 x) (K2 x)) : OMe (gV L a K1) (gV L a K2) := by
  show OMe (match lget L a with | some (.ref x) => K1 (.ref x) | some .null => K1 .null | _ => none) (match lget L a with | some (.ref x) => K2 (.ref x) | some .null => K2 .null | _ => none)
  cases lget L a with
  | none => exact trivial
  | some v => cases v with
    | ref x => exact h _
    | null => exact h _
    | _ => exact trivial
theorem OMe.bR {b : Bool} {x1 y1 x2 y2 : Out} (hx : OMe x1 x2) (hy : OMe y1 y2) : OMe (bR b x1 y1) (bR b x2 y2) := by
  cases b with
  | true => exact hx
  | false => exact hy
theorem OMe.cellN {sh : List (Nat × Nat)} {K1 K2 : Nat → Out} (h : ∀ n, sh[o]? = some (k, n) → OMe (K1 n) (K2 n)) : OMe (cellN sh o k K1) (cellN sh o k K2) := by
  show OMe (match sh[o]? with | some p => (match Nat.beq p.1 k with | true => K1 p.2 | false => none) | none => none) (match sh[o]? with | some p => (match Nat.beq p.1 k with | true => K2 p.2 | false => none) | none => none)
  revert h
  cases sh[o]? with
  | none => exact fun _ => trivial
  | some p =>
    intro h
    show OMe (match Nat.beq p.1 k with | true => K1 p.2 | false => none) (match Nat.beq p.1 k with | true => K2 p.2 | false => none)
    cases e : Nat.beq p.1 k with
    | true => exact h p.2 (by rw [← Nat.eq_of_beq_eq_true e])
    | false => exact trivial
theorem OMe.ints {K1 K2 : Nat → (Nat → Int32) → Out} (hM : WQ s M1 M2) (h : ∀ n f, OMe (K1 n f) (K2 n f)) : OMe (intsAt sc (s, M1) o K1) (intsAt sc (s, M2) o K2) := by
  unfold intsAt
  refine OMe.bR (OMe.cellN fun n hn => ?_) (OMe.bR (h _ _) (OMe.bR ?_ trivial))
  · show OMe (K1 n (fun j => iv (M1 o j))) (K2 n (fun j => iv (M2 o j)))
    rw [hM.ivs (hM.no (by decide) hn)]
    exact h _ _
  cases sc with
  | none => exact trivial
  | some q => exact h _ _
theorem ome_bytes {K1 K2 : Nat → (Nat → Int32) → Out} (hM : WQ s M1 M2) (h : ∀ n f, OMe (K1 n f) (K2 n f)) : OMe (bytesAt (s, M1) o K1) (bytesAt (s, M2) o K2) := by
  unfold bytesAt
  refine OMe.bR ?_ (OMe.bR (h _ _) trivial)
  show OMe (match s[o]? with
    | some p => bR (Nat.beq p.1 22 || Nat.beq p.1 23) (K1 p.2 (fun j => iv (M1 o j))) none
    | none => none) (match s[o]? with
    | some p => bR (Nat.beq p.1 22 || Nat.beq p.1 23) (K2 p.2 (fun j => iv (M2 o j))) none
    | none => none)
  by_cases ho : o = 13
  · rw [ho, hM.1]
    exact trivial
  rw [hM.ivs ho]
  cases s[o]? with
  | none => exact trivial
  | some p => exact OMe.bR (h _ _) trivial
theorem ome_len {K1 K2 : Nat → Out} (h : ∀ n, OMe (K1 n) (K2 n)) : OMe (lenAt sc (s, M1) o K1) (lenAt sc (s, M2) o K2) := by
  unfold lenAt
  refine OMe.bR ?_ (OMe.bR (h _) (OMe.bR ?_ (OMe.bR (h _) trivial)))
  · show OMe (match s[o]? with
      | some p => bR (Nat.ble 20 p.1) (K1 p.2) none
      | none => none) (match s[o]? with
      | some p => bR (Nat.ble 20 p.1) (K2 p.2) none
      | none => none)
    cases s[o]? with
    | none => exact trivial
    | some p => exact OMe.bR (h _) trivial
  · cases sc with
    | none => exact trivial
    | some q => exact h _
theorem OMe.recv {x1 x2 : Out} (h : OMe x1 x2) : OMe (recvAt (s, M1) o k x1) (recvAt (s, M2) o k x2) := by
  unfold recvAt
  exact OMe.bR (OMe.bR h trivial) (OMe.cellN fun _ _ => h)
theorem OMe.pop {n : Nat} : ∀ {acc st : List Value} {K1 K2 : List Value → List Value → Out}, (∀ a r, OMe (K1 a r) (K2 a r)) → OMe (popN n acc st K1) (popN n acc st K2) := by
  induction n with
  | zero => intro acc st K1 K2 h; exact h _ _
  | succ n ih =>
    intro acc st K1 K2 h
    cases st with
    | nil => exact trivial
    | cons v st => exact ih h
theorem OMe.call {g : Nat} {as : List Value} {k1 k2 : Option Value → Mem → Cfg} (hM : WQ s M1 M2) (h : ∀ r a b, MQe a b → CQ (k1 r a) (k2 r b)) : OMe (oCall f g as (s, M1) k1) (oCall f g as (s, M2) k2) := ⟨rfl, rfl, rfl, ⟨rfl, hM⟩, h⟩
end OME
theorem vpi_lt {j : Int32} {n : Nat} (h : vp_in j n) : j.toNatClampNeg < n := Nat.lt_of_not_le fun q => h (Or.inr q)
def gfB (i : Instr) : Bool := match i with
  | .getfield _ => true
  | _ => false
def gfE (e : Ent) : Bool := !(gfB e.2.1 && Nat.beq e.2.2.2.1 24)
def gfM (f : Mth) : Bool := f.2.2.2.2.2.1.all (fun r => r.all gfE)
theorem out1_mem {sc : Scr} {aM : AM} {al : Nat × Nat} {i : Instr} {n a b c : Nat} {w : Int32} {z : Int64} {pc : Nat} {L : Lo} {st : List Value} {s : List (Nat × Nat)} {M1 M2 : Nat → Nat → Value} {kc ks : Nat} (hi : gfB i = true → a ≠ 24) (hM : WQ s M1 M2) : OMe (out1 sc aM al i n a b c w z pc L st (s, M1) kc ks) (out1 sc aM al i n a b c w z pc L st (s, M2) kc ks) := by
  cases i with
  | iconst _ => exact OMe.go hM
  | bipush _ => exact OMe.go hM
  | sipush _ => exact OMe.go hM
  | lconst _ => exact OMe.go hM
  | ldc_w _ => exact OMe.go hM
  | ldc2_w _ => exact OMe.go hM
  | aconst_null => exact OMe.go hM
  | goto _ => exact OMe.go hM
  | ldc _ => cases a with
    | zero => exact OMe.go hM
    | succ a => exact OMe.go hM
  | iload _ => exact OMe.gI fun _ => OMe.go hM
  | iload_n _ => exact OMe.gI fun _ => OMe.go hM
  | lload _ => exact OMe.gJ fun _ => OMe.go hM
  | lload_n _ => exact OMe.gJ fun _ => OMe.go hM
  | aload _ =>
    show OMe (gV L a fun x => oGo (pc + n, L, x :: st, (s, M1), kc, ks)) (gV L a fun x => oGo (pc + n, L, x :: st, (s, M2), kc, ks))
    exact OMe.gV fun _ => OMe.go hM
  | aload_n _ =>
    show OMe (gV L a fun x => oGo (pc + n, L, x :: st, (s, M1), kc, ks)) (gV L a fun x => oGo (pc + n, L, x :: st, (s, M2), kc, ks))
    exact OMe.gV fun _ => OMe.go hM
  | istore _ => exact OMe.xI fun _ _ => OMe.go hM
  | istore_n _ => exact OMe.xI fun _ _ => OMe.go hM
  | lstore _ => exact OMe.xJ fun _ _ => OMe.go hM
  | lstore_n _ => exact OMe.xJ fun _ _ => OMe.go hM
  | astore _ =>
    show OMe (xV st fun x st => oGo (pc + n, lset1 L a x, st, (s, M1), kc, ks)) (xV st fun x st => oGo (pc + n, lset1 L a x, st, (s, M2), kc, ks))
    exact OMe.xV fun _ _ => OMe.go hM
  | astore_n _ =>
    show OMe (xV st fun x st => oGo (pc + n, lset1 L a x, st, (s, M1), kc, ks)) (xV st fun x st => oGo (pc + n, lset1 L a x, st, (s, M2), kc, ks))
    exact OMe.xV fun _ _ => OMe.go hM
  | iinc _ _ => exact OMe.gI fun _ => OMe.go hM
  | dup =>
    show OMe (x1 st fun x st => oGo (pc + n, L, x :: x :: st, (s, M1), kc, ks)) (x1 st fun x st => oGo (pc + n, L, x :: x :: st, (s, M2), kc, ks))
    exact OMe.x1 fun _ _ => OMe.go hM
  | pop =>
    show OMe (x1 st fun _ st => oGo (pc + n, L, st, (s, M1), kc, ks)) (x1 st fun _ st => oGo (pc + n, L, st, (s, M2), kc, ks))
    exact OMe.x1 fun _ _ => OMe.go hM
  | pop2 => exact OMe.xJ fun _ _ => OMe.go hM
  | iadd => exact OMe.xI fun _ _ => OMe.xI fun _ _ => OMe.go hM
  | isub => exact OMe.xI fun _ _ => OMe.xI fun _ _ => OMe.go hM
  | imul => exact OMe.xI fun _ _ => OMe.xI fun _ _ => OMe.go hM
  | iand => exact OMe.xI fun _ _ => OMe.xI fun _ _ => OMe.go hM
  | ior => exact OMe.xI fun _ _ => OMe.xI fun _ _ => OMe.go hM
  | ixor => exact OMe.xI fun _ _ => OMe.xI fun _ _ => OMe.go hM
  | ishl => exact OMe.xI fun _ _ => OMe.xI fun _ _ => OMe.go hM
  | ishr => exact OMe.xI fun _ _ => OMe.xI fun _ _ => OMe.go hM
  | idiv => exact OMe.xI fun _ _ => OMe.xI fun _ _ => OMe.chk hM
  | irem => exact OMe.xI fun _ _ => OMe.xI fun _ _ => OMe.chk hM
  | ladd => exact OMe.xJ fun _ _ => OMe.xJ fun _ _ => OMe.go hM
  | lsub => exact OMe.xJ fun _ _ => OMe.xJ fun _ _ => OMe.go hM
  | lmul => exact OMe.xJ fun _ _ => OMe.xJ fun _ _ => OMe.go hM
  | land => exact OMe.xJ fun _ _ => OMe.xJ fun _ _ => OMe.go hM
  | lor => exact OMe.xJ fun _ _ => OMe.xJ fun _ _ => OMe.go hM
  | ldiv => exact OMe.xJ fun _ _ => OMe.xJ fun _ _ => OMe.chk hM
  | lrem => exact OMe.xJ fun _ _ => OMe.xJ fun _ _ => OMe.chk hM
  | lcmp => exact OMe.xJ fun _ _ => OMe.xJ fun _ _ => OMe.go hM
  | ineg => exact OMe.xI fun _ _ => OMe.go hM
  | i2l => exact OMe.xI fun _ _ => OMe.go hM
  | i2b => exact OMe.xI fun _ _ => OMe.go hM
  | i2c => exact OMe.xI fun _ _ => OMe.go hM
  | lneg => exact OMe.xJ fun _ _ => OMe.go hM
  | l2i => exact OMe.xJ fun _ _ => OMe.go hM
  | lshl => exact OMe.xI fun _ _ => OMe.xJ fun _ _ => OMe.go hM
  | lshr => exact OMe.xI fun _ _ => OMe.xJ fun _ _ => OMe.go hM
  | ifCond q _ => exact OMe.xI fun _ _ => by cases q <;> exact OMe.go hM
  | if_icmp q _ => exact OMe.xI fun _ _ => OMe.xI fun _ _ => by cases q <;> exact OMe.go hM
  | ifnull _ =>
    show OMe (xV st fun x st => oGo (match x with | .null => a | _ => pc + 3, L, st, (s, M1), kc, ks)) (xV st fun x st => oGo (match x with | .null => a | _ => pc + 3, L, st, (s, M2), kc, ks))
    exact OMe.xV fun _ _ => OMe.go hM
  | ifnonnull _ =>
    show OMe (xV st fun x st => oGo (match x with | .null => pc + 3 | _ => a, L, st, (s, M1), kc, ks)) (xV st fun x st => oGo (match x with | .null => pc + 3 | _ => a, L, st, (s, M2), kc, ks))
    exact OMe.xV fun _ _ => OMe.go hM
  | tableswitch _ _ _ _ => exact OMe.xI fun _ _ => OMe.go hM
  | iaload => exact OMe.xI fun _ _ => OMe.xR fun _ _ => OMe.ints hM fun _ _ => OMe.chk hM
  | baload => exact OMe.xI fun _ _ => OMe.xR fun _ _ => ome_bytes hM fun _ _ => OMe.chk hM
  | laload => exact OMe.xI fun _ _ => OMe.xR fun o st => OMe.cellN fun _ hn => OMe.chk2 hM (fun _ => congrArg (fun v => Value.long v :: st) (hM.2 o _ (fun q => absurd q (hM.no (by decide) hn))).2.1)
  | aaload => exact OMe.xI fun _ _ => OMe.xR fun o st => OMe.cellN fun _ hn => OMe.chk2 hM (fun hf => congrArg (fun v => rfo v :: st) (hM.2 o _ (fun q => by subst q; rw [hM.1] at hn; cases hn; exact vpi_lt hf)).2.2)
  | iastore => exact OMe.xI fun _ _ => OMe.xI fun _ _ => OMe.xR fun _ _ => OMe.cellN fun _ hn => OMe.chk (hM.upd _ _ _)
  | lastore => exact OMe.xJ fun _ _ => OMe.xI fun _ _ => OMe.xR fun _ _ => OMe.cellN fun _ hn => OMe.chk (hM.upd _ _ _)
  | aastore => exact OMe.xR fun _ _ => OMe.xI fun _ _ => OMe.xR fun _ _ => OMe.cellN fun _ hn => OMe.cellN fun _ hn => OMe.chk (hM.upd _ _ _)
  | bastore =>
    refine OMe.xI fun x r => OMe.xI fun j r => OMe.xR fun o r => ?_
    dsimp only
    cases s[o]? with
    | none => exact trivial
    | some p =>
      obtain ⟨p1, p2⟩ := p
      by_cases h1 : p1 = 22
      · subst h1; exact OMe.chk (hM.upd _ _ _)
      · by_cases h2 : p1 = 23
        · subst h2; exact OMe.chk (hM.upd _ _ _)
        · have e : ∀ (x y : Out), (match (generalizing := false) p1 with
            | 22 => x
            | 23 => y
            | _ => none) = none := by
            intro x y
            split
            · exact absurd rfl h1
            · exact absurd rfl h2
            · rfl
          show OMe (match (generalizing := false) p1 with
            | 22 => _
            | 23 => _
            | _ => none) _
          rw [e]
          exact trivial
  | arraylength => exact OMe.xR fun _ _ => ome_len fun _ => OMe.go hM
  | getfield _ =>
    refine OMe.xR fun o r => ?_
    by_cases h8 : c = 8
    · subst h8; exact OMe.bR (OMe.go hM) trivial
    · by_cases h9 : c = 9
      · subst h9; exact OMe.bR (OMe.go hM) trivial
      · have e : ∀ (x y z : Out), (match (generalizing := false) c with
          | 8 => x
          | 9 => y
          | _ => z) = z := by
          intro x y z
          split
          · exact absurd rfl h8
          · exact absurd rfl h9
          · rfl
        show OMe (match (generalizing := false) c with
          | 8 => _
          | 9 => _
          | c => cellN s o a fun _ => oGo (pc + n, L, fv c (M1 o b) :: r, (s, M1), kc, ks)) (match (generalizing := false) c with
          | 8 => _
          | 9 => _
          | c => cellN s o a fun _ => oGo (pc + n, L, fv c (M2 o b) :: r, (s, M2), kc, ks))
        split
        · exact absurd rfl h8
        · exact absurd rfl h9
        · exact OMe.cellN fun _ hn => OMe.go2 hM (congrArg (fun v => v :: r) (hM.fld (hM.no (hi rfl) hn) _ _))
  | putfield _ =>
    have hc : c = 1 ∨ c = 2 ∨ c = 3 ∨ (c ≠ 1 ∧ c ≠ 2 ∧ c ≠ 3) := by omega
    rcases hc with rfl | rfl | rfl | ⟨h1, h2, h3⟩
    · exact OMe.xJ fun _ _ => OMe.xR fun _ _ => OMe.cellN fun _ hn => OMe.go (hM.upd _ _ _)
    · show OMe (xV st fun x st => xR st fun o st => cellN s o a fun _ => oGo (pc + n, L, st, (s, up M1 o b x), kc, ks)) (xV st fun x st => xR st fun o st => cellN s o a fun _ => oGo (pc + n, L, st, (s, up M2 o b x), kc, ks))
      exact OMe.xV fun _ _ => OMe.xR fun _ _ => OMe.cellN fun _ hn => OMe.go (hM.upd _ _ _)
    · exact OMe.xI fun _ _ => OMe.xR fun _ _ => OMe.cellN fun _ hn => OMe.chk (hM.upd _ _ _)
    · unfold out1
      dsimp only
      split
      · exact absurd rfl h1
      · exact absurd rfl h2
      · exact absurd rfl h3
      · exact OMe.xI fun _ _ => OMe.xR fun _ _ => OMe.cellN fun _ hn => OMe.go (hM.upd _ _ _)
  | getstatic _ => cases a with
    | zero => exact OMe.go hM
    | succ a => exact OMe.go hM
  | new _ => exact OMe.chk (hM.zer _ _)
  | newarray _ => exact OMe.xI fun _ _ => OMe.chk (hM.zer _ _)
  | anewarray _ => exact OMe.xI fun _ _ => OMe.chk (hM.zer _ _)
  | invokestatic _ =>
    rcases (show c = 0 ∨ c = 1 ∨ c = 2 ∨ c = 3 ∨ c = 4 ∨ c = 5 ∨ 6 ≤ c by omega) with e | e | e | e | e | e | e
    · subst e; exact OMe.pop fun _ _ => OMe.call hM fun _ _ _ h => ⟨rfl, rfl, rfl, h, rfl⟩
    · subst e; exact OMe.xI fun _ _ => OMe.xI fun _ _ => OMe.chk hM
    · subst e; exact OMe.xI fun _ _ => OMe.xI fun _ _ => OMe.chk hM
    · subst e; exact OMe.xJ fun _ _ => OMe.xJ fun _ _ => OMe.chk hM
    · subst e; exact OMe.xJ fun _ _ => OMe.xJ fun _ _ => OMe.chk hM
    · subst e; exact OMe.xJ fun _ _ => OMe.chk hM
    · obtain ⟨q, rfl⟩ : ∃ q, c = q + 6 := ⟨c - 6, by omega⟩
      exact trivial
  | invokevirtual _ => exact OMe.pop fun _ _ => OMe.xR fun _ _ => OMe.recv (OMe.call hM fun _ _ _ h => ⟨rfl, rfl, rfl, h, rfl⟩)
  | invokespecial _ => cases c with
    | zero => exact OMe.xR fun _ _ => OMe.chk hM
    | succ c => exact OMe.pop fun _ _ => OMe.xR fun _ _ => OMe.call hM fun _ _ _ h => ⟨rfl, rfl, rfl, h, rfl⟩
  | ireturn =>
    cases st with
    | nil => exact trivial
    | cons v r => cases r with
      | nil => cases v with
        | int x => cases a with
          | zero => exact OMe.bR (OMe.ret hM) trivial
          | succ a => exact OMe.bR (OMe.ret hM) trivial
        | _ => exact trivial
      | cons v2 r2 => cases v <;> exact trivial
  | lreturn =>
    cases st with
    | nil => exact trivial
    | cons v r => cases r with
      | nil => cases v with
        | long x => exact OMe.bR (OMe.ret hM) trivial
        | _ => exact trivial
      | cons v2 r2 => cases v <;> exact trivial
  | areturn =>
    cases st with
    | nil => exact trivial
    | cons v r => cases r with
      | nil => cases v with
        | ref x => exact OMe.bR (OMe.ret hM) trivial
        | null => exact OMe.bR (OMe.ret hM) trivial
        | _ => exact trivial
      | cons v2 r2 => cases v <;> exact trivial
  | return_ =>
    cases st with
    | nil => exact OMe.bR (OMe.ret hM) trivial
    | cons v r => exact trivial
  | _ => exact trivial
def RMono (E : Cal) : Prop := ∀ (g : Nat) (as : List Value) (m1 m2 : Mem) (Q1 Q2 : Option Value → Mem → Prop), MQe m1 m2 → (∀ r a b, MQe a b → Q1 r a → Q2 r b) → E g as m1 Q1 → E g as m2 Q2
theorem ex1_mem {E : Cal} (hE : RMono E) {P1 P2 : Cfg → Prop} {Q1 Q2 : Option Value → Mem → Prop} (hP : ∀ c1 c2, CQ c1 c2 → P1 c1 → P2 c2) (hQ : ∀ r a b, MQe a b → Q1 r a → Q2 r b) {o1 o2 : Out} (ho : OMe o1 o2) (h : ex1 E P1 Q1 o1) : ex1 E P2 Q2 o2 := by
  cases o1 with
  | none => exact False.elim h
  | some x1 => cases o2 with
    | none => rcases x1 with _ | _ | _ | _ <;> exact False.elim ho
    | some x2 =>
      rcases x1 with c1 | ⟨f1, c1⟩ | ⟨f1, v1, m1⟩ | ⟨f1, g1, a1, m1, k1⟩ <;> rcases x2 with c2 | ⟨f2, c2⟩ | ⟨f2, v2, m2⟩ | ⟨f2, g2, a2, m2, k2⟩ <;> try exact False.elim ho
      · exact hP _ _ ho h
      · obtain ⟨rfl, h2⟩ := ho
        exact ⟨h.1, hP _ _ (h2 h.1) h.2⟩
      · obtain ⟨rfl, rfl, h2⟩ := ho
        exact ⟨h.1, hQ _ _ _ h2 h.2⟩
      · obtain ⟨rfl, rfl, rfl, h2, hk⟩ := ho
        exact ⟨h.1, hE _ _ _ _ _ _ h2 (fun r a b hab hr => hP _ _ (hk r a b hab) hr) h.2⟩
theorem Go.memq {sc : Scr} {aM : AM} {E : Cal} {f : Mth} {Q1 Q2 : Option Value → Mem → Prop} (hf : gfM f = true) (hE : RMono E) (hQ : ∀ r a b, MQe a b → Q1 r a → Q2 r b) {c1 c2 : Cfg} (hc : CQ c1 c2) (h : Go sc aM E f Q1 c1) : Go sc aM E f Q2 c2 := by
  intro P hP
  refine h (fun c => ∀ c2, CQ c c2 → P c2) ?_ c2 hc
  intro c hc c2 hq
  apply hP
  obtain ⟨pc, L, st, ⟨s, M1⟩, kc, ks⟩ := c
  obtain ⟨pc2, L2, st2, ⟨s2, M2⟩, kc2, ks2⟩ := c2
  obtain ⟨e1, e2, e3, ⟨e4, e5⟩, e6⟩ := hq
  cases e1
  cases e2
  cases e3
  cases e4
  cases e6
  unfold exec at hc ⊢
  refine ex1_mem hE (fun c c2 hq h => h c2 hq) hQ ?_ hc
  show OMe (out sc aM f (pc, L, st, (s, M1), kc, ks)) (out sc aM f (pc, L, st, (s, M2), kc, ks))
  rw [out_eq, out_eq]
  cases hlk : lkc f.2.2.2.2.2.1 pc with
  | none => exact trivial
  | some e =>
    have he := (lkc_spec hf hlk).1
    refine out1_mem (fun hg q => ?_) e5
    unfold gfE at he
    rw [hg, q] at he
    exact absurd he (by decide)
theorem Ev.rmono {mt : Nat → Mth} {aM : AM} (hm : ∀ g, gfM (mt g) = true) : ∀ d, RMono (Ev mt aM d) := by
  intro d
  induction d with
  | zero => intro g as m1 m2 Q1 Q2 _ _ h; exact h
  | succ d ih => intro g as m1 m2 Q1 Q2 hM hQ h; exact ⟨h.1, Go.memq (c1 := (0, entP (mt g).2.2.1 (entA as), [], m1, 0, 0)) (c2 := (0, entP (mt g).2.2.1 (entA as), [], m2, 0, 0)) (hm g) ih hQ ⟨rfl, rfl, rfl, hM, rfl⟩ h.2⟩
theorem gf_rows : (mtT.all (fun r => r.all gfM)) = true := by decide +kernel
theorem gf_mt (g : Nat) : gfM (mt g) = true := by
  unfold mt
  rcases nth_mem mD (nth mtT (g / 16) []) (g % 16) with h | h
  · rcases nth_mem ([] : List Mth) mtT (g / 16) with h2 | h2
    · exact List.all_eq_true.mp (List.all_eq_true.mp gf_rows _ h2) _ h
    · rw [h2] at h; exact absurd h List.not_mem_nil
  · rw [h]; rfl
theorem gf_law : gfM mL_law = true := by decide +kernel
