/-! EACH INSTRUCTION of the plain machine is the machine's own (a row of the kit an instruction). -/
theorem xI_inv {E : Cal} {P : Cfg → Prop} {Q : Option Value → Mem → Prop} {st : List Value} {K : Int32 → List Value → Out} (h : ex1 E P Q (xI st K)) : ∃ x r, st = .int x :: r ∧ ex1 E P Q (K x r) := by
  cases st with
  | nil => exact False.elim h
  | cons v r => cases v with
    | int x => exact ⟨x, r, rfl, h⟩
    | _ => exact False.elim h
theorem xJ_inv {E : Cal} {P : Cfg → Prop} {Q : Option Value → Mem → Prop} {st : List Value} {K : Int64 → List Value → Out} (h : ex1 E P Q (xJ st K)) : ∃ x r, st = .long x :: r ∧ ex1 E P Q (K x r) := by
  cases st with
  | nil => exact False.elim h
  | cons v r => cases v with
    | long x => exact ⟨x, r, rfl, h⟩
    | _ => exact False.elim h
theorem xR_inv {E : Cal} {P : Cfg → Prop} {Q : Option Value → Mem → Prop} {st : List Value} {K : Nat → List Value → Out} (h : ex1 E P Q (xR st K)) : ∃ (x : Nat) (r : List Value), st = .ref x :: r ∧ ex1 E P Q (K x r) := by
  cases st with
  | nil => exact False.elim h
  | cons v r => cases v with
    | ref x => exact ⟨x, r, rfl, h⟩
    | _ => exact False.elim h
theorem xV_inv {E : Cal} {P : Cfg → Prop} {Q : Option Value → Mem → Prop} {st : List Value} {K : Value → List Value → Out} (h : ex1 E P Q (xV st K)) : (∃ (x : Nat) (r : List Value), st = .ref x :: r ∧ ex1 E P Q (K (.ref x) r)) ∨ ∃ r, st = .null :: r ∧ ex1 E P Q (K .null r) := by
  cases st with
  | nil => exact False.elim h
  | cons v r => cases v with
    | ref x => exact Or.inl ⟨x, r, rfl, h⟩
    | null => exact Or.inr ⟨r, rfl, h⟩
    | _ => exact False.elim h
theorem x1_inv {E : Cal} {P : Cfg → Prop} {Q : Option Value → Mem → Prop} {st : List Value} {K : Value → List Value → Out} (h : ex1 E P Q (x1 st K)) : ∃ v r, st = v :: r ∧ v.category = 1 ∧ ex1 E P Q (K v r) := by
  cases st with
  | nil => exact False.elim h
  | cons v r => cases v with
    | int x => exact ⟨_, r, rfl, rfl, h⟩
    | ref x => exact ⟨_, r, rfl, rfl, h⟩
    | null => exact ⟨_, r, rfl, rfl, h⟩
    | _ => exact False.elim h
theorem gI_inv {E : Cal} {P : Cfg → Prop} {Q : Option Value → Mem → Prop} {L : Lo} {a : Nat} {K : Int32 → Out} (h : ex1 E P Q (gI L a K)) : ∃ x, lget L a = some (.int x) ∧ ex1 E P Q (K x) := by
  unfold gI at h
  split at h
  · next x e => exact ⟨x, e, h⟩
  · exact False.elim h
theorem gJ_inv {E : Cal} {P : Cfg → Prop} {Q : Option Value → Mem → Prop} {L : Lo} {a : Nat} {K : Int64 → Out} (h : ex1 E P Q (gJ L a K)) : ∃ x, lget L a = some (.long x) ∧ ex1 E P Q (K x) := by
  unfold gJ at h
  split at h
  · next x e => exact ⟨x, e, h⟩
  · exact False.elim h
theorem gV_inv {E : Cal} {P : Cfg → Prop} {Q : Option Value → Mem → Prop} {L : Lo} {a : Nat} {K : Value → Out} (h : ex1 E P Q (gV L a K)) : (∃ x : Nat, lget L a = some (.ref x) ∧ ex1 E P Q (K (.ref x))) ∨ (lget L a = some .null ∧ ex1 E P Q (K .null)) := by
  unfold gV at h
  split at h
  · next x e => exact Or.inl ⟨x, e, h⟩
  · next e => exact Or.inr ⟨e, h⟩
  · exact False.elim h
theorem bR_inv {E : Cal} {P : Cfg → Prop} {Q : Option Value → Mem → Prop} {b : Bool} {x y : Out} (h : ex1 E P Q (bR b x y)) : (b = true ∧ ex1 E P Q x) ∨ (b = false ∧ ex1 E P Q y) := by
  cases b with
  | true => exact Or.inl ⟨rfl, h⟩
  | false => exact Or.inr ⟨rfl, h⟩
theorem bR_only {E : Cal} {P : Cfg → Prop} {Q : Option Value → Mem → Prop} {b : Bool} {x : Out} (h : ex1 E P Q (bR b x none)) : b = true ∧ ex1 E P Q x := by
  cases b with
  | true => exact ⟨rfl, h⟩
  | false => exact False.elim h
theorem cellN_inv {E : Cal} {P : Cfg → Prop} {Q : Option Value → Mem → Prop} {sh : List (Nat × Nat)} {o k : Nat} {K : Nat → Out} (h : ex1 E P Q (cellN sh o k K)) : ∃ n, sh[o]? = some (k, n) ∧ ex1 E P Q (K n) := by
  unfold cellN at h
  split at h
  · next q e =>
    split at h
    · next e2 =>
      have e2 := Nat.eq_of_beq_eq_true e2
      obtain ⟨q1, q2⟩ := q
      have e2 : q1 = k := e2
      subst e2
      exact ⟨q2, e, h⟩
    · exact False.elim h
  · exact False.elim h
section SIM
variable {p : Program} {l : Launch} {e : Env} {R : Room} {s : State} {m : MethodId} {args : Array Value} {below : List Frame} {meth : Method} {c : Code} {Z : State → Prop} {base : Nat} {ext : Nat → Nat} {D : va_G} {cA : Nat → ClassId} {sc : Scr} {y : MethodName} {cc : ByteArray} {nL len0 : Nat}
/-- where a method stands: the machine, its code, the tables' words, what lies outside -/
def Cx (p : Program) (R : Room) (s : State) (m : MethodId) (args : Array Value) (meth : Method) (c : Code) (base : Nat) (ext : Nat → Nat) (D : va_G) (cA : Nat → ClassId) (sc : Scr) (y : MethodName) (cc : ByteArray) (nL len0 : Nat) : Prop :=
  p.tables.exec = Jvm.exec ∧ c.code = cc ∧ c.maxLocals = nL ∧ s.vm.findClass y.cls = some m.cls ∧ (∀ w ∈ Tb, w.before args s = true) ∧ Out0 base ext D cA s s.heap ∧ s.heap.size = base + len0 ∧ (∀ q, sc = some q → va_X (ext 2000) q.1 q.2 s s.heap ∧ ext 2000 < s.heap.size ∧ ¬ At0 base (ext 2000)) ∧ 1 ≤ R.frames ∧ 40 ≤ R.locals ∧ (y.name = "<init>" → meth.name = "<init>")
/-- the machine at a state of the plain one -/
def Sim (p : Program) (l : Launch) (e : Env) (R : Room) (s : State) (m : MethodId) (args : Array Value) (below : List Frame) (meth : Method) (c : Code) (Z : State → Prop) (base : Nat) (ext : Nat → Nat) (D : va_G) (cA : Nat → ClassId) (nL len0 : Nat) (q : Cfg) : Prop :=
  ∀ (H : Heap) (locs : List Loc) (ls : Array Slot), Holds base ext D cA (len0 + q.2.2.2.2.1) q.2.2.2.1 H → va_S (At0 base) s.heap H locs → LOK (adr base ext) nL ls q.2.1 → q.2.2.2.2.1 ≤ R.cells → q.2.2.2.2.2 ≤ R.slots → W p l e R s m args below meth c H locs q.2.2.2.2.1 q.2.2.2.2.2 Z (F0 m q.1 ls (q.2.2.1.map (vr (adr base ext))))

theorem st_iconst (X : Cx p R s m args meth c base ext D cA sc y cc nL len0) {E : Cal} {Q : Option Value → Mem → Prop} {aM : AM} {al : Nat × Nat} {n a b c0 : Nat} {w : Int32} {z : Int64} {pc : Nat} {L : Lo} {st : List Value} {mm : Mem} {kc ks : Nat} {k : Int} (hd : decode cc pc = .ok (.iconst k, n)) (hn : n = 1) (hk : Int32.ofInt k = w) (h : ex1 E (Sim p l e R s m args below meth c Z base ext D cA nL len0) Q (out1 sc aM al (.iconst k) n a b c0 w z pc L st mm kc ks)) : Sim p l e R s m args below meth c Z base ext D cA nL len0 (pc, L, st, mm, kc, ks) := by
  obtain ⟨hx, hb, hml, hown, hts, hO, hbase, hscr, hfr, hlo, hin⟩ := X
  subst hn
  intro H locs ls hH hS hL h1 h2
  exact lv_iconst hx hb hd hk (h H locs ls hH hS hL h1 h2)
theorem st_bipush (X : Cx p R s m args meth c base ext D cA sc y cc nL len0) {E : Cal} {Q : Option Value → Mem → Prop} {aM : AM} {al : Nat × Nat} {n a b c0 : Nat} {w : Int32} {z : Int64} {pc : Nat} {L : Lo} {st : List Value} {mm : Mem} {kc ks : Nat} {k : Int} (hd : decode cc pc = .ok (.bipush k, n)) (hn : n = 2) (hk : (Int8.ofInt k).toInt32 = w) (h : ex1 E (Sim p l e R s m args below meth c Z base ext D cA nL len0) Q (out1 sc aM al (.bipush k) n a b c0 w z pc L st mm kc ks)) : Sim p l e R s m args below meth c Z base ext D cA nL len0 (pc, L, st, mm, kc, ks) := by
  obtain ⟨hx, hb, hml, hown, hts, hO, hbase, hscr, hfr, hlo, hin⟩ := X
  subst hn
  intro H locs ls hH hS hL h1 h2
  exact lv_bipush hx hb hd hk (h H locs ls hH hS hL h1 h2)
theorem st_sipush (X : Cx p R s m args meth c base ext D cA sc y cc nL len0) {E : Cal} {Q : Option Value → Mem → Prop} {aM : AM} {al : Nat × Nat} {n a b c0 : Nat} {w : Int32} {z : Int64} {pc : Nat} {L : Lo} {st : List Value} {mm : Mem} {kc ks : Nat} {k : Int} (hd : decode cc pc = .ok (.sipush k, n)) (hn : n = 3) (hk : (Int16.ofInt k).toInt32 = w) (h : ex1 E (Sim p l e R s m args below meth c Z base ext D cA nL len0) Q (out1 sc aM al (.sipush k) n a b c0 w z pc L st mm kc ks)) : Sim p l e R s m args below meth c Z base ext D cA nL len0 (pc, L, st, mm, kc, ks) := by
  obtain ⟨hx, hb, hml, hown, hts, hO, hbase, hscr, hfr, hlo, hin⟩ := X
  subst hn
  intro H locs ls hH hS hL h1 h2
  exact lv_sipush hx hb hd hk (h H locs ls hH hS hL h1 h2)
theorem st_lconst (X : Cx p R s m args meth c base ext D cA sc y cc nL len0) {E : Cal} {Q : Option Value → Mem → Prop} {aM : AM} {al : Nat × Nat} {n a b c0 : Nat} {w : Int32} {z : Int64} {pc : Nat} {L : Lo} {st : List Value} {mm : Mem} {kc ks : Nat} {k : Fin 2} (hd : decode cc pc = .ok (.lconst k, n)) (hn : n = 1) (hk : Int64.ofNat (k : Nat) = z) (h : ex1 E (Sim p l e R s m args below meth c Z base ext D cA nL len0) Q (out1 sc aM al (.lconst k) n a b c0 w z pc L st mm kc ks)) : Sim p l e R s m args below meth c Z base ext D cA nL len0 (pc, L, st, mm, kc, ks) := by
  obtain ⟨hx, hb, hml, hown, hts, hO, hbase, hscr, hfr, hlo, hin⟩ := X
  subst hn
  intro H locs ls hH hS hL h1 h2
  exact lv_lconst hx hb hd hk (h H locs ls hH hS hL h1 h2)
theorem st_ldcw (X : Cx p R s m args meth c base ext D cA sc y cc nL len0) {E : Cal} {Q : Option Value → Mem → Prop} {aM : AM} {al : Nat × Nat} {n a b c0 : Nat} {w : Int32} {z : Int64} {pc : Nat} {L : Lo} {st : List Value} {mm : Mem} {kc ks : Nat} {k : Nat} (hd : decode cc pc = .ok (.ldc_w k, n)) (hn : n = 3) (hk : Cond.constant y.cls k w ∈ Tb) (h : ex1 E (Sim p l e R s m args below meth c Z base ext D cA nL len0) Q (out1 sc aM al (.ldc_w k) n a b c0 w z pc L st mm kc ks)) : Sim p l e R s m args below meth c Z base ext D cA nL len0 (pc, L, st, mm, kc, ks) := by
  obtain ⟨hx, hb, hml, hown, hts, hO, hbase, hscr, hfr, hlo, hin⟩ := X
  subst hn
  intro H locs ls hH hS hL h1 h2
  exact lv_ldcw hx hb hown (hts _ hk) hd (h H locs ls hH hS hL h1 h2)
theorem st_ldc2 (X : Cx p R s m args meth c base ext D cA sc y cc nL len0) {E : Cal} {Q : Option Value → Mem → Prop} {aM : AM} {al : Nat × Nat} {n a b c0 : Nat} {w : Int32} {z : Int64} {pc : Nat} {L : Lo} {st : List Value} {mm : Mem} {kc ks : Nat} {k : Nat} (hd : decode cc pc = .ok (.ldc2_w k, n)) (hn : n = 3) (hk : Cond.constantLong y.cls k z ∈ Tb) (h : ex1 E (Sim p l e R s m args below meth c Z base ext D cA nL len0) Q (out1 sc aM al (.ldc2_w k) n a b c0 w z pc L st mm kc ks)) : Sim p l e R s m args below meth c Z base ext D cA nL len0 (pc, L, st, mm, kc, ks) := by
  obtain ⟨hx, hb, hml, hown, hts, hO, hbase, hscr, hfr, hlo, hin⟩ := X
  subst hn
  intro H locs ls hH hS hL h1 h2
  exact lv_ldc2 hx hb hown (hts _ hk) hd (h H locs ls hH hS hL h1 h2)
theorem st_null (X : Cx p R s m args meth c base ext D cA sc y cc nL len0) {E : Cal} {Q : Option Value → Mem → Prop} {aM : AM} {al : Nat × Nat} {n a b c0 : Nat} {w : Int32} {z : Int64} {pc : Nat} {L : Lo} {st : List Value} {mm : Mem} {kc ks : Nat} (hd : decode cc pc = .ok (.aconst_null, n)) (hn : n = 1) (h : ex1 E (Sim p l e R s m args below meth c Z base ext D cA nL len0) Q (out1 sc aM al (.aconst_null) n a b c0 w z pc L st mm kc ks)) : Sim p l e R s m args below meth c Z base ext D cA nL len0 (pc, L, st, mm, kc, ks) := by
  obtain ⟨hx, hb, hml, hown, hts, hO, hbase, hscr, hfr, hlo, hin⟩ := X
  subst hn
  intro H locs ls hH hS hL h1 h2
  exact lv_null hx hb hd (h H locs ls hH hS hL h1 h2)
theorem st_iadd (X : Cx p R s m args meth c base ext D cA sc y cc nL len0) {E : Cal} {Q : Option Value → Mem → Prop} {aM : AM} {al : Nat × Nat} {n a b c0 : Nat} {w : Int32} {z : Int64} {pc : Nat} {L : Lo} {st : List Value} {mm : Mem} {kc ks : Nat} (hd : decode cc pc = .ok (.iadd, n)) (hn : n = 1) (h : ex1 E (Sim p l e R s m args below meth c Z base ext D cA nL len0) Q (out1 sc aM al (.iadd) n a b c0 w z pc L st mm kc ks)) : Sim p l e R s m args below meth c Z base ext D cA nL len0 (pc, L, st, mm, kc, ks) := by
  obtain ⟨hx, hb, hml, hown, hts, hO, hbase, hscr, hfr, hlo, hin⟩ := X
  subst hn
  obtain ⟨x0, r0, rfl, hh⟩ := xI_inv h
  clear h
  have h := hh
  clear hh
  obtain ⟨x1, r1, rfl, hh⟩ := xI_inv h
  clear h
  have h := hh
  clear hh
  intro H locs ls hH hS hL h1 h2
  exact lv_iadd hx hb hd (h H locs ls hH hS hL h1 h2)
theorem st_isub (X : Cx p R s m args meth c base ext D cA sc y cc nL len0) {E : Cal} {Q : Option Value → Mem → Prop} {aM : AM} {al : Nat × Nat} {n a b c0 : Nat} {w : Int32} {z : Int64} {pc : Nat} {L : Lo} {st : List Value} {mm : Mem} {kc ks : Nat} (hd : decode cc pc = .ok (.isub, n)) (hn : n = 1) (h : ex1 E (Sim p l e R s m args below meth c Z base ext D cA nL len0) Q (out1 sc aM al (.isub) n a b c0 w z pc L st mm kc ks)) : Sim p l e R s m args below meth c Z base ext D cA nL len0 (pc, L, st, mm, kc, ks) := by
  obtain ⟨hx, hb, hml, hown, hts, hO, hbase, hscr, hfr, hlo, hin⟩ := X
  subst hn
  obtain ⟨x0, r0, rfl, hh⟩ := xI_inv h
  clear h
  have h := hh
  clear hh
  obtain ⟨x1, r1, rfl, hh⟩ := xI_inv h
  clear h
  have h := hh
  clear hh
  intro H locs ls hH hS hL h1 h2
  exact lv_isub hx hb hd (h H locs ls hH hS hL h1 h2)
theorem st_imul (X : Cx p R s m args meth c base ext D cA sc y cc nL len0) {E : Cal} {Q : Option Value → Mem → Prop} {aM : AM} {al : Nat × Nat} {n a b c0 : Nat} {w : Int32} {z : Int64} {pc : Nat} {L : Lo} {st : List Value} {mm : Mem} {kc ks : Nat} (hd : decode cc pc = .ok (.imul, n)) (hn : n = 1) (h : ex1 E (Sim p l e R s m args below meth c Z base ext D cA nL len0) Q (out1 sc aM al (.imul) n a b c0 w z pc L st mm kc ks)) : Sim p l e R s m args below meth c Z base ext D cA nL len0 (pc, L, st, mm, kc, ks) := by
  obtain ⟨hx, hb, hml, hown, hts, hO, hbase, hscr, hfr, hlo, hin⟩ := X
  subst hn
  obtain ⟨x0, r0, rfl, hh⟩ := xI_inv h
  clear h
  have h := hh
  clear hh
  obtain ⟨x1, r1, rfl, hh⟩ := xI_inv h
  clear h
  have h := hh
  clear hh
  intro H locs ls hH hS hL h1 h2
  exact lv_imul hx hb hd (h H locs ls hH hS hL h1 h2)
theorem st_iand (X : Cx p R s m args meth c base ext D cA sc y cc nL len0) {E : Cal} {Q : Option Value → Mem → Prop} {aM : AM} {al : Nat × Nat} {n a b c0 : Nat} {w : Int32} {z : Int64} {pc : Nat} {L : Lo} {st : List Value} {mm : Mem} {kc ks : Nat} (hd : decode cc pc = .ok (.iand, n)) (hn : n = 1) (h : ex1 E (Sim p l e R s m args below meth c Z base ext D cA nL len0) Q (out1 sc aM al (.iand) n a b c0 w z pc L st mm kc ks)) : Sim p l e R s m args below meth c Z base ext D cA nL len0 (pc, L, st, mm, kc, ks) := by
  obtain ⟨hx, hb, hml, hown, hts, hO, hbase, hscr, hfr, hlo, hin⟩ := X
  subst hn
  obtain ⟨x0, r0, rfl, hh⟩ := xI_inv h
  clear h
  have h := hh
  clear hh
  obtain ⟨x1, r1, rfl, hh⟩ := xI_inv h
  clear h
  have h := hh
  clear hh
  intro H locs ls hH hS hL h1 h2
  exact lv_iand hx hb hd (h H locs ls hH hS hL h1 h2)
theorem st_ior (X : Cx p R s m args meth c base ext D cA sc y cc nL len0) {E : Cal} {Q : Option Value → Mem → Prop} {aM : AM} {al : Nat × Nat} {n a b c0 : Nat} {w : Int32} {z : Int64} {pc : Nat} {L : Lo} {st : List Value} {mm : Mem} {kc ks : Nat} (hd : decode cc pc = .ok (.ior, n)) (hn : n = 1) (h : ex1 E (Sim p l e R s m args below meth c Z base ext D cA nL len0) Q (out1 sc aM al (.ior) n a b c0 w z pc L st mm kc ks)) : Sim p l e R s m args below meth c Z base ext D cA nL len0 (pc, L, st, mm, kc, ks) := by
  obtain ⟨hx, hb, hml, hown, hts, hO, hbase, hscr, hfr, hlo, hin⟩ := X
  subst hn
  obtain ⟨x0, r0, rfl, hh⟩ := xI_inv h
  clear h
  have h := hh
  clear hh
  obtain ⟨x1, r1, rfl, hh⟩ := xI_inv h
  clear h
  have h := hh
  clear hh
  intro H locs ls hH hS hL h1 h2
  exact lv_ior hx hb hd (h H locs ls hH hS hL h1 h2)
theorem st_ixor (X : Cx p R s m args meth c base ext D cA sc y cc nL len0) {E : Cal} {Q : Option Value → Mem → Prop} {aM : AM} {al : Nat × Nat} {n a b c0 : Nat} {w : Int32} {z : Int64} {pc : Nat} {L : Lo} {st : List Value} {mm : Mem} {kc ks : Nat} (hd : decode cc pc = .ok (.ixor, n)) (hn : n = 1) (h : ex1 E (Sim p l e R s m args below meth c Z base ext D cA nL len0) Q (out1 sc aM al (.ixor) n a b c0 w z pc L st mm kc ks)) : Sim p l e R s m args below meth c Z base ext D cA nL len0 (pc, L, st, mm, kc, ks) := by
  obtain ⟨hx, hb, hml, hown, hts, hO, hbase, hscr, hfr, hlo, hin⟩ := X
  subst hn
  obtain ⟨x0, r0, rfl, hh⟩ := xI_inv h
  clear h
  have h := hh
  clear hh
  obtain ⟨x1, r1, rfl, hh⟩ := xI_inv h
  clear h
  have h := hh
  clear hh
  intro H locs ls hH hS hL h1 h2
  exact lv_ixor hx hb hd (h H locs ls hH hS hL h1 h2)
theorem st_ishl (X : Cx p R s m args meth c base ext D cA sc y cc nL len0) {E : Cal} {Q : Option Value → Mem → Prop} {aM : AM} {al : Nat × Nat} {n a b c0 : Nat} {w : Int32} {z : Int64} {pc : Nat} {L : Lo} {st : List Value} {mm : Mem} {kc ks : Nat} (hd : decode cc pc = .ok (.ishl, n)) (hn : n = 1) (h : ex1 E (Sim p l e R s m args below meth c Z base ext D cA nL len0) Q (out1 sc aM al (.ishl) n a b c0 w z pc L st mm kc ks)) : Sim p l e R s m args below meth c Z base ext D cA nL len0 (pc, L, st, mm, kc, ks) := by
  obtain ⟨hx, hb, hml, hown, hts, hO, hbase, hscr, hfr, hlo, hin⟩ := X
  subst hn
  obtain ⟨x0, r0, rfl, hh⟩ := xI_inv h
  clear h
  have h := hh
  clear hh
  obtain ⟨x1, r1, rfl, hh⟩ := xI_inv h
  clear h
  have h := hh
  clear hh
  intro H locs ls hH hS hL h1 h2
  exact lv_ishl hx hb hd (h H locs ls hH hS hL h1 h2)
theorem st_ishr (X : Cx p R s m args meth c base ext D cA sc y cc nL len0) {E : Cal} {Q : Option Value → Mem → Prop} {aM : AM} {al : Nat × Nat} {n a b c0 : Nat} {w : Int32} {z : Int64} {pc : Nat} {L : Lo} {st : List Value} {mm : Mem} {kc ks : Nat} (hd : decode cc pc = .ok (.ishr, n)) (hn : n = 1) (h : ex1 E (Sim p l e R s m args below meth c Z base ext D cA nL len0) Q (out1 sc aM al (.ishr) n a b c0 w z pc L st mm kc ks)) : Sim p l e R s m args below meth c Z base ext D cA nL len0 (pc, L, st, mm, kc, ks) := by
  obtain ⟨hx, hb, hml, hown, hts, hO, hbase, hscr, hfr, hlo, hin⟩ := X
  subst hn
  obtain ⟨x0, r0, rfl, hh⟩ := xI_inv h
  clear h
  have h := hh
  clear hh
  obtain ⟨x1, r1, rfl, hh⟩ := xI_inv h
  clear h
  have h := hh
  clear hh
  intro H locs ls hH hS hL h1 h2
  exact lv_ishr hx hb hd (h H locs ls hH hS hL h1 h2)
theorem st_ladd (X : Cx p R s m args meth c base ext D cA sc y cc nL len0) {E : Cal} {Q : Option Value → Mem → Prop} {aM : AM} {al : Nat × Nat} {n a b c0 : Nat} {w : Int32} {z : Int64} {pc : Nat} {L : Lo} {st : List Value} {mm : Mem} {kc ks : Nat} (hd : decode cc pc = .ok (.ladd, n)) (hn : n = 1) (h : ex1 E (Sim p l e R s m args below meth c Z base ext D cA nL len0) Q (out1 sc aM al (.ladd) n a b c0 w z pc L st mm kc ks)) : Sim p l e R s m args below meth c Z base ext D cA nL len0 (pc, L, st, mm, kc, ks) := by
  obtain ⟨hx, hb, hml, hown, hts, hO, hbase, hscr, hfr, hlo, hin⟩ := X
  subst hn
  obtain ⟨x0, r0, rfl, hh⟩ := xJ_inv h
  clear h
  have h := hh
  clear hh
  obtain ⟨x1, r1, rfl, hh⟩ := xJ_inv h
  clear h
  have h := hh
  clear hh
  intro H locs ls hH hS hL h1 h2
  exact lv_ladd hx hb hd (h H locs ls hH hS hL h1 h2)
theorem st_lsub (X : Cx p R s m args meth c base ext D cA sc y cc nL len0) {E : Cal} {Q : Option Value → Mem → Prop} {aM : AM} {al : Nat × Nat} {n a b c0 : Nat} {w : Int32} {z : Int64} {pc : Nat} {L : Lo} {st : List Value} {mm : Mem} {kc ks : Nat} (hd : decode cc pc = .ok (.lsub, n)) (hn : n = 1) (h : ex1 E (Sim p l e R s m args below meth c Z base ext D cA nL len0) Q (out1 sc aM al (.lsub) n a b c0 w z pc L st mm kc ks)) : Sim p l e R s m args below meth c Z base ext D cA nL len0 (pc, L, st, mm, kc, ks) := by
  obtain ⟨hx, hb, hml, hown, hts, hO, hbase, hscr, hfr, hlo, hin⟩ := X
  subst hn
  obtain ⟨x0, r0, rfl, hh⟩ := xJ_inv h
  clear h
  have h := hh
  clear hh
  obtain ⟨x1, r1, rfl, hh⟩ := xJ_inv h
  clear h
  have h := hh
  clear hh
  intro H locs ls hH hS hL h1 h2
  exact lv_lsub hx hb hd (h H locs ls hH hS hL h1 h2)
theorem st_lmul (X : Cx p R s m args meth c base ext D cA sc y cc nL len0) {E : Cal} {Q : Option Value → Mem → Prop} {aM : AM} {al : Nat × Nat} {n a b c0 : Nat} {w : Int32} {z : Int64} {pc : Nat} {L : Lo} {st : List Value} {mm : Mem} {kc ks : Nat} (hd : decode cc pc = .ok (.lmul, n)) (hn : n = 1) (h : ex1 E (Sim p l e R s m args below meth c Z base ext D cA nL len0) Q (out1 sc aM al (.lmul) n a b c0 w z pc L st mm kc ks)) : Sim p l e R s m args below meth c Z base ext D cA nL len0 (pc, L, st, mm, kc, ks) := by
  obtain ⟨hx, hb, hml, hown, hts, hO, hbase, hscr, hfr, hlo, hin⟩ := X
  subst hn
  obtain ⟨x0, r0, rfl, hh⟩ := xJ_inv h
  clear h
  have h := hh
  clear hh
  obtain ⟨x1, r1, rfl, hh⟩ := xJ_inv h
  clear h
  have h := hh
  clear hh
  intro H locs ls hH hS hL h1 h2
  exact lv_lmul hx hb hd (h H locs ls hH hS hL h1 h2)
theorem st_land (X : Cx p R s m args meth c base ext D cA sc y cc nL len0) {E : Cal} {Q : Option Value → Mem → Prop} {aM : AM} {al : Nat × Nat} {n a b c0 : Nat} {w : Int32} {z : Int64} {pc : Nat} {L : Lo} {st : List Value} {mm : Mem} {kc ks : Nat} (hd : decode cc pc = .ok (.land, n)) (hn : n = 1) (h : ex1 E (Sim p l e R s m args below meth c Z base ext D cA nL len0) Q (out1 sc aM al (.land) n a b c0 w z pc L st mm kc ks)) : Sim p l e R s m args below meth c Z base ext D cA nL len0 (pc, L, st, mm, kc, ks) := by
  obtain ⟨hx, hb, hml, hown, hts, hO, hbase, hscr, hfr, hlo, hin⟩ := X
  subst hn
  obtain ⟨x0, r0, rfl, hh⟩ := xJ_inv h
  clear h
  have h := hh
  clear hh
  obtain ⟨x1, r1, rfl, hh⟩ := xJ_inv h
  clear h
  have h := hh
  clear hh
  intro H locs ls hH hS hL h1 h2
  exact lv_land hx hb hd (h H locs ls hH hS hL h1 h2)
theorem st_lor (X : Cx p R s m args meth c base ext D cA sc y cc nL len0) {E : Cal} {Q : Option Value → Mem → Prop} {aM : AM} {al : Nat × Nat} {n a b c0 : Nat} {w : Int32} {z : Int64} {pc : Nat} {L : Lo} {st : List Value} {mm : Mem} {kc ks : Nat} (hd : decode cc pc = .ok (.lor, n)) (hn : n = 1) (h : ex1 E (Sim p l e R s m args below meth c Z base ext D cA nL len0) Q (out1 sc aM al (.lor) n a b c0 w z pc L st mm kc ks)) : Sim p l e R s m args below meth c Z base ext D cA nL len0 (pc, L, st, mm, kc, ks) := by
  obtain ⟨hx, hb, hml, hown, hts, hO, hbase, hscr, hfr, hlo, hin⟩ := X
  subst hn
  obtain ⟨x0, r0, rfl, hh⟩ := xJ_inv h
  clear h
  have h := hh
  clear hh
  obtain ⟨x1, r1, rfl, hh⟩ := xJ_inv h
  clear h
  have h := hh
  clear hh
  intro H locs ls hH hS hL h1 h2
  exact lv_lor hx hb hd (h H locs ls hH hS hL h1 h2)
theorem st_ineg (X : Cx p R s m args meth c base ext D cA sc y cc nL len0) {E : Cal} {Q : Option Value → Mem → Prop} {aM : AM} {al : Nat × Nat} {n a b c0 : Nat} {w : Int32} {z : Int64} {pc : Nat} {L : Lo} {st : List Value} {mm : Mem} {kc ks : Nat} (hd : decode cc pc = .ok (.ineg, n)) (hn : n = 1) (h : ex1 E (Sim p l e R s m args below meth c Z base ext D cA nL len0) Q (out1 sc aM al (.ineg) n a b c0 w z pc L st mm kc ks)) : Sim p l e R s m args below meth c Z base ext D cA nL len0 (pc, L, st, mm, kc, ks) := by
  obtain ⟨hx, hb, hml, hown, hts, hO, hbase, hscr, hfr, hlo, hin⟩ := X
  subst hn
  obtain ⟨x0, r0, rfl, hh⟩ := xI_inv h
  clear h
  have h := hh
  clear hh
  intro H locs ls hH hS hL h1 h2
  exact lv_ineg hx hb hd (h H locs ls hH hS hL h1 h2)
theorem st_lneg (X : Cx p R s m args meth c base ext D cA sc y cc nL len0) {E : Cal} {Q : Option Value → Mem → Prop} {aM : AM} {al : Nat × Nat} {n a b c0 : Nat} {w : Int32} {z : Int64} {pc : Nat} {L : Lo} {st : List Value} {mm : Mem} {kc ks : Nat} (hd : decode cc pc = .ok (.lneg, n)) (hn : n = 1) (h : ex1 E (Sim p l e R s m args below meth c Z base ext D cA nL len0) Q (out1 sc aM al (.lneg) n a b c0 w z pc L st mm kc ks)) : Sim p l e R s m args below meth c Z base ext D cA nL len0 (pc, L, st, mm, kc, ks) := by
  obtain ⟨hx, hb, hml, hown, hts, hO, hbase, hscr, hfr, hlo, hin⟩ := X
  subst hn
  obtain ⟨x0, r0, rfl, hh⟩ := xJ_inv h
  clear h
  have h := hh
  clear hh
  intro H locs ls hH hS hL h1 h2
  exact lv_lneg hx hb hd (h H locs ls hH hS hL h1 h2)
theorem st_lcmp (X : Cx p R s m args meth c base ext D cA sc y cc nL len0) {E : Cal} {Q : Option Value → Mem → Prop} {aM : AM} {al : Nat × Nat} {n a b c0 : Nat} {w : Int32} {z : Int64} {pc : Nat} {L : Lo} {st : List Value} {mm : Mem} {kc ks : Nat} (hd : decode cc pc = .ok (.lcmp, n)) (hn : n = 1) (h : ex1 E (Sim p l e R s m args below meth c Z base ext D cA nL len0) Q (out1 sc aM al (.lcmp) n a b c0 w z pc L st mm kc ks)) : Sim p l e R s m args below meth c Z base ext D cA nL len0 (pc, L, st, mm, kc, ks) := by
  obtain ⟨hx, hb, hml, hown, hts, hO, hbase, hscr, hfr, hlo, hin⟩ := X
  subst hn
  obtain ⟨x0, r0, rfl, hh⟩ := xJ_inv h
  clear h
  have h := hh
  clear hh
  obtain ⟨x1, r1, rfl, hh⟩ := xJ_inv h
  clear h
  have h := hh
  clear hh
  intro H locs ls hH hS hL h1 h2
  exact W.lcmp hx hb hd (h H locs ls hH hS hL h1 h2)
theorem st_i2l (X : Cx p R s m args meth c base ext D cA sc y cc nL len0) {E : Cal} {Q : Option Value → Mem → Prop} {aM : AM} {al : Nat × Nat} {n a b c0 : Nat} {w : Int32} {z : Int64} {pc : Nat} {L : Lo} {st : List Value} {mm : Mem} {kc ks : Nat} (hd : decode cc pc = .ok (.i2l, n)) (hn : n = 1) (h : ex1 E (Sim p l e R s m args below meth c Z base ext D cA nL len0) Q (out1 sc aM al (.i2l) n a b c0 w z pc L st mm kc ks)) : Sim p l e R s m args below meth c Z base ext D cA nL len0 (pc, L, st, mm, kc, ks) := by
  obtain ⟨hx, hb, hml, hown, hts, hO, hbase, hscr, hfr, hlo, hin⟩ := X
  subst hn
  obtain ⟨x0, r0, rfl, hh⟩ := xI_inv h
  clear h
  have h := hh
  clear hh
  intro H locs ls hH hS hL h1 h2
  exact lv_i2l hx hb hd rfl (h H locs ls hH hS hL h1 h2)
theorem st_l2i (X : Cx p R s m args meth c base ext D cA sc y cc nL len0) {E : Cal} {Q : Option Value → Mem → Prop} {aM : AM} {al : Nat × Nat} {n a b c0 : Nat} {w : Int32} {z : Int64} {pc : Nat} {L : Lo} {st : List Value} {mm : Mem} {kc ks : Nat} (hd : decode cc pc = .ok (.l2i, n)) (hn : n = 1) (h : ex1 E (Sim p l e R s m args below meth c Z base ext D cA nL len0) Q (out1 sc aM al (.l2i) n a b c0 w z pc L st mm kc ks)) : Sim p l e R s m args below meth c Z base ext D cA nL len0 (pc, L, st, mm, kc, ks) := by
  obtain ⟨hx, hb, hml, hown, hts, hO, hbase, hscr, hfr, hlo, hin⟩ := X
  subst hn
  obtain ⟨x0, r0, rfl, hh⟩ := xJ_inv h
  clear h
  have h := hh
  clear hh
  intro H locs ls hH hS hL h1 h2
  exact lv_l2i hx hb hd rfl (h H locs ls hH hS hL h1 h2)
theorem st_i2b (X : Cx p R s m args meth c base ext D cA sc y cc nL len0) {E : Cal} {Q : Option Value → Mem → Prop} {aM : AM} {al : Nat × Nat} {n a b c0 : Nat} {w : Int32} {z : Int64} {pc : Nat} {L : Lo} {st : List Value} {mm : Mem} {kc ks : Nat} (hd : decode cc pc = .ok (.i2b, n)) (hn : n = 1) (h : ex1 E (Sim p l e R s m args below meth c Z base ext D cA nL len0) Q (out1 sc aM al (.i2b) n a b c0 w z pc L st mm kc ks)) : Sim p l e R s m args below meth c Z base ext D cA nL len0 (pc, L, st, mm, kc, ks) := by
  obtain ⟨hx, hb, hml, hown, hts, hO, hbase, hscr, hfr, hlo, hin⟩ := X
  subst hn
  obtain ⟨x0, r0, rfl, hh⟩ := xI_inv h
  clear h
  have h := hh
  clear hh
  intro H locs ls hH hS hL h1 h2
  exact lv_i2b hx hb hd rfl (h H locs ls hH hS hL h1 h2)
theorem st_i2c (X : Cx p R s m args meth c base ext D cA sc y cc nL len0) {E : Cal} {Q : Option Value → Mem → Prop} {aM : AM} {al : Nat × Nat} {n a b c0 : Nat} {w : Int32} {z : Int64} {pc : Nat} {L : Lo} {st : List Value} {mm : Mem} {kc ks : Nat} (hd : decode cc pc = .ok (.i2c, n)) (hn : n = 1) (h : ex1 E (Sim p l e R s m args below meth c Z base ext D cA nL len0) Q (out1 sc aM al (.i2c) n a b c0 w z pc L st mm kc ks)) : Sim p l e R s m args below meth c Z base ext D cA nL len0 (pc, L, st, mm, kc, ks) := by
  obtain ⟨hx, hb, hml, hown, hts, hO, hbase, hscr, hfr, hlo, hin⟩ := X
  subst hn
  obtain ⟨x0, r0, rfl, hh⟩ := xI_inv h
  clear h
  have h := hh
  clear hh
  intro H locs ls hH hS hL h1 h2
  exact lv_i2c hx hb hd rfl (h H locs ls hH hS hL h1 h2)
theorem st_lshl (X : Cx p R s m args meth c base ext D cA sc y cc nL len0) {E : Cal} {Q : Option Value → Mem → Prop} {aM : AM} {al : Nat × Nat} {n a b c0 : Nat} {w : Int32} {z : Int64} {pc : Nat} {L : Lo} {st : List Value} {mm : Mem} {kc ks : Nat} (hd : decode cc pc = .ok (.lshl, n)) (hn : n = 1) (h : ex1 E (Sim p l e R s m args below meth c Z base ext D cA nL len0) Q (out1 sc aM al (.lshl) n a b c0 w z pc L st mm kc ks)) : Sim p l e R s m args below meth c Z base ext D cA nL len0 (pc, L, st, mm, kc, ks) := by
  obtain ⟨hx, hb, hml, hown, hts, hO, hbase, hscr, hfr, hlo, hin⟩ := X
  subst hn
  obtain ⟨x0, r0, rfl, hh⟩ := xI_inv h
  clear h
  have h := hh
  clear hh
  obtain ⟨x1, r1, rfl, hh⟩ := xJ_inv h
  clear h
  have h := hh
  clear hh
  intro H locs ls hH hS hL h1 h2
  exact lv_lshl hx hb hd rfl (h H locs ls hH hS hL h1 h2)
theorem st_lshr (X : Cx p R s m args meth c base ext D cA sc y cc nL len0) {E : Cal} {Q : Option Value → Mem → Prop} {aM : AM} {al : Nat × Nat} {n a b c0 : Nat} {w : Int32} {z : Int64} {pc : Nat} {L : Lo} {st : List Value} {mm : Mem} {kc ks : Nat} (hd : decode cc pc = .ok (.lshr, n)) (hn : n = 1) (h : ex1 E (Sim p l e R s m args below meth c Z base ext D cA nL len0) Q (out1 sc aM al (.lshr) n a b c0 w z pc L st mm kc ks)) : Sim p l e R s m args below meth c Z base ext D cA nL len0 (pc, L, st, mm, kc, ks) := by
  obtain ⟨hx, hb, hml, hown, hts, hO, hbase, hscr, hfr, hlo, hin⟩ := X
  subst hn
  obtain ⟨x0, r0, rfl, hh⟩ := xI_inv h
  clear h
  have h := hh
  clear hh
  obtain ⟨x1, r1, rfl, hh⟩ := xJ_inv h
  clear h
  have h := hh
  clear hh
  intro H locs ls hH hS hL h1 h2
  exact lv_lshr hx hb hd rfl (h H locs ls hH hS hL h1 h2)
theorem st_idiv (X : Cx p R s m args meth c base ext D cA sc y cc nL len0) {E : Cal} {Q : Option Value → Mem → Prop} {aM : AM} {al : Nat × Nat} {n a b c0 : Nat} {w : Int32} {z : Int64} {pc : Nat} {L : Lo} {st : List Value} {mm : Mem} {kc ks : Nat} (hd : decode cc pc = .ok (.idiv, n)) (hn : n = 1) (h : ex1 E (Sim p l e R s m args below meth c Z base ext D cA nL len0) Q (out1 sc aM al (.idiv) n a b c0 w z pc L st mm kc ks)) : Sim p l e R s m args below meth c Z base ext D cA nL len0 (pc, L, st, mm, kc, ks) := by
  obtain ⟨hx, hb, hml, hown, hts, hO, hbase, hscr, hfr, hlo, hin⟩ := X
  subst hn
  obtain ⟨x0, r0, rfl, hh⟩ := xI_inv h
  clear h
  have h := hh
  clear hh
  obtain ⟨x1, r1, rfl, hh⟩ := xI_inv h
  clear h
  have h := hh
  clear hh
  intro H locs ls hH hS hL h1 h2
  exact lv_idiv hx hb hd h.1 (h.2 H locs ls hH hS hL h1 h2)
theorem st_irem (X : Cx p R s m args meth c base ext D cA sc y cc nL len0) {E : Cal} {Q : Option Value → Mem → Prop} {aM : AM} {al : Nat × Nat} {n a b c0 : Nat} {w : Int32} {z : Int64} {pc : Nat} {L : Lo} {st : List Value} {mm : Mem} {kc ks : Nat} (hd : decode cc pc = .ok (.irem, n)) (hn : n = 1) (h : ex1 E (Sim p l e R s m args below meth c Z base ext D cA nL len0) Q (out1 sc aM al (.irem) n a b c0 w z pc L st mm kc ks)) : Sim p l e R s m args below meth c Z base ext D cA nL len0 (pc, L, st, mm, kc, ks) := by
  obtain ⟨hx, hb, hml, hown, hts, hO, hbase, hscr, hfr, hlo, hin⟩ := X
  subst hn
  obtain ⟨x0, r0, rfl, hh⟩ := xI_inv h
  clear h
  have h := hh
  clear hh
  obtain ⟨x1, r1, rfl, hh⟩ := xI_inv h
  clear h
  have h := hh
  clear hh
  intro H locs ls hH hS hL h1 h2
  exact lv_irem hx hb hd h.1 (h.2 H locs ls hH hS hL h1 h2)
theorem st_ldiv (X : Cx p R s m args meth c base ext D cA sc y cc nL len0) {E : Cal} {Q : Option Value → Mem → Prop} {aM : AM} {al : Nat × Nat} {n a b c0 : Nat} {w : Int32} {z : Int64} {pc : Nat} {L : Lo} {st : List Value} {mm : Mem} {kc ks : Nat} (hd : decode cc pc = .ok (.ldiv, n)) (hn : n = 1) (h : ex1 E (Sim p l e R s m args below meth c Z base ext D cA nL len0) Q (out1 sc aM al (.ldiv) n a b c0 w z pc L st mm kc ks)) : Sim p l e R s m args below meth c Z base ext D cA nL len0 (pc, L, st, mm, kc, ks) := by
  obtain ⟨hx, hb, hml, hown, hts, hO, hbase, hscr, hfr, hlo, hin⟩ := X
  subst hn
  obtain ⟨x0, r0, rfl, hh⟩ := xJ_inv h
  clear h
  have h := hh
  clear hh
  obtain ⟨x1, r1, rfl, hh⟩ := xJ_inv h
  clear h
  have h := hh
  clear hh
  intro H locs ls hH hS hL h1 h2
  exact lv_ldiv hx hb hd h.1 (h.2 H locs ls hH hS hL h1 h2)
theorem st_lrem (X : Cx p R s m args meth c base ext D cA sc y cc nL len0) {E : Cal} {Q : Option Value → Mem → Prop} {aM : AM} {al : Nat × Nat} {n a b c0 : Nat} {w : Int32} {z : Int64} {pc : Nat} {L : Lo} {st : List Value} {mm : Mem} {kc ks : Nat} (hd : decode cc pc = .ok (.lrem, n)) (hn : n = 1) (h : ex1 E (Sim p l e R s m args below meth c Z base ext D cA nL len0) Q (out1 sc aM al (.lrem) n a b c0 w z pc L st mm kc ks)) : Sim p l e R s m args below meth c Z base ext D cA nL len0 (pc, L, st, mm, kc, ks) := by
  obtain ⟨hx, hb, hml, hown, hts, hO, hbase, hscr, hfr, hlo, hin⟩ := X
  subst hn
  obtain ⟨x0, r0, rfl, hh⟩ := xJ_inv h
  clear h
  have h := hh
  clear hh
  obtain ⟨x1, r1, rfl, hh⟩ := xJ_inv h
  clear h
  have h := hh
  clear hh
  intro H locs ls hH hS hL h1 h2
  exact lv_lrem hx hb hd h.1 (h.2 H locs ls hH hS hL h1 h2)
theorem st_pop2 (X : Cx p R s m args meth c base ext D cA sc y cc nL len0) {E : Cal} {Q : Option Value → Mem → Prop} {aM : AM} {al : Nat × Nat} {n a b c0 : Nat} {w : Int32} {z : Int64} {pc : Nat} {L : Lo} {st : List Value} {mm : Mem} {kc ks : Nat} (hd : decode cc pc = .ok (.pop2, n)) (hn : n = 1) (h : ex1 E (Sim p l e R s m args below meth c Z base ext D cA nL len0) Q (out1 sc aM al (.pop2) n a b c0 w z pc L st mm kc ks)) : Sim p l e R s m args below meth c Z base ext D cA nL len0 (pc, L, st, mm, kc, ks) := by
  obtain ⟨hx, hb, hml, hown, hts, hO, hbase, hscr, hfr, hlo, hin⟩ := X
  subst hn
  obtain ⟨x0, r0, rfl, hh⟩ := xJ_inv h
  clear h
  have h := hh
  clear hh
  intro H locs ls hH hS hL h1 h2
  exact lv_pop2_2 hx hb hd rfl (h H locs ls hH hS hL h1 h2)
theorem st_dup (X : Cx p R s m args meth c base ext D cA sc y cc nL len0) {E : Cal} {Q : Option Value → Mem → Prop} {aM : AM} {al : Nat × Nat} {n a b c0 : Nat} {w : Int32} {z : Int64} {pc : Nat} {L : Lo} {st : List Value} {mm : Mem} {kc ks : Nat} (hd : decode cc pc = .ok (.dup, n)) (hn : n = 1) (h : ex1 E (Sim p l e R s m args below meth c Z base ext D cA nL len0) Q (out1 sc aM al (.dup) n a b c0 w z pc L st mm kc ks)) : Sim p l e R s m args below meth c Z base ext D cA nL len0 (pc, L, st, mm, kc, ks) := by
  obtain ⟨hx, hb, hml, hown, hts, hO, hbase, hscr, hfr, hlo, hin⟩ := X
  subst hn
  have h : ex1 E (Sim p l e R s m args below meth c Z base ext D cA nL len0) Q (x1 st fun x st => oGo (pc + 1, L, x :: x :: st, mm, kc, ks)) := h
  obtain ⟨v, r, hst, hv, hh⟩ := x1_inv h
  rw [hst]
  clear h
  have h := hh
  intro H locs ls hH hS hL h1 h2
  exact lv_dup hx hb hd ((vr_cat _ v).trans hv) (h H locs ls hH hS hL h1 h2)
theorem st_pop (X : Cx p R s m args meth c base ext D cA sc y cc nL len0) {E : Cal} {Q : Option Value → Mem → Prop} {aM : AM} {al : Nat × Nat} {n a b c0 : Nat} {w : Int32} {z : Int64} {pc : Nat} {L : Lo} {st : List Value} {mm : Mem} {kc ks : Nat} (hd : decode cc pc = .ok (.pop, n)) (hn : n = 1) (h : ex1 E (Sim p l e R s m args below meth c Z base ext D cA nL len0) Q (out1 sc aM al (.pop) n a b c0 w z pc L st mm kc ks)) : Sim p l e R s m args below meth c Z base ext D cA nL len0 (pc, L, st, mm, kc, ks) := by
  obtain ⟨hx, hb, hml, hown, hts, hO, hbase, hscr, hfr, hlo, hin⟩ := X
  subst hn
  have h : ex1 E (Sim p l e R s m args below meth c Z base ext D cA nL len0) Q (x1 st fun _ st => oGo (pc + 1, L, st, mm, kc, ks)) := h
  obtain ⟨v, r, hst, hv, hh⟩ := x1_inv h
  rw [hst]
  clear h
  have h := hh
  intro H locs ls hH hS hL h1 h2
  exact lv_pop hx hb hd ((vr_cat _ v).trans hv) (h H locs ls hH hS hL h1 h2)
theorem st_iload (X : Cx p R s m args meth c base ext D cA sc y cc nL len0) {E : Cal} {Q : Option Value → Mem → Prop} {aM : AM} {al : Nat × Nat} {n a b c0 : Nat} {w : Int32} {z : Int64} {pc : Nat} {L : Lo} {st : List Value} {mm : Mem} {kc ks : Nat} {k : Nat} (hd : decode cc pc = .ok (.iload k, n)) (hn : n = 2) (hk : k = a) (h : ex1 E (Sim p l e R s m args below meth c Z base ext D cA nL len0) Q (out1 sc aM al (.iload k) n a b c0 w z pc L st mm kc ks)) : Sim p l e R s m args below meth c Z base ext D cA nL len0 (pc, L, st, mm, kc, ks) := by
  obtain ⟨hx, hb, hml, hown, hts, hO, hbase, hscr, hfr, hlo, hin⟩ := X
  subst hn; subst hk
  obtain ⟨x, hg, h⟩ := gI_inv h
  intro H locs ls hH hS hL h1 h2
  exact lv_iload hx hb hd (hL.at hg) (h H locs ls hH hS hL h1 h2)
theorem st_lload (X : Cx p R s m args meth c base ext D cA sc y cc nL len0) {E : Cal} {Q : Option Value → Mem → Prop} {aM : AM} {al : Nat × Nat} {n a b c0 : Nat} {w : Int32} {z : Int64} {pc : Nat} {L : Lo} {st : List Value} {mm : Mem} {kc ks : Nat} {k : Nat} (hd : decode cc pc = .ok (.lload k, n)) (hn : n = 2) (hk : k = a) (h : ex1 E (Sim p l e R s m args below meth c Z base ext D cA nL len0) Q (out1 sc aM al (.lload k) n a b c0 w z pc L st mm kc ks)) : Sim p l e R s m args below meth c Z base ext D cA nL len0 (pc, L, st, mm, kc, ks) := by
  obtain ⟨hx, hb, hml, hown, hts, hO, hbase, hscr, hfr, hlo, hin⟩ := X
  subst hn; subst hk
  obtain ⟨x, hg, h⟩ := gJ_inv h
  intro H locs ls hH hS hL h1 h2
  exact lv_lload hx hb hd (hL.at hg) (h H locs ls hH hS hL h1 h2)
theorem st_iload_n (X : Cx p R s m args meth c base ext D cA sc y cc nL len0) {E : Cal} {Q : Option Value → Mem → Prop} {aM : AM} {al : Nat × Nat} {n a b c0 : Nat} {w : Int32} {z : Int64} {pc : Nat} {L : Lo} {st : List Value} {mm : Mem} {kc ks : Nat} {k : Fin 4} (hd : decode cc pc = .ok (.iload_n k, n)) (hn : n = 1) (hk : (k : Nat) = a) (h : ex1 E (Sim p l e R s m args below meth c Z base ext D cA nL len0) Q (out1 sc aM al (.iload_n k) n a b c0 w z pc L st mm kc ks)) : Sim p l e R s m args below meth c Z base ext D cA nL len0 (pc, L, st, mm, kc, ks) := by
  obtain ⟨hx, hb, hml, hown, hts, hO, hbase, hscr, hfr, hlo, hin⟩ := X
  subst hn
  obtain ⟨x, hg, h⟩ := gI_inv h
  intro H locs ls hH hS hL h1 h2
  exact lv_iload_n hx hb hd hk (hL.at hg) (h H locs ls hH hS hL h1 h2)
theorem st_lload_n (X : Cx p R s m args meth c base ext D cA sc y cc nL len0) {E : Cal} {Q : Option Value → Mem → Prop} {aM : AM} {al : Nat × Nat} {n a b c0 : Nat} {w : Int32} {z : Int64} {pc : Nat} {L : Lo} {st : List Value} {mm : Mem} {kc ks : Nat} {k : Fin 4} (hd : decode cc pc = .ok (.lload_n k, n)) (hn : n = 1) (hk : (k : Nat) = a) (h : ex1 E (Sim p l e R s m args below meth c Z base ext D cA nL len0) Q (out1 sc aM al (.lload_n k) n a b c0 w z pc L st mm kc ks)) : Sim p l e R s m args below meth c Z base ext D cA nL len0 (pc, L, st, mm, kc, ks) := by
  obtain ⟨hx, hb, hml, hown, hts, hO, hbase, hscr, hfr, hlo, hin⟩ := X
  subst hn
  obtain ⟨x, hg, h⟩ := gJ_inv h
  intro H locs ls hH hS hL h1 h2
  exact lv_lload_n hx hb hd hk (hL.at hg) (h H locs ls hH hS hL h1 h2)
theorem st_aload (X : Cx p R s m args meth c base ext D cA sc y cc nL len0) {E : Cal} {Q : Option Value → Mem → Prop} {aM : AM} {al : Nat × Nat} {n a b c0 : Nat} {w : Int32} {z : Int64} {pc : Nat} {L : Lo} {st : List Value} {mm : Mem} {kc ks : Nat} {k : Nat} (hd : decode cc pc = .ok (.aload k, n)) (hn : n = 2) (hk : k = a) (h : ex1 E (Sim p l e R s m args below meth c Z base ext D cA nL len0) Q (out1 sc aM al (.aload k) n a b c0 w z pc L st mm kc ks)) : Sim p l e R s m args below meth c Z base ext D cA nL len0 (pc, L, st, mm, kc, ks) := by
  obtain ⟨hx, hb, hml, hown, hts, hO, hbase, hscr, hfr, hlo, hin⟩ := X
  subst hn; subst hk
  intro H locs ls hH hS hL h1 h2
  have h : ex1 E (Sim p l e R s m args below meth c Z base ext D cA nL len0) Q (gV L k fun x => oGo (pc + 2, L, x :: st, mm, kc, ks)) := h
  rcases gV_inv h with ⟨x, hg, h⟩ | ⟨hg, h⟩
  · exact lv_aload hx hb hd (hL.at hg) (h H locs ls hH hS hL h1 h2)
  · exact lv_aloadN hx hb hd (hL.at hg) (h H locs ls hH hS hL h1 h2)
theorem st_aload_n (X : Cx p R s m args meth c base ext D cA sc y cc nL len0) {E : Cal} {Q : Option Value → Mem → Prop} {aM : AM} {al : Nat × Nat} {n a b c0 : Nat} {w : Int32} {z : Int64} {pc : Nat} {L : Lo} {st : List Value} {mm : Mem} {kc ks : Nat} {k : Fin 4} (hd : decode cc pc = .ok (.aload_n k, n)) (hn : n = 1) (hk : (k : Nat) = a) (h : ex1 E (Sim p l e R s m args below meth c Z base ext D cA nL len0) Q (out1 sc aM al (.aload_n k) n a b c0 w z pc L st mm kc ks)) : Sim p l e R s m args below meth c Z base ext D cA nL len0 (pc, L, st, mm, kc, ks) := by
  obtain ⟨hx, hb, hml, hown, hts, hO, hbase, hscr, hfr, hlo, hin⟩ := X
  subst hn
  intro H locs ls hH hS hL h1 h2
  have h : ex1 E (Sim p l e R s m args below meth c Z base ext D cA nL len0) Q (gV L a fun x => oGo (pc + 1, L, x :: st, mm, kc, ks)) := h
  rcases gV_inv h with ⟨x, hg, h⟩ | ⟨hg, h⟩
  · exact lv_aload_n hx hb hd hk (hL.at hg) (h H locs ls hH hS hL h1 h2)
  · exact lv_aload_nN hx hb hd hk (hL.at hg) (h H locs ls hH hS hL h1 h2)
theorem st_istore (X : Cx p R s m args meth c base ext D cA sc y cc nL len0) {E : Cal} {Q : Option Value → Mem → Prop} {aM : AM} {al : Nat × Nat} {n a b c0 : Nat} {w : Int32} {z : Int64} {pc : Nat} {L : Lo} {st : List Value} {mm : Mem} {kc ks : Nat} {k : Nat} (hd : decode cc pc = .ok (.istore k, n)) (hn : n = 2) (hk : k = a) (ha : a < nL) (h : ex1 E (Sim p l e R s m args below meth c Z base ext D cA nL len0) Q (out1 sc aM al (.istore k) n a b c0 w z pc L st mm kc ks)) : Sim p l e R s m args below meth c Z base ext D cA nL len0 (pc, L, st, mm, kc, ks) := by
  obtain ⟨hx, hb, hml, hown, hts, hO, hbase, hscr, hfr, hlo, hin⟩ := X
  subst hn; subst hk
  obtain ⟨x, r, rfl, hh⟩ := xI_inv h
  clear h
  have h := hh
  clear hh
  intro H locs ls hH hS hL h1 h2
  obtain ⟨ll, g1, g2⟩ := hL
  exact lv_istore hx hb hd g1 ha rfl (fun ls' h' => h H locs ls' hH hS (LOK.put1 (v := .int x) g2 h') h1 h2)
theorem st_istore_n (X : Cx p R s m args meth c base ext D cA sc y cc nL len0) {E : Cal} {Q : Option Value → Mem → Prop} {aM : AM} {al : Nat × Nat} {n a b c0 : Nat} {w : Int32} {z : Int64} {pc : Nat} {L : Lo} {st : List Value} {mm : Mem} {kc ks : Nat} {k : Fin 4} (hd : decode cc pc = .ok (.istore_n k, n)) (hn : n = 1) (hk : (k : Nat) = a) (ha : a < nL) (h : ex1 E (Sim p l e R s m args below meth c Z base ext D cA nL len0) Q (out1 sc aM al (.istore_n k) n a b c0 w z pc L st mm kc ks)) : Sim p l e R s m args below meth c Z base ext D cA nL len0 (pc, L, st, mm, kc, ks) := by
  obtain ⟨hx, hb, hml, hown, hts, hO, hbase, hscr, hfr, hlo, hin⟩ := X
  subst hn
  obtain ⟨x, r, rfl, hh⟩ := xI_inv h
  clear h
  have h := hh
  clear hh
  intro H locs ls hH hS hL h1 h2
  obtain ⟨ll, g1, g2⟩ := hL
  exact lv_istore_n hx hb hd hk g1 ha rfl (fun ls' h' => h H locs ls' hH hS (LOK.put1 (v := .int x) g2 h') h1 h2)
theorem st_lstore (X : Cx p R s m args meth c base ext D cA sc y cc nL len0) {E : Cal} {Q : Option Value → Mem → Prop} {aM : AM} {al : Nat × Nat} {n a b c0 : Nat} {w : Int32} {z : Int64} {pc : Nat} {L : Lo} {st : List Value} {mm : Mem} {kc ks : Nat} {k : Nat} (hd : decode cc pc = .ok (.lstore k, n)) (hn : n = 2) (hk : k = a) (ha : a + 1 < nL) (h : ex1 E (Sim p l e R s m args below meth c Z base ext D cA nL len0) Q (out1 sc aM al (.lstore k) n a b c0 w z pc L st mm kc ks)) : Sim p l e R s m args below meth c Z base ext D cA nL len0 (pc, L, st, mm, kc, ks) := by
  obtain ⟨hx, hb, hml, hown, hts, hO, hbase, hscr, hfr, hlo, hin⟩ := X
  subst hn; subst hk
  obtain ⟨x, r, rfl, hh⟩ := xJ_inv h
  clear h
  have h := hh
  clear hh
  intro H locs ls hH hS hL h1 h2
  obtain ⟨ll, g1, g2⟩ := hL
  exact lv_lstore hx hb hd g1 ha rfl (fun ls' h' => h H locs ls' hH hS (LOK.put2 (v := .long x) g2 h') h1 h2)
theorem st_lstore_n (X : Cx p R s m args meth c base ext D cA sc y cc nL len0) {E : Cal} {Q : Option Value → Mem → Prop} {aM : AM} {al : Nat × Nat} {n a b c0 : Nat} {w : Int32} {z : Int64} {pc : Nat} {L : Lo} {st : List Value} {mm : Mem} {kc ks : Nat} {k : Fin 4} (hd : decode cc pc = .ok (.lstore_n k, n)) (hn : n = 1) (hk : (k : Nat) = a) (ha : a + 1 < nL) (h : ex1 E (Sim p l e R s m args below meth c Z base ext D cA nL len0) Q (out1 sc aM al (.lstore_n k) n a b c0 w z pc L st mm kc ks)) : Sim p l e R s m args below meth c Z base ext D cA nL len0 (pc, L, st, mm, kc, ks) := by
  obtain ⟨hx, hb, hml, hown, hts, hO, hbase, hscr, hfr, hlo, hin⟩ := X
  subst hn
  obtain ⟨x, r, rfl, hh⟩ := xJ_inv h
  clear h
  have h := hh
  clear hh
  intro H locs ls hH hS hL h1 h2
  obtain ⟨ll, g1, g2⟩ := hL
  exact lv_lstore_n hx hb hd hk g1 ha rfl (fun ls' h' => h H locs ls' hH hS (LOK.put2 (v := .long x) g2 h') h1 h2)
theorem st_astore (X : Cx p R s m args meth c base ext D cA sc y cc nL len0) {E : Cal} {Q : Option Value → Mem → Prop} {aM : AM} {al : Nat × Nat} {n a b c0 : Nat} {w : Int32} {z : Int64} {pc : Nat} {L : Lo} {st : List Value} {mm : Mem} {kc ks : Nat} {k : Nat} (hd : decode cc pc = .ok (.astore k, n)) (hn : n = 2) (hk : k = a) (ha : a < nL) (h : ex1 E (Sim p l e R s m args below meth c Z base ext D cA nL len0) Q (out1 sc aM al (.astore k) n a b c0 w z pc L st mm kc ks)) : Sim p l e R s m args below meth c Z base ext D cA nL len0 (pc, L, st, mm, kc, ks) := by
  obtain ⟨hx, hb, hml, hown, hts, hO, hbase, hscr, hfr, hlo, hin⟩ := X
  subst hn; subst hk
  have h : ex1 E (Sim p l e R s m args below meth c Z base ext D cA nL len0) Q (xV st fun x st => oGo (pc + 2, lset1 L k x, st, mm, kc, ks)) := h
  intro H locs ls hH hS hL h1 h2
  obtain ⟨ll, g1, g2⟩ := hL
  rcases xV_inv h with ⟨x, r, hst, hh⟩ | ⟨r, hst, hh⟩
  · rw [hst]
    exact lv_astore hx hb hd g1 ha rfl (fun ls' h' => hh H locs ls' hH hS (LOK.put1 (v := .ref x) g2 h') h1 h2)
  · rw [hst]
    exact lv_astoreN hx hb hd g1 ha rfl (fun ls' h' => hh H locs ls' hH hS (LOK.put1 (v := .null) g2 h') h1 h2)
theorem st_astore_n (X : Cx p R s m args meth c base ext D cA sc y cc nL len0) {E : Cal} {Q : Option Value → Mem → Prop} {aM : AM} {al : Nat × Nat} {n a b c0 : Nat} {w : Int32} {z : Int64} {pc : Nat} {L : Lo} {st : List Value} {mm : Mem} {kc ks : Nat} {k : Fin 4} (hd : decode cc pc = .ok (.astore_n k, n)) (hn : n = 1) (hk : (k : Nat) = a) (ha : a < nL) (h : ex1 E (Sim p l e R s m args below meth c Z base ext D cA nL len0) Q (out1 sc aM al (.astore_n k) n a b c0 w z pc L st mm kc ks)) : Sim p l e R s m args below meth c Z base ext D cA nL len0 (pc, L, st, mm, kc, ks) := by
  obtain ⟨hx, hb, hml, hown, hts, hO, hbase, hscr, hfr, hlo, hin⟩ := X
  subst hn
  have h : ex1 E (Sim p l e R s m args below meth c Z base ext D cA nL len0) Q (xV st fun x st => oGo (pc + 1, lset1 L a x, st, mm, kc, ks)) := h
  intro H locs ls hH hS hL h1 h2
  obtain ⟨ll, g1, g2⟩ := hL
  rcases xV_inv h with ⟨x, r, hst, hh⟩ | ⟨r, hst, hh⟩
  · rw [hst]
    exact lv_astore_n hx hb hd hk g1 ha rfl (fun ls' h' => hh H locs ls' hH hS (LOK.put1 (v := .ref x) g2 h') h1 h2)
  · rw [hst]
    exact lv_astore_nN hx hb hd hk g1 ha rfl (fun ls' h' => hh H locs ls' hH hS (LOK.put1 (v := .null) g2 h') h1 h2)
theorem st_iinc (X : Cx p R s m args meth c base ext D cA sc y cc nL len0) {E : Cal} {Q : Option Value → Mem → Prop} {aM : AM} {al : Nat × Nat} {n a b c0 : Nat} {w : Int32} {z : Int64} {pc : Nat} {L : Lo} {st : List Value} {mm : Mem} {kc ks : Nat} {k : Nat} {d : Int} (hd : decode cc pc = .ok (.iinc k d, n)) (hn : n = 3) (hk : k = a) (ha : a < nL) (hw : Int32.ofInt d = w) (h : ex1 E (Sim p l e R s m args below meth c Z base ext D cA nL len0) Q (out1 sc aM al (.iinc k d) n a b c0 w z pc L st mm kc ks)) : Sim p l e R s m args below meth c Z base ext D cA nL len0 (pc, L, st, mm, kc, ks) := by
  obtain ⟨hx, hb, hml, hown, hts, hO, hbase, hscr, hfr, hlo, hin⟩ := X
  subst hn; subst hk
  obtain ⟨x, hg, h⟩ := gI_inv h
  intro H locs ls hH hS hL h1 h2
  obtain ⟨ll, g1, g2⟩ := hL
  obtain ⟨j, hj⟩ := List.getElem?_of_mem (g2 _ _ hg)
  exact lv_iinc hx hb hd g1 hj (by rw [hw]) ha rfl (fun ls' h' => h H locs ls' hH hS (LOK.put1 (v := .int (x + w)) g2 h') h1 h2)
theorem st_goto (X : Cx p R s m args meth c base ext D cA sc y cc nL len0) {E : Cal} {Q : Option Value → Mem → Prop} {aM : AM} {al : Nat × Nat} {n a b c0 : Nat} {w : Int32} {z : Int64} {pc : Nat} {L : Lo} {st : List Value} {mm : Mem} {kc ks : Nat} {o : Int} (hd : decode cc pc = .ok (.goto o, n)) (hn : n = 3) (ho : (pc : Int) + o = (a : Int)) (h : ex1 E (Sim p l e R s m args below meth c Z base ext D cA nL len0) Q (out1 sc aM al (.goto o) n a b c0 w z pc L st mm kc ks)) : Sim p l e R s m args below meth c Z base ext D cA nL len0 (pc, L, st, mm, kc, ks) := by
  obtain ⟨hx, hb, hml, hown, hts, hO, hbase, hscr, hfr, hlo, hin⟩ := X
  subst hn
  intro H locs ls hH hS hL h1 h2
  exact lv_goto hx hb hd ho (h H locs ls hH hS hL h1 h2)
theorem st_if_eq (X : Cx p R s m args meth c base ext D cA sc y cc nL len0) {E : Cal} {Q : Option Value → Mem → Prop} {aM : AM} {al : Nat × Nat} {n a b c0 : Nat} {w : Int32} {z : Int64} {pc : Nat} {L : Lo} {st : List Value} {mm : Mem} {kc ks : Nat} {o : Int} (hd : decode cc pc = .ok (.ifCond .eq o, n)) (hn : n = 3) (ho : (pc : Int) + o = (a : Int)) (h : ex1 E (Sim p l e R s m args below meth c Z base ext D cA nL len0) Q (out1 sc aM al (.ifCond .eq o) n a b c0 w z pc L st mm kc ks)) : Sim p l e R s m args below meth c Z base ext D cA nL len0 (pc, L, st, mm, kc, ks) := by
  obtain ⟨hx, hb, hml, hown, hts, hO, hbase, hscr, hfr, hlo, hin⟩ := X
  subst hn
  obtain ⟨x0, r0, rfl, hh⟩ := xI_inv h
  clear h
  have h := hh
  clear hh
  have h : Sim p l e R s m args below meth c Z base ext D cA nL len0 ((if x0 = 0 then a else pc + 3), L, r0, mm, kc, ks) := h
  intro H locs ls hH hS hL h1 h2
  exact lv_if_eq hx hb hd ho (fun g => (by rw [if_pos g] at h; exact h H locs ls hH hS hL h1 h2)) (fun g => (by rw [if_neg g] at h; exact h H locs ls hH hS hL h1 h2))
theorem st_if_ne (X : Cx p R s m args meth c base ext D cA sc y cc nL len0) {E : Cal} {Q : Option Value → Mem → Prop} {aM : AM} {al : Nat × Nat} {n a b c0 : Nat} {w : Int32} {z : Int64} {pc : Nat} {L : Lo} {st : List Value} {mm : Mem} {kc ks : Nat} {o : Int} (hd : decode cc pc = .ok (.ifCond .ne o, n)) (hn : n = 3) (ho : (pc : Int) + o = (a : Int)) (h : ex1 E (Sim p l e R s m args below meth c Z base ext D cA nL len0) Q (out1 sc aM al (.ifCond .ne o) n a b c0 w z pc L st mm kc ks)) : Sim p l e R s m args below meth c Z base ext D cA nL len0 (pc, L, st, mm, kc, ks) := by
  obtain ⟨hx, hb, hml, hown, hts, hO, hbase, hscr, hfr, hlo, hin⟩ := X
  subst hn
  obtain ⟨x0, r0, rfl, hh⟩ := xI_inv h
  clear h
  have h := hh
  clear hh
  have h : Sim p l e R s m args below meth c Z base ext D cA nL len0 ((if x0 = 0 then pc + 3 else a), L, r0, mm, kc, ks) := h
  intro H locs ls hH hS hL h1 h2
  exact lv_if_ne hx hb hd ho (fun g => (by rw [if_neg g] at h; exact h H locs ls hH hS hL h1 h2)) (fun g => (by rw [if_pos g] at h; exact h H locs ls hH hS hL h1 h2))
theorem st_if_lt (X : Cx p R s m args meth c base ext D cA sc y cc nL len0) {E : Cal} {Q : Option Value → Mem → Prop} {aM : AM} {al : Nat × Nat} {n a b c0 : Nat} {w : Int32} {z : Int64} {pc : Nat} {L : Lo} {st : List Value} {mm : Mem} {kc ks : Nat} {o : Int} (hd : decode cc pc = .ok (.ifCond .lt o, n)) (hn : n = 3) (ho : (pc : Int) + o = (a : Int)) (h : ex1 E (Sim p l e R s m args below meth c Z base ext D cA nL len0) Q (out1 sc aM al (.ifCond .lt o) n a b c0 w z pc L st mm kc ks)) : Sim p l e R s m args below meth c Z base ext D cA nL len0 (pc, L, st, mm, kc, ks) := by
  obtain ⟨hx, hb, hml, hown, hts, hO, hbase, hscr, hfr, hlo, hin⟩ := X
  subst hn
  obtain ⟨x0, r0, rfl, hh⟩ := xI_inv h
  clear h
  have h := hh
  clear hh
  have h : Sim p l e R s m args below meth c Z base ext D cA nL len0 ((if x0 < 0 then a else pc + 3), L, r0, mm, kc, ks) := h
  intro H locs ls hH hS hL h1 h2
  exact lv_if_lt hx hb hd ho (fun g => (by rw [if_pos g] at h; exact h H locs ls hH hS hL h1 h2)) (fun g => (by rw [if_neg g] at h; exact h H locs ls hH hS hL h1 h2))
theorem st_if_ge (X : Cx p R s m args meth c base ext D cA sc y cc nL len0) {E : Cal} {Q : Option Value → Mem → Prop} {aM : AM} {al : Nat × Nat} {n a b c0 : Nat} {w : Int32} {z : Int64} {pc : Nat} {L : Lo} {st : List Value} {mm : Mem} {kc ks : Nat} {o : Int} (hd : decode cc pc = .ok (.ifCond .ge o, n)) (hn : n = 3) (ho : (pc : Int) + o = (a : Int)) (h : ex1 E (Sim p l e R s m args below meth c Z base ext D cA nL len0) Q (out1 sc aM al (.ifCond .ge o) n a b c0 w z pc L st mm kc ks)) : Sim p l e R s m args below meth c Z base ext D cA nL len0 (pc, L, st, mm, kc, ks) := by
  obtain ⟨hx, hb, hml, hown, hts, hO, hbase, hscr, hfr, hlo, hin⟩ := X
  subst hn
  obtain ⟨x0, r0, rfl, hh⟩ := xI_inv h
  clear h
  have h := hh
  clear hh
  have h : Sim p l e R s m args below meth c Z base ext D cA nL len0 ((if 0 ≤ x0 then a else pc + 3), L, r0, mm, kc, ks) := h
  intro H locs ls hH hS hL h1 h2
  exact lv_if_ge hx hb hd ho (fun g => (by rw [if_pos g] at h; exact h H locs ls hH hS hL h1 h2)) (fun g => (by rw [if_neg g] at h; exact h H locs ls hH hS hL h1 h2))
theorem st_if_gt (X : Cx p R s m args meth c base ext D cA sc y cc nL len0) {E : Cal} {Q : Option Value → Mem → Prop} {aM : AM} {al : Nat × Nat} {n a b c0 : Nat} {w : Int32} {z : Int64} {pc : Nat} {L : Lo} {st : List Value} {mm : Mem} {kc ks : Nat} {o : Int} (hd : decode cc pc = .ok (.ifCond .gt o, n)) (hn : n = 3) (ho : (pc : Int) + o = (a : Int)) (h : ex1 E (Sim p l e R s m args below meth c Z base ext D cA nL len0) Q (out1 sc aM al (.ifCond .gt o) n a b c0 w z pc L st mm kc ks)) : Sim p l e R s m args below meth c Z base ext D cA nL len0 (pc, L, st, mm, kc, ks) := by
  obtain ⟨hx, hb, hml, hown, hts, hO, hbase, hscr, hfr, hlo, hin⟩ := X
  subst hn
  obtain ⟨x0, r0, rfl, hh⟩ := xI_inv h
  clear h
  have h := hh
  clear hh
  have h : Sim p l e R s m args below meth c Z base ext D cA nL len0 ((if 0 < x0 then a else pc + 3), L, r0, mm, kc, ks) := h
  intro H locs ls hH hS hL h1 h2
  exact lv_if_gt hx hb hd ho (fun g => (by rw [if_pos g] at h; exact h H locs ls hH hS hL h1 h2)) (fun g => (by rw [if_neg g] at h; exact h H locs ls hH hS hL h1 h2))
theorem st_if_le (X : Cx p R s m args meth c base ext D cA sc y cc nL len0) {E : Cal} {Q : Option Value → Mem → Prop} {aM : AM} {al : Nat × Nat} {n a b c0 : Nat} {w : Int32} {z : Int64} {pc : Nat} {L : Lo} {st : List Value} {mm : Mem} {kc ks : Nat} {o : Int} (hd : decode cc pc = .ok (.ifCond .le o, n)) (hn : n = 3) (ho : (pc : Int) + o = (a : Int)) (h : ex1 E (Sim p l e R s m args below meth c Z base ext D cA nL len0) Q (out1 sc aM al (.ifCond .le o) n a b c0 w z pc L st mm kc ks)) : Sim p l e R s m args below meth c Z base ext D cA nL len0 (pc, L, st, mm, kc, ks) := by
  obtain ⟨hx, hb, hml, hown, hts, hO, hbase, hscr, hfr, hlo, hin⟩ := X
  subst hn
  obtain ⟨x0, r0, rfl, hh⟩ := xI_inv h
  clear h
  have h := hh
  clear hh
  have h : Sim p l e R s m args below meth c Z base ext D cA nL len0 ((if x0 ≤ 0 then a else pc + 3), L, r0, mm, kc, ks) := h
  intro H locs ls hH hS hL h1 h2
  exact lv_if_le hx hb hd ho (fun g => (by rw [if_pos g] at h; exact h H locs ls hH hS hL h1 h2)) (fun g => (by rw [if_neg g] at h; exact h H locs ls hH hS hL h1 h2))
theorem st_icmp_eq (X : Cx p R s m args meth c base ext D cA sc y cc nL len0) {E : Cal} {Q : Option Value → Mem → Prop} {aM : AM} {al : Nat × Nat} {n a b c0 : Nat} {w : Int32} {z : Int64} {pc : Nat} {L : Lo} {st : List Value} {mm : Mem} {kc ks : Nat} {o : Int} (hd : decode cc pc = .ok (.if_icmp .eq o, n)) (hn : n = 3) (ho : (pc : Int) + o = (a : Int)) (h : ex1 E (Sim p l e R s m args below meth c Z base ext D cA nL len0) Q (out1 sc aM al (.if_icmp .eq o) n a b c0 w z pc L st mm kc ks)) : Sim p l e R s m args below meth c Z base ext D cA nL len0 (pc, L, st, mm, kc, ks) := by
  obtain ⟨hx, hb, hml, hown, hts, hO, hbase, hscr, hfr, hlo, hin⟩ := X
  subst hn
  obtain ⟨x0, r0, rfl, hh⟩ := xI_inv h
  clear h
  have h := hh
  clear hh
  obtain ⟨x1, r1, rfl, hh⟩ := xI_inv h
  clear h
  have h := hh
  clear hh
  have h : Sim p l e R s m args below meth c Z base ext D cA nL len0 ((if x1 = x0 then a else pc + 3), L, r1, mm, kc, ks) := h
  intro H locs ls hH hS hL h1 h2
  exact lv_icmp_eq hx hb hd ho (fun g => (by rw [if_pos g] at h; exact h H locs ls hH hS hL h1 h2)) (fun g => (by rw [if_neg g] at h; exact h H locs ls hH hS hL h1 h2))
theorem st_icmp_ne (X : Cx p R s m args meth c base ext D cA sc y cc nL len0) {E : Cal} {Q : Option Value → Mem → Prop} {aM : AM} {al : Nat × Nat} {n a b c0 : Nat} {w : Int32} {z : Int64} {pc : Nat} {L : Lo} {st : List Value} {mm : Mem} {kc ks : Nat} {o : Int} (hd : decode cc pc = .ok (.if_icmp .ne o, n)) (hn : n = 3) (ho : (pc : Int) + o = (a : Int)) (h : ex1 E (Sim p l e R s m args below meth c Z base ext D cA nL len0) Q (out1 sc aM al (.if_icmp .ne o) n a b c0 w z pc L st mm kc ks)) : Sim p l e R s m args below meth c Z base ext D cA nL len0 (pc, L, st, mm, kc, ks) := by
  obtain ⟨hx, hb, hml, hown, hts, hO, hbase, hscr, hfr, hlo, hin⟩ := X
  subst hn
  obtain ⟨x0, r0, rfl, hh⟩ := xI_inv h
  clear h
  have h := hh
  clear hh
  obtain ⟨x1, r1, rfl, hh⟩ := xI_inv h
  clear h
  have h := hh
  clear hh
  have h : Sim p l e R s m args below meth c Z base ext D cA nL len0 ((if x1 = x0 then pc + 3 else a), L, r1, mm, kc, ks) := h
  intro H locs ls hH hS hL h1 h2
  exact lv_icmp_ne hx hb hd ho (fun g => (by rw [if_neg g] at h; exact h H locs ls hH hS hL h1 h2)) (fun g => (by rw [if_pos g] at h; exact h H locs ls hH hS hL h1 h2))
theorem st_icmp_lt (X : Cx p R s m args meth c base ext D cA sc y cc nL len0) {E : Cal} {Q : Option Value → Mem → Prop} {aM : AM} {al : Nat × Nat} {n a b c0 : Nat} {w : Int32} {z : Int64} {pc : Nat} {L : Lo} {st : List Value} {mm : Mem} {kc ks : Nat} {o : Int} (hd : decode cc pc = .ok (.if_icmp .lt o, n)) (hn : n = 3) (ho : (pc : Int) + o = (a : Int)) (h : ex1 E (Sim p l e R s m args below meth c Z base ext D cA nL len0) Q (out1 sc aM al (.if_icmp .lt o) n a b c0 w z pc L st mm kc ks)) : Sim p l e R s m args below meth c Z base ext D cA nL len0 (pc, L, st, mm, kc, ks) := by
  obtain ⟨hx, hb, hml, hown, hts, hO, hbase, hscr, hfr, hlo, hin⟩ := X
  subst hn
  obtain ⟨x0, r0, rfl, hh⟩ := xI_inv h
  clear h
  have h := hh
  clear hh
  obtain ⟨x1, r1, rfl, hh⟩ := xI_inv h
  clear h
  have h := hh
  clear hh
  have h : Sim p l e R s m args below meth c Z base ext D cA nL len0 ((if x1 < x0 then a else pc + 3), L, r1, mm, kc, ks) := h
  intro H locs ls hH hS hL h1 h2
  exact lv_icmp_lt hx hb hd ho (fun g => (by rw [if_pos g] at h; exact h H locs ls hH hS hL h1 h2)) (fun g => (by rw [if_neg g] at h; exact h H locs ls hH hS hL h1 h2))
theorem st_icmp_ge (X : Cx p R s m args meth c base ext D cA sc y cc nL len0) {E : Cal} {Q : Option Value → Mem → Prop} {aM : AM} {al : Nat × Nat} {n a b c0 : Nat} {w : Int32} {z : Int64} {pc : Nat} {L : Lo} {st : List Value} {mm : Mem} {kc ks : Nat} {o : Int} (hd : decode cc pc = .ok (.if_icmp .ge o, n)) (hn : n = 3) (ho : (pc : Int) + o = (a : Int)) (h : ex1 E (Sim p l e R s m args below meth c Z base ext D cA nL len0) Q (out1 sc aM al (.if_icmp .ge o) n a b c0 w z pc L st mm kc ks)) : Sim p l e R s m args below meth c Z base ext D cA nL len0 (pc, L, st, mm, kc, ks) := by
  obtain ⟨hx, hb, hml, hown, hts, hO, hbase, hscr, hfr, hlo, hin⟩ := X
  subst hn
  obtain ⟨x0, r0, rfl, hh⟩ := xI_inv h
  clear h
  have h := hh
  clear hh
  obtain ⟨x1, r1, rfl, hh⟩ := xI_inv h
  clear h
  have h := hh
  clear hh
  have h : Sim p l e R s m args below meth c Z base ext D cA nL len0 ((if x0 ≤ x1 then a else pc + 3), L, r1, mm, kc, ks) := h
  intro H locs ls hH hS hL h1 h2
  exact lv_icmp_ge hx hb hd ho (fun g => (by rw [if_pos g] at h; exact h H locs ls hH hS hL h1 h2)) (fun g => (by rw [if_neg g] at h; exact h H locs ls hH hS hL h1 h2))
theorem st_icmp_gt (X : Cx p R s m args meth c base ext D cA sc y cc nL len0) {E : Cal} {Q : Option Value → Mem → Prop} {aM : AM} {al : Nat × Nat} {n a b c0 : Nat} {w : Int32} {z : Int64} {pc : Nat} {L : Lo} {st : List Value} {mm : Mem} {kc ks : Nat} {o : Int} (hd : decode cc pc = .ok (.if_icmp .gt o, n)) (hn : n = 3) (ho : (pc : Int) + o = (a : Int)) (h : ex1 E (Sim p l e R s m args below meth c Z base ext D cA nL len0) Q (out1 sc aM al (.if_icmp .gt o) n a b c0 w z pc L st mm kc ks)) : Sim p l e R s m args below meth c Z base ext D cA nL len0 (pc, L, st, mm, kc, ks) := by
  obtain ⟨hx, hb, hml, hown, hts, hO, hbase, hscr, hfr, hlo, hin⟩ := X
  subst hn
  obtain ⟨x0, r0, rfl, hh⟩ := xI_inv h
  clear h
  have h := hh
  clear hh
  obtain ⟨x1, r1, rfl, hh⟩ := xI_inv h
  clear h
  have h := hh
  clear hh
  have h : Sim p l e R s m args below meth c Z base ext D cA nL len0 ((if x0 < x1 then a else pc + 3), L, r1, mm, kc, ks) := h
  intro H locs ls hH hS hL h1 h2
  exact lv_icmp_gt hx hb hd ho (fun g => (by rw [if_pos g] at h; exact h H locs ls hH hS hL h1 h2)) (fun g => (by rw [if_neg g] at h; exact h H locs ls hH hS hL h1 h2))
theorem st_icmp_le (X : Cx p R s m args meth c base ext D cA sc y cc nL len0) {E : Cal} {Q : Option Value → Mem → Prop} {aM : AM} {al : Nat × Nat} {n a b c0 : Nat} {w : Int32} {z : Int64} {pc : Nat} {L : Lo} {st : List Value} {mm : Mem} {kc ks : Nat} {o : Int} (hd : decode cc pc = .ok (.if_icmp .le o, n)) (hn : n = 3) (ho : (pc : Int) + o = (a : Int)) (h : ex1 E (Sim p l e R s m args below meth c Z base ext D cA nL len0) Q (out1 sc aM al (.if_icmp .le o) n a b c0 w z pc L st mm kc ks)) : Sim p l e R s m args below meth c Z base ext D cA nL len0 (pc, L, st, mm, kc, ks) := by
  obtain ⟨hx, hb, hml, hown, hts, hO, hbase, hscr, hfr, hlo, hin⟩ := X
  subst hn
  obtain ⟨x0, r0, rfl, hh⟩ := xI_inv h
  clear h
  have h := hh
  clear hh
  obtain ⟨x1, r1, rfl, hh⟩ := xI_inv h
  clear h
  have h := hh
  clear hh
  have h : Sim p l e R s m args below meth c Z base ext D cA nL len0 ((if x1 ≤ x0 then a else pc + 3), L, r1, mm, kc, ks) := h
  intro H locs ls hH hS hL h1 h2
  exact lv_icmp_le hx hb hd ho (fun g => (by rw [if_pos g] at h; exact h H locs ls hH hS hL h1 h2)) (fun g => (by rw [if_neg g] at h; exact h H locs ls hH hS hL h1 h2))
theorem st_ifnull (X : Cx p R s m args meth c base ext D cA sc y cc nL len0) {E : Cal} {Q : Option Value → Mem → Prop} {aM : AM} {al : Nat × Nat} {n a b c0 : Nat} {w : Int32} {z : Int64} {pc : Nat} {L : Lo} {st : List Value} {mm : Mem} {kc ks : Nat} {o : Int} (hd : decode cc pc = .ok (.ifnull o, n)) (hn : n = 3) (ho : (pc : Int) + o = (a : Int)) (h : ex1 E (Sim p l e R s m args below meth c Z base ext D cA nL len0) Q (out1 sc aM al (.ifnull o) n a b c0 w z pc L st mm kc ks)) : Sim p l e R s m args below meth c Z base ext D cA nL len0 (pc, L, st, mm, kc, ks) := by
  obtain ⟨hx, hb, hml, hown, hts, hO, hbase, hscr, hfr, hlo, hin⟩ := X
  subst hn
  have h : ex1 E (Sim p l e R s m args below meth c Z base ext D cA nL len0) Q (xV st fun x st => oGo (match x with
    | .null => a
    | _ => pc + 3, L, st, mm, kc, ks)) := h
  intro H locs ls hH hS hL h1 h2
  rcases xV_inv h with ⟨x, r, hst, hh⟩ | ⟨r, hst, hh⟩
  · rw [hst]
    exact lv_ifnull hx hb hd (hh H locs ls hH hS hL h1 h2)
  · rw [hst]
    exact lv_ifnullN hx hb hd ho (hh H locs ls hH hS hL h1 h2)
theorem st_ifnonnull (X : Cx p R s m args meth c base ext D cA sc y cc nL len0) {E : Cal} {Q : Option Value → Mem → Prop} {aM : AM} {al : Nat × Nat} {n a b c0 : Nat} {w : Int32} {z : Int64} {pc : Nat} {L : Lo} {st : List Value} {mm : Mem} {kc ks : Nat} {o : Int} (hd : decode cc pc = .ok (.ifnonnull o, n)) (hn : n = 3) (ho : (pc : Int) + o = (a : Int)) (h : ex1 E (Sim p l e R s m args below meth c Z base ext D cA nL len0) Q (out1 sc aM al (.ifnonnull o) n a b c0 w z pc L st mm kc ks)) : Sim p l e R s m args below meth c Z base ext D cA nL len0 (pc, L, st, mm, kc, ks) := by
  obtain ⟨hx, hb, hml, hown, hts, hO, hbase, hscr, hfr, hlo, hin⟩ := X
  subst hn
  have h : ex1 E (Sim p l e R s m args below meth c Z base ext D cA nL len0) Q (xV st fun x st => oGo (match x with
    | .null => pc + 3
    | _ => a, L, st, mm, kc, ks)) := h
  intro H locs ls hH hS hL h1 h2
  rcases xV_inv h with ⟨x, r, hst, hh⟩ | ⟨r, hst, hh⟩
  · rw [hst]
    exact lv_ifnonnull hx hb hd ho (hh H locs ls hH hS hL h1 h2)
  · rw [hst]
    exact lv_ifnonnullN hx hb hd (hh H locs ls hH hS hL h1 h2)
theorem st_tableswitch (X : Cx p R s m args meth c base ext D cA sc y cc nL len0) {E : Cal} {Q : Option Value → Mem → Prop} {aM : AM} {al : Nat × Nat} {n a b c0 : Nat} {w : Int32} {z : Int64} {pc : Nat} {L : Lo} {st : List Value} {mm : Mem} {kc ks : Nat} {d lo hi : Int} {offs : Array Int} (hd : decode cc pc = .ok (.tableswitch d lo hi offs, n)) (hdf : 0 ≤ (pc : Int) + d) (hof : offs.toList.all (fun o => decide (0 ≤ (pc : Int) + o)) = true) (hsz : hi + 1 - lo = (offs.size : Int)) (h : ex1 E (Sim p l e R s m args below meth c Z base ext D cA nL len0) Q (out1 sc aM al (.tableswitch d lo hi offs) n a b c0 w z pc L st mm kc ks)) : Sim p l e R s m args below meth c Z base ext D cA nL len0 (pc, L, st, mm, kc, ks) := by
  obtain ⟨hx, hb, hml, hown, hts, hO, hbase, hscr, hfr, hlo, hin⟩ := X
  obtain ⟨x, r, rfl, hh⟩ := xI_inv h
  clear h
  have h := hh
  clear hh
  have h : Sim p l e R s m args below meth c Z base ext D cA nL len0 (swT pc lo hi d offs x, L, r, mm, kc, ks) := h
  intro H locs ls hH hS hL h1 h2
  unfold swT at h
  by_cases g : x.toInt < lo ∨ hi < x.toInt
  · rw [if_pos g] at h
    exact lv_tableOut hx hb hd g (Int.toNat_of_nonneg hdf).symm (h H locs ls hH hS hL h1 h2)
  · rw [if_neg g] at h
    have g1 : ¬ x.toInt < lo := fun q => g (Or.inl q)
    have g2 : ¬ hi < x.toInt := fun q => g (Or.inr q)
    have hlt : (x.toInt - lo).toNat < offs.size := by omega
    have hget : offs[(x.toInt - lo).toNat]? = some (offs.getD (x.toInt - lo).toNat 0) := by
      rw [Array.getD_eq_getD_getElem?, Array.getElem?_eq_getElem hlt]
      rfl
    have hmem : offs.getD (x.toInt - lo).toNat 0 ∈ offs.toList := Array.mem_toList_iff.mpr (Array.mem_of_getElem? hget)
    have hnn := List.all_eq_true.mp hof _ hmem
    simp only [decide_eq_true_eq] at hnn
    exact lv_tableIn hx hb hd g1 g2 hget (Int.toNat_of_nonneg hnn).symm (h H locs ls hH hS hL h1 h2)
theorem cel_20 {cA : Nat → ClassId} {ad : Nat → Nat} {n : Nat} {f : Nat → Value} : cel cA ad 20 n f = .inl (cA 20, n, .inl (fun j => iv (f j))) := rfl
theorem cel_21 {cA : Nat → ClassId} {ad : Nat → Nat} {n : Nat} {f : Nat → Value} : cel cA ad 21 n f = .inl (cA 21, n, .inr (.inl (fun j => jv (f j)))) := rfl
theorem cel_22 {cA : Nat → ClassId} {ad : Nat → Nat} {n : Nat} {f : Nat → Value} : cel cA ad 22 n f = .inl (cA 22, n, .inl (fun j => iv (f j))) := rfl
theorem cel_23 {cA : Nat → ClassId} {ad : Nat → Nat} {n : Nat} {f : Nat → Value} : cel cA ad 23 n f = .inl (cA 23, n, .inl (fun j => iv (f j))) := rfl
theorem cel_24 {cA : Nat → ClassId} {ad : Nat → Nat} {n : Nat} {f : Nat → Value} : cel cA ad 24 n f = .inl (cA 24, n, .inr (.inr (.inr (.inr (fun j => (rv (f j)).map ad))))) := rfl
theorem ad_lt {base : Nat} {ext : Nat → Nat} {o : Nat} (h : ¬ o < 1000) : adr base ext o = ext o := by unfold adr; rw [if_neg h]
theorem Holds.lt {base : Nat} {ext : Nat → Nat} {D : va_G} {cA : Nat → ClassId} {k : Nat} {mm : Mem} {H : Heap} (h : Holds base ext D cA k mm H) {o : Nat} {kn : Nat × Nat} (ho : mm.1[o]? = some kn) : o < 1000 := by
  have := (List.getElem?_eq_some_iff.mp ho).1
  have := h.2.1
  omega
theorem vr_rfo (ad : Nat → Nat) (r : Option Nat) : vr ad (rfo r) = va_rf (r.map ad) := by cases r <;> rfl
/-- a cell of the memory gets new contents -/
theorem Holds.put {base : Nat} {ext : Nat → Nat} {D : va_G} {cA : Nat → ClassId} {k : Nat} {mm : Mem} {H H1 : Heap} (h : Holds base ext D cA k mm H) {o : Nat} {kn : Nat × Nat} (ho : mm.1[o]? = some kn) (M' : Nat → Nat → Value) (hM : ∀ o', o' ≠ o → M' o' = mm.2 o')
    (hP : va_P D vwCl ((wld cA (adr base ext) mm).set o (adr base ext o, cel cA (adr base ext) kn.1 kn.2 (M' o))) H1) : Holds base ext D cA k (mm.1, M') H1 := by
  refine ⟨h.1, h.2.1, h.2.2.1, ?_⟩
  rw [wld_set ho M' hM] at hP
  exact hP
theorem up_ne {M : Nat → Nat → Value} {o b : Nat} {v : Value} : ∀ o', o' ≠ o → up M o b v o' = M o' := by
  intro o' ho
  funext b'
  unfold up
  rw [if_neg (fun q => ho q.1)]
theorem up_iv {M : Nat → Nat → Value} {o b : Nat} {x : Int32} : (fun j => iv (up M o b (.int x) o j)) = upd (fun j => iv (M o j)) b x := by
  funext j
  unfold up upd
  by_cases hj : j = b
  · rw [if_pos ⟨rfl, hj⟩, if_pos hj]; rfl
  · rw [if_neg (fun q => hj q.2), if_neg hj]
theorem up_jv {M : Nat → Nat → Value} {o b : Nat} {x : Int64} : (fun j => jv (up M o b (.long x) o j)) = vp_updL (fun j => jv (M o j)) b x := by
  funext j
  unfold up vp_updL
  by_cases hj : j = b
  · rw [if_pos ⟨rfl, hj⟩, if_pos hj]; rfl
  · rw [if_neg (fun q => hj q.2), if_neg hj]
theorem up_rv {M : Nat → Nat → Value} {o b x : Nat} {ad : Nat → Nat} : (fun j => (rv (up M o b (.ref x) o j)).map ad) = va_up (fun j => (rv (M o j)).map ad) b (some (ad x)) := by
  funext j
  unfold up va_up
  by_cases hj : j = b
  · rw [if_pos ⟨rfl, hj⟩, if_pos hj]; rfl
  · rw [if_neg (fun q => hj q.2), if_neg hj]
theorem lt_of_cell {base : Nat} {ext : Nat → Nat} {D : va_G} {cA : Nat → ClassId} {k : Nat} {mm : Mem} {H : Heap} (h : Holds base ext D cA k mm H) (hb : base ≤ H.size) : base + mm.1.length ≤ H.size := by
  by_cases h0 : mm.1.length = 0
  · omega
  · have hl : mm.1.length - 1 < mm.1.length := by omega
    have h1 := h.2.2.2 _ _ (wld_get (cA := cA) (ad := adr base ext) (List.getElem?_eq_getElem hl))
    have h2 := va_at.lt h1
    have h2 : adr base ext (mm.1.length - 1) < H.size := h2
    unfold adr at h2
    rw [if_pos (by have := h.2.1; omega)] at h2
    omega

theorem st_iaload (X : Cx p R s m args meth c base ext D cA sc y cc nL len0) {E : Cal} {Q : Option Value → Mem → Prop} {aM : AM} {al : Nat × Nat} {n a b c0 : Nat} {w : Int32} {z : Int64} {pc : Nat} {L : Lo} {st : List Value} {mm : Mem} {kc ks : Nat} (hd : decode cc pc = .ok (.iaload, n)) (hn : n = 1) (h : ex1 E (Sim p l e R s m args below meth c Z base ext D cA nL len0) Q (out1 sc aM al (.iaload) n a b c0 w z pc L st mm kc ks)) : Sim p l e R s m args below meth c Z base ext D cA nL len0 (pc, L, st, mm, kc, ks) := by
  obtain ⟨hx, hb, hml, hown, hts, hO, hbase, hscr, hfr, hlo, hin⟩ := X
  subst hn
  obtain ⟨x0, r0, rfl, hh⟩ := xI_inv h
  clear h
  have h := hh
  clear hh
  obtain ⟨x1, r1, rfl, hh⟩ := xR_inv h
  clear h
  have h := hh
  clear hh
  intro H locs ls hH hS hL h1 h2
  rcases bR_inv h with ⟨g, h⟩ | ⟨g, h⟩
  · obtain ⟨len, ho, h⟩ := cellN_inv h
    have ha : (wld cA (adr base ext) mm)[x1]? = some (adr base ext x1, .inl (cA 20, len, .inl (fun j => iv (mm.2 x1 j)))) := wld_get ho
    exact va_iald hx hb hO.1 hH.2.2.2 x1 0 ha rfl h.1 hd (h.2 H locs ls hH hS hL h1 h2)
  · rcases bR_inv h with ⟨g, h⟩ | ⟨g, h⟩
    · have ee := Nat.eq_of_beq_eq_true g
      subst ee
      exact va_ti hx hb hO.2.2.2.2.1 hS h.1 rfl hd (h.2 H locs ls hH hS hL h1 h2)
    · obtain ⟨g, h⟩ := bR_only h
      have ee := Nat.eq_of_beq_eq_true g
      subst ee
      cases hsc : sc with
      | none => rw [hsc] at h; exact False.elim h
      | some q =>
        rw [hsc] at h
        obtain ⟨k1, k2, k3⟩ := hscr q hsc
        exact va_sld hx hb k1 k2 k3 hS h.1 hd (h.2 H locs ls hH hS hL h1 h2)
theorem st_baload (X : Cx p R s m args meth c base ext D cA sc y cc nL len0) {E : Cal} {Q : Option Value → Mem → Prop} {aM : AM} {al : Nat × Nat} {n a b c0 : Nat} {w : Int32} {z : Int64} {pc : Nat} {L : Lo} {st : List Value} {mm : Mem} {kc ks : Nat} (hd : decode cc pc = .ok (.baload, n)) (hn : n = 1) (h : ex1 E (Sim p l e R s m args below meth c Z base ext D cA nL len0) Q (out1 sc aM al (.baload) n a b c0 w z pc L st mm kc ks)) : Sim p l e R s m args below meth c Z base ext D cA nL len0 (pc, L, st, mm, kc, ks) := by
  obtain ⟨hx, hb, hml, hown, hts, hO, hbase, hscr, hfr, hlo, hin⟩ := X
  subst hn
  obtain ⟨x0, r0, rfl, hh⟩ := xI_inv h
  clear h
  have h := hh
  clear hh
  obtain ⟨x1, r1, rfl, hh⟩ := xR_inv h
  clear h
  have h := hh
  clear hh
  intro H locs ls hH hS hL h1 h2
  rcases bR_inv h with ⟨g, h⟩ | ⟨g, h⟩
  · cases ho : mm.1[x1]? with
    | none => rw [ho] at h; exact False.elim h
    | some q =>
      rw [ho] at h
      obtain ⟨g2, h⟩ := bR_only h
      obtain ⟨q1, q2⟩ := q
      have g2 : (Nat.beq q1 22 || Nat.beq q1 23) = true := g2
      rcases Bool.or_eq_true_iff.mp g2 with g2 | g2
      · have ee := Nat.eq_of_beq_eq_true g2
        subst ee
        have ha : (wld cA (adr base ext) mm)[x1]? = some (adr base ext x1, .inl (cA 22, q2, .inl (fun j => iv (mm.2 x1 j)))) := wld_get ho
        exact va_bald hx hb hO.1 hH.2.2.2 x1 2 ha rfl h.1 hd (h.2 H locs ls hH hS hL h1 h2)
      · have ee := Nat.eq_of_beq_eq_true g2
        subst ee
        have ha : (wld cA (adr base ext) mm)[x1]? = some (adr base ext x1, .inl (cA 23, q2, .inl (fun j => iv (mm.2 x1 j)))) := wld_get ho
        exact va_zald hx hb hO.1 hH.2.2.2 x1 3 ha rfl h.1 hd (h.2 H locs ls hH hS hL h1 h2)
  · obtain ⟨g2, h⟩ := bR_only h
    obtain ⟨b1, b2⟩ := Bool.and_eq_true_iff.mp g2
    have b1 := Nat.le_of_ble_eq_true b1
    have b2 : x1 < 1109 := Nat.le_of_ble_eq_true b2
    have hi : x1 - 1100 < 9 := Nat.sub_lt_left_of_lt_add b1 b2
    have hT := (hO.2.2.2.2.2.1.1 (x1 - 1100) hi).2.2.2
    have ee : 1100 + (x1 - 1100) = x1 := Nat.add_sub_of_le b1
    have hT : va_T .byte (ext (1100 + (x1 - 1100))) (txN.getD (x1 - 1100) 0) (fun j => .int ((txB.getD (x1 - 1100) []).getD j 0)) (At0 base) s s.heap := hT
    rw [ee] at hT
    show W _ _ _ _ _ _ _ _ _ _ _ _ _ _ _ (F0 m pc ls (.int x0 :: .ref (adr base ext x1) :: _))
    rw [ad_lt (by omega)]
    exact va_tb hx hb hT hS h.1 rfl hd (h.2 H locs ls hH hS hL h1 h2)
theorem st_laload (X : Cx p R s m args meth c base ext D cA sc y cc nL len0) {E : Cal} {Q : Option Value → Mem → Prop} {aM : AM} {al : Nat × Nat} {n a b c0 : Nat} {w : Int32} {z : Int64} {pc : Nat} {L : Lo} {st : List Value} {mm : Mem} {kc ks : Nat} (hd : decode cc pc = .ok (.laload, n)) (hn : n = 1) (h : ex1 E (Sim p l e R s m args below meth c Z base ext D cA nL len0) Q (out1 sc aM al (.laload) n a b c0 w z pc L st mm kc ks)) : Sim p l e R s m args below meth c Z base ext D cA nL len0 (pc, L, st, mm, kc, ks) := by
  obtain ⟨hx, hb, hml, hown, hts, hO, hbase, hscr, hfr, hlo, hin⟩ := X
  subst hn
  obtain ⟨x0, r0, rfl, hh⟩ := xI_inv h
  clear h
  have h := hh
  clear hh
  obtain ⟨x1, r1, rfl, hh⟩ := xR_inv h
  clear h
  have h := hh
  clear hh
  obtain ⟨len, ho, h⟩ := cellN_inv h
  intro H locs ls hH hS hL h1 h2
  have ha : (wld cA (adr base ext) mm)[x1]? = some (adr base ext x1, .inl (cA 21, len, .inr (.inl (fun j => jv (mm.2 x1 j))))) := wld_get ho
  exact va_lald hx hb hO.1 hH.2.2.2 x1 1 ha rfl h.1 hd (h.2 H locs ls hH hS hL h1 h2)
theorem st_aaload (X : Cx p R s m args meth c base ext D cA sc y cc nL len0) {E : Cal} {Q : Option Value → Mem → Prop} {aM : AM} {al : Nat × Nat} {n a b c0 : Nat} {w : Int32} {z : Int64} {pc : Nat} {L : Lo} {st : List Value} {mm : Mem} {kc ks : Nat} (hd : decode cc pc = .ok (.aaload, n)) (hn : n = 1) (h : ex1 E (Sim p l e R s m args below meth c Z base ext D cA nL len0) Q (out1 sc aM al (.aaload) n a b c0 w z pc L st mm kc ks)) : Sim p l e R s m args below meth c Z base ext D cA nL len0 (pc, L, st, mm, kc, ks) := by
  obtain ⟨hx, hb, hml, hown, hts, hO, hbase, hscr, hfr, hlo, hin⟩ := X
  subst hn
  obtain ⟨x0, r0, rfl, hh⟩ := xI_inv h
  clear h
  have h := hh
  clear hh
  obtain ⟨x1, r1, rfl, hh⟩ := xR_inv h
  clear h
  have h := hh
  clear hh
  obtain ⟨len, ho, h⟩ := cellN_inv h
  intro H locs ls hH hS hL h1 h2
  have ha : (wld cA (adr base ext) mm)[x1]? = some (adr base ext x1, .inl (cA 24, len, .inr (.inr (.inr (.inr (fun j => (rv (mm.2 x1 j)).map (adr base ext))))))) := wld_get ho
  have k := h.2 H locs ls hH hS hL h1 h2
  have k : W p l e R s m args below meth c H locs kc ks Z (F0 m (pc + 1) ls (vr (adr base ext) (rfo (rv (mm.2 x1 x0.toNatClampNeg))) :: r1.map (vr (adr base ext)))) := k
  rw [vr_rfo] at k
  exact va_aldq hx hb hO.1 hH.2.2.2 x1 4 ha rfl h.1 hd k
theorem st_iastore (X : Cx p R s m args meth c base ext D cA sc y cc nL len0) {E : Cal} {Q : Option Value → Mem → Prop} {aM : AM} {al : Nat × Nat} {n a b c0 : Nat} {w : Int32} {z : Int64} {pc : Nat} {L : Lo} {st : List Value} {mm : Mem} {kc ks : Nat} (hd : decode cc pc = .ok (.iastore, n)) (hn : n = 1) (h : ex1 E (Sim p l e R s m args below meth c Z base ext D cA nL len0) Q (out1 sc aM al (.iastore) n a b c0 w z pc L st mm kc ks)) : Sim p l e R s m args below meth c Z base ext D cA nL len0 (pc, L, st, mm, kc, ks) := by
  obtain ⟨hx, hb, hml, hown, hts, hO, hbase, hscr, hfr, hlo, hin⟩ := X
  subst hn
  obtain ⟨x0, r0, rfl, hh⟩ := xI_inv h
  clear h
  have h := hh
  clear hh
  obtain ⟨x1, r1, rfl, hh⟩ := xI_inv h
  clear h
  have h := hh
  clear hh
  obtain ⟨x2, r2, rfl, hh⟩ := xR_inv h
  clear h
  have h := hh
  clear hh
  obtain ⟨len, ho, h⟩ := cellN_inv h
  intro H locs ls hH hS hL h1 h2
  have ha : (wld cA (adr base ext) mm)[x2]? = some (adr base ext x2, .inl (cA 20, len, .inl (fun j => iv (mm.2 x2 j)))) := wld_get ho
  refine va_iast hx hb hO.1 hH.2.2.2 (wld_D hH.2.1) hS x2 0 ha rfl h.1 hd (fun H1 locs1 hP1 _ hS1 => h.2 H1 locs1 ls (hH.put ho _ up_ne ?_) hS1 hL h1 h2)
  rw [← up_iv] at hP1
  exact hP1
theorem st_lastore (X : Cx p R s m args meth c base ext D cA sc y cc nL len0) {E : Cal} {Q : Option Value → Mem → Prop} {aM : AM} {al : Nat × Nat} {n a b c0 : Nat} {w : Int32} {z : Int64} {pc : Nat} {L : Lo} {st : List Value} {mm : Mem} {kc ks : Nat} (hd : decode cc pc = .ok (.lastore, n)) (hn : n = 1) (h : ex1 E (Sim p l e R s m args below meth c Z base ext D cA nL len0) Q (out1 sc aM al (.lastore) n a b c0 w z pc L st mm kc ks)) : Sim p l e R s m args below meth c Z base ext D cA nL len0 (pc, L, st, mm, kc, ks) := by
  obtain ⟨hx, hb, hml, hown, hts, hO, hbase, hscr, hfr, hlo, hin⟩ := X
  subst hn
  obtain ⟨x0, r0, rfl, hh⟩ := xJ_inv h
  clear h
  have h := hh
  clear hh
  obtain ⟨x1, r1, rfl, hh⟩ := xI_inv h
  clear h
  have h := hh
  clear hh
  obtain ⟨x2, r2, rfl, hh⟩ := xR_inv h
  clear h
  have h := hh
  clear hh
  obtain ⟨len, ho, h⟩ := cellN_inv h
  intro H locs ls hH hS hL h1 h2
  have ha : (wld cA (adr base ext) mm)[x2]? = some (adr base ext x2, .inl (cA 21, len, .inr (.inl (fun j => jv (mm.2 x2 j))))) := wld_get ho
  refine va_last hx hb hO.1 hH.2.2.2 (wld_D hH.2.1) hS x2 1 ha rfl h.1 hd (fun H1 locs1 hP1 _ hS1 => h.2 H1 locs1 ls (hH.put ho _ up_ne ?_) hS1 hL h1 h2)
  rw [← up_jv] at hP1
  exact hP1
theorem st_bastore (X : Cx p R s m args meth c base ext D cA sc y cc nL len0) {E : Cal} {Q : Option Value → Mem → Prop} {aM : AM} {al : Nat × Nat} {n a b c0 : Nat} {w : Int32} {z : Int64} {pc : Nat} {L : Lo} {st : List Value} {mm : Mem} {kc ks : Nat} (hd : decode cc pc = .ok (.bastore, n)) (hn : n = 1) (h : ex1 E (Sim p l e R s m args below meth c Z base ext D cA nL len0) Q (out1 sc aM al (.bastore) n a b c0 w z pc L st mm kc ks)) : Sim p l e R s m args below meth c Z base ext D cA nL len0 (pc, L, st, mm, kc, ks) := by
  obtain ⟨hx, hb, hml, hown, hts, hO, hbase, hscr, hfr, hlo, hin⟩ := X
  subst hn
  obtain ⟨x0, r0, rfl, hh⟩ := xI_inv h
  clear h
  have h := hh
  clear hh
  obtain ⟨x1, r1, rfl, hh⟩ := xI_inv h
  clear h
  have h := hh
  clear hh
  obtain ⟨x2, r2, rfl, hh⟩ := xR_inv h
  clear h
  have h := hh
  clear hh
  intro H locs ls hH hS hL h1 h2
  cases ho : mm.1[x2]? with
  | none => rw [ho] at h; exact False.elim h
  | some q =>
    rw [ho] at h
    obtain ⟨q1, q2⟩ := q
    by_cases ee : q1 = 22
    · subst ee
      have ha : (wld cA (adr base ext) mm)[x2]? = some (adr base ext x2, .inl (cA 22, q2, .inl (fun j => iv (mm.2 x2 j)))) := wld_get ho
      refine va_bast hx hb hO.1 hH.2.2.2 (wld_D hH.2.1) hS x2 2 ha rfl h.1 hd (fun H1 locs1 hP1 _ hS1 => h.2 H1 locs1 ls (hH.put ho _ up_ne ?_) hS1 hL h1 h2)
      rw [← up_iv] at hP1
      exact hP1
    · by_cases ee2 : q1 = 23
      · subst ee2
        have ha : (wld cA (adr base ext) mm)[x2]? = some (adr base ext x2, .inl (cA 23, q2, .inl (fun j => iv (mm.2 x2 j)))) := wld_get ho
        refine va_zast hx hb hO.1 hH.2.2.2 (wld_D hH.2.1) hS x2 3 ha rfl h.1 hd (fun H1 locs1 hP1 _ hS1 => h.2 H1 locs1 ls (hH.put ho _ up_ne ?_) hS1 hL h1 h2)
        rw [← up_iv] at hP1
        exact hP1
      · exfalso
        have h : ex1 E (Sim p l e R s m args below meth c Z base ext D cA nL len0) Q (match (generalizing := false) q1 with
          | 22 => oChk (vp_in x1 q2) (pc + 1, L, r2, (mm.1, up mm.2 x2 x1.toNatClampNeg (.int (vp_nar .byte x0))), kc, ks)
          | 23 => oChk (vp_in x1 q2) (pc + 1, L, r2, (mm.1, up mm.2 x2 x1.toNatClampNeg (.int (vp_nar .boolean x0))), kc, ks)
          | _ => none) := h
        split at h
        · exact ee rfl
        · exact ee2 rfl
        · exact h
theorem st_aastore (X : Cx p R s m args meth c base ext D cA sc y cc nL len0) {E : Cal} {Q : Option Value → Mem → Prop} {aM : AM} {al : Nat × Nat} {n a b c0 : Nat} {w : Int32} {z : Int64} {pc : Nat} {L : Lo} {st : List Value} {mm : Mem} {kc ks : Nat} (hd : decode cc pc = .ok (.aastore, n)) (hn : n = 1) (h : ex1 E (Sim p l e R s m args below meth c Z base ext D cA nL len0) Q (out1 sc aM al (.aastore) n a b c0 w z pc L st mm kc ks)) : Sim p l e R s m args below meth c Z base ext D cA nL len0 (pc, L, st, mm, kc, ks) := by
  obtain ⟨hx, hb, hml, hown, hts, hO, hbase, hscr, hfr, hlo, hin⟩ := X
  subst hn
  obtain ⟨x0, r0, rfl, hh⟩ := xR_inv h
  clear h
  have h := hh
  clear hh
  obtain ⟨x1, r1, rfl, hh⟩ := xI_inv h
  clear h
  have h := hh
  clear hh
  obtain ⟨x2, r2, rfl, hh⟩ := xR_inv h
  clear h
  have h := hh
  clear hh
  obtain ⟨len, ho, h⟩ := cellN_inv h
  obtain ⟨len2, ho2, h⟩ := cellN_inv h
  intro H locs ls hH hS hL h1 h2
  have ha : (wld cA (adr base ext) mm)[x2]? = some (adr base ext x2, .inl (cA 24, len, .inr (.inr (.inr (.inr (fun j => (rv (mm.2 x2 j)).map (adr base ext))))))) := wld_get ho
  have hv : (wld cA (adr base ext) mm)[x0]? = some (adr base ext x0, .inr (8, (List.range len2).map (fun j => vr (adr base ext) (fv (kdF 8 j) (mm.2 x0 j))))) := wld_get ho2
  refine va_astq hx hb hO.1 hH.2.2.2 (wld_D hH.2.1) hS x2 4 x0 8 ha rfl hv rfl h.1 hd (fun H1 locs1 hP1 _ hS1 => h.2 H1 locs1 ls (hH.put ho _ up_ne ?_) hS1 hL h1 h2)
  rw [← up_rv] at hP1
  exact hP1
theorem st_arraylength (X : Cx p R s m args meth c base ext D cA sc y cc nL len0) {E : Cal} {Q : Option Value → Mem → Prop} {aM : AM} {al : Nat × Nat} {n a b c0 : Nat} {w : Int32} {z : Int64} {pc : Nat} {L : Lo} {st : List Value} {mm : Mem} {kc ks : Nat} (hd : decode cc pc = .ok (.arraylength, n)) (hn : n = 1) (h : ex1 E (Sim p l e R s m args below meth c Z base ext D cA nL len0) Q (out1 sc aM al (.arraylength) n a b c0 w z pc L st mm kc ks)) : Sim p l e R s m args below meth c Z base ext D cA nL len0 (pc, L, st, mm, kc, ks) := by
  obtain ⟨hx, hb, hml, hown, hts, hO, hbase, hscr, hfr, hlo, hin⟩ := X
  subst hn
  obtain ⟨x0, r0, rfl, hh⟩ := xR_inv h
  clear h
  have h := hh
  clear hh
  intro H locs ls hH hS hL h1 h2
  rcases bR_inv h with ⟨g, h⟩ | ⟨g, h⟩
  · cases ho : mm.1[x0]? with
    | none => rw [ho] at h; exact False.elim h
    | some q =>
      rw [ho] at h
      obtain ⟨g2, h⟩ := bR_only h
      obtain ⟨q1, q2⟩ := q
      have g2 : 20 ≤ q1 := Nat.le_of_ble_eq_true g2
      have hq : q1 < 25 := by
        rcases hH.2.2.1 _ _ ho with k | k
        · have k : q1 < 12 := k.1
          omega
        · exact k.2
      have k := h H locs ls hH hS hL h1 h2
      have hw := wld_get (cA := cA) (ad := adr base ext) ho
      rcases (show q1 = 20 ∨ q1 = 21 ∨ q1 = 22 ∨ q1 = 23 ∨ q1 = 24 by omega) with rfl | rfl | rfl | rfl | rfl
      · exact va_alen hx hb hO.1 hH.2.2.2 x0 0 (x := (q2, .inl (fun j => iv (mm.2 x0 j)))) hw rfl rfl hd k
      · exact va_alen hx hb hO.1 hH.2.2.2 x0 1 (x := (q2, .inr (.inl (fun j => jv (mm.2 x0 j))))) hw rfl rfl hd k
      · exact va_alen hx hb hO.1 hH.2.2.2 x0 2 (x := (q2, .inl (fun j => iv (mm.2 x0 j)))) hw rfl rfl hd k
      · exact va_alen hx hb hO.1 hH.2.2.2 x0 3 (x := (q2, .inl (fun j => iv (mm.2 x0 j)))) hw rfl rfl hd k
      · exact va_alen hx hb hO.1 hH.2.2.2 x0 4 (x := (q2, .inr (.inr (.inr (.inr (fun j => (rv (mm.2 x0 j)).map (adr base ext))))))) hw rfl rfl hd k
  · rcases bR_inv h with ⟨g3, h⟩ | ⟨g3, h⟩
    · have ee := Nat.eq_of_beq_eq_true g3
      subst ee
      exact va_tlen hx hb hO.2.2.2.2.1 hS rfl hd (h H locs ls hH hS hL h1 h2)
    · rcases bR_inv h with ⟨g4, h⟩ | ⟨g4, h⟩
      · have ee := Nat.eq_of_beq_eq_true g4
        subst ee
        cases hsc : sc with
        | none => rw [hsc] at h; exact False.elim h
        | some q =>
          rw [hsc] at h
          obtain ⟨k1, k2, k3⟩ := hscr q hsc
          exact va_slen hx hb k1 k2 k3 hS hd (h H locs ls hH hS hL h1 h2)
      · obtain ⟨g5, h⟩ := bR_only h
        obtain ⟨b1, b2⟩ := Bool.and_eq_true_iff.mp g5
        have b1 := Nat.le_of_ble_eq_true b1
        have b2 : x0 < 1109 := Nat.le_of_ble_eq_true b2
        have hi : x0 - 1100 < 9 := Nat.sub_lt_left_of_lt_add b1 b2
        have hT := (hO.2.2.2.2.2.1.1 (x0 - 1100) hi).2.2.2
        have ee : 1100 + (x0 - 1100) = x0 := Nat.add_sub_of_le b1
        have hT : va_T .byte (ext (1100 + (x0 - 1100))) (txN.getD (x0 - 1100) 0) (fun j => .int ((txB.getD (x0 - 1100) []).getD j 0)) (At0 base) s s.heap := hT
        rw [ee] at hT
        show W _ _ _ _ _ _ _ _ _ _ _ _ _ _ _ (F0 m pc ls (.ref (adr base ext x0) :: _))
        rw [ad_lt (by omega)]
        exact va_tlen hx hb hT hS rfl hd (h H locs ls hH hS hL h1 h2)
theorem nb_0 : narrow .boolean (.int 0) = .int 0 ∧ fits .boolean (.int 0) = true := by decide
theorem nb_1 : narrow .boolean (.int 1) = .int 1 ∧ fits .boolean (.int 1) = true := by decide
/-- a field's cell gets a new value -/
theorem fs_set {ad : Nat → Nat} {M : Nat → Nat → Value} {o a b N : Nat} {v : Value} (hv : fv (kdF a b) v = v) : ((List.range N).map (fun j => vr ad (fv (kdF a j) (M o j)))).set b (vr ad v) = (List.range N).map (fun j => vr ad (fv (kdF a j) (up M o b v o j))) := by
  apply List.ext_getElem?
  intro k
  by_cases hk : k = b
  · subst hk
    by_cases hl : k < N
    · rw [List.getElem?_set_self (by simpa using hl)]
      simp only [List.getElem?_map, List.getElem?_range hl, Option.map_some]
      unfold up
      rw [if_pos ⟨rfl, rfl⟩, hv]
    · rw [List.getElem?_eq_none (by simpa using Nat.le_of_not_lt hl), List.getElem?_eq_none (by simpa using Nat.le_of_not_lt hl)]
  · rw [List.getElem?_set_ne (Ne.symm hk)]
    simp only [List.getElem?_map]
    unfold up
    cases hr : (List.range N)[k]? with
    | none => rfl
    | some j =>
      have hj : j = k := by
        have := List.getElem?_eq_some_iff.mp hr
        obtain ⟨h1, h2⟩ := this
        simpa using h2.symm
      subst hj
      show some (vr ad (fv (kdF a j) (M o j))) = some (vr ad (fv (kdF a j) (if o = o ∧ j = b then v else M o j)))
      rw [if_neg (fun q => hk q.2)]
theorem ar_e2 {x : Nat} (h : 1000 ≤ x) : 1100 + (x - 1000) = x + 100 := by omega
theorem fs_get {ad : Nat → Nat} {f : Nat → Value} {a b N : Nat} (hb : b < N) : ((List.range N).map (fun j => vr ad (fv (kdF a j) (f j))))[b]? = some (vr ad (fv (kdF a b) (f b))) := by
  simp only [List.getElem?_map, List.getElem?_range hb, Option.map_some]
theorem cel_obj {cA : Nat → ClassId} {ad : Nat → Nat} {a n : Nat} {f : Nat → Value} (h : a < 12) : cel cA ad a n f = .inr (a, (List.range n).map (fun j => vr ad (fv (kdF a j) (f j)))) := by
  unfold cel
  rw [if_pos (by omega)]
theorem st_getfield (X : Cx p R s m args meth c base ext D cA sc y cc nL len0) {E : Cal} {Q : Option Value → Mem → Prop} {aM : AM} {al : Nat × Nat} {n a b c0 : Nat} {w : Int32} {z : Int64} {pc : Nat} {L : Lo} {st : List Value} {mm : Mem} {kc ks : Nat} {i jj : Nat} (hd : decode cc pc = .ok (.getfield i, n)) (hn : n = 3) (hc : c0 < 8) (hf : fldOk y.cls i a b c0 jj false y.name = true) (h : ex1 E (Sim p l e R s m args below meth c Z base ext D cA nL len0) Q (out1 sc aM al (.getfield i) n a b c0 w z pc L st mm kc ks)) : Sim p l e R s m args below meth c Z base ext D cA nL len0 (pc, L, st, mm, kc, ks) := by
  obtain ⟨hx, hb, hml, hown, hts, hO, hbase, hscr, hfr, hlo, hin⟩ := X
  subst hn
  obtain ⟨x0, r0, rfl, hh⟩ := xR_inv h
  clear h
  have h := hh
  clear hh
  have h : ex1 E (Sim p l e R s m args below meth c Z base ext D cA nL len0) Q (cellN mm.1 x0 a fun _ => oGo (pc + 3, L, fv c0 (mm.2 x0 b) :: r0, mm, kc, ks)) := by
    have hcc : c0 = 0 ∨ c0 = 1 ∨ c0 = 2 ∨ c0 = 3 ∨ c0 = 4 ∨ c0 = 5 ∨ c0 = 6 ∨ c0 = 7 := by omega
    rcases hcc with rfl | rfl | rfl | rfl | rfl | rfl | rfl | rfl <;> exact h
  obtain ⟨len, ho, h⟩ := cellN_inv h
  simp only [fldOk, Bool.and_eq_true, decide_eq_true_eq] at hf
  obtain ⟨⟨⟨⟨⟨fa, fb⟩, fc⟩, fk⟩, fw⟩, -⟩ := hf
  obtain ⟨q1, q2, ty0, q3, q4, q5, q6, q7, q8⟩ := cl_ok a fa
  intro H locs ls hH hS hL h1 h2
  have hlen : len = (clA a).2.2 := by
    rcases hH.2.2.1 _ _ ho with k | k
    · exact k.2
    · exact absurd k.1 (by show ¬ 20 ≤ a; omega)
  have ha := wld_get (cA := cA) (ad := adr base ext) ho
  rw [cel_obj fa] at ha
  have hk : kdF a b = c0 := fk
  refine va_get hx hb hts q2 hown hO.1 hH.2.2.2 x0 ha q1 b fb (hts _ (wd_in fw)) (fun _ h => h) (fs_get (by rw [hlen]; exact fb)) hd ?_
  rw [hk]
  exact h H locs ls hH hS hL h1 h2
theorem st_getfieldS (X : Cx p R s m args meth c base ext D cA sc y cc nL len0) {E : Cal} {Q : Option Value → Mem → Prop} {aM : AM} {al : Nat × Nat} {n a b c0 : Nat} {w : Int32} {z : Int64} {pc : Nat} {L : Lo} {st : List Value} {mm : Mem} {kc ks : Nat} {i : Nat} (hd : decode cc pc = .ok (.getfield i, n)) (hn : n = 3) (hc : c0 = 8 ∨ c0 = 9) (hw : (c0 = 8 → Cond.fieldLink y.cls i "java/lang/String" "value" "[B" ∈ Tb) ∧ (c0 = 9 → Cond.fieldLink y.cls i "java/lang/String" "coder" "B" ∈ Tb)) (h : ex1 E (Sim p l e R s m args below meth c Z base ext D cA nL len0) Q (out1 sc aM al (.getfield i) n a b c0 w z pc L st mm kc ks)) : Sim p l e R s m args below meth c Z base ext D cA nL len0 (pc, L, st, mm, kc, ks) := by
  obtain ⟨hx, hb, hml, hown, hts, hO, hbase, hscr, hfr, hlo, hin⟩ := X
  subst hn
  obtain ⟨x0, r0, rfl, hh⟩ := xR_inv h
  clear h
  have h := hh
  clear hh
  intro H locs ls hH hS hL h1 h2
  rcases hc with rfl | rfl
  · obtain ⟨g, h⟩ := bR_only h
    obtain ⟨b1, b2⟩ := Bool.and_eq_true_iff.mp g
    have b1 := Nat.le_of_ble_eq_true b1
    have b2 : x0 < 1009 := Nat.le_of_ble_eq_true b2
    have hi : x0 - 1000 < 9 := Nat.sub_lt_left_of_lt_add b1 b2
    have hT := (hO.2.2.2.2.2.1.1 (x0 - 1000) hi).2.2.1
    have ee : 1000 + (x0 - 1000) = x0 := Nat.add_sub_of_le b1
    have e2 : 1100 + (x0 - 1000) = x0 + 100 := ar_e2 b1
    have hT : va_OF "java/lang/String" "value" "[B" (.ref (ext (1100 + (x0 - 1000)))) (ext (1000 + (x0 - 1000))) (At0 base) s s.heap := hT
    rw [ee, e2] at hT
    have k := h H locs ls hH hS hL h1 h2
    have k : W p l e R s m args below meth c H locs kc ks Z (F0 m (pc + 3) ls (.ref (adr base ext (x0 + 100)) :: r0.map (vr (adr base ext)))) := k
    rw [ad_lt (by omega)] at k
    show W _ _ _ _ _ _ _ _ _ _ _ _ _ _ _ (F0 m pc ls (.ref (adr base ext x0) :: _))
    rw [ad_lt (by omega)]
    exact vk_getf hx hb hT hS hown (hts _ (hw.1 rfl)) (fun _ h => h) hd k
  · obtain ⟨g, h⟩ := bR_only h
    obtain ⟨b1, b2⟩ := Bool.and_eq_true_iff.mp g
    have b1 := Nat.le_of_ble_eq_true b1
    have b2 : x0 < 1009 := Nat.le_of_ble_eq_true b2
    have hi : x0 - 1000 < 9 := Nat.sub_lt_left_of_lt_add b1 b2
    have hT := (hO.2.2.2.2.2.1.1 (x0 - 1000) hi).2.1
    have ee : 1000 + (x0 - 1000) = x0 := Nat.add_sub_of_le b1
    have hT : va_OF "java/lang/String" "coder" "B" (.int 0) (ext (1000 + (x0 - 1000))) (At0 base) s s.heap := hT
    rw [ee] at hT
    show W _ _ _ _ _ _ _ _ _ _ _ _ _ _ _ (F0 m pc ls (.ref (adr base ext x0) :: _))
    rw [ad_lt (by omega)]
    exact vk_getf hx hb hT hS hown (hts _ (hw.2 rfl)) (fun _ h => h) hd (h H locs ls hH hS hL h1 h2)
theorem put_core (X : Cx p R s m args meth c base ext D cA sc y cc nL len0) {i a b jj pc : Nat} {L : Lo} {r0 : List Value} {mm : Mem} {kc ks x0 len : Nat} {v : Value} (hd : decode cc pc = .ok (.putfield i, 3)) (c0 : Nat) (hf : fldOk y.cls i a b c0 jj true y.name = true) (ho : mm.1[x0]? = some (a, len)) (hv : fv c0 v = v)
    (hn : ∀ ty : FieldType, (c0 = 0 → ty = .int) ∧ (c0 = 1 → ty = .long) ∧ (c0 = 3 → ty = .boolean) ∧ (c0 = 2 → refTy ty = true) → narrow ty (vr (adr base ext) v) = vr (adr base ext) v ∧ fits ty (vr (adr base ext) v) = true)
    (h : Sim p l e R s m args below meth c Z base ext D cA nL len0 (pc + 3, L, r0, (mm.1, up mm.2 x0 b v), kc, ks)) : Sim p l e R s m args below meth c Z base ext D cA nL len0 (pc, L, v :: .ref x0 :: r0, mm, kc, ks) := by
  obtain ⟨hx, hb, hml, hown, hts, hO, hbase, hscr, hfr, hlo, hin⟩ := X
  simp only [fldOk, Bool.and_eq_true, decide_eq_true_eq] at hf
  obtain ⟨⟨⟨⟨⟨fa, fb⟩, fc⟩, fk⟩, fw⟩, ff⟩ := hf
  obtain ⟨q1, q2, ty0, q3, q4, q5, q6, q7, q8⟩ := cl_ok a fa
  intro H locs ls hH hS hL h1 h2
  have hlen : len = (clA a).2.2 := by
    rcases hH.2.2.1 _ _ ho with k | k
    · exact k.2
    · exact absurd k.1 (by show ¬ 20 ≤ a; omega)
  subst hlen
  have ha := wld_get (cA := cA) (ad := adr base ext) ho
  rw [cel_obj fa] at ha
  have hk : kdF a b = c0 := fk
  have hnn := hn (ty0 b) (by rw [← hk]; exact q6 b fb)
  have fin : ∀ (H1 : Heap) (locs1 : List Loc), va_P D vwCl ((wld cA (adr base ext) mm).set x0 (adr base ext x0, .inr (a, ((List.range (clA a).2.2).map (fun j => vr (adr base ext) (fv (kdF a j) (mm.2 x0 j)))).set b (vr (adr base ext) v)))) H1 → va_D (At0 base) ((wld cA (adr base ext) mm).set x0 (adr base ext x0, .inr (a, ((List.range (clA a).2.2).map (fun j => vr (adr base ext) (fv (kdF a j) (mm.2 x0 j)))).set b (vr (adr base ext) v)))) → va_S (At0 base) s.heap H1 locs1 → W p l e R s m args below meth c H1 locs1 kc ks Z (F0 m (pc + 3) ls (r0.map (vr (adr base ext)))) := by
    intro H1 locs1 hP1 _ hS1
    refine h H1 locs1 ls (hH.put ho _ up_ne ?_) hS1 hL h1 h2
    rw [fs_set (by rw [hk]; exact hv), ← cel_obj fa (cA := cA)] at hP1
    exact hP1
  have hll : b < ((List.range (clA a).2.2).map (fun j => vr (adr base ext) (fv (kdF a j) (mm.2 x0 j)))).length := by simpa using fb
  by_cases hfin : ((clA a).2.1 b).2.2.2 = true
  · have ff : y.name = "<init>" ∧ ((clA a).2.1 b).1 = y.cls := by
      rw [hfin] at ff
      simpa using ff
    exact va_putF hx hb hts q2 ty0 q3 q4 hown hO.1 hH.2.2.2 (wld_D hH.2.1) hS x0 ha q1 b fb (hts _ (wd_in fw)) (fun _ h => h) hfin (hin ff.1) ff.2 (q3 b fb) hnn.1 hnn.2 hll hd fin
  · exact va_put hx hb hts q2 ty0 q3 q4 hown hO.1 hH.2.2.2 (wld_D hH.2.1) hS x0 ha q1 b fb (hts _ (wd_in fw)) (fun _ h => h) (by simpa using hfin) (q3 b fb) hnn.1 hnn.2 hll hd fin
theorem st_putfield (X : Cx p R s m args meth c base ext D cA sc y cc nL len0) {E : Cal} {Q : Option Value → Mem → Prop} {aM : AM} {al : Nat × Nat} {n a b c0 : Nat} {w : Int32} {z : Int64} {pc : Nat} {L : Lo} {st : List Value} {mm : Mem} {kc ks : Nat} {i jj : Nat} (hd : decode cc pc = .ok (.putfield i, n)) (hn : n = 3) (hf : fldOk y.cls i a b c0 jj true y.name = true) (h : ex1 E (Sim p l e R s m args below meth c Z base ext D cA nL len0) Q (out1 sc aM al (.putfield i) n a b c0 w z pc L st mm kc ks)) : Sim p l e R s m args below meth c Z base ext D cA nL len0 (pc, L, st, mm, kc, ks) := by
  obtain ⟨hx, hb, hml, hown, hts, hO, hbase, hscr, hfr, hlo, hin⟩ := X
  subst hn
  have hc : c0 < 4 := by
    simp only [fldOk, Bool.and_eq_true, decide_eq_true_eq] at hf
    exact hf.1.1.1.2
  rcases (show c0 = 0 ∨ c0 = 1 ∨ c0 = 2 ∨ c0 = 3 by omega) with rfl | rfl | rfl | rfl
  · obtain ⟨x, r, hst, g1⟩ := xI_inv h
    obtain ⟨x0, r0, hr, g2⟩ := xR_inv g1
    obtain ⟨len, ho, g3⟩ := cellN_inv g2
    rw [hst, hr]
    exact put_core ⟨hx, hb, hml, hown, hts, hO, hbase, hscr, hfr, hlo, hin⟩ hd 0 hf ho rfl (fun ty q => by rw [q.1 rfl]; exact ⟨rfl, rfl⟩) g3
  · obtain ⟨x, r, hst, g1⟩ := xJ_inv h
    obtain ⟨x0, r0, hr, g2⟩ := xR_inv g1
    obtain ⟨len, ho, g3⟩ := cellN_inv g2
    rw [hst, hr]
    exact put_core ⟨hx, hb, hml, hown, hts, hO, hbase, hscr, hfr, hlo, hin⟩ hd 1 hf ho rfl (fun ty q => by rw [q.2.1 rfl]; exact ⟨rfl, rfl⟩) g3
  · have h : ex1 E (Sim p l e R s m args below meth c Z base ext D cA nL len0) Q (xV st fun x st => xR st fun o st => cellN mm.1 o a fun _ => oGo (pc + 3, L, st, (mm.1, up mm.2 o b x), kc, ks)) := h
    rcases xV_inv h with ⟨x, r, hst, g1⟩ | ⟨r, hst, g1⟩
    · obtain ⟨x0, r0, hr, g2⟩ := xR_inv g1
      obtain ⟨len, ho, g3⟩ := cellN_inv g2
      rw [hst, hr]
      exact put_core ⟨hx, hb, hml, hown, hts, hO, hbase, hscr, hfr, hlo, hin⟩ hd 2 hf ho rfl (fun ty q => refTy_ok (q.2.2.2 rfl) (Or.inl ⟨_, rfl⟩)) g3
    · obtain ⟨x0, r0, hr, g2⟩ := xR_inv g1
      obtain ⟨len, ho, g3⟩ := cellN_inv g2
      rw [hst, hr]
      exact put_core ⟨hx, hb, hml, hown, hts, hO, hbase, hscr, hfr, hlo, hin⟩ hd 2 hf ho rfl (fun ty q => refTy_ok (q.2.2.2 rfl) (Or.inr rfl)) g3
  · obtain ⟨x, r, hst, g1⟩ := xI_inv h
    obtain ⟨x0, r0, hr, g2⟩ := xR_inv g1
    obtain ⟨len, ho, g3⟩ := cellN_inv g2
    rw [hst, hr]
    exact put_core ⟨hx, hb, hml, hown, hts, hO, hbase, hscr, hfr, hlo, hin⟩ hd 3 hf ho rfl (fun ty q => by rw [q.2.2.1 rfl]; rcases g3.1 with k | k <;> (subst k; first | exact nb_0 | exact nb_1)) g3.2
theorem st_getstatic (X : Cx p R s m args meth c base ext D cA sc y cc nL len0) {E : Cal} {Q : Option Value → Mem → Prop} {aM : AM} {al : Nat × Nat} {n a b c0 : Nat} {w : Int32} {z : Int64} {pc : Nat} {L : Lo} {st : List Value} {mm : Mem} {kc ks : Nat} {i : Nat} (hd : decode cc pc = .ok (.getstatic i, n)) (hn : n = 3) (hw : (a = 0 → Cond.fieldLink y.cls i "java/lang/String" "COMPACT_STRINGS" "Z" ∈ Tb) ∧ (a ≠ 0 → Cond.fieldLink y.cls i "ThreeToSend$Best" "ACTIONS" "[I" ∈ Tb)) (h : ex1 E (Sim p l e R s m args below meth c Z base ext D cA nL len0) Q (out1 sc aM al (.getstatic i) n a b c0 w z pc L st mm kc ks)) : Sim p l e R s m args below meth c Z base ext D cA nL len0 (pc, L, st, mm, kc, ks) := by
  obtain ⟨hx, hb, hml, hown, hts, hO, hbase, hscr, hfr, hlo, hin⟩ := X
  subst hn
  intro H locs ls hH hS hL h1 h2
  cases a with
  | zero => exact va_gets hx hb hO.2.2.1 hS hown (hts _ (hw.1 rfl)) (fun _ h => h) hd (h H locs ls hH hS hL h1 h2)
  | succ a => exact va_gets hx hb hO.2.2.2.1 hS hown (hts _ (hw.2 (Nat.succ_ne_zero a))) (fun _ h => h) hd (h H locs ls hH hS hL h1 h2)
theorem st_ldc (X : Cx p R s m args meth c base ext D cA sc y cc nL len0) {E : Cal} {Q : Option Value → Mem → Prop} {aM : AM} {al : Nat × Nat} {n a b c0 : Nat} {w : Int32} {z : Int64} {pc : Nat} {L : Lo} {st : List Value} {mm : Mem} {kc ks : Nat} {i : Nat} (hd : decode cc pc = .ok (.ldc i, n)) (hn : n = 2) (hw : (a = 0 → Cond.constant y.cls i w ∈ Tb) ∧ (a ≠ 0 → 1000 ≤ b ∧ b < 1009 ∧ (nth txL (b - 1000) ("", 0, "")).1 = y.cls ∧ (nth txL (b - 1000) ("", 0, "")).2.1 = i)) (h : ex1 E (Sim p l e R s m args below meth c Z base ext D cA nL len0) Q (out1 sc aM al (.ldc i) n a b c0 w z pc L st mm kc ks)) : Sim p l e R s m args below meth c Z base ext D cA nL len0 (pc, L, st, mm, kc, ks) := by
  obtain ⟨hx, hb, hml, hown, hts, hO, hbase, hscr, hfr, hlo, hin⟩ := X
  subst hn
  intro H locs ls hH hS hL h1 h2
  cases a with
  | zero => exact lv_ldc hx hb hown (hts _ (hw.1 rfl)) hd (h H locs ls hH hS hL h1 h2)
  | succ a =>
    obtain ⟨b1, b2, b3, b4⟩ := hw.2 (Nat.succ_ne_zero a)
    have hR := hO.2.2.2.2.2.2 (b - 1000) (by omega)
    rw [b3, b4, show 1000 + (b - 1000) = b by omega] at hR
    have k := h H locs ls hH hS hL h1 h2
    have k : W p l e R s m args below meth c H locs kc ks Z (F0 m (pc + 2) ls (.ref (adr base ext b) :: st.map (vr (adr base ext)))) := k
    rw [ad_lt (by omega)] at k
    exact va_ldcS hx hb hown hR hd k
/-- the heap's end, exactly -/
theorem heap_end {T : State} {locs : List Loc} {k ks : Nat} {mm : Mem} {H : Heap} (X : Stand p l e R s m args below meth c T locs k ks) (hT : T.heap = H) (hsz : s.heap.size = base + len0) (hH : Holds base ext D cA (len0 + k) mm H) (hS : va_S (At0 base) s.heap H locs) : H.size = base + mm.1.length := by
  have h1 := X.heapSize
  rw [hT] at h1
  have h2 := lt_of_cell hH (Nat.le_trans (by omega) hS.1)
  have h3 := hH.1
  omega
theorem at_new (h : Nat) (hh : h = base + len0) (hl : len0 < 1000) : h = adr base ext len0 := by
  unfold adr
  rw [if_pos hl]
  exact hh
theorem va_S_push {H H1 : Heap} {locs : List Loc} {h : Nat} (hS : va_S (At0 base) s.heap H locs) (hh : H.size = h) (hz : H1.size = h + 1) (ho : ∀ q, q < h → H1[q]? = H[q]?) : va_S (At0 base) s.heap H1 locs := by
  have := hS.1
  exact ⟨by omega, fun q g1 g2 => (ho q (by omega)).trans (hS.2.1 q g1 g2), hS.2.2⟩
theorem Holds.new {k : Nat} {mm : Mem} {H H1 : Heap} (hH : Holds base ext D cA k mm H) (hz : H.size = base + mm.1.length) (hl : mm.1.length < 1000) (kn : Nat × Nat) (hkn : (kn.1 < 12 ∧ kn.2 = (clA kn.1).2.2) ∨ (20 ≤ kn.1 ∧ kn.1 < 25)) (ho : ∀ q, q < base + mm.1.length → H1[q]? = H[q]?)
    (hc : va_at D vwCl (adr base ext mm.1.length, cel cA (adr base ext) kn.1 kn.2 (fun _ => .null)) H1) : Holds base ext D cA (k + 1) (mm.1 ++ [kn], zr mm.2 mm.1.length) H1 := by
  refine ⟨by simp [hH.1], by simp; omega, hH.2.2.1.push hkn _, ?_⟩
  have hM : ∀ o, o < mm.1.length → zr mm.2 mm.1.length o = mm.2 o := by
    intro o h
    funext b
    unfold zr
    rw [if_neg (by omega)]
  have hz0 : zr mm.2 mm.1.length mm.1.length = fun _ => .null := by
    funext b
    unfold zr
    rw [if_pos rfl]
  rw [← wld_push kn (zr mm.2 mm.1.length) hM]
  refine (hH.2.2.2.kept fun k q hk => ho q.1 ?_).app fun k q hk => ?_
  · rw [← hz]; exact (hH.2.2.2 k q hk).lt
  · have h0 : k < 1 := (List.getElem?_eq_some_iff.mp hk).1
    rw [show k = 0 by omega] at hk
    cases hk
    rw [hz0]
    exact hc
theorem st_new (X : Cx p R s m args meth c base ext D cA sc y cc nL len0) {E : Cal} {Q : Option Value → Mem → Prop} {aM : AM} {al : Nat × Nat} {n a b c0 : Nat} {w : Int32} {z : Int64} {pc : Nat} {L : Lo} {st : List Value} {mm : Mem} {kc ks : Nat} {i : Nat} (hd : decode cc pc = .ok (.new i, n)) (hn : n = 3) (ha : a < 12) (hbN : b = (clA a).2.2) (hw : Cond.classLink y.cls i (clA a).1 ∈ Tb) (hal : al.1 ≤ R.cells ∧ al.2 ≤ R.slots) (h : ex1 E (Sim p l e R s m args below meth c Z base ext D cA nL len0) Q (out1 sc aM al (.new i) n a b c0 w z pc L st mm kc ks)) : Sim p l e R s m args below meth c Z base ext D cA nL len0 (pc, L, st, mm, kc, ks) := by
  obtain ⟨hx, hb, hml, hown, hts, hO, hbase, hscr, hfr, hlo, hin⟩ := X
  subst hn; subst hbN
  obtain ⟨⟨f1, f2, f3⟩, h⟩ := h
  obtain ⟨q1, q2, ty0, q3, q4, q5, q6, q7, q8⟩ := cl_ok a ha
  have hKn := hO.1.1 a _ q1
  intro H locs ls hH hS hL h1 h2 T hT X
  have hz : H.size = base + mm.1.length := heap_end X hT hbase hH hS
  refine (W.newcK (h := base + mm.1.length) hx hb hown (hts _ hw) (hts _ q7) (hts _ q8) rfl hd (Nat.le_trans f2 hal.1) (Nat.le_trans f3 hal.2) hKn.2.1 hz fun H1 kC hkC e1 z1 o1 => ?_ : W p l e R s m args below meth c H locs kc ks Z (F0 m pc ls (st.map (vr (adr base ext))))) T hT X
  have k := h H1 locs ls (Holds.new hH hz f1 (a, (clA a).2.2) (Or.inl ⟨ha, rfl⟩) o1 ?_) (va_S_push hS hz z1 o1) hL (Nat.le_trans f2 hal.1) (Nat.le_trans f3 hal.2)
  · have k : W p l e R s m args below meth c H1 locs (kc + 1) (ks + (clA a).2.2) Z (F0 m (pc + 3) ls (.ref (adr base ext mm.1.length) :: st.map (vr (adr base ext)))) := k
    rw [← at_new (base := base) (ext := ext) (base + mm.1.length) rfl f1] at k
    exact k
  · rw [cel_obj ha, ← at_new (base := base) (ext := ext) (base + mm.1.length) rfl f1]
    refine ⟨_, q1, (u_born ty0 hts q2 hKn hkC e1 q3).to fun j hj => ?_⟩
    rw [q5 j hj]
    show _ = ((List.range (clA a).2.2).map (fun j => vr (adr base ext) (fv (kdF a j) .null))).getD j .null
    rw [List.getD_eq_getElem?_getD, fs_get (f := fun _ => .null) hj]
    have hkd : kdF a j = 0 ∨ kdF a j = 1 ∨ kdF a j = 2 ∨ kdF a j = 3 := by
      unfold kdF kdD
      split
      · exact Or.inl rfl
      · split
        · exact Or.inr (Or.inl rfl)
        · split
          · exact Or.inr (Or.inr (Or.inr rfl))
          · exact Or.inr (Or.inr (Or.inl rfl))
    rcases hkd with e | e | e | e <;> rw [e] <;> rfl
theorem ra_eq {cA1 : ClassId} {t : Nat} {ty : FieldType} (hK : va_K D vwCl (TYS cA) s) (ht : (TYS cA)[t]? = some (cA (20 + t), ty)) (hnm : s.vm.findClass ("[" ++ ty.toString) = some cA1) : cA1 = cA (20 + t) := by
  have h := (hK.2 t _ ht).2
  unfold va_RA at h
  cases ty with
  | object C =>
    obtain ⟨kA, comp, -, -, -, h4⟩ := h
    exact Option.some.inj (hnm.symm.trans h4)
  | _ => exact Option.some.inj (hnm.symm.trans h)
theorem st_newarray (X : Cx p R s m args meth c base ext D cA sc y cc nL len0) {E : Cal} {Q : Option Value → Mem → Prop} {aM : AM} {al : Nat × Nat} {n a b c0 : Nat} {w : Int32} {z : Int64} {pc : Nat} {L : Lo} {st : List Value} {mm : Mem} {kc ks : Nat} {t : ArrayType} (hd : decode cc pc = .ok (.newarray t, n)) (hn : n = 2) (ha : (t = .int ∧ a = 20) ∨ (t = .long ∧ a = 21) ∨ (t = .byte ∧ a = 22) ∨ (t = .boolean ∧ a = 23)) (hal : al.1 ≤ R.cells ∧ al.2 ≤ R.slots) (h : ex1 E (Sim p l e R s m args below meth c Z base ext D cA nL len0) Q (out1 sc aM al (.newarray t) n a b c0 w z pc L st mm kc ks)) : Sim p l e R s m args below meth c Z base ext D cA nL len0 (pc, L, st, mm, kc, ks) := by
  obtain ⟨hx, hb, hml, hown, hts, hO, hbase, hscr, hfr, hlo, hin⟩ := X
  subst hn
  obtain ⟨x, r, rfl, hh⟩ := xI_inv h
  clear h
  have h := hh
  clear hh
  obtain ⟨⟨f1, ⟨f0, f00⟩, f2, f3⟩, h⟩ := h
  intro H locs ls hH hS hL h1 h2 T hT X
  have hz : H.size = base + mm.1.length := heap_end X hT hbase hH hS
  have core : ∀ (ti : Nat) (ty : FieldType), newarray.typeOf t = ty → a = 20 + ti → ti < 5 → (TYS cA)[ti]? = some (cA (20 + ti), ty) → Cond.arrayClass ty ∈ Tb → componentBytes ty ≤ 8 → (∀ N : Nat, ∃ x : vp_A, cel cA (adr base ext) (20 + ti) N (fun _ => .null) = .inl (cA (20 + ti), x) ∧ vp_cell (cA (20 + ti)) x = arrV (cA (20 + ti)) N (fun _ => defaultValue ty)) → ∃ tt, Steps p.tables e below (T.setTop (F0 m pc ls (.int x :: r.map (vr (adr base ext))))) tt ∧ Z tt := by
    intro ti ty e1 e2 e3 e4 e5 e6 e7
    subst e2
    subst e1
    refine (va_newaK (h := base + mm.1.length) (N := x.toNatClampNeg) hx hb (hts _ e5) rfl hd rfl f0 rfl (by
      have := Nat.mul_le_mul f00 e6
      omega) (Nat.le_trans f2 hal.1) (Nat.le_trans f3 hal.2) hz fun H1 cA1 g1 g2 g3 g4 g5 => ?_ : W p l e R s m args below meth c H locs kc ks Z (F0 m pc ls (.int x :: r.map (vr (adr base ext))))) T hT X
    have ec := ra_eq hO.1 e4 g5
    subst ec
    obtain ⟨x1, x2, x3⟩ := e7 x.toNatClampNeg
    have k := h H1 locs ls (Holds.new hH hz f1 (20 + ti, x.toNatClampNeg) (Or.inr ⟨by show 20 ≤ 20 + ti; omega, by show 20 + ti < 25; omega⟩) g3 ?_) (va_S_push hS hz g2 g3) hL (Nat.le_trans f2 hal.1) (Nat.le_trans f3 hal.2)
    · have k : W p l e R s m args below meth c H1 locs (kc + 1) (ks + x.toNatClampNeg) Z (F0 m (pc + 2) ls (.ref (adr base ext mm.1.length) :: r.map (vr (adr base ext)))) := k
      rw [← at_new (base := base) (ext := ext) (base + mm.1.length) rfl f1] at k
      exact k
    · rw [← at_new (base := base) (ext := ext) (base + mm.1.length) rfl f1]
      show va_at D vwCl (base + mm.1.length, cel cA (adr base ext) (20 + ti) x.toNatClampNeg (fun _ => .null)) H1
      rw [x2]
      show H1[base + mm.1.length]? = some (vp_cell (cA (20 + ti)) x1)
      rw [x3]
      exact g1
  rcases ha with ⟨rfl, rfl⟩ | ⟨rfl, rfl⟩ | ⟨rfl, rfl⟩ | ⟨rfl, rfl⟩
  · exact core 0 .int rfl rfl (by omega) rfl (wd_in (j := 188) (by decide +kernel)) (by decide) (fun N => ⟨_, cel_20, rfl⟩)
  · exact core 1 .long rfl rfl (by omega) rfl (wd_in (j := 357) (by decide +kernel)) (by decide) (fun N => ⟨_, cel_21, rfl⟩)
  · exact core 2 .byte rfl rfl (by omega) rfl (wd_in (j := 307) (by decide +kernel)) (by decide) (fun N => ⟨_, cel_22, rfl⟩)
  · exact core 3 .boolean rfl rfl (by omega) rfl (wd_in (j := 1386) (by decide +kernel)) (by decide) (fun N => ⟨_, cel_23, rfl⟩)
theorem st_anewarray (X : Cx p R s m args meth c base ext D cA sc y cc nL len0) {E : Cal} {Q : Option Value → Mem → Prop} {aM : AM} {al : Nat × Nat} {n a b c0 : Nat} {w : Int32} {z : Int64} {pc : Nat} {L : Lo} {st : List Value} {mm : Mem} {kc ks : Nat} {i : Nat} (hd : decode cc pc = .ok (.anewarray i, n)) (hn : n = 3) (hw : Cond.classLink y.cls i RX9 ∈ Tb) (hal : al.1 ≤ R.cells ∧ al.2 ≤ R.slots) (h : ex1 E (Sim p l e R s m args below meth c Z base ext D cA nL len0) Q (out1 sc aM al (.anewarray i) n a b c0 w z pc L st mm kc ks)) : Sim p l e R s m args below meth c Z base ext D cA nL len0 (pc, L, st, mm, kc, ks) := by
  obtain ⟨hx, hb, hml, hown, hts, hO, hbase, hscr, hfr, hlo, hin⟩ := X
  subst hn
  obtain ⟨x, r, rfl, hh⟩ := xI_inv h
  clear h
  have h := hh
  clear hh
  obtain ⟨⟨f1, ⟨f0, f00⟩, f2, f3⟩, h⟩ := h
  intro H locs ls hH hS hL h1 h2 T hT X
  have hz : H.size = base + mm.1.length := heap_end X hT hbase hH hS
  refine (W.anew hx hb hown (hts _ hw) (va_AO.use hO.2.1) rfl hd rfl f0 (by omega) (Nat.le_trans f2 hal.1) (Nat.le_trans f3 hal.2) fun cA1 kA comp g1 g2 g3 g4 => ?_ : W p l e R s m args below meth c H locs kc ks Z (F0 m pc ls (.int x :: r.map (vr (adr base ext))))) T hT X
  generalize hH1 : H.push ({ cls := cA1, slots := Array.replicate x.toNatClampNeg .null, vm := .none } : Cell) = H1
  have z1 : H1.size = base + mm.1.length + 1 := by rw [← hH1, Array.size_push, hz]
  have e1 : H1[base + mm.1.length]? = some (arrV cA1 x.toNatClampNeg (fun _ => .null)) := by rw [← hH1, ← hz, Array.getElem?_push_size, ← arrV_new]
  have o1 : ∀ q : Nat, q < base + mm.1.length → H1[q]? = H[q]? := fun q hq => by rw [← hH1, Array.getElem?_push, if_neg (by omega)]
  have ec : cA1 = cA (20 + 4) := ra_eq (t := 4) hO.1 (ty := .object RX9) rfl g1
  subst ec
  have k := h H1 locs ls (Holds.new hH hz f1 (24, x.toNatClampNeg) (Or.inr ⟨by show 20 ≤ 24; omega, by show 24 < 25; omega⟩) o1 ?_) (va_S_push hS hz z1 o1) hL (Nat.le_trans f2 hal.1) (Nat.le_trans f3 hal.2)
  · have k : W p l e R s m args below meth c H1 locs (kc + 1) (ks + x.toNatClampNeg) Z (F0 m (pc + 3) ls (.ref (adr base ext mm.1.length) :: r.map (vr (adr base ext)))) := k
    rw [← at_new (base := base) (ext := ext) (base + mm.1.length) rfl f1] at k
    rw [hz]
    exact k
  · rw [← at_new (base := base) (ext := ext) (base + mm.1.length) rfl f1]
    exact e1
end SIM
