/-! A state may forget locals. -/
/-- no local is looked at: what holds with one, holds with the other -/
def LLe (L1 L2 : Lo) : Prop := L1.length = L2.length ∧ ∀ (i : Nat) (v : Value), lget L1 i = some v → lget L2 i = some v
theorem wget_none : ∀ (L : Lo) (k : Nat), ¬ k < L.length → lget L k = none := by
  intro L
  induction L with
  | nil => intro k _; rfl
  | cons x L ih =>
    intro k hk
    cases k with
    | zero => exact absurd (Nat.succ_pos _) hk
    | succ k => exact ih k (fun q => hk (Nat.succ_lt_succ q))
theorem wget_lset (L : Lo) : ∀ (i j : Nat) (v : Option Value), lget (lset L i v) j = if j = i ∧ i < L.length then v else lget L j := by
  induction L with
  | nil => intro i j v; simp [lset, lget]
  | cons x L ih =>
    intro i j v
    cases i with
    | zero => cases j with
      | zero => simp [lset, lget]
      | succ j => simp [lset, lget]
    | succ i => cases j with
      | zero => simp [lset, lget]
      | succ j => simp [lset, lget, ih]
theorem wset_len (L : Lo) : ∀ (i : Nat) (v : Option Value), (lset L i v).length = L.length := by
  induction L with
  | nil => intro i v; rfl
  | cons x L ih =>
    intro i v
    cases i with
    | zero => rfl
    | succ i => exact congrArg (· + 1) (ih i v)
theorem wkill_len (L : Lo) (i : Nat) : (lkill L i).length = L.length := by
  cases i with
  | zero => rfl
  | succ i =>
    show (match lget L i with
      | some (.long _) => lset L i none
      | some (.double _) => lset L i none
      | _ => L).length = L.length
    split
    · exact wset_len _ _ _
    · exact wset_len _ _ _
    · rfl
theorem LLe.set {L1 L2 : Lo} (h : LLe L1 L2) (i : Nat) (v : Option Value) : LLe (lset L1 i v) (lset L2 i v) := by
  refine ⟨by rw [wset_len, wset_len]; exact h.1, fun j w hj => ?_⟩
  rw [wget_lset] at hj ⊢
  rw [h.1] at hj
  split at hj
  · next q => rw [if_pos q]; exact hj
  · next q => rw [if_neg q]; exact h.2 j w hj
theorem wkill_get (L : Lo) (i j : Nat) (w : Value) : lget (lkill L i) j = some w ↔ lget L j = some w ∧ ¬ (j + 1 = i ∧ w.category = 2) := by
  cases i with
  | zero => exact ⟨fun h => ⟨h, fun q => by omega⟩, fun h => h.1⟩
  | succ i =>
    show lget (match lget L i with
      | some (.long _) => lset L i none
      | some (.double _) => lset L i none
      | _ => L) j = some w ↔ _
    by_cases hj : j = i
    · subst hj
      cases hL : lget L j with
      | none => simp [hL]
      | some u =>
        have hl : j < L.length := by
          rcases Nat.lt_or_ge j L.length with q | q
          · exact q
          · rw [wget_none L j (by omega)] at hL; cases hL
        cases u <;> simp [wget_lset, hl, hL, Value.category] <;> (intro q; subst q; simp)
    · have e : lget (match lget L i with
        | some (.long _) => lset L i none
        | some (.double _) => lset L i none
        | _ => L) j = lget L j := by
        split
        · rw [wget_lset, if_neg (fun q => hj q.1)]
        · rw [wget_lset, if_neg (fun q => hj q.1)]
        · rfl
      rw [e]
      exact ⟨fun h => ⟨h, fun q => hj (by omega)⟩, fun h => h.1⟩
theorem LLe.kill {L1 L2 : Lo} (h : LLe L1 L2) (i : Nat) : LLe (lkill L1 i) (lkill L2 i) := by
  refine ⟨by rw [wkill_len, wkill_len]; exact h.1, fun j w hj => ?_⟩
  obtain ⟨h1, h2⟩ := (wkill_get L1 i j w).mp hj
  exact (wkill_get L2 i j w).mpr ⟨h.2 j w h1, h2⟩
theorem LLe.set1 {L1 L2 : Lo} (h : LLe L1 L2) (i : Nat) (v : Value) : LLe (lset1 L1 i v) (lset1 L2 i v) := (h.kill i).set i (some v)
theorem LLe.set2 {L1 L2 : Lo} (h : LLe L1 L2) (i : Nat) (v : Value) : LLe (lset2 L1 i v) (lset2 L2 i v) := ((h.kill i).set i (some v)).set (i + 1) none
/-- the outcomes of two steps that differ in the locals alone -/
def OLe (o1 o2 : Out) : Prop := match o1, o2 with
  | none, _ => True
  | some (.inl (p1, L1, q1)), some (.inl (p2, L2, q2)) => p1 = p2 ∧ LLe L1 L2 ∧ q1 = q2
  | some (.inr (.inl (f1, (p1, L1, q1)))), some (.inr (.inl (f2, (p2, L2, q2)))) => f1 = f2 ∧ p1 = p2 ∧ LLe L1 L2 ∧ q1 = q2
  | some (.inr (.inr (.inl x1))), some (.inr (.inr (.inl x2))) => x1 = x2
  | some (.inr (.inr (.inr (f1, g1, a1, m1, k1)))), some (.inr (.inr (.inr (f2, g2, a2, m2, k2)))) => f1 = f2 ∧ g1 = g2 ∧ a1 = a2 ∧ m1 = m2 ∧ ∀ r m, (k1 r m).1 = (k2 r m).1 ∧ LLe (k1 r m).2.1 (k2 r m).2.1 ∧ (k1 r m).2.2 = (k2 r m).2.2
  | _, _ => False
theorem OLe.go {p : Nat} {L1 L2 : Lo} {q : List Value × Mem × Nat × Nat} (h : LLe L1 L2) : OLe (oGo (p, L1, q)) (oGo (p, L2, q)) := ⟨rfl, h, rfl⟩
theorem OLe.chk {f : Prop} {p : Nat} {L1 L2 : Lo} {q : List Value × Mem × Nat × Nat} (h : LLe L1 L2) : OLe (oChk f (p, L1, q)) (oChk f (p, L2, q)) := ⟨rfl, rfl, h, rfl⟩
theorem OLe.no {o : Out} : OLe none o := trivial
theorem OLe.rfl' {f : Prop} {v : Option Value} {m : Mem} : OLe (oRet f v m) (oRet f v m) := rfl
theorem OLe.xI {st : List Value} {K1 K2 : Int32 → List Value → Out} (h : ∀ x r, OLe (K1 x r) (K2 x r)) : OLe (xI st K1) (xI st K2) := by
  cases st with
  | nil => exact trivial
  | cons v r => cases v with
    | int x => exact h x r
    | _ => exact trivial
theorem OLe.xJ {st : List Value} {K1 K2 : Int64 → List Value → Out} (h : ∀ x r, OLe (K1 x r) (K2 x r)) : OLe (xJ st K1) (xJ st K2) := by
  cases st with
  | nil => exact trivial
  | cons v r => cases v with
    | long x => exact h x r
    | _ => exact trivial
theorem OLe.xR {st : List Value} {K1 K2 : Nat → List Value → Out} (h : ∀ x r, OLe (K1 x r) (K2 x r)) : OLe (xR st K1) (xR st K2) := by
  cases st with
  | nil => exact trivial
  | cons v r => cases v with
    | ref x => exact h x r
    | _ => exact trivial
theorem OLe.xV {st : List Value} {K1 K2 : Value → List Value → Out} (h : ∀ x r, OLe (K1 x r) (K2 x r)) : OLe (xV st K1) (xV st K2) := by
  cases st with
  | nil => exact trivial
  | cons v r => cases v with
    | ref x => exact h _ r
    | null => exact h _ r
    | _ => exact trivial
theorem OLe.x1 {st : List Value} {K1 K2 : Value → List Value → Out} (h : ∀ x r, OLe (K1 x r) (K2 x r)) : OLe (x1 st K1) (x1 st K2) := by
  cases st with
  | nil => exact trivial
  | cons v r => cases v with
    | int x => exact h _ r
    | ref x => exact h _ r
    | null => exact h _ r
    | _ => exact trivial
theorem OLe.gI {L1 L2 : Lo} {a : Nat} {K1 K2 : Int32 → Out} (hL : LLe L1 L2) (h : ∀ x, OLe (K1 x) (K2 x)) : OLe (gI L1 a K1) (gI L2 a K2) := by
  cases e : lget L1 a with
  | none => show OLe (match lget L1 a with | some (.int x) => K1 x | _ => none) (match lget L2 a with | some (.int x) => K2 x | _ => none); rw [e]; exact trivial
  | some v => cases v with
    | int x => show OLe (match lget L1 a with | some (.int x) => K1 x | _ => none) (match lget L2 a with | some (.int x) => K2 x | _ => none); rw [e, hL.2 _ _ e]; exact h x
    | _ => show OLe (match lget L1 a with | some (.int x) => K1 x | _ => none) (match lget L2 a with | some (.int x) => K2 x | _ => none); rw [e]; exact trivial
theorem OLe.gJ {L1 L2 : Lo} {a : Nat} {K1 K2 : Int64 → Out} (hL : LLe L1 L2) (h : ∀ x, OLe (K1 x) (K2 x)) : OLe (gJ L1 a K1) (gJ L2 a K2) := by
  cases e : lget L1 a with
  | none => show OLe (match lget L1 a with | some (.long x) => K1 x | _ => none) (match lget L2 a with | some (.long x) => K2 x | _ => none); rw [e]; exact trivial
  | some v => cases v with
    | long x => show OLe (match lget L1 a with | some (.long x) => K1 x | _ => none) (match lget L2 a with | some (.long x) => K2 x | _ => none); rw [e, hL.2 _ _ e]; exact h x
    | _ => show OLe (match lget L1 a with | some (.long x) => K1 x | _ => none) (match lget L2 a with | some (.long x) => K2 x | _ => none); rw [e]; exact trivial
theorem OLe.gV {L1 L2 : Lo} {a : Nat} {K1 K2 : Value → Out} (hL : LLe L1 L2) (h : ∀ x, OLe (K1 x) (K2 x)) : OLe (gV L1 a K1) (gV L2 a K2) := by
  cases e : lget L1 a with
  | none => show OLe (match lget L1 a with | some (.ref x) => K1 (.ref x) | some .null => K1 .null | _ => none) (match lget L2 a with | some (.ref x) => K2 (.ref x) | some .null => K2 .null | _ => none); rw [e]; exact trivial
  | some v => cases v with
    | ref x => show OLe (match lget L1 a with | some (.ref x) => K1 (.ref x) | some .null => K1 .null | _ => none) (match lget L2 a with | some (.ref x) => K2 (.ref x) | some .null => K2 .null | _ => none); rw [e, hL.2 _ _ e]; exact h _
    | null => show OLe (match lget L1 a with | some (.ref x) => K1 (.ref x) | some .null => K1 .null | _ => none) (match lget L2 a with | some (.ref x) => K2 (.ref x) | some .null => K2 .null | _ => none); rw [e, hL.2 _ _ e]; exact h _
    | _ => show OLe (match lget L1 a with | some (.ref x) => K1 (.ref x) | some .null => K1 .null | _ => none) (match lget L2 a with | some (.ref x) => K2 (.ref x) | some .null => K2 .null | _ => none); rw [e]; exact trivial
theorem OLe.bR {b : Bool} {x1 y1 x2 y2 : Out} (hx : OLe x1 x2) (hy : OLe y1 y2) : OLe (bR b x1 y1) (bR b x2 y2) := by
  cases b with
  | true => exact hx
  | false => exact hy
theorem OLe.cellN {sh : List (Nat × Nat)} {o k : Nat} {K1 K2 : Nat → Out} (h : ∀ n, OLe (K1 n) (K2 n)) : OLe (cellN sh o k K1) (cellN sh o k K2) := by
  show OLe (match sh[o]? with | some p => (match Nat.beq p.1 k with | true => K1 p.2 | false => none) | none => none) (match sh[o]? with | some p => (match Nat.beq p.1 k with | true => K2 p.2 | false => none) | none => none)
  cases sh[o]? with
  | none => exact trivial
  | some p =>
    show OLe (match Nat.beq p.1 k with | true => K1 p.2 | false => none) (match Nat.beq p.1 k with | true => K2 p.2 | false => none)
    cases Nat.beq p.1 k with
    | true => exact h _
    | false => exact trivial
theorem OLe.ints {sc : Scr} {m : Mem} {o : Nat} {K1 K2 : Nat → (Nat → Int32) → Out} (h : ∀ n f, OLe (K1 n f) (K2 n f)) : OLe (intsAt sc m o K1) (intsAt sc m o K2) := by
  unfold intsAt
  refine OLe.bR (OLe.cellN fun n => h _ _) (OLe.bR (h _ _) (OLe.bR ?_ trivial))
  cases sc with
  | none => exact trivial
  | some q => exact h _ _
theorem OLe.bytes {m : Mem} {o : Nat} {K1 K2 : Nat → (Nat → Int32) → Out} (h : ∀ n f, OLe (K1 n f) (K2 n f)) : OLe (bytesAt m o K1) (bytesAt m o K2) := by
  unfold bytesAt
  refine OLe.bR ?_ (OLe.bR (h _ _) trivial)
  cases m.1[o]? with
  | none => exact trivial
  | some p => exact OLe.bR (h _ _) trivial
theorem OLe.len {sc : Scr} {m : Mem} {o : Nat} {K1 K2 : Nat → Out} (h : ∀ n, OLe (K1 n) (K2 n)) : OLe (lenAt sc m o K1) (lenAt sc m o K2) := by
  unfold lenAt
  refine OLe.bR ?_ (OLe.bR (h _) (OLe.bR ?_ (OLe.bR (h _) trivial)))
  · cases m.1[o]? with
    | none => exact trivial
    | some p => exact OLe.bR (h _) trivial
  · cases sc with
    | none => exact trivial
    | some q => exact h _
theorem OLe.recv {m : Mem} {o k : Nat} {x1 x2 : Out} (h : OLe x1 x2) : OLe (recvAt m o k x1) (recvAt m o k x2) := by
  unfold recvAt
  exact OLe.bR (OLe.bR h trivial) (OLe.cellN fun _ => h)
theorem OLe.pop {n : Nat} : ∀ {acc st : List Value} {K1 K2 : List Value → List Value → Out}, (∀ a r, OLe (K1 a r) (K2 a r)) → OLe (popN n acc st K1) (popN n acc st K2) := by
  induction n with
  | zero => intro acc st K1 K2 h; exact h _ _
  | succ n ih =>
    intro acc st K1 K2 h
    cases st with
    | nil => exact trivial
    | cons v st => exact ih h
theorem OLe.call {f : Prop} {g : Nat} {as : List Value} {m : Mem} {k1 k2 : Option Value → Mem → Cfg} (h : ∀ r m, (k1 r m).1 = (k2 r m).1 ∧ LLe (k1 r m).2.1 (k2 r m).2.1 ∧ (k1 r m).2.2 = (k2 r m).2.2) : OLe (oCall f g as m k1) (oCall f g as m k2) := ⟨rfl, rfl, rfl, rfl, h⟩
theorem LLe.rfl' (L : Lo) : LLe L L := ⟨rfl, fun _ _ h => h⟩
theorem OLe.refl (o : Out) : OLe o o := by
  rcases o with _ | ⟨p, L, q⟩ | ⟨f, p, L, q⟩ | x | ⟨f, g, a, m, k⟩
  · exact trivial
  · exact ⟨rfl, LLe.rfl' _, rfl⟩
  · exact ⟨rfl, rfl, LLe.rfl' _, rfl⟩
  · exact rfl
  · exact ⟨rfl, rfl, rfl, rfl, fun r m => ⟨rfl, LLe.rfl' _, rfl⟩⟩
theorem out1_weak {sc : Scr} {aM : AM} {al : Nat × Nat} {i : Instr} {n a b c : Nat} {w : Int32} {z : Int64} {pc : Nat} {L1 L2 : Lo} {st : List Value} {m : Mem} {kc ks : Nat} (hL : LLe L1 L2) : OLe (out1 sc aM al i n a b c w z pc L1 st m kc ks) (out1 sc aM al i n a b c w z pc L2 st m kc ks) := by
  cases i with
  | iconst _ => exact OLe.go hL
  | bipush _ => exact OLe.go hL
  | sipush _ => exact OLe.go hL
  | lconst _ => exact OLe.go hL
  | ldc_w _ => exact OLe.go hL
  | ldc2_w _ => exact OLe.go hL
  | aconst_null => exact OLe.go hL
  | goto _ => exact OLe.go hL
  | ldc _ => cases a with
    | zero => exact OLe.go hL
    | succ a => exact OLe.go hL
  | iload _ => exact OLe.gI hL fun _ => OLe.go hL
  | iload_n _ => exact OLe.gI hL fun _ => OLe.go hL
  | lload _ => exact OLe.gJ hL fun _ => OLe.go hL
  | lload_n _ => exact OLe.gJ hL fun _ => OLe.go hL
  | aload _ =>
    show OLe (gV L1 a fun x => oGo (pc + n, L1, x :: st, m, kc, ks)) (gV L2 a fun x => oGo (pc + n, L2, x :: st, m, kc, ks))
    exact OLe.gV hL fun _ => OLe.go hL
  | aload_n _ =>
    show OLe (gV L1 a fun x => oGo (pc + n, L1, x :: st, m, kc, ks)) (gV L2 a fun x => oGo (pc + n, L2, x :: st, m, kc, ks))
    exact OLe.gV hL fun _ => OLe.go hL
  | istore _ => exact OLe.xI fun _ _ => OLe.go (hL.set1 _ _)
  | istore_n _ => exact OLe.xI fun _ _ => OLe.go (hL.set1 _ _)
  | lstore _ => exact OLe.xJ fun _ _ => OLe.go (hL.set2 _ _)
  | lstore_n _ => exact OLe.xJ fun _ _ => OLe.go (hL.set2 _ _)
  | astore _ =>
    show OLe (xV st fun x st => oGo (pc + n, lset1 L1 a x, st, m, kc, ks)) (xV st fun x st => oGo (pc + n, lset1 L2 a x, st, m, kc, ks))
    exact OLe.xV fun _ _ => OLe.go (hL.set1 _ _)
  | astore_n _ =>
    show OLe (xV st fun x st => oGo (pc + n, lset1 L1 a x, st, m, kc, ks)) (xV st fun x st => oGo (pc + n, lset1 L2 a x, st, m, kc, ks))
    exact OLe.xV fun _ _ => OLe.go (hL.set1 _ _)
  | iinc _ _ => exact OLe.gI hL fun _ => OLe.go (hL.set1 _ _)
  | dup =>
    show OLe (x1 st fun x st => oGo (pc + n, L1, x :: x :: st, m, kc, ks)) (x1 st fun x st => oGo (pc + n, L2, x :: x :: st, m, kc, ks))
    exact OLe.x1 fun _ _ => OLe.go hL
  | pop =>
    show OLe (x1 st fun _ st => oGo (pc + n, L1, st, m, kc, ks)) (x1 st fun _ st => oGo (pc + n, L2, st, m, kc, ks))
    exact OLe.x1 fun _ _ => OLe.go hL
  | pop2 => exact OLe.xJ fun _ _ => OLe.go hL
  | iadd => exact OLe.xI fun _ _ => OLe.xI fun _ _ => OLe.go hL
  | isub => exact OLe.xI fun _ _ => OLe.xI fun _ _ => OLe.go hL
  | imul => exact OLe.xI fun _ _ => OLe.xI fun _ _ => OLe.go hL
  | iand => exact OLe.xI fun _ _ => OLe.xI fun _ _ => OLe.go hL
  | ior => exact OLe.xI fun _ _ => OLe.xI fun _ _ => OLe.go hL
  | ixor => exact OLe.xI fun _ _ => OLe.xI fun _ _ => OLe.go hL
  | ishl => exact OLe.xI fun _ _ => OLe.xI fun _ _ => OLe.go hL
  | ishr => exact OLe.xI fun _ _ => OLe.xI fun _ _ => OLe.go hL
  | idiv => exact OLe.xI fun _ _ => OLe.xI fun _ _ => OLe.chk hL
  | irem => exact OLe.xI fun _ _ => OLe.xI fun _ _ => OLe.chk hL
  | ladd => exact OLe.xJ fun _ _ => OLe.xJ fun _ _ => OLe.go hL
  | lsub => exact OLe.xJ fun _ _ => OLe.xJ fun _ _ => OLe.go hL
  | lmul => exact OLe.xJ fun _ _ => OLe.xJ fun _ _ => OLe.go hL
  | land => exact OLe.xJ fun _ _ => OLe.xJ fun _ _ => OLe.go hL
  | lor => exact OLe.xJ fun _ _ => OLe.xJ fun _ _ => OLe.go hL
  | ldiv => exact OLe.xJ fun _ _ => OLe.xJ fun _ _ => OLe.chk hL
  | lrem => exact OLe.xJ fun _ _ => OLe.xJ fun _ _ => OLe.chk hL
  | lcmp => exact OLe.xJ fun _ _ => OLe.xJ fun _ _ => OLe.go hL
  | ineg => exact OLe.xI fun _ _ => OLe.go hL
  | i2l => exact OLe.xI fun _ _ => OLe.go hL
  | i2b => exact OLe.xI fun _ _ => OLe.go hL
  | i2c => exact OLe.xI fun _ _ => OLe.go hL
  | lneg => exact OLe.xJ fun _ _ => OLe.go hL
  | l2i => exact OLe.xJ fun _ _ => OLe.go hL
  | lshl => exact OLe.xI fun _ _ => OLe.xJ fun _ _ => OLe.go hL
  | lshr => exact OLe.xI fun _ _ => OLe.xJ fun _ _ => OLe.go hL
  | ifCond q _ => exact OLe.xI fun _ _ => by cases q <;> exact OLe.go hL
  | if_icmp q _ => exact OLe.xI fun _ _ => OLe.xI fun _ _ => by cases q <;> exact OLe.go hL
  | ifnull _ =>
    show OLe (xV st fun x st => oGo (match x with | .null => a | _ => pc + 3, L1, st, m, kc, ks)) (xV st fun x st => oGo (match x with | .null => a | _ => pc + 3, L2, st, m, kc, ks))
    exact OLe.xV fun _ _ => OLe.go hL
  | ifnonnull _ =>
    show OLe (xV st fun x st => oGo (match x with | .null => pc + 3 | _ => a, L1, st, m, kc, ks)) (xV st fun x st => oGo (match x with | .null => pc + 3 | _ => a, L2, st, m, kc, ks))
    exact OLe.xV fun _ _ => OLe.go hL
  | tableswitch _ _ _ _ => exact OLe.xI fun _ _ => OLe.go hL
  | iaload => exact OLe.xI fun _ _ => OLe.xR fun _ _ => OLe.ints fun _ _ => OLe.chk hL
  | baload => exact OLe.xI fun _ _ => OLe.xR fun _ _ => OLe.bytes fun _ _ => OLe.chk hL
  | laload => exact OLe.xI fun _ _ => OLe.xR fun _ _ => OLe.cellN fun _ => OLe.chk hL
  | aaload => exact OLe.xI fun _ _ => OLe.xR fun _ _ => OLe.cellN fun _ => OLe.chk hL
  | iastore => exact OLe.xI fun _ _ => OLe.xI fun _ _ => OLe.xR fun _ _ => OLe.cellN fun _ => OLe.chk hL
  | lastore => exact OLe.xJ fun _ _ => OLe.xI fun _ _ => OLe.xR fun _ _ => OLe.cellN fun _ => OLe.chk hL
  | aastore => exact OLe.xR fun _ _ => OLe.xI fun _ _ => OLe.xR fun _ _ => OLe.cellN fun _ => OLe.cellN fun _ => OLe.chk hL
  | bastore =>
    refine OLe.xI fun x r => OLe.xI fun j r => OLe.xR fun o r => ?_
    cases m.1[o]? with
    | none => exact trivial
    | some p =>
      obtain ⟨p1, p2⟩ := p
      by_cases h1 : p1 = 22
      · subst h1; exact OLe.chk hL
      · by_cases h2 : p1 = 23
        · subst h2; exact OLe.chk hL
        · have e : ∀ (x y : Out), (match (generalizing := false) p1 with
            | 22 => x
            | 23 => y
            | _ => none) = none := by
            intro x y
            split
            · exact absurd rfl h1
            · exact absurd rfl h2
            · rfl
          show OLe (match (generalizing := false) p1 with
            | 22 => _
            | 23 => _
            | _ => none) _
          rw [e]
          exact trivial
  | arraylength => exact OLe.xR fun _ _ => OLe.len fun _ => OLe.go hL
  | getfield _ =>
    refine OLe.xR fun o r => ?_
    by_cases h8 : c = 8
    · subst h8; exact OLe.bR (OLe.go hL) trivial
    · by_cases h9 : c = 9
      · subst h9; exact OLe.bR (OLe.go hL) trivial
      · have e : ∀ (x y z : Out), (match (generalizing := false) c with
          | 8 => x
          | 9 => y
          | _ => z) = z := by
          intro x y z
          split
          · exact absurd rfl h8
          · exact absurd rfl h9
          · rfl
        show OLe (match (generalizing := false) c with
          | 8 => _
          | 9 => _
          | c => cellN m.1 o a fun _ => oGo (pc + n, L1, fv c (m.2 o b) :: r, m, kc, ks)) (match (generalizing := false) c with
          | 8 => _
          | 9 => _
          | c => cellN m.1 o a fun _ => oGo (pc + n, L2, fv c (m.2 o b) :: r, m, kc, ks))
        split
        · exact absurd rfl h8
        · exact absurd rfl h9
        · exact OLe.cellN fun _ => OLe.go hL
  | putfield _ =>
    have hc : c = 1 ∨ c = 2 ∨ c = 3 ∨ (c ≠ 1 ∧ c ≠ 2 ∧ c ≠ 3) := by omega
    rcases hc with rfl | rfl | rfl | ⟨h1, h2, h3⟩
    · exact OLe.xJ fun _ _ => OLe.xR fun _ _ => OLe.cellN fun _ => OLe.go hL
    · show OLe (xV st fun x st => xR st fun o st => cellN m.1 o a fun _ => oGo (pc + n, L1, st, (m.1, up m.2 o b x), kc, ks)) (xV st fun x st => xR st fun o st => cellN m.1 o a fun _ => oGo (pc + n, L2, st, (m.1, up m.2 o b x), kc, ks))
      exact OLe.xV fun _ _ => OLe.xR fun _ _ => OLe.cellN fun _ => OLe.go hL
    · exact OLe.xI fun _ _ => OLe.xR fun _ _ => OLe.cellN fun _ => OLe.chk hL
    · unfold out1
      dsimp only
      split
      · exact absurd rfl h1
      · exact absurd rfl h2
      · exact absurd rfl h3
      · exact OLe.xI fun _ _ => OLe.xR fun _ _ => OLe.cellN fun _ => OLe.go hL
  | getstatic _ => cases a with
    | zero => exact OLe.go hL
    | succ a => exact OLe.go hL
  | new _ => exact OLe.chk hL
  | newarray _ => exact OLe.xI fun _ _ => OLe.chk hL
  | anewarray _ => exact OLe.xI fun _ _ => OLe.chk hL
  | invokestatic _ =>
    rcases (show c = 0 ∨ c = 1 ∨ c = 2 ∨ c = 3 ∨ c = 4 ∨ c = 5 ∨ 6 ≤ c by omega) with e | e | e | e | e | e | e
    · subst e; exact OLe.pop fun _ _ => OLe.call fun _ _ => ⟨rfl, hL, rfl⟩
    · subst e; exact OLe.xI fun _ _ => OLe.xI fun _ _ => OLe.chk hL
    · subst e; exact OLe.xI fun _ _ => OLe.xI fun _ _ => OLe.chk hL
    · subst e; exact OLe.xJ fun _ _ => OLe.xJ fun _ _ => OLe.chk hL
    · subst e; exact OLe.xJ fun _ _ => OLe.xJ fun _ _ => OLe.chk hL
    · subst e; exact OLe.xJ fun _ _ => OLe.chk hL
    · obtain ⟨q, rfl⟩ : ∃ q, c = q + 6 := ⟨c - 6, by omega⟩
      exact trivial
  | invokevirtual _ => exact OLe.pop fun _ _ => OLe.xR fun _ _ => OLe.recv (OLe.call fun _ _ => ⟨rfl, hL, rfl⟩)
  | invokespecial _ => cases c with
    | zero => exact OLe.xR fun _ _ => OLe.chk hL
    | succ c => exact OLe.pop fun _ _ => OLe.xR fun _ _ => OLe.call fun _ _ => ⟨rfl, hL, rfl⟩
  | ireturn => exact OLe.refl (out1 sc aM al .ireturn n a b c w z pc L1 st m kc ks)
  | lreturn => exact OLe.refl (out1 sc aM al .lreturn n a b c w z pc L1 st m kc ks)
  | areturn => exact OLe.refl (out1 sc aM al .areturn n a b c w z pc L1 st m kc ks)
  | return_ => exact OLe.refl (out1 sc aM al .return_ n a b c w z pc L1 st m kc ks)
  | _ => exact trivial
theorem ex1_weak {E : Cal} (hE : Mono E) {P' P : Cfg → Prop} {Q : Option Value → Mem → Prop} (hP : ∀ p L1 L2 q, LLe L1 L2 → P' (p, L1, q) → P (p, L2, q)) {o1 o2 : Out} (ho : OLe o1 o2) (h : ex1 E P' Q o1) : ex1 E P Q o2 := by
  cases o1 with
  | none => exact False.elim h
  | some x1 => cases o2 with
    | none => rcases x1 with _ | _ | _ | _ <;> exact False.elim ho
    | some x2 =>
      rcases x1 with ⟨p1, L1, q1⟩ | ⟨f1, p1, L1, q1⟩ | x1 | ⟨f1, g1, a1, m1, k1⟩ <;> rcases x2 with ⟨p2, L2, q2⟩ | ⟨f2, p2, L2, q2⟩ | x2 | ⟨f2, g2, a2, m2, k2⟩ <;> try exact False.elim ho
      · obtain ⟨rfl, h2, rfl⟩ := ho
        exact hP _ _ _ _ h2 h
      · obtain ⟨rfl, rfl, h2, rfl⟩ := ho
        exact ⟨h.1, hP _ _ _ _ h2 h.2⟩
      · have ho : x1 = x2 := ho
        subst ho
        exact h
      · obtain ⟨rfl, rfl, rfl, rfl, hk⟩ := ho
        refine ⟨h.1, hE _ _ _ _ _ (fun r m hr => ?_) h.2⟩
        obtain ⟨e1, e2, e3⟩ := hk r m
        have h9 := hP (k1 r m).1 (k1 r m).2.1 (k2 r m).2.1 (k1 r m).2.2 e2 hr
        rw [e1, e3] at h9
        exact h9
theorem Go.weak {sc : Scr} {aM : AM} {E : Cal} {f : Mth} {Q : Option Value → Mem → Prop} (hE : Mono E) {pc : Nat} {L1 L2 : Lo} {q : List Value × Mem × Nat × Nat} (hL : LLe L1 L2) (h : Go sc aM E f Q (pc, L1, q)) : Go sc aM E f Q (pc, L2, q) := by
  intro P hP
  refine h (fun c => ∀ L2, LLe c.2.1 L2 → P (c.1, L2, c.2.2)) ?_ L2 hL
  intro c hc L2 hL
  apply hP
  obtain ⟨pc, L1, st, m, kc, ks⟩ := c
  unfold exec at hc ⊢
  refine ex1_weak hE (fun p L1 L2 q hl h => h L2 hl) ?_ hc
  show OLe (out sc aM f (pc, L1, st, m, kc, ks)) (out sc aM f (pc, L2, st, m, kc, ks))
  rw [out_eq, out_eq]
  cases lkc f.2.2.2.2.2.1 pc with
  | none => exact trivial
  | some e => exact out1_weak hL
/-- which locals are kept: told by a list that may forget -/
def llB : Lo → Lo → Bool
  | [], [] => true
  | none :: l1, _ :: l2 => llB l1 l2
  | some _ :: l1, some _ :: l2 => llB l1 l2
  | _, _ => false
theorem LLe.nil : LLe [] [] := ⟨rfl, fun _ _ h => h⟩
theorem LLe.cons {x : Option Value} {L1 L2 : Lo} (h : LLe L1 L2) : LLe (x :: L1) (x :: L2) := by
  refine ⟨congrArg (· + 1) h.1, fun i v hi => ?_⟩
  cases i with
  | zero => exact hi
  | succ i => exact h.2 i v hi
theorem LLe.drop {x : Option Value} {L1 L2 : Lo} (h : LLe L1 L2) : LLe (none :: L1) (x :: L2) := by
  refine ⟨congrArg (· + 1) h.1, fun i v hi => ?_⟩
  cases i with
  | zero => cases hi
  | succ i => exact h.2 i v hi
