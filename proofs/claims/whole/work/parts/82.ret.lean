/-! What a method returns: an int, or a long. -/
def RI (B : Option Value → Prop) (o : Out) : Prop := match o with
  | some (.inr (.inr (.inl (_, v, _)))) => B v
  | _ => True
section RIS
variable {B : Option Value → Prop} {sc : Scr} {o k a : Nat} {L : Lo} {st : List Value} {m : Mem}
theorem RI.xI {K : Int32 → List Value → Out} (h : ∀ x r, RI B (K x r)) : RI B (xI st K) := by
  cases st with
  | nil => exact trivial
  | cons v r => cases v with
    | int x => exact h x r
    | _ => exact trivial
theorem RI.xJ {K : Int64 → List Value → Out} (h : ∀ x r, RI B (K x r)) : RI B (xJ st K) := by
  cases st with
  | nil => exact trivial
  | cons v r => cases v with
    | long x => exact h x r
    | _ => exact trivial
theorem RI.xR {K : Nat → List Value → Out} (h : ∀ x r, RI B (K x r)) : RI B (xR st K) := by
  cases st with
  | nil => exact trivial
  | cons v r => cases v with
    | ref x => exact h x r
    | _ => exact trivial
theorem RI.xV {K : Value → List Value → Out} (h : ∀ x r, RI B (K x r)) : RI B (xV st K) := by
  cases st with
  | nil => exact trivial
  | cons v r => cases v with
    | ref x => exact h _ r
    | null => exact h _ r
    | _ => exact trivial
theorem RI.x1 {K : Value → List Value → Out} (h : ∀ x r, RI B (K x r)) : RI B (x1 st K) := by
  cases st with
  | nil => exact trivial
  | cons v r => cases v with
    | int x => exact h _ r
    | ref x => exact h _ r
    | null => exact h _ r
    | _ => exact trivial
theorem RI.gI {K : Int32 → Out} (h : ∀ x, RI B (K x)) : RI B (gI L a K) := by
  show RI B (match lget L a with | some (.int x) => K x | _ => none)
  cases lget L a with
  | none => exact trivial
  | some v => cases v with
    | int x => exact h x
    | _ => exact trivial
theorem RI.gJ {K : Int64 → Out} (h : ∀ x, RI B (K x)) : RI B (gJ L a K) := by
  show RI B (match lget L a with | some (.long x) => K x | _ => none)
  cases lget L a with
  | none => exact trivial
  | some v => cases v with
    | long x => exact h x
    | _ => exact trivial
theorem RI.gV {K : Value → Out} (h : ∀ x, RI B (K x)) : RI B (gV L a K) := by
  show RI B (match lget L a with | some (.ref x) => K (.ref x) | some .null => K .null | _ => none)
  cases lget L a with
  | none => exact trivial
  | some v => cases v with
    | ref x => exact h _
    | null => exact h _
    | _ => exact trivial
theorem RI.bR {b : Bool} {x y : Out} (hx : RI B x) (hy : RI B y) : RI B (bR b x y) := by
  cases b with
  | true => exact hx
  | false => exact hy
theorem RI.cellN {sh : List (Nat × Nat)} {K : Nat → Out} (h : ∀ n, RI B (K n)) : RI B (cellN sh o k K) := by
  show RI B (match sh[o]? with | some p => (match Nat.beq p.1 k with | true => K p.2 | false => none) | none => none)
  cases sh[o]? with
  | none => exact trivial
  | some p =>
    show RI B (match Nat.beq p.1 k with | true => K p.2 | false => none)
    cases Nat.beq p.1 k with
    | true => exact h _
    | false => exact trivial
theorem RI.ints {K : Nat → (Nat → Int32) → Out} (h : ∀ n f, RI B (K n f)) : RI B (intsAt sc m o K) := by
  unfold intsAt
  refine RI.bR (RI.cellN fun n => h _ _) (RI.bR (h _ _) (RI.bR ?_ trivial))
  cases sc with
  | none => exact trivial
  | some q => exact h _ _
theorem RI.bytes {K : Nat → (Nat → Int32) → Out} (h : ∀ n f, RI B (K n f)) : RI B (bytesAt m o K) := by
  unfold bytesAt
  refine RI.bR ?_ (RI.bR (h _ _) trivial)
  cases m.1[o]? with
  | none => exact trivial
  | some p => exact RI.bR (h _ _) trivial
theorem RI.len {K : Nat → Out} (h : ∀ n, RI B (K n)) : RI B (lenAt sc m o K) := by
  unfold lenAt
  refine RI.bR ?_ (RI.bR (h _) (RI.bR ?_ (RI.bR (h _) trivial)))
  · cases m.1[o]? with
    | none => exact trivial
    | some p => exact RI.bR (h _) trivial
  · cases sc with
    | none => exact trivial
    | some q => exact h _
theorem RI.recv {x : Out} (h : RI B x) : RI B (recvAt m o k x) := by
  unfold recvAt
  exact RI.bR (RI.bR h trivial) (RI.cellN fun _ => h)
theorem RI.pop {n : Nat} : ∀ {acc st : List Value} {K : List Value → List Value → Out}, (∀ a r, RI B (K a r)) → RI B (popN n acc st K) := by
  induction n with
  | zero => intro acc st K h; exact h _ _
  | succ n ih =>
    intro acc st K h
    cases st with
    | nil => exact trivial
    | cons v st => exact ih h
end RIS
def retK (i : Instr) : Nat := match i with
  | .ireturn => 1
  | .lreturn => 2
  | .areturn => 3
  | .return_ => 3
  | _ => 0
theorem out1_ret {B : Option Value → Prop} {sc : Scr} {aM : AM} {al : Nat × Nat} {i : Instr} {n a b c : Nat} {w : Int32} {z : Int64} {pc : Nat} {L : Lo} {st : List Value} {m : Mem} {kc ks : Nat} (h1 : retK i = 1 → ∀ x, B (some (.int x))) (h2 : retK i = 2 → ∀ x, B (some (.long x))) (h3 : retK i = 3 → False) : RI B (out1 sc aM al i n a b c w z pc L st m kc ks) := by
  cases i with
  | iconst _ => exact trivial
  | bipush _ => exact trivial
  | sipush _ => exact trivial
  | lconst _ => exact trivial
  | ldc_w _ => exact trivial
  | ldc2_w _ => exact trivial
  | aconst_null => exact trivial
  | goto _ => exact trivial
  | ldc _ => cases a with
    | zero => exact trivial
    | succ a => exact trivial
  | iload _ => exact RI.gI fun _ => trivial
  | iload_n _ => exact RI.gI fun _ => trivial
  | lload _ => exact RI.gJ fun _ => trivial
  | lload_n _ => exact RI.gJ fun _ => trivial
  | aload _ =>
    show RI B (gV L a fun x => oGo (pc + n, L, x :: st, m, kc, ks))
    exact RI.gV fun _ => trivial
  | aload_n _ =>
    show RI B (gV L a fun x => oGo (pc + n, L, x :: st, m, kc, ks))
    exact RI.gV fun _ => trivial
  | istore _ => exact RI.xI fun _ _ => trivial
  | istore_n _ => exact RI.xI fun _ _ => trivial
  | lstore _ => exact RI.xJ fun _ _ => trivial
  | lstore_n _ => exact RI.xJ fun _ _ => trivial
  | astore _ =>
    show RI B (xV st fun x st => oGo (pc + n, lset1 L a x, st, m, kc, ks))
    exact RI.xV fun _ _ => trivial
  | astore_n _ =>
    show RI B (xV st fun x st => oGo (pc + n, lset1 L a x, st, m, kc, ks))
    exact RI.xV fun _ _ => trivial
  | iinc _ _ => exact RI.gI fun _ => trivial
  | dup =>
    show RI B (x1 st fun x st => oGo (pc + n, L, x :: x :: st, m, kc, ks))
    exact RI.x1 fun _ _ => trivial
  | pop =>
    show RI B (x1 st fun _ st => oGo (pc + n, L, st, m, kc, ks))
    exact RI.x1 fun _ _ => trivial
  | pop2 => exact RI.xJ fun _ _ => trivial
  | iadd => exact RI.xI fun _ _ => RI.xI fun _ _ => trivial
  | isub => exact RI.xI fun _ _ => RI.xI fun _ _ => trivial
  | imul => exact RI.xI fun _ _ => RI.xI fun _ _ => trivial
  | iand => exact RI.xI fun _ _ => RI.xI fun _ _ => trivial
  | ior => exact RI.xI fun _ _ => RI.xI fun _ _ => trivial
  | ixor => exact RI.xI fun _ _ => RI.xI fun _ _ => trivial
  | ishl => exact RI.xI fun _ _ => RI.xI fun _ _ => trivial
  | ishr => exact RI.xI fun _ _ => RI.xI fun _ _ => trivial
  | idiv => exact RI.xI fun _ _ => RI.xI fun _ _ => trivial
  | irem => exact RI.xI fun _ _ => RI.xI fun _ _ => trivial
  | ladd => exact RI.xJ fun _ _ => RI.xJ fun _ _ => trivial
  | lsub => exact RI.xJ fun _ _ => RI.xJ fun _ _ => trivial
  | lmul => exact RI.xJ fun _ _ => RI.xJ fun _ _ => trivial
  | land => exact RI.xJ fun _ _ => RI.xJ fun _ _ => trivial
  | lor => exact RI.xJ fun _ _ => RI.xJ fun _ _ => trivial
  | ldiv => exact RI.xJ fun _ _ => RI.xJ fun _ _ => trivial
  | lrem => exact RI.xJ fun _ _ => RI.xJ fun _ _ => trivial
  | lcmp => exact RI.xJ fun _ _ => RI.xJ fun _ _ => trivial
  | ineg => exact RI.xI fun _ _ => trivial
  | i2l => exact RI.xI fun _ _ => trivial
  | i2b => exact RI.xI fun _ _ => trivial
  | i2c => exact RI.xI fun _ _ => trivial
  | lneg => exact RI.xJ fun _ _ => trivial
  | l2i => exact RI.xJ fun _ _ => trivial
  | lshl => exact RI.xI fun _ _ => RI.xJ fun _ _ => trivial
  | lshr => exact RI.xI fun _ _ => RI.xJ fun _ _ => trivial
  | ifCond q _ => exact RI.xI fun _ _ => by cases q <;> exact trivial
  | if_icmp q _ => exact RI.xI fun _ _ => RI.xI fun _ _ => by cases q <;> exact trivial
  | ifnull _ =>
    show RI B (xV st fun x st => oGo (match x with | .null => a | _ => pc + 3, L, st, m, kc, ks))
    exact RI.xV fun _ _ => trivial
  | ifnonnull _ =>
    show RI B (xV st fun x st => oGo (match x with | .null => pc + 3 | _ => a, L, st, m, kc, ks))
    exact RI.xV fun _ _ => trivial
  | tableswitch _ _ _ _ => exact RI.xI fun _ _ => trivial
  | iaload => exact RI.xI fun _ _ => RI.xR fun _ _ => RI.ints fun _ _ => trivial
  | baload => exact RI.xI fun _ _ => RI.xR fun _ _ => RI.bytes fun _ _ => trivial
  | laload => exact RI.xI fun _ _ => RI.xR fun o st => RI.cellN fun _ => trivial
  | aaload => exact RI.xI fun _ _ => RI.xR fun o st => RI.cellN fun _ => trivial
  | iastore => exact RI.xI fun _ _ => RI.xI fun _ _ => RI.xR fun _ _ => RI.cellN fun _ => trivial
  | lastore => exact RI.xJ fun _ _ => RI.xI fun _ _ => RI.xR fun _ _ => RI.cellN fun _ => trivial
  | aastore => exact RI.xR fun _ _ => RI.xI fun _ _ => RI.xR fun _ _ => RI.cellN fun _ => RI.cellN fun _ => trivial
  | bastore =>
    refine RI.xI fun x r => RI.xI fun j r => RI.xR fun o r => ?_
    cases m.1[o]? with
    | none => exact trivial
    | some p =>
      obtain ⟨p1, p2⟩ := p
      by_cases h1 : p1 = 22
      · subst h1; exact trivial
      · by_cases h2 : p1 = 23
        · subst h2; exact trivial
        · have e : ∀ (x y : Out), (match (generalizing := false) p1 with
            | 22 => x
            | 23 => y
            | _ => none) = none := by
            intro x y
            split
            · exact absurd rfl h1
            · exact absurd rfl h2
            · rfl
          show RI B (match (generalizing := false) p1 with
            | 22 => _
            | 23 => _
            | _ => none)
          rw [e]
          exact trivial
  | arraylength => exact RI.xR fun _ _ => RI.len fun _ => trivial
  | getfield _ =>
    refine RI.xR fun o r => ?_
    by_cases h8 : c = 8
    · subst h8; exact RI.bR trivial trivial
    · by_cases h9 : c = 9
      · subst h9; exact RI.bR trivial trivial
      · show RI B (match (generalizing := false) c with
          | 8 => _
          | 9 => _
          | c => cellN m.1 o a fun _ => oGo (pc + n, L, fv c (m.2 o b) :: r, m, kc, ks))
        split
        · exact absurd rfl h8
        · exact absurd rfl h9
        · exact RI.cellN fun _ => trivial
  | putfield _ =>
    have hc : c = 1 ∨ c = 2 ∨ c = 3 ∨ (c ≠ 1 ∧ c ≠ 2 ∧ c ≠ 3) := by omega
    rcases hc with rfl | rfl | rfl | ⟨h1, h2, h3⟩
    · exact RI.xJ fun _ _ => RI.xR fun _ _ => RI.cellN fun _ => trivial
    · show RI B (xV st fun x st => xR st fun o st => cellN m.1 o a fun _ => oGo (pc + n, L, st, (m.1, up m.2 o b x), kc, ks))
      exact RI.xV fun _ _ => RI.xR fun _ _ => RI.cellN fun _ => trivial
    · exact RI.xI fun _ _ => RI.xR fun _ _ => RI.cellN fun _ => trivial
    · unfold out1
      dsimp only
      split
      · exact absurd rfl h1
      · exact absurd rfl h2
      · exact absurd rfl h3
      · exact RI.xI fun _ _ => RI.xR fun _ _ => RI.cellN fun _ => trivial
  | getstatic _ => cases a with
    | zero => exact trivial
    | succ a => exact trivial
  | new _ => exact trivial
  | newarray _ => exact RI.xI fun _ _ => trivial
  | anewarray _ => exact RI.xI fun _ _ => trivial
  | invokestatic _ =>
    rcases (show c = 0 ∨ c = 1 ∨ c = 2 ∨ c = 3 ∨ c = 4 ∨ c = 5 ∨ 6 ≤ c by omega) with e | e | e | e | e | e | e
    · subst e; exact RI.pop fun _ _ => trivial
    · subst e; exact RI.xI fun _ _ => RI.xI fun _ _ => trivial
    · subst e; exact RI.xI fun _ _ => RI.xI fun _ _ => trivial
    · subst e; exact RI.xJ fun _ _ => RI.xJ fun _ _ => trivial
    · subst e; exact RI.xJ fun _ _ => RI.xJ fun _ _ => trivial
    · subst e; exact RI.xJ fun _ _ => trivial
    · obtain ⟨q, rfl⟩ : ∃ q, c = q + 6 := ⟨c - 6, by omega⟩
      exact trivial
  | invokevirtual _ => exact RI.pop fun _ _ => RI.xR fun _ _ => RI.recv (trivial)
  | invokespecial _ => cases c with
    | zero => exact RI.xR fun _ _ => trivial
    | succ c => exact RI.pop fun _ _ => RI.xR fun _ _ => trivial
  | ireturn =>
    cases st with
    | nil => exact trivial
    | cons v r => cases r with
      | nil => cases v with
        | int x => cases a with
          | zero => exact RI.bR (h1 rfl x) trivial
          | succ a => exact RI.bR (h1 rfl x) trivial
        | _ => exact trivial
      | cons v2 r2 => cases v <;> exact trivial
  | lreturn =>
    cases st with
    | nil => exact trivial
    | cons v r => cases r with
      | nil => cases v with
        | long x => exact RI.bR (h2 rfl x) trivial
        | _ => exact trivial
      | cons v2 r2 => cases v <;> exact trivial
  | areturn => exact (h3 rfl).elim
  | return_ => exact (h3 rfl).elim
  | _ => exact trivial
def rkE (k : Nat) (e : Ent) : Bool := Nat.beq (retK e.2.1) 0 || Nat.beq (retK e.2.1) k
def rkM (k : Nat) (f : Mth) : Bool := f.2.2.2.2.2.1.all (fun r => r.all (rkE k))
def KV (k : Nat) (r : Option Value) : Prop := (k = 1 ∧ ∃ x, r = some (.int x)) ∨ (k = 2 ∧ ∃ x, r = some (.long x))
theorem ex1_ret {B : Option Value → Prop} {E : Cal} {P : Cfg → Prop} {Q : Option Value → Mem → Prop} {o : Out} (hr : RI B o) (h : ex1 E P Q o) : ex1 E P (fun r m => Q r m ∧ B r) o := by
  rcases o with _ | c | ⟨f, c⟩ | ⟨f, v, m⟩ | ⟨f, g, a, m, k⟩
  · exact h
  · exact h
  · exact h
  · exact ⟨h.1, h.2, hr⟩
  · exact h
theorem Go.ret {sc : Scr} {aM : AM} {E : Cal} {f : Mth} {k : Nat} {Q : Option Value → Mem → Prop} (hk : k = 1 ∨ k = 2) (hf : rkM k f = true) {c : Cfg} (h : Go sc aM E f Q c) : Go sc aM E f (fun r m => Q r m ∧ KV k r) c := by
  intro P hP
  refine h P (fun c hc => hP c ?_)
  obtain ⟨pc, L, st, m, kc, ks⟩ := c
  unfold exec at hc ⊢
  refine ex1_ret ?_ hc
  show RI _ (out sc aM f (pc, L, st, m, kc, ks))
  rw [out_eq]
  cases hlk : lkc f.2.2.2.2.2.1 pc with
  | none => exact trivial
  | some e =>
    have he := (lkc_spec hf hlk).1
    unfold rkE at he
    rw [Bool.or_eq_true] at he
    refine out1_ret (fun q x => ?_) (fun q x => ?_) (fun q => ?_)
    · rcases he with z | z
      · have := Nat.eq_of_beq_eq_true z; omega
      · have := Nat.eq_of_beq_eq_true z
        exact Or.inl ⟨by omega, x, rfl⟩
    · rcases he with z | z
      · have := Nat.eq_of_beq_eq_true z; omega
      · have := Nat.eq_of_beq_eq_true z
        exact Or.inr ⟨by omega, x, rfl⟩
    · rcases he with z | z
      · have := Nat.eq_of_beq_eq_true z; omega
      · have := Nat.eq_of_beq_eq_true z; omega
theorem Ev.ret {d g k : Nat} {as : List Value} {m : Mem} {Q : Option Value → Mem → Prop} (hk : k = 1 ∨ k = 2) (hf : rkM k (mt g) = true) (h : Ev mt aM d g as m Q) : Ev mt aM d g as m (fun r m => Q r m ∧ KV k r) := by
  cases d with
  | zero => exact h
  | succ d => exact ⟨h.1, h.2.ret hk hf⟩
/-- what comes to an end, comes to one -/
theorem Ev.no : ∀ (d g : Nat) (as : List Value) (m : Mem), ¬ Ev mt aM d g as m (fun _ _ => False) := by
  intro d
  induction d with
  | zero => intro g as m h; exact h
  | succ d ih =>
    intro g as m h
    refine h.2 (fun _ => False) (fun c hc => ?_)
    unfold exec at hc
    generalize out none aM (mt g) c = o at hc
    rcases o with _ | c | ⟨f, c⟩ | ⟨f, v, m⟩ | ⟨f, g, a, m, k⟩
    · exact hc
    · exact hc
    · exact hc.2
    · exact hc.2
    · exact ih _ _ _ hc.2
theorem Ev.kv {d g k : Nat} {as : List Value} {m : Mem} {v : Value} (hk : k = 1 ∨ k = 2) (hf : rkM k (mt g) = true) (h : Ev mt aM d g as m (fun r _ => r = some v)) : KV k (some v) := by
  have h2 := h.ret hk hf
  refine Classical.byContradiction (fun q => Ev.no d g as m (Ev.mono _ _ _ _ _ _ (fun r m1 hr => ?_) h2))
  rw [hr.1] at hr
  exact q hr.2
theorem OPR.run {S : St} {gc gm k : Nat} {as : List Value} (hk : k = 1 ∨ k = 2) (hf : rkM k (mt gc) = true) (h : OPR S gc gm as) {I : Nat → Nat → Int32} {J : Nat → Nat → Int64} {T : Nat → Nat → Nat} (hc : CINV S I J T) (hm : MINV S I) : ∃ (v : Value) (S' : St), KV k (some v) ∧ PUR S' ∧ (∀ (d : Nat) (Q : Option Value → Mem → Prop), (∀ I1 J1 T1, MINV S I1 → CINV S' I1 J1 T1 → Q (some v) (SH, mkM I1 J1 T1)) → Ev mt aM (d + 50) gc (.ref 0 :: as) (SH, mkM I J T) Q) ∧ ∀ (d : Nat) (I1 : Nat → Nat → Int32) (J1 : Nat → Nat → Int64) (T1 : Nat → Nat → Nat) (Q : Option Value → Mem → Prop), MINV S I1 → CINV S' I1 J1 T1 → (∀ I2 J2, CINV S' I2 J2 T1 → MINV S' I2 → Q (some v) (SH, mkM I2 J2 T1)) → Ev mt aM (d + 50) gm (.ref 83 :: as) (SH, mkM I1 J1 T1) Q := by
  obtain ⟨v, S', hS, h1, h2⟩ := h
  exact ⟨v, S', Ev.kv hk hf (h1 0 I J T _ hc (fun _ _ _ _ _ _ => rfl)), hS, fun d Q g => h1 d I J T Q hc (fun I1 J1 T1 f j c => g I1 J1 T1 (hm.fr f) c), fun d I1 J1 T1 Q m c g => h2 d I1 J1 T1 Q m (fun I2 J2 f j m2 => g I2 J2 (c.fr f j) m2)⟩
