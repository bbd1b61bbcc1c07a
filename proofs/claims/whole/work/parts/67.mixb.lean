/-! the class's divisor, its loop. -/
set_option maxRecDepth 20000 in
theorem gdn_9 {d : Nat} {t : Int32} {a b : Int64} {I : Nat → Nat → Int32} {J : Nat → Nat → Int64} {T : Nat → Nat → Nat} {Q : Option Value → Mem → Prop} (hyp : (((200 : Int32) ≤ t → Q (some (.long a)) (SH, mkM I J T)) ∧ ((¬ ((200 : Int32) ≤ t)) → ((lg_cmp b (0 : Int64) = 0 → Q (some (.long a)) (SH, mkM I J T)) ∧ ((¬ (lg_cmp b (0 : Int64) = 0)) → (¬ b = 0 ∧ Go none aM (Ev mt aM (d + 3)) mX11_greatestDivisor Q (9, [none, none, none, none, some (.long b), none, some (.long (a - a / b * b)), none, some (.int (t + 1)), none, none], [], (SH, mkM I J T), 0, 0))))))) : Go none aM (Ev mt aM (d + 3)) mX11_greatestDivisor Q (9, [none, none, none, none, some (.long a), none, some (.long b), none, some (.int t), none, none], [], (SH, mkM I J T), 0, 0) := by
  refine Go.of_run (Ev.mono _) 3 _ ?_
  show Go none aM (Ev mt aM (d + 3)) mX11_greatestDivisor Q (if (200 : Int32) ≤ t then 45 else 17, [none, none, none, none, some (.long a), none, some (.long b), none, some (.int t), none, none], [], (SH, mkM I J T), 0, 0)
  rcases Decidable.em ((200 : Int32) ≤ t) with c1 | c1
  · rw [if_pos c1]
    refine Go.of_run (Ev.mono _) 2 _ ?_
    refine ⟨trivial, ?_⟩
    show Q (some (.long a)) (SH, mkM I J T)
    exact (hyp.1 c1)
  · rw [if_neg c1]
    refine Go.of_run (Ev.mono _) 4 _ ?_
    show Go none aM (Ev mt aM (d + 3)) mX11_greatestDivisor Q (if lg_cmp b (0 : Int64) = 0 then 45 else 24, [none, none, none, none, some (.long a), none, some (.long b), none, some (.int t), none, none], [], (SH, mkM I J T), 0, 0)
    rcases Decidable.em (lg_cmp b (0 : Int64) = 0) with c2 | c2
    · rw [if_pos c2]
      refine Go.of_run (Ev.mono _) 2 _ ?_
      refine ⟨trivial, ?_⟩
      show Q (some (.long a)) (SH, mkM I J T)
      exact ((hyp.2 c1).1 c2)
    · rw [if_neg c2]
      refine Go.of_run (Ev.mono _) 3 _ ?_
      refine ⟨((hyp.2 c1).2 c2).1, ?_⟩
      show Go none aM (Ev mt aM (d + 3)) mX11_greatestDivisor Q (29, [none, none, none, none, some (.long a), none, some (.long b), none, some (.int t), none, none], [.long (a - a / b * b)], (SH, mkM I J T), 0, 0)
      refine Go.of_run (Ev.mono _) 7 _ ?_
      exact Go.weak (Ev.mono _) (LLe.cons (LLe.cons (LLe.cons (LLe.cons (LLe.cons (LLe.cons (LLe.cons (LLe.cons (LLe.cons (LLe.drop (LLe.cons LLe.nil))))))))))) ((hyp.2 c1).2 c2).2
