set_option maxRecDepth 20000 in
theorem cgm_0 {d : Nat} {w : Int32} {I : Nat → Nat → Int32} {J : Nat → Nat → Int64} {T : Nat → Nat → Nat} {Q : Option Value → Mem → Prop} (hyp : ((w < 0 → Q (some (.long (-1 : Int64))) (SH, mkM I J T)) ∧ ((¬ (w < 0)) → ((w ≤ (3 : Int32) → (((2 : Int32) ≤ w → Ev mt aM (d + 30) 167 [.ref 0, .int (w - (2 : Int32))] (SH, mkM I J T) (fun r m1 => Go none aM (Ev mt aM (d + 30)) mX11_game Q (33, [some (.ref 0), some (.int w)], r.toList ++ [], m1, 0, 0))) ∧ ((¬ ((2 : Int32) ≤ w)) → Ev mt aM (d + 30) 166 [.ref 0, .int w] (SH, mkM I J T) (fun r m1 => Go none aM (Ev mt aM (d + 30)) mX11_game Q (23, [some (.ref 0), some (.int w)], r.toList ++ [], m1, 0, 0))))) ∧ ((¬ (w ≤ (3 : Int32))) → Q (some (.long (-1 : Int64))) (SH, mkM I J T)))))) : Go none aM (Ev mt aM (d + 30)) mX11_game Q (0, [some (.ref 0), some (.int w)], [], (SH, mkM I J T), 0, 0) := by
  refine Go.of_run (Ev.mono _) 2 _ ?_
  show Go none aM (Ev mt aM (d + 30)) mX11_game Q (if w < 0 then 9 else 4, [some (.ref 0), some (.int w)], [], (SH, mkM I J T), 0, 0)
  rcases Decidable.em (w < 0) with c1 | c1
  · rw [if_pos c1]
    refine Go.of_run (Ev.mono _) 2 _ ?_
    refine ⟨trivial, ?_⟩
    show Q (some (.long (-1 : Int64))) (SH, mkM I J T)
    exact (hyp.1 c1)
  · rw [if_neg c1]
    refine Go.of_run (Ev.mono _) 3 _ ?_
    show Go none aM (Ev mt aM (d + 30)) mX11_game Q (if w ≤ (3 : Int32) then 13 else 9, [some (.ref 0), some (.int w)], [], (SH, mkM I J T), 0, 0)
    rcases Decidable.em (w ≤ (3 : Int32)) with c2 | c2
    · rw [if_pos c2]
      refine Go.of_run (Ev.mono _) 3 _ ?_
      show Go none aM (Ev mt aM (d + 30)) mX11_game Q (if (2 : Int32) ≤ w then 26 else 18, [some (.ref 0), some (.int w)], [], (SH, mkM I J T), 0, 0)
      rcases Decidable.em ((2 : Int32) ≤ w) with c3 | c3
      · rw [if_pos c3]
        refine Go.of_run (Ev.mono _) 5 _ ?_
        refine ⟨Nat.le_of_ble_eq_true rfl, (((hyp.2 c1).1 c2).1 c3)⟩
      · rw [if_neg c3]
        refine Go.of_run (Ev.mono _) 3 _ ?_
        refine ⟨Nat.le_of_ble_eq_true rfl, (((hyp.2 c1).1 c2).2 c3)⟩
    · rw [if_neg c2]
      refine Go.of_run (Ev.mono _) 2 _ ?_
      refine ⟨trivial, ?_⟩
      show Q (some (.long (-1 : Int64))) (SH, mkM I J T)
      exact ((hyp.2 c1).2 c2)
set_option maxRecDepth 20000 in
theorem cgm_23 {d : Nat} {w : Int32} {v : Int64} {I : Nat → Nat → Int32} {J : Nat → Nat → Int64} {T : Nat → Nat → Nat} {Q : Option Value → Mem → Prop} (hyp : Q (some (.long v)) (SH, mkM I J T)) : Go none aM (Ev mt aM (d + 30)) mX11_game Q (23, [some (.ref 0), some (.int w)], [.long v], (SH, mkM I J T), 0, 0) := by
  refine Go.of_run (Ev.mono _) 2 _ ?_
  refine ⟨trivial, ?_⟩
  show Q (some (.long v)) (SH, mkM I J T)
  exact hyp
set_option maxRecDepth 20000 in
theorem cgm_33 {d : Nat} {w : Int32} {v : Int64} {I : Nat → Nat → Int32} {J : Nat → Nat → Int64} {T : Nat → Nat → Nat} {Q : Option Value → Mem → Prop} (hyp : Q (some (.long v)) (SH, mkM I J T)) : Go none aM (Ev mt aM (d + 30)) mX11_game Q (33, [some (.ref 0), some (.int w)], [.long v], (SH, mkM I J T), 0, 0) := by
  refine Go.of_run (Ev.mono _) 1 _ ?_
  refine ⟨trivial, ?_⟩
  show Q (some (.long v)) (SH, mkM I J T)
  exact hyp
set_option maxRecDepth 20000 in
theorem glo_0 {d : Nat} {w : Int32} {I : Nat → Nat → Int32} {J : Nat → Nat → Int64} {T : Nat → Nat → Nat} {Q : Option Value → Mem → Prop} (hyp : Go none aM (Ev mt aM (d + 29)) mX11_gameLow Q (10, [some (.ref 0), some (.int w), some (.long (-1 : Int64)), none, some (.int (-1 : Int32)), some (.int (0 : Int32)), none, none, none, none, none], [], (SH, mkM I J T), 0, 0)) : Go none aM (Ev mt aM (d + 29)) mX11_gameLow Q (0, [some (.ref 0), some (.int w), none, none, none, none, none, none, none, none, none], [], (SH, mkM I J T), 0, 0) := by
  refine Go.of_run (Ev.mono _) 6 _ ?_
  exact hyp
set_option maxRecDepth 20000 in
theorem glo_10 {d : Nat} {w rl k : Int32} {lo : Int64} {I : Nat → Nat → Int32} {J : Nat → Nat → Int64} {T : Nat → Nat → Nat} {Q : Option Value → Mem → Prop} (hyp : (((4 : Int32) ≤ k → ((w = 0 → Q (some (.long lo)) (SH, mkM I J T)) ∧ ((¬ (w = 0)) → Q (some (.long rl.toInt64)) (SH, mkM I J T)))) ∧ ((¬ ((4 : Int32) ≤ k)) → Go none aM (Ev mt aM (d + 29)) mX11_gameLow Q (24, [some (.ref 0), some (.int w), some (.long lo), none, some (.int rl), some (.int k), some (.long (-1 : Int64)), none, some (.int (0 : Int32)), none, none], [], (SH, mkM I J T), 0, 0)))) : Go none aM (Ev mt aM (d + 29)) mX11_gameLow Q (10, [some (.ref 0), some (.int w), some (.long lo), none, some (.int rl), some (.int k), none, none, none, none, none], [], (SH, mkM I J T), 0, 0) := by
  refine Go.of_run (Ev.mono _) 3 _ ?_
  show Go none aM (Ev mt aM (d + 29)) mX11_gameLow Q (if (4 : Int32) ≤ k then 117 else 16, [some (.ref 0), some (.int w), some (.long lo), none, some (.int rl), some (.int k), none, none, none, none, none], [], (SH, mkM I J T), 0, 0)
  rcases Decidable.em ((4 : Int32) ≤ k) with c1 | c1
  · rw [if_pos c1]
    refine Go.of_run (Ev.mono _) 2 _ ?_
    show Go none aM (Ev mt aM (d + 29)) mX11_gameLow Q (if w = 0 then 121 else 125, [some (.ref 0), some (.int w), some (.long lo), none, some (.int rl), some (.int k), none, none, none, none, none], [], (SH, mkM I J T), 0, 0)
    rcases Decidable.em (w = 0) with c2 | c2
    · rw [if_pos c2]
      refine Go.of_run (Ev.mono _) 3 _ ?_
      refine ⟨trivial, ?_⟩
      show Q (some (.long lo)) (SH, mkM I J T)
      exact ((hyp.1 c1).1 c2)
    · rw [if_neg c2]
      refine Go.of_run (Ev.mono _) 3 _ ?_
      refine ⟨trivial, ?_⟩
      show Q (some (.long rl.toInt64)) (SH, mkM I J T)
      exact ((hyp.1 c1).2 c2)
  · rw [if_neg c1]
    refine Go.of_run (Ev.mono _) 4 _ ?_
    exact (hyp.2 c1)
set_option maxRecDepth 20000 in
theorem glo_24 {d : Nat} {w rl k o : Int32} {lo ls : Int64} {I : Nat → Nat → Int32} {J : Nat → Nat → Int64} {T : Nat → Nat → Nat} {Q : Option Value → Mem → Prop} (hyp : (((3 : Int32) ≤ o → ((lg_cmp ls lo ≤ 0 → Go none aM (Ev mt aM (d + 29)) mX11_gameLow Q (10, [some (.ref 0), some (.int w), some (.long lo), none, some (.int rl), some (.int (k + 1)), none, none, none, none, none], [], (SH, mkM I J T), 0, 0)) ∧ ((¬ (lg_cmp ls lo ≤ 0)) → Go none aM (Ev mt aM (d + 29)) mX11_gameLow Q (10, [some (.ref 0), some (.int w), some (.long ls), none, some (.int k), some (.int (k + 1)), none, none, none, none, none], [], (SH, mkM I J T), 0, 0)))) ∧ ((¬ ((3 : Int32) ≤ o)) → (vp_in ((4 : Int32) + k) 8 ∧ (TX (T 13 ((4 : Int32) + k).toNatClampNeg) ∧ (((¬ (v_X2_isTold ((4 : Int32) + k) I T = 0)) → (vp_in ((1 : Int32) + o) 8 ∧ TX (T 13 ((1 : Int32) + o).toNatClampNeg))) ∧ ((v_X11_isMet k o I T = 0 → ((lg_cmp (-1 : Int64) (0 : Int64) < 0 → Go none aM (Ev mt aM (d + 29)) mX11_gameLow Q (24, [some (.ref 0), some (.int w), some (.long lo), none, some (.int rl), some (.int k), some (.long ls), none, some (.int (o + 1)), none, none], [], (SH, mkM I J T), 0, 0)) ∧ ((¬ (lg_cmp (-1 : Int64) (0 : Int64) < 0)) → ((lg_cmp ls (0 : Int64) < 0 → Go none aM (Ev mt aM (d + 29)) mX11_gameLow Q (24, [some (.ref 0), some (.int w), some (.long lo), none, some (.int rl), some (.int k), some (.long (-1 : Int64)), none, some (.int (o + 1)), none, none], [], (SH, mkM I J T), 0, 0)) ∧ ((¬ (lg_cmp ls (0 : Int64) < 0)) → ((0 ≤ lg_cmp (-1 : Int64) ls → Go none aM (Ev mt aM (d + 29)) mX11_gameLow Q (24, [some (.ref 0), some (.int w), some (.long lo), none, some (.int rl), some (.int k), some (.long ls), none, some (.int (o + 1)), none, none], [], (SH, mkM I J T), 0, 0)) ∧ ((¬ (0 ≤ lg_cmp (-1 : Int64) ls)) → Go none aM (Ev mt aM (d + 29)) mX11_gameLow Q (24, [some (.ref 0), some (.int w), some (.long lo), none, some (.int rl), some (.int k), some (.long (-1 : Int64)), none, some (.int (o + 1)), none, none], [], (SH, mkM I J T), 0, 0)))))))) ∧ ((¬ (v_X11_isMet k o I T = 0)) → Ev mt aM (d + 29) 117 [.ref 73, .int k, .int o] (SH, mkM I J T) (fun r m1 => Go none aM (Ev mt aM (d + 29)) mX11_gameLow Q (52, [some (.ref 0), some (.int w), some (.long lo), none, some (.int rl), some (.int k), some (.long ls), none, some (.int o), none, none], r.toList ++ [], m1, 0, 0)))))))))) : Go none aM (Ev mt aM (d + 29)) mX11_gameLow Q (24, [some (.ref 0), some (.int w), some (.long lo), none, some (.int rl), some (.int k), some (.long ls), none, some (.int o), none, none], [], (SH, mkM I J T), 0, 0) := by
  refine Go.of_run (Ev.mono _) 3 _ ?_
  show Go none aM (Ev mt aM (d + 29)) mX11_gameLow Q (if (3 : Int32) ≤ o then 97 else 30, [some (.ref 0), some (.int w), some (.long lo), none, some (.int rl), some (.int k), some (.long ls), none, some (.int o), none, none], [], (SH, mkM I J T), 0, 0)
  rcases Decidable.em ((3 : Int32) ≤ o) with c1 | c1
  · rw [if_pos c1]
    refine Go.of_run (Ev.mono _) 4 _ ?_
    show Go none aM (Ev mt aM (d + 29)) mX11_gameLow Q (if lg_cmp ls lo ≤ 0 then 111 else 104, [some (.ref 0), some (.int w), some (.long lo), none, some (.int rl), some (.int k), some (.long ls), none, some (.int o), none, none], [], (SH, mkM I J T), 0, 0)
    rcases Decidable.em (lg_cmp ls lo ≤ 0) with c2 | c2
    · rw [if_pos c2]
      refine Go.of_run (Ev.mono _) 2 _ ?_
      exact Go.weak (Ev.mono _) (LLe.cons (LLe.cons (LLe.cons (LLe.cons (LLe.cons (LLe.cons (LLe.drop (LLe.cons (LLe.drop (LLe.cons (LLe.cons LLe.nil))))))))))) ((hyp.1 c1).1 c2)
    · rw [if_neg c2]
      refine Go.of_run (Ev.mono _) 6 _ ?_
      exact Go.weak (Ev.mono _) (LLe.cons (LLe.cons (LLe.cons (LLe.cons (LLe.cons (LLe.cons (LLe.drop (LLe.cons (LLe.drop (LLe.cons (LLe.cons LLe.nil))))))))))) ((hyp.1 c1).2 c2)
  · rw [if_neg c1]
    refine Go.of_run (Ev.mono _) 4 _ ?_
    refine ⟨Nat.le_of_ble_eq_true rfl, ev_X11_isMet ⟨(hyp.2 c1).1, ⟨(hyp.2 c1).2.1, (hyp.2 c1).2.2.1⟩⟩ ?_⟩
    show Go none aM (Ev mt aM (d + 29)) mX11_gameLow Q (38, [some (.ref 0), some (.int w), some (.long lo), none, some (.int rl), some (.int k), some (.long ls), none, some (.int o), none, none], [.int (v_X11_isMet k o I T)], (SH, mkM I J T), 0, 0)
    refine Go.of_run (Ev.mono _) 1 _ ?_
    show Go none aM (Ev mt aM (d + 29)) mX11_gameLow Q (if v_X11_isMet k o I T = 0 then 55 else 41, [some (.ref 0), some (.int w), some (.long lo), none, some (.int rl), some (.int k), some (.long ls), none, some (.int o), none, none], [], (SH, mkM I J T), 0, 0)
    rcases Decidable.em (v_X11_isMet k o I T = 0) with c3 | c3
    · rw [if_pos c3]
      refine Go.of_run (Ev.mono _) 6 _ ?_
      show Go none aM (Ev mt aM (d + 29)) mX11_gameLow Q (if lg_cmp (-1 : Int64) (0 : Int64) < 0 then 87 else 67, [some (.ref 0), some (.int w), some (.long lo), none, some (.int rl), some (.int k), some (.long ls), none, some (.int o), some (.long (-1 : Int64)), none], [], (SH, mkM I J T), 0, 0)
      rcases Decidable.em (lg_cmp (-1 : Int64) (0 : Int64) < 0) with c4 | c4
      · rw [if_pos c4]
        refine Go.of_run (Ev.mono _) 4 _ ?_
        exact Go.weak (Ev.mono _) (LLe.cons (LLe.cons (LLe.cons (LLe.cons (LLe.cons (LLe.cons (LLe.cons (LLe.cons (LLe.cons (LLe.drop (LLe.cons LLe.nil))))))))))) (((hyp.2 c1).2.2.2.1 c3).1 c4)
      · rw [if_neg c4]
        refine Go.of_run (Ev.mono _) 4 _ ?_
        show Go none aM (Ev mt aM (d + 29)) mX11_gameLow Q (if lg_cmp ls (0 : Int64) < 0 then 82 else 74, [some (.ref 0), some (.int w), some (.long lo), none, some (.int rl), some (.int k), some (.long ls), none, some (.int o), some (.long (-1 : Int64)), none], [], (SH, mkM I J T), 0, 0)
        rcases Decidable.em (lg_cmp ls (0 : Int64) < 0) with c5 | c5
        · rw [if_pos c5]
          refine Go.of_run (Ev.mono _) 5 _ ?_
          exact Go.weak (Ev.mono _) (LLe.cons (LLe.cons (LLe.cons (LLe.cons (LLe.cons (LLe.cons (LLe.cons (LLe.cons (LLe.cons (LLe.drop (LLe.cons LLe.nil))))))))))) ((((hyp.2 c1).2.2.2.1 c3).2 c4).1 c5)
        · rw [if_neg c5]
          refine Go.of_run (Ev.mono _) 4 _ ?_
          show Go none aM (Ev mt aM (d + 29)) mX11_gameLow Q (if 0 ≤ lg_cmp (-1 : Int64) ls then 87 else 82, [some (.ref 0), some (.int w), some (.long lo), none, some (.int rl), some (.int k), some (.long ls), none, some (.int o), some (.long (-1 : Int64)), none], [], (SH, mkM I J T), 0, 0)
          rcases Decidable.em (0 ≤ lg_cmp (-1 : Int64) ls) with c6 | c6
          · rw [if_pos c6]
            refine Go.of_run (Ev.mono _) 4 _ ?_
            exact Go.weak (Ev.mono _) (LLe.cons (LLe.cons (LLe.cons (LLe.cons (LLe.cons (LLe.cons (LLe.cons (LLe.cons (LLe.cons (LLe.drop (LLe.cons LLe.nil))))))))))) (((((hyp.2 c1).2.2.2.1 c3).2 c4).2 c5).1 c6)
          · rw [if_neg c6]
            refine Go.of_run (Ev.mono _) 5 _ ?_
            exact Go.weak (Ev.mono _) (LLe.cons (LLe.cons (LLe.cons (LLe.cons (LLe.cons (LLe.cons (LLe.cons (LLe.cons (LLe.cons (LLe.drop (LLe.cons LLe.nil))))))))))) (((((hyp.2 c1).2.2.2.1 c3).2 c4).2 c5).2 c6)
    · rw [if_neg c3]
      refine Go.of_run (Ev.mono _) 5 _ ?_
      refine ⟨Nat.le_of_ble_eq_true rfl, ((hyp.2 c1).2.2.2.2 c3)⟩
set_option maxRecDepth 20000 in
theorem glo_52 {d : Nat} {w rl k o : Int32} {lo ls v : Int64} {I : Nat → Nat → Int32} {J : Nat → Nat → Int64} {T : Nat → Nat → Nat} {Q : Option Value → Mem → Prop} (hyp : ((lg_cmp v (0 : Int64) < 0 → Go none aM (Ev mt aM (d + 29)) mX11_gameLow Q (24, [some (.ref 0), some (.int w), some (.long lo), none, some (.int rl), some (.int k), some (.long ls), none, some (.int (o + 1)), none, none], [], (SH, mkM I J T), 0, 0)) ∧ ((¬ (lg_cmp v (0 : Int64) < 0)) → ((lg_cmp ls (0 : Int64) < 0 → Go none aM (Ev mt aM (d + 29)) mX11_gameLow Q (24, [some (.ref 0), some (.int w), some (.long lo), none, some (.int rl), some (.int k), some (.long v), none, some (.int (o + 1)), none, none], [], (SH, mkM I J T), 0, 0)) ∧ ((¬ (lg_cmp ls (0 : Int64) < 0)) → ((0 ≤ lg_cmp v ls → Go none aM (Ev mt aM (d + 29)) mX11_gameLow Q (24, [some (.ref 0), some (.int w), some (.long lo), none, some (.int rl), some (.int k), some (.long ls), none, some (.int (o + 1)), none, none], [], (SH, mkM I J T), 0, 0)) ∧ ((¬ (0 ≤ lg_cmp v ls)) → Go none aM (Ev mt aM (d + 29)) mX11_gameLow Q (24, [some (.ref 0), some (.int w), some (.long lo), none, some (.int rl), some (.int k), some (.long v), none, some (.int (o + 1)), none, none], [], (SH, mkM I J T), 0, 0)))))))) : Go none aM (Ev mt aM (d + 29)) mX11_gameLow Q (52, [some (.ref 0), some (.int w), some (.long lo), none, some (.int rl), some (.int k), some (.long ls), none, some (.int o), none, none], [.long v], (SH, mkM I J T), 0, 0) := by
  refine Go.of_run (Ev.mono _) 6 _ ?_
  show Go none aM (Ev mt aM (d + 29)) mX11_gameLow Q (if lg_cmp v (0 : Int64) < 0 then 87 else 67, [some (.ref 0), some (.int w), some (.long lo), none, some (.int rl), some (.int k), some (.long ls), none, some (.int o), some (.long v), none], [], (SH, mkM I J T), 0, 0)
  rcases Decidable.em (lg_cmp v (0 : Int64) < 0) with c1 | c1
  · rw [if_pos c1]
    refine Go.of_run (Ev.mono _) 4 _ ?_
    exact Go.weak (Ev.mono _) (LLe.cons (LLe.cons (LLe.cons (LLe.cons (LLe.cons (LLe.cons (LLe.cons (LLe.cons (LLe.cons (LLe.drop (LLe.cons LLe.nil))))))))))) (hyp.1 c1)
  · rw [if_neg c1]
    refine Go.of_run (Ev.mono _) 4 _ ?_
    show Go none aM (Ev mt aM (d + 29)) mX11_gameLow Q (if lg_cmp ls (0 : Int64) < 0 then 82 else 74, [some (.ref 0), some (.int w), some (.long lo), none, some (.int rl), some (.int k), some (.long ls), none, some (.int o), some (.long v), none], [], (SH, mkM I J T), 0, 0)
    rcases Decidable.em (lg_cmp ls (0 : Int64) < 0) with c2 | c2
    · rw [if_pos c2]
      refine Go.of_run (Ev.mono _) 5 _ ?_
      exact Go.weak (Ev.mono _) (LLe.cons (LLe.cons (LLe.cons (LLe.cons (LLe.cons (LLe.cons (LLe.cons (LLe.cons (LLe.cons (LLe.drop (LLe.cons LLe.nil))))))))))) ((hyp.2 c1).1 c2)
    · rw [if_neg c2]
      refine Go.of_run (Ev.mono _) 4 _ ?_
      show Go none aM (Ev mt aM (d + 29)) mX11_gameLow Q (if 0 ≤ lg_cmp v ls then 87 else 82, [some (.ref 0), some (.int w), some (.long lo), none, some (.int rl), some (.int k), some (.long ls), none, some (.int o), some (.long v), none], [], (SH, mkM I J T), 0, 0)
      rcases Decidable.em (0 ≤ lg_cmp v ls) with c3 | c3
      · rw [if_pos c3]
        refine Go.of_run (Ev.mono _) 4 _ ?_
        exact Go.weak (Ev.mono _) (LLe.cons (LLe.cons (LLe.cons (LLe.cons (LLe.cons (LLe.cons (LLe.cons (LLe.cons (LLe.cons (LLe.drop (LLe.cons LLe.nil))))))))))) (((hyp.2 c1).2 c2).1 c3)
      · rw [if_neg c3]
        refine Go.of_run (Ev.mono _) 5 _ ?_
        exact Go.weak (Ev.mono _) (LLe.cons (LLe.cons (LLe.cons (LLe.cons (LLe.cons (LLe.cons (LLe.cons (LLe.cons (LLe.cons (LLe.drop (LLe.cons LLe.nil))))))))))) (((hyp.2 c1).2 c2).2 c3)
set_option maxRecDepth 20000 in
theorem ghi_0 {d : Nat} {w : Int32} {I : Nat → Nat → Int32} {J : Nat → Nat → Int64} {T : Nat → Nat → Nat} {Q : Option Value → Mem → Prop} (hyp : Go none aM (Ev mt aM (d + 29)) mX11_gameHigh Q (10, [some (.ref 0), some (.int w), some (.long (-1 : Int64)), none, some (.int (-1 : Int32)), some (.int (0 : Int32)), none, none, none], [], (SH, mkM I J T), 0, 0)) : Go none aM (Ev mt aM (d + 29)) mX11_gameHigh Q (0, [some (.ref 0), some (.int w), none, none, none, none, none, none, none], [], (SH, mkM I J T), 0, 0) := by
  refine Go.of_run (Ev.mono _) 6 _ ?_
  exact hyp
set_option maxRecDepth 20000 in
theorem ghi_10 {d : Nat} {w rl k : Int32} {lo : Int64} {I : Nat → Nat → Int32} {J : Nat → Nat → Int64} {T : Nat → Nat → Nat} {Q : Option Value → Mem → Prop} (hyp : (((3 : Int32) ≤ k → ((w = 0 → Q (some (.long lo)) (SH, mkM I J T)) ∧ ((¬ (w = 0)) → Q (some (.long rl.toInt64)) (SH, mkM I J T)))) ∧ ((¬ ((3 : Int32) ≤ k)) → Go none aM (Ev mt aM (d + 29)) mX11_gameHigh Q (24, [some (.ref 0), some (.int w), some (.long lo), none, some (.int rl), some (.int k), some (.long (-1 : Int64)), none, some (.int (0 : Int32))], [], (SH, mkM I J T), 0, 0)))) : Go none aM (Ev mt aM (d + 29)) mX11_gameHigh Q (10, [some (.ref 0), some (.int w), some (.long lo), none, some (.int rl), some (.int k), none, none, none], [], (SH, mkM I J T), 0, 0) := by
  refine Go.of_run (Ev.mono _) 3 _ ?_
  show Go none aM (Ev mt aM (d + 29)) mX11_gameHigh Q (if (3 : Int32) ≤ k then 103 else 16, [some (.ref 0), some (.int w), some (.long lo), none, some (.int rl), some (.int k), none, none, none], [], (SH, mkM I J T), 0, 0)
  rcases Decidable.em ((3 : Int32) ≤ k) with c1 | c1
  · rw [if_pos c1]
    refine Go.of_run (Ev.mono _) 2 _ ?_
    show Go none aM (Ev mt aM (d + 29)) mX11_gameHigh Q (if w = 0 then 107 else 111, [some (.ref 0), some (.int w), some (.long lo), none, some (.int rl), some (.int k), none, none, none], [], (SH, mkM I J T), 0, 0)
    rcases Decidable.em (w = 0) with c2 | c2
    · rw [if_pos c2]
      refine Go.of_run (Ev.mono _) 3 _ ?_
      refine ⟨trivial, ?_⟩
      show Q (some (.long lo)) (SH, mkM I J T)
      exact ((hyp.1 c1).1 c2)
    · rw [if_neg c2]
      refine Go.of_run (Ev.mono _) 3 _ ?_
      refine ⟨trivial, ?_⟩
      show Q (some (.long rl.toInt64)) (SH, mkM I J T)
      exact ((hyp.1 c1).2 c2)
  · rw [if_neg c1]
    refine Go.of_run (Ev.mono _) 4 _ ?_
    exact (hyp.2 c1)
set_option maxRecDepth 20000 in
theorem ghi_24 {d : Nat} {w rl k o : Int32} {lo ls : Int64} {I : Nat → Nat → Int32} {J : Nat → Nat → Int64} {T : Nat → Nat → Nat} {Q : Option Value → Mem → Prop} (hyp : (((4 : Int32) ≤ o → ((lg_cmp ls (0 : Int64) < 0 → Go none aM (Ev mt aM (d + 29)) mX11_gameHigh Q (10, [some (.ref 0), some (.int w), some (.long lo), none, some (.int rl), some (.int (k + 1)), none, none, none], [], (SH, mkM I J T), 0, 0)) ∧ ((¬ (lg_cmp ls (0 : Int64) < 0)) → ((lg_cmp lo (0 : Int64) < 0 → Go none aM (Ev mt aM (d + 29)) mX11_gameHigh Q (10, [some (.ref 0), some (.int w), some (.long ls), none, some (.int k), some (.int (k + 1)), none, none, none], [], (SH, mkM I J T), 0, 0)) ∧ ((¬ (lg_cmp lo (0 : Int64) < 0)) → ((0 ≤ lg_cmp ls lo → Go none aM (Ev mt aM (d + 29)) mX11_gameHigh Q (10, [some (.ref 0), some (.int w), some (.long lo), none, some (.int rl), some (.int (k + 1)), none, none, none], [], (SH, mkM I J T), 0, 0)) ∧ ((¬ (0 ≤ lg_cmp ls lo)) → Go none aM (Ev mt aM (d + 29)) mX11_gameHigh Q (10, [some (.ref 0), some (.int w), some (.long ls), none, some (.int k), some (.int (k + 1)), none, none, none], [], (SH, mkM I J T), 0, 0)))))))) ∧ ((¬ ((4 : Int32) ≤ o)) → (vp_in ((4 : Int32) + o) 8 ∧ (TX (T 13 ((4 : Int32) + o).toNatClampNeg) ∧ (((¬ (v_X2_isTold ((4 : Int32) + o) I T = 0)) → (vp_in ((1 : Int32) + k) 8 ∧ TX (T 13 ((1 : Int32) + k).toNatClampNeg))) ∧ ((v_X11_isMet o k I T = 0 → Go none aM (Ev mt aM (d + 29)) mX11_gameHigh Q (24, [some (.ref 0), some (.int w), some (.long lo), none, some (.int rl), some (.int k), some (.long ls), none, some (.int (o + 1))], [], (SH, mkM I J T), 0, 0)) ∧ ((¬ (v_X11_isMet o k I T = 0)) → Ev mt aM (d + 29) 117 [.ref 73, .int o, .int k] (SH, mkM I J T) (fun r m1 => Go none aM (Ev mt aM (d + 29)) mX11_gameHigh Q (54, [some (.ref 0), some (.int w), some (.long lo), none, some (.int rl), some (.int k), some (.long ls), none, some (.int o)], r.toList ++ [.long ls], m1, 0, 0)))))))))) : Go none aM (Ev mt aM (d + 29)) mX11_gameHigh Q (24, [some (.ref 0), some (.int w), some (.long lo), none, some (.int rl), some (.int k), some (.long ls), none, some (.int o)], [], (SH, mkM I J T), 0, 0) := by
  refine Go.of_run (Ev.mono _) 3 _ ?_
  show Go none aM (Ev mt aM (d + 29)) mX11_gameHigh Q (if (4 : Int32) ≤ o then 70 else 30, [some (.ref 0), some (.int w), some (.long lo), none, some (.int rl), some (.int k), some (.long ls), none, some (.int o)], [], (SH, mkM I J T), 0, 0)
  rcases Decidable.em ((4 : Int32) ≤ o) with c1 | c1
  · rw [if_pos c1]
    refine Go.of_run (Ev.mono _) 4 _ ?_
    show Go none aM (Ev mt aM (d + 29)) mX11_gameHigh Q (if lg_cmp ls (0 : Int64) < 0 then 97 else 77, [some (.ref 0), some (.int w), some (.long lo), none, some (.int rl), some (.int k), some (.long ls), none, some (.int o)], [], (SH, mkM I J T), 0, 0)
    rcases Decidable.em (lg_cmp ls (0 : Int64) < 0) with c2 | c2
    · rw [if_pos c2]
      refine Go.of_run (Ev.mono _) 2 _ ?_
      exact Go.weak (Ev.mono _) (LLe.cons (LLe.cons (LLe.cons (LLe.cons (LLe.cons (LLe.cons (LLe.drop (LLe.cons (LLe.drop LLe.nil))))))))) ((hyp.1 c1).1 c2)
    · rw [if_neg c2]
      refine Go.of_run (Ev.mono _) 4 _ ?_
      show Go none aM (Ev mt aM (d + 29)) mX11_gameHigh Q (if lg_cmp lo (0 : Int64) < 0 then 90 else 83, [some (.ref 0), some (.int w), some (.long lo), none, some (.int rl), some (.int k), some (.long ls), none, some (.int o)], [], (SH, mkM I J T), 0, 0)
      rcases Decidable.em (lg_cmp lo (0 : Int64) < 0) with c3 | c3
      · rw [if_pos c3]
        refine Go.of_run (Ev.mono _) 6 _ ?_
        exact Go.weak (Ev.mono _) (LLe.cons (LLe.cons (LLe.cons (LLe.cons (LLe.cons (LLe.cons (LLe.drop (LLe.cons (LLe.drop LLe.nil))))))))) (((hyp.1 c1).2 c2).1 c3)
      · rw [if_neg c3]
        refine Go.of_run (Ev.mono _) 4 _ ?_
        show Go none aM (Ev mt aM (d + 29)) mX11_gameHigh Q (if 0 ≤ lg_cmp ls lo then 97 else 90, [some (.ref 0), some (.int w), some (.long lo), none, some (.int rl), some (.int k), some (.long ls), none, some (.int o)], [], (SH, mkM I J T), 0, 0)
        rcases Decidable.em (0 ≤ lg_cmp ls lo) with c4 | c4
        · rw [if_pos c4]
          refine Go.of_run (Ev.mono _) 2 _ ?_
          exact Go.weak (Ev.mono _) (LLe.cons (LLe.cons (LLe.cons (LLe.cons (LLe.cons (LLe.cons (LLe.drop (LLe.cons (LLe.drop LLe.nil))))))))) ((((hyp.1 c1).2 c2).2 c3).1 c4)
        · rw [if_neg c4]
          refine Go.of_run (Ev.mono _) 6 _ ?_
          exact Go.weak (Ev.mono _) (LLe.cons (LLe.cons (LLe.cons (LLe.cons (LLe.cons (LLe.cons (LLe.drop (LLe.cons (LLe.drop LLe.nil))))))))) ((((hyp.1 c1).2 c2).2 c3).2 c4)
  · rw [if_neg c1]
    refine Go.of_run (Ev.mono _) 4 _ ?_
    refine ⟨Nat.le_of_ble_eq_true rfl, ev_X11_isMet ⟨(hyp.2 c1).1, ⟨(hyp.2 c1).2.1, (hyp.2 c1).2.2.1⟩⟩ ?_⟩
    show Go none aM (Ev mt aM (d + 29)) mX11_gameHigh Q (38, [some (.ref 0), some (.int w), some (.long lo), none, some (.int rl), some (.int k), some (.long ls), none, some (.int o)], [.int (v_X11_isMet o k I T)], (SH, mkM I J T), 0, 0)
    refine Go.of_run (Ev.mono _) 1 _ ?_
    show Go none aM (Ev mt aM (d + 29)) mX11_gameHigh Q (if v_X11_isMet o k I T = 0 then 60 else 41, [some (.ref 0), some (.int w), some (.long lo), none, some (.int rl), some (.int k), some (.long ls), none, some (.int o)], [], (SH, mkM I J T), 0, 0)
    rcases Decidable.em (v_X11_isMet o k I T = 0) with c5 | c5
    · rw [if_pos c5]
      refine Go.of_run (Ev.mono _) 4 _ ?_
      exact ((hyp.2 c1).2.2.2.1 c5)
    · rw [if_neg c5]
      refine Go.of_run (Ev.mono _) 6 _ ?_
      refine ⟨Nat.le_of_ble_eq_true rfl, ((hyp.2 c1).2.2.2.2 c5)⟩
set_option maxRecDepth 20000 in
theorem ghi_54 {d : Nat} {w rl k o : Int32} {lo ls v : Int64} {I : Nat → Nat → Int32} {J : Nat → Nat → Int64} {T : Nat → Nat → Nat} {Q : Option Value → Mem → Prop} (hyp : Go none aM (Ev mt aM (d + 29)) mX11_gameHigh Q (24, [some (.ref 0), some (.int w), some (.long lo), none, some (.int rl), some (.int k), some (.long (if v < ls then ls else v)), none, some (.int (o + 1))], [], (SH, mkM I J T), 0, 0)) : Go none aM (Ev mt aM (d + 29)) mX11_gameHigh Q (54, [some (.ref 0), some (.int w), some (.long lo), none, some (.int rl), some (.int k), some (.long ls), none, some (.int o)], [.long v, .long ls], (SH, mkM I J T), 0, 0) := by
  refine Go.of_run (Ev.mono _) 1 _ ?_
  refine ⟨Nat.le_of_ble_eq_true rfl, ?_⟩
  show Go none aM (Ev mt aM (d + 29)) mX11_gameHigh Q (57, [some (.ref 0), some (.int w), some (.long lo), none, some (.int rl), some (.int k), some (.long ls), none, some (.int o)], [.long (if v < ls then ls else v)], (SH, mkM I J T), 0, 0)
  refine Go.of_run (Ev.mono _) 4 _ ?_
  exact hyp
set_option maxRecDepth 20000 in
theorem cmx_0 {d : Nat} {i j x y w : Int32} {I : Nat → Nat → Int32} {J : Nat → Nat → Int64} {T : Nat → Nat → Nat} {Q : Option Value → Mem → Prop} (hyp : (((¬ (i < 0)) → ((¬ ((4 : Int32) ≤ i)) → ((¬ (j < 0)) → ((¬ ((4 : Int32) ≤ j)) → ((¬ (i = j)) → (vp_in ((4 : Int32) + i) 8 ∧ (TX (T 13 ((4 : Int32) + i).toNatClampNeg) ∧ ((¬ (v_X2_isTold ((4 : Int32) + i) I T = 0)) → (vp_in ((4 : Int32) + j) 8 ∧ TX (T 13 ((4 : Int32) + j).toNatClampNeg)))))))))) ∧ ((v_X11_isTwo i j (4 : Int32) (4 : Int32) I T = 0 → Q (some (.long (-1 : Int64))) (SH, mkM I J T)) ∧ ((¬ (v_X11_isTwo i j (4 : Int32) (4 : Int32) I T = 0)) → (((¬ (x < 0)) → ((¬ ((3 : Int32) ≤ x)) → ((¬ (y < 0)) → ((¬ ((3 : Int32) ≤ y)) → ((¬ (x = y)) → (vp_in ((1 : Int32) + x) 8 ∧ (TX (T 13 ((1 : Int32) + x).toNatClampNeg) ∧ ((¬ (v_X2_isTold ((1 : Int32) + x) I T = 0)) → (vp_in ((1 : Int32) + y) 8 ∧ TX (T 13 ((1 : Int32) + y).toNatClampNeg)))))))))) ∧ ((v_X11_isTwo x y (1 : Int32) (3 : Int32) I T = 0 → Q (some (.long (-1 : Int64))) (SH, mkM I J T)) ∧ ((¬ (v_X11_isTwo x y (1 : Int32) (3 : Int32) I T = 0)) → ((w < 0 → Q (some (.long (-1 : Int64))) (SH, mkM I J T)) ∧ ((¬ (w < 0)) → ((w ≤ (2 : Int32) → Ev mt aM (d + 30) 117 [.ref 73, .int i, .int x] (SH, mkM I J T) (fun r m1 => Go none aM (Ev mt aM (d + 30)) mX11_mixed Q (51, [some (.ref 0), some (.int i), some (.int j), some (.int x), some (.int y), some (.int w)], r.toList ++ [], m1, 0, 0))) ∧ ((¬ (w ≤ (2 : Int32))) → Q (some (.long (-1 : Int64))) (SH, mkM I J T)))))))))))) : Go none aM (Ev mt aM (d + 30)) mX11_mixed Q (0, [some (.ref 0), some (.int i), some (.int j), some (.int x), some (.int y), some (.int w)], [], (SH, mkM I J T), 0, 0) := by
  refine Go.of_run (Ev.mono _) 6 _ ?_
  refine ⟨Nat.le_of_ble_eq_true rfl, ev_X11_isTwo hyp.1 ?_⟩
  show Go none aM (Ev mt aM (d + 30)) mX11_mixed Q (8, [some (.ref 0), some (.int i), some (.int j), some (.int x), some (.int y), some (.int w)], [.int (v_X11_isTwo i j (4 : Int32) (4 : Int32) I T)], (SH, mkM I J T), 0, 0)
  refine Go.of_run (Ev.mono _) 1 _ ?_
  show Go none aM (Ev mt aM (d + 30)) mX11_mixed Q (if v_X11_isTwo i j (4 : Int32) (4 : Int32) I T = 0 then 23 else 11, [some (.ref 0), some (.int i), some (.int j), some (.int x), some (.int y), some (.int w)], [], (SH, mkM I J T), 0, 0)
  rcases Decidable.em (v_X11_isTwo i j (4 : Int32) (4 : Int32) I T = 0) with c1 | c1
  · rw [if_pos c1]
    refine Go.of_run (Ev.mono _) 2 _ ?_
    refine ⟨trivial, ?_⟩
    show Q (some (.long (-1 : Int64))) (SH, mkM I J T)
    exact (hyp.2.1 c1)
  · rw [if_neg c1]
    refine Go.of_run (Ev.mono _) 6 _ ?_
    refine ⟨Nat.le_of_ble_eq_true rfl, ev_X11_isTwo (hyp.2.2 c1).1 ?_⟩
    show Go none aM (Ev mt aM (d + 30)) mX11_mixed Q (20, [some (.ref 0), some (.int i), some (.int j), some (.int x), some (.int y), some (.int w)], [.int (v_X11_isTwo x y (1 : Int32) (3 : Int32) I T)], (SH, mkM I J T), 0, 0)
    refine Go.of_run (Ev.mono _) 1 _ ?_
    show Go none aM (Ev mt aM (d + 30)) mX11_mixed Q (if v_X11_isTwo x y (1 : Int32) (3 : Int32) I T = 0 then 23 else 27, [some (.ref 0), some (.int i), some (.int j), some (.int x), some (.int y), some (.int w)], [], (SH, mkM I J T), 0, 0)
    rcases Decidable.em (v_X11_isTwo x y (1 : Int32) (3 : Int32) I T = 0) with c2 | c2
    · rw [if_pos c2]
      refine Go.of_run (Ev.mono _) 2 _ ?_
      refine ⟨trivial, ?_⟩
      show Q (some (.long (-1 : Int64))) (SH, mkM I J T)
      exact ((hyp.2.2 c1).2.1 c2)
    · rw [if_neg c2]
      refine Go.of_run (Ev.mono _) 2 _ ?_
      show Go none aM (Ev mt aM (d + 30)) mX11_mixed Q (if w < 0 then 38 else 32, [some (.ref 0), some (.int i), some (.int j), some (.int x), some (.int y), some (.int w)], [], (SH, mkM I J T), 0, 0)
      rcases Decidable.em (w < 0) with c3 | c3
      · rw [if_pos c3]
        refine Go.of_run (Ev.mono _) 2 _ ?_
        refine ⟨trivial, ?_⟩
        show Q (some (.long (-1 : Int64))) (SH, mkM I J T)
        exact (((hyp.2.2 c1).2.2 c2).1 c3)
      · rw [if_neg c3]
        refine Go.of_run (Ev.mono _) 3 _ ?_
        show Go none aM (Ev mt aM (d + 30)) mX11_mixed Q (if w ≤ (2 : Int32) then 42 else 38, [some (.ref 0), some (.int i), some (.int j), some (.int x), some (.int y), some (.int w)], [], (SH, mkM I J T), 0, 0)
        rcases Decidable.em (w ≤ (2 : Int32)) with c4 | c4
        · rw [if_pos c4]
          refine Go.of_run (Ev.mono _) 5 _ ?_
          refine ⟨Nat.le_of_ble_eq_true rfl, ((((hyp.2.2 c1).2.2 c2).2 c3).1 c4)⟩
        · rw [if_neg c4]
          refine Go.of_run (Ev.mono _) 2 _ ?_
          refine ⟨trivial, ?_⟩
          show Q (some (.long (-1 : Int64))) (SH, mkM I J T)
          exact ((((hyp.2.2 c1).2.2 c2).2 c3).2 c4)
set_option maxRecDepth 20000 in
theorem cmx_51 {d : Nat} {i j x y w : Int32} {p : Int64} {I : Nat → Nat → Int32} {J : Nat → Nat → Int64} {T : Nat → Nat → Nat} {Q : Option Value → Mem → Prop} (hyp : Ev mt aM (d + 30) 117 [.ref 73, .int i, .int y] (SH, mkM I J T) (fun r m1 => Go none aM (Ev mt aM (d + 30)) mX11_mixed Q (61, [some (.ref 0), some (.int i), some (.int j), some (.int x), some (.int y), some (.int w)], r.toList ++ [.long p], m1, 0, 0))) : Go none aM (Ev mt aM (d + 30)) mX11_mixed Q (51, [some (.ref 0), some (.int i), some (.int j), some (.int x), some (.int y), some (.int w)], [.long p], (SH, mkM I J T), 0, 0) := by
  refine Go.of_run (Ev.mono _) 5 _ ?_
  refine ⟨Nat.le_of_ble_eq_true rfl, hyp⟩
set_option maxRecDepth 20000 in
theorem cmx_61 {d : Nat} {i j x y w : Int32} {p q : Int64} {I : Nat → Nat → Int32} {J : Nat → Nat → Int64} {T : Nat → Nat → Nat} {Q : Option Value → Mem → Prop} (hyp : Ev mt aM (d + 30) 117 [.ref 73, .int j, .int x] (SH, mkM I J T) (fun r m1 => Go none aM (Ev mt aM (d + 30)) mX11_mixed Q (70, [some (.ref 0), some (.int i), some (.int j), some (.int x), some (.int y), some (.int w)], r.toList ++ [.long q, .long p], m1, 0, 0))) : Go none aM (Ev mt aM (d + 30)) mX11_mixed Q (61, [some (.ref 0), some (.int i), some (.int j), some (.int x), some (.int y), some (.int w)], [.long q, .long p], (SH, mkM I J T), 0, 0) := by
  refine Go.of_run (Ev.mono _) 5 _ ?_
  refine ⟨Nat.le_of_ble_eq_true rfl, hyp⟩
set_option maxRecDepth 20000 in
theorem cmx_70 {d : Nat} {i j x y w : Int32} {p q u : Int64} {I : Nat → Nat → Int32} {J : Nat → Nat → Int64} {T : Nat → Nat → Nat} {Q : Option Value → Mem → Prop} (hyp : Ev mt aM (d + 30) 117 [.ref 73, .int j, .int y] (SH, mkM I J T) (fun r m1 => Go none aM (Ev mt aM (d + 30)) mX11_mixed Q (80, [some (.ref 0), some (.int i), some (.int j), some (.int x), some (.int y), some (.int w)], r.toList ++ [.long u, .long q, .long p], m1, 0, 0))) : Go none aM (Ev mt aM (d + 30)) mX11_mixed Q (70, [some (.ref 0), some (.int i), some (.int j), some (.int x), some (.int y), some (.int w)], [.long u, .long q, .long p], (SH, mkM I J T), 0, 0) := by
  refine Go.of_run (Ev.mono _) 5 _ ?_
  refine ⟨Nat.le_of_ble_eq_true rfl, hyp⟩
set_option maxRecDepth 20000 in
theorem cmx_80 {d : Nat} {i j x y w : Int32} {p q u v : Int64} {I : Nat → Nat → Int32} {J : Nat → Nat → Int64} {T : Nat → Nat → Nat} {Q : Option Value → Mem → Prop} (hyp : Ev mt aM (d + 30) 169 [.long p, .long q, .long u, .long v, .int w] (SH, mkM I J T) (fun r m1 => Go none aM (Ev mt aM (d + 30)) mX11_mixed Q (85, [some (.ref 0), some (.int i), some (.int j), some (.int x), some (.int y), some (.int w)], r.toList ++ [], m1, 0, 0))) : Go none aM (Ev mt aM (d + 30)) mX11_mixed Q (80, [some (.ref 0), some (.int i), some (.int j), some (.int x), some (.int y), some (.int w)], [.long v, .long u, .long q, .long p], (SH, mkM I J T), 0, 0) := by
  refine Go.of_run (Ev.mono _) 2 _ ?_
  refine ⟨Nat.le_of_ble_eq_true rfl, hyp⟩
set_option maxRecDepth 20000 in
theorem cmx_85 {d : Nat} {i j x y w : Int32} {v : Int64} {I : Nat → Nat → Int32} {J : Nat → Nat → Int64} {T : Nat → Nat → Nat} {Q : Option Value → Mem → Prop} (hyp : Q (some (.long v)) (SH, mkM I J T)) : Go none aM (Ev mt aM (d + 30)) mX11_mixed Q (85, [some (.ref 0), some (.int i), some (.int j), some (.int x), some (.int y), some (.int w)], [.long v], (SH, mkM I J T), 0, 0) := by
  refine Go.of_run (Ev.mono _) 1 _ ?_
  refine ⟨trivial, ?_⟩
  show Q (some (.long v)) (SH, mkM I J T)
  exact hyp
set_option maxRecDepth 20000 in
theorem mxo_0 {d : Nat} {w : Int32} {p q u v : Int64} {I : Nat → Nat → Int32} {J : Nat → Nat → Int64} {T : Nat → Nat → Nat} {Q : Option Value → Mem → Prop} (hyp : ((lg_cmp ((if (if v < u then u else v) < (if q < p then p else q) then (if q < p then p else q) else (if v < u then u else v)) - (if (if v < u then v else u) < (if q < p then q else p) then (if v < u then v else u) else (if q < p then q else p))) (2000000000 : Int64) ≤ 0 → Go none aM (Ev mt aM (d + 29)) mX11_mixedOf Q (84, [some (.long p), none, some (.long q), none, some (.long u), none, some (.long v), none, some (.int w), none, none, none, none, some (.long (if (if v < u then v else u) < (if q < p then q else p) then (if q < p then q else p) else (if v < u then v else u))), none, some (.long (if (if v < q then q else v) < (if u < p then p else u) then (if v < q then q else v) else (if u < p then p else u))), none, none, none, none, none, none, none], [], (SH, mkM I J T), 0, 0)) ∧ ((¬ (lg_cmp ((if (if v < u then u else v) < (if q < p then p else q) then (if q < p then p else q) else (if v < u then u else v)) - (if (if v < u then v else u) < (if q < p then q else p) then (if v < u then v else u) else (if q < p then q else p))) (2000000000 : Int64) ≤ 0)) → Q (some (.long (-2 : Int64))) (SH, mkM I J T)))) : Go none aM (Ev mt aM (d + 29)) mX11_mixedOf Q (0, [some (.long p), none, some (.long q), none, some (.long u), none, some (.long v), none, some (.int w), none, none, none, none, none, none, none, none, none, none, none, none, none, none], [], (SH, mkM I J T), 0, 0) := by
  refine Go.of_run (Ev.mono _) 3 _ ?_
  refine ⟨Nat.le_of_ble_eq_true rfl, ?_⟩
  show Go none aM (Ev mt aM (d + 29)) mX11_mixedOf Q (5, [some (.long p), none, some (.long q), none, some (.long u), none, some (.long v), none, some (.int w), none, none, none, none, none, none, none, none, none, none, none, none, none, none], [.long (if q < p then q else p)], (SH, mkM I J T), 0, 0)
  refine Go.of_run (Ev.mono _) 3 _ ?_
  refine ⟨Nat.le_of_ble_eq_true rfl, ?_⟩
  show Go none aM (Ev mt aM (d + 29)) mX11_mixedOf Q (12, [some (.long p), none, some (.long q), none, some (.long u), none, some (.long v), none, some (.int w), none, none, none, none, none, none, none, none, none, none, none, none, none, none], [.long (if v < u then v else u), .long (if q < p then q else p)], (SH, mkM I J T), 0, 0)
  refine Go.of_run (Ev.mono _) 1 _ ?_
  refine ⟨Nat.le_of_ble_eq_true rfl, ?_⟩
  show Go none aM (Ev mt aM (d + 29)) mX11_mixedOf Q (15, [some (.long p), none, some (.long q), none, some (.long u), none, some (.long v), none, some (.int w), none, none, none, none, none, none, none, none, none, none, none, none, none, none], [.long (if (if v < u then v else u) < (if q < p then q else p) then (if v < u then v else u) else (if q < p then q else p))], (SH, mkM I J T), 0, 0)
  refine Go.of_run (Ev.mono _) 4 _ ?_
  refine ⟨Nat.le_of_ble_eq_true rfl, ?_⟩
  show Go none aM (Ev mt aM (d + 29)) mX11_mixedOf Q (22, [some (.long p), none, some (.long q), none, some (.long u), none, some (.long v), none, some (.int w), some (.long (if (if v < u then v else u) < (if q < p then q else p) then (if v < u then v else u) else (if q < p then q else p))), none, none, none, none, none, none, none, none, none, none, none, none, none], [.long (if q < p then p else q)], (SH, mkM I J T), 0, 0)
  refine Go.of_run (Ev.mono _) 3 _ ?_
  refine ⟨Nat.le_of_ble_eq_true rfl, ?_⟩
  show Go none aM (Ev mt aM (d + 29)) mX11_mixedOf Q (29, [some (.long p), none, some (.long q), none, some (.long u), none, some (.long v), none, some (.int w), some (.long (if (if v < u then v else u) < (if q < p then q else p) then (if v < u then v else u) else (if q < p then q else p))), none, none, none, none, none, none, none, none, none, none, none, none, none], [.long (if v < u then u else v), .long (if q < p then p else q)], (SH, mkM I J T), 0, 0)
  refine Go.of_run (Ev.mono _) 1 _ ?_
  refine ⟨Nat.le_of_ble_eq_true rfl, ?_⟩
  show Go none aM (Ev mt aM (d + 29)) mX11_mixedOf Q (32, [some (.long p), none, some (.long q), none, some (.long u), none, some (.long v), none, some (.int w), some (.long (if (if v < u then v else u) < (if q < p then q else p) then (if v < u then v else u) else (if q < p then q else p))), none, none, none, none, none, none, none, none, none, none, none, none, none], [.long (if (if v < u then u else v) < (if q < p then p else q) then (if q < p then p else q) else (if v < u then u else v))], (SH, mkM I J T), 0, 0)
  refine Go.of_run (Ev.mono _) 7 _ ?_
  show Go none aM (Ev mt aM (d + 29)) mX11_mixedOf Q (if lg_cmp ((if (if v < u then u else v) < (if q < p then p else q) then (if q < p then p else q) else (if v < u then u else v)) - (if (if v < u then v else u) < (if q < p then q else p) then (if v < u then v else u) else (if q < p then q else p))) (2000000000 : Int64) ≤ 0 then 50 else 46, [some (.long p), none, some (.long q), none, some (.long u), none, some (.long v), none, some (.int w), some (.long (if (if v < u then v else u) < (if q < p then q else p) then (if v < u then v else u) else (if q < p then q else p))), none, some (.long (if (if v < u then u else v) < (if q < p then p else q) then (if q < p then p else q) else (if v < u then u else v))), none, none, none, none, none, none, none, none, none, none, none], [], (SH, mkM I J T), 0, 0)
  rcases Decidable.em (lg_cmp ((if (if v < u then u else v) < (if q < p then p else q) then (if q < p then p else q) else (if v < u then u else v)) - (if (if v < u then v else u) < (if q < p then q else p) then (if v < u then v else u) else (if q < p then q else p))) (2000000000 : Int64) ≤ 0) with c1 | c1
  · rw [if_pos c1]
    refine Go.of_run (Ev.mono _) 3 _ ?_
    refine ⟨Nat.le_of_ble_eq_true rfl, ?_⟩
    show Go none aM (Ev mt aM (d + 29)) mX11_mixedOf Q (55, [some (.long p), none, some (.long q), none, some (.long u), none, some (.long v), none, some (.int w), some (.long (if (if v < u then v else u) < (if q < p then q else p) then (if v < u then v else u) else (if q < p then q else p))), none, some (.long (if (if v < u then u else v) < (if q < p then p else q) then (if q < p then p else q) else (if v < u then u else v))), none, none, none, none, none, none, none, none, none, none, none], [.long (if q < p then q else p)], (SH, mkM I J T), 0, 0)
    refine Go.of_run (Ev.mono _) 3 _ ?_
    refine ⟨Nat.le_of_ble_eq_true rfl, ?_⟩
    show Go none aM (Ev mt aM (d + 29)) mX11_mixedOf Q (62, [some (.long p), none, some (.long q), none, some (.long u), none, some (.long v), none, some (.int w), some (.long (if (if v < u then v else u) < (if q < p then q else p) then (if v < u then v else u) else (if q < p then q else p))), none, some (.long (if (if v < u then u else v) < (if q < p then p else q) then (if q < p then p else q) else (if v < u then u else v))), none, none, none, none, none, none, none, none, none, none, none], [.long (if v < u then v else u), .long (if q < p then q else p)], (SH, mkM I J T), 0, 0)
    refine Go.of_run (Ev.mono _) 1 _ ?_
    refine ⟨Nat.le_of_ble_eq_true rfl, ?_⟩
    show Go none aM (Ev mt aM (d + 29)) mX11_mixedOf Q (65, [some (.long p), none, some (.long q), none, some (.long u), none, some (.long v), none, some (.int w), some (.long (if (if v < u then v else u) < (if q < p then q else p) then (if v < u then v else u) else (if q < p then q else p))), none, some (.long (if (if v < u then u else v) < (if q < p then p else q) then (if q < p then p else q) else (if v < u then u else v))), none, none, none, none, none, none, none, none, none, none, none], [.long (if (if v < u then v else u) < (if q < p then q else p) then (if q < p then q else p) else (if v < u then v else u))], (SH, mkM I J T), 0, 0)
    refine Go.of_run (Ev.mono _) 4 _ ?_
    refine ⟨Nat.le_of_ble_eq_true rfl, ?_⟩
    show Go none aM (Ev mt aM (d + 29)) mX11_mixedOf Q (73, [some (.long p), none, some (.long q), none, some (.long u), none, some (.long v), none, some (.int w), some (.long (if (if v < u then v else u) < (if q < p then q else p) then (if v < u then v else u) else (if q < p then q else p))), none, some (.long (if (if v < u then u else v) < (if q < p then p else q) then (if q < p then p else q) else (if v < u then u else v))), none, some (.long (if (if v < u then v else u) < (if q < p then q else p) then (if q < p then q else p) else (if v < u then v else u))), none, none, none, none, none, none, none, none, none], [.long (if u < p then p else u)], (SH, mkM I J T), 0, 0)
    refine Go.of_run (Ev.mono _) 3 _ ?_
    refine ⟨Nat.le_of_ble_eq_true rfl, ?_⟩
    show Go none aM (Ev mt aM (d + 29)) mX11_mixedOf Q (79, [some (.long p), none, some (.long q), none, some (.long u), none, some (.long v), none, some (.int w), some (.long (if (if v < u then v else u) < (if q < p then q else p) then (if v < u then v else u) else (if q < p then q else p))), none, some (.long (if (if v < u then u else v) < (if q < p then p else q) then (if q < p then p else q) else (if v < u then u else v))), none, some (.long (if (if v < u then v else u) < (if q < p then q else p) then (if q < p then q else p) else (if v < u then v else u))), none, none, none, none, none, none, none, none, none], [.long (if v < q then q else v), .long (if u < p then p else u)], (SH, mkM I J T), 0, 0)
    refine Go.of_run (Ev.mono _) 1 _ ?_
    refine ⟨Nat.le_of_ble_eq_true rfl, ?_⟩
    show Go none aM (Ev mt aM (d + 29)) mX11_mixedOf Q (82, [some (.long p), none, some (.long q), none, some (.long u), none, some (.long v), none, some (.int w), some (.long (if (if v < u then v else u) < (if q < p then q else p) then (if v < u then v else u) else (if q < p then q else p))), none, some (.long (if (if v < u then u else v) < (if q < p then p else q) then (if q < p then p else q) else (if v < u then u else v))), none, some (.long (if (if v < u then v else u) < (if q < p then q else p) then (if q < p then q else p) else (if v < u then v else u))), none, none, none, none, none, none, none, none, none], [.long (if (if v < q then q else v) < (if u < p then p else u) then (if v < q then q else v) else (if u < p then p else u))], (SH, mkM I J T), 0, 0)
    refine Go.of_run (Ev.mono _) 1 _ ?_
    exact Go.weak (Ev.mono _) (LLe.cons (LLe.cons (LLe.cons (LLe.cons (LLe.cons (LLe.cons (LLe.cons (LLe.cons (LLe.cons (LLe.drop (LLe.cons (LLe.drop (LLe.cons (LLe.cons (LLe.cons (LLe.cons (LLe.cons (LLe.cons (LLe.cons (LLe.cons (LLe.cons (LLe.cons (LLe.cons LLe.nil))))))))))))))))))))))) (hyp.1 c1)
  · rw [if_neg c1]
    refine Go.of_run (Ev.mono _) 2 _ ?_
    refine ⟨trivial, ?_⟩
    show Q (some (.long (-2 : Int64))) (SH, mkM I J T)
    exact (hyp.2 c1)
set_option maxRecDepth 20000 in
theorem mxo_84 {d : Nat} {w : Int32} {p q u v lo hi : Int64} {I : Nat → Nat → Int32} {J : Nat → Nat → Int64} {T : Nat → Nat → Nat} {Q : Option Value → Mem → Prop} (hyp : ((w = 0 → Q (some (.long lo)) (SH, mkM I J T)) ∧ ((¬ (w = 0)) → ((lg_cmp lo hi = 0 → ((w = (1 : Int32) → Q (some (.long (0 : Int64))) (SH, mkM I J T)) ∧ ((¬ (w = (1 : Int32))) → Q (some (.long (1 : Int64))) (SH, mkM I J T)))) ∧ ((¬ (lg_cmp lo hi = 0)) → ((lg_cmp (((p + v) - q) - u) (0 : Int64) = 0 → ((w = (1 : Int32) → Q (some (.long (0 : Int64))) (SH, mkM I J T)) ∧ ((¬ (w = (1 : Int32))) → Q (some (.long (1 : Int64))) (SH, mkM I J T)))) ∧ ((¬ (lg_cmp (((p + v) - q) - u) (0 : Int64) = 0)) → Ev mt aM (d + 29) 170 [.long (if 0 < (((p - lo) * (v - lo)) - ((q - lo) * (u - lo))) then (((p - lo) * (v - lo)) - ((q - lo) * (u - lo))) else -(((p - lo) * (v - lo)) - ((q - lo) * (u - lo)))), .long (if 0 < (((p + v) - q) - u) then (((p + v) - q) - u) else -(((p + v) - q) - u))] (SH, mkM I J T) (fun r m1 => Go none aM (Ev mt aM (d + 29)) mX11_mixedOf Q (166, [some (.long p), none, some (.long q), none, some (.long u), none, some (.long v), none, some (.int w), none, none, none, none, some (.long lo), none, some (.long hi), none, some (.long (((p + v) - q) - u)), none, some (.long (((p - lo) * (v - lo)) - ((q - lo) * (u - lo)))), none, none, none], r.toList ++ [], m1, 0, 0))))))))) : Go none aM (Ev mt aM (d + 29)) mX11_mixedOf Q (84, [some (.long p), none, some (.long q), none, some (.long u), none, some (.long v), none, some (.int w), none, none, none, none, some (.long lo), none, some (.long hi), none, none, none, none, none, none, none], [], (SH, mkM I J T), 0, 0) := by
  refine Go.of_run (Ev.mono _) 2 _ ?_
  show Go none aM (Ev mt aM (d + 29)) mX11_mixedOf Q (if w = 0 then 89 else 92, [some (.long p), none, some (.long q), none, some (.long u), none, some (.long v), none, some (.int w), none, none, none, none, some (.long lo), none, some (.long hi), none, none, none, none, none, none, none], [], (SH, mkM I J T), 0, 0)
  rcases Decidable.em (w = 0) with c1 | c1
  · rw [if_pos c1]
    refine Go.of_run (Ev.mono _) 2 _ ?_
    refine ⟨trivial, ?_⟩
    show Q (some (.long lo)) (SH, mkM I J T)
    exact (hyp.1 c1)
  · rw [if_neg c1]
    refine Go.of_run (Ev.mono _) 12 _ ?_
    show Go none aM (Ev mt aM (d + 29)) mX11_mixedOf Q (if lg_cmp lo hi = 0 then 118 else 111, [some (.long p), none, some (.long q), none, some (.long u), none, some (.long v), none, some (.int w), none, none, none, none, some (.long lo), none, some (.long hi), none, some (.long (((p + v) - q) - u)), none, none, none, none, none], [], (SH, mkM I J T), 0, 0)
    rcases Decidable.em (lg_cmp lo hi = 0) with c2 | c2
    · rw [if_pos c2]
      refine Go.of_run (Ev.mono _) 3 _ ?_
      show Go none aM (Ev mt aM (d + 29)) mX11_mixedOf Q (if w = (1 : Int32) then 124 else 128, [some (.long p), none, some (.long q), none, some (.long u), none, some (.long v), none, some (.int w), none, none, none, none, some (.long lo), none, some (.long hi), none, some (.long (((p + v) - q) - u)), none, none, none, none, none], [], (SH, mkM I J T), 0, 0)
      rcases Decidable.em (w = (1 : Int32)) with c3 | c3
      · rw [if_pos c3]
        refine Go.of_run (Ev.mono _) 3 _ ?_
        refine ⟨trivial, ?_⟩
        show Q (some (.long (0 : Int64))) (SH, mkM I J T)
        exact (((hyp.2 c1).1 c2).1 c3)
      · rw [if_neg c3]
        refine Go.of_run (Ev.mono _) 2 _ ?_
        refine ⟨trivial, ?_⟩
        show Q (some (.long (1 : Int64))) (SH, mkM I J T)
        exact (((hyp.2 c1).1 c2).2 c3)
    · rw [if_neg c2]
      refine Go.of_run (Ev.mono _) 4 _ ?_
      show Go none aM (Ev mt aM (d + 29)) mX11_mixedOf Q (if lg_cmp (((p + v) - q) - u) (0 : Int64) = 0 then 118 else 130, [some (.long p), none, some (.long q), none, some (.long u), none, some (.long v), none, some (.int w), none, none, none, none, some (.long lo), none, some (.long hi), none, some (.long (((p + v) - q) - u)), none, none, none, none, none], [], (SH, mkM I J T), 0, 0)
      rcases Decidable.em (lg_cmp (((p + v) - q) - u) (0 : Int64) = 0) with c4 | c4
      · rw [if_pos c4]
        refine Go.of_run (Ev.mono _) 3 _ ?_
        show Go none aM (Ev mt aM (d + 29)) mX11_mixedOf Q (if w = (1 : Int32) then 124 else 128, [some (.long p), none, some (.long q), none, some (.long u), none, some (.long v), none, some (.int w), none, none, none, none, some (.long lo), none, some (.long hi), none, some (.long (((p + v) - q) - u)), none, none, none, none, none], [], (SH, mkM I J T), 0, 0)
        rcases Decidable.em (w = (1 : Int32)) with c5 | c5
        · rw [if_pos c5]
          refine Go.of_run (Ev.mono _) 3 _ ?_
          refine ⟨trivial, ?_⟩
          show Q (some (.long (0 : Int64))) (SH, mkM I J T)
          exact ((((hyp.2 c1).2 c2).1 c4).1 c5)
        · rw [if_neg c5]
          refine Go.of_run (Ev.mono _) 2 _ ?_
          refine ⟨trivial, ?_⟩
          show Q (some (.long (1 : Int64))) (SH, mkM I J T)
          exact ((((hyp.2 c1).2 c2).1 c4).2 c5)
      · rw [if_neg c4]
        refine Go.of_run (Ev.mono _) 18 _ ?_
        refine ⟨Nat.le_of_ble_eq_true rfl, ?_⟩
        show Go none aM (Ev mt aM (d + 29)) mX11_mixedOf Q (158, [some (.long p), none, some (.long q), none, some (.long u), none, some (.long v), none, some (.int w), none, none, none, none, some (.long lo), none, some (.long hi), none, some (.long (((p + v) - q) - u)), none, some (.long (((p - lo) * (v - lo)) - ((q - lo) * (u - lo)))), none, none, none], [.long (if 0 < (((p - lo) * (v - lo)) - ((q - lo) * (u - lo))) then (((p - lo) * (v - lo)) - ((q - lo) * (u - lo))) else -(((p - lo) * (v - lo)) - ((q - lo) * (u - lo))))], (SH, mkM I J T), 0, 0)
        refine Go.of_run (Ev.mono _) 2 _ ?_
        refine ⟨Nat.le_of_ble_eq_true rfl, ?_⟩
        show Go none aM (Ev mt aM (d + 29)) mX11_mixedOf Q (163, [some (.long p), none, some (.long q), none, some (.long u), none, some (.long v), none, some (.int w), none, none, none, none, some (.long lo), none, some (.long hi), none, some (.long (((p + v) - q) - u)), none, some (.long (((p - lo) * (v - lo)) - ((q - lo) * (u - lo)))), none, none, none], [.long (if 0 < (((p + v) - q) - u) then (((p + v) - q) - u) else -(((p + v) - q) - u)), .long (if 0 < (((p - lo) * (v - lo)) - ((q - lo) * (u - lo))) then (((p - lo) * (v - lo)) - ((q - lo) * (u - lo))) else -(((p - lo) * (v - lo)) - ((q - lo) * (u - lo))))], (SH, mkM I J T), 0, 0)
        refine Go.of_run (Ev.mono _) 1 _ ?_
        refine ⟨Nat.le_of_ble_eq_true rfl, (((hyp.2 c1).2 c2).2 c4)⟩
set_option maxRecDepth 20000 in
theorem mxo_166 {d : Nat} {w : Int32} {p q u v lo hi be ab g : Int64} {I : Nat → Nat → Int32} {J : Nat → Nat → Int64} {T : Nat → Nat → Nat} {Q : Option Value → Mem → Prop} (hyp : ((0 ≤ lg_cmp g (1 : Int64) → ((w = (1 : Int32) → (¬ g = 0 ∧ Q (some (.long ((if 0 < ab then ab else -ab) / g))) (SH, mkM I J T))) ∧ ((¬ (w = (1 : Int32))) → (¬ g = 0 ∧ Q (some (.long ((if 0 < be then be else -be) / g))) (SH, mkM I J T))))) ∧ ((¬ (0 ≤ lg_cmp g (1 : Int64))) → ((w = (1 : Int32) → Q (some (.long (0 : Int64))) (SH, mkM I J T)) ∧ ((¬ (w = (1 : Int32))) → Q (some (.long (1 : Int64))) (SH, mkM I J T)))))) : Go none aM (Ev mt aM (d + 29)) mX11_mixedOf Q (166, [some (.long p), none, some (.long q), none, some (.long u), none, some (.long v), none, some (.int w), none, none, none, none, some (.long lo), none, some (.long hi), none, some (.long be), none, some (.long ab), none, none, none], [.long g], (SH, mkM I J T), 0, 0) := by
  refine Go.of_run (Ev.mono _) 5 _ ?_
  show Go none aM (Ev mt aM (d + 29)) mX11_mixedOf Q (if 0 ≤ lg_cmp g (1 : Int64) then 187 else 175, [some (.long p), none, some (.long q), none, some (.long u), none, some (.long v), none, some (.int w), none, none, none, none, some (.long lo), none, some (.long hi), none, some (.long be), none, some (.long ab), none, some (.long g), none], [], (SH, mkM I J T), 0, 0)
  rcases Decidable.em (0 ≤ lg_cmp g (1 : Int64)) with c1 | c1
  · rw [if_pos c1]
    refine Go.of_run (Ev.mono _) 3 _ ?_
    show Go none aM (Ev mt aM (d + 29)) mX11_mixedOf Q (if w = (1 : Int32) then 193 else 204, [some (.long p), none, some (.long q), none, some (.long u), none, some (.long v), none, some (.int w), none, none, none, none, some (.long lo), none, some (.long hi), none, some (.long be), none, some (.long ab), none, some (.long g), none], [], (SH, mkM I J T), 0, 0)
    rcases Decidable.em (w = (1 : Int32)) with c2 | c2
    · rw [if_pos c2]
      refine Go.of_run (Ev.mono _) 2 _ ?_
      refine ⟨Nat.le_of_ble_eq_true rfl, ?_⟩
      show Go none aM (Ev mt aM (d + 29)) mX11_mixedOf Q (198, [some (.long p), none, some (.long q), none, some (.long u), none, some (.long v), none, some (.int w), none, none, none, none, some (.long lo), none, some (.long hi), none, some (.long be), none, some (.long ab), none, some (.long g), none], [.long (if 0 < ab then ab else -ab)], (SH, mkM I J T), 0, 0)
      refine Go.of_run (Ev.mono _) 2 _ ?_
      refine ⟨((hyp.1 c1).1 c2).1, ?_⟩
      show Go none aM (Ev mt aM (d + 29)) mX11_mixedOf Q (201, [some (.long p), none, some (.long q), none, some (.long u), none, some (.long v), none, some (.int w), none, none, none, none, some (.long lo), none, some (.long hi), none, some (.long be), none, some (.long ab), none, some (.long g), none], [.long ((if 0 < ab then ab else -ab) / g)], (SH, mkM I J T), 0, 0)
      refine Go.of_run (Ev.mono _) 2 _ ?_
      refine ⟨trivial, ?_⟩
      show Q (some (.long ((if 0 < ab then ab else -ab) / g))) (SH, mkM I J T)
      exact ((hyp.1 c1).1 c2).2
    · rw [if_neg c2]
      refine Go.of_run (Ev.mono _) 2 _ ?_
      refine ⟨Nat.le_of_ble_eq_true rfl, ?_⟩
      show Go none aM (Ev mt aM (d + 29)) mX11_mixedOf Q (209, [some (.long p), none, some (.long q), none, some (.long u), none, some (.long v), none, some (.int w), none, none, none, none, some (.long lo), none, some (.long hi), none, some (.long be), none, some (.long ab), none, some (.long g), none], [.long (if 0 < be then be else -be)], (SH, mkM I J T), 0, 0)
      refine Go.of_run (Ev.mono _) 2 _ ?_
      refine ⟨((hyp.1 c1).2 c2).1, ?_⟩
      show Go none aM (Ev mt aM (d + 29)) mX11_mixedOf Q (212, [some (.long p), none, some (.long q), none, some (.long u), none, some (.long v), none, some (.int w), none, none, none, none, some (.long lo), none, some (.long hi), none, some (.long be), none, some (.long ab), none, some (.long g), none], [.long ((if 0 < be then be else -be) / g)], (SH, mkM I J T), 0, 0)
      refine Go.of_run (Ev.mono _) 1 _ ?_
      refine ⟨trivial, ?_⟩
      show Q (some (.long ((if 0 < be then be else -be) / g))) (SH, mkM I J T)
      exact ((hyp.1 c1).2 c2).2
  · rw [if_neg c1]
    refine Go.of_run (Ev.mono _) 3 _ ?_
    show Go none aM (Ev mt aM (d + 29)) mX11_mixedOf Q (if w = (1 : Int32) then 181 else 185, [some (.long p), none, some (.long q), none, some (.long u), none, some (.long v), none, some (.int w), none, none, none, none, some (.long lo), none, some (.long hi), none, some (.long be), none, some (.long ab), none, some (.long g), none], [], (SH, mkM I J T), 0, 0)
    rcases Decidable.em (w = (1 : Int32)) with c3 | c3
    · rw [if_pos c3]
      refine Go.of_run (Ev.mono _) 3 _ ?_
      refine ⟨trivial, ?_⟩
      show Q (some (.long (0 : Int64))) (SH, mkM I J T)
      exact ((hyp.2 c1).1 c3)
    · rw [if_neg c3]
      refine Go.of_run (Ev.mono _) 2 _ ?_
      refine ⟨trivial, ?_⟩
      show Q (some (.long (1 : Int64))) (SH, mkM I J T)
      exact ((hyp.2 c1).2 c3)
set_option maxRecDepth 20000 in
theorem gdv_0 {d : Nat} {p q : Int64} {I : Nat → Nat → Int32} {J : Nat → Nat → Int64} {T : Nat → Nat → Nat} {Q : Option Value → Mem → Prop} (hyp : Go none aM (Ev mt aM (d + 3)) mX11_greatestDivisor Q (9, [none, none, none, none, some (.long p), none, some (.long q), none, some (.int (0 : Int32)), none, none], [], (SH, mkM I J T), 0, 0)) : Go none aM (Ev mt aM (d + 3)) mX11_greatestDivisor Q (0, [some (.long p), none, some (.long q), none, none, none, none, none, none, none, none], [], (SH, mkM I J T), 0, 0) := by
  refine Go.of_run (Ev.mono _) 6 _ ?_
  exact Go.weak (Ev.mono _) (LLe.drop (LLe.cons (LLe.drop (LLe.cons (LLe.cons (LLe.cons (LLe.cons (LLe.cons (LLe.cons (LLe.cons (LLe.cons LLe.nil))))))))))) hyp
set_option maxRecDepth 20000 in
theorem gdv_9 {d : Nat} {t : Int32} {p q a b : Int64} {I : Nat → Nat → Int32} {J : Nat → Nat → Int64} {T : Nat → Nat → Nat} {Q : Option Value → Mem → Prop} (hyp : (((200 : Int32) ≤ t → Q (some (.long a)) (SH, mkM I J T)) ∧ ((¬ ((200 : Int32) ≤ t)) → ((lg_cmp b (0 : Int64) = 0 → Q (some (.long a)) (SH, mkM I J T)) ∧ ((¬ (lg_cmp b (0 : Int64) = 0)) → (¬ b = 0 ∧ Go none aM (Ev mt aM (d + 3)) mX11_greatestDivisor Q (9, [none, none, none, none, some (.long b), none, some (.long (a - a / b * b)), none, some (.int (t + 1)), none, none], [], (SH, mkM I J T), 0, 0))))))) : Go none aM (Ev mt aM (d + 3)) mX11_greatestDivisor Q (9, [some (.long p), none, some (.long q), none, some (.long a), none, some (.long b), none, some (.int t), none, none], [], (SH, mkM I J T), 0, 0) := by
  refine Go.of_run (Ev.mono _) 3 _ ?_
  show Go none aM (Ev mt aM (d + 3)) mX11_greatestDivisor Q (if (200 : Int32) ≤ t then 45 else 17, [some (.long p), none, some (.long q), none, some (.long a), none, some (.long b), none, some (.int t), none, none], [], (SH, mkM I J T), 0, 0)
  rcases Decidable.em ((200 : Int32) ≤ t) with c1 | c1
  · rw [if_pos c1]
    refine Go.of_run (Ev.mono _) 2 _ ?_
    refine ⟨trivial, ?_⟩
    show Q (some (.long a)) (SH, mkM I J T)
    exact (hyp.1 c1)
  · rw [if_neg c1]
    refine Go.of_run (Ev.mono _) 4 _ ?_
    show Go none aM (Ev mt aM (d + 3)) mX11_greatestDivisor Q (if lg_cmp b (0 : Int64) = 0 then 45 else 24, [some (.long p), none, some (.long q), none, some (.long a), none, some (.long b), none, some (.int t), none, none], [], (SH, mkM I J T), 0, 0)
    rcases Decidable.em (lg_cmp b (0 : Int64) = 0) with c2 | c2
    · rw [if_pos c2]
      refine Go.of_run (Ev.mono _) 2 _ ?_
      refine ⟨trivial, ?_⟩
      show Q (some (.long a)) (SH, mkM I J T)
      exact ((hyp.2 c1).1 c2)
    · rw [if_neg c2]
      refine Go.of_run (Ev.mono _) 3 _ ?_
      refine ⟨((hyp.2 c1).2 c2).1, ?_⟩
      show Go none aM (Ev mt aM (d + 3)) mX11_greatestDivisor Q (29, [some (.long p), none, some (.long q), none, some (.long a), none, some (.long b), none, some (.int t), none, none], [.long (a - a / b * b)], (SH, mkM I J T), 0, 0)
      refine Go.of_run (Ev.mono _) 7 _ ?_
      exact Go.weak (Ev.mono _) (LLe.drop (LLe.cons (LLe.drop (LLe.cons (LLe.cons (LLe.cons (LLe.cons (LLe.cons (LLe.cons (LLe.drop (LLe.cons LLe.nil))))))))))) ((hyp.2 c1).2 c2).2
set_option maxRecDepth 20000 in
theorem ply_0 {d : Nat} {I : Nat → Nat → Int32} {J : Nat → Nat → Int64} {T : Nat → Nat → Nat} {Q : Option Value → Mem → Prop} (hyp : Go none aM (Ev mt aM (d + 29)) mX12_plays Q (2, [some (.ref 83), some (.int (0 : Int32)), none], [], (SH, mkM I J T), 0, 0)) : Go none aM (Ev mt aM (d + 29)) mX12_plays Q (0, [some (.ref 83), none, none], [], (SH, mkM I J T), 0, 0) := by
  refine Go.of_run (Ev.mono _) 2 _ ?_
  exact hyp
set_option maxRecDepth 20000 in
theorem ply_2 {d : Nat} {k : Int32} {I : Nat → Nat → Int32} {J : Nat → Nat → Int64} {T : Nat → Nat → Nat} {Q : Option Value → Mem → Prop} (hyp : (((4 : Int32) ≤ k → Q none (SH, mkM I J T)) ∧ ((¬ ((4 : Int32) ≤ k)) → Go none aM (Ev mt aM (d + 29)) mX12_plays Q (9, [some (.ref 83), some (.int k), some (.int (0 : Int32))], [], (SH, mkM I J T), 0, 0)))) : Go none aM (Ev mt aM (d + 29)) mX12_plays Q (2, [some (.ref 83), some (.int k), none], [], (SH, mkM I J T), 0, 0) := by
  refine Go.of_run (Ev.mono _) 3 _ ?_
  show Go none aM (Ev mt aM (d + 29)) mX12_plays Q (if (4 : Int32) ≤ k then 63 else 7, [some (.ref 83), some (.int k), none], [], (SH, mkM I J T), 0, 0)
  rcases Decidable.em ((4 : Int32) ≤ k) with c1 | c1
  · rw [if_pos c1]
    refine Go.of_run (Ev.mono _) 1 _ ?_
    refine ⟨trivial, ?_⟩
    show Q none (SH, mkM I J T)
    exact (hyp.1 c1)
  · rw [if_neg c1]
    refine Go.of_run (Ev.mono _) 2 _ ?_
    exact (hyp.2 c1)
set_option maxRecDepth 20000 in
theorem ply_9 {d : Nat} {k j : Int32} {I : Nat → Nat → Int32} {J : Nat → Nat → Int64} {T : Nat → Nat → Nat} {Q : Option Value → Mem → Prop} (hyp : (((3 : Int32) ≤ j → Go none aM (Ev mt aM (d + 29)) mX12_plays Q (2, [some (.ref 83), some (.int (k + 1)), none], [], (SH, mkM I J T), 0, 0)) ∧ ((¬ ((3 : Int32) ≤ j)) → (((¬ (k < 0)) → ((¬ ((4 : Int32) ≤ k)) → vp_in ((3 : Int32) + k) 8)) ∧ ((v_X12_isRule k I = 0 → Go none aM (Ev mt aM (d + 29)) mX12_plays Q (9, [some (.ref 83), some (.int k), some (.int (j + 1))], [], (SH, mkM I J T), 0, 0)) ∧ ((¬ (v_X12_isRule k I = 0)) → (((¬ (v_X12_isOther j = 0)) → vp_in j 8) ∧ ((v_X12_isToldOther j I = 0 → Go none aM (Ev mt aM (d + 29)) mX12_plays Q (9, [some (.ref 83), some (.int k), some (.int (j + 1))], [], (SH, mkM I J T), 0, 0)) ∧ ((¬ (v_X12_isToldOther j I = 0)) → Ev mt aM (d + 29) 248 [.ref 83, .int (0 : Int32), .int (0 : Int32), .int (1536 : Int32), .int k, .int j] (SH, mkM I J T) (fun r m1 => Go none aM (Ev mt aM (d + 29)) mX12_plays Q (50, [some (.ref 83), some (.int k), some (.int j)], r.toList ++ [.int (((3 : Int32) * k) + j), .ref 112], m1, 0, 0))))))))))) : Go none aM (Ev mt aM (d + 29)) mX12_plays Q (9, [some (.ref 83), some (.int k), some (.int j)], [], (SH, mkM I J T), 0, 0) := by
  refine Go.of_run (Ev.mono _) 3 _ ?_
  show Go none aM (Ev mt aM (d + 29)) mX12_plays Q (if (3 : Int32) ≤ j then 57 else 14, [some (.ref 83), some (.int k), some (.int j)], [], (SH, mkM I J T), 0, 0)
  rcases Decidable.em ((3 : Int32) ≤ j) with c1 | c1
  · rw [if_pos c1]
    refine Go.of_run (Ev.mono _) 2 _ ?_
    exact Go.weak (Ev.mono _) (LLe.cons (LLe.cons (LLe.drop LLe.nil))) (hyp.1 c1)
  · rw [if_neg c1]
    refine Go.of_run (Ev.mono _) 3 _ ?_
    refine ⟨Nat.le_of_ble_eq_true rfl, ev_X12_isRule (hyp.2 c1).1 ?_⟩
    show Go none aM (Ev mt aM (d + 29)) mX12_plays Q (19, [some (.ref 83), some (.int k), some (.int j)], [.int (v_X12_isRule k I)], (SH, mkM I J T), 0, 0)
    refine Go.of_run (Ev.mono _) 1 _ ?_
    show Go none aM (Ev mt aM (d + 29)) mX12_plays Q (if v_X12_isRule k I = 0 then 51 else 22, [some (.ref 83), some (.int k), some (.int j)], [], (SH, mkM I J T), 0, 0)
    rcases Decidable.em (v_X12_isRule k I = 0) with c2 | c2
    · rw [if_pos c2]
      refine Go.of_run (Ev.mono _) 2 _ ?_
      exact ((hyp.2 c1).2.1 c2)
    · rw [if_neg c2]
      refine Go.of_run (Ev.mono _) 3 _ ?_
      refine ⟨Nat.le_of_ble_eq_true rfl, ev_X12_isToldOther ((hyp.2 c1).2.2 c2).1 ?_⟩
      show Go none aM (Ev mt aM (d + 29)) mX12_plays Q (27, [some (.ref 83), some (.int k), some (.int j)], [.int (v_X12_isToldOther j I)], (SH, mkM I J T), 0, 0)
      refine Go.of_run (Ev.mono _) 1 _ ?_
      show Go none aM (Ev mt aM (d + 29)) mX12_plays Q (if v_X12_isToldOther j I = 0 then 51 else 30, [some (.ref 83), some (.int k), some (.int j)], [], (SH, mkM I J T), 0, 0)
      rcases Decidable.em (v_X12_isToldOther j I = 0) with c3 | c3
      · rw [if_pos c3]
        refine Go.of_run (Ev.mono _) 2 _ ?_
        exact (((hyp.2 c1).2.2 c2).2.1 c3)
      · rw [if_neg c3]
        refine Go.of_run (Ev.mono _) 14 _ ?_
        refine ⟨Nat.le_of_ble_eq_true rfl, (((hyp.2 c1).2.2 c2).2.2 c3)⟩
set_option maxRecDepth 20000 in
theorem ply_50 {d : Nat} {k j n : Int32} {v : Int64} {I : Nat → Nat → Int32} {J : Nat → Nat → Int64} {T : Nat → Nat → Nat} {Q : Option Value → Mem → Prop} (hyp : (vp_in n 12 ∧ Go none aM (Ev mt aM (d + 29)) mX12_plays Q (9, [some (.ref 83), some (.int k), some (.int (j + 1))], [], (SH, mkM I (sj J 112 n.toNatClampNeg v) T), 0, 0))) : Go none aM (Ev mt aM (d + 29)) mX12_plays Q (50, [some (.ref 83), some (.int k), some (.int j)], [.long v, .int n, .ref 112], (SH, mkM I J T), 0, 0) := by
  refine Go.of_run (Ev.mono _) 1 _ ?_
  refine ⟨hyp.1, ?_⟩
  refine go_sj rfl ?_
  show Go none aM (Ev mt aM (d + 29)) mX12_plays Q (51, [some (.ref 83), some (.int k), some (.int j)], [], (SH, mkM I (sj J 112 n.toNatClampNeg v) T), 0, 0)
  refine Go.of_run (Ev.mono _) 2 _ ?_
  exact hyp.2
set_option maxRecDepth 20000 in
theorem lst_0 {d : Nat} {k : Int32} {I : Nat → Nat → Int32} {J : Nat → Nat → Int64} {T : Nat → Nat → Nat} {Q : Option Value → Mem → Prop} (hyp : Go none aM (Ev mt aM (d + 5)) mX12_leastOf Q (8, [some (.ref 83), some (.int k), some (.long (0 : Int64)), none, some (.int (0 : Int32)), some (.int (0 : Int32))], [], (SH, mkM I J T), 0, 0)) : Go none aM (Ev mt aM (d + 5)) mX12_leastOf Q (0, [some (.ref 83), some (.int k), none, none, none, none], [], (SH, mkM I J T), 0, 0) := by
  refine Go.of_run (Ev.mono _) 6 _ ?_
  exact hyp
set_option maxRecDepth 20000 in
theorem lst_8 {d : Nat} {k s j : Int32} {n : Int64} {I : Nat → Nat → Int32} {J : Nat → Nat → Int64} {T : Nat → Nat → Nat} {Q : Option Value → Mem → Prop} (hyp : (((3 : Int32) ≤ j → Q (some (.long n)) (SH, mkM I J T)) ∧ ((¬ ((3 : Int32) ≤ j)) → (((¬ (v_X12_isOther j = 0)) → vp_in j 8) ∧ ((v_X12_isToldOther j I = 0 → Go none aM (Ev mt aM (d + 5)) mX12_leastOf Q (8, [some (.ref 83), some (.int k), some (.long n), none, some (.int s), some (.int (j + 1))], [], (SH, mkM I J T), 0, 0)) ∧ ((¬ (v_X12_isToldOther j I = 0)) → ((s = 0 → (vp_in (((3 : Int32) * k) + j) 12 ∧ Go none aM (Ev mt aM (d + 5)) mX12_leastOf Q (8, [some (.ref 83), some (.int k), some (.long (J 112 ((((3 : Int32) * k) + j).toNatClampNeg))), none, some (.int (1 : Int32)), some (.int (j + 1))], [], (SH, mkM I J T), 0, 0))) ∧ ((¬ (s = 0)) → (vp_in (((3 : Int32) * k) + j) 12 ∧ ((lg_cmp (J 112 ((((3 : Int32) * k) + j).toNatClampNeg)) n < 0 → (vp_in (((3 : Int32) * k) + j) 12 ∧ Go none aM (Ev mt aM (d + 5)) mX12_leastOf Q (8, [some (.ref 83), some (.int k), some (.long (J 112 ((((3 : Int32) * k) + j).toNatClampNeg))), none, some (.int (1 : Int32)), some (.int (j + 1))], [], (SH, mkM I J T), 0, 0))) ∧ ((¬ (lg_cmp (J 112 ((((3 : Int32) * k) + j).toNatClampNeg)) n < 0)) → Go none aM (Ev mt aM (d + 5)) mX12_leastOf Q (8, [some (.ref 83), some (.int k), some (.long n), none, some (.int s), some (.int (j + 1))], [], (SH, mkM I J T), 0, 0)))))))))))) : Go none aM (Ev mt aM (d + 5)) mX12_leastOf Q (8, [some (.ref 83), some (.int k), some (.long n), none, some (.int s), some (.int j)], [], (SH, mkM I J T), 0, 0) := by
  refine Go.of_run (Ev.mono _) 3 _ ?_
  show Go none aM (Ev mt aM (d + 5)) mX12_leastOf Q (if (3 : Int32) ≤ j then 68 else 14, [some (.ref 83), some (.int k), some (.long n), none, some (.int s), some (.int j)], [], (SH, mkM I J T), 0, 0)
  rcases Decidable.em ((3 : Int32) ≤ j) with c1 | c1
  · rw [if_pos c1]
    refine Go.of_run (Ev.mono _) 2 _ ?_
    refine ⟨trivial, ?_⟩
    show Q (some (.long n)) (SH, mkM I J T)
    exact (hyp.1 c1)
  · rw [if_neg c1]
    refine Go.of_run (Ev.mono _) 3 _ ?_
    refine ⟨Nat.le_of_ble_eq_true rfl, ev_X12_isToldOther (hyp.2 c1).1 ?_⟩
    show Go none aM (Ev mt aM (d + 5)) mX12_leastOf Q (20, [some (.ref 83), some (.int k), some (.long n), none, some (.int s), some (.int j)], [.int (v_X12_isToldOther j I)], (SH, mkM I J T), 0, 0)
    refine Go.of_run (Ev.mono _) 1 _ ?_
    show Go none aM (Ev mt aM (d + 5)) mX12_leastOf Q (if v_X12_isToldOther j I = 0 then 62 else 23, [some (.ref 83), some (.int k), some (.long n), none, some (.int s), some (.int j)], [], (SH, mkM I J T), 0, 0)
    rcases Decidable.em (v_X12_isToldOther j I = 0) with c2 | c2
    · rw [if_pos c2]
      refine Go.of_run (Ev.mono _) 2 _ ?_
      exact ((hyp.2 c1).2.1 c2)
    · rw [if_neg c2]
      refine Go.of_run (Ev.mono _) 2 _ ?_
      show Go none aM (Ev mt aM (d + 5)) mX12_leastOf Q (if s = 0 then 47 else 28, [some (.ref 83), some (.int k), some (.long n), none, some (.int s), some (.int j)], [], (SH, mkM I J T), 0, 0)
      rcases Decidable.em (s = 0) with c3 | c3
      · rw [if_pos c3]
        refine Go.of_run (Ev.mono _) 8 _ ?_
        refine ⟨(((hyp.2 c1).2.2 c2).1 c3).1, ?_⟩
        show Go none aM (Ev mt aM (d + 5)) mX12_leastOf Q (58, [some (.ref 83), some (.int k), some (.long n), none, some (.int s), some (.int j)], [.long (J 112 ((((3 : Int32) * k) + j).toNatClampNeg))], (SH, mkM I J T), 0, 0)
        refine Go.of_run (Ev.mono _) 5 _ ?_
        exact (((hyp.2 c1).2.2 c2).1 c3).2
      · rw [if_neg c3]
        refine Go.of_run (Ev.mono _) 8 _ ?_
        refine ⟨(((hyp.2 c1).2.2 c2).2 c3).1, ?_⟩
        show Go none aM (Ev mt aM (d + 5)) mX12_leastOf Q (39, [some (.ref 83), some (.int k), some (.long n), none, some (.int s), some (.int j)], [.long (J 112 ((((3 : Int32) * k) + j).toNatClampNeg))], (SH, mkM I J T), 0, 0)
        refine Go.of_run (Ev.mono _) 3 _ ?_
        show Go none aM (Ev mt aM (d + 5)) mX12_leastOf Q (if lg_cmp (J 112 ((((3 : Int32) * k) + j).toNatClampNeg)) n < 0 then 47 else 44, [some (.ref 83), some (.int k), some (.long n), none, some (.int s), some (.int j)], [], (SH, mkM I J T), 0, 0)
        rcases Decidable.em (lg_cmp (J 112 ((((3 : Int32) * k) + j).toNatClampNeg)) n < 0) with c4 | c4
        · rw [if_pos c4]
          refine Go.of_run (Ev.mono _) 8 _ ?_
          refine ⟨((((hyp.2 c1).2.2 c2).2 c3).2.1 c4).1, ?_⟩
          show Go none aM (Ev mt aM (d + 5)) mX12_leastOf Q (58, [some (.ref 83), some (.int k), some (.long n), none, some (.int s), some (.int j)], [.long (J 112 ((((3 : Int32) * k) + j).toNatClampNeg))], (SH, mkM I J T), 0, 0)
          refine Go.of_run (Ev.mono _) 5 _ ?_
          exact ((((hyp.2 c1).2.2 c2).2 c3).2.1 c4).2
        · rw [if_neg c4]
          refine Go.of_run (Ev.mono _) 3 _ ?_
          exact ((((hyp.2 c1).2.2 c2).2 c3).2.2 c4)
set_option maxRecDepth 20000 in
theorem gst_0 {d : Nat} {j : Int32} {I : Nat → Nat → Int32} {J : Nat → Nat → Int64} {T : Nat → Nat → Nat} {Q : Option Value → Mem → Prop} (hyp : Go none aM (Ev mt aM (d + 5)) mX12_greatestOf Q (8, [some (.ref 83), some (.int j), some (.long (0 : Int64)), none, some (.int (0 : Int32)), some (.int (0 : Int32))], [], (SH, mkM I J T), 0, 0)) : Go none aM (Ev mt aM (d + 5)) mX12_greatestOf Q (0, [some (.ref 83), some (.int j), none, none, none, none], [], (SH, mkM I J T), 0, 0) := by
  refine Go.of_run (Ev.mono _) 6 _ ?_
  exact hyp
set_option maxRecDepth 20000 in
theorem gst_8 {d : Nat} {j s k : Int32} {n : Int64} {I : Nat → Nat → Int32} {J : Nat → Nat → Int64} {T : Nat → Nat → Nat} {Q : Option Value → Mem → Prop} (hyp : (((4 : Int32) ≤ k → Q (some (.long n)) (SH, mkM I J T)) ∧ ((¬ ((4 : Int32) ≤ k)) → (((¬ (k < 0)) → ((¬ ((4 : Int32) ≤ k)) → vp_in ((3 : Int32) + k) 8)) ∧ ((v_X12_isRule k I = 0 → Go none aM (Ev mt aM (d + 5)) mX12_greatestOf Q (8, [some (.ref 83), some (.int j), some (.long n), none, some (.int s), some (.int (k + 1))], [], (SH, mkM I J T), 0, 0)) ∧ ((¬ (v_X12_isRule k I = 0)) → ((s = 0 → (vp_in (((3 : Int32) * k) + j) 12 ∧ Go none aM (Ev mt aM (d + 5)) mX12_greatestOf Q (8, [some (.ref 83), some (.int j), some (.long (J 112 ((((3 : Int32) * k) + j).toNatClampNeg))), none, some (.int (1 : Int32)), some (.int (k + 1))], [], (SH, mkM I J T), 0, 0))) ∧ ((¬ (s = 0)) → (vp_in (((3 : Int32) * k) + j) 12 ∧ ((0 < lg_cmp (J 112 ((((3 : Int32) * k) + j).toNatClampNeg)) n → (vp_in (((3 : Int32) * k) + j) 12 ∧ Go none aM (Ev mt aM (d + 5)) mX12_greatestOf Q (8, [some (.ref 83), some (.int j), some (.long (J 112 ((((3 : Int32) * k) + j).toNatClampNeg))), none, some (.int (1 : Int32)), some (.int (k + 1))], [], (SH, mkM I J T), 0, 0))) ∧ ((¬ (0 < lg_cmp (J 112 ((((3 : Int32) * k) + j).toNatClampNeg)) n)) → Go none aM (Ev mt aM (d + 5)) mX12_greatestOf Q (8, [some (.ref 83), some (.int j), some (.long n), none, some (.int s), some (.int (k + 1))], [], (SH, mkM I J T), 0, 0)))))))))))) : Go none aM (Ev mt aM (d + 5)) mX12_greatestOf Q (8, [some (.ref 83), some (.int j), some (.long n), none, some (.int s), some (.int k)], [], (SH, mkM I J T), 0, 0) := by
  refine Go.of_run (Ev.mono _) 3 _ ?_
  show Go none aM (Ev mt aM (d + 5)) mX12_greatestOf Q (if (4 : Int32) ≤ k then 68 else 14, [some (.ref 83), some (.int j), some (.long n), none, some (.int s), some (.int k)], [], (SH, mkM I J T), 0, 0)
  rcases Decidable.em ((4 : Int32) ≤ k) with c1 | c1
  · rw [if_pos c1]
    refine Go.of_run (Ev.mono _) 2 _ ?_
    refine ⟨trivial, ?_⟩
    show Q (some (.long n)) (SH, mkM I J T)
    exact (hyp.1 c1)
  · rw [if_neg c1]
    refine Go.of_run (Ev.mono _) 3 _ ?_
    refine ⟨Nat.le_of_ble_eq_true rfl, ev_X12_isRule (hyp.2 c1).1 ?_⟩
    show Go none aM (Ev mt aM (d + 5)) mX12_greatestOf Q (20, [some (.ref 83), some (.int j), some (.long n), none, some (.int s), some (.int k)], [.int (v_X12_isRule k I)], (SH, mkM I J T), 0, 0)
    refine Go.of_run (Ev.mono _) 1 _ ?_
    show Go none aM (Ev mt aM (d + 5)) mX12_greatestOf Q (if v_X12_isRule k I = 0 then 62 else 23, [some (.ref 83), some (.int j), some (.long n), none, some (.int s), some (.int k)], [], (SH, mkM I J T), 0, 0)
    rcases Decidable.em (v_X12_isRule k I = 0) with c2 | c2
    · rw [if_pos c2]
      refine Go.of_run (Ev.mono _) 2 _ ?_
      exact ((hyp.2 c1).2.1 c2)
    · rw [if_neg c2]
      refine Go.of_run (Ev.mono _) 2 _ ?_
      show Go none aM (Ev mt aM (d + 5)) mX12_greatestOf Q (if s = 0 then 47 else 28, [some (.ref 83), some (.int j), some (.long n), none, some (.int s), some (.int k)], [], (SH, mkM I J T), 0, 0)
      rcases Decidable.em (s = 0) with c3 | c3
      · rw [if_pos c3]
        refine Go.of_run (Ev.mono _) 8 _ ?_
        refine ⟨(((hyp.2 c1).2.2 c2).1 c3).1, ?_⟩
        show Go none aM (Ev mt aM (d + 5)) mX12_greatestOf Q (58, [some (.ref 83), some (.int j), some (.long n), none, some (.int s), some (.int k)], [.long (J 112 ((((3 : Int32) * k) + j).toNatClampNeg))], (SH, mkM I J T), 0, 0)
        refine Go.of_run (Ev.mono _) 5 _ ?_
        exact (((hyp.2 c1).2.2 c2).1 c3).2
      · rw [if_neg c3]
        refine Go.of_run (Ev.mono _) 8 _ ?_
        refine ⟨(((hyp.2 c1).2.2 c2).2 c3).1, ?_⟩
        show Go none aM (Ev mt aM (d + 5)) mX12_greatestOf Q (39, [some (.ref 83), some (.int j), some (.long n), none, some (.int s), some (.int k)], [.long (J 112 ((((3 : Int32) * k) + j).toNatClampNeg))], (SH, mkM I J T), 0, 0)
        refine Go.of_run (Ev.mono _) 3 _ ?_
        show Go none aM (Ev mt aM (d + 5)) mX12_greatestOf Q (if 0 < lg_cmp (J 112 ((((3 : Int32) * k) + j).toNatClampNeg)) n then 47 else 44, [some (.ref 83), some (.int j), some (.long n), none, some (.int s), some (.int k)], [], (SH, mkM I J T), 0, 0)
        rcases Decidable.em (0 < lg_cmp (J 112 ((((3 : Int32) * k) + j).toNatClampNeg)) n) with c4 | c4
        · rw [if_pos c4]
          refine Go.of_run (Ev.mono _) 8 _ ?_
          refine ⟨((((hyp.2 c1).2.2 c2).2 c3).2.1 c4).1, ?_⟩
          show Go none aM (Ev mt aM (d + 5)) mX12_greatestOf Q (58, [some (.ref 83), some (.int j), some (.long n), none, some (.int s), some (.int k)], [.long (J 112 ((((3 : Int32) * k) + j).toNatClampNeg))], (SH, mkM I J T), 0, 0)
          refine Go.of_run (Ev.mono _) 5 _ ?_
          exact ((((hyp.2 c1).2.2 c2).2 c3).2.1 c4).2
        · rw [if_neg c4]
          refine Go.of_run (Ev.mono _) 3 _ ?_
          exact ((((hyp.2 c1).2.2 c2).2 c3).2.2 c4)
set_option maxRecDepth 20000 in
theorem mgm_0 {d : Nat} {w : Int32} {I : Nat → Nat → Int32} {J : Nat → Nat → Int64} {T : Nat → Nat → Nat} {Q : Option Value → Mem → Prop} (hyp : ((v_X12_in w (0 : Int32) (3 : Int32) = 0 → Q (some (.long (-1 : Int64))) (SH, mkM I J T)) ∧ ((¬ (v_X12_in w (0 : Int32) (3 : Int32) = 0)) → Ev mt aM (d + 30) 261 [.ref 83] (SH, mkM I J T) (fun r m1 => Go none aM (Ev mt aM (d + 30)) mX12_game Q (13, [some (.ref 83), some (.int w), none, none, none], r.toList ++ [], m1, 0, 0))))) : Go none aM (Ev mt aM (d + 30)) mX12_game Q (0, [some (.ref 83), some (.int w), none, none, none], [], (SH, mkM I J T), 0, 0) := by
  refine Go.of_run (Ev.mono _) 4 _ ?_
  refine ⟨Nat.le_of_ble_eq_true rfl, ev_X12_in ?_⟩
  show Go none aM (Ev mt aM (d + 30)) mX12_game Q (6, [some (.ref 83), some (.int w), none, none, none], [.int (v_X12_in w (0 : Int32) (3 : Int32))], (SH, mkM I J T), 0, 0)
  refine Go.of_run (Ev.mono _) 1 _ ?_
  show Go none aM (Ev mt aM (d + 30)) mX12_game Q (if v_X12_in w (0 : Int32) (3 : Int32) = 0 then 16 else 9, [some (.ref 83), some (.int w), none, none, none], [], (SH, mkM I J T), 0, 0)
  rcases Decidable.em (v_X12_in w (0 : Int32) (3 : Int32) = 0) with c1 | c1
  · rw [if_pos c1]
    refine Go.of_run (Ev.mono _) 2 _ ?_
    refine ⟨trivial, ?_⟩
    show Q (some (.long (-1 : Int64))) (SH, mkM I J T)
    exact (hyp.1 c1)
  · rw [if_neg c1]
    refine Go.of_run (Ev.mono _) 2 _ ?_
    refine ⟨Nat.le_of_ble_eq_true rfl, (hyp.2 c1)⟩
set_option maxRecDepth 20000 in
theorem mgm_13 {d : Nat} {w v : Int32} {I : Nat → Nat → Int32} {J : Nat → Nat → Int64} {T : Nat → Nat → Nat} {Q : Option Value → Mem → Prop} (hyp : ((v = 0 → Q (some (.long (-1 : Int64))) (SH, mkM I J T)) ∧ ((¬ (v = 0)) → Ev mt aM (d + 30) 260 [.ref 83] (SH, mkM I J T) (fun r m1 => Go none aM (Ev mt aM (d + 30)) mX12_game Q (24, [some (.ref 83), some (.int w), none, none, none], r.toList ++ [], m1, 0, 0))))) : Go none aM (Ev mt aM (d + 30)) mX12_game Q (13, [some (.ref 83), some (.int w), none, none, none], [.int v], (SH, mkM I J T), 0, 0) := by
  refine Go.of_run (Ev.mono _) 1 _ ?_
  show Go none aM (Ev mt aM (d + 30)) mX12_game Q (if v = 0 then 16 else 20, [some (.ref 83), some (.int w), none, none, none], [], (SH, mkM I J T), 0, 0)
  rcases Decidable.em (v = 0) with c1 | c1
  · rw [if_pos c1]
    refine Go.of_run (Ev.mono _) 2 _ ?_
    refine ⟨trivial, ?_⟩
    show Q (some (.long (-1 : Int64))) (SH, mkM I J T)
    exact (hyp.1 c1)
  · rw [if_neg c1]
    refine Go.of_run (Ev.mono _) 2 _ ?_
    refine ⟨Nat.le_of_ble_eq_true rfl, (hyp.2 c1)⟩
set_option maxRecDepth 20000 in
theorem mgm_24 {d : Nat} {w : Int32} {I : Nat → Nat → Int32} {J : Nat → Nat → Int64} {T : Nat → Nat → Nat} {Q : Option Value → Mem → Prop} (hyp : Go none aM (Ev mt aM (d + 30)) mX12_game Q (28, [some (.ref 83), some (.int w), some (.int (-1 : Int32)), some (.int (0 : Int32)), none], [], (SH, mkM I J T), 0, 0)) : Go none aM (Ev mt aM (d + 30)) mX12_game Q (24, [some (.ref 83), some (.int w), none, none, none], [], (SH, mkM I J T), 0, 0) := by
  refine Go.of_run (Ev.mono _) 4 _ ?_
  exact hyp
set_option maxRecDepth 20000 in
theorem mgm_28 {d : Nat} {w rl k : Int32} {I : Nat → Nat → Int32} {J : Nat → Nat → Int64} {T : Nat → Nat → Nat} {Q : Option Value → Mem → Prop} (hyp : (((4 : Int32) ≤ k → Go none aM (Ev mt aM (d + 30)) mX12_game Q (73, [some (.ref 83), some (.int w), some (.int rl), some (.int (-1 : Int32)), some (.int (0 : Int32))], [], (SH, mkM I J T), 0, 0)) ∧ ((¬ ((4 : Int32) ≤ k)) → (((¬ (k < 0)) → ((¬ ((4 : Int32) ≤ k)) → vp_in ((3 : Int32) + k) 8)) ∧ ((v_X12_isRule k I = 0 → Go none aM (Ev mt aM (d + 30)) mX12_game Q (28, [some (.ref 83), some (.int w), some (.int rl), some (.int (k + 1)), none], [], (SH, mkM I J T), 0, 0)) ∧ ((¬ (v_X12_isRule k I = 0)) → ((rl = (-1 : Int32) → Go none aM (Ev mt aM (d + 30)) mX12_game Q (28, [some (.ref 83), some (.int w), some (.int k), some (.int (k + 1)), none], [], (SH, mkM I J T), 0, 0)) ∧ ((¬ (rl = (-1 : Int32))) → Ev mt aM (d + 30) 262 [.ref 83, .int k] (SH, mkM I J T) (fun r m1 => Go none aM (Ev mt aM (d + 30)) mX12_game Q (51, [some (.ref 83), some (.int w), some (.int rl), some (.int k), none], r.toList ++ [], m1, 0, 0)))))))))) : Go none aM (Ev mt aM (d + 30)) mX12_game Q (28, [some (.ref 83), some (.int w), some (.int rl), some (.int k), none], [], (SH, mkM I J T), 0, 0) := by
  refine Go.of_run (Ev.mono _) 3 _ ?_
  show Go none aM (Ev mt aM (d + 30)) mX12_game Q (if (4 : Int32) ≤ k then 68 else 33, [some (.ref 83), some (.int w), some (.int rl), some (.int k), none], [], (SH, mkM I J T), 0, 0)
  rcases Decidable.em ((4 : Int32) ≤ k) with c1 | c1
  · rw [if_pos c1]
    refine Go.of_run (Ev.mono _) 4 _ ?_
    exact (hyp.1 c1)
  · rw [if_neg c1]
    refine Go.of_run (Ev.mono _) 3 _ ?_
    refine ⟨Nat.le_of_ble_eq_true rfl, ev_X12_isRule (hyp.2 c1).1 ?_⟩
    show Go none aM (Ev mt aM (d + 30)) mX12_game Q (38, [some (.ref 83), some (.int w), some (.int rl), some (.int k), none], [.int (v_X12_isRule k I)], (SH, mkM I J T), 0, 0)
    refine Go.of_run (Ev.mono _) 1 _ ?_
    show Go none aM (Ev mt aM (d + 30)) mX12_game Q (if v_X12_isRule k I = 0 then 62 else 41, [some (.ref 83), some (.int w), some (.int rl), some (.int k), none], [], (SH, mkM I J T), 0, 0)
    rcases Decidable.em (v_X12_isRule k I = 0) with c2 | c2
    · rw [if_pos c2]
      refine Go.of_run (Ev.mono _) 2 _ ?_
      exact ((hyp.2 c1).2.1 c2)
    · rw [if_neg c2]
      refine Go.of_run (Ev.mono _) 3 _ ?_
      show Go none aM (Ev mt aM (d + 30)) mX12_game Q (if rl = (-1 : Int32) then 60 else 46, [some (.ref 83), some (.int w), some (.int rl), some (.int k), none], [], (SH, mkM I J T), 0, 0)
      rcases Decidable.em (rl = (-1 : Int32)) with c3 | c3
      · rw [if_pos c3]
        refine Go.of_run (Ev.mono _) 4 _ ?_
        exact (((hyp.2 c1).2.2 c2).1 c3)
      · rw [if_neg c3]
        refine Go.of_run (Ev.mono _) 3 _ ?_
        refine ⟨Nat.le_of_ble_eq_true rfl, (((hyp.2 c1).2.2 c2).2 c3)⟩
set_option maxRecDepth 20000 in
theorem mgm_51 {d : Nat} {w rl k : Int32} {v : Int64} {I : Nat → Nat → Int32} {J : Nat → Nat → Int64} {T : Nat → Nat → Nat} {Q : Option Value → Mem → Prop} (hyp : Ev mt aM (d + 30) 262 [.ref 83, .int rl] (SH, mkM I J T) (fun r m1 => Go none aM (Ev mt aM (d + 30)) mX12_game Q (56, [some (.ref 83), some (.int w), some (.int rl), some (.int k), none], r.toList ++ [.long v], m1, 0, 0))) : Go none aM (Ev mt aM (d + 30)) mX12_game Q (51, [some (.ref 83), some (.int w), some (.int rl), some (.int k), none], [.long v], (SH, mkM I J T), 0, 0) := by
  refine Go.of_run (Ev.mono _) 3 _ ?_
  refine ⟨Nat.le_of_ble_eq_true rfl, hyp⟩
set_option maxRecDepth 20000 in
theorem mgm_56 {d : Nat} {w rl k : Int32} {v u : Int64} {I : Nat → Nat → Int32} {J : Nat → Nat → Int64} {T : Nat → Nat → Nat} {Q : Option Value → Mem → Prop} (hyp : ((lg_cmp v u ≤ 0 → Go none aM (Ev mt aM (d + 30)) mX12_game Q (28, [some (.ref 83), some (.int w), some (.int rl), some (.int (k + 1)), none], [], (SH, mkM I J T), 0, 0)) ∧ ((¬ (lg_cmp v u ≤ 0)) → Go none aM (Ev mt aM (d + 30)) mX12_game Q (28, [some (.ref 83), some (.int w), some (.int k), some (.int (k + 1)), none], [], (SH, mkM I J T), 0, 0)))) : Go none aM (Ev mt aM (d + 30)) mX12_game Q (56, [some (.ref 83), some (.int w), some (.int rl), some (.int k), none], [.long u, .long v], (SH, mkM I J T), 0, 0) := by
  refine Go.of_run (Ev.mono _) 2 _ ?_
  show Go none aM (Ev mt aM (d + 30)) mX12_game Q (if lg_cmp v u ≤ 0 then 62 else 60, [some (.ref 83), some (.int w), some (.int rl), some (.int k), none], [], (SH, mkM I J T), 0, 0)
  rcases Decidable.em (lg_cmp v u ≤ 0) with c1 | c1
  · rw [if_pos c1]
    refine Go.of_run (Ev.mono _) 2 _ ?_
    exact (hyp.1 c1)
  · rw [if_neg c1]
    refine Go.of_run (Ev.mono _) 4 _ ?_
    exact (hyp.2 c1)
set_option maxRecDepth 20000 in
theorem mgm_73 {d : Nat} {w rl ot j : Int32} {I : Nat → Nat → Int32} {J : Nat → Nat → Int64} {T : Nat → Nat → Nat} {Q : Option Value → Mem → Prop} (hyp : (((3 : Int32) ≤ j → ((w = 0 → Ev mt aM (d + 30) 262 [.ref 83, .int rl] (SH, mkM I J T) (fun r m1 => Go none aM (Ev mt aM (d + 30)) mX12_game Q (126, [some (.ref 83), some (.int w), some (.int rl), some (.int ot), some (.int j)], r.toList ++ [], m1, 0, 0))) ∧ ((¬ (w = 0)) → ((w = (1 : Int32) → Q (some (.long rl.toInt64)) (SH, mkM I J T)) ∧ ((¬ (w = (1 : Int32))) → ((w = (2 : Int32) → Ev mt aM (d + 30) 263 [.ref 83, .int ot] (SH, mkM I J T) (fun r m1 => Go none aM (Ev mt aM (d + 30)) mX12_game Q (149, [some (.ref 83), some (.int w), some (.int rl), some (.int ot), some (.int j)], r.toList ++ [], m1, 0, 0))) ∧ ((¬ (w = (2 : Int32))) → Q (some (.long ot.toInt64)) (SH, mkM I J T)))))))) ∧ ((¬ ((3 : Int32) ≤ j)) → (((¬ (v_X12_isOther j = 0)) → vp_in j 8) ∧ ((v_X12_isToldOther j I = 0 → Go none aM (Ev mt aM (d + 30)) mX12_game Q (73, [some (.ref 83), some (.int w), some (.int rl), some (.int ot), some (.int (j + 1))], [], (SH, mkM I J T), 0, 0)) ∧ ((¬ (v_X12_isToldOther j I = 0)) → ((ot = (-1 : Int32) → Go none aM (Ev mt aM (d + 30)) mX12_game Q (73, [some (.ref 83), some (.int w), some (.int rl), some (.int j), some (.int (j + 1))], [], (SH, mkM I J T), 0, 0)) ∧ ((¬ (ot = (-1 : Int32))) → Ev mt aM (d + 30) 263 [.ref 83, .int j] (SH, mkM I J T) (fun r m1 => Go none aM (Ev mt aM (d + 30)) mX12_game Q (99, [some (.ref 83), some (.int w), some (.int rl), some (.int ot), some (.int j)], r.toList ++ [], m1, 0, 0)))))))))) : Go none aM (Ev mt aM (d + 30)) mX12_game Q (73, [some (.ref 83), some (.int w), some (.int rl), some (.int ot), some (.int j)], [], (SH, mkM I J T), 0, 0) := by
  refine Go.of_run (Ev.mono _) 3 _ ?_
  show Go none aM (Ev mt aM (d + 30)) mX12_game Q (if (3 : Int32) ≤ j then 117 else 79, [some (.ref 83), some (.int w), some (.int rl), some (.int ot), some (.int j)], [], (SH, mkM I J T), 0, 0)
  rcases Decidable.em ((3 : Int32) ≤ j) with c1 | c1
  · rw [if_pos c1]
    refine Go.of_run (Ev.mono _) 2 _ ?_
    show Go none aM (Ev mt aM (d + 30)) mX12_game Q (if w = 0 then 121 else 129, [some (.ref 83), some (.int w), some (.int rl), some (.int ot), some (.int j)], [], (SH, mkM I J T), 0, 0)
    rcases Decidable.em (w = 0) with c2 | c2
    · rw [if_pos c2]
      refine Go.of_run (Ev.mono _) 3 _ ?_
      refine ⟨Nat.le_of_ble_eq_true rfl, ((hyp.1 c1).1 c2)⟩
    · rw [if_neg c2]
      refine Go.of_run (Ev.mono _) 3 _ ?_
      show Go none aM (Ev mt aM (d + 30)) mX12_game Q (if w = (1 : Int32) then 134 else 139, [some (.ref 83), some (.int w), some (.int rl), some (.int ot), some (.int j)], [], (SH, mkM I J T), 0, 0)
      rcases Decidable.em (w = (1 : Int32)) with c3 | c3
      · rw [if_pos c3]
        refine Go.of_run (Ev.mono _) 4 _ ?_
        refine ⟨trivial, ?_⟩
        show Q (some (.long rl.toInt64)) (SH, mkM I J T)
        exact (((hyp.1 c1).2 c2).1 c3)
      · rw [if_neg c3]
        refine Go.of_run (Ev.mono _) 3 _ ?_
        show Go none aM (Ev mt aM (d + 30)) mX12_game Q (if w = (2 : Int32) then 144 else 152, [some (.ref 83), some (.int w), some (.int rl), some (.int ot), some (.int j)], [], (SH, mkM I J T), 0, 0)
        rcases Decidable.em (w = (2 : Int32)) with c4 | c4
        · rw [if_pos c4]
          refine Go.of_run (Ev.mono _) 3 _ ?_
          refine ⟨Nat.le_of_ble_eq_true rfl, ((((hyp.1 c1).2 c2).2 c3).1 c4)⟩
        · rw [if_neg c4]
          refine Go.of_run (Ev.mono _) 3 _ ?_
          refine ⟨trivial, ?_⟩
          show Q (some (.long ot.toInt64)) (SH, mkM I J T)
          exact ((((hyp.1 c1).2 c2).2 c3).2 c4)
  · rw [if_neg c1]
    refine Go.of_run (Ev.mono _) 3 _ ?_
    refine ⟨Nat.le_of_ble_eq_true rfl, ev_X12_isToldOther (hyp.2 c1).1 ?_⟩
    show Go none aM (Ev mt aM (d + 30)) mX12_game Q (85, [some (.ref 83), some (.int w), some (.int rl), some (.int ot), some (.int j)], [.int (v_X12_isToldOther j I)], (SH, mkM I J T), 0, 0)
    refine Go.of_run (Ev.mono _) 1 _ ?_
    show Go none aM (Ev mt aM (d + 30)) mX12_game Q (if v_X12_isToldOther j I = 0 then 111 else 88, [some (.ref 83), some (.int w), some (.int rl), some (.int ot), some (.int j)], [], (SH, mkM I J T), 0, 0)
    rcases Decidable.em (v_X12_isToldOther j I = 0) with c5 | c5
    · rw [if_pos c5]
      refine Go.of_run (Ev.mono _) 2 _ ?_
      exact ((hyp.2 c1).2.1 c5)
    · rw [if_neg c5]
      refine Go.of_run (Ev.mono _) 3 _ ?_
      show Go none aM (Ev mt aM (d + 30)) mX12_game Q (if ot = (-1 : Int32) then 108 else 93, [some (.ref 83), some (.int w), some (.int rl), some (.int ot), some (.int j)], [], (SH, mkM I J T), 0, 0)
      rcases Decidable.em (ot = (-1 : Int32)) with c6 | c6
      · rw [if_pos c6]
        refine Go.of_run (Ev.mono _) 4 _ ?_
        exact (((hyp.2 c1).2.2 c5).1 c6)
      · rw [if_neg c6]
        refine Go.of_run (Ev.mono _) 3 _ ?_
        refine ⟨Nat.le_of_ble_eq_true rfl, (((hyp.2 c1).2.2 c5).2 c6)⟩
set_option maxRecDepth 20000 in
theorem mgm_99 {d : Nat} {w rl ot j : Int32} {v : Int64} {I : Nat → Nat → Int32} {J : Nat → Nat → Int64} {T : Nat → Nat → Nat} {Q : Option Value → Mem → Prop} (hyp : Ev mt aM (d + 30) 263 [.ref 83, .int ot] (SH, mkM I J T) (fun r m1 => Go none aM (Ev mt aM (d + 30)) mX12_game Q (104, [some (.ref 83), some (.int w), some (.int rl), some (.int ot), some (.int j)], r.toList ++ [.long v], m1, 0, 0))) : Go none aM (Ev mt aM (d + 30)) mX12_game Q (99, [some (.ref 83), some (.int w), some (.int rl), some (.int ot), some (.int j)], [.long v], (SH, mkM I J T), 0, 0) := by
  refine Go.of_run (Ev.mono _) 3 _ ?_
  refine ⟨Nat.le_of_ble_eq_true rfl, hyp⟩
set_option maxRecDepth 20000 in
theorem mgm_104 {d : Nat} {w rl ot j : Int32} {v u : Int64} {I : Nat → Nat → Int32} {J : Nat → Nat → Int64} {T : Nat → Nat → Nat} {Q : Option Value → Mem → Prop} (hyp : ((0 ≤ lg_cmp v u → Go none aM (Ev mt aM (d + 30)) mX12_game Q (73, [some (.ref 83), some (.int w), some (.int rl), some (.int ot), some (.int (j + 1))], [], (SH, mkM I J T), 0, 0)) ∧ ((¬ (0 ≤ lg_cmp v u)) → Go none aM (Ev mt aM (d + 30)) mX12_game Q (73, [some (.ref 83), some (.int w), some (.int rl), some (.int j), some (.int (j + 1))], [], (SH, mkM I J T), 0, 0)))) : Go none aM (Ev mt aM (d + 30)) mX12_game Q (104, [some (.ref 83), some (.int w), some (.int rl), some (.int ot), some (.int j)], [.long u, .long v], (SH, mkM I J T), 0, 0) := by
  refine Go.of_run (Ev.mono _) 2 _ ?_
  show Go none aM (Ev mt aM (d + 30)) mX12_game Q (if 0 ≤ lg_cmp v u then 111 else 108, [some (.ref 83), some (.int w), some (.int rl), some (.int ot), some (.int j)], [], (SH, mkM I J T), 0, 0)
  rcases Decidable.em (0 ≤ lg_cmp v u) with c1 | c1
  · rw [if_pos c1]
    refine Go.of_run (Ev.mono _) 2 _ ?_
    exact (hyp.1 c1)
  · rw [if_neg c1]
    refine Go.of_run (Ev.mono _) 4 _ ?_
    exact (hyp.2 c1)
set_option maxRecDepth 20000 in
theorem mgm_126 {d : Nat} {w rl ot j : Int32} {v : Int64} {I : Nat → Nat → Int32} {J : Nat → Nat → Int64} {T : Nat → Nat → Nat} {Q : Option Value → Mem → Prop} (hyp : Q (some (.long v)) (SH, mkM I J T)) : Go none aM (Ev mt aM (d + 30)) mX12_game Q (126, [some (.ref 83), some (.int w), some (.int rl), some (.int ot), some (.int j)], [.long v], (SH, mkM I J T), 0, 0) := by
  refine Go.of_run (Ev.mono _) 2 _ ?_
  refine ⟨trivial, ?_⟩
  show Q (some (.long v)) (SH, mkM I J T)
  exact hyp
set_option maxRecDepth 20000 in
theorem mgm_149 {d : Nat} {w rl ot j : Int32} {v : Int64} {I : Nat → Nat → Int32} {J : Nat → Nat → Int64} {T : Nat → Nat → Nat} {Q : Option Value → Mem → Prop} (hyp : Q (some (.long v)) (SH, mkM I J T)) : Go none aM (Ev mt aM (d + 30)) mX12_game Q (149, [some (.ref 83), some (.int w), some (.int rl), some (.int ot), some (.int j)], [.long v], (SH, mkM I J T), 0, 0) := by
  refine Go.of_run (Ev.mono _) 2 _ ?_
  refine ⟨trivial, ?_⟩
  show Q (some (.long v)) (SH, mkM I J T)
  exact hyp
set_option maxRecDepth 20000 in
theorem mmx_0 {d : Nat} {i j x y w : Int32} {I : Nat → Nat → Int32} {J : Nat → Nat → Int64} {T : Nat → Nat → Nat} {Q : Option Value → Mem → Prop} (hyp : (((¬ (i < 0)) → ((¬ ((4 : Int32) ≤ i)) → vp_in ((3 : Int32) + i) 8)) ∧ ((v_X12_isRule i I = 0 → Q (some (.long (-1 : Int64))) (SH, mkM I J T)) ∧ ((¬ (v_X12_isRule i I = 0)) → (((¬ (j < 0)) → ((¬ ((4 : Int32) ≤ j)) → vp_in ((3 : Int32) + j) 8)) ∧ ((v_X12_isRule j I = 0 → Q (some (.long (-1 : Int64))) (SH, mkM I J T)) ∧ ((¬ (v_X12_isRule j I = 0)) → ((i = j → Q (some (.long (-1 : Int64))) (SH, mkM I J T)) ∧ ((¬ (i = j)) → (((¬ (v_X12_isOther x = 0)) → vp_in x 8) ∧ ((v_X12_isToldOther x I = 0 → Q (some (.long (-1 : Int64))) (SH, mkM I J T)) ∧ ((¬ (v_X12_isToldOther x I = 0)) → (((¬ (v_X12_isOther y = 0)) → vp_in y 8) ∧ ((v_X12_isToldOther y I = 0 → Q (some (.long (-1 : Int64))) (SH, mkM I J T)) ∧ ((¬ (v_X12_isToldOther y I = 0)) → ((x = y → Q (some (.long (-1 : Int64))) (SH, mkM I J T)) ∧ ((¬ (x = y)) → ((v_X12_in w (0 : Int32) (2 : Int32) = 0 → Q (some (.long (-1 : Int64))) (SH, mkM I J T)) ∧ ((¬ (v_X12_in w (0 : Int32) (2 : Int32) = 0)) → Ev mt aM (d + 30) 248 [.ref 83, .int (0 : Int32), .int (0 : Int32), .int (1536 : Int32), .int i, .int x] (SH, mkM I J T) (fun r m1 => Go none aM (Ev mt aM (d + 30)) mX12_mixed Q (69, [some (.ref 83), some (.int i), some (.int j), some (.int x), some (.int y), some (.int w), none, none, none, none, none, none, none, none, none, none, none, none, none, none, none, none], r.toList ++ [], m1, 0, 0))))))))))))))))))))) : Go none aM (Ev mt aM (d + 30)) mX12_mixed Q (0, [some (.ref 83), some (.int i), some (.int j), some (.int x), some (.int y), some (.int w), none, none, none, none, none, none, none, none, none, none, none, none, none, none, none, none], [], (SH, mkM I J T), 0, 0) := by
  refine Go.of_run (Ev.mono _) 3 _ ?_
  refine ⟨Nat.le_of_ble_eq_true rfl, ev_X12_isRule hyp.1 ?_⟩
  show Go none aM (Ev mt aM (d + 30)) mX12_mixed Q (5, [some (.ref 83), some (.int i), some (.int j), some (.int x), some (.int y), some (.int w), none, none, none, none, none, none, none, none, none, none, none, none, none, none, none, none], [.int (v_X12_isRule i I)], (SH, mkM I J T), 0, 0)
  refine Go.of_run (Ev.mono _) 1 _ ?_
  show Go none aM (Ev mt aM (d + 30)) mX12_mixed Q (if v_X12_isRule i I = 0 then 54 else 8, [some (.ref 83), some (.int i), some (.int j), some (.int x), some (.int y), some (.int w), none, none, none, none, none, none, none, none, none, none, none, none, none, none, none, none], [], (SH, mkM I J T), 0, 0)
  rcases Decidable.em (v_X12_isRule i I = 0) with c1 | c1
  · rw [if_pos c1]
    refine Go.of_run (Ev.mono _) 2 _ ?_
    refine ⟨trivial, ?_⟩
    show Q (some (.long (-1 : Int64))) (SH, mkM I J T)
    exact (hyp.2.1 c1)
  · rw [if_neg c1]
    refine Go.of_run (Ev.mono _) 3 _ ?_
    refine ⟨Nat.le_of_ble_eq_true rfl, ev_X12_isRule (hyp.2.2 c1).1 ?_⟩
    show Go none aM (Ev mt aM (d + 30)) mX12_mixed Q (13, [some (.ref 83), some (.int i), some (.int j), some (.int x), some (.int y), some (.int w), none, none, none, none, none, none, none, none, none, none, none, none, none, none, none, none], [.int (v_X12_isRule j I)], (SH, mkM I J T), 0, 0)
    refine Go.of_run (Ev.mono _) 1 _ ?_
    show Go none aM (Ev mt aM (d + 30)) mX12_mixed Q (if v_X12_isRule j I = 0 then 54 else 16, [some (.ref 83), some (.int i), some (.int j), some (.int x), some (.int y), some (.int w), none, none, none, none, none, none, none, none, none, none, none, none, none, none, none, none], [], (SH, mkM I J T), 0, 0)
    rcases Decidable.em (v_X12_isRule j I = 0) with c2 | c2
    · rw [if_pos c2]
      refine Go.of_run (Ev.mono _) 2 _ ?_
      refine ⟨trivial, ?_⟩
      show Q (some (.long (-1 : Int64))) (SH, mkM I J T)
      exact ((hyp.2.2 c1).2.1 c2)
    · rw [if_neg c2]
      refine Go.of_run (Ev.mono _) 3 _ ?_
      show Go none aM (Ev mt aM (d + 30)) mX12_mixed Q (if i = j then 54 else 21, [some (.ref 83), some (.int i), some (.int j), some (.int x), some (.int y), some (.int w), none, none, none, none, none, none, none, none, none, none, none, none, none, none, none, none], [], (SH, mkM I J T), 0, 0)
      rcases Decidable.em (i = j) with c3 | c3
      · rw [if_pos c3]
        refine Go.of_run (Ev.mono _) 2 _ ?_
        refine ⟨trivial, ?_⟩
        show Q (some (.long (-1 : Int64))) (SH, mkM I J T)
        exact (((hyp.2.2 c1).2.2 c2).1 c3)
      · rw [if_neg c3]
        refine Go.of_run (Ev.mono _) 3 _ ?_
        refine ⟨Nat.le_of_ble_eq_true rfl, ev_X12_isToldOther (((hyp.2.2 c1).2.2 c2).2 c3).1 ?_⟩
        show Go none aM (Ev mt aM (d + 30)) mX12_mixed Q (26, [some (.ref 83), some (.int i), some (.int j), some (.int x), some (.int y), some (.int w), none, none, none, none, none, none, none, none, none, none, none, none, none, none, none, none], [.int (v_X12_isToldOther x I)], (SH, mkM I J T), 0, 0)
        refine Go.of_run (Ev.mono _) 1 _ ?_
        show Go none aM (Ev mt aM (d + 30)) mX12_mixed Q (if v_X12_isToldOther x I = 0 then 54 else 29, [some (.ref 83), some (.int i), some (.int j), some (.int x), some (.int y), some (.int w), none, none, none, none, none, none, none, none, none, none, none, none, none, none, none, none], [], (SH, mkM I J T), 0, 0)
        rcases Decidable.em (v_X12_isToldOther x I = 0) with c4 | c4
        · rw [if_pos c4]
          refine Go.of_run (Ev.mono _) 2 _ ?_
          refine ⟨trivial, ?_⟩
          show Q (some (.long (-1 : Int64))) (SH, mkM I J T)
          exact ((((hyp.2.2 c1).2.2 c2).2 c3).2.1 c4)
        · rw [if_neg c4]
          refine Go.of_run (Ev.mono _) 3 _ ?_
          refine ⟨Nat.le_of_ble_eq_true rfl, ev_X12_isToldOther ((((hyp.2.2 c1).2.2 c2).2 c3).2.2 c4).1 ?_⟩
          show Go none aM (Ev mt aM (d + 30)) mX12_mixed Q (35, [some (.ref 83), some (.int i), some (.int j), some (.int x), some (.int y), some (.int w), none, none, none, none, none, none, none, none, none, none, none, none, none, none, none, none], [.int (v_X12_isToldOther y I)], (SH, mkM I J T), 0, 0)
          refine Go.of_run (Ev.mono _) 1 _ ?_
          show Go none aM (Ev mt aM (d + 30)) mX12_mixed Q (if v_X12_isToldOther y I = 0 then 54 else 38, [some (.ref 83), some (.int i), some (.int j), some (.int x), some (.int y), some (.int w), none, none, none, none, none, none, none, none, none, none, none, none, none, none, none, none], [], (SH, mkM I J T), 0, 0)
          rcases Decidable.em (v_X12_isToldOther y I = 0) with c5 | c5
          · rw [if_pos c5]
            refine Go.of_run (Ev.mono _) 2 _ ?_
            refine ⟨trivial, ?_⟩
            show Q (some (.long (-1 : Int64))) (SH, mkM I J T)
            exact (((((hyp.2.2 c1).2.2 c2).2 c3).2.2 c4).2.1 c5)
          · rw [if_neg c5]
            refine Go.of_run (Ev.mono _) 3 _ ?_
            show Go none aM (Ev mt aM (d + 30)) mX12_mixed Q (if x = y then 54 else 44, [some (.ref 83), some (.int i), some (.int j), some (.int x), some (.int y), some (.int w), none, none, none, none, none, none, none, none, none, none, none, none, none, none, none, none], [], (SH, mkM I J T), 0, 0)
            rcases Decidable.em (x = y) with c6 | c6
            · rw [if_pos c6]
              refine Go.of_run (Ev.mono _) 2 _ ?_
              refine ⟨trivial, ?_⟩
              show Q (some (.long (-1 : Int64))) (SH, mkM I J T)
              exact ((((((hyp.2.2 c1).2.2 c2).2 c3).2.2 c4).2.2 c5).1 c6)
            · rw [if_neg c6]
              refine Go.of_run (Ev.mono _) 4 _ ?_
              refine ⟨Nat.le_of_ble_eq_true rfl, ev_X12_in ?_⟩
              show Go none aM (Ev mt aM (d + 30)) mX12_mixed Q (51, [some (.ref 83), some (.int i), some (.int j), some (.int x), some (.int y), some (.int w), none, none, none, none, none, none, none, none, none, none, none, none, none, none, none, none], [.int (v_X12_in w (0 : Int32) (2 : Int32))], (SH, mkM I J T), 0, 0)
              refine Go.of_run (Ev.mono _) 1 _ ?_
              show Go none aM (Ev mt aM (d + 30)) mX12_mixed Q (if v_X12_in w (0 : Int32) (2 : Int32) = 0 then 54 else 58, [some (.ref 83), some (.int i), some (.int j), some (.int x), some (.int y), some (.int w), none, none, none, none, none, none, none, none, none, none, none, none, none, none, none, none], [], (SH, mkM I J T), 0, 0)
              rcases Decidable.em (v_X12_in w (0 : Int32) (2 : Int32) = 0) with c7 | c7
              · rw [if_pos c7]
                refine Go.of_run (Ev.mono _) 2 _ ?_
                refine ⟨trivial, ?_⟩
                show Q (some (.long (-1 : Int64))) (SH, mkM I J T)
                exact (((((((hyp.2.2 c1).2.2 c2).2 c3).2.2 c4).2.2 c5).2 c6).1 c7)
              · rw [if_neg c7]
                refine Go.of_run (Ev.mono _) 7 _ ?_
                refine ⟨Nat.le_of_ble_eq_true rfl, (((((((hyp.2.2 c1).2.2 c2).2 c3).2.2 c4).2.2 c5).2 c6).2 c7)⟩
set_option maxRecDepth 20000 in
theorem mmx_69 {d : Nat} {i j x y w : Int32} {p : Int64} {I : Nat → Nat → Int32} {J : Nat → Nat → Int64} {T : Nat → Nat → Nat} {Q : Option Value → Mem → Prop} (hyp : Ev mt aM (d + 30) 248 [.ref 83, .int (0 : Int32), .int (0 : Int32), .int (1536 : Int32), .int i, .int y] (SH, mkM I J T) (fun r m1 => Go none aM (Ev mt aM (d + 30)) mX12_mixed Q (83, [some (.ref 83), some (.int i), some (.int j), some (.int x), some (.int y), some (.int w), some (.long p), none, none, none, none, none, none, none, none, none, none, none, none, none, none, none], r.toList ++ [], m1, 0, 0))) : Go none aM (Ev mt aM (d + 30)) mX12_mixed Q (69, [some (.ref 83), some (.int i), some (.int j), some (.int x), some (.int y), some (.int w), none, none, none, none, none, none, none, none, none, none, none, none, none, none, none, none], [.long p], (SH, mkM I J T), 0, 0) := by
  refine Go.of_run (Ev.mono _) 8 _ ?_
  refine ⟨Nat.le_of_ble_eq_true rfl, hyp⟩
set_option maxRecDepth 20000 in
theorem mmx_83 {d : Nat} {i j x y w : Int32} {p q : Int64} {I : Nat → Nat → Int32} {J : Nat → Nat → Int64} {T : Nat → Nat → Nat} {Q : Option Value → Mem → Prop} (hyp : Ev mt aM (d + 30) 248 [.ref 83, .int (0 : Int32), .int (0 : Int32), .int (1536 : Int32), .int j, .int x] (SH, mkM I J T) (fun r m1 => Go none aM (Ev mt aM (d + 30)) mX12_mixed Q (96, [some (.ref 83), some (.int i), some (.int j), some (.int x), some (.int y), some (.int w), some (.long p), none, some (.long q), none, none, none, none, none, none, none, none, none, none, none, none, none], r.toList ++ [], m1, 0, 0))) : Go none aM (Ev mt aM (d + 30)) mX12_mixed Q (83, [some (.ref 83), some (.int i), some (.int j), some (.int x), some (.int y), some (.int w), some (.long p), none, none, none, none, none, none, none, none, none, none, none, none, none, none, none], [.long q], (SH, mkM I J T), 0, 0) := by
  refine Go.of_run (Ev.mono _) 8 _ ?_
  refine ⟨Nat.le_of_ble_eq_true rfl, hyp⟩
set_option maxRecDepth 20000 in
theorem mmx_96 {d : Nat} {i j x y w : Int32} {p q u : Int64} {I : Nat → Nat → Int32} {J : Nat → Nat → Int64} {T : Nat → Nat → Nat} {Q : Option Value → Mem → Prop} (hyp : Ev mt aM (d + 30) 248 [.ref 83, .int (0 : Int32), .int (0 : Int32), .int (1536 : Int32), .int j, .int y] (SH, mkM I J T) (fun r m1 => Go none aM (Ev mt aM (d + 30)) mX12_mixed Q (110, [some (.ref 83), some (.int i), some (.int j), some (.int x), some (.int y), some (.int w), some (.long p), none, some (.long q), none, some (.long u), none, none, none, none, none, none, none, none, none, none, none], r.toList ++ [], m1, 0, 0))) : Go none aM (Ev mt aM (d + 30)) mX12_mixed Q (96, [some (.ref 83), some (.int i), some (.int j), some (.int x), some (.int y), some (.int w), some (.long p), none, some (.long q), none, none, none, none, none, none, none, none, none, none, none, none, none], [.long u], (SH, mkM I J T), 0, 0) := by
  refine Go.of_run (Ev.mono _) 8 _ ?_
  refine ⟨Nat.le_of_ble_eq_true rfl, hyp⟩
set_option maxRecDepth 20000 in
theorem mmx_110 {d : Nat} {i j x y w : Int32} {p q u v : Int64} {I : Nat → Nat → Int32} {J : Nat → Nat → Int64} {T : Nat → Nat → Nat} {Q : Option Value → Mem → Prop} (hyp : ((lg_cmp ((v_X12_more (v_X12_more p q) (v_X12_more u v)) - (v_X12_less (v_X12_less p q) (v_X12_less u v))) (2000000000 : Int64) ≤ 0 → Go none aM (Ev mt aM (d + 30)) mX12_mixed Q (177, [none, none, none, none, none, some (.int w), some (.long p), none, some (.long q), none, some (.long u), none, some (.long v), none, some (.long (v_X12_more (v_X12_less p q) (v_X12_less u v))), none, none, none, none, none, none, none], [], (SH, mkM I J T), 0, 0)) ∧ ((¬ (lg_cmp ((v_X12_more (v_X12_more p q) (v_X12_more u v)) - (v_X12_less (v_X12_less p q) (v_X12_less u v))) (2000000000 : Int64) ≤ 0)) → Q (some (.long (-2 : Int64))) (SH, mkM I J T)))) : Go none aM (Ev mt aM (d + 30)) mX12_mixed Q (110, [some (.ref 83), some (.int i), some (.int j), some (.int x), some (.int y), some (.int w), some (.long p), none, some (.long q), none, some (.long u), none, none, none, none, none, none, none, none, none, none, none], [.long v], (SH, mkM I J T), 0, 0) := by
  refine Go.of_run (Ev.mono _) 4 _ ?_
  refine ⟨Nat.le_of_ble_eq_true rfl, ev_X12_more ?_⟩
  show Go none aM (Ev mt aM (d + 30)) mX12_mixed Q (119, [some (.ref 83), some (.int i), some (.int j), some (.int x), some (.int y), some (.int w), some (.long p), none, some (.long q), none, some (.long u), none, some (.long v), none, none, none, none, none, none, none, none, none], [.long (v_X12_more p q)], (SH, mkM I J T), 0, 0)
  refine Go.of_run (Ev.mono _) 3 _ ?_
  refine ⟨Nat.le_of_ble_eq_true rfl, ev_X12_more ?_⟩
  show Go none aM (Ev mt aM (d + 30)) mX12_mixed Q (126, [some (.ref 83), some (.int i), some (.int j), some (.int x), some (.int y), some (.int w), some (.long p), none, some (.long q), none, some (.long u), none, some (.long v), none, none, none, none, none, none, none, none, none], [.long (v_X12_more u v), .long (v_X12_more p q)], (SH, mkM I J T), 0, 0)
  refine Go.of_run (Ev.mono _) 1 _ ?_
  refine ⟨Nat.le_of_ble_eq_true rfl, ev_X12_more ?_⟩
  show Go none aM (Ev mt aM (d + 30)) mX12_mixed Q (129, [some (.ref 83), some (.int i), some (.int j), some (.int x), some (.int y), some (.int w), some (.long p), none, some (.long q), none, some (.long u), none, some (.long v), none, none, none, none, none, none, none, none, none], [.long (v_X12_more (v_X12_more p q) (v_X12_more u v))], (SH, mkM I J T), 0, 0)
  refine Go.of_run (Ev.mono _) 3 _ ?_
  refine ⟨Nat.le_of_ble_eq_true rfl, ev_X12_less ?_⟩
  show Go none aM (Ev mt aM (d + 30)) mX12_mixed Q (136, [some (.ref 83), some (.int i), some (.int j), some (.int x), some (.int y), some (.int w), some (.long p), none, some (.long q), none, some (.long u), none, some (.long v), none, none, none, none, none, none, none, none, none], [.long (v_X12_less p q), .long (v_X12_more (v_X12_more p q) (v_X12_more u v))], (SH, mkM I J T), 0, 0)
  refine Go.of_run (Ev.mono _) 3 _ ?_
  refine ⟨Nat.le_of_ble_eq_true rfl, ev_X12_less ?_⟩
  show Go none aM (Ev mt aM (d + 30)) mX12_mixed Q (143, [some (.ref 83), some (.int i), some (.int j), some (.int x), some (.int y), some (.int w), some (.long p), none, some (.long q), none, some (.long u), none, some (.long v), none, none, none, none, none, none, none, none, none], [.long (v_X12_less u v), .long (v_X12_less p q), .long (v_X12_more (v_X12_more p q) (v_X12_more u v))], (SH, mkM I J T), 0, 0)
  refine Go.of_run (Ev.mono _) 1 _ ?_
  refine ⟨Nat.le_of_ble_eq_true rfl, ev_X12_less ?_⟩
  show Go none aM (Ev mt aM (d + 30)) mX12_mixed Q (146, [some (.ref 83), some (.int i), some (.int j), some (.int x), some (.int y), some (.int w), some (.long p), none, some (.long q), none, some (.long u), none, some (.long v), none, none, none, none, none, none, none, none, none], [.long (v_X12_less (v_X12_less p q) (v_X12_less u v)), .long (v_X12_more (v_X12_more p q) (v_X12_more u v))], (SH, mkM I J T), 0, 0)
  refine Go.of_run (Ev.mono _) 4 _ ?_
  show Go none aM (Ev mt aM (d + 30)) mX12_mixed Q (if lg_cmp ((v_X12_more (v_X12_more p q) (v_X12_more u v)) - (v_X12_less (v_X12_less p q) (v_X12_less u v))) (2000000000 : Int64) ≤ 0 then 158 else 154, [some (.ref 83), some (.int i), some (.int j), some (.int x), some (.int y), some (.int w), some (.long p), none, some (.long q), none, some (.long u), none, some (.long v), none, none, none, none, none, none, none, none, none], [], (SH, mkM I J T), 0, 0)
  rcases Decidable.em (lg_cmp ((v_X12_more (v_X12_more p q) (v_X12_more u v)) - (v_X12_less (v_X12_less p q) (v_X12_less u v))) (2000000000 : Int64) ≤ 0) with c1 | c1
  · rw [if_pos c1]
    refine Go.of_run (Ev.mono _) 3 _ ?_
    refine ⟨Nat.le_of_ble_eq_true rfl, ev_X12_less ?_⟩
    show Go none aM (Ev mt aM (d + 30)) mX12_mixed Q (165, [some (.ref 83), some (.int i), some (.int j), some (.int x), some (.int y), some (.int w), some (.long p), none, some (.long q), none, some (.long u), none, some (.long v), none, none, none, none, none, none, none, none, none], [.long (v_X12_less p q)], (SH, mkM I J T), 0, 0)
    refine Go.of_run (Ev.mono _) 3 _ ?_
    refine ⟨Nat.le_of_ble_eq_true rfl, ev_X12_less ?_⟩
    show Go none aM (Ev mt aM (d + 30)) mX12_mixed Q (172, [some (.ref 83), some (.int i), some (.int j), some (.int x), some (.int y), some (.int w), some (.long p), none, some (.long q), none, some (.long u), none, some (.long v), none, none, none, none, none, none, none, none, none], [.long (v_X12_less u v), .long (v_X12_less p q)], (SH, mkM I J T), 0, 0)
    refine Go.of_run (Ev.mono _) 1 _ ?_
    refine ⟨Nat.le_of_ble_eq_true rfl, ev_X12_more ?_⟩
    show Go none aM (Ev mt aM (d + 30)) mX12_mixed Q (175, [some (.ref 83), some (.int i), some (.int j), some (.int x), some (.int y), some (.int w), some (.long p), none, some (.long q), none, some (.long u), none, some (.long v), none, none, none, none, none, none, none, none, none], [.long (v_X12_more (v_X12_less p q) (v_X12_less u v))], (SH, mkM I J T), 0, 0)
    refine Go.of_run (Ev.mono _) 1 _ ?_
    exact Go.weak (Ev.mono _) (LLe.drop (LLe.drop (LLe.drop (LLe.drop (LLe.drop (LLe.cons (LLe.cons (LLe.cons (LLe.cons (LLe.cons (LLe.cons (LLe.cons (LLe.cons (LLe.cons (LLe.cons (LLe.cons (LLe.cons (LLe.cons (LLe.cons (LLe.cons (LLe.cons (LLe.cons LLe.nil)))))))))))))))))))))) (hyp.1 c1)
  · rw [if_neg c1]
    refine Go.of_run (Ev.mono _) 2 _ ?_
    refine ⟨trivial, ?_⟩
    show Q (some (.long (-2 : Int64))) (SH, mkM I J T)
    exact (hyp.2 c1)
set_option maxRecDepth 20000 in
theorem mmx_177 {d : Nat} {w : Int32} {p q u v lo : Int64} {I : Nat → Nat → Int32} {J : Nat → Nat → Int64} {T : Nat → Nat → Nat} {Q : Option Value → Mem → Prop} (hyp : ((w = 0 → Q (some (.long lo)) (SH, mkM I J T)) ∧ ((¬ (w = 0)) → ((lg_cmp lo (v_X12_less (v_X12_more p u) (v_X12_more q v)) = 0 → ((w = (1 : Int32) → Q (some (.long (0 : Int64))) (SH, mkM I J T)) ∧ ((¬ (w = (1 : Int32))) → Q (some (.long (1 : Int64))) (SH, mkM I J T)))) ∧ ((¬ (lg_cmp lo (v_X12_less (v_X12_more p u) (v_X12_more q v)) = 0)) → Go none aM (Ev mt aM (d + 30)) mX12_mixed Q (227, [none, none, none, none, none, some (.int w), some (.long (p - lo)), none, some (.long q), none, some (.long u), none, some (.long v), none, some (.long lo), none, none, none, none, none, none, none], [], (SH, mkM I J T), 0, 0)))))) : Go none aM (Ev mt aM (d + 30)) mX12_mixed Q (177, [none, none, none, none, none, some (.int w), some (.long p), none, some (.long q), none, some (.long u), none, some (.long v), none, some (.long lo), none, none, none, none, none, none, none], [], (SH, mkM I J T), 0, 0) := by
  refine Go.of_run (Ev.mono _) 2 _ ?_
  show Go none aM (Ev mt aM (d + 30)) mX12_mixed Q (if w = 0 then 182 else 185, [none, none, none, none, none, some (.int w), some (.long p), none, some (.long q), none, some (.long u), none, some (.long v), none, some (.long lo), none, none, none, none, none, none, none], [], (SH, mkM I J T), 0, 0)
  rcases Decidable.em (w = 0) with c1 | c1
  · rw [if_pos c1]
    refine Go.of_run (Ev.mono _) 2 _ ?_
    refine ⟨trivial, ?_⟩
    show Q (some (.long lo)) (SH, mkM I J T)
    exact (hyp.1 c1)
  · rw [if_neg c1]
    refine Go.of_run (Ev.mono _) 4 _ ?_
    refine ⟨Nat.le_of_ble_eq_true rfl, ev_X12_more ?_⟩
    show Go none aM (Ev mt aM (d + 30)) mX12_mixed Q (194, [none, none, none, none, none, some (.int w), some (.long p), none, some (.long q), none, some (.long u), none, some (.long v), none, some (.long lo), none, none, none, none, none, none, none], [.long (v_X12_more p u), .long lo], (SH, mkM I J T), 0, 0)
    refine Go.of_run (Ev.mono _) 3 _ ?_
    refine ⟨Nat.le_of_ble_eq_true rfl, ev_X12_more ?_⟩
    show Go none aM (Ev mt aM (d + 30)) mX12_mixed Q (201, [none, none, none, none, none, some (.int w), some (.long p), none, some (.long q), none, some (.long u), none, some (.long v), none, some (.long lo), none, none, none, none, none, none, none], [.long (v_X12_more q v), .long (v_X12_more p u), .long lo], (SH, mkM I J T), 0, 0)
    refine Go.of_run (Ev.mono _) 1 _ ?_
    refine ⟨Nat.le_of_ble_eq_true rfl, ev_X12_less ?_⟩
    show Go none aM (Ev mt aM (d + 30)) mX12_mixed Q (204, [none, none, none, none, none, some (.int w), some (.long p), none, some (.long q), none, some (.long u), none, some (.long v), none, some (.long lo), none, none, none, none, none, none, none], [.long (v_X12_less (v_X12_more p u) (v_X12_more q v)), .long lo], (SH, mkM I J T), 0, 0)
    refine Go.of_run (Ev.mono _) 2 _ ?_
    show Go none aM (Ev mt aM (d + 30)) mX12_mixed Q (if lg_cmp lo (v_X12_less (v_X12_more p u) (v_X12_more q v)) = 0 then 208 else 220, [none, none, none, none, none, some (.int w), some (.long p), none, some (.long q), none, some (.long u), none, some (.long v), none, some (.long lo), none, none, none, none, none, none, none], [], (SH, mkM I J T), 0, 0)
    rcases Decidable.em (lg_cmp lo (v_X12_less (v_X12_more p u) (v_X12_more q v)) = 0) with c2 | c2
    · rw [if_pos c2]
      refine Go.of_run (Ev.mono _) 3 _ ?_
      show Go none aM (Ev mt aM (d + 30)) mX12_mixed Q (if w = (1 : Int32) then 214 else 218, [none, none, none, none, none, some (.int w), some (.long p), none, some (.long q), none, some (.long u), none, some (.long v), none, some (.long lo), none, none, none, none, none, none, none], [], (SH, mkM I J T), 0, 0)
      rcases Decidable.em (w = (1 : Int32)) with c3 | c3
      · rw [if_pos c3]
        refine Go.of_run (Ev.mono _) 3 _ ?_
        refine ⟨trivial, ?_⟩
        show Q (some (.long (0 : Int64))) (SH, mkM I J T)
        exact (((hyp.2 c1).1 c2).1 c3)
      · rw [if_neg c3]
        refine Go.of_run (Ev.mono _) 2 _ ?_
        refine ⟨trivial, ?_⟩
        show Q (some (.long (1 : Int64))) (SH, mkM I J T)
        exact (((hyp.2 c1).1 c2).2 c3)
    · rw [if_neg c2]
      refine Go.of_run (Ev.mono _) 4 _ ?_
      exact ((hyp.2 c1).2 c2)
set_option maxRecDepth 20000 in
theorem mmx_227 {d : Nat} {w : Int32} {p q u v lo : Int64} {I : Nat → Nat → Int32} {J : Nat → Nat → Int64} {T : Nat → Nat → Nat} {Q : Option Value → Mem → Prop} (hyp : Go none aM (Ev mt aM (d + 30)) mX12_mixed Q (248, [none, none, none, none, none, some (.int w), some (.long p), none, some (.long (q - lo)), none, some (.long (u - lo)), none, some (.long (v - lo)), none, none, none, none, none, none, none, none, none], [], (SH, mkM I J T), 0, 0)) : Go none aM (Ev mt aM (d + 30)) mX12_mixed Q (227, [none, none, none, none, none, some (.int w), some (.long p), none, some (.long q), none, some (.long u), none, some (.long v), none, some (.long lo), none, none, none, none, none, none, none], [], (SH, mkM I J T), 0, 0) := by
  refine Go.of_run (Ev.mono _) 12 _ ?_
  exact Go.weak (Ev.mono _) (LLe.cons (LLe.cons (LLe.cons (LLe.cons (LLe.cons (LLe.cons (LLe.cons (LLe.cons (LLe.cons (LLe.cons (LLe.cons (LLe.cons (LLe.cons (LLe.cons (LLe.drop (LLe.cons (LLe.cons (LLe.cons (LLe.cons (LLe.cons (LLe.cons (LLe.cons LLe.nil)))))))))))))))))))))) hyp
set_option maxRecDepth 20000 in
theorem mmx_248 {d : Nat} {w : Int32} {p q u v : Int64} {I : Nat → Nat → Int32} {J : Nat → Nat → Int64} {T : Nat → Nat → Nat} {Q : Option Value → Mem → Prop} (hyp : Go none aM (Ev mt aM (d + 30)) mX12_mixed Q (261, [none, none, none, none, none, some (.int w), some (.long p), none, some (.long q), none, some (.long u), none, some (.long v), none, none, none, some (.long ((p * v) - (q * u))), none, none, none, none, none], [], (SH, mkM I J T), 0, 0)) : Go none aM (Ev mt aM (d + 30)) mX12_mixed Q (248, [none, none, none, none, none, some (.int w), some (.long p), none, some (.long q), none, some (.long u), none, some (.long v), none, none, none, none, none, none, none, none, none], [], (SH, mkM I J T), 0, 0) := by
  refine Go.of_run (Ev.mono _) 8 _ ?_
  exact hyp
set_option maxRecDepth 20000 in
theorem mmx_261 {d : Nat} {w : Int32} {p q u v ab : Int64} {I : Nat → Nat → Int32} {J : Nat → Nat → Int64} {T : Nat → Nat → Nat} {Q : Option Value → Mem → Prop} (hyp : Go none aM (Ev mt aM (d + 30)) mX12_mixed Q (274, [none, none, none, none, none, some (.int w), none, none, none, none, none, none, none, none, none, none, some (.long ab), none, some (.long (((p + v) - q) - u)), none, none, none], [], (SH, mkM I J T), 0, 0)) : Go none aM (Ev mt aM (d + 30)) mX12_mixed Q (261, [none, none, none, none, none, some (.int w), some (.long p), none, some (.long q), none, some (.long u), none, some (.long v), none, none, none, some (.long ab), none, none, none, none, none], [], (SH, mkM I J T), 0, 0) := by
  refine Go.of_run (Ev.mono _) 8 _ ?_
  exact Go.weak (Ev.mono _) (LLe.cons (LLe.cons (LLe.cons (LLe.cons (LLe.cons (LLe.cons (LLe.drop (LLe.cons (LLe.drop (LLe.cons (LLe.drop (LLe.cons (LLe.drop (LLe.cons (LLe.cons (LLe.cons (LLe.cons (LLe.cons (LLe.cons (LLe.cons (LLe.cons (LLe.cons LLe.nil)))))))))))))))))))))) hyp
set_option maxRecDepth 20000 in
theorem mmx_274 {d : Nat} {w : Int32} {ab be : Int64} {I : Nat → Nat → Int32} {J : Nat → Nat → Int64} {T : Nat → Nat → Nat} {Q : Option Value → Mem → Prop} (hyp : Ev mt aM (d + 30) 267 [.long ab, .long be] (SH, mkM I J T) (fun r m1 => Go none aM (Ev mt aM (d + 30)) mX12_mixed Q (281, [none, none, none, none, none, some (.int w), none, none, none, none, none, none, none, none, none, none, some (.long ab), none, some (.long be), none, none, none], r.toList ++ [], m1, 0, 0))) : Go none aM (Ev mt aM (d + 30)) mX12_mixed Q (274, [none, none, none, none, none, some (.int w), none, none, none, none, none, none, none, none, none, none, some (.long ab), none, some (.long be), none, none, none], [], (SH, mkM I J T), 0, 0) := by
  refine Go.of_run (Ev.mono _) 3 _ ?_
  refine ⟨Nat.le_of_ble_eq_true rfl, hyp⟩
set_option maxRecDepth 20000 in
theorem mmx_281 {d : Nat} {w : Int32} {ab be g : Int64} {I : Nat → Nat → Int32} {J : Nat → Nat → Int64} {T : Nat → Nat → Nat} {Q : Option Value → Mem → Prop} (hyp : ((0 ≤ lg_cmp be (0 : Int64) → ((w = (1 : Int32) → (¬ g = 0 ∧ Q (some (.long (ab / g))) (SH, mkM I J T))) ∧ ((¬ (w = (1 : Int32))) → (¬ g = 0 ∧ Q (some (.long (be / g))) (SH, mkM I J T))))) ∧ ((¬ (0 ≤ lg_cmp be (0 : Int64))) → ((w = (1 : Int32) → (¬ (-g) = 0 ∧ Q (some (.long (ab / (-g)))) (SH, mkM I J T))) ∧ ((¬ (w = (1 : Int32))) → (¬ (-g) = 0 ∧ Q (some (.long (be / (-g)))) (SH, mkM I J T))))))) : Go none aM (Ev mt aM (d + 30)) mX12_mixed Q (281, [none, none, none, none, none, some (.int w), none, none, none, none, none, none, none, none, none, none, some (.long ab), none, some (.long be), none, none, none], [.long g], (SH, mkM I J T), 0, 0) := by
  refine Go.of_run (Ev.mono _) 5 _ ?_
  show Go none aM (Ev mt aM (d + 30)) mX12_mixed Q (if 0 ≤ lg_cmp be (0 : Int64) then 296 else 290, [none, none, none, none, none, some (.int w), none, none, none, none, none, none, none, none, none, none, some (.long ab), none, some (.long be), none, some (.long g), none], [], (SH, mkM I J T), 0, 0)
  rcases Decidable.em (0 ≤ lg_cmp be (0 : Int64)) with c1 | c1
  · rw [if_pos c1]
    refine Go.of_run (Ev.mono _) 5 _ ?_
    show Go none aM (Ev mt aM (d + 30)) mX12_mixed Q (if w = (1 : Int32) then 306 else 314, [none, none, none, none, none, some (.int w), none, none, none, none, none, none, none, none, none, none, some (.long ab), none, some (.long be), none, some (.long g), none], [], (SH, mkM I J T), 0, 0)
    rcases Decidable.em (w = (1 : Int32)) with c2 | c2
    · rw [if_pos c2]
      refine Go.of_run (Ev.mono _) 3 _ ?_
      refine ⟨((hyp.1 c1).1 c2).1, ?_⟩
      show Go none aM (Ev mt aM (d + 30)) mX12_mixed Q (311, [none, none, none, none, none, some (.int w), none, none, none, none, none, none, none, none, none, none, some (.long ab), none, some (.long be), none, some (.long g), none], [.long (ab / g)], (SH, mkM I J T), 0, 0)
      refine Go.of_run (Ev.mono _) 2 _ ?_
      refine ⟨trivial, ?_⟩
      show Q (some (.long (ab / g))) (SH, mkM I J T)
      exact ((hyp.1 c1).1 c2).2
    · rw [if_neg c2]
      refine Go.of_run (Ev.mono _) 3 _ ?_
      refine ⟨((hyp.1 c1).2 c2).1, ?_⟩
      show Go none aM (Ev mt aM (d + 30)) mX12_mixed Q (319, [none, none, none, none, none, some (.int w), none, none, none, none, none, none, none, none, none, none, some (.long ab), none, some (.long be), none, some (.long g), none], [.long (be / g)], (SH, mkM I J T), 0, 0)
      refine Go.of_run (Ev.mono _) 1 _ ?_
      refine ⟨trivial, ?_⟩
      show Q (some (.long (be / g))) (SH, mkM I J T)
      exact ((hyp.1 c1).2 c2).2
  · rw [if_neg c1]
    refine Go.of_run (Ev.mono _) 7 _ ?_
    show Go none aM (Ev mt aM (d + 30)) mX12_mixed Q (if w = (1 : Int32) then 306 else 314, [none, none, none, none, none, some (.int w), none, none, none, none, none, none, none, none, none, none, some (.long ab), none, some (.long be), none, some (.long (-g)), none], [], (SH, mkM I J T), 0, 0)
    rcases Decidable.em (w = (1 : Int32)) with c3 | c3
    · rw [if_pos c3]
      refine Go.of_run (Ev.mono _) 3 _ ?_
      refine ⟨((hyp.2 c1).1 c3).1, ?_⟩
      show Go none aM (Ev mt aM (d + 30)) mX12_mixed Q (311, [none, none, none, none, none, some (.int w), none, none, none, none, none, none, none, none, none, none, some (.long ab), none, some (.long be), none, some (.long (-g)), none], [.long (ab / (-g))], (SH, mkM I J T), 0, 0)
      refine Go.of_run (Ev.mono _) 2 _ ?_
      refine ⟨trivial, ?_⟩
      show Q (some (.long (ab / (-g)))) (SH, mkM I J T)
      exact ((hyp.2 c1).1 c3).2
    · rw [if_neg c3]
      refine Go.of_run (Ev.mono _) 3 _ ?_
      refine ⟨((hyp.2 c1).2 c3).1, ?_⟩
      show Go none aM (Ev mt aM (d + 30)) mX12_mixed Q (319, [none, none, none, none, none, some (.int w), none, none, none, none, none, none, none, none, none, none, some (.long ab), none, some (.long be), none, some (.long (-g)), none], [.long (be / (-g))], (SH, mkM I J T), 0, 0)
      refine Go.of_run (Ev.mono _) 1 _ ?_
      refine ⟨trivial, ?_⟩
      show Q (some (.long (be / (-g)))) (SH, mkM I J T)
      exact ((hyp.2 c1).2 c3).2
set_option maxRecDepth 20000 in
theorem gcd_0 {d : Nat} {p q : Int64} {I : Nat → Nat → Int32} {J : Nat → Nat → Int64} {T : Nat → Nat → Nat} {Q : Option Value → Mem → Prop} (hyp : ((0 ≤ lg_cmp p (0 : Int64) → ((0 ≤ lg_cmp q (0 : Int64) → Go none aM (Ev mt aM (d + 3)) mX12_gcd Q (28, [none, none, none, none, some (.long p), none, some (.long q), none, none, none], [], (SH, mkM I J T), 0, 0)) ∧ ((¬ (0 ≤ lg_cmp q (0 : Int64))) → Go none aM (Ev mt aM (d + 3)) mX12_gcd Q (28, [none, none, none, none, some (.long p), none, some (.long (-q)), none, none, none], [], (SH, mkM I J T), 0, 0)))) ∧ ((¬ (0 ≤ lg_cmp p (0 : Int64))) → ((0 ≤ lg_cmp q (0 : Int64) → Go none aM (Ev mt aM (d + 3)) mX12_gcd Q (28, [none, none, none, none, some (.long (-p)), none, some (.long q), none, none, none], [], (SH, mkM I J T), 0, 0)) ∧ ((¬ (0 ≤ lg_cmp q (0 : Int64))) → Go none aM (Ev mt aM (d + 3)) mX12_gcd Q (28, [none, none, none, none, some (.long (-p)), none, some (.long (-q)), none, none, none], [], (SH, mkM I J T), 0, 0)))))) : Go none aM (Ev mt aM (d + 3)) mX12_gcd Q (0, [some (.long p), none, some (.long q), none, none, none, none, none, none, none], [], (SH, mkM I J T), 0, 0) := by
  refine Go.of_run (Ev.mono _) 4 _ ?_
  show Go none aM (Ev mt aM (d + 3)) mX12_gcd Q (if 0 ≤ lg_cmp p (0 : Int64) then 11 else 6, [some (.long p), none, some (.long q), none, none, none, none, none, none, none], [], (SH, mkM I J T), 0, 0)
  rcases Decidable.em (0 ≤ lg_cmp p (0 : Int64)) with c1 | c1
  · rw [if_pos c1]
    refine Go.of_run (Ev.mono _) 6 _ ?_
    show Go none aM (Ev mt aM (d + 3)) mX12_gcd Q (if 0 ≤ lg_cmp q (0 : Int64) then 25 else 20, [some (.long p), none, some (.long q), none, some (.long p), none, none, none, none, none], [], (SH, mkM I J T), 0, 0)
    rcases Decidable.em (0 ≤ lg_cmp q (0 : Int64)) with c2 | c2
    · rw [if_pos c2]
      refine Go.of_run (Ev.mono _) 2 _ ?_
      exact Go.weak (Ev.mono _) (LLe.drop (LLe.cons (LLe.drop (LLe.cons (LLe.cons (LLe.cons (LLe.cons (LLe.cons (LLe.cons (LLe.cons LLe.nil)))))))))) ((hyp.1 c1).1 c2)
    · rw [if_neg c2]
      refine Go.of_run (Ev.mono _) 4 _ ?_
      exact Go.weak (Ev.mono _) (LLe.drop (LLe.cons (LLe.drop (LLe.cons (LLe.cons (LLe.cons (LLe.cons (LLe.cons (LLe.cons (LLe.cons LLe.nil)))))))))) ((hyp.1 c1).2 c2)
  · rw [if_neg c1]
    refine Go.of_run (Ev.mono _) 8 _ ?_
    show Go none aM (Ev mt aM (d + 3)) mX12_gcd Q (if 0 ≤ lg_cmp q (0 : Int64) then 25 else 20, [some (.long p), none, some (.long q), none, some (.long (-p)), none, none, none, none, none], [], (SH, mkM I J T), 0, 0)
    rcases Decidable.em (0 ≤ lg_cmp q (0 : Int64)) with c3 | c3
    · rw [if_pos c3]
      refine Go.of_run (Ev.mono _) 2 _ ?_
      exact Go.weak (Ev.mono _) (LLe.drop (LLe.cons (LLe.drop (LLe.cons (LLe.cons (LLe.cons (LLe.cons (LLe.cons (LLe.cons (LLe.cons LLe.nil)))))))))) ((hyp.2 c1).1 c3)
    · rw [if_neg c3]
      refine Go.of_run (Ev.mono _) 4 _ ?_
      exact Go.weak (Ev.mono _) (LLe.drop (LLe.cons (LLe.drop (LLe.cons (LLe.cons (LLe.cons (LLe.cons (LLe.cons (LLe.cons (LLe.cons LLe.nil)))))))))) ((hyp.2 c1).2 c3)
set_option maxRecDepth 20000 in
theorem gcd_28 {d : Nat} {a b : Int64} {I : Nat → Nat → Int32} {J : Nat → Nat → Int64} {T : Nat → Nat → Nat} {Q : Option Value → Mem → Prop} (hyp : ((lg_cmp b (0 : Int64) = 0 → Q (some (.long a)) (SH, mkM I J T)) ∧ ((¬ (lg_cmp b (0 : Int64) = 0)) → (¬ b = 0 ∧ Go none aM (Ev mt aM (d + 3)) mX12_gcd Q (28, [none, none, none, none, some (.long b), none, some (.long (a - a / b * b)), none, none, none], [], (SH, mkM I J T), 0, 0))))) : Go none aM (Ev mt aM (d + 3)) mX12_gcd Q (28, [none, none, none, none, some (.long a), none, some (.long b), none, none, none], [], (SH, mkM I J T), 0, 0) := by
  refine Go.of_run (Ev.mono _) 4 _ ?_
  show Go none aM (Ev mt aM (d + 3)) mX12_gcd Q (if lg_cmp b (0 : Int64) = 0 then 53 else 35, [none, none, none, none, some (.long a), none, some (.long b), none, none, none], [], (SH, mkM I J T), 0, 0)
  rcases Decidable.em (lg_cmp b (0 : Int64) = 0) with c1 | c1
  · rw [if_pos c1]
    refine Go.of_run (Ev.mono _) 2 _ ?_
    refine ⟨trivial, ?_⟩
    show Q (some (.long a)) (SH, mkM I J T)
    exact (hyp.1 c1)
  · rw [if_neg c1]
    refine Go.of_run (Ev.mono _) 3 _ ?_
    refine ⟨(hyp.2 c1).1, ?_⟩
    show Go none aM (Ev mt aM (d + 3)) mX12_gcd Q (40, [none, none, none, none, some (.long a), none, some (.long b), none, none, none], [.long (a - a / b * b)], (SH, mkM I J T), 0, 0)
    refine Go.of_run (Ev.mono _) 6 _ ?_
    exact Go.weak (Ev.mono _) (LLe.cons (LLe.cons (LLe.cons (LLe.cons (LLe.cons (LLe.cons (LLe.cons (LLe.cons (LLe.drop (LLe.cons LLe.nil)))))))))) (hyp.2 c1).2
