set_option maxRecDepth 20000 in
theorem chk_0 {d : Nat} {n : Int32} {I : Nat → Nat → Int32} {J : Nat → Nat → Int64} {T : Nat → Nat → Nat} {Q : Option Value → Mem → Prop} (hyp : ((n < 0 → Q (some (.int (-2 : Int32))) (SH, mkM I J T)) ∧ ((¬ (n < 0)) → (((27 : Int32) < n → Q (some (.int (-2 : Int32))) (SH, mkM I J T)) ∧ ((¬ ((27 : Int32) < n)) → (((8 : Int32) * n ≤ I 7 0 → Go none aM (Ev mt aM (d + 7)) mX11_check Q (31, [some (.ref 0), some (.int n), some (.int (-1 : Int32)), some (.int (0 : Int32))], [], (SH, mkM I J T), 0, 0)) ∧ ((¬ ((8 : Int32) * n ≤ I 7 0)) → Q (some (.int (-2 : Int32))) (SH, mkM I J T)))))))) : Go none aM (Ev mt aM (d + 7)) mX11_check Q (0, [some (.ref 0), some (.int n), none, none], [], (SH, mkM I J T), 0, 0) := by
  refine Go.of_run (Ev.mono _) 2 _ ?_
  show Go none aM (Ev mt aM (d + 7)) mX11_check Q (if n < 0 then 24 else 4, [some (.ref 0), some (.int n), none, none], [], (SH, mkM I J T), 0, 0)
  rcases Decidable.em (n < 0) with c1 | c1
  · rw [if_pos c1]
    refine Go.of_run (Ev.mono _) 2 _ ?_
    refine ⟨trivial, ?_⟩
    show Q (some (.int (-2 : Int32))) (SH, mkM I J T)
    exact (hyp.1 c1)
  · rw [if_neg c1]
    refine Go.of_run (Ev.mono _) 3 _ ?_
    show Go none aM (Ev mt aM (d + 7)) mX11_check Q (if (27 : Int32) < n then 24 else 10, [some (.ref 0), some (.int n), none, none], [], (SH, mkM I J T), 0, 0)
    rcases Decidable.em ((27 : Int32) < n) with c2 | c2
    · rw [if_pos c2]
      refine Go.of_run (Ev.mono _) 2 _ ?_
      refine ⟨trivial, ?_⟩
      show Q (some (.int (-2 : Int32))) (SH, mkM I J T)
      exact ((hyp.2 c1).1 c2)
    · rw [if_neg c2]
      refine Go.of_run (Ev.mono _) 7 _ ?_
      show Go none aM (Ev mt aM (d + 7)) mX11_check Q (if (8 : Int32) * n ≤ I 7 0 then 27 else 24, [some (.ref 0), some (.int n), none, none], [], (SH, mkM I J T), 0, 0)
      rcases Decidable.em ((8 : Int32) * n ≤ I 7 0) with c3 | c3
      · rw [if_pos c3]
        refine Go.of_run (Ev.mono _) 4 _ ?_
        exact (((hyp.2 c1).2 c2).1 c3)
      · rw [if_neg c3]
        refine Go.of_run (Ev.mono _) 2 _ ?_
        refine ⟨trivial, ?_⟩
        show Q (some (.int (-2 : Int32))) (SH, mkM I J T)
        exact (((hyp.2 c1).2 c2).2 c3)
set_option maxRecDepth 20000 in
theorem chk_31 {d : Nat} {n p i : Int32} {I : Nat → Nat → Int32} {J : Nat → Nat → Int64} {T : Nat → Nat → Nat} {Q : Option Value → Mem → Prop} (hyp : (((2 : Int32) * n ≤ i → ((p = (-1 : Int32) → ((I 76 0 ≤ n → Q (some (.int p)) (SH, mkM (si I 7 0 (0 : Int32)) J T)) ∧ ((¬ (I 76 0 ≤ n)) → Q (some (.int ((2 : Int32) * n))) (SH, mkM (si I 7 0 (0 : Int32)) J T)))) ∧ ((¬ (p = (-1 : Int32))) → Q (some (.int p)) (SH, mkM (si I 7 0 (0 : Int32)) J T)))) ∧ ((¬ ((2 : Int32) * n ≤ i)) → ((p = (-1 : Int32) → (vp_in ((4 : Int32) * i) 220 ∧ (vp_in (((4 : Int32) * i) + (1 : Int32)) 220 ∧ (vp_in (((4 : Int32) * i) + (2 : Int32)) 220 ∧ (vp_in (((4 : Int32) * i) + (3 : Int32)) 220 ∧ ((((i / (2 : Int32)) + (1 : Int32)) ≤ I 76 0 → (((i - i / (2 : Int32) * (2 : Int32)) = 0 → vp_in ((i / (2 : Int32)) + (1 : Int32)) 6) ∧ ((¬ ((i - i / (2 : Int32) * (2 : Int32)) = 0)) → vp_in ((i / (2 : Int32)) + (1 : Int32)) 6))) ∧ ((v_X1_isBehind ((i / (2 : Int32)) + (1 : Int32)) (i - i / (2 : Int32) * (2 : Int32)) (v_X8_numberAt ((4 : Int32) * i) I) I = 0 → Go none aM (Ev mt aM (d + 7)) mX11_check Q (31, [some (.ref 0), some (.int n), some (.int i), some (.int (i + 1))], [], (SH, mkM I J T), 0, 0)) ∧ ((¬ (v_X1_isBehind ((i / (2 : Int32)) + (1 : Int32)) (i - i / (2 : Int32) * (2 : Int32)) (v_X8_numberAt ((4 : Int32) * i) I) I = 0)) → Go none aM (Ev mt aM (d + 7)) mX11_check Q (31, [some (.ref 0), some (.int n), some (.int p), some (.int (i + 1))], [], (SH, mkM I J T), 0, 0))))))))) ∧ ((¬ (p = (-1 : Int32))) → ((p = (-1 : Int32) → ((I 76 0 ≤ n → Q (some (.int p)) (SH, mkM (si I 7 0 (0 : Int32)) J T)) ∧ ((¬ (I 76 0 ≤ n)) → Q (some (.int ((2 : Int32) * n))) (SH, mkM (si I 7 0 (0 : Int32)) J T)))) ∧ ((¬ (p = (-1 : Int32))) → Q (some (.int p)) (SH, mkM (si I 7 0 (0 : Int32)) J T)))))))) : Go none aM (Ev mt aM (d + 7)) mX11_check Q (31, [some (.ref 0), some (.int n), some (.int p), some (.int i)], [], (SH, mkM I J T), 0, 0) := by
  refine Go.of_run (Ev.mono _) 5 _ ?_
  show Go none aM (Ev mt aM (d + 7)) mX11_check Q (if (2 : Int32) * n ≤ i then 79 else 38, [some (.ref 0), some (.int n), some (.int p), some (.int i)], [], (SH, mkM I J T), 0, 0)
  rcases Decidable.em ((2 : Int32) * n ≤ i) with c1 | c1
  · rw [if_pos c1]
    refine Go.of_run (Ev.mono _) 3 _ ?_
    show Go none aM (Ev mt aM (d + 7)) mX11_check Q (if p = (-1 : Int32) then 84 else 99, [some (.ref 0), some (.int n), some (.int p), some (.int i)], [], (SH, mkM I J T), 0, 0)
    rcases Decidable.em (p = (-1 : Int32)) with c2 | c2
    · rw [if_pos c2]
      refine Go.of_run (Ev.mono _) 5 _ ?_
      show Go none aM (Ev mt aM (d + 7)) mX11_check Q (if I 76 0 ≤ n then 99 else 95, [some (.ref 0), some (.int n), some (.int p), some (.int i)], [], (SH, mkM I J T), 0, 0)
      rcases Decidable.em (I 76 0 ≤ n) with c3 | c3
      · rw [if_pos c3]
        refine Go.of_run (Ev.mono _) 4 _ ?_
        refine go_si rfl ?_
        show Go none aM (Ev mt aM (d + 7)) mX11_check Q (107, [some (.ref 0), some (.int n), some (.int p), some (.int i)], [], (SH, mkM (si I 7 0 (0 : Int32)) J T), 0, 0)
        refine Go.of_run (Ev.mono _) 2 _ ?_
        refine ⟨trivial, ?_⟩
        show Q (some (.int p)) (SH, mkM (si I 7 0 (0 : Int32)) J T)
        exact (((hyp.1 c1).1 c2).1 c3)
      · rw [if_neg c3]
        refine Go.of_run (Ev.mono _) 8 _ ?_
        refine go_si rfl ?_
        show Go none aM (Ev mt aM (d + 7)) mX11_check Q (107, [some (.ref 0), some (.int n), some (.int ((2 : Int32) * n)), some (.int i)], [], (SH, mkM (si I 7 0 (0 : Int32)) J T), 0, 0)
        refine Go.of_run (Ev.mono _) 2 _ ?_
        refine ⟨trivial, ?_⟩
        show Q (some (.int ((2 : Int32) * n))) (SH, mkM (si I 7 0 (0 : Int32)) J T)
        exact (((hyp.1 c1).1 c2).2 c3)
    · rw [if_neg c2]
      refine Go.of_run (Ev.mono _) 4 _ ?_
      refine go_si rfl ?_
      show Go none aM (Ev mt aM (d + 7)) mX11_check Q (107, [some (.ref 0), some (.int n), some (.int p), some (.int i)], [], (SH, mkM (si I 7 0 (0 : Int32)) J T), 0, 0)
      refine Go.of_run (Ev.mono _) 2 _ ?_
      refine ⟨trivial, ?_⟩
      show Q (some (.int p)) (SH, mkM (si I 7 0 (0 : Int32)) J T)
      exact ((hyp.1 c1).2 c2)
  · rw [if_neg c1]
    refine Go.of_run (Ev.mono _) 3 _ ?_
    show Go none aM (Ev mt aM (d + 7)) mX11_check Q (if p = (-1 : Int32) then 43 else 79, [some (.ref 0), some (.int n), some (.int p), some (.int i)], [], (SH, mkM I J T), 0, 0)
    rcases Decidable.em (p = (-1 : Int32)) with c4 | c4
    · rw [if_pos c4]
      refine Go.of_run (Ev.mono _) 5 _ ?_
      refine ⟨(by decide : ¬ (2 : Int32) = 0), ?_⟩
      show Go none aM (Ev mt aM (d + 7)) mX11_check Q (50, [some (.ref 0), some (.int n), some (.int p), some (.int i)], [.int (i / (2 : Int32)), .ref 76], (SH, mkM I J T), 0, 0)
      refine Go.of_run (Ev.mono _) 5 _ ?_
      refine ⟨(by decide : ¬ (2 : Int32) = 0), ?_⟩
      show Go none aM (Ev mt aM (d + 7)) mX11_check Q (55, [some (.ref 0), some (.int n), some (.int p), some (.int i)], [.int (i - i / (2 : Int32) * (2 : Int32)), .int ((i / (2 : Int32)) + (1 : Int32)), .ref 76], (SH, mkM I J T), 0, 0)
      refine Go.of_run (Ev.mono _) 6 _ ?_
      refine ⟨Nat.le_of_ble_eq_true rfl, ev_X8_numberAt ⟨((hyp.2 c1).1 c4).1, ⟨((hyp.2 c1).1 c4).2.1, ⟨((hyp.2 c1).1 c4).2.2.1, ((hyp.2 c1).1 c4).2.2.2.1⟩⟩⟩ ?_⟩
      show Go none aM (Ev mt aM (d + 7)) mX11_check Q (65, [some (.ref 0), some (.int n), some (.int p), some (.int i)], [.int (v_X8_numberAt ((4 : Int32) * i) I), .int (i - i / (2 : Int32) * (2 : Int32)), .int ((i / (2 : Int32)) + (1 : Int32)), .ref 76], (SH, mkM I J T), 0, 0)
      refine Go.of_run (Ev.mono _) 1 _ ?_
      refine ⟨Nat.le_of_ble_eq_true rfl, ev_X1_isBehind ((hyp.2 c1).1 c4).2.2.2.2.1 ?_⟩
      show Go none aM (Ev mt aM (d + 7)) mX11_check Q (68, [some (.ref 0), some (.int n), some (.int p), some (.int i)], [.int (v_X1_isBehind ((i / (2 : Int32)) + (1 : Int32)) (i - i / (2 : Int32) * (2 : Int32)) (v_X8_numberAt ((4 : Int32) * i) I) I)], (SH, mkM I J T), 0, 0)
      refine Go.of_run (Ev.mono _) 1 _ ?_
      show Go none aM (Ev mt aM (d + 7)) mX11_check Q (if v_X1_isBehind ((i / (2 : Int32)) + (1 : Int32)) (i - i / (2 : Int32) * (2 : Int32)) (v_X8_numberAt ((4 : Int32) * i) I) I = 0 then 71 else 73, [some (.ref 0), some (.int n), some (.int p), some (.int i)], [], (SH, mkM I J T), 0, 0)
      rcases Decidable.em (v_X1_isBehind ((i / (2 : Int32)) + (1 : Int32)) (i - i / (2 : Int32) * (2 : Int32)) (v_X8_numberAt ((4 : Int32) * i) I) I = 0) with c5 | c5
      · rw [if_pos c5]
        refine Go.of_run (Ev.mono _) 4 _ ?_
        exact (((hyp.2 c1).1 c4).2.2.2.2.2.1 c5)
      · rw [if_neg c5]
        refine Go.of_run (Ev.mono _) 2 _ ?_
        exact (((hyp.2 c1).1 c4).2.2.2.2.2.2 c5)
    · rw [if_neg c4]
      refine Go.of_run (Ev.mono _) 3 _ ?_
      show Go none aM (Ev mt aM (d + 7)) mX11_check Q (if p = (-1 : Int32) then 84 else 99, [some (.ref 0), some (.int n), some (.int p), some (.int i)], [], (SH, mkM I J T), 0, 0)
      rcases Decidable.em (p = (-1 : Int32)) with c6 | c6
      · rw [if_pos c6]
        refine Go.of_run (Ev.mono _) 5 _ ?_
        show Go none aM (Ev mt aM (d + 7)) mX11_check Q (if I 76 0 ≤ n then 99 else 95, [some (.ref 0), some (.int n), some (.int p), some (.int i)], [], (SH, mkM I J T), 0, 0)
        rcases Decidable.em (I 76 0 ≤ n) with c7 | c7
        · rw [if_pos c7]
          refine Go.of_run (Ev.mono _) 4 _ ?_
          refine go_si rfl ?_
          show Go none aM (Ev mt aM (d + 7)) mX11_check Q (107, [some (.ref 0), some (.int n), some (.int p), some (.int i)], [], (SH, mkM (si I 7 0 (0 : Int32)) J T), 0, 0)
          refine Go.of_run (Ev.mono _) 2 _ ?_
          refine ⟨trivial, ?_⟩
          show Q (some (.int p)) (SH, mkM (si I 7 0 (0 : Int32)) J T)
          exact ((((hyp.2 c1).2 c4).1 c6).1 c7)
        · rw [if_neg c7]
          refine Go.of_run (Ev.mono _) 8 _ ?_
          refine go_si rfl ?_
          show Go none aM (Ev mt aM (d + 7)) mX11_check Q (107, [some (.ref 0), some (.int n), some (.int ((2 : Int32) * n)), some (.int i)], [], (SH, mkM (si I 7 0 (0 : Int32)) J T), 0, 0)
          refine Go.of_run (Ev.mono _) 2 _ ?_
          refine ⟨trivial, ?_⟩
          show Q (some (.int ((2 : Int32) * n))) (SH, mkM (si I 7 0 (0 : Int32)) J T)
          exact ((((hyp.2 c1).2 c4).1 c6).2 c7)
      · rw [if_neg c6]
        refine Go.of_run (Ev.mono _) 4 _ ?_
        refine go_si rfl ?_
        show Go none aM (Ev mt aM (d + 7)) mX11_check Q (107, [some (.ref 0), some (.int n), some (.int p), some (.int i)], [], (SH, mkM (si I 7 0 (0 : Int32)) J T), 0, 0)
        refine Go.of_run (Ev.mono _) 2 _ ?_
        refine ⟨trivial, ?_⟩
        show Q (some (.int p)) (SH, mkM (si I 7 0 (0 : Int32)) J T)
        exact (((hyp.2 c1).2 c4).2 c6)
set_option maxRecDepth 20000 in
theorem mck_0 {d : Nat} {n : Int32} {I : Nat → Nat → Int32} {J : Nat → Nat → Int64} {T : Nat → Nat → Nat} {Q : Option Value → Mem → Prop} (hyp : ((n < 0 → Q (some (.int (-2 : Int32))) (SH, mkM I J T)) ∧ ((¬ (n < 0)) → ((n ≤ (I 83 11) / (8 : Int32) → Go none aM (Ev mt aM (d + 7)) mX12_check Q (25, [some (.ref 83), some (.int n), some (.int (0 : Int32))], [], (SH, mkM (si I 83 11 (0 : Int32)) J T), 0, 0)) ∧ ((¬ (n ≤ (I 83 11) / (8 : Int32))) → Q (some (.int (-2 : Int32))) (SH, mkM I J T)))))) : Go none aM (Ev mt aM (d + 7)) mX12_check Q (0, [some (.ref 83), some (.int n), none], [], (SH, mkM I J T), 0, 0) := by
  refine Go.of_run (Ev.mono _) 2 _ ?_
  show Go none aM (Ev mt aM (d + 7)) mX12_check Q (if n < 0 then 15 else 4, [some (.ref 83), some (.int n), none], [], (SH, mkM I J T), 0, 0)
  rcases Decidable.em (n < 0) with c1 | c1
  · rw [if_pos c1]
    refine Go.of_run (Ev.mono _) 2 _ ?_
    refine ⟨trivial, ?_⟩
    show Q (some (.int (-2 : Int32))) (SH, mkM I J T)
    exact (hyp.1 c1)
  · rw [if_neg c1]
    refine Go.of_run (Ev.mono _) 5 _ ?_
    refine ⟨(by decide : ¬ (8 : Int32) = 0), ?_⟩
    show Go none aM (Ev mt aM (d + 7)) mX12_check Q (12, [some (.ref 83), some (.int n), none], [.int ((I 83 11) / (8 : Int32)), .int n], (SH, mkM I J T), 0, 0)
    refine Go.of_run (Ev.mono _) 1 _ ?_
    show Go none aM (Ev mt aM (d + 7)) mX12_check Q (if n ≤ (I 83 11) / (8 : Int32) then 18 else 15, [some (.ref 83), some (.int n), none], [], (SH, mkM I J T), 0, 0)
    rcases Decidable.em (n ≤ (I 83 11) / (8 : Int32)) with c2 | c2
    · rw [if_pos c2]
      refine Go.of_run (Ev.mono _) 3 _ ?_
      refine go_si rfl ?_
      show Go none aM (Ev mt aM (d + 7)) mX12_check Q (23, [some (.ref 83), some (.int n), none], [], (SH, mkM (si I 83 11 (0 : Int32)) J T), 0, 0)
      refine Go.of_run (Ev.mono _) 2 _ ?_
      exact ((hyp.2 c1).1 c2)
    · rw [if_neg c2]
      refine Go.of_run (Ev.mono _) 2 _ ?_
      refine ⟨trivial, ?_⟩
      show Q (some (.int (-2 : Int32))) (SH, mkM I J T)
      exact ((hyp.2 c1).2 c2)
set_option maxRecDepth 20000 in
theorem mck_25 {d : Nat} {n i : Int32} {I : Nat → Nat → Int32} {J : Nat → Nat → Int64} {T : Nat → Nat → Nat} {Q : Option Value → Mem → Prop} (hyp : ((I 83 48 ≤ i → ((n ≤ I 83 48 → Q (some (.int (-1 : Int32))) (SH, mkM I J T)) ∧ ((¬ (n ≤ I 83 48)) → Q (some (.int ((2 : Int32) * (I 83 48)))) (SH, mkM I J T)))) ∧ ((¬ (I 83 48 ≤ i)) → ((i = n → Q (some (.int ((2 : Int32) * i))) (SH, mkM I J T)) ∧ ((¬ (i = n)) → Ev mt aM (d + 7) 284 [.ref 83, .int ((2 : Int32) * i)] (SH, mkM I J T) (fun r m1 => Go none aM (Ev mt aM (d + 7)) mX12_check Q (45, [some (.ref 83), some (.int n), some (.int i)], r.toList ++ [], m1, 0, 0))))))) : Go none aM (Ev mt aM (d + 7)) mX12_check Q (25, [some (.ref 83), some (.int n), some (.int i)], [], (SH, mkM I J T), 0, 0) := by
  refine Go.of_run (Ev.mono _) 4 _ ?_
  show Go none aM (Ev mt aM (d + 7)) mX12_check Q (if I 83 48 ≤ i then 95 else 33, [some (.ref 83), some (.int n), some (.int i)], [], (SH, mkM I J T), 0, 0)
  rcases Decidable.em (I 83 48 ≤ i) with c1 | c1
  · rw [if_pos c1]
    refine Go.of_run (Ev.mono _) 4 _ ?_
    show Go none aM (Ev mt aM (d + 7)) mX12_check Q (if n ≤ I 83 48 then 112 else 103, [some (.ref 83), some (.int n), some (.int i)], [], (SH, mkM I J T), 0, 0)
    rcases Decidable.em (n ≤ I 83 48) with c2 | c2
    · rw [if_pos c2]
      refine Go.of_run (Ev.mono _) 2 _ ?_
      refine ⟨trivial, ?_⟩
      show Q (some (.int (-1 : Int32))) (SH, mkM I J T)
      exact ((hyp.1 c1).1 c2)
    · rw [if_neg c2]
      refine Go.of_run (Ev.mono _) 6 _ ?_
      refine ⟨trivial, ?_⟩
      show Q (some (.int ((2 : Int32) * (I 83 48)))) (SH, mkM I J T)
      exact ((hyp.1 c1).2 c2)
  · rw [if_neg c1]
    refine Go.of_run (Ev.mono _) 3 _ ?_
    show Go none aM (Ev mt aM (d + 7)) mX12_check Q (if i = n then 59 else 38, [some (.ref 83), some (.int n), some (.int i)], [], (SH, mkM I J T), 0, 0)
    rcases Decidable.em (i = n) with c3 | c3
    · rw [if_pos c3]
      refine Go.of_run (Ev.mono _) 4 _ ?_
      refine ⟨trivial, ?_⟩
      show Q (some (.int ((2 : Int32) * i))) (SH, mkM I J T)
      exact ((hyp.2 c1).1 c3)
    · rw [if_neg c3]
      refine Go.of_run (Ev.mono _) 5 _ ?_
      refine ⟨Nat.le_of_ble_eq_true rfl, ((hyp.2 c1).2 c3)⟩
set_option maxRecDepth 20000 in
theorem mck_45 {d : Nat} {n i v : Int32} {I : Nat → Nat → Int32} {J : Nat → Nat → Int64} {T : Nat → Nat → Nat} {Q : Option Value → Mem → Prop} (hyp : (vp_in (i + (1 : Int32)) 6 ∧ ((v = v_X12_toldOf (I 113 ((i + (1 : Int32)).toNatClampNeg)) → Ev mt aM (d + 7) 284 [.ref 83, .int (((2 : Int32) * i) + (1 : Int32))] (SH, mkM I J T) (fun r m1 => Go none aM (Ev mt aM (d + 7)) mX12_check Q (72, [some (.ref 83), some (.int n), some (.int i)], r.toList ++ [], m1, 0, 0))) ∧ ((¬ (v = v_X12_toldOf (I 113 ((i + (1 : Int32)).toNatClampNeg)))) → Q (some (.int ((2 : Int32) * i))) (SH, mkM I J T))))) : Go none aM (Ev mt aM (d + 7)) mX12_check Q (45, [some (.ref 83), some (.int n), some (.int i)], [.int v], (SH, mkM I J T), 0, 0) := by
  refine Go.of_run (Ev.mono _) 6 _ ?_
  refine ⟨hyp.1, ?_⟩
  show Go none aM (Ev mt aM (d + 7)) mX12_check Q (53, [some (.ref 83), some (.int n), some (.int i)], [.int (I 113 ((i + (1 : Int32)).toNatClampNeg)), .int v], (SH, mkM I J T), 0, 0)
  refine Go.of_run (Ev.mono _) 1 _ ?_
  refine ⟨Nat.le_of_ble_eq_true rfl, ev_X12_toldOf ?_⟩
  show Go none aM (Ev mt aM (d + 7)) mX12_check Q (56, [some (.ref 83), some (.int n), some (.int i)], [.int (v_X12_toldOf (I 113 ((i + (1 : Int32)).toNatClampNeg))), .int v], (SH, mkM I J T), 0, 0)
  refine Go.of_run (Ev.mono _) 1 _ ?_
  show Go none aM (Ev mt aM (d + 7)) mX12_check Q (if v = v_X12_toldOf (I 113 ((i + (1 : Int32)).toNatClampNeg)) then 63 else 59, [some (.ref 83), some (.int n), some (.int i)], [], (SH, mkM I J T), 0, 0)
  rcases Decidable.em (v = v_X12_toldOf (I 113 ((i + (1 : Int32)).toNatClampNeg))) with c1 | c1
  · rw [if_pos c1]
    refine Go.of_run (Ev.mono _) 7 _ ?_
    refine ⟨Nat.le_of_ble_eq_true rfl, (hyp.2.1 c1)⟩
  · rw [if_neg c1]
    refine Go.of_run (Ev.mono _) 4 _ ?_
    refine ⟨trivial, ?_⟩
    show Q (some (.int ((2 : Int32) * i))) (SH, mkM I J T)
    exact (hyp.2.2 c1)
set_option maxRecDepth 20000 in
theorem mck_72 {d : Nat} {n i v : Int32} {I : Nat → Nat → Int32} {J : Nat → Nat → Int64} {T : Nat → Nat → Nat} {Q : Option Value → Mem → Prop} (hyp : (vp_in (i + (1 : Int32)) 6 ∧ ((v = I 114 ((i + (1 : Int32)).toNatClampNeg) → Go none aM (Ev mt aM (d + 7)) mX12_check Q (25, [some (.ref 83), some (.int n), some (.int (i + 1))], [], (SH, mkM I J T), 0, 0)) ∧ ((¬ (v = I 114 ((i + (1 : Int32)).toNatClampNeg))) → Q (some (.int (((2 : Int32) * i) + (1 : Int32)))) (SH, mkM I J T))))) : Go none aM (Ev mt aM (d + 7)) mX12_check Q (72, [some (.ref 83), some (.int n), some (.int i)], [.int v], (SH, mkM I J T), 0, 0) := by
  refine Go.of_run (Ev.mono _) 6 _ ?_
  refine ⟨hyp.1, ?_⟩
  show Go none aM (Ev mt aM (d + 7)) mX12_check Q (80, [some (.ref 83), some (.int n), some (.int i)], [.int (I 114 ((i + (1 : Int32)).toNatClampNeg)), .int v], (SH, mkM I J T), 0, 0)
  refine Go.of_run (Ev.mono _) 1 _ ?_
  show Go none aM (Ev mt aM (d + 7)) mX12_check Q (if v = I 114 ((i + (1 : Int32)).toNatClampNeg) then 89 else 83, [some (.ref 83), some (.int n), some (.int i)], [], (SH, mkM I J T), 0, 0)
  rcases Decidable.em (v = I 114 ((i + (1 : Int32)).toNatClampNeg)) with c1 | c1
  · rw [if_pos c1]
    refine Go.of_run (Ev.mono _) 2 _ ?_
    exact (hyp.2.1 c1)
  · rw [if_neg c1]
    refine Go.of_run (Ev.mono _) 6 _ ?_
    refine ⟨trivial, ?_⟩
    show Q (some (.int (((2 : Int32) * i) + (1 : Int32)))) (SH, mkM I J T)
    exact (hyp.2.2 c1)
set_option maxRecDepth 20000 in
theorem tpn_0 {d : Nat} {i : Int32} {I : Nat → Nat → Int32} {J : Nat → Nat → Int64} {T : Nat → Nat → Nat} {Q : Option Value → Mem → Prop} (hyp : Go none aM (Ev mt aM (d + 1)) mX12_tapeNumber Q (6, [some (.ref 83), some (.int i), some (.int (0 : Int32)), some (.int ((4 : Int32) * i))], [], (SH, mkM I J T), 0, 0)) : Go none aM (Ev mt aM (d + 1)) mX12_tapeNumber Q (0, [some (.ref 83), some (.int i), none, none], [], (SH, mkM I J T), 0, 0) := by
  refine Go.of_run (Ev.mono _) 6 _ ?_
  exact hyp
set_option maxRecDepth 20000 in
theorem tpn_6 {d : Nat} {i v k : Int32} {I : Nat → Nat → Int32} {J : Nat → Nat → Int64} {T : Nat → Nat → Nat} {Q : Option Value → Mem → Prop} (hyp : ((((4 : Int32) * i) + (4 : Int32) ≤ k → Q (some (.int v)) (SH, mkM I J T)) ∧ ((¬ (((4 : Int32) * i) + (4 : Int32) ≤ k)) → (vp_in k 220 ∧ Go none aM (Ev mt aM (d + 1)) mX12_tapeNumber Q (6, [some (.ref 83), some (.int i), some (.int ((v <<< ((8 : Int32) &&& 31)) ||| ((I 90 k.toNatClampNeg) &&& (255 : Int32)))), some (.int (k + 1))], [], (SH, mkM I J T), 0, 0))))) : Go none aM (Ev mt aM (d + 1)) mX12_tapeNumber Q (6, [some (.ref 83), some (.int i), some (.int v), some (.int k)], [], (SH, mkM I J T), 0, 0) := by
  refine Go.of_run (Ev.mono _) 7 _ ?_
  show Go none aM (Ev mt aM (d + 1)) mX12_tapeNumber Q (if ((4 : Int32) * i) + (4 : Int32) ≤ k then 37 else 15, [some (.ref 83), some (.int i), some (.int v), some (.int k)], [], (SH, mkM I J T), 0, 0)
  rcases Decidable.em (((4 : Int32) * i) + (4 : Int32) ≤ k) with c1 | c1
  · rw [if_pos c1]
    refine Go.of_run (Ev.mono _) 2 _ ?_
    refine ⟨trivial, ?_⟩
    show Q (some (.int v)) (SH, mkM I J T)
    exact (hyp.1 c1)
  · rw [if_neg c1]
    refine Go.of_run (Ev.mono _) 7 _ ?_
    refine ⟨(hyp.2 c1).1, ?_⟩
    show Go none aM (Ev mt aM (d + 1)) mX12_tapeNumber Q (25, [some (.ref 83), some (.int i), some (.int v), some (.int k)], [.int (I 90 k.toNatClampNeg), .int (v <<< ((8 : Int32) &&& 31))], (SH, mkM I J T), 0, 0)
    refine Go.of_run (Ev.mono _) 6 _ ?_
    exact (hyp.2 c1).2
set_option maxRecDepth 20000 in
theorem drw_0 {d : Nat} {k o : Int32} {I : Nat → Nat → Int32} {J : Nat → Nat → Int64} {T : Nat → Nat → Nat} {Q : Option Value → Mem → Prop} (hyp : ((v_X11_isRule k = 0 → Q (some (.int (-1000 : Int32))) (SH, mkM I J T)) ∧ ((¬ (v_X11_isRule k = 0)) → (vp_in ((4 : Int32) + k) 8 ∧ (TX (T 13 ((4 : Int32) + k).toNatClampNeg) ∧ ((v_X2_isTold ((4 : Int32) + k) I T = 0 → Q (some (.int (-1000 : Int32))) (SH, mkM I J T)) ∧ ((¬ (v_X2_isTold ((4 : Int32) + k) I T = 0)) → ((v_X11_isOther o = 0 → Q (some (.int (-1000 : Int32))) (SH, mkM I J T)) ∧ ((¬ (v_X11_isOther o = 0)) → Go none aM (Ev mt aM (d + 8)) mX11_draw Q (41, [some (.ref 0), some (.int k), some (.int o), some (.int (0 : Int32))], [], (SH, mkM (si I 76 0 (0 : Int32)) J T), 0, 0)))))))))) : Go none aM (Ev mt aM (d + 8)) mX11_draw Q (0, [some (.ref 0), some (.int k), some (.int o), none], [], (SH, mkM I J T), 0, 0) := by
  refine Go.of_run (Ev.mono _) 2 _ ?_
  refine ⟨Nat.le_of_ble_eq_true rfl, ev_X11_isRule ?_⟩
  show Go none aM (Ev mt aM (d + 8)) mX11_draw Q (4, [some (.ref 0), some (.int k), some (.int o), none], [.int (v_X11_isRule k)], (SH, mkM I J T), 0, 0)
  refine Go.of_run (Ev.mono _) 1 _ ?_
  show Go none aM (Ev mt aM (d + 8)) mX11_draw Q (if v_X11_isRule k = 0 then 27 else 7, [some (.ref 0), some (.int k), some (.int o), none], [], (SH, mkM I J T), 0, 0)
  rcases Decidable.em (v_X11_isRule k = 0) with c1 | c1
  · rw [if_pos c1]
    refine Go.of_run (Ev.mono _) 2 _ ?_
    refine ⟨trivial, ?_⟩
    show Q (some (.int (-1000 : Int32))) (SH, mkM I J T)
    exact (hyp.1 c1)
  · rw [if_neg c1]
    refine Go.of_run (Ev.mono _) 6 _ ?_
    refine ⟨Nat.le_of_ble_eq_true rfl, ev_X2_isTold ⟨(hyp.2 c1).1, (hyp.2 c1).2.1⟩ ?_⟩
    show Go none aM (Ev mt aM (d + 8)) mX11_draw Q (17, [some (.ref 0), some (.int k), some (.int o), none], [.int (v_X2_isTold ((4 : Int32) + k) I T)], (SH, mkM I J T), 0, 0)
    refine Go.of_run (Ev.mono _) 1 _ ?_
    show Go none aM (Ev mt aM (d + 8)) mX11_draw Q (if v_X2_isTold ((4 : Int32) + k) I T = 0 then 27 else 20, [some (.ref 0), some (.int k), some (.int o), none], [], (SH, mkM I J T), 0, 0)
    rcases Decidable.em (v_X2_isTold ((4 : Int32) + k) I T = 0) with c2 | c2
    · rw [if_pos c2]
      refine Go.of_run (Ev.mono _) 2 _ ?_
      refine ⟨trivial, ?_⟩
      show Q (some (.int (-1000 : Int32))) (SH, mkM I J T)
      exact ((hyp.2 c1).2.2.1 c2)
    · rw [if_neg c2]
      refine Go.of_run (Ev.mono _) 2 _ ?_
      refine ⟨Nat.le_of_ble_eq_true rfl, ev_X11_isOther ?_⟩
      show Go none aM (Ev mt aM (d + 8)) mX11_draw Q (24, [some (.ref 0), some (.int k), some (.int o), none], [.int (v_X11_isOther o)], (SH, mkM I J T), 0, 0)
      refine Go.of_run (Ev.mono _) 1 _ ?_
      show Go none aM (Ev mt aM (d + 8)) mX11_draw Q (if v_X11_isOther o = 0 then 27 else 31, [some (.ref 0), some (.int k), some (.int o), none], [], (SH, mkM I J T), 0, 0)
      rcases Decidable.em (v_X11_isOther o = 0) with c3 | c3
      · rw [if_pos c3]
        refine Go.of_run (Ev.mono _) 2 _ ?_
        refine ⟨trivial, ?_⟩
        show Q (some (.int (-1000 : Int32))) (SH, mkM I J T)
        exact (((hyp.2 c1).2.2.2 c2).1 c3)
      · rw [if_neg c3]
        refine Go.of_run (Ev.mono _) 4 _ ?_
        refine go_si rfl ?_
        show Go none aM (Ev mt aM (d + 8)) mX11_draw Q (39, [some (.ref 0), some (.int k), some (.int o), none], [], (SH, mkM (si I 76 0 (0 : Int32)) J T), 0, 0)
        refine Go.of_run (Ev.mono _) 2 _ ?_
        exact (((hyp.2 c1).2.2.2 c2).2 c3)
set_option maxRecDepth 20000 in
theorem drw_41 {d : Nat} {k o p : Int32} {I : Nat → Nat → Int32} {J : Nat → Nat → Int64} {T : Nat → Nat → Nat} {Q : Option Value → Mem → Prop} (hyp : ((I 1 0 ≤ p → (vp_in (I 76 0) 6 ∧ Q (some (.int (v_X1_scoreBehind (I 76 0) I))) (SH, mkM I J T))) ∧ ((¬ (I 1 0 ≤ p)) → Ev mt aM (d + 8) 172 [.ref 0, .int k, .int o, .int p] (SH, mkM I J T) (fun r m1 => Go none aM (Ev mt aM (d + 8)) mX11_draw Q (59, [some (.ref 0), some (.int k), some (.int o), some (.int p)], r.toList ++ [], m1, 0, 0))))) : Go none aM (Ev mt aM (d + 8)) mX11_draw Q (41, [some (.ref 0), some (.int k), some (.int o), some (.int p)], [], (SH, mkM I J T), 0, 0) := by
  refine Go.of_run (Ev.mono _) 5 _ ?_
  show Go none aM (Ev mt aM (d + 8)) mX11_draw Q (if I 1 0 ≤ p then 65 else 52, [some (.ref 0), some (.int k), some (.int o), some (.int p)], [], (SH, mkM I J T), 0, 0)
  rcases Decidable.em (I 1 0 ≤ p) with c1 | c1
  · rw [if_pos c1]
    refine Go.of_run (Ev.mono _) 6 _ ?_
    refine ⟨Nat.le_of_ble_eq_true rfl, ev_X1_scoreBehind (hyp.1 c1).1 ?_⟩
    show Go none aM (Ev mt aM (d + 8)) mX11_draw Q (79, [some (.ref 0), some (.int k), some (.int o), some (.int p)], [.int (v_X1_scoreBehind (I 76 0) I)], (SH, mkM I J T), 0, 0)
    refine Go.of_run (Ev.mono _) 1 _ ?_
    refine ⟨trivial, ?_⟩
    show Q (some (.int (v_X1_scoreBehind (I 76 0) I))) (SH, mkM I J T)
    exact (hyp.1 c1).2
  · rw [if_neg c1]
    refine Go.of_run (Ev.mono _) 5 _ ?_
    refine ⟨Nat.le_of_ble_eq_true rfl, (hyp.2 c1)⟩
set_option maxRecDepth 20000 in
theorem drw_59 {d : Nat} {k o p : Int32} {I : Nat → Nat → Int32} {J : Nat → Nat → Int64} {T : Nat → Nat → Nat} {Q : Option Value → Mem → Prop} (hyp : Go none aM (Ev mt aM (d + 8)) mX11_draw Q (41, [some (.ref 0), some (.int k), some (.int o), some (.int (p + 1))], [], (SH, mkM I J T), 0, 0)) : Go none aM (Ev mt aM (d + 8)) mX11_draw Q (59, [some (.ref 0), some (.int k), some (.int o), some (.int p)], [], (SH, mkM I J T), 0, 0) := by
  refine Go.of_run (Ev.mono _) 2 _ ?_
  exact hyp
set_option maxRecDepth 20000 in
theorem dpe_0 {d : Nat} {k o p : Int32} {I : Nat → Nat → Int32} {J : Nat → Nat → Int64} {T : Nat → Nat → Nat} {Q : Option Value → Mem → Prop} (hyp : (vp_in p 6 ∧ (vp_in p 6 ∧ Ev mt aM (d + 7) 27 [.ref 9, .int o, .int p, .int (v_X1_scoreBehind p I)] (SH, mkM I J T) (fun r m1 => Go none aM (Ev mt aM (d + 7)) mX11_drawPeriod Q (31, [some (.ref 0), some (.int k), some (.int o), some (.int p), some (.int (v_X1_scoreBehind p I)), some (.int (v_X1_codeBehind p I)), none, none, none, none, none, none, none, none], r.toList ++ [], m1, 0, 0))))) : Go none aM (Ev mt aM (d + 7)) mX11_drawPeriod Q (0, [some (.ref 0), some (.int k), some (.int o), some (.int p), none, none, none, none, none, none, none, none, none, none], [], (SH, mkM I J T), 0, 0) := by
  refine Go.of_run (Ev.mono _) 4 _ ?_
  refine ⟨Nat.le_of_ble_eq_true rfl, ev_X1_scoreBehind hyp.1 ?_⟩
  show Go none aM (Ev mt aM (d + 7)) mX11_drawPeriod Q (8, [some (.ref 0), some (.int k), some (.int o), some (.int p), none, none, none, none, none, none, none, none, none, none], [.int (v_X1_scoreBehind p I)], (SH, mkM I J T), 0, 0)
  refine Go.of_run (Ev.mono _) 5 _ ?_
  refine ⟨Nat.le_of_ble_eq_true rfl, ev_X1_codeBehind hyp.2.1 ?_⟩
  show Go none aM (Ev mt aM (d + 7)) mX11_drawPeriod Q (18, [some (.ref 0), some (.int k), some (.int o), some (.int p), some (.int (v_X1_scoreBehind p I)), none, none, none, none, none, none, none, none, none], [.int (v_X1_codeBehind p I)], (SH, mkM I J T), 0, 0)
  refine Go.of_run (Ev.mono _) 7 _ ?_
  refine ⟨Nat.le_of_ble_eq_true rfl, hyp.2.2⟩
set_option maxRecDepth 20000 in
theorem dpe_31 {d : Nat} {k o p sc c v : Int32} {I : Nat → Nat → Int32} {J : Nat → Nat → Int64} {T : Nat → Nat → Nat} {Q : Option Value → Mem → Prop} (hyp : Ev mt aM (d + 7) 28 [.ref 9, .int k, .int p, .int sc, .int c, .int v] (SH, mkM I J T) (fun r m1 => Go none aM (Ev mt aM (d + 7)) mX11_drawPeriod Q (48, [some (.ref 0), some (.int k), some (.int o), some (.int p), some (.int sc), some (.int c), some (.int v), none, none, none, none, none, none, none], r.toList ++ [], m1, 0, 0))) : Go none aM (Ev mt aM (d + 7)) mX11_drawPeriod Q (31, [some (.ref 0), some (.int k), some (.int o), some (.int p), some (.int sc), some (.int c), none, none, none, none, none, none, none, none], [.int v], (SH, mkM I J T), 0, 0) := by
  refine Go.of_run (Ev.mono _) 9 _ ?_
  refine ⟨Nat.le_of_ble_eq_true rfl, hyp⟩
set_option maxRecDepth 20000 in
theorem dpe_48 {d : Nat} {k o p sc c st v : Int32} {I : Nat → Nat → Int32} {J : Nat → Nat → Int64} {T : Nat → Nat → Nat} {Q : Option Value → Mem → Prop} (hyp : ((0 < (v - v / (7 : Int32) * (7 : Int32)) → vp_in (v_X7_playerOf (v - v / (7 : Int32) * (7 : Int32))) 5) ∧ ((0 < (v / (7 : Int32)) → vp_in (v_X7_playerOf (v / (7 : Int32))) 5) ∧ Ev mt aM (d + 7) 29 [.ref 9, .int p, .int sc, .int (v_X7_codeAfter c v I), .int (v_X7_changesOf v), .int st, .int (I 1 1), .int (0 : Int32)] (SH, mkM I J T) (fun r m1 => Go none aM (Ev mt aM (d + 7)) mX11_drawPeriod Q (90, [some (.ref 0), some (.int k), some (.int o), some (.int p), some (.int sc), some (.int c), some (.int st), some (.int v), some (.int (v_X7_codeAfter c v I)), none, none, none, none, none], r.toList ++ [], m1, 0, 0))))) : Go none aM (Ev mt aM (d + 7)) mX11_drawPeriod Q (48, [some (.ref 0), some (.int k), some (.int o), some (.int p), some (.int sc), some (.int c), some (.int st), none, none, none, none, none, none, none], [.int v], (SH, mkM I J T), 0, 0) := by
  refine Go.of_run (Ev.mono _) 6 _ ?_
  refine ⟨Nat.le_of_ble_eq_true rfl, ev_X7_codeAfter ⟨hyp.1, hyp.2.1⟩ ?_⟩
  show Go none aM (Ev mt aM (d + 7)) mX11_drawPeriod Q (61, [some (.ref 0), some (.int k), some (.int o), some (.int p), some (.int sc), some (.int c), some (.int st), some (.int v), none, none, none, none, none, none], [.int (v_X7_codeAfter c v I)], (SH, mkM I J T), 0, 0)
  refine Go.of_run (Ev.mono _) 8 _ ?_
  refine ⟨Nat.le_of_ble_eq_true rfl, ev_X7_changesOf ?_⟩
  show Go none aM (Ev mt aM (d + 7)) mX11_drawPeriod Q (77, [some (.ref 0), some (.int k), some (.int o), some (.int p), some (.int sc), some (.int c), some (.int st), some (.int v), some (.int (v_X7_codeAfter c v I)), none, none, none, none, none], [.int (v_X7_changesOf v), .int (v_X7_codeAfter c v I), .int sc, .int p, .ref 9], (SH, mkM I J T), 0, 0)
  refine Go.of_run (Ev.mono _) 6 _ ?_
  refine ⟨Nat.le_of_ble_eq_true rfl, hyp.2.2⟩
set_option maxRecDepth 20000 in
theorem dpe_90 {d : Nat} {k o p sc c st a tn v : Int32} {I : Nat → Nat → Int32} {J : Nat → Nat → Int64} {T : Nat → Nat → Nat} {Q : Option Value → Mem → Prop} (hyp : Go none aM (Ev mt aM (d + 7)) mX11_drawPeriod Q (126, [some (.ref 0), none, none, none, none, none, none, some (.int a), none, some (.int v), some (.int (((((25173 : Int32) * (I 0 8)) + (13849 : Int32)) - (((25173 : Int32) * (I 0 8)) + (13849 : Int32)) / (65536 : Int32) * (65536 : Int32)) - ((((25173 : Int32) * (I 0 8)) + (13849 : Int32)) - (((25173 : Int32) * (I 0 8)) + (13849 : Int32)) / (65536 : Int32) * (65536 : Int32)) / (100 : Int32) * (100 : Int32))), some (.int (0 : Int32)), some (.int (1 : Int32)), none], [], (SH, mkM (si I 0 8 ((((25173 : Int32) * (I 0 8)) + (13849 : Int32)) - (((25173 : Int32) * (I 0 8)) + (13849 : Int32)) / (65536 : Int32) * (65536 : Int32))) J T), 0, 0)) : Go none aM (Ev mt aM (d + 7)) mX11_drawPeriod Q (90, [some (.ref 0), some (.int k), some (.int o), some (.int p), some (.int sc), some (.int c), some (.int st), some (.int a), some (.int tn), none, none, none, none, none], [.int v], (SH, mkM I J T), 0, 0) := by
  refine Go.of_run (Ev.mono _) 10 _ ?_
  refine ⟨(by decide : ¬ (65536 : Int32) = 0), ?_⟩
  show Go none aM (Ev mt aM (d + 7)) mX11_drawPeriod Q (108, [some (.ref 0), some (.int k), some (.int o), some (.int p), some (.int sc), some (.int c), some (.int st), some (.int a), some (.int tn), some (.int v), none, none, none, none], [.int ((((25173 : Int32) * (I 0 8)) + (13849 : Int32)) - (((25173 : Int32) * (I 0 8)) + (13849 : Int32)) / (65536 : Int32) * (65536 : Int32)), .ref 0], (SH, mkM I J T), 0, 0)
  refine Go.of_run (Ev.mono _) 1 _ ?_
  refine go_si rfl ?_
  show Go none aM (Ev mt aM (d + 7)) mX11_drawPeriod Q (111, [some (.ref 0), some (.int k), some (.int o), some (.int p), some (.int sc), some (.int c), some (.int st), some (.int a), some (.int tn), some (.int v), none, none, none, none], [], (SH, mkM (si I 0 8 ((((25173 : Int32) * (I 0 8)) + (13849 : Int32)) - (((25173 : Int32) * (I 0 8)) + (13849 : Int32)) / (65536 : Int32) * (65536 : Int32))) J T), 0, 0)
  refine Go.of_run (Ev.mono _) 4 _ ?_
  refine ⟨(by decide : ¬ (100 : Int32) = 0), ?_⟩
  show Go none aM (Ev mt aM (d + 7)) mX11_drawPeriod Q (118, [some (.ref 0), some (.int k), some (.int o), some (.int p), some (.int sc), some (.int c), some (.int st), some (.int a), some (.int tn), some (.int v), none, none, none, none], [.int (((((25173 : Int32) * (I 0 8)) + (13849 : Int32)) - (((25173 : Int32) * (I 0 8)) + (13849 : Int32)) / (65536 : Int32) * (65536 : Int32)) - ((((25173 : Int32) * (I 0 8)) + (13849 : Int32)) - (((25173 : Int32) * (I 0 8)) + (13849 : Int32)) / (65536 : Int32) * (65536 : Int32)) / (100 : Int32) * (100 : Int32))], (SH, mkM (si I 0 8 ((((25173 : Int32) * (I 0 8)) + (13849 : Int32)) - (((25173 : Int32) * (I 0 8)) + (13849 : Int32)) / (65536 : Int32) * (65536 : Int32))) J T), 0, 0)
  refine Go.of_run (Ev.mono _) 5 _ ?_
  exact Go.weak (Ev.mono _) (LLe.cons (LLe.drop (LLe.drop (LLe.drop (LLe.drop (LLe.drop (LLe.drop (LLe.cons (LLe.drop (LLe.cons (LLe.cons (LLe.cons (LLe.cons (LLe.cons LLe.nil)))))))))))))) hyp
set_option maxRecDepth 20000 in
theorem dpe_126 {d : Nat} {a sh le e i : Int32} {I : Nat → Nat → Int32} {J : Nat → Nat → Int64} {T : Nat → Nat → Nat} {Q : Option Value → Mem → Prop} (hyp : (((4 : Int32) < i → Ev mt aM (d + 7) 14 [.ref 76, .int a, .int e] (SH, mkM I J T) (fun r m1 => Go none aM (Ev mt aM (d + 7)) mX11_drawPeriod Q (181, [some (.ref 0), none, none, none, none, none, none, some (.int a), none, some (.int sh), some (.int le), some (.int e), some (.int i), none], r.toList ++ [], m1, 0, 0))) ∧ ((¬ ((4 : Int32) < i)) → ((e = 0 → ((v_X2_shareOf sh i ≤ le → Go none aM (Ev mt aM (d + 7)) mX11_drawPeriod Q (126, [some (.ref 0), none, none, none, none, none, none, some (.int a), none, some (.int sh), some (.int (le - (v_X2_shareOf sh i))), some (.int e), some (.int (i + 1)), none], [], (SH, mkM I J T), 0, 0)) ∧ ((¬ (v_X2_shareOf sh i ≤ le)) → Go none aM (Ev mt aM (d + 7)) mX11_drawPeriod Q (126, [some (.ref 0), none, none, none, none, none, none, some (.int a), none, some (.int sh), some (.int (le - (v_X2_shareOf sh i))), some (.int i), some (.int (i + 1)), none], [], (SH, mkM I J T), 0, 0)))) ∧ ((¬ (e = 0)) → Ev mt aM (d + 7) 14 [.ref 76, .int a, .int e] (SH, mkM I J T) (fun r m1 => Go none aM (Ev mt aM (d + 7)) mX11_drawPeriod Q (181, [some (.ref 0), none, none, none, none, none, none, some (.int a), none, some (.int sh), some (.int le), some (.int e), some (.int i), none], r.toList ++ [], m1, 0, 0))))))) : Go none aM (Ev mt aM (d + 7)) mX11_drawPeriod Q (126, [some (.ref 0), none, none, none, none, none, none, some (.int a), none, some (.int sh), some (.int le), some (.int e), some (.int i), none], [], (SH, mkM I J T), 0, 0) := by
  refine Go.of_run (Ev.mono _) 3 _ ?_
  show Go none aM (Ev mt aM (d + 7)) mX11_drawPeriod Q (if (4 : Int32) < i then 170 else 132, [some (.ref 0), none, none, none, none, none, none, some (.int a), none, some (.int sh), some (.int le), some (.int e), some (.int i), none], [], (SH, mkM I J T), 0, 0)
  rcases Decidable.em ((4 : Int32) < i) with c1 | c1
  · rw [if_pos c1]
    refine Go.of_run (Ev.mono _) 5 _ ?_
    refine ⟨Nat.le_of_ble_eq_true rfl, (hyp.1 c1)⟩
  · rw [if_neg c1]
    refine Go.of_run (Ev.mono _) 2 _ ?_
    show Go none aM (Ev mt aM (d + 7)) mX11_drawPeriod Q (if e = 0 then 137 else 170, [some (.ref 0), none, none, none, none, none, none, some (.int a), none, some (.int sh), some (.int le), some (.int e), some (.int i), none], [], (SH, mkM I J T), 0, 0)
    rcases Decidable.em (e = 0) with c2 | c2
    · rw [if_pos c2]
      refine Go.of_run (Ev.mono _) 3 _ ?_
      refine ⟨Nat.le_of_ble_eq_true rfl, ev_X2_shareOf ?_⟩
      show Go none aM (Ev mt aM (d + 7)) mX11_drawPeriod Q (144, [some (.ref 0), none, none, none, none, none, none, some (.int a), none, some (.int sh), some (.int le), some (.int e), some (.int i), none], [.int (v_X2_shareOf sh i)], (SH, mkM I J T), 0, 0)
      refine Go.of_run (Ev.mono _) 4 _ ?_
      show Go none aM (Ev mt aM (d + 7)) mX11_drawPeriod Q (if v_X2_shareOf sh i ≤ le then 157 else 153, [some (.ref 0), none, none, none, none, none, none, some (.int a), none, some (.int sh), some (.int le), some (.int e), some (.int i), some (.int (v_X2_shareOf sh i))], [], (SH, mkM I J T), 0, 0)
      rcases Decidable.em (v_X2_shareOf sh i ≤ le) with c3 | c3
      · rw [if_pos c3]
        refine Go.of_run (Ev.mono _) 6 _ ?_
        exact Go.weak (Ev.mono _) (LLe.cons (LLe.cons (LLe.cons (LLe.cons (LLe.cons (LLe.cons (LLe.cons (LLe.cons (LLe.cons (LLe.cons (LLe.cons (LLe.cons (LLe.cons (LLe.drop LLe.nil)))))))))))))) (((hyp.2 c1).1 c2).1 c3)
      · rw [if_neg c3]
        refine Go.of_run (Ev.mono _) 8 _ ?_
        exact Go.weak (Ev.mono _) (LLe.cons (LLe.cons (LLe.cons (LLe.cons (LLe.cons (LLe.cons (LLe.cons (LLe.cons (LLe.cons (LLe.cons (LLe.cons (LLe.cons (LLe.cons (LLe.drop LLe.nil)))))))))))))) (((hyp.2 c1).1 c2).2 c3)
    · rw [if_neg c2]
      refine Go.of_run (Ev.mono _) 5 _ ?_
      refine ⟨Nat.le_of_ble_eq_true rfl, ((hyp.2 c1).2 c2)⟩
set_option maxRecDepth 20000 in
theorem dpe_181 {d : Nat} {a sh le e i v : Int32} {I : Nat → Nat → Int32} {J : Nat → Nat → Int64} {T : Nat → Nat → Nat} {Q : Option Value → Mem → Prop} (hyp : Q none (SH, mkM I J T)) : Go none aM (Ev mt aM (d + 7)) mX11_drawPeriod Q (181, [some (.ref 0), none, none, none, none, none, none, some (.int a), none, some (.int sh), some (.int le), some (.int e), some (.int i), none], [.int v], (SH, mkM I J T), 0, 0) := by
  refine Go.of_run (Ev.mono _) 2 _ ?_
  refine ⟨trivial, ?_⟩
  show Q none (SH, mkM I J T)
  exact hyp
set_option maxRecDepth 20000 in
theorem mdr_0 {d : Nat} {k o : Int32} {I : Nat → Nat → Int32} {J : Nat → Nat → Int64} {T : Nat → Nat → Nat} {Q : Option Value → Mem → Prop} (hyp : (((¬ (k < 0)) → ((¬ ((4 : Int32) ≤ k)) → vp_in ((3 : Int32) + k) 8)) ∧ ((v_X12_isRule k I = 0 → Q (some (.int (-1000 : Int32))) (SH, mkM I J T)) ∧ ((¬ (v_X12_isRule k I = 0)) → ((v_X12_isOther o = 0 → Q (some (.int (-1000 : Int32))) (SH, mkM I J T)) ∧ ((¬ (v_X12_isOther o = 0)) → Go none aM (Ev mt aM (d + 8)) mX12_draw Q (28, [some (.ref 83), some (.int k), some (.int o), none, none, none], [], (SH, mkM (si (si (si I 113 0 (1536 : Int32)) 114 0 (0 : Int32)) 83 48 (0 : Int32)) J T), 0, 0))))))) : Go none aM (Ev mt aM (d + 8)) mX12_draw Q (0, [some (.ref 83), some (.int k), some (.int o), none, none, none], [], (SH, mkM I J T), 0, 0) := by
  refine Go.of_run (Ev.mono _) 3 _ ?_
  refine ⟨Nat.le_of_ble_eq_true rfl, ev_X12_isRule hyp.1 ?_⟩
  show Go none aM (Ev mt aM (d + 8)) mX12_draw Q (5, [some (.ref 83), some (.int k), some (.int o), none, none, none], [.int (v_X12_isRule k I)], (SH, mkM I J T), 0, 0)
  refine Go.of_run (Ev.mono _) 1 _ ?_
  show Go none aM (Ev mt aM (d + 8)) mX12_draw Q (if v_X12_isRule k I = 0 then 15 else 8, [some (.ref 83), some (.int k), some (.int o), none, none, none], [], (SH, mkM I J T), 0, 0)
  rcases Decidable.em (v_X12_isRule k I = 0) with c1 | c1
  · rw [if_pos c1]
    refine Go.of_run (Ev.mono _) 2 _ ?_
    refine ⟨trivial, ?_⟩
    show Q (some (.int (-1000 : Int32))) (SH, mkM I J T)
    exact (hyp.2.1 c1)
  · rw [if_neg c1]
    refine Go.of_run (Ev.mono _) 2 _ ?_
    refine ⟨Nat.le_of_ble_eq_true rfl, ev_X12_isOther ?_⟩
    show Go none aM (Ev mt aM (d + 8)) mX12_draw Q (12, [some (.ref 83), some (.int k), some (.int o), none, none, none], [.int (v_X12_isOther o)], (SH, mkM I J T), 0, 0)
    refine Go.of_run (Ev.mono _) 1 _ ?_
    show Go none aM (Ev mt aM (d + 8)) mX12_draw Q (if v_X12_isOther o = 0 then 15 else 19, [some (.ref 83), some (.int k), some (.int o), none, none, none], [], (SH, mkM I J T), 0, 0)
    rcases Decidable.em (v_X12_isOther o = 0) with c2 | c2
    · rw [if_pos c2]
      refine Go.of_run (Ev.mono _) 2 _ ?_
      refine ⟨trivial, ?_⟩
      show Q (some (.int (-1000 : Int32))) (SH, mkM I J T)
      exact ((hyp.2.2 c1).1 c2)
    · rw [if_neg c2]
      refine Go.of_run (Ev.mono _) 2 _ ?_
      refine ⟨Nat.le_of_ble_eq_true rfl, ev_X12_begins ?_⟩
      show Go none aM (Ev mt aM (d + 8)) mX12_draw Q (23, [some (.ref 83), some (.int k), some (.int o), none, none, none], [], (SH, mkM (si (si I 113 0 (1536 : Int32)) 114 0 (0 : Int32)) J T), 0, 0)
      refine Go.of_run (Ev.mono _) 3 _ ?_
      refine go_si rfl ?_
      show Go none aM (Ev mt aM (d + 8)) mX12_draw Q (28, [some (.ref 83), some (.int k), some (.int o), none, none, none], [], (SH, mkM (si (si (si I 113 0 (1536 : Int32)) 114 0 (0 : Int32)) 83 48 (0 : Int32)) J T), 0, 0)
      exact ((hyp.2.2 c1).2 c2)
set_option maxRecDepth 20000 in
theorem mdr_28 {d : Nat} {k o : Int32} {I : Nat → Nat → Int32} {J : Nat → Nat → Int64} {T : Nat → Nat → Nat} {Q : Option Value → Mem → Prop} (hyp : ((I 83 0 ≤ I 83 48 → (vp_in (I 83 0) 6 ∧ Q (some (.int (I 114 ((I 83 0).toNatClampNeg)))) (SH, mkM I J T))) ∧ ((¬ (I 83 0 ≤ I 83 48)) → (vp_in (I 83 48) 6 ∧ (vp_in (I 83 48) 6 ∧ Ev mt aM (d + 8) 242 [.ref 83, .int k, .int (I 83 48), .int (I 114 ((I 83 48).toNatClampNeg)), .int (I 113 ((I 83 48).toNatClampNeg)), .int o] (SH, mkM I J T) (fun r m1 => Go none aM (Ev mt aM (d + 8)) mX12_draw Q (67, [some (.ref 83), some (.int k), some (.int o), none, none, none], r.toList ++ [], m1, 0, 0))))))) : Go none aM (Ev mt aM (d + 8)) mX12_draw Q (28, [some (.ref 83), some (.int k), some (.int o), none, none, none], [], (SH, mkM I J T), 0, 0) := by
  refine Go.of_run (Ev.mono _) 5 _ ?_
  show Go none aM (Ev mt aM (d + 8)) mX12_draw Q (if I 83 0 ≤ I 83 48 then 197 else 39, [some (.ref 83), some (.int k), some (.int o), none, none, none], [], (SH, mkM I J T), 0, 0)
  rcases Decidable.em (I 83 0 ≤ I 83 48) with c1 | c1
  · rw [if_pos c1]
    refine Go.of_run (Ev.mono _) 5 _ ?_
    refine ⟨(hyp.1 c1).1, ?_⟩
    show Go none aM (Ev mt aM (d + 8)) mX12_draw Q (206, [some (.ref 83), some (.int k), some (.int o), none, none, none], [.int (I 114 ((I 83 0).toNatClampNeg))], (SH, mkM I J T), 0, 0)
    refine Go.of_run (Ev.mono _) 1 _ ?_
    refine ⟨trivial, ?_⟩
    show Q (some (.int (I 114 ((I 83 0).toNatClampNeg)))) (SH, mkM I J T)
    exact (hyp.1 c1).2
  · rw [if_neg c1]
    refine Go.of_run (Ev.mono _) 9 _ ?_
    refine ⟨(hyp.2 c1).1, ?_⟩
    show Go none aM (Ev mt aM (d + 8)) mX12_draw Q (54, [some (.ref 83), some (.int k), some (.int o), none, none, none], [.int (I 114 ((I 83 48).toNatClampNeg)), .int (I 83 48), .int k, .ref 83], (SH, mkM I J T), 0, 0)
    refine Go.of_run (Ev.mono _) 5 _ ?_
    refine ⟨(hyp.2 c1).2.1, ?_⟩
    show Go none aM (Ev mt aM (d + 8)) mX12_draw Q (63, [some (.ref 83), some (.int k), some (.int o), none, none, none], [.int (I 113 ((I 83 48).toNatClampNeg)), .int (I 114 ((I 83 48).toNatClampNeg)), .int (I 83 48), .int k, .ref 83], (SH, mkM I J T), 0, 0)
    refine Go.of_run (Ev.mono _) 2 _ ?_
    refine ⟨Nat.le_of_ble_eq_true rfl, (hyp.2 c1).2.2⟩
set_option maxRecDepth 20000 in
theorem mdr_67 {d : Nat} {k o v : Int32} {I : Nat → Nat → Int32} {J : Nat → Nat → Int64} {T : Nat → Nat → Nat} {Q : Option Value → Mem → Prop} (hyp : (vp_in (I 83 48) 6 ∧ (vp_in (I 83 48) 6 ∧ (((¬ (v = 0)) → (vp_in (v_X12_playerOf (v_X12_firstOf v)) 5 ∧ ((7 : Int32) ≤ v → vp_in (v_X12_playerOf (v_X12_secondOf v)) 5))) ∧ Ev mt aM (d + 8) 235 [.ref 83, .int (I 83 48), .int (I 114 ((I 83 48).toNatClampNeg)), .int (v_X12_behind (I 113 ((I 83 48).toNatClampNeg)) v I), .int o, .int (v_X12_changesOf v)] (SH, mkM I J T) (fun r m1 => Go none aM (Ev mt aM (d + 8)) mX12_draw Q (104, [some (.ref 83), some (.int k), some (.int o), some (.int v), none, none], r.toList ++ [], m1, 0, 0)))))) : Go none aM (Ev mt aM (d + 8)) mX12_draw Q (67, [some (.ref 83), some (.int k), some (.int o), none, none, none], [.int v], (SH, mkM I J T), 0, 0) := by
  refine Go.of_run (Ev.mono _) 9 _ ?_
  refine ⟨hyp.1, ?_⟩
  show Go none aM (Ev mt aM (d + 8)) mX12_draw Q (82, [some (.ref 83), some (.int k), some (.int o), some (.int v), none, none], [.int (I 114 ((I 83 48).toNatClampNeg)), .int (I 83 48), .ref 83], (SH, mkM I J T), 0, 0)
  refine Go.of_run (Ev.mono _) 6 _ ?_
  refine ⟨hyp.2.1, ?_⟩
  show Go none aM (Ev mt aM (d + 8)) mX12_draw Q (92, [some (.ref 83), some (.int k), some (.int o), some (.int v), none, none], [.int (I 113 ((I 83 48).toNatClampNeg)), .ref 83, .int (I 114 ((I 83 48).toNatClampNeg)), .int (I 83 48), .ref 83], (SH, mkM I J T), 0, 0)
  refine Go.of_run (Ev.mono _) 2 _ ?_
  refine ⟨Nat.le_of_ble_eq_true rfl, ev_X12_behind hyp.2.2.1 ?_⟩
  show Go none aM (Ev mt aM (d + 8)) mX12_draw Q (96, [some (.ref 83), some (.int k), some (.int o), some (.int v), none, none], [.int (v_X12_behind (I 113 ((I 83 48).toNatClampNeg)) v I), .int (I 114 ((I 83 48).toNatClampNeg)), .int (I 83 48), .ref 83], (SH, mkM I J T), 0, 0)
  refine Go.of_run (Ev.mono _) 3 _ ?_
  refine ⟨Nat.le_of_ble_eq_true rfl, ev_X12_changesOf ?_⟩
  show Go none aM (Ev mt aM (d + 8)) mX12_draw Q (101, [some (.ref 83), some (.int k), some (.int o), some (.int v), none, none], [.int (v_X12_changesOf v), .int o, .int (v_X12_behind (I 113 ((I 83 48).toNatClampNeg)) v I), .int (I 114 ((I 83 48).toNatClampNeg)), .int (I 83 48), .ref 83], (SH, mkM I J T), 0, 0)
  refine Go.of_run (Ev.mono _) 1 _ ?_
  refine ⟨Nat.le_of_ble_eq_true rfl, hyp.2.2.2⟩
set_option maxRecDepth 20000 in
theorem mdr_104 {d : Nat} {k o a : Int32} {I : Nat → Nat → Int32} {J : Nat → Nat → Int64} {T : Nat → Nat → Nat} {Q : Option Value → Mem → Prop} (hyp : Go none aM (Ev mt aM (d + 8)) mX12_draw Q (136, [some (.ref 83), some (.int k), some (.int o), some (.int a), some (.int (((((25173 : Int32) * (I 83 3)) + (13849 : Int32)) - (((25173 : Int32) * (I 83 3)) + (13849 : Int32)) / (65536 : Int32) * (65536 : Int32)) - ((((25173 : Int32) * (I 83 3)) + (13849 : Int32)) - (((25173 : Int32) * (I 83 3)) + (13849 : Int32)) / (65536 : Int32) * (65536 : Int32)) / (100 : Int32) * (100 : Int32))), some (.int (0 : Int32))], [], (SH, mkM (si I 83 3 ((((25173 : Int32) * (I 83 3)) + (13849 : Int32)) - (((25173 : Int32) * (I 83 3)) + (13849 : Int32)) / (65536 : Int32) * (65536 : Int32))) J T), 0, 0)) : Go none aM (Ev mt aM (d + 8)) mX12_draw Q (104, [some (.ref 83), some (.int k), some (.int o), some (.int a), none, none], [], (SH, mkM I J T), 0, 0) := by
  refine Go.of_run (Ev.mono _) 9 _ ?_
  refine ⟨(by decide : ¬ (65536 : Int32) = 0), ?_⟩
  show Go none aM (Ev mt aM (d + 8)) mX12_draw Q (121, [some (.ref 83), some (.int k), some (.int o), some (.int a), none, none], [.int ((((25173 : Int32) * (I 83 3)) + (13849 : Int32)) - (((25173 : Int32) * (I 83 3)) + (13849 : Int32)) / (65536 : Int32) * (65536 : Int32)), .ref 83], (SH, mkM I J T), 0, 0)
  refine Go.of_run (Ev.mono _) 1 _ ?_
  refine go_si rfl ?_
  show Go none aM (Ev mt aM (d + 8)) mX12_draw Q (124, [some (.ref 83), some (.int k), some (.int o), some (.int a), none, none], [], (SH, mkM (si I 83 3 ((((25173 : Int32) * (I 83 3)) + (13849 : Int32)) - (((25173 : Int32) * (I 83 3)) + (13849 : Int32)) / (65536 : Int32) * (65536 : Int32))) J T), 0, 0)
  refine Go.of_run (Ev.mono _) 4 _ ?_
  refine ⟨(by decide : ¬ (100 : Int32) = 0), ?_⟩
  show Go none aM (Ev mt aM (d + 8)) mX12_draw Q (131, [some (.ref 83), some (.int k), some (.int o), some (.int a), none, none], [.int (((((25173 : Int32) * (I 83 3)) + (13849 : Int32)) - (((25173 : Int32) * (I 83 3)) + (13849 : Int32)) / (65536 : Int32) * (65536 : Int32)) - ((((25173 : Int32) * (I 83 3)) + (13849 : Int32)) - (((25173 : Int32) * (I 83 3)) + (13849 : Int32)) / (65536 : Int32) * (65536 : Int32)) / (100 : Int32) * (100 : Int32))], (SH, mkM (si I 83 3 ((((25173 : Int32) * (I 83 3)) + (13849 : Int32)) - (((25173 : Int32) * (I 83 3)) + (13849 : Int32)) / (65536 : Int32) * (65536 : Int32))) J T), 0, 0)
  refine Go.of_run (Ev.mono _) 3 _ ?_
  exact hyp
set_option maxRecDepth 20000 in
theorem mdr_136 {d : Nat} {k o a le w : Int32} {I : Nat → Nat → Int32} {J : Nat → Nat → Int64} {T : Nat → Nat → Nat} {Q : Option Value → Mem → Prop} (hyp : (((4 : Int32) ≤ w → ((w = (4 : Int32) → (vp_in (I 83 48) 6 ∧ (((¬ (a = 0)) → (vp_in (v_X12_playerOf (v_X12_firstOf a)) 5 ∧ ((7 : Int32) ≤ a → vp_in (v_X12_playerOf (v_X12_secondOf a)) 5))) ∧ (vp_in ((I 83 48) + (1 : Int32)) 6 ∧ (vp_in (I 83 48) 6 ∧ (vp_in ((I 83 48) + (1 : Int32)) 6 ∧ (vp_in ((I 83 48) + (1 : Int32)) 6 ∧ (vp_in ((I 83 48) + (1 : Int32)) 6 ∧ Go none aM (Ev mt aM (d + 8)) mX12_draw Q (28, [some (.ref 83), some (.int k), some (.int o), none, none, none], [], (SH, mkM (i_X12_logs a (0 : Int32) I) J T), 0, 0))))))))) ∧ ((¬ (w = (4 : Int32))) → (vp_in (I 83 48) 6 ∧ (((¬ (a = 0)) → (vp_in (v_X12_playerOf (v_X12_firstOf a)) 5 ∧ ((7 : Int32) ≤ a → vp_in (v_X12_playerOf (v_X12_secondOf a)) 5))) ∧ (vp_in ((I 83 48) + (1 : Int32)) 6 ∧ (vp_in (I 83 48) 6 ∧ (vp_in ((I 83 48) + (1 : Int32)) 6 ∧ (vp_in ((I 83 48) + (1 : Int32)) 6 ∧ (vp_in ((I 83 48) + (1 : Int32)) 6 ∧ Go none aM (Ev mt aM (d + 8)) mX12_draw Q (28, [some (.ref 83), some (.int k), some (.int o), none, none, none], [], (SH, mkM (i_X12_logs a (w + (1 : Int32)) I) J T), 0, 0))))))))))) ∧ ((¬ ((4 : Int32) ≤ w)) → (vp_in w 5 ∧ ((le < I 105 w.toNatClampNeg → ((w = (4 : Int32) → (vp_in (I 83 48) 6 ∧ (((¬ (a = 0)) → (vp_in (v_X12_playerOf (v_X12_firstOf a)) 5 ∧ ((7 : Int32) ≤ a → vp_in (v_X12_playerOf (v_X12_secondOf a)) 5))) ∧ (vp_in ((I 83 48) + (1 : Int32)) 6 ∧ (vp_in (I 83 48) 6 ∧ (vp_in ((I 83 48) + (1 : Int32)) 6 ∧ (vp_in ((I 83 48) + (1 : Int32)) 6 ∧ (vp_in ((I 83 48) + (1 : Int32)) 6 ∧ Go none aM (Ev mt aM (d + 8)) mX12_draw Q (28, [some (.ref 83), some (.int k), some (.int o), none, none, none], [], (SH, mkM (i_X12_logs a (0 : Int32) I) J T), 0, 0))))))))) ∧ ((¬ (w = (4 : Int32))) → (vp_in (I 83 48) 6 ∧ (((¬ (a = 0)) → (vp_in (v_X12_playerOf (v_X12_firstOf a)) 5 ∧ ((7 : Int32) ≤ a → vp_in (v_X12_playerOf (v_X12_secondOf a)) 5))) ∧ (vp_in ((I 83 48) + (1 : Int32)) 6 ∧ (vp_in (I 83 48) 6 ∧ (vp_in ((I 83 48) + (1 : Int32)) 6 ∧ (vp_in ((I 83 48) + (1 : Int32)) 6 ∧ (vp_in ((I 83 48) + (1 : Int32)) 6 ∧ Go none aM (Ev mt aM (d + 8)) mX12_draw Q (28, [some (.ref 83), some (.int k), some (.int o), none, none, none], [], (SH, mkM (i_X12_logs a (w + (1 : Int32)) I) J T), 0, 0))))))))))) ∧ ((¬ (le < I 105 w.toNatClampNeg)) → (vp_in w 5 ∧ Go none aM (Ev mt aM (d + 8)) mX12_draw Q (136, [some (.ref 83), some (.int k), some (.int o), some (.int a), some (.int (le - (I 105 w.toNatClampNeg))), some (.int (w + (1 : Int32)))], [], (SH, mkM I J T), 0, 0)))))))) : Go none aM (Ev mt aM (d + 8)) mX12_draw Q (136, [some (.ref 83), some (.int k), some (.int o), some (.int a), some (.int le), some (.int w)], [], (SH, mkM I J T), 0, 0) := by
  refine Go.of_run (Ev.mono _) 3 _ ?_
  show Go none aM (Ev mt aM (d + 8)) mX12_draw Q (if (4 : Int32) ≤ w then 175 else 142, [some (.ref 83), some (.int k), some (.int o), some (.int a), some (.int le), some (.int w)], [], (SH, mkM I J T), 0, 0)
  rcases Decidable.em ((4 : Int32) ≤ w) with c1 | c1
  · rw [if_pos c1]
    refine Go.of_run (Ev.mono _) 5 _ ?_
    show Go none aM (Ev mt aM (d + 8)) mX12_draw Q (if w = (4 : Int32) then 183 else 187, [some (.ref 83), some (.int k), some (.int o), some (.int a), some (.int le), some (.int w)], [.int a, .ref 83], (SH, mkM I J T), 0, 0)
    rcases Decidable.em (w = (4 : Int32)) with c2 | c2
    · rw [if_pos c2]
      refine Go.of_run (Ev.mono _) 3 _ ?_
      refine ⟨Nat.le_of_ble_eq_true rfl, ev_X12_logs ⟨((hyp.1 c1).1 c2).1, ⟨((hyp.1 c1).1 c2).2.1, ⟨((hyp.1 c1).1 c2).2.2.1, ⟨((hyp.1 c1).1 c2).2.2.2.1, ⟨((hyp.1 c1).1 c2).2.2.2.2.1, ⟨((hyp.1 c1).1 c2).2.2.2.2.2.1, ((hyp.1 c1).1 c2).2.2.2.2.2.2.1⟩⟩⟩⟩⟩⟩ ?_⟩
      show Go none aM (Ev mt aM (d + 8)) mX12_draw Q (194, [some (.ref 83), some (.int k), some (.int o), some (.int a), some (.int le), some (.int w)], [], (SH, mkM (i_X12_logs a (0 : Int32) I) J T), 0, 0)
      refine Go.of_run (Ev.mono _) 1 _ ?_
      exact Go.weak (Ev.mono _) (LLe.cons (LLe.cons (LLe.cons (LLe.drop (LLe.drop (LLe.drop LLe.nil)))))) ((hyp.1 c1).1 c2).2.2.2.2.2.2.2
    · rw [if_neg c2]
      refine Go.of_run (Ev.mono _) 4 _ ?_
      refine ⟨Nat.le_of_ble_eq_true rfl, ev_X12_logs ⟨((hyp.1 c1).2 c2).1, ⟨((hyp.1 c1).2 c2).2.1, ⟨((hyp.1 c1).2 c2).2.2.1, ⟨((hyp.1 c1).2 c2).2.2.2.1, ⟨((hyp.1 c1).2 c2).2.2.2.2.1, ⟨((hyp.1 c1).2 c2).2.2.2.2.2.1, ((hyp.1 c1).2 c2).2.2.2.2.2.2.1⟩⟩⟩⟩⟩⟩ ?_⟩
      show Go none aM (Ev mt aM (d + 8)) mX12_draw Q (194, [some (.ref 83), some (.int k), some (.int o), some (.int a), some (.int le), some (.int w)], [], (SH, mkM (i_X12_logs a (w + (1 : Int32)) I) J T), 0, 0)
      refine Go.of_run (Ev.mono _) 1 _ ?_
      exact Go.weak (Ev.mono _) (LLe.cons (LLe.cons (LLe.cons (LLe.drop (LLe.drop (LLe.drop LLe.nil)))))) ((hyp.1 c1).2 c2).2.2.2.2.2.2.2
  · rw [if_neg c1]
    refine Go.of_run (Ev.mono _) 5 _ ?_
    refine ⟨(hyp.2 c1).1, ?_⟩
    show Go none aM (Ev mt aM (d + 8)) mX12_draw Q (151, [some (.ref 83), some (.int k), some (.int o), some (.int a), some (.int le), some (.int w)], [.int (I 105 w.toNatClampNeg), .int le], (SH, mkM I J T), 0, 0)
    refine Go.of_run (Ev.mono _) 1 _ ?_
    show Go none aM (Ev mt aM (d + 8)) mX12_draw Q (if le < I 105 w.toNatClampNeg then 175 else 154, [some (.ref 83), some (.int k), some (.int o), some (.int a), some (.int le), some (.int w)], [], (SH, mkM I J T), 0, 0)
    rcases Decidable.em (le < I 105 w.toNatClampNeg) with c3 | c3
    · rw [if_pos c3]
      refine Go.of_run (Ev.mono _) 5 _ ?_
      show Go none aM (Ev mt aM (d + 8)) mX12_draw Q (if w = (4 : Int32) then 183 else 187, [some (.ref 83), some (.int k), some (.int o), some (.int a), some (.int le), some (.int w)], [.int a, .ref 83], (SH, mkM I J T), 0, 0)
      rcases Decidable.em (w = (4 : Int32)) with c4 | c4
      · rw [if_pos c4]
        refine Go.of_run (Ev.mono _) 3 _ ?_
        refine ⟨Nat.le_of_ble_eq_true rfl, ev_X12_logs ⟨(((hyp.2 c1).2.1 c3).1 c4).1, ⟨(((hyp.2 c1).2.1 c3).1 c4).2.1, ⟨(((hyp.2 c1).2.1 c3).1 c4).2.2.1, ⟨(((hyp.2 c1).2.1 c3).1 c4).2.2.2.1, ⟨(((hyp.2 c1).2.1 c3).1 c4).2.2.2.2.1, ⟨(((hyp.2 c1).2.1 c3).1 c4).2.2.2.2.2.1, (((hyp.2 c1).2.1 c3).1 c4).2.2.2.2.2.2.1⟩⟩⟩⟩⟩⟩ ?_⟩
        show Go none aM (Ev mt aM (d + 8)) mX12_draw Q (194, [some (.ref 83), some (.int k), some (.int o), some (.int a), some (.int le), some (.int w)], [], (SH, mkM (i_X12_logs a (0 : Int32) I) J T), 0, 0)
        refine Go.of_run (Ev.mono _) 1 _ ?_
        exact Go.weak (Ev.mono _) (LLe.cons (LLe.cons (LLe.cons (LLe.drop (LLe.drop (LLe.drop LLe.nil)))))) (((hyp.2 c1).2.1 c3).1 c4).2.2.2.2.2.2.2
      · rw [if_neg c4]
        refine Go.of_run (Ev.mono _) 4 _ ?_
        refine ⟨Nat.le_of_ble_eq_true rfl, ev_X12_logs ⟨(((hyp.2 c1).2.1 c3).2 c4).1, ⟨(((hyp.2 c1).2.1 c3).2 c4).2.1, ⟨(((hyp.2 c1).2.1 c3).2 c4).2.2.1, ⟨(((hyp.2 c1).2.1 c3).2 c4).2.2.2.1, ⟨(((hyp.2 c1).2.1 c3).2 c4).2.2.2.2.1, ⟨(((hyp.2 c1).2.1 c3).2 c4).2.2.2.2.2.1, (((hyp.2 c1).2.1 c3).2 c4).2.2.2.2.2.2.1⟩⟩⟩⟩⟩⟩ ?_⟩
        show Go none aM (Ev mt aM (d + 8)) mX12_draw Q (194, [some (.ref 83), some (.int k), some (.int o), some (.int a), some (.int le), some (.int w)], [], (SH, mkM (i_X12_logs a (w + (1 : Int32)) I) J T), 0, 0)
        refine Go.of_run (Ev.mono _) 1 _ ?_
        exact Go.weak (Ev.mono _) (LLe.cons (LLe.cons (LLe.cons (LLe.drop (LLe.drop (LLe.drop LLe.nil)))))) (((hyp.2 c1).2.1 c3).2 c4).2.2.2.2.2.2.2
    · rw [if_neg c3]
      refine Go.of_run (Ev.mono _) 5 _ ?_
      refine ⟨((hyp.2 c1).2.2 c3).1, ?_⟩
      show Go none aM (Ev mt aM (d + 8)) mX12_draw Q (163, [some (.ref 83), some (.int k), some (.int o), some (.int a), some (.int le), some (.int w)], [.int (I 105 w.toNatClampNeg), .int le], (SH, mkM I J T), 0, 0)
      refine Go.of_run (Ev.mono _) 7 _ ?_
      exact ((hyp.2 c1).2.2 c3).2
