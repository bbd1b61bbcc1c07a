set_option maxRecDepth 20000 in
theorem mop_0 {d : Nat} {x : Int32} {I : Nat → Nat → Int32} {J : Nat → Nat → Int64} {T : Nat → Nat → Nat} {Q : Option Value → Mem → Prop} (hyp : ((I 83 15 = (6 : Int32) → Q (some (.int (0 : Int32))) (SH, mkM (si I 83 14 (((-1000 : Int32) * (5 : Int32)) - (I 83 12))) J T)) ∧ ((¬ (I 83 15 = (6 : Int32))) → (vp_in (I 83 17) 220 ∧ Q (some (.int (1 : Int32))) (SH, mkM (si (si (si (si I 83 15 ((I 83 15) + (1 : Int32))) 92 ((I 83 17).toNatClampNeg) ((1048576 : Int32) * x)) 83 17 ((I 83 17) + (1 : Int32))) 83 12 ((I 83 12) + (1 : Int32))) J T))))) : Go none aM (Ev mt aM (d + 2)) mX12_opens Q (0, [some (.ref 83), some (.int x)], [], (SH, mkM I J T), 0, 0) := by
  refine Go.of_run (Ev.mono _) 4 _ ?_
  show Go none aM (Ev mt aM (d + 2)) mX12_opens Q (if I 83 15 = (6 : Int32) then 9 else 19, [some (.ref 83), some (.int x)], [], (SH, mkM I J T), 0, 0)
  rcases Decidable.em (I 83 15 = (6 : Int32)) with c1 | c1
  · rw [if_pos c1]
    refine Go.of_run (Ev.mono _) 5 _ ?_
    refine ⟨Nat.le_of_ble_eq_true rfl, ev_X12_wrongAt ?_⟩
    show Go none aM (Ev mt aM (d + 2)) mX12_opens Q (18, [some (.ref 83), some (.int x)], [.int (0 : Int32)], (SH, mkM (si I 83 14 (((-1000 : Int32) * (5 : Int32)) - (I 83 12))) J T), 0, 0)
    refine Go.of_run (Ev.mono _) 1 _ ?_
    refine ⟨(by decide), ?_⟩
    show Q (some (.int (0 : Int32))) (SH, mkM (si I 83 14 (((-1000 : Int32) * (5 : Int32)) - (I 83 12))) J T)
    exact (hyp.1 c1)
  · rw [if_neg c1]
    refine Go.of_run (Ev.mono _) 6 _ ?_
    refine go_si rfl ?_
    show Go none aM (Ev mt aM (d + 2)) mX12_opens Q (29, [some (.ref 83), some (.int x)], [], (SH, mkM (si I 83 15 ((I 83 15) + (1 : Int32))) J T), 0, 0)
    refine Go.of_run (Ev.mono _) 8 _ ?_
    refine ⟨(hyp.2 c1).1, ?_⟩
    refine go_si rfl ?_
    show Go none aM (Ev mt aM (d + 2)) mX12_opens Q (42, [some (.ref 83), some (.int x)], [], (SH, mkM (si (si I 83 15 ((I 83 15) + (1 : Int32))) 92 ((I 83 17).toNatClampNeg) ((1048576 : Int32) * x)) J T), 0, 0)
    refine Go.of_run (Ev.mono _) 6 _ ?_
    refine go_si rfl ?_
    show Go none aM (Ev mt aM (d + 2)) mX12_opens Q (52, [some (.ref 83), some (.int x)], [], (SH, mkM (si (si (si I 83 15 ((I 83 15) + (1 : Int32))) 92 ((I 83 17).toNatClampNeg) ((1048576 : Int32) * x)) 83 17 ((I 83 17) + (1 : Int32))) J T), 0, 0)
    refine Go.of_run (Ev.mono _) 6 _ ?_
    refine go_si rfl ?_
    show Go none aM (Ev mt aM (d + 2)) mX12_opens Q (62, [some (.ref 83), some (.int x)], [], (SH, mkM (si (si (si (si I 83 15 ((I 83 15) + (1 : Int32))) 92 ((I 83 17).toNatClampNeg) ((1048576 : Int32) * x)) 83 17 ((I 83 17) + (1 : Int32))) 83 12 ((I 83 12) + (1 : Int32))) J T), 0, 0)
    refine Go.of_run (Ev.mono _) 2 _ ?_
    refine ⟨(by decide), ?_⟩
    show Q (some (.int (1 : Int32))) (SH, mkM (si (si (si (si I 83 15 ((I 83 15) + (1 : Int32))) 92 ((I 83 17).toNatClampNeg) ((1048576 : Int32) * x)) 83 17 ((I 83 17) + (1 : Int32))) 83 12 ((I 83 12) + (1 : Int32))) J T)
    exact (hyp.2 c1).2
set_option maxRecDepth 20000 in
theorem mcs_0 {d : Nat} {a : Int32} {I : Nat → Nat → Int32} {J : Nat → Nat → Int64} {T : Nat → Nat → Nat} {Q : Option Value → Mem → Prop} (hyp : (((¬ (I 83 17 = 0)) → vp_in ((I 83 17) - (1 : Int32)) 220) ∧ ((v_X12_top I < (4 : Int32) → ((a = 0 → Q none (SH, mkM I J T)) ∧ ((¬ (a = 0)) → (((¬ (I 83 17 = 0)) → vp_in ((I 83 17) - (1 : Int32)) 220) ∧ ((v_X12_top I = (2 : Int32) → (((¬ (I 83 17 = 0)) → vp_in ((I 83 17) - (1 : Int32)) 220) ∧ (vp_in (I 83 16) 220 ∧ Go none aM (Ev mt aM (d + 2)) mX12_closesSums Q (0, [some (.ref 83), some (.int a)], [], (SH, mkM (si (si (si I 91 ((I 83 16).toNatClampNeg) (((1048576 : Int32) * (v_X12_top I)) + (0 : Int32))) 83 16 ((I 83 16) + (1 : Int32))) 83 17 ((I 83 17) - (1 : Int32))) J T), 0, 0)))) ∧ ((¬ (v_X12_top I = (2 : Int32))) → (((¬ (I 83 17 = 0)) → vp_in ((I 83 17) - (1 : Int32)) 220) ∧ ((v_X12_top I = (3 : Int32) → (((¬ (I 83 17 = 0)) → vp_in ((I 83 17) - (1 : Int32)) 220) ∧ (vp_in (I 83 16) 220 ∧ Go none aM (Ev mt aM (d + 2)) mX12_closesSums Q (0, [some (.ref 83), some (.int a)], [], (SH, mkM (si (si (si I 91 ((I 83 16).toNatClampNeg) (((1048576 : Int32) * (v_X12_top I)) + (0 : Int32))) 83 16 ((I 83 16) + (1 : Int32))) 83 17 ((I 83 17) - (1 : Int32))) J T), 0, 0)))) ∧ ((¬ (v_X12_top I = (3 : Int32))) → Q none (SH, mkM I J T)))))))))) ∧ ((¬ (v_X12_top I < (4 : Int32))) → (((¬ (I 83 17 = 0)) → vp_in ((I 83 17) - (1 : Int32)) 220) ∧ ((v_X12_top I ≤ (6 : Int32) → (((¬ (I 83 17 = 0)) → vp_in ((I 83 17) - (1 : Int32)) 220) ∧ (vp_in (I 83 16) 220 ∧ Go none aM (Ev mt aM (d + 2)) mX12_closesSums Q (0, [some (.ref 83), some (.int a)], [], (SH, mkM (si (si (si I 91 ((I 83 16).toNatClampNeg) (((1048576 : Int32) * (v_X12_top I)) + (0 : Int32))) 83 16 ((I 83 16) + (1 : Int32))) 83 17 ((I 83 17) - (1 : Int32))) J T), 0, 0)))) ∧ ((¬ (v_X12_top I ≤ (6 : Int32))) → ((a = 0 → Q none (SH, mkM I J T)) ∧ ((¬ (a = 0)) → (((¬ (I 83 17 = 0)) → vp_in ((I 83 17) - (1 : Int32)) 220) ∧ ((v_X12_top I = (2 : Int32) → (((¬ (I 83 17 = 0)) → vp_in ((I 83 17) - (1 : Int32)) 220) ∧ (vp_in (I 83 16) 220 ∧ Go none aM (Ev mt aM (d + 2)) mX12_closesSums Q (0, [some (.ref 83), some (.int a)], [], (SH, mkM (si (si (si I 91 ((I 83 16).toNatClampNeg) (((1048576 : Int32) * (v_X12_top I)) + (0 : Int32))) 83 16 ((I 83 16) + (1 : Int32))) 83 17 ((I 83 17) - (1 : Int32))) J T), 0, 0)))) ∧ ((¬ (v_X12_top I = (2 : Int32))) → (((¬ (I 83 17 = 0)) → vp_in ((I 83 17) - (1 : Int32)) 220) ∧ ((v_X12_top I = (3 : Int32) → (((¬ (I 83 17 = 0)) → vp_in ((I 83 17) - (1 : Int32)) 220) ∧ (vp_in (I 83 16) 220 ∧ Go none aM (Ev mt aM (d + 2)) mX12_closesSums Q (0, [some (.ref 83), some (.int a)], [], (SH, mkM (si (si (si I 91 ((I 83 16).toNatClampNeg) (((1048576 : Int32) * (v_X12_top I)) + (0 : Int32))) 83 16 ((I 83 16) + (1 : Int32))) 83 17 ((I 83 17) - (1 : Int32))) J T), 0, 0)))) ∧ ((¬ (v_X12_top I = (3 : Int32))) → Q none (SH, mkM I J T)))))))))))))))) : Go none aM (Ev mt aM (d + 2)) mX12_closesSums Q (0, [some (.ref 83), some (.int a)], [], (SH, mkM I J T), 0, 0) := by
  refine Go.of_run (Ev.mono _) 2 _ ?_
  refine ⟨Nat.le_of_ble_eq_true rfl, ev_X12_top hyp.1 ?_⟩
  show Go none aM (Ev mt aM (d + 2)) mX12_closesSums Q (4, [some (.ref 83), some (.int a)], [.int (v_X12_top I)], (SH, mkM I J T), 0, 0)
  refine Go.of_run (Ev.mono _) 2 _ ?_
  show Go none aM (Ev mt aM (d + 2)) mX12_closesSums Q (if v_X12_top I < (4 : Int32) then 17 else 8, [some (.ref 83), some (.int a)], [], (SH, mkM I J T), 0, 0)
  rcases Decidable.em (v_X12_top I < (4 : Int32)) with c1 | c1
  · rw [if_pos c1]
    refine Go.of_run (Ev.mono _) 2 _ ?_
    show Go none aM (Ev mt aM (d + 2)) mX12_closesSums Q (if a = 0 then 59 else 21, [some (.ref 83), some (.int a)], [], (SH, mkM I J T), 0, 0)
    rcases Decidable.em (a = 0) with c2 | c2
    · rw [if_pos c2]
      refine Go.of_run (Ev.mono _) 1 _ ?_
      refine ⟨trivial, ?_⟩
      show Q none (SH, mkM I J T)
      exact ((hyp.2.1 c1).1 c2)
    · rw [if_neg c2]
      refine Go.of_run (Ev.mono _) 2 _ ?_
      refine ⟨Nat.le_of_ble_eq_true rfl, ev_X12_top ((hyp.2.1 c1).2 c2).1 ?_⟩
      show Go none aM (Ev mt aM (d + 2)) mX12_closesSums Q (25, [some (.ref 83), some (.int a)], [.int (v_X12_top I)], (SH, mkM I J T), 0, 0)
      refine Go.of_run (Ev.mono _) 2 _ ?_
      show Go none aM (Ev mt aM (d + 2)) mX12_closesSums Q (if v_X12_top I = (2 : Int32) then 37 else 29, [some (.ref 83), some (.int a)], [], (SH, mkM I J T), 0, 0)
      rcases Decidable.em (v_X12_top I = (2 : Int32)) with c3 | c3
      · rw [if_pos c3]
        refine Go.of_run (Ev.mono _) 3 _ ?_
        refine ⟨Nat.le_of_ble_eq_true rfl, ev_X12_top (((hyp.2.1 c1).2 c2).2.1 c3).1 ?_⟩
        show Go none aM (Ev mt aM (d + 2)) mX12_closesSums Q (42, [some (.ref 83), some (.int a)], [.int (v_X12_top I), .ref 83], (SH, mkM I J T), 0, 0)
        refine Go.of_run (Ev.mono _) 2 _ ?_
        refine ⟨Nat.le_of_ble_eq_true rfl, ev_X12_notes (((hyp.2.1 c1).2 c2).2.1 c3).2.1 ?_⟩
        show Go none aM (Ev mt aM (d + 2)) mX12_closesSums Q (46, [some (.ref 83), some (.int a)], [], (SH, mkM (si (si I 91 ((I 83 16).toNatClampNeg) (((1048576 : Int32) * (v_X12_top I)) + (0 : Int32))) 83 16 ((I 83 16) + (1 : Int32))) J T), 0, 0)
        refine Go.of_run (Ev.mono _) 6 _ ?_
        refine go_si rfl ?_
        show Go none aM (Ev mt aM (d + 2)) mX12_closesSums Q (56, [some (.ref 83), some (.int a)], [], (SH, mkM (si (si (si I 91 ((I 83 16).toNatClampNeg) (((1048576 : Int32) * (v_X12_top I)) + (0 : Int32))) 83 16 ((I 83 16) + (1 : Int32))) 83 17 ((I 83 17) - (1 : Int32))) J T), 0, 0)
        refine Go.of_run (Ev.mono _) 1 _ ?_
        exact (((hyp.2.1 c1).2 c2).2.1 c3).2.2
      · rw [if_neg c3]
        refine Go.of_run (Ev.mono _) 2 _ ?_
        refine ⟨Nat.le_of_ble_eq_true rfl, ev_X12_top (((hyp.2.1 c1).2 c2).2.2 c3).1 ?_⟩
        show Go none aM (Ev mt aM (d + 2)) mX12_closesSums Q (33, [some (.ref 83), some (.int a)], [.int (v_X12_top I)], (SH, mkM I J T), 0, 0)
        refine Go.of_run (Ev.mono _) 2 _ ?_
        show Go none aM (Ev mt aM (d + 2)) mX12_closesSums Q (if v_X12_top I = (3 : Int32) then 37 else 59, [some (.ref 83), some (.int a)], [], (SH, mkM I J T), 0, 0)
        rcases Decidable.em (v_X12_top I = (3 : Int32)) with c4 | c4
        · rw [if_pos c4]
          refine Go.of_run (Ev.mono _) 3 _ ?_
          refine ⟨Nat.le_of_ble_eq_true rfl, ev_X12_top ((((hyp.2.1 c1).2 c2).2.2 c3).2.1 c4).1 ?_⟩
          show Go none aM (Ev mt aM (d + 2)) mX12_closesSums Q (42, [some (.ref 83), some (.int a)], [.int (v_X12_top I), .ref 83], (SH, mkM I J T), 0, 0)
          refine Go.of_run (Ev.mono _) 2 _ ?_
          refine ⟨Nat.le_of_ble_eq_true rfl, ev_X12_notes ((((hyp.2.1 c1).2 c2).2.2 c3).2.1 c4).2.1 ?_⟩
          show Go none aM (Ev mt aM (d + 2)) mX12_closesSums Q (46, [some (.ref 83), some (.int a)], [], (SH, mkM (si (si I 91 ((I 83 16).toNatClampNeg) (((1048576 : Int32) * (v_X12_top I)) + (0 : Int32))) 83 16 ((I 83 16) + (1 : Int32))) J T), 0, 0)
          refine Go.of_run (Ev.mono _) 6 _ ?_
          refine go_si rfl ?_
          show Go none aM (Ev mt aM (d + 2)) mX12_closesSums Q (56, [some (.ref 83), some (.int a)], [], (SH, mkM (si (si (si I 91 ((I 83 16).toNatClampNeg) (((1048576 : Int32) * (v_X12_top I)) + (0 : Int32))) 83 16 ((I 83 16) + (1 : Int32))) 83 17 ((I 83 17) - (1 : Int32))) J T), 0, 0)
          refine Go.of_run (Ev.mono _) 1 _ ?_
          exact ((((hyp.2.1 c1).2 c2).2.2 c3).2.1 c4).2.2
        · rw [if_neg c4]
          refine Go.of_run (Ev.mono _) 1 _ ?_
          refine ⟨trivial, ?_⟩
          show Q none (SH, mkM I J T)
          exact ((((hyp.2.1 c1).2 c2).2.2 c3).2.2 c4)
  · rw [if_neg c1]
    refine Go.of_run (Ev.mono _) 2 _ ?_
    refine ⟨Nat.le_of_ble_eq_true rfl, ev_X12_top (hyp.2.2 c1).1 ?_⟩
    show Go none aM (Ev mt aM (d + 2)) mX12_closesSums Q (12, [some (.ref 83), some (.int a)], [.int (v_X12_top I)], (SH, mkM I J T), 0, 0)
    refine Go.of_run (Ev.mono _) 2 _ ?_
    show Go none aM (Ev mt aM (d + 2)) mX12_closesSums Q (if v_X12_top I ≤ (6 : Int32) then 37 else 17, [some (.ref 83), some (.int a)], [], (SH, mkM I J T), 0, 0)
    rcases Decidable.em (v_X12_top I ≤ (6 : Int32)) with c5 | c5
    · rw [if_pos c5]
      refine Go.of_run (Ev.mono _) 3 _ ?_
      refine ⟨Nat.le_of_ble_eq_true rfl, ev_X12_top ((hyp.2.2 c1).2.1 c5).1 ?_⟩
      show Go none aM (Ev mt aM (d + 2)) mX12_closesSums Q (42, [some (.ref 83), some (.int a)], [.int (v_X12_top I), .ref 83], (SH, mkM I J T), 0, 0)
      refine Go.of_run (Ev.mono _) 2 _ ?_
      refine ⟨Nat.le_of_ble_eq_true rfl, ev_X12_notes ((hyp.2.2 c1).2.1 c5).2.1 ?_⟩
      show Go none aM (Ev mt aM (d + 2)) mX12_closesSums Q (46, [some (.ref 83), some (.int a)], [], (SH, mkM (si (si I 91 ((I 83 16).toNatClampNeg) (((1048576 : Int32) * (v_X12_top I)) + (0 : Int32))) 83 16 ((I 83 16) + (1 : Int32))) J T), 0, 0)
      refine Go.of_run (Ev.mono _) 6 _ ?_
      refine go_si rfl ?_
      show Go none aM (Ev mt aM (d + 2)) mX12_closesSums Q (56, [some (.ref 83), some (.int a)], [], (SH, mkM (si (si (si I 91 ((I 83 16).toNatClampNeg) (((1048576 : Int32) * (v_X12_top I)) + (0 : Int32))) 83 16 ((I 83 16) + (1 : Int32))) 83 17 ((I 83 17) - (1 : Int32))) J T), 0, 0)
      refine Go.of_run (Ev.mono _) 1 _ ?_
      exact ((hyp.2.2 c1).2.1 c5).2.2
    · rw [if_neg c5]
      refine Go.of_run (Ev.mono _) 2 _ ?_
      show Go none aM (Ev mt aM (d + 2)) mX12_closesSums Q (if a = 0 then 59 else 21, [some (.ref 83), some (.int a)], [], (SH, mkM I J T), 0, 0)
      rcases Decidable.em (a = 0) with c6 | c6
      · rw [if_pos c6]
        refine Go.of_run (Ev.mono _) 1 _ ?_
        refine ⟨trivial, ?_⟩
        show Q none (SH, mkM I J T)
        exact (((hyp.2.2 c1).2.2 c5).1 c6)
      · rw [if_neg c6]
        refine Go.of_run (Ev.mono _) 2 _ ?_
        refine ⟨Nat.le_of_ble_eq_true rfl, ev_X12_top (((hyp.2.2 c1).2.2 c5).2 c6).1 ?_⟩
        show Go none aM (Ev mt aM (d + 2)) mX12_closesSums Q (25, [some (.ref 83), some (.int a)], [.int (v_X12_top I)], (SH, mkM I J T), 0, 0)
        refine Go.of_run (Ev.mono _) 2 _ ?_
        show Go none aM (Ev mt aM (d + 2)) mX12_closesSums Q (if v_X12_top I = (2 : Int32) then 37 else 29, [some (.ref 83), some (.int a)], [], (SH, mkM I J T), 0, 0)
        rcases Decidable.em (v_X12_top I = (2 : Int32)) with c7 | c7
        · rw [if_pos c7]
          refine Go.of_run (Ev.mono _) 3 _ ?_
          refine ⟨Nat.le_of_ble_eq_true rfl, ev_X12_top ((((hyp.2.2 c1).2.2 c5).2 c6).2.1 c7).1 ?_⟩
          show Go none aM (Ev mt aM (d + 2)) mX12_closesSums Q (42, [some (.ref 83), some (.int a)], [.int (v_X12_top I), .ref 83], (SH, mkM I J T), 0, 0)
          refine Go.of_run (Ev.mono _) 2 _ ?_
          refine ⟨Nat.le_of_ble_eq_true rfl, ev_X12_notes ((((hyp.2.2 c1).2.2 c5).2 c6).2.1 c7).2.1 ?_⟩
          show Go none aM (Ev mt aM (d + 2)) mX12_closesSums Q (46, [some (.ref 83), some (.int a)], [], (SH, mkM (si (si I 91 ((I 83 16).toNatClampNeg) (((1048576 : Int32) * (v_X12_top I)) + (0 : Int32))) 83 16 ((I 83 16) + (1 : Int32))) J T), 0, 0)
          refine Go.of_run (Ev.mono _) 6 _ ?_
          refine go_si rfl ?_
          show Go none aM (Ev mt aM (d + 2)) mX12_closesSums Q (56, [some (.ref 83), some (.int a)], [], (SH, mkM (si (si (si I 91 ((I 83 16).toNatClampNeg) (((1048576 : Int32) * (v_X12_top I)) + (0 : Int32))) 83 16 ((I 83 16) + (1 : Int32))) 83 17 ((I 83 17) - (1 : Int32))) J T), 0, 0)
          refine Go.of_run (Ev.mono _) 1 _ ?_
          exact ((((hyp.2.2 c1).2.2 c5).2 c6).2.1 c7).2.2
        · rw [if_neg c7]
          refine Go.of_run (Ev.mono _) 2 _ ?_
          refine ⟨Nat.le_of_ble_eq_true rfl, ev_X12_top ((((hyp.2.2 c1).2.2 c5).2 c6).2.2 c7).1 ?_⟩
          show Go none aM (Ev mt aM (d + 2)) mX12_closesSums Q (33, [some (.ref 83), some (.int a)], [.int (v_X12_top I)], (SH, mkM I J T), 0, 0)
          refine Go.of_run (Ev.mono _) 2 _ ?_
          show Go none aM (Ev mt aM (d + 2)) mX12_closesSums Q (if v_X12_top I = (3 : Int32) then 37 else 59, [some (.ref 83), some (.int a)], [], (SH, mkM I J T), 0, 0)
          rcases Decidable.em (v_X12_top I = (3 : Int32)) with c8 | c8
          · rw [if_pos c8]
            refine Go.of_run (Ev.mono _) 3 _ ?_
            refine ⟨Nat.le_of_ble_eq_true rfl, ev_X12_top (((((hyp.2.2 c1).2.2 c5).2 c6).2.2 c7).2.1 c8).1 ?_⟩
            show Go none aM (Ev mt aM (d + 2)) mX12_closesSums Q (42, [some (.ref 83), some (.int a)], [.int (v_X12_top I), .ref 83], (SH, mkM I J T), 0, 0)
            refine Go.of_run (Ev.mono _) 2 _ ?_
            refine ⟨Nat.le_of_ble_eq_true rfl, ev_X12_notes (((((hyp.2.2 c1).2.2 c5).2 c6).2.2 c7).2.1 c8).2.1 ?_⟩
            show Go none aM (Ev mt aM (d + 2)) mX12_closesSums Q (46, [some (.ref 83), some (.int a)], [], (SH, mkM (si (si I 91 ((I 83 16).toNatClampNeg) (((1048576 : Int32) * (v_X12_top I)) + (0 : Int32))) 83 16 ((I 83 16) + (1 : Int32))) J T), 0, 0)
            refine Go.of_run (Ev.mono _) 6 _ ?_
            refine go_si rfl ?_
            show Go none aM (Ev mt aM (d + 2)) mX12_closesSums Q (56, [some (.ref 83), some (.int a)], [], (SH, mkM (si (si (si I 91 ((I 83 16).toNatClampNeg) (((1048576 : Int32) * (v_X12_top I)) + (0 : Int32))) 83 16 ((I 83 16) + (1 : Int32))) 83 17 ((I 83 17) - (1 : Int32))) J T), 0, 0)
            refine Go.of_run (Ev.mono _) 1 _ ?_
            exact (((((hyp.2.2 c1).2.2 c5).2 c6).2.2 c7).2.1 c8).2.2
          · rw [if_neg c8]
            refine Go.of_run (Ev.mono _) 1 _ ?_
            refine ⟨trivial, ?_⟩
            show Q none (SH, mkM I J T)
            exact (((((hyp.2.2 c1).2.2 c5).2 c6).2.2 c7).2.2 c8)
set_option maxRecDepth 20000 in
theorem mho_0 {d : Nat} {a : Int32} {I : Nat → Nat → Int32} {J : Nat → Nat → Int64} {T : Nat → Nat → Nat} {Q : Option Value → Mem → Prop} (hyp : Go none aM (Ev mt aM (d + 2)) mX12_hasOpenSum Q (2, [some (.ref 83), none, some (.int a)], [], (SH, mkM I J T), 0, 0)) : Go none aM (Ev mt aM (d + 2)) mX12_hasOpenSum Q (0, [some (.ref 83), some (.int a), none], [], (SH, mkM I J T), 0, 0) := by
  refine Go.of_run (Ev.mono _) 2 _ ?_
  exact Go.weak (Ev.mono _) (LLe.cons (LLe.drop (LLe.cons LLe.nil))) hyp
set_option maxRecDepth 20000 in
theorem mho_2 {d : Nat} {k : Int32} {I : Nat → Nat → Int32} {J : Nat → Nat → Int64} {T : Nat → Nat → Nat} {Q : Option Value → Mem → Prop} (hyp : ((I 83 17 ≤ k → Q (some (.int (0 : Int32))) (SH, mkM I J T)) ∧ ((¬ (I 83 17 ≤ k)) → (vp_in k 220 ∧ (((I 92 k.toNatClampNeg) / (1048576 : Int32) = (14 : Int32) → Q (some (.int (1 : Int32))) (SH, mkM I J T)) ∧ ((¬ ((I 92 k.toNatClampNeg) / (1048576 : Int32) = (14 : Int32))) → Go none aM (Ev mt aM (d + 2)) mX12_hasOpenSum Q (2, [some (.ref 83), none, some (.int (k + 1))], [], (SH, mkM I J T), 0, 0))))))) : Go none aM (Ev mt aM (d + 2)) mX12_hasOpenSum Q (2, [some (.ref 83), none, some (.int k)], [], (SH, mkM I J T), 0, 0) := by
  refine Go.of_run (Ev.mono _) 4 _ ?_
  show Go none aM (Ev mt aM (d + 2)) mX12_hasOpenSum Q (if I 83 17 ≤ k then 32 else 10, [some (.ref 83), none, some (.int k)], [], (SH, mkM I J T), 0, 0)
  rcases Decidable.em (I 83 17 ≤ k) with c1 | c1
  · rw [if_pos c1]
    refine Go.of_run (Ev.mono _) 2 _ ?_
    refine ⟨(by decide), ?_⟩
    show Q (some (.int (0 : Int32))) (SH, mkM I J T)
    exact (hyp.1 c1)
  · rw [if_neg c1]
    refine Go.of_run (Ev.mono _) 4 _ ?_
    refine ⟨(hyp.2 c1).1, ?_⟩
    show Go none aM (Ev mt aM (d + 2)) mX12_hasOpenSum Q (16, [some (.ref 83), none, some (.int k)], [.int (I 92 k.toNatClampNeg)], (SH, mkM I J T), 0, 0)
    refine Go.of_run (Ev.mono _) 2 _ ?_
    refine ⟨(by decide : ¬ (1048576 : Int32) = 0), ?_⟩
    show Go none aM (Ev mt aM (d + 2)) mX12_hasOpenSum Q (19, [some (.ref 83), none, some (.int k)], [.int ((I 92 k.toNatClampNeg) / (1048576 : Int32))], (SH, mkM I J T), 0, 0)
    refine Go.of_run (Ev.mono _) 2 _ ?_
    show Go none aM (Ev mt aM (d + 2)) mX12_hasOpenSum Q (if (I 92 k.toNatClampNeg) / (1048576 : Int32) = (14 : Int32) then 24 else 26, [some (.ref 83), none, some (.int k)], [], (SH, mkM I J T), 0, 0)
    rcases Decidable.em ((I 92 k.toNatClampNeg) / (1048576 : Int32) = (14 : Int32)) with c2 | c2
    · rw [if_pos c2]
      refine Go.of_run (Ev.mono _) 2 _ ?_
      refine ⟨(by decide), ?_⟩
      show Q (some (.int (1 : Int32))) (SH, mkM I J T)
      exact ((hyp.2 c1).2.1 c2)
    · rw [if_neg c2]
      refine Go.of_run (Ev.mono _) 2 _ ?_
      exact ((hyp.2 c1).2.2 c2)
set_option maxRecDepth 20000 in
theorem mep_0 {d : Nat} {I : Nat → Nat → Int32} {J : Nat → Nat → Int64} {T : Nat → Nat → Nat} {Q : Option Value → Mem → Prop} (hyp : (((¬ (I 83 17 = 0)) → vp_in ((I 83 17) - (1 : Int32)) 220) ∧ ((v_X12_top I = (10 : Int32) → (vp_in (I 83 16) 220 ∧ Go none aM (Ev mt aM (d + 2)) mX12_endsPiece Q (0, [some (.ref 83)], [], (SH, mkM (si (si (si (si I 91 ((I 83 16).toNatClampNeg) (((1048576 : Int32) * (10 : Int32)) + (0 : Int32))) 83 16 ((I 83 16) + (1 : Int32))) 83 17 ((I 83 17) - (1 : Int32))) 83 15 ((I 83 15) - (1 : Int32))) J T), 0, 0))) ∧ ((¬ (v_X12_top I = (10 : Int32))) → Q none (SH, mkM I J T))))) : Go none aM (Ev mt aM (d + 2)) mX12_endsPiece Q (0, [some (.ref 83)], [], (SH, mkM I J T), 0, 0) := by
  refine Go.of_run (Ev.mono _) 2 _ ?_
  refine ⟨Nat.le_of_ble_eq_true rfl, ev_X12_top hyp.1 ?_⟩
  show Go none aM (Ev mt aM (d + 2)) mX12_endsPiece Q (4, [some (.ref 83)], [.int (v_X12_top I)], (SH, mkM I J T), 0, 0)
  refine Go.of_run (Ev.mono _) 2 _ ?_
  show Go none aM (Ev mt aM (d + 2)) mX12_endsPiece Q (if v_X12_top I = (10 : Int32) then 9 else 39, [some (.ref 83)], [], (SH, mkM I J T), 0, 0)
  rcases Decidable.em (v_X12_top I = (10 : Int32)) with c1 | c1
  · rw [if_pos c1]
    refine Go.of_run (Ev.mono _) 4 _ ?_
    refine ⟨Nat.le_of_ble_eq_true rfl, ev_X12_notes (hyp.2.1 c1).1 ?_⟩
    show Go none aM (Ev mt aM (d + 2)) mX12_endsPiece Q (16, [some (.ref 83)], [], (SH, mkM (si (si I 91 ((I 83 16).toNatClampNeg) (((1048576 : Int32) * (10 : Int32)) + (0 : Int32))) 83 16 ((I 83 16) + (1 : Int32))) J T), 0, 0)
    refine Go.of_run (Ev.mono _) 6 _ ?_
    refine go_si rfl ?_
    show Go none aM (Ev mt aM (d + 2)) mX12_endsPiece Q (26, [some (.ref 83)], [], (SH, mkM (si (si (si I 91 ((I 83 16).toNatClampNeg) (((1048576 : Int32) * (10 : Int32)) + (0 : Int32))) 83 16 ((I 83 16) + (1 : Int32))) 83 17 ((I 83 17) - (1 : Int32))) J T), 0, 0)
    refine Go.of_run (Ev.mono _) 6 _ ?_
    refine go_si rfl ?_
    show Go none aM (Ev mt aM (d + 2)) mX12_endsPiece Q (36, [some (.ref 83)], [], (SH, mkM (si (si (si (si I 91 ((I 83 16).toNatClampNeg) (((1048576 : Int32) * (10 : Int32)) + (0 : Int32))) 83 16 ((I 83 16) + (1 : Int32))) 83 17 ((I 83 17) - (1 : Int32))) 83 15 ((I 83 15) - (1 : Int32))) J T), 0, 0)
    refine Go.of_run (Ev.mono _) 1 _ ?_
    exact (hyp.2.1 c1).2
  · rw [if_neg c1]
    refine Go.of_run (Ev.mono _) 1 _ ?_
    refine ⟨trivial, ?_⟩
    show Q none (SH, mkM I J T)
    exact (hyp.2.2 c1)
set_option maxRecDepth 20000 in
theorem mld_0 {d : Nat} {a : Int32} {I : Nat → Nat → Int32} {J : Nat → Nat → Int64} {T : Nat → Nat → Nat} {Q : Option Value → Mem → Prop} (hyp : (((¬ (I 83 17 = 0)) → vp_in ((I 83 17) - (1 : Int32)) 220) ∧ ((v_X12_top I = (11 : Int32) → (vp_in ((I 83 17) - (1 : Int32)) 220 ∧ (vp_in ((I 92 (((I 83 17) - (1 : Int32)).toNatClampNeg)) - (I 92 (((I 83 17) - (1 : Int32)).toNatClampNeg)) / (1048576 : Int32) * (1048576 : Int32)) 220 ∧ (vp_in ((I 92 (((I 83 17) - (1 : Int32)).toNatClampNeg)) - (I 92 (((I 83 17) - (1 : Int32)).toNatClampNeg)) / (1048576 : Int32) * (1048576 : Int32)) 220 ∧ Go none aM (Ev mt aM (d + 2)) mX12_lands Q (0, [some (.ref 83), some (.int a), none], [], (SH, mkM (si (si I 91 (((I 92 (((I 83 17) - (1 : Int32)).toNatClampNeg)) - (I 92 (((I 83 17) - (1 : Int32)).toNatClampNeg)) / (1048576 : Int32) * (1048576 : Int32)).toNatClampNeg) (((1048576 : Int32) * ((I 91 (((I 92 (((I 83 17) - (1 : Int32)).toNatClampNeg)) - (I 92 (((I 83 17) - (1 : Int32)).toNatClampNeg)) / (1048576 : Int32) * (1048576 : Int32)).toNatClampNeg)) / (1048576 : Int32))) + (I 83 16))) 83 17 ((I 83 17) - (1 : Int32))) J T), 0, 0))))) ∧ ((¬ (v_X12_top I = (11 : Int32))) → ((a = 0 → Q none (SH, mkM I J T)) ∧ ((¬ (a = 0)) → (((¬ (I 83 17 = 0)) → vp_in ((I 83 17) - (1 : Int32)) 220) ∧ ((v_X12_top I = (12 : Int32) → (vp_in ((I 83 17) - (1 : Int32)) 220 ∧ (vp_in ((I 92 (((I 83 17) - (1 : Int32)).toNatClampNeg)) - (I 92 (((I 83 17) - (1 : Int32)).toNatClampNeg)) / (1048576 : Int32) * (1048576 : Int32)) 220 ∧ (vp_in ((I 92 (((I 83 17) - (1 : Int32)).toNatClampNeg)) - (I 92 (((I 83 17) - (1 : Int32)).toNatClampNeg)) / (1048576 : Int32) * (1048576 : Int32)) 220 ∧ Go none aM (Ev mt aM (d + 2)) mX12_lands Q (0, [some (.ref 83), some (.int a), none], [], (SH, mkM (si (si I 91 (((I 92 (((I 83 17) - (1 : Int32)).toNatClampNeg)) - (I 92 (((I 83 17) - (1 : Int32)).toNatClampNeg)) / (1048576 : Int32) * (1048576 : Int32)).toNatClampNeg) (((1048576 : Int32) * ((I 91 (((I 92 (((I 83 17) - (1 : Int32)).toNatClampNeg)) - (I 92 (((I 83 17) - (1 : Int32)).toNatClampNeg)) / (1048576 : Int32) * (1048576 : Int32)).toNatClampNeg)) / (1048576 : Int32))) + (I 83 16))) 83 17 ((I 83 17) - (1 : Int32))) J T), 0, 0))))) ∧ ((¬ (v_X12_top I = (12 : Int32))) → Q none (SH, mkM I J T)))))))))) : Go none aM (Ev mt aM (d + 2)) mX12_lands Q (0, [some (.ref 83), some (.int a), none], [], (SH, mkM I J T), 0, 0) := by
  refine Go.of_run (Ev.mono _) 2 _ ?_
  refine ⟨Nat.le_of_ble_eq_true rfl, ev_X12_top hyp.1 ?_⟩
  show Go none aM (Ev mt aM (d + 2)) mX12_lands Q (4, [some (.ref 83), some (.int a), none], [.int (v_X12_top I)], (SH, mkM I J T), 0, 0)
  refine Go.of_run (Ev.mono _) 2 _ ?_
  show Go none aM (Ev mt aM (d + 2)) mX12_lands Q (if v_X12_top I = (11 : Int32) then 22 else 9, [some (.ref 83), some (.int a), none], [], (SH, mkM I J T), 0, 0)
  rcases Decidable.em (v_X12_top I = (11 : Int32)) with c1 | c1
  · rw [if_pos c1]
    refine Go.of_run (Ev.mono _) 7 _ ?_
    refine ⟨(hyp.2.1 c1).1, ?_⟩
    show Go none aM (Ev mt aM (d + 2)) mX12_lands Q (33, [some (.ref 83), some (.int a), none], [.int (I 92 (((I 83 17) - (1 : Int32)).toNatClampNeg))], (SH, mkM I J T), 0, 0)
    refine Go.of_run (Ev.mono _) 2 _ ?_
    refine ⟨(by decide : ¬ (1048576 : Int32) = 0), ?_⟩
    show Go none aM (Ev mt aM (d + 2)) mX12_lands Q (36, [some (.ref 83), some (.int a), none], [.int ((I 92 (((I 83 17) - (1 : Int32)).toNatClampNeg)) - (I 92 (((I 83 17) - (1 : Int32)).toNatClampNeg)) / (1048576 : Int32) * (1048576 : Int32))], (SH, mkM I J T), 0, 0)
    refine Go.of_run (Ev.mono _) 9 _ ?_
    refine ⟨(hyp.2.1 c1).2.1, ?_⟩
    show Go none aM (Ev mt aM (d + 2)) mX12_lands Q (50, [some (.ref 83), some (.int a), some (.int ((I 92 (((I 83 17) - (1 : Int32)).toNatClampNeg)) - (I 92 (((I 83 17) - (1 : Int32)).toNatClampNeg)) / (1048576 : Int32) * (1048576 : Int32)))], [.int (I 91 (((I 92 (((I 83 17) - (1 : Int32)).toNatClampNeg)) - (I 92 (((I 83 17) - (1 : Int32)).toNatClampNeg)) / (1048576 : Int32) * (1048576 : Int32)).toNatClampNeg)), .int (1048576 : Int32), .int ((I 92 (((I 83 17) - (1 : Int32)).toNatClampNeg)) - (I 92 (((I 83 17) - (1 : Int32)).toNatClampNeg)) / (1048576 : Int32) * (1048576 : Int32)), .ref 91], (SH, mkM I J T), 0, 0)
    refine Go.of_run (Ev.mono _) 2 _ ?_
    refine ⟨(by decide : ¬ (1048576 : Int32) = 0), ?_⟩
    show Go none aM (Ev mt aM (d + 2)) mX12_lands Q (53, [some (.ref 83), some (.int a), some (.int ((I 92 (((I 83 17) - (1 : Int32)).toNatClampNeg)) - (I 92 (((I 83 17) - (1 : Int32)).toNatClampNeg)) / (1048576 : Int32) * (1048576 : Int32)))], [.int ((I 91 (((I 92 (((I 83 17) - (1 : Int32)).toNatClampNeg)) - (I 92 (((I 83 17) - (1 : Int32)).toNatClampNeg)) / (1048576 : Int32) * (1048576 : Int32)).toNatClampNeg)) / (1048576 : Int32)), .int (1048576 : Int32), .int ((I 92 (((I 83 17) - (1 : Int32)).toNatClampNeg)) - (I 92 (((I 83 17) - (1 : Int32)).toNatClampNeg)) / (1048576 : Int32) * (1048576 : Int32)), .ref 91], (SH, mkM I J T), 0, 0)
    refine Go.of_run (Ev.mono _) 5 _ ?_
    refine ⟨(hyp.2.1 c1).2.2.1, ?_⟩
    refine go_si rfl ?_
    show Go none aM (Ev mt aM (d + 2)) mX12_lands Q (60, [some (.ref 83), some (.int a), some (.int ((I 92 (((I 83 17) - (1 : Int32)).toNatClampNeg)) - (I 92 (((I 83 17) - (1 : Int32)).toNatClampNeg)) / (1048576 : Int32) * (1048576 : Int32)))], [], (SH, mkM (si I 91 (((I 92 (((I 83 17) - (1 : Int32)).toNatClampNeg)) - (I 92 (((I 83 17) - (1 : Int32)).toNatClampNeg)) / (1048576 : Int32) * (1048576 : Int32)).toNatClampNeg) (((1048576 : Int32) * ((I 91 (((I 92 (((I 83 17) - (1 : Int32)).toNatClampNeg)) - (I 92 (((I 83 17) - (1 : Int32)).toNatClampNeg)) / (1048576 : Int32) * (1048576 : Int32)).toNatClampNeg)) / (1048576 : Int32))) + (I 83 16))) J T), 0, 0)
    refine Go.of_run (Ev.mono _) 6 _ ?_
    refine go_si rfl ?_
    show Go none aM (Ev mt aM (d + 2)) mX12_lands Q (70, [some (.ref 83), some (.int a), some (.int ((I 92 (((I 83 17) - (1 : Int32)).toNatClampNeg)) - (I 92 (((I 83 17) - (1 : Int32)).toNatClampNeg)) / (1048576 : Int32) * (1048576 : Int32)))], [], (SH, mkM (si (si I 91 (((I 92 (((I 83 17) - (1 : Int32)).toNatClampNeg)) - (I 92 (((I 83 17) - (1 : Int32)).toNatClampNeg)) / (1048576 : Int32) * (1048576 : Int32)).toNatClampNeg) (((1048576 : Int32) * ((I 91 (((I 92 (((I 83 17) - (1 : Int32)).toNatClampNeg)) - (I 92 (((I 83 17) - (1 : Int32)).toNatClampNeg)) / (1048576 : Int32) * (1048576 : Int32)).toNatClampNeg)) / (1048576 : Int32))) + (I 83 16))) 83 17 ((I 83 17) - (1 : Int32))) J T), 0, 0)
    refine Go.of_run (Ev.mono _) 1 _ ?_
    exact Go.weak (Ev.mono _) (LLe.cons (LLe.cons (LLe.drop LLe.nil))) (hyp.2.1 c1).2.2.2
  · rw [if_neg c1]
    refine Go.of_run (Ev.mono _) 2 _ ?_
    show Go none aM (Ev mt aM (d + 2)) mX12_lands Q (if a = 0 then 73 else 13, [some (.ref 83), some (.int a), none], [], (SH, mkM I J T), 0, 0)
    rcases Decidable.em (a = 0) with c2 | c2
    · rw [if_pos c2]
      refine Go.of_run (Ev.mono _) 1 _ ?_
      refine ⟨trivial, ?_⟩
      show Q none (SH, mkM I J T)
      exact ((hyp.2.2 c1).1 c2)
    · rw [if_neg c2]
      refine Go.of_run (Ev.mono _) 2 _ ?_
      refine ⟨Nat.le_of_ble_eq_true rfl, ev_X12_top ((hyp.2.2 c1).2 c2).1 ?_⟩
      show Go none aM (Ev mt aM (d + 2)) mX12_lands Q (17, [some (.ref 83), some (.int a), none], [.int (v_X12_top I)], (SH, mkM I J T), 0, 0)
      refine Go.of_run (Ev.mono _) 2 _ ?_
      show Go none aM (Ev mt aM (d + 2)) mX12_lands Q (if v_X12_top I = (12 : Int32) then 22 else 73, [some (.ref 83), some (.int a), none], [], (SH, mkM I J T), 0, 0)
      rcases Decidable.em (v_X12_top I = (12 : Int32)) with c3 | c3
      · rw [if_pos c3]
        refine Go.of_run (Ev.mono _) 7 _ ?_
        refine ⟨(((hyp.2.2 c1).2 c2).2.1 c3).1, ?_⟩
        show Go none aM (Ev mt aM (d + 2)) mX12_lands Q (33, [some (.ref 83), some (.int a), none], [.int (I 92 (((I 83 17) - (1 : Int32)).toNatClampNeg))], (SH, mkM I J T), 0, 0)
        refine Go.of_run (Ev.mono _) 2 _ ?_
        refine ⟨(by decide : ¬ (1048576 : Int32) = 0), ?_⟩
        show Go none aM (Ev mt aM (d + 2)) mX12_lands Q (36, [some (.ref 83), some (.int a), none], [.int ((I 92 (((I 83 17) - (1 : Int32)).toNatClampNeg)) - (I 92 (((I 83 17) - (1 : Int32)).toNatClampNeg)) / (1048576 : Int32) * (1048576 : Int32))], (SH, mkM I J T), 0, 0)
        refine Go.of_run (Ev.mono _) 9 _ ?_
        refine ⟨(((hyp.2.2 c1).2 c2).2.1 c3).2.1, ?_⟩
        show Go none aM (Ev mt aM (d + 2)) mX12_lands Q (50, [some (.ref 83), some (.int a), some (.int ((I 92 (((I 83 17) - (1 : Int32)).toNatClampNeg)) - (I 92 (((I 83 17) - (1 : Int32)).toNatClampNeg)) / (1048576 : Int32) * (1048576 : Int32)))], [.int (I 91 (((I 92 (((I 83 17) - (1 : Int32)).toNatClampNeg)) - (I 92 (((I 83 17) - (1 : Int32)).toNatClampNeg)) / (1048576 : Int32) * (1048576 : Int32)).toNatClampNeg)), .int (1048576 : Int32), .int ((I 92 (((I 83 17) - (1 : Int32)).toNatClampNeg)) - (I 92 (((I 83 17) - (1 : Int32)).toNatClampNeg)) / (1048576 : Int32) * (1048576 : Int32)), .ref 91], (SH, mkM I J T), 0, 0)
        refine Go.of_run (Ev.mono _) 2 _ ?_
        refine ⟨(by decide : ¬ (1048576 : Int32) = 0), ?_⟩
        show Go none aM (Ev mt aM (d + 2)) mX12_lands Q (53, [some (.ref 83), some (.int a), some (.int ((I 92 (((I 83 17) - (1 : Int32)).toNatClampNeg)) - (I 92 (((I 83 17) - (1 : Int32)).toNatClampNeg)) / (1048576 : Int32) * (1048576 : Int32)))], [.int ((I 91 (((I 92 (((I 83 17) - (1 : Int32)).toNatClampNeg)) - (I 92 (((I 83 17) - (1 : Int32)).toNatClampNeg)) / (1048576 : Int32) * (1048576 : Int32)).toNatClampNeg)) / (1048576 : Int32)), .int (1048576 : Int32), .int ((I 92 (((I 83 17) - (1 : Int32)).toNatClampNeg)) - (I 92 (((I 83 17) - (1 : Int32)).toNatClampNeg)) / (1048576 : Int32) * (1048576 : Int32)), .ref 91], (SH, mkM I J T), 0, 0)
        refine Go.of_run (Ev.mono _) 5 _ ?_
        refine ⟨(((hyp.2.2 c1).2 c2).2.1 c3).2.2.1, ?_⟩
        refine go_si rfl ?_
        show Go none aM (Ev mt aM (d + 2)) mX12_lands Q (60, [some (.ref 83), some (.int a), some (.int ((I 92 (((I 83 17) - (1 : Int32)).toNatClampNeg)) - (I 92 (((I 83 17) - (1 : Int32)).toNatClampNeg)) / (1048576 : Int32) * (1048576 : Int32)))], [], (SH, mkM (si I 91 (((I 92 (((I 83 17) - (1 : Int32)).toNatClampNeg)) - (I 92 (((I 83 17) - (1 : Int32)).toNatClampNeg)) / (1048576 : Int32) * (1048576 : Int32)).toNatClampNeg) (((1048576 : Int32) * ((I 91 (((I 92 (((I 83 17) - (1 : Int32)).toNatClampNeg)) - (I 92 (((I 83 17) - (1 : Int32)).toNatClampNeg)) / (1048576 : Int32) * (1048576 : Int32)).toNatClampNeg)) / (1048576 : Int32))) + (I 83 16))) J T), 0, 0)
        refine Go.of_run (Ev.mono _) 6 _ ?_
        refine go_si rfl ?_
        show Go none aM (Ev mt aM (d + 2)) mX12_lands Q (70, [some (.ref 83), some (.int a), some (.int ((I 92 (((I 83 17) - (1 : Int32)).toNatClampNeg)) - (I 92 (((I 83 17) - (1 : Int32)).toNatClampNeg)) / (1048576 : Int32) * (1048576 : Int32)))], [], (SH, mkM (si (si I 91 (((I 92 (((I 83 17) - (1 : Int32)).toNatClampNeg)) - (I 92 (((I 83 17) - (1 : Int32)).toNatClampNeg)) / (1048576 : Int32) * (1048576 : Int32)).toNatClampNeg) (((1048576 : Int32) * ((I 91 (((I 92 (((I 83 17) - (1 : Int32)).toNatClampNeg)) - (I 92 (((I 83 17) - (1 : Int32)).toNatClampNeg)) / (1048576 : Int32) * (1048576 : Int32)).toNatClampNeg)) / (1048576 : Int32))) + (I 83 16))) 83 17 ((I 83 17) - (1 : Int32))) J T), 0, 0)
        refine Go.of_run (Ev.mono _) 1 _ ?_
        exact Go.weak (Ev.mono _) (LLe.cons (LLe.cons (LLe.drop LLe.nil))) (((hyp.2.2 c1).2 c2).2.1 c3).2.2.2
      · rw [if_neg c3]
        refine Go.of_run (Ev.mono _) 1 _ ?_
        refine ⟨trivial, ?_⟩
        show Q none (SH, mkM I J T)
        exact (((hyp.2.2 c1).2 c2).2.2 c3)
set_option maxRecDepth 20000 in
theorem mnu_0 {d : Nat} {I : Nat → Nat → Int32} {J : Nat → Nat → Int64} {T : Nat → Nat → Nat} {Q : Option Value → Mem → Prop} (hyp : Go none aM (Ev mt aM (d + 2)) mX12_readsNumber Q (10, [some (.ref 83), some (.int (I 83 12))], [], (SH, mkM (si I 83 19 (0 : Int32)) J T), 0, 0)) : Go none aM (Ev mt aM (d + 2)) mX12_readsNumber Q (0, [some (.ref 83), none], [], (SH, mkM I J T), 0, 0) := by
  refine Go.of_run (Ev.mono _) 6 _ ?_
  refine go_si rfl ?_
  show Go none aM (Ev mt aM (d + 2)) mX12_readsNumber Q (10, [some (.ref 83), some (.int (I 83 12))], [], (SH, mkM (si I 83 19 (0 : Int32)) J T), 0, 0)
  exact hyp
set_option maxRecDepth 20000 in
theorem mnu_10 {d : Nat} {f : Int32} {I : Nat → Nat → Int32} {J : Nat → Nat → Int64} {T : Nat → Nat → Nat} {Q : Option Value → Mem → Prop} (hyp : (((¬ (I 83 13 ≤ I 83 12)) → vp_in (I 83 12) 220) ∧ (((¬ (v_X12_here I < (48 : Int32))) → ((¬ (I 83 13 ≤ I 83 12)) → vp_in (I 83 12) 220)) ∧ ((v_X12_isDigit I = 0 → Q (some (.int (1 : Int32))) (SH, mkM I J T)) ∧ ((¬ (v_X12_isDigit I = 0)) → ((I 83 12 = f + (5 : Int32) → Q (some (.int (0 : Int32))) (SH, mkM (si I 83 14 (((-1000 : Int32) * (2 : Int32)) - (I 83 12))) J T)) ∧ ((¬ (I 83 12 = f + (5 : Int32))) → (((¬ (I 83 13 ≤ I 83 12)) → vp_in (I 83 12) 220) ∧ Go none aM (Ev mt aM (d + 2)) mX12_readsNumber Q (10, [some (.ref 83), some (.int f)], [], (SH, mkM (si (si I 83 19 ((((10 : Int32) * (I 83 19)) + (v_X12_here I)) - (48 : Int32))) 83 12 ((I 83 12) + (1 : Int32))) J T), 0, 0))))))))) : Go none aM (Ev mt aM (d + 2)) mX12_readsNumber Q (10, [some (.ref 83), some (.int f)], [], (SH, mkM I J T), 0, 0) := by
  refine Go.of_run (Ev.mono _) 2 _ ?_
  refine ⟨Nat.le_of_ble_eq_true rfl, ev_X12_isDigit ⟨hyp.1, hyp.2.1⟩ ?_⟩
  show Go none aM (Ev mt aM (d + 2)) mX12_readsNumber Q (14, [some (.ref 83), some (.int f)], [.int (v_X12_isDigit I)], (SH, mkM I J T), 0, 0)
  refine Go.of_run (Ev.mono _) 1 _ ?_
  show Go none aM (Ev mt aM (d + 2)) mX12_readsNumber Q (if v_X12_isDigit I = 0 then 69 else 17, [some (.ref 83), some (.int f)], [], (SH, mkM I J T), 0, 0)
  rcases Decidable.em (v_X12_isDigit I = 0) with c1 | c1
  · rw [if_pos c1]
    refine Go.of_run (Ev.mono _) 2 _ ?_
    refine ⟨(by decide), ?_⟩
    show Q (some (.int (1 : Int32))) (SH, mkM I J T)
    exact (hyp.2.2.1 c1)
  · rw [if_neg c1]
    refine Go.of_run (Ev.mono _) 6 _ ?_
    show Go none aM (Ev mt aM (d + 2)) mX12_readsNumber Q (if I 83 12 = f + (5 : Int32) then 27 else 37, [some (.ref 83), some (.int f)], [], (SH, mkM I J T), 0, 0)
    rcases Decidable.em (I 83 12 = f + (5 : Int32)) with c2 | c2
    · rw [if_pos c2]
      refine Go.of_run (Ev.mono _) 5 _ ?_
      refine ⟨Nat.le_of_ble_eq_true rfl, ev_X12_wrongAt ?_⟩
      show Go none aM (Ev mt aM (d + 2)) mX12_readsNumber Q (36, [some (.ref 83), some (.int f)], [.int (0 : Int32)], (SH, mkM (si I 83 14 (((-1000 : Int32) * (2 : Int32)) - (I 83 12))) J T), 0, 0)
      refine Go.of_run (Ev.mono _) 1 _ ?_
      refine ⟨(by decide), ?_⟩
      show Q (some (.int (0 : Int32))) (SH, mkM (si I 83 14 (((-1000 : Int32) * (2 : Int32)) - (I 83 12))) J T)
      exact ((hyp.2.2.2 c1).1 c2)
    · rw [if_neg c2]
      refine Go.of_run (Ev.mono _) 7 _ ?_
      refine ⟨Nat.le_of_ble_eq_true rfl, ev_X12_here ((hyp.2.2.2 c1).2 c2).1 ?_⟩
      show Go none aM (Ev mt aM (d + 2)) mX12_readsNumber Q (49, [some (.ref 83), some (.int f)], [.int (v_X12_here I), .int ((10 : Int32) * (I 83 19)), .ref 83], (SH, mkM I J T), 0, 0)
      refine Go.of_run (Ev.mono _) 4 _ ?_
      refine go_si rfl ?_
      show Go none aM (Ev mt aM (d + 2)) mX12_readsNumber Q (56, [some (.ref 83), some (.int f)], [], (SH, mkM (si I 83 19 ((((10 : Int32) * (I 83 19)) + (v_X12_here I)) - (48 : Int32))) J T), 0, 0)
      refine Go.of_run (Ev.mono _) 6 _ ?_
      refine go_si rfl ?_
      show Go none aM (Ev mt aM (d + 2)) mX12_readsNumber Q (66, [some (.ref 83), some (.int f)], [], (SH, mkM (si (si I 83 19 ((((10 : Int32) * (I 83 19)) + (v_X12_here I)) - (48 : Int32))) 83 12 ((I 83 12) + (1 : Int32))) J T), 0, 0)
      refine Go.of_run (Ev.mono _) 1 _ ?_
      exact ((hyp.2.2.2 c1).2 c2).2
set_option maxRecDepth 20000 in
theorem mfa_0 {d : Nat} {I : Nat → Nat → Int32} {J : Nat → Nat → Int64} {T : Nat → Nat → Nat} {Q : Option Value → Mem → Prop} (hyp : (((¬ (I 83 13 ≤ I 83 12)) → vp_in (I 83 12) 220) ∧ ((v_X12_here I = (91 : Int32) → Ev mt aM (d + 3) 189 [.ref 83, .int (14 : Int32)] (SH, mkM I J T) (fun r m1 => Go none aM (Ev mt aM (d + 3)) mX12_readsFactor Q (15, [some (.ref 83), none], r.toList ++ [], m1, 0, 0))) ∧ ((¬ (v_X12_here I = (91 : Int32))) → (((¬ (I 83 13 ≤ I 83 12)) → vp_in (I 83 12) 220) ∧ (((¬ (v_X12_here I < (48 : Int32))) → ((¬ (I 83 13 ≤ I 83 12)) → vp_in (I 83 12) 220)) ∧ ((v_X12_isDigit I = 0 → (((¬ (I 83 13 ≤ I 83 12)) → vp_in (I 83 12) 220) ∧ ((v_X12_factOf (v_X12_here I) = (-1 : Int32) → Q (some (.int (0 : Int32))) (SH, mkM (si I 83 14 (((-1000 : Int32) * (1 : Int32)) - (I 83 12))) J T)) ∧ ((¬ (v_X12_factOf (v_X12_here I) = (-1 : Int32))) → (vp_in (I 83 16) 220 ∧ Q (some (.int (1 : Int32))) (SH, mkM (si (si (si I 91 ((I 83 16).toNatClampNeg) (((1048576 : Int32) * (1 : Int32)) + (v_X12_factOf (v_X12_here I)))) 83 16 ((I 83 16) + (1 : Int32))) 83 12 ((I 83 12) + (1 : Int32))) J T)))))) ∧ ((¬ (v_X12_isDigit I = 0)) → Ev mt aM (d + 3) 187 [.ref 83] (SH, mkM I J T) (fun r m1 => Go none aM (Ev mt aM (d + 3)) mX12_readsFactor Q (31, [some (.ref 83), none], r.toList ++ [], m1, 0, 0)))))))))) : Go none aM (Ev mt aM (d + 3)) mX12_readsFactor Q (0, [some (.ref 83), none], [], (SH, mkM I J T), 0, 0) := by
  refine Go.of_run (Ev.mono _) 2 _ ?_
  refine ⟨Nat.le_of_ble_eq_true rfl, ev_X12_here hyp.1 ?_⟩
  show Go none aM (Ev mt aM (d + 3)) mX12_readsFactor Q (4, [some (.ref 83), none], [.int (v_X12_here I)], (SH, mkM I J T), 0, 0)
  refine Go.of_run (Ev.mono _) 2 _ ?_
  show Go none aM (Ev mt aM (d + 3)) mX12_readsFactor Q (if v_X12_here I = (91 : Int32) then 9 else 20, [some (.ref 83), none], [], (SH, mkM I J T), 0, 0)
  rcases Decidable.em (v_X12_here I = (91 : Int32)) with c1 | c1
  · rw [if_pos c1]
    refine Go.of_run (Ev.mono _) 3 _ ?_
    refine ⟨Nat.le_of_ble_eq_true rfl, (hyp.2.1 c1)⟩
  · rw [if_neg c1]
    refine Go.of_run (Ev.mono _) 2 _ ?_
    refine ⟨Nat.le_of_ble_eq_true rfl, ev_X12_isDigit ⟨(hyp.2.2 c1).1, (hyp.2.2 c1).2.1⟩ ?_⟩
    show Go none aM (Ev mt aM (d + 3)) mX12_readsFactor Q (24, [some (.ref 83), none], [.int (v_X12_isDigit I)], (SH, mkM I J T), 0, 0)
    refine Go.of_run (Ev.mono _) 1 _ ?_
    show Go none aM (Ev mt aM (d + 3)) mX12_readsFactor Q (if v_X12_isDigit I = 0 then 47 else 27, [some (.ref 83), none], [], (SH, mkM I J T), 0, 0)
    rcases Decidable.em (v_X12_isDigit I = 0) with c2 | c2
    · rw [if_pos c2]
      refine Go.of_run (Ev.mono _) 2 _ ?_
      refine ⟨Nat.le_of_ble_eq_true rfl, ev_X12_here ((hyp.2.2 c1).2.2.1 c2).1 ?_⟩
      show Go none aM (Ev mt aM (d + 3)) mX12_readsFactor Q (51, [some (.ref 83), none], [.int (v_X12_here I)], (SH, mkM I J T), 0, 0)
      refine Go.of_run (Ev.mono _) 1 _ ?_
      refine ⟨Nat.le_of_ble_eq_true rfl, ev_X12_factOf ?_⟩
      show Go none aM (Ev mt aM (d + 3)) mX12_readsFactor Q (54, [some (.ref 83), none], [.int (v_X12_factOf (v_X12_here I))], (SH, mkM I J T), 0, 0)
      refine Go.of_run (Ev.mono _) 4 _ ?_
      show Go none aM (Ev mt aM (d + 3)) mX12_readsFactor Q (if v_X12_factOf (v_X12_here I) = (-1 : Int32) then 60 else 70, [some (.ref 83), some (.int (v_X12_factOf (v_X12_here I)))], [], (SH, mkM I J T), 0, 0)
      rcases Decidable.em (v_X12_factOf (v_X12_here I) = (-1 : Int32)) with c3 | c3
      · rw [if_pos c3]
        refine Go.of_run (Ev.mono _) 5 _ ?_
        refine ⟨Nat.le_of_ble_eq_true rfl, ev_X12_wrongAt ?_⟩
        show Go none aM (Ev mt aM (d + 3)) mX12_readsFactor Q (69, [some (.ref 83), some (.int (v_X12_factOf (v_X12_here I)))], [.int (0 : Int32)], (SH, mkM (si I 83 14 (((-1000 : Int32) * (1 : Int32)) - (I 83 12))) J T), 0, 0)
        refine Go.of_run (Ev.mono _) 1 _ ?_
        refine ⟨(by decide), ?_⟩
        show Q (some (.int (0 : Int32))) (SH, mkM (si I 83 14 (((-1000 : Int32) * (1 : Int32)) - (I 83 12))) J T)
        exact (((hyp.2.2 c1).2.2.1 c2).2.1 c3)
      · rw [if_neg c3]
        refine Go.of_run (Ev.mono _) 4 _ ?_
        refine ⟨Nat.le_of_ble_eq_true rfl, ev_X12_notes (((hyp.2.2 c1).2.2.1 c2).2.2 c3).1 ?_⟩
        show Go none aM (Ev mt aM (d + 3)) mX12_readsFactor Q (76, [some (.ref 83), some (.int (v_X12_factOf (v_X12_here I)))], [], (SH, mkM (si (si I 91 ((I 83 16).toNatClampNeg) (((1048576 : Int32) * (1 : Int32)) + (v_X12_factOf (v_X12_here I)))) 83 16 ((I 83 16) + (1 : Int32))) J T), 0, 0)
        refine Go.of_run (Ev.mono _) 6 _ ?_
        refine go_si rfl ?_
        show Go none aM (Ev mt aM (d + 3)) mX12_readsFactor Q (86, [some (.ref 83), some (.int (v_X12_factOf (v_X12_here I)))], [], (SH, mkM (si (si (si I 91 ((I 83 16).toNatClampNeg) (((1048576 : Int32) * (1 : Int32)) + (v_X12_factOf (v_X12_here I)))) 83 16 ((I 83 16) + (1 : Int32))) 83 12 ((I 83 12) + (1 : Int32))) J T), 0, 0)
        refine Go.of_run (Ev.mono _) 2 _ ?_
        refine ⟨(by decide), ?_⟩
        show Q (some (.int (1 : Int32))) (SH, mkM (si (si (si I 91 ((I 83 16).toNatClampNeg) (((1048576 : Int32) * (1 : Int32)) + (v_X12_factOf (v_X12_here I)))) 83 16 ((I 83 16) + (1 : Int32))) 83 12 ((I 83 12) + (1 : Int32))) J T)
        exact (((hyp.2.2 c1).2.2.1 c2).2.2 c3).2
    · rw [if_neg c2]
      refine Go.of_run (Ev.mono _) 2 _ ?_
      refine ⟨Nat.le_of_ble_eq_true rfl, ((hyp.2.2 c1).2.2.2 c2)⟩
set_option maxRecDepth 20000 in
theorem mfa_15 {d : Nat} {v : Int32} {I : Nat → Nat → Int32} {J : Nat → Nat → Int64} {T : Nat → Nat → Nat} {Q : Option Value → Mem → Prop} (hyp : ((v = 0 → Q (some (.int (0 : Int32))) (SH, mkM I J T)) ∧ ((¬ (v = 0)) → Go none aM (Ev mt aM (d + 3)) mX12_readsFactor Q (0, [some (.ref 83), none], [], (SH, mkM I J T), 0, 0)))) : Go none aM (Ev mt aM (d + 3)) mX12_readsFactor Q (15, [some (.ref 83), none], [.int v], (SH, mkM I J T), 0, 0) := by
  refine Go.of_run (Ev.mono _) 1 _ ?_
  show Go none aM (Ev mt aM (d + 3)) mX12_readsFactor Q (if v = 0 then 18 else 0, [some (.ref 83), none], [], (SH, mkM I J T), 0, 0)
  rcases Decidable.em (v = 0) with c1 | c1
  · rw [if_pos c1]
    refine Go.of_run (Ev.mono _) 2 _ ?_
    refine ⟨(by decide), ?_⟩
    show Q (some (.int (0 : Int32))) (SH, mkM I J T)
    exact (hyp.1 c1)
  · rw [if_neg c1]
    exact (hyp.2 c1)
set_option maxRecDepth 20000 in
theorem mfa_31 {d : Nat} {v : Int32} {I : Nat → Nat → Int32} {J : Nat → Nat → Int64} {T : Nat → Nat → Nat} {Q : Option Value → Mem → Prop} (hyp : ((v = 0 → Q (some (.int (0 : Int32))) (SH, mkM I J T)) ∧ ((¬ (v = 0)) → (vp_in (I 83 16) 220 ∧ Q (some (.int (1 : Int32))) (SH, mkM (si (si I 91 ((I 83 16).toNatClampNeg) (((1048576 : Int32) * (0 : Int32)) + (I 83 19))) 83 16 ((I 83 16) + (1 : Int32))) J T))))) : Go none aM (Ev mt aM (d + 3)) mX12_readsFactor Q (31, [some (.ref 83), none], [.int v], (SH, mkM I J T), 0, 0) := by
  refine Go.of_run (Ev.mono _) 1 _ ?_
  show Go none aM (Ev mt aM (d + 3)) mX12_readsFactor Q (if v = 0 then 34 else 36, [some (.ref 83), none], [], (SH, mkM I J T), 0, 0)
  rcases Decidable.em (v = 0) with c1 | c1
  · rw [if_pos c1]
    refine Go.of_run (Ev.mono _) 2 _ ?_
    refine ⟨(by decide), ?_⟩
    show Q (some (.int (0 : Int32))) (SH, mkM I J T)
    exact (hyp.1 c1)
  · rw [if_neg c1]
    refine Go.of_run (Ev.mono _) 5 _ ?_
    refine ⟨Nat.le_of_ble_eq_true rfl, ev_X12_notes (hyp.2 c1).1 ?_⟩
    show Go none aM (Ev mt aM (d + 3)) mX12_readsFactor Q (45, [some (.ref 83), none], [], (SH, mkM (si (si I 91 ((I 83 16).toNatClampNeg) (((1048576 : Int32) * (0 : Int32)) + (I 83 19))) 83 16 ((I 83 16) + (1 : Int32))) J T), 0, 0)
    refine Go.of_run (Ev.mono _) 2 _ ?_
    refine ⟨(by decide), ?_⟩
    show Q (some (.int (1 : Int32))) (SH, mkM (si (si I 91 ((I 83 16).toNatClampNeg) (((1048576 : Int32) * (0 : Int32)) + (I 83 19))) 83 16 ((I 83 16) + (1 : Int32))) J T)
    exact (hyp.2 c1).2
set_option maxRecDepth 20000 in
theorem msu_0 {d : Nat} {I : Nat → Nat → Int32} {J : Nat → Nat → Int64} {T : Nat → Nat → Nat} {Q : Option Value → Mem → Prop} (hyp : Ev mt aM (d + 4) 194 [.ref 83] (SH, mkM I J T) (fun r m1 => Go none aM (Ev mt aM (d + 4)) mX12_readsSum Q (9, [some (.ref 83), some (.int (I 83 17)), none], r.toList ++ [], m1, 0, 0))) : Go none aM (Ev mt aM (d + 4)) mX12_readsSum Q (0, [some (.ref 83), none, none], [], (SH, mkM I J T), 0, 0) := by
  refine Go.of_run (Ev.mono _) 5 _ ?_
  refine ⟨Nat.le_of_ble_eq_true rfl, hyp⟩
set_option maxRecDepth 20000 in
theorem msu_9 {d : Nat} {a v : Int32} {I : Nat → Nat → Int32} {J : Nat → Nat → Int64} {T : Nat → Nat → Nat} {Q : Option Value → Mem → Prop} (hyp : ((v = 0 → Q (some (.int (0 : Int32))) (SH, mkM I J T)) ∧ ((¬ (v = 0)) → Go none aM (Ev mt aM (d + 4)) mX12_readsSum Q (14, [some (.ref 83), some (.int a), none], [], (SH, mkM I J T), 0, 0)))) : Go none aM (Ev mt aM (d + 4)) mX12_readsSum Q (9, [some (.ref 83), some (.int a), none], [.int v], (SH, mkM I J T), 0, 0) := by
  refine Go.of_run (Ev.mono _) 1 _ ?_
  show Go none aM (Ev mt aM (d + 4)) mX12_readsSum Q (if v = 0 then 12 else 14, [some (.ref 83), some (.int a), none], [], (SH, mkM I J T), 0, 0)
  rcases Decidable.em (v = 0) with c1 | c1
  · rw [if_pos c1]
    refine Go.of_run (Ev.mono _) 2 _ ?_
    refine ⟨(by decide), ?_⟩
    show Q (some (.int (0 : Int32))) (SH, mkM I J T)
    exact (hyp.1 c1)
  · rw [if_neg c1]
    exact (hyp.2 c1)
set_option maxRecDepth 20000 in
theorem msu_14 {d : Nat} {a : Int32} {I : Nat → Nat → Int32} {J : Nat → Nat → Int64} {T : Nat → Nat → Nat} {Q : Option Value → Mem → Prop} (hyp : (((¬ (I 83 13 ≤ I 83 12)) → vp_in (I 83 12) 220) ∧ ((v_X12_sumSign (v_X12_here I) = (-1 : Int32) → (((¬ (I 83 13 ≤ I 83 12)) → vp_in (I 83 12) 220) ∧ ((v_X12_here I = (93 : Int32) → Ev mt aM (d + 4) 195 [.ref 83, .int a] (SH, mkM I J T) (fun r m1 => Go none aM (Ev mt aM (d + 4)) mX12_readsSum Q (97, [some (.ref 83), some (.int a), some (.int (v_X12_sumSign (v_X12_here I)))], r.toList ++ [], m1, 0, 0))) ∧ ((¬ (v_X12_here I = (93 : Int32))) → Ev mt aM (d + 4) 195 [.ref 83, .int a] (SH, mkM I J T) (fun r m1 => Go none aM (Ev mt aM (d + 4)) mX12_readsSum Q (143, [some (.ref 83), some (.int a), some (.int (v_X12_sumSign (v_X12_here I)))], r.toList ++ [], m1, 0, 0)))))) ∧ ((¬ (v_X12_sumSign (v_X12_here I) = (-1 : Int32))) → (((4 : Int32) ≤ v_X12_sumSign (v_X12_here I) → Ev mt aM (d + 4) 193 [.ref 83, .int (0 : Int32)] (SH, mkM I J T) (fun r m1 => Go none aM (Ev mt aM (d + 4)) mX12_readsSum Q (41, [some (.ref 83), some (.int a), some (.int (v_X12_sumSign (v_X12_here I)))], r.toList ++ [], m1, 0, 0))) ∧ ((¬ ((4 : Int32) ≤ v_X12_sumSign (v_X12_here I))) → Ev mt aM (d + 4) 193 [.ref 83, .int (1 : Int32)] (SH, mkM I J T) (fun r m1 => Go none aM (Ev mt aM (d + 4)) mX12_readsSum Q (41, [some (.ref 83), some (.int a), some (.int (v_X12_sumSign (v_X12_here I)))], r.toList ++ [], m1, 0, 0)))))))) : Go none aM (Ev mt aM (d + 4)) mX12_readsSum Q (14, [some (.ref 83), some (.int a), none], [], (SH, mkM I J T), 0, 0) := by
  refine Go.of_run (Ev.mono _) 2 _ ?_
  refine ⟨Nat.le_of_ble_eq_true rfl, ev_X12_here hyp.1 ?_⟩
  show Go none aM (Ev mt aM (d + 4)) mX12_readsSum Q (18, [some (.ref 83), some (.int a), none], [.int (v_X12_here I)], (SH, mkM I J T), 0, 0)
  refine Go.of_run (Ev.mono _) 1 _ ?_
  refine ⟨Nat.le_of_ble_eq_true rfl, ev_X12_sumSign ?_⟩
  show Go none aM (Ev mt aM (d + 4)) mX12_readsSum Q (21, [some (.ref 83), some (.int a), none], [.int (v_X12_sumSign (v_X12_here I))], (SH, mkM I J T), 0, 0)
  refine Go.of_run (Ev.mono _) 4 _ ?_
  show Go none aM (Ev mt aM (d + 4)) mX12_readsSum Q (if v_X12_sumSign (v_X12_here I) = (-1 : Int32) then 83 else 27, [some (.ref 83), some (.int a), some (.int (v_X12_sumSign (v_X12_here I)))], [], (SH, mkM I J T), 0, 0)
  rcases Decidable.em (v_X12_sumSign (v_X12_here I) = (-1 : Int32)) with c1 | c1
  · rw [if_pos c1]
    refine Go.of_run (Ev.mono _) 2 _ ?_
    refine ⟨Nat.le_of_ble_eq_true rfl, ev_X12_here (hyp.2.1 c1).1 ?_⟩
    show Go none aM (Ev mt aM (d + 4)) mX12_readsSum Q (87, [some (.ref 83), some (.int a), some (.int (v_X12_sumSign (v_X12_here I)))], [.int (v_X12_here I)], (SH, mkM I J T), 0, 0)
    refine Go.of_run (Ev.mono _) 2 _ ?_
    show Go none aM (Ev mt aM (d + 4)) mX12_readsSum Q (if v_X12_here I = (93 : Int32) then 92 else 138, [some (.ref 83), some (.int a), some (.int (v_X12_sumSign (v_X12_here I)))], [], (SH, mkM I J T), 0, 0)
    rcases Decidable.em (v_X12_here I = (93 : Int32)) with c2 | c2
    · rw [if_pos c2]
      refine Go.of_run (Ev.mono _) 3 _ ?_
      refine ⟨Nat.le_of_ble_eq_true rfl, ((hyp.2.1 c1).2.1 c2)⟩
    · rw [if_neg c2]
      refine Go.of_run (Ev.mono _) 3 _ ?_
      refine ⟨Nat.le_of_ble_eq_true rfl, ((hyp.2.1 c1).2.2 c2)⟩
  · rw [if_neg c1]
    refine Go.of_run (Ev.mono _) 4 _ ?_
    show Go none aM (Ev mt aM (d + 4)) mX12_readsSum Q (if (4 : Int32) ≤ v_X12_sumSign (v_X12_here I) then 37 else 33, [some (.ref 83), some (.int a), some (.int (v_X12_sumSign (v_X12_here I)))], [.ref 83], (SH, mkM I J T), 0, 0)
    rcases Decidable.em ((4 : Int32) ≤ v_X12_sumSign (v_X12_here I)) with c3 | c3
    · rw [if_pos c3]
      refine Go.of_run (Ev.mono _) 2 _ ?_
      refine ⟨Nat.le_of_ble_eq_true rfl, ((hyp.2.2 c1).1 c3)⟩
    · rw [if_neg c3]
      refine Go.of_run (Ev.mono _) 3 _ ?_
      refine ⟨Nat.le_of_ble_eq_true rfl, ((hyp.2.2 c1).2 c3)⟩
set_option maxRecDepth 20000 in
theorem msu_41 {d : Nat} {a s : Int32} {I : Nat → Nat → Int32} {J : Nat → Nat → Int64} {T : Nat → Nat → Nat} {Q : Option Value → Mem → Prop} (hyp : (vp_in (I 83 17) 220 ∧ Ev mt aM (d + 4) 194 [.ref 83] (SH, mkM (si (si (si I 92 ((I 83 17).toNatClampNeg) ((1048576 : Int32) * s)) 83 17 ((I 83 17) + (1 : Int32))) 83 12 ((I 83 12) + (1 : Int32))) J T) (fun r m1 => Go none aM (Ev mt aM (d + 4)) mX12_readsSum Q (78, [some (.ref 83), some (.int a), some (.int s)], r.toList ++ [], m1, 0, 0)))) : Go none aM (Ev mt aM (d + 4)) mX12_readsSum Q (41, [some (.ref 83), some (.int a), some (.int s)], [], (SH, mkM I J T), 0, 0) := by
  refine Go.of_run (Ev.mono _) 8 _ ?_
  refine ⟨hyp.1, ?_⟩
  refine go_si rfl ?_
  show Go none aM (Ev mt aM (d + 4)) mX12_readsSum Q (54, [some (.ref 83), some (.int a), some (.int s)], [], (SH, mkM (si I 92 ((I 83 17).toNatClampNeg) ((1048576 : Int32) * s)) J T), 0, 0)
  refine Go.of_run (Ev.mono _) 6 _ ?_
  refine go_si rfl ?_
  show Go none aM (Ev mt aM (d + 4)) mX12_readsSum Q (64, [some (.ref 83), some (.int a), some (.int s)], [], (SH, mkM (si (si I 92 ((I 83 17).toNatClampNeg) ((1048576 : Int32) * s)) 83 17 ((I 83 17) + (1 : Int32))) J T), 0, 0)
  refine Go.of_run (Ev.mono _) 6 _ ?_
  refine go_si rfl ?_
  show Go none aM (Ev mt aM (d + 4)) mX12_readsSum Q (74, [some (.ref 83), some (.int a), some (.int s)], [], (SH, mkM (si (si (si I 92 ((I 83 17).toNatClampNeg) ((1048576 : Int32) * s)) 83 17 ((I 83 17) + (1 : Int32))) 83 12 ((I 83 12) + (1 : Int32))) J T), 0, 0)
  refine Go.of_run (Ev.mono _) 2 _ ?_
  refine ⟨Nat.le_of_ble_eq_true rfl, hyp.2⟩
set_option maxRecDepth 20000 in
theorem msu_78 {d : Nat} {a s v : Int32} {I : Nat → Nat → Int32} {J : Nat → Nat → Int64} {T : Nat → Nat → Nat} {Q : Option Value → Mem → Prop} (hyp : ((v = 0 → Q (some (.int (0 : Int32))) (SH, mkM I J T)) ∧ ((¬ (v = 0)) → Go none aM (Ev mt aM (d + 4)) mX12_readsSum Q (14, [some (.ref 83), some (.int a), none], [], (SH, mkM I J T), 0, 0)))) : Go none aM (Ev mt aM (d + 4)) mX12_readsSum Q (78, [some (.ref 83), some (.int a), some (.int s)], [.int v], (SH, mkM I J T), 0, 0) := by
  refine Go.of_run (Ev.mono _) 1 _ ?_
  show Go none aM (Ev mt aM (d + 4)) mX12_readsSum Q (if v = 0 then 81 else 163, [some (.ref 83), some (.int a), some (.int s)], [], (SH, mkM I J T), 0, 0)
  rcases Decidable.em (v = 0) with c1 | c1
  · rw [if_pos c1]
    refine Go.of_run (Ev.mono _) 2 _ ?_
    refine ⟨(by decide), ?_⟩
    show Q (some (.int (0 : Int32))) (SH, mkM I J T)
    exact (hyp.1 c1)
  · rw [if_neg c1]
    refine Go.of_run (Ev.mono _) 1 _ ?_
    exact Go.weak (Ev.mono _) (LLe.cons (LLe.cons (LLe.drop LLe.nil))) (hyp.2 c1)
set_option maxRecDepth 20000 in
theorem msu_97 {d : Nat} {a s v : Int32} {I : Nat → Nat → Int32} {J : Nat → Nat → Int64} {T : Nat → Nat → Nat} {Q : Option Value → Mem → Prop} (hyp : ((v = 0 → Ev mt aM (d + 4) 195 [.ref 83, .int a] (SH, mkM I J T) (fun r m1 => Go none aM (Ev mt aM (d + 4)) mX12_readsSum Q (143, [some (.ref 83), some (.int a), some (.int s)], r.toList ++ [], m1, 0, 0))) ∧ ((¬ (v = 0)) → Ev mt aM (d + 4) 193 [.ref 83, .int (1 : Int32)] (SH, mkM I J T) (fun r m1 => Go none aM (Ev mt aM (d + 4)) mX12_readsSum Q (105, [some (.ref 83), some (.int a), some (.int s)], r.toList ++ [], m1, 0, 0))))) : Go none aM (Ev mt aM (d + 4)) mX12_readsSum Q (97, [some (.ref 83), some (.int a), some (.int s)], [.int v], (SH, mkM I J T), 0, 0) := by
  refine Go.of_run (Ev.mono _) 1 _ ?_
  show Go none aM (Ev mt aM (d + 4)) mX12_readsSum Q (if v = 0 then 138 else 100, [some (.ref 83), some (.int a), some (.int s)], [], (SH, mkM I J T), 0, 0)
  rcases Decidable.em (v = 0) with c1 | c1
  · rw [if_pos c1]
    refine Go.of_run (Ev.mono _) 3 _ ?_
    refine ⟨Nat.le_of_ble_eq_true rfl, (hyp.1 c1)⟩
  · rw [if_neg c1]
    refine Go.of_run (Ev.mono _) 3 _ ?_
    refine ⟨Nat.le_of_ble_eq_true rfl, (hyp.2 c1)⟩
set_option maxRecDepth 20000 in
theorem msu_105 {d : Nat} {a s : Int32} {I : Nat → Nat → Int32} {J : Nat → Nat → Int64} {T : Nat → Nat → Nat} {Q : Option Value → Mem → Prop} (hyp : Go none aM (Ev mt aM (d + 4)) mX12_readsSum Q (14, [some (.ref 83), some (.int a), none], [], (SH, mkM (si (si (si I 83 17 ((I 83 17) - (1 : Int32))) 83 15 ((I 83 15) - (1 : Int32))) 83 12 ((I 83 12) + (1 : Int32))) J T), 0, 0)) : Go none aM (Ev mt aM (d + 4)) mX12_readsSum Q (105, [some (.ref 83), some (.int a), some (.int s)], [], (SH, mkM I J T), 0, 0) := by
  refine Go.of_run (Ev.mono _) 6 _ ?_
  refine go_si rfl ?_
  show Go none aM (Ev mt aM (d + 4)) mX12_readsSum Q (115, [some (.ref 83), some (.int a), some (.int s)], [], (SH, mkM (si I 83 17 ((I 83 17) - (1 : Int32))) J T), 0, 0)
  refine Go.of_run (Ev.mono _) 6 _ ?_
  refine go_si rfl ?_
  show Go none aM (Ev mt aM (d + 4)) mX12_readsSum Q (125, [some (.ref 83), some (.int a), some (.int s)], [], (SH, mkM (si (si I 83 17 ((I 83 17) - (1 : Int32))) 83 15 ((I 83 15) - (1 : Int32))) J T), 0, 0)
  refine Go.of_run (Ev.mono _) 6 _ ?_
  refine go_si rfl ?_
  show Go none aM (Ev mt aM (d + 4)) mX12_readsSum Q (135, [some (.ref 83), some (.int a), some (.int s)], [], (SH, mkM (si (si (si I 83 17 ((I 83 17) - (1 : Int32))) 83 15 ((I 83 15) - (1 : Int32))) 83 12 ((I 83 12) + (1 : Int32))) J T), 0, 0)
  refine Go.of_run (Ev.mono _) 2 _ ?_
  exact Go.weak (Ev.mono _) (LLe.cons (LLe.cons (LLe.drop LLe.nil))) hyp
set_option maxRecDepth 20000 in
theorem msu_143 {d : Nat} {a s v : Int32} {I : Nat → Nat → Int32} {J : Nat → Nat → Int64} {T : Nat → Nat → Nat} {Q : Option Value → Mem → Prop} (hyp : ((v = 0 → Ev mt aM (d + 4) 193 [.ref 83, .int (1 : Int32)] (SH, mkM I J T) (fun r m1 => Go none aM (Ev mt aM (d + 4)) mX12_readsSum Q (161, [some (.ref 83), some (.int a), some (.int s)], r.toList ++ [], m1, 0, 0))) ∧ ((¬ (v = 0)) → Q (some (.int (0 : Int32))) (SH, mkM (si I 83 14 (((-1000 : Int32) * (1 : Int32)) - (I 83 12))) J T)))) : Go none aM (Ev mt aM (d + 4)) mX12_readsSum Q (143, [some (.ref 83), some (.int a), some (.int s)], [.int v], (SH, mkM I J T), 0, 0) := by
  refine Go.of_run (Ev.mono _) 1 _ ?_
  show Go none aM (Ev mt aM (d + 4)) mX12_readsSum Q (if v = 0 then 156 else 146, [some (.ref 83), some (.int a), some (.int s)], [], (SH, mkM I J T), 0, 0)
  rcases Decidable.em (v = 0) with c1 | c1
  · rw [if_pos c1]
    refine Go.of_run (Ev.mono _) 3 _ ?_
    refine ⟨Nat.le_of_ble_eq_true rfl, (hyp.1 c1)⟩
  · rw [if_neg c1]
    refine Go.of_run (Ev.mono _) 5 _ ?_
    refine ⟨Nat.le_of_ble_eq_true rfl, ev_X12_wrongAt ?_⟩
    show Go none aM (Ev mt aM (d + 4)) mX12_readsSum Q (155, [some (.ref 83), some (.int a), some (.int s)], [.int (0 : Int32)], (SH, mkM (si I 83 14 (((-1000 : Int32) * (1 : Int32)) - (I 83 12))) J T), 0, 0)
    refine Go.of_run (Ev.mono _) 1 _ ?_
    refine ⟨(by decide), ?_⟩
    show Q (some (.int (0 : Int32))) (SH, mkM (si I 83 14 (((-1000 : Int32) * (1 : Int32)) - (I 83 12))) J T)
    exact (hyp.2 c1)
set_option maxRecDepth 20000 in
theorem msu_161 {d : Nat} {a s : Int32} {I : Nat → Nat → Int32} {J : Nat → Nat → Int64} {T : Nat → Nat → Nat} {Q : Option Value → Mem → Prop} (hyp : Q (some (.int (1 : Int32))) (SH, mkM I J T)) : Go none aM (Ev mt aM (d + 4)) mX12_readsSum Q (161, [some (.ref 83), some (.int a), some (.int s)], [], (SH, mkM I J T), 0, 0) := by
  refine Go.of_run (Ev.mono _) 2 _ ?_
  refine ⟨(by decide), ?_⟩
  show Q (some (.int (1 : Int32))) (SH, mkM I J T)
  exact hyp
set_option maxRecDepth 20000 in
theorem mcp_0 {d : Nat} {I : Nat → Nat → Int32} {J : Nat → Nat → Int64} {T : Nat → Nat → Nat} {Q : Option Value → Mem → Prop} (hyp : Ev mt aM (d + 5) 196 [.ref 83] (SH, mkM I J T) (fun r m1 => Go none aM (Ev mt aM (d + 5)) mX12_readsCompared Q (4, [some (.ref 83), none], r.toList ++ [], m1, 0, 0))) : Go none aM (Ev mt aM (d + 5)) mX12_readsCompared Q (0, [some (.ref 83), none], [], (SH, mkM I J T), 0, 0) := by
  refine Go.of_run (Ev.mono _) 2 _ ?_
  refine ⟨Nat.le_of_ble_eq_true rfl, hyp⟩
def w1_mcp_4 (I : Nat → Nat → Int32) : Int32 := if v_X12_here I = (61 : Int32) then (9 : Int32) else (-1 : Int32)
def w2_mcp_4 (I : Nat → Nat → Int32) : Int32 := if v_X12_here I = (62 : Int32) then (8 : Int32) else w1_mcp_4 I
def w3_mcp_4 (I : Nat → Nat → Int32) : Int32 := if v_X12_here I = (60 : Int32) then (7 : Int32) else w2_mcp_4 I
set_option maxRecDepth 20000 in
theorem mcp_4 {d : Nat} {v : Int32} {I : Nat → Nat → Int32} {J : Nat → Nat → Int64} {T : Nat → Nat → Nat} {Q : Option Value → Mem → Prop} (hyp : ((v = 0 → Q (some (.int (0 : Int32))) (SH, mkM I J T)) ∧ ((¬ (v = 0)) → (((¬ (I 83 13 ≤ I 83 12)) → vp_in (I 83 12) 220) ∧ (((¬ (v_X12_here I = (60 : Int32))) → (((¬ (I 83 13 ≤ I 83 12)) → vp_in (I 83 12) 220) ∧ ((¬ (v_X12_here I = (62 : Int32))) → ((¬ (I 83 13 ≤ I 83 12)) → vp_in (I 83 12) 220)))) ∧ ((w3_mcp_4 I = (-1 : Int32) → Q (some (.int (0 : Int32))) (SH, mkM (si I 83 14 (((-1000 : Int32) * (1 : Int32)) - (I 83 12))) J T)) ∧ ((¬ (w3_mcp_4 I = (-1 : Int32))) → Ev mt aM (d + 5) 196 [.ref 83] (SH, mkM (si I 83 12 ((I 83 12) + (1 : Int32))) J T) (fun r m1 => Go none aM (Ev mt aM (d + 5)) mX12_readsCompared Q (82, [some (.ref 83), some (.int (w3_mcp_4 I))], r.toList ++ [], m1, 0, 0))))))))) : Go none aM (Ev mt aM (d + 5)) mX12_readsCompared Q (4, [some (.ref 83), none], [.int v], (SH, mkM I J T), 0, 0) := by
  refine Go.of_run (Ev.mono _) 1 _ ?_
  show Go none aM (Ev mt aM (d + 5)) mX12_readsCompared Q (if v = 0 then 7 else 9, [some (.ref 83), none], [], (SH, mkM I J T), 0, 0)
  rcases Decidable.em (v = 0) with c1 | c1
  · rw [if_pos c1]
    refine Go.of_run (Ev.mono _) 2 _ ?_
    refine ⟨(by decide), ?_⟩
    show Q (some (.int (0 : Int32))) (SH, mkM I J T)
    exact (hyp.1 c1)
  · rw [if_neg c1]
    refine Go.of_run (Ev.mono _) 2 _ ?_
    refine ⟨Nat.le_of_ble_eq_true rfl, ev_X12_here (hyp.2 c1).1 ?_⟩
    show Go none aM (Ev mt aM (d + 5)) mX12_readsCompared Q (13, [some (.ref 83), none], [.int (v_X12_here I)], (SH, mkM I J T), 0, 0)
    refine Go.of_run (Ev.mono _) 2 _ ?_
    show Go none aM (Ev mt aM (d + 5)) mX12_readsCompared Q (if v_X12_here I = (60 : Int32) then 18 else 23, [some (.ref 83), none], [], (SH, mkM I J T), 0, 0)
    have G3 : Go none aM (Ev mt aM (d + 5)) mX12_readsCompared Q (52, [some (.ref 83), none], [.int (w3_mcp_4 I)], (SH, mkM I J T), 0, 0) := by
      refine Go.of_run (Ev.mono _) 4 _ ?_
      show Go none aM (Ev mt aM (d + 5)) mX12_readsCompared Q (if w3_mcp_4 I = (-1 : Int32) then 58 else 68, [some (.ref 83), some (.int (w3_mcp_4 I))], [], (SH, mkM I J T), 0, 0)
      rcases Decidable.em (w3_mcp_4 I = (-1 : Int32)) with c4 | c4
      · rw [if_pos c4]
        refine Go.of_run (Ev.mono _) 5 _ ?_
        refine ⟨Nat.le_of_ble_eq_true rfl, ev_X12_wrongAt ?_⟩
        show Go none aM (Ev mt aM (d + 5)) mX12_readsCompared Q (67, [some (.ref 83), some (.int (w3_mcp_4 I))], [.int (0 : Int32)], (SH, mkM (si I 83 14 (((-1000 : Int32) * (1 : Int32)) - (I 83 12))) J T), 0, 0)
        refine Go.of_run (Ev.mono _) 1 _ ?_
        refine ⟨(by decide), ?_⟩
        show Q (some (.int (0 : Int32))) (SH, mkM (si I 83 14 (((-1000 : Int32) * (1 : Int32)) - (I 83 12))) J T)
        exact ((hyp.2 c1).2.2.1 c4)
      · rw [if_neg c4]
        refine Go.of_run (Ev.mono _) 6 _ ?_
        refine go_si rfl ?_
        show Go none aM (Ev mt aM (d + 5)) mX12_readsCompared Q (78, [some (.ref 83), some (.int (w3_mcp_4 I))], [], (SH, mkM (si I 83 12 ((I 83 12) + (1 : Int32))) J T), 0, 0)
        refine Go.of_run (Ev.mono _) 2 _ ?_
        refine ⟨Nat.le_of_ble_eq_true rfl, ((hyp.2 c1).2.2.2 c4)⟩
    rcases Decidable.em (v_X12_here I = (60 : Int32)) with c2 | c2
    · rw [if_pos c2]
      refine Go.of_run (Ev.mono _) 2 _ ?_
      have e5 : (w3_mcp_4 I) = (7 : Int32) := if_pos c2
      rw [e5] at G3
      exact G3
    · rw [if_neg c2]
      refine Go.of_run (Ev.mono _) 2 _ ?_
      refine ⟨Nat.le_of_ble_eq_true rfl, ev_X12_here ((hyp.2 c1).2.1 c2).1 ?_⟩
      show Go none aM (Ev mt aM (d + 5)) mX12_readsCompared Q (27, [some (.ref 83), none], [.int (v_X12_here I)], (SH, mkM I J T), 0, 0)
      refine Go.of_run (Ev.mono _) 2 _ ?_
      show Go none aM (Ev mt aM (d + 5)) mX12_readsCompared Q (if v_X12_here I = (62 : Int32) then 32 else 37, [some (.ref 83), none], [], (SH, mkM I J T), 0, 0)
      have G7 : Go none aM (Ev mt aM (d + 5)) mX12_readsCompared Q (52, [some (.ref 83), none], [.int (w2_mcp_4 I)], (SH, mkM I J T), 0, 0) := by
        have e8 : (w3_mcp_4 I) = w2_mcp_4 I := if_neg c2
        rw [e8] at G3
        exact G3
      rcases Decidable.em (v_X12_here I = (62 : Int32)) with c6 | c6
      · rw [if_pos c6]
        refine Go.of_run (Ev.mono _) 2 _ ?_
        have e9 : (w2_mcp_4 I) = (8 : Int32) := if_pos c6
        rw [e9] at G7
        exact G7
      · rw [if_neg c6]
        refine Go.of_run (Ev.mono _) 2 _ ?_
        refine ⟨Nat.le_of_ble_eq_true rfl, ev_X12_here (((hyp.2 c1).2.1 c2).2 c6) ?_⟩
        show Go none aM (Ev mt aM (d + 5)) mX12_readsCompared Q (41, [some (.ref 83), none], [.int (v_X12_here I)], (SH, mkM I J T), 0, 0)
        refine Go.of_run (Ev.mono _) 2 _ ?_
        show Go none aM (Ev mt aM (d + 5)) mX12_readsCompared Q (if v_X12_here I = (61 : Int32) then 46 else 51, [some (.ref 83), none], [], (SH, mkM I J T), 0, 0)
        have G11 : Go none aM (Ev mt aM (d + 5)) mX12_readsCompared Q (52, [some (.ref 83), none], [.int (w1_mcp_4 I)], (SH, mkM I J T), 0, 0) := by
          have e12 : (w2_mcp_4 I) = w1_mcp_4 I := if_neg c6
          rw [e12] at G7
          exact G7
        rcases Decidable.em (v_X12_here I = (61 : Int32)) with c10 | c10
        · rw [if_pos c10]
          refine Go.of_run (Ev.mono _) 2 _ ?_
          have e13 : (w1_mcp_4 I) = (9 : Int32) := if_pos c10
          rw [e13] at G11
          exact G11
        · rw [if_neg c10]
          refine Go.of_run (Ev.mono _) 1 _ ?_
          have e14 : (w1_mcp_4 I) = (-1 : Int32) := if_neg c10
          rw [e14] at G11
          exact G11
set_option maxRecDepth 20000 in
theorem mcp_82 {d : Nat} {q v : Int32} {I : Nat → Nat → Int32} {J : Nat → Nat → Int64} {T : Nat → Nat → Nat} {Q : Option Value → Mem → Prop} (hyp : ((v = 0 → Q (some (.int (0 : Int32))) (SH, mkM I J T)) ∧ ((¬ (v = 0)) → (vp_in (I 83 16) 220 ∧ Ev mt aM (d + 5) 197 [.ref 83] (SH, mkM (si (si I 91 ((I 83 16).toNatClampNeg) (((1048576 : Int32) * q) + (0 : Int32))) 83 16 ((I 83 16) + (1 : Int32))) J T) (fun r m1 => Go none aM (Ev mt aM (d + 5)) mX12_readsCompared Q (97, [some (.ref 83), some (.int q)], r.toList ++ [], m1, 0, 0)))))) : Go none aM (Ev mt aM (d + 5)) mX12_readsCompared Q (82, [some (.ref 83), some (.int q)], [.int v], (SH, mkM I J T), 0, 0) := by
  refine Go.of_run (Ev.mono _) 1 _ ?_
  show Go none aM (Ev mt aM (d + 5)) mX12_readsCompared Q (if v = 0 then 85 else 87, [some (.ref 83), some (.int q)], [], (SH, mkM I J T), 0, 0)
  rcases Decidable.em (v = 0) with c1 | c1
  · rw [if_pos c1]
    refine Go.of_run (Ev.mono _) 2 _ ?_
    refine ⟨(by decide), ?_⟩
    show Q (some (.int (0 : Int32))) (SH, mkM I J T)
    exact (hyp.1 c1)
  · rw [if_neg c1]
    refine Go.of_run (Ev.mono _) 4 _ ?_
    refine ⟨Nat.le_of_ble_eq_true rfl, ev_X12_notes (hyp.2 c1).1 ?_⟩
    show Go none aM (Ev mt aM (d + 5)) mX12_readsCompared Q (93, [some (.ref 83), some (.int q)], [], (SH, mkM (si (si I 91 ((I 83 16).toNatClampNeg) (((1048576 : Int32) * q) + (0 : Int32))) 83 16 ((I 83 16) + (1 : Int32))) J T), 0, 0)
    refine Go.of_run (Ev.mono _) 2 _ ?_
    refine ⟨Nat.le_of_ble_eq_true rfl, (hyp.2 c1).2⟩
set_option maxRecDepth 20000 in
theorem mcp_97 {d : Nat} {q : Int32} {I : Nat → Nat → Int32} {J : Nat → Nat → Int64} {T : Nat → Nat → Nat} {Q : Option Value → Mem → Prop} (hyp : Q (some (.int (1 : Int32))) (SH, mkM I J T)) : Go none aM (Ev mt aM (d + 5)) mX12_readsCompared Q (97, [some (.ref 83), some (.int q)], [], (SH, mkM I J T), 0, 0) := by
  refine Go.of_run (Ev.mono _) 2 _ ?_
  refine ⟨(by decide), ?_⟩
  show Q (some (.int (1 : Int32))) (SH, mkM I J T)
  exact hyp
set_option maxRecDepth 20000 in
theorem mcn_0 {d : Nat} {I : Nat → Nat → Int32} {J : Nat → Nat → Int64} {T : Nat → Nat → Nat} {Q : Option Value → Mem → Prop} (hyp : (((¬ (I 83 13 ≤ I 83 12)) → vp_in (I 83 12) 220) ∧ ((v_X12_here I = (40 : Int32) → Ev mt aM (d + 6) 189 [.ref 83, .int (13 : Int32)] (SH, mkM (si (si I 83 15 (0 : Int32)) 83 17 (0 : Int32)) J T) (fun r m1 => Go none aM (Ev mt aM (d + 6)) mX12_readsCondition Q (35, [some (.ref 83)], r.toList ++ [], m1, 0, 0))) ∧ ((¬ (v_X12_here I = (40 : Int32))) → Q (some (.int (0 : Int32))) (SH, mkM (si I 83 14 (((-1000 : Int32) * (1 : Int32)) - (I 83 12))) J T))))) : Go none aM (Ev mt aM (d + 6)) mX12_readsCondition Q (0, [some (.ref 83)], [], (SH, mkM I J T), 0, 0) := by
  refine Go.of_run (Ev.mono _) 2 _ ?_
  refine ⟨Nat.le_of_ble_eq_true rfl, ev_X12_here hyp.1 ?_⟩
  show Go none aM (Ev mt aM (d + 6)) mX12_readsCondition Q (4, [some (.ref 83)], [.int (v_X12_here I)], (SH, mkM I J T), 0, 0)
  refine Go.of_run (Ev.mono _) 2 _ ?_
  show Go none aM (Ev mt aM (d + 6)) mX12_readsCondition Q (if v_X12_here I = (40 : Int32) then 19 else 9, [some (.ref 83)], [], (SH, mkM I J T), 0, 0)
  rcases Decidable.em (v_X12_here I = (40 : Int32)) with c1 | c1
  · rw [if_pos c1]
    refine Go.of_run (Ev.mono _) 3 _ ?_
    refine go_si rfl ?_
    show Go none aM (Ev mt aM (d + 6)) mX12_readsCondition Q (24, [some (.ref 83)], [], (SH, mkM (si I 83 15 (0 : Int32)) J T), 0, 0)
    refine Go.of_run (Ev.mono _) 3 _ ?_
    refine go_si rfl ?_
    show Go none aM (Ev mt aM (d + 6)) mX12_readsCondition Q (29, [some (.ref 83)], [], (SH, mkM (si (si I 83 15 (0 : Int32)) 83 17 (0 : Int32)) J T), 0, 0)
    refine Go.of_run (Ev.mono _) 3 _ ?_
    refine ⟨Nat.le_of_ble_eq_true rfl, (hyp.2.1 c1)⟩
  · rw [if_neg c1]
    refine Go.of_run (Ev.mono _) 5 _ ?_
    refine ⟨Nat.le_of_ble_eq_true rfl, ev_X12_wrongAt ?_⟩
    show Go none aM (Ev mt aM (d + 6)) mX12_readsCondition Q (18, [some (.ref 83)], [.int (0 : Int32)], (SH, mkM (si I 83 14 (((-1000 : Int32) * (1 : Int32)) - (I 83 12))) J T), 0, 0)
    refine Go.of_run (Ev.mono _) 1 _ ?_
    refine ⟨(by decide), ?_⟩
    show Q (some (.int (0 : Int32))) (SH, mkM (si I 83 14 (((-1000 : Int32) * (1 : Int32)) - (I 83 12))) J T)
    exact (hyp.2.2 c1)
set_option maxRecDepth 20000 in
theorem mcn_35 {d : Nat} {v : Int32} {I : Nat → Nat → Int32} {J : Nat → Nat → Int64} {T : Nat → Nat → Nat} {Q : Option Value → Mem → Prop} (hyp : ((v = 0 → Q (some (.int (0 : Int32))) (SH, mkM I J T)) ∧ ((¬ (v = 0)) → Go none aM (Ev mt aM (d + 6)) mX12_readsCondition Q (40, [some (.ref 83)], [], (SH, mkM I J T), 0, 0)))) : Go none aM (Ev mt aM (d + 6)) mX12_readsCondition Q (35, [some (.ref 83)], [.int v], (SH, mkM I J T), 0, 0) := by
  refine Go.of_run (Ev.mono _) 1 _ ?_
  show Go none aM (Ev mt aM (d + 6)) mX12_readsCondition Q (if v = 0 then 38 else 40, [some (.ref 83)], [], (SH, mkM I J T), 0, 0)
  rcases Decidable.em (v = 0) with c1 | c1
  · rw [if_pos c1]
    refine Go.of_run (Ev.mono _) 2 _ ?_
    refine ⟨(by decide), ?_⟩
    show Q (some (.int (0 : Int32))) (SH, mkM I J T)
    exact (hyp.1 c1)
  · rw [if_neg c1]
    exact (hyp.2 c1)
set_option maxRecDepth 20000 in
theorem mcn_40 {d : Nat} {I : Nat → Nat → Int32} {J : Nat → Nat → Int64} {T : Nat → Nat → Nat} {Q : Option Value → Mem → Prop} (hyp : (((¬ (I 83 13 ≤ I 83 12)) → vp_in (I 83 12) 220) ∧ ((v_X12_here I = (33 : Int32) → (((¬ (I 83 13 ≤ I 83 12)) → vp_in (I 83 12) 220) ∧ ((v_X12_here I = (33 : Int32) → Ev mt aM (d + 6) 189 [.ref 83, .int (10 : Int32)] (SH, mkM I J T) (fun r m1 => Go none aM (Ev mt aM (d + 6)) mX12_readsCondition Q (78, [some (.ref 83)], r.toList ++ [], m1, 0, 0))) ∧ ((¬ (v_X12_here I = (33 : Int32))) → Ev mt aM (d + 6) 189 [.ref 83, .int (13 : Int32)] (SH, mkM I J T) (fun r m1 => Go none aM (Ev mt aM (d + 6)) mX12_readsCondition Q (78, [some (.ref 83)], r.toList ++ [], m1, 0, 0)))))) ∧ ((¬ (v_X12_here I = (33 : Int32))) → (((¬ (I 83 13 ≤ I 83 12)) → vp_in (I 83 12) 220) ∧ ((v_X12_here I = (40 : Int32) → (((¬ (I 83 13 ≤ I 83 12)) → vp_in (I 83 12) 220) ∧ ((v_X12_here I = (33 : Int32) → Ev mt aM (d + 6) 189 [.ref 83, .int (10 : Int32)] (SH, mkM I J T) (fun r m1 => Go none aM (Ev mt aM (d + 6)) mX12_readsCondition Q (78, [some (.ref 83)], r.toList ++ [], m1, 0, 0))) ∧ ((¬ (v_X12_here I = (33 : Int32))) → Ev mt aM (d + 6) 189 [.ref 83, .int (13 : Int32)] (SH, mkM I J T) (fun r m1 => Go none aM (Ev mt aM (d + 6)) mX12_readsCondition Q (78, [some (.ref 83)], r.toList ++ [], m1, 0, 0)))))) ∧ ((¬ (v_X12_here I = (40 : Int32))) → Ev mt aM (d + 6) 200 [.ref 83] (SH, mkM I J T) (fun r m1 => Go none aM (Ev mt aM (d + 6)) mX12_readsCondition Q (87, [some (.ref 83)], r.toList ++ [], m1, 0, 0))))))))) : Go none aM (Ev mt aM (d + 6)) mX12_readsCondition Q (40, [some (.ref 83)], [], (SH, mkM I J T), 0, 0) := by
  refine Go.of_run (Ev.mono _) 2 _ ?_
  refine ⟨Nat.le_of_ble_eq_true rfl, ev_X12_here hyp.1 ?_⟩
  show Go none aM (Ev mt aM (d + 6)) mX12_readsCondition Q (44, [some (.ref 83)], [.int (v_X12_here I)], (SH, mkM I J T), 0, 0)
  refine Go.of_run (Ev.mono _) 2 _ ?_
  show Go none aM (Ev mt aM (d + 6)) mX12_readsCondition Q (if v_X12_here I = (33 : Int32) then 58 else 49, [some (.ref 83)], [], (SH, mkM I J T), 0, 0)
  rcases Decidable.em (v_X12_here I = (33 : Int32)) with c1 | c1
  · rw [if_pos c1]
    refine Go.of_run (Ev.mono _) 3 _ ?_
    refine ⟨Nat.le_of_ble_eq_true rfl, ev_X12_here (hyp.2.1 c1).1 ?_⟩
    show Go none aM (Ev mt aM (d + 6)) mX12_readsCondition Q (63, [some (.ref 83)], [.int (v_X12_here I), .ref 83], (SH, mkM I J T), 0, 0)
    refine Go.of_run (Ev.mono _) 2 _ ?_
    show Go none aM (Ev mt aM (d + 6)) mX12_readsCondition Q (if v_X12_here I = (33 : Int32) then 68 else 73, [some (.ref 83)], [.ref 83], (SH, mkM I J T), 0, 0)
    rcases Decidable.em (v_X12_here I = (33 : Int32)) with c2 | c2
    · rw [if_pos c2]
      refine Go.of_run (Ev.mono _) 3 _ ?_
      refine ⟨Nat.le_of_ble_eq_true rfl, ((hyp.2.1 c1).2.1 c2)⟩
    · rw [if_neg c2]
      refine Go.of_run (Ev.mono _) 2 _ ?_
      refine ⟨Nat.le_of_ble_eq_true rfl, ((hyp.2.1 c1).2.2 c2)⟩
  · rw [if_neg c1]
    refine Go.of_run (Ev.mono _) 2 _ ?_
    refine ⟨Nat.le_of_ble_eq_true rfl, ev_X12_here (hyp.2.2 c1).1 ?_⟩
    show Go none aM (Ev mt aM (d + 6)) mX12_readsCondition Q (53, [some (.ref 83)], [.int (v_X12_here I)], (SH, mkM I J T), 0, 0)
    refine Go.of_run (Ev.mono _) 2 _ ?_
    show Go none aM (Ev mt aM (d + 6)) mX12_readsCondition Q (if v_X12_here I = (40 : Int32) then 58 else 83, [some (.ref 83)], [], (SH, mkM I J T), 0, 0)
    rcases Decidable.em (v_X12_here I = (40 : Int32)) with c3 | c3
    · rw [if_pos c3]
      refine Go.of_run (Ev.mono _) 3 _ ?_
      refine ⟨Nat.le_of_ble_eq_true rfl, ev_X12_here ((hyp.2.2 c1).2.1 c3).1 ?_⟩
      show Go none aM (Ev mt aM (d + 6)) mX12_readsCondition Q (63, [some (.ref 83)], [.int (v_X12_here I), .ref 83], (SH, mkM I J T), 0, 0)
      refine Go.of_run (Ev.mono _) 2 _ ?_
      show Go none aM (Ev mt aM (d + 6)) mX12_readsCondition Q (if v_X12_here I = (33 : Int32) then 68 else 73, [some (.ref 83)], [.ref 83], (SH, mkM I J T), 0, 0)
      rcases Decidable.em (v_X12_here I = (33 : Int32)) with c4 | c4
      · rw [if_pos c4]
        refine Go.of_run (Ev.mono _) 3 _ ?_
        refine ⟨Nat.le_of_ble_eq_true rfl, (((hyp.2.2 c1).2.1 c3).2.1 c4)⟩
      · rw [if_neg c4]
        refine Go.of_run (Ev.mono _) 2 _ ?_
        refine ⟨Nat.le_of_ble_eq_true rfl, (((hyp.2.2 c1).2.1 c3).2.2 c4)⟩
    · rw [if_neg c3]
      refine Go.of_run (Ev.mono _) 2 _ ?_
      refine ⟨Nat.le_of_ble_eq_true rfl, ((hyp.2.2 c1).2.2 c3)⟩
set_option maxRecDepth 20000 in
theorem mcn_78 {d : Nat} {v : Int32} {I : Nat → Nat → Int32} {J : Nat → Nat → Int64} {T : Nat → Nat → Nat} {Q : Option Value → Mem → Prop} (hyp : ((v = 0 → Q (some (.int (0 : Int32))) (SH, mkM I J T)) ∧ ((¬ (v = 0)) → Go none aM (Ev mt aM (d + 6)) mX12_readsCondition Q (40, [some (.ref 83)], [], (SH, mkM I J T), 0, 0)))) : Go none aM (Ev mt aM (d + 6)) mX12_readsCondition Q (78, [some (.ref 83)], [.int v], (SH, mkM I J T), 0, 0) := by
  refine Go.of_run (Ev.mono _) 1 _ ?_
  show Go none aM (Ev mt aM (d + 6)) mX12_readsCondition Q (if v = 0 then 81 else 40, [some (.ref 83)], [], (SH, mkM I J T), 0, 0)
  rcases Decidable.em (v = 0) with c1 | c1
  · rw [if_pos c1]
    refine Go.of_run (Ev.mono _) 2 _ ?_
    refine ⟨(by decide), ?_⟩
    show Q (some (.int (0 : Int32))) (SH, mkM I J T)
    exact (hyp.1 c1)
  · rw [if_neg c1]
    exact (hyp.2 c1)
set_option maxRecDepth 20000 in
theorem mcn_87 {d : Nat} {v : Int32} {I : Nat → Nat → Int32} {J : Nat → Nat → Int64} {T : Nat → Nat → Nat} {Q : Option Value → Mem → Prop} (hyp : ((v = 0 → Q (some (.int (0 : Int32))) (SH, mkM I J T)) ∧ ((¬ (v = 0)) → Go none aM (Ev mt aM (d + 6)) mX12_readsCondition Q (92, [some (.ref 83)], [], (SH, mkM I J T), 0, 0)))) : Go none aM (Ev mt aM (d + 6)) mX12_readsCondition Q (87, [some (.ref 83)], [.int v], (SH, mkM I J T), 0, 0) := by
  refine Go.of_run (Ev.mono _) 1 _ ?_
  show Go none aM (Ev mt aM (d + 6)) mX12_readsCondition Q (if v = 0 then 90 else 92, [some (.ref 83)], [], (SH, mkM I J T), 0, 0)
  rcases Decidable.em (v = 0) with c1 | c1
  · rw [if_pos c1]
    refine Go.of_run (Ev.mono _) 2 _ ?_
    refine ⟨(by decide), ?_⟩
    show Q (some (.int (0 : Int32))) (SH, mkM I J T)
    exact (hyp.1 c1)
  · rw [if_neg c1]
    exact (hyp.2 c1)
set_option maxRecDepth 20000 in
theorem mcn_92 {d : Nat} {I : Nat → Nat → Int32} {J : Nat → Nat → Int64} {T : Nat → Nat → Nat} {Q : Option Value → Mem → Prop} (hyp : (((¬ (I 83 13 ≤ I 83 12)) → vp_in (I 83 12) 220) ∧ ((v_X12_here I = (41 : Int32) → Ev mt aM (d + 6) 198 [.ref 83, .int (1 : Int32)] (SH, mkM I J T) (fun r m1 => Go none aM (Ev mt aM (d + 6)) mX12_readsCondition Q (106, [some (.ref 83)], r.toList ++ [], m1, 0, 0))) ∧ ((¬ (v_X12_here I = (41 : Int32))) → (((¬ (I 83 13 ≤ I 83 12)) → vp_in (I 83 12) 220) ∧ ((v_X12_here I = (38 : Int32) → (((¬ (I 83 13 ≤ I 83 12)) → vp_in (I 83 12) 220) ∧ ((v_X12_here I = (124 : Int32) → Ev mt aM (d + 6) 198 [.ref 83, .int (1 : Int32)] (SH, mkM I J T) (fun r m1 => Go none aM (Ev mt aM (d + 6)) mX12_readsCondition Q (198, [some (.ref 83)], r.toList ++ [], m1, 0, 0))) ∧ ((¬ (v_X12_here I = (124 : Int32))) → Ev mt aM (d + 6) 198 [.ref 83, .int (0 : Int32)] (SH, mkM I J T) (fun r m1 => Go none aM (Ev mt aM (d + 6)) mX12_readsCondition Q (198, [some (.ref 83)], r.toList ++ [], m1, 0, 0)))))) ∧ ((¬ (v_X12_here I = (38 : Int32))) → (((¬ (I 83 13 ≤ I 83 12)) → vp_in (I 83 12) 220) ∧ ((v_X12_here I = (124 : Int32) → (((¬ (I 83 13 ≤ I 83 12)) → vp_in (I 83 12) 220) ∧ ((v_X12_here I = (124 : Int32) → Ev mt aM (d + 6) 198 [.ref 83, .int (1 : Int32)] (SH, mkM I J T) (fun r m1 => Go none aM (Ev mt aM (d + 6)) mX12_readsCondition Q (198, [some (.ref 83)], r.toList ++ [], m1, 0, 0))) ∧ ((¬ (v_X12_here I = (124 : Int32))) → Ev mt aM (d + 6) 198 [.ref 83, .int (0 : Int32)] (SH, mkM I J T) (fun r m1 => Go none aM (Ev mt aM (d + 6)) mX12_readsCondition Q (198, [some (.ref 83)], r.toList ++ [], m1, 0, 0)))))) ∧ ((¬ (v_X12_here I = (124 : Int32))) → Q (some (.int (0 : Int32))) (SH, mkM (si I 83 14 (((-1000 : Int32) * (1 : Int32)) - (I 83 12))) J T))))))))))) : Go none aM (Ev mt aM (d + 6)) mX12_readsCondition Q (92, [some (.ref 83)], [], (SH, mkM I J T), 0, 0) := by
  refine Go.of_run (Ev.mono _) 2 _ ?_
  refine ⟨Nat.le_of_ble_eq_true rfl, ev_X12_here hyp.1 ?_⟩
  show Go none aM (Ev mt aM (d + 6)) mX12_readsCondition Q (96, [some (.ref 83)], [.int (v_X12_here I)], (SH, mkM I J T), 0, 0)
  refine Go.of_run (Ev.mono _) 2 _ ?_
  show Go none aM (Ev mt aM (d + 6)) mX12_readsCondition Q (if v_X12_here I = (41 : Int32) then 101 else 152, [some (.ref 83)], [], (SH, mkM I J T), 0, 0)
  rcases Decidable.em (v_X12_here I = (41 : Int32)) with c1 | c1
  · rw [if_pos c1]
    refine Go.of_run (Ev.mono _) 3 _ ?_
    refine ⟨Nat.le_of_ble_eq_true rfl, (hyp.2.1 c1)⟩
  · rw [if_neg c1]
    refine Go.of_run (Ev.mono _) 2 _ ?_
    refine ⟨Nat.le_of_ble_eq_true rfl, ev_X12_here (hyp.2.2 c1).1 ?_⟩
    show Go none aM (Ev mt aM (d + 6)) mX12_readsCondition Q (156, [some (.ref 83)], [.int (v_X12_here I)], (SH, mkM I J T), 0, 0)
    refine Go.of_run (Ev.mono _) 2 _ ?_
    show Go none aM (Ev mt aM (d + 6)) mX12_readsCondition Q (if v_X12_here I = (38 : Int32) then 180 else 161, [some (.ref 83)], [], (SH, mkM I J T), 0, 0)
    rcases Decidable.em (v_X12_here I = (38 : Int32)) with c2 | c2
    · rw [if_pos c2]
      refine Go.of_run (Ev.mono _) 3 _ ?_
      refine ⟨Nat.le_of_ble_eq_true rfl, ev_X12_here ((hyp.2.2 c1).2.1 c2).1 ?_⟩
      show Go none aM (Ev mt aM (d + 6)) mX12_readsCondition Q (185, [some (.ref 83)], [.int (v_X12_here I), .ref 83], (SH, mkM I J T), 0, 0)
      refine Go.of_run (Ev.mono _) 2 _ ?_
      show Go none aM (Ev mt aM (d + 6)) mX12_readsCondition Q (if v_X12_here I = (124 : Int32) then 190 else 194, [some (.ref 83)], [.ref 83], (SH, mkM I J T), 0, 0)
      rcases Decidable.em (v_X12_here I = (124 : Int32)) with c3 | c3
      · rw [if_pos c3]
        refine Go.of_run (Ev.mono _) 3 _ ?_
        refine ⟨Nat.le_of_ble_eq_true rfl, (((hyp.2.2 c1).2.1 c2).2.1 c3)⟩
      · rw [if_neg c3]
        refine Go.of_run (Ev.mono _) 2 _ ?_
        refine ⟨Nat.le_of_ble_eq_true rfl, (((hyp.2.2 c1).2.1 c2).2.2 c3)⟩
    · rw [if_neg c2]
      refine Go.of_run (Ev.mono _) 2 _ ?_
      refine ⟨Nat.le_of_ble_eq_true rfl, ev_X12_here ((hyp.2.2 c1).2.2 c2).1 ?_⟩
      show Go none aM (Ev mt aM (d + 6)) mX12_readsCondition Q (165, [some (.ref 83)], [.int (v_X12_here I)], (SH, mkM I J T), 0, 0)
      refine Go.of_run (Ev.mono _) 2 _ ?_
      show Go none aM (Ev mt aM (d + 6)) mX12_readsCondition Q (if v_X12_here I = (124 : Int32) then 180 else 170, [some (.ref 83)], [], (SH, mkM I J T), 0, 0)
      rcases Decidable.em (v_X12_here I = (124 : Int32)) with c4 | c4
      · rw [if_pos c4]
        refine Go.of_run (Ev.mono _) 3 _ ?_
        refine ⟨Nat.le_of_ble_eq_true rfl, ev_X12_here (((hyp.2.2 c1).2.2 c2).2.1 c4).1 ?_⟩
        show Go none aM (Ev mt aM (d + 6)) mX12_readsCondition Q (185, [some (.ref 83)], [.int (v_X12_here I), .ref 83], (SH, mkM I J T), 0, 0)
        refine Go.of_run (Ev.mono _) 2 _ ?_
        show Go none aM (Ev mt aM (d + 6)) mX12_readsCondition Q (if v_X12_here I = (124 : Int32) then 190 else 194, [some (.ref 83)], [.ref 83], (SH, mkM I J T), 0, 0)
        rcases Decidable.em (v_X12_here I = (124 : Int32)) with c5 | c5
        · rw [if_pos c5]
          refine Go.of_run (Ev.mono _) 3 _ ?_
          refine ⟨Nat.le_of_ble_eq_true rfl, ((((hyp.2.2 c1).2.2 c2).2.1 c4).2.1 c5)⟩
        · rw [if_neg c5]
          refine Go.of_run (Ev.mono _) 2 _ ?_
          refine ⟨Nat.le_of_ble_eq_true rfl, ((((hyp.2.2 c1).2.2 c2).2.1 c4).2.2 c5)⟩
      · rw [if_neg c4]
        refine Go.of_run (Ev.mono _) 5 _ ?_
        refine ⟨Nat.le_of_ble_eq_true rfl, ev_X12_wrongAt ?_⟩
        show Go none aM (Ev mt aM (d + 6)) mX12_readsCondition Q (179, [some (.ref 83)], [.int (0 : Int32)], (SH, mkM (si I 83 14 (((-1000 : Int32) * (1 : Int32)) - (I 83 12))) J T), 0, 0)
        refine Go.of_run (Ev.mono _) 1 _ ?_
        refine ⟨(by decide), ?_⟩
        show Q (some (.int (0 : Int32))) (SH, mkM (si I 83 14 (((-1000 : Int32) * (1 : Int32)) - (I 83 12))) J T)
        exact (((hyp.2.2 c1).2.2 c2).2.2 c4)
set_option maxRecDepth 20000 in
theorem mcn_106 {d : Nat} {I : Nat → Nat → Int32} {J : Nat → Nat → Int64} {T : Nat → Nat → Nat} {Q : Option Value → Mem → Prop} (hyp : (((I 83 17) - (1 : Int32) = 0 → Q (some (.int (1 : Int32))) (SH, mkM (si (si (si I 83 17 ((I 83 17) - (1 : Int32))) 83 15 ((I 83 15) - (1 : Int32))) 83 12 ((I 83 12) + (1 : Int32))) J T)) ∧ ((¬ ((I 83 17) - (1 : Int32) = 0)) → Ev mt aM (d + 6) 197 [.ref 83] (SH, mkM (si (si (si I 83 17 ((I 83 17) - (1 : Int32))) 83 15 ((I 83 15) - (1 : Int32))) 83 12 ((I 83 12) + (1 : Int32))) J T) (fun r m1 => Go none aM (Ev mt aM (d + 6)) mX12_readsCondition Q (149, [some (.ref 83)], r.toList ++ [], m1, 0, 0))))) : Go none aM (Ev mt aM (d + 6)) mX12_readsCondition Q (106, [some (.ref 83)], [], (SH, mkM I J T), 0, 0) := by
  refine Go.of_run (Ev.mono _) 6 _ ?_
  refine go_si rfl ?_
  show Go none aM (Ev mt aM (d + 6)) mX12_readsCondition Q (116, [some (.ref 83)], [], (SH, mkM (si I 83 17 ((I 83 17) - (1 : Int32))) J T), 0, 0)
  refine Go.of_run (Ev.mono _) 6 _ ?_
  refine go_si rfl ?_
  show Go none aM (Ev mt aM (d + 6)) mX12_readsCondition Q (126, [some (.ref 83)], [], (SH, mkM (si (si I 83 17 ((I 83 17) - (1 : Int32))) 83 15 ((I 83 15) - (1 : Int32))) J T), 0, 0)
  refine Go.of_run (Ev.mono _) 6 _ ?_
  refine go_si rfl ?_
  show Go none aM (Ev mt aM (d + 6)) mX12_readsCondition Q (136, [some (.ref 83)], [], (SH, mkM (si (si (si I 83 17 ((I 83 17) - (1 : Int32))) 83 15 ((I 83 15) - (1 : Int32))) 83 12 ((I 83 12) + (1 : Int32))) J T), 0, 0)
  refine Go.of_run (Ev.mono _) 3 _ ?_
  show Go none aM (Ev mt aM (d + 6)) mX12_readsCondition Q (if (I 83 17) - (1 : Int32) = 0 then 143 else 145, [some (.ref 83)], [], (SH, mkM (si (si (si I 83 17 ((I 83 17) - (1 : Int32))) 83 15 ((I 83 15) - (1 : Int32))) 83 12 ((I 83 12) + (1 : Int32))) J T), 0, 0)
  rcases Decidable.em ((I 83 17) - (1 : Int32) = 0) with c1 | c1
  · rw [if_pos c1]
    refine Go.of_run (Ev.mono _) 2 _ ?_
    refine ⟨(by decide), ?_⟩
    show Q (some (.int (1 : Int32))) (SH, mkM (si (si (si I 83 17 ((I 83 17) - (1 : Int32))) 83 15 ((I 83 15) - (1 : Int32))) 83 12 ((I 83 12) + (1 : Int32))) J T)
    exact (hyp.1 c1)
  · rw [if_neg c1]
    refine Go.of_run (Ev.mono _) 2 _ ?_
    refine ⟨Nat.le_of_ble_eq_true rfl, (hyp.2 c1)⟩
set_option maxRecDepth 20000 in
theorem mcn_149 {d : Nat} {I : Nat → Nat → Int32} {J : Nat → Nat → Int64} {T : Nat → Nat → Nat} {Q : Option Value → Mem → Prop} (hyp : Go none aM (Ev mt aM (d + 6)) mX12_readsCondition Q (92, [some (.ref 83)], [], (SH, mkM I J T), 0, 0)) : Go none aM (Ev mt aM (d + 6)) mX12_readsCondition Q (149, [some (.ref 83)], [], (SH, mkM I J T), 0, 0) := by
  refine Go.of_run (Ev.mono _) 1 _ ?_
  exact hyp
set_option maxRecDepth 20000 in
theorem mcn_198 {d : Nat} {I : Nat → Nat → Int32} {J : Nat → Nat → Int64} {T : Nat → Nat → Nat} {Q : Option Value → Mem → Prop} (hyp : (((¬ (I 83 13 ≤ I 83 12)) → vp_in (I 83 12) 220) ∧ ((v_X12_here I = (38 : Int32) → (vp_in (I 83 17) 220 ∧ (vp_in ((si (si I 92 ((I 83 17).toNatClampNeg) (((1048576 : Int32) * (11 : Int32)) + (I 83 16))) 83 17 ((I 83 17) + (1 : Int32))) 83 16) 220 ∧ Go none aM (Ev mt aM (d + 6)) mX12_readsCondition Q (40, [some (.ref 83)], [], (SH, mkM (i_X12_jumps (11 : Int32) I) J T), 0, 0)))) ∧ ((¬ (v_X12_here I = (38 : Int32))) → (vp_in (I 83 17) 220 ∧ (vp_in ((si (si I 92 ((I 83 17).toNatClampNeg) (((1048576 : Int32) * (12 : Int32)) + (I 83 16))) 83 17 ((I 83 17) + (1 : Int32))) 83 16) 220 ∧ Go none aM (Ev mt aM (d + 6)) mX12_readsCondition Q (40, [some (.ref 83)], [], (SH, mkM (i_X12_jumps (12 : Int32) I) J T), 0, 0))))))) : Go none aM (Ev mt aM (d + 6)) mX12_readsCondition Q (198, [some (.ref 83)], [], (SH, mkM I J T), 0, 0) := by
  refine Go.of_run (Ev.mono _) 3 _ ?_
  refine ⟨Nat.le_of_ble_eq_true rfl, ev_X12_here hyp.1 ?_⟩
  show Go none aM (Ev mt aM (d + 6)) mX12_readsCondition Q (203, [some (.ref 83)], [.int (v_X12_here I), .ref 83], (SH, mkM I J T), 0, 0)
  refine Go.of_run (Ev.mono _) 2 _ ?_
  show Go none aM (Ev mt aM (d + 6)) mX12_readsCondition Q (if v_X12_here I = (38 : Int32) then 208 else 213, [some (.ref 83)], [.ref 83], (SH, mkM I J T), 0, 0)
  rcases Decidable.em (v_X12_here I = (38 : Int32)) with c1 | c1
  · rw [if_pos c1]
    refine Go.of_run (Ev.mono _) 3 _ ?_
    refine ⟨Nat.le_of_ble_eq_true rfl, ev_X12_jumps ⟨(hyp.2.1 c1).1, (hyp.2.1 c1).2.1⟩ ?_⟩
    show Go none aM (Ev mt aM (d + 6)) mX12_readsCondition Q (218, [some (.ref 83)], [], (SH, mkM (i_X12_jumps (11 : Int32) I) J T), 0, 0)
    refine Go.of_run (Ev.mono _) 1 _ ?_
    exact (hyp.2.1 c1).2.2
  · rw [if_neg c1]
    refine Go.of_run (Ev.mono _) 2 _ ?_
    refine ⟨Nat.le_of_ble_eq_true rfl, ev_X12_jumps ⟨(hyp.2.2 c1).1, (hyp.2.2 c1).2.1⟩ ?_⟩
    show Go none aM (Ev mt aM (d + 6)) mX12_readsCondition Q (218, [some (.ref 83)], [], (SH, mkM (i_X12_jumps (12 : Int32) I) J T), 0, 0)
    refine Go.of_run (Ev.mono _) 1 _ ?_
    exact (hyp.2.2 c1).2.2
set_option maxRecDepth 20000 in
theorem mcl_0 {d : Nat} {x : Int32} {I : Nat → Nat → Int32} {J : Nat → Nat → Int64} {T : Nat → Nat → Nat} {Q : Option Value → Mem → Prop} (hyp : (((¬ (I 83 13 ≤ I 83 12)) → vp_in (I 83 12) 220) ∧ ((v_X12_canBegin x (v_X12_here I) = 0 → Q (some (.int (0 : Int32))) (SH, mkM (si I 83 14 (((-1000 : Int32) * (1 : Int32)) - (I 83 12))) J T)) ∧ ((¬ (v_X12_canBegin x (v_X12_here I) = 0)) → ((I 83 18 = (14 : Int32) → Q (some (.int (0 : Int32))) (SH, mkM (si I 83 14 (((-1000 : Int32) * (4 : Int32)) - (I 83 12))) J T)) ∧ ((¬ (I 83 18 = (14 : Int32))) → (vp_in (I 83 18) 14 ∧ (vp_in (I 83 18) 14 ∧ Ev mt aM (d + 7) 196 [.ref 83] (SH, mkM (si (si (si (si (si I 93 ((I 83 18).toNatClampNeg) (v_X12_here I)) 83 12 ((I 83 12) + (1 : Int32))) 94 ((I 83 18).toNatClampNeg) (I 83 16)) 83 15 (0 : Int32)) 83 17 (0 : Int32)) J T) (fun r m1 => Go none aM (Ev mt aM (d + 7)) mX12_readsClause Q (89, [some (.ref 83), some (.int x), some (.int (v_X12_here I))], r.toList ++ [], m1, 0, 0)))))))))) : Go none aM (Ev mt aM (d + 7)) mX12_readsClause Q (0, [some (.ref 83), some (.int x), none], [], (SH, mkM I J T), 0, 0) := by
  refine Go.of_run (Ev.mono _) 2 _ ?_
  refine ⟨Nat.le_of_ble_eq_true rfl, ev_X12_here hyp.1 ?_⟩
  show Go none aM (Ev mt aM (d + 7)) mX12_readsClause Q (4, [some (.ref 83), some (.int x), none], [.int (v_X12_here I)], (SH, mkM I J T), 0, 0)
  refine Go.of_run (Ev.mono _) 4 _ ?_
  refine ⟨Nat.le_of_ble_eq_true rfl, ev_X12_canBegin ?_⟩
  show Go none aM (Ev mt aM (d + 7)) mX12_readsClause Q (10, [some (.ref 83), some (.int x), some (.int (v_X12_here I))], [.int (v_X12_canBegin x (v_X12_here I))], (SH, mkM I J T), 0, 0)
  refine Go.of_run (Ev.mono _) 1 _ ?_
  show Go none aM (Ev mt aM (d + 7)) mX12_readsClause Q (if v_X12_canBegin x (v_X12_here I) = 0 then 13 else 23, [some (.ref 83), some (.int x), some (.int (v_X12_here I))], [], (SH, mkM I J T), 0, 0)
  rcases Decidable.em (v_X12_canBegin x (v_X12_here I) = 0) with c1 | c1
  · rw [if_pos c1]
    refine Go.of_run (Ev.mono _) 5 _ ?_
    refine ⟨Nat.le_of_ble_eq_true rfl, ev_X12_wrongAt ?_⟩
    show Go none aM (Ev mt aM (d + 7)) mX12_readsClause Q (22, [some (.ref 83), some (.int x), some (.int (v_X12_here I))], [.int (0 : Int32)], (SH, mkM (si I 83 14 (((-1000 : Int32) * (1 : Int32)) - (I 83 12))) J T), 0, 0)
    refine Go.of_run (Ev.mono _) 1 _ ?_
    refine ⟨(by decide), ?_⟩
    show Q (some (.int (0 : Int32))) (SH, mkM (si I 83 14 (((-1000 : Int32) * (1 : Int32)) - (I 83 12))) J T)
    exact (hyp.2.1 c1)
  · rw [if_neg c1]
    refine Go.of_run (Ev.mono _) 4 _ ?_
    show Go none aM (Ev mt aM (d + 7)) mX12_readsClause Q (if I 83 18 = (14 : Int32) then 32 else 42, [some (.ref 83), some (.int x), some (.int (v_X12_here I))], [], (SH, mkM I J T), 0, 0)
    rcases Decidable.em (I 83 18 = (14 : Int32)) with c2 | c2
    · rw [if_pos c2]
      refine Go.of_run (Ev.mono _) 5 _ ?_
      refine ⟨Nat.le_of_ble_eq_true rfl, ev_X12_wrongAt ?_⟩
      show Go none aM (Ev mt aM (d + 7)) mX12_readsClause Q (41, [some (.ref 83), some (.int x), some (.int (v_X12_here I))], [.int (0 : Int32)], (SH, mkM (si I 83 14 (((-1000 : Int32) * (4 : Int32)) - (I 83 12))) J T), 0, 0)
      refine Go.of_run (Ev.mono _) 1 _ ?_
      refine ⟨(by decide), ?_⟩
      show Q (some (.int (0 : Int32))) (SH, mkM (si I 83 14 (((-1000 : Int32) * (4 : Int32)) - (I 83 12))) J T)
      exact ((hyp.2.2 c1).1 c2)
    · rw [if_neg c2]
      refine Go.of_run (Ev.mono _) 6 _ ?_
      refine ⟨((hyp.2.2 c1).2 c2).1, ?_⟩
      refine go_si rfl ?_
      show Go none aM (Ev mt aM (d + 7)) mX12_readsClause Q (52, [some (.ref 83), some (.int x), some (.int (v_X12_here I))], [], (SH, mkM (si I 93 ((I 83 18).toNatClampNeg) (v_X12_here I)) J T), 0, 0)
      refine Go.of_run (Ev.mono _) 6 _ ?_
      refine go_si rfl ?_
      show Go none aM (Ev mt aM (d + 7)) mX12_readsClause Q (62, [some (.ref 83), some (.int x), some (.int (v_X12_here I))], [], (SH, mkM (si (si I 93 ((I 83 18).toNatClampNeg) (v_X12_here I)) 83 12 ((I 83 12) + (1 : Int32))) J T), 0, 0)
      refine Go.of_run (Ev.mono _) 7 _ ?_
      refine ⟨((hyp.2.2 c1).2 c2).2.1, ?_⟩
      refine go_si rfl ?_
      show Go none aM (Ev mt aM (d + 7)) mX12_readsClause Q (75, [some (.ref 83), some (.int x), some (.int (v_X12_here I))], [], (SH, mkM (si (si (si I 93 ((I 83 18).toNatClampNeg) (v_X12_here I)) 83 12 ((I 83 12) + (1 : Int32))) 94 ((I 83 18).toNatClampNeg) (I 83 16)) J T), 0, 0)
      refine Go.of_run (Ev.mono _) 3 _ ?_
      refine go_si rfl ?_
      show Go none aM (Ev mt aM (d + 7)) mX12_readsClause Q (80, [some (.ref 83), some (.int x), some (.int (v_X12_here I))], [], (SH, mkM (si (si (si (si I 93 ((I 83 18).toNatClampNeg) (v_X12_here I)) 83 12 ((I 83 12) + (1 : Int32))) 94 ((I 83 18).toNatClampNeg) (I 83 16)) 83 15 (0 : Int32)) J T), 0, 0)
      refine Go.of_run (Ev.mono _) 3 _ ?_
      refine go_si rfl ?_
      show Go none aM (Ev mt aM (d + 7)) mX12_readsClause Q (85, [some (.ref 83), some (.int x), some (.int (v_X12_here I))], [], (SH, mkM (si (si (si (si (si I 93 ((I 83 18).toNatClampNeg) (v_X12_here I)) 83 12 ((I 83 12) + (1 : Int32))) 94 ((I 83 18).toNatClampNeg) (I 83 16)) 83 15 (0 : Int32)) 83 17 (0 : Int32)) J T), 0, 0)
      refine Go.of_run (Ev.mono _) 2 _ ?_
      refine ⟨Nat.le_of_ble_eq_true rfl, ((hyp.2.2 c1).2 c2).2.2⟩
set_option maxRecDepth 20000 in
theorem mcl_89 {d : Nat} {x c v : Int32} {I : Nat → Nat → Int32} {J : Nat → Nat → Int64} {T : Nat → Nat → Nat} {Q : Option Value → Mem → Prop} (hyp : ((v = 0 → Q (some (.int (0 : Int32))) (SH, mkM I J T)) ∧ ((¬ (v = 0)) → (vp_in (I 83 18) 14 ∧ Ev mt aM (d + 7) 201 [.ref 83] (SH, mkM (si I 95 ((I 83 18).toNatClampNeg) (I 83 16)) J T) (fun r m1 => Go none aM (Ev mt aM (d + 7)) mX12_readsClause Q (111, [some (.ref 83), some (.int x), some (.int c)], r.toList ++ [], m1, 0, 0)))))) : Go none aM (Ev mt aM (d + 7)) mX12_readsClause Q (89, [some (.ref 83), some (.int x), some (.int c)], [.int v], (SH, mkM I J T), 0, 0) := by
  refine Go.of_run (Ev.mono _) 1 _ ?_
  show Go none aM (Ev mt aM (d + 7)) mX12_readsClause Q (if v = 0 then 92 else 94, [some (.ref 83), some (.int x), some (.int c)], [], (SH, mkM I J T), 0, 0)
  rcases Decidable.em (v = 0) with c1 | c1
  · rw [if_pos c1]
    refine Go.of_run (Ev.mono _) 2 _ ?_
    refine ⟨(by decide), ?_⟩
    show Q (some (.int (0 : Int32))) (SH, mkM I J T)
    exact (hyp.1 c1)
  · rw [if_neg c1]
    refine Go.of_run (Ev.mono _) 7 _ ?_
    refine ⟨(hyp.2 c1).1, ?_⟩
    refine go_si rfl ?_
    show Go none aM (Ev mt aM (d + 7)) mX12_readsClause Q (107, [some (.ref 83), some (.int x), some (.int c)], [], (SH, mkM (si I 95 ((I 83 18).toNatClampNeg) (I 83 16)) J T), 0, 0)
    refine Go.of_run (Ev.mono _) 2 _ ?_
    refine ⟨Nat.le_of_ble_eq_true rfl, (hyp.2 c1).2⟩
set_option maxRecDepth 20000 in
theorem mcl_111 {d : Nat} {x c v : Int32} {I : Nat → Nat → Int32} {J : Nat → Nat → Int64} {T : Nat → Nat → Nat} {Q : Option Value → Mem → Prop} (hyp : ((v = 0 → Q (some (.int (0 : Int32))) (SH, mkM I J T)) ∧ ((¬ (v = 0)) → (vp_in (I 83 18) 14 ∧ Q (some (.int (1 : Int32))) (SH, mkM (si (si I 96 ((I 83 18).toNatClampNeg) (I 83 16)) 83 18 ((I 83 18) + (1 : Int32))) J T))))) : Go none aM (Ev mt aM (d + 7)) mX12_readsClause Q (111, [some (.ref 83), some (.int x), some (.int c)], [.int v], (SH, mkM I J T), 0, 0) := by
  refine Go.of_run (Ev.mono _) 1 _ ?_
  show Go none aM (Ev mt aM (d + 7)) mX12_readsClause Q (if v = 0 then 114 else 116, [some (.ref 83), some (.int x), some (.int c)], [], (SH, mkM I J T), 0, 0)
  rcases Decidable.em (v = 0) with c1 | c1
  · rw [if_pos c1]
    refine Go.of_run (Ev.mono _) 2 _ ?_
    refine ⟨(by decide), ?_⟩
    show Q (some (.int (0 : Int32))) (SH, mkM I J T)
    exact (hyp.1 c1)
  · rw [if_neg c1]
    refine Go.of_run (Ev.mono _) 7 _ ?_
    refine ⟨(hyp.2 c1).1, ?_⟩
    refine go_si rfl ?_
    show Go none aM (Ev mt aM (d + 7)) mX12_readsClause Q (129, [some (.ref 83), some (.int x), some (.int c)], [], (SH, mkM (si I 96 ((I 83 18).toNatClampNeg) (I 83 16)) J T), 0, 0)
    refine Go.of_run (Ev.mono _) 6 _ ?_
    refine go_si rfl ?_
    show Go none aM (Ev mt aM (d + 7)) mX12_readsClause Q (139, [some (.ref 83), some (.int x), some (.int c)], [], (SH, mkM (si (si I 96 ((I 83 18).toNatClampNeg) (I 83 16)) 83 18 ((I 83 18) + (1 : Int32))) J T), 0, 0)
    refine Go.of_run (Ev.mono _) 2 _ ?_
    refine ⟨(by decide), ?_⟩
    show Q (some (.int (1 : Int32))) (SH, mkM (si (si I 96 ((I 83 18).toNatClampNeg) (I 83 16)) 83 18 ((I 83 18) + (1 : Int32))) J T)
    exact (hyp.2 c1).2
set_option maxRecDepth 20000 in
theorem mrd_0 {d : Nat} {x n : Int32} {I : Nat → Nat → Int32} {J : Nat → Nat → Int64} {T : Nat → Nat → Nat} {Q : Option Value → Mem → Prop} (hyp : ((v_X12_in n (1 : Int32) (200 : Int32) = 0 → Q (some (.int (-1 : Int32))) (SH, mkM I J T)) ∧ ((¬ (v_X12_in n (1 : Int32) (200 : Int32) = 0)) → ((n ≤ I 83 11 → Ev mt aM (d + 8) 203 [.ref 83, .int x] (SH, mkM (si (si (si (si I 83 12 (0 : Int32)) 83 13 n) 83 16 (0 : Int32)) 83 18 (0 : Int32)) J T) (fun r m1 => Go none aM (Ev mt aM (d + 8)) mX12_reads Q (46, [some (.ref 83), some (.int x), some (.int n), none, none, none], r.toList ++ [], m1, 0, 0))) ∧ ((¬ (n ≤ I 83 11)) → Q (some (.int (-1 : Int32))) (SH, mkM I J T)))))) : Go none aM (Ev mt aM (d + 8)) mX12_reads Q (0, [some (.ref 83), some (.int x), some (.int n), none, none, none], [], (SH, mkM I J T), 0, 0) := by
  refine Go.of_run (Ev.mono _) 4 _ ?_
  refine ⟨Nat.le_of_ble_eq_true rfl, ev_X12_in ?_⟩
  show Go none aM (Ev mt aM (d + 8)) mX12_reads Q (8, [some (.ref 83), some (.int x), some (.int n), none, none, none], [.int (v_X12_in n (1 : Int32) (200 : Int32))], (SH, mkM I J T), 0, 0)
  refine Go.of_run (Ev.mono _) 1 _ ?_
  show Go none aM (Ev mt aM (d + 8)) mX12_reads Q (if v_X12_in n (1 : Int32) (200 : Int32) = 0 then 19 else 11, [some (.ref 83), some (.int x), some (.int n), none, none, none], [], (SH, mkM I J T), 0, 0)
  rcases Decidable.em (v_X12_in n (1 : Int32) (200 : Int32) = 0) with c1 | c1
  · rw [if_pos c1]
    refine Go.of_run (Ev.mono _) 2 _ ?_
    refine ⟨trivial, ?_⟩
    show Q (some (.int (-1 : Int32))) (SH, mkM I J T)
    exact (hyp.1 c1)
  · rw [if_neg c1]
    refine Go.of_run (Ev.mono _) 4 _ ?_
    show Go none aM (Ev mt aM (d + 8)) mX12_reads Q (if n ≤ I 83 11 then 21 else 19, [some (.ref 83), some (.int x), some (.int n), none, none, none], [], (SH, mkM I J T), 0, 0)
    rcases Decidable.em (n ≤ I 83 11) with c2 | c2
    · rw [if_pos c2]
      refine Go.of_run (Ev.mono _) 3 _ ?_
      refine go_si rfl ?_
      show Go none aM (Ev mt aM (d + 8)) mX12_reads Q (26, [some (.ref 83), some (.int x), some (.int n), none, none, none], [], (SH, mkM (si I 83 12 (0 : Int32)) J T), 0, 0)
      refine Go.of_run (Ev.mono _) 3 _ ?_
      refine go_si rfl ?_
      show Go none aM (Ev mt aM (d + 8)) mX12_reads Q (31, [some (.ref 83), some (.int x), some (.int n), none, none, none], [], (SH, mkM (si (si I 83 12 (0 : Int32)) 83 13 n) J T), 0, 0)
      refine Go.of_run (Ev.mono _) 3 _ ?_
      refine go_si rfl ?_
      show Go none aM (Ev mt aM (d + 8)) mX12_reads Q (36, [some (.ref 83), some (.int x), some (.int n), none, none, none], [], (SH, mkM (si (si (si I 83 12 (0 : Int32)) 83 13 n) 83 16 (0 : Int32)) J T), 0, 0)
      refine Go.of_run (Ev.mono _) 3 _ ?_
      refine go_si rfl ?_
      show Go none aM (Ev mt aM (d + 8)) mX12_reads Q (41, [some (.ref 83), some (.int x), some (.int n), none, none, none], [], (SH, mkM (si (si (si (si I 83 12 (0 : Int32)) 83 13 n) 83 16 (0 : Int32)) 83 18 (0 : Int32)) J T), 0, 0)
      refine Go.of_run (Ev.mono _) 3 _ ?_
      refine ⟨Nat.le_of_ble_eq_true rfl, ((hyp.2 c1).1 c2)⟩
    · rw [if_neg c2]
      refine Go.of_run (Ev.mono _) 2 _ ?_
      refine ⟨trivial, ?_⟩
      show Q (some (.int (-1 : Int32))) (SH, mkM I J T)
      exact ((hyp.2 c1).2 c2)
set_option maxRecDepth 20000 in
theorem mrd_46 {d : Nat} {x n v : Int32} {I : Nat → Nat → Int32} {J : Nat → Nat → Int64} {T : Nat → Nat → Nat} {Q : Option Value → Mem → Prop} (hyp : Go none aM (Ev mt aM (d + 8)) mX12_reads Q (47, [some (.ref 83), some (.int x), none, some (.int v), none, none], [], (SH, mkM I J T), 0, 0)) : Go none aM (Ev mt aM (d + 8)) mX12_reads Q (46, [some (.ref 83), some (.int x), some (.int n), none, none, none], [.int v], (SH, mkM I J T), 0, 0) := by
  refine Go.of_run (Ev.mono _) 1 _ ?_
  exact Go.weak (Ev.mono _) (LLe.cons (LLe.cons (LLe.drop (LLe.cons (LLe.cons (LLe.cons LLe.nil)))))) hyp
set_option maxRecDepth 20000 in
theorem mrd_47 {d : Nat} {x g : Int32} {I : Nat → Nat → Int32} {J : Nat → Nat → Int64} {T : Nat → Nat → Nat} {Q : Option Value → Mem → Prop} (hyp : ((g = 0 → Go none aM (Ev mt aM (d + 8)) mX12_reads Q (88, [some (.ref 83), some (.int x), none, some (.int g), none, none], [], (SH, mkM I J T), 0, 0)) ∧ ((¬ (g = 0)) → ((I 83 13 ≤ I 83 12 → Go none aM (Ev mt aM (d + 8)) mX12_reads Q (88, [some (.ref 83), some (.int x), none, some (.int g), none, none], [], (SH, mkM I J T), 0, 0)) ∧ ((¬ (I 83 13 ≤ I 83 12)) → (((¬ (I 83 13 ≤ I 83 12)) → vp_in (I 83 12) 220) ∧ ((v_X12_takes (59 : Int32) I = 0 → Go none aM (Ev mt aM (d + 8)) mX12_reads Q (47, [some (.ref 83), some (.int x), none, some (.int (0 : Int32)), none, none], [], (SH, mkM (w2_X12_takes (59 : Int32) I) J T), 0, 0)) ∧ ((¬ (v_X12_takes (59 : Int32) I = 0)) → Ev mt aM (d + 8) 203 [.ref 83, .int x] (SH, mkM (w2_X12_takes (59 : Int32) I) J T) (fun r m1 => Go none aM (Ev mt aM (d + 8)) mX12_reads Q (76, [some (.ref 83), some (.int x), none, some (.int g), none, none], r.toList ++ [], m1, 0, 0)))))))))) : Go none aM (Ev mt aM (d + 8)) mX12_reads Q (47, [some (.ref 83), some (.int x), none, some (.int g), none, none], [], (SH, mkM I J T), 0, 0) := by
  refine Go.of_run (Ev.mono _) 2 _ ?_
  show Go none aM (Ev mt aM (d + 8)) mX12_reads Q (if g = 0 then 88 else 51, [some (.ref 83), some (.int x), none, some (.int g), none, none], [], (SH, mkM I J T), 0, 0)
  rcases Decidable.em (g = 0) with c1 | c1
  · rw [if_pos c1]
    exact (hyp.1 c1)
  · rw [if_neg c1]
    refine Go.of_run (Ev.mono _) 5 _ ?_
    show Go none aM (Ev mt aM (d + 8)) mX12_reads Q (if I 83 13 ≤ I 83 12 then 88 else 62, [some (.ref 83), some (.int x), none, some (.int g), none, none], [], (SH, mkM I J T), 0, 0)
    rcases Decidable.em (I 83 13 ≤ I 83 12) with c2 | c2
    · rw [if_pos c2]
      exact ((hyp.2 c1).1 c2)
    · rw [if_neg c2]
      refine Go.of_run (Ev.mono _) 3 _ ?_
      refine ⟨Nat.le_of_ble_eq_true rfl, ev_X12_takes ((hyp.2 c1).2 c2).1 ?_⟩
      show Go none aM (Ev mt aM (d + 8)) mX12_reads Q (68, [some (.ref 83), some (.int x), none, some (.int g), none, none], [.int (v_X12_takes (59 : Int32) I)], (SH, mkM (w2_X12_takes (59 : Int32) I) J T), 0, 0)
      refine Go.of_run (Ev.mono _) 1 _ ?_
      show Go none aM (Ev mt aM (d + 8)) mX12_reads Q (if v_X12_takes (59 : Int32) I = 0 then 83 else 71, [some (.ref 83), some (.int x), none, some (.int g), none, none], [], (SH, mkM (w2_X12_takes (59 : Int32) I) J T), 0, 0)
      rcases Decidable.em (v_X12_takes (59 : Int32) I = 0) with c3 | c3
      · rw [if_pos c3]
        refine Go.of_run (Ev.mono _) 3 _ ?_
        exact (((hyp.2 c1).2 c2).2.1 c3)
      · rw [if_neg c3]
        refine Go.of_run (Ev.mono _) 3 _ ?_
        refine ⟨Nat.le_of_ble_eq_true rfl, (((hyp.2 c1).2 c2).2.2 c3)⟩
set_option maxRecDepth 20000 in
theorem mrd_76 {d : Nat} {x g v : Int32} {I : Nat → Nat → Int32} {J : Nat → Nat → Int64} {T : Nat → Nat → Nat} {Q : Option Value → Mem → Prop} (hyp : ((v = 0 → Go none aM (Ev mt aM (d + 8)) mX12_reads Q (47, [some (.ref 83), some (.int x), none, some (.int (0 : Int32)), none, none], [], (SH, mkM I J T), 0, 0)) ∧ ((¬ (v = 0)) → Go none aM (Ev mt aM (d + 8)) mX12_reads Q (47, [some (.ref 83), some (.int x), none, some (.int (1 : Int32)), none, none], [], (SH, mkM I J T), 0, 0)))) : Go none aM (Ev mt aM (d + 8)) mX12_reads Q (76, [some (.ref 83), some (.int x), none, some (.int g), none, none], [.int v], (SH, mkM I J T), 0, 0) := by
  refine Go.of_run (Ev.mono _) 1 _ ?_
  show Go none aM (Ev mt aM (d + 8)) mX12_reads Q (if v = 0 then 83 else 79, [some (.ref 83), some (.int x), none, some (.int g), none, none], [], (SH, mkM I J T), 0, 0)
  rcases Decidable.em (v = 0) with c1 | c1
  · rw [if_pos c1]
    refine Go.of_run (Ev.mono _) 3 _ ?_
    exact (hyp.1 c1)
  · rw [if_neg c1]
    refine Go.of_run (Ev.mono _) 4 _ ?_
    exact (hyp.2 c1)
set_option maxRecDepth 20000 in
theorem mrd_88 {d : Nat} {x g : Int32} {I : Nat → Nat → Int32} {J : Nat → Nat → Int64} {T : Nat → Nat → Nat} {Q : Option Value → Mem → Prop} (hyp : ((g = 0 → Q (some (.int (I 83 14))) (SH, mkM (si I 83 11 (0 : Int32)) J T)) ∧ ((¬ (g = 0)) → (vp_in x 8 ∧ Go none aM (Ev mt aM (d + 8)) mX12_reads Q (115, [some (.ref 83), some (.int x), none, none, some (.int (0 : Int32)), none], [], (SH, mkM (si (si I 83 11 (0 : Int32)) 98 x.toNatClampNeg (I 83 18)) J T), 0, 0))))) : Go none aM (Ev mt aM (d + 8)) mX12_reads Q (88, [some (.ref 83), some (.int x), none, some (.int g), none, none], [], (SH, mkM I J T), 0, 0) := by
  refine Go.of_run (Ev.mono _) 3 _ ?_
  refine go_si rfl ?_
  show Go none aM (Ev mt aM (d + 8)) mX12_reads Q (93, [some (.ref 83), some (.int x), none, some (.int g), none, none], [], (SH, mkM (si I 83 11 (0 : Int32)) J T), 0, 0)
  refine Go.of_run (Ev.mono _) 2 _ ?_
  show Go none aM (Ev mt aM (d + 8)) mX12_reads Q (if g = 0 then 97 else 102, [some (.ref 83), some (.int x), none, some (.int g), none, none], [], (SH, mkM (si I 83 11 (0 : Int32)) J T), 0, 0)
  rcases Decidable.em (g = 0) with c1 | c1
  · rw [if_pos c1]
    refine Go.of_run (Ev.mono _) 3 _ ?_
    refine ⟨trivial, ?_⟩
    show Q (some (.int (I 83 14))) (SH, mkM (si I 83 11 (0 : Int32)) J T)
    exact (hyp.1 c1)
  · rw [if_neg c1]
    refine Go.of_run (Ev.mono _) 6 _ ?_
    refine ⟨(hyp.2 c1).1, ?_⟩
    refine go_si rfl ?_
    show Go none aM (Ev mt aM (d + 8)) mX12_reads Q (112, [some (.ref 83), some (.int x), none, some (.int g), none, none], [], (SH, mkM (si (si I 83 11 (0 : Int32)) 98 x.toNatClampNeg (I 83 18)) J T), 0, 0)
    refine Go.of_run (Ev.mono _) 2 _ ?_
    exact Go.weak (Ev.mono _) (LLe.cons (LLe.cons (LLe.cons (LLe.drop (LLe.cons (LLe.cons LLe.nil)))))) (hyp.2 c1).2
set_option maxRecDepth 20000 in
theorem mrd_115 {d : Nat} {x k : Int32} {I : Nat → Nat → Int32} {J : Nat → Nat → Int64} {T : Nat → Nat → Nat} {Q : Option Value → Mem → Prop} (hyp : ((I 83 16 ≤ k → Go none aM (Ev mt aM (d + 8)) mX12_reads Q (153, [some (.ref 83), some (.int x), none, none, some (.int (0 : Int32)), none], [], (SH, mkM I J T), 0, 0)) ∧ ((¬ (I 83 16 ≤ k)) → (vp_in k 220 ∧ (vp_in (((220 : Int32) * x) + k) 1760 ∧ Go none aM (Ev mt aM (d + 8)) mX12_reads Q (115, [some (.ref 83), some (.int x), none, none, some (.int (k + 1)), none], [], (SH, mkM (si I 97 ((((220 : Int32) * x) + k).toNatClampNeg) (I 91 k.toNatClampNeg)) J T), 0, 0)))))) : Go none aM (Ev mt aM (d + 8)) mX12_reads Q (115, [some (.ref 83), some (.int x), none, none, some (.int k), none], [], (SH, mkM I J T), 0, 0) := by
  refine Go.of_run (Ev.mono _) 4 _ ?_
  show Go none aM (Ev mt aM (d + 8)) mX12_reads Q (if I 83 16 ≤ k then 150 else 124, [some (.ref 83), some (.int x), none, none, some (.int k), none], [], (SH, mkM I J T), 0, 0)
  rcases Decidable.em (I 83 16 ≤ k) with c1 | c1
  · rw [if_pos c1]
    refine Go.of_run (Ev.mono _) 2 _ ?_
    exact (hyp.1 c1)
  · rw [if_neg c1]
    refine Go.of_run (Ev.mono _) 11 _ ?_
    refine ⟨(hyp.2 c1).1, ?_⟩
    show Go none aM (Ev mt aM (d + 8)) mX12_reads Q (143, [some (.ref 83), some (.int x), none, none, some (.int k), none], [.int (I 91 k.toNatClampNeg), .int (((220 : Int32) * x) + k), .ref 97], (SH, mkM I J T), 0, 0)
    refine Go.of_run (Ev.mono _) 1 _ ?_
    refine ⟨(hyp.2 c1).2.1, ?_⟩
    refine go_si rfl ?_
    show Go none aM (Ev mt aM (d + 8)) mX12_reads Q (144, [some (.ref 83), some (.int x), none, none, some (.int k), none], [], (SH, mkM (si I 97 ((((220 : Int32) * x) + k).toNatClampNeg) (I 91 k.toNatClampNeg)) J T), 0, 0)
    refine Go.of_run (Ev.mono _) 2 _ ?_
    exact (hyp.2 c1).2.2
set_option maxRecDepth 20000 in
theorem mrd_153 {d : Nat} {x k : Int32} {I : Nat → Nat → Int32} {J : Nat → Nat → Int64} {T : Nat → Nat → Nat} {Q : Option Value → Mem → Prop} (hyp : ((I 83 18 ≤ k → Q (some (.int (I 83 18))) (SH, mkM I J T)) ∧ ((¬ (I 83 18 ≤ k)) → (vp_in k 14 ∧ (vp_in (((14 : Int32) * x) + k) 112 ∧ (vp_in k 14 ∧ (vp_in (((14 : Int32) * x) + k) 112 ∧ (vp_in k 14 ∧ (vp_in (((14 : Int32) * x) + k) 112 ∧ (vp_in k 14 ∧ (vp_in (((14 : Int32) * x) + k) 112 ∧ Go none aM (Ev mt aM (d + 8)) mX12_reads Q (153, [some (.ref 83), some (.int x), none, none, some (.int (k + 1)), none], [], (SH, mkM (si (si (si (si I 99 ((((14 : Int32) * x) + k).toNatClampNeg) (I 93 k.toNatClampNeg)) 100 ((((14 : Int32) * x) + k).toNatClampNeg) (((220 : Int32) * x) + (I 94 k.toNatClampNeg))) 101 ((((14 : Int32) * x) + k).toNatClampNeg) (((220 : Int32) * x) + (I 95 k.toNatClampNeg))) 102 ((((14 : Int32) * x) + k).toNatClampNeg) (((220 : Int32) * x) + (I 96 k.toNatClampNeg))) J T), 0, 0)))))))))))) : Go none aM (Ev mt aM (d + 8)) mX12_reads Q (153, [some (.ref 83), some (.int x), none, none, some (.int k), none], [], (SH, mkM I J T), 0, 0) := by
  refine Go.of_run (Ev.mono _) 4 _ ?_
  show Go none aM (Ev mt aM (d + 8)) mX12_reads Q (if I 83 18 ≤ k then 251 else 162, [some (.ref 83), some (.int x), none, none, some (.int k), none], [], (SH, mkM I J T), 0, 0)
  rcases Decidable.em (I 83 18 ≤ k) with c1 | c1
  · rw [if_pos c1]
    refine Go.of_run (Ev.mono _) 3 _ ?_
    refine ⟨trivial, ?_⟩
    show Q (some (.int (I 83 18))) (SH, mkM I J T)
    exact (hyp.1 c1)
  · rw [if_neg c1]
    refine Go.of_run (Ev.mono _) 13 _ ?_
    refine ⟨(hyp.2 c1).1, ?_⟩
    show Go none aM (Ev mt aM (d + 8)) mX12_reads Q (184, [some (.ref 83), some (.int x), none, none, some (.int k), some (.int (((14 : Int32) * x) + k))], [.int (I 93 k.toNatClampNeg), .int (((14 : Int32) * x) + k), .ref 99], (SH, mkM I J T), 0, 0)
    refine Go.of_run (Ev.mono _) 1 _ ?_
    refine ⟨(hyp.2 c1).2.1, ?_⟩
    refine go_si rfl ?_
    show Go none aM (Ev mt aM (d + 8)) mX12_reads Q (185, [some (.ref 83), some (.int x), none, none, some (.int k), some (.int (((14 : Int32) * x) + k))], [], (SH, mkM (si I 99 ((((14 : Int32) * x) + k).toNatClampNeg) (I 93 k.toNatClampNeg)) J T), 0, 0)
    refine Go.of_run (Ev.mono _) 10 _ ?_
    refine ⟨(hyp.2 c1).2.2.1, ?_⟩
    show Go none aM (Ev mt aM (d + 8)) mX12_reads Q (203, [some (.ref 83), some (.int x), none, none, some (.int k), some (.int (((14 : Int32) * x) + k))], [.int (I 94 k.toNatClampNeg), .int ((220 : Int32) * x), .int (((14 : Int32) * x) + k), .ref 100], (SH, mkM (si I 99 ((((14 : Int32) * x) + k).toNatClampNeg) (I 93 k.toNatClampNeg)) J T), 0, 0)
    refine Go.of_run (Ev.mono _) 2 _ ?_
    refine ⟨(hyp.2 c1).2.2.2.1, ?_⟩
    refine go_si rfl ?_
    show Go none aM (Ev mt aM (d + 8)) mX12_reads Q (205, [some (.ref 83), some (.int x), none, none, some (.int k), some (.int (((14 : Int32) * x) + k))], [], (SH, mkM (si (si I 99 ((((14 : Int32) * x) + k).toNatClampNeg) (I 93 k.toNatClampNeg)) 100 ((((14 : Int32) * x) + k).toNatClampNeg) (((220 : Int32) * x) + (I 94 k.toNatClampNeg))) J T), 0, 0)
    refine Go.of_run (Ev.mono _) 10 _ ?_
    refine ⟨(hyp.2 c1).2.2.2.2.1, ?_⟩
    show Go none aM (Ev mt aM (d + 8)) mX12_reads Q (223, [some (.ref 83), some (.int x), none, none, some (.int k), some (.int (((14 : Int32) * x) + k))], [.int (I 95 k.toNatClampNeg), .int ((220 : Int32) * x), .int (((14 : Int32) * x) + k), .ref 101], (SH, mkM (si (si I 99 ((((14 : Int32) * x) + k).toNatClampNeg) (I 93 k.toNatClampNeg)) 100 ((((14 : Int32) * x) + k).toNatClampNeg) (((220 : Int32) * x) + (I 94 k.toNatClampNeg))) J T), 0, 0)
    refine Go.of_run (Ev.mono _) 2 _ ?_
    refine ⟨(hyp.2 c1).2.2.2.2.2.1, ?_⟩
    refine go_si rfl ?_
    show Go none aM (Ev mt aM (d + 8)) mX12_reads Q (225, [some (.ref 83), some (.int x), none, none, some (.int k), some (.int (((14 : Int32) * x) + k))], [], (SH, mkM (si (si (si I 99 ((((14 : Int32) * x) + k).toNatClampNeg) (I 93 k.toNatClampNeg)) 100 ((((14 : Int32) * x) + k).toNatClampNeg) (((220 : Int32) * x) + (I 94 k.toNatClampNeg))) 101 ((((14 : Int32) * x) + k).toNatClampNeg) (((220 : Int32) * x) + (I 95 k.toNatClampNeg))) J T), 0, 0)
    refine Go.of_run (Ev.mono _) 10 _ ?_
    refine ⟨(hyp.2 c1).2.2.2.2.2.2.1, ?_⟩
    show Go none aM (Ev mt aM (d + 8)) mX12_reads Q (243, [some (.ref 83), some (.int x), none, none, some (.int k), some (.int (((14 : Int32) * x) + k))], [.int (I 96 k.toNatClampNeg), .int ((220 : Int32) * x), .int (((14 : Int32) * x) + k), .ref 102], (SH, mkM (si (si (si I 99 ((((14 : Int32) * x) + k).toNatClampNeg) (I 93 k.toNatClampNeg)) 100 ((((14 : Int32) * x) + k).toNatClampNeg) (((220 : Int32) * x) + (I 94 k.toNatClampNeg))) 101 ((((14 : Int32) * x) + k).toNatClampNeg) (((220 : Int32) * x) + (I 95 k.toNatClampNeg))) J T), 0, 0)
    refine Go.of_run (Ev.mono _) 2 _ ?_
    refine ⟨(hyp.2 c1).2.2.2.2.2.2.2.1, ?_⟩
    refine go_si rfl ?_
    show Go none aM (Ev mt aM (d + 8)) mX12_reads Q (245, [some (.ref 83), some (.int x), none, none, some (.int k), some (.int (((14 : Int32) * x) + k))], [], (SH, mkM (si (si (si (si I 99 ((((14 : Int32) * x) + k).toNatClampNeg) (I 93 k.toNatClampNeg)) 100 ((((14 : Int32) * x) + k).toNatClampNeg) (((220 : Int32) * x) + (I 94 k.toNatClampNeg))) 101 ((((14 : Int32) * x) + k).toNatClampNeg) (((220 : Int32) * x) + (I 95 k.toNatClampNeg))) 102 ((((14 : Int32) * x) + k).toNatClampNeg) (((220 : Int32) * x) + (I 96 k.toNatClampNeg))) J T), 0, 0)
    refine Go.of_run (Ev.mono _) 2 _ ?_
    exact Go.weak (Ev.mono _) (LLe.cons (LLe.cons (LLe.cons (LLe.cons (LLe.cons (LLe.drop LLe.nil)))))) (hyp.2 c1).2.2.2.2.2.2.2.2
set_option maxRecDepth 20000 in
theorem mlaw_0 {d : Nat} {n : Int32} {I : Nat → Nat → Int32} {J : Nat → Nat → Int64} {T : Nat → Nat → Nat} {Q : Option Value → Mem → Prop} (hyp : Ev mt aM (d + 9) 204 [.ref 83, .int (7 : Int32), .int n] (SH, mkM I J T) (fun r m1 => Go none aM (Ev mt aM (d + 9)) mX12_law Q (7, [some (.ref 83), some (.int n)], r.toList ++ [], m1, 0, 0))) : Go none aM (Ev mt aM (d + 9)) mX12_law Q (0, [some (.ref 83), some (.int n)], [], (SH, mkM I J T), 0, 0) := by
  refine Go.of_run (Ev.mono _) 4 _ ?_
  refine ⟨Nat.le_of_ble_eq_true rfl, hyp⟩
set_option maxRecDepth 20000 in
theorem mother_0 {d : Nat} {k n : Int32} {I : Nat → Nat → Int32} {J : Nat → Nat → Int64} {T : Nat → Nat → Nat} {Q : Option Value → Mem → Prop} (hyp : ((v_X12_in k (0 : Int32) (2 : Int32) = 0 → Q (some (.int (-1 : Int32))) (SH, mkM I J T)) ∧ ((¬ (v_X12_in k (0 : Int32) (2 : Int32) = 0)) → Ev mt aM (d + 9) 204 [.ref 83, .int k, .int n] (SH, mkM I J T) (fun r m1 => Go none aM (Ev mt aM (d + 9)) mX12_other Q (15, [some (.ref 83), some (.int k), some (.int n)], r.toList ++ [], m1, 0, 0))))) : Go none aM (Ev mt aM (d + 9)) mX12_other Q (0, [some (.ref 83), some (.int k), some (.int n)], [], (SH, mkM I J T), 0, 0) := by
  refine Go.of_run (Ev.mono _) 4 _ ?_
  refine ⟨Nat.le_of_ble_eq_true rfl, ev_X12_in ?_⟩
  show Go none aM (Ev mt aM (d + 9)) mX12_other Q (6, [some (.ref 83), some (.int k), some (.int n)], [.int (v_X12_in k (0 : Int32) (2 : Int32))], (SH, mkM I J T), 0, 0)
  refine Go.of_run (Ev.mono _) 1 _ ?_
  show Go none aM (Ev mt aM (d + 9)) mX12_other Q (if v_X12_in k (0 : Int32) (2 : Int32) = 0 then 18 else 9, [some (.ref 83), some (.int k), some (.int n)], [], (SH, mkM I J T), 0, 0)
  rcases Decidable.em (v_X12_in k (0 : Int32) (2 : Int32) = 0) with c1 | c1
  · rw [if_pos c1]
    refine Go.of_run (Ev.mono _) 2 _ ?_
    refine ⟨trivial, ?_⟩
    show Q (some (.int (-1 : Int32))) (SH, mkM I J T)
    exact (hyp.1 c1)
  · rw [if_neg c1]
    refine Go.of_run (Ev.mono _) 4 _ ?_
    refine ⟨Nat.le_of_ble_eq_true rfl, (hyp.2 c1)⟩
set_option maxRecDepth 20000 in
theorem mrule_0 {d : Nat} {k n : Int32} {I : Nat → Nat → Int32} {J : Nat → Nat → Int64} {T : Nat → Nat → Nat} {Q : Option Value → Mem → Prop} (hyp : ((v_X12_in k (0 : Int32) (3 : Int32) = 0 → Q (some (.int (-1 : Int32))) (SH, mkM I J T)) ∧ ((¬ (v_X12_in k (0 : Int32) (3 : Int32) = 0)) → Ev mt aM (d + 9) 204 [.ref 83, .int ((3 : Int32) + k), .int n] (SH, mkM I J T) (fun r m1 => Go none aM (Ev mt aM (d + 9)) mX12_rule Q (17, [some (.ref 83), some (.int k), some (.int n)], r.toList ++ [], m1, 0, 0))))) : Go none aM (Ev mt aM (d + 9)) mX12_rule Q (0, [some (.ref 83), some (.int k), some (.int n)], [], (SH, mkM I J T), 0, 0) := by
  refine Go.of_run (Ev.mono _) 4 _ ?_
  refine ⟨Nat.le_of_ble_eq_true rfl, ev_X12_in ?_⟩
  show Go none aM (Ev mt aM (d + 9)) mX12_rule Q (6, [some (.ref 83), some (.int k), some (.int n)], [.int (v_X12_in k (0 : Int32) (3 : Int32))], (SH, mkM I J T), 0, 0)
  refine Go.of_run (Ev.mono _) 1 _ ?_
  show Go none aM (Ev mt aM (d + 9)) mX12_rule Q (if v_X12_in k (0 : Int32) (3 : Int32) = 0 then 20 else 9, [some (.ref 83), some (.int k), some (.int n)], [], (SH, mkM I J T), 0, 0)
  rcases Decidable.em (v_X12_in k (0 : Int32) (3 : Int32) = 0) with c1 | c1
  · rw [if_pos c1]
    refine Go.of_run (Ev.mono _) 2 _ ?_
    refine ⟨trivial, ?_⟩
    show Q (some (.int (-1 : Int32))) (SH, mkM I J T)
    exact (hyp.1 c1)
  · rw [if_neg c1]
    refine Go.of_run (Ev.mono _) 6 _ ?_
    refine ⟨Nat.le_of_ble_eq_true rfl, (hyp.2 c1)⟩
