set_option maxRecDepth 20000 in
theorem cbest_0 {d : Nat} {a1 a2 a3 a4 a5 : Int32} {I : Nat → Nat → Int32} {J : Nat → Nat → Int64} {T : Nat → Nat → Nat} {Q : Option Value → Mem → Prop} (hyp : ((v_X11_isOther a4 = 0 → Q (some (.long (-1 : Int64))) (SH, mkM I J T)) ∧ ((¬ (v_X11_isOther a4 = 0)) → ((a5 < 0 → Q (some (.long (-1 : Int64))) (SH, mkM I J T)) ∧ ((¬ (a5 < 0)) → ((a5 ≤ (1 : Int32) → ((v_X11_isEnd a1 a2 a3 I = 0 → ((v_X11_isState a1 a2 a3 I = 0 → Q (some (.long (-1 : Int64))) (SH, mkM I J T)) ∧ ((¬ (v_X11_isState a1 a2 a3 I = 0)) → Ev mt aM (d + 30) 2 [.ref 69, .int a4] (SH, mkM I J T) (fun r m1 => Go none aM (Ev mt aM (d + 30)) mX11_best Q (77, [some (.ref 0), some (.int a1), some (.int a2), some (.int a3), some (.int a4), some (.int a5)], r.toList ++ [], m1, 0, 0))))) ∧ ((¬ (v_X11_isEnd a1 a2 a3 I = 0)) → ((a5 = 0 → Q (some (.long ((v_X7_worthOf a2 I).toInt64))) (SH, mkM I J T)) ∧ ((¬ (a5 = 0)) → Q (some (.long (-1 : Int64))) (SH, mkM I J T)))))) ∧ ((¬ (a5 ≤ (1 : Int32))) → Q (some (.long (-1 : Int64))) (SH, mkM I J T)))))))) : Go none aM (Ev mt aM (d + 30)) mX11_best Q (0, [some (.ref 0), some (.int a1), some (.int a2), some (.int a3), some (.int a4), some (.int a5)], [], (SH, mkM I J T), 0, 0) := by
  refine Go.of_run (Ev.mono _) 2 _ ?_
  refine ⟨Nat.le_of_ble_eq_true rfl, ev_X11_isOther ?_⟩
  show Go none aM (Ev mt aM (d + 30)) mX11_best Q (5, [some (.ref 0), some (.int a1), some (.int a2), some (.int a3), some (.int a4), some (.int a5)], [.int (v_X11_isOther a4)], (SH, mkM I J T), 0, 0)
  refine Go.of_run (Ev.mono _) 1 _ ?_
  show Go none aM (Ev mt aM (d + 30)) mX11_best Q (if v_X11_isOther a4 = 0 then 19 else 8, [some (.ref 0), some (.int a1), some (.int a2), some (.int a3), some (.int a4), some (.int a5)], [], (SH, mkM I J T), 0, 0)
  rcases Decidable.em (v_X11_isOther a4 = 0) with c1 | c1
  · rw [if_pos c1]
    refine Go.of_run (Ev.mono _) 2 _ ?_
    refine ⟨trivial, ?_⟩
    show Q (some (.long (-1 : Int64))) (SH, mkM I J T)
    exact (hyp.1 c1)
  · rw [if_neg c1]
    refine Go.of_run (Ev.mono _) 2 _ ?_
    show Go none aM (Ev mt aM (d + 30)) mX11_best Q (if a5 < 0 then 19 else 13, [some (.ref 0), some (.int a1), some (.int a2), some (.int a3), some (.int a4), some (.int a5)], [], (SH, mkM I J T), 0, 0)
    rcases Decidable.em (a5 < 0) with c2 | c2
    · rw [if_pos c2]
      refine Go.of_run (Ev.mono _) 2 _ ?_
      refine ⟨trivial, ?_⟩
      show Q (some (.long (-1 : Int64))) (SH, mkM I J T)
      exact ((hyp.2 c1).1 c2)
    · rw [if_neg c2]
      refine Go.of_run (Ev.mono _) 3 _ ?_
      show Go none aM (Ev mt aM (d + 30)) mX11_best Q (if a5 ≤ (1 : Int32) then 23 else 19, [some (.ref 0), some (.int a1), some (.int a2), some (.int a3), some (.int a4), some (.int a5)], [], (SH, mkM I J T), 0, 0)
      rcases Decidable.em (a5 ≤ (1 : Int32)) with c3 | c3
      · rw [if_pos c3]
        refine Go.of_run (Ev.mono _) 5 _ ?_
        refine ⟨Nat.le_of_ble_eq_true rfl, ev_X11_isEnd ?_⟩
        show Go none aM (Ev mt aM (d + 30)) mX11_best Q (30, [some (.ref 0), some (.int a1), some (.int a2), some (.int a3), some (.int a4), some (.int a5)], [.int (v_X11_isEnd a1 a2 a3 I)], (SH, mkM I J T), 0, 0)
        refine Go.of_run (Ev.mono _) 1 _ ?_
        show Go none aM (Ev mt aM (d + 30)) mX11_best Q (if v_X11_isEnd a1 a2 a3 I = 0 then 54 else 33, [some (.ref 0), some (.int a1), some (.int a2), some (.int a3), some (.int a4), some (.int a5)], [], (SH, mkM I J T), 0, 0)
        rcases Decidable.em (v_X11_isEnd a1 a2 a3 I = 0) with c4 | c4
        · rw [if_pos c4]
          refine Go.of_run (Ev.mono _) 5 _ ?_
          refine ⟨Nat.le_of_ble_eq_true rfl, ev_X11_isState ?_⟩
          show Go none aM (Ev mt aM (d + 30)) mX11_best Q (61, [some (.ref 0), some (.int a1), some (.int a2), some (.int a3), some (.int a4), some (.int a5)], [.int (v_X11_isState a1 a2 a3 I)], (SH, mkM I J T), 0, 0)
          refine Go.of_run (Ev.mono _) 1 _ ?_
          show Go none aM (Ev mt aM (d + 30)) mX11_best Q (if v_X11_isState a1 a2 a3 I = 0 then 64 else 68, [some (.ref 0), some (.int a1), some (.int a2), some (.int a3), some (.int a4), some (.int a5)], [], (SH, mkM I J T), 0, 0)
          rcases Decidable.em (v_X11_isState a1 a2 a3 I = 0) with c5 | c5
          · rw [if_pos c5]
            refine Go.of_run (Ev.mono _) 2 _ ?_
            refine ⟨trivial, ?_⟩
            show Q (some (.long (-1 : Int64))) (SH, mkM I J T)
            exact (((((hyp.2 c1).2 c2).1 c3).1 c4).1 c5)
          · rw [if_neg c5]
            refine Go.of_run (Ev.mono _) 4 _ ?_
            refine ⟨Nat.le_of_ble_eq_true rfl, (((((hyp.2 c1).2 c2).1 c3).1 c4).2 c5)⟩
        · rw [if_neg c4]
          refine Go.of_run (Ev.mono _) 2 _ ?_
          show Go none aM (Ev mt aM (d + 30)) mX11_best Q (if a5 = 0 then 38 else 50, [some (.ref 0), some (.int a1), some (.int a2), some (.int a3), some (.int a4), some (.int a5)], [], (SH, mkM I J T), 0, 0)
          rcases Decidable.em (a5 = 0) with c6 | c6
          · rw [if_pos c6]
            refine Go.of_run (Ev.mono _) 4 _ ?_
            refine ⟨Nat.le_of_ble_eq_true rfl, ev_X7_worthOf ?_⟩
            show Go none aM (Ev mt aM (d + 30)) mX11_best Q (46, [some (.ref 0), some (.int a1), some (.int a2), some (.int a3), some (.int a4), some (.int a5)], [.int (v_X7_worthOf a2 I)], (SH, mkM I J T), 0, 0)
            refine Go.of_run (Ev.mono _) 3 _ ?_
            refine ⟨trivial, ?_⟩
            show Q (some (.long ((v_X7_worthOf a2 I).toInt64))) (SH, mkM I J T)
            exact (((((hyp.2 c1).2 c2).1 c3).2 c4).1 c6)
          · rw [if_neg c6]
            refine Go.of_run (Ev.mono _) 2 _ ?_
            refine ⟨trivial, ?_⟩
            show Q (some (.long (-1 : Int64))) (SH, mkM I J T)
            exact (((((hyp.2 c1).2 c2).1 c3).2 c4).2 c6)
      · rw [if_neg c3]
        refine Go.of_run (Ev.mono _) 2 _ ?_
        refine ⟨trivial, ?_⟩
        show Q (some (.long (-1 : Int64))) (SH, mkM I J T)
        exact (((hyp.2 c1).2 c2).2 c3)
set_option maxRecDepth 20000 in
theorem mbest_0 {d : Nat} {a1 a2 a3 a4 a5 : Int32} {I : Nat → Nat → Int32} {J : Nat → Nat → Int64} {T : Nat → Nat → Nat} {Q : Option Value → Mem → Prop} (hyp : ((v_X12_isState a1 a2 a3 a4 I = 0 → Q (some (.long (-1 : Int64))) (SH, mkM I J T)) ∧ ((¬ (v_X12_isState a1 a2 a3 a4 I = 0)) → ((v_X12_in a5 (0 : Int32) (1 : Int32) = 0 → Q (some (.long (-1 : Int64))) (SH, mkM I J T)) ∧ ((¬ (v_X12_in a5 (0 : Int32) (1 : Int32) = 0)) → Ev mt aM (d + 30) 248 [.ref 83, .int a1, .int a2, .int (v_X12_taken a3 I), .int (-1 : Int32), .int a4] (SH, mkM I J T) (fun r m1 => Go none aM (Ev mt aM (d + 30)) mX12_best Q (40, [some (.ref 83), some (.int a1), some (.int a2), some (.int a3), some (.int a4), some (.int a5), none, none], r.toList ++ [], m1, 0, 0))))))) : Go none aM (Ev mt aM (d + 30)) mX12_best Q (0, [some (.ref 83), some (.int a1), some (.int a2), some (.int a3), some (.int a4), some (.int a5), none, none], [], (SH, mkM I J T), 0, 0) := by
  refine Go.of_run (Ev.mono _) 6 _ ?_
  refine ⟨Nat.le_of_ble_eq_true rfl, ev_X12_isState ?_⟩
  show Go none aM (Ev mt aM (d + 30)) mX12_best Q (9, [some (.ref 83), some (.int a1), some (.int a2), some (.int a3), some (.int a4), some (.int a5), none, none], [.int (v_X12_isState a1 a2 a3 a4 I)], (SH, mkM I J T), 0, 0)
  refine Go.of_run (Ev.mono _) 1 _ ?_
  show Go none aM (Ev mt aM (d + 30)) mX12_best Q (if v_X12_isState a1 a2 a3 a4 I = 0 then 22 else 12, [some (.ref 83), some (.int a1), some (.int a2), some (.int a3), some (.int a4), some (.int a5), none, none], [], (SH, mkM I J T), 0, 0)
  rcases Decidable.em (v_X12_isState a1 a2 a3 a4 I = 0) with c1 | c1
  · rw [if_pos c1]
    refine Go.of_run (Ev.mono _) 2 _ ?_
    refine ⟨trivial, ?_⟩
    show Q (some (.long (-1 : Int64))) (SH, mkM I J T)
    exact (hyp.1 c1)
  · rw [if_neg c1]
    refine Go.of_run (Ev.mono _) 4 _ ?_
    refine ⟨Nat.le_of_ble_eq_true rfl, ev_X12_in ?_⟩
    show Go none aM (Ev mt aM (d + 30)) mX12_best Q (19, [some (.ref 83), some (.int a1), some (.int a2), some (.int a3), some (.int a4), some (.int a5), none, none], [.int (v_X12_in a5 (0 : Int32) (1 : Int32))], (SH, mkM I J T), 0, 0)
    refine Go.of_run (Ev.mono _) 1 _ ?_
    show Go none aM (Ev mt aM (d + 30)) mX12_best Q (if v_X12_in a5 (0 : Int32) (1 : Int32) = 0 then 22 else 26, [some (.ref 83), some (.int a1), some (.int a2), some (.int a3), some (.int a4), some (.int a5), none, none], [], (SH, mkM I J T), 0, 0)
    rcases Decidable.em (v_X12_in a5 (0 : Int32) (1 : Int32) = 0) with c2 | c2
    · rw [if_pos c2]
      refine Go.of_run (Ev.mono _) 2 _ ?_
      refine ⟨trivial, ?_⟩
      show Q (some (.long (-1 : Int64))) (SH, mkM I J T)
      exact ((hyp.2 c1).1 c2)
    · rw [if_neg c2]
      refine Go.of_run (Ev.mono _) 6 _ ?_
      refine ⟨Nat.le_of_ble_eq_true rfl, ev_X12_taken ?_⟩
      show Go none aM (Ev mt aM (d + 30)) mX12_best Q (34, [some (.ref 83), some (.int a1), some (.int a2), some (.int a3), some (.int a4), some (.int a5), none, none], [.int (v_X12_taken a3 I), .int a2, .int a1, .ref 83], (SH, mkM I J T), 0, 0)
      refine Go.of_run (Ev.mono _) 3 _ ?_
      refine ⟨Nat.le_of_ble_eq_true rfl, ((hyp.2 c1).2 c2)⟩
set_option maxRecDepth 20000 in
theorem cby_0 {d : Nat} {a1 a2 a3 a4 a5 a6 : Int32} {I : Nat → Nat → Int32} {J : Nat → Nat → Int64} {T : Nat → Nat → Nat} {Q : Option Value → Mem → Prop} (hyp : ((v_X11_isRule a1 = 0 → Q (some (.long (-1 : Int64))) (SH, mkM I J T)) ∧ ((¬ (v_X11_isRule a1 = 0)) → (vp_in ((4 : Int32) + a1) 8 ∧ (TX (T 13 ((4 : Int32) + a1).toNatClampNeg) ∧ ((v_X2_isTold ((4 : Int32) + a1) I T = 0 → Q (some (.long (-1 : Int64))) (SH, mkM I J T)) ∧ ((¬ (v_X2_isTold ((4 : Int32) + a1) I T = 0)) → ((v_X11_isOther a5 = 0 → Q (some (.long (-1 : Int64))) (SH, mkM I J T)) ∧ ((¬ (v_X11_isOther a5 = 0)) → ((a6 < 0 → Q (some (.long (-1 : Int64))) (SH, mkM I J T)) ∧ ((¬ (a6 < 0)) → ((a6 ≤ (3 : Int32) → ((v_X11_isState a2 a3 a4 I = 0 → ((v_X11_isEnd a2 a3 a4 I = 0 → Q (some (.long (-1 : Int64))) (SH, mkM I J T)) ∧ ((¬ (v_X11_isEnd a2 a3 a4 I = 0)) → Ev mt aM (d + 30) 118 [.ref 73, .int a1, .int a2, .int a3, .int a4, .int a5] (SH, mkM I J T) (fun r m1 => Go none aM (Ev mt aM (d + 30)) mX11_by Q (83, [some (.ref 0), some (.int a1), some (.int a2), some (.int a3), some (.int a4), some (.int a5), some (.int a6)], r.toList ++ [], m1, 0, 0))))) ∧ ((¬ (v_X11_isState a2 a3 a4 I = 0)) → Ev mt aM (d + 30) 118 [.ref 73, .int a1, .int a2, .int a3, .int a4, .int a5] (SH, mkM I J T) (fun r m1 => Go none aM (Ev mt aM (d + 30)) mX11_by Q (83, [some (.ref 0), some (.int a1), some (.int a2), some (.int a3), some (.int a4), some (.int a5), some (.int a6)], r.toList ++ [], m1, 0, 0))))) ∧ ((¬ (a6 ≤ (3 : Int32))) → Q (some (.long (-1 : Int64))) (SH, mkM I J T)))))))))))))) : Go none aM (Ev mt aM (d + 30)) mX11_by Q (0, [some (.ref 0), some (.int a1), some (.int a2), some (.int a3), some (.int a4), some (.int a5), some (.int a6)], [], (SH, mkM I J T), 0, 0) := by
  refine Go.of_run (Ev.mono _) 2 _ ?_
  refine ⟨Nat.le_of_ble_eq_true rfl, ev_X11_isRule ?_⟩
  show Go none aM (Ev mt aM (d + 30)) mX11_by Q (4, [some (.ref 0), some (.int a1), some (.int a2), some (.int a3), some (.int a4), some (.int a5), some (.int a6)], [.int (v_X11_isRule a1)], (SH, mkM I J T), 0, 0)
  refine Go.of_run (Ev.mono _) 1 _ ?_
  show Go none aM (Ev mt aM (d + 30)) mX11_by Q (if v_X11_isRule a1 = 0 then 39 else 7, [some (.ref 0), some (.int a1), some (.int a2), some (.int a3), some (.int a4), some (.int a5), some (.int a6)], [], (SH, mkM I J T), 0, 0)
  rcases Decidable.em (v_X11_isRule a1 = 0) with c1 | c1
  · rw [if_pos c1]
    refine Go.of_run (Ev.mono _) 2 _ ?_
    refine ⟨trivial, ?_⟩
    show Q (some (.long (-1 : Int64))) (SH, mkM I J T)
    exact (hyp.1 c1)
  · rw [if_neg c1]
    refine Go.of_run (Ev.mono _) 6 _ ?_
    refine ⟨Nat.le_of_ble_eq_true rfl, ev_X2_isTold ⟨(hyp.2 c1).1, (hyp.2 c1).2.1⟩ ?_⟩
    show Go none aM (Ev mt aM (d + 30)) mX11_by Q (17, [some (.ref 0), some (.int a1), some (.int a2), some (.int a3), some (.int a4), some (.int a5), some (.int a6)], [.int (v_X2_isTold ((4 : Int32) + a1) I T)], (SH, mkM I J T), 0, 0)
    refine Go.of_run (Ev.mono _) 1 _ ?_
    show Go none aM (Ev mt aM (d + 30)) mX11_by Q (if v_X2_isTold ((4 : Int32) + a1) I T = 0 then 39 else 20, [some (.ref 0), some (.int a1), some (.int a2), some (.int a3), some (.int a4), some (.int a5), some (.int a6)], [], (SH, mkM I J T), 0, 0)
    rcases Decidable.em (v_X2_isTold ((4 : Int32) + a1) I T = 0) with c2 | c2
    · rw [if_pos c2]
      refine Go.of_run (Ev.mono _) 2 _ ?_
      refine ⟨trivial, ?_⟩
      show Q (some (.long (-1 : Int64))) (SH, mkM I J T)
      exact ((hyp.2 c1).2.2.1 c2)
    · rw [if_neg c2]
      refine Go.of_run (Ev.mono _) 2 _ ?_
      refine ⟨Nat.le_of_ble_eq_true rfl, ev_X11_isOther ?_⟩
      show Go none aM (Ev mt aM (d + 30)) mX11_by Q (25, [some (.ref 0), some (.int a1), some (.int a2), some (.int a3), some (.int a4), some (.int a5), some (.int a6)], [.int (v_X11_isOther a5)], (SH, mkM I J T), 0, 0)
      refine Go.of_run (Ev.mono _) 1 _ ?_
      show Go none aM (Ev mt aM (d + 30)) mX11_by Q (if v_X11_isOther a5 = 0 then 39 else 28, [some (.ref 0), some (.int a1), some (.int a2), some (.int a3), some (.int a4), some (.int a5), some (.int a6)], [], (SH, mkM I J T), 0, 0)
      rcases Decidable.em (v_X11_isOther a5 = 0) with c3 | c3
      · rw [if_pos c3]
        refine Go.of_run (Ev.mono _) 2 _ ?_
        refine ⟨trivial, ?_⟩
        show Q (some (.long (-1 : Int64))) (SH, mkM I J T)
        exact (((hyp.2 c1).2.2.2 c2).1 c3)
      · rw [if_neg c3]
        refine Go.of_run (Ev.mono _) 2 _ ?_
        show Go none aM (Ev mt aM (d + 30)) mX11_by Q (if a6 < 0 then 39 else 33, [some (.ref 0), some (.int a1), some (.int a2), some (.int a3), some (.int a4), some (.int a5), some (.int a6)], [], (SH, mkM I J T), 0, 0)
        rcases Decidable.em (a6 < 0) with c4 | c4
        · rw [if_pos c4]
          refine Go.of_run (Ev.mono _) 2 _ ?_
          refine ⟨trivial, ?_⟩
          show Q (some (.long (-1 : Int64))) (SH, mkM I J T)
          exact ((((hyp.2 c1).2.2.2 c2).2 c3).1 c4)
        · rw [if_neg c4]
          refine Go.of_run (Ev.mono _) 3 _ ?_
          show Go none aM (Ev mt aM (d + 30)) mX11_by Q (if a6 ≤ (3 : Int32) then 43 else 39, [some (.ref 0), some (.int a1), some (.int a2), some (.int a3), some (.int a4), some (.int a5), some (.int a6)], [], (SH, mkM I J T), 0, 0)
          rcases Decidable.em (a6 ≤ (3 : Int32)) with c5 | c5
          · rw [if_pos c5]
            refine Go.of_run (Ev.mono _) 5 _ ?_
            refine ⟨Nat.le_of_ble_eq_true rfl, ev_X11_isState ?_⟩
            show Go none aM (Ev mt aM (d + 30)) mX11_by Q (51, [some (.ref 0), some (.int a1), some (.int a2), some (.int a3), some (.int a4), some (.int a5), some (.int a6)], [.int (v_X11_isState a2 a3 a4 I)], (SH, mkM I J T), 0, 0)
            refine Go.of_run (Ev.mono _) 1 _ ?_
            show Go none aM (Ev mt aM (d + 30)) mX11_by Q (if v_X11_isState a2 a3 a4 I = 0 then 54 else 69, [some (.ref 0), some (.int a1), some (.int a2), some (.int a3), some (.int a4), some (.int a5), some (.int a6)], [], (SH, mkM I J T), 0, 0)
            rcases Decidable.em (v_X11_isState a2 a3 a4 I = 0) with c6 | c6
            · rw [if_pos c6]
              refine Go.of_run (Ev.mono _) 5 _ ?_
              refine ⟨Nat.le_of_ble_eq_true rfl, ev_X11_isEnd ?_⟩
              show Go none aM (Ev mt aM (d + 30)) mX11_by Q (62, [some (.ref 0), some (.int a1), some (.int a2), some (.int a3), some (.int a4), some (.int a5), some (.int a6)], [.int (v_X11_isEnd a2 a3 a4 I)], (SH, mkM I J T), 0, 0)
              refine Go.of_run (Ev.mono _) 1 _ ?_
              show Go none aM (Ev mt aM (d + 30)) mX11_by Q (if v_X11_isEnd a2 a3 a4 I = 0 then 65 else 69, [some (.ref 0), some (.int a1), some (.int a2), some (.int a3), some (.int a4), some (.int a5), some (.int a6)], [], (SH, mkM I J T), 0, 0)
              rcases Decidable.em (v_X11_isEnd a2 a3 a4 I = 0) with c7 | c7
              · rw [if_pos c7]
                refine Go.of_run (Ev.mono _) 2 _ ?_
                refine ⟨trivial, ?_⟩
                show Q (some (.long (-1 : Int64))) (SH, mkM I J T)
                exact (((((((hyp.2 c1).2.2.2 c2).2 c3).2 c4).1 c5).1 c6).1 c7)
              · rw [if_neg c7]
                refine Go.of_run (Ev.mono _) 8 _ ?_
                refine ⟨Nat.le_of_ble_eq_true rfl, (((((((hyp.2 c1).2.2.2 c2).2 c3).2 c4).1 c5).1 c6).2 c7)⟩
            · rw [if_neg c6]
              refine Go.of_run (Ev.mono _) 8 _ ?_
              refine ⟨Nat.le_of_ble_eq_true rfl, ((((((hyp.2 c1).2.2.2 c2).2 c3).2 c4).1 c5).2 c6)⟩
          · rw [if_neg c5]
            refine Go.of_run (Ev.mono _) 2 _ ?_
            refine ⟨trivial, ?_⟩
            show Q (some (.long (-1 : Int64))) (SH, mkM I J T)
            exact (((((hyp.2 c1).2.2.2 c2).2 c3).2 c4).2 c5)
set_option maxRecDepth 20000 in
theorem mby_0 {d : Nat} {a1 a2 a3 a4 a5 a6 : Int32} {I : Nat → Nat → Int32} {J : Nat → Nat → Int64} {T : Nat → Nat → Nat} {Q : Option Value → Mem → Prop} (hyp : (((¬ (a1 < 0)) → ((¬ ((4 : Int32) ≤ a1)) → vp_in ((3 : Int32) + a1) 8)) ∧ ((v_X12_isRule a1 I = 0 → Q (some (.long (-1 : Int64))) (SH, mkM I J T)) ∧ ((¬ (v_X12_isRule a1 I = 0)) → ((v_X12_isState a2 a3 a4 a5 I = 0 → Q (some (.long (-1 : Int64))) (SH, mkM I J T)) ∧ ((¬ (v_X12_isState a2 a3 a4 a5 I = 0)) → ((v_X12_in a6 (0 : Int32) (3 : Int32) = 0 → Q (some (.long (-1 : Int64))) (SH, mkM I J T)) ∧ ((¬ (v_X12_in a6 (0 : Int32) (3 : Int32) = 0)) → Ev mt aM (d + 30) 248 [.ref 83, .int a2, .int a3, .int (v_X12_taken a4 I), .int a1, .int a5] (SH, mkM I J T) (fun r m1 => Go none aM (Ev mt aM (d + 30)) mX12_by Q (50, [some (.ref 83), some (.int a1), some (.int a2), some (.int a3), some (.int a4), some (.int a5), some (.int a6), none, none, none], r.toList ++ [], m1, 0, 0)))))))))) : Go none aM (Ev mt aM (d + 30)) mX12_by Q (0, [some (.ref 83), some (.int a1), some (.int a2), some (.int a3), some (.int a4), some (.int a5), some (.int a6), none, none, none], [], (SH, mkM I J T), 0, 0) := by
  refine Go.of_run (Ev.mono _) 3 _ ?_
  refine ⟨Nat.le_of_ble_eq_true rfl, ev_X12_isRule hyp.1 ?_⟩
  show Go none aM (Ev mt aM (d + 30)) mX12_by Q (5, [some (.ref 83), some (.int a1), some (.int a2), some (.int a3), some (.int a4), some (.int a5), some (.int a6), none, none, none], [.int (v_X12_isRule a1 I)], (SH, mkM I J T), 0, 0)
  refine Go.of_run (Ev.mono _) 1 _ ?_
  show Go none aM (Ev mt aM (d + 30)) mX12_by Q (if v_X12_isRule a1 I = 0 then 31 else 8, [some (.ref 83), some (.int a1), some (.int a2), some (.int a3), some (.int a4), some (.int a5), some (.int a6), none, none, none], [], (SH, mkM I J T), 0, 0)
  rcases Decidable.em (v_X12_isRule a1 I = 0) with c1 | c1
  · rw [if_pos c1]
    refine Go.of_run (Ev.mono _) 2 _ ?_
    refine ⟨trivial, ?_⟩
    show Q (some (.long (-1 : Int64))) (SH, mkM I J T)
    exact (hyp.2.1 c1)
  · rw [if_neg c1]
    refine Go.of_run (Ev.mono _) 6 _ ?_
    refine ⟨Nat.le_of_ble_eq_true rfl, ev_X12_isState ?_⟩
    show Go none aM (Ev mt aM (d + 30)) mX12_by Q (18, [some (.ref 83), some (.int a1), some (.int a2), some (.int a3), some (.int a4), some (.int a5), some (.int a6), none, none, none], [.int (v_X12_isState a2 a3 a4 a5 I)], (SH, mkM I J T), 0, 0)
    refine Go.of_run (Ev.mono _) 1 _ ?_
    show Go none aM (Ev mt aM (d + 30)) mX12_by Q (if v_X12_isState a2 a3 a4 a5 I = 0 then 31 else 21, [some (.ref 83), some (.int a1), some (.int a2), some (.int a3), some (.int a4), some (.int a5), some (.int a6), none, none, none], [], (SH, mkM I J T), 0, 0)
    rcases Decidable.em (v_X12_isState a2 a3 a4 a5 I = 0) with c2 | c2
    · rw [if_pos c2]
      refine Go.of_run (Ev.mono _) 2 _ ?_
      refine ⟨trivial, ?_⟩
      show Q (some (.long (-1 : Int64))) (SH, mkM I J T)
      exact ((hyp.2.2 c1).1 c2)
    · rw [if_neg c2]
      refine Go.of_run (Ev.mono _) 4 _ ?_
      refine ⟨Nat.le_of_ble_eq_true rfl, ev_X12_in ?_⟩
      show Go none aM (Ev mt aM (d + 30)) mX12_by Q (28, [some (.ref 83), some (.int a1), some (.int a2), some (.int a3), some (.int a4), some (.int a5), some (.int a6), none, none, none], [.int (v_X12_in a6 (0 : Int32) (3 : Int32))], (SH, mkM I J T), 0, 0)
      refine Go.of_run (Ev.mono _) 1 _ ?_
      show Go none aM (Ev mt aM (d + 30)) mX12_by Q (if v_X12_in a6 (0 : Int32) (3 : Int32) = 0 then 31 else 35, [some (.ref 83), some (.int a1), some (.int a2), some (.int a3), some (.int a4), some (.int a5), some (.int a6), none, none, none], [], (SH, mkM I J T), 0, 0)
      rcases Decidable.em (v_X12_in a6 (0 : Int32) (3 : Int32) = 0) with c3 | c3
      · rw [if_pos c3]
        refine Go.of_run (Ev.mono _) 2 _ ?_
        refine ⟨trivial, ?_⟩
        show Q (some (.long (-1 : Int64))) (SH, mkM I J T)
        exact (((hyp.2.2 c1).2 c2).1 c3)
      · rw [if_neg c3]
        refine Go.of_run (Ev.mono _) 6 _ ?_
        refine ⟨Nat.le_of_ble_eq_true rfl, ev_X12_taken ?_⟩
        show Go none aM (Ev mt aM (d + 30)) mX12_by Q (44, [some (.ref 83), some (.int a1), some (.int a2), some (.int a3), some (.int a4), some (.int a5), some (.int a6), none, none, none], [.int (v_X12_taken a4 I), .int a3, .int a2, .ref 83], (SH, mkM I J T), 0, 0)
        refine Go.of_run (Ev.mono _) 3 _ ?_
        refine ⟨Nat.le_of_ble_eq_true rfl, (((hyp.2.2 c1).2 c2).2 c3)⟩
set_option maxRecDepth 20000 in
theorem cedge_0 {d : Nat} {a1 a2 : Int32} {I : Nat → Nat → Int32} {J : Nat → Nat → Int64} {T : Nat → Nat → Nat} {Q : Option Value → Mem → Prop} (hyp : ((v_X11_isScore a1 = 0 → Q (some (.int (-1 : Int32))) (SH, mkM I J T)) ∧ ((¬ (v_X11_isScore a1 = 0)) → ((v_X11_isOther a2 = 0 → Q (some (.int (-1 : Int32))) (SH, mkM I J T)) ∧ ((¬ (v_X11_isOther a2 = 0)) → Ev mt aM (d + 30) 2 [.ref 69, .int a2] (SH, mkM I J T) (fun r m1 => Go none aM (Ev mt aM (d + 30)) mX11_edge Q (24, [some (.ref 0), some (.int a1), some (.int a2), none], r.toList ++ [], m1, 0, 0))))))) : Go none aM (Ev mt aM (d + 30)) mX11_edge Q (0, [some (.ref 0), some (.int a1), some (.int a2), none], [], (SH, mkM I J T), 0, 0) := by
  refine Go.of_run (Ev.mono _) 2 _ ?_
  refine ⟨Nat.le_of_ble_eq_true rfl, ev_X11_isScore ?_⟩
  show Go none aM (Ev mt aM (d + 30)) mX11_edge Q (4, [some (.ref 0), some (.int a1), some (.int a2), none], [.int (v_X11_isScore a1)], (SH, mkM I J T), 0, 0)
  refine Go.of_run (Ev.mono _) 1 _ ?_
  show Go none aM (Ev mt aM (d + 30)) mX11_edge Q (if v_X11_isScore a1 = 0 then 14 else 7, [some (.ref 0), some (.int a1), some (.int a2), none], [], (SH, mkM I J T), 0, 0)
  rcases Decidable.em (v_X11_isScore a1 = 0) with c1 | c1
  · rw [if_pos c1]
    refine Go.of_run (Ev.mono _) 2 _ ?_
    refine ⟨trivial, ?_⟩
    show Q (some (.int (-1 : Int32))) (SH, mkM I J T)
    exact (hyp.1 c1)
  · rw [if_neg c1]
    refine Go.of_run (Ev.mono _) 2 _ ?_
    refine ⟨Nat.le_of_ble_eq_true rfl, ev_X11_isOther ?_⟩
    show Go none aM (Ev mt aM (d + 30)) mX11_edge Q (11, [some (.ref 0), some (.int a1), some (.int a2), none], [.int (v_X11_isOther a2)], (SH, mkM I J T), 0, 0)
    refine Go.of_run (Ev.mono _) 1 _ ?_
    show Go none aM (Ev mt aM (d + 30)) mX11_edge Q (if v_X11_isOther a2 = 0 then 14 else 16, [some (.ref 0), some (.int a1), some (.int a2), none], [], (SH, mkM I J T), 0, 0)
    rcases Decidable.em (v_X11_isOther a2 = 0) with c2 | c2
    · rw [if_pos c2]
      refine Go.of_run (Ev.mono _) 2 _ ?_
      refine ⟨trivial, ?_⟩
      show Q (some (.int (-1 : Int32))) (SH, mkM I J T)
      exact ((hyp.2 c1).1 c2)
    · rw [if_neg c2]
      refine Go.of_run (Ev.mono _) 4 _ ?_
      refine ⟨Nat.le_of_ble_eq_true rfl, ((hyp.2 c1).2 c2)⟩
set_option maxRecDepth 20000 in
theorem medge_0 {d : Nat} {a1 a2 : Int32} {I : Nat → Nat → Int32} {J : Nat → Nat → Int64} {T : Nat → Nat → Nat} {Q : Option Value → Mem → Prop} (hyp : ((v_X12_isScore a1 = 0 → Q (some (.int (-1 : Int32))) (SH, mkM I J T)) ∧ ((¬ (v_X12_isScore a1 = 0)) → ((v_X12_isOther a2 = 0 → Q (some (.int (-1 : Int32))) (SH, mkM I J T)) ∧ ((¬ (v_X12_isOther a2 = 0)) → Go none aM (Ev mt aM (d + 30)) mX12_edge Q (18, [some (.ref 83), some (.int a1), some (.int a2), some (.int (0 : Int32))], [], (SH, mkM I J T), 0, 0)))))) : Go none aM (Ev mt aM (d + 30)) mX12_edge Q (0, [some (.ref 83), some (.int a1), some (.int a2), none], [], (SH, mkM I J T), 0, 0) := by
  refine Go.of_run (Ev.mono _) 2 _ ?_
  refine ⟨Nat.le_of_ble_eq_true rfl, ev_X12_isScore ?_⟩
  show Go none aM (Ev mt aM (d + 30)) mX12_edge Q (4, [some (.ref 83), some (.int a1), some (.int a2), none], [.int (v_X12_isScore a1)], (SH, mkM I J T), 0, 0)
  refine Go.of_run (Ev.mono _) 1 _ ?_
  show Go none aM (Ev mt aM (d + 30)) mX12_edge Q (if v_X12_isScore a1 = 0 then 14 else 7, [some (.ref 83), some (.int a1), some (.int a2), none], [], (SH, mkM I J T), 0, 0)
  rcases Decidable.em (v_X12_isScore a1 = 0) with c1 | c1
  · rw [if_pos c1]
    refine Go.of_run (Ev.mono _) 2 _ ?_
    refine ⟨trivial, ?_⟩
    show Q (some (.int (-1 : Int32))) (SH, mkM I J T)
    exact (hyp.1 c1)
  · rw [if_neg c1]
    refine Go.of_run (Ev.mono _) 2 _ ?_
    refine ⟨Nat.le_of_ble_eq_true rfl, ev_X12_isOther ?_⟩
    show Go none aM (Ev mt aM (d + 30)) mX12_edge Q (11, [some (.ref 83), some (.int a1), some (.int a2), none], [.int (v_X12_isOther a2)], (SH, mkM I J T), 0, 0)
    refine Go.of_run (Ev.mono _) 1 _ ?_
    show Go none aM (Ev mt aM (d + 30)) mX12_edge Q (if v_X12_isOther a2 = 0 then 14 else 16, [some (.ref 83), some (.int a1), some (.int a2), none], [], (SH, mkM I J T), 0, 0)
    rcases Decidable.em (v_X12_isOther a2 = 0) with c2 | c2
    · rw [if_pos c2]
      refine Go.of_run (Ev.mono _) 2 _ ?_
      refine ⟨trivial, ?_⟩
      show Q (some (.int (-1 : Int32))) (SH, mkM I J T)
      exact ((hyp.2 c1).1 c2)
    · rw [if_neg c2]
      refine Go.of_run (Ev.mono _) 2 _ ?_
      exact ((hyp.2 c1).2 c2)
set_option maxRecDepth 20000 in
theorem ckept_0 {d : Nat} {a1 : Int32} {I : Nat → Nat → Int32} {J : Nat → Nat → Int64} {T : Nat → Nat → Nat} {Q : Option Value → Mem → Prop} (hyp : ((v_X11_isOther a1 = 0 → Q (some (.long (-1 : Int64))) (SH, mkM I J T)) ∧ ((¬ (v_X11_isOther a1 = 0)) → ((I 1 1 = 0 → Q (some (.long (-1 : Int64))) (SH, mkM I J T)) ∧ ((¬ (I 1 1 = 0)) → Ev mt aM (d + 30) 5 [.ref 69, .int a1, .int (I 1 1), .int (I 1 2), .int (0 : Int32)] (SH, mkM I J T) (fun r m1 => Go none aM (Ev mt aM (d + 30)) mX11_kept Q (46, [some (.ref 0), some (.int a1), some (.int (I 1 1))], r.toList ++ [], m1, 0, 0))))))) : Go none aM (Ev mt aM (d + 30)) mX11_kept Q (0, [some (.ref 0), some (.int a1), none], [], (SH, mkM I J T), 0, 0) := by
  refine Go.of_run (Ev.mono _) 2 _ ?_
  refine ⟨Nat.le_of_ble_eq_true rfl, ev_X11_isOther ?_⟩
  show Go none aM (Ev mt aM (d + 30)) mX11_kept Q (4, [some (.ref 0), some (.int a1), none], [.int (v_X11_isOther a1)], (SH, mkM I J T), 0, 0)
  refine Go.of_run (Ev.mono _) 1 _ ?_
  show Go none aM (Ev mt aM (d + 30)) mX11_kept Q (if v_X11_isOther a1 = 0 then 17 else 7, [some (.ref 0), some (.int a1), none], [], (SH, mkM I J T), 0, 0)
  rcases Decidable.em (v_X11_isOther a1 = 0) with c1 | c1
  · rw [if_pos c1]
    refine Go.of_run (Ev.mono _) 2 _ ?_
    refine ⟨trivial, ?_⟩
    show Q (some (.long (-1 : Int64))) (SH, mkM I J T)
    exact (hyp.1 c1)
  · rw [if_neg c1]
    refine Go.of_run (Ev.mono _) 4 _ ?_
    show Go none aM (Ev mt aM (d + 30)) mX11_kept Q (if I 1 1 = 0 then 17 else 21, [some (.ref 0), some (.int a1), none], [], (SH, mkM I J T), 0, 0)
    rcases Decidable.em (I 1 1 = 0) with c2 | c2
    · rw [if_pos c2]
      refine Go.of_run (Ev.mono _) 2 _ ?_
      refine ⟨trivial, ?_⟩
      show Q (some (.long (-1 : Int64))) (SH, mkM I J T)
      exact ((hyp.2 c1).1 c2)
    · rw [if_neg c2]
      refine Go.of_run (Ev.mono _) 13 _ ?_
      refine ⟨Nat.le_of_ble_eq_true rfl, ((hyp.2 c1).2 c2)⟩
set_option maxRecDepth 20000 in
theorem mkept_0 {d : Nat} {a1 : Int32} {I : Nat → Nat → Int32} {J : Nat → Nat → Int64} {T : Nat → Nat → Nat} {Q : Option Value → Mem → Prop} (hyp : ((v_X12_isOther a1 = 0 → Q (some (.long (-1 : Int64))) (SH, mkM I J T)) ∧ ((¬ (v_X12_isOther a1 = 0)) → ((I 83 1 = 0 → Q (some (.long (-1 : Int64))) (SH, mkM I J T)) ∧ ((¬ (I 83 1 = 0)) → Ev mt aM (d + 30) 255 [.ref 83, .int (I 83 1), .int (I 83 2), .int (0 : Int32), .int a1] (SH, mkM I J T) (fun r m1 => Go none aM (Ev mt aM (d + 30)) mX12_kept Q (34, [some (.ref 83), some (.int a1)], r.toList ++ [], m1, 0, 0))))))) : Go none aM (Ev mt aM (d + 30)) mX12_kept Q (0, [some (.ref 83), some (.int a1)], [], (SH, mkM I J T), 0, 0) := by
  refine Go.of_run (Ev.mono _) 2 _ ?_
  refine ⟨Nat.le_of_ble_eq_true rfl, ev_X12_isOther ?_⟩
  show Go none aM (Ev mt aM (d + 30)) mX12_kept Q (4, [some (.ref 83), some (.int a1)], [.int (v_X12_isOther a1)], (SH, mkM I J T), 0, 0)
  refine Go.of_run (Ev.mono _) 1 _ ?_
  show Go none aM (Ev mt aM (d + 30)) mX12_kept Q (if v_X12_isOther a1 = 0 then 14 else 7, [some (.ref 83), some (.int a1)], [], (SH, mkM I J T), 0, 0)
  rcases Decidable.em (v_X12_isOther a1 = 0) with c1 | c1
  · rw [if_pos c1]
    refine Go.of_run (Ev.mono _) 3 _ ?_
    refine ⟨trivial, ?_⟩
    show Q (some (.long (-1 : Int64))) (SH, mkM I J T)
    exact (hyp.1 c1)
  · rw [if_neg c1]
    refine Go.of_run (Ev.mono _) 3 _ ?_
    show Go none aM (Ev mt aM (d + 30)) mX12_kept Q (if I 83 1 = 0 then 14 else 20, [some (.ref 83), some (.int a1)], [], (SH, mkM I J T), 0, 0)
    rcases Decidable.em (I 83 1 = 0) with c2 | c2
    · rw [if_pos c2]
      refine Go.of_run (Ev.mono _) 3 _ ?_
      refine ⟨trivial, ?_⟩
      show Q (some (.long (-1 : Int64))) (SH, mkM I J T)
      exact ((hyp.2 c1).1 c2)
    · rw [if_neg c2]
      refine Go.of_run (Ev.mono _) 8 _ ?_
      refine ⟨Nat.le_of_ble_eq_true rfl, ((hyp.2 c1).2 c2)⟩
set_option maxRecDepth 20000 in
theorem ctogether_0 {d : Nat} {a1 : Int32} {I : Nat → Nat → Int32} {J : Nat → Nat → Int64} {T : Nat → Nat → Nat} {Q : Option Value → Mem → Prop} (hyp : ((v_X11_isOther a1 = 0 → Q (some (.long (-1 : Int64))) (SH, mkM I J T)) ∧ ((¬ (v_X11_isOther a1 = 0)) → Ev mt aM (d + 30) 5 [.ref 69, .int a1, .int (I 1 1), .int (2 : Int32), .int (0 : Int32)] (SH, mkM I J T) (fun r m1 => Go none aM (Ev mt aM (d + 30)) mX11_together Q (28, [some (.ref 0), some (.int a1)], r.toList ++ [], m1, 0, 0))))) : Go none aM (Ev mt aM (d + 30)) mX11_together Q (0, [some (.ref 0), some (.int a1)], [], (SH, mkM I J T), 0, 0) := by
  refine Go.of_run (Ev.mono _) 2 _ ?_
  refine ⟨Nat.le_of_ble_eq_true rfl, ev_X11_isOther ?_⟩
  show Go none aM (Ev mt aM (d + 30)) mX11_together Q (4, [some (.ref 0), some (.int a1)], [.int (v_X11_isOther a1)], (SH, mkM I J T), 0, 0)
  refine Go.of_run (Ev.mono _) 1 _ ?_
  show Go none aM (Ev mt aM (d + 30)) mX11_together Q (if v_X11_isOther a1 = 0 then 7 else 11, [some (.ref 0), some (.int a1)], [], (SH, mkM I J T), 0, 0)
  rcases Decidable.em (v_X11_isOther a1 = 0) with c1 | c1
  · rw [if_pos c1]
    refine Go.of_run (Ev.mono _) 2 _ ?_
    refine ⟨trivial, ?_⟩
    show Q (some (.long (-1 : Int64))) (SH, mkM I J T)
    exact (hyp.1 c1)
  · rw [if_neg c1]
    refine Go.of_run (Ev.mono _) 9 _ ?_
    refine ⟨Nat.le_of_ble_eq_true rfl, (hyp.2 c1)⟩
set_option maxRecDepth 20000 in
theorem mtogether_0 {d : Nat} {a1 : Int32} {I : Nat → Nat → Int32} {J : Nat → Nat → Int64} {T : Nat → Nat → Nat} {Q : Option Value → Mem → Prop} (hyp : ((v_X12_isOther a1 = 0 → Q (some (.long (-1 : Int64))) (SH, mkM I J T)) ∧ ((¬ (v_X12_isOther a1 = 0)) → Ev mt aM (d + 30) 255 [.ref 83, .int (I 83 1), .int (2 : Int32), .int (0 : Int32), .int a1] (SH, mkM I J T) (fun r m1 => Go none aM (Ev mt aM (d + 30)) mX12_together Q (24, [some (.ref 83), some (.int a1)], r.toList ++ [], m1, 0, 0))))) : Go none aM (Ev mt aM (d + 30)) mX12_together Q (0, [some (.ref 83), some (.int a1)], [], (SH, mkM I J T), 0, 0) := by
  refine Go.of_run (Ev.mono _) 2 _ ?_
  refine ⟨Nat.le_of_ble_eq_true rfl, ev_X12_isOther ?_⟩
  show Go none aM (Ev mt aM (d + 30)) mX12_together Q (4, [some (.ref 83), some (.int a1)], [.int (v_X12_isOther a1)], (SH, mkM I J T), 0, 0)
  refine Go.of_run (Ev.mono _) 1 _ ?_
  show Go none aM (Ev mt aM (d + 30)) mX12_together Q (if v_X12_isOther a1 = 0 then 7 else 13, [some (.ref 83), some (.int a1)], [], (SH, mkM I J T), 0, 0)
  rcases Decidable.em (v_X12_isOther a1 = 0) with c1 | c1
  · rw [if_pos c1]
    refine Go.of_run (Ev.mono _) 3 _ ?_
    refine ⟨trivial, ?_⟩
    show Q (some (.long (-1 : Int64))) (SH, mkM I J T)
    exact (hyp.1 c1)
  · rw [if_neg c1]
    refine Go.of_run (Ev.mono _) 7 _ ?_
    refine ⟨Nat.le_of_ble_eq_true rfl, (hyp.2 c1)⟩
set_option maxRecDepth 20000 in
theorem cslower_0 {d : Nat} {a1 : Int32} {I : Nat → Nat → Int32} {J : Nat → Nat → Int64} {T : Nat → Nat → Nat} {Q : Option Value → Mem → Prop} (hyp : ((v_X11_isOther a1 = 0 → Q (some (.long (-1000000000000000000 : Int64))) (SH, mkM I J T)) ∧ ((¬ (v_X11_isOther a1 = 0)) → Ev mt aM (d + 30) 5 [.ref 69, .int a1, .int (I 1 1), .int (I 1 2), .int (1 : Int32)] (SH, mkM I J T) (fun r m1 => Go none aM (Ev mt aM (d + 30)) mX11_slower Q (36, [some (.ref 0), some (.int a1), some (.int (I 1 1))], r.toList ++ [], m1, 0, 0))))) : Go none aM (Ev mt aM (d + 30)) mX11_slower Q (0, [some (.ref 0), some (.int a1), none], [], (SH, mkM I J T), 0, 0) := by
  refine Go.of_run (Ev.mono _) 2 _ ?_
  refine ⟨Nat.le_of_ble_eq_true rfl, ev_X11_isOther ?_⟩
  show Go none aM (Ev mt aM (d + 30)) mX11_slower Q (4, [some (.ref 0), some (.int a1), none], [.int (v_X11_isOther a1)], (SH, mkM I J T), 0, 0)
  refine Go.of_run (Ev.mono _) 1 _ ?_
  show Go none aM (Ev mt aM (d + 30)) mX11_slower Q (if v_X11_isOther a1 = 0 then 7 else 11, [some (.ref 0), some (.int a1), none], [], (SH, mkM I J T), 0, 0)
  rcases Decidable.em (v_X11_isOther a1 = 0) with c1 | c1
  · rw [if_pos c1]
    refine Go.of_run (Ev.mono _) 2 _ ?_
    refine ⟨trivial, ?_⟩
    show Q (some (.long (-1000000000000000000 : Int64))) (SH, mkM I J T)
    exact (hyp.1 c1)
  · rw [if_neg c1]
    refine Go.of_run (Ev.mono _) 13 _ ?_
    refine ⟨Nat.le_of_ble_eq_true rfl, (hyp.2 c1)⟩
set_option maxRecDepth 20000 in
theorem mslower_0 {d : Nat} {a1 : Int32} {I : Nat → Nat → Int32} {J : Nat → Nat → Int64} {T : Nat → Nat → Nat} {Q : Option Value → Mem → Prop} (hyp : ((v_X12_isOther a1 = 0 → Q (some (.long (-1000000000000000000 : Int64))) (SH, mkM I J T)) ∧ ((¬ (v_X12_isOther a1 = 0)) → Ev mt aM (d + 30) 255 [.ref 83, .int (I 83 1), .int (I 83 2), .int (1 : Int32), .int a1] (SH, mkM I J T) (fun r m1 => Go none aM (Ev mt aM (d + 30)) mX12_slower Q (27, [some (.ref 83), some (.int a1)], r.toList ++ [], m1, 0, 0))))) : Go none aM (Ev mt aM (d + 30)) mX12_slower Q (0, [some (.ref 83), some (.int a1)], [], (SH, mkM I J T), 0, 0) := by
  refine Go.of_run (Ev.mono _) 2 _ ?_
  refine ⟨Nat.le_of_ble_eq_true rfl, ev_X12_isOther ?_⟩
  show Go none aM (Ev mt aM (d + 30)) mX12_slower Q (4, [some (.ref 83), some (.int a1)], [.int (v_X12_isOther a1)], (SH, mkM I J T), 0, 0)
  refine Go.of_run (Ev.mono _) 1 _ ?_
  show Go none aM (Ev mt aM (d + 30)) mX12_slower Q (if v_X12_isOther a1 = 0 then 7 else 13, [some (.ref 83), some (.int a1)], [], (SH, mkM I J T), 0, 0)
  rcases Decidable.em (v_X12_isOther a1 = 0) with c1 | c1
  · rw [if_pos c1]
    refine Go.of_run (Ev.mono _) 3 _ ?_
    refine ⟨trivial, ?_⟩
    show Q (some (.long (-1000000000000000000 : Int64))) (SH, mkM I J T)
    exact (hyp.1 c1)
  · rw [if_neg c1]
    refine Go.of_run (Ev.mono _) 8 _ ?_
    refine ⟨Nat.le_of_ble_eq_true rfl, (hyp.2 c1)⟩
set_option maxRecDepth 20000 in
theorem cwrong_0 {d : Nat} {a1 a2 : Int32} {I : Nat → Nat → Int32} {J : Nat → Nat → Int64} {T : Nat → Nat → Nat} {Q : Option Value → Mem → Prop} (hyp : ((a1 < 0 → Q (some (.long (-1 : Int64))) (SH, mkM I J T)) ∧ ((¬ (a1 < 0)) → ((I 76 0 ≤ a1 → Q (some (.long (-1 : Int64))) (SH, mkM I J T)) ∧ ((¬ (I 76 0 ≤ a1)) → ((v_X11_isOther a2 = 0 → Q (some (.long (-1 : Int64))) (SH, mkM I J T)) ∧ ((¬ (v_X11_isOther a2 = 0)) → Ev mt aM (d + 30) 2 [.ref 69, .int a2] (SH, mkM I J T) (fun r m1 => Go none aM (Ev mt aM (d + 30)) mX11_wrong Q (34, [some (.ref 0), some (.int a1), some (.int a2)], r.toList ++ [], m1, 0, 0))))))))) : Go none aM (Ev mt aM (d + 30)) mX11_wrong Q (0, [some (.ref 0), some (.int a1), some (.int a2)], [], (SH, mkM I J T), 0, 0) := by
  refine Go.of_run (Ev.mono _) 2 _ ?_
  show Go none aM (Ev mt aM (d + 30)) mX11_wrong Q (if a1 < 0 then 22 else 4, [some (.ref 0), some (.int a1), some (.int a2)], [], (SH, mkM I J T), 0, 0)
  rcases Decidable.em (a1 < 0) with c1 | c1
  · rw [if_pos c1]
    refine Go.of_run (Ev.mono _) 2 _ ?_
    refine ⟨trivial, ?_⟩
    show Q (some (.long (-1 : Int64))) (SH, mkM I J T)
    exact (hyp.1 c1)
  · rw [if_neg c1]
    refine Go.of_run (Ev.mono _) 5 _ ?_
    show Go none aM (Ev mt aM (d + 30)) mX11_wrong Q (if I 76 0 ≤ a1 then 22 else 15, [some (.ref 0), some (.int a1), some (.int a2)], [], (SH, mkM I J T), 0, 0)
    rcases Decidable.em (I 76 0 ≤ a1) with c2 | c2
    · rw [if_pos c2]
      refine Go.of_run (Ev.mono _) 2 _ ?_
      refine ⟨trivial, ?_⟩
      show Q (some (.long (-1 : Int64))) (SH, mkM I J T)
      exact ((hyp.2 c1).1 c2)
    · rw [if_neg c2]
      refine Go.of_run (Ev.mono _) 2 _ ?_
      refine ⟨Nat.le_of_ble_eq_true rfl, ev_X11_isOther ?_⟩
      show Go none aM (Ev mt aM (d + 30)) mX11_wrong Q (19, [some (.ref 0), some (.int a1), some (.int a2)], [.int (v_X11_isOther a2)], (SH, mkM I J T), 0, 0)
      refine Go.of_run (Ev.mono _) 1 _ ?_
      show Go none aM (Ev mt aM (d + 30)) mX11_wrong Q (if v_X11_isOther a2 = 0 then 22 else 26, [some (.ref 0), some (.int a1), some (.int a2)], [], (SH, mkM I J T), 0, 0)
      rcases Decidable.em (v_X11_isOther a2 = 0) with c3 | c3
      · rw [if_pos c3]
        refine Go.of_run (Ev.mono _) 2 _ ?_
        refine ⟨trivial, ?_⟩
        show Q (some (.long (-1 : Int64))) (SH, mkM I J T)
        exact (((hyp.2 c1).2 c2).1 c3)
      · rw [if_neg c3]
        refine Go.of_run (Ev.mono _) 4 _ ?_
        refine ⟨Nat.le_of_ble_eq_true rfl, (((hyp.2 c1).2 c2).2 c3)⟩
set_option maxRecDepth 20000 in
theorem mwrong_0 {d : Nat} {a1 a2 : Int32} {I : Nat → Nat → Int32} {J : Nat → Nat → Int64} {T : Nat → Nat → Nat} {Q : Option Value → Mem → Prop} (hyp : ((v_X12_in a1 (0 : Int32) ((I 83 48) - (1 : Int32)) = 0 → Q (some (.long (-1 : Int64))) (SH, mkM I J T)) ∧ ((¬ (v_X12_in a1 (0 : Int32) ((I 83 48) - (1 : Int32)) = 0)) → ((v_X12_isOther a2 = 0 → Q (some (.long (-1 : Int64))) (SH, mkM I J T)) ∧ ((¬ (v_X12_isOther a2 = 0)) → Ev mt aM (d + 30) 274 [.ref 83, .int a1, .int a2] (SH, mkM I J T) (fun r m1 => Go none aM (Ev mt aM (d + 30)) mX12_wrong Q (27, [some (.ref 83), some (.int a1), some (.int a2)], r.toList ++ [], m1, 0, 0))))))) : Go none aM (Ev mt aM (d + 30)) mX12_wrong Q (0, [some (.ref 83), some (.int a1), some (.int a2)], [], (SH, mkM I J T), 0, 0) := by
  refine Go.of_run (Ev.mono _) 7 _ ?_
  refine ⟨Nat.le_of_ble_eq_true rfl, ev_X12_in ?_⟩
  show Go none aM (Ev mt aM (d + 30)) mX12_wrong Q (11, [some (.ref 83), some (.int a1), some (.int a2)], [.int (v_X12_in a1 (0 : Int32) ((I 83 48) - (1 : Int32)))], (SH, mkM I J T), 0, 0)
  refine Go.of_run (Ev.mono _) 1 _ ?_
  show Go none aM (Ev mt aM (d + 30)) mX12_wrong Q (if v_X12_in a1 (0 : Int32) ((I 83 48) - (1 : Int32)) = 0 then 30 else 14, [some (.ref 83), some (.int a1), some (.int a2)], [], (SH, mkM I J T), 0, 0)
  rcases Decidable.em (v_X12_in a1 (0 : Int32) ((I 83 48) - (1 : Int32)) = 0) with c1 | c1
  · rw [if_pos c1]
    refine Go.of_run (Ev.mono _) 2 _ ?_
    refine ⟨trivial, ?_⟩
    show Q (some (.long (-1 : Int64))) (SH, mkM I J T)
    exact (hyp.1 c1)
  · rw [if_neg c1]
    refine Go.of_run (Ev.mono _) 2 _ ?_
    refine ⟨Nat.le_of_ble_eq_true rfl, ev_X12_isOther ?_⟩
    show Go none aM (Ev mt aM (d + 30)) mX12_wrong Q (18, [some (.ref 83), some (.int a1), some (.int a2)], [.int (v_X12_isOther a2)], (SH, mkM I J T), 0, 0)
    refine Go.of_run (Ev.mono _) 1 _ ?_
    show Go none aM (Ev mt aM (d + 30)) mX12_wrong Q (if v_X12_isOther a2 = 0 then 30 else 21, [some (.ref 83), some (.int a1), some (.int a2)], [], (SH, mkM I J T), 0, 0)
    rcases Decidable.em (v_X12_isOther a2 = 0) with c2 | c2
    · rw [if_pos c2]
      refine Go.of_run (Ev.mono _) 2 _ ?_
      refine ⟨trivial, ?_⟩
      show Q (some (.long (-1 : Int64))) (SH, mkM I J T)
      exact ((hyp.2 c1).1 c2)
    · rw [if_neg c2]
      refine Go.of_run (Ev.mono _) 4 _ ?_
      refine ⟨Nat.le_of_ble_eq_true rfl, ((hyp.2 c1).2 c2)⟩
set_option maxRecDepth 20000 in
theorem cworst_0 {d : Nat} {a1 a2 : Int32} {I : Nat → Nat → Int32} {J : Nat → Nat → Int64} {T : Nat → Nat → Nat} {Q : Option Value → Mem → Prop} (hyp : ((I 76 0 = 0 → Q (some (.long (-1 : Int64))) (SH, mkM I J T)) ∧ ((¬ (I 76 0 = 0)) → ((v_X11_isOther a1 = 0 → Q (some (.long (-1 : Int64))) (SH, mkM I J T)) ∧ ((¬ (v_X11_isOther a1 = 0)) → ((a2 < 0 → Q (some (.long (-1 : Int64))) (SH, mkM I J T)) ∧ ((¬ (a2 < 0)) → ((a2 ≤ (1 : Int32) → Ev mt aM (d + 30) 2 [.ref 69, .int a1] (SH, mkM I J T) (fun r m1 => Go none aM (Ev mt aM (d + 30)) mX11_worst Q (38, [some (.ref 0), some (.int a1), some (.int a2), none, none, none, none, none, none], r.toList ++ [], m1, 0, 0))) ∧ ((¬ (a2 ≤ (1 : Int32))) → Q (some (.long (-1 : Int64))) (SH, mkM I J T)))))))))) : Go none aM (Ev mt aM (d + 30)) mX11_worst Q (0, [some (.ref 0), some (.int a1), some (.int a2), none, none, none, none, none, none], [], (SH, mkM I J T), 0, 0) := by
  refine Go.of_run (Ev.mono _) 4 _ ?_
  show Go none aM (Ev mt aM (d + 30)) mX11_worst Q (if I 76 0 = 0 then 26 else 10, [some (.ref 0), some (.int a1), some (.int a2), none, none, none, none, none, none], [], (SH, mkM I J T), 0, 0)
  rcases Decidable.em (I 76 0 = 0) with c1 | c1
  · rw [if_pos c1]
    refine Go.of_run (Ev.mono _) 2 _ ?_
    refine ⟨trivial, ?_⟩
    show Q (some (.long (-1 : Int64))) (SH, mkM I J T)
    exact (hyp.1 c1)
  · rw [if_neg c1]
    refine Go.of_run (Ev.mono _) 2 _ ?_
    refine ⟨Nat.le_of_ble_eq_true rfl, ev_X11_isOther ?_⟩
    show Go none aM (Ev mt aM (d + 30)) mX11_worst Q (14, [some (.ref 0), some (.int a1), some (.int a2), none, none, none, none, none, none], [.int (v_X11_isOther a1)], (SH, mkM I J T), 0, 0)
    refine Go.of_run (Ev.mono _) 1 _ ?_
    show Go none aM (Ev mt aM (d + 30)) mX11_worst Q (if v_X11_isOther a1 = 0 then 26 else 17, [some (.ref 0), some (.int a1), some (.int a2), none, none, none, none, none, none], [], (SH, mkM I J T), 0, 0)
    rcases Decidable.em (v_X11_isOther a1 = 0) with c2 | c2
    · rw [if_pos c2]
      refine Go.of_run (Ev.mono _) 2 _ ?_
      refine ⟨trivial, ?_⟩
      show Q (some (.long (-1 : Int64))) (SH, mkM I J T)
      exact ((hyp.2 c1).1 c2)
    · rw [if_neg c2]
      refine Go.of_run (Ev.mono _) 2 _ ?_
      show Go none aM (Ev mt aM (d + 30)) mX11_worst Q (if a2 < 0 then 26 else 21, [some (.ref 0), some (.int a1), some (.int a2), none, none, none, none, none, none], [], (SH, mkM I J T), 0, 0)
      rcases Decidable.em (a2 < 0) with c3 | c3
      · rw [if_pos c3]
        refine Go.of_run (Ev.mono _) 2 _ ?_
        refine ⟨trivial, ?_⟩
        show Q (some (.long (-1 : Int64))) (SH, mkM I J T)
        exact (((hyp.2 c1).2 c2).1 c3)
      · rw [if_neg c3]
        refine Go.of_run (Ev.mono _) 3 _ ?_
        show Go none aM (Ev mt aM (d + 30)) mX11_worst Q (if a2 ≤ (1 : Int32) then 30 else 26, [some (.ref 0), some (.int a1), some (.int a2), none, none, none, none, none, none], [], (SH, mkM I J T), 0, 0)
        rcases Decidable.em (a2 ≤ (1 : Int32)) with c4 | c4
        · rw [if_pos c4]
          refine Go.of_run (Ev.mono _) 4 _ ?_
          refine ⟨Nat.le_of_ble_eq_true rfl, ((((hyp.2 c1).2 c2).2 c3).1 c4)⟩
        · rw [if_neg c4]
          refine Go.of_run (Ev.mono _) 2 _ ?_
          refine ⟨trivial, ?_⟩
          show Q (some (.long (-1 : Int64))) (SH, mkM I J T)
          exact ((((hyp.2 c1).2 c2).2 c3).2 c4)
set_option maxRecDepth 20000 in
theorem mworst_0 {d : Nat} {a1 a2 : Int32} {I : Nat → Nat → Int32} {J : Nat → Nat → Int64} {T : Nat → Nat → Nat} {Q : Option Value → Mem → Prop} (hyp : ((I 83 48 = 0 → Q (some (.long (-1 : Int64))) (SH, mkM I J T)) ∧ ((¬ (I 83 48 = 0)) → ((v_X12_isOther a1 = 0 → Q (some (.long (-1 : Int64))) (SH, mkM I J T)) ∧ ((¬ (v_X12_isOther a1 = 0)) → ((v_X12_in a2 (0 : Int32) (1 : Int32) = 0 → Q (some (.long (-1 : Int64))) (SH, mkM I J T)) ∧ ((¬ (v_X12_in a2 (0 : Int32) (1 : Int32) = 0)) → Ev mt aM (d + 30) 274 [.ref 83, .int (0 : Int32), .int a1] (SH, mkM I J T) (fun r m1 => Go none aM (Ev mt aM (d + 30)) mX12_worst Q (35, [some (.ref 83), some (.int a1), some (.int a2), some (.int (0 : Int32)), none, none, none, none, none], r.toList ++ [], m1, 0, 0))))))))) : Go none aM (Ev mt aM (d + 30)) mX12_worst Q (0, [some (.ref 83), some (.int a1), some (.int a2), none, none, none, none, none, none], [], (SH, mkM I J T), 0, 0) := by
  refine Go.of_run (Ev.mono _) 3 _ ?_
  show Go none aM (Ev mt aM (d + 30)) mX12_worst Q (if I 83 48 = 0 then 23 else 7, [some (.ref 83), some (.int a1), some (.int a2), none, none, none, none, none, none], [], (SH, mkM I J T), 0, 0)
  rcases Decidable.em (I 83 48 = 0) with c1 | c1
  · rw [if_pos c1]
    refine Go.of_run (Ev.mono _) 2 _ ?_
    refine ⟨trivial, ?_⟩
    show Q (some (.long (-1 : Int64))) (SH, mkM I J T)
    exact (hyp.1 c1)
  · rw [if_neg c1]
    refine Go.of_run (Ev.mono _) 2 _ ?_
    refine ⟨Nat.le_of_ble_eq_true rfl, ev_X12_isOther ?_⟩
    show Go none aM (Ev mt aM (d + 30)) mX12_worst Q (11, [some (.ref 83), some (.int a1), some (.int a2), none, none, none, none, none, none], [.int (v_X12_isOther a1)], (SH, mkM I J T), 0, 0)
    refine Go.of_run (Ev.mono _) 1 _ ?_
    show Go none aM (Ev mt aM (d + 30)) mX12_worst Q (if v_X12_isOther a1 = 0 then 23 else 14, [some (.ref 83), some (.int a1), some (.int a2), none, none, none, none, none, none], [], (SH, mkM I J T), 0, 0)
    rcases Decidable.em (v_X12_isOther a1 = 0) with c2 | c2
    · rw [if_pos c2]
      refine Go.of_run (Ev.mono _) 2 _ ?_
      refine ⟨trivial, ?_⟩
      show Q (some (.long (-1 : Int64))) (SH, mkM I J T)
      exact ((hyp.2 c1).1 c2)
    · rw [if_neg c2]
      refine Go.of_run (Ev.mono _) 4 _ ?_
      refine ⟨Nat.le_of_ble_eq_true rfl, ev_X12_in ?_⟩
      show Go none aM (Ev mt aM (d + 30)) mX12_worst Q (20, [some (.ref 83), some (.int a1), some (.int a2), none, none, none, none, none, none], [.int (v_X12_in a2 (0 : Int32) (1 : Int32))], (SH, mkM I J T), 0, 0)
      refine Go.of_run (Ev.mono _) 1 _ ?_
      show Go none aM (Ev mt aM (d + 30)) mX12_worst Q (if v_X12_in a2 (0 : Int32) (1 : Int32) = 0 then 23 else 27, [some (.ref 83), some (.int a1), some (.int a2), none, none, none, none, none, none], [], (SH, mkM I J T), 0, 0)
      rcases Decidable.em (v_X12_in a2 (0 : Int32) (1 : Int32) = 0) with c3 | c3
      · rw [if_pos c3]
        refine Go.of_run (Ev.mono _) 2 _ ?_
        refine ⟨trivial, ?_⟩
        show Q (some (.long (-1 : Int64))) (SH, mkM I J T)
        exact (((hyp.2 c1).2 c2).1 c3)
      · rw [if_neg c3]
        refine Go.of_run (Ev.mono _) 6 _ ?_
        refine ⟨Nat.le_of_ble_eq_true rfl, (((hyp.2 c1).2 c2).2 c3)⟩
set_option maxRecDepth 20000 in
theorem cwrongIn_0 {d : Nat} {a1 : Int32} {I : Nat → Nat → Int32} {J : Nat → Nat → Int64} {T : Nat → Nat → Nat} {Q : Option Value → Mem → Prop} (hyp : (vp_in a1 6 ∧ (vp_in a1 6 ∧ Ev mt aM (d + 30) 6 [.ref 69, .int a1, .int (v_X1_scoreBehind a1 I), .int (v_X1_codeBehind a1 I)] (SH, mkM I J T) (fun r m1 => Go none aM (Ev mt aM (d + 30)) mX11_wrongIn Q (28, [some (.ref 0), some (.int a1), some (.int (v_X1_scoreBehind a1 I)), some (.int (v_X1_codeBehind a1 I)), none, none, none], r.toList ++ [], m1, 0, 0))))) : Go none aM (Ev mt aM (d + 30)) mX11_wrongIn Q (0, [some (.ref 0), some (.int a1), none, none, none, none, none], [], (SH, mkM I J T), 0, 0) := by
  refine Go.of_run (Ev.mono _) 4 _ ?_
  refine ⟨Nat.le_of_ble_eq_true rfl, ev_X1_scoreBehind hyp.1 ?_⟩
  show Go none aM (Ev mt aM (d + 30)) mX11_wrongIn Q (8, [some (.ref 0), some (.int a1), none, none, none, none, none], [.int (v_X1_scoreBehind a1 I)], (SH, mkM I J T), 0, 0)
  refine Go.of_run (Ev.mono _) 5 _ ?_
  refine ⟨Nat.le_of_ble_eq_true rfl, ev_X1_codeBehind hyp.2.1 ?_⟩
  show Go none aM (Ev mt aM (d + 30)) mX11_wrongIn Q (17, [some (.ref 0), some (.int a1), some (.int (v_X1_scoreBehind a1 I)), none, none, none, none], [.int (v_X1_codeBehind a1 I)], (SH, mkM I J T), 0, 0)
  refine Go.of_run (Ev.mono _) 7 _ ?_
  refine ⟨Nat.le_of_ble_eq_true rfl, hyp.2.2⟩
set_option maxRecDepth 20000 in
theorem mwrongIn_0 {d : Nat} {a1 a2 : Int32} {I : Nat → Nat → Int32} {J : Nat → Nat → Int64} {T : Nat → Nat → Nat} {Q : Option Value → Mem → Prop} (hyp : (vp_in a1 6 ∧ (vp_in a1 6 ∧ Ev mt aM (d + 30) 248 [.ref 83, .int a1, .int ((si (si I 113 0 (1536 : Int32)) 114 0 (0 : Int32)) 114 a1.toNatClampNeg), .int ((si I 113 0 (1536 : Int32)) 113 a1.toNatClampNeg), .int (-1 : Int32), .int a2] (SH, mkM (si (si I 113 0 (1536 : Int32)) 114 0 (0 : Int32)) J T) (fun r m1 => Go none aM (Ev mt aM (d + 30)) mX12_wrongIn Q (23, [some (.ref 83), some (.int a1), some (.int a2), none, none, none], r.toList ++ [], m1, 0, 0))))) : Go none aM (Ev mt aM (d + 30)) mX12_wrongIn Q (0, [some (.ref 83), some (.int a1), some (.int a2), none, none, none], [], (SH, mkM I J T), 0, 0) := by
  refine Go.of_run (Ev.mono _) 2 _ ?_
  refine ⟨Nat.le_of_ble_eq_true rfl, ev_X12_begins ?_⟩
  show Go none aM (Ev mt aM (d + 30)) mX12_wrongIn Q (4, [some (.ref 83), some (.int a1), some (.int a2), none, none, none], [], (SH, mkM (si (si I 113 0 (1536 : Int32)) 114 0 (0 : Int32)) J T), 0, 0)
  refine Go.of_run (Ev.mono _) 6 _ ?_
  refine ⟨hyp.1, ?_⟩
  show Go none aM (Ev mt aM (d + 30)) mX12_wrongIn Q (12, [some (.ref 83), some (.int a1), some (.int a2), none, none, none], [.int ((si (si I 113 0 (1536 : Int32)) 114 0 (0 : Int32)) 114 a1.toNatClampNeg), .int a1, .ref 83], (SH, mkM (si (si I 113 0 (1536 : Int32)) 114 0 (0 : Int32)) J T), 0, 0)
  refine Go.of_run (Ev.mono _) 4 _ ?_
  refine ⟨hyp.2.1, ?_⟩
  show Go none aM (Ev mt aM (d + 30)) mX12_wrongIn Q (18, [some (.ref 83), some (.int a1), some (.int a2), none, none, none], [.int ((si I 113 0 (1536 : Int32)) 113 a1.toNatClampNeg), .int ((si (si I 113 0 (1536 : Int32)) 114 0 (0 : Int32)) 114 a1.toNatClampNeg), .int a1, .ref 83], (SH, mkM (si (si I 113 0 (1536 : Int32)) 114 0 (0 : Int32)) J T), 0, 0)
  refine Go.of_run (Ev.mono _) 3 _ ?_
  refine ⟨Nat.le_of_ble_eq_true rfl, hyp.2.2⟩
set_option maxRecDepth 20000 in
theorem mfirstWith_0 {d : Nat} {a1 a2 a3 a4 : Int32} {I : Nat → Nat → Int32} {J : Nat → Nat → Int64} {T : Nat → Nat → Nat} {Q : Option Value → Mem → Prop} (hyp : Ev mt aM (d + 30) 248 [.ref 83, .int (0 : Int32), .int (0 : Int32), .int (1536 : Int32), .int (-1 : Int32), .int a4] (SH, mkM (si (si (si I 83 34 a1) 83 35 a2) 83 36 a3) J T) (fun r m1 => Go none aM (Ev mt aM (d + 30)) mX12_firstWith Q (27, [some (.ref 83), some (.int a1), some (.int a2), some (.int a3), some (.int a4), none, none], r.toList ++ [], m1, 0, 0))) : Go none aM (Ev mt aM (d + 30)) mX12_firstWith Q (0, [some (.ref 83), some (.int a1), some (.int a2), some (.int a3), some (.int a4), none, none], [], (SH, mkM I J T), 0, 0) := by
  refine Go.of_run (Ev.mono _) 3 _ ?_
  refine go_si rfl ?_
  show Go none aM (Ev mt aM (d + 30)) mX12_firstWith Q (5, [some (.ref 83), some (.int a1), some (.int a2), some (.int a3), some (.int a4), none, none], [], (SH, mkM (si I 83 34 a1) J T), 0, 0)
  refine Go.of_run (Ev.mono _) 3 _ ?_
  refine go_si rfl ?_
  show Go none aM (Ev mt aM (d + 30)) mX12_firstWith Q (10, [some (.ref 83), some (.int a1), some (.int a2), some (.int a3), some (.int a4), none, none], [], (SH, mkM (si (si I 83 34 a1) 83 35 a2) J T), 0, 0)
  refine Go.of_run (Ev.mono _) 3 _ ?_
  refine go_si rfl ?_
  show Go none aM (Ev mt aM (d + 30)) mX12_firstWith Q (15, [some (.ref 83), some (.int a1), some (.int a2), some (.int a3), some (.int a4), none, none], [], (SH, mkM (si (si (si I 83 34 a1) 83 35 a2) 83 36 a3) J T), 0, 0)
  refine Go.of_run (Ev.mono _) 7 _ ?_
  refine ⟨Nat.le_of_ble_eq_true rfl, hyp⟩
set_option maxRecDepth 20000 in
theorem cbest_77 {d : Nat} {a1 a2 a3 a4 a5 : Int32} {I : Nat → Nat → Int32} {J : Nat → Nat → Int64} {T : Nat → Nat → Nat} {Q : Option Value → Mem → Prop} (hyp : ((a5 = 0 → Ev mt aM (d + 30) 6 [.ref 69, .int a1, .int a2, .int a3] (SH, mkM I J T) (fun r m1 => Go none aM (Ev mt aM (d + 30)) mX11_best Q (92, [some (.ref 0), some (.int a1), some (.int a2), some (.int a3), some (.int a4), some (.int a5)], r.toList ++ [], m1, 0, 0))) ∧ ((¬ (a5 = 0)) → Ev mt aM (d + 30) 7 [.ref 69, .int a1, .int a2, .int a3] (SH, mkM I J T) (fun r m1 => Go none aM (Ev mt aM (d + 30)) mX11_best Q (105, [some (.ref 0), some (.int a1), some (.int a2), some (.int a3), some (.int a4), some (.int a5)], r.toList ++ [], m1, 0, 0))))) : Go none aM (Ev mt aM (d + 30)) mX11_best Q (77, [some (.ref 0), some (.int a1), some (.int a2), some (.int a3), some (.int a4), some (.int a5)], [], (SH, mkM I J T), 0, 0) := by
  refine Go.of_run (Ev.mono _) 2 _ ?_
  show Go none aM (Ev mt aM (d + 30)) mX11_best Q (if a5 = 0 then 82 else 95, [some (.ref 0), some (.int a1), some (.int a2), some (.int a3), some (.int a4), some (.int a5)], [], (SH, mkM I J T), 0, 0)
  rcases Decidable.em (a5 = 0) with c1 | c1
  · rw [if_pos c1]
    refine Go.of_run (Ev.mono _) 6 _ ?_
    refine ⟨Nat.le_of_ble_eq_true rfl, (hyp.1 c1)⟩
  · rw [if_neg c1]
    refine Go.of_run (Ev.mono _) 6 _ ?_
    refine ⟨Nat.le_of_ble_eq_true rfl, (hyp.2 c1)⟩
set_option maxRecDepth 20000 in
theorem cbest_92 {d : Nat} {a1 a2 a3 a4 a5 : Int32} {v : Int64} {I : Nat → Nat → Int32} {J : Nat → Nat → Int64} {T : Nat → Nat → Nat} {Q : Option Value → Mem → Prop} (hyp : Q (some (.long v)) (SH, mkM I J T)) : Go none aM (Ev mt aM (d + 30)) mX11_best Q (92, [some (.ref 0), some (.int a1), some (.int a2), some (.int a3), some (.int a4), some (.int a5)], [.long v], (SH, mkM I J T), 0, 0) := by
  refine Go.of_run (Ev.mono _) 2 _ ?_
  refine ⟨trivial, ?_⟩
  show Q (some (.long v)) (SH, mkM I J T)
  exact hyp
set_option maxRecDepth 20000 in
theorem cbest_105 {d : Nat} {a1 a2 a3 a4 a5 v : Int32} {I : Nat → Nat → Int32} {J : Nat → Nat → Int64} {T : Nat → Nat → Nat} {Q : Option Value → Mem → Prop} (hyp : Q (some (.long v.toInt64)) (SH, mkM I J T)) : Go none aM (Ev mt aM (d + 30)) mX11_best Q (105, [some (.ref 0), some (.int a1), some (.int a2), some (.int a3), some (.int a4), some (.int a5)], [.int v], (SH, mkM I J T), 0, 0) := by
  refine Go.of_run (Ev.mono _) 2 _ ?_
  refine ⟨trivial, ?_⟩
  show Q (some (.long v.toInt64)) (SH, mkM I J T)
  exact hyp
set_option maxRecDepth 20000 in
theorem mbest_40 {d : Nat} {a1 a2 a3 a4 a5 : Int32} {v : Int64} {I : Nat → Nat → Int32} {J : Nat → Nat → Int64} {T : Nat → Nat → Nat} {Q : Option Value → Mem → Prop} (hyp : ((a5 = 0 → Q (some (.long v)) (SH, mkM I J T)) ∧ ((¬ (a5 = 0)) → ((a1 = I 83 0 → Q (some (.long (-1 : Int64))) (SH, mkM I J T)) ∧ ((¬ (a1 = I 83 0)) → (vp_in (v_X12_placeIn a1 a2 (v_X12_taken a3 I)) 61440 ∧ Q (some (.long ((I 111 ((v_X12_placeIn a1 a2 (v_X12_taken a3 I)).toNatClampNeg)).toInt64))) (SH, mkM I J T))))))) : Go none aM (Ev mt aM (d + 30)) mX12_best Q (40, [some (.ref 83), some (.int a1), some (.int a2), some (.int a3), some (.int a4), some (.int a5), none, none], [.long v], (SH, mkM I J T), 0, 0) := by
  refine Go.of_run (Ev.mono _) 3 _ ?_
  show Go none aM (Ev mt aM (d + 30)) mX12_best Q (if a5 = 0 then 47 else 52, [some (.ref 83), some (.int a1), some (.int a2), some (.int a3), some (.int a4), some (.int a5), some (.long v), none], [], (SH, mkM I J T), 0, 0)
  rcases Decidable.em (a5 = 0) with c1 | c1
  · rw [if_pos c1]
    refine Go.of_run (Ev.mono _) 3 _ ?_
    refine ⟨trivial, ?_⟩
    show Q (some (.long v)) (SH, mkM I J T)
    exact (hyp.1 c1)
  · rw [if_neg c1]
    refine Go.of_run (Ev.mono _) 4 _ ?_
    show Go none aM (Ev mt aM (d + 30)) mX12_best Q (if a1 = I 83 0 then 60 else 66, [some (.ref 83), some (.int a1), some (.int a2), some (.int a3), some (.int a4), some (.int a5), some (.long v), none], [], (SH, mkM I J T), 0, 0)
    rcases Decidable.em (a1 = I 83 0) with c2 | c2
    · rw [if_pos c2]
      refine Go.of_run (Ev.mono _) 3 _ ?_
      refine ⟨trivial, ?_⟩
      show Q (some (.long (-1 : Int64))) (SH, mkM I J T)
      exact ((hyp.2 c1).1 c2)
    · rw [if_neg c2]
      refine Go.of_run (Ev.mono _) 7 _ ?_
      refine ⟨Nat.le_of_ble_eq_true rfl, ev_X12_taken ?_⟩
      show Go none aM (Ev mt aM (d + 30)) mX12_best Q (77, [some (.ref 83), some (.int a1), some (.int a2), some (.int a3), some (.int a4), some (.int a5), some (.long v), none], [.int (v_X12_taken a3 I), .int a2, .int a1, .ref 111], (SH, mkM I J T), 0, 0)
      refine Go.of_run (Ev.mono _) 1 _ ?_
      refine ⟨Nat.le_of_ble_eq_true rfl, ev_X12_placeIn ?_⟩
      show Go none aM (Ev mt aM (d + 30)) mX12_best Q (80, [some (.ref 83), some (.int a1), some (.int a2), some (.int a3), some (.int a4), some (.int a5), some (.long v), none], [.int (v_X12_placeIn a1 a2 (v_X12_taken a3 I)), .ref 111], (SH, mkM I J T), 0, 0)
      refine Go.of_run (Ev.mono _) 1 _ ?_
      refine ⟨((hyp.2 c1).2 c2).1, ?_⟩
      show Go none aM (Ev mt aM (d + 30)) mX12_best Q (81, [some (.ref 83), some (.int a1), some (.int a2), some (.int a3), some (.int a4), some (.int a5), some (.long v), none], [.int (I 111 ((v_X12_placeIn a1 a2 (v_X12_taken a3 I)).toNatClampNeg))], (SH, mkM I J T), 0, 0)
      refine Go.of_run (Ev.mono _) 2 _ ?_
      refine ⟨trivial, ?_⟩
      show Q (some (.long ((I 111 ((v_X12_placeIn a1 a2 (v_X12_taken a3 I)).toNatClampNeg)).toInt64))) (SH, mkM I J T)
      exact ((hyp.2 c1).2 c2).2
set_option maxRecDepth 20000 in
theorem cby_83 {d : Nat} {a1 a2 a3 a4 a5 a6 : Int32} {I : Nat → Nat → Int32} {J : Nat → Nat → Int64} {T : Nat → Nat → Nat} {Q : Option Value → Mem → Prop} (hyp : ((a6 = 0 → Q (some (.long (v_X10_value I J))) (SH, mkM I J T)) ∧ ((¬ (a6 = 0)) → (vp_in (a6 - (1 : Int32)) 3 ∧ Q (some (.long (v_X10_likely (a6 - (1 : Int32)) J))) (SH, mkM I J T))))) : Go none aM (Ev mt aM (d + 30)) mX11_by Q (83, [some (.ref 0), some (.int a1), some (.int a2), some (.int a3), some (.int a4), some (.int a5), some (.int a6)], [], (SH, mkM I J T), 0, 0) := by
  refine Go.of_run (Ev.mono _) 2 _ ?_
  show Go none aM (Ev mt aM (d + 30)) mX11_by Q (if a6 = 0 then 88 else 98, [some (.ref 0), some (.int a1), some (.int a2), some (.int a3), some (.int a4), some (.int a5), some (.int a6)], [], (SH, mkM I J T), 0, 0)
  rcases Decidable.em (a6 = 0) with c1 | c1
  · rw [if_pos c1]
    refine Go.of_run (Ev.mono _) 3 _ ?_
    refine ⟨Nat.le_of_ble_eq_true rfl, ev_X10_value ?_⟩
    show Go none aM (Ev mt aM (d + 30)) mX11_by Q (95, [some (.ref 0), some (.int a1), some (.int a2), some (.int a3), some (.int a4), some (.int a5), some (.int a6)], [.long (v_X10_value I J)], (SH, mkM I J T), 0, 0)
    refine Go.of_run (Ev.mono _) 2 _ ?_
    refine ⟨trivial, ?_⟩
    show Q (some (.long (v_X10_value I J))) (SH, mkM I J T)
    exact (hyp.1 c1)
  · rw [if_neg c1]
    refine Go.of_run (Ev.mono _) 6 _ ?_
    refine ⟨Nat.le_of_ble_eq_true rfl, ev_X10_likely (hyp.2 c1).1 ?_⟩
    show Go none aM (Ev mt aM (d + 30)) mX11_by Q (109, [some (.ref 0), some (.int a1), some (.int a2), some (.int a3), some (.int a4), some (.int a5), some (.int a6)], [.long (v_X10_likely (a6 - (1 : Int32)) J)], (SH, mkM I J T), 0, 0)
    refine Go.of_run (Ev.mono _) 1 _ ?_
    refine ⟨trivial, ?_⟩
    show Q (some (.long (v_X10_likely (a6 - (1 : Int32)) J))) (SH, mkM I J T)
    exact (hyp.2 c1).2
set_option maxRecDepth 20000 in
theorem mby_50 {d : Nat} {a1 a2 a3 a4 a5 a6 : Int32} {v : Int64} {I : Nat → Nat → Int32} {J : Nat → Nat → Int64} {T : Nat → Nat → Nat} {Q : Option Value → Mem → Prop} (hyp : ((a6 = 0 → Q (some (.long v)) (SH, mkM I J T)) ∧ ((¬ (a6 = 0)) → ((a6 = (1 : Int32) → (vp_in (v_X12_placeIn a2 a3 (v_X12_taken a4 I)) 61440 ∧ Q (some (.long (J 108 ((v_X12_placeIn a2 a3 (v_X12_taken a4 I)).toNatClampNeg)))) (SH, mkM I J T))) ∧ ((¬ (a6 = (1 : Int32))) → ((a6 = (2 : Int32) → (vp_in (v_X12_placeIn a2 a3 (v_X12_taken a4 I)) 61440 ∧ Q (some (.long (J 109 ((v_X12_placeIn a2 a3 (v_X12_taken a4 I)).toNatClampNeg)))) (SH, mkM I J T))) ∧ ((¬ (a6 = (2 : Int32))) → (vp_in (v_X12_placeIn a2 a3 (v_X12_taken a4 I)) 61440 ∧ Q (some (.long (J 110 ((v_X12_placeIn a2 a3 (v_X12_taken a4 I)).toNatClampNeg)))) (SH, mkM I J T))))))))) : Go none aM (Ev mt aM (d + 30)) mX12_by Q (50, [some (.ref 83), some (.int a1), some (.int a2), some (.int a3), some (.int a4), some (.int a5), some (.int a6), none, none, none], [.long v], (SH, mkM I J T), 0, 0) := by
  refine Go.of_run (Ev.mono _) 6 _ ?_
  refine ⟨Nat.le_of_ble_eq_true rfl, ev_X12_taken ?_⟩
  show Go none aM (Ev mt aM (d + 30)) mX12_by Q (60, [some (.ref 83), some (.int a1), some (.int a2), some (.int a3), some (.int a4), some (.int a5), some (.int a6), some (.long v), none, none], [.int (v_X12_taken a4 I), .int a3, .int a2], (SH, mkM I J T), 0, 0)
  refine Go.of_run (Ev.mono _) 1 _ ?_
  refine ⟨Nat.le_of_ble_eq_true rfl, ev_X12_placeIn ?_⟩
  show Go none aM (Ev mt aM (d + 30)) mX12_by Q (63, [some (.ref 83), some (.int a1), some (.int a2), some (.int a3), some (.int a4), some (.int a5), some (.int a6), some (.long v), none, none], [.int (v_X12_placeIn a2 a3 (v_X12_taken a4 I))], (SH, mkM I J T), 0, 0)
  refine Go.of_run (Ev.mono _) 3 _ ?_
  show Go none aM (Ev mt aM (d + 30)) mX12_by Q (if a6 = 0 then 70 else 75, [some (.ref 83), some (.int a1), some (.int a2), some (.int a3), some (.int a4), some (.int a5), some (.int a6), some (.long v), none, some (.int (v_X12_placeIn a2 a3 (v_X12_taken a4 I)))], [], (SH, mkM I J T), 0, 0)
  rcases Decidable.em (a6 = 0) with c1 | c1
  · rw [if_pos c1]
    refine Go.of_run (Ev.mono _) 3 _ ?_
    refine ⟨trivial, ?_⟩
    show Q (some (.long v)) (SH, mkM I J T)
    exact (hyp.1 c1)
  · rw [if_neg c1]
    refine Go.of_run (Ev.mono _) 3 _ ?_
    show Go none aM (Ev mt aM (d + 30)) mX12_by Q (if a6 = (1 : Int32) then 81 else 91, [some (.ref 83), some (.int a1), some (.int a2), some (.int a3), some (.int a4), some (.int a5), some (.int a6), some (.long v), none, some (.int (v_X12_placeIn a2 a3 (v_X12_taken a4 I)))], [], (SH, mkM I J T), 0, 0)
    rcases Decidable.em (a6 = (1 : Int32)) with c2 | c2
    · rw [if_pos c2]
      refine Go.of_run (Ev.mono _) 4 _ ?_
      refine ⟨((hyp.2 c1).1 c2).1, ?_⟩
      show Go none aM (Ev mt aM (d + 30)) mX12_by Q (88, [some (.ref 83), some (.int a1), some (.int a2), some (.int a3), some (.int a4), some (.int a5), some (.int a6), some (.long v), none, some (.int (v_X12_placeIn a2 a3 (v_X12_taken a4 I)))], [.long (J 108 ((v_X12_placeIn a2 a3 (v_X12_taken a4 I)).toNatClampNeg))], (SH, mkM I J T), 0, 0)
      refine Go.of_run (Ev.mono _) 2 _ ?_
      refine ⟨trivial, ?_⟩
      show Q (some (.long (J 108 ((v_X12_placeIn a2 a3 (v_X12_taken a4 I)).toNatClampNeg)))) (SH, mkM I J T)
      exact ((hyp.2 c1).1 c2).2
    · rw [if_neg c2]
      refine Go.of_run (Ev.mono _) 3 _ ?_
      show Go none aM (Ev mt aM (d + 30)) mX12_by Q (if a6 = (2 : Int32) then 97 else 107, [some (.ref 83), some (.int a1), some (.int a2), some (.int a3), some (.int a4), some (.int a5), some (.int a6), some (.long v), none, some (.int (v_X12_placeIn a2 a3 (v_X12_taken a4 I)))], [], (SH, mkM I J T), 0, 0)
      rcases Decidable.em (a6 = (2 : Int32)) with c3 | c3
      · rw [if_pos c3]
        refine Go.of_run (Ev.mono _) 4 _ ?_
        refine ⟨(((hyp.2 c1).2 c2).1 c3).1, ?_⟩
        show Go none aM (Ev mt aM (d + 30)) mX12_by Q (104, [some (.ref 83), some (.int a1), some (.int a2), some (.int a3), some (.int a4), some (.int a5), some (.int a6), some (.long v), none, some (.int (v_X12_placeIn a2 a3 (v_X12_taken a4 I)))], [.long (J 109 ((v_X12_placeIn a2 a3 (v_X12_taken a4 I)).toNatClampNeg))], (SH, mkM I J T), 0, 0)
        refine Go.of_run (Ev.mono _) 2 _ ?_
        refine ⟨trivial, ?_⟩
        show Q (some (.long (J 109 ((v_X12_placeIn a2 a3 (v_X12_taken a4 I)).toNatClampNeg)))) (SH, mkM I J T)
        exact (((hyp.2 c1).2 c2).1 c3).2
      · rw [if_neg c3]
        refine Go.of_run (Ev.mono _) 4 _ ?_
        refine ⟨(((hyp.2 c1).2 c2).2 c3).1, ?_⟩
        show Go none aM (Ev mt aM (d + 30)) mX12_by Q (114, [some (.ref 83), some (.int a1), some (.int a2), some (.int a3), some (.int a4), some (.int a5), some (.int a6), some (.long v), none, some (.int (v_X12_placeIn a2 a3 (v_X12_taken a4 I)))], [.long (J 110 ((v_X12_placeIn a2 a3 (v_X12_taken a4 I)).toNatClampNeg))], (SH, mkM I J T), 0, 0)
        refine Go.of_run (Ev.mono _) 1 _ ?_
        refine ⟨trivial, ?_⟩
        show Q (some (.long (J 110 ((v_X12_placeIn a2 a3 (v_X12_taken a4 I)).toNatClampNeg)))) (SH, mkM I J T)
        exact (((hyp.2 c1).2 c2).2 c3).2
set_option maxRecDepth 20000 in
theorem cedge_24 {d : Nat} {a1 a2 : Int32} {I : Nat → Nat → Int32} {J : Nat → Nat → Int64} {T : Nat → Nat → Nat} {Q : Option Value → Mem → Prop} (hyp : Go none aM (Ev mt aM (d + 30)) mX11_edge Q (26, [some (.ref 0), some (.int a1), none, some (.int (0 : Int32))], [], (SH, mkM I J T), 0, 0)) : Go none aM (Ev mt aM (d + 30)) mX11_edge Q (24, [some (.ref 0), some (.int a1), some (.int a2), none], [], (SH, mkM I J T), 0, 0) := by
  refine Go.of_run (Ev.mono _) 2 _ ?_
  exact Go.weak (Ev.mono _) (LLe.cons (LLe.cons (LLe.drop (LLe.cons LLe.nil)))) hyp
set_option maxRecDepth 20000 in
theorem cedge_26 {d : Nat} {a1 p : Int32} {I : Nat → Nat → Int32} {J : Nat → Nat → Int64} {T : Nat → Nat → Nat} {Q : Option Value → Mem → Prop} (hyp : ((I 1 0 ≤ p → Q (some (.int (-2 : Int32))) (SH, mkM I J T)) ∧ ((¬ (I 1 0 ≤ p)) → Ev mt aM (d + 30) 7 [.ref 69, .int p, .int a1, .int (3000 : Int32)] (SH, mkM I J T) (fun r m1 => Go none aM (Ev mt aM (d + 30)) mX11_edge Q (49, [some (.ref 0), some (.int a1), none, some (.int p)], r.toList ++ [], m1, 0, 0))))) : Go none aM (Ev mt aM (d + 30)) mX11_edge Q (26, [some (.ref 0), some (.int a1), none, some (.int p)], [], (SH, mkM I J T), 0, 0) := by
  refine Go.of_run (Ev.mono _) 5 _ ?_
  show Go none aM (Ev mt aM (d + 30)) mX11_edge Q (if I 1 0 ≤ p then 60 else 37, [some (.ref 0), some (.int a1), none, some (.int p)], [], (SH, mkM I J T), 0, 0)
  rcases Decidable.em (I 1 0 ≤ p) with c1 | c1
  · rw [if_pos c1]
    refine Go.of_run (Ev.mono _) 2 _ ?_
    refine ⟨trivial, ?_⟩
    show Q (some (.int (-2 : Int32))) (SH, mkM I J T)
    exact (hyp.1 c1)
  · rw [if_neg c1]
    refine Go.of_run (Ev.mono _) 6 _ ?_
    refine ⟨Nat.le_of_ble_eq_true rfl, (hyp.2 c1)⟩
set_option maxRecDepth 20000 in
theorem cedge_49 {d : Nat} {a1 p v : Int32} {I : Nat → Nat → Int32} {J : Nat → Nat → Int64} {T : Nat → Nat → Nat} {Q : Option Value → Mem → Prop} (hyp : ((v = 0 → Go none aM (Ev mt aM (d + 30)) mX11_edge Q (26, [some (.ref 0), some (.int a1), none, some (.int (p + 1))], [], (SH, mkM I J T), 0, 0)) ∧ ((¬ (v = 0)) → Q (some (.int p)) (SH, mkM I J T)))) : Go none aM (Ev mt aM (d + 30)) mX11_edge Q (49, [some (.ref 0), some (.int a1), none, some (.int p)], [.int v], (SH, mkM I J T), 0, 0) := by
  refine Go.of_run (Ev.mono _) 1 _ ?_
  show Go none aM (Ev mt aM (d + 30)) mX11_edge Q (if v = 0 then 54 else 52, [some (.ref 0), some (.int a1), none, some (.int p)], [], (SH, mkM I J T), 0, 0)
  rcases Decidable.em (v = 0) with c1 | c1
  · rw [if_pos c1]
    refine Go.of_run (Ev.mono _) 2 _ ?_
    exact (hyp.1 c1)
  · rw [if_neg c1]
    refine Go.of_run (Ev.mono _) 2 _ ?_
    refine ⟨trivial, ?_⟩
    show Q (some (.int p)) (SH, mkM I J T)
    exact (hyp.2 c1)
set_option maxRecDepth 20000 in
theorem medge_18 {d : Nat} {a1 a2 p : Int32} {I : Nat → Nat → Int32} {J : Nat → Nat → Int64} {T : Nat → Nat → Nat} {Q : Option Value → Mem → Prop} (hyp : ((I 83 0 ≤ p → Q (some (.int (-2 : Int32))) (SH, mkM I J T)) ∧ ((¬ (I 83 0 ≤ p)) → Ev mt aM (d + 30) 248 [.ref 83, .int p, .int a1, .int (1536 : Int32), .int (-1 : Int32), .int a2] (SH, mkM I J T) (fun r m1 => Go none aM (Ev mt aM (d + 30)) mX12_edge Q (37, [some (.ref 83), some (.int a1), some (.int a2), some (.int p)], r.toList ++ [], m1, 0, 0))))) : Go none aM (Ev mt aM (d + 30)) mX12_edge Q (18, [some (.ref 83), some (.int a1), some (.int a2), some (.int p)], [], (SH, mkM I J T), 0, 0) := by
  refine Go.of_run (Ev.mono _) 4 _ ?_
  show Go none aM (Ev mt aM (d + 30)) mX12_edge Q (if I 83 0 ≤ p then 62 else 26, [some (.ref 83), some (.int a1), some (.int a2), some (.int p)], [], (SH, mkM I J T), 0, 0)
  rcases Decidable.em (I 83 0 ≤ p) with c1 | c1
  · rw [if_pos c1]
    refine Go.of_run (Ev.mono _) 2 _ ?_
    refine ⟨trivial, ?_⟩
    show Q (some (.int (-2 : Int32))) (SH, mkM I J T)
    exact (hyp.1 c1)
  · rw [if_neg c1]
    refine Go.of_run (Ev.mono _) 7 _ ?_
    refine ⟨Nat.le_of_ble_eq_true rfl, (hyp.2 c1)⟩
set_option maxRecDepth 20000 in
theorem medge_37 {d : Nat} {a1 a2 p : Int32} {v : Int64} {I : Nat → Nat → Int32} {J : Nat → Nat → Int64} {T : Nat → Nat → Nat} {Q : Option Value → Mem → Prop} (hyp : (vp_in (v_X12_placeIn p a1 (1536 : Int32)) 61440 ∧ ((I 111 ((v_X12_placeIn p a1 (1536 : Int32)).toNatClampNeg) = 0 → Go none aM (Ev mt aM (d + 30)) mX12_edge Q (18, [some (.ref 83), some (.int a1), some (.int a2), some (.int (p + 1))], [], (SH, mkM I J T), 0, 0)) ∧ ((¬ (I 111 ((v_X12_placeIn p a1 (1536 : Int32)).toNatClampNeg) = 0)) → Q (some (.int p)) (SH, mkM I J T))))) : Go none aM (Ev mt aM (d + 30)) mX12_edge Q (37, [some (.ref 83), some (.int a1), some (.int a2), some (.int p)], [.long v], (SH, mkM I J T), 0, 0) := by
  refine Go.of_run (Ev.mono _) 7 _ ?_
  refine ⟨Nat.le_of_ble_eq_true rfl, ev_X12_placeIn ?_⟩
  show Go none aM (Ev mt aM (d + 30)) mX12_edge Q (50, [some (.ref 83), some (.int a1), some (.int a2), some (.int p)], [.int (v_X12_placeIn p a1 (1536 : Int32)), .ref 111], (SH, mkM I J T), 0, 0)
  refine Go.of_run (Ev.mono _) 1 _ ?_
  refine ⟨hyp.1, ?_⟩
  show Go none aM (Ev mt aM (d + 30)) mX12_edge Q (51, [some (.ref 83), some (.int a1), some (.int a2), some (.int p)], [.int (I 111 ((v_X12_placeIn p a1 (1536 : Int32)).toNatClampNeg))], (SH, mkM I J T), 0, 0)
  refine Go.of_run (Ev.mono _) 1 _ ?_
  show Go none aM (Ev mt aM (d + 30)) mX12_edge Q (if I 111 ((v_X12_placeIn p a1 (1536 : Int32)).toNatClampNeg) = 0 then 56 else 54, [some (.ref 83), some (.int a1), some (.int a2), some (.int p)], [], (SH, mkM I J T), 0, 0)
  rcases Decidable.em (I 111 ((v_X12_placeIn p a1 (1536 : Int32)).toNatClampNeg) = 0) with c1 | c1
  · rw [if_pos c1]
    refine Go.of_run (Ev.mono _) 2 _ ?_
    exact (hyp.2.1 c1)
  · rw [if_neg c1]
    refine Go.of_run (Ev.mono _) 2 _ ?_
    refine ⟨trivial, ?_⟩
    show Q (some (.int p)) (SH, mkM I J T)
    exact (hyp.2.2 c1)
set_option maxRecDepth 20000 in
theorem ckept_46 {d : Nat} {a1 mo : Int32} {v : Int64} {I : Nat → Nat → Int32} {J : Nat → Nat → Int64} {T : Nat → Nat → Nat} {Q : Option Value → Mem → Prop} (hyp : Ev mt aM (d + 30) 5 [.ref 69, .int a1, .int (mo - (1 : Int32)), .int (I 1 2), .int (0 : Int32)] (SH, mkM I J T) (fun r m1 => Go none aM (Ev mt aM (d + 30)) mX11_kept Q (65, [some (.ref 0), some (.int a1), some (.int mo)], r.toList ++ [.long v], m1, 0, 0))) : Go none aM (Ev mt aM (d + 30)) mX11_kept Q (46, [some (.ref 0), some (.int a1), some (.int mo)], [.long v], (SH, mkM I J T), 0, 0) := by
  refine Go.of_run (Ev.mono _) 11 _ ?_
  refine ⟨Nat.le_of_ble_eq_true rfl, hyp⟩
set_option maxRecDepth 20000 in
theorem ckept_65 {d : Nat} {a1 mo : Int32} {v u : Int64} {I : Nat → Nat → Int32} {J : Nat → Nat → Int64} {T : Nat → Nat → Nat} {Q : Option Value → Mem → Prop} (hyp : Q (some (.long (u - v))) (SH, mkM I J T)) : Go none aM (Ev mt aM (d + 30)) mX11_kept Q (65, [some (.ref 0), some (.int a1), some (.int mo)], [.long v, .long u], (SH, mkM I J T), 0, 0) := by
  refine Go.of_run (Ev.mono _) 2 _ ?_
  refine ⟨trivial, ?_⟩
  show Q (some (.long (u - v))) (SH, mkM I J T)
  exact hyp
set_option maxRecDepth 20000 in
theorem mkept_34 {d : Nat} {a1 : Int32} {v : Int64} {I : Nat → Nat → Int32} {J : Nat → Nat → Int64} {T : Nat → Nat → Nat} {Q : Option Value → Mem → Prop} (hyp : Ev mt aM (d + 30) 255 [.ref 83, .int ((I 83 1) - (1 : Int32)), .int (I 83 2), .int (0 : Int32), .int a1] (SH, mkM I J T) (fun r m1 => Go none aM (Ev mt aM (d + 30)) mX12_kept Q (50, [some (.ref 83), some (.int a1)], r.toList ++ [.long v], m1, 0, 0))) : Go none aM (Ev mt aM (d + 30)) mX12_kept Q (34, [some (.ref 83), some (.int a1)], [.long v], (SH, mkM I J T), 0, 0) := by
  refine Go.of_run (Ev.mono _) 10 _ ?_
  refine ⟨Nat.le_of_ble_eq_true rfl, hyp⟩
set_option maxRecDepth 20000 in
theorem mkept_50 {d : Nat} {a1 : Int32} {v u : Int64} {I : Nat → Nat → Int32} {J : Nat → Nat → Int64} {T : Nat → Nat → Nat} {Q : Option Value → Mem → Prop} (hyp : Q (some (.long (u - v))) (SH, mkM I J T)) : Go none aM (Ev mt aM (d + 30)) mX12_kept Q (50, [some (.ref 83), some (.int a1)], [.long v, .long u], (SH, mkM I J T), 0, 0) := by
  refine Go.of_run (Ev.mono _) 2 _ ?_
  refine ⟨trivial, ?_⟩
  show Q (some (.long (u - v))) (SH, mkM I J T)
  exact hyp
set_option maxRecDepth 20000 in
theorem ctogether_28 {d : Nat} {a1 : Int32} {v : Int64} {I : Nat → Nat → Int32} {J : Nat → Nat → Int64} {T : Nat → Nat → Nat} {Q : Option Value → Mem → Prop} (hyp : Ev mt aM (d + 30) 5 [.ref 69, .int a1, .int (I 1 1), .int (1 : Int32), .int (0 : Int32)] (SH, mkM I J T) (fun r m1 => Go none aM (Ev mt aM (d + 30)) mX11_together Q (45, [some (.ref 0), some (.int a1)], r.toList ++ [.long v], m1, 0, 0))) : Go none aM (Ev mt aM (d + 30)) mX11_together Q (28, [some (.ref 0), some (.int a1)], [.long v], (SH, mkM I J T), 0, 0) := by
  refine Go.of_run (Ev.mono _) 9 _ ?_
  refine ⟨Nat.le_of_ble_eq_true rfl, hyp⟩
set_option maxRecDepth 20000 in
theorem ctogether_45 {d : Nat} {a1 : Int32} {v u : Int64} {I : Nat → Nat → Int32} {J : Nat → Nat → Int64} {T : Nat → Nat → Nat} {Q : Option Value → Mem → Prop} (hyp : Q (some (.long (u - v))) (SH, mkM I J T)) : Go none aM (Ev mt aM (d + 30)) mX11_together Q (45, [some (.ref 0), some (.int a1)], [.long v, .long u], (SH, mkM I J T), 0, 0) := by
  refine Go.of_run (Ev.mono _) 2 _ ?_
  refine ⟨trivial, ?_⟩
  show Q (some (.long (u - v))) (SH, mkM I J T)
  exact hyp
set_option maxRecDepth 20000 in
theorem mtogether_24 {d : Nat} {a1 : Int32} {v : Int64} {I : Nat → Nat → Int32} {J : Nat → Nat → Int64} {T : Nat → Nat → Nat} {Q : Option Value → Mem → Prop} (hyp : Ev mt aM (d + 30) 255 [.ref 83, .int (I 83 1), .int (1 : Int32), .int (0 : Int32), .int a1] (SH, mkM I J T) (fun r m1 => Go none aM (Ev mt aM (d + 30)) mX12_together Q (35, [some (.ref 83), some (.int a1)], r.toList ++ [.long v], m1, 0, 0))) : Go none aM (Ev mt aM (d + 30)) mX12_together Q (24, [some (.ref 83), some (.int a1)], [.long v], (SH, mkM I J T), 0, 0) := by
  refine Go.of_run (Ev.mono _) 7 _ ?_
  refine ⟨Nat.le_of_ble_eq_true rfl, hyp⟩
set_option maxRecDepth 20000 in
theorem mtogether_35 {d : Nat} {a1 : Int32} {v u : Int64} {I : Nat → Nat → Int32} {J : Nat → Nat → Int64} {T : Nat → Nat → Nat} {Q : Option Value → Mem → Prop} (hyp : Q (some (.long (u - v))) (SH, mkM I J T)) : Go none aM (Ev mt aM (d + 30)) mX12_together Q (35, [some (.ref 83), some (.int a1)], [.long v, .long u], (SH, mkM I J T), 0, 0) := by
  refine Go.of_run (Ev.mono _) 2 _ ?_
  refine ⟨trivial, ?_⟩
  show Q (some (.long (u - v))) (SH, mkM I J T)
  exact hyp
set_option maxRecDepth 20000 in
theorem cslower_36 {d : Nat} {a1 mo : Int32} {v : Int64} {I : Nat → Nat → Int32} {J : Nat → Nat → Int64} {T : Nat → Nat → Nat} {Q : Option Value → Mem → Prop} (hyp : Ev mt aM (d + 30) 5 [.ref 69, .int a1, .int mo, .int (I 1 2), .int (0 : Int32)] (SH, mkM I J T) (fun r m1 => Go none aM (Ev mt aM (d + 30)) mX11_slower Q (53, [some (.ref 0), some (.int a1), some (.int mo)], r.toList ++ [.long v], m1, 0, 0))) : Go none aM (Ev mt aM (d + 30)) mX11_slower Q (36, [some (.ref 0), some (.int a1), some (.int mo)], [.long v], (SH, mkM I J T), 0, 0) := by
  refine Go.of_run (Ev.mono _) 9 _ ?_
  refine ⟨Nat.le_of_ble_eq_true rfl, hyp⟩
set_option maxRecDepth 20000 in
theorem cslower_53 {d : Nat} {a1 mo : Int32} {v u : Int64} {I : Nat → Nat → Int32} {J : Nat → Nat → Int64} {T : Nat → Nat → Nat} {Q : Option Value → Mem → Prop} (hyp : Q (some (.long (u - v))) (SH, mkM I J T)) : Go none aM (Ev mt aM (d + 30)) mX11_slower Q (53, [some (.ref 0), some (.int a1), some (.int mo)], [.long v, .long u], (SH, mkM I J T), 0, 0) := by
  refine Go.of_run (Ev.mono _) 2 _ ?_
  refine ⟨trivial, ?_⟩
  show Q (some (.long (u - v))) (SH, mkM I J T)
  exact hyp
set_option maxRecDepth 20000 in
theorem mslower_27 {d : Nat} {a1 : Int32} {v : Int64} {I : Nat → Nat → Int32} {J : Nat → Nat → Int64} {T : Nat → Nat → Nat} {Q : Option Value → Mem → Prop} (hyp : Ev mt aM (d + 30) 255 [.ref 83, .int (I 83 1), .int (I 83 2), .int (0 : Int32), .int a1] (SH, mkM I J T) (fun r m1 => Go none aM (Ev mt aM (d + 30)) mX12_slower Q (41, [some (.ref 83), some (.int a1)], r.toList ++ [.long v], m1, 0, 0))) : Go none aM (Ev mt aM (d + 30)) mX12_slower Q (27, [some (.ref 83), some (.int a1)], [.long v], (SH, mkM I J T), 0, 0) := by
  refine Go.of_run (Ev.mono _) 8 _ ?_
  refine ⟨Nat.le_of_ble_eq_true rfl, hyp⟩
set_option maxRecDepth 20000 in
theorem mslower_41 {d : Nat} {a1 : Int32} {v u : Int64} {I : Nat → Nat → Int32} {J : Nat → Nat → Int64} {T : Nat → Nat → Nat} {Q : Option Value → Mem → Prop} (hyp : Q (some (.long (u - v))) (SH, mkM I J T)) : Go none aM (Ev mt aM (d + 30)) mX12_slower Q (41, [some (.ref 83), some (.int a1)], [.long v, .long u], (SH, mkM I J T), 0, 0) := by
  refine Go.of_run (Ev.mono _) 2 _ ?_
  refine ⟨trivial, ?_⟩
  show Q (some (.long (u - v))) (SH, mkM I J T)
  exact hyp
set_option maxRecDepth 20000 in
theorem cwrong_34 {d : Nat} {a1 a2 : Int32} {I : Nat → Nat → Int32} {J : Nat → Nat → Int64} {T : Nat → Nat → Nat} {Q : Option Value → Mem → Prop} (hyp : Ev mt aM (d + 30) 171 [.ref 0, .int a1] (SH, mkM I J T) (fun r m1 => Go none aM (Ev mt aM (d + 30)) mX11_wrong Q (39, [some (.ref 0), some (.int a1), some (.int a2)], r.toList ++ [], m1, 0, 0))) : Go none aM (Ev mt aM (d + 30)) mX11_wrong Q (34, [some (.ref 0), some (.int a1), some (.int a2)], [], (SH, mkM I J T), 0, 0) := by
  refine Go.of_run (Ev.mono _) 3 _ ?_
  refine ⟨Nat.le_of_ble_eq_true rfl, hyp⟩
set_option maxRecDepth 20000 in
theorem cwrong_39 {d : Nat} {a1 a2 : Int32} {v : Int64} {I : Nat → Nat → Int32} {J : Nat → Nat → Int64} {T : Nat → Nat → Nat} {Q : Option Value → Mem → Prop} (hyp : Q (some (.long v)) (SH, mkM I J T)) : Go none aM (Ev mt aM (d + 30)) mX11_wrong Q (39, [some (.ref 0), some (.int a1), some (.int a2)], [.long v], (SH, mkM I J T), 0, 0) := by
  refine Go.of_run (Ev.mono _) 1 _ ?_
  refine ⟨trivial, ?_⟩
  show Q (some (.long v)) (SH, mkM I J T)
  exact hyp
set_option maxRecDepth 20000 in
theorem mwrong_27 {d : Nat} {a1 a2 : Int32} {v : Int64} {I : Nat → Nat → Int32} {J : Nat → Nat → Int64} {T : Nat → Nat → Nat} {Q : Option Value → Mem → Prop} (hyp : Q (some (.long v)) (SH, mkM I J T)) : Go none aM (Ev mt aM (d + 30)) mX12_wrong Q (27, [some (.ref 83), some (.int a1), some (.int a2)], [.long v], (SH, mkM I J T), 0, 0) := by
  refine Go.of_run (Ev.mono _) 2 _ ?_
  refine ⟨trivial, ?_⟩
  show Q (some (.long v)) (SH, mkM I J T)
  exact hyp
set_option maxRecDepth 20000 in
theorem cworst_38 {d : Nat} {a1 a2 : Int32} {I : Nat → Nat → Int32} {J : Nat → Nat → Int64} {T : Nat → Nat → Nat} {Q : Option Value → Mem → Prop} (hyp : Ev mt aM (d + 30) 171 [.ref 0, .int (0 : Int32)] (SH, mkM I J T) (fun r m1 => Go none aM (Ev mt aM (d + 30)) mX11_worst Q (45, [some (.ref 0), some (.int a1), some (.int a2), some (.int (0 : Int32)), none, none, none, none, none], r.toList ++ [], m1, 0, 0))) : Go none aM (Ev mt aM (d + 30)) mX11_worst Q (38, [some (.ref 0), some (.int a1), some (.int a2), none, none, none, none, none, none], [], (SH, mkM I J T), 0, 0) := by
  refine Go.of_run (Ev.mono _) 5 _ ?_
  refine ⟨Nat.le_of_ble_eq_true rfl, hyp⟩
set_option maxRecDepth 20000 in
theorem cworst_45 {d : Nat} {a1 a2 : Int32} {v : Int64} {I : Nat → Nat → Int32} {J : Nat → Nat → Int64} {T : Nat → Nat → Nat} {Q : Option Value → Mem → Prop} (hyp : Go none aM (Ev mt aM (d + 30)) mX11_worst Q (50, [some (.ref 0), none, some (.int a2), some (.int (0 : Int32)), some (.long v), none, some (.int (1 : Int32)), none, none], [], (SH, mkM I J T), 0, 0)) : Go none aM (Ev mt aM (d + 30)) mX11_worst Q (45, [some (.ref 0), some (.int a1), some (.int a2), some (.int (0 : Int32)), none, none, none, none, none], [.long v], (SH, mkM I J T), 0, 0) := by
  refine Go.of_run (Ev.mono _) 3 _ ?_
  exact Go.weak (Ev.mono _) (LLe.cons (LLe.drop (LLe.cons (LLe.cons (LLe.cons (LLe.cons (LLe.cons (LLe.cons (LLe.cons LLe.nil))))))))) hyp
set_option maxRecDepth 20000 in
theorem cworst_50 {d : Nat} {a2 w p : Int32} {m : Int64} {I : Nat → Nat → Int32} {J : Nat → Nat → Int64} {T : Nat → Nat → Nat} {Q : Option Value → Mem → Prop} (hyp : ((I 76 0 ≤ p → ((a2 = 0 → Q (some (.long w.toInt64)) (SH, mkM I J T)) ∧ ((¬ (a2 = 0)) → Q (some (.long m)) (SH, mkM I J T)))) ∧ ((¬ (I 76 0 ≤ p)) → Ev mt aM (d + 30) 171 [.ref 0, .int p] (SH, mkM I J T) (fun r m1 => Go none aM (Ev mt aM (d + 30)) mX11_worst Q (68, [some (.ref 0), none, some (.int a2), some (.int w), some (.long m), none, some (.int p), none, none], r.toList ++ [], m1, 0, 0))))) : Go none aM (Ev mt aM (d + 30)) mX11_worst Q (50, [some (.ref 0), none, some (.int a2), some (.int w), some (.long m), none, some (.int p), none, none], [], (SH, mkM I J T), 0, 0) := by
  refine Go.of_run (Ev.mono _) 5 _ ?_
  show Go none aM (Ev mt aM (d + 30)) mX11_worst Q (if I 76 0 ≤ p then 91 else 62, [some (.ref 0), none, some (.int a2), some (.int w), some (.long m), none, some (.int p), none, none], [], (SH, mkM I J T), 0, 0)
  rcases Decidable.em (I 76 0 ≤ p) with c1 | c1
  · rw [if_pos c1]
    refine Go.of_run (Ev.mono _) 2 _ ?_
    show Go none aM (Ev mt aM (d + 30)) mX11_worst Q (if a2 = 0 then 95 else 100, [some (.ref 0), none, some (.int a2), some (.int w), some (.long m), none, some (.int p), none, none], [], (SH, mkM I J T), 0, 0)
    rcases Decidable.em (a2 = 0) with c2 | c2
    · rw [if_pos c2]
      refine Go.of_run (Ev.mono _) 4 _ ?_
      refine ⟨trivial, ?_⟩
      show Q (some (.long w.toInt64)) (SH, mkM I J T)
      exact ((hyp.1 c1).1 c2)
    · rw [if_neg c2]
      refine Go.of_run (Ev.mono _) 2 _ ?_
      refine ⟨trivial, ?_⟩
      show Q (some (.long m)) (SH, mkM I J T)
      exact ((hyp.1 c1).2 c2)
  · rw [if_neg c1]
    refine Go.of_run (Ev.mono _) 3 _ ?_
    refine ⟨Nat.le_of_ble_eq_true rfl, (hyp.2 c1)⟩
set_option maxRecDepth 20000 in
theorem cworst_68 {d : Nat} {a2 w p : Int32} {m v : Int64} {I : Nat → Nat → Int32} {J : Nat → Nat → Int64} {T : Nat → Nat → Nat} {Q : Option Value → Mem → Prop} (hyp : ((lg_cmp v m ≤ 0 → Go none aM (Ev mt aM (d + 30)) mX11_worst Q (50, [some (.ref 0), none, some (.int a2), some (.int w), some (.long m), none, some (.int (p + 1)), none, none], [], (SH, mkM I J T), 0, 0)) ∧ ((¬ (lg_cmp v m ≤ 0)) → Go none aM (Ev mt aM (d + 30)) mX11_worst Q (50, [some (.ref 0), none, some (.int a2), some (.int p), some (.long v), none, some (.int (p + 1)), none, none], [], (SH, mkM I J T), 0, 0)))) : Go none aM (Ev mt aM (d + 30)) mX11_worst Q (68, [some (.ref 0), none, some (.int a2), some (.int w), some (.long m), none, some (.int p), none, none], [.long v], (SH, mkM I J T), 0, 0) := by
  refine Go.of_run (Ev.mono _) 5 _ ?_
  show Go none aM (Ev mt aM (d + 30)) mX11_worst Q (if lg_cmp v m ≤ 0 then 85 else 78, [some (.ref 0), none, some (.int a2), some (.int w), some (.long m), none, some (.int p), some (.long v), none], [], (SH, mkM I J T), 0, 0)
  rcases Decidable.em (lg_cmp v m ≤ 0) with c1 | c1
  · rw [if_pos c1]
    refine Go.of_run (Ev.mono _) 2 _ ?_
    exact Go.weak (Ev.mono _) (LLe.cons (LLe.cons (LLe.cons (LLe.cons (LLe.cons (LLe.cons (LLe.cons (LLe.drop (LLe.cons LLe.nil))))))))) (hyp.1 c1)
  · rw [if_neg c1]
    refine Go.of_run (Ev.mono _) 6 _ ?_
    exact Go.weak (Ev.mono _) (LLe.cons (LLe.cons (LLe.cons (LLe.cons (LLe.cons (LLe.cons (LLe.cons (LLe.drop (LLe.cons LLe.nil))))))))) (hyp.2 c1)
set_option maxRecDepth 20000 in
theorem mworst_35 {d : Nat} {a1 a2 : Int32} {v : Int64} {I : Nat → Nat → Int32} {J : Nat → Nat → Int64} {T : Nat → Nat → Nat} {Q : Option Value → Mem → Prop} (hyp : Go none aM (Ev mt aM (d + 30)) mX12_worst Q (40, [some (.ref 83), some (.int a1), some (.int a2), some (.int (0 : Int32)), some (.long v), none, some (.int (1 : Int32)), none, none], [], (SH, mkM I J T), 0, 0)) : Go none aM (Ev mt aM (d + 30)) mX12_worst Q (35, [some (.ref 83), some (.int a1), some (.int a2), some (.int (0 : Int32)), none, none, none, none, none], [.long v], (SH, mkM I J T), 0, 0) := by
  refine Go.of_run (Ev.mono _) 3 _ ?_
  exact hyp
set_option maxRecDepth 20000 in
theorem mworst_40 {d : Nat} {a1 a2 w p : Int32} {m : Int64} {I : Nat → Nat → Int32} {J : Nat → Nat → Int64} {T : Nat → Nat → Nat} {Q : Option Value → Mem → Prop} (hyp : ((I 83 48 ≤ p → ((a2 = 0 → Q (some (.long w.toInt64)) (SH, mkM I J T)) ∧ ((¬ (a2 = 0)) → Q (some (.long m)) (SH, mkM I J T)))) ∧ ((¬ (I 83 48 ≤ p)) → Ev mt aM (d + 30) 274 [.ref 83, .int p, .int a1] (SH, mkM I J T) (fun r m1 => Go none aM (Ev mt aM (d + 30)) mX12_worst Q (56, [some (.ref 83), some (.int a1), some (.int a2), some (.int w), some (.long m), none, some (.int p), none, none], r.toList ++ [], m1, 0, 0))))) : Go none aM (Ev mt aM (d + 30)) mX12_worst Q (40, [some (.ref 83), some (.int a1), some (.int a2), some (.int w), some (.long m), none, some (.int p), none, none], [], (SH, mkM I J T), 0, 0) := by
  refine Go.of_run (Ev.mono _) 4 _ ?_
  show Go none aM (Ev mt aM (d + 30)) mX12_worst Q (if I 83 48 ≤ p then 82 else 49, [some (.ref 83), some (.int a1), some (.int a2), some (.int w), some (.long m), none, some (.int p), none, none], [], (SH, mkM I J T), 0, 0)
  rcases Decidable.em (I 83 48 ≤ p) with c1 | c1
  · rw [if_pos c1]
    refine Go.of_run (Ev.mono _) 2 _ ?_
    show Go none aM (Ev mt aM (d + 30)) mX12_worst Q (if a2 = 0 then 86 else 91, [some (.ref 83), some (.int a1), some (.int a2), some (.int w), some (.long m), none, some (.int p), none, none], [], (SH, mkM I J T), 0, 0)
    rcases Decidable.em (a2 = 0) with c2 | c2
    · rw [if_pos c2]
      refine Go.of_run (Ev.mono _) 4 _ ?_
      refine ⟨trivial, ?_⟩
      show Q (some (.long w.toInt64)) (SH, mkM I J T)
      exact ((hyp.1 c1).1 c2)
    · rw [if_neg c2]
      refine Go.of_run (Ev.mono _) 2 _ ?_
      refine ⟨trivial, ?_⟩
      show Q (some (.long m)) (SH, mkM I J T)
      exact ((hyp.1 c1).2 c2)
  · rw [if_neg c1]
    refine Go.of_run (Ev.mono _) 4 _ ?_
    refine ⟨Nat.le_of_ble_eq_true rfl, (hyp.2 c1)⟩
set_option maxRecDepth 20000 in
theorem mworst_56 {d : Nat} {a1 a2 w p : Int32} {m v : Int64} {I : Nat → Nat → Int32} {J : Nat → Nat → Int64} {T : Nat → Nat → Nat} {Q : Option Value → Mem → Prop} (hyp : ((0 < lg_cmp v m → Go none aM (Ev mt aM (d + 30)) mX12_worst Q (40, [some (.ref 83), some (.int a1), some (.int a2), some (.int p), some (.long v), none, some (.int (p + 1)), none, none], [], (SH, mkM I J T), 0, 0)) ∧ ((¬ (0 < lg_cmp v m)) → Go none aM (Ev mt aM (d + 30)) mX12_worst Q (40, [some (.ref 83), some (.int a1), some (.int a2), some (.int w), some (.long m), none, some (.int (p + 1)), none, none], [], (SH, mkM I J T), 0, 0)))) : Go none aM (Ev mt aM (d + 30)) mX12_worst Q (56, [some (.ref 83), some (.int a1), some (.int a2), some (.int w), some (.long m), none, some (.int p), none, none], [.long v], (SH, mkM I J T), 0, 0) := by
  refine Go.of_run (Ev.mono _) 5 _ ?_
  show Go none aM (Ev mt aM (d + 30)) mX12_worst Q (if 0 < lg_cmp v m then 69 else 66, [some (.ref 83), some (.int a1), some (.int a2), some (.int w), some (.long m), none, some (.int p), some (.long v), none], [], (SH, mkM I J T), 0, 0)
  rcases Decidable.em (0 < lg_cmp v m) with c1 | c1
  · rw [if_pos c1]
    refine Go.of_run (Ev.mono _) 6 _ ?_
    exact Go.weak (Ev.mono _) (LLe.cons (LLe.cons (LLe.cons (LLe.cons (LLe.cons (LLe.cons (LLe.cons (LLe.drop (LLe.cons LLe.nil))))))))) (hyp.1 c1)
  · rw [if_neg c1]
    refine Go.of_run (Ev.mono _) 3 _ ?_
    exact Go.weak (Ev.mono _) (LLe.cons (LLe.cons (LLe.cons (LLe.cons (LLe.cons (LLe.cons (LLe.cons (LLe.drop (LLe.cons LLe.nil))))))))) (hyp.2 c1)
set_option maxRecDepth 20000 in
theorem cwrongIn_28 {d : Nat} {a1 sc c : Int32} {v : Int64} {I : Nat → Nat → Int32} {J : Nat → Nat → Int64} {T : Nat → Nat → Nat} {Q : Option Value → Mem → Prop} (hyp : (vp_in a1 5 ∧ Ev mt aM (d + 30) 8 [.ref 69, .int a1, .int sc, .int c, .int (v_X1_actionIn a1 I)] (SH, mkM I J T) (fun r m1 => Go none aM (Ev mt aM (d + 30)) mX11_wrongIn Q (46, [some (.ref 0), some (.int a1), some (.int sc), some (.int c), none, none, none], r.toList ++ [.long v], m1, 0, 0)))) : Go none aM (Ev mt aM (d + 30)) mX11_wrongIn Q (28, [some (.ref 0), some (.int a1), some (.int sc), some (.int c), none, none, none], [.long v], (SH, mkM I J T), 0, 0) := by
  refine Go.of_run (Ev.mono _) 9 _ ?_
  refine ⟨Nat.le_of_ble_eq_true rfl, ev_X1_actionIn hyp.1 ?_⟩
  show Go none aM (Ev mt aM (d + 30)) mX11_wrongIn Q (43, [some (.ref 0), some (.int a1), some (.int sc), some (.int c), none, none, none], [.int (v_X1_actionIn a1 I), .int c, .int sc, .int a1, .ref 69, .long v], (SH, mkM I J T), 0, 0)
  refine Go.of_run (Ev.mono _) 1 _ ?_
  refine ⟨Nat.le_of_ble_eq_true rfl, hyp.2⟩
set_option maxRecDepth 20000 in
theorem cwrongIn_46 {d : Nat} {a1 sc c : Int32} {v u : Int64} {I : Nat → Nat → Int32} {J : Nat → Nat → Int64} {T : Nat → Nat → Nat} {Q : Option Value → Mem → Prop} (hyp : Go none aM (Ev mt aM (d + 30)) mX11_wrongIn Q (52, [none, some (.int a1), none, none, some (.long (u - v)), none, some (.int (0 : Int32))], [], (SH, mkM I J T), 0, 0)) : Go none aM (Ev mt aM (d + 30)) mX11_wrongIn Q (46, [some (.ref 0), some (.int a1), some (.int sc), some (.int c), none, none, none], [.long v, .long u], (SH, mkM I J T), 0, 0) := by
  refine Go.of_run (Ev.mono _) 4 _ ?_
  exact Go.weak (Ev.mono _) (LLe.drop (LLe.cons (LLe.drop (LLe.drop (LLe.cons (LLe.cons (LLe.cons LLe.nil))))))) hyp
set_option maxRecDepth 20000 in
theorem cwrongIn_52 {d : Nat} {a1 i : Int32} {m : Int64} {I : Nat → Nat → Int32} {J : Nat → Nat → Int64} {T : Nat → Nat → Nat} {Q : Option Value → Mem → Prop} (hyp : ((a1 ≤ i → Q (some (.long m)) (SH, mkM I J T)) ∧ ((¬ (a1 ≤ i)) → Go none aM (Ev mt aM (d + 30)) mX11_wrongIn Q (52, [none, some (.int a1), none, none, some (.long (m * (100 : Int64))), none, some (.int (i + 1))], [], (SH, mkM I J T), 0, 0)))) : Go none aM (Ev mt aM (d + 30)) mX11_wrongIn Q (52, [none, some (.int a1), none, none, some (.long m), none, some (.int i)], [], (SH, mkM I J T), 0, 0) := by
  refine Go.of_run (Ev.mono _) 3 _ ?_
  show Go none aM (Ev mt aM (d + 30)) mX11_wrongIn Q (if a1 ≤ i then 72 else 58, [none, some (.int a1), none, none, some (.long m), none, some (.int i)], [], (SH, mkM I J T), 0, 0)
  rcases Decidable.em (a1 ≤ i) with c1 | c1
  · rw [if_pos c1]
    refine Go.of_run (Ev.mono _) 2 _ ?_
    refine ⟨trivial, ?_⟩
    show Q (some (.long m)) (SH, mkM I J T)
    exact (hyp.1 c1)
  · rw [if_neg c1]
    refine Go.of_run (Ev.mono _) 6 _ ?_
    exact (hyp.2 c1)
set_option maxRecDepth 20000 in
theorem mwrongIn_23 {d : Nat} {a1 a2 : Int32} {v : Int64} {I : Nat → Nat → Int32} {J : Nat → Nat → Int64} {T : Nat → Nat → Nat} {Q : Option Value → Mem → Prop} (hyp : (vp_in a1 6 ∧ (vp_in a1 6 ∧ (vp_in (a1 + (1 : Int32)) 6 ∧ Ev mt aM (d + 30) 245 [.ref 83, .int a1, .int (I 114 a1.toNatClampNeg), .int (I 113 a1.toNatClampNeg), .int (I 115 ((a1 + (1 : Int32)).toNatClampNeg)), .int a2] (SH, mkM I J T) (fun r m1 => Go none aM (Ev mt aM (d + 30)) mX12_wrongIn Q (49, [some (.ref 83), some (.int a1), some (.int a2), none, none, none], r.toList ++ [.long v], m1, 0, 0)))))) : Go none aM (Ev mt aM (d + 30)) mX12_wrongIn Q (23, [some (.ref 83), some (.int a1), some (.int a2), none, none, none], [.long v], (SH, mkM I J T), 0, 0) := by
  refine Go.of_run (Ev.mono _) 6 _ ?_
  refine ⟨hyp.1, ?_⟩
  show Go none aM (Ev mt aM (d + 30)) mX12_wrongIn Q (31, [some (.ref 83), some (.int a1), some (.int a2), none, none, none], [.int (I 114 a1.toNatClampNeg), .int a1, .ref 83, .long v], (SH, mkM I J T), 0, 0)
  refine Go.of_run (Ev.mono _) 4 _ ?_
  refine ⟨hyp.2.1, ?_⟩
  show Go none aM (Ev mt aM (d + 30)) mX12_wrongIn Q (37, [some (.ref 83), some (.int a1), some (.int a2), none, none, none], [.int (I 113 a1.toNatClampNeg), .int (I 114 a1.toNatClampNeg), .int a1, .ref 83, .long v], (SH, mkM I J T), 0, 0)
  refine Go.of_run (Ev.mono _) 6 _ ?_
  refine ⟨hyp.2.2.1, ?_⟩
  show Go none aM (Ev mt aM (d + 30)) mX12_wrongIn Q (45, [some (.ref 83), some (.int a1), some (.int a2), none, none, none], [.int (I 115 ((a1 + (1 : Int32)).toNatClampNeg)), .int (I 113 a1.toNatClampNeg), .int (I 114 a1.toNatClampNeg), .int a1, .ref 83, .long v], (SH, mkM I J T), 0, 0)
  refine Go.of_run (Ev.mono _) 2 _ ?_
  refine ⟨Nat.le_of_ble_eq_true rfl, hyp.2.2.2⟩
set_option maxRecDepth 20000 in
theorem mwrongIn_49 {d : Nat} {a1 a2 : Int32} {v u : Int64} {I : Nat → Nat → Int32} {J : Nat → Nat → Int64} {T : Nat → Nat → Nat} {Q : Option Value → Mem → Prop} (hyp : Go none aM (Ev mt aM (d + 30)) mX12_wrongIn Q (54, [none, some (.int a1), none, some (.long (u - v)), none, some (.int (0 : Int32))], [], (SH, mkM I J T), 0, 0)) : Go none aM (Ev mt aM (d + 30)) mX12_wrongIn Q (49, [some (.ref 83), some (.int a1), some (.int a2), none, none, none], [.long v, .long u], (SH, mkM I J T), 0, 0) := by
  refine Go.of_run (Ev.mono _) 4 _ ?_
  exact Go.weak (Ev.mono _) (LLe.drop (LLe.cons (LLe.drop (LLe.cons (LLe.cons (LLe.cons LLe.nil)))))) hyp
set_option maxRecDepth 20000 in
theorem mwrongIn_54 {d : Nat} {a1 i : Int32} {m : Int64} {I : Nat → Nat → Int32} {J : Nat → Nat → Int64} {T : Nat → Nat → Nat} {Q : Option Value → Mem → Prop} (hyp : ((a1 ≤ i → Q (some (.long m)) (SH, mkM I J T)) ∧ ((¬ (a1 ≤ i)) → Go none aM (Ev mt aM (d + 30)) mX12_wrongIn Q (54, [none, some (.int a1), none, some (.long (m * (100 : Int64))), none, some (.int (i + 1))], [], (SH, mkM I J T), 0, 0)))) : Go none aM (Ev mt aM (d + 30)) mX12_wrongIn Q (54, [none, some (.int a1), none, some (.long m), none, some (.int i)], [], (SH, mkM I J T), 0, 0) := by
  refine Go.of_run (Ev.mono _) 3 _ ?_
  show Go none aM (Ev mt aM (d + 30)) mX12_wrongIn Q (if a1 ≤ i then 72 else 60, [none, some (.int a1), none, some (.long m), none, some (.int i)], [], (SH, mkM I J T), 0, 0)
  rcases Decidable.em (a1 ≤ i) with c1 | c1
  · rw [if_pos c1]
    refine Go.of_run (Ev.mono _) 2 _ ?_
    refine ⟨trivial, ?_⟩
    show Q (some (.long m)) (SH, mkM I J T)
    exact (hyp.1 c1)
  · rw [if_neg c1]
    refine Go.of_run (Ev.mono _) 6 _ ?_
    exact (hyp.2 c1)
set_option maxRecDepth 20000 in
theorem mfirstWith_27 {d : Nat} {a1 a2 a3 a4 : Int32} {v : Int64} {I : Nat → Nat → Int32} {J : Nat → Nat → Int64} {T : Nat → Nat → Nat} {Q : Option Value → Mem → Prop} (hyp : Q (some (.long v)) (SH, mkM (si (si (si I 83 34 (I 83 1)) 83 35 (I 83 2)) 83 36 (0 : Int32)) J T)) : Go none aM (Ev mt aM (d + 30)) mX12_firstWith Q (27, [some (.ref 83), some (.int a1), some (.int a2), some (.int a3), some (.int a4), none, none], [.long v], (SH, mkM I J T), 0, 0) := by
  refine Go.of_run (Ev.mono _) 5 _ ?_
  refine go_si rfl ?_
  show Go none aM (Ev mt aM (d + 30)) mX12_firstWith Q (37, [some (.ref 83), some (.int a1), some (.int a2), some (.int a3), some (.int a4), some (.long v), none], [], (SH, mkM (si I 83 34 (I 83 1)) J T), 0, 0)
  refine Go.of_run (Ev.mono _) 4 _ ?_
  refine go_si rfl ?_
  show Go none aM (Ev mt aM (d + 30)) mX12_firstWith Q (45, [some (.ref 83), some (.int a1), some (.int a2), some (.int a3), some (.int a4), some (.long v), none], [], (SH, mkM (si (si I 83 34 (I 83 1)) 83 35 (I 83 2)) J T), 0, 0)
  refine Go.of_run (Ev.mono _) 3 _ ?_
  refine go_si rfl ?_
  show Go none aM (Ev mt aM (d + 30)) mX12_firstWith Q (50, [some (.ref 83), some (.int a1), some (.int a2), some (.int a3), some (.int a4), some (.long v), none], [], (SH, mkM (si (si (si I 83 34 (I 83 1)) 83 35 (I 83 2)) 83 36 (0 : Int32)) J T), 0, 0)
  refine Go.of_run (Ev.mono _) 2 _ ?_
  refine ⟨trivial, ?_⟩
  show Q (some (.long v)) (SH, mkM (si (si (si I 83 34 (I 83 1)) 83 35 (I 83 2)) 83 36 (0 : Int32)) J T)
  exact hyp
