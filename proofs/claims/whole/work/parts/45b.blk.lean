set_option maxRecDepth 20000 in
theorem fgm_0 {d : Nat} {I : Nat → Nat → Int32} {J : Nat → Nat → Int64} {T : Nat → Nat → Nat} {Q : Option Value → Mem → Prop} (hyp : Ev mt aM (d + 6) 1 [.ref 69] (SH, mkM I J T) (fun r m1 => Go none aM (Ev mt aM (d + 6)) mX11_forgetMatch Q (7, [some (.ref 0)], r.toList ++ [], m1, 0, 0))) : Go none aM (Ev mt aM (d + 6)) mX11_forgetMatch Q (0, [some (.ref 0)], [], (SH, mkM I J T), 0, 0) := by
  refine Go.of_run (Ev.mono _) 3 _ ?_
  refine ⟨Nat.le_of_ble_eq_true rfl, hyp⟩
set_option maxRecDepth 20000 in
theorem fgm_7 {d : Nat} {I : Nat → Nat → Int32} {J : Nat → Nat → Int64} {T : Nat → Nat → Nat} {Q : Option Value → Mem → Prop} (hyp : Ev mt aM (d + 6) 116 [.ref 73] (SH, mkM I J T) (fun r m1 => Go none aM (Ev mt aM (d + 6)) mX11_forgetMatch Q (14, [some (.ref 0)], r.toList ++ [], m1, 0, 0))) : Go none aM (Ev mt aM (d + 6)) mX11_forgetMatch Q (7, [some (.ref 0)], [], (SH, mkM I J T), 0, 0) := by
  refine Go.of_run (Ev.mono _) 3 _ ?_
  refine ⟨Nat.le_of_ble_eq_true rfl, hyp⟩
set_option maxRecDepth 20000 in
theorem fgm_14 {d : Nat} {I : Nat → Nat → Int32} {J : Nat → Nat → Int64} {T : Nat → Nat → Nat} {Q : Option Value → Mem → Prop} (hyp : Q none (SH, mkM I J T)) : Go none aM (Ev mt aM (d + 6)) mX11_forgetMatch Q (14, [some (.ref 0)], [], (SH, mkM I J T), 0, 0) := by
  refine Go.of_run (Ev.mono _) 1 _ ?_
  refine ⟨trivial, ?_⟩
  show Q none (SH, mkM I J T)
  exact hyp
set_option maxRecDepth 20000 in
theorem cmatch_0 {d : Nat} {a1 a2 a3 : Int32} {I : Nat → Nat → Int32} {J : Nat → Nat → Int64} {T : Nat → Nat → Nat} {Q : Option Value → Mem → Prop} (hyp : ((a1 < (1 : Int32) → Q (some (.int (0 : Int32))) (SH, mkM I J T)) ∧ ((¬ (a1 < (1 : Int32))) → (((5 : Int32) < a1 → Q (some (.int (0 : Int32))) (SH, mkM I J T)) ∧ ((¬ ((5 : Int32) < a1)) → ((a2 < 0 → Q (some (.int (0 : Int32))) (SH, mkM I J T)) ∧ ((¬ (a2 < 0)) → (((3 : Int32) < a2 → Q (some (.int (0 : Int32))) (SH, mkM I J T)) ∧ ((¬ ((3 : Int32) < a2)) → ((a3 < (1 : Int32) → Q (some (.int (0 : Int32))) (SH, mkM I J T)) ∧ ((¬ (a3 < (1 : Int32))) → ((a3 ≤ (2 : Int32) → Ev mt aM (d + 7) 164 [.ref 0] (SH, mkM (si (si (si (si I 1 0 a1) 1 1 a2) 1 2 a3) 76 0 (0 : Int32)) J T) (fun r m1 => Go none aM (Ev mt aM (d + 7)) mX11_match Q (67, [some (.ref 0), some (.int a1), some (.int a2), some (.int a3)], r.toList ++ [], m1, 0, 0))) ∧ ((¬ (a3 ≤ (2 : Int32))) → Q (some (.int (0 : Int32))) (SH, mkM I J T)))))))))))))) : Go none aM (Ev mt aM (d + 7)) mX11_match Q (0, [some (.ref 0), some (.int a1), some (.int a2), some (.int a3)], [], (SH, mkM I J T), 0, 0) := by
  refine Go.of_run (Ev.mono _) 3 _ ?_
  show Go none aM (Ev mt aM (d + 7)) mX11_match Q (if a1 < (1 : Int32) then 29 else 5, [some (.ref 0), some (.int a1), some (.int a2), some (.int a3)], [], (SH, mkM I J T), 0, 0)
  rcases Decidable.em (a1 < (1 : Int32)) with c1 | c1
  · rw [if_pos c1]
    refine Go.of_run (Ev.mono _) 2 _ ?_
    refine ⟨(by decide), ?_⟩
    show Q (some (.int (0 : Int32))) (SH, mkM I J T)
    exact (hyp.1 c1)
  · rw [if_neg c1]
    refine Go.of_run (Ev.mono _) 3 _ ?_
    show Go none aM (Ev mt aM (d + 7)) mX11_match Q (if (5 : Int32) < a1 then 29 else 10, [some (.ref 0), some (.int a1), some (.int a2), some (.int a3)], [], (SH, mkM I J T), 0, 0)
    rcases Decidable.em ((5 : Int32) < a1) with c2 | c2
    · rw [if_pos c2]
      refine Go.of_run (Ev.mono _) 2 _ ?_
      refine ⟨(by decide), ?_⟩
      show Q (some (.int (0 : Int32))) (SH, mkM I J T)
      exact ((hyp.2 c1).1 c2)
    · rw [if_neg c2]
      refine Go.of_run (Ev.mono _) 2 _ ?_
      show Go none aM (Ev mt aM (d + 7)) mX11_match Q (if a2 < 0 then 29 else 14, [some (.ref 0), some (.int a1), some (.int a2), some (.int a3)], [], (SH, mkM I J T), 0, 0)
      rcases Decidable.em (a2 < 0) with c3 | c3
      · rw [if_pos c3]
        refine Go.of_run (Ev.mono _) 2 _ ?_
        refine ⟨(by decide), ?_⟩
        show Q (some (.int (0 : Int32))) (SH, mkM I J T)
        exact (((hyp.2 c1).2 c2).1 c3)
      · rw [if_neg c3]
        refine Go.of_run (Ev.mono _) 3 _ ?_
        show Go none aM (Ev mt aM (d + 7)) mX11_match Q (if (3 : Int32) < a2 then 29 else 19, [some (.ref 0), some (.int a1), some (.int a2), some (.int a3)], [], (SH, mkM I J T), 0, 0)
        rcases Decidable.em ((3 : Int32) < a2) with c4 | c4
        · rw [if_pos c4]
          refine Go.of_run (Ev.mono _) 2 _ ?_
          refine ⟨(by decide), ?_⟩
          show Q (some (.int (0 : Int32))) (SH, mkM I J T)
          exact ((((hyp.2 c1).2 c2).2 c3).1 c4)
        · rw [if_neg c4]
          refine Go.of_run (Ev.mono _) 3 _ ?_
          show Go none aM (Ev mt aM (d + 7)) mX11_match Q (if a3 < (1 : Int32) then 29 else 24, [some (.ref 0), some (.int a1), some (.int a2), some (.int a3)], [], (SH, mkM I J T), 0, 0)
          rcases Decidable.em (a3 < (1 : Int32)) with c5 | c5
          · rw [if_pos c5]
            refine Go.of_run (Ev.mono _) 2 _ ?_
            refine ⟨(by decide), ?_⟩
            show Q (some (.int (0 : Int32))) (SH, mkM I J T)
            exact (((((hyp.2 c1).2 c2).2 c3).2 c4).1 c5)
          · rw [if_neg c5]
            refine Go.of_run (Ev.mono _) 3 _ ?_
            show Go none aM (Ev mt aM (d + 7)) mX11_match Q (if a3 ≤ (2 : Int32) then 31 else 29, [some (.ref 0), some (.int a1), some (.int a2), some (.int a3)], [], (SH, mkM I J T), 0, 0)
            rcases Decidable.em (a3 ≤ (2 : Int32)) with c6 | c6
            · rw [if_pos c6]
              refine Go.of_run (Ev.mono _) 4 _ ?_
              refine go_si rfl ?_
              show Go none aM (Ev mt aM (d + 7)) mX11_match Q (39, [some (.ref 0), some (.int a1), some (.int a2), some (.int a3)], [], (SH, mkM (si I 1 0 a1) J T), 0, 0)
              refine Go.of_run (Ev.mono _) 4 _ ?_
              refine go_si rfl ?_
              show Go none aM (Ev mt aM (d + 7)) mX11_match Q (47, [some (.ref 0), some (.int a1), some (.int a2), some (.int a3)], [], (SH, mkM (si (si I 1 0 a1) 1 1 a2) J T), 0, 0)
              refine Go.of_run (Ev.mono _) 4 _ ?_
              refine go_si rfl ?_
              show Go none aM (Ev mt aM (d + 7)) mX11_match Q (55, [some (.ref 0), some (.int a1), some (.int a2), some (.int a3)], [], (SH, mkM (si (si (si I 1 0 a1) 1 1 a2) 1 2 a3) J T), 0, 0)
              refine Go.of_run (Ev.mono _) 4 _ ?_
              refine go_si rfl ?_
              show Go none aM (Ev mt aM (d + 7)) mX11_match Q (63, [some (.ref 0), some (.int a1), some (.int a2), some (.int a3)], [], (SH, mkM (si (si (si (si I 1 0 a1) 1 1 a2) 1 2 a3) 76 0 (0 : Int32)) J T), 0, 0)
              refine Go.of_run (Ev.mono _) 2 _ ?_
              refine ⟨Nat.le_of_ble_eq_true rfl, ((((((hyp.2 c1).2 c2).2 c3).2 c4).2 c5).1 c6)⟩
            · rw [if_neg c6]
              refine Go.of_run (Ev.mono _) 2 _ ?_
              refine ⟨(by decide), ?_⟩
              show Q (some (.int (0 : Int32))) (SH, mkM I J T)
              exact ((((((hyp.2 c1).2 c2).2 c3).2 c4).2 c5).2 c6)
set_option maxRecDepth 20000 in
theorem cplayer_0 {d : Nat} {a1 a2 a3 a4 a5 : Int32} {I : Nat → Nat → Int32} {J : Nat → Nat → Int64} {T : Nat → Nat → Nat} {Q : Option Value → Mem → Prop} (hyp : ((v_X11_isPlayer a1 = 0 → Q (some (.int (0 : Int32))) (SH, mkM I J T)) ∧ ((¬ (v_X11_isPlayer a1 = 0)) → ((v_X11_isDigit a2 = 0 → Q (some (.int (0 : Int32))) (SH, mkM I J T)) ∧ ((¬ (v_X11_isDigit a2 = 0)) → ((v_X11_isDigit a3 = 0 → Q (some (.int (0 : Int32))) (SH, mkM I J T)) ∧ ((¬ (v_X11_isDigit a3 = 0)) → ((a4 < 0 → Q (some (.int (0 : Int32))) (SH, mkM I J T)) ∧ ((¬ (a4 < 0)) → (((2 : Int32) < a4 → Q (some (.int (0 : Int32))) (SH, mkM I J T)) ∧ ((¬ ((2 : Int32) < a4)) → ((a5 < 0 → Q (some (.int (0 : Int32))) (SH, mkM I J T)) ∧ ((¬ (a5 < 0)) → ((a5 ≤ (2 : Int32) → (vp_in ((2 : Int32) * a1) 10 ∧ (vp_in (((2 : Int32) * a1) + (1 : Int32)) 10 ∧ (vp_in a1 5 ∧ (vp_in a1 5 ∧ Ev mt aM (d + 7) 164 [.ref 0] (SH, mkM (si (si (si (si (si I 2 (((2 : Int32) * a1).toNatClampNeg) a2) 2 ((((2 : Int32) * a1) + (1 : Int32)).toNatClampNeg) a3) 3 a1.toNatClampNeg a4) 4 a1.toNatClampNeg a5) 76 0 (0 : Int32)) J T) (fun r m1 => Go none aM (Ev mt aM (d + 7)) mX11_player Q (73, [some (.ref 0), some (.int a1), some (.int a2), some (.int a3), some (.int a4), some (.int a5)], r.toList ++ [], m1, 0, 0))))))) ∧ ((¬ (a5 ≤ (2 : Int32))) → Q (some (.int (0 : Int32))) (SH, mkM I J T)))))))))))))))) : Go none aM (Ev mt aM (d + 7)) mX11_player Q (0, [some (.ref 0), some (.int a1), some (.int a2), some (.int a3), some (.int a4), some (.int a5)], [], (SH, mkM I J T), 0, 0) := by
  refine Go.of_run (Ev.mono _) 2 _ ?_
  refine ⟨Nat.le_of_ble_eq_true rfl, ev_X11_isPlayer ?_⟩
  show Go none aM (Ev mt aM (d + 7)) mX11_player Q (4, [some (.ref 0), some (.int a1), some (.int a2), some (.int a3), some (.int a4), some (.int a5)], [.int (v_X11_isPlayer a1)], (SH, mkM I J T), 0, 0)
  refine Go.of_run (Ev.mono _) 1 _ ?_
  show Go none aM (Ev mt aM (d + 7)) mX11_player Q (if v_X11_isPlayer a1 = 0 then 21 else 7, [some (.ref 0), some (.int a1), some (.int a2), some (.int a3), some (.int a4), some (.int a5)], [], (SH, mkM I J T), 0, 0)
  rcases Decidable.em (v_X11_isPlayer a1 = 0) with c1 | c1
  · rw [if_pos c1]
    refine Go.of_run (Ev.mono _) 2 _ ?_
    refine ⟨(by decide), ?_⟩
    show Q (some (.int (0 : Int32))) (SH, mkM I J T)
    exact (hyp.1 c1)
  · rw [if_neg c1]
    refine Go.of_run (Ev.mono _) 2 _ ?_
    refine ⟨Nat.le_of_ble_eq_true rfl, ev_X11_isDigit ?_⟩
    show Go none aM (Ev mt aM (d + 7)) mX11_player Q (11, [some (.ref 0), some (.int a1), some (.int a2), some (.int a3), some (.int a4), some (.int a5)], [.int (v_X11_isDigit a2)], (SH, mkM I J T), 0, 0)
    refine Go.of_run (Ev.mono _) 1 _ ?_
    show Go none aM (Ev mt aM (d + 7)) mX11_player Q (if v_X11_isDigit a2 = 0 then 21 else 14, [some (.ref 0), some (.int a1), some (.int a2), some (.int a3), some (.int a4), some (.int a5)], [], (SH, mkM I J T), 0, 0)
    rcases Decidable.em (v_X11_isDigit a2 = 0) with c2 | c2
    · rw [if_pos c2]
      refine Go.of_run (Ev.mono _) 2 _ ?_
      refine ⟨(by decide), ?_⟩
      show Q (some (.int (0 : Int32))) (SH, mkM I J T)
      exact ((hyp.2 c1).1 c2)
    · rw [if_neg c2]
      refine Go.of_run (Ev.mono _) 2 _ ?_
      refine ⟨Nat.le_of_ble_eq_true rfl, ev_X11_isDigit ?_⟩
      show Go none aM (Ev mt aM (d + 7)) mX11_player Q (18, [some (.ref 0), some (.int a1), some (.int a2), some (.int a3), some (.int a4), some (.int a5)], [.int (v_X11_isDigit a3)], (SH, mkM I J T), 0, 0)
      refine Go.of_run (Ev.mono _) 1 _ ?_
      show Go none aM (Ev mt aM (d + 7)) mX11_player Q (if v_X11_isDigit a3 = 0 then 21 else 23, [some (.ref 0), some (.int a1), some (.int a2), some (.int a3), some (.int a4), some (.int a5)], [], (SH, mkM I J T), 0, 0)
      rcases Decidable.em (v_X11_isDigit a3 = 0) with c3 | c3
      · rw [if_pos c3]
        refine Go.of_run (Ev.mono _) 2 _ ?_
        refine ⟨(by decide), ?_⟩
        show Q (some (.int (0 : Int32))) (SH, mkM I J T)
        exact (((hyp.2 c1).2 c2).1 c3)
      · rw [if_neg c3]
        refine Go.of_run (Ev.mono _) 2 _ ?_
        show Go none aM (Ev mt aM (d + 7)) mX11_player Q (if a4 < 0 then 45 else 28, [some (.ref 0), some (.int a1), some (.int a2), some (.int a3), some (.int a4), some (.int a5)], [], (SH, mkM I J T), 0, 0)
        rcases Decidable.em (a4 < 0) with c4 | c4
        · rw [if_pos c4]
          refine Go.of_run (Ev.mono _) 2 _ ?_
          refine ⟨(by decide), ?_⟩
          show Q (some (.int (0 : Int32))) (SH, mkM I J T)
          exact ((((hyp.2 c1).2 c2).2 c3).1 c4)
        · rw [if_neg c4]
          refine Go.of_run (Ev.mono _) 3 _ ?_
          show Go none aM (Ev mt aM (d + 7)) mX11_player Q (if (2 : Int32) < a4 then 45 else 34, [some (.ref 0), some (.int a1), some (.int a2), some (.int a3), some (.int a4), some (.int a5)], [], (SH, mkM I J T), 0, 0)
          rcases Decidable.em ((2 : Int32) < a4) with c5 | c5
          · rw [if_pos c5]
            refine Go.of_run (Ev.mono _) 2 _ ?_
            refine ⟨(by decide), ?_⟩
            show Q (some (.int (0 : Int32))) (SH, mkM I J T)
            exact (((((hyp.2 c1).2 c2).2 c3).2 c4).1 c5)
          · rw [if_neg c5]
            refine Go.of_run (Ev.mono _) 2 _ ?_
            show Go none aM (Ev mt aM (d + 7)) mX11_player Q (if a5 < 0 then 45 else 39, [some (.ref 0), some (.int a1), some (.int a2), some (.int a3), some (.int a4), some (.int a5)], [], (SH, mkM I J T), 0, 0)
            rcases Decidable.em (a5 < 0) with c6 | c6
            · rw [if_pos c6]
              refine Go.of_run (Ev.mono _) 2 _ ?_
              refine ⟨(by decide), ?_⟩
              show Q (some (.int (0 : Int32))) (SH, mkM I J T)
              exact ((((((hyp.2 c1).2 c2).2 c3).2 c4).2 c5).1 c6)
            · rw [if_neg c6]
              refine Go.of_run (Ev.mono _) 3 _ ?_
              show Go none aM (Ev mt aM (d + 7)) mX11_player Q (if a5 ≤ (2 : Int32) then 47 else 45, [some (.ref 0), some (.int a1), some (.int a2), some (.int a3), some (.int a4), some (.int a5)], [], (SH, mkM I J T), 0, 0)
              rcases Decidable.em (a5 ≤ (2 : Int32)) with c7 | c7
              · rw [if_pos c7]
                refine Go.of_run (Ev.mono _) 8 _ ?_
                refine ⟨Nat.le_of_ble_eq_true rfl, ev_X7_setPlayer ⟨(((((((hyp.2 c1).2 c2).2 c3).2 c4).2 c5).2 c6).1 c7).1, ⟨(((((((hyp.2 c1).2 c2).2 c3).2 c4).2 c5).2 c6).1 c7).2.1, ⟨(((((((hyp.2 c1).2 c2).2 c3).2 c4).2 c5).2 c6).1 c7).2.2.1, (((((((hyp.2 c1).2 c2).2 c3).2 c4).2 c5).2 c6).1 c7).2.2.2.1⟩⟩⟩ ?_⟩
                show Go none aM (Ev mt aM (d + 7)) mX11_player Q (61, [some (.ref 0), some (.int a1), some (.int a2), some (.int a3), some (.int a4), some (.int a5)], [], (SH, mkM (si (si (si (si I 2 (((2 : Int32) * a1).toNatClampNeg) a2) 2 ((((2 : Int32) * a1) + (1 : Int32)).toNatClampNeg) a3) 3 a1.toNatClampNeg a4) 4 a1.toNatClampNeg a5) J T), 0, 0)
                refine Go.of_run (Ev.mono _) 4 _ ?_
                refine go_si rfl ?_
                show Go none aM (Ev mt aM (d + 7)) mX11_player Q (69, [some (.ref 0), some (.int a1), some (.int a2), some (.int a3), some (.int a4), some (.int a5)], [], (SH, mkM (si (si (si (si (si I 2 (((2 : Int32) * a1).toNatClampNeg) a2) 2 ((((2 : Int32) * a1) + (1 : Int32)).toNatClampNeg) a3) 3 a1.toNatClampNeg a4) 4 a1.toNatClampNeg a5) 76 0 (0 : Int32)) J T), 0, 0)
                refine Go.of_run (Ev.mono _) 2 _ ?_
                refine ⟨Nat.le_of_ble_eq_true rfl, (((((((hyp.2 c1).2 c2).2 c3).2 c4).2 c5).2 c6).1 c7).2.2.2.2⟩
              · rw [if_neg c7]
                refine Go.of_run (Ev.mono _) 2 _ ?_
                refine ⟨(by decide), ?_⟩
                show Q (some (.int (0 : Int32))) (SH, mkM I J T)
                exact (((((((hyp.2 c1).2 c2).2 c3).2 c4).2 c5).2 c6).2 c7)
set_option maxRecDepth 20000 in
theorem cpair_0 {d : Nat} {a1 a2 a3 : Int32} {I : Nat → Nat → Int32} {J : Nat → Nat → Int64} {T : Nat → Nat → Nat} {Q : Option Value → Mem → Prop} (hyp : ((v_X11_isPlayer a1 = 0 → Q (some (.int (0 : Int32))) (SH, mkM I J T)) ∧ ((¬ (v_X11_isPlayer a1 = 0)) → ((v_X11_isPlayer a2 = 0 → Q (some (.int (0 : Int32))) (SH, mkM I J T)) ∧ ((¬ (v_X11_isPlayer a2 = 0)) → ((a1 = a2 → Q (some (.int (0 : Int32))) (SH, mkM I J T)) ∧ ((¬ (a1 = a2)) → ((v_X11_isDigit a3 = 0 → Q (some (.int (0 : Int32))) (SH, mkM I J T)) ∧ ((¬ (v_X11_isDigit a3 = 0)) → (vp_in (((5 : Int32) * a1) + a2) 25 ∧ (vp_in (((5 : Int32) * a2) + a1) 25 ∧ Ev mt aM (d + 7) 164 [.ref 0] (SH, mkM (si (si I 5 ((((5 : Int32) * a1) + a2).toNatClampNeg) a3) 5 ((((5 : Int32) * a2) + a1).toNatClampNeg) a3) J T) (fun r m1 => Go none aM (Ev mt aM (d + 7)) mX11_pair Q (42, [some (.ref 0), some (.int a1), some (.int a2), some (.int a3)], r.toList ++ [], m1, 0, 0))))))))))))) : Go none aM (Ev mt aM (d + 7)) mX11_pair Q (0, [some (.ref 0), some (.int a1), some (.int a2), some (.int a3)], [], (SH, mkM I J T), 0, 0) := by
  refine Go.of_run (Ev.mono _) 2 _ ?_
  refine ⟨Nat.le_of_ble_eq_true rfl, ev_X11_isPlayer ?_⟩
  show Go none aM (Ev mt aM (d + 7)) mX11_pair Q (4, [some (.ref 0), some (.int a1), some (.int a2), some (.int a3)], [.int (v_X11_isPlayer a1)], (SH, mkM I J T), 0, 0)
  refine Go.of_run (Ev.mono _) 1 _ ?_
  show Go none aM (Ev mt aM (d + 7)) mX11_pair Q (if v_X11_isPlayer a1 = 0 then 26 else 7, [some (.ref 0), some (.int a1), some (.int a2), some (.int a3)], [], (SH, mkM I J T), 0, 0)
  rcases Decidable.em (v_X11_isPlayer a1 = 0) with c1 | c1
  · rw [if_pos c1]
    refine Go.of_run (Ev.mono _) 2 _ ?_
    refine ⟨(by decide), ?_⟩
    show Q (some (.int (0 : Int32))) (SH, mkM I J T)
    exact (hyp.1 c1)
  · rw [if_neg c1]
    refine Go.of_run (Ev.mono _) 2 _ ?_
    refine ⟨Nat.le_of_ble_eq_true rfl, ev_X11_isPlayer ?_⟩
    show Go none aM (Ev mt aM (d + 7)) mX11_pair Q (11, [some (.ref 0), some (.int a1), some (.int a2), some (.int a3)], [.int (v_X11_isPlayer a2)], (SH, mkM I J T), 0, 0)
    refine Go.of_run (Ev.mono _) 1 _ ?_
    show Go none aM (Ev mt aM (d + 7)) mX11_pair Q (if v_X11_isPlayer a2 = 0 then 26 else 14, [some (.ref 0), some (.int a1), some (.int a2), some (.int a3)], [], (SH, mkM I J T), 0, 0)
    rcases Decidable.em (v_X11_isPlayer a2 = 0) with c2 | c2
    · rw [if_pos c2]
      refine Go.of_run (Ev.mono _) 2 _ ?_
      refine ⟨(by decide), ?_⟩
      show Q (some (.int (0 : Int32))) (SH, mkM I J T)
      exact ((hyp.2 c1).1 c2)
    · rw [if_neg c2]
      refine Go.of_run (Ev.mono _) 3 _ ?_
      show Go none aM (Ev mt aM (d + 7)) mX11_pair Q (if a1 = a2 then 26 else 19, [some (.ref 0), some (.int a1), some (.int a2), some (.int a3)], [], (SH, mkM I J T), 0, 0)
      rcases Decidable.em (a1 = a2) with c3 | c3
      · rw [if_pos c3]
        refine Go.of_run (Ev.mono _) 2 _ ?_
        refine ⟨(by decide), ?_⟩
        show Q (some (.int (0 : Int32))) (SH, mkM I J T)
        exact (((hyp.2 c1).2 c2).1 c3)
      · rw [if_neg c3]
        refine Go.of_run (Ev.mono _) 2 _ ?_
        refine ⟨Nat.le_of_ble_eq_true rfl, ev_X11_isDigit ?_⟩
        show Go none aM (Ev mt aM (d + 7)) mX11_pair Q (23, [some (.ref 0), some (.int a1), some (.int a2), some (.int a3)], [.int (v_X11_isDigit a3)], (SH, mkM I J T), 0, 0)
        refine Go.of_run (Ev.mono _) 1 _ ?_
        show Go none aM (Ev mt aM (d + 7)) mX11_pair Q (if v_X11_isDigit a3 = 0 then 26 else 28, [some (.ref 0), some (.int a1), some (.int a2), some (.int a3)], [], (SH, mkM I J T), 0, 0)
        rcases Decidable.em (v_X11_isDigit a3 = 0) with c4 | c4
        · rw [if_pos c4]
          refine Go.of_run (Ev.mono _) 2 _ ?_
          refine ⟨(by decide), ?_⟩
          show Q (some (.int (0 : Int32))) (SH, mkM I J T)
          exact ((((hyp.2 c1).2 c2).2 c3).1 c4)
        · rw [if_neg c4]
          refine Go.of_run (Ev.mono _) 6 _ ?_
          refine ⟨Nat.le_of_ble_eq_true rfl, ev_X7_setPair ⟨((((hyp.2 c1).2 c2).2 c3).2 c4).1, ((((hyp.2 c1).2 c2).2 c3).2 c4).2.1⟩ ?_⟩
          show Go none aM (Ev mt aM (d + 7)) mX11_pair Q (38, [some (.ref 0), some (.int a1), some (.int a2), some (.int a3)], [], (SH, mkM (si (si I 5 ((((5 : Int32) * a1) + a2).toNatClampNeg) a3) 5 ((((5 : Int32) * a2) + a1).toNatClampNeg) a3) J T), 0, 0)
          refine Go.of_run (Ev.mono _) 2 _ ?_
          refine ⟨Nat.le_of_ble_eq_true rfl, ((((hyp.2 c1).2 c2).2 c3).2 c4).2.2⟩
set_option maxRecDepth 20000 in
theorem cworth_0 {d : Nat} {a1 a2 a3 : Int32} {I : Nat → Nat → Int32} {J : Nat → Nat → Int64} {T : Nat → Nat → Nat} {Q : Option Value → Mem → Prop} (hyp : ((a1 < 0 → Q (some (.int (0 : Int32))) (SH, mkM I J T)) ∧ ((¬ (a1 < 0)) → (((1000 : Int32) < a1 → Q (some (.int (0 : Int32))) (SH, mkM I J T)) ∧ ((¬ ((1000 : Int32) < a1)) → ((a2 < 0 → Q (some (.int (0 : Int32))) (SH, mkM I J T)) ∧ ((¬ (a2 < 0)) → (((1000 : Int32) < a2 → Q (some (.int (0 : Int32))) (SH, mkM I J T)) ∧ ((¬ ((1000 : Int32) < a2)) → ((a3 < 0 → Q (some (.int (0 : Int32))) (SH, mkM I J T)) ∧ ((¬ (a3 < 0)) → ((a3 ≤ (1000 : Int32) → Ev mt aM (d + 7) 164 [.ref 0] (SH, mkM (si (si (si I 1 3 a1) 1 4 a2) 1 5 a3) J T) (fun r m1 => Go none aM (Ev mt aM (d + 7)) mX11_worth Q (63, [some (.ref 0), some (.int a1), some (.int a2), some (.int a3)], r.toList ++ [], m1, 0, 0))) ∧ ((¬ (a3 ≤ (1000 : Int32))) → Q (some (.int (0 : Int32))) (SH, mkM I J T)))))))))))))) : Go none aM (Ev mt aM (d + 7)) mX11_worth Q (0, [some (.ref 0), some (.int a1), some (.int a2), some (.int a3)], [], (SH, mkM I J T), 0, 0) := by
  refine Go.of_run (Ev.mono _) 2 _ ?_
  show Go none aM (Ev mt aM (d + 7)) mX11_worth Q (if a1 < 0 then 33 else 4, [some (.ref 0), some (.int a1), some (.int a2), some (.int a3)], [], (SH, mkM I J T), 0, 0)
  rcases Decidable.em (a1 < 0) with c1 | c1
  · rw [if_pos c1]
    refine Go.of_run (Ev.mono _) 2 _ ?_
    refine ⟨(by decide), ?_⟩
    show Q (some (.int (0 : Int32))) (SH, mkM I J T)
    exact (hyp.1 c1)
  · rw [if_neg c1]
    refine Go.of_run (Ev.mono _) 3 _ ?_
    show Go none aM (Ev mt aM (d + 7)) mX11_worth Q (if (1000 : Int32) < a1 then 33 else 11, [some (.ref 0), some (.int a1), some (.int a2), some (.int a3)], [], (SH, mkM I J T), 0, 0)
    rcases Decidable.em ((1000 : Int32) < a1) with c2 | c2
    · rw [if_pos c2]
      refine Go.of_run (Ev.mono _) 2 _ ?_
      refine ⟨(by decide), ?_⟩
      show Q (some (.int (0 : Int32))) (SH, mkM I J T)
      exact ((hyp.2 c1).1 c2)
    · rw [if_neg c2]
      refine Go.of_run (Ev.mono _) 2 _ ?_
      show Go none aM (Ev mt aM (d + 7)) mX11_worth Q (if a2 < 0 then 33 else 15, [some (.ref 0), some (.int a1), some (.int a2), some (.int a3)], [], (SH, mkM I J T), 0, 0)
      rcases Decidable.em (a2 < 0) with c3 | c3
      · rw [if_pos c3]
        refine Go.of_run (Ev.mono _) 2 _ ?_
        refine ⟨(by decide), ?_⟩
        show Q (some (.int (0 : Int32))) (SH, mkM I J T)
        exact (((hyp.2 c1).2 c2).1 c3)
      · rw [if_neg c3]
        refine Go.of_run (Ev.mono _) 3 _ ?_
        show Go none aM (Ev mt aM (d + 7)) mX11_worth Q (if (1000 : Int32) < a2 then 33 else 22, [some (.ref 0), some (.int a1), some (.int a2), some (.int a3)], [], (SH, mkM I J T), 0, 0)
        rcases Decidable.em ((1000 : Int32) < a2) with c4 | c4
        · rw [if_pos c4]
          refine Go.of_run (Ev.mono _) 2 _ ?_
          refine ⟨(by decide), ?_⟩
          show Q (some (.int (0 : Int32))) (SH, mkM I J T)
          exact ((((hyp.2 c1).2 c2).2 c3).1 c4)
        · rw [if_neg c4]
          refine Go.of_run (Ev.mono _) 2 _ ?_
          show Go none aM (Ev mt aM (d + 7)) mX11_worth Q (if a3 < 0 then 33 else 26, [some (.ref 0), some (.int a1), some (.int a2), some (.int a3)], [], (SH, mkM I J T), 0, 0)
          rcases Decidable.em (a3 < 0) with c5 | c5
          · rw [if_pos c5]
            refine Go.of_run (Ev.mono _) 2 _ ?_
            refine ⟨(by decide), ?_⟩
            show Q (some (.int (0 : Int32))) (SH, mkM I J T)
            exact (((((hyp.2 c1).2 c2).2 c3).2 c4).1 c5)
          · rw [if_neg c5]
            refine Go.of_run (Ev.mono _) 3 _ ?_
            show Go none aM (Ev mt aM (d + 7)) mX11_worth Q (if a3 ≤ (1000 : Int32) then 35 else 33, [some (.ref 0), some (.int a1), some (.int a2), some (.int a3)], [], (SH, mkM I J T), 0, 0)
            rcases Decidable.em (a3 ≤ (1000 : Int32)) with c6 | c6
            · rw [if_pos c6]
              refine Go.of_run (Ev.mono _) 4 _ ?_
              refine go_si rfl ?_
              show Go none aM (Ev mt aM (d + 7)) mX11_worth Q (43, [some (.ref 0), some (.int a1), some (.int a2), some (.int a3)], [], (SH, mkM (si I 1 3 a1) J T), 0, 0)
              refine Go.of_run (Ev.mono _) 4 _ ?_
              refine go_si rfl ?_
              show Go none aM (Ev mt aM (d + 7)) mX11_worth Q (51, [some (.ref 0), some (.int a1), some (.int a2), some (.int a3)], [], (SH, mkM (si (si I 1 3 a1) 1 4 a2) J T), 0, 0)
              refine Go.of_run (Ev.mono _) 4 _ ?_
              refine go_si rfl ?_
              show Go none aM (Ev mt aM (d + 7)) mX11_worth Q (59, [some (.ref 0), some (.int a1), some (.int a2), some (.int a3)], [], (SH, mkM (si (si (si I 1 3 a1) 1 4 a2) 1 5 a3) J T), 0, 0)
              refine Go.of_run (Ev.mono _) 2 _ ?_
              refine ⟨Nat.le_of_ble_eq_true rfl, ((((((hyp.2 c1).2 c2).2 c3).2 c4).2 c5).1 c6)⟩
            · rw [if_neg c6]
              refine Go.of_run (Ev.mono _) 2 _ ?_
              refine ⟨(by decide), ?_⟩
              show Q (some (.int (0 : Int32))) (SH, mkM I J T)
              exact ((((((hyp.2 c1).2 c2).2 c3).2 c4).2 c5).2 c6)
set_option maxRecDepth 20000 in
theorem cmay_0 {d : Nat} {a1 a2 a3 : Int32} {I : Nat → Nat → Int32} {J : Nat → Nat → Int64} {T : Nat → Nat → Nat} {Q : Option Value → Mem → Prop} (hyp : ((v_X11_isState a1 (0 : Int32) a2 I = 0 → Q (some (.int (-1 : Int32))) (SH, mkM I J T)) ∧ ((¬ (v_X11_isState a1 (0 : Int32) a2 I = 0)) → ((v_X11_isAction a3 = 0 → Q (some (.int (-1 : Int32))) (SH, mkM I J T)) ∧ ((¬ (v_X11_isAction a3 = 0)) → ((v_X7_mayBe a2 a3 (I 1 1) (I 1 2) = 0 → Q (some (.int (0 : Int32))) (SH, mkM I J T)) ∧ ((¬ (v_X7_mayBe a2 a3 (I 1 1) (I 1 2) = 0)) → Q (some (.int (1 : Int32))) (SH, mkM I J T)))))))) : Go none aM (Ev mt aM (d + 7)) mX11_may Q (0, [some (.ref 0), some (.int a1), some (.int a2), some (.int a3)], [], (SH, mkM I J T), 0, 0) := by
  refine Go.of_run (Ev.mono _) 5 _ ?_
  refine ⟨Nat.le_of_ble_eq_true rfl, ev_X11_isState ?_⟩
  show Go none aM (Ev mt aM (d + 7)) mX11_may Q (7, [some (.ref 0), some (.int a1), some (.int a2), some (.int a3)], [.int (v_X11_isState a1 (0 : Int32) a2 I)], (SH, mkM I J T), 0, 0)
  refine Go.of_run (Ev.mono _) 1 _ ?_
  show Go none aM (Ev mt aM (d + 7)) mX11_may Q (if v_X11_isState a1 (0 : Int32) a2 I = 0 then 17 else 10, [some (.ref 0), some (.int a1), some (.int a2), some (.int a3)], [], (SH, mkM I J T), 0, 0)
  rcases Decidable.em (v_X11_isState a1 (0 : Int32) a2 I = 0) with c1 | c1
  · rw [if_pos c1]
    refine Go.of_run (Ev.mono _) 2 _ ?_
    refine ⟨trivial, ?_⟩
    show Q (some (.int (-1 : Int32))) (SH, mkM I J T)
    exact (hyp.1 c1)
  · rw [if_neg c1]
    refine Go.of_run (Ev.mono _) 2 _ ?_
    refine ⟨Nat.le_of_ble_eq_true rfl, ev_X11_isAction ?_⟩
    show Go none aM (Ev mt aM (d + 7)) mX11_may Q (14, [some (.ref 0), some (.int a1), some (.int a2), some (.int a3)], [.int (v_X11_isAction a3)], (SH, mkM I J T), 0, 0)
    refine Go.of_run (Ev.mono _) 1 _ ?_
    show Go none aM (Ev mt aM (d + 7)) mX11_may Q (if v_X11_isAction a3 = 0 then 17 else 19, [some (.ref 0), some (.int a1), some (.int a2), some (.int a3)], [], (SH, mkM I J T), 0, 0)
    rcases Decidable.em (v_X11_isAction a3 = 0) with c2 | c2
    · rw [if_pos c2]
      refine Go.of_run (Ev.mono _) 2 _ ?_
      refine ⟨trivial, ?_⟩
      show Q (some (.int (-1 : Int32))) (SH, mkM I J T)
      exact ((hyp.2 c1).1 c2)
    · rw [if_neg c2]
      refine Go.of_run (Ev.mono _) 9 _ ?_
      refine ⟨Nat.le_of_ble_eq_true rfl, ev_X7_mayBe ?_⟩
      show Go none aM (Ev mt aM (d + 7)) mX11_may Q (38, [some (.ref 0), some (.int a1), some (.int a2), some (.int a3)], [.int (v_X7_mayBe a2 a3 (I 1 1) (I 1 2))], (SH, mkM I J T), 0, 0)
      refine Go.of_run (Ev.mono _) 1 _ ?_
      show Go none aM (Ev mt aM (d + 7)) mX11_may Q (if v_X7_mayBe a2 a3 (I 1 1) (I 1 2) = 0 then 45 else 41, [some (.ref 0), some (.int a1), some (.int a2), some (.int a3)], [], (SH, mkM I J T), 0, 0)
      rcases Decidable.em (v_X7_mayBe a2 a3 (I 1 1) (I 1 2) = 0) with c3 | c3
      · rw [if_pos c3]
        refine Go.of_run (Ev.mono _) 2 _ ?_
        refine ⟨trivial, ?_⟩
        show Q (some (.int (0 : Int32))) (SH, mkM I J T)
        exact (((hyp.2 c1).2 c2).1 c3)
      · rw [if_neg c3]
        refine Go.of_run (Ev.mono _) 3 _ ?_
        refine ⟨trivial, ?_⟩
        show Q (some (.int (1 : Int32))) (SH, mkM I J T)
        exact (((hyp.2 c1).2 c2).2 c3)
set_option maxRecDepth 20000 in
theorem cafter_0 {d : Nat} {a1 a2 a3 : Int32} {I : Nat → Nat → Int32} {J : Nat → Nat → Int64} {T : Nat → Nat → Nat} {Q : Option Value → Mem → Prop} (hyp : ((v_X11_isLegal a1 (0 : Int32) a2 a3 I = 0 → Q (some (.int (-1 : Int32))) (SH, mkM I J T)) ∧ ((¬ (v_X11_isLegal a1 (0 : Int32) a2 a3 I = 0)) → ((0 < (a3 - a3 / (7 : Int32) * (7 : Int32)) → vp_in (v_X7_playerOf (a3 - a3 / (7 : Int32) * (7 : Int32))) 5) ∧ ((0 < (a3 / (7 : Int32)) → vp_in (v_X7_playerOf (a3 / (7 : Int32))) 5) ∧ Q (some (.int (v_X7_codeAfter a2 a3 I))) (SH, mkM I J T)))))) : Go none aM (Ev mt aM (d + 7)) mX11_after Q (0, [some (.ref 0), some (.int a1), some (.int a2), some (.int a3)], [], (SH, mkM I J T), 0, 0) := by
  refine Go.of_run (Ev.mono _) 6 _ ?_
  refine ⟨Nat.le_of_ble_eq_true rfl, ev_X11_isLegal ?_⟩
  show Go none aM (Ev mt aM (d + 7)) mX11_after Q (8, [some (.ref 0), some (.int a1), some (.int a2), some (.int a3)], [.int (v_X11_isLegal a1 (0 : Int32) a2 a3 I)], (SH, mkM I J T), 0, 0)
  refine Go.of_run (Ev.mono _) 1 _ ?_
  show Go none aM (Ev mt aM (d + 7)) mX11_after Q (if v_X11_isLegal a1 (0 : Int32) a2 a3 I = 0 then 23 else 11, [some (.ref 0), some (.int a1), some (.int a2), some (.int a3)], [], (SH, mkM I J T), 0, 0)
  rcases Decidable.em (v_X11_isLegal a1 (0 : Int32) a2 a3 I = 0) with c1 | c1
  · rw [if_pos c1]
    refine Go.of_run (Ev.mono _) 2 _ ?_
    refine ⟨trivial, ?_⟩
    show Q (some (.int (-1 : Int32))) (SH, mkM I J T)
    exact (hyp.1 c1)
  · rw [if_neg c1]
    refine Go.of_run (Ev.mono _) 5 _ ?_
    refine ⟨Nat.le_of_ble_eq_true rfl, ev_X7_codeAfter ⟨(hyp.2 c1).1, (hyp.2 c1).2.1⟩ ?_⟩
    show Go none aM (Ev mt aM (d + 7)) mX11_after Q (20, [some (.ref 0), some (.int a1), some (.int a2), some (.int a3)], [.int (v_X7_codeAfter a2 a3 I)], (SH, mkM I J T), 0, 0)
    refine Go.of_run (Ev.mono _) 2 _ ?_
    refine ⟨trivial, ?_⟩
    show Q (some (.int (v_X7_codeAfter a2 a3 I))) (SH, mkM I J T)
    exact (hyp.2 c1).2.2
set_option maxRecDepth 20000 in
theorem cchance_0 {d : Nat} {a1 a2 a3 a4 a5 a6 : Int32} {I : Nat → Nat → Int32} {J : Nat → Nat → Int64} {T : Nat → Nat → Nat} {Q : Option Value → Mem → Prop} (hyp : ((v_X11_isLegal a1 a2 a3 a4 I = 0 → Q (some (.int (-1 : Int32))) (SH, mkM I J T)) ∧ ((¬ (v_X11_isLegal a1 a2 a3 a4 I = 0)) → ((v_X11_isOther a5 = 0 → Q (some (.int (-1 : Int32))) (SH, mkM I J T)) ∧ ((¬ (v_X11_isOther a5 = 0)) → ((a6 < 0 → Q (some (.int (-1 : Int32))) (SH, mkM I J T)) ∧ ((¬ (a6 < 0)) → ((a6 ≤ (4 : Int32) → Ev mt aM (d + 7) 27 [.ref 9, .int a5, .int a1, .int a2] (SH, mkM I J T) (fun r m1 => Go none aM (Ev mt aM (d + 7)) mX11_chance Q (44, [some (.ref 0), some (.int a1), some (.int a2), some (.int a3), some (.int a4), some (.int a5), some (.int a6), none, none, none], r.toList ++ [], m1, 0, 0))) ∧ ((¬ (a6 ≤ (4 : Int32))) → Q (some (.int (-1 : Int32))) (SH, mkM I J T)))))))))) : Go none aM (Ev mt aM (d + 7)) mX11_chance Q (0, [some (.ref 0), some (.int a1), some (.int a2), some (.int a3), some (.int a4), some (.int a5), some (.int a6), none, none, none], [], (SH, mkM I J T), 0, 0) := by
  refine Go.of_run (Ev.mono _) 6 _ ?_
  refine ⟨Nat.le_of_ble_eq_true rfl, ev_X11_isLegal ?_⟩
  show Go none aM (Ev mt aM (d + 7)) mX11_chance Q (9, [some (.ref 0), some (.int a1), some (.int a2), some (.int a3), some (.int a4), some (.int a5), some (.int a6), none, none, none], [.int (v_X11_isLegal a1 a2 a3 a4 I)], (SH, mkM I J T), 0, 0)
  refine Go.of_run (Ev.mono _) 1 _ ?_
  show Go none aM (Ev mt aM (d + 7)) mX11_chance Q (if v_X11_isLegal a1 a2 a3 a4 I = 0 then 31 else 12, [some (.ref 0), some (.int a1), some (.int a2), some (.int a3), some (.int a4), some (.int a5), some (.int a6), none, none, none], [], (SH, mkM I J T), 0, 0)
  rcases Decidable.em (v_X11_isLegal a1 a2 a3 a4 I = 0) with c1 | c1
  · rw [if_pos c1]
    refine Go.of_run (Ev.mono _) 2 _ ?_
    refine ⟨trivial, ?_⟩
    show Q (some (.int (-1 : Int32))) (SH, mkM I J T)
    exact (hyp.1 c1)
  · rw [if_neg c1]
    refine Go.of_run (Ev.mono _) 2 _ ?_
    refine ⟨Nat.le_of_ble_eq_true rfl, ev_X11_isOther ?_⟩
    show Go none aM (Ev mt aM (d + 7)) mX11_chance Q (17, [some (.ref 0), some (.int a1), some (.int a2), some (.int a3), some (.int a4), some (.int a5), some (.int a6), none, none, none], [.int (v_X11_isOther a5)], (SH, mkM I J T), 0, 0)
    refine Go.of_run (Ev.mono _) 1 _ ?_
    show Go none aM (Ev mt aM (d + 7)) mX11_chance Q (if v_X11_isOther a5 = 0 then 31 else 20, [some (.ref 0), some (.int a1), some (.int a2), some (.int a3), some (.int a4), some (.int a5), some (.int a6), none, none, none], [], (SH, mkM I J T), 0, 0)
    rcases Decidable.em (v_X11_isOther a5 = 0) with c2 | c2
    · rw [if_pos c2]
      refine Go.of_run (Ev.mono _) 2 _ ?_
      refine ⟨trivial, ?_⟩
      show Q (some (.int (-1 : Int32))) (SH, mkM I J T)
      exact ((hyp.2 c1).1 c2)
    · rw [if_neg c2]
      refine Go.of_run (Ev.mono _) 2 _ ?_
      show Go none aM (Ev mt aM (d + 7)) mX11_chance Q (if a6 < 0 then 31 else 25, [some (.ref 0), some (.int a1), some (.int a2), some (.int a3), some (.int a4), some (.int a5), some (.int a6), none, none, none], [], (SH, mkM I J T), 0, 0)
      rcases Decidable.em (a6 < 0) with c3 | c3
      · rw [if_pos c3]
        refine Go.of_run (Ev.mono _) 2 _ ?_
        refine ⟨trivial, ?_⟩
        show Q (some (.int (-1 : Int32))) (SH, mkM I J T)
        exact (((hyp.2 c1).2 c2).1 c3)
      · rw [if_neg c3]
        refine Go.of_run (Ev.mono _) 3 _ ?_
        show Go none aM (Ev mt aM (d + 7)) mX11_chance Q (if a6 ≤ (4 : Int32) then 33 else 31, [some (.ref 0), some (.int a1), some (.int a2), some (.int a3), some (.int a4), some (.int a5), some (.int a6), none, none, none], [], (SH, mkM I J T), 0, 0)
        rcases Decidable.em (a6 ≤ (4 : Int32)) with c4 | c4
        · rw [if_pos c4]
          refine Go.of_run (Ev.mono _) 6 _ ?_
          refine ⟨Nat.le_of_ble_eq_true rfl, ((((hyp.2 c1).2 c2).2 c3).1 c4)⟩
        · rw [if_neg c4]
          refine Go.of_run (Ev.mono _) 2 _ ?_
          refine ⟨trivial, ?_⟩
          show Q (some (.int (-1 : Int32))) (SH, mkM I J T)
          exact ((((hyp.2 c1).2 c2).2 c3).2 c4)
set_option maxRecDepth 20000 in
theorem csays_0 {d : Nat} {a1 a2 a3 a4 a5 : Int32} {I : Nat → Nat → Int32} {J : Nat → Nat → Int64} {T : Nat → Nat → Nat} {Q : Option Value → Mem → Prop} (hyp : ((v_X11_isRule a1 = 0 → Q (some (.int (-1 : Int32))) (SH, mkM I J T)) ∧ ((¬ (v_X11_isRule a1 = 0)) → (vp_in ((4 : Int32) + a1) 8 ∧ (TX (T 13 ((4 : Int32) + a1).toNatClampNeg) ∧ ((v_X2_isTold ((4 : Int32) + a1) I T = 0 → Q (some (.int (-1 : Int32))) (SH, mkM I J T)) ∧ ((¬ (v_X2_isTold ((4 : Int32) + a1) I T = 0)) → ((v_X11_isState a2 a3 a4 I = 0 → Q (some (.int (-1 : Int32))) (SH, mkM I J T)) ∧ ((¬ (v_X11_isState a2 a3 a4 I = 0)) → ((v_X11_isOther a5 = 0 → Q (some (.int (-1 : Int32))) (SH, mkM I J T)) ∧ ((¬ (v_X11_isOther a5 = 0)) → Ev mt aM (d + 7) 27 [.ref 9, .int a5, .int a2, .int a3] (SH, mkM I J T) (fun r m1 => Go none aM (Ev mt aM (d + 7)) mX11_says Q (61, [some (.ref 0), some (.int a1), some (.int a2), some (.int a3), some (.int a4), some (.int a5)], r.toList ++ [.int a4, .int a3, .int a2, .int a1, .ref 9], m1, 0, 0))))))))))))) : Go none aM (Ev mt aM (d + 7)) mX11_says Q (0, [some (.ref 0), some (.int a1), some (.int a2), some (.int a3), some (.int a4), some (.int a5)], [], (SH, mkM I J T), 0, 0) := by
  refine Go.of_run (Ev.mono _) 2 _ ?_
  refine ⟨Nat.le_of_ble_eq_true rfl, ev_X11_isRule ?_⟩
  show Go none aM (Ev mt aM (d + 7)) mX11_says Q (4, [some (.ref 0), some (.int a1), some (.int a2), some (.int a3), some (.int a4), some (.int a5)], [.int (v_X11_isRule a1)], (SH, mkM I J T), 0, 0)
  refine Go.of_run (Ev.mono _) 1 _ ?_
  show Go none aM (Ev mt aM (d + 7)) mX11_says Q (if v_X11_isRule a1 = 0 then 39 else 7, [some (.ref 0), some (.int a1), some (.int a2), some (.int a3), some (.int a4), some (.int a5)], [], (SH, mkM I J T), 0, 0)
  rcases Decidable.em (v_X11_isRule a1 = 0) with c1 | c1
  · rw [if_pos c1]
    refine Go.of_run (Ev.mono _) 2 _ ?_
    refine ⟨trivial, ?_⟩
    show Q (some (.int (-1 : Int32))) (SH, mkM I J T)
    exact (hyp.1 c1)
  · rw [if_neg c1]
    refine Go.of_run (Ev.mono _) 6 _ ?_
    refine ⟨Nat.le_of_ble_eq_true rfl, ev_X2_isTold ⟨(hyp.2 c1).1, (hyp.2 c1).2.1⟩ ?_⟩
    show Go none aM (Ev mt aM (d + 7)) mX11_says Q (17, [some (.ref 0), some (.int a1), some (.int a2), some (.int a3), some (.int a4), some (.int a5)], [.int (v_X2_isTold ((4 : Int32) + a1) I T)], (SH, mkM I J T), 0, 0)
    refine Go.of_run (Ev.mono _) 1 _ ?_
    show Go none aM (Ev mt aM (d + 7)) mX11_says Q (if v_X2_isTold ((4 : Int32) + a1) I T = 0 then 39 else 20, [some (.ref 0), some (.int a1), some (.int a2), some (.int a3), some (.int a4), some (.int a5)], [], (SH, mkM I J T), 0, 0)
    rcases Decidable.em (v_X2_isTold ((4 : Int32) + a1) I T = 0) with c2 | c2
    · rw [if_pos c2]
      refine Go.of_run (Ev.mono _) 2 _ ?_
      refine ⟨trivial, ?_⟩
      show Q (some (.int (-1 : Int32))) (SH, mkM I J T)
      exact ((hyp.2 c1).2.2.1 c2)
    · rw [if_neg c2]
      refine Go.of_run (Ev.mono _) 5 _ ?_
      refine ⟨Nat.le_of_ble_eq_true rfl, ev_X11_isState ?_⟩
      show Go none aM (Ev mt aM (d + 7)) mX11_says Q (28, [some (.ref 0), some (.int a1), some (.int a2), some (.int a3), some (.int a4), some (.int a5)], [.int (v_X11_isState a2 a3 a4 I)], (SH, mkM I J T), 0, 0)
      refine Go.of_run (Ev.mono _) 1 _ ?_
      show Go none aM (Ev mt aM (d + 7)) mX11_says Q (if v_X11_isState a2 a3 a4 I = 0 then 39 else 31, [some (.ref 0), some (.int a1), some (.int a2), some (.int a3), some (.int a4), some (.int a5)], [], (SH, mkM I J T), 0, 0)
      rcases Decidable.em (v_X11_isState a2 a3 a4 I = 0) with c3 | c3
      · rw [if_pos c3]
        refine Go.of_run (Ev.mono _) 2 _ ?_
        refine ⟨trivial, ?_⟩
        show Q (some (.int (-1 : Int32))) (SH, mkM I J T)
        exact (((hyp.2 c1).2.2.2 c2).1 c3)
      · rw [if_neg c3]
        refine Go.of_run (Ev.mono _) 2 _ ?_
        refine ⟨Nat.le_of_ble_eq_true rfl, ev_X11_isOther ?_⟩
        show Go none aM (Ev mt aM (d + 7)) mX11_says Q (36, [some (.ref 0), some (.int a1), some (.int a2), some (.int a3), some (.int a4), some (.int a5)], [.int (v_X11_isOther a5)], (SH, mkM I J T), 0, 0)
        refine Go.of_run (Ev.mono _) 1 _ ?_
        show Go none aM (Ev mt aM (d + 7)) mX11_says Q (if v_X11_isOther a5 = 0 then 39 else 41, [some (.ref 0), some (.int a1), some (.int a2), some (.int a3), some (.int a4), some (.int a5)], [], (SH, mkM I J T), 0, 0)
        rcases Decidable.em (v_X11_isOther a5 = 0) with c4 | c4
        · rw [if_pos c4]
          refine Go.of_run (Ev.mono _) 2 _ ?_
          refine ⟨trivial, ?_⟩
          show Q (some (.int (-1 : Int32))) (SH, mkM I J T)
          exact ((((hyp.2 c1).2.2.2 c2).2 c3).1 c4)
        · rw [if_neg c4]
          refine Go.of_run (Ev.mono _) 12 _ ?_
          refine ⟨Nat.le_of_ble_eq_true rfl, ((((hyp.2 c1).2.2.2 c2).2 c3).2 c4)⟩
set_option maxRecDepth 20000 in
theorem mmay_0 {d : Nat} {a1 a2 a3 : Int32} {I : Nat → Nat → Int32} {J : Nat → Nat → Int64} {T : Nat → Nat → Nat} {Q : Option Value → Mem → Prop} (hyp : ((v_X12_isAhead a1 I = 0 → Q (some (.int (-1 : Int32))) (SH, mkM I J T)) ∧ ((¬ (v_X12_isAhead a1 I = 0)) → ((v_X12_taken a2 I = (-1 : Int32) → Q (some (.int (-1 : Int32))) (SH, mkM I J T)) ∧ ((¬ (v_X12_taken a2 I = (-1 : Int32))) → ((v_X12_in a3 (0 : Int32) (48 : Int32) = 0 → Q (some (.int (-1 : Int32))) (SH, mkM I J T)) ∧ ((¬ (v_X12_in a3 (0 : Int32) (48 : Int32) = 0)) → ((v_X12_mayBe (v_X12_taken a2 I) a3 I = 0 → Q (some (.int (0 : Int32))) (SH, mkM I J T)) ∧ ((¬ (v_X12_mayBe (v_X12_taken a2 I) a3 I = 0)) → Q (some (.int (1 : Int32))) (SH, mkM I J T)))))))))) : Go none aM (Ev mt aM (d + 8)) mX12_may Q (0, [some (.ref 83), some (.int a1), some (.int a2), some (.int a3), none], [], (SH, mkM I J T), 0, 0) := by
  refine Go.of_run (Ev.mono _) 3 _ ?_
  refine ⟨Nat.le_of_ble_eq_true rfl, ev_X12_taken ?_⟩
  show Go none aM (Ev mt aM (d + 8)) mX12_may Q (5, [some (.ref 83), some (.int a1), some (.int a2), some (.int a3), none], [.int (v_X12_taken a2 I)], (SH, mkM I J T), 0, 0)
  refine Go.of_run (Ev.mono _) 4 _ ?_
  refine ⟨Nat.le_of_ble_eq_true rfl, ev_X12_isAhead ?_⟩
  show Go none aM (Ev mt aM (d + 8)) mX12_may Q (12, [some (.ref 83), some (.int a1), some (.int a2), some (.int a3), some (.int (v_X12_taken a2 I))], [.int (v_X12_isAhead a1 I)], (SH, mkM I J T), 0, 0)
  refine Go.of_run (Ev.mono _) 1 _ ?_
  show Go none aM (Ev mt aM (d + 8)) mX12_may Q (if v_X12_isAhead a1 I = 0 then 31 else 15, [some (.ref 83), some (.int a1), some (.int a2), some (.int a3), some (.int (v_X12_taken a2 I))], [], (SH, mkM I J T), 0, 0)
  rcases Decidable.em (v_X12_isAhead a1 I = 0) with c1 | c1
  · rw [if_pos c1]
    refine Go.of_run (Ev.mono _) 3 _ ?_
    refine ⟨trivial, ?_⟩
    show Q (some (.int (-1 : Int32))) (SH, mkM I J T)
    exact (hyp.1 c1)
  · rw [if_neg c1]
    refine Go.of_run (Ev.mono _) 3 _ ?_
    show Go none aM (Ev mt aM (d + 8)) mX12_may Q (if v_X12_taken a2 I = (-1 : Int32) then 31 else 21, [some (.ref 83), some (.int a1), some (.int a2), some (.int a3), some (.int (v_X12_taken a2 I))], [], (SH, mkM I J T), 0, 0)
    rcases Decidable.em (v_X12_taken a2 I = (-1 : Int32)) with c2 | c2
    · rw [if_pos c2]
      refine Go.of_run (Ev.mono _) 3 _ ?_
      refine ⟨trivial, ?_⟩
      show Q (some (.int (-1 : Int32))) (SH, mkM I J T)
      exact ((hyp.2 c1).1 c2)
    · rw [if_neg c2]
      refine Go.of_run (Ev.mono _) 4 _ ?_
      refine ⟨Nat.le_of_ble_eq_true rfl, ev_X12_in ?_⟩
      show Go none aM (Ev mt aM (d + 8)) mX12_may Q (28, [some (.ref 83), some (.int a1), some (.int a2), some (.int a3), some (.int (v_X12_taken a2 I))], [.int (v_X12_in a3 (0 : Int32) (48 : Int32))], (SH, mkM I J T), 0, 0)
      refine Go.of_run (Ev.mono _) 1 _ ?_
      show Go none aM (Ev mt aM (d + 8)) mX12_may Q (if v_X12_in a3 (0 : Int32) (48 : Int32) = 0 then 31 else 35, [some (.ref 83), some (.int a1), some (.int a2), some (.int a3), some (.int (v_X12_taken a2 I))], [], (SH, mkM I J T), 0, 0)
      rcases Decidable.em (v_X12_in a3 (0 : Int32) (48 : Int32) = 0) with c3 | c3
      · rw [if_pos c3]
        refine Go.of_run (Ev.mono _) 3 _ ?_
        refine ⟨trivial, ?_⟩
        show Q (some (.int (-1 : Int32))) (SH, mkM I J T)
        exact (((hyp.2 c1).2 c2).1 c3)
      · rw [if_neg c3]
        refine Go.of_run (Ev.mono _) 4 _ ?_
        refine ⟨Nat.le_of_ble_eq_true rfl, ev_X12_mayBe ?_⟩
        show Go none aM (Ev mt aM (d + 8)) mX12_may Q (42, [some (.ref 83), some (.int a1), some (.int a2), some (.int a3), some (.int (v_X12_taken a2 I))], [.int (v_X12_mayBe (v_X12_taken a2 I) a3 I)], (SH, mkM I J T), 0, 0)
        refine Go.of_run (Ev.mono _) 1 _ ?_
        show Go none aM (Ev mt aM (d + 8)) mX12_may Q (if v_X12_mayBe (v_X12_taken a2 I) a3 I = 0 then 49 else 45, [some (.ref 83), some (.int a1), some (.int a2), some (.int a3), some (.int (v_X12_taken a2 I))], [], (SH, mkM I J T), 0, 0)
        rcases Decidable.em (v_X12_mayBe (v_X12_taken a2 I) a3 I = 0) with c4 | c4
        · rw [if_pos c4]
          refine Go.of_run (Ev.mono _) 2 _ ?_
          refine ⟨trivial, ?_⟩
          show Q (some (.int (0 : Int32))) (SH, mkM I J T)
          exact ((((hyp.2 c1).2 c2).2 c3).1 c4)
        · rw [if_neg c4]
          refine Go.of_run (Ev.mono _) 3 _ ?_
          refine ⟨trivial, ?_⟩
          show Q (some (.int (1 : Int32))) (SH, mkM I J T)
          exact ((((hyp.2 c1).2 c2).2 c3).2 c4)
set_option maxRecDepth 20000 in
theorem mafter_0 {d : Nat} {a1 a2 a3 : Int32} {I : Nat → Nat → Int32} {J : Nat → Nat → Int64} {T : Nat → Nat → Nat} {Q : Option Value → Mem → Prop} (hyp : ((v_X12_isAhead a1 I = 0 → Q (some (.int (-1 : Int32))) (SH, mkM I J T)) ∧ ((¬ (v_X12_isAhead a1 I = 0)) → ((v_X12_taken a2 I = (-1 : Int32) → Q (some (.int (-1 : Int32))) (SH, mkM I J T)) ∧ ((¬ (v_X12_taken a2 I = (-1 : Int32))) → ((v_X12_in a3 (0 : Int32) (48 : Int32) = 0 → Q (some (.int (-1 : Int32))) (SH, mkM I J T)) ∧ ((¬ (v_X12_in a3 (0 : Int32) (48 : Int32) = 0)) → ((v_X12_mayBe (v_X12_taken a2 I) a3 I = 0 → Q (some (.int (-1 : Int32))) (SH, mkM I J T)) ∧ ((¬ (v_X12_mayBe (v_X12_taken a2 I) a3 I = 0)) → (((¬ (a3 = 0)) → (vp_in (v_X12_playerOf (v_X12_firstOf a3)) 5 ∧ ((7 : Int32) ≤ a3 → vp_in (v_X12_playerOf (v_X12_secondOf a3)) 5))) ∧ Q (some (.int (v_X12_toldOf (v_X12_behind (v_X12_taken a2 I) a3 I)))) (SH, mkM I J T))))))))))) : Go none aM (Ev mt aM (d + 8)) mX12_after Q (0, [some (.ref 83), some (.int a1), some (.int a2), some (.int a3), none], [], (SH, mkM I J T), 0, 0) := by
  refine Go.of_run (Ev.mono _) 3 _ ?_
  refine ⟨Nat.le_of_ble_eq_true rfl, ev_X12_taken ?_⟩
  show Go none aM (Ev mt aM (d + 8)) mX12_after Q (5, [some (.ref 83), some (.int a1), some (.int a2), some (.int a3), none], [.int (v_X12_taken a2 I)], (SH, mkM I J T), 0, 0)
  refine Go.of_run (Ev.mono _) 4 _ ?_
  refine ⟨Nat.le_of_ble_eq_true rfl, ev_X12_isAhead ?_⟩
  show Go none aM (Ev mt aM (d + 8)) mX12_after Q (12, [some (.ref 83), some (.int a1), some (.int a2), some (.int a3), some (.int (v_X12_taken a2 I))], [.int (v_X12_isAhead a1 I)], (SH, mkM I J T), 0, 0)
  refine Go.of_run (Ev.mono _) 1 _ ?_
  show Go none aM (Ev mt aM (d + 8)) mX12_after Q (if v_X12_isAhead a1 I = 0 then 41 else 15, [some (.ref 83), some (.int a1), some (.int a2), some (.int a3), some (.int (v_X12_taken a2 I))], [], (SH, mkM I J T), 0, 0)
  rcases Decidable.em (v_X12_isAhead a1 I = 0) with c1 | c1
  · rw [if_pos c1]
    refine Go.of_run (Ev.mono _) 3 _ ?_
    refine ⟨trivial, ?_⟩
    show Q (some (.int (-1 : Int32))) (SH, mkM I J T)
    exact (hyp.1 c1)
  · rw [if_neg c1]
    refine Go.of_run (Ev.mono _) 3 _ ?_
    show Go none aM (Ev mt aM (d + 8)) mX12_after Q (if v_X12_taken a2 I = (-1 : Int32) then 41 else 21, [some (.ref 83), some (.int a1), some (.int a2), some (.int a3), some (.int (v_X12_taken a2 I))], [], (SH, mkM I J T), 0, 0)
    rcases Decidable.em (v_X12_taken a2 I = (-1 : Int32)) with c2 | c2
    · rw [if_pos c2]
      refine Go.of_run (Ev.mono _) 3 _ ?_
      refine ⟨trivial, ?_⟩
      show Q (some (.int (-1 : Int32))) (SH, mkM I J T)
      exact ((hyp.2 c1).1 c2)
    · rw [if_neg c2]
      refine Go.of_run (Ev.mono _) 4 _ ?_
      refine ⟨Nat.le_of_ble_eq_true rfl, ev_X12_in ?_⟩
      show Go none aM (Ev mt aM (d + 8)) mX12_after Q (28, [some (.ref 83), some (.int a1), some (.int a2), some (.int a3), some (.int (v_X12_taken a2 I))], [.int (v_X12_in a3 (0 : Int32) (48 : Int32))], (SH, mkM I J T), 0, 0)
      refine Go.of_run (Ev.mono _) 1 _ ?_
      show Go none aM (Ev mt aM (d + 8)) mX12_after Q (if v_X12_in a3 (0 : Int32) (48 : Int32) = 0 then 41 else 31, [some (.ref 83), some (.int a1), some (.int a2), some (.int a3), some (.int (v_X12_taken a2 I))], [], (SH, mkM I J T), 0, 0)
      rcases Decidable.em (v_X12_in a3 (0 : Int32) (48 : Int32) = 0) with c3 | c3
      · rw [if_pos c3]
        refine Go.of_run (Ev.mono _) 3 _ ?_
        refine ⟨trivial, ?_⟩
        show Q (some (.int (-1 : Int32))) (SH, mkM I J T)
        exact (((hyp.2 c1).2 c2).1 c3)
      · rw [if_neg c3]
        refine Go.of_run (Ev.mono _) 4 _ ?_
        refine ⟨Nat.le_of_ble_eq_true rfl, ev_X12_mayBe ?_⟩
        show Go none aM (Ev mt aM (d + 8)) mX12_after Q (38, [some (.ref 83), some (.int a1), some (.int a2), some (.int a3), some (.int (v_X12_taken a2 I))], [.int (v_X12_mayBe (v_X12_taken a2 I) a3 I)], (SH, mkM I J T), 0, 0)
        refine Go.of_run (Ev.mono _) 1 _ ?_
        show Go none aM (Ev mt aM (d + 8)) mX12_after Q (if v_X12_mayBe (v_X12_taken a2 I) a3 I = 0 then 41 else 45, [some (.ref 83), some (.int a1), some (.int a2), some (.int a3), some (.int (v_X12_taken a2 I))], [], (SH, mkM I J T), 0, 0)
        rcases Decidable.em (v_X12_mayBe (v_X12_taken a2 I) a3 I = 0) with c4 | c4
        · rw [if_pos c4]
          refine Go.of_run (Ev.mono _) 3 _ ?_
          refine ⟨trivial, ?_⟩
          show Q (some (.int (-1 : Int32))) (SH, mkM I J T)
          exact ((((hyp.2 c1).2 c2).2 c3).1 c4)
        · rw [if_neg c4]
          refine Go.of_run (Ev.mono _) 4 _ ?_
          refine ⟨Nat.le_of_ble_eq_true rfl, ev_X12_behind ((((hyp.2 c1).2 c2).2 c3).2 c4).1 ?_⟩
          show Go none aM (Ev mt aM (d + 8)) mX12_after Q (52, [some (.ref 83), some (.int a1), some (.int a2), some (.int a3), some (.int (v_X12_taken a2 I))], [.int (v_X12_behind (v_X12_taken a2 I) a3 I)], (SH, mkM I J T), 0, 0)
          refine Go.of_run (Ev.mono _) 1 _ ?_
          refine ⟨Nat.le_of_ble_eq_true rfl, ev_X12_toldOf ?_⟩
          show Go none aM (Ev mt aM (d + 8)) mX12_after Q (55, [some (.ref 83), some (.int a1), some (.int a2), some (.int a3), some (.int (v_X12_taken a2 I))], [.int (v_X12_toldOf (v_X12_behind (v_X12_taken a2 I) a3 I))], (SH, mkM I J T), 0, 0)
          refine Go.of_run (Ev.mono _) 1 _ ?_
          refine ⟨trivial, ?_⟩
          show Q (some (.int (v_X12_toldOf (v_X12_behind (v_X12_taken a2 I) a3 I)))) (SH, mkM I J T)
          exact ((((hyp.2 c1).2 c2).2 c3).2 c4).2
set_option maxRecDepth 20000 in
theorem mchance_0 {d : Nat} {a1 a2 a3 a4 a5 a6 : Int32} {I : Nat → Nat → Int32} {J : Nat → Nat → Int64} {T : Nat → Nat → Nat} {Q : Option Value → Mem → Prop} (hyp : ((v_X12_isAhead a1 I = 0 → Q (some (.int (-1 : Int32))) (SH, mkM I J T)) ∧ ((¬ (v_X12_isAhead a1 I = 0)) → ((v_X12_isScore a2 = 0 → Q (some (.int (-1 : Int32))) (SH, mkM I J T)) ∧ ((¬ (v_X12_isScore a2 = 0)) → ((v_X12_taken a3 I = (-1 : Int32) → Q (some (.int (-1 : Int32))) (SH, mkM I J T)) ∧ ((¬ (v_X12_taken a3 I = (-1 : Int32))) → ((v_X12_in a4 (0 : Int32) (48 : Int32) = 0 → Q (some (.int (-1 : Int32))) (SH, mkM I J T)) ∧ ((¬ (v_X12_in a4 (0 : Int32) (48 : Int32) = 0)) → ((v_X12_isOther a5 = 0 → Q (some (.int (-1 : Int32))) (SH, mkM I J T)) ∧ ((¬ (v_X12_isOther a5 = 0)) → ((v_X12_in a6 (0 : Int32) (4 : Int32) = 0 → Q (some (.int (-1 : Int32))) (SH, mkM I J T)) ∧ ((¬ (v_X12_in a6 (0 : Int32) (4 : Int32) = 0)) → ((v_X12_mayBe (v_X12_taken a3 I) a4 I = 0 → Q (some (.int (-1 : Int32))) (SH, mkM I J T)) ∧ ((¬ (v_X12_mayBe (v_X12_taken a3 I) a4 I = 0)) → (((¬ (a4 = 0)) → (vp_in (v_X12_playerOf (v_X12_firstOf a4)) 5 ∧ ((7 : Int32) ≤ a4 → vp_in (v_X12_playerOf (v_X12_secondOf a4)) 5))) ∧ Ev mt aM (d + 8) 235 [.ref 83, .int a1, .int a2, .int (v_X12_behind (v_X12_taken a3 I) a4 I), .int a5, .int (v_X12_changesOf a4)] (SH, mkM I J T) (fun r m1 => Go none aM (Ev mt aM (d + 8)) mX12_chance Q (91, [some (.ref 83), some (.int a1), some (.int a2), some (.int a3), some (.int a4), some (.int a5), some (.int a6), some (.int (v_X12_taken a3 I))], r.toList ++ [], m1, 0, 0)))))))))))))))))) : Go none aM (Ev mt aM (d + 8)) mX12_chance Q (0, [some (.ref 83), some (.int a1), some (.int a2), some (.int a3), some (.int a4), some (.int a5), some (.int a6), none], [], (SH, mkM I J T), 0, 0) := by
  refine Go.of_run (Ev.mono _) 3 _ ?_
  refine ⟨Nat.le_of_ble_eq_true rfl, ev_X12_taken ?_⟩
  show Go none aM (Ev mt aM (d + 8)) mX12_chance Q (5, [some (.ref 83), some (.int a1), some (.int a2), some (.int a3), some (.int a4), some (.int a5), some (.int a6), none], [.int (v_X12_taken a3 I)], (SH, mkM I J T), 0, 0)
  refine Go.of_run (Ev.mono _) 4 _ ?_
  refine ⟨Nat.le_of_ble_eq_true rfl, ev_X12_isAhead ?_⟩
  show Go none aM (Ev mt aM (d + 8)) mX12_chance Q (12, [some (.ref 83), some (.int a1), some (.int a2), some (.int a3), some (.int a4), some (.int a5), some (.int a6), some (.int (v_X12_taken a3 I))], [.int (v_X12_isAhead a1 I)], (SH, mkM I J T), 0, 0)
  refine Go.of_run (Ev.mono _) 1 _ ?_
  show Go none aM (Ev mt aM (d + 8)) mX12_chance Q (if v_X12_isAhead a1 I = 0 then 68 else 15, [some (.ref 83), some (.int a1), some (.int a2), some (.int a3), some (.int a4), some (.int a5), some (.int a6), some (.int (v_X12_taken a3 I))], [], (SH, mkM I J T), 0, 0)
  rcases Decidable.em (v_X12_isAhead a1 I = 0) with c1 | c1
  · rw [if_pos c1]
    refine Go.of_run (Ev.mono _) 2 _ ?_
    refine ⟨trivial, ?_⟩
    show Q (some (.int (-1 : Int32))) (SH, mkM I J T)
    exact (hyp.1 c1)
  · rw [if_neg c1]
    refine Go.of_run (Ev.mono _) 2 _ ?_
    refine ⟨Nat.le_of_ble_eq_true rfl, ev_X12_isScore ?_⟩
    show Go none aM (Ev mt aM (d + 8)) mX12_chance Q (19, [some (.ref 83), some (.int a1), some (.int a2), some (.int a3), some (.int a4), some (.int a5), some (.int a6), some (.int (v_X12_taken a3 I))], [.int (v_X12_isScore a2)], (SH, mkM I J T), 0, 0)
    refine Go.of_run (Ev.mono _) 1 _ ?_
    show Go none aM (Ev mt aM (d + 8)) mX12_chance Q (if v_X12_isScore a2 = 0 then 68 else 22, [some (.ref 83), some (.int a1), some (.int a2), some (.int a3), some (.int a4), some (.int a5), some (.int a6), some (.int (v_X12_taken a3 I))], [], (SH, mkM I J T), 0, 0)
    rcases Decidable.em (v_X12_isScore a2 = 0) with c2 | c2
    · rw [if_pos c2]
      refine Go.of_run (Ev.mono _) 2 _ ?_
      refine ⟨trivial, ?_⟩
      show Q (some (.int (-1 : Int32))) (SH, mkM I J T)
      exact ((hyp.2 c1).1 c2)
    · rw [if_neg c2]
      refine Go.of_run (Ev.mono _) 3 _ ?_
      show Go none aM (Ev mt aM (d + 8)) mX12_chance Q (if v_X12_taken a3 I = (-1 : Int32) then 68 else 28, [some (.ref 83), some (.int a1), some (.int a2), some (.int a3), some (.int a4), some (.int a5), some (.int a6), some (.int (v_X12_taken a3 I))], [], (SH, mkM I J T), 0, 0)
      rcases Decidable.em (v_X12_taken a3 I = (-1 : Int32)) with c3 | c3
      · rw [if_pos c3]
        refine Go.of_run (Ev.mono _) 2 _ ?_
        refine ⟨trivial, ?_⟩
        show Q (some (.int (-1 : Int32))) (SH, mkM I J T)
        exact (((hyp.2 c1).2 c2).1 c3)
      · rw [if_neg c3]
        refine Go.of_run (Ev.mono _) 4 _ ?_
        refine ⟨Nat.le_of_ble_eq_true rfl, ev_X12_in ?_⟩
        show Go none aM (Ev mt aM (d + 8)) mX12_chance Q (36, [some (.ref 83), some (.int a1), some (.int a2), some (.int a3), some (.int a4), some (.int a5), some (.int a6), some (.int (v_X12_taken a3 I))], [.int (v_X12_in a4 (0 : Int32) (48 : Int32))], (SH, mkM I J T), 0, 0)
        refine Go.of_run (Ev.mono _) 1 _ ?_
        show Go none aM (Ev mt aM (d + 8)) mX12_chance Q (if v_X12_in a4 (0 : Int32) (48 : Int32) = 0 then 68 else 39, [some (.ref 83), some (.int a1), some (.int a2), some (.int a3), some (.int a4), some (.int a5), some (.int a6), some (.int (v_X12_taken a3 I))], [], (SH, mkM I J T), 0, 0)
        rcases Decidable.em (v_X12_in a4 (0 : Int32) (48 : Int32) = 0) with c4 | c4
        · rw [if_pos c4]
          refine Go.of_run (Ev.mono _) 2 _ ?_
          refine ⟨trivial, ?_⟩
          show Q (some (.int (-1 : Int32))) (SH, mkM I J T)
          exact ((((hyp.2 c1).2 c2).2 c3).1 c4)
        · rw [if_neg c4]
          refine Go.of_run (Ev.mono _) 2 _ ?_
          refine ⟨Nat.le_of_ble_eq_true rfl, ev_X12_isOther ?_⟩
          show Go none aM (Ev mt aM (d + 8)) mX12_chance Q (44, [some (.ref 83), some (.int a1), some (.int a2), some (.int a3), some (.int a4), some (.int a5), some (.int a6), some (.int (v_X12_taken a3 I))], [.int (v_X12_isOther a5)], (SH, mkM I J T), 0, 0)
          refine Go.of_run (Ev.mono _) 1 _ ?_
          show Go none aM (Ev mt aM (d + 8)) mX12_chance Q (if v_X12_isOther a5 = 0 then 68 else 47, [some (.ref 83), some (.int a1), some (.int a2), some (.int a3), some (.int a4), some (.int a5), some (.int a6), some (.int (v_X12_taken a3 I))], [], (SH, mkM I J T), 0, 0)
          rcases Decidable.em (v_X12_isOther a5 = 0) with c5 | c5
          · rw [if_pos c5]
            refine Go.of_run (Ev.mono _) 2 _ ?_
            refine ⟨trivial, ?_⟩
            show Q (some (.int (-1 : Int32))) (SH, mkM I J T)
            exact (((((hyp.2 c1).2 c2).2 c3).2 c4).1 c5)
          · rw [if_neg c5]
            refine Go.of_run (Ev.mono _) 4 _ ?_
            refine ⟨Nat.le_of_ble_eq_true rfl, ev_X12_in ?_⟩
            show Go none aM (Ev mt aM (d + 8)) mX12_chance Q (54, [some (.ref 83), some (.int a1), some (.int a2), some (.int a3), some (.int a4), some (.int a5), some (.int a6), some (.int (v_X12_taken a3 I))], [.int (v_X12_in a6 (0 : Int32) (4 : Int32))], (SH, mkM I J T), 0, 0)
            refine Go.of_run (Ev.mono _) 1 _ ?_
            show Go none aM (Ev mt aM (d + 8)) mX12_chance Q (if v_X12_in a6 (0 : Int32) (4 : Int32) = 0 then 68 else 57, [some (.ref 83), some (.int a1), some (.int a2), some (.int a3), some (.int a4), some (.int a5), some (.int a6), some (.int (v_X12_taken a3 I))], [], (SH, mkM I J T), 0, 0)
            rcases Decidable.em (v_X12_in a6 (0 : Int32) (4 : Int32) = 0) with c6 | c6
            · rw [if_pos c6]
              refine Go.of_run (Ev.mono _) 2 _ ?_
              refine ⟨trivial, ?_⟩
              show Q (some (.int (-1 : Int32))) (SH, mkM I J T)
              exact ((((((hyp.2 c1).2 c2).2 c3).2 c4).2 c5).1 c6)
            · rw [if_neg c6]
              refine Go.of_run (Ev.mono _) 4 _ ?_
              refine ⟨Nat.le_of_ble_eq_true rfl, ev_X12_mayBe ?_⟩
              show Go none aM (Ev mt aM (d + 8)) mX12_chance Q (65, [some (.ref 83), some (.int a1), some (.int a2), some (.int a3), some (.int a4), some (.int a5), some (.int a6), some (.int (v_X12_taken a3 I))], [.int (v_X12_mayBe (v_X12_taken a3 I) a4 I)], (SH, mkM I J T), 0, 0)
              refine Go.of_run (Ev.mono _) 1 _ ?_
              show Go none aM (Ev mt aM (d + 8)) mX12_chance Q (if v_X12_mayBe (v_X12_taken a3 I) a4 I = 0 then 68 else 70, [some (.ref 83), some (.int a1), some (.int a2), some (.int a3), some (.int a4), some (.int a5), some (.int a6), some (.int (v_X12_taken a3 I))], [], (SH, mkM I J T), 0, 0)
              rcases Decidable.em (v_X12_mayBe (v_X12_taken a3 I) a4 I = 0) with c7 | c7
              · rw [if_pos c7]
                refine Go.of_run (Ev.mono _) 2 _ ?_
                refine ⟨trivial, ?_⟩
                show Q (some (.int (-1 : Int32))) (SH, mkM I J T)
                exact (((((((hyp.2 c1).2 c2).2 c3).2 c4).2 c5).2 c6).1 c7)
              · rw [if_neg c7]
                refine Go.of_run (Ev.mono _) 7 _ ?_
                refine ⟨Nat.le_of_ble_eq_true rfl, ev_X12_behind (((((((hyp.2 c1).2 c2).2 c3).2 c4).2 c5).2 c6).2 c7).1 ?_⟩
                show Go none aM (Ev mt aM (d + 8)) mX12_chance Q (81, [some (.ref 83), some (.int a1), some (.int a2), some (.int a3), some (.int a4), some (.int a5), some (.int a6), some (.int (v_X12_taken a3 I))], [.int (v_X12_behind (v_X12_taken a3 I) a4 I), .int a2, .int a1, .ref 83], (SH, mkM I J T), 0, 0)
                refine Go.of_run (Ev.mono _) 3 _ ?_
                refine ⟨Nat.le_of_ble_eq_true rfl, ev_X12_changesOf ?_⟩
                show Go none aM (Ev mt aM (d + 8)) mX12_chance Q (88, [some (.ref 83), some (.int a1), some (.int a2), some (.int a3), some (.int a4), some (.int a5), some (.int a6), some (.int (v_X12_taken a3 I))], [.int (v_X12_changesOf a4), .int a5, .int (v_X12_behind (v_X12_taken a3 I) a4 I), .int a2, .int a1, .ref 83], (SH, mkM I J T), 0, 0)
                refine Go.of_run (Ev.mono _) 1 _ ?_
                refine ⟨Nat.le_of_ble_eq_true rfl, (((((((hyp.2 c1).2 c2).2 c3).2 c4).2 c5).2 c6).2 c7).2⟩
set_option maxRecDepth 20000 in
theorem msays_0 {d : Nat} {a1 a2 a3 a4 a5 : Int32} {I : Nat → Nat → Int32} {J : Nat → Nat → Int64} {T : Nat → Nat → Nat} {Q : Option Value → Mem → Prop} (hyp : (((¬ (a1 < 0)) → ((¬ ((4 : Int32) ≤ a1)) → vp_in ((3 : Int32) + a1) 8)) ∧ ((v_X12_isRule a1 I = 0 → Q (some (.int (-1 : Int32))) (SH, mkM I J T)) ∧ ((¬ (v_X12_isRule a1 I = 0)) → ((v_X12_isAhead a2 I = 0 → Q (some (.int (-1 : Int32))) (SH, mkM I J T)) ∧ ((¬ (v_X12_isAhead a2 I = 0)) → ((v_X12_isState a2 a3 a4 a5 I = 0 → Q (some (.int (-1 : Int32))) (SH, mkM I J T)) ∧ ((¬ (v_X12_isState a2 a3 a4 a5 I = 0)) → Ev mt aM (d + 8) 242 [.ref 83, .int a1, .int a2, .int a3, .int (v_X12_taken a4 I), .int a5] (SH, mkM I J T) (fun r m1 => Go none aM (Ev mt aM (d + 8)) mX12_says Q (48, [some (.ref 83), some (.int a1), some (.int a2), some (.int a3), some (.int a4), some (.int a5)], r.toList ++ [], m1, 0, 0)))))))))) : Go none aM (Ev mt aM (d + 8)) mX12_says Q (0, [some (.ref 83), some (.int a1), some (.int a2), some (.int a3), some (.int a4), some (.int a5)], [], (SH, mkM I J T), 0, 0) := by
  refine Go.of_run (Ev.mono _) 3 _ ?_
  refine ⟨Nat.le_of_ble_eq_true rfl, ev_X12_isRule hyp.1 ?_⟩
  show Go none aM (Ev mt aM (d + 8)) mX12_says Q (5, [some (.ref 83), some (.int a1), some (.int a2), some (.int a3), some (.int a4), some (.int a5)], [.int (v_X12_isRule a1 I)], (SH, mkM I J T), 0, 0)
  refine Go.of_run (Ev.mono _) 1 _ ?_
  show Go none aM (Ev mt aM (d + 8)) mX12_says Q (if v_X12_isRule a1 I = 0 then 29 else 8, [some (.ref 83), some (.int a1), some (.int a2), some (.int a3), some (.int a4), some (.int a5)], [], (SH, mkM I J T), 0, 0)
  rcases Decidable.em (v_X12_isRule a1 I = 0) with c1 | c1
  · rw [if_pos c1]
    refine Go.of_run (Ev.mono _) 3 _ ?_
    refine ⟨trivial, ?_⟩
    show Q (some (.int (-1 : Int32))) (SH, mkM I J T)
    exact (hyp.2.1 c1)
  · rw [if_neg c1]
    refine Go.of_run (Ev.mono _) 3 _ ?_
    refine ⟨Nat.le_of_ble_eq_true rfl, ev_X12_isAhead ?_⟩
    show Go none aM (Ev mt aM (d + 8)) mX12_says Q (13, [some (.ref 83), some (.int a1), some (.int a2), some (.int a3), some (.int a4), some (.int a5)], [.int (v_X12_isAhead a2 I)], (SH, mkM I J T), 0, 0)
    refine Go.of_run (Ev.mono _) 1 _ ?_
    show Go none aM (Ev mt aM (d + 8)) mX12_says Q (if v_X12_isAhead a2 I = 0 then 29 else 16, [some (.ref 83), some (.int a1), some (.int a2), some (.int a3), some (.int a4), some (.int a5)], [], (SH, mkM I J T), 0, 0)
    rcases Decidable.em (v_X12_isAhead a2 I = 0) with c2 | c2
    · rw [if_pos c2]
      refine Go.of_run (Ev.mono _) 3 _ ?_
      refine ⟨trivial, ?_⟩
      show Q (some (.int (-1 : Int32))) (SH, mkM I J T)
      exact ((hyp.2.2 c1).1 c2)
    · rw [if_neg c2]
      refine Go.of_run (Ev.mono _) 6 _ ?_
      refine ⟨Nat.le_of_ble_eq_true rfl, ev_X12_isState ?_⟩
      show Go none aM (Ev mt aM (d + 8)) mX12_says Q (26, [some (.ref 83), some (.int a1), some (.int a2), some (.int a3), some (.int a4), some (.int a5)], [.int (v_X12_isState a2 a3 a4 a5 I)], (SH, mkM I J T), 0, 0)
      refine Go.of_run (Ev.mono _) 1 _ ?_
      show Go none aM (Ev mt aM (d + 8)) mX12_says Q (if v_X12_isState a2 a3 a4 a5 I = 0 then 29 else 33, [some (.ref 83), some (.int a1), some (.int a2), some (.int a3), some (.int a4), some (.int a5)], [], (SH, mkM I J T), 0, 0)
      rcases Decidable.em (v_X12_isState a2 a3 a4 a5 I = 0) with c3 | c3
      · rw [if_pos c3]
        refine Go.of_run (Ev.mono _) 3 _ ?_
        refine ⟨trivial, ?_⟩
        show Q (some (.int (-1 : Int32))) (SH, mkM I J T)
        exact (((hyp.2.2 c1).2 c2).1 c3)
      · rw [if_neg c3]
        refine Go.of_run (Ev.mono _) 7 _ ?_
        refine ⟨Nat.le_of_ble_eq_true rfl, ev_X12_taken ?_⟩
        show Go none aM (Ev mt aM (d + 8)) mX12_says Q (43, [some (.ref 83), some (.int a1), some (.int a2), some (.int a3), some (.int a4), some (.int a5)], [.int (v_X12_taken a4 I), .int a3, .int a2, .int a1, .ref 83], (SH, mkM I J T), 0, 0)
        refine Go.of_run (Ev.mono _) 2 _ ?_
        refine ⟨Nat.le_of_ble_eq_true rfl, (((hyp.2.2 c1).2 c2).2 c3)⟩
set_option maxRecDepth 20000 in
theorem clogged_0 {d : Nat} {a1 a2 : Int32} {I : Nat → Nat → Int32} {J : Nat → Nat → Int64} {T : Nat → Nat → Nat} {Q : Option Value → Mem → Prop} (hyp : ((a1 < 0 → Q (some (.int (-1000 : Int32))) (SH, mkM I J T)) ∧ ((¬ (a1 < 0)) → ((I 76 0 < a1 → Q (some (.int (-1000 : Int32))) (SH, mkM I J T)) ∧ ((¬ (I 76 0 < a1)) → ((a2 < 0 → Q (some (.int (-1000 : Int32))) (SH, mkM I J T)) ∧ ((¬ (a2 < 0)) → ((a2 ≤ (3 : Int32) → ((a2 = 0 → (vp_in a1 6 ∧ Q (some (.int (v_X1_codeBehind a1 I))) (SH, mkM I J T))) ∧ ((a2 = 1 → (vp_in a1 6 ∧ Q (some (.int (v_X1_scoreBehind a1 I))) (SH, mkM I J T))) ∧ ((a2 = 2 → ((a1 = 0 → Q (some (.int (-1 : Int32))) (SH, mkM I J T)) ∧ ((¬ (a1 = 0)) → (vp_in (a1 - (1 : Int32)) 5 ∧ Q (some (.int (v_X1_actionIn (a1 - (1 : Int32)) I))) (SH, mkM I J T))))) ∧ (¬ (a2 = 0) → ¬ (a2 = 1) → ¬ (a2 = 2) → ((a1 = 0 → Q (some (.int (-1 : Int32))) (SH, mkM I J T)) ∧ ((¬ (a1 = 0)) → (vp_in (a1 - (1 : Int32)) 5 ∧ Q (some (.int (v_X1_eventIn (a1 - (1 : Int32)) I))) (SH, mkM I J T))))))))) ∧ ((¬ (a2 ≤ (3 : Int32))) → Q (some (.int (-1000 : Int32))) (SH, mkM I J T)))))))))) : Go none aM (Ev mt aM (d + 7)) mX11_logged Q (0, [some (.ref 0), some (.int a1), some (.int a2)], [], (SH, mkM I J T), 0, 0) := by
  refine Go.of_run (Ev.mono _) 2 _ ?_
  show Go none aM (Ev mt aM (d + 7)) mX11_logged Q (if a1 < 0 then 24 else 4, [some (.ref 0), some (.int a1), some (.int a2)], [], (SH, mkM I J T), 0, 0)
  rcases Decidable.em (a1 < 0) with c1 | c1
  · rw [if_pos c1]
    refine Go.of_run (Ev.mono _) 2 _ ?_
    refine ⟨trivial, ?_⟩
    show Q (some (.int (-1000 : Int32))) (SH, mkM I J T)
    exact (hyp.1 c1)
  · rw [if_neg c1]
    refine Go.of_run (Ev.mono _) 5 _ ?_
    show Go none aM (Ev mt aM (d + 7)) mX11_logged Q (if I 76 0 < a1 then 24 else 15, [some (.ref 0), some (.int a1), some (.int a2)], [], (SH, mkM I J T), 0, 0)
    rcases Decidable.em (I 76 0 < a1) with c2 | c2
    · rw [if_pos c2]
      refine Go.of_run (Ev.mono _) 2 _ ?_
      refine ⟨trivial, ?_⟩
      show Q (some (.int (-1000 : Int32))) (SH, mkM I J T)
      exact ((hyp.2 c1).1 c2)
    · rw [if_neg c2]
      refine Go.of_run (Ev.mono _) 2 _ ?_
      show Go none aM (Ev mt aM (d + 7)) mX11_logged Q (if a2 < 0 then 24 else 19, [some (.ref 0), some (.int a1), some (.int a2)], [], (SH, mkM I J T), 0, 0)
      rcases Decidable.em (a2 < 0) with c3 | c3
      · rw [if_pos c3]
        refine Go.of_run (Ev.mono _) 2 _ ?_
        refine ⟨trivial, ?_⟩
        show Q (some (.int (-1000 : Int32))) (SH, mkM I J T)
        exact (((hyp.2 c1).2 c2).1 c3)
      · rw [if_neg c3]
        refine Go.of_run (Ev.mono _) 3 _ ?_
        show Go none aM (Ev mt aM (d + 7)) mX11_logged Q (if a2 ≤ (3 : Int32) then 28 else 24, [some (.ref 0), some (.int a1), some (.int a2)], [], (SH, mkM I J T), 0, 0)
        rcases Decidable.em (a2 ≤ (3 : Int32)) with c4 | c4
        · rw [if_pos c4]
          refine Go.of_run (Ev.mono _) 2 _ ?_
          show Go none aM (Ev mt aM (d + 7)) mX11_logged Q (swT 29 0 2 64 (#[27, 36, 45]) a2, [some (.ref 0), some (.int a1), some (.int a2)], [], (SH, mkM I J T), 0, 0)
          rcases Decidable.em (a2 = 0) with c5 | c5
          · rw [show swT 29 0 2 64 (#[27, 36, 45]) a2 = 56 from by rw [c5]; rfl]
            refine Go.of_run (Ev.mono _) 4 _ ?_
            refine ⟨Nat.le_of_ble_eq_true rfl, ev_X1_codeBehind (((((hyp.2 c1).2 c2).2 c3).1 c4).1 c5).1 ?_⟩
            show Go none aM (Ev mt aM (d + 7)) mX11_logged Q (64, [some (.ref 0), some (.int a1), some (.int a2)], [.int (v_X1_codeBehind a1 I)], (SH, mkM I J T), 0, 0)
            refine Go.of_run (Ev.mono _) 1 _ ?_
            refine ⟨trivial, ?_⟩
            show Q (some (.int (v_X1_codeBehind a1 I))) (SH, mkM I J T)
            exact (((((hyp.2 c1).2 c2).2 c3).1 c4).1 c5).2
          rcases Decidable.em (a2 = 1) with c6 | c6
          · rw [show swT 29 0 2 64 (#[27, 36, 45]) a2 = 65 from by rw [c6]; rfl]
            refine Go.of_run (Ev.mono _) 4 _ ?_
            refine ⟨Nat.le_of_ble_eq_true rfl, ev_X1_scoreBehind (((((hyp.2 c1).2 c2).2 c3).1 c4).2.1 c6).1 ?_⟩
            show Go none aM (Ev mt aM (d + 7)) mX11_logged Q (73, [some (.ref 0), some (.int a1), some (.int a2)], [.int (v_X1_scoreBehind a1 I)], (SH, mkM I J T), 0, 0)
            refine Go.of_run (Ev.mono _) 1 _ ?_
            refine ⟨trivial, ?_⟩
            show Q (some (.int (v_X1_scoreBehind a1 I))) (SH, mkM I J T)
            exact (((((hyp.2 c1).2 c2).2 c3).1 c4).2.1 c6).2
          rcases Decidable.em (a2 = 2) with c7 | c7
          · rw [show swT 29 0 2 64 (#[27, 36, 45]) a2 = 74 from by rw [c7]; rfl]
            refine Go.of_run (Ev.mono _) 2 _ ?_
            show Go none aM (Ev mt aM (d + 7)) mX11_logged Q (if a1 = 0 then 78 else 82, [some (.ref 0), some (.int a1), some (.int a2)], [], (SH, mkM I J T), 0, 0)
            rcases Decidable.em (a1 = 0) with c8 | c8
            · rw [if_pos c8]
              refine Go.of_run (Ev.mono _) 3 _ ?_
              refine ⟨trivial, ?_⟩
              show Q (some (.int (-1 : Int32))) (SH, mkM I J T)
              exact ((((((hyp.2 c1).2 c2).2 c3).1 c4).2.2.1 c7).1 c8)
            · rw [if_neg c8]
              refine Go.of_run (Ev.mono _) 6 _ ?_
              refine ⟨Nat.le_of_ble_eq_true rfl, ev_X1_actionIn ((((((hyp.2 c1).2 c2).2 c3).1 c4).2.2.1 c7).2 c8).1 ?_⟩
              show Go none aM (Ev mt aM (d + 7)) mX11_logged Q (92, [some (.ref 0), some (.int a1), some (.int a2)], [.int (v_X1_actionIn (a1 - (1 : Int32)) I)], (SH, mkM I J T), 0, 0)
              refine Go.of_run (Ev.mono _) 1 _ ?_
              refine ⟨trivial, ?_⟩
              show Q (some (.int (v_X1_actionIn (a1 - (1 : Int32)) I))) (SH, mkM I J T)
              exact ((((((hyp.2 c1).2 c2).2 c3).1 c4).2.2.1 c7).2 c8).2
          rw [show swT 29 0 2 64 (#[27, 36, 45]) a2 = 93 from if_pos (by have := i32_ne (n := 0) c5 rfl; have := i32_ne (n := 1) c6 rfl; have := i32_ne (n := 2) c7 rfl; omega)]
          show Go none aM (Ev mt aM (d + 7)) mX11_logged Q (93, [some (.ref 0), some (.int a1), some (.int a2)], [], (SH, mkM I J T), 0, 0)
          refine Go.of_run (Ev.mono _) 2 _ ?_
          show Go none aM (Ev mt aM (d + 7)) mX11_logged Q (if a1 = 0 then 97 else 101, [some (.ref 0), some (.int a1), some (.int a2)], [], (SH, mkM I J T), 0, 0)
          rcases Decidable.em (a1 = 0) with c9 | c9
          · rw [if_pos c9]
            refine Go.of_run (Ev.mono _) 3 _ ?_
            refine ⟨trivial, ?_⟩
            show Q (some (.int (-1 : Int32))) (SH, mkM I J T)
            exact ((((((hyp.2 c1).2 c2).2 c3).1 c4).2.2.2 c5 c6 c7).1 c9)
          · rw [if_neg c9]
            refine Go.of_run (Ev.mono _) 6 _ ?_
            refine ⟨Nat.le_of_ble_eq_true rfl, ev_X1_eventIn ((((((hyp.2 c1).2 c2).2 c3).1 c4).2.2.2 c5 c6 c7).2 c9).1 ?_⟩
            show Go none aM (Ev mt aM (d + 7)) mX11_logged Q (111, [some (.ref 0), some (.int a1), some (.int a2)], [.int (v_X1_eventIn (a1 - (1 : Int32)) I)], (SH, mkM I J T), 0, 0)
            refine Go.of_run (Ev.mono _) 1 _ ?_
            refine ⟨trivial, ?_⟩
            show Q (some (.int (v_X1_eventIn (a1 - (1 : Int32)) I))) (SH, mkM I J T)
            exact ((((((hyp.2 c1).2 c2).2 c3).1 c4).2.2.2 c5 c6 c7).2 c9).2
        · rw [if_neg c4]
          refine Go.of_run (Ev.mono _) 2 _ ?_
          refine ⟨trivial, ?_⟩
          show Q (some (.int (-1000 : Int32))) (SH, mkM I J T)
          exact ((((hyp.2 c1).2 c2).2 c3).2 c4)
set_option maxRecDepth 20000 in
theorem mlogged_0 {d : Nat} {a1 a2 : Int32} {I : Nat → Nat → Int32} {J : Nat → Nat → Int64} {T : Nat → Nat → Nat} {Q : Option Value → Mem → Prop} (hyp : ((v_X12_in a1 (0 : Int32) (I 83 48) = 0 → Q (some (.int (-1000 : Int32))) (SH, mkM I J T)) ∧ ((¬ (v_X12_in a1 (0 : Int32) (I 83 48) = 0)) → ((v_X12_in a2 (0 : Int32) (3 : Int32) = 0 → Q (some (.int (-1000 : Int32))) (SH, mkM I J T)) ∧ ((¬ (v_X12_in a2 (0 : Int32) (3 : Int32) = 0)) → ((a2 = 0 → (vp_in a1 6 ∧ Q (some (.int (v_X12_toldOf ((si I 113 0 (1536 : Int32)) 113 a1.toNatClampNeg)))) (SH, mkM (si (si I 113 0 (1536 : Int32)) 114 0 (0 : Int32)) J T))) ∧ ((a2 = 1 → (vp_in a1 6 ∧ Q (some (.int ((si (si I 113 0 (1536 : Int32)) 114 0 (0 : Int32)) 114 a1.toNatClampNeg))) (SH, mkM (si (si I 113 0 (1536 : Int32)) 114 0 (0 : Int32)) J T))) ∧ ((a2 = 2 → ((a1 = 0 → Q (some (.int (-1 : Int32))) (SH, mkM (si (si I 113 0 (1536 : Int32)) 114 0 (0 : Int32)) J T)) ∧ ((¬ (a1 = 0)) → (vp_in a1 6 ∧ Q (some (.int (I 115 a1.toNatClampNeg))) (SH, mkM (si (si I 113 0 (1536 : Int32)) 114 0 (0 : Int32)) J T))))) ∧ (¬ (a2 = 0) → ¬ (a2 = 1) → ¬ (a2 = 2) → ((a1 = 0 → Q (some (.int (-1 : Int32))) (SH, mkM (si (si I 113 0 (1536 : Int32)) 114 0 (0 : Int32)) J T)) ∧ ((¬ (a1 = 0)) → (vp_in a1 6 ∧ Q (some (.int (I 116 a1.toNatClampNeg))) (SH, mkM (si (si I 113 0 (1536 : Int32)) 114 0 (0 : Int32)) J T))))))))))))) : Go none aM (Ev mt aM (d + 7)) mX12_logged Q (0, [some (.ref 83), some (.int a1), some (.int a2)], [], (SH, mkM I J T), 0, 0) := by
  refine Go.of_run (Ev.mono _) 5 _ ?_
  refine ⟨Nat.le_of_ble_eq_true rfl, ev_X12_in ?_⟩
  show Go none aM (Ev mt aM (d + 7)) mX12_logged Q (9, [some (.ref 83), some (.int a1), some (.int a2)], [.int (v_X12_in a1 (0 : Int32) (I 83 48))], (SH, mkM I J T), 0, 0)
  refine Go.of_run (Ev.mono _) 1 _ ?_
  show Go none aM (Ev mt aM (d + 7)) mX12_logged Q (if v_X12_in a1 (0 : Int32) (I 83 48) = 0 then 21 else 12, [some (.ref 83), some (.int a1), some (.int a2)], [], (SH, mkM I J T), 0, 0)
  rcases Decidable.em (v_X12_in a1 (0 : Int32) (I 83 48) = 0) with c1 | c1
  · rw [if_pos c1]
    refine Go.of_run (Ev.mono _) 2 _ ?_
    refine ⟨trivial, ?_⟩
    show Q (some (.int (-1000 : Int32))) (SH, mkM I J T)
    exact (hyp.1 c1)
  · rw [if_neg c1]
    refine Go.of_run (Ev.mono _) 4 _ ?_
    refine ⟨Nat.le_of_ble_eq_true rfl, ev_X12_in ?_⟩
    show Go none aM (Ev mt aM (d + 7)) mX12_logged Q (18, [some (.ref 83), some (.int a1), some (.int a2)], [.int (v_X12_in a2 (0 : Int32) (3 : Int32))], (SH, mkM I J T), 0, 0)
    refine Go.of_run (Ev.mono _) 1 _ ?_
    show Go none aM (Ev mt aM (d + 7)) mX12_logged Q (if v_X12_in a2 (0 : Int32) (3 : Int32) = 0 then 21 else 25, [some (.ref 83), some (.int a1), some (.int a2)], [], (SH, mkM I J T), 0, 0)
    rcases Decidable.em (v_X12_in a2 (0 : Int32) (3 : Int32) = 0) with c2 | c2
    · rw [if_pos c2]
      refine Go.of_run (Ev.mono _) 2 _ ?_
      refine ⟨trivial, ?_⟩
      show Q (some (.int (-1000 : Int32))) (SH, mkM I J T)
      exact ((hyp.2 c1).1 c2)
    · rw [if_neg c2]
      refine Go.of_run (Ev.mono _) 2 _ ?_
      refine ⟨Nat.le_of_ble_eq_true rfl, ev_X12_begins ?_⟩
      show Go none aM (Ev mt aM (d + 7)) mX12_logged Q (29, [some (.ref 83), some (.int a1), some (.int a2)], [], (SH, mkM (si (si I 113 0 (1536 : Int32)) 114 0 (0 : Int32)) J T), 0, 0)
      refine Go.of_run (Ev.mono _) 2 _ ?_
      show Go none aM (Ev mt aM (d + 7)) mX12_logged Q (swT 30 0 2 58 (#[26, 36, 43]) a2, [some (.ref 83), some (.int a1), some (.int a2)], [], (SH, mkM (si (si I 113 0 (1536 : Int32)) 114 0 (0 : Int32)) J T), 0, 0)
      rcases Decidable.em (a2 = 0) with c3 | c3
      · rw [show swT 30 0 2 58 (#[26, 36, 43]) a2 = 56 from by rw [c3]; rfl]
        refine Go.of_run (Ev.mono _) 4 _ ?_
        refine ⟨(((hyp.2 c1).2 c2).1 c3).1, ?_⟩
        show Go none aM (Ev mt aM (d + 7)) mX12_logged Q (62, [some (.ref 83), some (.int a1), some (.int a2)], [.int ((si I 113 0 (1536 : Int32)) 113 a1.toNatClampNeg)], (SH, mkM (si (si I 113 0 (1536 : Int32)) 114 0 (0 : Int32)) J T), 0, 0)
        refine Go.of_run (Ev.mono _) 1 _ ?_
        refine ⟨Nat.le_of_ble_eq_true rfl, ev_X12_toldOf ?_⟩
        show Go none aM (Ev mt aM (d + 7)) mX12_logged Q (65, [some (.ref 83), some (.int a1), some (.int a2)], [.int (v_X12_toldOf ((si I 113 0 (1536 : Int32)) 113 a1.toNatClampNeg))], (SH, mkM (si (si I 113 0 (1536 : Int32)) 114 0 (0 : Int32)) J T), 0, 0)
        refine Go.of_run (Ev.mono _) 1 _ ?_
        refine ⟨trivial, ?_⟩
        show Q (some (.int (v_X12_toldOf ((si I 113 0 (1536 : Int32)) 113 a1.toNatClampNeg)))) (SH, mkM (si (si I 113 0 (1536 : Int32)) 114 0 (0 : Int32)) J T)
        exact (((hyp.2 c1).2 c2).1 c3).2
      rcases Decidable.em (a2 = 1) with c4 | c4
      · rw [show swT 30 0 2 58 (#[26, 36, 43]) a2 = 66 from by rw [c4]; rfl]
        refine Go.of_run (Ev.mono _) 4 _ ?_
        refine ⟨(((hyp.2 c1).2 c2).2.1 c4).1, ?_⟩
        show Go none aM (Ev mt aM (d + 7)) mX12_logged Q (72, [some (.ref 83), some (.int a1), some (.int a2)], [.int ((si (si I 113 0 (1536 : Int32)) 114 0 (0 : Int32)) 114 a1.toNatClampNeg)], (SH, mkM (si (si I 113 0 (1536 : Int32)) 114 0 (0 : Int32)) J T), 0, 0)
        refine Go.of_run (Ev.mono _) 1 _ ?_
        refine ⟨trivial, ?_⟩
        show Q (some (.int ((si (si I 113 0 (1536 : Int32)) 114 0 (0 : Int32)) 114 a1.toNatClampNeg))) (SH, mkM (si (si I 113 0 (1536 : Int32)) 114 0 (0 : Int32)) J T)
        exact (((hyp.2 c1).2 c2).2.1 c4).2
      rcases Decidable.em (a2 = 2) with c5 | c5
      · rw [show swT 30 0 2 58 (#[26, 36, 43]) a2 = 73 from by rw [c5]; rfl]
        refine Go.of_run (Ev.mono _) 2 _ ?_
        show Go none aM (Ev mt aM (d + 7)) mX12_logged Q (if a1 = 0 then 77 else 81, [some (.ref 83), some (.int a1), some (.int a2)], [], (SH, mkM (si (si I 113 0 (1536 : Int32)) 114 0 (0 : Int32)) J T), 0, 0)
        rcases Decidable.em (a1 = 0) with c6 | c6
        · rw [if_pos c6]
          refine Go.of_run (Ev.mono _) 3 _ ?_
          refine ⟨trivial, ?_⟩
          show Q (some (.int (-1 : Int32))) (SH, mkM (si (si I 113 0 (1536 : Int32)) 114 0 (0 : Int32)) J T)
          exact ((((hyp.2 c1).2 c2).2.2.1 c5).1 c6)
        · rw [if_neg c6]
          refine Go.of_run (Ev.mono _) 4 _ ?_
          refine ⟨((((hyp.2 c1).2 c2).2.2.1 c5).2 c6).1, ?_⟩
          show Go none aM (Ev mt aM (d + 7)) mX12_logged Q (87, [some (.ref 83), some (.int a1), some (.int a2)], [.int (I 115 a1.toNatClampNeg)], (SH, mkM (si (si I 113 0 (1536 : Int32)) 114 0 (0 : Int32)) J T), 0, 0)
          refine Go.of_run (Ev.mono _) 1 _ ?_
          refine ⟨trivial, ?_⟩
          show Q (some (.int (I 115 a1.toNatClampNeg))) (SH, mkM (si (si I 113 0 (1536 : Int32)) 114 0 (0 : Int32)) J T)
          exact ((((hyp.2 c1).2 c2).2.2.1 c5).2 c6).2
      rw [show swT 30 0 2 58 (#[26, 36, 43]) a2 = 88 from if_pos (by have := i32_ne (n := 0) c3 rfl; have := i32_ne (n := 1) c4 rfl; have := i32_ne (n := 2) c5 rfl; omega)]
      show Go none aM (Ev mt aM (d + 7)) mX12_logged Q (88, [some (.ref 83), some (.int a1), some (.int a2)], [], (SH, mkM (si (si I 113 0 (1536 : Int32)) 114 0 (0 : Int32)) J T), 0, 0)
      refine Go.of_run (Ev.mono _) 2 _ ?_
      show Go none aM (Ev mt aM (d + 7)) mX12_logged Q (if a1 = 0 then 92 else 96, [some (.ref 83), some (.int a1), some (.int a2)], [], (SH, mkM (si (si I 113 0 (1536 : Int32)) 114 0 (0 : Int32)) J T), 0, 0)
      rcases Decidable.em (a1 = 0) with c7 | c7
      · rw [if_pos c7]
        refine Go.of_run (Ev.mono _) 3 _ ?_
        refine ⟨trivial, ?_⟩
        show Q (some (.int (-1 : Int32))) (SH, mkM (si (si I 113 0 (1536 : Int32)) 114 0 (0 : Int32)) J T)
        exact ((((hyp.2 c1).2 c2).2.2.2 c3 c4 c5).1 c7)
      · rw [if_neg c7]
        refine Go.of_run (Ev.mono _) 4 _ ?_
        refine ⟨((((hyp.2 c1).2 c2).2.2.2 c3 c4 c5).2 c7).1, ?_⟩
        show Go none aM (Ev mt aM (d + 7)) mX12_logged Q (102, [some (.ref 83), some (.int a1), some (.int a2)], [.int (I 116 a1.toNatClampNeg)], (SH, mkM (si (si I 113 0 (1536 : Int32)) 114 0 (0 : Int32)) J T), 0, 0)
        refine Go.of_run (Ev.mono _) 1 _ ?_
        refine ⟨trivial, ?_⟩
        show Q (some (.int (I 116 a1.toNatClampNeg))) (SH, mkM (si (si I 113 0 (1536 : Int32)) 114 0 (0 : Int32)) J T)
        exact ((((hyp.2 c1).2 c2).2.2.2 c3 c4 c5).2 c7).2
set_option maxRecDepth 20000 in
theorem ccount_0 {d : Nat} {a1 : Int32} {I : Nat → Nat → Int32} {J : Nat → Nat → Int64} {T : Nat → Nat → Nat} {Q : Option Value → Mem → Prop} (hyp : ((a1 = 0 → Q (some (.int (I 1 0))) (SH, mkM I J T)) ∧ ((a1 = 1 → Q (some (.int (I 1 1))) (SH, mkM I J T)) ∧ ((a1 = 2 → Q (some (.int (I 1 2))) (SH, mkM I J T)) ∧ ((a1 = 3 → Q (some (.int (I 0 8))) (SH, mkM I J T)) ∧ ((a1 = 4 → (TX (T 13 (0 : Int32).toNatClampNeg) ∧ Q (some (.int (v_X2_clausesOf (0 : Int32) I T))) (SH, mkM I J T))) ∧ ((a1 = 5 → Q (some (.int (I 7 0))) (SH, mkM I J T)) ∧ ((a1 = 6 → Q (some (.int (I 76 0))) (SH, mkM I J T)) ∧ (¬ (a1 = 0) → ¬ (a1 = 1) → ¬ (a1 = 2) → ¬ (a1 = 3) → ¬ (a1 = 4) → ¬ (a1 = 5) → ¬ (a1 = 6) → ((a1 < (10 : Int32) → ((a1 < (20 : Int32) → ((a1 < (30 : Int32) → Q (some (.int (-1 : Int32))) (SH, mkM I J T)) ∧ ((¬ (a1 < (30 : Int32))) → ((v_X11_isPlayer (a1 - (30 : Int32)) = 0 → Q (some (.int (-1 : Int32))) (SH, mkM I J T)) ∧ ((¬ (v_X11_isPlayer (a1 - (30 : Int32)) = 0)) → (vp_in (a1 - (30 : Int32)) 5 ∧ Q (some (.int (v_X7_legsAtFirst (a1 - (30 : Int32)) I))) (SH, mkM I J T))))))) ∧ ((¬ (a1 < (20 : Int32))) → ((v_X11_isRule (a1 - (20 : Int32)) = 0 → ((a1 < (30 : Int32) → Q (some (.int (-1 : Int32))) (SH, mkM I J T)) ∧ ((¬ (a1 < (30 : Int32))) → ((v_X11_isPlayer (a1 - (30 : Int32)) = 0 → Q (some (.int (-1 : Int32))) (SH, mkM I J T)) ∧ ((¬ (v_X11_isPlayer (a1 - (30 : Int32)) = 0)) → (vp_in (a1 - (30 : Int32)) 5 ∧ Q (some (.int (v_X7_legsAtFirst (a1 - (30 : Int32)) I))) (SH, mkM I J T))))))) ∧ ((¬ (v_X11_isRule (a1 - (20 : Int32)) = 0)) → (vp_in (((4 : Int32) + a1) - (20 : Int32)) 8 ∧ (TX (T 13 (((4 : Int32) + a1) - (20 : Int32)).toNatClampNeg) ∧ Q (some (.int (v_X2_clausesOf (((4 : Int32) + a1) - (20 : Int32)) I T))) (SH, mkM I J T)))))))) ∧ ((¬ (a1 < (10 : Int32))) → ((v_X11_isOther (a1 - (10 : Int32)) = 0 → ((a1 < (20 : Int32) → ((a1 < (30 : Int32) → Q (some (.int (-1 : Int32))) (SH, mkM I J T)) ∧ ((¬ (a1 < (30 : Int32))) → ((v_X11_isPlayer (a1 - (30 : Int32)) = 0 → Q (some (.int (-1 : Int32))) (SH, mkM I J T)) ∧ ((¬ (v_X11_isPlayer (a1 - (30 : Int32)) = 0)) → (vp_in (a1 - (30 : Int32)) 5 ∧ Q (some (.int (v_X7_legsAtFirst (a1 - (30 : Int32)) I))) (SH, mkM I J T))))))) ∧ ((¬ (a1 < (20 : Int32))) → ((v_X11_isRule (a1 - (20 : Int32)) = 0 → ((a1 < (30 : Int32) → Q (some (.int (-1 : Int32))) (SH, mkM I J T)) ∧ ((¬ (a1 < (30 : Int32))) → ((v_X11_isPlayer (a1 - (30 : Int32)) = 0 → Q (some (.int (-1 : Int32))) (SH, mkM I J T)) ∧ ((¬ (v_X11_isPlayer (a1 - (30 : Int32)) = 0)) → (vp_in (a1 - (30 : Int32)) 5 ∧ Q (some (.int (v_X7_legsAtFirst (a1 - (30 : Int32)) I))) (SH, mkM I J T))))))) ∧ ((¬ (v_X11_isRule (a1 - (20 : Int32)) = 0)) → (vp_in (((4 : Int32) + a1) - (20 : Int32)) 8 ∧ (TX (T 13 (((4 : Int32) + a1) - (20 : Int32)).toNatClampNeg) ∧ Q (some (.int (v_X2_clausesOf (((4 : Int32) + a1) - (20 : Int32)) I T))) (SH, mkM I J T)))))))) ∧ ((¬ (v_X11_isOther (a1 - (10 : Int32)) = 0)) → (vp_in (((1 : Int32) + a1) - (10 : Int32)) 8 ∧ (TX (T 13 (((1 : Int32) + a1) - (10 : Int32)).toNatClampNeg) ∧ Q (some (.int (v_X2_clausesOf (((1 : Int32) + a1) - (10 : Int32)) I T))) (SH, mkM I J T)))))))))))))))) : Go none aM (Ev mt aM (d + 7)) mX11_count Q (0, [some (.ref 0), some (.int a1)], [], (SH, mkM I J T), 0, 0) := by
  refine Go.of_run (Ev.mono _) 2 _ ?_
  show Go none aM (Ev mt aM (d + 7)) mX11_count Q (swT 1 0 6 97 (#[43, 51, 59, 67, 72, 81, 89]) a1, [some (.ref 0), some (.int a1)], [], (SH, mkM I J T), 0, 0)
  rcases Decidable.em (a1 = 0) with c1 | c1
  · rw [show swT 1 0 6 97 (#[43, 51, 59, 67, 72, 81, 89]) a1 = 44 from by rw [c1]; rfl]
    refine Go.of_run (Ev.mono _) 4 _ ?_
    refine ⟨trivial, ?_⟩
    show Q (some (.int (I 1 0))) (SH, mkM I J T)
    exact (hyp.1 c1)
  rcases Decidable.em (a1 = 1) with c2 | c2
  · rw [show swT 1 0 6 97 (#[43, 51, 59, 67, 72, 81, 89]) a1 = 52 from by rw [c2]; rfl]
    refine Go.of_run (Ev.mono _) 4 _ ?_
    refine ⟨trivial, ?_⟩
    show Q (some (.int (I 1 1))) (SH, mkM I J T)
    exact (hyp.2.1 c2)
  rcases Decidable.em (a1 = 2) with c3 | c3
  · rw [show swT 1 0 6 97 (#[43, 51, 59, 67, 72, 81, 89]) a1 = 60 from by rw [c3]; rfl]
    refine Go.of_run (Ev.mono _) 4 _ ?_
    refine ⟨trivial, ?_⟩
    show Q (some (.int (I 1 2))) (SH, mkM I J T)
    exact (hyp.2.2.1 c3)
  rcases Decidable.em (a1 = 3) with c4 | c4
  · rw [show swT 1 0 6 97 (#[43, 51, 59, 67, 72, 81, 89]) a1 = 68 from by rw [c4]; rfl]
    refine Go.of_run (Ev.mono _) 3 _ ?_
    refine ⟨trivial, ?_⟩
    show Q (some (.int (I 0 8))) (SH, mkM I J T)
    exact (hyp.2.2.2.1 c4)
  rcases Decidable.em (a1 = 4) with c5 | c5
  · rw [show swT 1 0 6 97 (#[43, 51, 59, 67, 72, 81, 89]) a1 = 73 from by rw [c5]; rfl]
    refine Go.of_run (Ev.mono _) 4 _ ?_
    refine ⟨Nat.le_of_ble_eq_true rfl, ev_X2_clausesOf ⟨(by unfold vp_in; decide : vp_in (0 : Int32) 8), (hyp.2.2.2.2.1 c5).1⟩ ?_⟩
    show Go none aM (Ev mt aM (d + 7)) mX11_count Q (81, [some (.ref 0), some (.int a1)], [.int (v_X2_clausesOf (0 : Int32) I T)], (SH, mkM I J T), 0, 0)
    refine Go.of_run (Ev.mono _) 1 _ ?_
    refine ⟨trivial, ?_⟩
    show Q (some (.int (v_X2_clausesOf (0 : Int32) I T))) (SH, mkM I J T)
    exact (hyp.2.2.2.2.1 c5).2
  rcases Decidable.em (a1 = 5) with c6 | c6
  · rw [show swT 1 0 6 97 (#[43, 51, 59, 67, 72, 81, 89]) a1 = 82 from by rw [c6]; rfl]
    refine Go.of_run (Ev.mono _) 4 _ ?_
    refine ⟨trivial, ?_⟩
    show Q (some (.int (I 7 0))) (SH, mkM I J T)
    exact (hyp.2.2.2.2.2.1 c6)
  rcases Decidable.em (a1 = 6) with c7 | c7
  · rw [show swT 1 0 6 97 (#[43, 51, 59, 67, 72, 81, 89]) a1 = 90 from by rw [c7]; rfl]
    refine Go.of_run (Ev.mono _) 4 _ ?_
    refine ⟨trivial, ?_⟩
    show Q (some (.int (I 76 0))) (SH, mkM I J T)
    exact (hyp.2.2.2.2.2.2.1 c7)
  rw [show swT 1 0 6 97 (#[43, 51, 59, 67, 72, 81, 89]) a1 = 98 from if_pos (by have := i32_ne (n := 0) c1 rfl; have := i32_ne (n := 1) c2 rfl; have := i32_ne (n := 2) c3 rfl; have := i32_ne (n := 3) c4 rfl; have := i32_ne (n := 4) c5 rfl; have := i32_ne (n := 5) c6 rfl; have := i32_ne (n := 6) c7 rfl; omega)]
  show Go none aM (Ev mt aM (d + 7)) mX11_count Q (98, [some (.ref 0), some (.int a1)], [], (SH, mkM I J T), 0, 0)
  refine Go.of_run (Ev.mono _) 3 _ ?_
  show Go none aM (Ev mt aM (d + 7)) mX11_count Q (if a1 < (10 : Int32) then 128 else 104, [some (.ref 0), some (.int a1)], [], (SH, mkM I J T), 0, 0)
  rcases Decidable.em (a1 < (10 : Int32)) with c8 | c8
  · rw [if_pos c8]
    refine Go.of_run (Ev.mono _) 3 _ ?_
    show Go none aM (Ev mt aM (d + 7)) mX11_count Q (if a1 < (20 : Int32) then 158 else 134, [some (.ref 0), some (.int a1)], [], (SH, mkM I J T), 0, 0)
    rcases Decidable.em (a1 < (20 : Int32)) with c9 | c9
    · rw [if_pos c9]
      refine Go.of_run (Ev.mono _) 3 _ ?_
      show Go none aM (Ev mt aM (d + 7)) mX11_count Q (if a1 < (30 : Int32) then 188 else 164, [some (.ref 0), some (.int a1)], [], (SH, mkM I J T), 0, 0)
      rcases Decidable.em (a1 < (30 : Int32)) with c10 | c10
      · rw [if_pos c10]
        refine Go.of_run (Ev.mono _) 2 _ ?_
        refine ⟨trivial, ?_⟩
        show Q (some (.int (-1 : Int32))) (SH, mkM I J T)
        exact ((((hyp.2.2.2.2.2.2.2 c1 c2 c3 c4 c5 c6 c7).1 c8).1 c9).1 c10)
      · rw [if_neg c10]
        refine Go.of_run (Ev.mono _) 4 _ ?_
        refine ⟨Nat.le_of_ble_eq_true rfl, ev_X11_isPlayer ?_⟩
        show Go none aM (Ev mt aM (d + 7)) mX11_count Q (171, [some (.ref 0), some (.int a1)], [.int (v_X11_isPlayer (a1 - (30 : Int32)))], (SH, mkM I J T), 0, 0)
        refine Go.of_run (Ev.mono _) 1 _ ?_
        show Go none aM (Ev mt aM (d + 7)) mX11_count Q (if v_X11_isPlayer (a1 - (30 : Int32)) = 0 then 188 else 174, [some (.ref 0), some (.int a1)], [], (SH, mkM I J T), 0, 0)
        rcases Decidable.em (v_X11_isPlayer (a1 - (30 : Int32)) = 0) with c11 | c11
        · rw [if_pos c11]
          refine Go.of_run (Ev.mono _) 2 _ ?_
          refine ⟨trivial, ?_⟩
          show Q (some (.int (-1 : Int32))) (SH, mkM I J T)
          exact (((((hyp.2.2.2.2.2.2.2 c1 c2 c3 c4 c5 c6 c7).1 c8).1 c9).2 c10).1 c11)
        · rw [if_neg c11]
          refine Go.of_run (Ev.mono _) 6 _ ?_
          refine ⟨Nat.le_of_ble_eq_true rfl, ev_X7_legsAtFirst (((((hyp.2.2.2.2.2.2.2 c1 c2 c3 c4 c5 c6 c7).1 c8).1 c9).2 c10).2 c11).1 ?_⟩
          show Go none aM (Ev mt aM (d + 7)) mX11_count Q (185, [some (.ref 0), some (.int a1)], [.int (v_X7_legsAtFirst (a1 - (30 : Int32)) I)], (SH, mkM I J T), 0, 0)
          refine Go.of_run (Ev.mono _) 2 _ ?_
          refine ⟨trivial, ?_⟩
          show Q (some (.int (v_X7_legsAtFirst (a1 - (30 : Int32)) I))) (SH, mkM I J T)
          exact (((((hyp.2.2.2.2.2.2.2 c1 c2 c3 c4 c5 c6 c7).1 c8).1 c9).2 c10).2 c11).2
    · rw [if_neg c9]
      refine Go.of_run (Ev.mono _) 4 _ ?_
      refine ⟨Nat.le_of_ble_eq_true rfl, ev_X11_isRule ?_⟩
      show Go none aM (Ev mt aM (d + 7)) mX11_count Q (141, [some (.ref 0), some (.int a1)], [.int (v_X11_isRule (a1 - (20 : Int32)))], (SH, mkM I J T), 0, 0)
      refine Go.of_run (Ev.mono _) 1 _ ?_
      show Go none aM (Ev mt aM (d + 7)) mX11_count Q (if v_X11_isRule (a1 - (20 : Int32)) = 0 then 158 else 144, [some (.ref 0), some (.int a1)], [], (SH, mkM I J T), 0, 0)
      rcases Decidable.em (v_X11_isRule (a1 - (20 : Int32)) = 0) with c12 | c12
      · rw [if_pos c12]
        refine Go.of_run (Ev.mono _) 3 _ ?_
        show Go none aM (Ev mt aM (d + 7)) mX11_count Q (if a1 < (30 : Int32) then 188 else 164, [some (.ref 0), some (.int a1)], [], (SH, mkM I J T), 0, 0)
        rcases Decidable.em (a1 < (30 : Int32)) with c13 | c13
        · rw [if_pos c13]
          refine Go.of_run (Ev.mono _) 2 _ ?_
          refine ⟨trivial, ?_⟩
          show Q (some (.int (-1 : Int32))) (SH, mkM I J T)
          exact (((((hyp.2.2.2.2.2.2.2 c1 c2 c3 c4 c5 c6 c7).1 c8).2 c9).1 c12).1 c13)
        · rw [if_neg c13]
          refine Go.of_run (Ev.mono _) 4 _ ?_
          refine ⟨Nat.le_of_ble_eq_true rfl, ev_X11_isPlayer ?_⟩
          show Go none aM (Ev mt aM (d + 7)) mX11_count Q (171, [some (.ref 0), some (.int a1)], [.int (v_X11_isPlayer (a1 - (30 : Int32)))], (SH, mkM I J T), 0, 0)
          refine Go.of_run (Ev.mono _) 1 _ ?_
          show Go none aM (Ev mt aM (d + 7)) mX11_count Q (if v_X11_isPlayer (a1 - (30 : Int32)) = 0 then 188 else 174, [some (.ref 0), some (.int a1)], [], (SH, mkM I J T), 0, 0)
          rcases Decidable.em (v_X11_isPlayer (a1 - (30 : Int32)) = 0) with c14 | c14
          · rw [if_pos c14]
            refine Go.of_run (Ev.mono _) 2 _ ?_
            refine ⟨trivial, ?_⟩
            show Q (some (.int (-1 : Int32))) (SH, mkM I J T)
            exact ((((((hyp.2.2.2.2.2.2.2 c1 c2 c3 c4 c5 c6 c7).1 c8).2 c9).1 c12).2 c13).1 c14)
          · rw [if_neg c14]
            refine Go.of_run (Ev.mono _) 6 _ ?_
            refine ⟨Nat.le_of_ble_eq_true rfl, ev_X7_legsAtFirst ((((((hyp.2.2.2.2.2.2.2 c1 c2 c3 c4 c5 c6 c7).1 c8).2 c9).1 c12).2 c13).2 c14).1 ?_⟩
            show Go none aM (Ev mt aM (d + 7)) mX11_count Q (185, [some (.ref 0), some (.int a1)], [.int (v_X7_legsAtFirst (a1 - (30 : Int32)) I)], (SH, mkM I J T), 0, 0)
            refine Go.of_run (Ev.mono _) 2 _ ?_
            refine ⟨trivial, ?_⟩
            show Q (some (.int (v_X7_legsAtFirst (a1 - (30 : Int32)) I))) (SH, mkM I J T)
            exact ((((((hyp.2.2.2.2.2.2.2 c1 c2 c3 c4 c5 c6 c7).1 c8).2 c9).1 c12).2 c13).2 c14).2
      · rw [if_neg c12]
        refine Go.of_run (Ev.mono _) 8 _ ?_
        refine ⟨Nat.le_of_ble_eq_true rfl, ev_X2_clausesOf ⟨((((hyp.2.2.2.2.2.2.2 c1 c2 c3 c4 c5 c6 c7).1 c8).2 c9).2 c12).1, ((((hyp.2.2.2.2.2.2.2 c1 c2 c3 c4 c5 c6 c7).1 c8).2 c9).2 c12).2.1⟩ ?_⟩
        show Go none aM (Ev mt aM (d + 7)) mX11_count Q (157, [some (.ref 0), some (.int a1)], [.int (v_X2_clausesOf (((4 : Int32) + a1) - (20 : Int32)) I T)], (SH, mkM I J T), 0, 0)
        refine Go.of_run (Ev.mono _) 1 _ ?_
        refine ⟨trivial, ?_⟩
        show Q (some (.int (v_X2_clausesOf (((4 : Int32) + a1) - (20 : Int32)) I T))) (SH, mkM I J T)
        exact ((((hyp.2.2.2.2.2.2.2 c1 c2 c3 c4 c5 c6 c7).1 c8).2 c9).2 c12).2.2
  · rw [if_neg c8]
    refine Go.of_run (Ev.mono _) 4 _ ?_
    refine ⟨Nat.le_of_ble_eq_true rfl, ev_X11_isOther ?_⟩
    show Go none aM (Ev mt aM (d + 7)) mX11_count Q (111, [some (.ref 0), some (.int a1)], [.int (v_X11_isOther (a1 - (10 : Int32)))], (SH, mkM I J T), 0, 0)
    refine Go.of_run (Ev.mono _) 1 _ ?_
    show Go none aM (Ev mt aM (d + 7)) mX11_count Q (if v_X11_isOther (a1 - (10 : Int32)) = 0 then 128 else 114, [some (.ref 0), some (.int a1)], [], (SH, mkM I J T), 0, 0)
    rcases Decidable.em (v_X11_isOther (a1 - (10 : Int32)) = 0) with c15 | c15
    · rw [if_pos c15]
      refine Go.of_run (Ev.mono _) 3 _ ?_
      show Go none aM (Ev mt aM (d + 7)) mX11_count Q (if a1 < (20 : Int32) then 158 else 134, [some (.ref 0), some (.int a1)], [], (SH, mkM I J T), 0, 0)
      rcases Decidable.em (a1 < (20 : Int32)) with c16 | c16
      · rw [if_pos c16]
        refine Go.of_run (Ev.mono _) 3 _ ?_
        show Go none aM (Ev mt aM (d + 7)) mX11_count Q (if a1 < (30 : Int32) then 188 else 164, [some (.ref 0), some (.int a1)], [], (SH, mkM I J T), 0, 0)
        rcases Decidable.em (a1 < (30 : Int32)) with c17 | c17
        · rw [if_pos c17]
          refine Go.of_run (Ev.mono _) 2 _ ?_
          refine ⟨trivial, ?_⟩
          show Q (some (.int (-1 : Int32))) (SH, mkM I J T)
          exact (((((hyp.2.2.2.2.2.2.2 c1 c2 c3 c4 c5 c6 c7).2 c8).1 c15).1 c16).1 c17)
        · rw [if_neg c17]
          refine Go.of_run (Ev.mono _) 4 _ ?_
          refine ⟨Nat.le_of_ble_eq_true rfl, ev_X11_isPlayer ?_⟩
          show Go none aM (Ev mt aM (d + 7)) mX11_count Q (171, [some (.ref 0), some (.int a1)], [.int (v_X11_isPlayer (a1 - (30 : Int32)))], (SH, mkM I J T), 0, 0)
          refine Go.of_run (Ev.mono _) 1 _ ?_
          show Go none aM (Ev mt aM (d + 7)) mX11_count Q (if v_X11_isPlayer (a1 - (30 : Int32)) = 0 then 188 else 174, [some (.ref 0), some (.int a1)], [], (SH, mkM I J T), 0, 0)
          rcases Decidable.em (v_X11_isPlayer (a1 - (30 : Int32)) = 0) with c18 | c18
          · rw [if_pos c18]
            refine Go.of_run (Ev.mono _) 2 _ ?_
            refine ⟨trivial, ?_⟩
            show Q (some (.int (-1 : Int32))) (SH, mkM I J T)
            exact ((((((hyp.2.2.2.2.2.2.2 c1 c2 c3 c4 c5 c6 c7).2 c8).1 c15).1 c16).2 c17).1 c18)
          · rw [if_neg c18]
            refine Go.of_run (Ev.mono _) 6 _ ?_
            refine ⟨Nat.le_of_ble_eq_true rfl, ev_X7_legsAtFirst ((((((hyp.2.2.2.2.2.2.2 c1 c2 c3 c4 c5 c6 c7).2 c8).1 c15).1 c16).2 c17).2 c18).1 ?_⟩
            show Go none aM (Ev mt aM (d + 7)) mX11_count Q (185, [some (.ref 0), some (.int a1)], [.int (v_X7_legsAtFirst (a1 - (30 : Int32)) I)], (SH, mkM I J T), 0, 0)
            refine Go.of_run (Ev.mono _) 2 _ ?_
            refine ⟨trivial, ?_⟩
            show Q (some (.int (v_X7_legsAtFirst (a1 - (30 : Int32)) I))) (SH, mkM I J T)
            exact ((((((hyp.2.2.2.2.2.2.2 c1 c2 c3 c4 c5 c6 c7).2 c8).1 c15).1 c16).2 c17).2 c18).2
      · rw [if_neg c16]
        refine Go.of_run (Ev.mono _) 4 _ ?_
        refine ⟨Nat.le_of_ble_eq_true rfl, ev_X11_isRule ?_⟩
        show Go none aM (Ev mt aM (d + 7)) mX11_count Q (141, [some (.ref 0), some (.int a1)], [.int (v_X11_isRule (a1 - (20 : Int32)))], (SH, mkM I J T), 0, 0)
        refine Go.of_run (Ev.mono _) 1 _ ?_
        show Go none aM (Ev mt aM (d + 7)) mX11_count Q (if v_X11_isRule (a1 - (20 : Int32)) = 0 then 158 else 144, [some (.ref 0), some (.int a1)], [], (SH, mkM I J T), 0, 0)
        rcases Decidable.em (v_X11_isRule (a1 - (20 : Int32)) = 0) with c19 | c19
        · rw [if_pos c19]
          refine Go.of_run (Ev.mono _) 3 _ ?_
          show Go none aM (Ev mt aM (d + 7)) mX11_count Q (if a1 < (30 : Int32) then 188 else 164, [some (.ref 0), some (.int a1)], [], (SH, mkM I J T), 0, 0)
          rcases Decidable.em (a1 < (30 : Int32)) with c20 | c20
          · rw [if_pos c20]
            refine Go.of_run (Ev.mono _) 2 _ ?_
            refine ⟨trivial, ?_⟩
            show Q (some (.int (-1 : Int32))) (SH, mkM I J T)
            exact ((((((hyp.2.2.2.2.2.2.2 c1 c2 c3 c4 c5 c6 c7).2 c8).1 c15).2 c16).1 c19).1 c20)
          · rw [if_neg c20]
            refine Go.of_run (Ev.mono _) 4 _ ?_
            refine ⟨Nat.le_of_ble_eq_true rfl, ev_X11_isPlayer ?_⟩
            show Go none aM (Ev mt aM (d + 7)) mX11_count Q (171, [some (.ref 0), some (.int a1)], [.int (v_X11_isPlayer (a1 - (30 : Int32)))], (SH, mkM I J T), 0, 0)
            refine Go.of_run (Ev.mono _) 1 _ ?_
            show Go none aM (Ev mt aM (d + 7)) mX11_count Q (if v_X11_isPlayer (a1 - (30 : Int32)) = 0 then 188 else 174, [some (.ref 0), some (.int a1)], [], (SH, mkM I J T), 0, 0)
            rcases Decidable.em (v_X11_isPlayer (a1 - (30 : Int32)) = 0) with c21 | c21
            · rw [if_pos c21]
              refine Go.of_run (Ev.mono _) 2 _ ?_
              refine ⟨trivial, ?_⟩
              show Q (some (.int (-1 : Int32))) (SH, mkM I J T)
              exact (((((((hyp.2.2.2.2.2.2.2 c1 c2 c3 c4 c5 c6 c7).2 c8).1 c15).2 c16).1 c19).2 c20).1 c21)
            · rw [if_neg c21]
              refine Go.of_run (Ev.mono _) 6 _ ?_
              refine ⟨Nat.le_of_ble_eq_true rfl, ev_X7_legsAtFirst (((((((hyp.2.2.2.2.2.2.2 c1 c2 c3 c4 c5 c6 c7).2 c8).1 c15).2 c16).1 c19).2 c20).2 c21).1 ?_⟩
              show Go none aM (Ev mt aM (d + 7)) mX11_count Q (185, [some (.ref 0), some (.int a1)], [.int (v_X7_legsAtFirst (a1 - (30 : Int32)) I)], (SH, mkM I J T), 0, 0)
              refine Go.of_run (Ev.mono _) 2 _ ?_
              refine ⟨trivial, ?_⟩
              show Q (some (.int (v_X7_legsAtFirst (a1 - (30 : Int32)) I))) (SH, mkM I J T)
              exact (((((((hyp.2.2.2.2.2.2.2 c1 c2 c3 c4 c5 c6 c7).2 c8).1 c15).2 c16).1 c19).2 c20).2 c21).2
        · rw [if_neg c19]
          refine Go.of_run (Ev.mono _) 8 _ ?_
          refine ⟨Nat.le_of_ble_eq_true rfl, ev_X2_clausesOf ⟨(((((hyp.2.2.2.2.2.2.2 c1 c2 c3 c4 c5 c6 c7).2 c8).1 c15).2 c16).2 c19).1, (((((hyp.2.2.2.2.2.2.2 c1 c2 c3 c4 c5 c6 c7).2 c8).1 c15).2 c16).2 c19).2.1⟩ ?_⟩
          show Go none aM (Ev mt aM (d + 7)) mX11_count Q (157, [some (.ref 0), some (.int a1)], [.int (v_X2_clausesOf (((4 : Int32) + a1) - (20 : Int32)) I T)], (SH, mkM I J T), 0, 0)
          refine Go.of_run (Ev.mono _) 1 _ ?_
          refine ⟨trivial, ?_⟩
          show Q (some (.int (v_X2_clausesOf (((4 : Int32) + a1) - (20 : Int32)) I T))) (SH, mkM I J T)
          exact (((((hyp.2.2.2.2.2.2.2 c1 c2 c3 c4 c5 c6 c7).2 c8).1 c15).2 c16).2 c19).2.2
    · rw [if_neg c15]
      refine Go.of_run (Ev.mono _) 8 _ ?_
      refine ⟨Nat.le_of_ble_eq_true rfl, ev_X2_clausesOf ⟨(((hyp.2.2.2.2.2.2.2 c1 c2 c3 c4 c5 c6 c7).2 c8).2 c15).1, (((hyp.2.2.2.2.2.2.2 c1 c2 c3 c4 c5 c6 c7).2 c8).2 c15).2.1⟩ ?_⟩
      show Go none aM (Ev mt aM (d + 7)) mX11_count Q (127, [some (.ref 0), some (.int a1)], [.int (v_X2_clausesOf (((1 : Int32) + a1) - (10 : Int32)) I T)], (SH, mkM I J T), 0, 0)
      refine Go.of_run (Ev.mono _) 1 _ ?_
      refine ⟨trivial, ?_⟩
      show Q (some (.int (v_X2_clausesOf (((1 : Int32) + a1) - (10 : Int32)) I T))) (SH, mkM I J T)
      exact (((hyp.2.2.2.2.2.2.2 c1 c2 c3 c4 c5 c6 c7).2 c8).2 c15).2.2
set_option maxRecDepth 20000 in
theorem mcount_0 {d : Nat} {a1 : Int32} {I : Nat → Nat → Int32} {J : Nat → Nat → Int64} {T : Nat → Nat → Nat} {Q : Option Value → Mem → Prop} (hyp : ((a1 = 0 → Q (some (.int (I 83 0))) (SH, mkM I J T)) ∧ ((a1 = 1 → Q (some (.int (I 83 1))) (SH, mkM I J T)) ∧ ((a1 = 2 → Q (some (.int (I 83 2))) (SH, mkM I J T)) ∧ ((a1 = 3 → Q (some (.int (I 83 3))) (SH, mkM I J T)) ∧ ((a1 = 4 → Q (some (.int (I 98 7))) (SH, mkM I J T)) ∧ ((a1 = 5 → Q (some (.int (I 83 11))) (SH, mkM I J T)) ∧ ((a1 = 6 → Q (some (.int (I 83 48))) (SH, mkM I J T)) ∧ (¬ (a1 = 0) → ¬ (a1 = 1) → ¬ (a1 = 2) → ¬ (a1 = 3) → ¬ (a1 = 4) → ¬ (a1 = 5) → ¬ (a1 = 6) → ((v_X12_in a1 (10 : Int32) (12 : Int32) = 0 → ((v_X12_in a1 (20 : Int32) (23 : Int32) = 0 → ((v_X12_in a1 (30 : Int32) (34 : Int32) = 0 → Q (some (.int (-1 : Int32))) (SH, mkM I J T)) ∧ ((¬ (v_X12_in a1 (30 : Int32) (34 : Int32) = 0)) → (vp_in (a1 - (30 : Int32)) 5 ∧ Q (some (.int (I 86 ((a1 - (30 : Int32)).toNatClampNeg)))) (SH, mkM I J T))))) ∧ ((¬ (v_X12_in a1 (20 : Int32) (23 : Int32) = 0)) → (vp_in (((3 : Int32) + a1) - (20 : Int32)) 8 ∧ Q (some (.int (I 98 ((((3 : Int32) + a1) - (20 : Int32)).toNatClampNeg)))) (SH, mkM I J T))))) ∧ ((¬ (v_X12_in a1 (10 : Int32) (12 : Int32) = 0)) → (vp_in (a1 - (10 : Int32)) 8 ∧ Q (some (.int (I 98 ((a1 - (10 : Int32)).toNatClampNeg)))) (SH, mkM I J T))))))))))))) : Go none aM (Ev mt aM (d + 7)) mX12_count Q (0, [some (.ref 83), some (.int a1)], [], (SH, mkM I J T), 0, 0) := by
  refine Go.of_run (Ev.mono _) 2 _ ?_
  show Go none aM (Ev mt aM (d + 7)) mX12_count Q (swT 1 0 6 81 (#[43, 48, 53, 58, 63, 71, 76]) a1, [some (.ref 83), some (.int a1)], [], (SH, mkM I J T), 0, 0)
  rcases Decidable.em (a1 = 0) with c1 | c1
  · rw [show swT 1 0 6 81 (#[43, 48, 53, 58, 63, 71, 76]) a1 = 44 from by rw [c1]; rfl]
    refine Go.of_run (Ev.mono _) 3 _ ?_
    refine ⟨trivial, ?_⟩
    show Q (some (.int (I 83 0))) (SH, mkM I J T)
    exact (hyp.1 c1)
  rcases Decidable.em (a1 = 1) with c2 | c2
  · rw [show swT 1 0 6 81 (#[43, 48, 53, 58, 63, 71, 76]) a1 = 49 from by rw [c2]; rfl]
    refine Go.of_run (Ev.mono _) 3 _ ?_
    refine ⟨trivial, ?_⟩
    show Q (some (.int (I 83 1))) (SH, mkM I J T)
    exact (hyp.2.1 c2)
  rcases Decidable.em (a1 = 2) with c3 | c3
  · rw [show swT 1 0 6 81 (#[43, 48, 53, 58, 63, 71, 76]) a1 = 54 from by rw [c3]; rfl]
    refine Go.of_run (Ev.mono _) 3 _ ?_
    refine ⟨trivial, ?_⟩
    show Q (some (.int (I 83 2))) (SH, mkM I J T)
    exact (hyp.2.2.1 c3)
  rcases Decidable.em (a1 = 3) with c4 | c4
  · rw [show swT 1 0 6 81 (#[43, 48, 53, 58, 63, 71, 76]) a1 = 59 from by rw [c4]; rfl]
    refine Go.of_run (Ev.mono _) 3 _ ?_
    refine ⟨trivial, ?_⟩
    show Q (some (.int (I 83 3))) (SH, mkM I J T)
    exact (hyp.2.2.2.1 c4)
  rcases Decidable.em (a1 = 4) with c5 | c5
  · rw [show swT 1 0 6 81 (#[43, 48, 53, 58, 63, 71, 76]) a1 = 64 from by rw [c5]; rfl]
    refine Go.of_run (Ev.mono _) 4 _ ?_
    refine ⟨(by unfold vp_in; decide : vp_in (7 : Int32) 8), ?_⟩
    show Go none aM (Ev mt aM (d + 7)) mX12_count Q (71, [some (.ref 83), some (.int a1)], [.int (I 98 7)], (SH, mkM I J T), 0, 0)
    refine Go.of_run (Ev.mono _) 1 _ ?_
    refine ⟨trivial, ?_⟩
    show Q (some (.int (I 98 7))) (SH, mkM I J T)
    exact (hyp.2.2.2.2.1 c5)
  rcases Decidable.em (a1 = 5) with c6 | c6
  · rw [show swT 1 0 6 81 (#[43, 48, 53, 58, 63, 71, 76]) a1 = 72 from by rw [c6]; rfl]
    refine Go.of_run (Ev.mono _) 3 _ ?_
    refine ⟨trivial, ?_⟩
    show Q (some (.int (I 83 11))) (SH, mkM I J T)
    exact (hyp.2.2.2.2.2.1 c6)
  rcases Decidable.em (a1 = 6) with c7 | c7
  · rw [show swT 1 0 6 81 (#[43, 48, 53, 58, 63, 71, 76]) a1 = 77 from by rw [c7]; rfl]
    refine Go.of_run (Ev.mono _) 3 _ ?_
    refine ⟨trivial, ?_⟩
    show Q (some (.int (I 83 48))) (SH, mkM I J T)
    exact (hyp.2.2.2.2.2.2.1 c7)
  rw [show swT 1 0 6 81 (#[43, 48, 53, 58, 63, 71, 76]) a1 = 82 from if_pos (by have := i32_ne (n := 0) c1 rfl; have := i32_ne (n := 1) c2 rfl; have := i32_ne (n := 2) c3 rfl; have := i32_ne (n := 3) c4 rfl; have := i32_ne (n := 4) c5 rfl; have := i32_ne (n := 5) c6 rfl; have := i32_ne (n := 6) c7 rfl; omega)]
  show Go none aM (Ev mt aM (d + 7)) mX12_count Q (82, [some (.ref 83), some (.int a1)], [], (SH, mkM I J T), 0, 0)
  refine Go.of_run (Ev.mono _) 4 _ ?_
  refine ⟨Nat.le_of_ble_eq_true rfl, ev_X12_in ?_⟩
  show Go none aM (Ev mt aM (d + 7)) mX12_count Q (90, [some (.ref 83), some (.int a1)], [.int (v_X12_in a1 (10 : Int32) (12 : Int32))], (SH, mkM I J T), 0, 0)
  refine Go.of_run (Ev.mono _) 1 _ ?_
  show Go none aM (Ev mt aM (d + 7)) mX12_count Q (if v_X12_in a1 (10 : Int32) (12 : Int32) = 0 then 103 else 93, [some (.ref 83), some (.int a1)], [], (SH, mkM I J T), 0, 0)
  rcases Decidable.em (v_X12_in a1 (10 : Int32) (12 : Int32) = 0) with c8 | c8
  · rw [if_pos c8]
    refine Go.of_run (Ev.mono _) 4 _ ?_
    refine ⟨Nat.le_of_ble_eq_true rfl, ev_X12_in ?_⟩
    show Go none aM (Ev mt aM (d + 7)) mX12_count Q (111, [some (.ref 83), some (.int a1)], [.int (v_X12_in a1 (20 : Int32) (23 : Int32))], (SH, mkM I J T), 0, 0)
    refine Go.of_run (Ev.mono _) 1 _ ?_
    show Go none aM (Ev mt aM (d + 7)) mX12_count Q (if v_X12_in a1 (20 : Int32) (23 : Int32) = 0 then 126 else 114, [some (.ref 83), some (.int a1)], [], (SH, mkM I J T), 0, 0)
    rcases Decidable.em (v_X12_in a1 (20 : Int32) (23 : Int32) = 0) with c9 | c9
    · rw [if_pos c9]
      refine Go.of_run (Ev.mono _) 4 _ ?_
      refine ⟨Nat.le_of_ble_eq_true rfl, ev_X12_in ?_⟩
      show Go none aM (Ev mt aM (d + 7)) mX12_count Q (134, [some (.ref 83), some (.int a1)], [.int (v_X12_in a1 (30 : Int32) (34 : Int32))], (SH, mkM I J T), 0, 0)
      refine Go.of_run (Ev.mono _) 1 _ ?_
      show Go none aM (Ev mt aM (d + 7)) mX12_count Q (if v_X12_in a1 (30 : Int32) (34 : Int32) = 0 then 149 else 137, [some (.ref 83), some (.int a1)], [], (SH, mkM I J T), 0, 0)
      rcases Decidable.em (v_X12_in a1 (30 : Int32) (34 : Int32) = 0) with c10 | c10
      · rw [if_pos c10]
        refine Go.of_run (Ev.mono _) 2 _ ?_
        refine ⟨trivial, ?_⟩
        show Q (some (.int (-1 : Int32))) (SH, mkM I J T)
        exact ((((hyp.2.2.2.2.2.2.2 c1 c2 c3 c4 c5 c6 c7).1 c8).1 c9).1 c10)
      · rw [if_neg c10]
        refine Go.of_run (Ev.mono _) 6 _ ?_
        refine ⟨((((hyp.2.2.2.2.2.2.2 c1 c2 c3 c4 c5 c6 c7).1 c8).1 c9).2 c10).1, ?_⟩
        show Go none aM (Ev mt aM (d + 7)) mX12_count Q (146, [some (.ref 83), some (.int a1)], [.int (I 86 ((a1 - (30 : Int32)).toNatClampNeg))], (SH, mkM I J T), 0, 0)
        refine Go.of_run (Ev.mono _) 2 _ ?_
        refine ⟨trivial, ?_⟩
        show Q (some (.int (I 86 ((a1 - (30 : Int32)).toNatClampNeg)))) (SH, mkM I J T)
        exact ((((hyp.2.2.2.2.2.2.2 c1 c2 c3 c4 c5 c6 c7).1 c8).1 c9).2 c10).2
    · rw [if_neg c9]
      refine Go.of_run (Ev.mono _) 8 _ ?_
      refine ⟨(((hyp.2.2.2.2.2.2.2 c1 c2 c3 c4 c5 c6 c7).1 c8).2 c9).1, ?_⟩
      show Go none aM (Ev mt aM (d + 7)) mX12_count Q (125, [some (.ref 83), some (.int a1)], [.int (I 98 ((((3 : Int32) + a1) - (20 : Int32)).toNatClampNeg))], (SH, mkM I J T), 0, 0)
      refine Go.of_run (Ev.mono _) 1 _ ?_
      refine ⟨trivial, ?_⟩
      show Q (some (.int (I 98 ((((3 : Int32) + a1) - (20 : Int32)).toNatClampNeg)))) (SH, mkM I J T)
      exact (((hyp.2.2.2.2.2.2.2 c1 c2 c3 c4 c5 c6 c7).1 c8).2 c9).2
  · rw [if_neg c8]
    refine Go.of_run (Ev.mono _) 6 _ ?_
    refine ⟨((hyp.2.2.2.2.2.2.2 c1 c2 c3 c4 c5 c6 c7).2 c8).1, ?_⟩
    show Go none aM (Ev mt aM (d + 7)) mX12_count Q (102, [some (.ref 83), some (.int a1)], [.int (I 98 ((a1 - (10 : Int32)).toNatClampNeg))], (SH, mkM I J T), 0, 0)
    refine Go.of_run (Ev.mono _) 1 _ ?_
    refine ⟨trivial, ?_⟩
    show Q (some (.int (I 98 ((a1 - (10 : Int32)).toNatClampNeg)))) (SH, mkM I J T)
    exact ((hyp.2.2.2.2.2.2.2 c1 c2 c3 c4 c5 c6 c7).2 c8).2
set_option maxRecDepth 20000 in
theorem chappens_0 {d : Nat} {a1 a2 : Int32} {I : Nat → Nat → Int32} {J : Nat → Nat → Int64} {T : Nat → Nat → Nat} {Q : Option Value → Mem → Prop} (hyp : ((v_X11_isAction a1 = 0 → Q (some (.int (-1 : Int32))) (SH, mkM I J T)) ∧ ((¬ (v_X11_isAction a1 = 0)) → ((a2 < 0 → Q (some (.int (-1 : Int32))) (SH, mkM I J T)) ∧ ((¬ (a2 < 0)) → ((a2 ≤ (4 : Int32) → (vp_in (I 76 0) 6 ∧ (((¬ (I 1 0 ≤ I 76 0)) → ((¬ (v_X7_mayBe (v_X1_codeBehind (I 76 0) I) a1 (I 1 1) (I 1 2) = 0)) → ((0 < (a1 - a1 / (7 : Int32) * (7 : Int32)) → vp_in (v_X7_playerOf (a1 - a1 / (7 : Int32) * (7 : Int32))) 5) ∧ ((0 < (a1 / (7 : Int32)) → vp_in (v_X7_playerOf (a1 / (7 : Int32))) 5) ∧ ((a2 < (3 : Int32) → (vp_in (I 76 0) 5 ∧ (vp_in (I 76 0) 5 ∧ (vp_in ((I 76 0) + (1 : Int32)) 6 ∧ (vp_in (I 76 0) 6 ∧ vp_in ((I 76 0) + (1 : Int32)) 6))))) ∧ ((¬ (a2 < (3 : Int32))) → (0 ≤ v_X7_whoIsAt (v_X7_codeAfter (v_X1_codeBehind (I 76 0) I) a1 I) (a2 - (3 : Int32)) → (vp_in (I 76 0) 5 ∧ (vp_in (I 76 0) 5 ∧ (vp_in ((I 76 0) + (1 : Int32)) 6 ∧ (vp_in (I 76 0) 6 ∧ vp_in ((I 76 0) + (1 : Int32)) 6))))))))))) ∧ ((v_X1_tell a1 a2 I = 0 → Q (some (.int (-1 : Int32))) (SH, mkM (w8_X1_tell a1 a2 I) J T)) ∧ ((¬ (v_X1_tell a1 a2 I = 0)) → Q (some (.int ((w8_X1_tell a1 a2 I) 76 0))) (SH, mkM (w8_X1_tell a1 a2 I) J T)))))) ∧ ((¬ (a2 ≤ (4 : Int32))) → Q (some (.int (-1 : Int32))) (SH, mkM I J T)))))))) : Go none aM (Ev mt aM (d + 7)) mX11_happens Q (0, [some (.ref 0), some (.int a1), some (.int a2)], [], (SH, mkM I J T), 0, 0) := by
  refine Go.of_run (Ev.mono _) 2 _ ?_
  refine ⟨Nat.le_of_ble_eq_true rfl, ev_X11_isAction ?_⟩
  show Go none aM (Ev mt aM (d + 7)) mX11_happens Q (4, [some (.ref 0), some (.int a1), some (.int a2)], [.int (v_X11_isAction a1)], (SH, mkM I J T), 0, 0)
  refine Go.of_run (Ev.mono _) 1 _ ?_
  show Go none aM (Ev mt aM (d + 7)) mX11_happens Q (if v_X11_isAction a1 = 0 then 16 else 7, [some (.ref 0), some (.int a1), some (.int a2)], [], (SH, mkM I J T), 0, 0)
  rcases Decidable.em (v_X11_isAction a1 = 0) with c1 | c1
  · rw [if_pos c1]
    refine Go.of_run (Ev.mono _) 2 _ ?_
    refine ⟨trivial, ?_⟩
    show Q (some (.int (-1 : Int32))) (SH, mkM I J T)
    exact (hyp.1 c1)
  · rw [if_neg c1]
    refine Go.of_run (Ev.mono _) 2 _ ?_
    show Go none aM (Ev mt aM (d + 7)) mX11_happens Q (if a2 < 0 then 16 else 11, [some (.ref 0), some (.int a1), some (.int a2)], [], (SH, mkM I J T), 0, 0)
    rcases Decidable.em (a2 < 0) with c2 | c2
    · rw [if_pos c2]
      refine Go.of_run (Ev.mono _) 2 _ ?_
      refine ⟨trivial, ?_⟩
      show Q (some (.int (-1 : Int32))) (SH, mkM I J T)
      exact ((hyp.2 c1).1 c2)
    · rw [if_neg c2]
      refine Go.of_run (Ev.mono _) 3 _ ?_
      show Go none aM (Ev mt aM (d + 7)) mX11_happens Q (if a2 ≤ (4 : Int32) then 18 else 16, [some (.ref 0), some (.int a1), some (.int a2)], [], (SH, mkM I J T), 0, 0)
      rcases Decidable.em (a2 ≤ (4 : Int32)) with c3 | c3
      · rw [if_pos c3]
        refine Go.of_run (Ev.mono _) 5 _ ?_
        refine ⟨Nat.le_of_ble_eq_true rfl, ev_X1_tell ⟨(((hyp.2 c1).2 c2).1 c3).1, (((hyp.2 c1).2 c2).1 c3).2.1⟩ ?_⟩
        show Go none aM (Ev mt aM (d + 7)) mX11_happens Q (27, [some (.ref 0), some (.int a1), some (.int a2)], [.int (v_X1_tell a1 a2 I)], (SH, mkM (w8_X1_tell a1 a2 I) J T), 0, 0)
        refine Go.of_run (Ev.mono _) 1 _ ?_
        show Go none aM (Ev mt aM (d + 7)) mX11_happens Q (if v_X1_tell a1 a2 I = 0 then 40 else 30, [some (.ref 0), some (.int a1), some (.int a2)], [], (SH, mkM (w8_X1_tell a1 a2 I) J T), 0, 0)
        rcases Decidable.em (v_X1_tell a1 a2 I = 0) with c4 | c4
        · rw [if_pos c4]
          refine Go.of_run (Ev.mono _) 2 _ ?_
          refine ⟨trivial, ?_⟩
          show Q (some (.int (-1 : Int32))) (SH, mkM (w8_X1_tell a1 a2 I) J T)
          exact ((((hyp.2 c1).2 c2).1 c3).2.2.1 c4)
        · rw [if_neg c4]
          refine Go.of_run (Ev.mono _) 5 _ ?_
          refine ⟨trivial, ?_⟩
          show Q (some (.int ((w8_X1_tell a1 a2 I) 76 0))) (SH, mkM (w8_X1_tell a1 a2 I) J T)
          exact ((((hyp.2 c1).2 c2).1 c3).2.2.2 c4)
      · rw [if_neg c3]
        refine Go.of_run (Ev.mono _) 2 _ ?_
        refine ⟨trivial, ?_⟩
        show Q (some (.int (-1 : Int32))) (SH, mkM I J T)
        exact (((hyp.2 c1).2 c2).2 c3)
set_option maxRecDepth 20000 in
theorem mhappens_0 {d : Nat} {a1 a2 : Int32} {I : Nat → Nat → Int32} {J : Nat → Nat → Int64} {T : Nat → Nat → Nat} {Q : Option Value → Mem → Prop} (hyp : ((I 83 48 = I 83 0 → Q (some (.int (-1 : Int32))) (SH, mkM (si (si I 113 0 (1536 : Int32)) 114 0 (0 : Int32)) J T)) ∧ ((¬ (I 83 48 = I 83 0)) → ((v_X12_in a1 (0 : Int32) (48 : Int32) = 0 → Q (some (.int (-1 : Int32))) (SH, mkM (si (si I 113 0 (1536 : Int32)) 114 0 (0 : Int32)) J T)) ∧ ((¬ (v_X12_in a1 (0 : Int32) (48 : Int32) = 0)) → ((v_X12_in a2 (0 : Int32) (4 : Int32) = 0 → Q (some (.int (-1 : Int32))) (SH, mkM (si (si I 113 0 (1536 : Int32)) 114 0 (0 : Int32)) J T)) ∧ ((¬ (v_X12_in a2 (0 : Int32) (4 : Int32) = 0)) → (vp_in (I 83 48) 6 ∧ ((v_X12_mayBe ((si I 113 0 (1536 : Int32)) 113 ((I 83 48).toNatClampNeg)) a1 (si (si I 113 0 (1536 : Int32)) 114 0 (0 : Int32)) = 0 → Q (some (.int (-1 : Int32))) (SH, mkM (si (si I 113 0 (1536 : Int32)) 114 0 (0 : Int32)) J T)) ∧ ((¬ (v_X12_mayBe ((si I 113 0 (1536 : Int32)) 113 ((I 83 48).toNatClampNeg)) a1 (si (si I 113 0 (1536 : Int32)) 114 0 (0 : Int32)) = 0)) → ((a2 ≤ (2 : Int32) → (vp_in ((si (si I 113 0 (1536 : Int32)) 114 0 (0 : Int32)) 83 48) 6 ∧ (((¬ (a1 = 0)) → (vp_in (v_X12_playerOf (v_X12_firstOf a1)) 5 ∧ ((7 : Int32) ≤ a1 → vp_in (v_X12_playerOf (v_X12_secondOf a1)) 5))) ∧ (vp_in (((si (si I 113 0 (1536 : Int32)) 114 0 (0 : Int32)) 83 48) + (1 : Int32)) 6 ∧ (vp_in ((si (si I 113 0 (1536 : Int32)) 114 0 (0 : Int32)) 83 48) 6 ∧ (vp_in (((si (si I 113 0 (1536 : Int32)) 114 0 (0 : Int32)) 83 48) + (1 : Int32)) 6 ∧ (vp_in (((si (si I 113 0 (1536 : Int32)) 114 0 (0 : Int32)) 83 48) + (1 : Int32)) 6 ∧ (vp_in (((si (si I 113 0 (1536 : Int32)) 114 0 (0 : Int32)) 83 48) + (1 : Int32)) 6 ∧ Q (some (.int ((i_X12_logs a1 a2 (si (si I 113 0 (1536 : Int32)) 114 0 (0 : Int32))) 83 48))) (SH, mkM (i_X12_logs a1 a2 (si (si I 113 0 (1536 : Int32)) 114 0 (0 : Int32))) J T))))))))) ∧ ((¬ (a2 ≤ (2 : Int32))) → (vp_in (I 83 48) 6 ∧ (((¬ (a1 = 0)) → (vp_in (v_X12_playerOf (v_X12_firstOf a1)) 5 ∧ ((7 : Int32) ≤ a1 → vp_in (v_X12_playerOf (v_X12_secondOf a1)) 5))) ∧ ((v_X12_whoAt (v_X12_behind ((si I 113 0 (1536 : Int32)) 113 ((I 83 48).toNatClampNeg)) a1 (si (si I 113 0 (1536 : Int32)) 114 0 (0 : Int32))) (a2 - (3 : Int32)) = (-1 : Int32) → Q (some (.int (-1 : Int32))) (SH, mkM (si (si I 113 0 (1536 : Int32)) 114 0 (0 : Int32)) J T)) ∧ ((¬ (v_X12_whoAt (v_X12_behind ((si I 113 0 (1536 : Int32)) 113 ((I 83 48).toNatClampNeg)) a1 (si (si I 113 0 (1536 : Int32)) 114 0 (0 : Int32))) (a2 - (3 : Int32)) = (-1 : Int32))) → (vp_in ((si (si I 113 0 (1536 : Int32)) 114 0 (0 : Int32)) 83 48) 6 ∧ (((¬ (a1 = 0)) → (vp_in (v_X12_playerOf (v_X12_firstOf a1)) 5 ∧ ((7 : Int32) ≤ a1 → vp_in (v_X12_playerOf (v_X12_secondOf a1)) 5))) ∧ (vp_in (((si (si I 113 0 (1536 : Int32)) 114 0 (0 : Int32)) 83 48) + (1 : Int32)) 6 ∧ (vp_in ((si (si I 113 0 (1536 : Int32)) 114 0 (0 : Int32)) 83 48) 6 ∧ (vp_in (((si (si I 113 0 (1536 : Int32)) 114 0 (0 : Int32)) 83 48) + (1 : Int32)) 6 ∧ (vp_in (((si (si I 113 0 (1536 : Int32)) 114 0 (0 : Int32)) 83 48) + (1 : Int32)) 6 ∧ (vp_in (((si (si I 113 0 (1536 : Int32)) 114 0 (0 : Int32)) 83 48) + (1 : Int32)) 6 ∧ Q (some (.int ((i_X12_logs a1 a2 (si (si I 113 0 (1536 : Int32)) 114 0 (0 : Int32))) 83 48))) (SH, mkM (i_X12_logs a1 a2 (si (si I 113 0 (1536 : Int32)) 114 0 (0 : Int32))) J T)))))))))))))))))))))))) : Go none aM (Ev mt aM (d + 7)) mX12_happens Q (0, [some (.ref 83), some (.int a1), some (.int a2)], [], (SH, mkM I J T), 0, 0) := by
  refine Go.of_run (Ev.mono _) 2 _ ?_
  refine ⟨Nat.le_of_ble_eq_true rfl, ev_X12_begins ?_⟩
  show Go none aM (Ev mt aM (d + 7)) mX12_happens Q (4, [some (.ref 83), some (.int a1), some (.int a2)], [], (SH, mkM (si (si I 113 0 (1536 : Int32)) 114 0 (0 : Int32)) J T), 0, 0)
  refine Go.of_run (Ev.mono _) 5 _ ?_
  show Go none aM (Ev mt aM (d + 7)) mX12_happens Q (if I 83 48 = I 83 0 then 51 else 15, [some (.ref 83), some (.int a1), some (.int a2)], [], (SH, mkM (si (si I 113 0 (1536 : Int32)) 114 0 (0 : Int32)) J T), 0, 0)
  rcases Decidable.em (I 83 48 = I 83 0) with c1 | c1
  · rw [if_pos c1]
    refine Go.of_run (Ev.mono _) 2 _ ?_
    refine ⟨trivial, ?_⟩
    show Q (some (.int (-1 : Int32))) (SH, mkM (si (si I 113 0 (1536 : Int32)) 114 0 (0 : Int32)) J T)
    exact (hyp.1 c1)
  · rw [if_neg c1]
    refine Go.of_run (Ev.mono _) 4 _ ?_
    refine ⟨Nat.le_of_ble_eq_true rfl, ev_X12_in ?_⟩
    show Go none aM (Ev mt aM (d + 7)) mX12_happens Q (22, [some (.ref 83), some (.int a1), some (.int a2)], [.int (v_X12_in a1 (0 : Int32) (48 : Int32))], (SH, mkM (si (si I 113 0 (1536 : Int32)) 114 0 (0 : Int32)) J T), 0, 0)
    refine Go.of_run (Ev.mono _) 1 _ ?_
    show Go none aM (Ev mt aM (d + 7)) mX12_happens Q (if v_X12_in a1 (0 : Int32) (48 : Int32) = 0 then 51 else 25, [some (.ref 83), some (.int a1), some (.int a2)], [], (SH, mkM (si (si I 113 0 (1536 : Int32)) 114 0 (0 : Int32)) J T), 0, 0)
    rcases Decidable.em (v_X12_in a1 (0 : Int32) (48 : Int32) = 0) with c2 | c2
    · rw [if_pos c2]
      refine Go.of_run (Ev.mono _) 2 _ ?_
      refine ⟨trivial, ?_⟩
      show Q (some (.int (-1 : Int32))) (SH, mkM (si (si I 113 0 (1536 : Int32)) 114 0 (0 : Int32)) J T)
      exact ((hyp.2 c1).1 c2)
    · rw [if_neg c2]
      refine Go.of_run (Ev.mono _) 4 _ ?_
      refine ⟨Nat.le_of_ble_eq_true rfl, ev_X12_in ?_⟩
      show Go none aM (Ev mt aM (d + 7)) mX12_happens Q (31, [some (.ref 83), some (.int a1), some (.int a2)], [.int (v_X12_in a2 (0 : Int32) (4 : Int32))], (SH, mkM (si (si I 113 0 (1536 : Int32)) 114 0 (0 : Int32)) J T), 0, 0)
      refine Go.of_run (Ev.mono _) 1 _ ?_
      show Go none aM (Ev mt aM (d + 7)) mX12_happens Q (if v_X12_in a2 (0 : Int32) (4 : Int32) = 0 then 51 else 34, [some (.ref 83), some (.int a1), some (.int a2)], [], (SH, mkM (si (si I 113 0 (1536 : Int32)) 114 0 (0 : Int32)) J T), 0, 0)
      rcases Decidable.em (v_X12_in a2 (0 : Int32) (4 : Int32) = 0) with c3 | c3
      · rw [if_pos c3]
        refine Go.of_run (Ev.mono _) 2 _ ?_
        refine ⟨trivial, ?_⟩
        show Q (some (.int (-1 : Int32))) (SH, mkM (si (si I 113 0 (1536 : Int32)) 114 0 (0 : Int32)) J T)
        exact (((hyp.2 c1).2 c2).1 c3)
      · rw [if_neg c3]
        refine Go.of_run (Ev.mono _) 6 _ ?_
        refine ⟨(((hyp.2 c1).2 c2).2 c3).1, ?_⟩
        show Go none aM (Ev mt aM (d + 7)) mX12_happens Q (44, [some (.ref 83), some (.int a1), some (.int a2)], [.int ((si I 113 0 (1536 : Int32)) 113 ((I 83 48).toNatClampNeg)), .ref 83], (SH, mkM (si (si I 113 0 (1536 : Int32)) 114 0 (0 : Int32)) J T), 0, 0)
        refine Go.of_run (Ev.mono _) 2 _ ?_
        refine ⟨Nat.le_of_ble_eq_true rfl, ev_X12_mayBe ?_⟩
        show Go none aM (Ev mt aM (d + 7)) mX12_happens Q (48, [some (.ref 83), some (.int a1), some (.int a2)], [.int (v_X12_mayBe ((si I 113 0 (1536 : Int32)) 113 ((I 83 48).toNatClampNeg)) a1 (si (si I 113 0 (1536 : Int32)) 114 0 (0 : Int32)))], (SH, mkM (si (si I 113 0 (1536 : Int32)) 114 0 (0 : Int32)) J T), 0, 0)
        refine Go.of_run (Ev.mono _) 1 _ ?_
        show Go none aM (Ev mt aM (d + 7)) mX12_happens Q (if v_X12_mayBe ((si I 113 0 (1536 : Int32)) 113 ((I 83 48).toNatClampNeg)) a1 (si (si I 113 0 (1536 : Int32)) 114 0 (0 : Int32)) = 0 then 51 else 53, [some (.ref 83), some (.int a1), some (.int a2)], [], (SH, mkM (si (si I 113 0 (1536 : Int32)) 114 0 (0 : Int32)) J T), 0, 0)
        rcases Decidable.em (v_X12_mayBe ((si I 113 0 (1536 : Int32)) 113 ((I 83 48).toNatClampNeg)) a1 (si (si I 113 0 (1536 : Int32)) 114 0 (0 : Int32)) = 0) with c4 | c4
        · rw [if_pos c4]
          refine Go.of_run (Ev.mono _) 2 _ ?_
          refine ⟨trivial, ?_⟩
          show Q (some (.int (-1 : Int32))) (SH, mkM (si (si I 113 0 (1536 : Int32)) 114 0 (0 : Int32)) J T)
          exact ((((hyp.2 c1).2 c2).2 c3).2.1 c4)
        · rw [if_neg c4]
          refine Go.of_run (Ev.mono _) 3 _ ?_
          show Go none aM (Ev mt aM (d + 7)) mX12_happens Q (if a2 ≤ (2 : Int32) then 84 else 58, [some (.ref 83), some (.int a1), some (.int a2)], [], (SH, mkM (si (si I 113 0 (1536 : Int32)) 114 0 (0 : Int32)) J T), 0, 0)
          rcases Decidable.em (a2 ≤ (2 : Int32)) with c5 | c5
          · rw [if_pos c5]
            refine Go.of_run (Ev.mono _) 4 _ ?_
            refine ⟨Nat.le_of_ble_eq_true rfl, ev_X12_logs ⟨(((((hyp.2 c1).2 c2).2 c3).2.2 c4).1 c5).1, ⟨(((((hyp.2 c1).2 c2).2 c3).2.2 c4).1 c5).2.1, ⟨(((((hyp.2 c1).2 c2).2 c3).2.2 c4).1 c5).2.2.1, ⟨(((((hyp.2 c1).2 c2).2 c3).2.2 c4).1 c5).2.2.2.1, ⟨(((((hyp.2 c1).2 c2).2 c3).2.2 c4).1 c5).2.2.2.2.1, ⟨(((((hyp.2 c1).2 c2).2 c3).2.2 c4).1 c5).2.2.2.2.2.1, (((((hyp.2 c1).2 c2).2 c3).2.2 c4).1 c5).2.2.2.2.2.2.1⟩⟩⟩⟩⟩⟩ ?_⟩
            show Go none aM (Ev mt aM (d + 7)) mX12_happens Q (90, [some (.ref 83), some (.int a1), some (.int a2)], [], (SH, mkM (i_X12_logs a1 a2 (si (si I 113 0 (1536 : Int32)) 114 0 (0 : Int32))) J T), 0, 0)
            refine Go.of_run (Ev.mono _) 3 _ ?_
            refine ⟨trivial, ?_⟩
            show Q (some (.int ((i_X12_logs a1 a2 (si (si I 113 0 (1536 : Int32)) 114 0 (0 : Int32))) 83 48))) (SH, mkM (i_X12_logs a1 a2 (si (si I 113 0 (1536 : Int32)) 114 0 (0 : Int32))) J T)
            exact (((((hyp.2 c1).2 c2).2 c3).2.2 c4).1 c5).2.2.2.2.2.2.2
          · rw [if_neg c5]
            refine Go.of_run (Ev.mono _) 6 _ ?_
            refine ⟨(((((hyp.2 c1).2 c2).2 c3).2.2 c4).2 c5).1, ?_⟩
            show Go none aM (Ev mt aM (d + 7)) mX12_happens Q (68, [some (.ref 83), some (.int a1), some (.int a2)], [.int ((si I 113 0 (1536 : Int32)) 113 ((I 83 48).toNatClampNeg)), .ref 83], (SH, mkM (si (si I 113 0 (1536 : Int32)) 114 0 (0 : Int32)) J T), 0, 0)
            refine Go.of_run (Ev.mono _) 2 _ ?_
            refine ⟨Nat.le_of_ble_eq_true rfl, ev_X12_behind (((((hyp.2 c1).2 c2).2 c3).2.2 c4).2 c5).2.1 ?_⟩
            show Go none aM (Ev mt aM (d + 7)) mX12_happens Q (72, [some (.ref 83), some (.int a1), some (.int a2)], [.int (v_X12_behind ((si I 113 0 (1536 : Int32)) 113 ((I 83 48).toNatClampNeg)) a1 (si (si I 113 0 (1536 : Int32)) 114 0 (0 : Int32)))], (SH, mkM (si (si I 113 0 (1536 : Int32)) 114 0 (0 : Int32)) J T), 0, 0)
            refine Go.of_run (Ev.mono _) 4 _ ?_
            refine ⟨Nat.le_of_ble_eq_true rfl, ev_X12_whoAt ?_⟩
            show Go none aM (Ev mt aM (d + 7)) mX12_happens Q (78, [some (.ref 83), some (.int a1), some (.int a2)], [.int (v_X12_whoAt (v_X12_behind ((si I 113 0 (1536 : Int32)) 113 ((I 83 48).toNatClampNeg)) a1 (si (si I 113 0 (1536 : Int32)) 114 0 (0 : Int32))) (a2 - (3 : Int32)))], (SH, mkM (si (si I 113 0 (1536 : Int32)) 114 0 (0 : Int32)) J T), 0, 0)
            refine Go.of_run (Ev.mono _) 2 _ ?_
            show Go none aM (Ev mt aM (d + 7)) mX12_happens Q (if v_X12_whoAt (v_X12_behind ((si I 113 0 (1536 : Int32)) 113 ((I 83 48).toNatClampNeg)) a1 (si (si I 113 0 (1536 : Int32)) 114 0 (0 : Int32))) (a2 - (3 : Int32)) = (-1 : Int32) then 82 else 84, [some (.ref 83), some (.int a1), some (.int a2)], [], (SH, mkM (si (si I 113 0 (1536 : Int32)) 114 0 (0 : Int32)) J T), 0, 0)
            rcases Decidable.em (v_X12_whoAt (v_X12_behind ((si I 113 0 (1536 : Int32)) 113 ((I 83 48).toNatClampNeg)) a1 (si (si I 113 0 (1536 : Int32)) 114 0 (0 : Int32))) (a2 - (3 : Int32)) = (-1 : Int32)) with c6 | c6
            · rw [if_pos c6]
              refine Go.of_run (Ev.mono _) 2 _ ?_
              refine ⟨trivial, ?_⟩
              show Q (some (.int (-1 : Int32))) (SH, mkM (si (si I 113 0 (1536 : Int32)) 114 0 (0 : Int32)) J T)
              exact ((((((hyp.2 c1).2 c2).2 c3).2.2 c4).2 c5).2.2.1 c6)
            · rw [if_neg c6]
              refine Go.of_run (Ev.mono _) 4 _ ?_
              refine ⟨Nat.le_of_ble_eq_true rfl, ev_X12_logs ⟨((((((hyp.2 c1).2 c2).2 c3).2.2 c4).2 c5).2.2.2 c6).1, ⟨((((((hyp.2 c1).2 c2).2 c3).2.2 c4).2 c5).2.2.2 c6).2.1, ⟨((((((hyp.2 c1).2 c2).2 c3).2.2 c4).2 c5).2.2.2 c6).2.2.1, ⟨((((((hyp.2 c1).2 c2).2 c3).2.2 c4).2 c5).2.2.2 c6).2.2.2.1, ⟨((((((hyp.2 c1).2 c2).2 c3).2.2 c4).2 c5).2.2.2 c6).2.2.2.2.1, ⟨((((((hyp.2 c1).2 c2).2 c3).2.2 c4).2 c5).2.2.2 c6).2.2.2.2.2.1, ((((((hyp.2 c1).2 c2).2 c3).2.2 c4).2 c5).2.2.2 c6).2.2.2.2.2.2.1⟩⟩⟩⟩⟩⟩ ?_⟩
              show Go none aM (Ev mt aM (d + 7)) mX12_happens Q (90, [some (.ref 83), some (.int a1), some (.int a2)], [], (SH, mkM (i_X12_logs a1 a2 (si (si I 113 0 (1536 : Int32)) 114 0 (0 : Int32))) J T), 0, 0)
              refine Go.of_run (Ev.mono _) 3 _ ?_
              refine ⟨trivial, ?_⟩
              show Q (some (.int ((i_X12_logs a1 a2 (si (si I 113 0 (1536 : Int32)) 114 0 (0 : Int32))) 83 48))) (SH, mkM (i_X12_logs a1 a2 (si (si I 113 0 (1536 : Int32)) 114 0 (0 : Int32))) J T)
              exact ((((((hyp.2 c1).2 c2).2 c3).2.2 c4).2 c5).2.2.2 c6).2.2.2.2.2.2.2
set_option maxRecDepth 20000 in
theorem cmatch_67 {d : Nat} {a1 a2 a3 : Int32} {I : Nat → Nat → Int32} {J : Nat → Nat → Int64} {T : Nat → Nat → Nat} {Q : Option Value → Mem → Prop} (hyp : Q (some (.int (1 : Int32))) (SH, mkM I J T)) : Go none aM (Ev mt aM (d + 7)) mX11_match Q (67, [some (.ref 0), some (.int a1), some (.int a2), some (.int a3)], [], (SH, mkM I J T), 0, 0) := by
  refine Go.of_run (Ev.mono _) 2 _ ?_
  refine ⟨(by decide), ?_⟩
  show Q (some (.int (1 : Int32))) (SH, mkM I J T)
  exact hyp
set_option maxRecDepth 20000 in
theorem cplayer_73 {d : Nat} {a1 a2 a3 a4 a5 : Int32} {I : Nat → Nat → Int32} {J : Nat → Nat → Int64} {T : Nat → Nat → Nat} {Q : Option Value → Mem → Prop} (hyp : Q (some (.int (1 : Int32))) (SH, mkM (si I 81 2 (1 : Int32)) J T)) : Go none aM (Ev mt aM (d + 7)) mX11_player Q (73, [some (.ref 0), some (.int a1), some (.int a2), some (.int a3), some (.int a4), some (.int a5)], [], (SH, mkM I J T), 0, 0) := by
  refine Go.of_run (Ev.mono _) 3 _ ?_
  refine ⟨Nat.le_of_ble_eq_true rfl, ev_X6_forget ?_⟩
  show Go none aM (Ev mt aM (d + 7)) mX11_player Q (80, [some (.ref 0), some (.int a1), some (.int a2), some (.int a3), some (.int a4), some (.int a5)], [], (SH, mkM (si I 81 2 (1 : Int32)) J T), 0, 0)
  refine Go.of_run (Ev.mono _) 2 _ ?_
  refine ⟨(by decide), ?_⟩
  show Q (some (.int (1 : Int32))) (SH, mkM (si I 81 2 (1 : Int32)) J T)
  exact hyp
set_option maxRecDepth 20000 in
theorem cpair_42 {d : Nat} {a1 a2 a3 : Int32} {I : Nat → Nat → Int32} {J : Nat → Nat → Int64} {T : Nat → Nat → Nat} {Q : Option Value → Mem → Prop} (hyp : Q (some (.int (1 : Int32))) (SH, mkM (si I 81 2 (1 : Int32)) J T)) : Go none aM (Ev mt aM (d + 7)) mX11_pair Q (42, [some (.ref 0), some (.int a1), some (.int a2), some (.int a3)], [], (SH, mkM I J T), 0, 0) := by
  refine Go.of_run (Ev.mono _) 3 _ ?_
  refine ⟨Nat.le_of_ble_eq_true rfl, ev_X6_forget ?_⟩
  show Go none aM (Ev mt aM (d + 7)) mX11_pair Q (49, [some (.ref 0), some (.int a1), some (.int a2), some (.int a3)], [], (SH, mkM (si I 81 2 (1 : Int32)) J T), 0, 0)
  refine Go.of_run (Ev.mono _) 2 _ ?_
  refine ⟨(by decide), ?_⟩
  show Q (some (.int (1 : Int32))) (SH, mkM (si I 81 2 (1 : Int32)) J T)
  exact hyp
set_option maxRecDepth 20000 in
theorem cworth_63 {d : Nat} {a1 a2 a3 : Int32} {I : Nat → Nat → Int32} {J : Nat → Nat → Int64} {T : Nat → Nat → Nat} {Q : Option Value → Mem → Prop} (hyp : Q (some (.int (1 : Int32))) (SH, mkM I J T)) : Go none aM (Ev mt aM (d + 7)) mX11_worth Q (63, [some (.ref 0), some (.int a1), some (.int a2), some (.int a3)], [], (SH, mkM I J T), 0, 0) := by
  refine Go.of_run (Ev.mono _) 2 _ ?_
  refine ⟨(by decide), ?_⟩
  show Q (some (.int (1 : Int32))) (SH, mkM I J T)
  exact hyp
set_option maxRecDepth 20000 in
theorem cchance_44 {d : Nat} {a1 a2 a3 a4 a5 a6 v : Int32} {I : Nat → Nat → Int32} {J : Nat → Nat → Int64} {T : Nat → Nat → Nat} {Q : Option Value → Mem → Prop} (hyp : ((0 < (a4 - a4 / (7 : Int32) * (7 : Int32)) → vp_in (v_X7_playerOf (a4 - a4 / (7 : Int32) * (7 : Int32))) 5) ∧ ((0 < (a4 / (7 : Int32)) → vp_in (v_X7_playerOf (a4 / (7 : Int32))) 5) ∧ Ev mt aM (d + 7) 29 [.ref 9, .int a1, .int a2, .int (v_X7_codeAfter a3 a4 I), .int (v_X7_changesOf a4), .int v, .int (I 1 1), .int (0 : Int32)] (SH, mkM I J T) (fun r m1 => Go none aM (Ev mt aM (d + 7)) mX11_chance Q (84, [some (.ref 0), some (.int a1), some (.int a2), some (.int a3), some (.int a4), some (.int a5), some (.int a6), some (.int v), some (.int (v_X7_codeAfter a3 a4 I)), none], r.toList ++ [], m1, 0, 0))))) : Go none aM (Ev mt aM (d + 7)) mX11_chance Q (44, [some (.ref 0), some (.int a1), some (.int a2), some (.int a3), some (.int a4), some (.int a5), some (.int a6), none, none, none], [.int v], (SH, mkM I J T), 0, 0) := by
  refine Go.of_run (Ev.mono _) 6 _ ?_
  refine ⟨Nat.le_of_ble_eq_true rfl, ev_X7_codeAfter ⟨hyp.1, hyp.2.1⟩ ?_⟩
  show Go none aM (Ev mt aM (d + 7)) mX11_chance Q (56, [some (.ref 0), some (.int a1), some (.int a2), some (.int a3), some (.int a4), some (.int a5), some (.int a6), some (.int v), none, none], [.int (v_X7_codeAfter a3 a4 I)], (SH, mkM I J T), 0, 0)
  refine Go.of_run (Ev.mono _) 8 _ ?_
  refine ⟨Nat.le_of_ble_eq_true rfl, ev_X7_changesOf ?_⟩
  show Go none aM (Ev mt aM (d + 7)) mX11_chance Q (71, [some (.ref 0), some (.int a1), some (.int a2), some (.int a3), some (.int a4), some (.int a5), some (.int a6), some (.int v), some (.int (v_X7_codeAfter a3 a4 I)), none], [.int (v_X7_changesOf a4), .int (v_X7_codeAfter a3 a4 I), .int a2, .int a1, .ref 9], (SH, mkM I J T), 0, 0)
  refine Go.of_run (Ev.mono _) 6 _ ?_
  refine ⟨Nat.le_of_ble_eq_true rfl, hyp.2.2⟩
set_option maxRecDepth 20000 in
theorem cchance_84 {d : Nat} {a1 a2 a3 a4 a5 a6 v st tn : Int32} {I : Nat → Nat → Int32} {J : Nat → Nat → Int64} {T : Nat → Nat → Nat} {Q : Option Value → Mem → Prop} (hyp : ((a6 = (4 : Int32) → Q (some (.int (v_X2_shareOf v (0 : Int32)))) (SH, mkM I J T)) ∧ ((¬ (a6 = (4 : Int32))) → Q (some (.int (v_X2_shareOf v (a6 + (1 : Int32))))) (SH, mkM I J T)))) : Go none aM (Ev mt aM (d + 7)) mX11_chance Q (84, [some (.ref 0), some (.int a1), some (.int a2), some (.int a3), some (.int a4), some (.int a5), some (.int a6), some (.int st), some (.int tn), none], [.int v], (SH, mkM I J T), 0, 0) := by
  refine Go.of_run (Ev.mono _) 5 _ ?_
  show Go none aM (Ev mt aM (d + 7)) mX11_chance Q (if a6 = (4 : Int32) then 94 else 98, [some (.ref 0), some (.int a1), some (.int a2), some (.int a3), some (.int a4), some (.int a5), some (.int a6), some (.int st), some (.int tn), some (.int v)], [.int v], (SH, mkM I J T), 0, 0)
  rcases Decidable.em (a6 = (4 : Int32)) with c1 | c1
  · rw [if_pos c1]
    refine Go.of_run (Ev.mono _) 3 _ ?_
    refine ⟨Nat.le_of_ble_eq_true rfl, ev_X2_shareOf ?_⟩
    show Go none aM (Ev mt aM (d + 7)) mX11_chance Q (105, [some (.ref 0), some (.int a1), some (.int a2), some (.int a3), some (.int a4), some (.int a5), some (.int a6), some (.int st), some (.int tn), some (.int v)], [.int (v_X2_shareOf v (0 : Int32))], (SH, mkM I J T), 0, 0)
    refine Go.of_run (Ev.mono _) 1 _ ?_
    refine ⟨trivial, ?_⟩
    show Q (some (.int (v_X2_shareOf v (0 : Int32)))) (SH, mkM I J T)
    exact (hyp.1 c1)
  · rw [if_neg c1]
    refine Go.of_run (Ev.mono _) 4 _ ?_
    refine ⟨Nat.le_of_ble_eq_true rfl, ev_X2_shareOf ?_⟩
    show Go none aM (Ev mt aM (d + 7)) mX11_chance Q (105, [some (.ref 0), some (.int a1), some (.int a2), some (.int a3), some (.int a4), some (.int a5), some (.int a6), some (.int st), some (.int tn), some (.int v)], [.int (v_X2_shareOf v (a6 + (1 : Int32)))], (SH, mkM I J T), 0, 0)
    refine Go.of_run (Ev.mono _) 1 _ ?_
    refine ⟨trivial, ?_⟩
    show Q (some (.int (v_X2_shareOf v (a6 + (1 : Int32))))) (SH, mkM I J T)
    exact (hyp.2 c1)
set_option maxRecDepth 20000 in
theorem csays_61 {d : Nat} {a1 a2 a3 a4 a5 v : Int32} {I : Nat → Nat → Int32} {J : Nat → Nat → Int64} {T : Nat → Nat → Nat} {Q : Option Value → Mem → Prop} (hyp : Ev mt aM (d + 7) 28 [.ref 9, .int a1, .int a2, .int a3, .int a4, .int v] (SH, mkM I J T) (fun r m1 => Go none aM (Ev mt aM (d + 7)) mX11_says Q (64, [some (.ref 0), some (.int a1), some (.int a2), some (.int a3), some (.int a4), some (.int a5)], r.toList ++ [], m1, 0, 0))) : Go none aM (Ev mt aM (d + 7)) mX11_says Q (61, [some (.ref 0), some (.int a1), some (.int a2), some (.int a3), some (.int a4), some (.int a5)], [.int v, .int a4, .int a3, .int a2, .int a1, .ref 9], (SH, mkM I J T), 0, 0) := by
  refine Go.of_run (Ev.mono _) 1 _ ?_
  refine ⟨Nat.le_of_ble_eq_true rfl, hyp⟩
set_option maxRecDepth 20000 in
theorem csays_64 {d : Nat} {a1 a2 a3 a4 a5 v : Int32} {I : Nat → Nat → Int32} {J : Nat → Nat → Int64} {T : Nat → Nat → Nat} {Q : Option Value → Mem → Prop} (hyp : Q (some (.int v)) (SH, mkM I J T)) : Go none aM (Ev mt aM (d + 7)) mX11_says Q (64, [some (.ref 0), some (.int a1), some (.int a2), some (.int a3), some (.int a4), some (.int a5)], [.int v], (SH, mkM I J T), 0, 0) := by
  refine Go.of_run (Ev.mono _) 1 _ ?_
  refine ⟨trivial, ?_⟩
  show Q (some (.int v)) (SH, mkM I J T)
  exact hyp
set_option maxRecDepth 20000 in
theorem mchance_91 {d : Nat} {a1 a2 a3 a4 a5 a6 tn : Int32} {I : Nat → Nat → Int32} {J : Nat → Nat → Int64} {T : Nat → Nat → Nat} {Q : Option Value → Mem → Prop} (hyp : (vp_in a6 5 ∧ Q (some (.int (I 105 a6.toNatClampNeg))) (SH, mkM I J T))) : Go none aM (Ev mt aM (d + 8)) mX12_chance Q (91, [some (.ref 83), some (.int a1), some (.int a2), some (.int a3), some (.int a4), some (.int a5), some (.int a6), some (.int tn)], [], (SH, mkM I J T), 0, 0) := by
  refine Go.of_run (Ev.mono _) 4 _ ?_
  refine ⟨hyp.1, ?_⟩
  show Go none aM (Ev mt aM (d + 8)) mX12_chance Q (98, [some (.ref 83), some (.int a1), some (.int a2), some (.int a3), some (.int a4), some (.int a5), some (.int a6), some (.int tn)], [.int (I 105 a6.toNatClampNeg)], (SH, mkM I J T), 0, 0)
  refine Go.of_run (Ev.mono _) 1 _ ?_
  refine ⟨trivial, ?_⟩
  show Q (some (.int (I 105 a6.toNatClampNeg))) (SH, mkM I J T)
  exact hyp.2
set_option maxRecDepth 20000 in
theorem msays_48 {d : Nat} {a1 a2 a3 a4 a5 v : Int32} {I : Nat → Nat → Int32} {J : Nat → Nat → Int64} {T : Nat → Nat → Nat} {Q : Option Value → Mem → Prop} (hyp : Q (some (.int v)) (SH, mkM I J T)) : Go none aM (Ev mt aM (d + 8)) mX12_says Q (48, [some (.ref 83), some (.int a1), some (.int a2), some (.int a3), some (.int a4), some (.int a5)], [.int v], (SH, mkM I J T), 0, 0) := by
  refine Go.of_run (Ev.mono _) 1 _ ?_
  refine ⟨trivial, ?_⟩
  show Q (some (.int v)) (SH, mkM I J T)
  exact hyp
