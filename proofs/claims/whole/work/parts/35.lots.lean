/-! HUNDREDTHS, by the class and by the reference. -/
set_option maxRecDepth 20000 in
theorem str_0 {d : Nat} {oth per sc : Int32} {I : Nat → Nat → Int32} {J : Nat → Nat → Int64} {T : Nat → Nat → Nat} {Q : Option Value → Mem → Prop} (hyp : (vp_in ((1 : Int32) + oth) 8 ∧ Ev mt aM (d + 4) 50 [.ref 10, .ref (T 13 ((1 : Int32) + oth).toNatClampNeg), .int (111 : Int32)] (SH, mkM (i_X2_setMoment per sc I) J T) (fun r m1 => Go none aM (Ev mt aM (d + 4)) mX2_strongOf Q (22, [some (.ref 9), some (.int oth), some (.int per), some (.int sc)], r.toList ++ [], m1, 0, 0)))) : Go none aM (Ev mt aM (d + 4)) mX2_strongOf Q (0, [some (.ref 9), some (.int oth), some (.int per), some (.int sc)], [], (SH, mkM I J T), 0, 0) := by
  refine Go.of_run (Ev.mono _) 4 _ ?_
  refine ⟨Nat.le_of_ble_eq_true rfl, ev_X2_setMoment ?_⟩
  show Go none aM (Ev mt aM (d + 4)) mX2_strongOf Q (6, [some (.ref 9), some (.int oth), some (.int per), some (.int sc)], [], (SH, mkM (i_X2_setMoment per sc I) J T), 0, 0)
  refine Go.of_run (Ev.mono _) 7 _ ?_
  refine ⟨Nat.le_of_ble_eq_true rfl, ev_X2_textAt hyp.1 ?_⟩
  show Go none aM (Ev mt aM (d + 4)) mX2_strongOf Q (17, [some (.ref 9), some (.int oth), some (.int per), some (.int sc)], [.ref (T 13 ((1 : Int32) + oth).toNatClampNeg), .ref 10], (SH, mkM (i_X2_setMoment per sc I) J T), 0, 0)
  refine Go.of_run (Ev.mono _) 2 _ ?_
  refine ⟨Nat.le_of_ble_eq_true rfl, hyp.2⟩
set_option maxRecDepth 20000 in
theorem str_22 {d : Nat} {oth per sc v : Int32} {I : Nat → Nat → Int32} {J : Nat → Nat → Int64} {T : Nat → Nat → Nat} {Q : Option Value → Mem → Prop} (hyp : Q (some (.int (v_X2_within v (99 : Int32)))) (SH, mkM I J T)) : Go none aM (Ev mt aM (d + 4)) mX2_strongOf Q (22, [some (.ref 9), some (.int oth), some (.int per), some (.int sc)], [.int v], (SH, mkM I J T), 0, 0) := by
  refine Go.of_run (Ev.mono _) 2 _ ?_
  refine ⟨Nat.le_of_ble_eq_true rfl, ev_X2_within ?_⟩
  show Go none aM (Ev mt aM (d + 4)) mX2_strongOf Q (27, [some (.ref 9), some (.int oth), some (.int per), some (.int sc)], [.int (v_X2_within v (99 : Int32))], (SH, mkM I J T), 0, 0)
  refine Go.of_run (Ev.mono _) 1 _ ?_
  refine ⟨trivial, ?_⟩
  show Q (some (.int (v_X2_within v (99 : Int32)))) (SH, mkM I J T)
  exact hyp
set_option maxRecDepth 20000 in
theorem rul_0 {d : Nat} {k per sc c st : Int32} {I : Nat → Nat → Int32} {J : Nat → Nat → Int64} {T : Nat → Nat → Nat} {Q : Option Value → Mem → Prop} (hyp : (((¬ (v_X7_whoIsAt c (0 : Int32) < 0)) → (vp_in (((2 : Int32) * (v_X7_whoIsAt c (0 : Int32))) + (0 : Int32)) 10 ∧ ((¬ ((2 : Int32) ≤ (v_X7_whoIsAt c (0 : Int32)))) → (vp_in (v_X7_whoIsAt c (0 : Int32)) 5 ∧ vp_in (v_X7_whoIsAt c (0 : Int32)) 5)))) ∧ (((¬ (v_X7_whoIsAt c (1 : Int32) < 0)) → (vp_in (((2 : Int32) * (v_X7_whoIsAt c (1 : Int32))) + (1 : Int32)) 10 ∧ ((¬ ((2 : Int32) ≤ (v_X7_whoIsAt c (1 : Int32)))) → (vp_in (v_X7_whoIsAt c (1 : Int32)) 5 ∧ vp_in (v_X7_whoIsAt c (1 : Int32)) 5)))) ∧ (((¬ (v_X7_whoIsAt c (0 : Int32) < 0)) → (0 ≤ v_X7_whoIsAt c (1 : Int32) → vp_in (((5 : Int32) * (v_X7_whoIsAt c (0 : Int32))) + (v_X7_whoIsAt c (1 : Int32))) 25)) ∧ (vp_in ((4 : Int32) + k) 8 ∧ Ev mt aM (d + 4) 50 [.ref 10, .ref (T 13 ((4 : Int32) + k).toNatClampNeg), .int (99 : Int32)] (SH, mkM (si (si (si (si (w2_X2_setPlaces per c (0 : Int32) (i_X2_setMoment per sc I)) 11 ((7 : Int32).toNatClampNeg) ((w3_X2_setPlaces c) + (w4_X2_setPlaces c))) 11 ((10 : Int32).toNatClampNeg) (w6_X2_setPlaces per c (0 : Int32) (i_X2_setMoment per sc I))) 11 ((9 : Int32).toNatClampNeg) (((w2_X2_setPlaces per c (0 : Int32) (i_X2_setMoment per sc I)) 1 1) - (v_X7_changesMade c))) 11 ((11 : Int32).toNatClampNeg) st) J T) (fun r m1 => Go none aM (Ev mt aM (d + 4)) mX2_ruleAction Q (63, [some (.ref 9), some (.int k), some (.int per), some (.int sc), some (.int c), some (.int st), none], r.toList ++ [], m1, 0, 0))))))) : Go none aM (Ev mt aM (d + 4)) mX2_ruleAction Q (0, [some (.ref 9), some (.int k), some (.int per), some (.int sc), some (.int c), some (.int st), none], [], (SH, mkM I J T), 0, 0) := by
  refine Go.of_run (Ev.mono _) 4 _ ?_
  refine ⟨Nat.le_of_ble_eq_true rfl, ev_X2_setMoment ?_⟩
  show Go none aM (Ev mt aM (d + 4)) mX2_ruleAction Q (6, [some (.ref 9), some (.int k), some (.int per), some (.int sc), some (.int c), some (.int st), none], [], (SH, mkM (i_X2_setMoment per sc I) J T), 0, 0)
  refine Go.of_run (Ev.mono _) 5 _ ?_
  refine ⟨Nat.le_of_ble_eq_true rfl, ev_X2_setPlaces ⟨hyp.1, ⟨hyp.2.1, hyp.2.2.1⟩⟩ ?_⟩
  show Go none aM (Ev mt aM (d + 4)) mX2_ruleAction Q (14, [some (.ref 9), some (.int k), some (.int per), some (.int sc), some (.int c), some (.int st), none], [], (SH, mkM (si (si (w2_X2_setPlaces per c (0 : Int32) (i_X2_setMoment per sc I)) 11 ((7 : Int32).toNatClampNeg) ((w3_X2_setPlaces c) + (w4_X2_setPlaces c))) 11 ((10 : Int32).toNatClampNeg) (w6_X2_setPlaces per c (0 : Int32) (i_X2_setMoment per sc I))) J T), 0, 0)
  refine Go.of_run (Ev.mono _) 8 _ ?_
  refine ⟨Nat.le_of_ble_eq_true rfl, ev_X7_changesMade ?_⟩
  show Go none aM (Ev mt aM (d + 4)) mX2_ruleAction Q (32, [some (.ref 9), some (.int k), some (.int per), some (.int sc), some (.int c), some (.int st), none], [.int (v_X7_changesMade c), .int ((w2_X2_setPlaces per c (0 : Int32) (i_X2_setMoment per sc I)) 1 1), .int (9 : Int32), .ref 10], (SH, mkM (si (si (w2_X2_setPlaces per c (0 : Int32) (i_X2_setMoment per sc I)) 11 ((7 : Int32).toNatClampNeg) ((w3_X2_setPlaces c) + (w4_X2_setPlaces c))) 11 ((10 : Int32).toNatClampNeg) (w6_X2_setPlaces per c (0 : Int32) (i_X2_setMoment per sc I))) J T), 0, 0)
  refine Go.of_run (Ev.mono _) 2 _ ?_
  refine ⟨Nat.le_of_ble_eq_true rfl, ev_X4_set (by unfold vp_in; decide : vp_in (9 : Int32) 16) ?_⟩
  show Go none aM (Ev mt aM (d + 4)) mX2_ruleAction Q (36, [some (.ref 9), some (.int k), some (.int per), some (.int sc), some (.int c), some (.int st), none], [], (SH, mkM (si (si (si (w2_X2_setPlaces per c (0 : Int32) (i_X2_setMoment per sc I)) 11 ((7 : Int32).toNatClampNeg) ((w3_X2_setPlaces c) + (w4_X2_setPlaces c))) 11 ((10 : Int32).toNatClampNeg) (w6_X2_setPlaces per c (0 : Int32) (i_X2_setMoment per sc I))) 11 ((9 : Int32).toNatClampNeg) (((w2_X2_setPlaces per c (0 : Int32) (i_X2_setMoment per sc I)) 1 1) - (v_X7_changesMade c))) J T), 0, 0)
  refine Go.of_run (Ev.mono _) 5 _ ?_
  refine ⟨Nat.le_of_ble_eq_true rfl, ev_X4_set (by unfold vp_in; decide : vp_in (11 : Int32) 16) ?_⟩
  show Go none aM (Ev mt aM (d + 4)) mX2_ruleAction Q (47, [some (.ref 9), some (.int k), some (.int per), some (.int sc), some (.int c), some (.int st), none], [], (SH, mkM (si (si (si (si (w2_X2_setPlaces per c (0 : Int32) (i_X2_setMoment per sc I)) 11 ((7 : Int32).toNatClampNeg) ((w3_X2_setPlaces c) + (w4_X2_setPlaces c))) 11 ((10 : Int32).toNatClampNeg) (w6_X2_setPlaces per c (0 : Int32) (i_X2_setMoment per sc I))) 11 ((9 : Int32).toNatClampNeg) (((w2_X2_setPlaces per c (0 : Int32) (i_X2_setMoment per sc I)) 1 1) - (v_X7_changesMade c))) 11 ((11 : Int32).toNatClampNeg) st) J T), 0, 0)
  refine Go.of_run (Ev.mono _) 7 _ ?_
  refine ⟨Nat.le_of_ble_eq_true rfl, ev_X2_textAt hyp.2.2.2.1 ?_⟩
  show Go none aM (Ev mt aM (d + 4)) mX2_ruleAction Q (58, [some (.ref 9), some (.int k), some (.int per), some (.int sc), some (.int c), some (.int st), none], [.ref (T 13 ((4 : Int32) + k).toNatClampNeg), .ref 10], (SH, mkM (si (si (si (si (w2_X2_setPlaces per c (0 : Int32) (i_X2_setMoment per sc I)) 11 ((7 : Int32).toNatClampNeg) ((w3_X2_setPlaces c) + (w4_X2_setPlaces c))) 11 ((10 : Int32).toNatClampNeg) (w6_X2_setPlaces per c (0 : Int32) (i_X2_setMoment per sc I))) 11 ((9 : Int32).toNatClampNeg) (((w2_X2_setPlaces per c (0 : Int32) (i_X2_setMoment per sc I)) 1 1) - (v_X7_changesMade c))) 11 ((11 : Int32).toNatClampNeg) st) J T), 0, 0)
  refine Go.of_run (Ev.mono _) 2 _ ?_
  refine ⟨Nat.le_of_ble_eq_true rfl, hyp.2.2.2.2⟩
def w1_rul_63 (c : Int32) (v : Int32) (I : Nat → Nat → Int32) : Int32 := if v_X7_mayBe c v (I 1 1) (I 1 2) = 0 then (0 : Int32) else v
set_option maxRecDepth 20000 in
theorem rul_63 {d : Nat} {k per sc c st v : Int32} {I : Nat → Nat → Int32} {J : Nat → Nat → Int64} {T : Nat → Nat → Nat} {Q : Option Value → Mem → Prop} (hyp : Q (some (.int (w1_rul_63 c v I))) (SH, mkM I J T)) : Go none aM (Ev mt aM (d + 4)) mX2_ruleAction Q (63, [some (.ref 9), some (.int k), some (.int per), some (.int sc), some (.int c), some (.int st), none], [.int v], (SH, mkM I J T), 0, 0) := by
  refine Go.of_run (Ev.mono _) 10 _ ?_
  refine ⟨Nat.le_of_ble_eq_true rfl, ev_X7_mayBe ?_⟩
  show Go none aM (Ev mt aM (d + 4)) mX2_ruleAction Q (86, [some (.ref 9), some (.int k), some (.int per), some (.int sc), some (.int c), some (.int st), some (.int v)], [.int (v_X7_mayBe c v (I 1 1) (I 1 2))], (SH, mkM I J T), 0, 0)
  refine Go.of_run (Ev.mono _) 1 _ ?_
  show Go none aM (Ev mt aM (d + 4)) mX2_ruleAction Q (if v_X7_mayBe c v (I 1 1) (I 1 2) = 0 then 94 else 89, [some (.ref 9), some (.int k), some (.int per), some (.int sc), some (.int c), some (.int st), some (.int v)], [], (SH, mkM I J T), 0, 0)
  have G2 : Go none aM (Ev mt aM (d + 4)) mX2_ruleAction Q (95, [none, none, none, none, none, none, none], [.int (w1_rul_63 c v I)], (SH, mkM I J T), 0, 0) := by
    refine Go.of_run (Ev.mono _) 1 _ ?_
    refine ⟨trivial, ?_⟩
    show Q (some (.int (w1_rul_63 c v I))) (SH, mkM I J T)
    exact hyp
  rcases Decidable.em (v_X7_mayBe c v (I 1 1) (I 1 2) = 0) with c1 | c1
  · rw [if_pos c1]
    refine Go.of_run (Ev.mono _) 1 _ ?_
    have e3 : (w1_rul_63 c v I) = (0 : Int32) := if_pos c1
    rw [e3] at G2
    exact Go.weak (Ev.mono _) (LLe.drop (LLe.drop (LLe.drop (LLe.drop (LLe.drop (LLe.drop (LLe.drop LLe.nil))))))) G2
  · rw [if_neg c1]
    refine Go.of_run (Ev.mono _) 2 _ ?_
    have e4 : (w1_rul_63 c v I) = v := if_neg c1
    rw [e4] at G2
    exact Go.weak (Ev.mono _) (LLe.drop (LLe.drop (LLe.drop (LLe.drop (LLe.drop (LLe.drop (LLe.drop LLe.nil))))))) G2
set_option maxRecDepth 20000 in
theorem sha_0 {d : Nat} {per sc c x st mo pa : Int32} {I : Nat → Nat → Int32} {J : Nat → Nat → Int64} {T : Nat → Nat → Nat} {Q : Option Value → Mem → Prop} (hyp : (((¬ (v_X7_whoIsAt c (0 : Int32) < 0)) → (vp_in (((2 : Int32) * (v_X7_whoIsAt c (0 : Int32))) + (0 : Int32)) 10 ∧ ((¬ ((2 : Int32) ≤ (v_X7_whoIsAt c (0 : Int32)))) → (vp_in (v_X7_whoIsAt c (0 : Int32)) 5 ∧ vp_in (v_X7_whoIsAt c (0 : Int32)) 5)))) ∧ (((¬ (v_X7_whoIsAt c (1 : Int32) < 0)) → (vp_in (((2 : Int32) * (v_X7_whoIsAt c (1 : Int32))) + (1 : Int32)) 10 ∧ ((¬ ((2 : Int32) ≤ (v_X7_whoIsAt c (1 : Int32)))) → (vp_in (v_X7_whoIsAt c (1 : Int32)) 5 ∧ vp_in (v_X7_whoIsAt c (1 : Int32)) 5)))) ∧ (((¬ (v_X7_whoIsAt c (0 : Int32) < 0)) → (0 ≤ v_X7_whoIsAt c (1 : Int32) → vp_in (((5 : Int32) * (v_X7_whoIsAt c (0 : Int32))) + (v_X7_whoIsAt c (1 : Int32))) 25)) ∧ Ev mt aM (d + 4) 50 [.ref 10, .ref (T 13 (0 : Int32).toNatClampNeg), .int (103 : Int32)] (SH, mkM (si (si (si (si (si (si (w2_X2_setPlaces per c pa (i_X2_setMoment per sc I)) 11 ((7 : Int32).toNatClampNeg) ((w3_X2_setPlaces c) + (w4_X2_setPlaces c))) 11 ((10 : Int32).toNatClampNeg) (w6_X2_setPlaces per c pa (i_X2_setMoment per sc I))) 11 ((8 : Int32).toNatClampNeg) x) 11 ((9 : Int32).toNatClampNeg) (mo - (v_X7_changesMade c))) 11 ((11 : Int32).toNatClampNeg) st) 11 ((12 : Int32).toNatClampNeg) pa) J T) (fun r m1 => Go none aM (Ev mt aM (d + 4)) mX2_shares Q (81, [some (.ref 9), some (.int per), some (.int sc), some (.int c), some (.int x), some (.int st), some (.int mo), some (.int pa), some (.ref (T 13 (0 : Int32).toNatClampNeg)), none, none, none, none, none, none, none], r.toList ++ [], m1, 0, 0)))))) : Go none aM (Ev mt aM (d + 4)) mX2_shares Q (0, [some (.ref 9), some (.int per), some (.int sc), some (.int c), some (.int x), some (.int st), some (.int mo), some (.int pa), none, none, none, none, none, none, none, none], [], (SH, mkM I J T), 0, 0) := by
  refine Go.of_run (Ev.mono _) 4 _ ?_
  refine ⟨Nat.le_of_ble_eq_true rfl, ev_X2_setMoment ?_⟩
  show Go none aM (Ev mt aM (d + 4)) mX2_shares Q (6, [some (.ref 9), some (.int per), some (.int sc), some (.int c), some (.int x), some (.int st), some (.int mo), some (.int pa), none, none, none, none, none, none, none, none], [], (SH, mkM (i_X2_setMoment per sc I) J T), 0, 0)
  refine Go.of_run (Ev.mono _) 5 _ ?_
  refine ⟨Nat.le_of_ble_eq_true rfl, ev_X2_setPlaces ⟨hyp.1, ⟨hyp.2.1, hyp.2.2.1⟩⟩ ?_⟩
  show Go none aM (Ev mt aM (d + 4)) mX2_shares Q (14, [some (.ref 9), some (.int per), some (.int sc), some (.int c), some (.int x), some (.int st), some (.int mo), some (.int pa), none, none, none, none, none, none, none, none], [], (SH, mkM (si (si (w2_X2_setPlaces per c pa (i_X2_setMoment per sc I)) 11 ((7 : Int32).toNatClampNeg) ((w3_X2_setPlaces c) + (w4_X2_setPlaces c))) 11 ((10 : Int32).toNatClampNeg) (w6_X2_setPlaces per c pa (i_X2_setMoment per sc I))) J T), 0, 0)
  refine Go.of_run (Ev.mono _) 5 _ ?_
  refine ⟨Nat.le_of_ble_eq_true rfl, ev_X4_set (by unfold vp_in; decide : vp_in (8 : Int32) 16) ?_⟩
  show Go none aM (Ev mt aM (d + 4)) mX2_shares Q (25, [some (.ref 9), some (.int per), some (.int sc), some (.int c), some (.int x), some (.int st), some (.int mo), some (.int pa), none, none, none, none, none, none, none, none], [], (SH, mkM (si (si (si (w2_X2_setPlaces per c pa (i_X2_setMoment per sc I)) 11 ((7 : Int32).toNatClampNeg) ((w3_X2_setPlaces c) + (w4_X2_setPlaces c))) 11 ((10 : Int32).toNatClampNeg) (w6_X2_setPlaces per c pa (i_X2_setMoment per sc I))) 11 ((8 : Int32).toNatClampNeg) x) J T), 0, 0)
  refine Go.of_run (Ev.mono _) 6 _ ?_
  refine ⟨Nat.le_of_ble_eq_true rfl, ev_X7_changesMade ?_⟩
  show Go none aM (Ev mt aM (d + 4)) mX2_shares Q (37, [some (.ref 9), some (.int per), some (.int sc), some (.int c), some (.int x), some (.int st), some (.int mo), some (.int pa), none, none, none, none, none, none, none, none], [.int (v_X7_changesMade c), .int mo, .int (9 : Int32), .ref 10], (SH, mkM (si (si (si (w2_X2_setPlaces per c pa (i_X2_setMoment per sc I)) 11 ((7 : Int32).toNatClampNeg) ((w3_X2_setPlaces c) + (w4_X2_setPlaces c))) 11 ((10 : Int32).toNatClampNeg) (w6_X2_setPlaces per c pa (i_X2_setMoment per sc I))) 11 ((8 : Int32).toNatClampNeg) x) J T), 0, 0)
  refine Go.of_run (Ev.mono _) 2 _ ?_
  refine ⟨Nat.le_of_ble_eq_true rfl, ev_X4_set (by unfold vp_in; decide : vp_in (9 : Int32) 16) ?_⟩
  show Go none aM (Ev mt aM (d + 4)) mX2_shares Q (41, [some (.ref 9), some (.int per), some (.int sc), some (.int c), some (.int x), some (.int st), some (.int mo), some (.int pa), none, none, none, none, none, none, none, none], [], (SH, mkM (si (si (si (si (w2_X2_setPlaces per c pa (i_X2_setMoment per sc I)) 11 ((7 : Int32).toNatClampNeg) ((w3_X2_setPlaces c) + (w4_X2_setPlaces c))) 11 ((10 : Int32).toNatClampNeg) (w6_X2_setPlaces per c pa (i_X2_setMoment per sc I))) 11 ((8 : Int32).toNatClampNeg) x) 11 ((9 : Int32).toNatClampNeg) (mo - (v_X7_changesMade c))) J T), 0, 0)
  refine Go.of_run (Ev.mono _) 5 _ ?_
  refine ⟨Nat.le_of_ble_eq_true rfl, ev_X4_set (by unfold vp_in; decide : vp_in (11 : Int32) 16) ?_⟩
  show Go none aM (Ev mt aM (d + 4)) mX2_shares Q (52, [some (.ref 9), some (.int per), some (.int sc), some (.int c), some (.int x), some (.int st), some (.int mo), some (.int pa), none, none, none, none, none, none, none, none], [], (SH, mkM (si (si (si (si (si (w2_X2_setPlaces per c pa (i_X2_setMoment per sc I)) 11 ((7 : Int32).toNatClampNeg) ((w3_X2_setPlaces c) + (w4_X2_setPlaces c))) 11 ((10 : Int32).toNatClampNeg) (w6_X2_setPlaces per c pa (i_X2_setMoment per sc I))) 11 ((8 : Int32).toNatClampNeg) x) 11 ((9 : Int32).toNatClampNeg) (mo - (v_X7_changesMade c))) 11 ((11 : Int32).toNatClampNeg) st) J T), 0, 0)
  refine Go.of_run (Ev.mono _) 5 _ ?_
  refine ⟨Nat.le_of_ble_eq_true rfl, ev_X4_set (by unfold vp_in; decide : vp_in (12 : Int32) 16) ?_⟩
  show Go none aM (Ev mt aM (d + 4)) mX2_shares Q (63, [some (.ref 9), some (.int per), some (.int sc), some (.int c), some (.int x), some (.int st), some (.int mo), some (.int pa), none, none, none, none, none, none, none, none], [], (SH, mkM (si (si (si (si (si (si (w2_X2_setPlaces per c pa (i_X2_setMoment per sc I)) 11 ((7 : Int32).toNatClampNeg) ((w3_X2_setPlaces c) + (w4_X2_setPlaces c))) 11 ((10 : Int32).toNatClampNeg) (w6_X2_setPlaces per c pa (i_X2_setMoment per sc I))) 11 ((8 : Int32).toNatClampNeg) x) 11 ((9 : Int32).toNatClampNeg) (mo - (v_X7_changesMade c))) 11 ((11 : Int32).toNatClampNeg) st) 11 ((12 : Int32).toNatClampNeg) pa) J T), 0, 0)
  refine Go.of_run (Ev.mono _) 3 _ ?_
  refine ⟨Nat.le_of_ble_eq_true rfl, ev_X2_textAt (by unfold vp_in; decide : vp_in (0 : Int32) 8) ?_⟩
  show Go none aM (Ev mt aM (d + 4)) mX2_shares Q (68, [some (.ref 9), some (.int per), some (.int sc), some (.int c), some (.int x), some (.int st), some (.int mo), some (.int pa), none, none, none, none, none, none, none, none], [.ref (T 13 (0 : Int32).toNatClampNeg)], (SH, mkM (si (si (si (si (si (si (w2_X2_setPlaces per c pa (i_X2_setMoment per sc I)) 11 ((7 : Int32).toNatClampNeg) ((w3_X2_setPlaces c) + (w4_X2_setPlaces c))) 11 ((10 : Int32).toNatClampNeg) (w6_X2_setPlaces per c pa (i_X2_setMoment per sc I))) 11 ((8 : Int32).toNatClampNeg) x) 11 ((9 : Int32).toNatClampNeg) (mo - (v_X7_changesMade c))) 11 ((11 : Int32).toNatClampNeg) st) 11 ((12 : Int32).toNatClampNeg) pa) J T), 0, 0)
  refine Go.of_run (Ev.mono _) 6 _ ?_
  refine ⟨Nat.le_of_ble_eq_true rfl, hyp.2.2.2⟩
set_option maxRecDepth 20000 in
theorem sha_81 {d : Nat} {per sc c x st mo pa v : Int32} {t : Nat} {I : Nat → Nat → Int32} {J : Nat → Nat → Int64} {T : Nat → Nat → Nat} {Q : Option Value → Mem → Prop} (hyp : Ev mt aM (d + 4) 50 [.ref 10, .ref t, .int (97 : Int32)] (SH, mkM I J T) (fun r m1 => Go none aM (Ev mt aM (d + 4)) mX2_shares Q (99, [some (.ref 9), some (.int per), some (.int sc), some (.int c), some (.int x), some (.int st), some (.int mo), some (.int pa), some (.ref t), some (.int (v_X2_within v (100 : Int32))), none, none, none, none, none, none], r.toList ++ [], m1, 0, 0))) : Go none aM (Ev mt aM (d + 4)) mX2_shares Q (81, [some (.ref 9), some (.int per), some (.int sc), some (.int c), some (.int x), some (.int st), some (.int mo), some (.int pa), some (.ref t), none, none, none, none, none, none, none], [.int v], (SH, mkM I J T), 0, 0) := by
  refine Go.of_run (Ev.mono _) 2 _ ?_
  refine ⟨Nat.le_of_ble_eq_true rfl, ev_X2_within ?_⟩
  show Go none aM (Ev mt aM (d + 4)) mX2_shares Q (86, [some (.ref 9), some (.int per), some (.int sc), some (.int c), some (.int x), some (.int st), some (.int mo), some (.int pa), some (.ref t), none, none, none, none, none, none, none], [.int (v_X2_within v (100 : Int32))], (SH, mkM I J T), 0, 0)
  refine Go.of_run (Ev.mono _) 6 _ ?_
  refine ⟨Nat.le_of_ble_eq_true rfl, hyp⟩
set_option maxRecDepth 20000 in
theorem sha_99 {d : Nat} {per sc c x st mo pa v g : Int32} {t : Nat} {I : Nat → Nat → Int32} {J : Nat → Nat → Int64} {T : Nat → Nat → Nat} {Q : Option Value → Mem → Prop} (hyp : Go none aM (Ev mt aM (d + 4)) mX2_shares Q (132, [some (.ref 9), some (.int per), none, some (.int c), none, none, none, some (.int pa), some (.ref t), none, none, some (.int (g ||| ((v_X2_within v ((100 : Int32) - g)) <<< ((7 : Int32) &&& 31)))), some (.int (((100 : Int32) - g) - (v_X2_within v ((100 : Int32) - g)))), some (.int (0 : Int32)), none, none], [], (SH, mkM I J T), 0, 0)) : Go none aM (Ev mt aM (d + 4)) mX2_shares Q (99, [some (.ref 9), some (.int per), some (.int sc), some (.int c), some (.int x), some (.int st), some (.int mo), some (.int pa), some (.ref t), some (.int g), none, none, none, none, none, none], [.int v], (SH, mkM I J T), 0, 0) := by
  refine Go.of_run (Ev.mono _) 4 _ ?_
  refine ⟨Nat.le_of_ble_eq_true rfl, ev_X2_within ?_⟩
  show Go none aM (Ev mt aM (d + 4)) mX2_shares Q (107, [some (.ref 9), some (.int per), some (.int sc), some (.int c), some (.int x), some (.int st), some (.int mo), some (.int pa), some (.ref t), some (.int g), none, none, none, none, none, none], [.int (v_X2_within v ((100 : Int32) - g))], (SH, mkM I J T), 0, 0)
  refine Go.of_run (Ev.mono _) 15 _ ?_
  exact Go.weak (Ev.mono _) (LLe.cons (LLe.cons (LLe.drop (LLe.cons (LLe.drop (LLe.drop (LLe.drop (LLe.cons (LLe.cons (LLe.drop (LLe.drop (LLe.cons (LLe.cons (LLe.cons (LLe.cons (LLe.cons LLe.nil)))))))))))))))) hyp
set_option maxRecDepth 20000 in
theorem sha_p0 {d : Nat} {per c pa sh le : Int32} {t : Nat} {I : Nat → Nat → Int32} {J : Nat → Nat → Int64} {T : Nat → Nat → Nat} {Q : Option Value → Mem → Prop} (hyp : ((v_X7_whoIsAt c (0 : Int32) < 0 → Go none aM (Ev mt aM (d + 4)) mX2_shares Q (132, [some (.ref 9), some (.int per), none, some (.int c), none, none, none, some (.int pa), some (.ref t), none, none, some (.int sh), some (.int le), some (.int (1 : Int32)), none, none], [], (SH, mkM I J T), 0, 0)) ∧ ((¬ (v_X7_whoIsAt c (0 : Int32) < 0)) → (((¬ ((2 : Int32) ≤ (v_X7_whoIsAt c (0 : Int32)))) → (vp_in (v_X7_whoIsAt c (0 : Int32)) 5 ∧ vp_in (v_X7_whoIsAt c (0 : Int32)) 5)) ∧ Ev mt aM (d + 4) 50 [.ref 10, .ref t, .int (104 : Int32)] (SH, mkM (si (si (si I 11 ((13 : Int32).toNatClampNeg) (0 : Int32)) 11 ((14 : Int32).toNatClampNeg) (v_X7_whoIsAt c (0 : Int32))) 11 ((15 : Int32).toNatClampNeg) (v_X7_legsOf (v_X7_whoIsAt c (0 : Int32)) per c pa (si (si I 11 ((13 : Int32).toNatClampNeg) (0 : Int32)) 11 ((14 : Int32).toNatClampNeg) (v_X7_whoIsAt c (0 : Int32))))) J T) (fun r m1 => Go none aM (Ev mt aM (d + 4)) mX2_shares Q (206, [some (.ref 9), some (.int per), none, some (.int c), none, none, none, some (.int pa), some (.ref t), none, none, some (.int sh), some (.int le), some (.int (0 : Int32)), some (.int (v_X7_whoIsAt c (0 : Int32))), none], r.toList ++ [], m1, 0, 0)))))) : Go none aM (Ev mt aM (d + 4)) mX2_shares Q (132, [some (.ref 9), some (.int per), none, some (.int c), none, none, none, some (.int pa), some (.ref t), none, none, some (.int sh), some (.int le), some (.int (0 : Int32)), none, none], [], (SH, mkM I J T), 0, 0) := by
  refine Go.of_run (Ev.mono _) 3 _ ?_
  show Go none aM (Ev mt aM (d + 4)) mX2_shares Q (if (2 : Int32) ≤ (0 : Int32) then 242 else 138, [some (.ref 9), some (.int per), none, some (.int c), none, none, none, some (.int pa), some (.ref t), none, none, some (.int sh), some (.int le), some (.int (0 : Int32)), none, none], [], (SH, mkM I J T), 0, 0)
  rw [if_neg (by decide : ¬ ((2 : Int32) ≤ (0 : Int32)))]
  refine Go.of_run (Ev.mono _) 3 _ ?_
  refine ⟨Nat.le_of_ble_eq_true rfl, ev_X7_whoIsAt ?_⟩
  show Go none aM (Ev mt aM (d + 4)) mX2_shares Q (144, [some (.ref 9), some (.int per), none, some (.int c), none, none, none, some (.int pa), some (.ref t), none, none, some (.int sh), some (.int le), some (.int (0 : Int32)), none, none], [.int (v_X7_whoIsAt c (0 : Int32))], (SH, mkM I J T), 0, 0)
  refine Go.of_run (Ev.mono _) 3 _ ?_
  show Go none aM (Ev mt aM (d + 4)) mX2_shares Q (if v_X7_whoIsAt c (0 : Int32) < 0 then 236 else 151, [some (.ref 9), some (.int per), none, some (.int c), none, none, none, some (.int pa), some (.ref t), none, none, some (.int sh), some (.int le), some (.int (0 : Int32)), some (.int (v_X7_whoIsAt c (0 : Int32))), none], [], (SH, mkM I J T), 0, 0)
  rcases Decidable.em (v_X7_whoIsAt c (0 : Int32) < 0) with c1 | c1
  · rw [if_pos c1]
    refine Go.of_run (Ev.mono _) 2 _ ?_
    exact Go.weak (Ev.mono _) (LLe.cons (LLe.cons (LLe.cons (LLe.cons (LLe.cons (LLe.cons (LLe.cons (LLe.cons (LLe.cons (LLe.cons (LLe.cons (LLe.cons (LLe.cons (LLe.cons (LLe.drop (LLe.cons LLe.nil)))))))))))))))) (hyp.1 c1)
  · rw [if_neg c1]
    refine Go.of_run (Ev.mono _) 5 _ ?_
    refine ⟨Nat.le_of_ble_eq_true rfl, ev_X4_set (by unfold vp_in; decide : vp_in (13 : Int32) 16) ?_⟩
    show Go none aM (Ev mt aM (d + 4)) mX2_shares Q (162, [some (.ref 9), some (.int per), none, some (.int c), none, none, none, some (.int pa), some (.ref t), none, none, some (.int sh), some (.int le), some (.int (0 : Int32)), some (.int (v_X7_whoIsAt c (0 : Int32))), none], [], (SH, mkM (si I 11 ((13 : Int32).toNatClampNeg) (0 : Int32)) J T), 0, 0)
    refine Go.of_run (Ev.mono _) 5 _ ?_
    refine ⟨Nat.le_of_ble_eq_true rfl, ev_X4_set (by unfold vp_in; decide : vp_in (14 : Int32) 16) ?_⟩
    show Go none aM (Ev mt aM (d + 4)) mX2_shares Q (173, [some (.ref 9), some (.int per), none, some (.int c), none, none, none, some (.int pa), some (.ref t), none, none, some (.int sh), some (.int le), some (.int (0 : Int32)), some (.int (v_X7_whoIsAt c (0 : Int32))), none], [], (SH, mkM (si (si I 11 ((13 : Int32).toNatClampNeg) (0 : Int32)) 11 ((14 : Int32).toNatClampNeg) (v_X7_whoIsAt c (0 : Int32))) J T), 0, 0)
    refine Go.of_run (Ev.mono _) 10 _ ?_
    refine ⟨Nat.le_of_ble_eq_true rfl, ev_X7_legsOf (hyp.2 c1).1 ?_⟩
    show Go none aM (Ev mt aM (d + 4)) mX2_shares Q (192, [some (.ref 9), some (.int per), none, some (.int c), none, none, none, some (.int pa), some (.ref t), none, none, some (.int sh), some (.int le), some (.int (0 : Int32)), some (.int (v_X7_whoIsAt c (0 : Int32))), none], [.int (v_X7_legsOf (v_X7_whoIsAt c (0 : Int32)) per c pa (si (si I 11 ((13 : Int32).toNatClampNeg) (0 : Int32)) 11 ((14 : Int32).toNatClampNeg) (v_X7_whoIsAt c (0 : Int32)))), .int (15 : Int32), .ref 10], (SH, mkM (si (si I 11 ((13 : Int32).toNatClampNeg) (0 : Int32)) 11 ((14 : Int32).toNatClampNeg) (v_X7_whoIsAt c (0 : Int32))) J T), 0, 0)
    refine Go.of_run (Ev.mono _) 1 _ ?_
    refine ⟨Nat.le_of_ble_eq_true rfl, ev_X4_set (by unfold vp_in; decide : vp_in (15 : Int32) 16) ?_⟩
    show Go none aM (Ev mt aM (d + 4)) mX2_shares Q (195, [some (.ref 9), some (.int per), none, some (.int c), none, none, none, some (.int pa), some (.ref t), none, none, some (.int sh), some (.int le), some (.int (0 : Int32)), some (.int (v_X7_whoIsAt c (0 : Int32))), none], [], (SH, mkM (si (si (si I 11 ((13 : Int32).toNatClampNeg) (0 : Int32)) 11 ((14 : Int32).toNatClampNeg) (v_X7_whoIsAt c (0 : Int32))) 11 ((15 : Int32).toNatClampNeg) (v_X7_legsOf (v_X7_whoIsAt c (0 : Int32)) per c pa (si (si I 11 ((13 : Int32).toNatClampNeg) (0 : Int32)) 11 ((14 : Int32).toNatClampNeg) (v_X7_whoIsAt c (0 : Int32))))) J T), 0, 0)
    refine Go.of_run (Ev.mono _) 5 _ ?_
    refine ⟨Nat.le_of_ble_eq_true rfl, (hyp.2 c1).2⟩
set_option maxRecDepth 20000 in
theorem sha_h0 {d : Nat} {per c pa sh le w v : Int32} {t : Nat} {I : Nat → Nat → Int32} {J : Nat → Nat → Int64} {T : Nat → Nat → Nat} {Q : Option Value → Mem → Prop} (hyp : Go none aM (Ev mt aM (d + 4)) mX2_shares Q (132, [some (.ref 9), some (.int per), none, some (.int c), none, none, none, some (.int pa), some (.ref t), none, none, some (.int (sh ||| ((v_X2_within v le) <<< ((14 : Int32) &&& 31)))), some (.int (le - (v_X2_within v le))), some (.int (1 : Int32)), none, none], [], (SH, mkM I J T), 0, 0)) : Go none aM (Ev mt aM (d + 4)) mX2_shares Q (206, [some (.ref 9), some (.int per), none, some (.int c), none, none, none, some (.int pa), some (.ref t), none, none, some (.int sh), some (.int le), some (.int (0 : Int32)), some (.int w), none], [.int v], (SH, mkM I J T), 0, 0) := by
  refine Go.of_run (Ev.mono _) 2 _ ?_
  refine ⟨Nat.le_of_ble_eq_true rfl, ev_X2_within ?_⟩
  show Go none aM (Ev mt aM (d + 4)) mX2_shares Q (211, [some (.ref 9), some (.int per), none, some (.int c), none, none, none, some (.int pa), some (.ref t), none, none, some (.int sh), some (.int le), some (.int (0 : Int32)), some (.int w), none], [.int (v_X2_within v le)], (SH, mkM I J T), 0, 0)
  refine Go.of_run (Ev.mono _) 17 _ ?_
  exact Go.weak (Ev.mono _) (LLe.cons (LLe.cons (LLe.cons (LLe.cons (LLe.cons (LLe.cons (LLe.cons (LLe.cons (LLe.cons (LLe.cons (LLe.cons (LLe.cons (LLe.cons (LLe.cons (LLe.drop (LLe.drop LLe.nil)))))))))))))))) hyp
set_option maxRecDepth 20000 in
theorem sha_p1 {d : Nat} {per c pa sh le : Int32} {t : Nat} {I : Nat → Nat → Int32} {J : Nat → Nat → Int64} {T : Nat → Nat → Nat} {Q : Option Value → Mem → Prop} (hyp : ((v_X7_whoIsAt c (1 : Int32) < 0 → Go none aM (Ev mt aM (d + 4)) mX2_shares Q (132, [some (.ref 9), some (.int per), none, some (.int c), none, none, none, some (.int pa), some (.ref t), none, none, some (.int sh), some (.int le), some (.int (2 : Int32)), none, none], [], (SH, mkM I J T), 0, 0)) ∧ ((¬ (v_X7_whoIsAt c (1 : Int32) < 0)) → (((¬ ((2 : Int32) ≤ (v_X7_whoIsAt c (1 : Int32)))) → (vp_in (v_X7_whoIsAt c (1 : Int32)) 5 ∧ vp_in (v_X7_whoIsAt c (1 : Int32)) 5)) ∧ Ev mt aM (d + 4) 50 [.ref 10, .ref t, .int (104 : Int32)] (SH, mkM (si (si (si I 11 ((13 : Int32).toNatClampNeg) (1 : Int32)) 11 ((14 : Int32).toNatClampNeg) (v_X7_whoIsAt c (1 : Int32))) 11 ((15 : Int32).toNatClampNeg) (v_X7_legsOf (v_X7_whoIsAt c (1 : Int32)) per c pa (si (si I 11 ((13 : Int32).toNatClampNeg) (1 : Int32)) 11 ((14 : Int32).toNatClampNeg) (v_X7_whoIsAt c (1 : Int32))))) J T) (fun r m1 => Go none aM (Ev mt aM (d + 4)) mX2_shares Q (206, [some (.ref 9), some (.int per), none, some (.int c), none, none, none, some (.int pa), some (.ref t), none, none, some (.int sh), some (.int le), some (.int (1 : Int32)), some (.int (v_X7_whoIsAt c (1 : Int32))), none], r.toList ++ [], m1, 0, 0)))))) : Go none aM (Ev mt aM (d + 4)) mX2_shares Q (132, [some (.ref 9), some (.int per), none, some (.int c), none, none, none, some (.int pa), some (.ref t), none, none, some (.int sh), some (.int le), some (.int (1 : Int32)), none, none], [], (SH, mkM I J T), 0, 0) := by
  refine Go.of_run (Ev.mono _) 3 _ ?_
  show Go none aM (Ev mt aM (d + 4)) mX2_shares Q (if (2 : Int32) ≤ (1 : Int32) then 242 else 138, [some (.ref 9), some (.int per), none, some (.int c), none, none, none, some (.int pa), some (.ref t), none, none, some (.int sh), some (.int le), some (.int (1 : Int32)), none, none], [], (SH, mkM I J T), 0, 0)
  rw [if_neg (by decide : ¬ ((2 : Int32) ≤ (1 : Int32)))]
  refine Go.of_run (Ev.mono _) 3 _ ?_
  refine ⟨Nat.le_of_ble_eq_true rfl, ev_X7_whoIsAt ?_⟩
  show Go none aM (Ev mt aM (d + 4)) mX2_shares Q (144, [some (.ref 9), some (.int per), none, some (.int c), none, none, none, some (.int pa), some (.ref t), none, none, some (.int sh), some (.int le), some (.int (1 : Int32)), none, none], [.int (v_X7_whoIsAt c (1 : Int32))], (SH, mkM I J T), 0, 0)
  refine Go.of_run (Ev.mono _) 3 _ ?_
  show Go none aM (Ev mt aM (d + 4)) mX2_shares Q (if v_X7_whoIsAt c (1 : Int32) < 0 then 236 else 151, [some (.ref 9), some (.int per), none, some (.int c), none, none, none, some (.int pa), some (.ref t), none, none, some (.int sh), some (.int le), some (.int (1 : Int32)), some (.int (v_X7_whoIsAt c (1 : Int32))), none], [], (SH, mkM I J T), 0, 0)
  rcases Decidable.em (v_X7_whoIsAt c (1 : Int32) < 0) with c1 | c1
  · rw [if_pos c1]
    refine Go.of_run (Ev.mono _) 2 _ ?_
    exact Go.weak (Ev.mono _) (LLe.cons (LLe.cons (LLe.cons (LLe.cons (LLe.cons (LLe.cons (LLe.cons (LLe.cons (LLe.cons (LLe.cons (LLe.cons (LLe.cons (LLe.cons (LLe.cons (LLe.drop (LLe.cons LLe.nil)))))))))))))))) (hyp.1 c1)
  · rw [if_neg c1]
    refine Go.of_run (Ev.mono _) 5 _ ?_
    refine ⟨Nat.le_of_ble_eq_true rfl, ev_X4_set (by unfold vp_in; decide : vp_in (13 : Int32) 16) ?_⟩
    show Go none aM (Ev mt aM (d + 4)) mX2_shares Q (162, [some (.ref 9), some (.int per), none, some (.int c), none, none, none, some (.int pa), some (.ref t), none, none, some (.int sh), some (.int le), some (.int (1 : Int32)), some (.int (v_X7_whoIsAt c (1 : Int32))), none], [], (SH, mkM (si I 11 ((13 : Int32).toNatClampNeg) (1 : Int32)) J T), 0, 0)
    refine Go.of_run (Ev.mono _) 5 _ ?_
    refine ⟨Nat.le_of_ble_eq_true rfl, ev_X4_set (by unfold vp_in; decide : vp_in (14 : Int32) 16) ?_⟩
    show Go none aM (Ev mt aM (d + 4)) mX2_shares Q (173, [some (.ref 9), some (.int per), none, some (.int c), none, none, none, some (.int pa), some (.ref t), none, none, some (.int sh), some (.int le), some (.int (1 : Int32)), some (.int (v_X7_whoIsAt c (1 : Int32))), none], [], (SH, mkM (si (si I 11 ((13 : Int32).toNatClampNeg) (1 : Int32)) 11 ((14 : Int32).toNatClampNeg) (v_X7_whoIsAt c (1 : Int32))) J T), 0, 0)
    refine Go.of_run (Ev.mono _) 10 _ ?_
    refine ⟨Nat.le_of_ble_eq_true rfl, ev_X7_legsOf (hyp.2 c1).1 ?_⟩
    show Go none aM (Ev mt aM (d + 4)) mX2_shares Q (192, [some (.ref 9), some (.int per), none, some (.int c), none, none, none, some (.int pa), some (.ref t), none, none, some (.int sh), some (.int le), some (.int (1 : Int32)), some (.int (v_X7_whoIsAt c (1 : Int32))), none], [.int (v_X7_legsOf (v_X7_whoIsAt c (1 : Int32)) per c pa (si (si I 11 ((13 : Int32).toNatClampNeg) (1 : Int32)) 11 ((14 : Int32).toNatClampNeg) (v_X7_whoIsAt c (1 : Int32)))), .int (15 : Int32), .ref 10], (SH, mkM (si (si I 11 ((13 : Int32).toNatClampNeg) (1 : Int32)) 11 ((14 : Int32).toNatClampNeg) (v_X7_whoIsAt c (1 : Int32))) J T), 0, 0)
    refine Go.of_run (Ev.mono _) 1 _ ?_
    refine ⟨Nat.le_of_ble_eq_true rfl, ev_X4_set (by unfold vp_in; decide : vp_in (15 : Int32) 16) ?_⟩
    show Go none aM (Ev mt aM (d + 4)) mX2_shares Q (195, [some (.ref 9), some (.int per), none, some (.int c), none, none, none, some (.int pa), some (.ref t), none, none, some (.int sh), some (.int le), some (.int (1 : Int32)), some (.int (v_X7_whoIsAt c (1 : Int32))), none], [], (SH, mkM (si (si (si I 11 ((13 : Int32).toNatClampNeg) (1 : Int32)) 11 ((14 : Int32).toNatClampNeg) (v_X7_whoIsAt c (1 : Int32))) 11 ((15 : Int32).toNatClampNeg) (v_X7_legsOf (v_X7_whoIsAt c (1 : Int32)) per c pa (si (si I 11 ((13 : Int32).toNatClampNeg) (1 : Int32)) 11 ((14 : Int32).toNatClampNeg) (v_X7_whoIsAt c (1 : Int32))))) J T), 0, 0)
    refine Go.of_run (Ev.mono _) 5 _ ?_
    refine ⟨Nat.le_of_ble_eq_true rfl, (hyp.2 c1).2⟩
set_option maxRecDepth 20000 in
theorem sha_h1 {d : Nat} {per c pa sh le w v : Int32} {t : Nat} {I : Nat → Nat → Int32} {J : Nat → Nat → Int64} {T : Nat → Nat → Nat} {Q : Option Value → Mem → Prop} (hyp : Go none aM (Ev mt aM (d + 4)) mX2_shares Q (132, [some (.ref 9), some (.int per), none, some (.int c), none, none, none, some (.int pa), some (.ref t), none, none, some (.int (sh ||| ((v_X2_within v le) <<< ((21 : Int32) &&& 31)))), some (.int (le - (v_X2_within v le))), some (.int (2 : Int32)), none, none], [], (SH, mkM I J T), 0, 0)) : Go none aM (Ev mt aM (d + 4)) mX2_shares Q (206, [some (.ref 9), some (.int per), none, some (.int c), none, none, none, some (.int pa), some (.ref t), none, none, some (.int sh), some (.int le), some (.int (1 : Int32)), some (.int w), none], [.int v], (SH, mkM I J T), 0, 0) := by
  refine Go.of_run (Ev.mono _) 2 _ ?_
  refine ⟨Nat.le_of_ble_eq_true rfl, ev_X2_within ?_⟩
  show Go none aM (Ev mt aM (d + 4)) mX2_shares Q (211, [some (.ref 9), some (.int per), none, some (.int c), none, none, none, some (.int pa), some (.ref t), none, none, some (.int sh), some (.int le), some (.int (1 : Int32)), some (.int w), none], [.int (v_X2_within v le)], (SH, mkM I J T), 0, 0)
  refine Go.of_run (Ev.mono _) 17 _ ?_
  exact Go.weak (Ev.mono _) (LLe.cons (LLe.cons (LLe.cons (LLe.cons (LLe.cons (LLe.cons (LLe.cons (LLe.cons (LLe.cons (LLe.cons (LLe.cons (LLe.cons (LLe.cons (LLe.cons (LLe.drop (LLe.drop LLe.nil)))))))))))))))) hyp
set_option maxRecDepth 20000 in
theorem sha_p2 {d : Nat} {per c pa sh le : Int32} {t : Nat} {I : Nat → Nat → Int32} {J : Nat → Nat → Int64} {T : Nat → Nat → Nat} {Q : Option Value → Mem → Prop} (hyp : Q (some (.int sh)) (SH, mkM I J T)) : Go none aM (Ev mt aM (d + 4)) mX2_shares Q (132, [some (.ref 9), some (.int per), none, some (.int c), none, none, none, some (.int pa), some (.ref t), none, none, some (.int sh), some (.int le), some (.int (2 : Int32)), none, none], [], (SH, mkM I J T), 0, 0) := by
  refine Go.of_run (Ev.mono _) 3 _ ?_
  show Go none aM (Ev mt aM (d + 4)) mX2_shares Q (if (2 : Int32) ≤ (2 : Int32) then 242 else 138, [some (.ref 9), some (.int per), none, some (.int c), none, none, none, some (.int pa), some (.ref t), none, none, some (.int sh), some (.int le), some (.int (2 : Int32)), none, none], [], (SH, mkM I J T), 0, 0)
  rw [if_pos (by decide : (2 : Int32) ≤ (2 : Int32))]
  refine Go.of_run (Ev.mono _) 2 _ ?_
  refine ⟨trivial, ?_⟩
  show Q (some (.int sh)) (SH, mkM I J T)
  exact hyp
set_option maxRecDepth 20000 in
theorem mst_0 {d : Nat} {per sc oth : Int32} {I : Nat → Nat → Int32} {J : Nat → Nat → Int64} {T : Nat → Nat → Nat} {Q : Option Value → Mem → Prop} (hyp : Ev mt aM (d + 4) 210 [.ref 83, .int oth, .int (111 : Int32), .int (0 : Int32), .int (99 : Int32), .int (0 : Int32)] (SH, mkM (si (si (si (si (si (si (si (si (si (si (si (si (si (si (si (si (si (si (si I 104 0 (0 : Int32)) 104 1 (0 : Int32)) 104 2 (0 : Int32)) 104 3 (0 : Int32)) 104 4 (0 : Int32)) 104 5 (0 : Int32)) 104 6 (0 : Int32)) 104 7 (0 : Int32)) 104 8 (0 : Int32)) 104 9 (0 : Int32)) 104 10 (0 : Int32)) 104 11 (0 : Int32)) 104 12 (0 : Int32)) 104 13 (0 : Int32)) 104 14 (0 : Int32)) 104 15 (0 : Int32)) 104 0 per) 104 1 (I 83 0)) 104 2 sc) J T) (fun r m1 => Go none aM (Ev mt aM (d + 4)) mX12_strength Q (59, [some (.ref 83), some (.int per), some (.int sc), some (.int oth), some (.int (16 : Int32))], r.toList ++ [], m1, 0, 0))) : Go none aM (Ev mt aM (d + 4)) mX12_strength Q (0, [some (.ref 83), some (.int per), some (.int sc), some (.int oth), none], [], (SH, mkM I J T), 0, 0) := by
  refine Go.of_run (Ev.mono _) 5 _ ?_
  show Go none aM (Ev mt aM (d + 4)) mX12_strength Q (if (16 : Int32) ≤ (0 : Int32) then 24 else 10, [some (.ref 83), some (.int per), some (.int sc), some (.int oth), some (.int (0 : Int32))], [], (SH, mkM I J T), 0, 0)
  rw [if_neg (by decide : ¬ ((16 : Int32) ≤ (0 : Int32)))]
  refine Go.of_run (Ev.mono _) 5 _ ?_
  refine ⟨(by unfold vp_in; decide : vp_in (0 : Int32) 16), ?_⟩
  refine go_si rfl ?_
  show Go none aM (Ev mt aM (d + 4)) mX12_strength Q (18, [some (.ref 83), some (.int per), some (.int sc), some (.int oth), some (.int (0 : Int32))], [], (SH, mkM (si I 104 0 (0 : Int32)) J T), 0, 0)
  refine Go.of_run (Ev.mono _) 5 _ ?_
  show Go none aM (Ev mt aM (d + 4)) mX12_strength Q (if (16 : Int32) ≤ (1 : Int32) then 24 else 10, [some (.ref 83), some (.int per), some (.int sc), some (.int oth), some (.int (1 : Int32))], [], (SH, mkM (si I 104 0 (0 : Int32)) J T), 0, 0)
  rw [if_neg (by decide : ¬ ((16 : Int32) ≤ (1 : Int32)))]
  refine Go.of_run (Ev.mono _) 5 _ ?_
  refine ⟨(by unfold vp_in; decide : vp_in (1 : Int32) 16), ?_⟩
  refine go_si rfl ?_
  show Go none aM (Ev mt aM (d + 4)) mX12_strength Q (18, [some (.ref 83), some (.int per), some (.int sc), some (.int oth), some (.int (1 : Int32))], [], (SH, mkM (si (si I 104 0 (0 : Int32)) 104 1 (0 : Int32)) J T), 0, 0)
  refine Go.of_run (Ev.mono _) 5 _ ?_
  show Go none aM (Ev mt aM (d + 4)) mX12_strength Q (if (16 : Int32) ≤ (2 : Int32) then 24 else 10, [some (.ref 83), some (.int per), some (.int sc), some (.int oth), some (.int (2 : Int32))], [], (SH, mkM (si (si I 104 0 (0 : Int32)) 104 1 (0 : Int32)) J T), 0, 0)
  rw [if_neg (by decide : ¬ ((16 : Int32) ≤ (2 : Int32)))]
  refine Go.of_run (Ev.mono _) 5 _ ?_
  refine ⟨(by unfold vp_in; decide : vp_in (2 : Int32) 16), ?_⟩
  refine go_si rfl ?_
  show Go none aM (Ev mt aM (d + 4)) mX12_strength Q (18, [some (.ref 83), some (.int per), some (.int sc), some (.int oth), some (.int (2 : Int32))], [], (SH, mkM (si (si (si I 104 0 (0 : Int32)) 104 1 (0 : Int32)) 104 2 (0 : Int32)) J T), 0, 0)
  refine Go.of_run (Ev.mono _) 5 _ ?_
  show Go none aM (Ev mt aM (d + 4)) mX12_strength Q (if (16 : Int32) ≤ (3 : Int32) then 24 else 10, [some (.ref 83), some (.int per), some (.int sc), some (.int oth), some (.int (3 : Int32))], [], (SH, mkM (si (si (si I 104 0 (0 : Int32)) 104 1 (0 : Int32)) 104 2 (0 : Int32)) J T), 0, 0)
  rw [if_neg (by decide : ¬ ((16 : Int32) ≤ (3 : Int32)))]
  refine Go.of_run (Ev.mono _) 5 _ ?_
  refine ⟨(by unfold vp_in; decide : vp_in (3 : Int32) 16), ?_⟩
  refine go_si rfl ?_
  show Go none aM (Ev mt aM (d + 4)) mX12_strength Q (18, [some (.ref 83), some (.int per), some (.int sc), some (.int oth), some (.int (3 : Int32))], [], (SH, mkM (si (si (si (si I 104 0 (0 : Int32)) 104 1 (0 : Int32)) 104 2 (0 : Int32)) 104 3 (0 : Int32)) J T), 0, 0)
  refine Go.of_run (Ev.mono _) 5 _ ?_
  show Go none aM (Ev mt aM (d + 4)) mX12_strength Q (if (16 : Int32) ≤ (4 : Int32) then 24 else 10, [some (.ref 83), some (.int per), some (.int sc), some (.int oth), some (.int (4 : Int32))], [], (SH, mkM (si (si (si (si I 104 0 (0 : Int32)) 104 1 (0 : Int32)) 104 2 (0 : Int32)) 104 3 (0 : Int32)) J T), 0, 0)
  rw [if_neg (by decide : ¬ ((16 : Int32) ≤ (4 : Int32)))]
  refine Go.of_run (Ev.mono _) 5 _ ?_
  refine ⟨(by unfold vp_in; decide : vp_in (4 : Int32) 16), ?_⟩
  refine go_si rfl ?_
  show Go none aM (Ev mt aM (d + 4)) mX12_strength Q (18, [some (.ref 83), some (.int per), some (.int sc), some (.int oth), some (.int (4 : Int32))], [], (SH, mkM (si (si (si (si (si I 104 0 (0 : Int32)) 104 1 (0 : Int32)) 104 2 (0 : Int32)) 104 3 (0 : Int32)) 104 4 (0 : Int32)) J T), 0, 0)
  refine Go.of_run (Ev.mono _) 5 _ ?_
  show Go none aM (Ev mt aM (d + 4)) mX12_strength Q (if (16 : Int32) ≤ (5 : Int32) then 24 else 10, [some (.ref 83), some (.int per), some (.int sc), some (.int oth), some (.int (5 : Int32))], [], (SH, mkM (si (si (si (si (si I 104 0 (0 : Int32)) 104 1 (0 : Int32)) 104 2 (0 : Int32)) 104 3 (0 : Int32)) 104 4 (0 : Int32)) J T), 0, 0)
  rw [if_neg (by decide : ¬ ((16 : Int32) ≤ (5 : Int32)))]
  refine Go.of_run (Ev.mono _) 5 _ ?_
  refine ⟨(by unfold vp_in; decide : vp_in (5 : Int32) 16), ?_⟩
  refine go_si rfl ?_
  show Go none aM (Ev mt aM (d + 4)) mX12_strength Q (18, [some (.ref 83), some (.int per), some (.int sc), some (.int oth), some (.int (5 : Int32))], [], (SH, mkM (si (si (si (si (si (si I 104 0 (0 : Int32)) 104 1 (0 : Int32)) 104 2 (0 : Int32)) 104 3 (0 : Int32)) 104 4 (0 : Int32)) 104 5 (0 : Int32)) J T), 0, 0)
  refine Go.of_run (Ev.mono _) 5 _ ?_
  show Go none aM (Ev mt aM (d + 4)) mX12_strength Q (if (16 : Int32) ≤ (6 : Int32) then 24 else 10, [some (.ref 83), some (.int per), some (.int sc), some (.int oth), some (.int (6 : Int32))], [], (SH, mkM (si (si (si (si (si (si I 104 0 (0 : Int32)) 104 1 (0 : Int32)) 104 2 (0 : Int32)) 104 3 (0 : Int32)) 104 4 (0 : Int32)) 104 5 (0 : Int32)) J T), 0, 0)
  rw [if_neg (by decide : ¬ ((16 : Int32) ≤ (6 : Int32)))]
  refine Go.of_run (Ev.mono _) 5 _ ?_
  refine ⟨(by unfold vp_in; decide : vp_in (6 : Int32) 16), ?_⟩
  refine go_si rfl ?_
  show Go none aM (Ev mt aM (d + 4)) mX12_strength Q (18, [some (.ref 83), some (.int per), some (.int sc), some (.int oth), some (.int (6 : Int32))], [], (SH, mkM (si (si (si (si (si (si (si I 104 0 (0 : Int32)) 104 1 (0 : Int32)) 104 2 (0 : Int32)) 104 3 (0 : Int32)) 104 4 (0 : Int32)) 104 5 (0 : Int32)) 104 6 (0 : Int32)) J T), 0, 0)
  refine Go.of_run (Ev.mono _) 5 _ ?_
  show Go none aM (Ev mt aM (d + 4)) mX12_strength Q (if (16 : Int32) ≤ (7 : Int32) then 24 else 10, [some (.ref 83), some (.int per), some (.int sc), some (.int oth), some (.int (7 : Int32))], [], (SH, mkM (si (si (si (si (si (si (si I 104 0 (0 : Int32)) 104 1 (0 : Int32)) 104 2 (0 : Int32)) 104 3 (0 : Int32)) 104 4 (0 : Int32)) 104 5 (0 : Int32)) 104 6 (0 : Int32)) J T), 0, 0)
  rw [if_neg (by decide : ¬ ((16 : Int32) ≤ (7 : Int32)))]
  refine Go.of_run (Ev.mono _) 5 _ ?_
  refine ⟨(by unfold vp_in; decide : vp_in (7 : Int32) 16), ?_⟩
  refine go_si rfl ?_
  show Go none aM (Ev mt aM (d + 4)) mX12_strength Q (18, [some (.ref 83), some (.int per), some (.int sc), some (.int oth), some (.int (7 : Int32))], [], (SH, mkM (si (si (si (si (si (si (si (si I 104 0 (0 : Int32)) 104 1 (0 : Int32)) 104 2 (0 : Int32)) 104 3 (0 : Int32)) 104 4 (0 : Int32)) 104 5 (0 : Int32)) 104 6 (0 : Int32)) 104 7 (0 : Int32)) J T), 0, 0)
  refine Go.of_run (Ev.mono _) 5 _ ?_
  show Go none aM (Ev mt aM (d + 4)) mX12_strength Q (if (16 : Int32) ≤ (8 : Int32) then 24 else 10, [some (.ref 83), some (.int per), some (.int sc), some (.int oth), some (.int (8 : Int32))], [], (SH, mkM (si (si (si (si (si (si (si (si I 104 0 (0 : Int32)) 104 1 (0 : Int32)) 104 2 (0 : Int32)) 104 3 (0 : Int32)) 104 4 (0 : Int32)) 104 5 (0 : Int32)) 104 6 (0 : Int32)) 104 7 (0 : Int32)) J T), 0, 0)
  rw [if_neg (by decide : ¬ ((16 : Int32) ≤ (8 : Int32)))]
  refine Go.of_run (Ev.mono _) 5 _ ?_
  refine ⟨(by unfold vp_in; decide : vp_in (8 : Int32) 16), ?_⟩
  refine go_si rfl ?_
  show Go none aM (Ev mt aM (d + 4)) mX12_strength Q (18, [some (.ref 83), some (.int per), some (.int sc), some (.int oth), some (.int (8 : Int32))], [], (SH, mkM (si (si (si (si (si (si (si (si (si I 104 0 (0 : Int32)) 104 1 (0 : Int32)) 104 2 (0 : Int32)) 104 3 (0 : Int32)) 104 4 (0 : Int32)) 104 5 (0 : Int32)) 104 6 (0 : Int32)) 104 7 (0 : Int32)) 104 8 (0 : Int32)) J T), 0, 0)
  refine Go.of_run (Ev.mono _) 5 _ ?_
  show Go none aM (Ev mt aM (d + 4)) mX12_strength Q (if (16 : Int32) ≤ (9 : Int32) then 24 else 10, [some (.ref 83), some (.int per), some (.int sc), some (.int oth), some (.int (9 : Int32))], [], (SH, mkM (si (si (si (si (si (si (si (si (si I 104 0 (0 : Int32)) 104 1 (0 : Int32)) 104 2 (0 : Int32)) 104 3 (0 : Int32)) 104 4 (0 : Int32)) 104 5 (0 : Int32)) 104 6 (0 : Int32)) 104 7 (0 : Int32)) 104 8 (0 : Int32)) J T), 0, 0)
  rw [if_neg (by decide : ¬ ((16 : Int32) ≤ (9 : Int32)))]
  refine Go.of_run (Ev.mono _) 5 _ ?_
  refine ⟨(by unfold vp_in; decide : vp_in (9 : Int32) 16), ?_⟩
  refine go_si rfl ?_
  show Go none aM (Ev mt aM (d + 4)) mX12_strength Q (18, [some (.ref 83), some (.int per), some (.int sc), some (.int oth), some (.int (9 : Int32))], [], (SH, mkM (si (si (si (si (si (si (si (si (si (si I 104 0 (0 : Int32)) 104 1 (0 : Int32)) 104 2 (0 : Int32)) 104 3 (0 : Int32)) 104 4 (0 : Int32)) 104 5 (0 : Int32)) 104 6 (0 : Int32)) 104 7 (0 : Int32)) 104 8 (0 : Int32)) 104 9 (0 : Int32)) J T), 0, 0)
  refine Go.of_run (Ev.mono _) 5 _ ?_
  show Go none aM (Ev mt aM (d + 4)) mX12_strength Q (if (16 : Int32) ≤ (10 : Int32) then 24 else 10, [some (.ref 83), some (.int per), some (.int sc), some (.int oth), some (.int (10 : Int32))], [], (SH, mkM (si (si (si (si (si (si (si (si (si (si I 104 0 (0 : Int32)) 104 1 (0 : Int32)) 104 2 (0 : Int32)) 104 3 (0 : Int32)) 104 4 (0 : Int32)) 104 5 (0 : Int32)) 104 6 (0 : Int32)) 104 7 (0 : Int32)) 104 8 (0 : Int32)) 104 9 (0 : Int32)) J T), 0, 0)
  rw [if_neg (by decide : ¬ ((16 : Int32) ≤ (10 : Int32)))]
  refine Go.of_run (Ev.mono _) 5 _ ?_
  refine ⟨(by unfold vp_in; decide : vp_in (10 : Int32) 16), ?_⟩
  refine go_si rfl ?_
  show Go none aM (Ev mt aM (d + 4)) mX12_strength Q (18, [some (.ref 83), some (.int per), some (.int sc), some (.int oth), some (.int (10 : Int32))], [], (SH, mkM (si (si (si (si (si (si (si (si (si (si (si I 104 0 (0 : Int32)) 104 1 (0 : Int32)) 104 2 (0 : Int32)) 104 3 (0 : Int32)) 104 4 (0 : Int32)) 104 5 (0 : Int32)) 104 6 (0 : Int32)) 104 7 (0 : Int32)) 104 8 (0 : Int32)) 104 9 (0 : Int32)) 104 10 (0 : Int32)) J T), 0, 0)
  refine Go.of_run (Ev.mono _) 5 _ ?_
  show Go none aM (Ev mt aM (d + 4)) mX12_strength Q (if (16 : Int32) ≤ (11 : Int32) then 24 else 10, [some (.ref 83), some (.int per), some (.int sc), some (.int oth), some (.int (11 : Int32))], [], (SH, mkM (si (si (si (si (si (si (si (si (si (si (si I 104 0 (0 : Int32)) 104 1 (0 : Int32)) 104 2 (0 : Int32)) 104 3 (0 : Int32)) 104 4 (0 : Int32)) 104 5 (0 : Int32)) 104 6 (0 : Int32)) 104 7 (0 : Int32)) 104 8 (0 : Int32)) 104 9 (0 : Int32)) 104 10 (0 : Int32)) J T), 0, 0)
  rw [if_neg (by decide : ¬ ((16 : Int32) ≤ (11 : Int32)))]
  refine Go.of_run (Ev.mono _) 5 _ ?_
  refine ⟨(by unfold vp_in; decide : vp_in (11 : Int32) 16), ?_⟩
  refine go_si rfl ?_
  show Go none aM (Ev mt aM (d + 4)) mX12_strength Q (18, [some (.ref 83), some (.int per), some (.int sc), some (.int oth), some (.int (11 : Int32))], [], (SH, mkM (si (si (si (si (si (si (si (si (si (si (si (si I 104 0 (0 : Int32)) 104 1 (0 : Int32)) 104 2 (0 : Int32)) 104 3 (0 : Int32)) 104 4 (0 : Int32)) 104 5 (0 : Int32)) 104 6 (0 : Int32)) 104 7 (0 : Int32)) 104 8 (0 : Int32)) 104 9 (0 : Int32)) 104 10 (0 : Int32)) 104 11 (0 : Int32)) J T), 0, 0)
  refine Go.of_run (Ev.mono _) 5 _ ?_
  show Go none aM (Ev mt aM (d + 4)) mX12_strength Q (if (16 : Int32) ≤ (12 : Int32) then 24 else 10, [some (.ref 83), some (.int per), some (.int sc), some (.int oth), some (.int (12 : Int32))], [], (SH, mkM (si (si (si (si (si (si (si (si (si (si (si (si I 104 0 (0 : Int32)) 104 1 (0 : Int32)) 104 2 (0 : Int32)) 104 3 (0 : Int32)) 104 4 (0 : Int32)) 104 5 (0 : Int32)) 104 6 (0 : Int32)) 104 7 (0 : Int32)) 104 8 (0 : Int32)) 104 9 (0 : Int32)) 104 10 (0 : Int32)) 104 11 (0 : Int32)) J T), 0, 0)
  rw [if_neg (by decide : ¬ ((16 : Int32) ≤ (12 : Int32)))]
  refine Go.of_run (Ev.mono _) 5 _ ?_
  refine ⟨(by unfold vp_in; decide : vp_in (12 : Int32) 16), ?_⟩
  refine go_si rfl ?_
  show Go none aM (Ev mt aM (d + 4)) mX12_strength Q (18, [some (.ref 83), some (.int per), some (.int sc), some (.int oth), some (.int (12 : Int32))], [], (SH, mkM (si (si (si (si (si (si (si (si (si (si (si (si (si I 104 0 (0 : Int32)) 104 1 (0 : Int32)) 104 2 (0 : Int32)) 104 3 (0 : Int32)) 104 4 (0 : Int32)) 104 5 (0 : Int32)) 104 6 (0 : Int32)) 104 7 (0 : Int32)) 104 8 (0 : Int32)) 104 9 (0 : Int32)) 104 10 (0 : Int32)) 104 11 (0 : Int32)) 104 12 (0 : Int32)) J T), 0, 0)
  refine Go.of_run (Ev.mono _) 5 _ ?_
  show Go none aM (Ev mt aM (d + 4)) mX12_strength Q (if (16 : Int32) ≤ (13 : Int32) then 24 else 10, [some (.ref 83), some (.int per), some (.int sc), some (.int oth), some (.int (13 : Int32))], [], (SH, mkM (si (si (si (si (si (si (si (si (si (si (si (si (si I 104 0 (0 : Int32)) 104 1 (0 : Int32)) 104 2 (0 : Int32)) 104 3 (0 : Int32)) 104 4 (0 : Int32)) 104 5 (0 : Int32)) 104 6 (0 : Int32)) 104 7 (0 : Int32)) 104 8 (0 : Int32)) 104 9 (0 : Int32)) 104 10 (0 : Int32)) 104 11 (0 : Int32)) 104 12 (0 : Int32)) J T), 0, 0)
  rw [if_neg (by decide : ¬ ((16 : Int32) ≤ (13 : Int32)))]
  refine Go.of_run (Ev.mono _) 5 _ ?_
  refine ⟨(by unfold vp_in; decide : vp_in (13 : Int32) 16), ?_⟩
  refine go_si rfl ?_
  show Go none aM (Ev mt aM (d + 4)) mX12_strength Q (18, [some (.ref 83), some (.int per), some (.int sc), some (.int oth), some (.int (13 : Int32))], [], (SH, mkM (si (si (si (si (si (si (si (si (si (si (si (si (si (si I 104 0 (0 : Int32)) 104 1 (0 : Int32)) 104 2 (0 : Int32)) 104 3 (0 : Int32)) 104 4 (0 : Int32)) 104 5 (0 : Int32)) 104 6 (0 : Int32)) 104 7 (0 : Int32)) 104 8 (0 : Int32)) 104 9 (0 : Int32)) 104 10 (0 : Int32)) 104 11 (0 : Int32)) 104 12 (0 : Int32)) 104 13 (0 : Int32)) J T), 0, 0)
  refine Go.of_run (Ev.mono _) 5 _ ?_
  show Go none aM (Ev mt aM (d + 4)) mX12_strength Q (if (16 : Int32) ≤ (14 : Int32) then 24 else 10, [some (.ref 83), some (.int per), some (.int sc), some (.int oth), some (.int (14 : Int32))], [], (SH, mkM (si (si (si (si (si (si (si (si (si (si (si (si (si (si I 104 0 (0 : Int32)) 104 1 (0 : Int32)) 104 2 (0 : Int32)) 104 3 (0 : Int32)) 104 4 (0 : Int32)) 104 5 (0 : Int32)) 104 6 (0 : Int32)) 104 7 (0 : Int32)) 104 8 (0 : Int32)) 104 9 (0 : Int32)) 104 10 (0 : Int32)) 104 11 (0 : Int32)) 104 12 (0 : Int32)) 104 13 (0 : Int32)) J T), 0, 0)
  rw [if_neg (by decide : ¬ ((16 : Int32) ≤ (14 : Int32)))]
  refine Go.of_run (Ev.mono _) 5 _ ?_
  refine ⟨(by unfold vp_in; decide : vp_in (14 : Int32) 16), ?_⟩
  refine go_si rfl ?_
  show Go none aM (Ev mt aM (d + 4)) mX12_strength Q (18, [some (.ref 83), some (.int per), some (.int sc), some (.int oth), some (.int (14 : Int32))], [], (SH, mkM (si (si (si (si (si (si (si (si (si (si (si (si (si (si (si I 104 0 (0 : Int32)) 104 1 (0 : Int32)) 104 2 (0 : Int32)) 104 3 (0 : Int32)) 104 4 (0 : Int32)) 104 5 (0 : Int32)) 104 6 (0 : Int32)) 104 7 (0 : Int32)) 104 8 (0 : Int32)) 104 9 (0 : Int32)) 104 10 (0 : Int32)) 104 11 (0 : Int32)) 104 12 (0 : Int32)) 104 13 (0 : Int32)) 104 14 (0 : Int32)) J T), 0, 0)
  refine Go.of_run (Ev.mono _) 5 _ ?_
  show Go none aM (Ev mt aM (d + 4)) mX12_strength Q (if (16 : Int32) ≤ (15 : Int32) then 24 else 10, [some (.ref 83), some (.int per), some (.int sc), some (.int oth), some (.int (15 : Int32))], [], (SH, mkM (si (si (si (si (si (si (si (si (si (si (si (si (si (si (si I 104 0 (0 : Int32)) 104 1 (0 : Int32)) 104 2 (0 : Int32)) 104 3 (0 : Int32)) 104 4 (0 : Int32)) 104 5 (0 : Int32)) 104 6 (0 : Int32)) 104 7 (0 : Int32)) 104 8 (0 : Int32)) 104 9 (0 : Int32)) 104 10 (0 : Int32)) 104 11 (0 : Int32)) 104 12 (0 : Int32)) 104 13 (0 : Int32)) 104 14 (0 : Int32)) J T), 0, 0)
  rw [if_neg (by decide : ¬ ((16 : Int32) ≤ (15 : Int32)))]
  refine Go.of_run (Ev.mono _) 5 _ ?_
  refine ⟨(by unfold vp_in; decide : vp_in (15 : Int32) 16), ?_⟩
  refine go_si rfl ?_
  show Go none aM (Ev mt aM (d + 4)) mX12_strength Q (18, [some (.ref 83), some (.int per), some (.int sc), some (.int oth), some (.int (15 : Int32))], [], (SH, mkM (si (si (si (si (si (si (si (si (si (si (si (si (si (si (si (si I 104 0 (0 : Int32)) 104 1 (0 : Int32)) 104 2 (0 : Int32)) 104 3 (0 : Int32)) 104 4 (0 : Int32)) 104 5 (0 : Int32)) 104 6 (0 : Int32)) 104 7 (0 : Int32)) 104 8 (0 : Int32)) 104 9 (0 : Int32)) 104 10 (0 : Int32)) 104 11 (0 : Int32)) 104 12 (0 : Int32)) 104 13 (0 : Int32)) 104 14 (0 : Int32)) 104 15 (0 : Int32)) J T), 0, 0)
  refine Go.of_run (Ev.mono _) 5 _ ?_
  show Go none aM (Ev mt aM (d + 4)) mX12_strength Q (if (16 : Int32) ≤ (16 : Int32) then 24 else 10, [some (.ref 83), some (.int per), some (.int sc), some (.int oth), some (.int (16 : Int32))], [], (SH, mkM (si (si (si (si (si (si (si (si (si (si (si (si (si (si (si (si I 104 0 (0 : Int32)) 104 1 (0 : Int32)) 104 2 (0 : Int32)) 104 3 (0 : Int32)) 104 4 (0 : Int32)) 104 5 (0 : Int32)) 104 6 (0 : Int32)) 104 7 (0 : Int32)) 104 8 (0 : Int32)) 104 9 (0 : Int32)) 104 10 (0 : Int32)) 104 11 (0 : Int32)) 104 12 (0 : Int32)) 104 13 (0 : Int32)) 104 14 (0 : Int32)) 104 15 (0 : Int32)) J T), 0, 0)
  rw [if_pos (by decide : (16 : Int32) ≤ (16 : Int32))]
  refine Go.of_run (Ev.mono _) 5 _ ?_
  refine ⟨(by unfold vp_in; decide : vp_in (0 : Int32) 16), ?_⟩
  refine go_si rfl ?_
  show Go none aM (Ev mt aM (d + 4)) mX12_strength Q (31, [some (.ref 83), some (.int per), some (.int sc), some (.int oth), some (.int (16 : Int32))], [], (SH, mkM (si (si (si (si (si (si (si (si (si (si (si (si (si (si (si (si (si I 104 0 (0 : Int32)) 104 1 (0 : Int32)) 104 2 (0 : Int32)) 104 3 (0 : Int32)) 104 4 (0 : Int32)) 104 5 (0 : Int32)) 104 6 (0 : Int32)) 104 7 (0 : Int32)) 104 8 (0 : Int32)) 104 9 (0 : Int32)) 104 10 (0 : Int32)) 104 11 (0 : Int32)) 104 12 (0 : Int32)) 104 13 (0 : Int32)) 104 14 (0 : Int32)) 104 15 (0 : Int32)) 104 0 per) J T), 0, 0)
  refine Go.of_run (Ev.mono _) 6 _ ?_
  refine ⟨(by unfold vp_in; decide : vp_in (1 : Int32) 16), ?_⟩
  refine go_si rfl ?_
  show Go none aM (Ev mt aM (d + 4)) mX12_strength Q (41, [some (.ref 83), some (.int per), some (.int sc), some (.int oth), some (.int (16 : Int32))], [], (SH, mkM (si (si (si (si (si (si (si (si (si (si (si (si (si (si (si (si (si (si I 104 0 (0 : Int32)) 104 1 (0 : Int32)) 104 2 (0 : Int32)) 104 3 (0 : Int32)) 104 4 (0 : Int32)) 104 5 (0 : Int32)) 104 6 (0 : Int32)) 104 7 (0 : Int32)) 104 8 (0 : Int32)) 104 9 (0 : Int32)) 104 10 (0 : Int32)) 104 11 (0 : Int32)) 104 12 (0 : Int32)) 104 13 (0 : Int32)) 104 14 (0 : Int32)) 104 15 (0 : Int32)) 104 0 per) 104 1 (I 83 0)) J T), 0, 0)
  refine Go.of_run (Ev.mono _) 5 _ ?_
  refine ⟨(by unfold vp_in; decide : vp_in (2 : Int32) 16), ?_⟩
  refine go_si rfl ?_
  show Go none aM (Ev mt aM (d + 4)) mX12_strength Q (48, [some (.ref 83), some (.int per), some (.int sc), some (.int oth), some (.int (16 : Int32))], [], (SH, mkM (si (si (si (si (si (si (si (si (si (si (si (si (si (si (si (si (si (si (si I 104 0 (0 : Int32)) 104 1 (0 : Int32)) 104 2 (0 : Int32)) 104 3 (0 : Int32)) 104 4 (0 : Int32)) 104 5 (0 : Int32)) 104 6 (0 : Int32)) 104 7 (0 : Int32)) 104 8 (0 : Int32)) 104 9 (0 : Int32)) 104 10 (0 : Int32)) 104 11 (0 : Int32)) 104 12 (0 : Int32)) 104 13 (0 : Int32)) 104 14 (0 : Int32)) 104 15 (0 : Int32)) 104 0 per) 104 1 (I 83 0)) 104 2 sc) J T), 0, 0)
  refine Go.of_run (Ev.mono _) 7 _ ?_
  refine ⟨Nat.le_of_ble_eq_true rfl, hyp⟩
set_option maxRecDepth 20000 in
theorem mst_59 {d : Nat} {per sc oth v : Int32} {I : Nat → Nat → Int32} {J : Nat → Nat → Int64} {T : Nat → Nat → Nat} {Q : Option Value → Mem → Prop} (hyp : Q (some (.int v)) (SH, mkM I J T)) : Go none aM (Ev mt aM (d + 4)) mX12_strength Q (59, [some (.ref 83), some (.int per), some (.int sc), some (.int oth), none], [.int v], (SH, mkM I J T), 0, 0) := by
  refine Go.of_run (Ev.mono _) 1 _ ?_
  refine ⟨trivial, ?_⟩
  show Q (some (.int v)) (SH, mkM I J T)
  exact hyp
set_option maxRecDepth 20000 in
theorem mfe_0 {d : Nat} {per sc c oth x : Int32} {I : Nat → Nat → Int32} {J : Nat → Nat → Int64} {T : Nat → Nat → Nat} {Q : Option Value → Mem → Prop} (hyp : Ev mt aM (d + 5) 232 [.ref 83, .int per, .int sc, .int oth] (SH, mkM I J T) (fun r m1 => Go none aM (Ev mt aM (d + 5)) mX12_feels Q (8, [some (.ref 83), some (.int per), some (.int sc), some (.int c), some (.int oth), some (.int x), none, none, none], r.toList ++ [], m1, 0, 0))) : Go none aM (Ev mt aM (d + 5)) mX12_feels Q (0, [some (.ref 83), some (.int per), some (.int sc), some (.int c), some (.int oth), some (.int x), none, none, none], [], (SH, mkM I J T), 0, 0) := by
  refine Go.of_run (Ev.mono _) 5 _ ?_
  refine ⟨Nat.le_of_ble_eq_true rfl, hyp⟩
def w1_mfe_8 (c : Int32) (I : Nat → Nat → Int32) : Int32 := if v_X12_whoAt c (0 : Int32) = (-1 : Int32) then (0 : Int32) else I 85 (((2 : Int32) * (v_X12_whoAt c (0 : Int32))).toNatClampNeg)
def w2_mfe_8 (c : Int32) (I : Nat → Nat → Int32) : Int32 := if v_X12_whoAt c (1 : Int32) = (-1 : Int32) then (0 : Int32) else I 85 ((((2 : Int32) * (v_X12_whoAt c (1 : Int32))) + (1 : Int32)).toNatClampNeg)
def w3_mfe_8 (per : Int32) (c : Int32) (I : Nat → Nat → Int32) : Int32 := if v_X12_whoAt c (0 : Int32) = (-1 : Int32) then (0 : Int32) else v_X12_legsAt per c (v_X12_whoAt c (0 : Int32)) (si (si I 104 3 (w1_mfe_8 c I)) 104 4 (w2_mfe_8 c I))
def w4_mfe_8 (per : Int32) (c : Int32) (I : Nat → Nat → Int32) : Int32 := if v_X12_whoAt c (1 : Int32) = (-1 : Int32) then (0 : Int32) else v_X12_legsAt per c (v_X12_whoAt c (1 : Int32)) (si (si (si I 104 3 (w1_mfe_8 c I)) 104 4 (w2_mfe_8 c I)) 104 5 (w3_mfe_8 per c I))
def w5_mfe_8 (c : Int32) : Int32 := if v_X12_whoAt c (0 : Int32) = (-1 : Int32) then (1 : Int32) else (0 : Int32)
def w6_mfe_8 (c : Int32) : Int32 := if v_X12_whoAt c (1 : Int32) = (-1 : Int32) then (1 : Int32) else (0 : Int32)
def w7_mfe_8 (c : Int32) (I : Nat → Nat → Int32) : Int32 := if v_X12_whoAt c (1 : Int32) = (-1 : Int32) then (0 : Int32) else I 88 ((((5 : Int32) * (v_X12_whoAt c (0 : Int32))) + (v_X12_whoAt c (1 : Int32))).toNatClampNeg)
def w8_mfe_8 (c : Int32) (I : Nat → Nat → Int32) : Int32 := if v_X12_whoAt c (0 : Int32) = (-1 : Int32) then (0 : Int32) else w7_mfe_8 c I
set_option maxRecDepth 20000 in
theorem mfe_8 {d : Nat} {per sc c oth x v : Int32} {I : Nat → Nat → Int32} {J : Nat → Nat → Int64} {T : Nat → Nat → Nat} {Q : Option Value → Mem → Prop} (hyp : (((¬ (v_X12_whoAt c (0 : Int32) = (-1 : Int32))) → vp_in ((2 : Int32) * (v_X12_whoAt c (0 : Int32))) 10) ∧ (((¬ (v_X12_whoAt c (1 : Int32) = (-1 : Int32))) → vp_in (((2 : Int32) * (v_X12_whoAt c (1 : Int32))) + (1 : Int32)) 10) ∧ (((¬ (v_X12_whoAt c (0 : Int32) = (-1 : Int32))) → ((v_X12_whoAt c (0 : Int32)) ≤ (1 : Int32) → (vp_in (v_X12_whoAt c (0 : Int32)) 5 ∧ (vp_in (v_X12_whoAt c (0 : Int32)) 5 ∧ (0 ≤ ((si (si I 104 3 (w1_mfe_8 c I)) 104 4 (w2_mfe_8 c I)) 87 (v_X12_whoAt c (0 : Int32)).toNatClampNeg) - ((si (si I 104 3 (w1_mfe_8 c I)) 104 4 (w2_mfe_8 c I)) 83 36) → vp_in (v_X12_whoAt c (0 : Int32)) 5))))) ∧ (((¬ (v_X12_whoAt c (1 : Int32) = (-1 : Int32))) → ((v_X12_whoAt c (1 : Int32)) ≤ (1 : Int32) → (vp_in (v_X12_whoAt c (1 : Int32)) 5 ∧ (vp_in (v_X12_whoAt c (1 : Int32)) 5 ∧ (0 ≤ ((si (si (si I 104 3 (w1_mfe_8 c I)) 104 4 (w2_mfe_8 c I)) 104 5 (w3_mfe_8 per c I)) 87 (v_X12_whoAt c (1 : Int32)).toNatClampNeg) - ((si (si (si I 104 3 (w1_mfe_8 c I)) 104 4 (w2_mfe_8 c I)) 104 5 (w3_mfe_8 per c I)) 83 36) → vp_in (v_X12_whoAt c (1 : Int32)) 5))))) ∧ (((¬ (v_X12_whoAt c (0 : Int32) = (-1 : Int32))) → ((¬ (v_X12_whoAt c (1 : Int32) = (-1 : Int32))) → vp_in (((5 : Int32) * (v_X12_whoAt c (0 : Int32))) + (v_X12_whoAt c (1 : Int32))) 25)) ∧ Q none (SH, mkM (si (si (si (si (si (si (si (si (si (si I 104 3 (w1_mfe_8 c I)) 104 4 (w2_mfe_8 c I)) 104 5 (w3_mfe_8 per c I)) 104 6 (w4_mfe_8 per c I)) 104 7 ((w5_mfe_8 c) + (w6_mfe_8 c))) 104 8 x) 104 9 ((I 83 34) - (v_X12_made c))) 104 10 (w8_mfe_8 c I)) 104 11 v) 104 12 (I 83 36)) J T))))))) : Go none aM (Ev mt aM (d + 5)) mX12_feels Q (8, [some (.ref 83), some (.int per), some (.int sc), some (.int c), some (.int oth), some (.int x), none, none, none], [.int v], (SH, mkM I J T), 0, 0) := by
  refine Go.of_run (Ev.mono _) 4 _ ?_
  refine ⟨Nat.le_of_ble_eq_true rfl, ev_X12_whoAt ?_⟩
  show Go none aM (Ev mt aM (d + 5)) mX12_feels Q (15, [some (.ref 83), some (.int per), some (.int sc), some (.int c), some (.int oth), some (.int x), some (.int v), none, none], [.int (v_X12_whoAt c (0 : Int32))], (SH, mkM I J T), 0, 0)
  refine Go.of_run (Ev.mono _) 4 _ ?_
  refine ⟨Nat.le_of_ble_eq_true rfl, ev_X12_whoAt ?_⟩
  show Go none aM (Ev mt aM (d + 5)) mX12_feels Q (22, [some (.ref 83), some (.int per), some (.int sc), some (.int c), some (.int oth), some (.int x), some (.int v), some (.int (v_X12_whoAt c (0 : Int32))), none], [.int (v_X12_whoAt c (1 : Int32))], (SH, mkM I J T), 0, 0)
  refine Go.of_run (Ev.mono _) 7 _ ?_
  show Go none aM (Ev mt aM (d + 5)) mX12_feels Q (if v_X12_whoAt c (0 : Int32) = (-1 : Int32) then 35 else 39, [some (.ref 83), some (.int per), some (.int sc), some (.int c), some (.int oth), some (.int x), some (.int v), some (.int (v_X12_whoAt c (0 : Int32))), some (.int (v_X12_whoAt c (1 : Int32)))], [.int (3 : Int32), .ref 104], (SH, mkM I J T), 0, 0)
  have G2 : Go none aM (Ev mt aM (d + 5)) mX12_feels Q (48, [some (.ref 83), some (.int per), none, some (.int c), none, some (.int x), some (.int v), some (.int (v_X12_whoAt c (0 : Int32))), some (.int (v_X12_whoAt c (1 : Int32)))], [.int (w1_mfe_8 c I), .int (3 : Int32), .ref 104], (SH, mkM I J T), 0, 0) := by
    refine Go.of_run (Ev.mono _) 1 _ ?_
    refine ⟨(by unfold vp_in; decide : vp_in (3 : Int32) 16), ?_⟩
    refine go_si rfl ?_
    show Go none aM (Ev mt aM (d + 5)) mX12_feels Q (49, [some (.ref 83), some (.int per), none, some (.int c), none, some (.int x), some (.int v), some (.int (v_X12_whoAt c (0 : Int32))), some (.int (v_X12_whoAt c (1 : Int32)))], [], (SH, mkM (si I 104 3 (w1_mfe_8 c I)) J T), 0, 0)
    refine Go.of_run (Ev.mono _) 6 _ ?_
    show Go none aM (Ev mt aM (d + 5)) mX12_feels Q (if v_X12_whoAt c (1 : Int32) = (-1 : Int32) then 60 else 64, [some (.ref 83), some (.int per), none, some (.int c), none, some (.int x), some (.int v), some (.int (v_X12_whoAt c (0 : Int32))), some (.int (v_X12_whoAt c (1 : Int32)))], [.int (4 : Int32), .ref 104], (SH, mkM (si I 104 3 (w1_mfe_8 c I)) J T), 0, 0)
    have G4 : Go none aM (Ev mt aM (d + 5)) mX12_feels Q (75, [some (.ref 83), some (.int per), none, some (.int c), none, some (.int x), some (.int v), some (.int (v_X12_whoAt c (0 : Int32))), some (.int (v_X12_whoAt c (1 : Int32)))], [.int (w2_mfe_8 c I), .int (4 : Int32), .ref 104], (SH, mkM (si I 104 3 (w1_mfe_8 c I)) J T), 0, 0) := by
      refine Go.of_run (Ev.mono _) 1 _ ?_
      refine ⟨(by unfold vp_in; decide : vp_in (4 : Int32) 16), ?_⟩
      refine go_si rfl ?_
      show Go none aM (Ev mt aM (d + 5)) mX12_feels Q (76, [some (.ref 83), some (.int per), none, some (.int c), none, some (.int x), some (.int v), some (.int (v_X12_whoAt c (0 : Int32))), some (.int (v_X12_whoAt c (1 : Int32)))], [], (SH, mkM (si (si I 104 3 (w1_mfe_8 c I)) 104 4 (w2_mfe_8 c I)) J T), 0, 0)
      refine Go.of_run (Ev.mono _) 6 _ ?_
      show Go none aM (Ev mt aM (d + 5)) mX12_feels Q (if v_X12_whoAt c (0 : Int32) = (-1 : Int32) then 87 else 91, [some (.ref 83), some (.int per), none, some (.int c), none, some (.int x), some (.int v), some (.int (v_X12_whoAt c (0 : Int32))), some (.int (v_X12_whoAt c (1 : Int32)))], [.int (5 : Int32), .ref 104], (SH, mkM (si (si I 104 3 (w1_mfe_8 c I)) 104 4 (w2_mfe_8 c I)) J T), 0, 0)
      have G6 : Go none aM (Ev mt aM (d + 5)) mX12_feels Q (99, [some (.ref 83), some (.int per), none, some (.int c), none, some (.int x), some (.int v), some (.int (v_X12_whoAt c (0 : Int32))), some (.int (v_X12_whoAt c (1 : Int32)))], [.int (w3_mfe_8 per c I), .int (5 : Int32), .ref 104], (SH, mkM (si (si I 104 3 (w1_mfe_8 c I)) 104 4 (w2_mfe_8 c I)) J T), 0, 0) := by
        refine Go.of_run (Ev.mono _) 1 _ ?_
        refine ⟨(by unfold vp_in; decide : vp_in (5 : Int32) 16), ?_⟩
        refine go_si rfl ?_
        show Go none aM (Ev mt aM (d + 5)) mX12_feels Q (100, [some (.ref 83), some (.int per), none, some (.int c), none, some (.int x), some (.int v), some (.int (v_X12_whoAt c (0 : Int32))), some (.int (v_X12_whoAt c (1 : Int32)))], [], (SH, mkM (si (si (si I 104 3 (w1_mfe_8 c I)) 104 4 (w2_mfe_8 c I)) 104 5 (w3_mfe_8 per c I)) J T), 0, 0)
        refine Go.of_run (Ev.mono _) 6 _ ?_
        show Go none aM (Ev mt aM (d + 5)) mX12_feels Q (if v_X12_whoAt c (1 : Int32) = (-1 : Int32) then 112 else 116, [some (.ref 83), some (.int per), none, some (.int c), none, some (.int x), some (.int v), some (.int (v_X12_whoAt c (0 : Int32))), some (.int (v_X12_whoAt c (1 : Int32)))], [.int (6 : Int32), .ref 104], (SH, mkM (si (si (si I 104 3 (w1_mfe_8 c I)) 104 4 (w2_mfe_8 c I)) 104 5 (w3_mfe_8 per c I)) J T), 0, 0)
        have G8 : Go none aM (Ev mt aM (d + 5)) mX12_feels Q (124, [some (.ref 83), none, none, some (.int c), none, some (.int x), some (.int v), some (.int (v_X12_whoAt c (0 : Int32))), some (.int (v_X12_whoAt c (1 : Int32)))], [.int (w4_mfe_8 per c I), .int (6 : Int32), .ref 104], (SH, mkM (si (si (si I 104 3 (w1_mfe_8 c I)) 104 4 (w2_mfe_8 c I)) 104 5 (w3_mfe_8 per c I)) J T), 0, 0) := by
          refine Go.of_run (Ev.mono _) 1 _ ?_
          refine ⟨(by unfold vp_in; decide : vp_in (6 : Int32) 16), ?_⟩
          refine go_si rfl ?_
          show Go none aM (Ev mt aM (d + 5)) mX12_feels Q (125, [some (.ref 83), none, none, some (.int c), none, some (.int x), some (.int v), some (.int (v_X12_whoAt c (0 : Int32))), some (.int (v_X12_whoAt c (1 : Int32)))], [], (SH, mkM (si (si (si (si I 104 3 (w1_mfe_8 c I)) 104 4 (w2_mfe_8 c I)) 104 5 (w3_mfe_8 per c I)) 104 6 (w4_mfe_8 per c I)) J T), 0, 0)
          refine Go.of_run (Ev.mono _) 6 _ ?_
          show Go none aM (Ev mt aM (d + 5)) mX12_feels Q (if v_X12_whoAt c (0 : Int32) = (-1 : Int32) then 137 else 141, [some (.ref 83), none, none, some (.int c), none, some (.int x), some (.int v), some (.int (v_X12_whoAt c (0 : Int32))), some (.int (v_X12_whoAt c (1 : Int32)))], [.int (7 : Int32), .ref 104], (SH, mkM (si (si (si (si I 104 3 (w1_mfe_8 c I)) 104 4 (w2_mfe_8 c I)) 104 5 (w3_mfe_8 per c I)) 104 6 (w4_mfe_8 per c I)) J T), 0, 0)
          have G10 : Go none aM (Ev mt aM (d + 5)) mX12_feels Q (142, [some (.ref 83), none, none, some (.int c), none, some (.int x), some (.int v), some (.int (v_X12_whoAt c (0 : Int32))), some (.int (v_X12_whoAt c (1 : Int32)))], [.int (w5_mfe_8 c), .int (7 : Int32), .ref 104], (SH, mkM (si (si (si (si I 104 3 (w1_mfe_8 c I)) 104 4 (w2_mfe_8 c I)) 104 5 (w3_mfe_8 per c I)) 104 6 (w4_mfe_8 per c I)) J T), 0, 0) := by
            refine Go.of_run (Ev.mono _) 3 _ ?_
            show Go none aM (Ev mt aM (d + 5)) mX12_feels Q (if v_X12_whoAt c (1 : Int32) = (-1 : Int32) then 148 else 152, [some (.ref 83), none, none, some (.int c), none, some (.int x), some (.int v), some (.int (v_X12_whoAt c (0 : Int32))), some (.int (v_X12_whoAt c (1 : Int32)))], [.int (w5_mfe_8 c), .int (7 : Int32), .ref 104], (SH, mkM (si (si (si (si I 104 3 (w1_mfe_8 c I)) 104 4 (w2_mfe_8 c I)) 104 5 (w3_mfe_8 per c I)) 104 6 (w4_mfe_8 per c I)) J T), 0, 0)
            have G12 : Go none aM (Ev mt aM (d + 5)) mX12_feels Q (153, [some (.ref 83), none, none, some (.int c), none, some (.int x), some (.int v), some (.int (v_X12_whoAt c (0 : Int32))), some (.int (v_X12_whoAt c (1 : Int32)))], [.int (w6_mfe_8 c), .int (w5_mfe_8 c), .int (7 : Int32), .ref 104], (SH, mkM (si (si (si (si I 104 3 (w1_mfe_8 c I)) 104 4 (w2_mfe_8 c I)) 104 5 (w3_mfe_8 per c I)) 104 6 (w4_mfe_8 per c I)) J T), 0, 0) := by
              refine Go.of_run (Ev.mono _) 2 _ ?_
              refine ⟨(by unfold vp_in; decide : vp_in (7 : Int32) 16), ?_⟩
              refine go_si rfl ?_
              show Go none aM (Ev mt aM (d + 5)) mX12_feels Q (155, [some (.ref 83), none, none, some (.int c), none, some (.int x), some (.int v), some (.int (v_X12_whoAt c (0 : Int32))), some (.int (v_X12_whoAt c (1 : Int32)))], [], (SH, mkM (si (si (si (si (si I 104 3 (w1_mfe_8 c I)) 104 4 (w2_mfe_8 c I)) 104 5 (w3_mfe_8 per c I)) 104 6 (w4_mfe_8 per c I)) 104 7 ((w5_mfe_8 c) + (w6_mfe_8 c))) J T), 0, 0)
              refine Go.of_run (Ev.mono _) 5 _ ?_
              refine ⟨(by unfold vp_in; decide : vp_in (8 : Int32) 16), ?_⟩
              refine go_si rfl ?_
              show Go none aM (Ev mt aM (d + 5)) mX12_feels Q (164, [some (.ref 83), none, none, some (.int c), none, some (.int x), some (.int v), some (.int (v_X12_whoAt c (0 : Int32))), some (.int (v_X12_whoAt c (1 : Int32)))], [], (SH, mkM (si (si (si (si (si (si I 104 3 (w1_mfe_8 c I)) 104 4 (w2_mfe_8 c I)) 104 5 (w3_mfe_8 per c I)) 104 6 (w4_mfe_8 per c I)) 104 7 ((w5_mfe_8 c) + (w6_mfe_8 c))) 104 8 x) J T), 0, 0)
              refine Go.of_run (Ev.mono _) 7 _ ?_
              refine ⟨Nat.le_of_ble_eq_true rfl, ev_X12_made ?_⟩
              show Go none aM (Ev mt aM (d + 5)) mX12_feels Q (178, [some (.ref 83), none, none, some (.int c), none, some (.int x), some (.int v), some (.int (v_X12_whoAt c (0 : Int32))), some (.int (v_X12_whoAt c (1 : Int32)))], [.int (v_X12_made c), .int (I 83 34), .int (9 : Int32), .ref 104], (SH, mkM (si (si (si (si (si (si I 104 3 (w1_mfe_8 c I)) 104 4 (w2_mfe_8 c I)) 104 5 (w3_mfe_8 per c I)) 104 6 (w4_mfe_8 per c I)) 104 7 ((w5_mfe_8 c) + (w6_mfe_8 c))) 104 8 x) J T), 0, 0)
              refine Go.of_run (Ev.mono _) 2 _ ?_
              refine ⟨(by unfold vp_in; decide : vp_in (9 : Int32) 16), ?_⟩
              refine go_si rfl ?_
              show Go none aM (Ev mt aM (d + 5)) mX12_feels Q (180, [some (.ref 83), none, none, some (.int c), none, some (.int x), some (.int v), some (.int (v_X12_whoAt c (0 : Int32))), some (.int (v_X12_whoAt c (1 : Int32)))], [], (SH, mkM (si (si (si (si (si (si (si I 104 3 (w1_mfe_8 c I)) 104 4 (w2_mfe_8 c I)) 104 5 (w3_mfe_8 per c I)) 104 6 (w4_mfe_8 per c I)) 104 7 ((w5_mfe_8 c) + (w6_mfe_8 c))) 104 8 x) 104 9 ((I 83 34) - (v_X12_made c))) J T), 0, 0)
              refine Go.of_run (Ev.mono _) 6 _ ?_
              show Go none aM (Ev mt aM (d + 5)) mX12_feels Q (if v_X12_whoAt c (0 : Int32) = (-1 : Int32) then 198 else 192, [some (.ref 83), none, none, some (.int c), none, some (.int x), some (.int v), some (.int (v_X12_whoAt c (0 : Int32))), some (.int (v_X12_whoAt c (1 : Int32)))], [.int (10 : Int32), .ref 104], (SH, mkM (si (si (si (si (si (si (si I 104 3 (w1_mfe_8 c I)) 104 4 (w2_mfe_8 c I)) 104 5 (w3_mfe_8 per c I)) 104 6 (w4_mfe_8 per c I)) 104 7 ((w5_mfe_8 c) + (w6_mfe_8 c))) 104 8 x) 104 9 ((I 83 34) - (v_X12_made c))) J T), 0, 0)
              have G14 : Go none aM (Ev mt aM (d + 5)) mX12_feels Q (214, [some (.ref 83), none, none, none, none, none, some (.int v), none, none], [.int (w8_mfe_8 c I), .int (10 : Int32), .ref 104], (SH, mkM (si (si (si (si (si (si (si I 104 3 (w1_mfe_8 c I)) 104 4 (w2_mfe_8 c I)) 104 5 (w3_mfe_8 per c I)) 104 6 (w4_mfe_8 per c I)) 104 7 ((w5_mfe_8 c) + (w6_mfe_8 c))) 104 8 x) 104 9 ((I 83 34) - (v_X12_made c))) J T), 0, 0) := by
                refine Go.of_run (Ev.mono _) 1 _ ?_
                refine ⟨(by unfold vp_in; decide : vp_in (10 : Int32) 16), ?_⟩
                refine go_si rfl ?_
                show Go none aM (Ev mt aM (d + 5)) mX12_feels Q (215, [some (.ref 83), none, none, none, none, none, some (.int v), none, none], [], (SH, mkM (si (si (si (si (si (si (si (si I 104 3 (w1_mfe_8 c I)) 104 4 (w2_mfe_8 c I)) 104 5 (w3_mfe_8 per c I)) 104 6 (w4_mfe_8 per c I)) 104 7 ((w5_mfe_8 c) + (w6_mfe_8 c))) 104 8 x) 104 9 ((I 83 34) - (v_X12_made c))) 104 10 (w8_mfe_8 c I)) J T), 0, 0)
                refine Go.of_run (Ev.mono _) 5 _ ?_
                refine ⟨(by unfold vp_in; decide : vp_in (11 : Int32) 16), ?_⟩
                refine go_si rfl ?_
                show Go none aM (Ev mt aM (d + 5)) mX12_feels Q (224, [some (.ref 83), none, none, none, none, none, some (.int v), none, none], [], (SH, mkM (si (si (si (si (si (si (si (si (si I 104 3 (w1_mfe_8 c I)) 104 4 (w2_mfe_8 c I)) 104 5 (w3_mfe_8 per c I)) 104 6 (w4_mfe_8 per c I)) 104 7 ((w5_mfe_8 c) + (w6_mfe_8 c))) 104 8 x) 104 9 ((I 83 34) - (v_X12_made c))) 104 10 (w8_mfe_8 c I)) 104 11 v) J T), 0, 0)
                refine Go.of_run (Ev.mono _) 6 _ ?_
                refine ⟨(by unfold vp_in; decide : vp_in (12 : Int32) 16), ?_⟩
                refine go_si rfl ?_
                show Go none aM (Ev mt aM (d + 5)) mX12_feels Q (235, [some (.ref 83), none, none, none, none, none, some (.int v), none, none], [], (SH, mkM (si (si (si (si (si (si (si (si (si (si I 104 3 (w1_mfe_8 c I)) 104 4 (w2_mfe_8 c I)) 104 5 (w3_mfe_8 per c I)) 104 6 (w4_mfe_8 per c I)) 104 7 ((w5_mfe_8 c) + (w6_mfe_8 c))) 104 8 x) 104 9 ((I 83 34) - (v_X12_made c))) 104 10 (w8_mfe_8 c I)) 104 11 v) 104 12 (I 83 36)) J T), 0, 0)
                refine Go.of_run (Ev.mono _) 1 _ ?_
                refine ⟨trivial, ?_⟩
                show Q none (SH, mkM (si (si (si (si (si (si (si (si (si (si I 104 3 (w1_mfe_8 c I)) 104 4 (w2_mfe_8 c I)) 104 5 (w3_mfe_8 per c I)) 104 6 (w4_mfe_8 per c I)) 104 7 ((w5_mfe_8 c) + (w6_mfe_8 c))) 104 8 x) 104 9 ((I 83 34) - (v_X12_made c))) 104 10 (w8_mfe_8 c I)) 104 11 v) 104 12 (I 83 36)) J T)
                exact hyp.2.2.2.2.2
              rcases Decidable.em (v_X12_whoAt c (0 : Int32) = (-1 : Int32)) with c13 | c13
              · rw [if_pos c13]
                refine Go.of_run (Ev.mono _) 2 _ ?_
                have e15 : (w8_mfe_8 c I) = (0 : Int32) := if_pos c13
                rw [e15] at G14
                exact Go.weak (Ev.mono _) (LLe.cons (LLe.cons (LLe.cons (LLe.drop (LLe.cons (LLe.drop (LLe.cons (LLe.drop (LLe.drop LLe.nil))))))))) G14
              · rw [if_neg c13]
                refine Go.of_run (Ev.mono _) 3 _ ?_
                show Go none aM (Ev mt aM (d + 5)) mX12_feels Q (if v_X12_whoAt c (1 : Int32) = (-1 : Int32) then 198 else 202, [some (.ref 83), none, none, some (.int c), none, some (.int x), some (.int v), some (.int (v_X12_whoAt c (0 : Int32))), some (.int (v_X12_whoAt c (1 : Int32)))], [.int (10 : Int32), .ref 104], (SH, mkM (si (si (si (si (si (si (si I 104 3 (w1_mfe_8 c I)) 104 4 (w2_mfe_8 c I)) 104 5 (w3_mfe_8 per c I)) 104 6 (w4_mfe_8 per c I)) 104 7 ((w5_mfe_8 c) + (w6_mfe_8 c))) 104 8 x) 104 9 ((I 83 34) - (v_X12_made c))) J T), 0, 0)
                have G17 : Go none aM (Ev mt aM (d + 5)) mX12_feels Q (214, [some (.ref 83), none, none, none, none, none, some (.int v), none, none], [.int (w7_mfe_8 c I), .int (10 : Int32), .ref 104], (SH, mkM (si (si (si (si (si (si (si I 104 3 (w1_mfe_8 c I)) 104 4 (w2_mfe_8 c I)) 104 5 (w3_mfe_8 per c I)) 104 6 (w4_mfe_8 per c I)) 104 7 ((w5_mfe_8 c) + (w6_mfe_8 c))) 104 8 x) 104 9 ((I 83 34) - (v_X12_made c))) J T), 0, 0) := by
                  have e18 : (w8_mfe_8 c I) = w7_mfe_8 c I := if_neg c13
                  rw [e18] at G14
                  exact G14
                rcases Decidable.em (v_X12_whoAt c (1 : Int32) = (-1 : Int32)) with c16 | c16
                · rw [if_pos c16]
                  refine Go.of_run (Ev.mono _) 2 _ ?_
                  have e19 : (w7_mfe_8 c I) = (0 : Int32) := if_pos c16
                  rw [e19] at G17
                  exact Go.weak (Ev.mono _) (LLe.cons (LLe.cons (LLe.cons (LLe.drop (LLe.cons (LLe.drop (LLe.cons (LLe.drop (LLe.drop LLe.nil))))))))) G17
                · rw [if_neg c16]
                  refine Go.of_run (Ev.mono _) 8 _ ?_
                  refine ⟨((hyp.2.2.2.2.1 c13) c16), ?_⟩
                  show Go none aM (Ev mt aM (d + 5)) mX12_feels Q (214, [some (.ref 83), none, none, some (.int c), none, some (.int x), some (.int v), some (.int (v_X12_whoAt c (0 : Int32))), some (.int (v_X12_whoAt c (1 : Int32)))], [.int (I 88 ((((5 : Int32) * (v_X12_whoAt c (0 : Int32))) + (v_X12_whoAt c (1 : Int32))).toNatClampNeg)), .int (10 : Int32), .ref 104], (SH, mkM (si (si (si (si (si (si (si I 104 3 (w1_mfe_8 c I)) 104 4 (w2_mfe_8 c I)) 104 5 (w3_mfe_8 per c I)) 104 6 (w4_mfe_8 per c I)) 104 7 ((w5_mfe_8 c) + (w6_mfe_8 c))) 104 8 x) 104 9 ((I 83 34) - (v_X12_made c))) J T), 0, 0)
                  have e20 : (w7_mfe_8 c I) = I 88 ((((5 : Int32) * (v_X12_whoAt c (0 : Int32))) + (v_X12_whoAt c (1 : Int32))).toNatClampNeg) := if_neg c16
                  rw [e20] at G17
                  exact Go.weak (Ev.mono _) (LLe.cons (LLe.cons (LLe.cons (LLe.drop (LLe.cons (LLe.drop (LLe.cons (LLe.drop (LLe.drop LLe.nil))))))))) G17
            rcases Decidable.em (v_X12_whoAt c (1 : Int32) = (-1 : Int32)) with c11 | c11
            · rw [if_pos c11]
              refine Go.of_run (Ev.mono _) 2 _ ?_
              have e21 : (w6_mfe_8 c) = (1 : Int32) := if_pos c11
              rw [e21] at G12
              exact G12
            · rw [if_neg c11]
              refine Go.of_run (Ev.mono _) 1 _ ?_
              have e22 : (w6_mfe_8 c) = (0 : Int32) := if_neg c11
              rw [e22] at G12
              exact G12
          rcases Decidable.em (v_X12_whoAt c (0 : Int32) = (-1 : Int32)) with c9 | c9
          · rw [if_pos c9]
            refine Go.of_run (Ev.mono _) 2 _ ?_
            have e23 : (w5_mfe_8 c) = (1 : Int32) := if_pos c9
            rw [e23] at G10
            exact G10
          · rw [if_neg c9]
            refine Go.of_run (Ev.mono _) 1 _ ?_
            have e24 : (w5_mfe_8 c) = (0 : Int32) := if_neg c9
            rw [e24] at G10
            exact G10
        rcases Decidable.em (v_X12_whoAt c (1 : Int32) = (-1 : Int32)) with c7 | c7
        · rw [if_pos c7]
          refine Go.of_run (Ev.mono _) 2 _ ?_
          have e25 : (w4_mfe_8 per c I) = (0 : Int32) := if_pos c7
          rw [e25] at G8
          exact Go.weak (Ev.mono _) (LLe.cons (LLe.drop (LLe.cons (LLe.cons (LLe.cons (LLe.cons (LLe.cons (LLe.cons (LLe.cons LLe.nil))))))))) G8
        · rw [if_neg c7]
          refine Go.of_run (Ev.mono _) 5 _ ?_
          refine ⟨Nat.le_of_ble_eq_true rfl, ev_X12_legsAt (hyp.2.2.2.1 c7) ?_⟩
          show Go none aM (Ev mt aM (d + 5)) mX12_feels Q (124, [some (.ref 83), some (.int per), none, some (.int c), none, some (.int x), some (.int v), some (.int (v_X12_whoAt c (0 : Int32))), some (.int (v_X12_whoAt c (1 : Int32)))], [.int (v_X12_legsAt per c (v_X12_whoAt c (1 : Int32)) (si (si (si I 104 3 (w1_mfe_8 c I)) 104 4 (w2_mfe_8 c I)) 104 5 (w3_mfe_8 per c I))), .int (6 : Int32), .ref 104], (SH, mkM (si (si (si I 104 3 (w1_mfe_8 c I)) 104 4 (w2_mfe_8 c I)) 104 5 (w3_mfe_8 per c I)) J T), 0, 0)
          have e26 : (w4_mfe_8 per c I) = v_X12_legsAt per c (v_X12_whoAt c (1 : Int32)) (si (si (si I 104 3 (w1_mfe_8 c I)) 104 4 (w2_mfe_8 c I)) 104 5 (w3_mfe_8 per c I)) := if_neg c7
          rw [e26] at G8
          exact Go.weak (Ev.mono _) (LLe.cons (LLe.drop (LLe.cons (LLe.cons (LLe.cons (LLe.cons (LLe.cons (LLe.cons (LLe.cons LLe.nil))))))))) G8
      rcases Decidable.em (v_X12_whoAt c (0 : Int32) = (-1 : Int32)) with c5 | c5
      · rw [if_pos c5]
        refine Go.of_run (Ev.mono _) 2 _ ?_
        have e27 : (w3_mfe_8 per c I) = (0 : Int32) := if_pos c5
        rw [e27] at G6
        exact G6
      · rw [if_neg c5]
        refine Go.of_run (Ev.mono _) 5 _ ?_
        refine ⟨Nat.le_of_ble_eq_true rfl, ev_X12_legsAt (hyp.2.2.1 c5) ?_⟩
        show Go none aM (Ev mt aM (d + 5)) mX12_feels Q (99, [some (.ref 83), some (.int per), none, some (.int c), none, some (.int x), some (.int v), some (.int (v_X12_whoAt c (0 : Int32))), some (.int (v_X12_whoAt c (1 : Int32)))], [.int (v_X12_legsAt per c (v_X12_whoAt c (0 : Int32)) (si (si I 104 3 (w1_mfe_8 c I)) 104 4 (w2_mfe_8 c I))), .int (5 : Int32), .ref 104], (SH, mkM (si (si I 104 3 (w1_mfe_8 c I)) 104 4 (w2_mfe_8 c I)) J T), 0, 0)
        have e28 : (w3_mfe_8 per c I) = v_X12_legsAt per c (v_X12_whoAt c (0 : Int32)) (si (si I 104 3 (w1_mfe_8 c I)) 104 4 (w2_mfe_8 c I)) := if_neg c5
        rw [e28] at G6
        exact G6
    rcases Decidable.em (v_X12_whoAt c (1 : Int32) = (-1 : Int32)) with c3 | c3
    · rw [if_pos c3]
      refine Go.of_run (Ev.mono _) 2 _ ?_
      have e29 : (w2_mfe_8 c I) = (0 : Int32) := if_pos c3
      rw [e29] at G4
      exact G4
    · rw [if_neg c3]
      refine Go.of_run (Ev.mono _) 8 _ ?_
      refine ⟨(hyp.2.1 c3), ?_⟩
      show Go none aM (Ev mt aM (d + 5)) mX12_feels Q (75, [some (.ref 83), some (.int per), none, some (.int c), none, some (.int x), some (.int v), some (.int (v_X12_whoAt c (0 : Int32))), some (.int (v_X12_whoAt c (1 : Int32)))], [.int (I 85 ((((2 : Int32) * (v_X12_whoAt c (1 : Int32))) + (1 : Int32)).toNatClampNeg)), .int (4 : Int32), .ref 104], (SH, mkM (si I 104 3 (w1_mfe_8 c I)) J T), 0, 0)
      have e30 : (w2_mfe_8 c I) = I 85 ((((2 : Int32) * (v_X12_whoAt c (1 : Int32))) + (1 : Int32)).toNatClampNeg) := if_neg c3
      rw [e30] at G4
      exact G4
  rcases Decidable.em (v_X12_whoAt c (0 : Int32) = (-1 : Int32)) with c1 | c1
  · rw [if_pos c1]
    refine Go.of_run (Ev.mono _) 2 _ ?_
    have e31 : (w1_mfe_8 c I) = (0 : Int32) := if_pos c1
    rw [e31] at G2
    exact Go.weak (Ev.mono _) (LLe.cons (LLe.cons (LLe.drop (LLe.cons (LLe.drop (LLe.cons (LLe.cons (LLe.cons (LLe.cons LLe.nil))))))))) G2
  · rw [if_neg c1]
    refine Go.of_run (Ev.mono _) 6 _ ?_
    refine ⟨(hyp.1 c1), ?_⟩
    show Go none aM (Ev mt aM (d + 5)) mX12_feels Q (48, [some (.ref 83), some (.int per), some (.int sc), some (.int c), some (.int oth), some (.int x), some (.int v), some (.int (v_X12_whoAt c (0 : Int32))), some (.int (v_X12_whoAt c (1 : Int32)))], [.int (I 85 (((2 : Int32) * (v_X12_whoAt c (0 : Int32))).toNatClampNeg)), .int (3 : Int32), .ref 104], (SH, mkM I J T), 0, 0)
    have e32 : (w1_mfe_8 c I) = I 85 (((2 : Int32) * (v_X12_whoAt c (0 : Int32))).toNatClampNeg) := if_neg c1
    rw [e32] at G2
    exact Go.weak (Ev.mono _) (LLe.cons (LLe.cons (LLe.drop (LLe.cons (LLe.drop (LLe.cons (LLe.cons (LLe.cons (LLe.cons LLe.nil))))))))) G2
set_option maxRecDepth 20000 in
theorem mhu_0 {d : Nat} {per c p le : Int32} {I : Nat → Nat → Int32} {J : Nat → Nat → Int64} {T : Nat → Nat → Nat} {Q : Option Value → Mem → Prop} (hyp : ((v_X12_whoAt c p = (-1 : Int32) → Q (some (.int (0 : Int32))) (SH, mkM I J T)) ∧ ((¬ (v_X12_whoAt c p = (-1 : Int32))) → (((v_X12_whoAt c p) ≤ (1 : Int32) → (vp_in (v_X12_whoAt c p) 5 ∧ (vp_in (v_X12_whoAt c p) 5 ∧ (0 ≤ ((si (si I 104 13 p) 104 14 (v_X12_whoAt c p)) 87 (v_X12_whoAt c p).toNatClampNeg) - ((si (si I 104 13 p) 104 14 (v_X12_whoAt c p)) 83 36) → vp_in (v_X12_whoAt c p) 5)))) ∧ Ev mt aM (d + 4) 210 [.ref 83, .int (7 : Int32), .int (104 : Int32), .int (0 : Int32), .int le, .int (0 : Int32)] (SH, mkM (si (si (si I 104 13 p) 104 14 (v_X12_whoAt c p)) 104 15 (v_X12_legsAt per c (v_X12_whoAt c p) (si (si I 104 13 p) 104 14 (v_X12_whoAt c p)))) J T) (fun r m1 => Go none aM (Ev mt aM (d + 4)) mX12_hurtAt Q (59, [some (.ref 83), some (.int per), some (.int c), some (.int p), some (.int le), some (.int (v_X12_whoAt c p))], r.toList ++ [], m1, 0, 0)))))) : Go none aM (Ev mt aM (d + 4)) mX12_hurtAt Q (0, [some (.ref 83), some (.int per), some (.int c), some (.int p), some (.int le), none], [], (SH, mkM I J T), 0, 0) := by
  refine Go.of_run (Ev.mono _) 3 _ ?_
  refine ⟨Nat.le_of_ble_eq_true rfl, ev_X12_whoAt ?_⟩
  show Go none aM (Ev mt aM (d + 4)) mX12_hurtAt Q (5, [some (.ref 83), some (.int per), some (.int c), some (.int p), some (.int le), none], [.int (v_X12_whoAt c p)], (SH, mkM I J T), 0, 0)
  refine Go.of_run (Ev.mono _) 4 _ ?_
  show Go none aM (Ev mt aM (d + 4)) mX12_hurtAt Q (if v_X12_whoAt c p = (-1 : Int32) then 13 else 15, [some (.ref 83), some (.int per), some (.int c), some (.int p), some (.int le), some (.int (v_X12_whoAt c p))], [], (SH, mkM I J T), 0, 0)
  rcases Decidable.em (v_X12_whoAt c p = (-1 : Int32)) with c1 | c1
  · rw [if_pos c1]
    refine Go.of_run (Ev.mono _) 2 _ ?_
    refine ⟨trivial, ?_⟩
    show Q (some (.int (0 : Int32))) (SH, mkM I J T)
    exact (hyp.1 c1)
  · rw [if_neg c1]
    refine Go.of_run (Ev.mono _) 5 _ ?_
    refine ⟨(by unfold vp_in; decide : vp_in (13 : Int32) 16), ?_⟩
    refine go_si rfl ?_
    show Go none aM (Ev mt aM (d + 4)) mX12_hurtAt Q (23, [some (.ref 83), some (.int per), some (.int c), some (.int p), some (.int le), some (.int (v_X12_whoAt c p))], [], (SH, mkM (si I 104 13 p) J T), 0, 0)
    refine Go.of_run (Ev.mono _) 5 _ ?_
    refine ⟨(by unfold vp_in; decide : vp_in (14 : Int32) 16), ?_⟩
    refine go_si rfl ?_
    show Go none aM (Ev mt aM (d + 4)) mX12_hurtAt Q (32, [some (.ref 83), some (.int per), some (.int c), some (.int p), some (.int le), some (.int (v_X12_whoAt c p))], [], (SH, mkM (si (si I 104 13 p) 104 14 (v_X12_whoAt c p)) J T), 0, 0)
    refine Go.of_run (Ev.mono _) 8 _ ?_
    refine ⟨Nat.le_of_ble_eq_true rfl, ev_X12_legsAt (hyp.2 c1).1 ?_⟩
    show Go none aM (Ev mt aM (d + 4)) mX12_hurtAt Q (46, [some (.ref 83), some (.int per), some (.int c), some (.int p), some (.int le), some (.int (v_X12_whoAt c p))], [.int (v_X12_legsAt per c (v_X12_whoAt c p) (si (si I 104 13 p) 104 14 (v_X12_whoAt c p))), .int (15 : Int32), .ref 104], (SH, mkM (si (si I 104 13 p) 104 14 (v_X12_whoAt c p)) J T), 0, 0)
    refine Go.of_run (Ev.mono _) 1 _ ?_
    refine ⟨(by unfold vp_in; decide : vp_in (15 : Int32) 16), ?_⟩
    refine go_si rfl ?_
    show Go none aM (Ev mt aM (d + 4)) mX12_hurtAt Q (47, [some (.ref 83), some (.int per), some (.int c), some (.int p), some (.int le), some (.int (v_X12_whoAt c p))], [], (SH, mkM (si (si (si I 104 13 p) 104 14 (v_X12_whoAt c p)) 104 15 (v_X12_legsAt per c (v_X12_whoAt c p) (si (si I 104 13 p) 104 14 (v_X12_whoAt c p)))) J T), 0, 0)
    refine Go.of_run (Ev.mono _) 7 _ ?_
    refine ⟨Nat.le_of_ble_eq_true rfl, (hyp.2 c1).2⟩
set_option maxRecDepth 20000 in
theorem mhu_59 {d : Nat} {per c p le w v : Int32} {I : Nat → Nat → Int32} {J : Nat → Nat → Int64} {T : Nat → Nat → Nat} {Q : Option Value → Mem → Prop} (hyp : Q (some (.int v)) (SH, mkM I J T)) : Go none aM (Ev mt aM (d + 4)) mX12_hurtAt Q (59, [some (.ref 83), some (.int per), some (.int c), some (.int p), some (.int le), some (.int w)], [.int v], (SH, mkM I J T), 0, 0) := by
  refine Go.of_run (Ev.mono _) 1 _ ?_
  refine ⟨trivial, ?_⟩
  show Q (some (.int v)) (SH, mkM I J T)
  exact hyp
set_option maxRecDepth 20000 in
theorem mlo_0 {d : Nat} {per sc c oth x : Int32} {I : Nat → Nat → Int32} {J : Nat → Nat → Int64} {T : Nat → Nat → Nat} {Q : Option Value → Mem → Prop} (hyp : Ev mt aM (d + 6) 233 [.ref 83, .int per, .int sc, .int c, .int oth, .int x] (SH, mkM I J T) (fun r m1 => Go none aM (Ev mt aM (d + 6)) mX12_lots Q (11, [some (.ref 83), some (.int per), some (.int sc), some (.int c), some (.int oth), some (.int x), none], r.toList ++ [], m1, 0, 0))) : Go none aM (Ev mt aM (d + 6)) mX12_lots Q (0, [some (.ref 83), some (.int per), some (.int sc), some (.int c), some (.int oth), some (.int x), none], [], (SH, mkM I J T), 0, 0) := by
  refine Go.of_run (Ev.mono _) 7 _ ?_
  refine ⟨Nat.le_of_ble_eq_true rfl, hyp⟩
set_option maxRecDepth 20000 in
theorem mlo_11 {d : Nat} {per sc c oth x : Int32} {I : Nat → Nat → Int32} {J : Nat → Nat → Int64} {T : Nat → Nat → Nat} {Q : Option Value → Mem → Prop} (hyp : Ev mt aM (d + 6) 210 [.ref 83, .int (7 : Int32), .int (103 : Int32), .int (0 : Int32), .int (100 : Int32), .int (0 : Int32)] (SH, mkM I J T) (fun r m1 => Go none aM (Ev mt aM (d + 6)) mX12_lots Q (32, [some (.ref 83), some (.int per), some (.int sc), some (.int c), some (.int oth), some (.int x), some (.int (100 : Int32))], r.toList ++ [.int (0 : Int32), .ref 105], m1, 0, 0))) : Go none aM (Ev mt aM (d + 6)) mX12_lots Q (11, [some (.ref 83), some (.int per), some (.int sc), some (.int c), some (.int oth), some (.int x), none], [], (SH, mkM I J T), 0, 0) := by
  refine Go.of_run (Ev.mono _) 12 _ ?_
  refine ⟨Nat.le_of_ble_eq_true rfl, hyp⟩
set_option maxRecDepth 20000 in
theorem mlo_32 {d : Nat} {per sc c oth x le v : Int32} {I : Nat → Nat → Int32} {J : Nat → Nat → Int64} {T : Nat → Nat → Nat} {Q : Option Value → Mem → Prop} (hyp : Ev mt aM (d + 6) 210 [.ref 83, .int (7 : Int32), .int (97 : Int32), .int (0 : Int32), .int (le - v), .int (0 : Int32)] (SH, mkM (si I 105 0 v) J T) (fun r m1 => Go none aM (Ev mt aM (d + 6)) mX12_lots Q (61, [some (.ref 83), some (.int per), some (.int sc), some (.int c), some (.int oth), some (.int x), some (.int (le - v))], r.toList ++ [.int (1 : Int32), .ref 105], m1, 0, 0))) : Go none aM (Ev mt aM (d + 6)) mX12_lots Q (32, [some (.ref 83), some (.int per), some (.int sc), some (.int c), some (.int oth), some (.int x), some (.int le)], [.int v, .int (0 : Int32), .ref 105], (SH, mkM I J T), 0, 0) := by
  refine Go.of_run (Ev.mono _) 1 _ ?_
  refine ⟨(by unfold vp_in; decide : vp_in (0 : Int32) 5), ?_⟩
  refine go_si rfl ?_
  show Go none aM (Ev mt aM (d + 6)) mX12_lots Q (33, [some (.ref 83), some (.int per), some (.int sc), some (.int c), some (.int oth), some (.int x), some (.int le)], [], (SH, mkM (si I 105 0 v) J T), 0, 0)
  refine Go.of_run (Ev.mono _) 5 _ ?_
  refine ⟨(by unfold vp_in; decide : vp_in (0 : Int32) 5), ?_⟩
  show Go none aM (Ev mt aM (d + 6)) mX12_lots Q (41, [some (.ref 83), some (.int per), some (.int sc), some (.int c), some (.int oth), some (.int x), some (.int le)], [.int v, .int le], (SH, mkM (si I 105 0 v) J T), 0, 0)
  refine Go.of_run (Ev.mono _) 12 _ ?_
  refine ⟨Nat.le_of_ble_eq_true rfl, hyp⟩
set_option maxRecDepth 20000 in
theorem mlo_61 {d : Nat} {per sc c oth x le v : Int32} {I : Nat → Nat → Int32} {J : Nat → Nat → Int64} {T : Nat → Nat → Nat} {Q : Option Value → Mem → Prop} (hyp : Ev mt aM (d + 6) 234 [.ref 83, .int per, .int c, .int (0 : Int32), .int (le - v)] (SH, mkM (si I 105 1 v) J T) (fun r m1 => Go none aM (Ev mt aM (d + 6)) mX12_lots Q (87, [some (.ref 83), some (.int per), some (.int sc), some (.int c), some (.int oth), some (.int x), some (.int (le - v))], r.toList ++ [.int (2 : Int32), .ref 105], m1, 0, 0))) : Go none aM (Ev mt aM (d + 6)) mX12_lots Q (61, [some (.ref 83), some (.int per), some (.int sc), some (.int c), some (.int oth), some (.int x), some (.int le)], [.int v, .int (1 : Int32), .ref 105], (SH, mkM I J T), 0, 0) := by
  refine Go.of_run (Ev.mono _) 1 _ ?_
  refine ⟨(by unfold vp_in; decide : vp_in (1 : Int32) 5), ?_⟩
  refine go_si rfl ?_
  show Go none aM (Ev mt aM (d + 6)) mX12_lots Q (62, [some (.ref 83), some (.int per), some (.int sc), some (.int c), some (.int oth), some (.int x), some (.int le)], [], (SH, mkM (si I 105 1 v) J T), 0, 0)
  refine Go.of_run (Ev.mono _) 5 _ ?_
  refine ⟨(by unfold vp_in; decide : vp_in (1 : Int32) 5), ?_⟩
  show Go none aM (Ev mt aM (d + 6)) mX12_lots Q (70, [some (.ref 83), some (.int per), some (.int sc), some (.int c), some (.int oth), some (.int x), some (.int le)], [.int v, .int le], (SH, mkM (si I 105 1 v) J T), 0, 0)
  refine Go.of_run (Ev.mono _) 11 _ ?_
  refine ⟨Nat.le_of_ble_eq_true rfl, hyp⟩
set_option maxRecDepth 20000 in
theorem mlo_87 {d : Nat} {per sc c oth x le v : Int32} {I : Nat → Nat → Int32} {J : Nat → Nat → Int64} {T : Nat → Nat → Nat} {Q : Option Value → Mem → Prop} (hyp : Ev mt aM (d + 6) 234 [.ref 83, .int per, .int c, .int (1 : Int32), .int (le - v)] (SH, mkM (si I 105 2 v) J T) (fun r m1 => Go none aM (Ev mt aM (d + 6)) mX12_lots Q (113, [some (.ref 83), some (.int per), some (.int sc), some (.int c), some (.int oth), some (.int x), some (.int (le - v))], r.toList ++ [.int (3 : Int32), .ref 105], m1, 0, 0))) : Go none aM (Ev mt aM (d + 6)) mX12_lots Q (87, [some (.ref 83), some (.int per), some (.int sc), some (.int c), some (.int oth), some (.int x), some (.int le)], [.int v, .int (2 : Int32), .ref 105], (SH, mkM I J T), 0, 0) := by
  refine Go.of_run (Ev.mono _) 1 _ ?_
  refine ⟨(by unfold vp_in; decide : vp_in (2 : Int32) 5), ?_⟩
  refine go_si rfl ?_
  show Go none aM (Ev mt aM (d + 6)) mX12_lots Q (88, [some (.ref 83), some (.int per), some (.int sc), some (.int c), some (.int oth), some (.int x), some (.int le)], [], (SH, mkM (si I 105 2 v) J T), 0, 0)
  refine Go.of_run (Ev.mono _) 5 _ ?_
  refine ⟨(by unfold vp_in; decide : vp_in (2 : Int32) 5), ?_⟩
  show Go none aM (Ev mt aM (d + 6)) mX12_lots Q (96, [some (.ref 83), some (.int per), some (.int sc), some (.int c), some (.int oth), some (.int x), some (.int le)], [.int v, .int le], (SH, mkM (si I 105 2 v) J T), 0, 0)
  refine Go.of_run (Ev.mono _) 11 _ ?_
  refine ⟨Nat.le_of_ble_eq_true rfl, hyp⟩
set_option maxRecDepth 20000 in
theorem mlo_113 {d : Nat} {per sc c oth x le v : Int32} {I : Nat → Nat → Int32} {J : Nat → Nat → Int64} {T : Nat → Nat → Nat} {Q : Option Value → Mem → Prop} (hyp : Q none (SH, mkM (si (si I 105 3 v) 105 4 (le - v)) J T)) : Go none aM (Ev mt aM (d + 6)) mX12_lots Q (113, [some (.ref 83), some (.int per), some (.int sc), some (.int c), some (.int oth), some (.int x), some (.int le)], [.int v, .int (3 : Int32), .ref 105], (SH, mkM I J T), 0, 0) := by
  refine Go.of_run (Ev.mono _) 1 _ ?_
  refine ⟨(by unfold vp_in; decide : vp_in (3 : Int32) 5), ?_⟩
  refine go_si rfl ?_
  show Go none aM (Ev mt aM (d + 6)) mX12_lots Q (114, [some (.ref 83), some (.int per), some (.int sc), some (.int c), some (.int oth), some (.int x), some (.int le)], [], (SH, mkM (si I 105 3 v) J T), 0, 0)
  refine Go.of_run (Ev.mono _) 8 _ ?_
  refine ⟨(by unfold vp_in; decide : vp_in (3 : Int32) 5), ?_⟩
  show Go none aM (Ev mt aM (d + 6)) mX12_lots Q (127, [some (.ref 83), some (.int per), some (.int sc), some (.int c), some (.int oth), some (.int x), some (.int le)], [.int v, .int le, .int (4 : Int32), .ref 105], (SH, mkM (si I 105 3 v) J T), 0, 0)
  refine Go.of_run (Ev.mono _) 2 _ ?_
  refine ⟨(by unfold vp_in; decide : vp_in (4 : Int32) 5), ?_⟩
  refine go_si rfl ?_
  show Go none aM (Ev mt aM (d + 6)) mX12_lots Q (129, [some (.ref 83), some (.int per), some (.int sc), some (.int c), some (.int oth), some (.int x), some (.int le)], [], (SH, mkM (si (si I 105 3 v) 105 4 (le - v)) J T), 0, 0)
  refine Go.of_run (Ev.mono _) 1 _ ?_
  refine ⟨trivial, ?_⟩
  show Q none (SH, mkM (si (si I 105 3 v) 105 4 (le - v)) J T)
  exact hyp
set_option maxRecDepth 20000 in
theorem mru_0 {d : Nat} {k per sc c oth : Int32} {I : Nat → Nat → Int32} {J : Nat → Nat → Int64} {T : Nat → Nat → Nat} {Q : Option Value → Mem → Prop} (hyp : Ev mt aM (d + 6) 233 [.ref 83, .int per, .int sc, .int c, .int oth, .int (0 : Int32)] (SH, mkM I J T) (fun r m1 => Go none aM (Ev mt aM (d + 6)) mX12_ruled Q (11, [some (.ref 83), some (.int k), some (.int per), some (.int sc), some (.int c), some (.int oth), none], r.toList ++ [], m1, 0, 0))) : Go none aM (Ev mt aM (d + 6)) mX12_ruled Q (0, [some (.ref 83), some (.int k), some (.int per), some (.int sc), some (.int c), some (.int oth), none], [], (SH, mkM I J T), 0, 0) := by
  refine Go.of_run (Ev.mono _) 7 _ ?_
  refine ⟨Nat.le_of_ble_eq_true rfl, hyp⟩
set_option maxRecDepth 20000 in
theorem mru_11 {d : Nat} {k per sc c oth : Int32} {I : Nat → Nat → Int32} {J : Nat → Nat → Int64} {T : Nat → Nat → Nat} {Q : Option Value → Mem → Prop} (hyp : Ev mt aM (d + 6) 210 [.ref 83, .int ((3 : Int32) + k), .int (99 : Int32), .int (-2147483648 : Int32), .int (2147483647 : Int32), .int (0 : Int32)] (SH, mkM I J T) (fun r m1 => Go none aM (Ev mt aM (d + 6)) mX12_ruled Q (27, [some (.ref 83), some (.int k), some (.int per), some (.int sc), some (.int c), some (.int oth), none], r.toList ++ [], m1, 0, 0))) : Go none aM (Ev mt aM (d + 6)) mX12_ruled Q (11, [some (.ref 83), some (.int k), some (.int per), some (.int sc), some (.int c), some (.int oth), none], [], (SH, mkM I J T), 0, 0) := by
  refine Go.of_run (Ev.mono _) 9 _ ?_
  refine ⟨Nat.le_of_ble_eq_true rfl, hyp⟩
def w1_mru_27 (c : Int32) (v : Int32) (I : Nat → Nat → Int32) : Int32 := if v_X12_mayBe c v I = 0 then (0 : Int32) else v
def w2_mru_27 (c : Int32) (v : Int32) (I : Nat → Nat → Int32) : Int32 := if v_X12_in v (0 : Int32) (48 : Int32) = 0 then (0 : Int32) else w1_mru_27 c v I
set_option maxRecDepth 20000 in
theorem mru_27 {d : Nat} {k per sc c oth v : Int32} {I : Nat → Nat → Int32} {J : Nat → Nat → Int64} {T : Nat → Nat → Nat} {Q : Option Value → Mem → Prop} (hyp : Q (some (.int (w2_mru_27 c v I))) (SH, mkM I J T)) : Go none aM (Ev mt aM (d + 6)) mX12_ruled Q (27, [some (.ref 83), some (.int k), some (.int per), some (.int sc), some (.int c), some (.int oth), none], [.int v], (SH, mkM I J T), 0, 0) := by
  refine Go.of_run (Ev.mono _) 5 _ ?_
  refine ⟨Nat.le_of_ble_eq_true rfl, ev_X12_in ?_⟩
  show Go none aM (Ev mt aM (d + 6)) mX12_ruled Q (37, [some (.ref 83), some (.int k), some (.int per), some (.int sc), some (.int c), some (.int oth), some (.int v)], [.int (v_X12_in v (0 : Int32) (48 : Int32))], (SH, mkM I J T), 0, 0)
  refine Go.of_run (Ev.mono _) 1 _ ?_
  show Go none aM (Ev mt aM (d + 6)) mX12_ruled Q (if v_X12_in v (0 : Int32) (48 : Int32) = 0 then 56 else 40, [some (.ref 83), some (.int k), some (.int per), some (.int sc), some (.int c), some (.int oth), some (.int v)], [], (SH, mkM I J T), 0, 0)
  have G2 : Go none aM (Ev mt aM (d + 6)) mX12_ruled Q (57, [none, none, none, none, none, none, none], [.int (w2_mru_27 c v I)], (SH, mkM I J T), 0, 0) := by
    refine Go.of_run (Ev.mono _) 1 _ ?_
    refine ⟨trivial, ?_⟩
    show Q (some (.int (w2_mru_27 c v I))) (SH, mkM I J T)
    exact hyp
  rcases Decidable.em (v_X12_in v (0 : Int32) (48 : Int32) = 0) with c1 | c1
  · rw [if_pos c1]
    refine Go.of_run (Ev.mono _) 1 _ ?_
    have e3 : (w2_mru_27 c v I) = (0 : Int32) := if_pos c1
    rw [e3] at G2
    exact Go.weak (Ev.mono _) (LLe.drop (LLe.drop (LLe.drop (LLe.drop (LLe.drop (LLe.drop (LLe.drop LLe.nil))))))) G2
  · rw [if_neg c1]
    refine Go.of_run (Ev.mono _) 4 _ ?_
    refine ⟨Nat.le_of_ble_eq_true rfl, ev_X12_mayBe ?_⟩
    show Go none aM (Ev mt aM (d + 6)) mX12_ruled Q (48, [some (.ref 83), some (.int k), some (.int per), some (.int sc), some (.int c), some (.int oth), some (.int v)], [.int (v_X12_mayBe c v I)], (SH, mkM I J T), 0, 0)
    refine Go.of_run (Ev.mono _) 1 _ ?_
    show Go none aM (Ev mt aM (d + 6)) mX12_ruled Q (if v_X12_mayBe c v I = 0 then 56 else 51, [some (.ref 83), some (.int k), some (.int per), some (.int sc), some (.int c), some (.int oth), some (.int v)], [], (SH, mkM I J T), 0, 0)
    have G5 : Go none aM (Ev mt aM (d + 6)) mX12_ruled Q (57, [none, none, none, none, none, none, none], [.int (w1_mru_27 c v I)], (SH, mkM I J T), 0, 0) := by
      have e6 : (w2_mru_27 c v I) = w1_mru_27 c v I := if_neg c1
      rw [e6] at G2
      exact G2
    rcases Decidable.em (v_X12_mayBe c v I = 0) with c4 | c4
    · rw [if_pos c4]
      refine Go.of_run (Ev.mono _) 1 _ ?_
      have e7 : (w1_mru_27 c v I) = (0 : Int32) := if_pos c4
      rw [e7] at G5
      exact Go.weak (Ev.mono _) (LLe.drop (LLe.drop (LLe.drop (LLe.drop (LLe.drop (LLe.drop (LLe.drop LLe.nil))))))) G5
    · rw [if_neg c4]
      refine Go.of_run (Ev.mono _) 2 _ ?_
      have e8 : (w1_mru_27 c v I) = v := if_neg c4
      rw [e8] at G5
      exact Go.weak (Ev.mono _) (LLe.drop (LLe.drop (LLe.drop (LLe.drop (LLe.drop (LLe.drop (LLe.drop LLe.nil))))))) G5
theorem c1N (a n : Nat) (h : a + n < 2 ^ 31) : (nI a + nI n).toNatClampNeg = a + n := by
  rw [nI_add, nI_clamp h]
theorem LM0_row {A : Tm} {per : Nat} {sc : Int32} {I : Nat → Nat → Int32} (h : I 1 0 = nI (qN A)) : ∀ j, j < 16 → i_X2_setMoment (nI per) sc I 11 j = LM0 A per sc j := by
  intro j hj
  rw [(sm_row (nI per) sc I).2 j hj, h]
  rfl
theorem ev_strongOf {d oth per : Nat} {sc : Int32} {A : Tm} {I : Nat → Nat → Int32} {J : Nat → Nat → Int64} {T : Nat → Nat → Nat} {Q : Option Value → Mem → Prop} (hA : BD A) (hR : RC A I T) (ho : oth < 3) (g : ∀ I', Fr [10, 11, 12] I I' → Q (some (.int (nI (stF A oth per sc)))) (SH, mkM I' J T)) : Ev mt aM (d + 5) 27 [.ref 9, .int (nI oth), .int (nI per), .int sc] (SH, mkM I J T) Q := by
  obtain ⟨ht, hrt⟩ := hR.2.2.2.2.2.2.2.2 (1 + oth) (by omega)
  have hw := hA.2.2.2.2.2.2.2.2 (1 + oth) (by omega)
  have e : ((1 : Int32) + nI oth).toNatClampNeg = 1 + oth := c1N 1 oth (by omega)
  have f0 := (sm_row (nI per) sc I).1
  refine Ev.intro mX2_strongOf rfl rfl (str_0 ⟨?_, ?_⟩)
  · rw [show (1 : Int32) = nI 1 from rfl, nI_add]; exact vp_in_nI (by omega) (by omega)
  rw [e]
  refine ev_ask (hd := 111) (F := LM0 A per sc) ht hw (by omega) (hrt.fr (fun k hk => tx_el rfl ht hk) f0) (LM0_row hR.1) (fun I1 f1 => str_22 ?_)
  rw [within_c, show (99 : Int32) = nI 99 from rfl, (clN_all (by omega) _).2]
  exact g I1 ((f0.sub rfl).trans (f1.sub rfl))
/-- the class's letters for a rule or THE LAW -/
theorem LT_row {A : Tm} {o per pace st x most : Nat} {sc : Int32} {I X : Nat → Nat → Int32} {T : Nat → Nat → Nat} (hA : BD A) (hR : RC A I T) (h : CD o) (hp : per ≤ 5) (hpa : pace ≤ 1) (hX : ∀ j, j < 16 → X 11 j = if j = 12 then nI pace else if j = 11 then nI st else if j = 9 then nI most - nI (mdN o) else if j = 8 then nI x else if j = 10 then w6_X2_setPlaces (nI per) (dI o) (nI pace) (i_X2_setMoment (nI per) sc I) else if j = 7 then w3_X2_setPlaces (dI o) + w4_X2_setPlaces (dI o) else w2_X2_setPlaces (nI per) (dI o) (nI pace) (i_X2_setMoment (nI per) sc I) 11 j) : ∀ j, j < 16 → X 11 j = LT A per sc o st x most pace j := by
  obtain ⟨f0, m0⟩ := sm_row (nI per) sc I
  obtain ⟨a1, a2, a3, a4, a5, a6, a7, a8, a9⟩ := hR
  obtain ⟨s1, s2, s3, s4⟩ := sp_row (A := A) (o := o) (per := per) (pace := pace) (M := i_X2_setMoment (nI per) sc I) h hA hp hpa (fun j hj => by rw [f0 2 rfl]; exact a5 j hj) (fun j hj => by rw [f0 3 rfl]; exact a6 j hj) (fun j hj => by rw [f0 4 rfl]; exact a7 j hj) (fun j hj => by rw [f0 5 rfl]; exact a8 j hj) (fun j h1 h2 => by
    rw [m0 j (by omega)]
    rcases (show j = 3 ∨ j = 4 ∨ j = 5 ∨ j = 6 by omega) with rfl | rfl | rfl | rfl <;> rfl)
  intro j hj
  rw [hX j hj, s3, s4, s2, m0 j hj, a1]
  rcases (show j = 0 ∨ j = 1 ∨ j = 2 ∨ j = 3 ∨ j = 4 ∨ j = 5 ∨ j = 6 ∨ j = 7 ∨ j = 8 ∨ j = 9 ∨ j = 10 ∨ j = 11 ∨ j = 12 ∨ j = 13 ∨ j = 14 ∨ j = 15 by omega) with rfl | rfl | rfl | rfl | rfl | rfl | rfl | rfl | rfl | rfl | rfl | rfl | rfl | rfl | rfl | rfl <;> rfl
theorem sp_fr {A : Tm} {o per pace : Nat} {sc : Int32} {I : Nat → Nat → Int32} {T : Nat → Nat → Nat} (hA : BD A) (hR : RC A I T) (h : CD o) (hp : per ≤ 5) (hpa : pace ≤ 1) : Fr [11] I (w2_X2_setPlaces (nI per) (dI o) (nI pace) (i_X2_setMoment (nI per) sc I)) := by
  obtain ⟨f0, m0⟩ := sm_row (nI per) sc I
  obtain ⟨a1, a2, a3, a4, a5, a6, a7, a8, a9⟩ := hR
  obtain ⟨s1, s2, s3, s4⟩ := sp_row (A := A) (o := o) (per := per) (pace := pace) (M := i_X2_setMoment (nI per) sc I) h hA hp hpa (fun j hj => by rw [f0 2 rfl]; exact a5 j hj) (fun j hj => by rw [f0 3 rfl]; exact a6 j hj) (fun j hj => by rw [f0 4 rfl]; exact a7 j hj) (fun j hj => by rw [f0 5 rfl]; exact a8 j hj) (fun j h1 h2 => by
    rw [m0 j (by omega)]
    rcases (show j = 3 ∨ j = 4 ∨ j = 5 ∨ j = 6 by omega) with rfl | rfl | rfl | rfl <;> rfl)
  exact f0.trans s1
theorem ruF_c {A : Tm} {k per o st : Nat} {sc : Int32} (hA : BD A) (h : CD o) : (if v_X7_mayBe (dI o) (ruV A k per sc o st) (nI (qC A)) (nI (qO A)) = 0 then (0 : Int32) else ruV A k per sc o st) = nI (ruF A k per sc o st) := by
  have hC := hA.2.1
  have hO := hA.2.2.1
  unfold ruF
  generalize ruV A k per sc o st = v
  by_cases hr : 0 ≤ v ∧ v < 49
  · have h2 : ¬ v < 0 := by
      have := hr.1
      rw [Int32.lt_iff_toInt_lt]
      rw [Int32.le_iff_toInt_le] at this
      omega
    obtain ⟨a, a1, rfl⟩ := nI_of h2
    have ha : a < 49 := (nI_ltI a1 (by omega)).mp (show nI a < nI 49 from hr.2)
    rw [cN_nI (by omega), may_c h ha hC (by omega)]
    by_cases hm : mayF o a (qC A) (qO A) = true
    · rw [hm, if_neg (show ¬ bI true = 0 by decide), if_pos ⟨hr, rfl⟩]
    · have hm' : mayF o a (qC A) (qO A) = false := by simpa using hm
      rw [hm', if_pos (show bI false = 0 from rfl), if_neg (fun q => by cases q.2)]
      rfl
  · rw [may_out hr, if_pos rfl, if_neg (fun q => hr q.1)]
    rfl
theorem ev_ruleAction {d k per o st : Nat} {sc : Int32} {A : Tm} {I : Nat → Nat → Int32} {J : Nat → Nat → Int64} {T : Nat → Nat → Nat} {Q : Option Value → Mem → Prop} (hA : BD A) (hR : RC A I T) (hk : k < 4) (hp : per ≤ 5) (h : CD o) (g : ∀ I', Fr [10, 11, 12] I I' → Q (some (.int (nI (ruF A k per sc o st)))) (SH, mkM I' J T)) : Ev mt aM (d + 5) 28 [.ref 9, .int (nI k), .int (nI per), .int sc, .int (dI o), .int (nI st)] (SH, mkM I J T) Q := by
  obtain ⟨ht, hrt⟩ := hR.2.2.2.2.2.2.2.2 (4 + k) (by omega)
  have hw := hA.2.2.2.2.2.2.2.2 (4 + k) (by omega)
  have e : ((4 : Int32) + nI k).toNatClampNeg = 4 + k := c1N 4 k (by omega)
  have f0 := sp_fr (pace := 0) (sc := sc) hA hR h hp (by omega)
  have f1 : Fr [11] I (si (si (si (si (w2_X2_setPlaces (nI per) (dI o) (0 : Int32) (i_X2_setMoment (nI per) sc I)) 11 ((7 : Int32).toNatClampNeg) ((w3_X2_setPlaces (dI o)) + (w4_X2_setPlaces (dI o)))) 11 ((10 : Int32).toNatClampNeg) (w6_X2_setPlaces (nI per) (dI o) (0 : Int32) (i_X2_setMoment (nI per) sc I))) 11 ((9 : Int32).toNatClampNeg) (((w2_X2_setPlaces (nI per) (dI o) (0 : Int32) (i_X2_setMoment (nI per) sc I)) 1 1) - (v_X7_changesMade (dI o)))) 11 ((11 : Int32).toNatClampNeg) (nI st)) := f0.to rfl |>.to rfl |>.to rfl |>.to rfl
  obtain ⟨p1, p2, p3⟩ := sp_pre h
  refine Ev.intro mX2_ruleAction rfl rfl (rul_0 ⟨p1, p2, p3, ?_, ?_⟩)
  · rw [show (4 : Int32) = nI 4 from rfl, nI_add]; exact vp_in_nI (by omega) (by omega)
  rw [e]
  refine ev_ask (hd := 99) (F := LT A per sc o st 0 (qC A) 0) ht hw (by omega) (hrt.fr (fun k hk => tx_el rfl ht hk) f1) (LT_row hA hR h hp (by omega) (fun j hj => ?_)) (fun I1 f2 => rul_63 ?_)
  · rw [show (w2_X2_setPlaces (nI per) (dI o) (0 : Int32) (i_X2_setMoment (nI per) sc I)) 1 1 = nI (qC A) from (congrFun (f0 1 rfl) 1).trans hR.2.1, made_c h.1]
    rcases (show j = 0 ∨ j = 1 ∨ j = 2 ∨ j = 3 ∨ j = 4 ∨ j = 5 ∨ j = 6 ∨ j = 7 ∨ j = 8 ∨ j = 9 ∨ j = 10 ∨ j = 11 ∨ j = 12 ∨ j = 13 ∨ j = 14 ∨ j = 15 by omega) with rfl | rfl | rfl | rfl | rfl | rfl | rfl | rfl | rfl | rfl | rfl | rfl | rfl | rfl | rfl | rfl
    case inr.inr.inr.inr.inr.inr.inr.inr.inl =>
      refine ((sp_row (A := A) (o := o) (per := per) (pace := 0) (M := i_X2_setMoment (nI per) sc I) h hA hp (by omega) ?_ ?_ ?_ ?_ ?_).2.1 8).trans ?_
      · exact fun j hj => (congrFun ((sm_row (nI per) sc I).1 2 rfl) j).trans (hR.2.2.2.2.1 j hj)
      · exact fun j hj => (congrFun ((sm_row (nI per) sc I).1 3 rfl) j).trans (hR.2.2.2.2.2.1 j hj)
      · exact fun j hj => (congrFun ((sm_row (nI per) sc I).1 4 rfl) j).trans (hR.2.2.2.2.2.2.1 j hj)
      · exact fun j hj => (congrFun ((sm_row (nI per) sc I).1 5 rfl) j).trans (hR.2.2.2.2.2.2.2.1 j hj)
      · intro j h1 h2
        rw [(sm_row (nI per) sc I).2 j (by omega)]
        rcases (show j = 3 ∨ j = 4 ∨ j = 5 ∨ j = 6 by omega) with rfl | rfl | rfl | rfl <;> rfl
      · exact (sm_row (nI per) sc I).2 8 (by omega)
    case inr.inr.inr.inr.inr.inr.inr.inr.inr.inr.inr.inr.inl =>
      refine ((sp_row (A := A) (o := o) (per := per) (pace := 0) (M := i_X2_setMoment (nI per) sc I) h hA hp (by omega) ?_ ?_ ?_ ?_ ?_).2.1 12).trans ?_
      · exact fun j hj => (congrFun ((sm_row (nI per) sc I).1 2 rfl) j).trans (hR.2.2.2.2.1 j hj)
      · exact fun j hj => (congrFun ((sm_row (nI per) sc I).1 3 rfl) j).trans (hR.2.2.2.2.2.1 j hj)
      · exact fun j hj => (congrFun ((sm_row (nI per) sc I).1 4 rfl) j).trans (hR.2.2.2.2.2.2.1 j hj)
      · exact fun j hj => (congrFun ((sm_row (nI per) sc I).1 5 rfl) j).trans (hR.2.2.2.2.2.2.2.1 j hj)
      · intro j h1 h2
        rw [(sm_row (nI per) sc I).2 j (by omega)]
        rcases (show j = 3 ∨ j = 4 ∨ j = 5 ∨ j = 6 by omega) with rfl | rfl | rfl | rfl <;> rfl
      · exact (sm_row (nI per) sc I).2 12 (by omega)
    all_goals rfl
  · have f3 : Fr [10, 11, 12] I I1 := (f1.sub rfl).trans (f2.sub rfl)
    have hv : w1_rul_63 (dI o) (ruV A k per sc o st) I1 = nI (ruF A k per sc o st) := by
      unfold w1_rul_63
      rw [f3 1 rfl, hR.2.1, hR.2.2.1]
      exact ruF_c hA h
    show Q (some (.int (w1_rul_63 (dI o) (ruV A k per sc o st) I1))) _
    rw [hv]
    exact g I1 f3
/-- one PLACE's hurt, in the class -/
theorem sha_step {d per o pace p left sh x st most t : Nat} {sc : Int32} {A : Tm} {I : Nat → Nat → Int32} {J : Nat → Nat → Int64} {T : Nat → Nat → Nat} {Q : Option Value → Mem → Prop} (hA : BD A) (hR : RC A I T) (ht0 : t = T 13 0) (hp2 : p < 2) (hp : per ≤ 5) (hpa : pace ≤ 1) (h : CD o) (hle : left ≤ 100) (hsh : sh < 2 ^ (14 + 7 * p)) (hF : ∀ j, j < 13 → I 11 j = LT A per sc o st x most pace j)
    (g : ∀ I', Fr [10, 11, 12] I I' → (∀ j, j < 13 → I' 11 j = LT A per sc o st x most pace j) → Go none aM (Ev mt aM (d + 4)) mX2_shares Q (132, [some (.ref 9), some (.int (nI per)), none, some (.int (dI o)), none, none, none, some (.int (nI pace)), some (.ref t), none, none, some (.int (nI (sh + 2 ^ (14 + 7 * p) * sH A per sc o st x most pace p left))), some (.int (nI (left - sH A per sc o st x most pace p left))), some (.int (nI (p + 1))), none, none], [], (SH, mkM I' J T), 0, 0)) : Go none aM (Ev mt aM (d + 4)) mX2_shares Q (132, [some (.ref 9), some (.int (nI per)), none, some (.int (dI o)), none, none, none, some (.int (nI pace)), some (.ref t), none, none, some (.int (nI sh)), some (.int (nI left)), some (.int (nI p)), none, none], [], (SH, mkM I J T), 0, 0) := by
  obtain ⟨ht, hrt⟩ := hR.2.2.2.2.2.2.2.2 0 (by omega)
  have hw := hA.2.2.2.2.2.2.2.2 0 (by omega)
  have c13 : (13 : Int32).toNatClampNeg = 13 := rfl
  have c14 : (14 : Int32).toNatClampNeg = 14 := rfl
  have c15 : (15 : Int32).toNatClampNeg = 15 := rfl
  have none1 : wh o p = 9 → Go none aM (Ev mt aM (d + 4)) mX2_shares Q (132, [some (.ref 9), some (.int (nI per)), none, some (.int (dI o)), none, none, none, some (.int (nI pace)), some (.ref t), none, none, some (.int (nI sh)), some (.int (nI left)), some (.int (nI (p + 1))), none, none], [], (SH, mkM I J T), 0, 0) := by
    intro hn
    have q := g I (Fr.rfl' _ _) hF
    have e0 : sH A per sc o st x most pace p left = 0 := if_pos hn
    rw [e0, Nat.mul_zero] at q
    exact q
  have some1 : ∀ (w : Nat) (M : Nat → Nat → Int32), w = wh o p → w < 5 → (2 ≤ w → 1 ≤ dgN o w ∧ dgN o w ≤ 6) → M = si (si (si I 11 13 (nI p)) 11 14 (nI w)) 11 15 (nI (lgF A per o w pace)) → (∀ I1, Fr [10, 12] M I1 → Go none aM (Ev mt aM (d + 4)) mX2_shares Q (132, [some (.ref 9), some (.int (nI per)), none, some (.int (dI o)), none, none, none, some (.int (nI pace)), some (.ref t), none, none, some (.int (nI (sh + 2 ^ (14 + 7 * p) * sH A per sc o st x most pace p left))), some (.int (nI (left - sH A per sc o st x most pace p left))), some (.int (nI (p + 1))), none, none], [], (SH, mkM I1 J T), 0, 0)) := by
    intro w M e1 e2 e3 e4 I1 f1
    have f2 : Fr [11] I M := by rw [e4]; exact (Fr.rfl' _ _).to rfl |>.to rfl |>.to rfl
    refine g I1 ((f2.sub rfl).trans (f1.sub rfl)) (fun j hj => ?_)
    rw [f1 11 rfl, e4, si_ne (by omega), si_ne (by omega), si_ne (by omega)]
    exact hF j hj
  have legs : ∀ (i : Nat) (X : Nat → Nat → Int32), i < 5 → (2 ≤ i → 1 ≤ dgN o i ∧ dgN o i ≤ 6) → X 3 = I 3 → X 4 = I 4 → v_X7_legsOf (nI i) (nI per) (dI o) (nI pace) X = nI (lgF A per o i pace) := by
    intro i X hi hd e3 e4
    exact legs_c h.1 hi hd hA hp hpa (fun j hj => by rw [e3]; exact hR.2.2.2.2.2.1 j hj) (fun j hj => by rw [e4]; exact hR.2.2.2.2.2.2.1 j hj)
  have done1 : ∀ (w : Nat), w = wh o p → w < 5 → nI sh ||| ((v_X2_within (askF (qP A 0) 104 (LTH p w (lgF A per o w pace) (LT A per sc o st x most pace))) (nI left)) <<< ((nI (14 + 7 * p)) &&& 31)) = nI (sh + 2 ^ (14 + 7 * p) * sH A per sc o st x most pace p left) ∧ nI left - v_X2_within (askF (qP A 0) 104 (LTH p w (lgF A per o w pace) (LT A per sc o st x most pace))) (nI left) = nI (left - sH A per sc o st x most pace p left) := by
    intro w e1 e2
    have e0 : sH A per sc o st x most pace p left = clN left (askF (qP A 0) 104 (LTH p w (lgF A per o w pace) (LT A per sc o st x most pace))) := by
      subst e1
      exact if_neg (by omega)
    have hb := clN_all (m := left) (by omega) (askF (qP A 0) 104 (LTH p w (lgF A per o w pace) (LT A per sc o st x most pace)))
    rw [within_c, hb.2, ← e0]
    rw [← e0] at hb
    refine ⟨?_, pk_sub hb.1⟩
    have hs : nI (sH A per sc o st x most pace p left) <<< ((nI (14 + 7 * p)) &&& 31) = nI (sH A per sc o st x most pace p left * 2 ^ (14 + 7 * p)) := by
      apply pk_shlN _ (14 + 7 * p)
      · rcases (show p = 0 ∨ p = 1 by omega) with rfl | rfl <;> decide
      · rcases (show p = 0 ∨ p = 1 by omega) with rfl | rfl <;> omega
    rw [hs, Nat.mul_comm, pk_or hsh, Nat.add_comm]
  subst ht0
  rcases (show p = 0 ∨ p = 1 by omega) with rfl | rfl
  · rcases wh_cases h hp2 with ⟨k1, k2, _⟩ | ⟨k1, _, k2, _, k3⟩
    · have k2 : v_X7_whoIsAt (dI o) (0 : Int32) = -1 := k2
      refine sha_p0 ⟨fun _ => none1 k1, fun n => ?_⟩
      rw [k2] at n; exact absurd neg1 n
    · have k2 : v_X7_whoIsAt (dI o) (0 : Int32) = nI (wh o 0) := k2
      refine sha_p0 ⟨fun n => ?_, fun _ => ⟨fun _ => ?_, ?_⟩⟩
      · rw [k2] at n; exact absurd n (nI_pos (by omega))
      · rw [k2]; exact ⟨vp_in_nI k1 (by omega), vp_in_nI k1 (by omega)⟩
      · rw [k2, legs (wh o 0) _ k1 k3 (by rw [si_row (by omega), si_row (by omega)]) (by rw [si_row (by omega), si_row (by omega)]), c13, c14, c15]
        have f2 : Fr [11] I (si (si (si I 11 13 (0 : Int32)) 11 14 (nI (wh o 0))) 11 15 (nI (lgF A per o (wh o 0) pace))) := (Fr.rfl' _ _).to rfl |>.to rfl |>.to rfl
        refine ev_ask (hd := 104) (F := LTH 0 (wh o 0) (lgF A per o (wh o 0) pace) (LT A per sc o st x most pace)) ht hw (by omega) (hrt.fr (fun k hk => tx_el rfl ht hk) f2) (fun j hj => ?_) (fun I1 f1 => sha_h0 ?_)
        · unfold LTH
          by_cases j13 : j = 13
          · subst j13; simp [si]; rfl
          by_cases j14 : j = 14
          · subst j14; simp [si]
          by_cases j15 : j = 15
          · subst j15; simp [si]
          rw [if_neg j13, if_neg j14, if_neg j15, si_ne j15, si_ne j14, si_ne j13]
          exact hF j (by omega)
        · rw [(done1 (wh o 0) rfl k1).2]
          have q := (done1 (wh o 0) rfl k1).1
          rw [show nI sh ||| ((v_X2_within (askF (qP A 0) 104 (LTH 0 (wh o 0) (lgF A per o (wh o 0) pace) (LT A per sc o st x most pace))) (nI left)) <<< ((14 : Int32) &&& 31)) = _ from q]
          exact some1 (wh o 0) _ rfl k1 k3 rfl I1 f1
  · rcases wh_cases h hp2 with ⟨k1, k2, _⟩ | ⟨k1, _, k2, _, k3⟩
    · have k2 : v_X7_whoIsAt (dI o) (1 : Int32) = -1 := k2
      refine sha_p1 ⟨fun _ => none1 k1, fun n => ?_⟩
      rw [k2] at n; exact absurd neg1 n
    · have k2 : v_X7_whoIsAt (dI o) (1 : Int32) = nI (wh o 1) := k2
      refine sha_p1 ⟨fun n => ?_, fun _ => ⟨fun _ => ?_, ?_⟩⟩
      · rw [k2] at n; exact absurd n (nI_pos (by omega))
      · rw [k2]; exact ⟨vp_in_nI k1 (by omega), vp_in_nI k1 (by omega)⟩
      · rw [k2, legs (wh o 1) _ k1 k3 (by rw [si_row (by omega), si_row (by omega)]) (by rw [si_row (by omega), si_row (by omega)]), c13, c14, c15]
        have f2 : Fr [11] I (si (si (si I 11 13 (1 : Int32)) 11 14 (nI (wh o 1))) 11 15 (nI (lgF A per o (wh o 1) pace))) := (Fr.rfl' _ _).to rfl |>.to rfl |>.to rfl
        refine ev_ask (hd := 104) (F := LTH 1 (wh o 1) (lgF A per o (wh o 1) pace) (LT A per sc o st x most pace)) ht hw (by omega) (hrt.fr (fun k hk => tx_el rfl ht hk) f2) (fun j hj => ?_) (fun I1 f1 => sha_h1 ?_)
        · unfold LTH
          by_cases j13 : j = 13
          · subst j13; simp [si]; rfl
          by_cases j14 : j = 14
          · subst j14; simp [si]
          by_cases j15 : j = 15
          · subst j15; simp [si]
          rw [if_neg j13, if_neg j14, if_neg j15, si_ne j15, si_ne j14, si_ne j13]
          exact hF j (by omega)
        · rw [(done1 (wh o 1) rfl k1).2]
          have q := (done1 (wh o 1) rfl k1).1
          rw [show nI sh ||| ((v_X2_within (askF (qP A 0) 104 (LTH 1 (wh o 1) (lgF A per o (wh o 1) pace) (LT A per sc o st x most pace))) (nI left)) <<< ((21 : Int32) &&& 31)) = _ from q]
          exact some1 (wh o 1) _ rfl k1 k3 rfl I1 f1
