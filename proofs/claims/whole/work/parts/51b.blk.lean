def w1_X5_put_t1 (a0 : Nat) (a1 : Int32) (a2 : Int32) (I : Nat → Nat → Int32) : Nat → Nat → Int32 := if (200 : Int32) ≤ a1 then I else si I (a0 + 1) a1.toNatClampNeg a2
def w2_X5_put_t1 (a0 : Nat) (a1 : Int32) (a2 : Int32) (I : Nat → Nat → Int32) : Nat → Nat → Int32 := if a1 < 0 then I else w1_X5_put_t1 a0 a1 a2 I
set_option maxRecDepth 20000 in
theorem ev_X5_put_t1 {d : Nat} {a1 a2 : Int32} {a0 : Nat} {I : Nat → Nat → Int32} {J : Nat → Nat → Int64} {T : Nat → Nat → Nat} {Q : Option Value → Mem → Prop} (h_a0 : TX a0) (h : Q none (SH, mkM (w2_X5_put_t1 a0 a1 a2 I) J T)) : Ev mt aM (d + 1) 56 [.ref (a0 + 1), .int a1, .int a2] (SH, mkM I J T) Q := by
  refine Ev.intro mX5_put rfl rfl ?_
  show Go none aM (Ev mt aM d) mX5_put Q (0, [some (.ref (a0 + 1)), some (.int a1), some (.int a2)], [], (SH, mkM I J T), 0, 0)
  refine Go.of_run (Ev.mono _) 2 _ ?_
  show Go none aM (Ev mt aM d) mX5_put Q (4, [some (.ref (a0 + 1)), some (.int a1), some (.int a2)], [], (SH, mkM I J T), 0, 0)
  refine Go.of_run (Ev.mono _) 2 _ ?_
  show Go none aM (Ev mt aM d) mX5_put Q (if a1 < 0 then 18 else 8, [some (.ref (a0 + 1)), some (.int a1), some (.int a2)], [], (SH, mkM I J T), 0, 0)
  have G2 : Go none aM (Ev mt aM d) mX5_put Q (18, [none, none, none], [], (SH, mkM (w2_X5_put_t1 a0 a1 a2 I) J T), 0, 0) := by
    refine Go.of_run (Ev.mono _) 1 _ ?_
    refine ⟨trivial, ?_⟩
    show Q none (SH, mkM (w2_X5_put_t1 a0 a1 a2 I) J T)
    exact h
  rcases Decidable.em (a1 < 0) with c1 | c1
  · rw [if_pos c1]
    have e3 : (w2_X5_put_t1 a0 a1 a2 I) = I := if_pos c1
    rw [e3] at G2
    exact Go.weak (Ev.mono _) (LLe.drop (LLe.drop (LLe.drop LLe.nil))) G2
  · rw [if_neg c1]
    refine Go.of_run (Ev.mono _) 2 _ ?_
    show Go none aM (Ev mt aM d) mX5_put Q (10, [some (.ref (a0 + 1)), some (.int a1), some (.int a2)], [.ref (a0 + 1), .int a1], (SH, mkM I J T), 0, 0)
    refine go_txN (k := 0) (Ev.mono _) h_a0 rfl rfl ?_
    show Go none aM (Ev mt aM d) mX5_put Q (11, [some (.ref (a0 + 1)), some (.int a1), some (.int a2)], [.int (200 : Int32), .int a1], (SH, mkM I J T), 0, 0)
    refine Go.of_run (Ev.mono _) 1 _ ?_
    show Go none aM (Ev mt aM d) mX5_put Q (if (200 : Int32) ≤ a1 then 18 else 14, [some (.ref (a0 + 1)), some (.int a1), some (.int a2)], [], (SH, mkM I J T), 0, 0)
    have G5 : Go none aM (Ev mt aM d) mX5_put Q (18, [none, none, none], [], (SH, mkM (w1_X5_put_t1 a0 a1 a2 I) J T), 0, 0) := by
      have e6 : (w2_X5_put_t1 a0 a1 a2 I) = w1_X5_put_t1 a0 a1 a2 I := if_neg c1
      rw [e6] at G2
      exact G2
    rcases Decidable.em ((200 : Int32) ≤ a1) with c4 | c4
    · rw [if_pos c4]
      have e7 : (w1_X5_put_t1 a0 a1 a2 I) = I := if_pos c4
      rw [e7] at G5
      exact Go.weak (Ev.mono _) (LLe.drop (LLe.drop (LLe.drop LLe.nil))) G5
    · rw [if_neg c4]
      refine Go.of_run (Ev.mono _) 3 _ ?_
      show Go none aM (Ev mt aM d) mX5_put Q (17, [some (.ref (a0 + 1)), some (.int a1), some (.int a2)], [.int a2, .int a1, .ref (a0 + 1)], (SH, mkM I J T), 0, 0)
      refine go_txS (k := 0) (Ev.mono _) h_a0 rfl (vin_of rfl c1 c4) rfl ?_
      show Go none aM (Ev mt aM d) mX5_put Q (18, [some (.ref (a0 + 1)), some (.int a1), some (.int a2)], [], (SH, mkM (si I (a0 + 1) a1.toNatClampNeg a2) J T), 0, 0)
      have e8 : (w1_X5_put_t1 a0 a1 a2 I) = si I (a0 + 1) a1.toNatClampNeg a2 := if_neg c4
      rw [e8] at G5
      exact Go.weak (Ev.mono _) (LLe.drop (LLe.drop (LLe.drop LLe.nil))) G5
def v_X9_add_t (a0 : Nat) (a1 : Int32) (a2 : Int32) (I : Nat → Nat → Int32) : Int32 := ((si (w2_X5_put_t1 a0 (I a0 1) (a1 ||| (a2 <<< ((4 : Int32) &&& 31))) I) a0 1 (((w2_X5_put_t1 a0 (I a0 1) (a1 ||| (a2 <<< ((4 : Int32) &&& 31))) I) a0 1) + (1 : Int32))) a0 1) - (1 : Int32)
set_option maxRecDepth 20000 in
theorem ev_X9_add_t {d : Nat} {a1 a2 : Int32} {a0 : Nat} {I : Nat → Nat → Int32} {J : Nat → Nat → Int64} {T : Nat → Nat → Nat} {Q : Option Value → Mem → Prop} (h_a0 : TX a0) (h : Q (some (.int (v_X9_add_t a0 a1 a2 I))) (SH, mkM (si (w2_X5_put_t1 a0 (I a0 1) (a1 ||| (a2 <<< ((4 : Int32) &&& 31))) I) a0 1 (((w2_X5_put_t1 a0 (I a0 1) (a1 ||| (a2 <<< ((4 : Int32) &&& 31))) I) a0 1) + (1 : Int32))) J T)) : Ev mt aM (d + 2) 109 [.ref a0, .int a1, .int a2] (SH, mkM I J T) Q := by
  refine Ev.intro mX9_add rfl rfl ?_
  show Go none aM (Ev mt aM (d + 1)) mX9_add Q (0, [some (.ref a0), some (.int a1), some (.int a2)], [], (SH, mkM I J T), 0, 0)
  refine Go.of_run (Ev.mono _) 1 _ ?_
  show Go none aM (Ev mt aM (d + 1)) mX9_add Q (1, [some (.ref a0), some (.int a1), some (.int a2)], [.ref a0], (SH, mkM I J T), 0, 0)
  refine go_txR (k := 0) (Ev.mono _) h_a0 rfl rfl ?_
  show Go none aM (Ev mt aM (d + 1)) mX9_add Q (4, [some (.ref a0), some (.int a1), some (.int a2)], [.ref (a0 + 1)], (SH, mkM I J T), 0, 0)
  refine Go.of_run (Ev.mono _) 1 _ ?_
  show Go none aM (Ev mt aM (d + 1)) mX9_add Q (5, [some (.ref a0), some (.int a1), some (.int a2)], [.ref a0, .ref (a0 + 1)], (SH, mkM I J T), 0, 0)
  refine go_txI (Ev.mono _) h_a0 rfl rfl ?_
  show Go none aM (Ev mt aM (d + 1)) mX9_add Q (8, [some (.ref a0), some (.int a1), some (.int a2)], [.int (I a0 1), .ref (a0 + 1)], (SH, mkM I J T), 0, 0)
  refine Go.of_run (Ev.mono _) 6 _ ?_
  refine ⟨Nat.le_of_ble_eq_true rfl, ev_X5_put_t1 h_a0 ?_⟩
  show Go none aM (Ev mt aM (d + 1)) mX9_add Q (16, [some (.ref a0), some (.int a1), some (.int a2)], [], (SH, mkM (w2_X5_put_t1 a0 (I a0 1) (a1 ||| (a2 <<< ((4 : Int32) &&& 31))) I) J T), 0, 0)
  refine Go.of_run (Ev.mono _) 2 _ ?_
  show Go none aM (Ev mt aM (d + 1)) mX9_add Q (18, [some (.ref a0), some (.int a1), some (.int a2)], [.ref a0, .ref a0], (SH, mkM (w2_X5_put_t1 a0 (I a0 1) (a1 ||| (a2 <<< ((4 : Int32) &&& 31))) I) J T), 0, 0)
  refine go_txI (Ev.mono _) h_a0 rfl rfl ?_
  show Go none aM (Ev mt aM (d + 1)) mX9_add Q (21, [some (.ref a0), some (.int a1), some (.int a2)], [.int ((w2_X5_put_t1 a0 (I a0 1) (a1 ||| (a2 <<< ((4 : Int32) &&& 31))) I) a0 1), .ref a0], (SH, mkM (w2_X5_put_t1 a0 (I a0 1) (a1 ||| (a2 <<< ((4 : Int32) &&& 31))) I) J T), 0, 0)
  refine Go.of_run (Ev.mono _) 2 _ ?_
  show Go none aM (Ev mt aM (d + 1)) mX9_add Q (23, [some (.ref a0), some (.int a1), some (.int a2)], [.int (((w2_X5_put_t1 a0 (I a0 1) (a1 ||| (a2 <<< ((4 : Int32) &&& 31))) I) a0 1) + (1 : Int32)), .ref a0], (SH, mkM (w2_X5_put_t1 a0 (I a0 1) (a1 ||| (a2 <<< ((4 : Int32) &&& 31))) I) J T), 0, 0)
  refine go_txP (Ev.mono _) h_a0 rfl rfl ?_
  show Go none aM (Ev mt aM (d + 1)) mX9_add Q (26, [some (.ref a0), some (.int a1), some (.int a2)], [], (SH, mkM (si (w2_X5_put_t1 a0 (I a0 1) (a1 ||| (a2 <<< ((4 : Int32) &&& 31))) I) a0 1 (((w2_X5_put_t1 a0 (I a0 1) (a1 ||| (a2 <<< ((4 : Int32) &&& 31))) I) a0 1) + (1 : Int32))) J T), 0, 0)
  refine Go.of_run (Ev.mono _) 1 _ ?_
  show Go none aM (Ev mt aM (d + 1)) mX9_add Q (27, [some (.ref a0), some (.int a1), some (.int a2)], [.ref a0], (SH, mkM (si (w2_X5_put_t1 a0 (I a0 1) (a1 ||| (a2 <<< ((4 : Int32) &&& 31))) I) a0 1 (((w2_X5_put_t1 a0 (I a0 1) (a1 ||| (a2 <<< ((4 : Int32) &&& 31))) I) a0 1) + (1 : Int32))) J T), 0, 0)
  refine go_txI (Ev.mono _) h_a0 rfl rfl ?_
  show Go none aM (Ev mt aM (d + 1)) mX9_add Q (30, [some (.ref a0), some (.int a1), some (.int a2)], [.int ((si (w2_X5_put_t1 a0 (I a0 1) (a1 ||| (a2 <<< ((4 : Int32) &&& 31))) I) a0 1 (((w2_X5_put_t1 a0 (I a0 1) (a1 ||| (a2 <<< ((4 : Int32) &&& 31))) I) a0 1) + (1 : Int32))) a0 1)], (SH, mkM (si (w2_X5_put_t1 a0 (I a0 1) (a1 ||| (a2 <<< ((4 : Int32) &&& 31))) I) a0 1 (((w2_X5_put_t1 a0 (I a0 1) (a1 ||| (a2 <<< ((4 : Int32) &&& 31))) I) a0 1) + (1 : Int32))) J T), 0, 0)
  refine Go.of_run (Ev.mono _) 3 _ ?_
  refine ⟨trivial, ?_⟩
  show Q (some (.int (((si (w2_X5_put_t1 a0 (I a0 1) (a1 ||| (a2 <<< ((4 : Int32) &&& 31))) I) a0 1 (((w2_X5_put_t1 a0 (I a0 1) (a1 ||| (a2 <<< ((4 : Int32) &&& 31))) I) a0 1) + (1 : Int32))) a0 1) - (1 : Int32)))) (SH, mkM (si (w2_X5_put_t1 a0 (I a0 1) (a1 ||| (a2 <<< ((4 : Int32) &&& 31))) I) a0 1 (((w2_X5_put_t1 a0 (I a0 1) (a1 ||| (a2 <<< ((4 : Int32) &&& 31))) I) a0 1) + (1 : Int32))) J T)
  exact h
set_option maxRecDepth 20000 in
theorem ev_X9_landHere_t {d : Nat} {a1 : Int32} {a0 : Nat} {I : Nat → Nat → Int32} {J : Nat → Nat → Int64} {T : Nat → Nat → Nat} {Q : Option Value → Mem → Prop} (h_a0 : TX a0) (hp : vp_in a1 200) (h : Q none (SH, mkM (w2_X5_put_t1 a0 a1 (((v_X5_at_t1 a0 a1 I) &&& (15 : Int32)) ||| ((I a0 1) <<< ((4 : Int32) &&& 31))) I) J T)) : Ev mt aM (d + 2) 110 [.ref a0, .int a1] (SH, mkM I J T) Q := by
  refine Ev.intro mX9_landHere rfl rfl ?_
  show Go none aM (Ev mt aM (d + 1)) mX9_landHere Q (0, [some (.ref a0), some (.int a1)], [], (SH, mkM I J T), 0, 0)
  refine Go.of_run (Ev.mono _) 1 _ ?_
  show Go none aM (Ev mt aM (d + 1)) mX9_landHere Q (1, [some (.ref a0), some (.int a1)], [.ref a0], (SH, mkM I J T), 0, 0)
  refine go_txR (k := 0) (Ev.mono _) h_a0 rfl rfl ?_
  show Go none aM (Ev mt aM (d + 1)) mX9_landHere Q (4, [some (.ref a0), some (.int a1)], [.ref (a0 + 1)], (SH, mkM I J T), 0, 0)
  refine Go.of_run (Ev.mono _) 2 _ ?_
  show Go none aM (Ev mt aM (d + 1)) mX9_landHere Q (6, [some (.ref a0), some (.int a1)], [.ref a0, .int a1, .ref (a0 + 1)], (SH, mkM I J T), 0, 0)
  refine go_txR (k := 0) (Ev.mono _) h_a0 rfl rfl ?_
  show Go none aM (Ev mt aM (d + 1)) mX9_landHere Q (9, [some (.ref a0), some (.int a1)], [.ref (a0 + 1), .int a1, .ref (a0 + 1)], (SH, mkM I J T), 0, 0)
  refine Go.of_run (Ev.mono _) 2 _ ?_
  refine ⟨Nat.le_of_ble_eq_true rfl, ev_X5_at_t1 h_a0 hp ?_⟩
  show Go none aM (Ev mt aM (d + 1)) mX9_landHere Q (13, [some (.ref a0), some (.int a1)], [.int (v_X5_at_t1 a0 a1 I), .int a1, .ref (a0 + 1)], (SH, mkM I J T), 0, 0)
  refine Go.of_run (Ev.mono _) 3 _ ?_
  show Go none aM (Ev mt aM (d + 1)) mX9_landHere Q (17, [some (.ref a0), some (.int a1)], [.ref a0, .int ((v_X5_at_t1 a0 a1 I) &&& (15 : Int32)), .int a1, .ref (a0 + 1)], (SH, mkM I J T), 0, 0)
  refine go_txI (Ev.mono _) h_a0 rfl rfl ?_
  show Go none aM (Ev mt aM (d + 1)) mX9_landHere Q (20, [some (.ref a0), some (.int a1)], [.int (I a0 1), .int ((v_X5_at_t1 a0 a1 I) &&& (15 : Int32)), .int a1, .ref (a0 + 1)], (SH, mkM I J T), 0, 0)
  refine Go.of_run (Ev.mono _) 4 _ ?_
  refine ⟨Nat.le_of_ble_eq_true rfl, ev_X5_put_t1 h_a0 ?_⟩
  show Go none aM (Ev mt aM (d + 1)) mX9_landHere Q (26, [some (.ref a0), some (.int a1)], [], (SH, mkM (w2_X5_put_t1 a0 a1 (((v_X5_at_t1 a0 a1 I) &&& (15 : Int32)) ||| ((I a0 1) <<< ((4 : Int32) &&& 31))) I) J T), 0, 0)
  refine Go.of_run (Ev.mono _) 1 _ ?_
  refine ⟨trivial, ?_⟩
  show Q none (SH, mkM (w2_X5_put_t1 a0 a1 (((v_X5_at_t1 a0 a1 I) &&& (15 : Int32)) ||| ((I a0 1) <<< ((4 : Int32) &&& 31))) I) J T)
  exact h
def w1_X5_put_t2 (a0 : Nat) (a1 : Int32) (a2 : Int32) (I : Nat → Nat → Int32) : Nat → Nat → Int32 := if (14 : Int32) ≤ a1 then I else si I (a0 + 2) a1.toNatClampNeg a2
def w2_X5_put_t2 (a0 : Nat) (a1 : Int32) (a2 : Int32) (I : Nat → Nat → Int32) : Nat → Nat → Int32 := if a1 < 0 then I else w1_X5_put_t2 a0 a1 a2 I
set_option maxRecDepth 20000 in
theorem ev_X5_put_t2 {d : Nat} {a1 a2 : Int32} {a0 : Nat} {I : Nat → Nat → Int32} {J : Nat → Nat → Int64} {T : Nat → Nat → Nat} {Q : Option Value → Mem → Prop} (h_a0 : TX a0) (h : Q none (SH, mkM (w2_X5_put_t2 a0 a1 a2 I) J T)) : Ev mt aM (d + 1) 56 [.ref (a0 + 2), .int a1, .int a2] (SH, mkM I J T) Q := by
  refine Ev.intro mX5_put rfl rfl ?_
  show Go none aM (Ev mt aM d) mX5_put Q (0, [some (.ref (a0 + 2)), some (.int a1), some (.int a2)], [], (SH, mkM I J T), 0, 0)
  refine Go.of_run (Ev.mono _) 2 _ ?_
  show Go none aM (Ev mt aM d) mX5_put Q (4, [some (.ref (a0 + 2)), some (.int a1), some (.int a2)], [], (SH, mkM I J T), 0, 0)
  refine Go.of_run (Ev.mono _) 2 _ ?_
  show Go none aM (Ev mt aM d) mX5_put Q (if a1 < 0 then 18 else 8, [some (.ref (a0 + 2)), some (.int a1), some (.int a2)], [], (SH, mkM I J T), 0, 0)
  have G2 : Go none aM (Ev mt aM d) mX5_put Q (18, [none, none, none], [], (SH, mkM (w2_X5_put_t2 a0 a1 a2 I) J T), 0, 0) := by
    refine Go.of_run (Ev.mono _) 1 _ ?_
    refine ⟨trivial, ?_⟩
    show Q none (SH, mkM (w2_X5_put_t2 a0 a1 a2 I) J T)
    exact h
  rcases Decidable.em (a1 < 0) with c1 | c1
  · rw [if_pos c1]
    have e3 : (w2_X5_put_t2 a0 a1 a2 I) = I := if_pos c1
    rw [e3] at G2
    exact Go.weak (Ev.mono _) (LLe.drop (LLe.drop (LLe.drop LLe.nil))) G2
  · rw [if_neg c1]
    refine Go.of_run (Ev.mono _) 2 _ ?_
    show Go none aM (Ev mt aM d) mX5_put Q (10, [some (.ref (a0 + 2)), some (.int a1), some (.int a2)], [.ref (a0 + 2), .int a1], (SH, mkM I J T), 0, 0)
    refine go_txN (k := 1) (Ev.mono _) h_a0 rfl rfl ?_
    show Go none aM (Ev mt aM d) mX5_put Q (11, [some (.ref (a0 + 2)), some (.int a1), some (.int a2)], [.int (14 : Int32), .int a1], (SH, mkM I J T), 0, 0)
    refine Go.of_run (Ev.mono _) 1 _ ?_
    show Go none aM (Ev mt aM d) mX5_put Q (if (14 : Int32) ≤ a1 then 18 else 14, [some (.ref (a0 + 2)), some (.int a1), some (.int a2)], [], (SH, mkM I J T), 0, 0)
    have G5 : Go none aM (Ev mt aM d) mX5_put Q (18, [none, none, none], [], (SH, mkM (w1_X5_put_t2 a0 a1 a2 I) J T), 0, 0) := by
      have e6 : (w2_X5_put_t2 a0 a1 a2 I) = w1_X5_put_t2 a0 a1 a2 I := if_neg c1
      rw [e6] at G2
      exact G2
    rcases Decidable.em ((14 : Int32) ≤ a1) with c4 | c4
    · rw [if_pos c4]
      have e7 : (w1_X5_put_t2 a0 a1 a2 I) = I := if_pos c4
      rw [e7] at G5
      exact Go.weak (Ev.mono _) (LLe.drop (LLe.drop (LLe.drop LLe.nil))) G5
    · rw [if_neg c4]
      refine Go.of_run (Ev.mono _) 3 _ ?_
      show Go none aM (Ev mt aM d) mX5_put Q (17, [some (.ref (a0 + 2)), some (.int a1), some (.int a2)], [.int a2, .int a1, .ref (a0 + 2)], (SH, mkM I J T), 0, 0)
      refine go_txS (k := 1) (Ev.mono _) h_a0 rfl (vin_of rfl c1 c4) rfl ?_
      show Go none aM (Ev mt aM d) mX5_put Q (18, [some (.ref (a0 + 2)), some (.int a1), some (.int a2)], [], (SH, mkM (si I (a0 + 2) a1.toNatClampNeg a2) J T), 0, 0)
      have e8 : (w1_X5_put_t2 a0 a1 a2 I) = si I (a0 + 2) a1.toNatClampNeg a2 := if_neg c4
      rw [e8] at G5
      exact Go.weak (Ev.mono _) (LLe.drop (LLe.drop (LLe.drop LLe.nil))) G5
def w1_X5_put_t3 (a0 : Nat) (a1 : Int32) (a2 : Int32) (I : Nat → Nat → Int32) : Nat → Nat → Int32 := if (14 : Int32) ≤ a1 then I else si I (a0 + 3) a1.toNatClampNeg a2
def w2_X5_put_t3 (a0 : Nat) (a1 : Int32) (a2 : Int32) (I : Nat → Nat → Int32) : Nat → Nat → Int32 := if a1 < 0 then I else w1_X5_put_t3 a0 a1 a2 I
set_option maxRecDepth 20000 in
theorem ev_X5_put_t3 {d : Nat} {a1 a2 : Int32} {a0 : Nat} {I : Nat → Nat → Int32} {J : Nat → Nat → Int64} {T : Nat → Nat → Nat} {Q : Option Value → Mem → Prop} (h_a0 : TX a0) (h : Q none (SH, mkM (w2_X5_put_t3 a0 a1 a2 I) J T)) : Ev mt aM (d + 1) 56 [.ref (a0 + 3), .int a1, .int a2] (SH, mkM I J T) Q := by
  refine Ev.intro mX5_put rfl rfl ?_
  show Go none aM (Ev mt aM d) mX5_put Q (0, [some (.ref (a0 + 3)), some (.int a1), some (.int a2)], [], (SH, mkM I J T), 0, 0)
  refine Go.of_run (Ev.mono _) 2 _ ?_
  show Go none aM (Ev mt aM d) mX5_put Q (4, [some (.ref (a0 + 3)), some (.int a1), some (.int a2)], [], (SH, mkM I J T), 0, 0)
  refine Go.of_run (Ev.mono _) 2 _ ?_
  show Go none aM (Ev mt aM d) mX5_put Q (if a1 < 0 then 18 else 8, [some (.ref (a0 + 3)), some (.int a1), some (.int a2)], [], (SH, mkM I J T), 0, 0)
  have G2 : Go none aM (Ev mt aM d) mX5_put Q (18, [none, none, none], [], (SH, mkM (w2_X5_put_t3 a0 a1 a2 I) J T), 0, 0) := by
    refine Go.of_run (Ev.mono _) 1 _ ?_
    refine ⟨trivial, ?_⟩
    show Q none (SH, mkM (w2_X5_put_t3 a0 a1 a2 I) J T)
    exact h
  rcases Decidable.em (a1 < 0) with c1 | c1
  · rw [if_pos c1]
    have e3 : (w2_X5_put_t3 a0 a1 a2 I) = I := if_pos c1
    rw [e3] at G2
    exact Go.weak (Ev.mono _) (LLe.drop (LLe.drop (LLe.drop LLe.nil))) G2
  · rw [if_neg c1]
    refine Go.of_run (Ev.mono _) 2 _ ?_
    show Go none aM (Ev mt aM d) mX5_put Q (10, [some (.ref (a0 + 3)), some (.int a1), some (.int a2)], [.ref (a0 + 3), .int a1], (SH, mkM I J T), 0, 0)
    refine go_txN (k := 2) (Ev.mono _) h_a0 rfl rfl ?_
    show Go none aM (Ev mt aM d) mX5_put Q (11, [some (.ref (a0 + 3)), some (.int a1), some (.int a2)], [.int (14 : Int32), .int a1], (SH, mkM I J T), 0, 0)
    refine Go.of_run (Ev.mono _) 1 _ ?_
    show Go none aM (Ev mt aM d) mX5_put Q (if (14 : Int32) ≤ a1 then 18 else 14, [some (.ref (a0 + 3)), some (.int a1), some (.int a2)], [], (SH, mkM I J T), 0, 0)
    have G5 : Go none aM (Ev mt aM d) mX5_put Q (18, [none, none, none], [], (SH, mkM (w1_X5_put_t3 a0 a1 a2 I) J T), 0, 0) := by
      have e6 : (w2_X5_put_t3 a0 a1 a2 I) = w1_X5_put_t3 a0 a1 a2 I := if_neg c1
      rw [e6] at G2
      exact G2
    rcases Decidable.em ((14 : Int32) ≤ a1) with c4 | c4
    · rw [if_pos c4]
      have e7 : (w1_X5_put_t3 a0 a1 a2 I) = I := if_pos c4
      rw [e7] at G5
      exact Go.weak (Ev.mono _) (LLe.drop (LLe.drop (LLe.drop LLe.nil))) G5
    · rw [if_neg c4]
      refine Go.of_run (Ev.mono _) 3 _ ?_
      show Go none aM (Ev mt aM d) mX5_put Q (17, [some (.ref (a0 + 3)), some (.int a1), some (.int a2)], [.int a2, .int a1, .ref (a0 + 3)], (SH, mkM I J T), 0, 0)
      refine go_txS (k := 2) (Ev.mono _) h_a0 rfl (vin_of rfl c1 c4) rfl ?_
      show Go none aM (Ev mt aM d) mX5_put Q (18, [some (.ref (a0 + 3)), some (.int a1), some (.int a2)], [], (SH, mkM (si I (a0 + 3) a1.toNatClampNeg a2) J T), 0, 0)
      have e8 : (w1_X5_put_t3 a0 a1 a2 I) = si I (a0 + 3) a1.toNatClampNeg a2 := if_neg c4
      rw [e8] at G5
      exact Go.weak (Ev.mono _) (LLe.drop (LLe.drop (LLe.drop LLe.nil))) G5
set_option maxRecDepth 20000 in
theorem ev_X9_beginClause_t {d : Nat} {a1 : Int32} {a0 : Nat} {I : Nat → Nat → Int32} {J : Nat → Nat → Int64} {T : Nat → Nat → Nat} {Q : Option Value → Mem → Prop} (h_a0 : TX a0) (h : Q none (SH, mkM (w2_X5_put_t3 a0 ((w2_X5_put_t2 a0 (I a0 0) a1 I) a0 0) ((w2_X5_put_t2 a0 (I a0 0) a1 I) a0 1) (w2_X5_put_t2 a0 (I a0 0) a1 I)) J T)) : Ev mt aM (d + 2) 106 [.ref a0, .int a1] (SH, mkM I J T) Q := by
  refine Ev.intro mX9_beginClause rfl rfl ?_
  show Go none aM (Ev mt aM (d + 1)) mX9_beginClause Q (0, [some (.ref a0), some (.int a1)], [], (SH, mkM I J T), 0, 0)
  refine Go.of_run (Ev.mono _) 1 _ ?_
  show Go none aM (Ev mt aM (d + 1)) mX9_beginClause Q (1, [some (.ref a0), some (.int a1)], [.ref a0], (SH, mkM I J T), 0, 0)
  refine go_txR (k := 1) (Ev.mono _) h_a0 rfl rfl ?_
  show Go none aM (Ev mt aM (d + 1)) mX9_beginClause Q (4, [some (.ref a0), some (.int a1)], [.ref (a0 + 2)], (SH, mkM I J T), 0, 0)
  refine Go.of_run (Ev.mono _) 1 _ ?_
  show Go none aM (Ev mt aM (d + 1)) mX9_beginClause Q (5, [some (.ref a0), some (.int a1)], [.ref a0, .ref (a0 + 2)], (SH, mkM I J T), 0, 0)
  refine go_txI (Ev.mono _) h_a0 rfl rfl ?_
  show Go none aM (Ev mt aM (d + 1)) mX9_beginClause Q (8, [some (.ref a0), some (.int a1)], [.int (I a0 0), .ref (a0 + 2)], (SH, mkM I J T), 0, 0)
  refine Go.of_run (Ev.mono _) 2 _ ?_
  refine ⟨Nat.le_of_ble_eq_true rfl, ev_X5_put_t2 h_a0 ?_⟩
  show Go none aM (Ev mt aM (d + 1)) mX9_beginClause Q (12, [some (.ref a0), some (.int a1)], [], (SH, mkM (w2_X5_put_t2 a0 (I a0 0) a1 I) J T), 0, 0)
  refine Go.of_run (Ev.mono _) 1 _ ?_
  show Go none aM (Ev mt aM (d + 1)) mX9_beginClause Q (13, [some (.ref a0), some (.int a1)], [.ref a0], (SH, mkM (w2_X5_put_t2 a0 (I a0 0) a1 I) J T), 0, 0)
  refine go_txR (k := 2) (Ev.mono _) h_a0 rfl rfl ?_
  show Go none aM (Ev mt aM (d + 1)) mX9_beginClause Q (16, [some (.ref a0), some (.int a1)], [.ref (a0 + 3)], (SH, mkM (w2_X5_put_t2 a0 (I a0 0) a1 I) J T), 0, 0)
  refine Go.of_run (Ev.mono _) 1 _ ?_
  show Go none aM (Ev mt aM (d + 1)) mX9_beginClause Q (17, [some (.ref a0), some (.int a1)], [.ref a0, .ref (a0 + 3)], (SH, mkM (w2_X5_put_t2 a0 (I a0 0) a1 I) J T), 0, 0)
  refine go_txI (Ev.mono _) h_a0 rfl rfl ?_
  show Go none aM (Ev mt aM (d + 1)) mX9_beginClause Q (20, [some (.ref a0), some (.int a1)], [.int ((w2_X5_put_t2 a0 (I a0 0) a1 I) a0 0), .ref (a0 + 3)], (SH, mkM (w2_X5_put_t2 a0 (I a0 0) a1 I) J T), 0, 0)
  refine Go.of_run (Ev.mono _) 1 _ ?_
  show Go none aM (Ev mt aM (d + 1)) mX9_beginClause Q (21, [some (.ref a0), some (.int a1)], [.ref a0, .int ((w2_X5_put_t2 a0 (I a0 0) a1 I) a0 0), .ref (a0 + 3)], (SH, mkM (w2_X5_put_t2 a0 (I a0 0) a1 I) J T), 0, 0)
  refine go_txI (Ev.mono _) h_a0 rfl rfl ?_
  show Go none aM (Ev mt aM (d + 1)) mX9_beginClause Q (24, [some (.ref a0), some (.int a1)], [.int ((w2_X5_put_t2 a0 (I a0 0) a1 I) a0 1), .int ((w2_X5_put_t2 a0 (I a0 0) a1 I) a0 0), .ref (a0 + 3)], (SH, mkM (w2_X5_put_t2 a0 (I a0 0) a1 I) J T), 0, 0)
  refine Go.of_run (Ev.mono _) 1 _ ?_
  refine ⟨Nat.le_of_ble_eq_true rfl, ev_X5_put_t3 h_a0 ?_⟩
  show Go none aM (Ev mt aM (d + 1)) mX9_beginClause Q (27, [some (.ref a0), some (.int a1)], [], (SH, mkM (w2_X5_put_t3 a0 ((w2_X5_put_t2 a0 (I a0 0) a1 I) a0 0) ((w2_X5_put_t2 a0 (I a0 0) a1 I) a0 1) (w2_X5_put_t2 a0 (I a0 0) a1 I)) J T), 0, 0)
  refine Go.of_run (Ev.mono _) 1 _ ?_
  refine ⟨trivial, ?_⟩
  show Q none (SH, mkM (w2_X5_put_t3 a0 ((w2_X5_put_t2 a0 (I a0 0) a1 I) a0 0) ((w2_X5_put_t2 a0 (I a0 0) a1 I) a0 1) (w2_X5_put_t2 a0 (I a0 0) a1 I)) J T)
  exact h
def w1_X5_put_t4 (a0 : Nat) (a1 : Int32) (a2 : Int32) (I : Nat → Nat → Int32) : Nat → Nat → Int32 := if (14 : Int32) ≤ a1 then I else si I (a0 + 4) a1.toNatClampNeg a2
def w2_X5_put_t4 (a0 : Nat) (a1 : Int32) (a2 : Int32) (I : Nat → Nat → Int32) : Nat → Nat → Int32 := if a1 < 0 then I else w1_X5_put_t4 a0 a1 a2 I
set_option maxRecDepth 20000 in
theorem ev_X5_put_t4 {d : Nat} {a1 a2 : Int32} {a0 : Nat} {I : Nat → Nat → Int32} {J : Nat → Nat → Int64} {T : Nat → Nat → Nat} {Q : Option Value → Mem → Prop} (h_a0 : TX a0) (h : Q none (SH, mkM (w2_X5_put_t4 a0 a1 a2 I) J T)) : Ev mt aM (d + 1) 56 [.ref (a0 + 4), .int a1, .int a2] (SH, mkM I J T) Q := by
  refine Ev.intro mX5_put rfl rfl ?_
  show Go none aM (Ev mt aM d) mX5_put Q (0, [some (.ref (a0 + 4)), some (.int a1), some (.int a2)], [], (SH, mkM I J T), 0, 0)
  refine Go.of_run (Ev.mono _) 2 _ ?_
  show Go none aM (Ev mt aM d) mX5_put Q (4, [some (.ref (a0 + 4)), some (.int a1), some (.int a2)], [], (SH, mkM I J T), 0, 0)
  refine Go.of_run (Ev.mono _) 2 _ ?_
  show Go none aM (Ev mt aM d) mX5_put Q (if a1 < 0 then 18 else 8, [some (.ref (a0 + 4)), some (.int a1), some (.int a2)], [], (SH, mkM I J T), 0, 0)
  have G2 : Go none aM (Ev mt aM d) mX5_put Q (18, [none, none, none], [], (SH, mkM (w2_X5_put_t4 a0 a1 a2 I) J T), 0, 0) := by
    refine Go.of_run (Ev.mono _) 1 _ ?_
    refine ⟨trivial, ?_⟩
    show Q none (SH, mkM (w2_X5_put_t4 a0 a1 a2 I) J T)
    exact h
  rcases Decidable.em (a1 < 0) with c1 | c1
  · rw [if_pos c1]
    have e3 : (w2_X5_put_t4 a0 a1 a2 I) = I := if_pos c1
    rw [e3] at G2
    exact Go.weak (Ev.mono _) (LLe.drop (LLe.drop (LLe.drop LLe.nil))) G2
  · rw [if_neg c1]
    refine Go.of_run (Ev.mono _) 2 _ ?_
    show Go none aM (Ev mt aM d) mX5_put Q (10, [some (.ref (a0 + 4)), some (.int a1), some (.int a2)], [.ref (a0 + 4), .int a1], (SH, mkM I J T), 0, 0)
    refine go_txN (k := 3) (Ev.mono _) h_a0 rfl rfl ?_
    show Go none aM (Ev mt aM d) mX5_put Q (11, [some (.ref (a0 + 4)), some (.int a1), some (.int a2)], [.int (14 : Int32), .int a1], (SH, mkM I J T), 0, 0)
    refine Go.of_run (Ev.mono _) 1 _ ?_
    show Go none aM (Ev mt aM d) mX5_put Q (if (14 : Int32) ≤ a1 then 18 else 14, [some (.ref (a0 + 4)), some (.int a1), some (.int a2)], [], (SH, mkM I J T), 0, 0)
    have G5 : Go none aM (Ev mt aM d) mX5_put Q (18, [none, none, none], [], (SH, mkM (w1_X5_put_t4 a0 a1 a2 I) J T), 0, 0) := by
      have e6 : (w2_X5_put_t4 a0 a1 a2 I) = w1_X5_put_t4 a0 a1 a2 I := if_neg c1
      rw [e6] at G2
      exact G2
    rcases Decidable.em ((14 : Int32) ≤ a1) with c4 | c4
    · rw [if_pos c4]
      have e7 : (w1_X5_put_t4 a0 a1 a2 I) = I := if_pos c4
      rw [e7] at G5
      exact Go.weak (Ev.mono _) (LLe.drop (LLe.drop (LLe.drop LLe.nil))) G5
    · rw [if_neg c4]
      refine Go.of_run (Ev.mono _) 3 _ ?_
      show Go none aM (Ev mt aM d) mX5_put Q (17, [some (.ref (a0 + 4)), some (.int a1), some (.int a2)], [.int a2, .int a1, .ref (a0 + 4)], (SH, mkM I J T), 0, 0)
      refine go_txS (k := 3) (Ev.mono _) h_a0 rfl (vin_of rfl c1 c4) rfl ?_
      show Go none aM (Ev mt aM d) mX5_put Q (18, [some (.ref (a0 + 4)), some (.int a1), some (.int a2)], [], (SH, mkM (si I (a0 + 4) a1.toNatClampNeg a2) J T), 0, 0)
      have e8 : (w1_X5_put_t4 a0 a1 a2 I) = si I (a0 + 4) a1.toNatClampNeg a2 := if_neg c4
      rw [e8] at G5
      exact Go.weak (Ev.mono _) (LLe.drop (LLe.drop (LLe.drop LLe.nil))) G5
set_option maxRecDepth 20000 in
theorem ev_X9_beginCondition_t {d : Nat} {a0 : Nat} {I : Nat → Nat → Int32} {J : Nat → Nat → Int64} {T : Nat → Nat → Nat} {Q : Option Value → Mem → Prop} (h_a0 : TX a0) (h : Q none (SH, mkM (w2_X5_put_t4 a0 (I a0 0) (I a0 1) I) J T)) : Ev mt aM (d + 2) 107 [.ref a0] (SH, mkM I J T) Q := by
  refine Ev.intro mX9_beginCondition rfl rfl ?_
  show Go none aM (Ev mt aM (d + 1)) mX9_beginCondition Q (0, [some (.ref a0)], [], (SH, mkM I J T), 0, 0)
  refine Go.of_run (Ev.mono _) 1 _ ?_
  show Go none aM (Ev mt aM (d + 1)) mX9_beginCondition Q (1, [some (.ref a0)], [.ref a0], (SH, mkM I J T), 0, 0)
  refine go_txR (k := 3) (Ev.mono _) h_a0 rfl rfl ?_
  show Go none aM (Ev mt aM (d + 1)) mX9_beginCondition Q (4, [some (.ref a0)], [.ref (a0 + 4)], (SH, mkM I J T), 0, 0)
  refine Go.of_run (Ev.mono _) 1 _ ?_
  show Go none aM (Ev mt aM (d + 1)) mX9_beginCondition Q (5, [some (.ref a0)], [.ref a0, .ref (a0 + 4)], (SH, mkM I J T), 0, 0)
  refine go_txI (Ev.mono _) h_a0 rfl rfl ?_
  show Go none aM (Ev mt aM (d + 1)) mX9_beginCondition Q (8, [some (.ref a0)], [.int (I a0 0), .ref (a0 + 4)], (SH, mkM I J T), 0, 0)
  refine Go.of_run (Ev.mono _) 1 _ ?_
  show Go none aM (Ev mt aM (d + 1)) mX9_beginCondition Q (9, [some (.ref a0)], [.ref a0, .int (I a0 0), .ref (a0 + 4)], (SH, mkM I J T), 0, 0)
  refine go_txI (Ev.mono _) h_a0 rfl rfl ?_
  show Go none aM (Ev mt aM (d + 1)) mX9_beginCondition Q (12, [some (.ref a0)], [.int (I a0 1), .int (I a0 0), .ref (a0 + 4)], (SH, mkM I J T), 0, 0)
  refine Go.of_run (Ev.mono _) 1 _ ?_
  refine ⟨Nat.le_of_ble_eq_true rfl, ev_X5_put_t4 h_a0 ?_⟩
  show Go none aM (Ev mt aM (d + 1)) mX9_beginCondition Q (15, [some (.ref a0)], [], (SH, mkM (w2_X5_put_t4 a0 (I a0 0) (I a0 1) I) J T), 0, 0)
  refine Go.of_run (Ev.mono _) 1 _ ?_
  refine ⟨trivial, ?_⟩
  show Q none (SH, mkM (w2_X5_put_t4 a0 (I a0 0) (I a0 1) I) J T)
  exact h
def w1_X5_put_t5 (a0 : Nat) (a1 : Int32) (a2 : Int32) (I : Nat → Nat → Int32) : Nat → Nat → Int32 := if (14 : Int32) ≤ a1 then I else si I (a0 + 5) a1.toNatClampNeg a2
def w2_X5_put_t5 (a0 : Nat) (a1 : Int32) (a2 : Int32) (I : Nat → Nat → Int32) : Nat → Nat → Int32 := if a1 < 0 then I else w1_X5_put_t5 a0 a1 a2 I
set_option maxRecDepth 20000 in
theorem ev_X5_put_t5 {d : Nat} {a1 a2 : Int32} {a0 : Nat} {I : Nat → Nat → Int32} {J : Nat → Nat → Int64} {T : Nat → Nat → Nat} {Q : Option Value → Mem → Prop} (h_a0 : TX a0) (h : Q none (SH, mkM (w2_X5_put_t5 a0 a1 a2 I) J T)) : Ev mt aM (d + 1) 56 [.ref (a0 + 5), .int a1, .int a2] (SH, mkM I J T) Q := by
  refine Ev.intro mX5_put rfl rfl ?_
  show Go none aM (Ev mt aM d) mX5_put Q (0, [some (.ref (a0 + 5)), some (.int a1), some (.int a2)], [], (SH, mkM I J T), 0, 0)
  refine Go.of_run (Ev.mono _) 2 _ ?_
  show Go none aM (Ev mt aM d) mX5_put Q (4, [some (.ref (a0 + 5)), some (.int a1), some (.int a2)], [], (SH, mkM I J T), 0, 0)
  refine Go.of_run (Ev.mono _) 2 _ ?_
  show Go none aM (Ev mt aM d) mX5_put Q (if a1 < 0 then 18 else 8, [some (.ref (a0 + 5)), some (.int a1), some (.int a2)], [], (SH, mkM I J T), 0, 0)
  have G2 : Go none aM (Ev mt aM d) mX5_put Q (18, [none, none, none], [], (SH, mkM (w2_X5_put_t5 a0 a1 a2 I) J T), 0, 0) := by
    refine Go.of_run (Ev.mono _) 1 _ ?_
    refine ⟨trivial, ?_⟩
    show Q none (SH, mkM (w2_X5_put_t5 a0 a1 a2 I) J T)
    exact h
  rcases Decidable.em (a1 < 0) with c1 | c1
  · rw [if_pos c1]
    have e3 : (w2_X5_put_t5 a0 a1 a2 I) = I := if_pos c1
    rw [e3] at G2
    exact Go.weak (Ev.mono _) (LLe.drop (LLe.drop (LLe.drop LLe.nil))) G2
  · rw [if_neg c1]
    refine Go.of_run (Ev.mono _) 2 _ ?_
    show Go none aM (Ev mt aM d) mX5_put Q (10, [some (.ref (a0 + 5)), some (.int a1), some (.int a2)], [.ref (a0 + 5), .int a1], (SH, mkM I J T), 0, 0)
    refine go_txN (k := 4) (Ev.mono _) h_a0 rfl rfl ?_
    show Go none aM (Ev mt aM d) mX5_put Q (11, [some (.ref (a0 + 5)), some (.int a1), some (.int a2)], [.int (14 : Int32), .int a1], (SH, mkM I J T), 0, 0)
    refine Go.of_run (Ev.mono _) 1 _ ?_
    show Go none aM (Ev mt aM d) mX5_put Q (if (14 : Int32) ≤ a1 then 18 else 14, [some (.ref (a0 + 5)), some (.int a1), some (.int a2)], [], (SH, mkM I J T), 0, 0)
    have G5 : Go none aM (Ev mt aM d) mX5_put Q (18, [none, none, none], [], (SH, mkM (w1_X5_put_t5 a0 a1 a2 I) J T), 0, 0) := by
      have e6 : (w2_X5_put_t5 a0 a1 a2 I) = w1_X5_put_t5 a0 a1 a2 I := if_neg c1
      rw [e6] at G2
      exact G2
    rcases Decidable.em ((14 : Int32) ≤ a1) with c4 | c4
    · rw [if_pos c4]
      have e7 : (w1_X5_put_t5 a0 a1 a2 I) = I := if_pos c4
      rw [e7] at G5
      exact Go.weak (Ev.mono _) (LLe.drop (LLe.drop (LLe.drop LLe.nil))) G5
    · rw [if_neg c4]
      refine Go.of_run (Ev.mono _) 3 _ ?_
      show Go none aM (Ev mt aM d) mX5_put Q (17, [some (.ref (a0 + 5)), some (.int a1), some (.int a2)], [.int a2, .int a1, .ref (a0 + 5)], (SH, mkM I J T), 0, 0)
      refine go_txS (k := 4) (Ev.mono _) h_a0 rfl (vin_of rfl c1 c4) rfl ?_
      show Go none aM (Ev mt aM d) mX5_put Q (18, [some (.ref (a0 + 5)), some (.int a1), some (.int a2)], [], (SH, mkM (si I (a0 + 5) a1.toNatClampNeg a2) J T), 0, 0)
      have e8 : (w1_X5_put_t5 a0 a1 a2 I) = si I (a0 + 5) a1.toNatClampNeg a2 := if_neg c4
      rw [e8] at G5
      exact Go.weak (Ev.mono _) (LLe.drop (LLe.drop (LLe.drop LLe.nil))) G5
set_option maxRecDepth 20000 in
theorem ev_X9_endClause_t {d : Nat} {a0 : Nat} {I : Nat → Nat → Int32} {J : Nat → Nat → Int64} {T : Nat → Nat → Nat} {Q : Option Value → Mem → Prop} (h_a0 : TX a0) (h : Q none (SH, mkM (si (w2_X5_put_t5 a0 (I a0 0) (I a0 1) I) a0 0 (((w2_X5_put_t5 a0 (I a0 0) (I a0 1) I) a0 0) + (1 : Int32))) J T)) : Ev mt aM (d + 2) 108 [.ref a0] (SH, mkM I J T) Q := by
  refine Ev.intro mX9_endClause rfl rfl ?_
  show Go none aM (Ev mt aM (d + 1)) mX9_endClause Q (0, [some (.ref a0)], [], (SH, mkM I J T), 0, 0)
  refine Go.of_run (Ev.mono _) 1 _ ?_
  show Go none aM (Ev mt aM (d + 1)) mX9_endClause Q (1, [some (.ref a0)], [.ref a0], (SH, mkM I J T), 0, 0)
  refine go_txR (k := 4) (Ev.mono _) h_a0 rfl rfl ?_
  show Go none aM (Ev mt aM (d + 1)) mX9_endClause Q (4, [some (.ref a0)], [.ref (a0 + 5)], (SH, mkM I J T), 0, 0)
  refine Go.of_run (Ev.mono _) 1 _ ?_
  show Go none aM (Ev mt aM (d + 1)) mX9_endClause Q (5, [some (.ref a0)], [.ref a0, .ref (a0 + 5)], (SH, mkM I J T), 0, 0)
  refine go_txI (Ev.mono _) h_a0 rfl rfl ?_
  show Go none aM (Ev mt aM (d + 1)) mX9_endClause Q (8, [some (.ref a0)], [.int (I a0 0), .ref (a0 + 5)], (SH, mkM I J T), 0, 0)
  refine Go.of_run (Ev.mono _) 1 _ ?_
  show Go none aM (Ev mt aM (d + 1)) mX9_endClause Q (9, [some (.ref a0)], [.ref a0, .int (I a0 0), .ref (a0 + 5)], (SH, mkM I J T), 0, 0)
  refine go_txI (Ev.mono _) h_a0 rfl rfl ?_
  show Go none aM (Ev mt aM (d + 1)) mX9_endClause Q (12, [some (.ref a0)], [.int (I a0 1), .int (I a0 0), .ref (a0 + 5)], (SH, mkM I J T), 0, 0)
  refine Go.of_run (Ev.mono _) 1 _ ?_
  refine ⟨Nat.le_of_ble_eq_true rfl, ev_X5_put_t5 h_a0 ?_⟩
  show Go none aM (Ev mt aM (d + 1)) mX9_endClause Q (15, [some (.ref a0)], [], (SH, mkM (w2_X5_put_t5 a0 (I a0 0) (I a0 1) I) J T), 0, 0)
  refine Go.of_run (Ev.mono _) 2 _ ?_
  show Go none aM (Ev mt aM (d + 1)) mX9_endClause Q (17, [some (.ref a0)], [.ref a0, .ref a0], (SH, mkM (w2_X5_put_t5 a0 (I a0 0) (I a0 1) I) J T), 0, 0)
  refine go_txI (Ev.mono _) h_a0 rfl rfl ?_
  show Go none aM (Ev mt aM (d + 1)) mX9_endClause Q (20, [some (.ref a0)], [.int ((w2_X5_put_t5 a0 (I a0 0) (I a0 1) I) a0 0), .ref a0], (SH, mkM (w2_X5_put_t5 a0 (I a0 0) (I a0 1) I) J T), 0, 0)
  refine Go.of_run (Ev.mono _) 2 _ ?_
  show Go none aM (Ev mt aM (d + 1)) mX9_endClause Q (22, [some (.ref a0)], [.int (((w2_X5_put_t5 a0 (I a0 0) (I a0 1) I) a0 0) + (1 : Int32)), .ref a0], (SH, mkM (w2_X5_put_t5 a0 (I a0 0) (I a0 1) I) J T), 0, 0)
  refine go_txP (Ev.mono _) h_a0 rfl rfl ?_
  show Go none aM (Ev mt aM (d + 1)) mX9_endClause Q (25, [some (.ref a0)], [], (SH, mkM (si (w2_X5_put_t5 a0 (I a0 0) (I a0 1) I) a0 0 (((w2_X5_put_t5 a0 (I a0 0) (I a0 1) I) a0 0) + (1 : Int32))) J T), 0, 0)
  refine Go.of_run (Ev.mono _) 1 _ ?_
  refine ⟨trivial, ?_⟩
  show Q none (SH, mkM (si (w2_X5_put_t5 a0 (I a0 0) (I a0 1) I) a0 0 (((w2_X5_put_t5 a0 (I a0 0) (I a0 1) I) a0 0) + (1 : Int32))) J T)
  exact h
/-! STRINGS: where a sign stands in one of the class's own. -/
def ixF (l : List Int32) (z : Int32) : Nat → Nat → Int32
  | 0, _ => -1
  | f + 1, i => if l.getD i 0 = z then nI i else ixF l z f (i + 1)
def ixB (k n : Nat) (c : Int32) : Int32 := if v_J1_canEncode_9a6ad c = 0 then -1 else ixF (txB.getD k []) c.toInt8.toInt32 n 0
set_option maxRecDepth 20000 in
theorem ixc1_0 {d : Nat} {c : Int32} {I : Nat → Nat → Int32} {J : Nat → Nat → Int64} {T : Nat → Nat → Nat} {m : Mem} {Q : Option Value → Mem → Prop} (hyp : Go none aM (Ev mt aM d) mJ1_indexOfChar_4cfef Q (7, [some (.ref 1101), none, none, some (.int (3 : Int32)), some (.int c.toInt8.toInt32), some (.int (0 : Int32))], [], m, 0, 0)) : Go none aM (Ev mt aM (d + 0)) mJ1_indexOfChar_4cfef Q (0, [some (.ref 1101), some (.int c), some (.int (0 : Int32)), some (.int (3 : Int32)), none, none], [], m, 0, 0) := by
  refine Go.of_run (Ev.mono _) 5 _ ?_
  exact Go.weak (Ev.mono _) (LLe.cons (LLe.drop (LLe.drop (LLe.cons (LLe.cons (LLe.cons LLe.nil)))))) hyp
set_option maxRecDepth 20000 in
theorem ixc1_7 {d : Nat} {z i : Int32} {I : Nat → Nat → Int32} {J : Nat → Nat → Int64} {T : Nat → Nat → Nat} {m : Mem} {Q : Option Value → Mem → Prop} (hyp : (((3 : Int32) ≤ i → Q (some (.int (-1 : Int32))) m) ∧ ((¬ ((3 : Int32) ≤ i)) → (vp_in i 3 ∧ (((txB.getD 1 []).getD i.toNatClampNeg 0 = z → Q (some (.int i)) m) ∧ ((¬ ((txB.getD 1 []).getD i.toNatClampNeg 0 = z)) → Go none aM (Ev mt aM d) mJ1_indexOfChar_4cfef Q (7, [some (.ref 1101), none, none, some (.int (3 : Int32)), some (.int z), some (.int (i + 1))], [], m, 0, 0))))))) : Go none aM (Ev mt aM (d + 0)) mJ1_indexOfChar_4cfef Q (7, [some (.ref 1101), none, none, some (.int (3 : Int32)), some (.int z), some (.int i)], [], m, 0, 0) := by
  refine Go.of_run (Ev.mono _) 3 _ ?_
  show Go none aM (Ev mt aM d) mJ1_indexOfChar_4cfef Q (if (3 : Int32) ≤ i then 31 else 13, [some (.ref 1101), none, none, some (.int (3 : Int32)), some (.int z), some (.int i)], [], m, 0, 0)
  rcases Decidable.em ((3 : Int32) ≤ i) with c1 | c1
  · rw [if_pos c1]
    refine Go.of_run (Ev.mono _) 2 _ ?_
    refine ⟨trivial, ?_⟩
    show Q (some (.int (-1 : Int32))) m
    exact (hyp.1 c1)
  · rw [if_neg c1]
    refine Go.of_run (Ev.mono _) 3 _ ?_
    refine ⟨(hyp.2 c1).1, ?_⟩
    show Go none aM (Ev mt aM d) mJ1_indexOfChar_4cfef Q (17, [some (.ref 1101), none, none, some (.int (3 : Int32)), some (.int z), some (.int i)], [.int ((txB.getD 1 []).getD i.toNatClampNeg 0)], m, 0, 0)
    refine Go.of_run (Ev.mono _) 2 _ ?_
    show Go none aM (Ev mt aM d) mJ1_indexOfChar_4cfef Q (if (txB.getD 1 []).getD i.toNatClampNeg 0 = z then 22 else 25, [some (.ref 1101), none, none, some (.int (3 : Int32)), some (.int z), some (.int i)], [], m, 0, 0)
    rcases Decidable.em ((txB.getD 1 []).getD i.toNatClampNeg 0 = z) with c2 | c2
    · rw [if_pos c2]
      refine Go.of_run (Ev.mono _) 2 _ ?_
      refine ⟨trivial, ?_⟩
      show Q (some (.int i)) m
      exact ((hyp.2 c1).2.1 c2)
    · rw [if_neg c2]
      refine Go.of_run (Ev.mono _) 2 _ ?_
      exact ((hyp.2 c1).2.2 c2)
theorem ixl1 {d : Nat} {z : Int32} {m : Mem} {Q : Option Value → Mem → Prop} : ∀ f i, f + i = 3 → Q (some (.int (ixF (txB.getD 1 []) z f i))) m → Go none aM (Ev mt aM d) mJ1_indexOfChar_4cfef Q (7, [some (.ref 1101), none, none, some (.int (3 : Int32)), some (.int z), some (.int (nI i))], [], m, 0, 0) := by
  intro f
  induction f with
  | zero =>
    intro i hi h
    exact ixc1_7 (I := fun _ _ => 0) (J := fun _ _ => 0) (T := fun _ _ => 0) ⟨fun _ => h, fun c => absurd (nI_le (a := 3) (b := i) (by omega) (by omega)) c⟩
  | succ f ih =>
    intro i hi h
    refine ixc1_7 (I := fun _ _ => 0) (J := fun _ _ => 0) (T := fun _ _ => 0) ⟨fun c => absurd c (nI_ge (a := i) (b := 3) (by omega) (by omega)), fun _ => ⟨vp_in_nI (by omega) (by omega), ?_⟩⟩
    rw [nI_clamp (by omega), nI_1]
    unfold ixF at h
    by_cases c : (txB.getD 1 []).getD i 0 = z
    · rw [if_pos c] at h
      exact ⟨fun _ => h, fun q => absurd c q⟩
    · rw [if_neg c] at h
      exact ⟨fun q => absurd q c, fun _ => ih (i + 1) (by omega) h⟩
theorem ev_ixc1 {d : Nat} {c : Int32} {m : Mem} {Q : Option Value → Mem → Prop} (h : Q (some (.int (ixF (txB.getD 1 []) c.toInt8.toInt32 3 0))) m) : Ev mt aM (d + 1) 294 [.ref 1101, .int c, .int (0 : Int32), .int (3 : Int32)] m Q := Ev.intro mJ1_indexOfChar_4cfef rfl rfl (ixc1_0 (I := fun _ _ => 0) (J := fun _ _ => 0) (T := fun _ _ => 0) (ixl1 3 0 rfl h))
set_option maxRecDepth 20000 in
theorem ixb1_0 {d : Nat} {c : Int32} {I : Nat → Nat → Int32} {J : Nat → Nat → Int64} {T : Nat → Nat → Nat} {m : Mem} {Q : Option Value → Mem → Prop} (hyp : ((v_J1_canEncode_9a6ad c = 0 → Q (some (.int (-1 : Int32))) m) ∧ ((¬ (v_J1_canEncode_9a6ad c = 0)) → Q (some (.int (ixF (txB.getD 1 []) c.toInt8.toInt32 3 0))) m))) : Go none aM (Ev mt aM (d + 1)) mJ1_indexOf_4cfef Q (0, [some (.ref 1101), some (.int c), some (.int (0 : Int32)), some (.int (3 : Int32))], [], m, 0, 0) := by
  refine Go.of_run (Ev.mono _) 2 _ ?_
  refine ⟨Nat.le_of_ble_eq_true rfl, ev_J1_canEncode_9a6ad ?_⟩
  show Go none aM (Ev mt aM (d + 1)) mJ1_indexOf_4cfef Q (4, [some (.ref 1101), some (.int c), some (.int (0 : Int32)), some (.int (3 : Int32))], [.int (v_J1_canEncode_9a6ad c)], m, 0, 0)
  refine Go.of_run (Ev.mono _) 1 _ ?_
  show Go none aM (Ev mt aM (d + 1)) mJ1_indexOf_4cfef Q (if v_J1_canEncode_9a6ad c = 0 then 7 else 9, [some (.ref 1101), some (.int c), some (.int (0 : Int32)), some (.int (3 : Int32))], [], m, 0, 0)
  rcases Decidable.em (v_J1_canEncode_9a6ad c = 0) with c1 | c1
  · rw [if_pos c1]
    refine Go.of_run (Ev.mono _) 2 _ ?_
    refine ⟨trivial, ?_⟩
    show Q (some (.int (-1 : Int32))) m
    exact (hyp.1 c1)
  · rw [if_neg c1]
    refine Go.of_run (Ev.mono _) 3 _ ?_
    refine ⟨Nat.le_of_ble_eq_true rfl, ?_⟩
    show Go none aM (Ev mt aM (d + 1)) mJ1_indexOf_4cfef Q (14, [some (.ref 1101), some (.int c), some (.int (0 : Int32)), some (.int (3 : Int32))], [.int (0 : Int32)], m, 0, 0)
    refine Go.of_run (Ev.mono _) 5 _ ?_
    refine ⟨Nat.le_of_ble_eq_true rfl, ?_⟩
    show Go none aM (Ev mt aM (d + 1)) mJ1_indexOf_4cfef Q (21, [some (.ref 1101), some (.int c), some (.int (0 : Int32)), some (.int (3 : Int32))], [.int (3 : Int32)], m, 0, 0)
    refine Go.of_run (Ev.mono _) 4 _ ?_
    show Go none aM (Ev mt aM (d + 1)) mJ1_indexOf_4cfef Q (if (0 : Int32) < (3 : Int32) then 29 else 27, [some (.ref 1101), some (.int c), some (.int (0 : Int32)), some (.int (3 : Int32))], [], m, 0, 0)
    rw [if_pos (by decide : (0 : Int32) < (3 : Int32))]
    refine Go.of_run (Ev.mono _) 5 _ ?_
    refine ⟨Nat.le_of_ble_eq_true rfl, ev_ixc1 ?_⟩
    show Go none aM (Ev mt aM (d + 1)) mJ1_indexOf_4cfef Q (36, [some (.ref 1101), some (.int c), some (.int (0 : Int32)), some (.int (3 : Int32))], [.int (ixF (txB.getD 1 []) c.toInt8.toInt32 3 0)], m, 0, 0)
    refine Go.of_run (Ev.mono _) 1 _ ?_
    refine ⟨trivial, ?_⟩
    show Q (some (.int (ixF (txB.getD 1 []) c.toInt8.toInt32 3 0))) m
    exact (hyp.2 c1)
theorem ev_ixb1 {d : Nat} {c : Int32} {m : Mem} {Q : Option Value → Mem → Prop} (h : Q (some (.int (ixB 1 3 c))) m) : Ev mt aM (d + 2) 293 [.ref 1101, .int c, .int (0 : Int32), .int (3 : Int32)] m Q := by
  refine Ev.intro mJ1_indexOf_4cfef rfl rfl (ixb1_0 (I := fun _ _ => 0) (J := fun _ _ => 0) (T := fun _ _ => 0) ?_)
  unfold ixB at h
  by_cases c1 : v_J1_canEncode_9a6ad c = 0
  · rw [if_pos c1] at h; exact ⟨fun _ => h, fun q => absurd c1 q⟩
  · rw [if_neg c1] at h; exact ⟨fun q => absurd q c1, fun _ => h⟩
set_option maxRecDepth 20000 in
theorem ev_J0_isLatin1_aae02_1001 {d : Nat} {m : Mem} {Q : Option Value → Mem → Prop} (h : Q (some (.int (1 : Int32))) m) : Ev mt aM (d + 1) 291 [.ref 1001] m Q := by
  refine Ev.intro mJ0_isLatin1_aae02 rfl rfl ?_
  show Go none aM (Ev mt aM d) mJ0_isLatin1_aae02 Q (0, [some (.ref 1001)], [], m, 0, 0)
  refine Go.of_run (Ev.mono _) 2 _ ?_
  show Go none aM (Ev mt aM d) mJ0_isLatin1_aae02 Q (if (1 : Int32) = 0 then 17 else 6, [some (.ref 1001)], [], m, 0, 0)
  rw [if_neg (by decide : ¬ ((1 : Int32) = 0))]
  refine Go.of_run (Ev.mono _) 3 _ ?_
  show Go none aM (Ev mt aM d) mJ0_isLatin1_aae02 Q (if (0 : Int32) = 0 then 13 else 17, [some (.ref 1001)], [], m, 0, 0)
  rw [if_pos (by decide : (0 : Int32) = 0)]
  refine Go.of_run (Ev.mono _) 3 _ ?_
  refine ⟨(by decide), ?_⟩
  show Q (some (.int (1 : Int32))) m
  exact h
set_option maxRecDepth 20000 in
theorem ev_J0_coder_7d493_1001 {d : Nat} {m : Mem} {Q : Option Value → Mem → Prop} (h : Q (some (.int (0 : Int32))) m) : Ev mt aM (d + 1) 290 [.ref 1001] m Q := by
  refine Ev.intro mJ0_coder_7d493 rfl rfl ?_
  show Go none aM (Ev mt aM d) mJ0_coder_7d493 Q (0, [some (.ref 1001)], [], m, 0, 0)
  refine Go.of_run (Ev.mono _) 2 _ ?_
  show Go none aM (Ev mt aM d) mJ0_coder_7d493 Q (if (1 : Int32) = 0 then 13 else 6, [some (.ref 1001)], [], m, 0, 0)
  rw [if_neg (by decide : ¬ ((1 : Int32) = 0))]
  refine Go.of_run (Ev.mono _) 4 _ ?_
  refine ⟨(by decide), ?_⟩
  show Q (some (.int (0 : Int32))) m
  exact h
set_option maxRecDepth 20000 in
theorem ev_J0_length_8abf5_1001 {d : Nat} {m : Mem} {Q : Option Value → Mem → Prop} (h : Q (some (.int (3 : Int32))) m) : Ev mt aM (d + 2) 287 [.ref 1001] m Q := by
  refine Ev.intro mJ0_length_8abf5 rfl rfl ?_
  show Go none aM (Ev mt aM (d + 1)) mJ0_length_8abf5 Q (0, [some (.ref 1001)], [], m, 0, 0)
  refine Go.of_run (Ev.mono _) 5 _ ?_
  refine ⟨Nat.le_of_ble_eq_true rfl, ev_J0_coder_7d493_1001 ?_⟩
  show Go none aM (Ev mt aM (d + 1)) mJ0_length_8abf5 Q (9, [some (.ref 1001)], [.int (0 : Int32), .int (3 : Int32)], m, 0, 0)
  refine Go.of_run (Ev.mono _) 2 _ ?_
  refine ⟨trivial, ?_⟩
  show Q (some (.int (3 : Int32))) m
  exact h
set_option maxRecDepth 20000 in
theorem ixd1_0 {d : Nat} {c : Int32} {I : Nat → Nat → Int32} {J : Nat → Nat → Int64} {T : Nat → Nat → Nat} {m : Mem} {Q : Option Value → Mem → Prop} (hyp : Q (some (.int (ixB 1 3 c))) m) : Go none aM (Ev mt aM (d + 2)) mJ0_indexOf_7cf53 Q (0, [some (.ref 1001), some (.int c), some (.int (0 : Int32))], [], m, 0, 0) := by
  refine Go.of_run (Ev.mono _) 2 _ ?_
  refine ⟨Nat.le_of_ble_eq_true rfl, ev_J0_isLatin1_aae02_1001 ?_⟩
  show Go none aM (Ev mt aM (d + 2)) mJ0_indexOf_7cf53 Q (4, [some (.ref 1001), some (.int c), some (.int (0 : Int32))], [.int (1 : Int32)], m, 0, 0)
  refine Go.of_run (Ev.mono _) 1 _ ?_
  show Go none aM (Ev mt aM (d + 2)) mJ0_indexOf_7cf53 Q (if (1 : Int32) = 0 then 23 else 7, [some (.ref 1001), some (.int c), some (.int (0 : Int32))], [], m, 0, 0)
  rw [if_neg (by decide : ¬ ((1 : Int32) = 0))]
  refine Go.of_run (Ev.mono _) 6 _ ?_
  refine ⟨Nat.le_of_ble_eq_true rfl, ev_J0_length_8abf5_1001 ?_⟩
  show Go none aM (Ev mt aM (d + 2)) mJ0_indexOf_7cf53 Q (17, [some (.ref 1001), some (.int c), some (.int (0 : Int32))], [.int (3 : Int32), .int (0 : Int32), .int c, .ref 1101], m, 0, 0)
  refine Go.of_run (Ev.mono _) 1 _ ?_
  refine ⟨Nat.le_of_ble_eq_true rfl, ev_ixb1 ?_⟩
  show Go none aM (Ev mt aM (d + 2)) mJ0_indexOf_7cf53 Q (20, [some (.ref 1001), some (.int c), some (.int (0 : Int32))], [.int (ixB 1 3 c)], m, 0, 0)
  refine Go.of_run (Ev.mono _) 2 _ ?_
  refine ⟨trivial, ?_⟩
  show Q (some (.int (ixB 1 3 c))) m
  exact hyp
theorem ev_ixd1 {d : Nat} {c : Int32} {m : Mem} {Q : Option Value → Mem → Prop} (h : Q (some (.int (ixB 1 3 c))) m) : Ev mt aM (d + 3) 289 [.ref 1001, .int c, .int (0 : Int32)] m Q := Ev.intro mJ0_indexOf_7cf53 rfl rfl (ixd1_0 (I := fun _ _ => 0) (J := fun _ _ => 0) (T := fun _ _ => 0) h)
set_option maxRecDepth 20000 in
theorem ixe1_0 {d : Nat} {c : Int32} {I : Nat → Nat → Int32} {J : Nat → Nat → Int64} {T : Nat → Nat → Nat} {m : Mem} {Q : Option Value → Mem → Prop} (hyp : Q (some (.int (ixB 1 3 c))) m) : Go none aM (Ev mt aM (d + 3)) mJ0_indexOf_0f7a4 Q (0, [some (.ref 1001), some (.int c)], [], m, 0, 0) := by
  refine Go.of_run (Ev.mono _) 4 _ ?_
  refine ⟨Nat.le_of_ble_eq_true rfl, ev_ixd1 ?_⟩
  show Go none aM (Ev mt aM (d + 3)) mJ0_indexOf_0f7a4 Q (6, [some (.ref 1001), some (.int c)], [.int (ixB 1 3 c)], m, 0, 0)
  refine Go.of_run (Ev.mono _) 1 _ ?_
  refine ⟨trivial, ?_⟩
  show Q (some (.int (ixB 1 3 c))) m
  exact hyp
theorem ev_ixe1 {d : Nat} {c : Int32} {m : Mem} {Q : Option Value → Mem → Prop} (h : Q (some (.int (ixB 1 3 c))) m) : Ev mt aM (d + 4) 288 [.ref 1001, .int c] m Q := Ev.intro mJ0_indexOf_0f7a4 rfl rfl (ixe1_0 (I := fun _ _ => 0) (J := fun _ _ => 0) (T := fun _ _ => 0) h)
set_option maxRecDepth 20000 in
theorem iso1_0 {d : Nat} {I : Nat → Nat → Int32} {J : Nat → Nat → Int64} {T : Nat → Nat → Nat} {Q : Option Value → Mem → Prop} (hyp : ((I 62 5 < 0 → Q (some (.int (0 : Int32))) (SH, mkM I J T)) ∧ ((¬ (I 62 5 < 0)) → ((ixB 1 3 (((I 62 5).toUInt32 % 65536).toInt32) < 0 → Q (some (.int (0 : Int32))) (SH, mkM I J T)) ∧ ((¬ (ixB 1 3 (((I 62 5).toUInt32 % 65536).toInt32) < 0)) → Q (some (.int (1 : Int32))) (SH, mkM I J T)))))) : Go none aM (Ev mt aM (d + 6)) mX3_isOneOf Q (0, [some (.ref 62), some (.ref 1001)], [], (SH, mkM I J T), 0, 0) := by
  refine Go.of_run (Ev.mono _) 3 _ ?_
  show Go none aM (Ev mt aM (d + 6)) mX3_isOneOf Q (if I 62 5 < 0 then 23 else 7, [some (.ref 62), some (.ref 1001)], [], (SH, mkM I J T), 0, 0)
  rcases Decidable.em (I 62 5 < 0) with c1 | c1
  · rw [if_pos c1]
    refine Go.of_run (Ev.mono _) 2 _ ?_
    refine ⟨(by decide), ?_⟩
    show Q (some (.int (0 : Int32))) (SH, mkM I J T)
    exact (hyp.1 c1)
  · rw [if_neg c1]
    refine Go.of_run (Ev.mono _) 5 _ ?_
    refine ⟨Nat.le_of_ble_eq_true rfl, ev_ixe1 ?_⟩
    show Go none aM (Ev mt aM (d + 6)) mX3_isOneOf Q (16, [some (.ref 62), some (.ref 1001)], [.int (ixB 1 3 (((I 62 5).toUInt32 % 65536).toInt32))], (SH, mkM I J T), 0, 0)
    refine Go.of_run (Ev.mono _) 1 _ ?_
    show Go none aM (Ev mt aM (d + 6)) mX3_isOneOf Q (if ixB 1 3 (((I 62 5).toUInt32 % 65536).toInt32) < 0 then 23 else 19, [some (.ref 62), some (.ref 1001)], [], (SH, mkM I J T), 0, 0)
    rcases Decidable.em (ixB 1 3 (((I 62 5).toUInt32 % 65536).toInt32) < 0) with c2 | c2
    · rw [if_pos c2]
      refine Go.of_run (Ev.mono _) 2 _ ?_
      refine ⟨(by decide), ?_⟩
      show Q (some (.int (0 : Int32))) (SH, mkM I J T)
      exact ((hyp.2 c1).1 c2)
    · rw [if_neg c2]
      refine Go.of_run (Ev.mono _) 3 _ ?_
      refine ⟨(by decide), ?_⟩
      show Q (some (.int (1 : Int32))) (SH, mkM I J T)
      exact ((hyp.2 c1).2 c2)
set_option maxRecDepth 20000 in
theorem ixc2_0 {d : Nat} {c : Int32} {I : Nat → Nat → Int32} {J : Nat → Nat → Int64} {T : Nat → Nat → Nat} {m : Mem} {Q : Option Value → Mem → Prop} (hyp : Go none aM (Ev mt aM d) mJ1_indexOfChar_4cfef Q (7, [some (.ref 1102), none, none, some (.int (10 : Int32)), some (.int c.toInt8.toInt32), some (.int (0 : Int32))], [], m, 0, 0)) : Go none aM (Ev mt aM (d + 0)) mJ1_indexOfChar_4cfef Q (0, [some (.ref 1102), some (.int c), some (.int (0 : Int32)), some (.int (10 : Int32)), none, none], [], m, 0, 0) := by
  refine Go.of_run (Ev.mono _) 5 _ ?_
  exact Go.weak (Ev.mono _) (LLe.cons (LLe.drop (LLe.drop (LLe.cons (LLe.cons (LLe.cons LLe.nil)))))) hyp
set_option maxRecDepth 20000 in
theorem ixc2_7 {d : Nat} {z i : Int32} {I : Nat → Nat → Int32} {J : Nat → Nat → Int64} {T : Nat → Nat → Nat} {m : Mem} {Q : Option Value → Mem → Prop} (hyp : (((10 : Int32) ≤ i → Q (some (.int (-1 : Int32))) m) ∧ ((¬ ((10 : Int32) ≤ i)) → (vp_in i 10 ∧ (((txB.getD 2 []).getD i.toNatClampNeg 0 = z → Q (some (.int i)) m) ∧ ((¬ ((txB.getD 2 []).getD i.toNatClampNeg 0 = z)) → Go none aM (Ev mt aM d) mJ1_indexOfChar_4cfef Q (7, [some (.ref 1102), none, none, some (.int (10 : Int32)), some (.int z), some (.int (i + 1))], [], m, 0, 0))))))) : Go none aM (Ev mt aM (d + 0)) mJ1_indexOfChar_4cfef Q (7, [some (.ref 1102), none, none, some (.int (10 : Int32)), some (.int z), some (.int i)], [], m, 0, 0) := by
  refine Go.of_run (Ev.mono _) 3 _ ?_
  show Go none aM (Ev mt aM d) mJ1_indexOfChar_4cfef Q (if (10 : Int32) ≤ i then 31 else 13, [some (.ref 1102), none, none, some (.int (10 : Int32)), some (.int z), some (.int i)], [], m, 0, 0)
  rcases Decidable.em ((10 : Int32) ≤ i) with c1 | c1
  · rw [if_pos c1]
    refine Go.of_run (Ev.mono _) 2 _ ?_
    refine ⟨trivial, ?_⟩
    show Q (some (.int (-1 : Int32))) m
    exact (hyp.1 c1)
  · rw [if_neg c1]
    refine Go.of_run (Ev.mono _) 3 _ ?_
    refine ⟨(hyp.2 c1).1, ?_⟩
    show Go none aM (Ev mt aM d) mJ1_indexOfChar_4cfef Q (17, [some (.ref 1102), none, none, some (.int (10 : Int32)), some (.int z), some (.int i)], [.int ((txB.getD 2 []).getD i.toNatClampNeg 0)], m, 0, 0)
    refine Go.of_run (Ev.mono _) 2 _ ?_
    show Go none aM (Ev mt aM d) mJ1_indexOfChar_4cfef Q (if (txB.getD 2 []).getD i.toNatClampNeg 0 = z then 22 else 25, [some (.ref 1102), none, none, some (.int (10 : Int32)), some (.int z), some (.int i)], [], m, 0, 0)
    rcases Decidable.em ((txB.getD 2 []).getD i.toNatClampNeg 0 = z) with c2 | c2
    · rw [if_pos c2]
      refine Go.of_run (Ev.mono _) 2 _ ?_
      refine ⟨trivial, ?_⟩
      show Q (some (.int i)) m
      exact ((hyp.2 c1).2.1 c2)
    · rw [if_neg c2]
      refine Go.of_run (Ev.mono _) 2 _ ?_
      exact ((hyp.2 c1).2.2 c2)
theorem ixl2 {d : Nat} {z : Int32} {m : Mem} {Q : Option Value → Mem → Prop} : ∀ f i, f + i = 10 → Q (some (.int (ixF (txB.getD 2 []) z f i))) m → Go none aM (Ev mt aM d) mJ1_indexOfChar_4cfef Q (7, [some (.ref 1102), none, none, some (.int (10 : Int32)), some (.int z), some (.int (nI i))], [], m, 0, 0) := by
  intro f
  induction f with
  | zero =>
    intro i hi h
    exact ixc2_7 (I := fun _ _ => 0) (J := fun _ _ => 0) (T := fun _ _ => 0) ⟨fun _ => h, fun c => absurd (nI_le (a := 10) (b := i) (by omega) (by omega)) c⟩
  | succ f ih =>
    intro i hi h
    refine ixc2_7 (I := fun _ _ => 0) (J := fun _ _ => 0) (T := fun _ _ => 0) ⟨fun c => absurd c (nI_ge (a := i) (b := 10) (by omega) (by omega)), fun _ => ⟨vp_in_nI (by omega) (by omega), ?_⟩⟩
    rw [nI_clamp (by omega), nI_1]
    unfold ixF at h
    by_cases c : (txB.getD 2 []).getD i 0 = z
    · rw [if_pos c] at h
      exact ⟨fun _ => h, fun q => absurd c q⟩
    · rw [if_neg c] at h
      exact ⟨fun q => absurd q c, fun _ => ih (i + 1) (by omega) h⟩
theorem ev_ixc2 {d : Nat} {c : Int32} {m : Mem} {Q : Option Value → Mem → Prop} (h : Q (some (.int (ixF (txB.getD 2 []) c.toInt8.toInt32 10 0))) m) : Ev mt aM (d + 1) 294 [.ref 1102, .int c, .int (0 : Int32), .int (10 : Int32)] m Q := Ev.intro mJ1_indexOfChar_4cfef rfl rfl (ixc2_0 (I := fun _ _ => 0) (J := fun _ _ => 0) (T := fun _ _ => 0) (ixl2 10 0 rfl h))
set_option maxRecDepth 20000 in
theorem ixb2_0 {d : Nat} {c : Int32} {I : Nat → Nat → Int32} {J : Nat → Nat → Int64} {T : Nat → Nat → Nat} {m : Mem} {Q : Option Value → Mem → Prop} (hyp : ((v_J1_canEncode_9a6ad c = 0 → Q (some (.int (-1 : Int32))) m) ∧ ((¬ (v_J1_canEncode_9a6ad c = 0)) → Q (some (.int (ixF (txB.getD 2 []) c.toInt8.toInt32 10 0))) m))) : Go none aM (Ev mt aM (d + 1)) mJ1_indexOf_4cfef Q (0, [some (.ref 1102), some (.int c), some (.int (0 : Int32)), some (.int (10 : Int32))], [], m, 0, 0) := by
  refine Go.of_run (Ev.mono _) 2 _ ?_
  refine ⟨Nat.le_of_ble_eq_true rfl, ev_J1_canEncode_9a6ad ?_⟩
  show Go none aM (Ev mt aM (d + 1)) mJ1_indexOf_4cfef Q (4, [some (.ref 1102), some (.int c), some (.int (0 : Int32)), some (.int (10 : Int32))], [.int (v_J1_canEncode_9a6ad c)], m, 0, 0)
  refine Go.of_run (Ev.mono _) 1 _ ?_
  show Go none aM (Ev mt aM (d + 1)) mJ1_indexOf_4cfef Q (if v_J1_canEncode_9a6ad c = 0 then 7 else 9, [some (.ref 1102), some (.int c), some (.int (0 : Int32)), some (.int (10 : Int32))], [], m, 0, 0)
  rcases Decidable.em (v_J1_canEncode_9a6ad c = 0) with c1 | c1
  · rw [if_pos c1]
    refine Go.of_run (Ev.mono _) 2 _ ?_
    refine ⟨trivial, ?_⟩
    show Q (some (.int (-1 : Int32))) m
    exact (hyp.1 c1)
  · rw [if_neg c1]
    refine Go.of_run (Ev.mono _) 3 _ ?_
    refine ⟨Nat.le_of_ble_eq_true rfl, ?_⟩
    show Go none aM (Ev mt aM (d + 1)) mJ1_indexOf_4cfef Q (14, [some (.ref 1102), some (.int c), some (.int (0 : Int32)), some (.int (10 : Int32))], [.int (0 : Int32)], m, 0, 0)
    refine Go.of_run (Ev.mono _) 5 _ ?_
    refine ⟨Nat.le_of_ble_eq_true rfl, ?_⟩
    show Go none aM (Ev mt aM (d + 1)) mJ1_indexOf_4cfef Q (21, [some (.ref 1102), some (.int c), some (.int (0 : Int32)), some (.int (10 : Int32))], [.int (10 : Int32)], m, 0, 0)
    refine Go.of_run (Ev.mono _) 4 _ ?_
    show Go none aM (Ev mt aM (d + 1)) mJ1_indexOf_4cfef Q (if (0 : Int32) < (10 : Int32) then 29 else 27, [some (.ref 1102), some (.int c), some (.int (0 : Int32)), some (.int (10 : Int32))], [], m, 0, 0)
    rw [if_pos (by decide : (0 : Int32) < (10 : Int32))]
    refine Go.of_run (Ev.mono _) 5 _ ?_
    refine ⟨Nat.le_of_ble_eq_true rfl, ev_ixc2 ?_⟩
    show Go none aM (Ev mt aM (d + 1)) mJ1_indexOf_4cfef Q (36, [some (.ref 1102), some (.int c), some (.int (0 : Int32)), some (.int (10 : Int32))], [.int (ixF (txB.getD 2 []) c.toInt8.toInt32 10 0)], m, 0, 0)
    refine Go.of_run (Ev.mono _) 1 _ ?_
    refine ⟨trivial, ?_⟩
    show Q (some (.int (ixF (txB.getD 2 []) c.toInt8.toInt32 10 0))) m
    exact (hyp.2 c1)
theorem ev_ixb2 {d : Nat} {c : Int32} {m : Mem} {Q : Option Value → Mem → Prop} (h : Q (some (.int (ixB 2 10 c))) m) : Ev mt aM (d + 2) 293 [.ref 1102, .int c, .int (0 : Int32), .int (10 : Int32)] m Q := by
  refine Ev.intro mJ1_indexOf_4cfef rfl rfl (ixb2_0 (I := fun _ _ => 0) (J := fun _ _ => 0) (T := fun _ _ => 0) ?_)
  unfold ixB at h
  by_cases c1 : v_J1_canEncode_9a6ad c = 0
  · rw [if_pos c1] at h; exact ⟨fun _ => h, fun q => absurd c1 q⟩
  · rw [if_neg c1] at h; exact ⟨fun q => absurd q c1, fun _ => h⟩
set_option maxRecDepth 20000 in
theorem ixd2_0 {d : Nat} {c : Int32} {I : Nat → Nat → Int32} {J : Nat → Nat → Int64} {T : Nat → Nat → Nat} {m : Mem} {Q : Option Value → Mem → Prop} (hyp : Q (some (.int (ixB 2 10 c))) m) : Go none aM (Ev mt aM (d + 2)) mJ0_indexOf_7cf53 Q (0, [some (.ref 1002), some (.int c), some (.int (0 : Int32))], [], m, 0, 0) := by
  refine Go.of_run (Ev.mono _) 2 _ ?_
  refine ⟨Nat.le_of_ble_eq_true rfl, ev_J0_isLatin1_aae02_1002 ?_⟩
  show Go none aM (Ev mt aM (d + 2)) mJ0_indexOf_7cf53 Q (4, [some (.ref 1002), some (.int c), some (.int (0 : Int32))], [.int (1 : Int32)], m, 0, 0)
  refine Go.of_run (Ev.mono _) 1 _ ?_
  show Go none aM (Ev mt aM (d + 2)) mJ0_indexOf_7cf53 Q (if (1 : Int32) = 0 then 23 else 7, [some (.ref 1002), some (.int c), some (.int (0 : Int32))], [], m, 0, 0)
  rw [if_neg (by decide : ¬ ((1 : Int32) = 0))]
  refine Go.of_run (Ev.mono _) 6 _ ?_
  refine ⟨Nat.le_of_ble_eq_true rfl, ev_J0_length_8abf5_1002 ?_⟩
  show Go none aM (Ev mt aM (d + 2)) mJ0_indexOf_7cf53 Q (17, [some (.ref 1002), some (.int c), some (.int (0 : Int32))], [.int (10 : Int32), .int (0 : Int32), .int c, .ref 1102], m, 0, 0)
  refine Go.of_run (Ev.mono _) 1 _ ?_
  refine ⟨Nat.le_of_ble_eq_true rfl, ev_ixb2 ?_⟩
  show Go none aM (Ev mt aM (d + 2)) mJ0_indexOf_7cf53 Q (20, [some (.ref 1002), some (.int c), some (.int (0 : Int32))], [.int (ixB 2 10 c)], m, 0, 0)
  refine Go.of_run (Ev.mono _) 2 _ ?_
  refine ⟨trivial, ?_⟩
  show Q (some (.int (ixB 2 10 c))) m
  exact hyp
theorem ev_ixd2 {d : Nat} {c : Int32} {m : Mem} {Q : Option Value → Mem → Prop} (h : Q (some (.int (ixB 2 10 c))) m) : Ev mt aM (d + 3) 289 [.ref 1002, .int c, .int (0 : Int32)] m Q := Ev.intro mJ0_indexOf_7cf53 rfl rfl (ixd2_0 (I := fun _ _ => 0) (J := fun _ _ => 0) (T := fun _ _ => 0) h)
set_option maxRecDepth 20000 in
theorem ixe2_0 {d : Nat} {c : Int32} {I : Nat → Nat → Int32} {J : Nat → Nat → Int64} {T : Nat → Nat → Nat} {m : Mem} {Q : Option Value → Mem → Prop} (hyp : Q (some (.int (ixB 2 10 c))) m) : Go none aM (Ev mt aM (d + 3)) mJ0_indexOf_0f7a4 Q (0, [some (.ref 1002), some (.int c)], [], m, 0, 0) := by
  refine Go.of_run (Ev.mono _) 4 _ ?_
  refine ⟨Nat.le_of_ble_eq_true rfl, ev_ixd2 ?_⟩
  show Go none aM (Ev mt aM (d + 3)) mJ0_indexOf_0f7a4 Q (6, [some (.ref 1002), some (.int c)], [.int (ixB 2 10 c)], m, 0, 0)
  refine Go.of_run (Ev.mono _) 1 _ ?_
  refine ⟨trivial, ?_⟩
  show Q (some (.int (ixB 2 10 c))) m
  exact hyp
theorem ev_ixe2 {d : Nat} {c : Int32} {m : Mem} {Q : Option Value → Mem → Prop} (h : Q (some (.int (ixB 2 10 c))) m) : Ev mt aM (d + 4) 288 [.ref 1002, .int c] m Q := Ev.intro mJ0_indexOf_0f7a4 rfl rfl (ixe2_0 (I := fun _ _ => 0) (J := fun _ _ => 0) (T := fun _ _ => 0) h)
set_option maxRecDepth 20000 in
theorem iso2_0 {d : Nat} {I : Nat → Nat → Int32} {J : Nat → Nat → Int64} {T : Nat → Nat → Nat} {Q : Option Value → Mem → Prop} (hyp : ((I 62 5 < 0 → Q (some (.int (0 : Int32))) (SH, mkM I J T)) ∧ ((¬ (I 62 5 < 0)) → ((ixB 2 10 (((I 62 5).toUInt32 % 65536).toInt32) < 0 → Q (some (.int (0 : Int32))) (SH, mkM I J T)) ∧ ((¬ (ixB 2 10 (((I 62 5).toUInt32 % 65536).toInt32) < 0)) → Q (some (.int (1 : Int32))) (SH, mkM I J T)))))) : Go none aM (Ev mt aM (d + 6)) mX3_isOneOf Q (0, [some (.ref 62), some (.ref 1002)], [], (SH, mkM I J T), 0, 0) := by
  refine Go.of_run (Ev.mono _) 3 _ ?_
  show Go none aM (Ev mt aM (d + 6)) mX3_isOneOf Q (if I 62 5 < 0 then 23 else 7, [some (.ref 62), some (.ref 1002)], [], (SH, mkM I J T), 0, 0)
  rcases Decidable.em (I 62 5 < 0) with c1 | c1
  · rw [if_pos c1]
    refine Go.of_run (Ev.mono _) 2 _ ?_
    refine ⟨(by decide), ?_⟩
    show Q (some (.int (0 : Int32))) (SH, mkM I J T)
    exact (hyp.1 c1)
  · rw [if_neg c1]
    refine Go.of_run (Ev.mono _) 5 _ ?_
    refine ⟨Nat.le_of_ble_eq_true rfl, ev_ixe2 ?_⟩
    show Go none aM (Ev mt aM (d + 6)) mX3_isOneOf Q (16, [some (.ref 62), some (.ref 1002)], [.int (ixB 2 10 (((I 62 5).toUInt32 % 65536).toInt32))], (SH, mkM I J T), 0, 0)
    refine Go.of_run (Ev.mono _) 1 _ ?_
    show Go none aM (Ev mt aM (d + 6)) mX3_isOneOf Q (if ixB 2 10 (((I 62 5).toUInt32 % 65536).toInt32) < 0 then 23 else 19, [some (.ref 62), some (.ref 1002)], [], (SH, mkM I J T), 0, 0)
    rcases Decidable.em (ixB 2 10 (((I 62 5).toUInt32 % 65536).toInt32) < 0) with c2 | c2
    · rw [if_pos c2]
      refine Go.of_run (Ev.mono _) 2 _ ?_
      refine ⟨(by decide), ?_⟩
      show Q (some (.int (0 : Int32))) (SH, mkM I J T)
      exact ((hyp.2 c1).1 c2)
    · rw [if_neg c2]
      refine Go.of_run (Ev.mono _) 3 _ ?_
      refine ⟨(by decide), ?_⟩
      show Q (some (.int (1 : Int32))) (SH, mkM I J T)
      exact ((hyp.2 c1).2 c2)
set_option maxRecDepth 20000 in
theorem ixc3_0 {d : Nat} {c : Int32} {I : Nat → Nat → Int32} {J : Nat → Nat → Int64} {T : Nat → Nat → Nat} {m : Mem} {Q : Option Value → Mem → Prop} (hyp : Go none aM (Ev mt aM d) mJ1_indexOfChar_4cfef Q (7, [some (.ref 1103), none, none, some (.int (16 : Int32)), some (.int c.toInt8.toInt32), some (.int (0 : Int32))], [], m, 0, 0)) : Go none aM (Ev mt aM (d + 0)) mJ1_indexOfChar_4cfef Q (0, [some (.ref 1103), some (.int c), some (.int (0 : Int32)), some (.int (16 : Int32)), none, none], [], m, 0, 0) := by
  refine Go.of_run (Ev.mono _) 5 _ ?_
  exact Go.weak (Ev.mono _) (LLe.cons (LLe.drop (LLe.drop (LLe.cons (LLe.cons (LLe.cons LLe.nil)))))) hyp
set_option maxRecDepth 20000 in
theorem ixc3_7 {d : Nat} {z i : Int32} {I : Nat → Nat → Int32} {J : Nat → Nat → Int64} {T : Nat → Nat → Nat} {m : Mem} {Q : Option Value → Mem → Prop} (hyp : (((16 : Int32) ≤ i → Q (some (.int (-1 : Int32))) m) ∧ ((¬ ((16 : Int32) ≤ i)) → (vp_in i 16 ∧ (((txB.getD 3 []).getD i.toNatClampNeg 0 = z → Q (some (.int i)) m) ∧ ((¬ ((txB.getD 3 []).getD i.toNatClampNeg 0 = z)) → Go none aM (Ev mt aM d) mJ1_indexOfChar_4cfef Q (7, [some (.ref 1103), none, none, some (.int (16 : Int32)), some (.int z), some (.int (i + 1))], [], m, 0, 0))))))) : Go none aM (Ev mt aM (d + 0)) mJ1_indexOfChar_4cfef Q (7, [some (.ref 1103), none, none, some (.int (16 : Int32)), some (.int z), some (.int i)], [], m, 0, 0) := by
  refine Go.of_run (Ev.mono _) 3 _ ?_
  show Go none aM (Ev mt aM d) mJ1_indexOfChar_4cfef Q (if (16 : Int32) ≤ i then 31 else 13, [some (.ref 1103), none, none, some (.int (16 : Int32)), some (.int z), some (.int i)], [], m, 0, 0)
  rcases Decidable.em ((16 : Int32) ≤ i) with c1 | c1
  · rw [if_pos c1]
    refine Go.of_run (Ev.mono _) 2 _ ?_
    refine ⟨trivial, ?_⟩
    show Q (some (.int (-1 : Int32))) m
    exact (hyp.1 c1)
  · rw [if_neg c1]
    refine Go.of_run (Ev.mono _) 3 _ ?_
    refine ⟨(hyp.2 c1).1, ?_⟩
    show Go none aM (Ev mt aM d) mJ1_indexOfChar_4cfef Q (17, [some (.ref 1103), none, none, some (.int (16 : Int32)), some (.int z), some (.int i)], [.int ((txB.getD 3 []).getD i.toNatClampNeg 0)], m, 0, 0)
    refine Go.of_run (Ev.mono _) 2 _ ?_
    show Go none aM (Ev mt aM d) mJ1_indexOfChar_4cfef Q (if (txB.getD 3 []).getD i.toNatClampNeg 0 = z then 22 else 25, [some (.ref 1103), none, none, some (.int (16 : Int32)), some (.int z), some (.int i)], [], m, 0, 0)
    rcases Decidable.em ((txB.getD 3 []).getD i.toNatClampNeg 0 = z) with c2 | c2
    · rw [if_pos c2]
      refine Go.of_run (Ev.mono _) 2 _ ?_
      refine ⟨trivial, ?_⟩
      show Q (some (.int i)) m
      exact ((hyp.2 c1).2.1 c2)
    · rw [if_neg c2]
      refine Go.of_run (Ev.mono _) 2 _ ?_
      exact ((hyp.2 c1).2.2 c2)
theorem ixl3 {d : Nat} {z : Int32} {m : Mem} {Q : Option Value → Mem → Prop} : ∀ f i, f + i = 16 → Q (some (.int (ixF (txB.getD 3 []) z f i))) m → Go none aM (Ev mt aM d) mJ1_indexOfChar_4cfef Q (7, [some (.ref 1103), none, none, some (.int (16 : Int32)), some (.int z), some (.int (nI i))], [], m, 0, 0) := by
  intro f
  induction f with
  | zero =>
    intro i hi h
    exact ixc3_7 (I := fun _ _ => 0) (J := fun _ _ => 0) (T := fun _ _ => 0) ⟨fun _ => h, fun c => absurd (nI_le (a := 16) (b := i) (by omega) (by omega)) c⟩
  | succ f ih =>
    intro i hi h
    refine ixc3_7 (I := fun _ _ => 0) (J := fun _ _ => 0) (T := fun _ _ => 0) ⟨fun c => absurd c (nI_ge (a := i) (b := 16) (by omega) (by omega)), fun _ => ⟨vp_in_nI (by omega) (by omega), ?_⟩⟩
    rw [nI_clamp (by omega), nI_1]
    unfold ixF at h
    by_cases c : (txB.getD 3 []).getD i 0 = z
    · rw [if_pos c] at h
      exact ⟨fun _ => h, fun q => absurd c q⟩
    · rw [if_neg c] at h
      exact ⟨fun q => absurd q c, fun _ => ih (i + 1) (by omega) h⟩
theorem ev_ixc3 {d : Nat} {c : Int32} {m : Mem} {Q : Option Value → Mem → Prop} (h : Q (some (.int (ixF (txB.getD 3 []) c.toInt8.toInt32 16 0))) m) : Ev mt aM (d + 1) 294 [.ref 1103, .int c, .int (0 : Int32), .int (16 : Int32)] m Q := Ev.intro mJ1_indexOfChar_4cfef rfl rfl (ixc3_0 (I := fun _ _ => 0) (J := fun _ _ => 0) (T := fun _ _ => 0) (ixl3 16 0 rfl h))
set_option maxRecDepth 20000 in
theorem ixb3_0 {d : Nat} {c : Int32} {I : Nat → Nat → Int32} {J : Nat → Nat → Int64} {T : Nat → Nat → Nat} {m : Mem} {Q : Option Value → Mem → Prop} (hyp : ((v_J1_canEncode_9a6ad c = 0 → Q (some (.int (-1 : Int32))) m) ∧ ((¬ (v_J1_canEncode_9a6ad c = 0)) → Q (some (.int (ixF (txB.getD 3 []) c.toInt8.toInt32 16 0))) m))) : Go none aM (Ev mt aM (d + 1)) mJ1_indexOf_4cfef Q (0, [some (.ref 1103), some (.int c), some (.int (0 : Int32)), some (.int (16 : Int32))], [], m, 0, 0) := by
  refine Go.of_run (Ev.mono _) 2 _ ?_
  refine ⟨Nat.le_of_ble_eq_true rfl, ev_J1_canEncode_9a6ad ?_⟩
  show Go none aM (Ev mt aM (d + 1)) mJ1_indexOf_4cfef Q (4, [some (.ref 1103), some (.int c), some (.int (0 : Int32)), some (.int (16 : Int32))], [.int (v_J1_canEncode_9a6ad c)], m, 0, 0)
  refine Go.of_run (Ev.mono _) 1 _ ?_
  show Go none aM (Ev mt aM (d + 1)) mJ1_indexOf_4cfef Q (if v_J1_canEncode_9a6ad c = 0 then 7 else 9, [some (.ref 1103), some (.int c), some (.int (0 : Int32)), some (.int (16 : Int32))], [], m, 0, 0)
  rcases Decidable.em (v_J1_canEncode_9a6ad c = 0) with c1 | c1
  · rw [if_pos c1]
    refine Go.of_run (Ev.mono _) 2 _ ?_
    refine ⟨trivial, ?_⟩
    show Q (some (.int (-1 : Int32))) m
    exact (hyp.1 c1)
  · rw [if_neg c1]
    refine Go.of_run (Ev.mono _) 3 _ ?_
    refine ⟨Nat.le_of_ble_eq_true rfl, ?_⟩
    show Go none aM (Ev mt aM (d + 1)) mJ1_indexOf_4cfef Q (14, [some (.ref 1103), some (.int c), some (.int (0 : Int32)), some (.int (16 : Int32))], [.int (0 : Int32)], m, 0, 0)
    refine Go.of_run (Ev.mono _) 5 _ ?_
    refine ⟨Nat.le_of_ble_eq_true rfl, ?_⟩
    show Go none aM (Ev mt aM (d + 1)) mJ1_indexOf_4cfef Q (21, [some (.ref 1103), some (.int c), some (.int (0 : Int32)), some (.int (16 : Int32))], [.int (16 : Int32)], m, 0, 0)
    refine Go.of_run (Ev.mono _) 4 _ ?_
    show Go none aM (Ev mt aM (d + 1)) mJ1_indexOf_4cfef Q (if (0 : Int32) < (16 : Int32) then 29 else 27, [some (.ref 1103), some (.int c), some (.int (0 : Int32)), some (.int (16 : Int32))], [], m, 0, 0)
    rw [if_pos (by decide : (0 : Int32) < (16 : Int32))]
    refine Go.of_run (Ev.mono _) 5 _ ?_
    refine ⟨Nat.le_of_ble_eq_true rfl, ev_ixc3 ?_⟩
    show Go none aM (Ev mt aM (d + 1)) mJ1_indexOf_4cfef Q (36, [some (.ref 1103), some (.int c), some (.int (0 : Int32)), some (.int (16 : Int32))], [.int (ixF (txB.getD 3 []) c.toInt8.toInt32 16 0)], m, 0, 0)
    refine Go.of_run (Ev.mono _) 1 _ ?_
    refine ⟨trivial, ?_⟩
    show Q (some (.int (ixF (txB.getD 3 []) c.toInt8.toInt32 16 0))) m
    exact (hyp.2 c1)
theorem ev_ixb3 {d : Nat} {c : Int32} {m : Mem} {Q : Option Value → Mem → Prop} (h : Q (some (.int (ixB 3 16 c))) m) : Ev mt aM (d + 2) 293 [.ref 1103, .int c, .int (0 : Int32), .int (16 : Int32)] m Q := by
  refine Ev.intro mJ1_indexOf_4cfef rfl rfl (ixb3_0 (I := fun _ _ => 0) (J := fun _ _ => 0) (T := fun _ _ => 0) ?_)
  unfold ixB at h
  by_cases c1 : v_J1_canEncode_9a6ad c = 0
  · rw [if_pos c1] at h; exact ⟨fun _ => h, fun q => absurd c1 q⟩
  · rw [if_neg c1] at h; exact ⟨fun q => absurd q c1, fun _ => h⟩
set_option maxRecDepth 20000 in
theorem ev_J0_isLatin1_aae02_1003 {d : Nat} {m : Mem} {Q : Option Value → Mem → Prop} (h : Q (some (.int (1 : Int32))) m) : Ev mt aM (d + 1) 291 [.ref 1003] m Q := by
  refine Ev.intro mJ0_isLatin1_aae02 rfl rfl ?_
  show Go none aM (Ev mt aM d) mJ0_isLatin1_aae02 Q (0, [some (.ref 1003)], [], m, 0, 0)
  refine Go.of_run (Ev.mono _) 2 _ ?_
  show Go none aM (Ev mt aM d) mJ0_isLatin1_aae02 Q (if (1 : Int32) = 0 then 17 else 6, [some (.ref 1003)], [], m, 0, 0)
  rw [if_neg (by decide : ¬ ((1 : Int32) = 0))]
  refine Go.of_run (Ev.mono _) 3 _ ?_
  show Go none aM (Ev mt aM d) mJ0_isLatin1_aae02 Q (if (0 : Int32) = 0 then 13 else 17, [some (.ref 1003)], [], m, 0, 0)
  rw [if_pos (by decide : (0 : Int32) = 0)]
  refine Go.of_run (Ev.mono _) 3 _ ?_
  refine ⟨(by decide), ?_⟩
  show Q (some (.int (1 : Int32))) m
  exact h
set_option maxRecDepth 20000 in
theorem ev_J0_coder_7d493_1003 {d : Nat} {m : Mem} {Q : Option Value → Mem → Prop} (h : Q (some (.int (0 : Int32))) m) : Ev mt aM (d + 1) 290 [.ref 1003] m Q := by
  refine Ev.intro mJ0_coder_7d493 rfl rfl ?_
  show Go none aM (Ev mt aM d) mJ0_coder_7d493 Q (0, [some (.ref 1003)], [], m, 0, 0)
  refine Go.of_run (Ev.mono _) 2 _ ?_
  show Go none aM (Ev mt aM d) mJ0_coder_7d493 Q (if (1 : Int32) = 0 then 13 else 6, [some (.ref 1003)], [], m, 0, 0)
  rw [if_neg (by decide : ¬ ((1 : Int32) = 0))]
  refine Go.of_run (Ev.mono _) 4 _ ?_
  refine ⟨(by decide), ?_⟩
  show Q (some (.int (0 : Int32))) m
  exact h
set_option maxRecDepth 20000 in
theorem ev_J0_length_8abf5_1003 {d : Nat} {m : Mem} {Q : Option Value → Mem → Prop} (h : Q (some (.int (16 : Int32))) m) : Ev mt aM (d + 2) 287 [.ref 1003] m Q := by
  refine Ev.intro mJ0_length_8abf5 rfl rfl ?_
  show Go none aM (Ev mt aM (d + 1)) mJ0_length_8abf5 Q (0, [some (.ref 1003)], [], m, 0, 0)
  refine Go.of_run (Ev.mono _) 5 _ ?_
  refine ⟨Nat.le_of_ble_eq_true rfl, ev_J0_coder_7d493_1003 ?_⟩
  show Go none aM (Ev mt aM (d + 1)) mJ0_length_8abf5 Q (9, [some (.ref 1003)], [.int (0 : Int32), .int (16 : Int32)], m, 0, 0)
  refine Go.of_run (Ev.mono _) 2 _ ?_
  refine ⟨trivial, ?_⟩
  show Q (some (.int (16 : Int32))) m
  exact h
set_option maxRecDepth 20000 in
theorem ixd3_0 {d : Nat} {c : Int32} {I : Nat → Nat → Int32} {J : Nat → Nat → Int64} {T : Nat → Nat → Nat} {m : Mem} {Q : Option Value → Mem → Prop} (hyp : Q (some (.int (ixB 3 16 c))) m) : Go none aM (Ev mt aM (d + 2)) mJ0_indexOf_7cf53 Q (0, [some (.ref 1003), some (.int c), some (.int (0 : Int32))], [], m, 0, 0) := by
  refine Go.of_run (Ev.mono _) 2 _ ?_
  refine ⟨Nat.le_of_ble_eq_true rfl, ev_J0_isLatin1_aae02_1003 ?_⟩
  show Go none aM (Ev mt aM (d + 2)) mJ0_indexOf_7cf53 Q (4, [some (.ref 1003), some (.int c), some (.int (0 : Int32))], [.int (1 : Int32)], m, 0, 0)
  refine Go.of_run (Ev.mono _) 1 _ ?_
  show Go none aM (Ev mt aM (d + 2)) mJ0_indexOf_7cf53 Q (if (1 : Int32) = 0 then 23 else 7, [some (.ref 1003), some (.int c), some (.int (0 : Int32))], [], m, 0, 0)
  rw [if_neg (by decide : ¬ ((1 : Int32) = 0))]
  refine Go.of_run (Ev.mono _) 6 _ ?_
  refine ⟨Nat.le_of_ble_eq_true rfl, ev_J0_length_8abf5_1003 ?_⟩
  show Go none aM (Ev mt aM (d + 2)) mJ0_indexOf_7cf53 Q (17, [some (.ref 1003), some (.int c), some (.int (0 : Int32))], [.int (16 : Int32), .int (0 : Int32), .int c, .ref 1103], m, 0, 0)
  refine Go.of_run (Ev.mono _) 1 _ ?_
  refine ⟨Nat.le_of_ble_eq_true rfl, ev_ixb3 ?_⟩
  show Go none aM (Ev mt aM (d + 2)) mJ0_indexOf_7cf53 Q (20, [some (.ref 1003), some (.int c), some (.int (0 : Int32))], [.int (ixB 3 16 c)], m, 0, 0)
  refine Go.of_run (Ev.mono _) 2 _ ?_
  refine ⟨trivial, ?_⟩
  show Q (some (.int (ixB 3 16 c))) m
  exact hyp
theorem ev_ixd3 {d : Nat} {c : Int32} {m : Mem} {Q : Option Value → Mem → Prop} (h : Q (some (.int (ixB 3 16 c))) m) : Ev mt aM (d + 3) 289 [.ref 1003, .int c, .int (0 : Int32)] m Q := Ev.intro mJ0_indexOf_7cf53 rfl rfl (ixd3_0 (I := fun _ _ => 0) (J := fun _ _ => 0) (T := fun _ _ => 0) h)
set_option maxRecDepth 20000 in
theorem ixe3_0 {d : Nat} {c : Int32} {I : Nat → Nat → Int32} {J : Nat → Nat → Int64} {T : Nat → Nat → Nat} {m : Mem} {Q : Option Value → Mem → Prop} (hyp : Q (some (.int (ixB 3 16 c))) m) : Go none aM (Ev mt aM (d + 3)) mJ0_indexOf_0f7a4 Q (0, [some (.ref 1003), some (.int c)], [], m, 0, 0) := by
  refine Go.of_run (Ev.mono _) 4 _ ?_
  refine ⟨Nat.le_of_ble_eq_true rfl, ev_ixd3 ?_⟩
  show Go none aM (Ev mt aM (d + 3)) mJ0_indexOf_0f7a4 Q (6, [some (.ref 1003), some (.int c)], [.int (ixB 3 16 c)], m, 0, 0)
  refine Go.of_run (Ev.mono _) 1 _ ?_
  refine ⟨trivial, ?_⟩
  show Q (some (.int (ixB 3 16 c))) m
  exact hyp
theorem ev_ixe3 {d : Nat} {c : Int32} {m : Mem} {Q : Option Value → Mem → Prop} (h : Q (some (.int (ixB 3 16 c))) m) : Ev mt aM (d + 4) 288 [.ref 1003, .int c] m Q := Ev.intro mJ0_indexOf_0f7a4 rfl rfl (ixe3_0 (I := fun _ _ => 0) (J := fun _ _ => 0) (T := fun _ _ => 0) h)
set_option maxRecDepth 20000 in
theorem iso3_0 {d : Nat} {I : Nat → Nat → Int32} {J : Nat → Nat → Int64} {T : Nat → Nat → Nat} {Q : Option Value → Mem → Prop} (hyp : ((I 62 5 < 0 → Q (some (.int (0 : Int32))) (SH, mkM I J T)) ∧ ((¬ (I 62 5 < 0)) → ((ixB 3 16 (((I 62 5).toUInt32 % 65536).toInt32) < 0 → Q (some (.int (0 : Int32))) (SH, mkM I J T)) ∧ ((¬ (ixB 3 16 (((I 62 5).toUInt32 % 65536).toInt32) < 0)) → Q (some (.int (1 : Int32))) (SH, mkM I J T)))))) : Go none aM (Ev mt aM (d + 6)) mX3_isOneOf Q (0, [some (.ref 62), some (.ref 1003)], [], (SH, mkM I J T), 0, 0) := by
  refine Go.of_run (Ev.mono _) 3 _ ?_
  show Go none aM (Ev mt aM (d + 6)) mX3_isOneOf Q (if I 62 5 < 0 then 23 else 7, [some (.ref 62), some (.ref 1003)], [], (SH, mkM I J T), 0, 0)
  rcases Decidable.em (I 62 5 < 0) with c1 | c1
  · rw [if_pos c1]
    refine Go.of_run (Ev.mono _) 2 _ ?_
    refine ⟨(by decide), ?_⟩
    show Q (some (.int (0 : Int32))) (SH, mkM I J T)
    exact (hyp.1 c1)
  · rw [if_neg c1]
    refine Go.of_run (Ev.mono _) 5 _ ?_
    refine ⟨Nat.le_of_ble_eq_true rfl, ev_ixe3 ?_⟩
    show Go none aM (Ev mt aM (d + 6)) mX3_isOneOf Q (16, [some (.ref 62), some (.ref 1003)], [.int (ixB 3 16 (((I 62 5).toUInt32 % 65536).toInt32))], (SH, mkM I J T), 0, 0)
    refine Go.of_run (Ev.mono _) 1 _ ?_
    show Go none aM (Ev mt aM (d + 6)) mX3_isOneOf Q (if ixB 3 16 (((I 62 5).toUInt32 % 65536).toInt32) < 0 then 23 else 19, [some (.ref 62), some (.ref 1003)], [], (SH, mkM I J T), 0, 0)
    rcases Decidable.em (ixB 3 16 (((I 62 5).toUInt32 % 65536).toInt32) < 0) with c2 | c2
    · rw [if_pos c2]
      refine Go.of_run (Ev.mono _) 2 _ ?_
      refine ⟨(by decide), ?_⟩
      show Q (some (.int (0 : Int32))) (SH, mkM I J T)
      exact ((hyp.2 c1).1 c2)
    · rw [if_neg c2]
      refine Go.of_run (Ev.mono _) 3 _ ?_
      refine ⟨(by decide), ?_⟩
      show Q (some (.int (1 : Int32))) (SH, mkM I J T)
      exact ((hyp.2 c1).2 c2)
set_option maxRecDepth 20000 in
theorem ixc4_0 {d : Nat} {c : Int32} {I : Nat → Nat → Int32} {J : Nat → Nat → Int64} {T : Nat → Nat → Nat} {m : Mem} {Q : Option Value → Mem → Prop} (hyp : Go none aM (Ev mt aM d) mJ1_indexOfChar_4cfef Q (7, [some (.ref 1104), none, none, some (.int (3 : Int32)), some (.int c.toInt8.toInt32), some (.int (0 : Int32))], [], m, 0, 0)) : Go none aM (Ev mt aM (d + 0)) mJ1_indexOfChar_4cfef Q (0, [some (.ref 1104), some (.int c), some (.int (0 : Int32)), some (.int (3 : Int32)), none, none], [], m, 0, 0) := by
  refine Go.of_run (Ev.mono _) 5 _ ?_
  exact Go.weak (Ev.mono _) (LLe.cons (LLe.drop (LLe.drop (LLe.cons (LLe.cons (LLe.cons LLe.nil)))))) hyp
set_option maxRecDepth 20000 in
theorem ixc4_7 {d : Nat} {z i : Int32} {I : Nat → Nat → Int32} {J : Nat → Nat → Int64} {T : Nat → Nat → Nat} {m : Mem} {Q : Option Value → Mem → Prop} (hyp : (((3 : Int32) ≤ i → Q (some (.int (-1 : Int32))) m) ∧ ((¬ ((3 : Int32) ≤ i)) → (vp_in i 3 ∧ (((txB.getD 4 []).getD i.toNatClampNeg 0 = z → Q (some (.int i)) m) ∧ ((¬ ((txB.getD 4 []).getD i.toNatClampNeg 0 = z)) → Go none aM (Ev mt aM d) mJ1_indexOfChar_4cfef Q (7, [some (.ref 1104), none, none, some (.int (3 : Int32)), some (.int z), some (.int (i + 1))], [], m, 0, 0))))))) : Go none aM (Ev mt aM (d + 0)) mJ1_indexOfChar_4cfef Q (7, [some (.ref 1104), none, none, some (.int (3 : Int32)), some (.int z), some (.int i)], [], m, 0, 0) := by
  refine Go.of_run (Ev.mono _) 3 _ ?_
  show Go none aM (Ev mt aM d) mJ1_indexOfChar_4cfef Q (if (3 : Int32) ≤ i then 31 else 13, [some (.ref 1104), none, none, some (.int (3 : Int32)), some (.int z), some (.int i)], [], m, 0, 0)
  rcases Decidable.em ((3 : Int32) ≤ i) with c1 | c1
  · rw [if_pos c1]
    refine Go.of_run (Ev.mono _) 2 _ ?_
    refine ⟨trivial, ?_⟩
    show Q (some (.int (-1 : Int32))) m
    exact (hyp.1 c1)
  · rw [if_neg c1]
    refine Go.of_run (Ev.mono _) 3 _ ?_
    refine ⟨(hyp.2 c1).1, ?_⟩
    show Go none aM (Ev mt aM d) mJ1_indexOfChar_4cfef Q (17, [some (.ref 1104), none, none, some (.int (3 : Int32)), some (.int z), some (.int i)], [.int ((txB.getD 4 []).getD i.toNatClampNeg 0)], m, 0, 0)
    refine Go.of_run (Ev.mono _) 2 _ ?_
    show Go none aM (Ev mt aM d) mJ1_indexOfChar_4cfef Q (if (txB.getD 4 []).getD i.toNatClampNeg 0 = z then 22 else 25, [some (.ref 1104), none, none, some (.int (3 : Int32)), some (.int z), some (.int i)], [], m, 0, 0)
    rcases Decidable.em ((txB.getD 4 []).getD i.toNatClampNeg 0 = z) with c2 | c2
    · rw [if_pos c2]
      refine Go.of_run (Ev.mono _) 2 _ ?_
      refine ⟨trivial, ?_⟩
      show Q (some (.int i)) m
      exact ((hyp.2 c1).2.1 c2)
    · rw [if_neg c2]
      refine Go.of_run (Ev.mono _) 2 _ ?_
      exact ((hyp.2 c1).2.2 c2)
theorem ixl4 {d : Nat} {z : Int32} {m : Mem} {Q : Option Value → Mem → Prop} : ∀ f i, f + i = 3 → Q (some (.int (ixF (txB.getD 4 []) z f i))) m → Go none aM (Ev mt aM d) mJ1_indexOfChar_4cfef Q (7, [some (.ref 1104), none, none, some (.int (3 : Int32)), some (.int z), some (.int (nI i))], [], m, 0, 0) := by
  intro f
  induction f with
  | zero =>
    intro i hi h
    exact ixc4_7 (I := fun _ _ => 0) (J := fun _ _ => 0) (T := fun _ _ => 0) ⟨fun _ => h, fun c => absurd (nI_le (a := 3) (b := i) (by omega) (by omega)) c⟩
  | succ f ih =>
    intro i hi h
    refine ixc4_7 (I := fun _ _ => 0) (J := fun _ _ => 0) (T := fun _ _ => 0) ⟨fun c => absurd c (nI_ge (a := i) (b := 3) (by omega) (by omega)), fun _ => ⟨vp_in_nI (by omega) (by omega), ?_⟩⟩
    rw [nI_clamp (by omega), nI_1]
    unfold ixF at h
    by_cases c : (txB.getD 4 []).getD i 0 = z
    · rw [if_pos c] at h
      exact ⟨fun _ => h, fun q => absurd c q⟩
    · rw [if_neg c] at h
      exact ⟨fun q => absurd q c, fun _ => ih (i + 1) (by omega) h⟩
theorem ev_ixc4 {d : Nat} {c : Int32} {m : Mem} {Q : Option Value → Mem → Prop} (h : Q (some (.int (ixF (txB.getD 4 []) c.toInt8.toInt32 3 0))) m) : Ev mt aM (d + 1) 294 [.ref 1104, .int c, .int (0 : Int32), .int (3 : Int32)] m Q := Ev.intro mJ1_indexOfChar_4cfef rfl rfl (ixc4_0 (I := fun _ _ => 0) (J := fun _ _ => 0) (T := fun _ _ => 0) (ixl4 3 0 rfl h))
set_option maxRecDepth 20000 in
theorem ixb4_0 {d : Nat} {c : Int32} {I : Nat → Nat → Int32} {J : Nat → Nat → Int64} {T : Nat → Nat → Nat} {m : Mem} {Q : Option Value → Mem → Prop} (hyp : ((v_J1_canEncode_9a6ad c = 0 → Q (some (.int (-1 : Int32))) m) ∧ ((¬ (v_J1_canEncode_9a6ad c = 0)) → Q (some (.int (ixF (txB.getD 4 []) c.toInt8.toInt32 3 0))) m))) : Go none aM (Ev mt aM (d + 1)) mJ1_indexOf_4cfef Q (0, [some (.ref 1104), some (.int c), some (.int (0 : Int32)), some (.int (3 : Int32))], [], m, 0, 0) := by
  refine Go.of_run (Ev.mono _) 2 _ ?_
  refine ⟨Nat.le_of_ble_eq_true rfl, ev_J1_canEncode_9a6ad ?_⟩
  show Go none aM (Ev mt aM (d + 1)) mJ1_indexOf_4cfef Q (4, [some (.ref 1104), some (.int c), some (.int (0 : Int32)), some (.int (3 : Int32))], [.int (v_J1_canEncode_9a6ad c)], m, 0, 0)
  refine Go.of_run (Ev.mono _) 1 _ ?_
  show Go none aM (Ev mt aM (d + 1)) mJ1_indexOf_4cfef Q (if v_J1_canEncode_9a6ad c = 0 then 7 else 9, [some (.ref 1104), some (.int c), some (.int (0 : Int32)), some (.int (3 : Int32))], [], m, 0, 0)
  rcases Decidable.em (v_J1_canEncode_9a6ad c = 0) with c1 | c1
  · rw [if_pos c1]
    refine Go.of_run (Ev.mono _) 2 _ ?_
    refine ⟨trivial, ?_⟩
    show Q (some (.int (-1 : Int32))) m
    exact (hyp.1 c1)
  · rw [if_neg c1]
    refine Go.of_run (Ev.mono _) 3 _ ?_
    refine ⟨Nat.le_of_ble_eq_true rfl, ?_⟩
    show Go none aM (Ev mt aM (d + 1)) mJ1_indexOf_4cfef Q (14, [some (.ref 1104), some (.int c), some (.int (0 : Int32)), some (.int (3 : Int32))], [.int (0 : Int32)], m, 0, 0)
    refine Go.of_run (Ev.mono _) 5 _ ?_
    refine ⟨Nat.le_of_ble_eq_true rfl, ?_⟩
    show Go none aM (Ev mt aM (d + 1)) mJ1_indexOf_4cfef Q (21, [some (.ref 1104), some (.int c), some (.int (0 : Int32)), some (.int (3 : Int32))], [.int (3 : Int32)], m, 0, 0)
    refine Go.of_run (Ev.mono _) 4 _ ?_
    show Go none aM (Ev mt aM (d + 1)) mJ1_indexOf_4cfef Q (if (0 : Int32) < (3 : Int32) then 29 else 27, [some (.ref 1104), some (.int c), some (.int (0 : Int32)), some (.int (3 : Int32))], [], m, 0, 0)
    rw [if_pos (by decide : (0 : Int32) < (3 : Int32))]
    refine Go.of_run (Ev.mono _) 5 _ ?_
    refine ⟨Nat.le_of_ble_eq_true rfl, ev_ixc4 ?_⟩
    show Go none aM (Ev mt aM (d + 1)) mJ1_indexOf_4cfef Q (36, [some (.ref 1104), some (.int c), some (.int (0 : Int32)), some (.int (3 : Int32))], [.int (ixF (txB.getD 4 []) c.toInt8.toInt32 3 0)], m, 0, 0)
    refine Go.of_run (Ev.mono _) 1 _ ?_
    refine ⟨trivial, ?_⟩
    show Q (some (.int (ixF (txB.getD 4 []) c.toInt8.toInt32 3 0))) m
    exact (hyp.2 c1)
theorem ev_ixb4 {d : Nat} {c : Int32} {m : Mem} {Q : Option Value → Mem → Prop} (h : Q (some (.int (ixB 4 3 c))) m) : Ev mt aM (d + 2) 293 [.ref 1104, .int c, .int (0 : Int32), .int (3 : Int32)] m Q := by
  refine Ev.intro mJ1_indexOf_4cfef rfl rfl (ixb4_0 (I := fun _ _ => 0) (J := fun _ _ => 0) (T := fun _ _ => 0) ?_)
  unfold ixB at h
  by_cases c1 : v_J1_canEncode_9a6ad c = 0
  · rw [if_pos c1] at h; exact ⟨fun _ => h, fun q => absurd c1 q⟩
  · rw [if_neg c1] at h; exact ⟨fun q => absurd q c1, fun _ => h⟩
set_option maxRecDepth 20000 in
theorem ev_J0_isLatin1_aae02_1004 {d : Nat} {m : Mem} {Q : Option Value → Mem → Prop} (h : Q (some (.int (1 : Int32))) m) : Ev mt aM (d + 1) 291 [.ref 1004] m Q := by
  refine Ev.intro mJ0_isLatin1_aae02 rfl rfl ?_
  show Go none aM (Ev mt aM d) mJ0_isLatin1_aae02 Q (0, [some (.ref 1004)], [], m, 0, 0)
  refine Go.of_run (Ev.mono _) 2 _ ?_
  show Go none aM (Ev mt aM d) mJ0_isLatin1_aae02 Q (if (1 : Int32) = 0 then 17 else 6, [some (.ref 1004)], [], m, 0, 0)
  rw [if_neg (by decide : ¬ ((1 : Int32) = 0))]
  refine Go.of_run (Ev.mono _) 3 _ ?_
  show Go none aM (Ev mt aM d) mJ0_isLatin1_aae02 Q (if (0 : Int32) = 0 then 13 else 17, [some (.ref 1004)], [], m, 0, 0)
  rw [if_pos (by decide : (0 : Int32) = 0)]
  refine Go.of_run (Ev.mono _) 3 _ ?_
  refine ⟨(by decide), ?_⟩
  show Q (some (.int (1 : Int32))) m
  exact h
set_option maxRecDepth 20000 in
theorem ev_J0_coder_7d493_1004 {d : Nat} {m : Mem} {Q : Option Value → Mem → Prop} (h : Q (some (.int (0 : Int32))) m) : Ev mt aM (d + 1) 290 [.ref 1004] m Q := by
  refine Ev.intro mJ0_coder_7d493 rfl rfl ?_
  show Go none aM (Ev mt aM d) mJ0_coder_7d493 Q (0, [some (.ref 1004)], [], m, 0, 0)
  refine Go.of_run (Ev.mono _) 2 _ ?_
  show Go none aM (Ev mt aM d) mJ0_coder_7d493 Q (if (1 : Int32) = 0 then 13 else 6, [some (.ref 1004)], [], m, 0, 0)
  rw [if_neg (by decide : ¬ ((1 : Int32) = 0))]
  refine Go.of_run (Ev.mono _) 4 _ ?_
  refine ⟨(by decide), ?_⟩
  show Q (some (.int (0 : Int32))) m
  exact h
set_option maxRecDepth 20000 in
theorem ev_J0_length_8abf5_1004 {d : Nat} {m : Mem} {Q : Option Value → Mem → Prop} (h : Q (some (.int (3 : Int32))) m) : Ev mt aM (d + 2) 287 [.ref 1004] m Q := by
  refine Ev.intro mJ0_length_8abf5 rfl rfl ?_
  show Go none aM (Ev mt aM (d + 1)) mJ0_length_8abf5 Q (0, [some (.ref 1004)], [], m, 0, 0)
  refine Go.of_run (Ev.mono _) 5 _ ?_
  refine ⟨Nat.le_of_ble_eq_true rfl, ev_J0_coder_7d493_1004 ?_⟩
  show Go none aM (Ev mt aM (d + 1)) mJ0_length_8abf5 Q (9, [some (.ref 1004)], [.int (0 : Int32), .int (3 : Int32)], m, 0, 0)
  refine Go.of_run (Ev.mono _) 2 _ ?_
  refine ⟨trivial, ?_⟩
  show Q (some (.int (3 : Int32))) m
  exact h
set_option maxRecDepth 20000 in
theorem ixd4_0 {d : Nat} {c : Int32} {I : Nat → Nat → Int32} {J : Nat → Nat → Int64} {T : Nat → Nat → Nat} {m : Mem} {Q : Option Value → Mem → Prop} (hyp : Q (some (.int (ixB 4 3 c))) m) : Go none aM (Ev mt aM (d + 2)) mJ0_indexOf_7cf53 Q (0, [some (.ref 1004), some (.int c), some (.int (0 : Int32))], [], m, 0, 0) := by
  refine Go.of_run (Ev.mono _) 2 _ ?_
  refine ⟨Nat.le_of_ble_eq_true rfl, ev_J0_isLatin1_aae02_1004 ?_⟩
  show Go none aM (Ev mt aM (d + 2)) mJ0_indexOf_7cf53 Q (4, [some (.ref 1004), some (.int c), some (.int (0 : Int32))], [.int (1 : Int32)], m, 0, 0)
  refine Go.of_run (Ev.mono _) 1 _ ?_
  show Go none aM (Ev mt aM (d + 2)) mJ0_indexOf_7cf53 Q (if (1 : Int32) = 0 then 23 else 7, [some (.ref 1004), some (.int c), some (.int (0 : Int32))], [], m, 0, 0)
  rw [if_neg (by decide : ¬ ((1 : Int32) = 0))]
  refine Go.of_run (Ev.mono _) 6 _ ?_
  refine ⟨Nat.le_of_ble_eq_true rfl, ev_J0_length_8abf5_1004 ?_⟩
  show Go none aM (Ev mt aM (d + 2)) mJ0_indexOf_7cf53 Q (17, [some (.ref 1004), some (.int c), some (.int (0 : Int32))], [.int (3 : Int32), .int (0 : Int32), .int c, .ref 1104], m, 0, 0)
  refine Go.of_run (Ev.mono _) 1 _ ?_
  refine ⟨Nat.le_of_ble_eq_true rfl, ev_ixb4 ?_⟩
  show Go none aM (Ev mt aM (d + 2)) mJ0_indexOf_7cf53 Q (20, [some (.ref 1004), some (.int c), some (.int (0 : Int32))], [.int (ixB 4 3 c)], m, 0, 0)
  refine Go.of_run (Ev.mono _) 2 _ ?_
  refine ⟨trivial, ?_⟩
  show Q (some (.int (ixB 4 3 c))) m
  exact hyp
theorem ev_ixd4 {d : Nat} {c : Int32} {m : Mem} {Q : Option Value → Mem → Prop} (h : Q (some (.int (ixB 4 3 c))) m) : Ev mt aM (d + 3) 289 [.ref 1004, .int c, .int (0 : Int32)] m Q := Ev.intro mJ0_indexOf_7cf53 rfl rfl (ixd4_0 (I := fun _ _ => 0) (J := fun _ _ => 0) (T := fun _ _ => 0) h)
set_option maxRecDepth 20000 in
theorem ixe4_0 {d : Nat} {c : Int32} {I : Nat → Nat → Int32} {J : Nat → Nat → Int64} {T : Nat → Nat → Nat} {m : Mem} {Q : Option Value → Mem → Prop} (hyp : Q (some (.int (ixB 4 3 c))) m) : Go none aM (Ev mt aM (d + 3)) mJ0_indexOf_0f7a4 Q (0, [some (.ref 1004), some (.int c)], [], m, 0, 0) := by
  refine Go.of_run (Ev.mono _) 4 _ ?_
  refine ⟨Nat.le_of_ble_eq_true rfl, ev_ixd4 ?_⟩
  show Go none aM (Ev mt aM (d + 3)) mJ0_indexOf_0f7a4 Q (6, [some (.ref 1004), some (.int c)], [.int (ixB 4 3 c)], m, 0, 0)
  refine Go.of_run (Ev.mono _) 1 _ ?_
  refine ⟨trivial, ?_⟩
  show Q (some (.int (ixB 4 3 c))) m
  exact hyp
theorem ev_ixe4 {d : Nat} {c : Int32} {m : Mem} {Q : Option Value → Mem → Prop} (h : Q (some (.int (ixB 4 3 c))) m) : Ev mt aM (d + 4) 288 [.ref 1004, .int c] m Q := Ev.intro mJ0_indexOf_0f7a4 rfl rfl (ixe4_0 (I := fun _ _ => 0) (J := fun _ _ => 0) (T := fun _ _ => 0) h)
set_option maxRecDepth 20000 in
theorem iso4_0 {d : Nat} {I : Nat → Nat → Int32} {J : Nat → Nat → Int64} {T : Nat → Nat → Nat} {Q : Option Value → Mem → Prop} (hyp : ((I 62 5 < 0 → Q (some (.int (0 : Int32))) (SH, mkM I J T)) ∧ ((¬ (I 62 5 < 0)) → ((ixB 4 3 (((I 62 5).toUInt32 % 65536).toInt32) < 0 → Q (some (.int (0 : Int32))) (SH, mkM I J T)) ∧ ((¬ (ixB 4 3 (((I 62 5).toUInt32 % 65536).toInt32) < 0)) → Q (some (.int (1 : Int32))) (SH, mkM I J T)))))) : Go none aM (Ev mt aM (d + 6)) mX3_isOneOf Q (0, [some (.ref 62), some (.ref 1004)], [], (SH, mkM I J T), 0, 0) := by
  refine Go.of_run (Ev.mono _) 3 _ ?_
  show Go none aM (Ev mt aM (d + 6)) mX3_isOneOf Q (if I 62 5 < 0 then 23 else 7, [some (.ref 62), some (.ref 1004)], [], (SH, mkM I J T), 0, 0)
  rcases Decidable.em (I 62 5 < 0) with c1 | c1
  · rw [if_pos c1]
    refine Go.of_run (Ev.mono _) 2 _ ?_
    refine ⟨(by decide), ?_⟩
    show Q (some (.int (0 : Int32))) (SH, mkM I J T)
    exact (hyp.1 c1)
  · rw [if_neg c1]
    refine Go.of_run (Ev.mono _) 5 _ ?_
    refine ⟨Nat.le_of_ble_eq_true rfl, ev_ixe4 ?_⟩
    show Go none aM (Ev mt aM (d + 6)) mX3_isOneOf Q (16, [some (.ref 62), some (.ref 1004)], [.int (ixB 4 3 (((I 62 5).toUInt32 % 65536).toInt32))], (SH, mkM I J T), 0, 0)
    refine Go.of_run (Ev.mono _) 1 _ ?_
    show Go none aM (Ev mt aM (d + 6)) mX3_isOneOf Q (if ixB 4 3 (((I 62 5).toUInt32 % 65536).toInt32) < 0 then 23 else 19, [some (.ref 62), some (.ref 1004)], [], (SH, mkM I J T), 0, 0)
    rcases Decidable.em (ixB 4 3 (((I 62 5).toUInt32 % 65536).toInt32) < 0) with c2 | c2
    · rw [if_pos c2]
      refine Go.of_run (Ev.mono _) 2 _ ?_
      refine ⟨(by decide), ?_⟩
      show Q (some (.int (0 : Int32))) (SH, mkM I J T)
      exact ((hyp.2 c1).1 c2)
    · rw [if_neg c2]
      refine Go.of_run (Ev.mono _) 3 _ ?_
      refine ⟨(by decide), ?_⟩
      show Q (some (.int (1 : Int32))) (SH, mkM I J T)
      exact ((hyp.2 c1).2 c2)
set_option maxRecDepth 20000 in
theorem ixc5_0 {d : Nat} {c : Int32} {I : Nat → Nat → Int32} {J : Nat → Nat → Int64} {T : Nat → Nat → Nat} {m : Mem} {Q : Option Value → Mem → Prop} (hyp : Go none aM (Ev mt aM d) mJ1_indexOfChar_4cfef Q (7, [some (.ref 1105), none, none, some (.int (2 : Int32)), some (.int c.toInt8.toInt32), some (.int (0 : Int32))], [], m, 0, 0)) : Go none aM (Ev mt aM (d + 0)) mJ1_indexOfChar_4cfef Q (0, [some (.ref 1105), some (.int c), some (.int (0 : Int32)), some (.int (2 : Int32)), none, none], [], m, 0, 0) := by
  refine Go.of_run (Ev.mono _) 5 _ ?_
  exact Go.weak (Ev.mono _) (LLe.cons (LLe.drop (LLe.drop (LLe.cons (LLe.cons (LLe.cons LLe.nil)))))) hyp
set_option maxRecDepth 20000 in
theorem ixc5_7 {d : Nat} {z i : Int32} {I : Nat → Nat → Int32} {J : Nat → Nat → Int64} {T : Nat → Nat → Nat} {m : Mem} {Q : Option Value → Mem → Prop} (hyp : (((2 : Int32) ≤ i → Q (some (.int (-1 : Int32))) m) ∧ ((¬ ((2 : Int32) ≤ i)) → (vp_in i 2 ∧ (((txB.getD 5 []).getD i.toNatClampNeg 0 = z → Q (some (.int i)) m) ∧ ((¬ ((txB.getD 5 []).getD i.toNatClampNeg 0 = z)) → Go none aM (Ev mt aM d) mJ1_indexOfChar_4cfef Q (7, [some (.ref 1105), none, none, some (.int (2 : Int32)), some (.int z), some (.int (i + 1))], [], m, 0, 0))))))) : Go none aM (Ev mt aM (d + 0)) mJ1_indexOfChar_4cfef Q (7, [some (.ref 1105), none, none, some (.int (2 : Int32)), some (.int z), some (.int i)], [], m, 0, 0) := by
  refine Go.of_run (Ev.mono _) 3 _ ?_
  show Go none aM (Ev mt aM d) mJ1_indexOfChar_4cfef Q (if (2 : Int32) ≤ i then 31 else 13, [some (.ref 1105), none, none, some (.int (2 : Int32)), some (.int z), some (.int i)], [], m, 0, 0)
  rcases Decidable.em ((2 : Int32) ≤ i) with c1 | c1
  · rw [if_pos c1]
    refine Go.of_run (Ev.mono _) 2 _ ?_
    refine ⟨trivial, ?_⟩
    show Q (some (.int (-1 : Int32))) m
    exact (hyp.1 c1)
  · rw [if_neg c1]
    refine Go.of_run (Ev.mono _) 3 _ ?_
    refine ⟨(hyp.2 c1).1, ?_⟩
    show Go none aM (Ev mt aM d) mJ1_indexOfChar_4cfef Q (17, [some (.ref 1105), none, none, some (.int (2 : Int32)), some (.int z), some (.int i)], [.int ((txB.getD 5 []).getD i.toNatClampNeg 0)], m, 0, 0)
    refine Go.of_run (Ev.mono _) 2 _ ?_
    show Go none aM (Ev mt aM d) mJ1_indexOfChar_4cfef Q (if (txB.getD 5 []).getD i.toNatClampNeg 0 = z then 22 else 25, [some (.ref 1105), none, none, some (.int (2 : Int32)), some (.int z), some (.int i)], [], m, 0, 0)
    rcases Decidable.em ((txB.getD 5 []).getD i.toNatClampNeg 0 = z) with c2 | c2
    · rw [if_pos c2]
      refine Go.of_run (Ev.mono _) 2 _ ?_
      refine ⟨trivial, ?_⟩
      show Q (some (.int i)) m
      exact ((hyp.2 c1).2.1 c2)
    · rw [if_neg c2]
      refine Go.of_run (Ev.mono _) 2 _ ?_
      exact ((hyp.2 c1).2.2 c2)
theorem ixl5 {d : Nat} {z : Int32} {m : Mem} {Q : Option Value → Mem → Prop} : ∀ f i, f + i = 2 → Q (some (.int (ixF (txB.getD 5 []) z f i))) m → Go none aM (Ev mt aM d) mJ1_indexOfChar_4cfef Q (7, [some (.ref 1105), none, none, some (.int (2 : Int32)), some (.int z), some (.int (nI i))], [], m, 0, 0) := by
  intro f
  induction f with
  | zero =>
    intro i hi h
    exact ixc5_7 (I := fun _ _ => 0) (J := fun _ _ => 0) (T := fun _ _ => 0) ⟨fun _ => h, fun c => absurd (nI_le (a := 2) (b := i) (by omega) (by omega)) c⟩
  | succ f ih =>
    intro i hi h
    refine ixc5_7 (I := fun _ _ => 0) (J := fun _ _ => 0) (T := fun _ _ => 0) ⟨fun c => absurd c (nI_ge (a := i) (b := 2) (by omega) (by omega)), fun _ => ⟨vp_in_nI (by omega) (by omega), ?_⟩⟩
    rw [nI_clamp (by omega), nI_1]
    unfold ixF at h
    by_cases c : (txB.getD 5 []).getD i 0 = z
    · rw [if_pos c] at h
      exact ⟨fun _ => h, fun q => absurd c q⟩
    · rw [if_neg c] at h
      exact ⟨fun q => absurd q c, fun _ => ih (i + 1) (by omega) h⟩
theorem ev_ixc5 {d : Nat} {c : Int32} {m : Mem} {Q : Option Value → Mem → Prop} (h : Q (some (.int (ixF (txB.getD 5 []) c.toInt8.toInt32 2 0))) m) : Ev mt aM (d + 1) 294 [.ref 1105, .int c, .int (0 : Int32), .int (2 : Int32)] m Q := Ev.intro mJ1_indexOfChar_4cfef rfl rfl (ixc5_0 (I := fun _ _ => 0) (J := fun _ _ => 0) (T := fun _ _ => 0) (ixl5 2 0 rfl h))
set_option maxRecDepth 20000 in
theorem ixb5_0 {d : Nat} {c : Int32} {I : Nat → Nat → Int32} {J : Nat → Nat → Int64} {T : Nat → Nat → Nat} {m : Mem} {Q : Option Value → Mem → Prop} (hyp : ((v_J1_canEncode_9a6ad c = 0 → Q (some (.int (-1 : Int32))) m) ∧ ((¬ (v_J1_canEncode_9a6ad c = 0)) → Q (some (.int (ixF (txB.getD 5 []) c.toInt8.toInt32 2 0))) m))) : Go none aM (Ev mt aM (d + 1)) mJ1_indexOf_4cfef Q (0, [some (.ref 1105), some (.int c), some (.int (0 : Int32)), some (.int (2 : Int32))], [], m, 0, 0) := by
  refine Go.of_run (Ev.mono _) 2 _ ?_
  refine ⟨Nat.le_of_ble_eq_true rfl, ev_J1_canEncode_9a6ad ?_⟩
  show Go none aM (Ev mt aM (d + 1)) mJ1_indexOf_4cfef Q (4, [some (.ref 1105), some (.int c), some (.int (0 : Int32)), some (.int (2 : Int32))], [.int (v_J1_canEncode_9a6ad c)], m, 0, 0)
  refine Go.of_run (Ev.mono _) 1 _ ?_
  show Go none aM (Ev mt aM (d + 1)) mJ1_indexOf_4cfef Q (if v_J1_canEncode_9a6ad c = 0 then 7 else 9, [some (.ref 1105), some (.int c), some (.int (0 : Int32)), some (.int (2 : Int32))], [], m, 0, 0)
  rcases Decidable.em (v_J1_canEncode_9a6ad c = 0) with c1 | c1
  · rw [if_pos c1]
    refine Go.of_run (Ev.mono _) 2 _ ?_
    refine ⟨trivial, ?_⟩
    show Q (some (.int (-1 : Int32))) m
    exact (hyp.1 c1)
  · rw [if_neg c1]
    refine Go.of_run (Ev.mono _) 3 _ ?_
    refine ⟨Nat.le_of_ble_eq_true rfl, ?_⟩
    show Go none aM (Ev mt aM (d + 1)) mJ1_indexOf_4cfef Q (14, [some (.ref 1105), some (.int c), some (.int (0 : Int32)), some (.int (2 : Int32))], [.int (0 : Int32)], m, 0, 0)
    refine Go.of_run (Ev.mono _) 5 _ ?_
    refine ⟨Nat.le_of_ble_eq_true rfl, ?_⟩
    show Go none aM (Ev mt aM (d + 1)) mJ1_indexOf_4cfef Q (21, [some (.ref 1105), some (.int c), some (.int (0 : Int32)), some (.int (2 : Int32))], [.int (2 : Int32)], m, 0, 0)
    refine Go.of_run (Ev.mono _) 4 _ ?_
    show Go none aM (Ev mt aM (d + 1)) mJ1_indexOf_4cfef Q (if (0 : Int32) < (2 : Int32) then 29 else 27, [some (.ref 1105), some (.int c), some (.int (0 : Int32)), some (.int (2 : Int32))], [], m, 0, 0)
    rw [if_pos (by decide : (0 : Int32) < (2 : Int32))]
    refine Go.of_run (Ev.mono _) 5 _ ?_
    refine ⟨Nat.le_of_ble_eq_true rfl, ev_ixc5 ?_⟩
    show Go none aM (Ev mt aM (d + 1)) mJ1_indexOf_4cfef Q (36, [some (.ref 1105), some (.int c), some (.int (0 : Int32)), some (.int (2 : Int32))], [.int (ixF (txB.getD 5 []) c.toInt8.toInt32 2 0)], m, 0, 0)
    refine Go.of_run (Ev.mono _) 1 _ ?_
    refine ⟨trivial, ?_⟩
    show Q (some (.int (ixF (txB.getD 5 []) c.toInt8.toInt32 2 0))) m
    exact (hyp.2 c1)
theorem ev_ixb5 {d : Nat} {c : Int32} {m : Mem} {Q : Option Value → Mem → Prop} (h : Q (some (.int (ixB 5 2 c))) m) : Ev mt aM (d + 2) 293 [.ref 1105, .int c, .int (0 : Int32), .int (2 : Int32)] m Q := by
  refine Ev.intro mJ1_indexOf_4cfef rfl rfl (ixb5_0 (I := fun _ _ => 0) (J := fun _ _ => 0) (T := fun _ _ => 0) ?_)
  unfold ixB at h
  by_cases c1 : v_J1_canEncode_9a6ad c = 0
  · rw [if_pos c1] at h; exact ⟨fun _ => h, fun q => absurd c1 q⟩
  · rw [if_neg c1] at h; exact ⟨fun q => absurd q c1, fun _ => h⟩
set_option maxRecDepth 20000 in
theorem ev_J0_isLatin1_aae02_1005 {d : Nat} {m : Mem} {Q : Option Value → Mem → Prop} (h : Q (some (.int (1 : Int32))) m) : Ev mt aM (d + 1) 291 [.ref 1005] m Q := by
  refine Ev.intro mJ0_isLatin1_aae02 rfl rfl ?_
  show Go none aM (Ev mt aM d) mJ0_isLatin1_aae02 Q (0, [some (.ref 1005)], [], m, 0, 0)
  refine Go.of_run (Ev.mono _) 2 _ ?_
  show Go none aM (Ev mt aM d) mJ0_isLatin1_aae02 Q (if (1 : Int32) = 0 then 17 else 6, [some (.ref 1005)], [], m, 0, 0)
  rw [if_neg (by decide : ¬ ((1 : Int32) = 0))]
  refine Go.of_run (Ev.mono _) 3 _ ?_
  show Go none aM (Ev mt aM d) mJ0_isLatin1_aae02 Q (if (0 : Int32) = 0 then 13 else 17, [some (.ref 1005)], [], m, 0, 0)
  rw [if_pos (by decide : (0 : Int32) = 0)]
  refine Go.of_run (Ev.mono _) 3 _ ?_
  refine ⟨(by decide), ?_⟩
  show Q (some (.int (1 : Int32))) m
  exact h
set_option maxRecDepth 20000 in
theorem ev_J0_coder_7d493_1005 {d : Nat} {m : Mem} {Q : Option Value → Mem → Prop} (h : Q (some (.int (0 : Int32))) m) : Ev mt aM (d + 1) 290 [.ref 1005] m Q := by
  refine Ev.intro mJ0_coder_7d493 rfl rfl ?_
  show Go none aM (Ev mt aM d) mJ0_coder_7d493 Q (0, [some (.ref 1005)], [], m, 0, 0)
  refine Go.of_run (Ev.mono _) 2 _ ?_
  show Go none aM (Ev mt aM d) mJ0_coder_7d493 Q (if (1 : Int32) = 0 then 13 else 6, [some (.ref 1005)], [], m, 0, 0)
  rw [if_neg (by decide : ¬ ((1 : Int32) = 0))]
  refine Go.of_run (Ev.mono _) 4 _ ?_
  refine ⟨(by decide), ?_⟩
  show Q (some (.int (0 : Int32))) m
  exact h
set_option maxRecDepth 20000 in
theorem ev_J0_length_8abf5_1005 {d : Nat} {m : Mem} {Q : Option Value → Mem → Prop} (h : Q (some (.int (2 : Int32))) m) : Ev mt aM (d + 2) 287 [.ref 1005] m Q := by
  refine Ev.intro mJ0_length_8abf5 rfl rfl ?_
  show Go none aM (Ev mt aM (d + 1)) mJ0_length_8abf5 Q (0, [some (.ref 1005)], [], m, 0, 0)
  refine Go.of_run (Ev.mono _) 5 _ ?_
  refine ⟨Nat.le_of_ble_eq_true rfl, ev_J0_coder_7d493_1005 ?_⟩
  show Go none aM (Ev mt aM (d + 1)) mJ0_length_8abf5 Q (9, [some (.ref 1005)], [.int (0 : Int32), .int (2 : Int32)], m, 0, 0)
  refine Go.of_run (Ev.mono _) 2 _ ?_
  refine ⟨trivial, ?_⟩
  show Q (some (.int (2 : Int32))) m
  exact h
set_option maxRecDepth 20000 in
theorem ixd5_0 {d : Nat} {c : Int32} {I : Nat → Nat → Int32} {J : Nat → Nat → Int64} {T : Nat → Nat → Nat} {m : Mem} {Q : Option Value → Mem → Prop} (hyp : Q (some (.int (ixB 5 2 c))) m) : Go none aM (Ev mt aM (d + 2)) mJ0_indexOf_7cf53 Q (0, [some (.ref 1005), some (.int c), some (.int (0 : Int32))], [], m, 0, 0) := by
  refine Go.of_run (Ev.mono _) 2 _ ?_
  refine ⟨Nat.le_of_ble_eq_true rfl, ev_J0_isLatin1_aae02_1005 ?_⟩
  show Go none aM (Ev mt aM (d + 2)) mJ0_indexOf_7cf53 Q (4, [some (.ref 1005), some (.int c), some (.int (0 : Int32))], [.int (1 : Int32)], m, 0, 0)
  refine Go.of_run (Ev.mono _) 1 _ ?_
  show Go none aM (Ev mt aM (d + 2)) mJ0_indexOf_7cf53 Q (if (1 : Int32) = 0 then 23 else 7, [some (.ref 1005), some (.int c), some (.int (0 : Int32))], [], m, 0, 0)
  rw [if_neg (by decide : ¬ ((1 : Int32) = 0))]
  refine Go.of_run (Ev.mono _) 6 _ ?_
  refine ⟨Nat.le_of_ble_eq_true rfl, ev_J0_length_8abf5_1005 ?_⟩
  show Go none aM (Ev mt aM (d + 2)) mJ0_indexOf_7cf53 Q (17, [some (.ref 1005), some (.int c), some (.int (0 : Int32))], [.int (2 : Int32), .int (0 : Int32), .int c, .ref 1105], m, 0, 0)
  refine Go.of_run (Ev.mono _) 1 _ ?_
  refine ⟨Nat.le_of_ble_eq_true rfl, ev_ixb5 ?_⟩
  show Go none aM (Ev mt aM (d + 2)) mJ0_indexOf_7cf53 Q (20, [some (.ref 1005), some (.int c), some (.int (0 : Int32))], [.int (ixB 5 2 c)], m, 0, 0)
  refine Go.of_run (Ev.mono _) 2 _ ?_
  refine ⟨trivial, ?_⟩
  show Q (some (.int (ixB 5 2 c))) m
  exact hyp
theorem ev_ixd5 {d : Nat} {c : Int32} {m : Mem} {Q : Option Value → Mem → Prop} (h : Q (some (.int (ixB 5 2 c))) m) : Ev mt aM (d + 3) 289 [.ref 1005, .int c, .int (0 : Int32)] m Q := Ev.intro mJ0_indexOf_7cf53 rfl rfl (ixd5_0 (I := fun _ _ => 0) (J := fun _ _ => 0) (T := fun _ _ => 0) h)
set_option maxRecDepth 20000 in
theorem ixe5_0 {d : Nat} {c : Int32} {I : Nat → Nat → Int32} {J : Nat → Nat → Int64} {T : Nat → Nat → Nat} {m : Mem} {Q : Option Value → Mem → Prop} (hyp : Q (some (.int (ixB 5 2 c))) m) : Go none aM (Ev mt aM (d + 3)) mJ0_indexOf_0f7a4 Q (0, [some (.ref 1005), some (.int c)], [], m, 0, 0) := by
  refine Go.of_run (Ev.mono _) 4 _ ?_
  refine ⟨Nat.le_of_ble_eq_true rfl, ev_ixd5 ?_⟩
  show Go none aM (Ev mt aM (d + 3)) mJ0_indexOf_0f7a4 Q (6, [some (.ref 1005), some (.int c)], [.int (ixB 5 2 c)], m, 0, 0)
  refine Go.of_run (Ev.mono _) 1 _ ?_
  refine ⟨trivial, ?_⟩
  show Q (some (.int (ixB 5 2 c))) m
  exact hyp
theorem ev_ixe5 {d : Nat} {c : Int32} {m : Mem} {Q : Option Value → Mem → Prop} (h : Q (some (.int (ixB 5 2 c))) m) : Ev mt aM (d + 4) 288 [.ref 1005, .int c] m Q := Ev.intro mJ0_indexOf_0f7a4 rfl rfl (ixe5_0 (I := fun _ _ => 0) (J := fun _ _ => 0) (T := fun _ _ => 0) h)
set_option maxRecDepth 20000 in
theorem iso5_0 {d : Nat} {I : Nat → Nat → Int32} {J : Nat → Nat → Int64} {T : Nat → Nat → Nat} {Q : Option Value → Mem → Prop} (hyp : ((I 62 5 < 0 → Q (some (.int (0 : Int32))) (SH, mkM I J T)) ∧ ((¬ (I 62 5 < 0)) → ((ixB 5 2 (((I 62 5).toUInt32 % 65536).toInt32) < 0 → Q (some (.int (0 : Int32))) (SH, mkM I J T)) ∧ ((¬ (ixB 5 2 (((I 62 5).toUInt32 % 65536).toInt32) < 0)) → Q (some (.int (1 : Int32))) (SH, mkM I J T)))))) : Go none aM (Ev mt aM (d + 6)) mX3_isOneOf Q (0, [some (.ref 62), some (.ref 1005)], [], (SH, mkM I J T), 0, 0) := by
  refine Go.of_run (Ev.mono _) 3 _ ?_
  show Go none aM (Ev mt aM (d + 6)) mX3_isOneOf Q (if I 62 5 < 0 then 23 else 7, [some (.ref 62), some (.ref 1005)], [], (SH, mkM I J T), 0, 0)
  rcases Decidable.em (I 62 5 < 0) with c1 | c1
  · rw [if_pos c1]
    refine Go.of_run (Ev.mono _) 2 _ ?_
    refine ⟨(by decide), ?_⟩
    show Q (some (.int (0 : Int32))) (SH, mkM I J T)
    exact (hyp.1 c1)
  · rw [if_neg c1]
    refine Go.of_run (Ev.mono _) 5 _ ?_
    refine ⟨Nat.le_of_ble_eq_true rfl, ev_ixe5 ?_⟩
    show Go none aM (Ev mt aM (d + 6)) mX3_isOneOf Q (16, [some (.ref 62), some (.ref 1005)], [.int (ixB 5 2 (((I 62 5).toUInt32 % 65536).toInt32))], (SH, mkM I J T), 0, 0)
    refine Go.of_run (Ev.mono _) 1 _ ?_
    show Go none aM (Ev mt aM (d + 6)) mX3_isOneOf Q (if ixB 5 2 (((I 62 5).toUInt32 % 65536).toInt32) < 0 then 23 else 19, [some (.ref 62), some (.ref 1005)], [], (SH, mkM I J T), 0, 0)
    rcases Decidable.em (ixB 5 2 (((I 62 5).toUInt32 % 65536).toInt32) < 0) with c2 | c2
    · rw [if_pos c2]
      refine Go.of_run (Ev.mono _) 2 _ ?_
      refine ⟨(by decide), ?_⟩
      show Q (some (.int (0 : Int32))) (SH, mkM I J T)
      exact ((hyp.2 c1).1 c2)
    · rw [if_neg c2]
      refine Go.of_run (Ev.mono _) 3 _ ?_
      refine ⟨(by decide), ?_⟩
      show Q (some (.int (1 : Int32))) (SH, mkM I J T)
      exact ((hyp.2 c1).2 c2)
set_option maxRecDepth 20000 in
theorem ixc6_0 {d : Nat} {c : Int32} {I : Nat → Nat → Int32} {J : Nat → Nat → Int64} {T : Nat → Nat → Nat} {m : Mem} {Q : Option Value → Mem → Prop} (hyp : Go none aM (Ev mt aM d) mJ1_indexOfChar_4cfef Q (7, [some (.ref 1106), none, none, some (.int (3 : Int32)), some (.int c.toInt8.toInt32), some (.int (0 : Int32))], [], m, 0, 0)) : Go none aM (Ev mt aM (d + 0)) mJ1_indexOfChar_4cfef Q (0, [some (.ref 1106), some (.int c), some (.int (0 : Int32)), some (.int (3 : Int32)), none, none], [], m, 0, 0) := by
  refine Go.of_run (Ev.mono _) 5 _ ?_
  exact Go.weak (Ev.mono _) (LLe.cons (LLe.drop (LLe.drop (LLe.cons (LLe.cons (LLe.cons LLe.nil)))))) hyp
set_option maxRecDepth 20000 in
theorem ixc6_7 {d : Nat} {z i : Int32} {I : Nat → Nat → Int32} {J : Nat → Nat → Int64} {T : Nat → Nat → Nat} {m : Mem} {Q : Option Value → Mem → Prop} (hyp : (((3 : Int32) ≤ i → Q (some (.int (-1 : Int32))) m) ∧ ((¬ ((3 : Int32) ≤ i)) → (vp_in i 3 ∧ (((txB.getD 6 []).getD i.toNatClampNeg 0 = z → Q (some (.int i)) m) ∧ ((¬ ((txB.getD 6 []).getD i.toNatClampNeg 0 = z)) → Go none aM (Ev mt aM d) mJ1_indexOfChar_4cfef Q (7, [some (.ref 1106), none, none, some (.int (3 : Int32)), some (.int z), some (.int (i + 1))], [], m, 0, 0))))))) : Go none aM (Ev mt aM (d + 0)) mJ1_indexOfChar_4cfef Q (7, [some (.ref 1106), none, none, some (.int (3 : Int32)), some (.int z), some (.int i)], [], m, 0, 0) := by
  refine Go.of_run (Ev.mono _) 3 _ ?_
  show Go none aM (Ev mt aM d) mJ1_indexOfChar_4cfef Q (if (3 : Int32) ≤ i then 31 else 13, [some (.ref 1106), none, none, some (.int (3 : Int32)), some (.int z), some (.int i)], [], m, 0, 0)
  rcases Decidable.em ((3 : Int32) ≤ i) with c1 | c1
  · rw [if_pos c1]
    refine Go.of_run (Ev.mono _) 2 _ ?_
    refine ⟨trivial, ?_⟩
    show Q (some (.int (-1 : Int32))) m
    exact (hyp.1 c1)
  · rw [if_neg c1]
    refine Go.of_run (Ev.mono _) 3 _ ?_
    refine ⟨(hyp.2 c1).1, ?_⟩
    show Go none aM (Ev mt aM d) mJ1_indexOfChar_4cfef Q (17, [some (.ref 1106), none, none, some (.int (3 : Int32)), some (.int z), some (.int i)], [.int ((txB.getD 6 []).getD i.toNatClampNeg 0)], m, 0, 0)
    refine Go.of_run (Ev.mono _) 2 _ ?_
    show Go none aM (Ev mt aM d) mJ1_indexOfChar_4cfef Q (if (txB.getD 6 []).getD i.toNatClampNeg 0 = z then 22 else 25, [some (.ref 1106), none, none, some (.int (3 : Int32)), some (.int z), some (.int i)], [], m, 0, 0)
    rcases Decidable.em ((txB.getD 6 []).getD i.toNatClampNeg 0 = z) with c2 | c2
    · rw [if_pos c2]
      refine Go.of_run (Ev.mono _) 2 _ ?_
      refine ⟨trivial, ?_⟩
      show Q (some (.int i)) m
      exact ((hyp.2 c1).2.1 c2)
    · rw [if_neg c2]
      refine Go.of_run (Ev.mono _) 2 _ ?_
      exact ((hyp.2 c1).2.2 c2)
theorem ixl6 {d : Nat} {z : Int32} {m : Mem} {Q : Option Value → Mem → Prop} : ∀ f i, f + i = 3 → Q (some (.int (ixF (txB.getD 6 []) z f i))) m → Go none aM (Ev mt aM d) mJ1_indexOfChar_4cfef Q (7, [some (.ref 1106), none, none, some (.int (3 : Int32)), some (.int z), some (.int (nI i))], [], m, 0, 0) := by
  intro f
  induction f with
  | zero =>
    intro i hi h
    exact ixc6_7 (I := fun _ _ => 0) (J := fun _ _ => 0) (T := fun _ _ => 0) ⟨fun _ => h, fun c => absurd (nI_le (a := 3) (b := i) (by omega) (by omega)) c⟩
  | succ f ih =>
    intro i hi h
    refine ixc6_7 (I := fun _ _ => 0) (J := fun _ _ => 0) (T := fun _ _ => 0) ⟨fun c => absurd c (nI_ge (a := i) (b := 3) (by omega) (by omega)), fun _ => ⟨vp_in_nI (by omega) (by omega), ?_⟩⟩
    rw [nI_clamp (by omega), nI_1]
    unfold ixF at h
    by_cases c : (txB.getD 6 []).getD i 0 = z
    · rw [if_pos c] at h
      exact ⟨fun _ => h, fun q => absurd c q⟩
    · rw [if_neg c] at h
      exact ⟨fun q => absurd q c, fun _ => ih (i + 1) (by omega) h⟩
theorem ev_ixc6 {d : Nat} {c : Int32} {m : Mem} {Q : Option Value → Mem → Prop} (h : Q (some (.int (ixF (txB.getD 6 []) c.toInt8.toInt32 3 0))) m) : Ev mt aM (d + 1) 294 [.ref 1106, .int c, .int (0 : Int32), .int (3 : Int32)] m Q := Ev.intro mJ1_indexOfChar_4cfef rfl rfl (ixc6_0 (I := fun _ _ => 0) (J := fun _ _ => 0) (T := fun _ _ => 0) (ixl6 3 0 rfl h))
set_option maxRecDepth 20000 in
theorem ixb6_0 {d : Nat} {c : Int32} {I : Nat → Nat → Int32} {J : Nat → Nat → Int64} {T : Nat → Nat → Nat} {m : Mem} {Q : Option Value → Mem → Prop} (hyp : ((v_J1_canEncode_9a6ad c = 0 → Q (some (.int (-1 : Int32))) m) ∧ ((¬ (v_J1_canEncode_9a6ad c = 0)) → Q (some (.int (ixF (txB.getD 6 []) c.toInt8.toInt32 3 0))) m))) : Go none aM (Ev mt aM (d + 1)) mJ1_indexOf_4cfef Q (0, [some (.ref 1106), some (.int c), some (.int (0 : Int32)), some (.int (3 : Int32))], [], m, 0, 0) := by
  refine Go.of_run (Ev.mono _) 2 _ ?_
  refine ⟨Nat.le_of_ble_eq_true rfl, ev_J1_canEncode_9a6ad ?_⟩
  show Go none aM (Ev mt aM (d + 1)) mJ1_indexOf_4cfef Q (4, [some (.ref 1106), some (.int c), some (.int (0 : Int32)), some (.int (3 : Int32))], [.int (v_J1_canEncode_9a6ad c)], m, 0, 0)
  refine Go.of_run (Ev.mono _) 1 _ ?_
  show Go none aM (Ev mt aM (d + 1)) mJ1_indexOf_4cfef Q (if v_J1_canEncode_9a6ad c = 0 then 7 else 9, [some (.ref 1106), some (.int c), some (.int (0 : Int32)), some (.int (3 : Int32))], [], m, 0, 0)
  rcases Decidable.em (v_J1_canEncode_9a6ad c = 0) with c1 | c1
  · rw [if_pos c1]
    refine Go.of_run (Ev.mono _) 2 _ ?_
    refine ⟨trivial, ?_⟩
    show Q (some (.int (-1 : Int32))) m
    exact (hyp.1 c1)
  · rw [if_neg c1]
    refine Go.of_run (Ev.mono _) 3 _ ?_
    refine ⟨Nat.le_of_ble_eq_true rfl, ?_⟩
    show Go none aM (Ev mt aM (d + 1)) mJ1_indexOf_4cfef Q (14, [some (.ref 1106), some (.int c), some (.int (0 : Int32)), some (.int (3 : Int32))], [.int (0 : Int32)], m, 0, 0)
    refine Go.of_run (Ev.mono _) 5 _ ?_
    refine ⟨Nat.le_of_ble_eq_true rfl, ?_⟩
    show Go none aM (Ev mt aM (d + 1)) mJ1_indexOf_4cfef Q (21, [some (.ref 1106), some (.int c), some (.int (0 : Int32)), some (.int (3 : Int32))], [.int (3 : Int32)], m, 0, 0)
    refine Go.of_run (Ev.mono _) 4 _ ?_
    show Go none aM (Ev mt aM (d + 1)) mJ1_indexOf_4cfef Q (if (0 : Int32) < (3 : Int32) then 29 else 27, [some (.ref 1106), some (.int c), some (.int (0 : Int32)), some (.int (3 : Int32))], [], m, 0, 0)
    rw [if_pos (by decide : (0 : Int32) < (3 : Int32))]
    refine Go.of_run (Ev.mono _) 5 _ ?_
    refine ⟨Nat.le_of_ble_eq_true rfl, ev_ixc6 ?_⟩
    show Go none aM (Ev mt aM (d + 1)) mJ1_indexOf_4cfef Q (36, [some (.ref 1106), some (.int c), some (.int (0 : Int32)), some (.int (3 : Int32))], [.int (ixF (txB.getD 6 []) c.toInt8.toInt32 3 0)], m, 0, 0)
    refine Go.of_run (Ev.mono _) 1 _ ?_
    refine ⟨trivial, ?_⟩
    show Q (some (.int (ixF (txB.getD 6 []) c.toInt8.toInt32 3 0))) m
    exact (hyp.2 c1)
theorem ev_ixb6 {d : Nat} {c : Int32} {m : Mem} {Q : Option Value → Mem → Prop} (h : Q (some (.int (ixB 6 3 c))) m) : Ev mt aM (d + 2) 293 [.ref 1106, .int c, .int (0 : Int32), .int (3 : Int32)] m Q := by
  refine Ev.intro mJ1_indexOf_4cfef rfl rfl (ixb6_0 (I := fun _ _ => 0) (J := fun _ _ => 0) (T := fun _ _ => 0) ?_)
  unfold ixB at h
  by_cases c1 : v_J1_canEncode_9a6ad c = 0
  · rw [if_pos c1] at h; exact ⟨fun _ => h, fun q => absurd c1 q⟩
  · rw [if_neg c1] at h; exact ⟨fun q => absurd q c1, fun _ => h⟩
set_option maxRecDepth 20000 in
theorem ev_J0_isLatin1_aae02_1006 {d : Nat} {m : Mem} {Q : Option Value → Mem → Prop} (h : Q (some (.int (1 : Int32))) m) : Ev mt aM (d + 1) 291 [.ref 1006] m Q := by
  refine Ev.intro mJ0_isLatin1_aae02 rfl rfl ?_
  show Go none aM (Ev mt aM d) mJ0_isLatin1_aae02 Q (0, [some (.ref 1006)], [], m, 0, 0)
  refine Go.of_run (Ev.mono _) 2 _ ?_
  show Go none aM (Ev mt aM d) mJ0_isLatin1_aae02 Q (if (1 : Int32) = 0 then 17 else 6, [some (.ref 1006)], [], m, 0, 0)
  rw [if_neg (by decide : ¬ ((1 : Int32) = 0))]
  refine Go.of_run (Ev.mono _) 3 _ ?_
  show Go none aM (Ev mt aM d) mJ0_isLatin1_aae02 Q (if (0 : Int32) = 0 then 13 else 17, [some (.ref 1006)], [], m, 0, 0)
  rw [if_pos (by decide : (0 : Int32) = 0)]
  refine Go.of_run (Ev.mono _) 3 _ ?_
  refine ⟨(by decide), ?_⟩
  show Q (some (.int (1 : Int32))) m
  exact h
set_option maxRecDepth 20000 in
theorem ev_J0_coder_7d493_1006 {d : Nat} {m : Mem} {Q : Option Value → Mem → Prop} (h : Q (some (.int (0 : Int32))) m) : Ev mt aM (d + 1) 290 [.ref 1006] m Q := by
  refine Ev.intro mJ0_coder_7d493 rfl rfl ?_
  show Go none aM (Ev mt aM d) mJ0_coder_7d493 Q (0, [some (.ref 1006)], [], m, 0, 0)
  refine Go.of_run (Ev.mono _) 2 _ ?_
  show Go none aM (Ev mt aM d) mJ0_coder_7d493 Q (if (1 : Int32) = 0 then 13 else 6, [some (.ref 1006)], [], m, 0, 0)
  rw [if_neg (by decide : ¬ ((1 : Int32) = 0))]
  refine Go.of_run (Ev.mono _) 4 _ ?_
  refine ⟨(by decide), ?_⟩
  show Q (some (.int (0 : Int32))) m
  exact h
set_option maxRecDepth 20000 in
theorem ev_J0_length_8abf5_1006 {d : Nat} {m : Mem} {Q : Option Value → Mem → Prop} (h : Q (some (.int (3 : Int32))) m) : Ev mt aM (d + 2) 287 [.ref 1006] m Q := by
  refine Ev.intro mJ0_length_8abf5 rfl rfl ?_
  show Go none aM (Ev mt aM (d + 1)) mJ0_length_8abf5 Q (0, [some (.ref 1006)], [], m, 0, 0)
  refine Go.of_run (Ev.mono _) 5 _ ?_
  refine ⟨Nat.le_of_ble_eq_true rfl, ev_J0_coder_7d493_1006 ?_⟩
  show Go none aM (Ev mt aM (d + 1)) mJ0_length_8abf5 Q (9, [some (.ref 1006)], [.int (0 : Int32), .int (3 : Int32)], m, 0, 0)
  refine Go.of_run (Ev.mono _) 2 _ ?_
  refine ⟨trivial, ?_⟩
  show Q (some (.int (3 : Int32))) m
  exact h
set_option maxRecDepth 20000 in
theorem ixd6_0 {d : Nat} {c : Int32} {I : Nat → Nat → Int32} {J : Nat → Nat → Int64} {T : Nat → Nat → Nat} {m : Mem} {Q : Option Value → Mem → Prop} (hyp : Q (some (.int (ixB 6 3 c))) m) : Go none aM (Ev mt aM (d + 2)) mJ0_indexOf_7cf53 Q (0, [some (.ref 1006), some (.int c), some (.int (0 : Int32))], [], m, 0, 0) := by
  refine Go.of_run (Ev.mono _) 2 _ ?_
  refine ⟨Nat.le_of_ble_eq_true rfl, ev_J0_isLatin1_aae02_1006 ?_⟩
  show Go none aM (Ev mt aM (d + 2)) mJ0_indexOf_7cf53 Q (4, [some (.ref 1006), some (.int c), some (.int (0 : Int32))], [.int (1 : Int32)], m, 0, 0)
  refine Go.of_run (Ev.mono _) 1 _ ?_
  show Go none aM (Ev mt aM (d + 2)) mJ0_indexOf_7cf53 Q (if (1 : Int32) = 0 then 23 else 7, [some (.ref 1006), some (.int c), some (.int (0 : Int32))], [], m, 0, 0)
  rw [if_neg (by decide : ¬ ((1 : Int32) = 0))]
  refine Go.of_run (Ev.mono _) 6 _ ?_
  refine ⟨Nat.le_of_ble_eq_true rfl, ev_J0_length_8abf5_1006 ?_⟩
  show Go none aM (Ev mt aM (d + 2)) mJ0_indexOf_7cf53 Q (17, [some (.ref 1006), some (.int c), some (.int (0 : Int32))], [.int (3 : Int32), .int (0 : Int32), .int c, .ref 1106], m, 0, 0)
  refine Go.of_run (Ev.mono _) 1 _ ?_
  refine ⟨Nat.le_of_ble_eq_true rfl, ev_ixb6 ?_⟩
  show Go none aM (Ev mt aM (d + 2)) mJ0_indexOf_7cf53 Q (20, [some (.ref 1006), some (.int c), some (.int (0 : Int32))], [.int (ixB 6 3 c)], m, 0, 0)
  refine Go.of_run (Ev.mono _) 2 _ ?_
  refine ⟨trivial, ?_⟩
  show Q (some (.int (ixB 6 3 c))) m
  exact hyp
theorem ev_ixd6 {d : Nat} {c : Int32} {m : Mem} {Q : Option Value → Mem → Prop} (h : Q (some (.int (ixB 6 3 c))) m) : Ev mt aM (d + 3) 289 [.ref 1006, .int c, .int (0 : Int32)] m Q := Ev.intro mJ0_indexOf_7cf53 rfl rfl (ixd6_0 (I := fun _ _ => 0) (J := fun _ _ => 0) (T := fun _ _ => 0) h)
set_option maxRecDepth 20000 in
theorem ixe6_0 {d : Nat} {c : Int32} {I : Nat → Nat → Int32} {J : Nat → Nat → Int64} {T : Nat → Nat → Nat} {m : Mem} {Q : Option Value → Mem → Prop} (hyp : Q (some (.int (ixB 6 3 c))) m) : Go none aM (Ev mt aM (d + 3)) mJ0_indexOf_0f7a4 Q (0, [some (.ref 1006), some (.int c)], [], m, 0, 0) := by
  refine Go.of_run (Ev.mono _) 4 _ ?_
  refine ⟨Nat.le_of_ble_eq_true rfl, ev_ixd6 ?_⟩
  show Go none aM (Ev mt aM (d + 3)) mJ0_indexOf_0f7a4 Q (6, [some (.ref 1006), some (.int c)], [.int (ixB 6 3 c)], m, 0, 0)
  refine Go.of_run (Ev.mono _) 1 _ ?_
  refine ⟨trivial, ?_⟩
  show Q (some (.int (ixB 6 3 c))) m
  exact hyp
theorem ev_ixe6 {d : Nat} {c : Int32} {m : Mem} {Q : Option Value → Mem → Prop} (h : Q (some (.int (ixB 6 3 c))) m) : Ev mt aM (d + 4) 288 [.ref 1006, .int c] m Q := Ev.intro mJ0_indexOf_0f7a4 rfl rfl (ixe6_0 (I := fun _ _ => 0) (J := fun _ _ => 0) (T := fun _ _ => 0) h)
set_option maxRecDepth 20000 in
theorem iso6_0 {d : Nat} {I : Nat → Nat → Int32} {J : Nat → Nat → Int64} {T : Nat → Nat → Nat} {Q : Option Value → Mem → Prop} (hyp : ((I 62 5 < 0 → Q (some (.int (0 : Int32))) (SH, mkM I J T)) ∧ ((¬ (I 62 5 < 0)) → ((ixB 6 3 (((I 62 5).toUInt32 % 65536).toInt32) < 0 → Q (some (.int (0 : Int32))) (SH, mkM I J T)) ∧ ((¬ (ixB 6 3 (((I 62 5).toUInt32 % 65536).toInt32) < 0)) → Q (some (.int (1 : Int32))) (SH, mkM I J T)))))) : Go none aM (Ev mt aM (d + 6)) mX3_isOneOf Q (0, [some (.ref 62), some (.ref 1006)], [], (SH, mkM I J T), 0, 0) := by
  refine Go.of_run (Ev.mono _) 3 _ ?_
  show Go none aM (Ev mt aM (d + 6)) mX3_isOneOf Q (if I 62 5 < 0 then 23 else 7, [some (.ref 62), some (.ref 1006)], [], (SH, mkM I J T), 0, 0)
  rcases Decidable.em (I 62 5 < 0) with c1 | c1
  · rw [if_pos c1]
    refine Go.of_run (Ev.mono _) 2 _ ?_
    refine ⟨(by decide), ?_⟩
    show Q (some (.int (0 : Int32))) (SH, mkM I J T)
    exact (hyp.1 c1)
  · rw [if_neg c1]
    refine Go.of_run (Ev.mono _) 5 _ ?_
    refine ⟨Nat.le_of_ble_eq_true rfl, ev_ixe6 ?_⟩
    show Go none aM (Ev mt aM (d + 6)) mX3_isOneOf Q (16, [some (.ref 62), some (.ref 1006)], [.int (ixB 6 3 (((I 62 5).toUInt32 % 65536).toInt32))], (SH, mkM I J T), 0, 0)
    refine Go.of_run (Ev.mono _) 1 _ ?_
    show Go none aM (Ev mt aM (d + 6)) mX3_isOneOf Q (if ixB 6 3 (((I 62 5).toUInt32 % 65536).toInt32) < 0 then 23 else 19, [some (.ref 62), some (.ref 1006)], [], (SH, mkM I J T), 0, 0)
    rcases Decidable.em (ixB 6 3 (((I 62 5).toUInt32 % 65536).toInt32) < 0) with c2 | c2
    · rw [if_pos c2]
      refine Go.of_run (Ev.mono _) 2 _ ?_
      refine ⟨(by decide), ?_⟩
      show Q (some (.int (0 : Int32))) (SH, mkM I J T)
      exact ((hyp.2 c1).1 c2)
    · rw [if_neg c2]
      refine Go.of_run (Ev.mono _) 3 _ ?_
      refine ⟨(by decide), ?_⟩
      show Q (some (.int (1 : Int32))) (SH, mkM I J T)
      exact ((hyp.2 c1).2 c2)
set_option maxRecDepth 20000 in
theorem ixc7_0 {d : Nat} {c : Int32} {I : Nat → Nat → Int32} {J : Nat → Nat → Int64} {T : Nat → Nat → Nat} {m : Mem} {Q : Option Value → Mem → Prop} (hyp : Go none aM (Ev mt aM d) mJ1_indexOfChar_4cfef Q (7, [some (.ref 1107), none, none, some (.int (1 : Int32)), some (.int c.toInt8.toInt32), some (.int (0 : Int32))], [], m, 0, 0)) : Go none aM (Ev mt aM (d + 0)) mJ1_indexOfChar_4cfef Q (0, [some (.ref 1107), some (.int c), some (.int (0 : Int32)), some (.int (1 : Int32)), none, none], [], m, 0, 0) := by
  refine Go.of_run (Ev.mono _) 5 _ ?_
  exact Go.weak (Ev.mono _) (LLe.cons (LLe.drop (LLe.drop (LLe.cons (LLe.cons (LLe.cons LLe.nil)))))) hyp
set_option maxRecDepth 20000 in
theorem ixc7_7 {d : Nat} {z i : Int32} {I : Nat → Nat → Int32} {J : Nat → Nat → Int64} {T : Nat → Nat → Nat} {m : Mem} {Q : Option Value → Mem → Prop} (hyp : (((1 : Int32) ≤ i → Q (some (.int (-1 : Int32))) m) ∧ ((¬ ((1 : Int32) ≤ i)) → (vp_in i 1 ∧ (((txB.getD 7 []).getD i.toNatClampNeg 0 = z → Q (some (.int i)) m) ∧ ((¬ ((txB.getD 7 []).getD i.toNatClampNeg 0 = z)) → Go none aM (Ev mt aM d) mJ1_indexOfChar_4cfef Q (7, [some (.ref 1107), none, none, some (.int (1 : Int32)), some (.int z), some (.int (i + 1))], [], m, 0, 0))))))) : Go none aM (Ev mt aM (d + 0)) mJ1_indexOfChar_4cfef Q (7, [some (.ref 1107), none, none, some (.int (1 : Int32)), some (.int z), some (.int i)], [], m, 0, 0) := by
  refine Go.of_run (Ev.mono _) 3 _ ?_
  show Go none aM (Ev mt aM d) mJ1_indexOfChar_4cfef Q (if (1 : Int32) ≤ i then 31 else 13, [some (.ref 1107), none, none, some (.int (1 : Int32)), some (.int z), some (.int i)], [], m, 0, 0)
  rcases Decidable.em ((1 : Int32) ≤ i) with c1 | c1
  · rw [if_pos c1]
    refine Go.of_run (Ev.mono _) 2 _ ?_
    refine ⟨trivial, ?_⟩
    show Q (some (.int (-1 : Int32))) m
    exact (hyp.1 c1)
  · rw [if_neg c1]
    refine Go.of_run (Ev.mono _) 3 _ ?_
    refine ⟨(hyp.2 c1).1, ?_⟩
    show Go none aM (Ev mt aM d) mJ1_indexOfChar_4cfef Q (17, [some (.ref 1107), none, none, some (.int (1 : Int32)), some (.int z), some (.int i)], [.int ((txB.getD 7 []).getD i.toNatClampNeg 0)], m, 0, 0)
    refine Go.of_run (Ev.mono _) 2 _ ?_
    show Go none aM (Ev mt aM d) mJ1_indexOfChar_4cfef Q (if (txB.getD 7 []).getD i.toNatClampNeg 0 = z then 22 else 25, [some (.ref 1107), none, none, some (.int (1 : Int32)), some (.int z), some (.int i)], [], m, 0, 0)
    rcases Decidable.em ((txB.getD 7 []).getD i.toNatClampNeg 0 = z) with c2 | c2
    · rw [if_pos c2]
      refine Go.of_run (Ev.mono _) 2 _ ?_
      refine ⟨trivial, ?_⟩
      show Q (some (.int i)) m
      exact ((hyp.2 c1).2.1 c2)
    · rw [if_neg c2]
      refine Go.of_run (Ev.mono _) 2 _ ?_
      exact ((hyp.2 c1).2.2 c2)
theorem ixl7 {d : Nat} {z : Int32} {m : Mem} {Q : Option Value → Mem → Prop} : ∀ f i, f + i = 1 → Q (some (.int (ixF (txB.getD 7 []) z f i))) m → Go none aM (Ev mt aM d) mJ1_indexOfChar_4cfef Q (7, [some (.ref 1107), none, none, some (.int (1 : Int32)), some (.int z), some (.int (nI i))], [], m, 0, 0) := by
  intro f
  induction f with
  | zero =>
    intro i hi h
    exact ixc7_7 (I := fun _ _ => 0) (J := fun _ _ => 0) (T := fun _ _ => 0) ⟨fun _ => h, fun c => absurd (nI_le (a := 1) (b := i) (by omega) (by omega)) c⟩
  | succ f ih =>
    intro i hi h
    refine ixc7_7 (I := fun _ _ => 0) (J := fun _ _ => 0) (T := fun _ _ => 0) ⟨fun c => absurd c (nI_ge (a := i) (b := 1) (by omega) (by omega)), fun _ => ⟨vp_in_nI (by omega) (by omega), ?_⟩⟩
    rw [nI_clamp (by omega), nI_1]
    unfold ixF at h
    by_cases c : (txB.getD 7 []).getD i 0 = z
    · rw [if_pos c] at h
      exact ⟨fun _ => h, fun q => absurd c q⟩
    · rw [if_neg c] at h
      exact ⟨fun q => absurd q c, fun _ => ih (i + 1) (by omega) h⟩
theorem ev_ixc7 {d : Nat} {c : Int32} {m : Mem} {Q : Option Value → Mem → Prop} (h : Q (some (.int (ixF (txB.getD 7 []) c.toInt8.toInt32 1 0))) m) : Ev mt aM (d + 1) 294 [.ref 1107, .int c, .int (0 : Int32), .int (1 : Int32)] m Q := Ev.intro mJ1_indexOfChar_4cfef rfl rfl (ixc7_0 (I := fun _ _ => 0) (J := fun _ _ => 0) (T := fun _ _ => 0) (ixl7 1 0 rfl h))
set_option maxRecDepth 20000 in
theorem ixb7_0 {d : Nat} {c : Int32} {I : Nat → Nat → Int32} {J : Nat → Nat → Int64} {T : Nat → Nat → Nat} {m : Mem} {Q : Option Value → Mem → Prop} (hyp : ((v_J1_canEncode_9a6ad c = 0 → Q (some (.int (-1 : Int32))) m) ∧ ((¬ (v_J1_canEncode_9a6ad c = 0)) → Q (some (.int (ixF (txB.getD 7 []) c.toInt8.toInt32 1 0))) m))) : Go none aM (Ev mt aM (d + 1)) mJ1_indexOf_4cfef Q (0, [some (.ref 1107), some (.int c), some (.int (0 : Int32)), some (.int (1 : Int32))], [], m, 0, 0) := by
  refine Go.of_run (Ev.mono _) 2 _ ?_
  refine ⟨Nat.le_of_ble_eq_true rfl, ev_J1_canEncode_9a6ad ?_⟩
  show Go none aM (Ev mt aM (d + 1)) mJ1_indexOf_4cfef Q (4, [some (.ref 1107), some (.int c), some (.int (0 : Int32)), some (.int (1 : Int32))], [.int (v_J1_canEncode_9a6ad c)], m, 0, 0)
  refine Go.of_run (Ev.mono _) 1 _ ?_
  show Go none aM (Ev mt aM (d + 1)) mJ1_indexOf_4cfef Q (if v_J1_canEncode_9a6ad c = 0 then 7 else 9, [some (.ref 1107), some (.int c), some (.int (0 : Int32)), some (.int (1 : Int32))], [], m, 0, 0)
  rcases Decidable.em (v_J1_canEncode_9a6ad c = 0) with c1 | c1
  · rw [if_pos c1]
    refine Go.of_run (Ev.mono _) 2 _ ?_
    refine ⟨trivial, ?_⟩
    show Q (some (.int (-1 : Int32))) m
    exact (hyp.1 c1)
  · rw [if_neg c1]
    refine Go.of_run (Ev.mono _) 3 _ ?_
    refine ⟨Nat.le_of_ble_eq_true rfl, ?_⟩
    show Go none aM (Ev mt aM (d + 1)) mJ1_indexOf_4cfef Q (14, [some (.ref 1107), some (.int c), some (.int (0 : Int32)), some (.int (1 : Int32))], [.int (0 : Int32)], m, 0, 0)
    refine Go.of_run (Ev.mono _) 5 _ ?_
    refine ⟨Nat.le_of_ble_eq_true rfl, ?_⟩
    show Go none aM (Ev mt aM (d + 1)) mJ1_indexOf_4cfef Q (21, [some (.ref 1107), some (.int c), some (.int (0 : Int32)), some (.int (1 : Int32))], [.int (1 : Int32)], m, 0, 0)
    refine Go.of_run (Ev.mono _) 4 _ ?_
    show Go none aM (Ev mt aM (d + 1)) mJ1_indexOf_4cfef Q (if (0 : Int32) < (1 : Int32) then 29 else 27, [some (.ref 1107), some (.int c), some (.int (0 : Int32)), some (.int (1 : Int32))], [], m, 0, 0)
    rw [if_pos (by decide : (0 : Int32) < (1 : Int32))]
    refine Go.of_run (Ev.mono _) 5 _ ?_
    refine ⟨Nat.le_of_ble_eq_true rfl, ev_ixc7 ?_⟩
    show Go none aM (Ev mt aM (d + 1)) mJ1_indexOf_4cfef Q (36, [some (.ref 1107), some (.int c), some (.int (0 : Int32)), some (.int (1 : Int32))], [.int (ixF (txB.getD 7 []) c.toInt8.toInt32 1 0)], m, 0, 0)
    refine Go.of_run (Ev.mono _) 1 _ ?_
    refine ⟨trivial, ?_⟩
    show Q (some (.int (ixF (txB.getD 7 []) c.toInt8.toInt32 1 0))) m
    exact (hyp.2 c1)
theorem ev_ixb7 {d : Nat} {c : Int32} {m : Mem} {Q : Option Value → Mem → Prop} (h : Q (some (.int (ixB 7 1 c))) m) : Ev mt aM (d + 2) 293 [.ref 1107, .int c, .int (0 : Int32), .int (1 : Int32)] m Q := by
  refine Ev.intro mJ1_indexOf_4cfef rfl rfl (ixb7_0 (I := fun _ _ => 0) (J := fun _ _ => 0) (T := fun _ _ => 0) ?_)
  unfold ixB at h
  by_cases c1 : v_J1_canEncode_9a6ad c = 0
  · rw [if_pos c1] at h; exact ⟨fun _ => h, fun q => absurd c1 q⟩
  · rw [if_neg c1] at h; exact ⟨fun q => absurd q c1, fun _ => h⟩
set_option maxRecDepth 20000 in
theorem ev_J0_isLatin1_aae02_1007 {d : Nat} {m : Mem} {Q : Option Value → Mem → Prop} (h : Q (some (.int (1 : Int32))) m) : Ev mt aM (d + 1) 291 [.ref 1007] m Q := by
  refine Ev.intro mJ0_isLatin1_aae02 rfl rfl ?_
  show Go none aM (Ev mt aM d) mJ0_isLatin1_aae02 Q (0, [some (.ref 1007)], [], m, 0, 0)
  refine Go.of_run (Ev.mono _) 2 _ ?_
  show Go none aM (Ev mt aM d) mJ0_isLatin1_aae02 Q (if (1 : Int32) = 0 then 17 else 6, [some (.ref 1007)], [], m, 0, 0)
  rw [if_neg (by decide : ¬ ((1 : Int32) = 0))]
  refine Go.of_run (Ev.mono _) 3 _ ?_
  show Go none aM (Ev mt aM d) mJ0_isLatin1_aae02 Q (if (0 : Int32) = 0 then 13 else 17, [some (.ref 1007)], [], m, 0, 0)
  rw [if_pos (by decide : (0 : Int32) = 0)]
  refine Go.of_run (Ev.mono _) 3 _ ?_
  refine ⟨(by decide), ?_⟩
  show Q (some (.int (1 : Int32))) m
  exact h
set_option maxRecDepth 20000 in
theorem ev_J0_coder_7d493_1007 {d : Nat} {m : Mem} {Q : Option Value → Mem → Prop} (h : Q (some (.int (0 : Int32))) m) : Ev mt aM (d + 1) 290 [.ref 1007] m Q := by
  refine Ev.intro mJ0_coder_7d493 rfl rfl ?_
  show Go none aM (Ev mt aM d) mJ0_coder_7d493 Q (0, [some (.ref 1007)], [], m, 0, 0)
  refine Go.of_run (Ev.mono _) 2 _ ?_
  show Go none aM (Ev mt aM d) mJ0_coder_7d493 Q (if (1 : Int32) = 0 then 13 else 6, [some (.ref 1007)], [], m, 0, 0)
  rw [if_neg (by decide : ¬ ((1 : Int32) = 0))]
  refine Go.of_run (Ev.mono _) 4 _ ?_
  refine ⟨(by decide), ?_⟩
  show Q (some (.int (0 : Int32))) m
  exact h
set_option maxRecDepth 20000 in
theorem ev_J0_length_8abf5_1007 {d : Nat} {m : Mem} {Q : Option Value → Mem → Prop} (h : Q (some (.int (1 : Int32))) m) : Ev mt aM (d + 2) 287 [.ref 1007] m Q := by
  refine Ev.intro mJ0_length_8abf5 rfl rfl ?_
  show Go none aM (Ev mt aM (d + 1)) mJ0_length_8abf5 Q (0, [some (.ref 1007)], [], m, 0, 0)
  refine Go.of_run (Ev.mono _) 5 _ ?_
  refine ⟨Nat.le_of_ble_eq_true rfl, ev_J0_coder_7d493_1007 ?_⟩
  show Go none aM (Ev mt aM (d + 1)) mJ0_length_8abf5 Q (9, [some (.ref 1007)], [.int (0 : Int32), .int (1 : Int32)], m, 0, 0)
  refine Go.of_run (Ev.mono _) 2 _ ?_
  refine ⟨trivial, ?_⟩
  show Q (some (.int (1 : Int32))) m
  exact h
set_option maxRecDepth 20000 in
theorem ixd7_0 {d : Nat} {c : Int32} {I : Nat → Nat → Int32} {J : Nat → Nat → Int64} {T : Nat → Nat → Nat} {m : Mem} {Q : Option Value → Mem → Prop} (hyp : Q (some (.int (ixB 7 1 c))) m) : Go none aM (Ev mt aM (d + 2)) mJ0_indexOf_7cf53 Q (0, [some (.ref 1007), some (.int c), some (.int (0 : Int32))], [], m, 0, 0) := by
  refine Go.of_run (Ev.mono _) 2 _ ?_
  refine ⟨Nat.le_of_ble_eq_true rfl, ev_J0_isLatin1_aae02_1007 ?_⟩
  show Go none aM (Ev mt aM (d + 2)) mJ0_indexOf_7cf53 Q (4, [some (.ref 1007), some (.int c), some (.int (0 : Int32))], [.int (1 : Int32)], m, 0, 0)
  refine Go.of_run (Ev.mono _) 1 _ ?_
  show Go none aM (Ev mt aM (d + 2)) mJ0_indexOf_7cf53 Q (if (1 : Int32) = 0 then 23 else 7, [some (.ref 1007), some (.int c), some (.int (0 : Int32))], [], m, 0, 0)
  rw [if_neg (by decide : ¬ ((1 : Int32) = 0))]
  refine Go.of_run (Ev.mono _) 6 _ ?_
  refine ⟨Nat.le_of_ble_eq_true rfl, ev_J0_length_8abf5_1007 ?_⟩
  show Go none aM (Ev mt aM (d + 2)) mJ0_indexOf_7cf53 Q (17, [some (.ref 1007), some (.int c), some (.int (0 : Int32))], [.int (1 : Int32), .int (0 : Int32), .int c, .ref 1107], m, 0, 0)
  refine Go.of_run (Ev.mono _) 1 _ ?_
  refine ⟨Nat.le_of_ble_eq_true rfl, ev_ixb7 ?_⟩
  show Go none aM (Ev mt aM (d + 2)) mJ0_indexOf_7cf53 Q (20, [some (.ref 1007), some (.int c), some (.int (0 : Int32))], [.int (ixB 7 1 c)], m, 0, 0)
  refine Go.of_run (Ev.mono _) 2 _ ?_
  refine ⟨trivial, ?_⟩
  show Q (some (.int (ixB 7 1 c))) m
  exact hyp
theorem ev_ixd7 {d : Nat} {c : Int32} {m : Mem} {Q : Option Value → Mem → Prop} (h : Q (some (.int (ixB 7 1 c))) m) : Ev mt aM (d + 3) 289 [.ref 1007, .int c, .int (0 : Int32)] m Q := Ev.intro mJ0_indexOf_7cf53 rfl rfl (ixd7_0 (I := fun _ _ => 0) (J := fun _ _ => 0) (T := fun _ _ => 0) h)
set_option maxRecDepth 20000 in
theorem ixe7_0 {d : Nat} {c : Int32} {I : Nat → Nat → Int32} {J : Nat → Nat → Int64} {T : Nat → Nat → Nat} {m : Mem} {Q : Option Value → Mem → Prop} (hyp : Q (some (.int (ixB 7 1 c))) m) : Go none aM (Ev mt aM (d + 3)) mJ0_indexOf_0f7a4 Q (0, [some (.ref 1007), some (.int c)], [], m, 0, 0) := by
  refine Go.of_run (Ev.mono _) 4 _ ?_
  refine ⟨Nat.le_of_ble_eq_true rfl, ev_ixd7 ?_⟩
  show Go none aM (Ev mt aM (d + 3)) mJ0_indexOf_0f7a4 Q (6, [some (.ref 1007), some (.int c)], [.int (ixB 7 1 c)], m, 0, 0)
  refine Go.of_run (Ev.mono _) 1 _ ?_
  refine ⟨trivial, ?_⟩
  show Q (some (.int (ixB 7 1 c))) m
  exact hyp
theorem ev_ixe7 {d : Nat} {c : Int32} {m : Mem} {Q : Option Value → Mem → Prop} (h : Q (some (.int (ixB 7 1 c))) m) : Ev mt aM (d + 4) 288 [.ref 1007, .int c] m Q := Ev.intro mJ0_indexOf_0f7a4 rfl rfl (ixe7_0 (I := fun _ _ => 0) (J := fun _ _ => 0) (T := fun _ _ => 0) h)
set_option maxRecDepth 20000 in
theorem iso7_0 {d : Nat} {I : Nat → Nat → Int32} {J : Nat → Nat → Int64} {T : Nat → Nat → Nat} {Q : Option Value → Mem → Prop} (hyp : ((I 62 5 < 0 → Q (some (.int (0 : Int32))) (SH, mkM I J T)) ∧ ((¬ (I 62 5 < 0)) → ((ixB 7 1 (((I 62 5).toUInt32 % 65536).toInt32) < 0 → Q (some (.int (0 : Int32))) (SH, mkM I J T)) ∧ ((¬ (ixB 7 1 (((I 62 5).toUInt32 % 65536).toInt32) < 0)) → Q (some (.int (1 : Int32))) (SH, mkM I J T)))))) : Go none aM (Ev mt aM (d + 6)) mX3_isOneOf Q (0, [some (.ref 62), some (.ref 1007)], [], (SH, mkM I J T), 0, 0) := by
  refine Go.of_run (Ev.mono _) 3 _ ?_
  show Go none aM (Ev mt aM (d + 6)) mX3_isOneOf Q (if I 62 5 < 0 then 23 else 7, [some (.ref 62), some (.ref 1007)], [], (SH, mkM I J T), 0, 0)
  rcases Decidable.em (I 62 5 < 0) with c1 | c1
  · rw [if_pos c1]
    refine Go.of_run (Ev.mono _) 2 _ ?_
    refine ⟨(by decide), ?_⟩
    show Q (some (.int (0 : Int32))) (SH, mkM I J T)
    exact (hyp.1 c1)
  · rw [if_neg c1]
    refine Go.of_run (Ev.mono _) 5 _ ?_
    refine ⟨Nat.le_of_ble_eq_true rfl, ev_ixe7 ?_⟩
    show Go none aM (Ev mt aM (d + 6)) mX3_isOneOf Q (16, [some (.ref 62), some (.ref 1007)], [.int (ixB 7 1 (((I 62 5).toUInt32 % 65536).toInt32))], (SH, mkM I J T), 0, 0)
    refine Go.of_run (Ev.mono _) 1 _ ?_
    show Go none aM (Ev mt aM (d + 6)) mX3_isOneOf Q (if ixB 7 1 (((I 62 5).toUInt32 % 65536).toInt32) < 0 then 23 else 19, [some (.ref 62), some (.ref 1007)], [], (SH, mkM I J T), 0, 0)
    rcases Decidable.em (ixB 7 1 (((I 62 5).toUInt32 % 65536).toInt32) < 0) with c2 | c2
    · rw [if_pos c2]
      refine Go.of_run (Ev.mono _) 2 _ ?_
      refine ⟨(by decide), ?_⟩
      show Q (some (.int (0 : Int32))) (SH, mkM I J T)
      exact ((hyp.2 c1).1 c2)
    · rw [if_neg c2]
      refine Go.of_run (Ev.mono _) 3 _ ?_
      refine ⟨(by decide), ?_⟩
      show Q (some (.int (1 : Int32))) (SH, mkM I J T)
      exact ((hyp.2 c1).2 c2)
set_option maxRecDepth 20000 in
theorem ixc8_0 {d : Nat} {c : Int32} {I : Nat → Nat → Int32} {J : Nat → Nat → Int64} {T : Nat → Nat → Nat} {m : Mem} {Q : Option Value → Mem → Prop} (hyp : Go none aM (Ev mt aM d) mJ1_indexOfChar_4cfef Q (7, [some (.ref 1108), none, none, some (.int (1 : Int32)), some (.int c.toInt8.toInt32), some (.int (0 : Int32))], [], m, 0, 0)) : Go none aM (Ev mt aM (d + 0)) mJ1_indexOfChar_4cfef Q (0, [some (.ref 1108), some (.int c), some (.int (0 : Int32)), some (.int (1 : Int32)), none, none], [], m, 0, 0) := by
  refine Go.of_run (Ev.mono _) 5 _ ?_
  exact Go.weak (Ev.mono _) (LLe.cons (LLe.drop (LLe.drop (LLe.cons (LLe.cons (LLe.cons LLe.nil)))))) hyp
set_option maxRecDepth 20000 in
theorem ixc8_7 {d : Nat} {z i : Int32} {I : Nat → Nat → Int32} {J : Nat → Nat → Int64} {T : Nat → Nat → Nat} {m : Mem} {Q : Option Value → Mem → Prop} (hyp : (((1 : Int32) ≤ i → Q (some (.int (-1 : Int32))) m) ∧ ((¬ ((1 : Int32) ≤ i)) → (vp_in i 1 ∧ (((txB.getD 8 []).getD i.toNatClampNeg 0 = z → Q (some (.int i)) m) ∧ ((¬ ((txB.getD 8 []).getD i.toNatClampNeg 0 = z)) → Go none aM (Ev mt aM d) mJ1_indexOfChar_4cfef Q (7, [some (.ref 1108), none, none, some (.int (1 : Int32)), some (.int z), some (.int (i + 1))], [], m, 0, 0))))))) : Go none aM (Ev mt aM (d + 0)) mJ1_indexOfChar_4cfef Q (7, [some (.ref 1108), none, none, some (.int (1 : Int32)), some (.int z), some (.int i)], [], m, 0, 0) := by
  refine Go.of_run (Ev.mono _) 3 _ ?_
  show Go none aM (Ev mt aM d) mJ1_indexOfChar_4cfef Q (if (1 : Int32) ≤ i then 31 else 13, [some (.ref 1108), none, none, some (.int (1 : Int32)), some (.int z), some (.int i)], [], m, 0, 0)
  rcases Decidable.em ((1 : Int32) ≤ i) with c1 | c1
  · rw [if_pos c1]
    refine Go.of_run (Ev.mono _) 2 _ ?_
    refine ⟨trivial, ?_⟩
    show Q (some (.int (-1 : Int32))) m
    exact (hyp.1 c1)
  · rw [if_neg c1]
    refine Go.of_run (Ev.mono _) 3 _ ?_
    refine ⟨(hyp.2 c1).1, ?_⟩
    show Go none aM (Ev mt aM d) mJ1_indexOfChar_4cfef Q (17, [some (.ref 1108), none, none, some (.int (1 : Int32)), some (.int z), some (.int i)], [.int ((txB.getD 8 []).getD i.toNatClampNeg 0)], m, 0, 0)
    refine Go.of_run (Ev.mono _) 2 _ ?_
    show Go none aM (Ev mt aM d) mJ1_indexOfChar_4cfef Q (if (txB.getD 8 []).getD i.toNatClampNeg 0 = z then 22 else 25, [some (.ref 1108), none, none, some (.int (1 : Int32)), some (.int z), some (.int i)], [], m, 0, 0)
    rcases Decidable.em ((txB.getD 8 []).getD i.toNatClampNeg 0 = z) with c2 | c2
    · rw [if_pos c2]
      refine Go.of_run (Ev.mono _) 2 _ ?_
      refine ⟨trivial, ?_⟩
      show Q (some (.int i)) m
      exact ((hyp.2 c1).2.1 c2)
    · rw [if_neg c2]
      refine Go.of_run (Ev.mono _) 2 _ ?_
      exact ((hyp.2 c1).2.2 c2)
theorem ixl8 {d : Nat} {z : Int32} {m : Mem} {Q : Option Value → Mem → Prop} : ∀ f i, f + i = 1 → Q (some (.int (ixF (txB.getD 8 []) z f i))) m → Go none aM (Ev mt aM d) mJ1_indexOfChar_4cfef Q (7, [some (.ref 1108), none, none, some (.int (1 : Int32)), some (.int z), some (.int (nI i))], [], m, 0, 0) := by
  intro f
  induction f with
  | zero =>
    intro i hi h
    exact ixc8_7 (I := fun _ _ => 0) (J := fun _ _ => 0) (T := fun _ _ => 0) ⟨fun _ => h, fun c => absurd (nI_le (a := 1) (b := i) (by omega) (by omega)) c⟩
  | succ f ih =>
    intro i hi h
    refine ixc8_7 (I := fun _ _ => 0) (J := fun _ _ => 0) (T := fun _ _ => 0) ⟨fun c => absurd c (nI_ge (a := i) (b := 1) (by omega) (by omega)), fun _ => ⟨vp_in_nI (by omega) (by omega), ?_⟩⟩
    rw [nI_clamp (by omega), nI_1]
    unfold ixF at h
    by_cases c : (txB.getD 8 []).getD i 0 = z
    · rw [if_pos c] at h
      exact ⟨fun _ => h, fun q => absurd c q⟩
    · rw [if_neg c] at h
      exact ⟨fun q => absurd q c, fun _ => ih (i + 1) (by omega) h⟩
theorem ev_ixc8 {d : Nat} {c : Int32} {m : Mem} {Q : Option Value → Mem → Prop} (h : Q (some (.int (ixF (txB.getD 8 []) c.toInt8.toInt32 1 0))) m) : Ev mt aM (d + 1) 294 [.ref 1108, .int c, .int (0 : Int32), .int (1 : Int32)] m Q := Ev.intro mJ1_indexOfChar_4cfef rfl rfl (ixc8_0 (I := fun _ _ => 0) (J := fun _ _ => 0) (T := fun _ _ => 0) (ixl8 1 0 rfl h))
set_option maxRecDepth 20000 in
theorem ixb8_0 {d : Nat} {c : Int32} {I : Nat → Nat → Int32} {J : Nat → Nat → Int64} {T : Nat → Nat → Nat} {m : Mem} {Q : Option Value → Mem → Prop} (hyp : ((v_J1_canEncode_9a6ad c = 0 → Q (some (.int (-1 : Int32))) m) ∧ ((¬ (v_J1_canEncode_9a6ad c = 0)) → Q (some (.int (ixF (txB.getD 8 []) c.toInt8.toInt32 1 0))) m))) : Go none aM (Ev mt aM (d + 1)) mJ1_indexOf_4cfef Q (0, [some (.ref 1108), some (.int c), some (.int (0 : Int32)), some (.int (1 : Int32))], [], m, 0, 0) := by
  refine Go.of_run (Ev.mono _) 2 _ ?_
  refine ⟨Nat.le_of_ble_eq_true rfl, ev_J1_canEncode_9a6ad ?_⟩
  show Go none aM (Ev mt aM (d + 1)) mJ1_indexOf_4cfef Q (4, [some (.ref 1108), some (.int c), some (.int (0 : Int32)), some (.int (1 : Int32))], [.int (v_J1_canEncode_9a6ad c)], m, 0, 0)
  refine Go.of_run (Ev.mono _) 1 _ ?_
  show Go none aM (Ev mt aM (d + 1)) mJ1_indexOf_4cfef Q (if v_J1_canEncode_9a6ad c = 0 then 7 else 9, [some (.ref 1108), some (.int c), some (.int (0 : Int32)), some (.int (1 : Int32))], [], m, 0, 0)
  rcases Decidable.em (v_J1_canEncode_9a6ad c = 0) with c1 | c1
  · rw [if_pos c1]
    refine Go.of_run (Ev.mono _) 2 _ ?_
    refine ⟨trivial, ?_⟩
    show Q (some (.int (-1 : Int32))) m
    exact (hyp.1 c1)
  · rw [if_neg c1]
    refine Go.of_run (Ev.mono _) 3 _ ?_
    refine ⟨Nat.le_of_ble_eq_true rfl, ?_⟩
    show Go none aM (Ev mt aM (d + 1)) mJ1_indexOf_4cfef Q (14, [some (.ref 1108), some (.int c), some (.int (0 : Int32)), some (.int (1 : Int32))], [.int (0 : Int32)], m, 0, 0)
    refine Go.of_run (Ev.mono _) 5 _ ?_
    refine ⟨Nat.le_of_ble_eq_true rfl, ?_⟩
    show Go none aM (Ev mt aM (d + 1)) mJ1_indexOf_4cfef Q (21, [some (.ref 1108), some (.int c), some (.int (0 : Int32)), some (.int (1 : Int32))], [.int (1 : Int32)], m, 0, 0)
    refine Go.of_run (Ev.mono _) 4 _ ?_
    show Go none aM (Ev mt aM (d + 1)) mJ1_indexOf_4cfef Q (if (0 : Int32) < (1 : Int32) then 29 else 27, [some (.ref 1108), some (.int c), some (.int (0 : Int32)), some (.int (1 : Int32))], [], m, 0, 0)
    rw [if_pos (by decide : (0 : Int32) < (1 : Int32))]
    refine Go.of_run (Ev.mono _) 5 _ ?_
    refine ⟨Nat.le_of_ble_eq_true rfl, ev_ixc8 ?_⟩
    show Go none aM (Ev mt aM (d + 1)) mJ1_indexOf_4cfef Q (36, [some (.ref 1108), some (.int c), some (.int (0 : Int32)), some (.int (1 : Int32))], [.int (ixF (txB.getD 8 []) c.toInt8.toInt32 1 0)], m, 0, 0)
    refine Go.of_run (Ev.mono _) 1 _ ?_
    refine ⟨trivial, ?_⟩
    show Q (some (.int (ixF (txB.getD 8 []) c.toInt8.toInt32 1 0))) m
    exact (hyp.2 c1)
theorem ev_ixb8 {d : Nat} {c : Int32} {m : Mem} {Q : Option Value → Mem → Prop} (h : Q (some (.int (ixB 8 1 c))) m) : Ev mt aM (d + 2) 293 [.ref 1108, .int c, .int (0 : Int32), .int (1 : Int32)] m Q := by
  refine Ev.intro mJ1_indexOf_4cfef rfl rfl (ixb8_0 (I := fun _ _ => 0) (J := fun _ _ => 0) (T := fun _ _ => 0) ?_)
  unfold ixB at h
  by_cases c1 : v_J1_canEncode_9a6ad c = 0
  · rw [if_pos c1] at h; exact ⟨fun _ => h, fun q => absurd c1 q⟩
  · rw [if_neg c1] at h; exact ⟨fun q => absurd q c1, fun _ => h⟩
set_option maxRecDepth 20000 in
theorem ev_J0_isLatin1_aae02_1008 {d : Nat} {m : Mem} {Q : Option Value → Mem → Prop} (h : Q (some (.int (1 : Int32))) m) : Ev mt aM (d + 1) 291 [.ref 1008] m Q := by
  refine Ev.intro mJ0_isLatin1_aae02 rfl rfl ?_
  show Go none aM (Ev mt aM d) mJ0_isLatin1_aae02 Q (0, [some (.ref 1008)], [], m, 0, 0)
  refine Go.of_run (Ev.mono _) 2 _ ?_
  show Go none aM (Ev mt aM d) mJ0_isLatin1_aae02 Q (if (1 : Int32) = 0 then 17 else 6, [some (.ref 1008)], [], m, 0, 0)
  rw [if_neg (by decide : ¬ ((1 : Int32) = 0))]
  refine Go.of_run (Ev.mono _) 3 _ ?_
  show Go none aM (Ev mt aM d) mJ0_isLatin1_aae02 Q (if (0 : Int32) = 0 then 13 else 17, [some (.ref 1008)], [], m, 0, 0)
  rw [if_pos (by decide : (0 : Int32) = 0)]
  refine Go.of_run (Ev.mono _) 3 _ ?_
  refine ⟨(by decide), ?_⟩
  show Q (some (.int (1 : Int32))) m
  exact h
set_option maxRecDepth 20000 in
theorem ev_J0_coder_7d493_1008 {d : Nat} {m : Mem} {Q : Option Value → Mem → Prop} (h : Q (some (.int (0 : Int32))) m) : Ev mt aM (d + 1) 290 [.ref 1008] m Q := by
  refine Ev.intro mJ0_coder_7d493 rfl rfl ?_
  show Go none aM (Ev mt aM d) mJ0_coder_7d493 Q (0, [some (.ref 1008)], [], m, 0, 0)
  refine Go.of_run (Ev.mono _) 2 _ ?_
  show Go none aM (Ev mt aM d) mJ0_coder_7d493 Q (if (1 : Int32) = 0 then 13 else 6, [some (.ref 1008)], [], m, 0, 0)
  rw [if_neg (by decide : ¬ ((1 : Int32) = 0))]
  refine Go.of_run (Ev.mono _) 4 _ ?_
  refine ⟨(by decide), ?_⟩
  show Q (some (.int (0 : Int32))) m
  exact h
set_option maxRecDepth 20000 in
theorem ev_J0_length_8abf5_1008 {d : Nat} {m : Mem} {Q : Option Value → Mem → Prop} (h : Q (some (.int (1 : Int32))) m) : Ev mt aM (d + 2) 287 [.ref 1008] m Q := by
  refine Ev.intro mJ0_length_8abf5 rfl rfl ?_
  show Go none aM (Ev mt aM (d + 1)) mJ0_length_8abf5 Q (0, [some (.ref 1008)], [], m, 0, 0)
  refine Go.of_run (Ev.mono _) 5 _ ?_
  refine ⟨Nat.le_of_ble_eq_true rfl, ev_J0_coder_7d493_1008 ?_⟩
  show Go none aM (Ev mt aM (d + 1)) mJ0_length_8abf5 Q (9, [some (.ref 1008)], [.int (0 : Int32), .int (1 : Int32)], m, 0, 0)
  refine Go.of_run (Ev.mono _) 2 _ ?_
  refine ⟨trivial, ?_⟩
  show Q (some (.int (1 : Int32))) m
  exact h
set_option maxRecDepth 20000 in
theorem ixd8_0 {d : Nat} {c : Int32} {I : Nat → Nat → Int32} {J : Nat → Nat → Int64} {T : Nat → Nat → Nat} {m : Mem} {Q : Option Value → Mem → Prop} (hyp : Q (some (.int (ixB 8 1 c))) m) : Go none aM (Ev mt aM (d + 2)) mJ0_indexOf_7cf53 Q (0, [some (.ref 1008), some (.int c), some (.int (0 : Int32))], [], m, 0, 0) := by
  refine Go.of_run (Ev.mono _) 2 _ ?_
  refine ⟨Nat.le_of_ble_eq_true rfl, ev_J0_isLatin1_aae02_1008 ?_⟩
  show Go none aM (Ev mt aM (d + 2)) mJ0_indexOf_7cf53 Q (4, [some (.ref 1008), some (.int c), some (.int (0 : Int32))], [.int (1 : Int32)], m, 0, 0)
  refine Go.of_run (Ev.mono _) 1 _ ?_
  show Go none aM (Ev mt aM (d + 2)) mJ0_indexOf_7cf53 Q (if (1 : Int32) = 0 then 23 else 7, [some (.ref 1008), some (.int c), some (.int (0 : Int32))], [], m, 0, 0)
  rw [if_neg (by decide : ¬ ((1 : Int32) = 0))]
  refine Go.of_run (Ev.mono _) 6 _ ?_
  refine ⟨Nat.le_of_ble_eq_true rfl, ev_J0_length_8abf5_1008 ?_⟩
  show Go none aM (Ev mt aM (d + 2)) mJ0_indexOf_7cf53 Q (17, [some (.ref 1008), some (.int c), some (.int (0 : Int32))], [.int (1 : Int32), .int (0 : Int32), .int c, .ref 1108], m, 0, 0)
  refine Go.of_run (Ev.mono _) 1 _ ?_
  refine ⟨Nat.le_of_ble_eq_true rfl, ev_ixb8 ?_⟩
  show Go none aM (Ev mt aM (d + 2)) mJ0_indexOf_7cf53 Q (20, [some (.ref 1008), some (.int c), some (.int (0 : Int32))], [.int (ixB 8 1 c)], m, 0, 0)
  refine Go.of_run (Ev.mono _) 2 _ ?_
  refine ⟨trivial, ?_⟩
  show Q (some (.int (ixB 8 1 c))) m
  exact hyp
theorem ev_ixd8 {d : Nat} {c : Int32} {m : Mem} {Q : Option Value → Mem → Prop} (h : Q (some (.int (ixB 8 1 c))) m) : Ev mt aM (d + 3) 289 [.ref 1008, .int c, .int (0 : Int32)] m Q := Ev.intro mJ0_indexOf_7cf53 rfl rfl (ixd8_0 (I := fun _ _ => 0) (J := fun _ _ => 0) (T := fun _ _ => 0) h)
set_option maxRecDepth 20000 in
theorem ixe8_0 {d : Nat} {c : Int32} {I : Nat → Nat → Int32} {J : Nat → Nat → Int64} {T : Nat → Nat → Nat} {m : Mem} {Q : Option Value → Mem → Prop} (hyp : Q (some (.int (ixB 8 1 c))) m) : Go none aM (Ev mt aM (d + 3)) mJ0_indexOf_0f7a4 Q (0, [some (.ref 1008), some (.int c)], [], m, 0, 0) := by
  refine Go.of_run (Ev.mono _) 4 _ ?_
  refine ⟨Nat.le_of_ble_eq_true rfl, ev_ixd8 ?_⟩
  show Go none aM (Ev mt aM (d + 3)) mJ0_indexOf_0f7a4 Q (6, [some (.ref 1008), some (.int c)], [.int (ixB 8 1 c)], m, 0, 0)
  refine Go.of_run (Ev.mono _) 1 _ ?_
  refine ⟨trivial, ?_⟩
  show Q (some (.int (ixB 8 1 c))) m
  exact hyp
theorem ev_ixe8 {d : Nat} {c : Int32} {m : Mem} {Q : Option Value → Mem → Prop} (h : Q (some (.int (ixB 8 1 c))) m) : Ev mt aM (d + 4) 288 [.ref 1008, .int c] m Q := Ev.intro mJ0_indexOf_0f7a4 rfl rfl (ixe8_0 (I := fun _ _ => 0) (J := fun _ _ => 0) (T := fun _ _ => 0) h)
set_option maxRecDepth 20000 in
theorem iso8_0 {d : Nat} {I : Nat → Nat → Int32} {J : Nat → Nat → Int64} {T : Nat → Nat → Nat} {Q : Option Value → Mem → Prop} (hyp : ((I 62 5 < 0 → Q (some (.int (0 : Int32))) (SH, mkM I J T)) ∧ ((¬ (I 62 5 < 0)) → ((ixB 8 1 (((I 62 5).toUInt32 % 65536).toInt32) < 0 → Q (some (.int (0 : Int32))) (SH, mkM I J T)) ∧ ((¬ (ixB 8 1 (((I 62 5).toUInt32 % 65536).toInt32) < 0)) → Q (some (.int (1 : Int32))) (SH, mkM I J T)))))) : Go none aM (Ev mt aM (d + 6)) mX3_isOneOf Q (0, [some (.ref 62), some (.ref 1008)], [], (SH, mkM I J T), 0, 0) := by
  refine Go.of_run (Ev.mono _) 3 _ ?_
  show Go none aM (Ev mt aM (d + 6)) mX3_isOneOf Q (if I 62 5 < 0 then 23 else 7, [some (.ref 62), some (.ref 1008)], [], (SH, mkM I J T), 0, 0)
  rcases Decidable.em (I 62 5 < 0) with c1 | c1
  · rw [if_pos c1]
    refine Go.of_run (Ev.mono _) 2 _ ?_
    refine ⟨(by decide), ?_⟩
    show Q (some (.int (0 : Int32))) (SH, mkM I J T)
    exact (hyp.1 c1)
  · rw [if_neg c1]
    refine Go.of_run (Ev.mono _) 5 _ ?_
    refine ⟨Nat.le_of_ble_eq_true rfl, ev_ixe8 ?_⟩
    show Go none aM (Ev mt aM (d + 6)) mX3_isOneOf Q (16, [some (.ref 62), some (.ref 1008)], [.int (ixB 8 1 (((I 62 5).toUInt32 % 65536).toInt32))], (SH, mkM I J T), 0, 0)
    refine Go.of_run (Ev.mono _) 1 _ ?_
    show Go none aM (Ev mt aM (d + 6)) mX3_isOneOf Q (if ixB 8 1 (((I 62 5).toUInt32 % 65536).toInt32) < 0 then 23 else 19, [some (.ref 62), some (.ref 1008)], [], (SH, mkM I J T), 0, 0)
    rcases Decidable.em (ixB 8 1 (((I 62 5).toUInt32 % 65536).toInt32) < 0) with c2 | c2
    · rw [if_pos c2]
      refine Go.of_run (Ev.mono _) 2 _ ?_
      refine ⟨(by decide), ?_⟩
      show Q (some (.int (0 : Int32))) (SH, mkM I J T)
      exact ((hyp.2 c1).1 c2)
    · rw [if_neg c2]
      refine Go.of_run (Ev.mono _) 3 _ ?_
      refine ⟨(by decide), ?_⟩
      show Q (some (.int (1 : Int32))) (SH, mkM I J T)
      exact ((hyp.2 c1).2 c2)
def isoF1 (x : Int32) : Int32 := if x < 0 then 0 else if ixB 1 3 (x.toUInt32 % 65536).toInt32 < 0 then 0 else 1
theorem ev_iso1 {d : Nat} {I : Nat → Nat → Int32} {J : Nat → Nat → Int64} {T : Nat → Nat → Nat} {Q : Option Value → Mem → Prop} (h : Q (some (.int (isoF1 (I 62 5)))) (SH, mkM I J T)) : Ev mt aM (d + 7) 36 [.ref 62, .ref 1001] (SH, mkM I J T) Q := by
  refine Ev.intro mX3_isOneOf rfl rfl (iso1_0 ?_)
  unfold isoF1 at h
  by_cases c1 : I 62 5 < 0
  · rw [if_pos c1] at h
    exact ⟨fun _ => h, fun q => absurd c1 q⟩
  · rw [if_neg c1] at h
    refine ⟨fun q => absurd q c1, fun _ => ?_⟩
    by_cases c2 : ixB 1 3 ((I 62 5).toUInt32 % 65536).toInt32 < 0
    · rw [if_pos c2] at h
      exact ⟨fun _ => h, fun q => absurd c2 q⟩
    · rw [if_neg c2] at h
      exact ⟨fun q => absurd q c2, fun _ => h⟩
def isoF2 (x : Int32) : Int32 := if x < 0 then 0 else if ixB 2 10 (x.toUInt32 % 65536).toInt32 < 0 then 0 else 1
theorem ev_iso2 {d : Nat} {I : Nat → Nat → Int32} {J : Nat → Nat → Int64} {T : Nat → Nat → Nat} {Q : Option Value → Mem → Prop} (h : Q (some (.int (isoF2 (I 62 5)))) (SH, mkM I J T)) : Ev mt aM (d + 7) 36 [.ref 62, .ref 1002] (SH, mkM I J T) Q := by
  refine Ev.intro mX3_isOneOf rfl rfl (iso2_0 ?_)
  unfold isoF2 at h
  by_cases c1 : I 62 5 < 0
  · rw [if_pos c1] at h
    exact ⟨fun _ => h, fun q => absurd c1 q⟩
  · rw [if_neg c1] at h
    refine ⟨fun q => absurd q c1, fun _ => ?_⟩
    by_cases c2 : ixB 2 10 ((I 62 5).toUInt32 % 65536).toInt32 < 0
    · rw [if_pos c2] at h
      exact ⟨fun _ => h, fun q => absurd c2 q⟩
    · rw [if_neg c2] at h
      exact ⟨fun q => absurd q c2, fun _ => h⟩
def isoF3 (x : Int32) : Int32 := if x < 0 then 0 else if ixB 3 16 (x.toUInt32 % 65536).toInt32 < 0 then 0 else 1
theorem ev_iso3 {d : Nat} {I : Nat → Nat → Int32} {J : Nat → Nat → Int64} {T : Nat → Nat → Nat} {Q : Option Value → Mem → Prop} (h : Q (some (.int (isoF3 (I 62 5)))) (SH, mkM I J T)) : Ev mt aM (d + 7) 36 [.ref 62, .ref 1003] (SH, mkM I J T) Q := by
  refine Ev.intro mX3_isOneOf rfl rfl (iso3_0 ?_)
  unfold isoF3 at h
  by_cases c1 : I 62 5 < 0
  · rw [if_pos c1] at h
    exact ⟨fun _ => h, fun q => absurd c1 q⟩
  · rw [if_neg c1] at h
    refine ⟨fun q => absurd q c1, fun _ => ?_⟩
    by_cases c2 : ixB 3 16 ((I 62 5).toUInt32 % 65536).toInt32 < 0
    · rw [if_pos c2] at h
      exact ⟨fun _ => h, fun q => absurd c2 q⟩
    · rw [if_neg c2] at h
      exact ⟨fun q => absurd q c2, fun _ => h⟩
def isoF4 (x : Int32) : Int32 := if x < 0 then 0 else if ixB 4 3 (x.toUInt32 % 65536).toInt32 < 0 then 0 else 1
theorem ev_iso4 {d : Nat} {I : Nat → Nat → Int32} {J : Nat → Nat → Int64} {T : Nat → Nat → Nat} {Q : Option Value → Mem → Prop} (h : Q (some (.int (isoF4 (I 62 5)))) (SH, mkM I J T)) : Ev mt aM (d + 7) 36 [.ref 62, .ref 1004] (SH, mkM I J T) Q := by
  refine Ev.intro mX3_isOneOf rfl rfl (iso4_0 ?_)
  unfold isoF4 at h
  by_cases c1 : I 62 5 < 0
  · rw [if_pos c1] at h
    exact ⟨fun _ => h, fun q => absurd c1 q⟩
  · rw [if_neg c1] at h
    refine ⟨fun q => absurd q c1, fun _ => ?_⟩
    by_cases c2 : ixB 4 3 ((I 62 5).toUInt32 % 65536).toInt32 < 0
    · rw [if_pos c2] at h
      exact ⟨fun _ => h, fun q => absurd c2 q⟩
    · rw [if_neg c2] at h
      exact ⟨fun q => absurd q c2, fun _ => h⟩
def isoF5 (x : Int32) : Int32 := if x < 0 then 0 else if ixB 5 2 (x.toUInt32 % 65536).toInt32 < 0 then 0 else 1
theorem ev_iso5 {d : Nat} {I : Nat → Nat → Int32} {J : Nat → Nat → Int64} {T : Nat → Nat → Nat} {Q : Option Value → Mem → Prop} (h : Q (some (.int (isoF5 (I 62 5)))) (SH, mkM I J T)) : Ev mt aM (d + 7) 36 [.ref 62, .ref 1005] (SH, mkM I J T) Q := by
  refine Ev.intro mX3_isOneOf rfl rfl (iso5_0 ?_)
  unfold isoF5 at h
  by_cases c1 : I 62 5 < 0
  · rw [if_pos c1] at h
    exact ⟨fun _ => h, fun q => absurd c1 q⟩
  · rw [if_neg c1] at h
    refine ⟨fun q => absurd q c1, fun _ => ?_⟩
    by_cases c2 : ixB 5 2 ((I 62 5).toUInt32 % 65536).toInt32 < 0
    · rw [if_pos c2] at h
      exact ⟨fun _ => h, fun q => absurd c2 q⟩
    · rw [if_neg c2] at h
      exact ⟨fun q => absurd q c2, fun _ => h⟩
def isoF6 (x : Int32) : Int32 := if x < 0 then 0 else if ixB 6 3 (x.toUInt32 % 65536).toInt32 < 0 then 0 else 1
theorem ev_iso6 {d : Nat} {I : Nat → Nat → Int32} {J : Nat → Nat → Int64} {T : Nat → Nat → Nat} {Q : Option Value → Mem → Prop} (h : Q (some (.int (isoF6 (I 62 5)))) (SH, mkM I J T)) : Ev mt aM (d + 7) 36 [.ref 62, .ref 1006] (SH, mkM I J T) Q := by
  refine Ev.intro mX3_isOneOf rfl rfl (iso6_0 ?_)
  unfold isoF6 at h
  by_cases c1 : I 62 5 < 0
  · rw [if_pos c1] at h
    exact ⟨fun _ => h, fun q => absurd c1 q⟩
  · rw [if_neg c1] at h
    refine ⟨fun q => absurd q c1, fun _ => ?_⟩
    by_cases c2 : ixB 6 3 ((I 62 5).toUInt32 % 65536).toInt32 < 0
    · rw [if_pos c2] at h
      exact ⟨fun _ => h, fun q => absurd c2 q⟩
    · rw [if_neg c2] at h
      exact ⟨fun q => absurd q c2, fun _ => h⟩
def isoF7 (x : Int32) : Int32 := if x < 0 then 0 else if ixB 7 1 (x.toUInt32 % 65536).toInt32 < 0 then 0 else 1
theorem ev_iso7 {d : Nat} {I : Nat → Nat → Int32} {J : Nat → Nat → Int64} {T : Nat → Nat → Nat} {Q : Option Value → Mem → Prop} (h : Q (some (.int (isoF7 (I 62 5)))) (SH, mkM I J T)) : Ev mt aM (d + 7) 36 [.ref 62, .ref 1007] (SH, mkM I J T) Q := by
  refine Ev.intro mX3_isOneOf rfl rfl (iso7_0 ?_)
  unfold isoF7 at h
  by_cases c1 : I 62 5 < 0
  · rw [if_pos c1] at h
    exact ⟨fun _ => h, fun q => absurd c1 q⟩
  · rw [if_neg c1] at h
    refine ⟨fun q => absurd q c1, fun _ => ?_⟩
    by_cases c2 : ixB 7 1 ((I 62 5).toUInt32 % 65536).toInt32 < 0
    · rw [if_pos c2] at h
      exact ⟨fun _ => h, fun q => absurd c2 q⟩
    · rw [if_neg c2] at h
      exact ⟨fun q => absurd q c2, fun _ => h⟩
def isoF8 (x : Int32) : Int32 := if x < 0 then 0 else if ixB 8 1 (x.toUInt32 % 65536).toInt32 < 0 then 0 else 1
theorem ev_iso8 {d : Nat} {I : Nat → Nat → Int32} {J : Nat → Nat → Int64} {T : Nat → Nat → Nat} {Q : Option Value → Mem → Prop} (h : Q (some (.int (isoF8 (I 62 5)))) (SH, mkM I J T)) : Ev mt aM (d + 7) 36 [.ref 62, .ref 1008] (SH, mkM I J T) Q := by
  refine Ev.intro mX3_isOneOf rfl rfl (iso8_0 ?_)
  unfold isoF8 at h
  by_cases c1 : I 62 5 < 0
  · rw [if_pos c1] at h
    exact ⟨fun _ => h, fun q => absurd c1 q⟩
  · rw [if_neg c1] at h
    refine ⟨fun q => absurd q c1, fun _ => ?_⟩
    by_cases c2 : ixB 8 1 ((I 62 5).toUInt32 % 65536).toInt32 < 0
    · rw [if_pos c2] at h
      exact ⟨fun _ => h, fun q => absurd c2 q⟩
    · rw [if_neg c2] at h
      exact ⟨fun q => absurd q c2, fun _ => h⟩
set_option maxRecDepth 20000 in
theorem mov_0 {d : Nat} {I : Nat → Nat → Int32} {J : Nat → Nat → Int64} {T : Nat → Nat → Nat} {Q : Option Value → Mem → Prop} (hyp : (((I 62 4) + (1 : Int32) < 0 → Q none (SH, mkM (si (si I 62 4 ((I 62 4) + (1 : Int32))) 62 5 (-1 : Int32)) J T)) ∧ ((¬ ((I 62 4) + (1 : Int32) < 0)) → ((I 62 3 ≤ (I 62 4) + (1 : Int32) → Q none (SH, mkM (si (si I 62 4 ((I 62 4) + (1 : Int32))) 62 5 (-1 : Int32)) J T)) ∧ ((¬ (I 62 3 ≤ (I 62 4) + (1 : Int32))) → (((220 : Int32) ≤ (I 62 4) + (1 : Int32) → Q none (SH, mkM (si (si I 62 4 ((I 62 4) + (1 : Int32))) 62 5 (-1 : Int32)) J T)) ∧ ((¬ ((220 : Int32) ≤ (I 62 4) + (1 : Int32))) → Q none (SH, mkM (si (si I 62 4 ((I 62 4) + (1 : Int32))) 62 5 (I 8 (((I 62 4) + (1 : Int32)).toNatClampNeg))) J T)))))))) : Go none aM (Ev mt aM (d + 1)) mX3_move Q (0, [some (.ref 62)], [], (SH, mkM I J T), 0, 0) := by
  refine Go.of_run (Ev.mono _) 6 _ ?_
  refine go_si rfl ?_
  show Go none aM (Ev mt aM (d + 1)) mX3_move Q (10, [some (.ref 62)], [], (SH, mkM (si I 62 4 ((I 62 4) + (1 : Int32))) J T), 0, 0)
  refine Go.of_run (Ev.mono _) 4 _ ?_
  show Go none aM (Ev mt aM (d + 1)) mX3_move Q (if (I 62 4) + (1 : Int32) < 0 then 53 else 18, [some (.ref 62)], [.ref 62], (SH, mkM (si I 62 4 ((I 62 4) + (1 : Int32))) J T), 0, 0)
  rcases Decidable.em ((I 62 4) + (1 : Int32) < 0) with c1 | c1
  · rw [if_pos c1]
    refine Go.of_run (Ev.mono _) 2 _ ?_
    refine go_si rfl ?_
    show Go none aM (Ev mt aM (d + 1)) mX3_move Q (57, [some (.ref 62)], [], (SH, mkM (si (si I 62 4 ((I 62 4) + (1 : Int32))) 62 5 (-1 : Int32)) J T), 0, 0)
    refine Go.of_run (Ev.mono _) 1 _ ?_
    refine ⟨trivial, ?_⟩
    show Q none (SH, mkM (si (si I 62 4 ((I 62 4) + (1 : Int32))) 62 5 (-1 : Int32)) J T)
    exact (hyp.1 c1)
  · rw [if_neg c1]
    refine Go.of_run (Ev.mono _) 5 _ ?_
    show Go none aM (Ev mt aM (d + 1)) mX3_move Q (if I 62 3 ≤ (I 62 4) + (1 : Int32) then 53 else 29, [some (.ref 62)], [.ref 62], (SH, mkM (si I 62 4 ((I 62 4) + (1 : Int32))) J T), 0, 0)
    rcases Decidable.em (I 62 3 ≤ (I 62 4) + (1 : Int32)) with c2 | c2
    · rw [if_pos c2]
      refine Go.of_run (Ev.mono _) 2 _ ?_
      refine go_si rfl ?_
      show Go none aM (Ev mt aM (d + 1)) mX3_move Q (57, [some (.ref 62)], [], (SH, mkM (si (si I 62 4 ((I 62 4) + (1 : Int32))) 62 5 (-1 : Int32)) J T), 0, 0)
      refine Go.of_run (Ev.mono _) 1 _ ?_
      refine ⟨trivial, ?_⟩
      show Q none (SH, mkM (si (si I 62 4 ((I 62 4) + (1 : Int32))) 62 5 (-1 : Int32)) J T)
      exact ((hyp.2 c1).1 c2)
    · rw [if_neg c2]
      refine Go.of_run (Ev.mono _) 6 _ ?_
      show Go none aM (Ev mt aM (d + 1)) mX3_move Q (if (220 : Int32) ≤ (I 62 4) + (1 : Int32) then 53 else 41, [some (.ref 62)], [.ref 62], (SH, mkM (si I 62 4 ((I 62 4) + (1 : Int32))) J T), 0, 0)
      rcases Decidable.em ((220 : Int32) ≤ (I 62 4) + (1 : Int32)) with c3 | c3
      · rw [if_pos c3]
        refine Go.of_run (Ev.mono _) 2 _ ?_
        refine go_si rfl ?_
        show Go none aM (Ev mt aM (d + 1)) mX3_move Q (57, [some (.ref 62)], [], (SH, mkM (si (si I 62 4 ((I 62 4) + (1 : Int32))) 62 5 (-1 : Int32)) J T), 0, 0)
        refine Go.of_run (Ev.mono _) 1 _ ?_
        refine ⟨trivial, ?_⟩
        show Q none (SH, mkM (si (si I 62 4 ((I 62 4) + (1 : Int32))) 62 5 (-1 : Int32)) J T)
        exact (((hyp.2 c1).2 c2).1 c3)
      · rw [if_neg c3]
        refine Go.of_run (Ev.mono _) 5 _ ?_
        refine ⟨(vin_of rfl c1 c3), ?_⟩
        show Go none aM (Ev mt aM (d + 1)) mX3_move Q (50, [some (.ref 62)], [.int (I 8 (((I 62 4) + (1 : Int32)).toNatClampNeg)), .ref 62], (SH, mkM (si I 62 4 ((I 62 4) + (1 : Int32))) J T), 0, 0)
        refine Go.of_run (Ev.mono _) 2 _ ?_
        refine go_si rfl ?_
        show Go none aM (Ev mt aM (d + 1)) mX3_move Q (57, [some (.ref 62)], [], (SH, mkM (si (si I 62 4 ((I 62 4) + (1 : Int32))) 62 5 (I 8 (((I 62 4) + (1 : Int32)).toNatClampNeg))) J T), 0, 0)
        refine Go.of_run (Ev.mono _) 1 _ ?_
        refine ⟨trivial, ?_⟩
        show Q none (SH, mkM (si (si I 62 4 ((I 62 4) + (1 : Int32))) 62 5 (I 8 (((I 62 4) + (1 : Int32)).toNatClampNeg))) J T)
        exact (((hyp.2 c1).2 c2).2 c3)
set_option maxRecDepth 20000 in
theorem exp_0 {d : Nat} {x : Int32} {I : Nat → Nat → Int32} {J : Nat → Nat → Int64} {T : Nat → Nat → Nat} {Q : Option Value → Mem → Prop} (hyp : ((I 62 5 = x → Ev mt aM (d + 1) 34 [.ref 62] (SH, mkM I J T) (fun r m1 => Go none aM (Ev mt aM (d + 1)) mX3_expect Q (12, [some (.ref 62), some (.int x)], r.toList ++ [], m1, 0, 0))) ∧ ((¬ (I 62 5 = x)) → Ev mt aM (d + 1) 35 [.ref 62, .int (1 : Int32)] (SH, mkM I J T) (fun r m1 => Go none aM (Ev mt aM (d + 1)) mX3_expect Q (20, [some (.ref 62), some (.int x)], r.toList ++ [], m1, 0, 0))))) : Go none aM (Ev mt aM (d + 1)) mX3_expect Q (0, [some (.ref 62), some (.int x)], [], (SH, mkM I J T), 0, 0) := by
  refine Go.of_run (Ev.mono _) 4 _ ?_
  show Go none aM (Ev mt aM (d + 1)) mX3_expect Q (if I 62 5 = x then 8 else 15, [some (.ref 62), some (.int x)], [], (SH, mkM I J T), 0, 0)
  rcases Decidable.em (I 62 5 = x) with c1 | c1
  · rw [if_pos c1]
    refine Go.of_run (Ev.mono _) 2 _ ?_
    refine ⟨Nat.le_of_ble_eq_true rfl, (hyp.1 c1)⟩
  · rw [if_neg c1]
    refine Go.of_run (Ev.mono _) 3 _ ?_
    refine ⟨Nat.le_of_ble_eq_true rfl, (hyp.2 c1)⟩
set_option maxRecDepth 20000 in
theorem exp_12 {d : Nat} {x : Int32} {I : Nat → Nat → Int32} {J : Nat → Nat → Int64} {T : Nat → Nat → Nat} {Q : Option Value → Mem → Prop} (hyp : Q none (SH, mkM I J T)) : Go none aM (Ev mt aM (d + 1)) mX3_expect Q (12, [some (.ref 62), some (.int x)], [], (SH, mkM I J T), 0, 0) := by
  refine Go.of_run (Ev.mono _) 2 _ ?_
  refine ⟨trivial, ?_⟩
  show Q none (SH, mkM I J T)
  exact hyp
set_option maxRecDepth 20000 in
theorem exp_20 {d : Nat} {x : Int32} {I : Nat → Nat → Int32} {J : Nat → Nat → Int64} {T : Nat → Nat → Nat} {Q : Option Value → Mem → Prop} (hyp : Q none (SH, mkM I J T)) : Go none aM (Ev mt aM (d + 1)) mX3_expect Q (20, [some (.ref 62), some (.int x)], [], (SH, mkM I J T), 0, 0) := by
  refine Go.of_run (Ev.mono _) 1 _ ?_
  refine ⟨trivial, ?_⟩
  show Q none (SH, mkM I J T)
  exact hyp
set_option maxRecDepth 20000 in
theorem ent_0 {d : Nat} {I : Nat → Nat → Int32} {J : Nat → Nat → Int64} {T : Nat → Nat → Nat} {Q : Option Value → Mem → Prop} (hyp : ((I 62 6 < (6 : Int32) → Ev mt aM (d + 1) 34 [.ref 62] (SH, mkM (si I 62 6 ((I 62 6) + (1 : Int32))) J T) (fun r m1 => Go none aM (Ev mt aM (d + 1)) mX3_enter Q (31, [some (.ref 62)], r.toList ++ [], m1, 0, 0))) ∧ ((¬ (I 62 6 < (6 : Int32))) → Ev mt aM (d + 1) 35 [.ref 62, .int (5 : Int32)] (SH, mkM I J T) (fun r m1 => Go none aM (Ev mt aM (d + 1)) mX3_enter Q (14, [some (.ref 62)], r.toList ++ [], m1, 0, 0))))) : Go none aM (Ev mt aM (d + 1)) mX3_enter Q (0, [some (.ref 62)], [], (SH, mkM I J T), 0, 0) := by
  refine Go.of_run (Ev.mono _) 4 _ ?_
  show Go none aM (Ev mt aM (d + 1)) mX3_enter Q (if I 62 6 < (6 : Int32) then 17 else 9, [some (.ref 62)], [], (SH, mkM I J T), 0, 0)
  rcases Decidable.em (I 62 6 < (6 : Int32)) with c1 | c1
  · rw [if_pos c1]
    refine Go.of_run (Ev.mono _) 6 _ ?_
    refine go_si rfl ?_
    show Go none aM (Ev mt aM (d + 1)) mX3_enter Q (27, [some (.ref 62)], [], (SH, mkM (si I 62 6 ((I 62 6) + (1 : Int32))) J T), 0, 0)
    refine Go.of_run (Ev.mono _) 2 _ ?_
    refine ⟨Nat.le_of_ble_eq_true rfl, (hyp.1 c1)⟩
  · rw [if_neg c1]
    refine Go.of_run (Ev.mono _) 3 _ ?_
    refine ⟨Nat.le_of_ble_eq_true rfl, (hyp.2 c1)⟩
set_option maxRecDepth 20000 in
theorem ent_14 {d : Nat} {I : Nat → Nat → Int32} {J : Nat → Nat → Int64} {T : Nat → Nat → Nat} {Q : Option Value → Mem → Prop} (hyp : Q none (SH, mkM I J T)) : Go none aM (Ev mt aM (d + 1)) mX3_enter Q (14, [some (.ref 62)], [], (SH, mkM I J T), 0, 0) := by
  refine Go.of_run (Ev.mono _) 2 _ ?_
  refine ⟨trivial, ?_⟩
  show Q none (SH, mkM I J T)
  exact hyp
set_option maxRecDepth 20000 in
theorem ent_31 {d : Nat} {I : Nat → Nat → Int32} {J : Nat → Nat → Int64} {T : Nat → Nat → Nat} {Q : Option Value → Mem → Prop} (hyp : Q none (SH, mkM I J T)) : Go none aM (Ev mt aM (d + 1)) mX3_enter Q (31, [some (.ref 62)], [], (SH, mkM I J T), 0, 0) := by
  refine Go.of_run (Ev.mono _) 1 _ ?_
  refine ⟨trivial, ?_⟩
  show Q none (SH, mkM I J T)
  exact hyp
set_option maxRecDepth 20000 in
theorem fac_0 {d : Nat} {I : Nat → Nat → Int32} {J : Nat → Nat → Int64} {T : Nat → Nat → Nat} {Q : Option Value → Mem → Prop} (hyp : ((I 62 5 = (91 : Int32) → Ev mt aM (d + 7) 38 [.ref 62] (SH, mkM I J T) (fun r m1 => Go none aM (Ev mt aM (d + 7)) mX3_factor Q (13, [some (.ref 62)], r.toList ++ [], m1, 0, 0))) ∧ ((¬ (I 62 5 = (91 : Int32))) → ((isoF2 (I 62 5) = 0 → ((isoF3 (I 62 5) = 0 → Ev mt aM (d + 7) 35 [.ref 62, .int (1 : Int32)] (SH, mkM I J T) (fun r m1 => Go none aM (Ev mt aM (d + 7)) mX3_factor Q (101, [some (.ref 62)], r.toList ++ [], m1, 0, 0))) ∧ ((¬ (isoF3 (I 62 5) = 0)) → (TX (T 62 0) ∧ Ev mt aM (d + 7) 109 [.ref (T 62 0), .int (1 : Int32), .int (ixB 3 16 (((I 62 5).toUInt32 % 65536).toInt32))] (SH, mkM I J T) (fun r m1 => Go none aM (Ev mt aM (d + 7)) mX3_factor Q (88, [some (.ref 62)], r.toList ++ [], m1, 0, 0)))))) ∧ ((¬ (isoF2 (I 62 5) = 0)) → Ev mt aM (d + 7) 47 [.ref 62] (SH, mkM I J T) (fun r m1 => Go none aM (Ev mt aM (d + 7)) mX3_factor Q (54, [some (.ref 62)], r.toList ++ [.int (0 : Int32), .ref (T 62 0)], m1, 0, 0))))))) : Go none aM (Ev mt aM (d + 7)) mX3_factor Q (0, [some (.ref 62)], [], (SH, mkM I J T), 0, 0) := by
  refine Go.of_run (Ev.mono _) 4 _ ?_
  show Go none aM (Ev mt aM (d + 7)) mX3_factor Q (if I 62 5 = (91 : Int32) then 9 else 36, [some (.ref 62)], [], (SH, mkM I J T), 0, 0)
  rcases Decidable.em (I 62 5 = (91 : Int32)) with c1 | c1
  · rw [if_pos c1]
    refine Go.of_run (Ev.mono _) 2 _ ?_
    refine ⟨Nat.le_of_ble_eq_true rfl, (hyp.1 c1)⟩
  · rw [if_neg c1]
    refine Go.of_run (Ev.mono _) 3 _ ?_
    refine ⟨Nat.le_of_ble_eq_true rfl, ev_iso2 ?_⟩
    show Go none aM (Ev mt aM (d + 7)) mX3_factor Q (42, [some (.ref 62)], [.int (isoF2 (I 62 5))], (SH, mkM I J T), 0, 0)
    refine Go.of_run (Ev.mono _) 1 _ ?_
    show Go none aM (Ev mt aM (d + 7)) mX3_factor Q (if isoF2 (I 62 5) = 0 then 61 else 45, [some (.ref 62)], [], (SH, mkM I J T), 0, 0)
    rcases Decidable.em (isoF2 (I 62 5) = 0) with c2 | c2
    · rw [if_pos c2]
      refine Go.of_run (Ev.mono _) 3 _ ?_
      refine ⟨Nat.le_of_ble_eq_true rfl, ev_iso3 ?_⟩
      show Go none aM (Ev mt aM (d + 7)) mX3_factor Q (67, [some (.ref 62)], [.int (isoF3 (I 62 5))], (SH, mkM I J T), 0, 0)
      refine Go.of_run (Ev.mono _) 1 _ ?_
      show Go none aM (Ev mt aM (d + 7)) mX3_factor Q (if isoF3 (I 62 5) = 0 then 96 else 70, [some (.ref 62)], [], (SH, mkM I J T), 0, 0)
      rcases Decidable.em (isoF3 (I 62 5) = 0) with c3 | c3
      · rw [if_pos c3]
        refine Go.of_run (Ev.mono _) 3 _ ?_
        refine ⟨Nat.le_of_ble_eq_true rfl, (((hyp.2 c1).1 c2).1 c3)⟩
      · rw [if_neg c3]
        refine Go.of_run (Ev.mono _) 8 _ ?_
        refine ⟨Nat.le_of_ble_eq_true rfl, ev_ixe3 ?_⟩
        show Go none aM (Ev mt aM (d + 7)) mX3_factor Q (85, [some (.ref 62)], [.int (ixB 3 16 (((I 62 5).toUInt32 % 65536).toInt32)), .int (1 : Int32), .ref (T 62 0)], (SH, mkM I J T), 0, 0)
        refine go_txV (Ev.mono _) (((hyp.2 c1).1 c2).2 c3).1 rfl rfl rfl rfl ((((hyp.2 c1).1 c2).2 c3).2)
    · rw [if_neg c2]
      refine Go.of_run (Ev.mono _) 5 _ ?_
      refine ⟨Nat.le_of_ble_eq_true rfl, ((hyp.2 c1).2 c2)⟩
set_option maxRecDepth 20000 in
theorem fac_13 {d : Nat} {I : Nat → Nat → Int32} {J : Nat → Nat → Int64} {T : Nat → Nat → Nat} {Q : Option Value → Mem → Prop} (hyp : Ev mt aM (d + 7) 44 [.ref 62] (SH, mkM I J T) (fun r m1 => Go none aM (Ev mt aM (d + 7)) mX3_factor Q (17, [some (.ref 62)], r.toList ++ [], m1, 0, 0))) : Go none aM (Ev mt aM (d + 7)) mX3_factor Q (13, [some (.ref 62)], [], (SH, mkM I J T), 0, 0) := by
  refine Go.of_run (Ev.mono _) 2 _ ?_
  refine ⟨Nat.le_of_ble_eq_true rfl, hyp⟩
set_option maxRecDepth 20000 in
theorem fac_17 {d : Nat} {I : Nat → Nat → Int32} {J : Nat → Nat → Int64} {T : Nat → Nat → Nat} {Q : Option Value → Mem → Prop} (hyp : Ev mt aM (d + 7) 37 [.ref 62, .int (93 : Int32)] (SH, mkM I J T) (fun r m1 => Go none aM (Ev mt aM (d + 7)) mX3_factor Q (23, [some (.ref 62)], r.toList ++ [], m1, 0, 0))) : Go none aM (Ev mt aM (d + 7)) mX3_factor Q (17, [some (.ref 62)], [], (SH, mkM I J T), 0, 0) := by
  refine Go.of_run (Ev.mono _) 3 _ ?_
  refine ⟨Nat.le_of_ble_eq_true rfl, hyp⟩
set_option maxRecDepth 20000 in
theorem fac_23 {d : Nat} {I : Nat → Nat → Int32} {J : Nat → Nat → Int64} {T : Nat → Nat → Nat} {Q : Option Value → Mem → Prop} (hyp : Q none (SH, mkM (si I 62 6 ((I 62 6) - (1 : Int32))) J T)) : Go none aM (Ev mt aM (d + 7)) mX3_factor Q (23, [some (.ref 62)], [], (SH, mkM I J T), 0, 0) := by
  refine Go.of_run (Ev.mono _) 6 _ ?_
  refine go_si rfl ?_
  show Go none aM (Ev mt aM (d + 7)) mX3_factor Q (33, [some (.ref 62)], [], (SH, mkM (si I 62 6 ((I 62 6) - (1 : Int32))) J T), 0, 0)
  refine Go.of_run (Ev.mono _) 2 _ ?_
  refine ⟨trivial, ?_⟩
  show Q none (SH, mkM (si I 62 6 ((I 62 6) - (1 : Int32))) J T)
  exact hyp
set_option maxRecDepth 20000 in
theorem fac_54 {d : Nat} {v : Int32} {t : Nat} {I : Nat → Nat → Int32} {J : Nat → Nat → Int64} {T : Nat → Nat → Nat} {Q : Option Value → Mem → Prop} (hyp : (TX t ∧ Ev mt aM (d + 7) 109 [.ref t, .int (0 : Int32), .int v] (SH, mkM I J T) (fun r m1 => Go none aM (Ev mt aM (d + 7)) mX3_factor Q (57, [some (.ref 62)], r.toList ++ [], m1, 0, 0)))) : Go none aM (Ev mt aM (d + 7)) mX3_factor Q (54, [some (.ref 62)], [.int v, .int (0 : Int32), .ref t], (SH, mkM I J T), 0, 0) := by
  refine go_txV (Ev.mono _) hyp.1 rfl rfl rfl rfl (hyp.2)
set_option maxRecDepth 20000 in
theorem fac_57 {d : Nat} {v : Int32} {I : Nat → Nat → Int32} {J : Nat → Nat → Int64} {T : Nat → Nat → Nat} {Q : Option Value → Mem → Prop} (hyp : Q none (SH, mkM I J T)) : Go none aM (Ev mt aM (d + 7)) mX3_factor Q (57, [some (.ref 62)], [.int v], (SH, mkM I J T), 0, 0) := by
  refine Go.of_run (Ev.mono _) 3 _ ?_
  refine ⟨trivial, ?_⟩
  show Q none (SH, mkM I J T)
  exact hyp
set_option maxRecDepth 20000 in
theorem fac_88 {d : Nat} {v : Int32} {I : Nat → Nat → Int32} {J : Nat → Nat → Int64} {T : Nat → Nat → Nat} {Q : Option Value → Mem → Prop} (hyp : Ev mt aM (d + 7) 34 [.ref 62] (SH, mkM I J T) (fun r m1 => Go none aM (Ev mt aM (d + 7)) mX3_factor Q (93, [some (.ref 62)], r.toList ++ [], m1, 0, 0))) : Go none aM (Ev mt aM (d + 7)) mX3_factor Q (88, [some (.ref 62)], [.int v], (SH, mkM I J T), 0, 0) := by
  refine Go.of_run (Ev.mono _) 3 _ ?_
  refine ⟨Nat.le_of_ble_eq_true rfl, hyp⟩
set_option maxRecDepth 20000 in
theorem fac_93 {d : Nat} {I : Nat → Nat → Int32} {J : Nat → Nat → Int64} {T : Nat → Nat → Nat} {Q : Option Value → Mem → Prop} (hyp : Q none (SH, mkM I J T)) : Go none aM (Ev mt aM (d + 7)) mX3_factor Q (93, [some (.ref 62)], [], (SH, mkM I J T), 0, 0) := by
  refine Go.of_run (Ev.mono _) 2 _ ?_
  refine ⟨trivial, ?_⟩
  show Q none (SH, mkM I J T)
  exact hyp
set_option maxRecDepth 20000 in
theorem fac_101 {d : Nat} {I : Nat → Nat → Int32} {J : Nat → Nat → Int64} {T : Nat → Nat → Nat} {Q : Option Value → Mem → Prop} (hyp : Q none (SH, mkM I J T)) : Go none aM (Ev mt aM (d + 7)) mX3_factor Q (101, [some (.ref 62)], [], (SH, mkM I J T), 0, 0) := by
  refine Go.of_run (Ev.mono _) 1 _ ?_
  refine ⟨trivial, ?_⟩
  show Q none (SH, mkM I J T)
  exact hyp
set_option maxRecDepth 20000 in
theorem num_0 {d : Nat} {I : Nat → Nat → Int32} {J : Nat → Nat → Int64} {T : Nat → Nat → Nat} {Q : Option Value → Mem → Prop} (hyp : Go none aM (Ev mt aM (d + 7)) mX3_number Q (4, [some (.ref 62), some (.int (0 : Int32)), some (.int (0 : Int32))], [], (SH, mkM I J T), 0, 0)) : Go none aM (Ev mt aM (d + 7)) mX3_number Q (0, [some (.ref 62), none, none], [], (SH, mkM I J T), 0, 0) := by
  refine Go.of_run (Ev.mono _) 4 _ ?_
  exact hyp
set_option maxRecDepth 20000 in
theorem num_4 {d : Nat} {v k : Int32} {I : Nat → Nat → Int32} {J : Nat → Nat → Int64} {T : Nat → Nat → Nat} {Q : Option Value → Mem → Prop} (hyp : (((6 : Int32) ≤ k → Q (some (.int v)) (SH, mkM I J T)) ∧ ((¬ ((6 : Int32) ≤ k)) → ((isoF2 (I 62 5) = 0 → Q (some (.int v)) (SH, mkM I J T)) ∧ ((¬ (isoF2 (I 62 5) = 0)) → ((k = (5 : Int32) → Ev mt aM (d + 7) 35 [.ref 62, .int (2 : Int32)] (SH, mkM I J T) (fun r m1 => Go none aM (Ev mt aM (d + 7)) mX3_number Q (29, [some (.ref 62), some (.int v), some (.int k)], r.toList ++ [], m1, 0, 0))) ∧ ((¬ (k = (5 : Int32))) → Ev mt aM (d + 7) 34 [.ref 62] (SH, mkM I J T) (fun r m1 => Go none aM (Ev mt aM (d + 7)) mX3_number Q (49, [some (.ref 62), some (.int ((((10 : Int32) * v) + (I 62 5)) - (48 : Int32))), some (.int k)], r.toList ++ [], m1, 0, 0))))))))) : Go none aM (Ev mt aM (d + 7)) mX3_number Q (4, [some (.ref 62), some (.int v), some (.int k)], [], (SH, mkM I J T), 0, 0) := by
  refine Go.of_run (Ev.mono _) 3 _ ?_
  show Go none aM (Ev mt aM (d + 7)) mX3_number Q (if (6 : Int32) ≤ k then 55 else 10, [some (.ref 62), some (.int v), some (.int k)], [], (SH, mkM I J T), 0, 0)
  rcases Decidable.em ((6 : Int32) ≤ k) with c1 | c1
  · rw [if_pos c1]
    refine Go.of_run (Ev.mono _) 2 _ ?_
    refine ⟨trivial, ?_⟩
    show Q (some (.int v)) (SH, mkM I J T)
    exact (hyp.1 c1)
  · rw [if_neg c1]
    refine Go.of_run (Ev.mono _) 3 _ ?_
    refine ⟨Nat.le_of_ble_eq_true rfl, ev_iso2 ?_⟩
    show Go none aM (Ev mt aM (d + 7)) mX3_number Q (16, [some (.ref 62), some (.int v), some (.int k)], [.int (isoF2 (I 62 5))], (SH, mkM I J T), 0, 0)
    refine Go.of_run (Ev.mono _) 1 _ ?_
    show Go none aM (Ev mt aM (d + 7)) mX3_number Q (if isoF2 (I 62 5) = 0 then 55 else 19, [some (.ref 62), some (.int v), some (.int k)], [], (SH, mkM I J T), 0, 0)
    rcases Decidable.em (isoF2 (I 62 5) = 0) with c2 | c2
    · rw [if_pos c2]
      refine Go.of_run (Ev.mono _) 2 _ ?_
      refine ⟨trivial, ?_⟩
      show Q (some (.int v)) (SH, mkM I J T)
      exact ((hyp.2 c1).1 c2)
    · rw [if_neg c2]
      refine Go.of_run (Ev.mono _) 3 _ ?_
      show Go none aM (Ev mt aM (d + 7)) mX3_number Q (if k = (5 : Int32) then 24 else 32, [some (.ref 62), some (.int v), some (.int k)], [], (SH, mkM I J T), 0, 0)
      rcases Decidable.em (k = (5 : Int32)) with c3 | c3
      · rw [if_pos c3]
        refine Go.of_run (Ev.mono _) 3 _ ?_
        refine ⟨Nat.le_of_ble_eq_true rfl, (((hyp.2 c1).2 c2).1 c3)⟩
      · rw [if_neg c3]
        refine Go.of_run (Ev.mono _) 11 _ ?_
        refine ⟨Nat.le_of_ble_eq_true rfl, (((hyp.2 c1).2 c2).2 c3)⟩
set_option maxRecDepth 20000 in
theorem num_29 {d : Nat} {v k : Int32} {I : Nat → Nat → Int32} {J : Nat → Nat → Int64} {T : Nat → Nat → Nat} {Q : Option Value → Mem → Prop} (hyp : Go none aM (Ev mt aM (d + 7)) mX3_number Q (4, [some (.ref 62), some (.int v), some (.int (k + 1))], [], (SH, mkM I J T), 0, 0)) : Go none aM (Ev mt aM (d + 7)) mX3_number Q (29, [some (.ref 62), some (.int v), some (.int k)], [], (SH, mkM I J T), 0, 0) := by
  refine Go.of_run (Ev.mono _) 3 _ ?_
  exact hyp
set_option maxRecDepth 20000 in
theorem num_49 {d : Nat} {v k : Int32} {I : Nat → Nat → Int32} {J : Nat → Nat → Int64} {T : Nat → Nat → Nat} {Q : Option Value → Mem → Prop} (hyp : Go none aM (Ev mt aM (d + 7)) mX3_number Q (4, [some (.ref 62), some (.int v), some (.int (k + 1))], [], (SH, mkM I J T), 0, 0)) : Go none aM (Ev mt aM (d + 7)) mX3_number Q (49, [some (.ref 62), some (.int v), some (.int k)], [], (SH, mkM I J T), 0, 0) := by
  refine Go.of_run (Ev.mono _) 2 _ ?_
  exact hyp
set_option maxRecDepth 20000 in
theorem trm_0 {d : Nat} {I : Nat → Nat → Int32} {J : Nat → Nat → Int64} {T : Nat → Nat → Nat} {Q : Option Value → Mem → Prop} (hyp : Ev mt aM (d + 7) 46 [.ref 62] (SH, mkM I J T) (fun r m1 => Go none aM (Ev mt aM (d + 7)) mX3_term Q (4, [some (.ref 62), none, none], r.toList ++ [], m1, 0, 0))) : Go none aM (Ev mt aM (d + 7)) mX3_term Q (0, [some (.ref 62), none, none], [], (SH, mkM I J T), 0, 0) := by
  refine Go.of_run (Ev.mono _) 2 _ ?_
  refine ⟨Nat.le_of_ble_eq_true rfl, hyp⟩
set_option maxRecDepth 20000 in
theorem trm_4 {d : Nat} {I : Nat → Nat → Int32} {J : Nat → Nat → Int64} {T : Nat → Nat → Nat} {Q : Option Value → Mem → Prop} (hyp : Go none aM (Ev mt aM (d + 7)) mX3_term Q (6, [some (.ref 62), some (.int (0 : Int32)), none], [], (SH, mkM I J T), 0, 0)) : Go none aM (Ev mt aM (d + 7)) mX3_term Q (4, [some (.ref 62), none, none], [], (SH, mkM I J T), 0, 0) := by
  refine Go.of_run (Ev.mono _) 2 _ ?_
  exact hyp
def w1_trm_6 (I : Nat → Nat → Int32) : Int32 := if I 62 5 = (47 : Int32) then (5 : Int32) else (6 : Int32)
def w2_trm_6 (I : Nat → Nat → Int32) : Int32 := if I 62 5 = (42 : Int32) then (4 : Int32) else w1_trm_6 I
set_option maxRecDepth 20000 in
theorem trm_6 {d : Nat} {k : Int32} {I : Nat → Nat → Int32} {J : Nat → Nat → Int64} {T : Nat → Nat → Nat} {Q : Option Value → Mem → Prop} (hyp : ((I 62 3 ≤ k → Q none (SH, mkM I J T)) ∧ ((¬ (I 62 3 ≤ k)) → ((isoF6 (I 62 5) = 0 → Q none (SH, mkM I J T)) ∧ ((¬ (isoF6 (I 62 5) = 0)) → Ev mt aM (d + 7) 34 [.ref 62] (SH, mkM I J T) (fun r m1 => Go none aM (Ev mt aM (d + 7)) mX3_term Q (56, [some (.ref 62), some (.int k), some (.int (w2_trm_6 I))], r.toList ++ [], m1, 0, 0))))))) : Go none aM (Ev mt aM (d + 7)) mX3_term Q (6, [some (.ref 62), some (.int k), none], [], (SH, mkM I J T), 0, 0) := by
  refine Go.of_run (Ev.mono _) 4 _ ?_
  show Go none aM (Ev mt aM (d + 7)) mX3_term Q (if I 62 3 ≤ k then 76 else 14, [some (.ref 62), some (.int k), none], [], (SH, mkM I J T), 0, 0)
  rcases Decidable.em (I 62 3 ≤ k) with c1 | c1
  · rw [if_pos c1]
    refine Go.of_run (Ev.mono _) 1 _ ?_
    refine ⟨trivial, ?_⟩
    show Q none (SH, mkM I J T)
    exact (hyp.1 c1)
  · rw [if_neg c1]
    refine Go.of_run (Ev.mono _) 3 _ ?_
    refine ⟨Nat.le_of_ble_eq_true rfl, ev_iso6 ?_⟩
    show Go none aM (Ev mt aM (d + 7)) mX3_term Q (20, [some (.ref 62), some (.int k), none], [.int (isoF6 (I 62 5))], (SH, mkM I J T), 0, 0)
    refine Go.of_run (Ev.mono _) 1 _ ?_
    show Go none aM (Ev mt aM (d + 7)) mX3_term Q (if isoF6 (I 62 5) = 0 then 76 else 23, [some (.ref 62), some (.int k), none], [], (SH, mkM I J T), 0, 0)
    rcases Decidable.em (isoF6 (I 62 5) = 0) with c2 | c2
    · rw [if_pos c2]
      refine Go.of_run (Ev.mono _) 1 _ ?_
      refine ⟨trivial, ?_⟩
      show Q none (SH, mkM I J T)
      exact ((hyp.2 c1).1 c2)
    · rw [if_neg c2]
      refine Go.of_run (Ev.mono _) 4 _ ?_
      show Go none aM (Ev mt aM (d + 7)) mX3_term Q (if I 62 5 = (42 : Int32) then 32 else 36, [some (.ref 62), some (.int k), none], [], (SH, mkM I J T), 0, 0)
      have G4 : Go none aM (Ev mt aM (d + 7)) mX3_term Q (51, [some (.ref 62), some (.int k), none], [.int (w2_trm_6 I)], (SH, mkM I J T), 0, 0) := by
        refine Go.of_run (Ev.mono _) 3 _ ?_
        refine ⟨Nat.le_of_ble_eq_true rfl, ((hyp.2 c1).2 c2)⟩
      rcases Decidable.em (I 62 5 = (42 : Int32)) with c3 | c3
      · rw [if_pos c3]
        refine Go.of_run (Ev.mono _) 2 _ ?_
        have e5 : (w2_trm_6 I) = (4 : Int32) := if_pos c3
        rw [e5] at G4
        exact G4
      · rw [if_neg c3]
        refine Go.of_run (Ev.mono _) 4 _ ?_
        show Go none aM (Ev mt aM (d + 7)) mX3_term Q (if I 62 5 = (47 : Int32) then 45 else 49, [some (.ref 62), some (.int k), none], [], (SH, mkM I J T), 0, 0)
        have G7 : Go none aM (Ev mt aM (d + 7)) mX3_term Q (51, [some (.ref 62), some (.int k), none], [.int (w1_trm_6 I)], (SH, mkM I J T), 0, 0) := by
          have e8 : (w2_trm_6 I) = w1_trm_6 I := if_neg c3
          rw [e8] at G4
          exact G4
        rcases Decidable.em (I 62 5 = (47 : Int32)) with c6 | c6
        · rw [if_pos c6]
          refine Go.of_run (Ev.mono _) 2 _ ?_
          have e9 : (w1_trm_6 I) = (5 : Int32) := if_pos c6
          rw [e9] at G7
          exact G7
        · rw [if_neg c6]
          refine Go.of_run (Ev.mono _) 1 _ ?_
          have e10 : (w1_trm_6 I) = (6 : Int32) := if_neg c6
          rw [e10] at G7
          exact G7
set_option maxRecDepth 20000 in
theorem trm_56 {d : Nat} {k q : Int32} {I : Nat → Nat → Int32} {J : Nat → Nat → Int64} {T : Nat → Nat → Nat} {Q : Option Value → Mem → Prop} (hyp : Ev mt aM (d + 7) 46 [.ref 62] (SH, mkM I J T) (fun r m1 => Go none aM (Ev mt aM (d + 7)) mX3_term Q (60, [some (.ref 62), some (.int k), some (.int q)], r.toList ++ [], m1, 0, 0))) : Go none aM (Ev mt aM (d + 7)) mX3_term Q (56, [some (.ref 62), some (.int k), some (.int q)], [], (SH, mkM I J T), 0, 0) := by
  refine Go.of_run (Ev.mono _) 2 _ ?_
  refine ⟨Nat.le_of_ble_eq_true rfl, hyp⟩
set_option maxRecDepth 20000 in
theorem trm_60 {d : Nat} {k q : Int32} {I : Nat → Nat → Int32} {J : Nat → Nat → Int64} {T : Nat → Nat → Nat} {Q : Option Value → Mem → Prop} (hyp : (TX (T 62 0) ∧ Ev mt aM (d + 7) 109 [.ref (T 62 0), .int q, .int (0 : Int32)] (SH, mkM I J T) (fun r m1 => Go none aM (Ev mt aM (d + 7)) mX3_term Q (69, [some (.ref 62), some (.int k), some (.int q)], r.toList ++ [], m1, 0, 0)))) : Go none aM (Ev mt aM (d + 7)) mX3_term Q (60, [some (.ref 62), some (.int k), some (.int q)], [], (SH, mkM I J T), 0, 0) := by
  refine Go.of_run (Ev.mono _) 4 _ ?_
  show Go none aM (Ev mt aM (d + 7)) mX3_term Q (66, [some (.ref 62), some (.int k), some (.int q)], [.int (0 : Int32), .int q, .ref (T 62 0)], (SH, mkM I J T), 0, 0)
  refine go_txV (Ev.mono _) hyp.1 rfl rfl rfl rfl (hyp.2)
set_option maxRecDepth 20000 in
theorem trm_69 {d : Nat} {k q v : Int32} {I : Nat → Nat → Int32} {J : Nat → Nat → Int64} {T : Nat → Nat → Nat} {Q : Option Value → Mem → Prop} (hyp : Go none aM (Ev mt aM (d + 7)) mX3_term Q (6, [some (.ref 62), some (.int (k + 1)), none], [], (SH, mkM I J T), 0, 0)) : Go none aM (Ev mt aM (d + 7)) mX3_term Q (69, [some (.ref 62), some (.int k), some (.int q)], [.int v], (SH, mkM I J T), 0, 0) := by
  refine Go.of_run (Ev.mono _) 3 _ ?_
  exact Go.weak (Ev.mono _) (LLe.cons (LLe.cons (LLe.drop LLe.nil))) hyp
set_option maxRecDepth 20000 in
theorem smm_0 {d : Nat} {I : Nat → Nat → Int32} {J : Nat → Nat → Int64} {T : Nat → Nat → Nat} {Q : Option Value → Mem → Prop} (hyp : Ev mt aM (d + 7) 45 [.ref 62] (SH, mkM I J T) (fun r m1 => Go none aM (Ev mt aM (d + 7)) mX3_sum Q (4, [some (.ref 62), none, none], r.toList ++ [], m1, 0, 0))) : Go none aM (Ev mt aM (d + 7)) mX3_sum Q (0, [some (.ref 62), none, none], [], (SH, mkM I J T), 0, 0) := by
  refine Go.of_run (Ev.mono _) 2 _ ?_
  refine ⟨Nat.le_of_ble_eq_true rfl, hyp⟩
set_option maxRecDepth 20000 in
theorem smm_4 {d : Nat} {I : Nat → Nat → Int32} {J : Nat → Nat → Int64} {T : Nat → Nat → Nat} {Q : Option Value → Mem → Prop} (hyp : Go none aM (Ev mt aM (d + 7)) mX3_sum Q (6, [some (.ref 62), some (.int (0 : Int32)), none], [], (SH, mkM I J T), 0, 0)) : Go none aM (Ev mt aM (d + 7)) mX3_sum Q (4, [some (.ref 62), none, none], [], (SH, mkM I J T), 0, 0) := by
  refine Go.of_run (Ev.mono _) 2 _ ?_
  exact hyp
def w1_smm_6 (I : Nat → Nat → Int32) : Int32 := if I 62 5 = (43 : Int32) then (2 : Int32) else (3 : Int32)
set_option maxRecDepth 20000 in
theorem smm_6 {d : Nat} {k : Int32} {I : Nat → Nat → Int32} {J : Nat → Nat → Int64} {T : Nat → Nat → Nat} {Q : Option Value → Mem → Prop} (hyp : ((I 62 3 ≤ k → Q none (SH, mkM I J T)) ∧ ((¬ (I 62 3 ≤ k)) → ((isoF5 (I 62 5) = 0 → Q none (SH, mkM I J T)) ∧ ((¬ (isoF5 (I 62 5) = 0)) → Ev mt aM (d + 7) 34 [.ref 62] (SH, mkM I J T) (fun r m1 => Go none aM (Ev mt aM (d + 7)) mX3_sum Q (42, [some (.ref 62), some (.int k), some (.int (w1_smm_6 I))], r.toList ++ [], m1, 0, 0))))))) : Go none aM (Ev mt aM (d + 7)) mX3_sum Q (6, [some (.ref 62), some (.int k), none], [], (SH, mkM I J T), 0, 0) := by
  refine Go.of_run (Ev.mono _) 4 _ ?_
  show Go none aM (Ev mt aM (d + 7)) mX3_sum Q (if I 62 3 ≤ k then 62 else 14, [some (.ref 62), some (.int k), none], [], (SH, mkM I J T), 0, 0)
  rcases Decidable.em (I 62 3 ≤ k) with c1 | c1
  · rw [if_pos c1]
    refine Go.of_run (Ev.mono _) 1 _ ?_
    refine ⟨trivial, ?_⟩
    show Q none (SH, mkM I J T)
    exact (hyp.1 c1)
  · rw [if_neg c1]
    refine Go.of_run (Ev.mono _) 3 _ ?_
    refine ⟨Nat.le_of_ble_eq_true rfl, ev_iso5 ?_⟩
    show Go none aM (Ev mt aM (d + 7)) mX3_sum Q (20, [some (.ref 62), some (.int k), none], [.int (isoF5 (I 62 5))], (SH, mkM I J T), 0, 0)
    refine Go.of_run (Ev.mono _) 1 _ ?_
    show Go none aM (Ev mt aM (d + 7)) mX3_sum Q (if isoF5 (I 62 5) = 0 then 62 else 23, [some (.ref 62), some (.int k), none], [], (SH, mkM I J T), 0, 0)
    rcases Decidable.em (isoF5 (I 62 5) = 0) with c2 | c2
    · rw [if_pos c2]
      refine Go.of_run (Ev.mono _) 1 _ ?_
      refine ⟨trivial, ?_⟩
      show Q none (SH, mkM I J T)
      exact ((hyp.2 c1).1 c2)
    · rw [if_neg c2]
      refine Go.of_run (Ev.mono _) 4 _ ?_
      show Go none aM (Ev mt aM (d + 7)) mX3_sum Q (if I 62 5 = (43 : Int32) then 32 else 36, [some (.ref 62), some (.int k), none], [], (SH, mkM I J T), 0, 0)
      have G4 : Go none aM (Ev mt aM (d + 7)) mX3_sum Q (37, [some (.ref 62), some (.int k), none], [.int (w1_smm_6 I)], (SH, mkM I J T), 0, 0) := by
        refine Go.of_run (Ev.mono _) 3 _ ?_
        refine ⟨Nat.le_of_ble_eq_true rfl, ((hyp.2 c1).2 c2)⟩
      rcases Decidable.em (I 62 5 = (43 : Int32)) with c3 | c3
      · rw [if_pos c3]
        refine Go.of_run (Ev.mono _) 2 _ ?_
        have e5 : (w1_smm_6 I) = (2 : Int32) := if_pos c3
        rw [e5] at G4
        exact G4
      · rw [if_neg c3]
        refine Go.of_run (Ev.mono _) 1 _ ?_
        have e6 : (w1_smm_6 I) = (3 : Int32) := if_neg c3
        rw [e6] at G4
        exact G4
set_option maxRecDepth 20000 in
theorem smm_42 {d : Nat} {k q : Int32} {I : Nat → Nat → Int32} {J : Nat → Nat → Int64} {T : Nat → Nat → Nat} {Q : Option Value → Mem → Prop} (hyp : Ev mt aM (d + 7) 45 [.ref 62] (SH, mkM I J T) (fun r m1 => Go none aM (Ev mt aM (d + 7)) mX3_sum Q (46, [some (.ref 62), some (.int k), some (.int q)], r.toList ++ [], m1, 0, 0))) : Go none aM (Ev mt aM (d + 7)) mX3_sum Q (42, [some (.ref 62), some (.int k), some (.int q)], [], (SH, mkM I J T), 0, 0) := by
  refine Go.of_run (Ev.mono _) 2 _ ?_
  refine ⟨Nat.le_of_ble_eq_true rfl, hyp⟩
set_option maxRecDepth 20000 in
theorem smm_46 {d : Nat} {k q : Int32} {I : Nat → Nat → Int32} {J : Nat → Nat → Int64} {T : Nat → Nat → Nat} {Q : Option Value → Mem → Prop} (hyp : (TX (T 62 0) ∧ Ev mt aM (d + 7) 109 [.ref (T 62 0), .int q, .int (0 : Int32)] (SH, mkM I J T) (fun r m1 => Go none aM (Ev mt aM (d + 7)) mX3_sum Q (55, [some (.ref 62), some (.int k), some (.int q)], r.toList ++ [], m1, 0, 0)))) : Go none aM (Ev mt aM (d + 7)) mX3_sum Q (46, [some (.ref 62), some (.int k), some (.int q)], [], (SH, mkM I J T), 0, 0) := by
  refine Go.of_run (Ev.mono _) 4 _ ?_
  show Go none aM (Ev mt aM (d + 7)) mX3_sum Q (52, [some (.ref 62), some (.int k), some (.int q)], [.int (0 : Int32), .int q, .ref (T 62 0)], (SH, mkM I J T), 0, 0)
  refine go_txV (Ev.mono _) hyp.1 rfl rfl rfl rfl (hyp.2)
set_option maxRecDepth 20000 in
theorem smm_55 {d : Nat} {k q v : Int32} {I : Nat → Nat → Int32} {J : Nat → Nat → Int64} {T : Nat → Nat → Nat} {Q : Option Value → Mem → Prop} (hyp : Go none aM (Ev mt aM (d + 7)) mX3_sum Q (6, [some (.ref 62), some (.int (k + 1)), none], [], (SH, mkM I J T), 0, 0)) : Go none aM (Ev mt aM (d + 7)) mX3_sum Q (55, [some (.ref 62), some (.int k), some (.int q)], [.int v], (SH, mkM I J T), 0, 0) := by
  refine Go.of_run (Ev.mono _) 3 _ ?_
  exact Go.weak (Ev.mono _) (LLe.cons (LLe.cons (LLe.drop LLe.nil))) hyp
set_option maxRecDepth 20000 in
theorem pce_0 {d : Nat} {I : Nat → Nat → Int32} {J : Nat → Nat → Int64} {T : Nat → Nat → Nat} {Q : Option Value → Mem → Prop} (hyp : ((I 62 5 = (40 : Int32) → Ev mt aM (d + 7) 40 [.ref 62] (SH, mkM I J T) (fun r m1 => Go none aM (Ev mt aM (d + 7)) mX3_piece Q (13, [some (.ref 62), none], r.toList ++ [], m1, 0, 0))) ∧ ((¬ (I 62 5 = (40 : Int32))) → ((I 62 5 = (33 : Int32) → Ev mt aM (d + 7) 38 [.ref 62] (SH, mkM I J T) (fun r m1 => Go none aM (Ev mt aM (d + 7)) mX3_piece Q (27, [some (.ref 62), none], r.toList ++ [], m1, 0, 0))) ∧ ((¬ (I 62 5 = (33 : Int32))) → Ev mt aM (d + 7) 44 [.ref 62] (SH, mkM I J T) (fun r m1 => Go none aM (Ev mt aM (d + 7)) mX3_piece Q (57, [some (.ref 62), none], r.toList ++ [], m1, 0, 0))))))) : Go none aM (Ev mt aM (d + 7)) mX3_piece Q (0, [some (.ref 62), none], [], (SH, mkM I J T), 0, 0) := by
  refine Go.of_run (Ev.mono _) 4 _ ?_
  show Go none aM (Ev mt aM (d + 7)) mX3_piece Q (if I 62 5 = (40 : Int32) then 9 else 14, [some (.ref 62), none], [], (SH, mkM I J T), 0, 0)
  rcases Decidable.em (I 62 5 = (40 : Int32)) with c1 | c1
  · rw [if_pos c1]
    refine Go.of_run (Ev.mono _) 2 _ ?_
    refine ⟨Nat.le_of_ble_eq_true rfl, (hyp.1 c1)⟩
  · rw [if_neg c1]
    refine Go.of_run (Ev.mono _) 4 _ ?_
    show Go none aM (Ev mt aM (d + 7)) mX3_piece Q (if I 62 5 = (33 : Int32) then 23 else 53, [some (.ref 62), none], [], (SH, mkM I J T), 0, 0)
    rcases Decidable.em (I 62 5 = (33 : Int32)) with c2 | c2
    · rw [if_pos c2]
      refine Go.of_run (Ev.mono _) 2 _ ?_
      refine ⟨Nat.le_of_ble_eq_true rfl, ((hyp.2 c1).1 c2)⟩
    · rw [if_neg c2]
      refine Go.of_run (Ev.mono _) 2 _ ?_
      refine ⟨Nat.le_of_ble_eq_true rfl, ((hyp.2 c1).2 c2)⟩
set_option maxRecDepth 20000 in
theorem pce_13 {d : Nat} {I : Nat → Nat → Int32} {J : Nat → Nat → Int64} {T : Nat → Nat → Nat} {Q : Option Value → Mem → Prop} (hyp : Q none (SH, mkM I J T)) : Go none aM (Ev mt aM (d + 7)) mX3_piece Q (13, [some (.ref 62), none], [], (SH, mkM I J T), 0, 0) := by
  refine Go.of_run (Ev.mono _) 1 _ ?_
  refine ⟨trivial, ?_⟩
  show Q none (SH, mkM I J T)
  exact hyp
set_option maxRecDepth 20000 in
theorem pce_27 {d : Nat} {I : Nat → Nat → Int32} {J : Nat → Nat → Int64} {T : Nat → Nat → Nat} {Q : Option Value → Mem → Prop} (hyp : Ev mt aM (d + 7) 43 [.ref 62] (SH, mkM I J T) (fun r m1 => Go none aM (Ev mt aM (d + 7)) mX3_piece Q (31, [some (.ref 62), none], r.toList ++ [], m1, 0, 0))) : Go none aM (Ev mt aM (d + 7)) mX3_piece Q (27, [some (.ref 62), none], [], (SH, mkM I J T), 0, 0) := by
  refine Go.of_run (Ev.mono _) 2 _ ?_
  refine ⟨Nat.le_of_ble_eq_true rfl, hyp⟩
set_option maxRecDepth 20000 in
theorem pce_31 {d : Nat} {I : Nat → Nat → Int32} {J : Nat → Nat → Int64} {T : Nat → Nat → Nat} {Q : Option Value → Mem → Prop} (hyp : (TX (T 62 0) ∧ Ev mt aM (d + 7) 109 [.ref (T 62 0), .int (10 : Int32), .int (0 : Int32)] (SH, mkM I J T) (fun r m1 => Go none aM (Ev mt aM (d + 7)) mX3_piece Q (41, [some (.ref 62), none], r.toList ++ [], m1, 0, 0)))) : Go none aM (Ev mt aM (d + 7)) mX3_piece Q (31, [some (.ref 62), none], [], (SH, mkM I J T), 0, 0) := by
  refine Go.of_run (Ev.mono _) 4 _ ?_
  show Go none aM (Ev mt aM (d + 7)) mX3_piece Q (38, [some (.ref 62), none], [.int (0 : Int32), .int (10 : Int32), .ref (T 62 0)], (SH, mkM I J T), 0, 0)
  refine go_txV (Ev.mono _) hyp.1 rfl rfl rfl rfl (hyp.2)
set_option maxRecDepth 20000 in
theorem pce_41 {d : Nat} {v : Int32} {I : Nat → Nat → Int32} {J : Nat → Nat → Int64} {T : Nat → Nat → Nat} {Q : Option Value → Mem → Prop} (hyp : Q none (SH, mkM (si I 62 6 ((I 62 6) - (1 : Int32))) J T)) : Go none aM (Ev mt aM (d + 7)) mX3_piece Q (41, [some (.ref 62), none], [.int v], (SH, mkM I J T), 0, 0) := by
  refine Go.of_run (Ev.mono _) 7 _ ?_
  refine go_si rfl ?_
  show Go none aM (Ev mt aM (d + 7)) mX3_piece Q (52, [some (.ref 62), none], [], (SH, mkM (si I 62 6 ((I 62 6) - (1 : Int32))) J T), 0, 0)
  refine Go.of_run (Ev.mono _) 1 _ ?_
  refine ⟨trivial, ?_⟩
  show Q none (SH, mkM (si I 62 6 ((I 62 6) - (1 : Int32))) J T)
  exact hyp
def w1_pce_57 (I : Nat → Nat → Int32) : Int32 := if I 62 5 = (62 : Int32) then (8 : Int32) else (9 : Int32)
def w2_pce_57 (I : Nat → Nat → Int32) : Int32 := if I 62 5 = (60 : Int32) then (7 : Int32) else w1_pce_57 I
set_option maxRecDepth 20000 in
theorem pce_57 {d : Nat} {I : Nat → Nat → Int32} {J : Nat → Nat → Int64} {T : Nat → Nat → Nat} {Q : Option Value → Mem → Prop} (hyp : ((isoF4 (I 62 5) = 0 → Ev mt aM (d + 7) 35 [.ref 62, .int (1 : Int32)] (SH, mkM I J T) (fun r m1 => Go none aM (Ev mt aM (d + 7)) mX3_piece Q (102, [some (.ref 62), some (.int (w2_pce_57 I))], r.toList ++ [], m1, 0, 0))) ∧ ((¬ (isoF4 (I 62 5) = 0)) → Ev mt aM (d + 7) 34 [.ref 62] (SH, mkM I J T) (fun r m1 => Go none aM (Ev mt aM (d + 7)) mX3_piece Q (107, [some (.ref 62), some (.int (w2_pce_57 I))], r.toList ++ [], m1, 0, 0))))) : Go none aM (Ev mt aM (d + 7)) mX3_piece Q (57, [some (.ref 62), none], [], (SH, mkM I J T), 0, 0) := by
  refine Go.of_run (Ev.mono _) 4 _ ?_
  show Go none aM (Ev mt aM (d + 7)) mX3_piece Q (if I 62 5 = (60 : Int32) then 66 else 71, [some (.ref 62), none], [], (SH, mkM I J T), 0, 0)
  have G2 : Go none aM (Ev mt aM (d + 7)) mX3_piece Q (87, [some (.ref 62), none], [.int (w2_pce_57 I)], (SH, mkM I J T), 0, 0) := by
    refine Go.of_run (Ev.mono _) 4 _ ?_
    refine ⟨Nat.le_of_ble_eq_true rfl, ev_iso4 ?_⟩
    show Go none aM (Ev mt aM (d + 7)) mX3_piece Q (94, [some (.ref 62), some (.int (w2_pce_57 I))], [.int (isoF4 (I 62 5))], (SH, mkM I J T), 0, 0)
    refine Go.of_run (Ev.mono _) 1 _ ?_
    show Go none aM (Ev mt aM (d + 7)) mX3_piece Q (if isoF4 (I 62 5) = 0 then 97 else 103, [some (.ref 62), some (.int (w2_pce_57 I))], [], (SH, mkM I J T), 0, 0)
    rcases Decidable.em (isoF4 (I 62 5) = 0) with c3 | c3
    · rw [if_pos c3]
      refine Go.of_run (Ev.mono _) 3 _ ?_
      refine ⟨Nat.le_of_ble_eq_true rfl, (hyp.1 c3)⟩
    · rw [if_neg c3]
      refine Go.of_run (Ev.mono _) 2 _ ?_
      refine ⟨Nat.le_of_ble_eq_true rfl, (hyp.2 c3)⟩
  rcases Decidable.em (I 62 5 = (60 : Int32)) with c1 | c1
  · rw [if_pos c1]
    refine Go.of_run (Ev.mono _) 2 _ ?_
    have e4 : (w2_pce_57 I) = (7 : Int32) := if_pos c1
    rw [e4] at G2
    exact G2
  · rw [if_neg c1]
    refine Go.of_run (Ev.mono _) 4 _ ?_
    show Go none aM (Ev mt aM (d + 7)) mX3_piece Q (if I 62 5 = (62 : Int32) then 80 else 85, [some (.ref 62), none], [], (SH, mkM I J T), 0, 0)
    have G6 : Go none aM (Ev mt aM (d + 7)) mX3_piece Q (87, [some (.ref 62), none], [.int (w1_pce_57 I)], (SH, mkM I J T), 0, 0) := by
      have e7 : (w2_pce_57 I) = w1_pce_57 I := if_neg c1
      rw [e7] at G2
      exact G2
    rcases Decidable.em (I 62 5 = (62 : Int32)) with c5 | c5
    · rw [if_pos c5]
      refine Go.of_run (Ev.mono _) 2 _ ?_
      have e8 : (w1_pce_57 I) = (8 : Int32) := if_pos c5
      rw [e8] at G6
      exact G6
    · rw [if_neg c5]
      refine Go.of_run (Ev.mono _) 1 _ ?_
      have e9 : (w1_pce_57 I) = (9 : Int32) := if_neg c5
      rw [e9] at G6
      exact G6
set_option maxRecDepth 20000 in
theorem pce_102 {d : Nat} {q : Int32} {I : Nat → Nat → Int32} {J : Nat → Nat → Int64} {T : Nat → Nat → Nat} {Q : Option Value → Mem → Prop} (hyp : Q none (SH, mkM I J T)) : Go none aM (Ev mt aM (d + 7)) mX3_piece Q (102, [some (.ref 62), some (.int q)], [], (SH, mkM I J T), 0, 0) := by
  refine Go.of_run (Ev.mono _) 1 _ ?_
  refine ⟨trivial, ?_⟩
  show Q none (SH, mkM I J T)
  exact hyp
set_option maxRecDepth 20000 in
theorem pce_107 {d : Nat} {q : Int32} {I : Nat → Nat → Int32} {J : Nat → Nat → Int64} {T : Nat → Nat → Nat} {Q : Option Value → Mem → Prop} (hyp : Ev mt aM (d + 7) 44 [.ref 62] (SH, mkM I J T) (fun r m1 => Go none aM (Ev mt aM (d + 7)) mX3_piece Q (111, [some (.ref 62), some (.int q)], r.toList ++ [], m1, 0, 0))) : Go none aM (Ev mt aM (d + 7)) mX3_piece Q (107, [some (.ref 62), some (.int q)], [], (SH, mkM I J T), 0, 0) := by
  refine Go.of_run (Ev.mono _) 2 _ ?_
  refine ⟨Nat.le_of_ble_eq_true rfl, hyp⟩
set_option maxRecDepth 20000 in
theorem pce_111 {d : Nat} {q : Int32} {I : Nat → Nat → Int32} {J : Nat → Nat → Int64} {T : Nat → Nat → Nat} {Q : Option Value → Mem → Prop} (hyp : (TX (T 62 0) ∧ Ev mt aM (d + 7) 109 [.ref (T 62 0), .int q, .int (0 : Int32)] (SH, mkM I J T) (fun r m1 => Go none aM (Ev mt aM (d + 7)) mX3_piece Q (120, [some (.ref 62), some (.int q)], r.toList ++ [], m1, 0, 0)))) : Go none aM (Ev mt aM (d + 7)) mX3_piece Q (111, [some (.ref 62), some (.int q)], [], (SH, mkM I J T), 0, 0) := by
  refine Go.of_run (Ev.mono _) 4 _ ?_
  show Go none aM (Ev mt aM (d + 7)) mX3_piece Q (117, [some (.ref 62), some (.int q)], [.int (0 : Int32), .int q, .ref (T 62 0)], (SH, mkM I J T), 0, 0)
  refine go_txV (Ev.mono _) hyp.1 rfl rfl rfl rfl (hyp.2)
set_option maxRecDepth 20000 in
theorem pce_120 {d : Nat} {q v : Int32} {I : Nat → Nat → Int32} {J : Nat → Nat → Int64} {T : Nat → Nat → Nat} {Q : Option Value → Mem → Prop} (hyp : Q none (SH, mkM I J T)) : Go none aM (Ev mt aM (d + 7)) mX3_piece Q (120, [some (.ref 62), some (.int q)], [.int v], (SH, mkM I J T), 0, 0) := by
  refine Go.of_run (Ev.mono _) 2 _ ?_
  refine ⟨trivial, ?_⟩
  show Q none (SH, mkM I J T)
  exact hyp
set_option maxRecDepth 20000 in
theorem prt_0 {d : Nat} {I : Nat → Nat → Int32} {J : Nat → Nat → Int64} {T : Nat → Nat → Nat} {Q : Option Value → Mem → Prop} (hyp : Ev mt aM (d + 7) 43 [.ref 62] (SH, mkM I J T) (fun r m1 => Go none aM (Ev mt aM (d + 7)) mX3_part Q (4, [some (.ref 62), none, none], r.toList ++ [], m1, 0, 0))) : Go none aM (Ev mt aM (d + 7)) mX3_part Q (0, [some (.ref 62), none, none], [], (SH, mkM I J T), 0, 0) := by
  refine Go.of_run (Ev.mono _) 2 _ ?_
  refine ⟨Nat.le_of_ble_eq_true rfl, hyp⟩
set_option maxRecDepth 20000 in
theorem prt_4 {d : Nat} {I : Nat → Nat → Int32} {J : Nat → Nat → Int64} {T : Nat → Nat → Nat} {Q : Option Value → Mem → Prop} (hyp : Go none aM (Ev mt aM (d + 7)) mX3_part Q (6, [some (.ref 62), some (.int (0 : Int32)), none], [], (SH, mkM I J T), 0, 0)) : Go none aM (Ev mt aM (d + 7)) mX3_part Q (4, [some (.ref 62), none, none], [], (SH, mkM I J T), 0, 0) := by
  refine Go.of_run (Ev.mono _) 2 _ ?_
  exact hyp
set_option maxRecDepth 20000 in
theorem prt_6 {d : Nat} {k : Int32} {I : Nat → Nat → Int32} {J : Nat → Nat → Int64} {T : Nat → Nat → Nat} {Q : Option Value → Mem → Prop} (hyp : ((I 62 3 ≤ k → Q none (SH, mkM I J T)) ∧ ((¬ (I 62 3 ≤ k)) → ((I 62 5 = (38 : Int32) → Ev mt aM (d + 7) 34 [.ref 62] (SH, mkM I J T) (fun r m1 => Go none aM (Ev mt aM (d + 7)) mX3_part Q (27, [some (.ref 62), some (.int k), none], r.toList ++ [], m1, 0, 0))) ∧ ((¬ (I 62 5 = (38 : Int32))) → Q none (SH, mkM I J T)))))) : Go none aM (Ev mt aM (d + 7)) mX3_part Q (6, [some (.ref 62), some (.int k), none], [], (SH, mkM I J T), 0, 0) := by
  refine Go.of_run (Ev.mono _) 4 _ ?_
  show Go none aM (Ev mt aM (d + 7)) mX3_part Q (if I 62 3 ≤ k then 56 else 14, [some (.ref 62), some (.int k), none], [], (SH, mkM I J T), 0, 0)
  rcases Decidable.em (I 62 3 ≤ k) with c1 | c1
  · rw [if_pos c1]
    refine Go.of_run (Ev.mono _) 1 _ ?_
    refine ⟨trivial, ?_⟩
    show Q none (SH, mkM I J T)
    exact (hyp.1 c1)
  · rw [if_neg c1]
    refine Go.of_run (Ev.mono _) 4 _ ?_
    show Go none aM (Ev mt aM (d + 7)) mX3_part Q (if I 62 5 = (38 : Int32) then 23 else 56, [some (.ref 62), some (.int k), none], [], (SH, mkM I J T), 0, 0)
    rcases Decidable.em (I 62 5 = (38 : Int32)) with c2 | c2
    · rw [if_pos c2]
      refine Go.of_run (Ev.mono _) 2 _ ?_
      refine ⟨Nat.le_of_ble_eq_true rfl, ((hyp.2 c1).1 c2)⟩
    · rw [if_neg c2]
      refine Go.of_run (Ev.mono _) 1 _ ?_
      refine ⟨trivial, ?_⟩
      show Q none (SH, mkM I J T)
      exact ((hyp.2 c1).2 c2)
set_option maxRecDepth 20000 in
theorem prt_27 {d : Nat} {k : Int32} {I : Nat → Nat → Int32} {J : Nat → Nat → Int64} {T : Nat → Nat → Nat} {Q : Option Value → Mem → Prop} (hyp : (TX (T 62 0) ∧ Ev mt aM (d + 7) 109 [.ref (T 62 0), .int (11 : Int32), .int (0 : Int32)] (SH, mkM I J T) (fun r m1 => Go none aM (Ev mt aM (d + 7)) mX3_part Q (37, [some (.ref 62), some (.int k), none], r.toList ++ [], m1, 0, 0)))) : Go none aM (Ev mt aM (d + 7)) mX3_part Q (27, [some (.ref 62), some (.int k), none], [], (SH, mkM I J T), 0, 0) := by
  refine Go.of_run (Ev.mono _) 4 _ ?_
  show Go none aM (Ev mt aM (d + 7)) mX3_part Q (34, [some (.ref 62), some (.int k), none], [.int (0 : Int32), .int (11 : Int32), .ref (T 62 0)], (SH, mkM I J T), 0, 0)
  refine go_txV (Ev.mono _) hyp.1 rfl rfl rfl rfl (hyp.2)
set_option maxRecDepth 20000 in
theorem prt_37 {d : Nat} {k v : Int32} {I : Nat → Nat → Int32} {J : Nat → Nat → Int64} {T : Nat → Nat → Nat} {Q : Option Value → Mem → Prop} (hyp : Ev mt aM (d + 7) 43 [.ref 62] (SH, mkM I J T) (fun r m1 => Go none aM (Ev mt aM (d + 7)) mX3_part Q (42, [some (.ref 62), some (.int k), some (.int v)], r.toList ++ [], m1, 0, 0))) : Go none aM (Ev mt aM (d + 7)) mX3_part Q (37, [some (.ref 62), some (.int k), none], [.int v], (SH, mkM I J T), 0, 0) := by
  refine Go.of_run (Ev.mono _) 3 _ ?_
  refine ⟨Nat.le_of_ble_eq_true rfl, hyp⟩
set_option maxRecDepth 20000 in
theorem prt_42 {d : Nat} {k l : Int32} {I : Nat → Nat → Int32} {J : Nat → Nat → Int64} {T : Nat → Nat → Nat} {Q : Option Value → Mem → Prop} (hyp : (TX (T 62 0) ∧ Ev mt aM (d + 7) 110 [.ref (T 62 0), .int l] (SH, mkM I J T) (fun r m1 => Go none aM (Ev mt aM (d + 7)) mX3_part Q (50, [some (.ref 62), some (.int k), some (.int l)], r.toList ++ [], m1, 0, 0)))) : Go none aM (Ev mt aM (d + 7)) mX3_part Q (42, [some (.ref 62), some (.int k), some (.int l)], [], (SH, mkM I J T), 0, 0) := by
  refine Go.of_run (Ev.mono _) 3 _ ?_
  show Go none aM (Ev mt aM (d + 7)) mX3_part Q (47, [some (.ref 62), some (.int k), some (.int l)], [.int l, .ref (T 62 0)], (SH, mkM I J T), 0, 0)
  refine go_txV (Ev.mono _) hyp.1 rfl rfl rfl rfl (hyp.2)
set_option maxRecDepth 20000 in
theorem prt_50 {d : Nat} {k l : Int32} {I : Nat → Nat → Int32} {J : Nat → Nat → Int64} {T : Nat → Nat → Nat} {Q : Option Value → Mem → Prop} (hyp : Go none aM (Ev mt aM (d + 7)) mX3_part Q (6, [some (.ref 62), some (.int (k + 1)), none], [], (SH, mkM I J T), 0, 0)) : Go none aM (Ev mt aM (d + 7)) mX3_part Q (50, [some (.ref 62), some (.int k), some (.int l)], [], (SH, mkM I J T), 0, 0) := by
  refine Go.of_run (Ev.mono _) 2 _ ?_
  exact Go.weak (Ev.mono _) (LLe.cons (LLe.cons (LLe.drop LLe.nil))) hyp
set_option maxRecDepth 20000 in
theorem pas_0 {d : Nat} {I : Nat → Nat → Int32} {J : Nat → Nat → Int64} {T : Nat → Nat → Nat} {Q : Option Value → Mem → Prop} (hyp : Ev mt aM (d + 7) 42 [.ref 62] (SH, mkM I J T) (fun r m1 => Go none aM (Ev mt aM (d + 7)) mX3_parts Q (4, [some (.ref 62), none, none], r.toList ++ [], m1, 0, 0))) : Go none aM (Ev mt aM (d + 7)) mX3_parts Q (0, [some (.ref 62), none, none], [], (SH, mkM I J T), 0, 0) := by
  refine Go.of_run (Ev.mono _) 2 _ ?_
  refine ⟨Nat.le_of_ble_eq_true rfl, hyp⟩
set_option maxRecDepth 20000 in
theorem pas_4 {d : Nat} {I : Nat → Nat → Int32} {J : Nat → Nat → Int64} {T : Nat → Nat → Nat} {Q : Option Value → Mem → Prop} (hyp : Go none aM (Ev mt aM (d + 7)) mX3_parts Q (6, [some (.ref 62), some (.int (0 : Int32)), none], [], (SH, mkM I J T), 0, 0)) : Go none aM (Ev mt aM (d + 7)) mX3_parts Q (4, [some (.ref 62), none, none], [], (SH, mkM I J T), 0, 0) := by
  refine Go.of_run (Ev.mono _) 2 _ ?_
  exact hyp
set_option maxRecDepth 20000 in
theorem pas_6 {d : Nat} {k : Int32} {I : Nat → Nat → Int32} {J : Nat → Nat → Int64} {T : Nat → Nat → Nat} {Q : Option Value → Mem → Prop} (hyp : ((I 62 3 ≤ k → Q none (SH, mkM I J T)) ∧ ((¬ (I 62 3 ≤ k)) → ((I 62 5 = (124 : Int32) → Ev mt aM (d + 7) 34 [.ref 62] (SH, mkM I J T) (fun r m1 => Go none aM (Ev mt aM (d + 7)) mX3_parts Q (27, [some (.ref 62), some (.int k), none], r.toList ++ [], m1, 0, 0))) ∧ ((¬ (I 62 5 = (124 : Int32))) → Q none (SH, mkM I J T)))))) : Go none aM (Ev mt aM (d + 7)) mX3_parts Q (6, [some (.ref 62), some (.int k), none], [], (SH, mkM I J T), 0, 0) := by
  refine Go.of_run (Ev.mono _) 4 _ ?_
  show Go none aM (Ev mt aM (d + 7)) mX3_parts Q (if I 62 3 ≤ k then 56 else 14, [some (.ref 62), some (.int k), none], [], (SH, mkM I J T), 0, 0)
  rcases Decidable.em (I 62 3 ≤ k) with c1 | c1
  · rw [if_pos c1]
    refine Go.of_run (Ev.mono _) 1 _ ?_
    refine ⟨trivial, ?_⟩
    show Q none (SH, mkM I J T)
    exact (hyp.1 c1)
  · rw [if_neg c1]
    refine Go.of_run (Ev.mono _) 4 _ ?_
    show Go none aM (Ev mt aM (d + 7)) mX3_parts Q (if I 62 5 = (124 : Int32) then 23 else 56, [some (.ref 62), some (.int k), none], [], (SH, mkM I J T), 0, 0)
    rcases Decidable.em (I 62 5 = (124 : Int32)) with c2 | c2
    · rw [if_pos c2]
      refine Go.of_run (Ev.mono _) 2 _ ?_
      refine ⟨Nat.le_of_ble_eq_true rfl, ((hyp.2 c1).1 c2)⟩
    · rw [if_neg c2]
      refine Go.of_run (Ev.mono _) 1 _ ?_
      refine ⟨trivial, ?_⟩
      show Q none (SH, mkM I J T)
      exact ((hyp.2 c1).2 c2)
set_option maxRecDepth 20000 in
theorem pas_27 {d : Nat} {k : Int32} {I : Nat → Nat → Int32} {J : Nat → Nat → Int64} {T : Nat → Nat → Nat} {Q : Option Value → Mem → Prop} (hyp : (TX (T 62 0) ∧ Ev mt aM (d + 7) 109 [.ref (T 62 0), .int (12 : Int32), .int (0 : Int32)] (SH, mkM I J T) (fun r m1 => Go none aM (Ev mt aM (d + 7)) mX3_parts Q (37, [some (.ref 62), some (.int k), none], r.toList ++ [], m1, 0, 0)))) : Go none aM (Ev mt aM (d + 7)) mX3_parts Q (27, [some (.ref 62), some (.int k), none], [], (SH, mkM I J T), 0, 0) := by
  refine Go.of_run (Ev.mono _) 4 _ ?_
  show Go none aM (Ev mt aM (d + 7)) mX3_parts Q (34, [some (.ref 62), some (.int k), none], [.int (0 : Int32), .int (12 : Int32), .ref (T 62 0)], (SH, mkM I J T), 0, 0)
  refine go_txV (Ev.mono _) hyp.1 rfl rfl rfl rfl (hyp.2)
set_option maxRecDepth 20000 in
theorem pas_37 {d : Nat} {k v : Int32} {I : Nat → Nat → Int32} {J : Nat → Nat → Int64} {T : Nat → Nat → Nat} {Q : Option Value → Mem → Prop} (hyp : Ev mt aM (d + 7) 42 [.ref 62] (SH, mkM I J T) (fun r m1 => Go none aM (Ev mt aM (d + 7)) mX3_parts Q (42, [some (.ref 62), some (.int k), some (.int v)], r.toList ++ [], m1, 0, 0))) : Go none aM (Ev mt aM (d + 7)) mX3_parts Q (37, [some (.ref 62), some (.int k), none], [.int v], (SH, mkM I J T), 0, 0) := by
  refine Go.of_run (Ev.mono _) 3 _ ?_
  refine ⟨Nat.le_of_ble_eq_true rfl, hyp⟩
set_option maxRecDepth 20000 in
theorem pas_42 {d : Nat} {k l : Int32} {I : Nat → Nat → Int32} {J : Nat → Nat → Int64} {T : Nat → Nat → Nat} {Q : Option Value → Mem → Prop} (hyp : (TX (T 62 0) ∧ Ev mt aM (d + 7) 110 [.ref (T 62 0), .int l] (SH, mkM I J T) (fun r m1 => Go none aM (Ev mt aM (d + 7)) mX3_parts Q (50, [some (.ref 62), some (.int k), some (.int l)], r.toList ++ [], m1, 0, 0)))) : Go none aM (Ev mt aM (d + 7)) mX3_parts Q (42, [some (.ref 62), some (.int k), some (.int l)], [], (SH, mkM I J T), 0, 0) := by
  refine Go.of_run (Ev.mono _) 3 _ ?_
  show Go none aM (Ev mt aM (d + 7)) mX3_parts Q (47, [some (.ref 62), some (.int k), some (.int l)], [.int l, .ref (T 62 0)], (SH, mkM I J T), 0, 0)
  refine go_txV (Ev.mono _) hyp.1 rfl rfl rfl rfl (hyp.2)
set_option maxRecDepth 20000 in
theorem pas_50 {d : Nat} {k l : Int32} {I : Nat → Nat → Int32} {J : Nat → Nat → Int64} {T : Nat → Nat → Nat} {Q : Option Value → Mem → Prop} (hyp : Go none aM (Ev mt aM (d + 7)) mX3_parts Q (6, [some (.ref 62), some (.int (k + 1)), none], [], (SH, mkM I J T), 0, 0)) : Go none aM (Ev mt aM (d + 7)) mX3_parts Q (50, [some (.ref 62), some (.int k), some (.int l)], [], (SH, mkM I J T), 0, 0) := by
  refine Go.of_run (Ev.mono _) 2 _ ?_
  exact Go.weak (Ev.mono _) (LLe.cons (LLe.cons (LLe.drop LLe.nil))) hyp
set_option maxRecDepth 20000 in
theorem rnd_0 {d : Nat} {I : Nat → Nat → Int32} {J : Nat → Nat → Int64} {T : Nat → Nat → Nat} {Q : Option Value → Mem → Prop} (hyp : ((I 62 5 = (40 : Int32) → Ev mt aM (d + 7) 38 [.ref 62] (SH, mkM I J T) (fun r m1 => Go none aM (Ev mt aM (d + 7)) mX3_inRound Q (13, [some (.ref 62)], r.toList ++ [], m1, 0, 0))) ∧ ((¬ (I 62 5 = (40 : Int32))) → Ev mt aM (d + 7) 35 [.ref 62, .int (1 : Int32)] (SH, mkM I J T) (fun r m1 => Go none aM (Ev mt aM (d + 7)) mX3_inRound Q (41, [some (.ref 62)], r.toList ++ [], m1, 0, 0))))) : Go none aM (Ev mt aM (d + 7)) mX3_inRound Q (0, [some (.ref 62)], [], (SH, mkM I J T), 0, 0) := by
  refine Go.of_run (Ev.mono _) 4 _ ?_
  show Go none aM (Ev mt aM (d + 7)) mX3_inRound Q (if I 62 5 = (40 : Int32) then 9 else 36, [some (.ref 62)], [], (SH, mkM I J T), 0, 0)
  rcases Decidable.em (I 62 5 = (40 : Int32)) with c1 | c1
  · rw [if_pos c1]
    refine Go.of_run (Ev.mono _) 2 _ ?_
    refine ⟨Nat.le_of_ble_eq_true rfl, (hyp.1 c1)⟩
  · rw [if_neg c1]
    refine Go.of_run (Ev.mono _) 3 _ ?_
    refine ⟨Nat.le_of_ble_eq_true rfl, (hyp.2 c1)⟩
set_option maxRecDepth 20000 in
theorem rnd_13 {d : Nat} {I : Nat → Nat → Int32} {J : Nat → Nat → Int64} {T : Nat → Nat → Nat} {Q : Option Value → Mem → Prop} (hyp : Ev mt aM (d + 7) 41 [.ref 62] (SH, mkM I J T) (fun r m1 => Go none aM (Ev mt aM (d + 7)) mX3_inRound Q (17, [some (.ref 62)], r.toList ++ [], m1, 0, 0))) : Go none aM (Ev mt aM (d + 7)) mX3_inRound Q (13, [some (.ref 62)], [], (SH, mkM I J T), 0, 0) := by
  refine Go.of_run (Ev.mono _) 2 _ ?_
  refine ⟨Nat.le_of_ble_eq_true rfl, hyp⟩
set_option maxRecDepth 20000 in
theorem rnd_17 {d : Nat} {I : Nat → Nat → Int32} {J : Nat → Nat → Int64} {T : Nat → Nat → Nat} {Q : Option Value → Mem → Prop} (hyp : Ev mt aM (d + 7) 37 [.ref 62, .int (41 : Int32)] (SH, mkM I J T) (fun r m1 => Go none aM (Ev mt aM (d + 7)) mX3_inRound Q (23, [some (.ref 62)], r.toList ++ [], m1, 0, 0))) : Go none aM (Ev mt aM (d + 7)) mX3_inRound Q (17, [some (.ref 62)], [], (SH, mkM I J T), 0, 0) := by
  refine Go.of_run (Ev.mono _) 3 _ ?_
  refine ⟨Nat.le_of_ble_eq_true rfl, hyp⟩
set_option maxRecDepth 20000 in
theorem rnd_23 {d : Nat} {I : Nat → Nat → Int32} {J : Nat → Nat → Int64} {T : Nat → Nat → Nat} {Q : Option Value → Mem → Prop} (hyp : Q none (SH, mkM (si I 62 6 ((I 62 6) - (1 : Int32))) J T)) : Go none aM (Ev mt aM (d + 7)) mX3_inRound Q (23, [some (.ref 62)], [], (SH, mkM I J T), 0, 0) := by
  refine Go.of_run (Ev.mono _) 6 _ ?_
  refine go_si rfl ?_
  show Go none aM (Ev mt aM (d + 7)) mX3_inRound Q (33, [some (.ref 62)], [], (SH, mkM (si I 62 6 ((I 62 6) - (1 : Int32))) J T), 0, 0)
  refine Go.of_run (Ev.mono _) 2 _ ?_
  refine ⟨trivial, ?_⟩
  show Q none (SH, mkM (si I 62 6 ((I 62 6) - (1 : Int32))) J T)
  exact hyp
set_option maxRecDepth 20000 in
theorem rnd_41 {d : Nat} {I : Nat → Nat → Int32} {J : Nat → Nat → Int64} {T : Nat → Nat → Nat} {Q : Option Value → Mem → Prop} (hyp : Q none (SH, mkM I J T)) : Go none aM (Ev mt aM (d + 7)) mX3_inRound Q (41, [some (.ref 62)], [], (SH, mkM I J T), 0, 0) := by
  refine Go.of_run (Ev.mono _) 1 _ ?_
  refine ⟨trivial, ?_⟩
  show Q none (SH, mkM I J T)
  exact hyp
set_option maxRecDepth 20000 in
theorem cls_0 {d : Nat} {I : Nat → Nat → Int32} {J : Nat → Nat → Int64} {T : Nat → Nat → Nat} {Q : Option Value → Mem → Prop} (hyp : Ev mt aM (d + 7) 36 [.ref 62, .ref (T 62 2)] (SH, mkM I J T) (fun r m1 => Go none aM (Ev mt aM (d + 7)) mX3_clause Q (8, [some (.ref 62)], r.toList ++ [], m1, 0, 0))) : Go none aM (Ev mt aM (d + 7)) mX3_clause Q (0, [some (.ref 62)], [], (SH, mkM I J T), 0, 0) := by
  refine Go.of_run (Ev.mono _) 4 _ ?_
  refine ⟨Nat.le_of_ble_eq_true rfl, hyp⟩
set_option maxRecDepth 20000 in
theorem cls_8 {d : Nat} {v : Int32} {I : Nat → Nat → Int32} {J : Nat → Nat → Int64} {T : Nat → Nat → Nat} {Q : Option Value → Mem → Prop} (hyp : ((v = 0 → Ev mt aM (d + 7) 35 [.ref 62, .int (1 : Int32)] (SH, mkM I J T) (fun r m1 => Go none aM (Ev mt aM (d + 7)) mX3_clause Q (16, [some (.ref 62)], r.toList ++ [], m1, 0, 0))) ∧ ((¬ (v = 0)) → (TX (T 62 0) ∧ ((I (T 62 0) 0 < (14 : Int32) → (TX (T 62 0) ∧ Ev mt aM (d + 7) 106 [.ref (T 62 0), .int (I 62 5)] (SH, mkM I J T) (fun r m1 => Go none aM (Ev mt aM (d + 7)) mX3_clause Q (50, [some (.ref 62)], r.toList ++ [], m1, 0, 0)))) ∧ ((¬ (I (T 62 0) 0 < (14 : Int32))) → Ev mt aM (d + 7) 35 [.ref 62, .int (4 : Int32)] (SH, mkM I J T) (fun r m1 => Go none aM (Ev mt aM (d + 7)) mX3_clause Q (36, [some (.ref 62)], r.toList ++ [], m1, 0, 0)))))))) : Go none aM (Ev mt aM (d + 7)) mX3_clause Q (8, [some (.ref 62)], [.int v], (SH, mkM I J T), 0, 0) := by
  refine Go.of_run (Ev.mono _) 1 _ ?_
  show Go none aM (Ev mt aM (d + 7)) mX3_clause Q (if v = 0 then 11 else 19, [some (.ref 62)], [], (SH, mkM I J T), 0, 0)
  rcases Decidable.em (v = 0) with c1 | c1
  · rw [if_pos c1]
    refine Go.of_run (Ev.mono _) 3 _ ?_
    refine ⟨Nat.le_of_ble_eq_true rfl, (hyp.1 c1)⟩
  · rw [if_neg c1]
    refine Go.of_run (Ev.mono _) 2 _ ?_
    show Go none aM (Ev mt aM (d + 7)) mX3_clause Q (23, [some (.ref 62)], [.ref (T 62 0)], (SH, mkM I J T), 0, 0)
    refine go_txI (Ev.mono _) (hyp.2 c1).1 rfl rfl ?_
    show Go none aM (Ev mt aM (d + 7)) mX3_clause Q (26, [some (.ref 62)], [.int (I (T 62 0) 0)], (SH, mkM I J T), 0, 0)
    refine Go.of_run (Ev.mono _) 2 _ ?_
    show Go none aM (Ev mt aM (d + 7)) mX3_clause Q (if I (T 62 0) 0 < (14 : Int32) then 39 else 31, [some (.ref 62)], [], (SH, mkM I J T), 0, 0)
    rcases Decidable.em (I (T 62 0) 0 < (14 : Int32)) with c2 | c2
    · rw [if_pos c2]
      refine Go.of_run (Ev.mono _) 4 _ ?_
      show Go none aM (Ev mt aM (d + 7)) mX3_clause Q (47, [some (.ref 62)], [.int (I 62 5), .ref (T 62 0)], (SH, mkM I J T), 0, 0)
      refine go_txV (Ev.mono _) ((hyp.2 c1).2.1 c2).1 rfl rfl rfl rfl (((hyp.2 c1).2.1 c2).2)
    · rw [if_neg c2]
      refine Go.of_run (Ev.mono _) 3 _ ?_
      refine ⟨Nat.le_of_ble_eq_true rfl, ((hyp.2 c1).2.2 c2)⟩
set_option maxRecDepth 20000 in
theorem cls_16 {d : Nat} {I : Nat → Nat → Int32} {J : Nat → Nat → Int64} {T : Nat → Nat → Nat} {Q : Option Value → Mem → Prop} (hyp : Q none (SH, mkM I J T)) : Go none aM (Ev mt aM (d + 7)) mX3_clause Q (16, [some (.ref 62)], [], (SH, mkM I J T), 0, 0) := by
  refine Go.of_run (Ev.mono _) 2 _ ?_
  refine ⟨trivial, ?_⟩
  show Q none (SH, mkM I J T)
  exact hyp
set_option maxRecDepth 20000 in
theorem cls_36 {d : Nat} {I : Nat → Nat → Int32} {J : Nat → Nat → Int64} {T : Nat → Nat → Nat} {Q : Option Value → Mem → Prop} (hyp : Q none (SH, mkM I J T)) : Go none aM (Ev mt aM (d + 7)) mX3_clause Q (36, [some (.ref 62)], [], (SH, mkM I J T), 0, 0) := by
  refine Go.of_run (Ev.mono _) 2 _ ?_
  refine ⟨trivial, ?_⟩
  show Q none (SH, mkM I J T)
  exact hyp
set_option maxRecDepth 20000 in
theorem cls_50 {d : Nat} {I : Nat → Nat → Int32} {J : Nat → Nat → Int64} {T : Nat → Nat → Nat} {Q : Option Value → Mem → Prop} (hyp : Ev mt aM (d + 7) 34 [.ref 62] (SH, mkM I J T) (fun r m1 => Go none aM (Ev mt aM (d + 7)) mX3_clause Q (54, [some (.ref 62)], r.toList ++ [], m1, 0, 0))) : Go none aM (Ev mt aM (d + 7)) mX3_clause Q (50, [some (.ref 62)], [], (SH, mkM I J T), 0, 0) := by
  refine Go.of_run (Ev.mono _) 2 _ ?_
  refine ⟨Nat.le_of_ble_eq_true rfl, hyp⟩
set_option maxRecDepth 20000 in
theorem cls_54 {d : Nat} {I : Nat → Nat → Int32} {J : Nat → Nat → Int64} {T : Nat → Nat → Nat} {Q : Option Value → Mem → Prop} (hyp : Ev mt aM (d + 7) 44 [.ref 62] (SH, mkM I J T) (fun r m1 => Go none aM (Ev mt aM (d + 7)) mX3_clause Q (58, [some (.ref 62)], r.toList ++ [], m1, 0, 0))) : Go none aM (Ev mt aM (d + 7)) mX3_clause Q (54, [some (.ref 62)], [], (SH, mkM I J T), 0, 0) := by
  refine Go.of_run (Ev.mono _) 2 _ ?_
  refine ⟨Nat.le_of_ble_eq_true rfl, hyp⟩
set_option maxRecDepth 20000 in
theorem cls_58 {d : Nat} {I : Nat → Nat → Int32} {J : Nat → Nat → Int64} {T : Nat → Nat → Nat} {Q : Option Value → Mem → Prop} (hyp : (TX (T 62 0) ∧ Ev mt aM (d + 7) 107 [.ref (T 62 0)] (SH, mkM I J T) (fun r m1 => Go none aM (Ev mt aM (d + 7)) mX3_clause Q (65, [some (.ref 62)], r.toList ++ [], m1, 0, 0)))) : Go none aM (Ev mt aM (d + 7)) mX3_clause Q (58, [some (.ref 62)], [], (SH, mkM I J T), 0, 0) := by
  refine Go.of_run (Ev.mono _) 2 _ ?_
  show Go none aM (Ev mt aM (d + 7)) mX3_clause Q (62, [some (.ref 62)], [.ref (T 62 0)], (SH, mkM I J T), 0, 0)
  refine go_txV (Ev.mono _) hyp.1 rfl rfl rfl rfl (hyp.2)
set_option maxRecDepth 20000 in
theorem cls_65 {d : Nat} {I : Nat → Nat → Int32} {J : Nat → Nat → Int64} {T : Nat → Nat → Nat} {Q : Option Value → Mem → Prop} (hyp : Ev mt aM (d + 7) 40 [.ref 62] (SH, mkM I J T) (fun r m1 => Go none aM (Ev mt aM (d + 7)) mX3_clause Q (69, [some (.ref 62)], r.toList ++ [], m1, 0, 0))) : Go none aM (Ev mt aM (d + 7)) mX3_clause Q (65, [some (.ref 62)], [], (SH, mkM I J T), 0, 0) := by
  refine Go.of_run (Ev.mono _) 2 _ ?_
  refine ⟨Nat.le_of_ble_eq_true rfl, hyp⟩
set_option maxRecDepth 20000 in
theorem cls_69 {d : Nat} {I : Nat → Nat → Int32} {J : Nat → Nat → Int64} {T : Nat → Nat → Nat} {Q : Option Value → Mem → Prop} (hyp : (TX (T 62 0) ∧ Ev mt aM (d + 7) 108 [.ref (T 62 0)] (SH, mkM I J T) (fun r m1 => Go none aM (Ev mt aM (d + 7)) mX3_clause Q (76, [some (.ref 62)], r.toList ++ [], m1, 0, 0)))) : Go none aM (Ev mt aM (d + 7)) mX3_clause Q (69, [some (.ref 62)], [], (SH, mkM I J T), 0, 0) := by
  refine Go.of_run (Ev.mono _) 2 _ ?_
  show Go none aM (Ev mt aM (d + 7)) mX3_clause Q (73, [some (.ref 62)], [.ref (T 62 0)], (SH, mkM I J T), 0, 0)
  refine go_txV (Ev.mono _) hyp.1 rfl rfl rfl rfl (hyp.2)
set_option maxRecDepth 20000 in
theorem cls_76 {d : Nat} {I : Nat → Nat → Int32} {J : Nat → Nat → Int64} {T : Nat → Nat → Nat} {Q : Option Value → Mem → Prop} (hyp : Q none (SH, mkM I J T)) : Go none aM (Ev mt aM (d + 7)) mX3_clause Q (76, [some (.ref 62)], [], (SH, mkM I J T), 0, 0) := by
  refine Go.of_run (Ev.mono _) 1 _ ?_
  refine ⟨trivial, ?_⟩
  show Q none (SH, mkM I J T)
  exact hyp
set_option maxRecDepth 20000 in
theorem red_0 {d : Nat} {n : Int32} {h : Nat} {I : Nat → Nat → Int32} {J : Nat → Nat → Int64} {T : Nat → Nat → Nat} {Q : Option Value → Mem → Prop} (hyp : (TX (T 62 0) ∧ Ev mt aM (d + 7) 105 [.ref (T 62 0)] (SH, mkM I J (stt T 62 2 h)) (fun r m1 => Go none aM (Ev mt aM (d + 7)) mX3_read Q (12, [some (.ref 62), some (.int n), some (.ref h), none], r.toList ++ [], m1, 0, 0)))) : Go none aM (Ev mt aM (d + 7)) mX3_read Q (0, [some (.ref 62), some (.int n), some (.ref h), none], [], (SH, mkM I J T), 0, 0) := by
  refine Go.of_run (Ev.mono _) 3 _ ?_
  refine go_st rfl ?_
  show Go none aM (Ev mt aM (d + 7)) mX3_read Q (5, [some (.ref 62), some (.int n), some (.ref h), none], [], (SH, mkM I J (stt T 62 2 h)), 0, 0)
  refine Go.of_run (Ev.mono _) 2 _ ?_
  show Go none aM (Ev mt aM (d + 7)) mX3_read Q (9, [some (.ref 62), some (.int n), some (.ref h), none], [.ref (T 62 0)], (SH, mkM I J (stt T 62 2 h)), 0, 0)
  refine go_txV (Ev.mono _) hyp.1 rfl rfl rfl rfl (hyp.2)
set_option maxRecDepth 20000 in
theorem red_12 {d : Nat} {n : Int32} {h : Nat} {I : Nat → Nat → Int32} {J : Nat → Nat → Int64} {T : Nat → Nat → Nat} {Q : Option Value → Mem → Prop} (hyp : Ev mt aM (d + 7) 34 [.ref 62] (SH, mkM (si (si (si (si I 62 3 n) 62 6 (0 : Int32)) 62 7 (0 : Int32)) 62 4 (-1 : Int32)) J T) (fun r m1 => Go none aM (Ev mt aM (d + 7)) mX3_read Q (36, [some (.ref 62), some (.int n), some (.ref h), none], r.toList ++ [], m1, 0, 0))) : Go none aM (Ev mt aM (d + 7)) mX3_read Q (12, [some (.ref 62), some (.int n), some (.ref h), none], [], (SH, mkM I J T), 0, 0) := by
  refine Go.of_run (Ev.mono _) 3 _ ?_
  refine go_si rfl ?_
  show Go none aM (Ev mt aM (d + 7)) mX3_read Q (17, [some (.ref 62), some (.int n), some (.ref h), none], [], (SH, mkM (si I 62 3 n) J T), 0, 0)
  refine Go.of_run (Ev.mono _) 3 _ ?_
  refine go_si rfl ?_
  show Go none aM (Ev mt aM (d + 7)) mX3_read Q (22, [some (.ref 62), some (.int n), some (.ref h), none], [], (SH, mkM (si (si I 62 3 n) 62 6 (0 : Int32)) J T), 0, 0)
  refine Go.of_run (Ev.mono _) 3 _ ?_
  refine go_si rfl ?_
  show Go none aM (Ev mt aM (d + 7)) mX3_read Q (27, [some (.ref 62), some (.int n), some (.ref h), none], [], (SH, mkM (si (si (si I 62 3 n) 62 6 (0 : Int32)) 62 7 (0 : Int32)) J T), 0, 0)
  refine Go.of_run (Ev.mono _) 3 _ ?_
  refine go_si rfl ?_
  show Go none aM (Ev mt aM (d + 7)) mX3_read Q (32, [some (.ref 62), some (.int n), some (.ref h), none], [], (SH, mkM (si (si (si (si I 62 3 n) 62 6 (0 : Int32)) 62 7 (0 : Int32)) 62 4 (-1 : Int32)) J T), 0, 0)
  refine Go.of_run (Ev.mono _) 2 _ ?_
  refine ⟨Nat.le_of_ble_eq_true rfl, hyp⟩
set_option maxRecDepth 20000 in
theorem red_36 {d : Nat} {n : Int32} {h : Nat} {I : Nat → Nat → Int32} {J : Nat → Nat → Int64} {T : Nat → Nat → Nat} {Q : Option Value → Mem → Prop} (hyp : Ev mt aM (d + 7) 39 [.ref 62] (SH, mkM I J T) (fun r m1 => Go none aM (Ev mt aM (d + 7)) mX3_read Q (40, [some (.ref 62), some (.int n), some (.ref h), none], r.toList ++ [], m1, 0, 0))) : Go none aM (Ev mt aM (d + 7)) mX3_read Q (36, [some (.ref 62), some (.int n), some (.ref h), none], [], (SH, mkM I J T), 0, 0) := by
  refine Go.of_run (Ev.mono _) 2 _ ?_
  refine ⟨Nat.le_of_ble_eq_true rfl, hyp⟩
set_option maxRecDepth 20000 in
theorem red_40 {d : Nat} {n : Int32} {h : Nat} {I : Nat → Nat → Int32} {J : Nat → Nat → Int64} {T : Nat → Nat → Nat} {Q : Option Value → Mem → Prop} (hyp : Go none aM (Ev mt aM (d + 7)) mX3_read Q (42, [some (.ref 62), none, none, some (.int (0 : Int32))], [], (SH, mkM I J T), 0, 0)) : Go none aM (Ev mt aM (d + 7)) mX3_read Q (40, [some (.ref 62), some (.int n), some (.ref h), none], [], (SH, mkM I J T), 0, 0) := by
  refine Go.of_run (Ev.mono _) 2 _ ?_
  exact Go.weak (Ev.mono _) (LLe.cons (LLe.drop (LLe.drop (LLe.cons LLe.nil)))) hyp
set_option maxRecDepth 20000 in
theorem red_42 {d : Nat} {k : Int32} {I : Nat → Nat → Int32} {J : Nat → Nat → Int64} {T : Nat → Nat → Nat} {Q : Option Value → Mem → Prop} (hyp : ((I 62 3 ≤ k → ((I 62 7 = 0 → (TX (T 62 0) ∧ Q (some (.int (I (T 62 0) 0))) (SH, mkM I J T))) ∧ ((¬ (I 62 7 = 0)) → Q (some (.int (((-1000 : Int32) * (I 62 7)) - (I 62 4)))) (SH, mkM I J T)))) ∧ ((¬ (I 62 3 ≤ k)) → ((I 62 5 < 0 → ((I 62 7 = 0 → (TX (T 62 0) ∧ Q (some (.int (I (T 62 0) 0))) (SH, mkM I J T))) ∧ ((¬ (I 62 7 = 0)) → Q (some (.int (((-1000 : Int32) * (I 62 7)) - (I 62 4)))) (SH, mkM I J T)))) ∧ ((¬ (I 62 5 < 0)) → Ev mt aM (d + 7) 37 [.ref 62, .int (59 : Int32)] (SH, mkM I J T) (fun r m1 => Go none aM (Ev mt aM (d + 7)) mX3_read Q (63, [some (.ref 62), none, none, some (.int k)], r.toList ++ [], m1, 0, 0))))))) : Go none aM (Ev mt aM (d + 7)) mX3_read Q (42, [some (.ref 62), none, none, some (.int k)], [], (SH, mkM I J T), 0, 0) := by
  refine Go.of_run (Ev.mono _) 4 _ ?_
  show Go none aM (Ev mt aM (d + 7)) mX3_read Q (if I 62 3 ≤ k then 73 else 50, [some (.ref 62), none, none, some (.int k)], [], (SH, mkM I J T), 0, 0)
  rcases Decidable.em (I 62 3 ≤ k) with c1 | c1
  · rw [if_pos c1]
    refine Go.of_run (Ev.mono _) 3 _ ?_
    show Go none aM (Ev mt aM (d + 7)) mX3_read Q (if I 62 7 = 0 then 96 else 80, [some (.ref 62), none, none, some (.int k)], [], (SH, mkM I J T), 0, 0)
    rcases Decidable.em (I 62 7 = 0) with c2 | c2
    · rw [if_pos c2]
      refine Go.of_run (Ev.mono _) 2 _ ?_
      show Go none aM (Ev mt aM (d + 7)) mX3_read Q (100, [some (.ref 62), none, none, some (.int k)], [.ref (T 62 0)], (SH, mkM I J T), 0, 0)
      refine go_txI (Ev.mono _) ((hyp.1 c1).1 c2).1 rfl rfl ?_
      show Go none aM (Ev mt aM (d + 7)) mX3_read Q (103, [some (.ref 62), none, none, some (.int k)], [.int (I (T 62 0) 0)], (SH, mkM I J T), 0, 0)
      refine Go.of_run (Ev.mono _) 1 _ ?_
      refine ⟨trivial, ?_⟩
      show Q (some (.int (I (T 62 0) 0))) (SH, mkM I J T)
      exact ((hyp.1 c1).1 c2).2
    · rw [if_neg c2]
      refine Go.of_run (Ev.mono _) 9 _ ?_
      refine ⟨trivial, ?_⟩
      show Q (some (.int (((-1000 : Int32) * (I 62 7)) - (I 62 4)))) (SH, mkM I J T)
      exact ((hyp.1 c1).2 c2)
  · rw [if_neg c1]
    refine Go.of_run (Ev.mono _) 3 _ ?_
    show Go none aM (Ev mt aM (d + 7)) mX3_read Q (if I 62 5 < 0 then 73 else 57, [some (.ref 62), none, none, some (.int k)], [], (SH, mkM I J T), 0, 0)
    rcases Decidable.em (I 62 5 < 0) with c3 | c3
    · rw [if_pos c3]
      refine Go.of_run (Ev.mono _) 3 _ ?_
      show Go none aM (Ev mt aM (d + 7)) mX3_read Q (if I 62 7 = 0 then 96 else 80, [some (.ref 62), none, none, some (.int k)], [], (SH, mkM I J T), 0, 0)
      rcases Decidable.em (I 62 7 = 0) with c4 | c4
      · rw [if_pos c4]
        refine Go.of_run (Ev.mono _) 2 _ ?_
        show Go none aM (Ev mt aM (d + 7)) mX3_read Q (100, [some (.ref 62), none, none, some (.int k)], [.ref (T 62 0)], (SH, mkM I J T), 0, 0)
        refine go_txI (Ev.mono _) (((hyp.2 c1).1 c3).1 c4).1 rfl rfl ?_
        show Go none aM (Ev mt aM (d + 7)) mX3_read Q (103, [some (.ref 62), none, none, some (.int k)], [.int (I (T 62 0) 0)], (SH, mkM I J T), 0, 0)
        refine Go.of_run (Ev.mono _) 1 _ ?_
        refine ⟨trivial, ?_⟩
        show Q (some (.int (I (T 62 0) 0))) (SH, mkM I J T)
        exact (((hyp.2 c1).1 c3).1 c4).2
      · rw [if_neg c4]
        refine Go.of_run (Ev.mono _) 9 _ ?_
        refine ⟨trivial, ?_⟩
        show Q (some (.int (((-1000 : Int32) * (I 62 7)) - (I 62 4)))) (SH, mkM I J T)
        exact (((hyp.2 c1).1 c3).2 c4)
    · rw [if_neg c3]
      refine Go.of_run (Ev.mono _) 3 _ ?_
      refine ⟨Nat.le_of_ble_eq_true rfl, ((hyp.2 c1).2 c3)⟩
set_option maxRecDepth 20000 in
theorem red_63 {d : Nat} {k : Int32} {I : Nat → Nat → Int32} {J : Nat → Nat → Int64} {T : Nat → Nat → Nat} {Q : Option Value → Mem → Prop} (hyp : Ev mt aM (d + 7) 39 [.ref 62] (SH, mkM I J T) (fun r m1 => Go none aM (Ev mt aM (d + 7)) mX3_read Q (67, [some (.ref 62), none, none, some (.int k)], r.toList ++ [], m1, 0, 0))) : Go none aM (Ev mt aM (d + 7)) mX3_read Q (63, [some (.ref 62), none, none, some (.int k)], [], (SH, mkM I J T), 0, 0) := by
  refine Go.of_run (Ev.mono _) 2 _ ?_
  refine ⟨Nat.le_of_ble_eq_true rfl, hyp⟩
set_option maxRecDepth 20000 in
theorem red_67 {d : Nat} {k : Int32} {I : Nat → Nat → Int32} {J : Nat → Nat → Int64} {T : Nat → Nat → Nat} {Q : Option Value → Mem → Prop} (hyp : Go none aM (Ev mt aM (d + 7)) mX3_read Q (42, [some (.ref 62), none, none, some (.int (k + 1))], [], (SH, mkM I J T), 0, 0)) : Go none aM (Ev mt aM (d + 7)) mX3_read Q (67, [some (.ref 62), none, none, some (.int k)], [], (SH, mkM I J T), 0, 0) := by
  refine Go.of_run (Ev.mono _) 2 _ ?_
  exact hyp
