/-! The constructors, cell by cell (laid by wip/whole/pure/gctor.py). -/
def kd_X7_init_0 (M : Nat → Nat → Value) : Nat → Nat → Value := up (up (up (up (up (up (zr (up (zr (up (zr (up (zr (up (zr (up (up (up (up (up (M) 1 0 (.int (4 : Int32))) 1 1 (.int (3 : Int32))) 1 2 (.int (2 : Int32))) 1 3 (.int (3 : Int32))) 1 4 (.int (1 : Int32))) 2) 1 6 (.ref 2)) 3) 1 7 (.ref 3)) 4) 1 8 (.ref 4)) 5) 1 9 (.ref 5)) 6) 6 0 (.int (3 : Int32))) 6 1 (.int (3 : Int32))) 6 2 (.int (3 : Int32))) 6 3 (.int (3 : Int32))) 6 4 (.int (3 : Int32))) 1 10 (.ref 6)
set_option maxRecDepth 20000 in
theorem kc_X7_init_0 {d : Nat} {M : Nat → Nat → Value} {Q : Option Value → Mem → Prop} (h : Q none (SH.take 7, kd_X7_init_0 M)) : Ev mt aM (d + 1) 71 [.ref 1] (SH.take 2, M) Q := by
  refine Ev.intro (d := d + 0) mX7_init rfl rfl ?_
  show Go none aM (Ev mt aM (d + 0)) mX7_init Q (0, [some (.ref 1)], [], (SH.take 2, M), 0, 0)
  refine Go.of_run (Ev.mono _) 2 _ ?_
  refine ⟨Nat.le_of_ble_eq_true rfl, ?_⟩
  show Go none aM (Ev mt aM (d + 0)) mX7_init Q (4, [some (.ref 1)], [], (SH.take 2, M), 0, 0)
  refine Go.of_run (Ev.mono _) 18 _ ?_
  refine ⟨⟨(by decide : (SH.take 2).length < 1000), ⟨(by decide : ¬ (10 : Int32) < 0), (by decide : (10 : Int32).toNatClampNeg ≤ 65536)⟩, (by decide : 0 + 1 ≤ 5), (by decide : 0 + (10 : Int32).toNatClampNeg ≤ 50)⟩, ?_⟩
  show Go none aM (Ev mt aM (d + 0)) mX7_init Q (34, [some (.ref 1)], [.ref 2, .ref 1], (SH.take 3, zr (up (up (up (up (up (M) 1 0 (.int (4 : Int32))) 1 1 (.int (3 : Int32))) 1 2 (.int (2 : Int32))) 1 3 (.int (3 : Int32))) 1 4 (.int (1 : Int32))) 2), 1, 10)
  refine Go.of_run (Ev.mono _) 4 _ ?_
  refine ⟨⟨(by decide : (SH.take 3).length < 1000), ⟨(by decide : ¬ (5 : Int32) < 0), (by decide : (5 : Int32).toNatClampNeg ≤ 65536)⟩, (by decide : 1 + 1 ≤ 5), (by decide : 10 + (5 : Int32).toNatClampNeg ≤ 50)⟩, ?_⟩
  show Go none aM (Ev mt aM (d + 0)) mX7_init Q (41, [some (.ref 1)], [.ref 3, .ref 1], (SH.take 4, zr (up (zr (up (up (up (up (up (M) 1 0 (.int (4 : Int32))) 1 1 (.int (3 : Int32))) 1 2 (.int (2 : Int32))) 1 3 (.int (3 : Int32))) 1 4 (.int (1 : Int32))) 2) 1 6 (.ref 2)) 3), 2, 15)
  refine Go.of_run (Ev.mono _) 4 _ ?_
  refine ⟨⟨(by decide : (SH.take 4).length < 1000), ⟨(by decide : ¬ (5 : Int32) < 0), (by decide : (5 : Int32).toNatClampNeg ≤ 65536)⟩, (by decide : 2 + 1 ≤ 5), (by decide : 15 + (5 : Int32).toNatClampNeg ≤ 50)⟩, ?_⟩
  show Go none aM (Ev mt aM (d + 0)) mX7_init Q (48, [some (.ref 1)], [.ref 4, .ref 1], (SH.take 5, zr (up (zr (up (zr (up (up (up (up (up (M) 1 0 (.int (4 : Int32))) 1 1 (.int (3 : Int32))) 1 2 (.int (2 : Int32))) 1 3 (.int (3 : Int32))) 1 4 (.int (1 : Int32))) 2) 1 6 (.ref 2)) 3) 1 7 (.ref 3)) 4), 3, 20)
  refine Go.of_run (Ev.mono _) 4 _ ?_
  refine ⟨⟨(by decide : (SH.take 5).length < 1000), ⟨(by decide : ¬ (25 : Int32) < 0), (by decide : (25 : Int32).toNatClampNeg ≤ 65536)⟩, (by decide : 3 + 1 ≤ 5), (by decide : 20 + (25 : Int32).toNatClampNeg ≤ 50)⟩, ?_⟩
  show Go none aM (Ev mt aM (d + 0)) mX7_init Q (56, [some (.ref 1)], [.ref 5, .ref 1], (SH.take 6, zr (up (zr (up (zr (up (zr (up (up (up (up (up (M) 1 0 (.int (4 : Int32))) 1 1 (.int (3 : Int32))) 1 2 (.int (2 : Int32))) 1 3 (.int (3 : Int32))) 1 4 (.int (1 : Int32))) 2) 1 6 (.ref 2)) 3) 1 7 (.ref 3)) 4) 1 8 (.ref 4)) 5), 4, 45)
  refine Go.of_run (Ev.mono _) 4 _ ?_
  refine ⟨⟨(by decide : (SH.take 6).length < 1000), ⟨(by decide : ¬ (5 : Int32) < 0), (by decide : (5 : Int32).toNatClampNeg ≤ 65536)⟩, (by decide : 4 + 1 ≤ 5), (by decide : 45 + (5 : Int32).toNatClampNeg ≤ 50)⟩, ?_⟩
  show Go none aM (Ev mt aM (d + 0)) mX7_init Q (63, [some (.ref 1)], [.ref 6, .ref 1], (SH.take 7, zr (up (zr (up (zr (up (zr (up (zr (up (up (up (up (up (M) 1 0 (.int (4 : Int32))) 1 1 (.int (3 : Int32))) 1 2 (.int (2 : Int32))) 1 3 (.int (3 : Int32))) 1 4 (.int (1 : Int32))) 2) 1 6 (.ref 2)) 3) 1 7 (.ref 3)) 4) 1 8 (.ref 4)) 5) 1 9 (.ref 5)) 6), 5, 50)
  refine Go.of_run (Ev.mono _) 4 _ ?_
  refine ⟨(show vp_in (nI 0) 5 from vp_in_nI (by omega) (by omega)), ?_⟩
  show Go none aM (Ev mt aM (d + 0)) mX7_init Q (67, [some (.ref 1)], [.ref 6, .ref 1], (SH.take 7, up (zr (up (zr (up (zr (up (zr (up (zr (up (up (up (up (up (M) 1 0 (.int (4 : Int32))) 1 1 (.int (3 : Int32))) 1 2 (.int (2 : Int32))) 1 3 (.int (3 : Int32))) 1 4 (.int (1 : Int32))) 2) 1 6 (.ref 2)) 3) 1 7 (.ref 3)) 4) 1 8 (.ref 4)) 5) 1 9 (.ref 5)) 6) 6 0 (.int (3 : Int32))), 5, 50)
  refine Go.of_run (Ev.mono _) 4 _ ?_
  refine ⟨(show vp_in (nI 1) 5 from vp_in_nI (by omega) (by omega)), ?_⟩
  show Go none aM (Ev mt aM (d + 0)) mX7_init Q (71, [some (.ref 1)], [.ref 6, .ref 1], (SH.take 7, up (up (zr (up (zr (up (zr (up (zr (up (zr (up (up (up (up (up (M) 1 0 (.int (4 : Int32))) 1 1 (.int (3 : Int32))) 1 2 (.int (2 : Int32))) 1 3 (.int (3 : Int32))) 1 4 (.int (1 : Int32))) 2) 1 6 (.ref 2)) 3) 1 7 (.ref 3)) 4) 1 8 (.ref 4)) 5) 1 9 (.ref 5)) 6) 6 0 (.int (3 : Int32))) 6 1 (.int (3 : Int32))), 5, 50)
  refine Go.of_run (Ev.mono _) 4 _ ?_
  refine ⟨(show vp_in (nI 2) 5 from vp_in_nI (by omega) (by omega)), ?_⟩
  show Go none aM (Ev mt aM (d + 0)) mX7_init Q (75, [some (.ref 1)], [.ref 6, .ref 1], (SH.take 7, up (up (up (zr (up (zr (up (zr (up (zr (up (zr (up (up (up (up (up (M) 1 0 (.int (4 : Int32))) 1 1 (.int (3 : Int32))) 1 2 (.int (2 : Int32))) 1 3 (.int (3 : Int32))) 1 4 (.int (1 : Int32))) 2) 1 6 (.ref 2)) 3) 1 7 (.ref 3)) 4) 1 8 (.ref 4)) 5) 1 9 (.ref 5)) 6) 6 0 (.int (3 : Int32))) 6 1 (.int (3 : Int32))) 6 2 (.int (3 : Int32))), 5, 50)
  refine Go.of_run (Ev.mono _) 4 _ ?_
  refine ⟨(show vp_in (nI 3) 5 from vp_in_nI (by omega) (by omega)), ?_⟩
  show Go none aM (Ev mt aM (d + 0)) mX7_init Q (79, [some (.ref 1)], [.ref 6, .ref 1], (SH.take 7, up (up (up (up (zr (up (zr (up (zr (up (zr (up (zr (up (up (up (up (up (M) 1 0 (.int (4 : Int32))) 1 1 (.int (3 : Int32))) 1 2 (.int (2 : Int32))) 1 3 (.int (3 : Int32))) 1 4 (.int (1 : Int32))) 2) 1 6 (.ref 2)) 3) 1 7 (.ref 3)) 4) 1 8 (.ref 4)) 5) 1 9 (.ref 5)) 6) 6 0 (.int (3 : Int32))) 6 1 (.int (3 : Int32))) 6 2 (.int (3 : Int32))) 6 3 (.int (3 : Int32))), 5, 50)
  refine Go.of_run (Ev.mono _) 4 _ ?_
  refine ⟨(show vp_in (nI 4) 5 from vp_in_nI (by omega) (by omega)), ?_⟩
  show Go none aM (Ev mt aM (d + 0)) mX7_init Q (83, [some (.ref 1)], [.ref 6, .ref 1], (SH.take 7, up (up (up (up (up (zr (up (zr (up (zr (up (zr (up (zr (up (up (up (up (up (M) 1 0 (.int (4 : Int32))) 1 1 (.int (3 : Int32))) 1 2 (.int (2 : Int32))) 1 3 (.int (3 : Int32))) 1 4 (.int (1 : Int32))) 2) 1 6 (.ref 2)) 3) 1 7 (.ref 3)) 4) 1 8 (.ref 4)) 5) 1 9 (.ref 5)) 6) 6 0 (.int (3 : Int32))) 6 1 (.int (3 : Int32))) 6 2 (.int (3 : Int32))) 6 3 (.int (3 : Int32))) 6 4 (.int (3 : Int32))), 5, 50)
  refine Go.of_run (Ev.mono _) 2 _ ?_
  refine ⟨trivial, ?_⟩
  exact h
def kd_X8_init_0 (M : Nat → Nat → Value) : Nat → Nat → Value := up (zr (M) 8) 7 1 (.ref 8)
set_option maxRecDepth 20000 in
theorem kc_X8_init_0 {d : Nat} {M : Nat → Nat → Value} {Q : Option Value → Mem → Prop} (h : Q none (SH.take 9, kd_X8_init_0 M)) : Ev mt aM (d + 1) 100 [.ref 7] (SH.take 8, M) Q := by
  refine Ev.intro (d := d + 0) mX8_init rfl rfl ?_
  show Go none aM (Ev mt aM (d + 0)) mX8_init Q (0, [some (.ref 7)], [], (SH.take 8, M), 0, 0)
  refine Go.of_run (Ev.mono _) 2 _ ?_
  refine ⟨Nat.le_of_ble_eq_true rfl, ?_⟩
  show Go none aM (Ev mt aM (d + 0)) mX8_init Q (4, [some (.ref 7)], [], (SH.take 8, M), 0, 0)
  refine Go.of_run (Ev.mono _) 3 _ ?_
  refine ⟨⟨(by decide : (SH.take 8).length < 1000), ⟨(by decide : ¬ (220 : Int32) < 0), (by decide : (220 : Int32).toNatClampNeg ≤ 65536)⟩, (by decide : 0 + 1 ≤ 1), (by decide : 0 + (220 : Int32).toNatClampNeg ≤ 220)⟩, ?_⟩
  show Go none aM (Ev mt aM (d + 0)) mX8_init Q (10, [some (.ref 7)], [.ref 8, .ref 7], (SH.take 9, zr (M) 8), 1, 220)
  refine Go.of_run (Ev.mono _) 2 _ ?_
  refine ⟨trivial, ?_⟩
  exact h
def kd_X4_init_0 (M : Nat → Nat → Value) : Nat → Nat → Value := up (zr (up (zr (M) 11) 10 0 (.ref 11)) 12) 10 1 (.ref 12)
set_option maxRecDepth 20000 in
theorem kc_X4_init_0 {d : Nat} {M : Nat → Nat → Value} {Q : Option Value → Mem → Prop} (h : Q none (SH.take 13, kd_X4_init_0 M)) : Ev mt aM (d + 1) 48 [.ref 10] (SH.take 11, M) Q := by
  refine Ev.intro (d := d + 0) mX4_init rfl rfl ?_
  show Go none aM (Ev mt aM (d + 0)) mX4_init Q (0, [some (.ref 10)], [], (SH.take 11, M), 0, 0)
  refine Go.of_run (Ev.mono _) 2 _ ?_
  refine ⟨Nat.le_of_ble_eq_true rfl, ?_⟩
  show Go none aM (Ev mt aM (d + 0)) mX4_init Q (4, [some (.ref 10)], [], (SH.take 11, M), 0, 0)
  refine Go.of_run (Ev.mono _) 3 _ ?_
  refine ⟨⟨(by decide : (SH.take 11).length < 1000), ⟨(by decide : ¬ (16 : Int32) < 0), (by decide : (16 : Int32).toNatClampNeg ≤ 65536)⟩, (by decide : 0 + 1 ≤ 2), (by decide : 0 + (16 : Int32).toNatClampNeg ≤ 56)⟩, ?_⟩
  show Go none aM (Ev mt aM (d + 0)) mX4_init Q (9, [some (.ref 10)], [.ref 11, .ref 10], (SH.take 12, zr (M) 11), 1, 16)
  refine Go.of_run (Ev.mono _) 4 _ ?_
  refine ⟨⟨(by decide : (SH.take 12).length < 1000), ⟨(by decide : ¬ (40 : Int32) < 0), (by decide : (40 : Int32).toNatClampNeg ≤ 65536)⟩, (by decide : 1 + 1 ≤ 2), (by decide : 16 + (40 : Int32).toNatClampNeg ≤ 56)⟩, ?_⟩
  show Go none aM (Ev mt aM (d + 0)) mX4_init Q (17, [some (.ref 10)], [.ref 12, .ref 10], (SH.take 13, zr (up (zr (M) 11) 10 0 (.ref 11)) 12), 2, 56)
  refine Go.of_run (Ev.mono _) 2 _ ?_
  refine ⟨trivial, ?_⟩
  exact h
def kd_X9_init_0 (M : Nat → Nat → Value) : Nat → Nat → Value := up (zr (up (zr (up (zr (up (zr (up (zr (M) 15) 14 2 (.ref 15)) 16) 14 3 (.ref 16)) 17) 14 4 (.ref 17)) 18) 14 5 (.ref 18)) 19) 14 6 (.ref 19)
set_option maxRecDepth 20000 in
theorem kc_X9_init_0 {d : Nat} {M : Nat → Nat → Value} {Q : Option Value → Mem → Prop} (h : Q none (SH.take 20, kd_X9_init_0 M)) : Ev mt aM (d + 1) 104 [.ref 14] (SH.take 15, M) Q := by
  refine Ev.intro (d := d + 0) mX9_init rfl rfl ?_
  show Go none aM (Ev mt aM (d + 0)) mX9_init Q (0, [some (.ref 14)], [], (SH.take 15, M), 0, 0)
  refine Go.of_run (Ev.mono _) 2 _ ?_
  refine ⟨Nat.le_of_ble_eq_true rfl, ?_⟩
  show Go none aM (Ev mt aM (d + 0)) mX9_init Q (4, [some (.ref 14)], [], (SH.take 15, M), 0, 0)
  refine Go.of_run (Ev.mono _) 3 _ ?_
  refine ⟨⟨(by decide : (SH.take 15).length < 1000), ⟨(by decide : ¬ (200 : Int32) < 0), (by decide : (200 : Int32).toNatClampNeg ≤ 65536)⟩, (by decide : 0 + 1 ≤ 5), (by decide : 0 + (200 : Int32).toNatClampNeg ≤ 256)⟩, ?_⟩
  show Go none aM (Ev mt aM (d + 0)) mX9_init Q (10, [some (.ref 14)], [.ref 15, .ref 14], (SH.take 16, zr (M) 15), 1, 200)
  refine Go.of_run (Ev.mono _) 4 _ ?_
  refine ⟨⟨(by decide : (SH.take 16).length < 1000), ⟨(by decide : ¬ (14 : Int32) < 0), (by decide : (14 : Int32).toNatClampNeg ≤ 65536)⟩, (by decide : 1 + 1 ≤ 5), (by decide : 200 + (14 : Int32).toNatClampNeg ≤ 256)⟩, ?_⟩
  show Go none aM (Ev mt aM (d + 0)) mX9_init Q (18, [some (.ref 14)], [.ref 16, .ref 14], (SH.take 17, zr (up (zr (M) 15) 14 2 (.ref 15)) 16), 2, 214)
  refine Go.of_run (Ev.mono _) 4 _ ?_
  refine ⟨⟨(by decide : (SH.take 17).length < 1000), ⟨(by decide : ¬ (14 : Int32) < 0), (by decide : (14 : Int32).toNatClampNeg ≤ 65536)⟩, (by decide : 2 + 1 ≤ 5), (by decide : 214 + (14 : Int32).toNatClampNeg ≤ 256)⟩, ?_⟩
  show Go none aM (Ev mt aM (d + 0)) mX9_init Q (26, [some (.ref 14)], [.ref 17, .ref 14], (SH.take 18, zr (up (zr (up (zr (M) 15) 14 2 (.ref 15)) 16) 14 3 (.ref 16)) 17), 3, 228)
  refine Go.of_run (Ev.mono _) 4 _ ?_
  refine ⟨⟨(by decide : (SH.take 18).length < 1000), ⟨(by decide : ¬ (14 : Int32) < 0), (by decide : (14 : Int32).toNatClampNeg ≤ 65536)⟩, (by decide : 3 + 1 ≤ 5), (by decide : 228 + (14 : Int32).toNatClampNeg ≤ 256)⟩, ?_⟩
  show Go none aM (Ev mt aM (d + 0)) mX9_init Q (34, [some (.ref 14)], [.ref 18, .ref 14], (SH.take 19, zr (up (zr (up (zr (up (zr (M) 15) 14 2 (.ref 15)) 16) 14 3 (.ref 16)) 17) 14 4 (.ref 17)) 18), 4, 242)
  refine Go.of_run (Ev.mono _) 4 _ ?_
  refine ⟨⟨(by decide : (SH.take 19).length < 1000), ⟨(by decide : ¬ (14 : Int32) < 0), (by decide : (14 : Int32).toNatClampNeg ≤ 65536)⟩, (by decide : 4 + 1 ≤ 5), (by decide : 242 + (14 : Int32).toNatClampNeg ≤ 256)⟩, ?_⟩
  show Go none aM (Ev mt aM (d + 0)) mX9_init Q (42, [some (.ref 14)], [.ref 19, .ref 14], (SH.take 20, zr (up (zr (up (zr (up (zr (up (zr (M) 15) 14 2 (.ref 15)) 16) 14 3 (.ref 16)) 17) 14 4 (.ref 17)) 18) 14 5 (.ref 18)) 19), 5, 256)
  refine Go.of_run (Ev.mono _) 2 _ ?_
  refine ⟨trivial, ?_⟩
  exact h
def kd_X9_init_1 (M : Nat → Nat → Value) : Nat → Nat → Value := up (zr (up (zr (up (zr (up (zr (up (zr (M) 21) 20 2 (.ref 21)) 22) 20 3 (.ref 22)) 23) 20 4 (.ref 23)) 24) 20 5 (.ref 24)) 25) 20 6 (.ref 25)
set_option maxRecDepth 20000 in
theorem kc_X9_init_1 {d : Nat} {M : Nat → Nat → Value} {Q : Option Value → Mem → Prop} (h : Q none (SH.take 26, kd_X9_init_1 M)) : Ev mt aM (d + 1) 104 [.ref 20] (SH.take 21, M) Q := by
  refine Ev.intro (d := d + 0) mX9_init rfl rfl ?_
  show Go none aM (Ev mt aM (d + 0)) mX9_init Q (0, [some (.ref 20)], [], (SH.take 21, M), 0, 0)
  refine Go.of_run (Ev.mono _) 2 _ ?_
  refine ⟨Nat.le_of_ble_eq_true rfl, ?_⟩
  show Go none aM (Ev mt aM (d + 0)) mX9_init Q (4, [some (.ref 20)], [], (SH.take 21, M), 0, 0)
  refine Go.of_run (Ev.mono _) 3 _ ?_
  refine ⟨⟨(by decide : (SH.take 21).length < 1000), ⟨(by decide : ¬ (200 : Int32) < 0), (by decide : (200 : Int32).toNatClampNeg ≤ 65536)⟩, (by decide : 0 + 1 ≤ 5), (by decide : 0 + (200 : Int32).toNatClampNeg ≤ 256)⟩, ?_⟩
  show Go none aM (Ev mt aM (d + 0)) mX9_init Q (10, [some (.ref 20)], [.ref 21, .ref 20], (SH.take 22, zr (M) 21), 1, 200)
  refine Go.of_run (Ev.mono _) 4 _ ?_
  refine ⟨⟨(by decide : (SH.take 22).length < 1000), ⟨(by decide : ¬ (14 : Int32) < 0), (by decide : (14 : Int32).toNatClampNeg ≤ 65536)⟩, (by decide : 1 + 1 ≤ 5), (by decide : 200 + (14 : Int32).toNatClampNeg ≤ 256)⟩, ?_⟩
  show Go none aM (Ev mt aM (d + 0)) mX9_init Q (18, [some (.ref 20)], [.ref 22, .ref 20], (SH.take 23, zr (up (zr (M) 21) 20 2 (.ref 21)) 22), 2, 214)
  refine Go.of_run (Ev.mono _) 4 _ ?_
  refine ⟨⟨(by decide : (SH.take 23).length < 1000), ⟨(by decide : ¬ (14 : Int32) < 0), (by decide : (14 : Int32).toNatClampNeg ≤ 65536)⟩, (by decide : 2 + 1 ≤ 5), (by decide : 214 + (14 : Int32).toNatClampNeg ≤ 256)⟩, ?_⟩
  show Go none aM (Ev mt aM (d + 0)) mX9_init Q (26, [some (.ref 20)], [.ref 23, .ref 20], (SH.take 24, zr (up (zr (up (zr (M) 21) 20 2 (.ref 21)) 22) 20 3 (.ref 22)) 23), 3, 228)
  refine Go.of_run (Ev.mono _) 4 _ ?_
  refine ⟨⟨(by decide : (SH.take 24).length < 1000), ⟨(by decide : ¬ (14 : Int32) < 0), (by decide : (14 : Int32).toNatClampNeg ≤ 65536)⟩, (by decide : 3 + 1 ≤ 5), (by decide : 228 + (14 : Int32).toNatClampNeg ≤ 256)⟩, ?_⟩
  show Go none aM (Ev mt aM (d + 0)) mX9_init Q (34, [some (.ref 20)], [.ref 24, .ref 20], (SH.take 25, zr (up (zr (up (zr (up (zr (M) 21) 20 2 (.ref 21)) 22) 20 3 (.ref 22)) 23) 20 4 (.ref 23)) 24), 4, 242)
  refine Go.of_run (Ev.mono _) 4 _ ?_
  refine ⟨⟨(by decide : (SH.take 25).length < 1000), ⟨(by decide : ¬ (14 : Int32) < 0), (by decide : (14 : Int32).toNatClampNeg ≤ 65536)⟩, (by decide : 4 + 1 ≤ 5), (by decide : 242 + (14 : Int32).toNatClampNeg ≤ 256)⟩, ?_⟩
  show Go none aM (Ev mt aM (d + 0)) mX9_init Q (42, [some (.ref 20)], [.ref 25, .ref 20], (SH.take 26, zr (up (zr (up (zr (up (zr (up (zr (M) 21) 20 2 (.ref 21)) 22) 20 3 (.ref 22)) 23) 20 4 (.ref 23)) 24) 20 5 (.ref 24)) 25), 5, 256)
  refine Go.of_run (Ev.mono _) 2 _ ?_
  refine ⟨trivial, ?_⟩
  exact h
def kd_X9_init_2 (M : Nat → Nat → Value) : Nat → Nat → Value := up (zr (up (zr (up (zr (up (zr (up (zr (M) 27) 26 2 (.ref 27)) 28) 26 3 (.ref 28)) 29) 26 4 (.ref 29)) 30) 26 5 (.ref 30)) 31) 26 6 (.ref 31)
set_option maxRecDepth 20000 in
theorem kc_X9_init_2 {d : Nat} {M : Nat → Nat → Value} {Q : Option Value → Mem → Prop} (h : Q none (SH.take 32, kd_X9_init_2 M)) : Ev mt aM (d + 1) 104 [.ref 26] (SH.take 27, M) Q := by
  refine Ev.intro (d := d + 0) mX9_init rfl rfl ?_
  show Go none aM (Ev mt aM (d + 0)) mX9_init Q (0, [some (.ref 26)], [], (SH.take 27, M), 0, 0)
  refine Go.of_run (Ev.mono _) 2 _ ?_
  refine ⟨Nat.le_of_ble_eq_true rfl, ?_⟩
  show Go none aM (Ev mt aM (d + 0)) mX9_init Q (4, [some (.ref 26)], [], (SH.take 27, M), 0, 0)
  refine Go.of_run (Ev.mono _) 3 _ ?_
  refine ⟨⟨(by decide : (SH.take 27).length < 1000), ⟨(by decide : ¬ (200 : Int32) < 0), (by decide : (200 : Int32).toNatClampNeg ≤ 65536)⟩, (by decide : 0 + 1 ≤ 5), (by decide : 0 + (200 : Int32).toNatClampNeg ≤ 256)⟩, ?_⟩
  show Go none aM (Ev mt aM (d + 0)) mX9_init Q (10, [some (.ref 26)], [.ref 27, .ref 26], (SH.take 28, zr (M) 27), 1, 200)
  refine Go.of_run (Ev.mono _) 4 _ ?_
  refine ⟨⟨(by decide : (SH.take 28).length < 1000), ⟨(by decide : ¬ (14 : Int32) < 0), (by decide : (14 : Int32).toNatClampNeg ≤ 65536)⟩, (by decide : 1 + 1 ≤ 5), (by decide : 200 + (14 : Int32).toNatClampNeg ≤ 256)⟩, ?_⟩
  show Go none aM (Ev mt aM (d + 0)) mX9_init Q (18, [some (.ref 26)], [.ref 28, .ref 26], (SH.take 29, zr (up (zr (M) 27) 26 2 (.ref 27)) 28), 2, 214)
  refine Go.of_run (Ev.mono _) 4 _ ?_
  refine ⟨⟨(by decide : (SH.take 29).length < 1000), ⟨(by decide : ¬ (14 : Int32) < 0), (by decide : (14 : Int32).toNatClampNeg ≤ 65536)⟩, (by decide : 2 + 1 ≤ 5), (by decide : 214 + (14 : Int32).toNatClampNeg ≤ 256)⟩, ?_⟩
  show Go none aM (Ev mt aM (d + 0)) mX9_init Q (26, [some (.ref 26)], [.ref 29, .ref 26], (SH.take 30, zr (up (zr (up (zr (M) 27) 26 2 (.ref 27)) 28) 26 3 (.ref 28)) 29), 3, 228)
  refine Go.of_run (Ev.mono _) 4 _ ?_
  refine ⟨⟨(by decide : (SH.take 30).length < 1000), ⟨(by decide : ¬ (14 : Int32) < 0), (by decide : (14 : Int32).toNatClampNeg ≤ 65536)⟩, (by decide : 3 + 1 ≤ 5), (by decide : 228 + (14 : Int32).toNatClampNeg ≤ 256)⟩, ?_⟩
  show Go none aM (Ev mt aM (d + 0)) mX9_init Q (34, [some (.ref 26)], [.ref 30, .ref 26], (SH.take 31, zr (up (zr (up (zr (up (zr (M) 27) 26 2 (.ref 27)) 28) 26 3 (.ref 28)) 29) 26 4 (.ref 29)) 30), 4, 242)
  refine Go.of_run (Ev.mono _) 4 _ ?_
  refine ⟨⟨(by decide : (SH.take 31).length < 1000), ⟨(by decide : ¬ (14 : Int32) < 0), (by decide : (14 : Int32).toNatClampNeg ≤ 65536)⟩, (by decide : 4 + 1 ≤ 5), (by decide : 242 + (14 : Int32).toNatClampNeg ≤ 256)⟩, ?_⟩
  show Go none aM (Ev mt aM (d + 0)) mX9_init Q (42, [some (.ref 26)], [.ref 31, .ref 26], (SH.take 32, zr (up (zr (up (zr (up (zr (up (zr (M) 27) 26 2 (.ref 27)) 28) 26 3 (.ref 28)) 29) 26 4 (.ref 29)) 30) 26 5 (.ref 30)) 31), 5, 256)
  refine Go.of_run (Ev.mono _) 2 _ ?_
  refine ⟨trivial, ?_⟩
  exact h
def kd_X9_init_3 (M : Nat → Nat → Value) : Nat → Nat → Value := up (zr (up (zr (up (zr (up (zr (up (zr (M) 33) 32 2 (.ref 33)) 34) 32 3 (.ref 34)) 35) 32 4 (.ref 35)) 36) 32 5 (.ref 36)) 37) 32 6 (.ref 37)
set_option maxRecDepth 20000 in
theorem kc_X9_init_3 {d : Nat} {M : Nat → Nat → Value} {Q : Option Value → Mem → Prop} (h : Q none (SH.take 38, kd_X9_init_3 M)) : Ev mt aM (d + 1) 104 [.ref 32] (SH.take 33, M) Q := by
  refine Ev.intro (d := d + 0) mX9_init rfl rfl ?_
  show Go none aM (Ev mt aM (d + 0)) mX9_init Q (0, [some (.ref 32)], [], (SH.take 33, M), 0, 0)
  refine Go.of_run (Ev.mono _) 2 _ ?_
  refine ⟨Nat.le_of_ble_eq_true rfl, ?_⟩
  show Go none aM (Ev mt aM (d + 0)) mX9_init Q (4, [some (.ref 32)], [], (SH.take 33, M), 0, 0)
  refine Go.of_run (Ev.mono _) 3 _ ?_
  refine ⟨⟨(by decide : (SH.take 33).length < 1000), ⟨(by decide : ¬ (200 : Int32) < 0), (by decide : (200 : Int32).toNatClampNeg ≤ 65536)⟩, (by decide : 0 + 1 ≤ 5), (by decide : 0 + (200 : Int32).toNatClampNeg ≤ 256)⟩, ?_⟩
  show Go none aM (Ev mt aM (d + 0)) mX9_init Q (10, [some (.ref 32)], [.ref 33, .ref 32], (SH.take 34, zr (M) 33), 1, 200)
  refine Go.of_run (Ev.mono _) 4 _ ?_
  refine ⟨⟨(by decide : (SH.take 34).length < 1000), ⟨(by decide : ¬ (14 : Int32) < 0), (by decide : (14 : Int32).toNatClampNeg ≤ 65536)⟩, (by decide : 1 + 1 ≤ 5), (by decide : 200 + (14 : Int32).toNatClampNeg ≤ 256)⟩, ?_⟩
  show Go none aM (Ev mt aM (d + 0)) mX9_init Q (18, [some (.ref 32)], [.ref 34, .ref 32], (SH.take 35, zr (up (zr (M) 33) 32 2 (.ref 33)) 34), 2, 214)
  refine Go.of_run (Ev.mono _) 4 _ ?_
  refine ⟨⟨(by decide : (SH.take 35).length < 1000), ⟨(by decide : ¬ (14 : Int32) < 0), (by decide : (14 : Int32).toNatClampNeg ≤ 65536)⟩, (by decide : 2 + 1 ≤ 5), (by decide : 214 + (14 : Int32).toNatClampNeg ≤ 256)⟩, ?_⟩
  show Go none aM (Ev mt aM (d + 0)) mX9_init Q (26, [some (.ref 32)], [.ref 35, .ref 32], (SH.take 36, zr (up (zr (up (zr (M) 33) 32 2 (.ref 33)) 34) 32 3 (.ref 34)) 35), 3, 228)
  refine Go.of_run (Ev.mono _) 4 _ ?_
  refine ⟨⟨(by decide : (SH.take 36).length < 1000), ⟨(by decide : ¬ (14 : Int32) < 0), (by decide : (14 : Int32).toNatClampNeg ≤ 65536)⟩, (by decide : 3 + 1 ≤ 5), (by decide : 228 + (14 : Int32).toNatClampNeg ≤ 256)⟩, ?_⟩
  show Go none aM (Ev mt aM (d + 0)) mX9_init Q (34, [some (.ref 32)], [.ref 36, .ref 32], (SH.take 37, zr (up (zr (up (zr (up (zr (M) 33) 32 2 (.ref 33)) 34) 32 3 (.ref 34)) 35) 32 4 (.ref 35)) 36), 4, 242)
  refine Go.of_run (Ev.mono _) 4 _ ?_
  refine ⟨⟨(by decide : (SH.take 37).length < 1000), ⟨(by decide : ¬ (14 : Int32) < 0), (by decide : (14 : Int32).toNatClampNeg ≤ 65536)⟩, (by decide : 4 + 1 ≤ 5), (by decide : 242 + (14 : Int32).toNatClampNeg ≤ 256)⟩, ?_⟩
  show Go none aM (Ev mt aM (d + 0)) mX9_init Q (42, [some (.ref 32)], [.ref 37, .ref 32], (SH.take 38, zr (up (zr (up (zr (up (zr (up (zr (M) 33) 32 2 (.ref 33)) 34) 32 3 (.ref 34)) 35) 32 4 (.ref 35)) 36) 32 5 (.ref 36)) 37), 5, 256)
  refine Go.of_run (Ev.mono _) 2 _ ?_
  refine ⟨trivial, ?_⟩
  exact h
def kd_X9_init_4 (M : Nat → Nat → Value) : Nat → Nat → Value := up (zr (up (zr (up (zr (up (zr (up (zr (M) 39) 38 2 (.ref 39)) 40) 38 3 (.ref 40)) 41) 38 4 (.ref 41)) 42) 38 5 (.ref 42)) 43) 38 6 (.ref 43)
set_option maxRecDepth 20000 in
theorem kc_X9_init_4 {d : Nat} {M : Nat → Nat → Value} {Q : Option Value → Mem → Prop} (h : Q none (SH.take 44, kd_X9_init_4 M)) : Ev mt aM (d + 1) 104 [.ref 38] (SH.take 39, M) Q := by
  refine Ev.intro (d := d + 0) mX9_init rfl rfl ?_
  show Go none aM (Ev mt aM (d + 0)) mX9_init Q (0, [some (.ref 38)], [], (SH.take 39, M), 0, 0)
  refine Go.of_run (Ev.mono _) 2 _ ?_
  refine ⟨Nat.le_of_ble_eq_true rfl, ?_⟩
  show Go none aM (Ev mt aM (d + 0)) mX9_init Q (4, [some (.ref 38)], [], (SH.take 39, M), 0, 0)
  refine Go.of_run (Ev.mono _) 3 _ ?_
  refine ⟨⟨(by decide : (SH.take 39).length < 1000), ⟨(by decide : ¬ (200 : Int32) < 0), (by decide : (200 : Int32).toNatClampNeg ≤ 65536)⟩, (by decide : 0 + 1 ≤ 5), (by decide : 0 + (200 : Int32).toNatClampNeg ≤ 256)⟩, ?_⟩
  show Go none aM (Ev mt aM (d + 0)) mX9_init Q (10, [some (.ref 38)], [.ref 39, .ref 38], (SH.take 40, zr (M) 39), 1, 200)
  refine Go.of_run (Ev.mono _) 4 _ ?_
  refine ⟨⟨(by decide : (SH.take 40).length < 1000), ⟨(by decide : ¬ (14 : Int32) < 0), (by decide : (14 : Int32).toNatClampNeg ≤ 65536)⟩, (by decide : 1 + 1 ≤ 5), (by decide : 200 + (14 : Int32).toNatClampNeg ≤ 256)⟩, ?_⟩
  show Go none aM (Ev mt aM (d + 0)) mX9_init Q (18, [some (.ref 38)], [.ref 40, .ref 38], (SH.take 41, zr (up (zr (M) 39) 38 2 (.ref 39)) 40), 2, 214)
  refine Go.of_run (Ev.mono _) 4 _ ?_
  refine ⟨⟨(by decide : (SH.take 41).length < 1000), ⟨(by decide : ¬ (14 : Int32) < 0), (by decide : (14 : Int32).toNatClampNeg ≤ 65536)⟩, (by decide : 2 + 1 ≤ 5), (by decide : 214 + (14 : Int32).toNatClampNeg ≤ 256)⟩, ?_⟩
  show Go none aM (Ev mt aM (d + 0)) mX9_init Q (26, [some (.ref 38)], [.ref 41, .ref 38], (SH.take 42, zr (up (zr (up (zr (M) 39) 38 2 (.ref 39)) 40) 38 3 (.ref 40)) 41), 3, 228)
  refine Go.of_run (Ev.mono _) 4 _ ?_
  refine ⟨⟨(by decide : (SH.take 42).length < 1000), ⟨(by decide : ¬ (14 : Int32) < 0), (by decide : (14 : Int32).toNatClampNeg ≤ 65536)⟩, (by decide : 3 + 1 ≤ 5), (by decide : 228 + (14 : Int32).toNatClampNeg ≤ 256)⟩, ?_⟩
  show Go none aM (Ev mt aM (d + 0)) mX9_init Q (34, [some (.ref 38)], [.ref 42, .ref 38], (SH.take 43, zr (up (zr (up (zr (up (zr (M) 39) 38 2 (.ref 39)) 40) 38 3 (.ref 40)) 41) 38 4 (.ref 41)) 42), 4, 242)
  refine Go.of_run (Ev.mono _) 4 _ ?_
  refine ⟨⟨(by decide : (SH.take 43).length < 1000), ⟨(by decide : ¬ (14 : Int32) < 0), (by decide : (14 : Int32).toNatClampNeg ≤ 65536)⟩, (by decide : 4 + 1 ≤ 5), (by decide : 242 + (14 : Int32).toNatClampNeg ≤ 256)⟩, ?_⟩
  show Go none aM (Ev mt aM (d + 0)) mX9_init Q (42, [some (.ref 38)], [.ref 43, .ref 38], (SH.take 44, zr (up (zr (up (zr (up (zr (up (zr (M) 39) 38 2 (.ref 39)) 40) 38 3 (.ref 40)) 41) 38 4 (.ref 41)) 42) 38 5 (.ref 42)) 43), 5, 256)
  refine Go.of_run (Ev.mono _) 2 _ ?_
  refine ⟨trivial, ?_⟩
  exact h
def kd_X9_init_5 (M : Nat → Nat → Value) : Nat → Nat → Value := up (zr (up (zr (up (zr (up (zr (up (zr (M) 45) 44 2 (.ref 45)) 46) 44 3 (.ref 46)) 47) 44 4 (.ref 47)) 48) 44 5 (.ref 48)) 49) 44 6 (.ref 49)
set_option maxRecDepth 20000 in
theorem kc_X9_init_5 {d : Nat} {M : Nat → Nat → Value} {Q : Option Value → Mem → Prop} (h : Q none (SH.take 50, kd_X9_init_5 M)) : Ev mt aM (d + 1) 104 [.ref 44] (SH.take 45, M) Q := by
  refine Ev.intro (d := d + 0) mX9_init rfl rfl ?_
  show Go none aM (Ev mt aM (d + 0)) mX9_init Q (0, [some (.ref 44)], [], (SH.take 45, M), 0, 0)
  refine Go.of_run (Ev.mono _) 2 _ ?_
  refine ⟨Nat.le_of_ble_eq_true rfl, ?_⟩
  show Go none aM (Ev mt aM (d + 0)) mX9_init Q (4, [some (.ref 44)], [], (SH.take 45, M), 0, 0)
  refine Go.of_run (Ev.mono _) 3 _ ?_
  refine ⟨⟨(by decide : (SH.take 45).length < 1000), ⟨(by decide : ¬ (200 : Int32) < 0), (by decide : (200 : Int32).toNatClampNeg ≤ 65536)⟩, (by decide : 0 + 1 ≤ 5), (by decide : 0 + (200 : Int32).toNatClampNeg ≤ 256)⟩, ?_⟩
  show Go none aM (Ev mt aM (d + 0)) mX9_init Q (10, [some (.ref 44)], [.ref 45, .ref 44], (SH.take 46, zr (M) 45), 1, 200)
  refine Go.of_run (Ev.mono _) 4 _ ?_
  refine ⟨⟨(by decide : (SH.take 46).length < 1000), ⟨(by decide : ¬ (14 : Int32) < 0), (by decide : (14 : Int32).toNatClampNeg ≤ 65536)⟩, (by decide : 1 + 1 ≤ 5), (by decide : 200 + (14 : Int32).toNatClampNeg ≤ 256)⟩, ?_⟩
  show Go none aM (Ev mt aM (d + 0)) mX9_init Q (18, [some (.ref 44)], [.ref 46, .ref 44], (SH.take 47, zr (up (zr (M) 45) 44 2 (.ref 45)) 46), 2, 214)
  refine Go.of_run (Ev.mono _) 4 _ ?_
  refine ⟨⟨(by decide : (SH.take 47).length < 1000), ⟨(by decide : ¬ (14 : Int32) < 0), (by decide : (14 : Int32).toNatClampNeg ≤ 65536)⟩, (by decide : 2 + 1 ≤ 5), (by decide : 214 + (14 : Int32).toNatClampNeg ≤ 256)⟩, ?_⟩
  show Go none aM (Ev mt aM (d + 0)) mX9_init Q (26, [some (.ref 44)], [.ref 47, .ref 44], (SH.take 48, zr (up (zr (up (zr (M) 45) 44 2 (.ref 45)) 46) 44 3 (.ref 46)) 47), 3, 228)
  refine Go.of_run (Ev.mono _) 4 _ ?_
  refine ⟨⟨(by decide : (SH.take 48).length < 1000), ⟨(by decide : ¬ (14 : Int32) < 0), (by decide : (14 : Int32).toNatClampNeg ≤ 65536)⟩, (by decide : 3 + 1 ≤ 5), (by decide : 228 + (14 : Int32).toNatClampNeg ≤ 256)⟩, ?_⟩
  show Go none aM (Ev mt aM (d + 0)) mX9_init Q (34, [some (.ref 44)], [.ref 48, .ref 44], (SH.take 49, zr (up (zr (up (zr (up (zr (M) 45) 44 2 (.ref 45)) 46) 44 3 (.ref 46)) 47) 44 4 (.ref 47)) 48), 4, 242)
  refine Go.of_run (Ev.mono _) 4 _ ?_
  refine ⟨⟨(by decide : (SH.take 49).length < 1000), ⟨(by decide : ¬ (14 : Int32) < 0), (by decide : (14 : Int32).toNatClampNeg ≤ 65536)⟩, (by decide : 4 + 1 ≤ 5), (by decide : 242 + (14 : Int32).toNatClampNeg ≤ 256)⟩, ?_⟩
  show Go none aM (Ev mt aM (d + 0)) mX9_init Q (42, [some (.ref 44)], [.ref 49, .ref 44], (SH.take 50, zr (up (zr (up (zr (up (zr (up (zr (M) 45) 44 2 (.ref 45)) 46) 44 3 (.ref 46)) 47) 44 4 (.ref 47)) 48) 44 5 (.ref 48)) 49), 5, 256)
  refine Go.of_run (Ev.mono _) 2 _ ?_
  refine ⟨trivial, ?_⟩
  exact h
def kd_X9_init_6 (M : Nat → Nat → Value) : Nat → Nat → Value := up (zr (up (zr (up (zr (up (zr (up (zr (M) 51) 50 2 (.ref 51)) 52) 50 3 (.ref 52)) 53) 50 4 (.ref 53)) 54) 50 5 (.ref 54)) 55) 50 6 (.ref 55)
set_option maxRecDepth 20000 in
theorem kc_X9_init_6 {d : Nat} {M : Nat → Nat → Value} {Q : Option Value → Mem → Prop} (h : Q none (SH.take 56, kd_X9_init_6 M)) : Ev mt aM (d + 1) 104 [.ref 50] (SH.take 51, M) Q := by
  refine Ev.intro (d := d + 0) mX9_init rfl rfl ?_
  show Go none aM (Ev mt aM (d + 0)) mX9_init Q (0, [some (.ref 50)], [], (SH.take 51, M), 0, 0)
  refine Go.of_run (Ev.mono _) 2 _ ?_
  refine ⟨Nat.le_of_ble_eq_true rfl, ?_⟩
  show Go none aM (Ev mt aM (d + 0)) mX9_init Q (4, [some (.ref 50)], [], (SH.take 51, M), 0, 0)
  refine Go.of_run (Ev.mono _) 3 _ ?_
  refine ⟨⟨(by decide : (SH.take 51).length < 1000), ⟨(by decide : ¬ (200 : Int32) < 0), (by decide : (200 : Int32).toNatClampNeg ≤ 65536)⟩, (by decide : 0 + 1 ≤ 5), (by decide : 0 + (200 : Int32).toNatClampNeg ≤ 256)⟩, ?_⟩
  show Go none aM (Ev mt aM (d + 0)) mX9_init Q (10, [some (.ref 50)], [.ref 51, .ref 50], (SH.take 52, zr (M) 51), 1, 200)
  refine Go.of_run (Ev.mono _) 4 _ ?_
  refine ⟨⟨(by decide : (SH.take 52).length < 1000), ⟨(by decide : ¬ (14 : Int32) < 0), (by decide : (14 : Int32).toNatClampNeg ≤ 65536)⟩, (by decide : 1 + 1 ≤ 5), (by decide : 200 + (14 : Int32).toNatClampNeg ≤ 256)⟩, ?_⟩
  show Go none aM (Ev mt aM (d + 0)) mX9_init Q (18, [some (.ref 50)], [.ref 52, .ref 50], (SH.take 53, zr (up (zr (M) 51) 50 2 (.ref 51)) 52), 2, 214)
  refine Go.of_run (Ev.mono _) 4 _ ?_
  refine ⟨⟨(by decide : (SH.take 53).length < 1000), ⟨(by decide : ¬ (14 : Int32) < 0), (by decide : (14 : Int32).toNatClampNeg ≤ 65536)⟩, (by decide : 2 + 1 ≤ 5), (by decide : 214 + (14 : Int32).toNatClampNeg ≤ 256)⟩, ?_⟩
  show Go none aM (Ev mt aM (d + 0)) mX9_init Q (26, [some (.ref 50)], [.ref 53, .ref 50], (SH.take 54, zr (up (zr (up (zr (M) 51) 50 2 (.ref 51)) 52) 50 3 (.ref 52)) 53), 3, 228)
  refine Go.of_run (Ev.mono _) 4 _ ?_
  refine ⟨⟨(by decide : (SH.take 54).length < 1000), ⟨(by decide : ¬ (14 : Int32) < 0), (by decide : (14 : Int32).toNatClampNeg ≤ 65536)⟩, (by decide : 3 + 1 ≤ 5), (by decide : 228 + (14 : Int32).toNatClampNeg ≤ 256)⟩, ?_⟩
  show Go none aM (Ev mt aM (d + 0)) mX9_init Q (34, [some (.ref 50)], [.ref 54, .ref 50], (SH.take 55, zr (up (zr (up (zr (up (zr (M) 51) 50 2 (.ref 51)) 52) 50 3 (.ref 52)) 53) 50 4 (.ref 53)) 54), 4, 242)
  refine Go.of_run (Ev.mono _) 4 _ ?_
  refine ⟨⟨(by decide : (SH.take 55).length < 1000), ⟨(by decide : ¬ (14 : Int32) < 0), (by decide : (14 : Int32).toNatClampNeg ≤ 65536)⟩, (by decide : 4 + 1 ≤ 5), (by decide : 242 + (14 : Int32).toNatClampNeg ≤ 256)⟩, ?_⟩
  show Go none aM (Ev mt aM (d + 0)) mX9_init Q (42, [some (.ref 50)], [.ref 55, .ref 50], (SH.take 56, zr (up (zr (up (zr (up (zr (up (zr (M) 51) 50 2 (.ref 51)) 52) 50 3 (.ref 52)) 53) 50 4 (.ref 53)) 54) 50 5 (.ref 54)) 55), 5, 256)
  refine Go.of_run (Ev.mono _) 2 _ ?_
  refine ⟨trivial, ?_⟩
  exact h
def kd_X9_init_7 (M : Nat → Nat → Value) : Nat → Nat → Value := up (zr (up (zr (up (zr (up (zr (up (zr (M) 57) 56 2 (.ref 57)) 58) 56 3 (.ref 58)) 59) 56 4 (.ref 59)) 60) 56 5 (.ref 60)) 61) 56 6 (.ref 61)
set_option maxRecDepth 20000 in
theorem kc_X9_init_7 {d : Nat} {M : Nat → Nat → Value} {Q : Option Value → Mem → Prop} (h : Q none (SH.take 62, kd_X9_init_7 M)) : Ev mt aM (d + 1) 104 [.ref 56] (SH.take 57, M) Q := by
  refine Ev.intro (d := d + 0) mX9_init rfl rfl ?_
  show Go none aM (Ev mt aM (d + 0)) mX9_init Q (0, [some (.ref 56)], [], (SH.take 57, M), 0, 0)
  refine Go.of_run (Ev.mono _) 2 _ ?_
  refine ⟨Nat.le_of_ble_eq_true rfl, ?_⟩
  show Go none aM (Ev mt aM (d + 0)) mX9_init Q (4, [some (.ref 56)], [], (SH.take 57, M), 0, 0)
  refine Go.of_run (Ev.mono _) 3 _ ?_
  refine ⟨⟨(by decide : (SH.take 57).length < 1000), ⟨(by decide : ¬ (200 : Int32) < 0), (by decide : (200 : Int32).toNatClampNeg ≤ 65536)⟩, (by decide : 0 + 1 ≤ 5), (by decide : 0 + (200 : Int32).toNatClampNeg ≤ 256)⟩, ?_⟩
  show Go none aM (Ev mt aM (d + 0)) mX9_init Q (10, [some (.ref 56)], [.ref 57, .ref 56], (SH.take 58, zr (M) 57), 1, 200)
  refine Go.of_run (Ev.mono _) 4 _ ?_
  refine ⟨⟨(by decide : (SH.take 58).length < 1000), ⟨(by decide : ¬ (14 : Int32) < 0), (by decide : (14 : Int32).toNatClampNeg ≤ 65536)⟩, (by decide : 1 + 1 ≤ 5), (by decide : 200 + (14 : Int32).toNatClampNeg ≤ 256)⟩, ?_⟩
  show Go none aM (Ev mt aM (d + 0)) mX9_init Q (18, [some (.ref 56)], [.ref 58, .ref 56], (SH.take 59, zr (up (zr (M) 57) 56 2 (.ref 57)) 58), 2, 214)
  refine Go.of_run (Ev.mono _) 4 _ ?_
  refine ⟨⟨(by decide : (SH.take 59).length < 1000), ⟨(by decide : ¬ (14 : Int32) < 0), (by decide : (14 : Int32).toNatClampNeg ≤ 65536)⟩, (by decide : 2 + 1 ≤ 5), (by decide : 214 + (14 : Int32).toNatClampNeg ≤ 256)⟩, ?_⟩
  show Go none aM (Ev mt aM (d + 0)) mX9_init Q (26, [some (.ref 56)], [.ref 59, .ref 56], (SH.take 60, zr (up (zr (up (zr (M) 57) 56 2 (.ref 57)) 58) 56 3 (.ref 58)) 59), 3, 228)
  refine Go.of_run (Ev.mono _) 4 _ ?_
  refine ⟨⟨(by decide : (SH.take 60).length < 1000), ⟨(by decide : ¬ (14 : Int32) < 0), (by decide : (14 : Int32).toNatClampNeg ≤ 65536)⟩, (by decide : 3 + 1 ≤ 5), (by decide : 228 + (14 : Int32).toNatClampNeg ≤ 256)⟩, ?_⟩
  show Go none aM (Ev mt aM (d + 0)) mX9_init Q (34, [some (.ref 56)], [.ref 60, .ref 56], (SH.take 61, zr (up (zr (up (zr (up (zr (M) 57) 56 2 (.ref 57)) 58) 56 3 (.ref 58)) 59) 56 4 (.ref 59)) 60), 4, 242)
  refine Go.of_run (Ev.mono _) 4 _ ?_
  refine ⟨⟨(by decide : (SH.take 61).length < 1000), ⟨(by decide : ¬ (14 : Int32) < 0), (by decide : (14 : Int32).toNatClampNeg ≤ 65536)⟩, (by decide : 4 + 1 ≤ 5), (by decide : 242 + (14 : Int32).toNatClampNeg ≤ 256)⟩, ?_⟩
  show Go none aM (Ev mt aM (d + 0)) mX9_init Q (42, [some (.ref 56)], [.ref 61, .ref 56], (SH.take 62, zr (up (zr (up (zr (up (zr (up (zr (M) 57) 56 2 (.ref 57)) 58) 56 3 (.ref 58)) 59) 56 4 (.ref 59)) 60) 56 5 (.ref 60)) 61), 5, 256)
  refine Go.of_run (Ev.mono _) 2 _ ?_
  refine ⟨trivial, ?_⟩
  exact h
def kd_X2_init_0 (M : Nat → Nat → Value) : Nat → Nat → Value := up (kd_X9_init_7 (zr (up (kd_X9_init_6 (zr (up (kd_X9_init_5 (zr (up (kd_X9_init_4 (zr (up (kd_X9_init_3 (zr (up (kd_X9_init_2 (zr (up (kd_X9_init_1 (zr (up (kd_X9_init_0 (zr (up (zr (up (kd_X4_init_0 (zr (up (M) 9 0 (.ref 1)) 10)) 9 1 (.ref 10)) 13) 9 2 (.ref 13)) 14)) 13 0 (.ref 14)) 20)) 13 1 (.ref 20)) 26)) 13 2 (.ref 26)) 32)) 13 3 (.ref 32)) 38)) 13 4 (.ref 38)) 44)) 13 5 (.ref 44)) 50)) 13 6 (.ref 50)) 56)) 13 7 (.ref 56)
set_option maxRecDepth 20000 in
theorem kc_X2_init_0 {d : Nat} {M : Nat → Nat → Value} {Q : Option Value → Mem → Prop} (h : Q none (SH.take 62, kd_X2_init_0 M)) : Ev mt aM (d + 3) 20 [.ref 9, .ref 1] (SH.take 10, M) Q := by
  refine Ev.intro (d := d + 2) mX2_init rfl rfl ?_
  show Go none aM (Ev mt aM (d + 2)) mX2_init Q (0, [some (.ref 9), some (.ref 1), none], [], (SH.take 10, M), 0, 0)
  refine Go.of_run (Ev.mono _) 2 _ ?_
  refine ⟨Nat.le_of_ble_eq_true rfl, ?_⟩
  show Go none aM (Ev mt aM (d + 2)) mX2_init Q (4, [some (.ref 9), some (.ref 1), none], [], (SH.take 10, M), 0, 0)
  refine Go.of_run (Ev.mono _) 5 _ ?_
  refine ⟨⟨(by decide : (SH.take 10).length < 1000), (by decide : 0 + 1 ≤ 52), (by decide : 0 + 4 ≤ 2172)⟩, ?_⟩
  show Go none aM (Ev mt aM (d + 2)) mX2_init Q (13, [some (.ref 9), some (.ref 1), none], [.ref 10, .ref 9], (SH.take 11, zr (up (M) 9 0 (.ref 1)) 10), 1, 4)
  refine Go.of_run (Ev.mono _) 2 _ ?_
  refine ⟨⟨Nat.le_of_ble_eq_true rfl, (by decide : 1 + (aM 48).1 ≤ 52), (by decide : 4 + (aM 48).2 ≤ 2172)⟩, ?_⟩
  refine kc_X4_init_0 (d := d + 1) ?_
  show Go none aM (Ev mt aM (d + 2)) mX2_init Q (17, [some (.ref 9), some (.ref 1), none], [.ref 10, .ref 9], (SH.take 13, kd_X4_init_0 (zr (up (M) 9 0 (.ref 1)) 10)), 3, 60)
  refine Go.of_run (Ev.mono _) 4 _ ?_
  refine ⟨⟨(by decide : (SH.take 13).length < 1000), ⟨(by decide : ¬ (8 : Int32) < 0), (by decide : (8 : Int32).toNatClampNeg ≤ 65536)⟩, (by decide : 3 + 1 ≤ 52), (by decide : 60 + (8 : Int32).toNatClampNeg ≤ 2172)⟩, ?_⟩
  show Go none aM (Ev mt aM (d + 2)) mX2_init Q (26, [some (.ref 9), some (.ref 1), none], [.ref 13, .ref 9], (SH.take 14, zr (up (kd_X4_init_0 (zr (up (M) 9 0 (.ref 1)) 10)) 9 1 (.ref 10)) 13), 4, 68)
  refine Go.of_run (Ev.mono _) 8 _ ?_
  show Go none aM (Ev mt aM (d + 2)) mX2_init Q (40, [some (.ref 9), some (.ref 1), some (.int (0 : Int32))], [], (SH.take 14, up (zr (up (kd_X4_init_0 (zr (up (M) 9 0 (.ref 1)) 10)) 9 1 (.ref 10)) 13) 9 2 (.ref 13)), 4, 68)
  refine Go.of_run (Ev.mono _) 4 _ ?_
  refine ⟨⟨(by decide : (SH.take 14).length < 1000), (by decide : 4 + 1 ≤ 52), (by decide : 68 + 7 ≤ 2172)⟩, ?_⟩
  show Go none aM (Ev mt aM (d + 2)) mX2_init Q (48, [some (.ref 9), some (.ref 1), some (.int (0 : Int32))], [.ref 14, .int (0 : Int32), .ref 13], (SH.take 15, zr (up (zr (up (kd_X4_init_0 (zr (up (M) 9 0 (.ref 1)) 10)) 9 1 (.ref 10)) 13) 9 2 (.ref 13)) 14), 5, 75)
  refine Go.of_run (Ev.mono _) 2 _ ?_
  refine ⟨⟨Nat.le_of_ble_eq_true rfl, (by decide : 5 + (aM 104).1 ≤ 52), (by decide : 75 + (aM 104).2 ≤ 2172)⟩, ?_⟩
  refine kc_X9_init_0 (d := d + 1) ?_
  show Go none aM (Ev mt aM (d + 2)) mX2_init Q (52, [some (.ref 9), some (.ref 1), some (.int (0 : Int32))], [.ref 14, .int (0 : Int32), .ref 13], (SH.take 20, kd_X9_init_0 (zr (up (zr (up (kd_X4_init_0 (zr (up (M) 9 0 (.ref 1)) 10)) 9 1 (.ref 10)) 13) 9 2 (.ref 13)) 14)), 10, 331)
  refine Go.of_run (Ev.mono _) 1 _ ?_
  refine ⟨(show vp_in (nI 0) 8 from vp_in_nI (by omega) (by omega)), ?_⟩
  show Go none aM (Ev mt aM (d + 2)) mX2_init Q (53, [some (.ref 9), some (.ref 1), some (.int (0 : Int32))], [], (SH.take 20, up (kd_X9_init_0 (zr (up (zr (up (kd_X4_init_0 (zr (up (M) 9 0 (.ref 1)) 10)) 9 1 (.ref 10)) 13) 9 2 (.ref 13)) 14)) 13 0 (.ref 14)), 10, 331)
  refine Go.of_run (Ev.mono _) 7 _ ?_
  show Go none aM (Ev mt aM (d + 2)) mX2_init Q (40, [some (.ref 9), some (.ref 1), some (.int (1 : Int32))], [], (SH.take 20, up (kd_X9_init_0 (zr (up (zr (up (kd_X4_init_0 (zr (up (M) 9 0 (.ref 1)) 10)) 9 1 (.ref 10)) 13) 9 2 (.ref 13)) 14)) 13 0 (.ref 14)), 10, 331)
  refine Go.of_run (Ev.mono _) 4 _ ?_
  refine ⟨⟨(by decide : (SH.take 20).length < 1000), (by decide : 10 + 1 ≤ 52), (by decide : 331 + 7 ≤ 2172)⟩, ?_⟩
  show Go none aM (Ev mt aM (d + 2)) mX2_init Q (48, [some (.ref 9), some (.ref 1), some (.int (1 : Int32))], [.ref 20, .int (1 : Int32), .ref 13], (SH.take 21, zr (up (kd_X9_init_0 (zr (up (zr (up (kd_X4_init_0 (zr (up (M) 9 0 (.ref 1)) 10)) 9 1 (.ref 10)) 13) 9 2 (.ref 13)) 14)) 13 0 (.ref 14)) 20), 11, 338)
  refine Go.of_run (Ev.mono _) 2 _ ?_
  refine ⟨⟨Nat.le_of_ble_eq_true rfl, (by decide : 11 + (aM 104).1 ≤ 52), (by decide : 338 + (aM 104).2 ≤ 2172)⟩, ?_⟩
  refine kc_X9_init_1 (d := d + 1) ?_
  show Go none aM (Ev mt aM (d + 2)) mX2_init Q (52, [some (.ref 9), some (.ref 1), some (.int (1 : Int32))], [.ref 20, .int (1 : Int32), .ref 13], (SH.take 26, kd_X9_init_1 (zr (up (kd_X9_init_0 (zr (up (zr (up (kd_X4_init_0 (zr (up (M) 9 0 (.ref 1)) 10)) 9 1 (.ref 10)) 13) 9 2 (.ref 13)) 14)) 13 0 (.ref 14)) 20)), 16, 594)
  refine Go.of_run (Ev.mono _) 1 _ ?_
  refine ⟨(show vp_in (nI 1) 8 from vp_in_nI (by omega) (by omega)), ?_⟩
  show Go none aM (Ev mt aM (d + 2)) mX2_init Q (53, [some (.ref 9), some (.ref 1), some (.int (1 : Int32))], [], (SH.take 26, up (kd_X9_init_1 (zr (up (kd_X9_init_0 (zr (up (zr (up (kd_X4_init_0 (zr (up (M) 9 0 (.ref 1)) 10)) 9 1 (.ref 10)) 13) 9 2 (.ref 13)) 14)) 13 0 (.ref 14)) 20)) 13 1 (.ref 20)), 16, 594)
  refine Go.of_run (Ev.mono _) 7 _ ?_
  show Go none aM (Ev mt aM (d + 2)) mX2_init Q (40, [some (.ref 9), some (.ref 1), some (.int (2 : Int32))], [], (SH.take 26, up (kd_X9_init_1 (zr (up (kd_X9_init_0 (zr (up (zr (up (kd_X4_init_0 (zr (up (M) 9 0 (.ref 1)) 10)) 9 1 (.ref 10)) 13) 9 2 (.ref 13)) 14)) 13 0 (.ref 14)) 20)) 13 1 (.ref 20)), 16, 594)
  refine Go.of_run (Ev.mono _) 4 _ ?_
  refine ⟨⟨(by decide : (SH.take 26).length < 1000), (by decide : 16 + 1 ≤ 52), (by decide : 594 + 7 ≤ 2172)⟩, ?_⟩
  show Go none aM (Ev mt aM (d + 2)) mX2_init Q (48, [some (.ref 9), some (.ref 1), some (.int (2 : Int32))], [.ref 26, .int (2 : Int32), .ref 13], (SH.take 27, zr (up (kd_X9_init_1 (zr (up (kd_X9_init_0 (zr (up (zr (up (kd_X4_init_0 (zr (up (M) 9 0 (.ref 1)) 10)) 9 1 (.ref 10)) 13) 9 2 (.ref 13)) 14)) 13 0 (.ref 14)) 20)) 13 1 (.ref 20)) 26), 17, 601)
  refine Go.of_run (Ev.mono _) 2 _ ?_
  refine ⟨⟨Nat.le_of_ble_eq_true rfl, (by decide : 17 + (aM 104).1 ≤ 52), (by decide : 601 + (aM 104).2 ≤ 2172)⟩, ?_⟩
  refine kc_X9_init_2 (d := d + 1) ?_
  show Go none aM (Ev mt aM (d + 2)) mX2_init Q (52, [some (.ref 9), some (.ref 1), some (.int (2 : Int32))], [.ref 26, .int (2 : Int32), .ref 13], (SH.take 32, kd_X9_init_2 (zr (up (kd_X9_init_1 (zr (up (kd_X9_init_0 (zr (up (zr (up (kd_X4_init_0 (zr (up (M) 9 0 (.ref 1)) 10)) 9 1 (.ref 10)) 13) 9 2 (.ref 13)) 14)) 13 0 (.ref 14)) 20)) 13 1 (.ref 20)) 26)), 22, 857)
  refine Go.of_run (Ev.mono _) 1 _ ?_
  refine ⟨(show vp_in (nI 2) 8 from vp_in_nI (by omega) (by omega)), ?_⟩
  show Go none aM (Ev mt aM (d + 2)) mX2_init Q (53, [some (.ref 9), some (.ref 1), some (.int (2 : Int32))], [], (SH.take 32, up (kd_X9_init_2 (zr (up (kd_X9_init_1 (zr (up (kd_X9_init_0 (zr (up (zr (up (kd_X4_init_0 (zr (up (M) 9 0 (.ref 1)) 10)) 9 1 (.ref 10)) 13) 9 2 (.ref 13)) 14)) 13 0 (.ref 14)) 20)) 13 1 (.ref 20)) 26)) 13 2 (.ref 26)), 22, 857)
  refine Go.of_run (Ev.mono _) 7 _ ?_
  show Go none aM (Ev mt aM (d + 2)) mX2_init Q (40, [some (.ref 9), some (.ref 1), some (.int (3 : Int32))], [], (SH.take 32, up (kd_X9_init_2 (zr (up (kd_X9_init_1 (zr (up (kd_X9_init_0 (zr (up (zr (up (kd_X4_init_0 (zr (up (M) 9 0 (.ref 1)) 10)) 9 1 (.ref 10)) 13) 9 2 (.ref 13)) 14)) 13 0 (.ref 14)) 20)) 13 1 (.ref 20)) 26)) 13 2 (.ref 26)), 22, 857)
  refine Go.of_run (Ev.mono _) 4 _ ?_
  refine ⟨⟨(by decide : (SH.take 32).length < 1000), (by decide : 22 + 1 ≤ 52), (by decide : 857 + 7 ≤ 2172)⟩, ?_⟩
  show Go none aM (Ev mt aM (d + 2)) mX2_init Q (48, [some (.ref 9), some (.ref 1), some (.int (3 : Int32))], [.ref 32, .int (3 : Int32), .ref 13], (SH.take 33, zr (up (kd_X9_init_2 (zr (up (kd_X9_init_1 (zr (up (kd_X9_init_0 (zr (up (zr (up (kd_X4_init_0 (zr (up (M) 9 0 (.ref 1)) 10)) 9 1 (.ref 10)) 13) 9 2 (.ref 13)) 14)) 13 0 (.ref 14)) 20)) 13 1 (.ref 20)) 26)) 13 2 (.ref 26)) 32), 23, 864)
  refine Go.of_run (Ev.mono _) 2 _ ?_
  refine ⟨⟨Nat.le_of_ble_eq_true rfl, (by decide : 23 + (aM 104).1 ≤ 52), (by decide : 864 + (aM 104).2 ≤ 2172)⟩, ?_⟩
  refine kc_X9_init_3 (d := d + 1) ?_
  show Go none aM (Ev mt aM (d + 2)) mX2_init Q (52, [some (.ref 9), some (.ref 1), some (.int (3 : Int32))], [.ref 32, .int (3 : Int32), .ref 13], (SH.take 38, kd_X9_init_3 (zr (up (kd_X9_init_2 (zr (up (kd_X9_init_1 (zr (up (kd_X9_init_0 (zr (up (zr (up (kd_X4_init_0 (zr (up (M) 9 0 (.ref 1)) 10)) 9 1 (.ref 10)) 13) 9 2 (.ref 13)) 14)) 13 0 (.ref 14)) 20)) 13 1 (.ref 20)) 26)) 13 2 (.ref 26)) 32)), 28, 1120)
  refine Go.of_run (Ev.mono _) 1 _ ?_
  refine ⟨(show vp_in (nI 3) 8 from vp_in_nI (by omega) (by omega)), ?_⟩
  show Go none aM (Ev mt aM (d + 2)) mX2_init Q (53, [some (.ref 9), some (.ref 1), some (.int (3 : Int32))], [], (SH.take 38, up (kd_X9_init_3 (zr (up (kd_X9_init_2 (zr (up (kd_X9_init_1 (zr (up (kd_X9_init_0 (zr (up (zr (up (kd_X4_init_0 (zr (up (M) 9 0 (.ref 1)) 10)) 9 1 (.ref 10)) 13) 9 2 (.ref 13)) 14)) 13 0 (.ref 14)) 20)) 13 1 (.ref 20)) 26)) 13 2 (.ref 26)) 32)) 13 3 (.ref 32)), 28, 1120)
  refine Go.of_run (Ev.mono _) 7 _ ?_
  show Go none aM (Ev mt aM (d + 2)) mX2_init Q (40, [some (.ref 9), some (.ref 1), some (.int (4 : Int32))], [], (SH.take 38, up (kd_X9_init_3 (zr (up (kd_X9_init_2 (zr (up (kd_X9_init_1 (zr (up (kd_X9_init_0 (zr (up (zr (up (kd_X4_init_0 (zr (up (M) 9 0 (.ref 1)) 10)) 9 1 (.ref 10)) 13) 9 2 (.ref 13)) 14)) 13 0 (.ref 14)) 20)) 13 1 (.ref 20)) 26)) 13 2 (.ref 26)) 32)) 13 3 (.ref 32)), 28, 1120)
  refine Go.of_run (Ev.mono _) 4 _ ?_
  refine ⟨⟨(by decide : (SH.take 38).length < 1000), (by decide : 28 + 1 ≤ 52), (by decide : 1120 + 7 ≤ 2172)⟩, ?_⟩
  show Go none aM (Ev mt aM (d + 2)) mX2_init Q (48, [some (.ref 9), some (.ref 1), some (.int (4 : Int32))], [.ref 38, .int (4 : Int32), .ref 13], (SH.take 39, zr (up (kd_X9_init_3 (zr (up (kd_X9_init_2 (zr (up (kd_X9_init_1 (zr (up (kd_X9_init_0 (zr (up (zr (up (kd_X4_init_0 (zr (up (M) 9 0 (.ref 1)) 10)) 9 1 (.ref 10)) 13) 9 2 (.ref 13)) 14)) 13 0 (.ref 14)) 20)) 13 1 (.ref 20)) 26)) 13 2 (.ref 26)) 32)) 13 3 (.ref 32)) 38), 29, 1127)
  refine Go.of_run (Ev.mono _) 2 _ ?_
  refine ⟨⟨Nat.le_of_ble_eq_true rfl, (by decide : 29 + (aM 104).1 ≤ 52), (by decide : 1127 + (aM 104).2 ≤ 2172)⟩, ?_⟩
  refine kc_X9_init_4 (d := d + 1) ?_
  show Go none aM (Ev mt aM (d + 2)) mX2_init Q (52, [some (.ref 9), some (.ref 1), some (.int (4 : Int32))], [.ref 38, .int (4 : Int32), .ref 13], (SH.take 44, kd_X9_init_4 (zr (up (kd_X9_init_3 (zr (up (kd_X9_init_2 (zr (up (kd_X9_init_1 (zr (up (kd_X9_init_0 (zr (up (zr (up (kd_X4_init_0 (zr (up (M) 9 0 (.ref 1)) 10)) 9 1 (.ref 10)) 13) 9 2 (.ref 13)) 14)) 13 0 (.ref 14)) 20)) 13 1 (.ref 20)) 26)) 13 2 (.ref 26)) 32)) 13 3 (.ref 32)) 38)), 34, 1383)
  refine Go.of_run (Ev.mono _) 1 _ ?_
  refine ⟨(show vp_in (nI 4) 8 from vp_in_nI (by omega) (by omega)), ?_⟩
  show Go none aM (Ev mt aM (d + 2)) mX2_init Q (53, [some (.ref 9), some (.ref 1), some (.int (4 : Int32))], [], (SH.take 44, up (kd_X9_init_4 (zr (up (kd_X9_init_3 (zr (up (kd_X9_init_2 (zr (up (kd_X9_init_1 (zr (up (kd_X9_init_0 (zr (up (zr (up (kd_X4_init_0 (zr (up (M) 9 0 (.ref 1)) 10)) 9 1 (.ref 10)) 13) 9 2 (.ref 13)) 14)) 13 0 (.ref 14)) 20)) 13 1 (.ref 20)) 26)) 13 2 (.ref 26)) 32)) 13 3 (.ref 32)) 38)) 13 4 (.ref 38)), 34, 1383)
  refine Go.of_run (Ev.mono _) 7 _ ?_
  show Go none aM (Ev mt aM (d + 2)) mX2_init Q (40, [some (.ref 9), some (.ref 1), some (.int (5 : Int32))], [], (SH.take 44, up (kd_X9_init_4 (zr (up (kd_X9_init_3 (zr (up (kd_X9_init_2 (zr (up (kd_X9_init_1 (zr (up (kd_X9_init_0 (zr (up (zr (up (kd_X4_init_0 (zr (up (M) 9 0 (.ref 1)) 10)) 9 1 (.ref 10)) 13) 9 2 (.ref 13)) 14)) 13 0 (.ref 14)) 20)) 13 1 (.ref 20)) 26)) 13 2 (.ref 26)) 32)) 13 3 (.ref 32)) 38)) 13 4 (.ref 38)), 34, 1383)
  refine Go.of_run (Ev.mono _) 4 _ ?_
  refine ⟨⟨(by decide : (SH.take 44).length < 1000), (by decide : 34 + 1 ≤ 52), (by decide : 1383 + 7 ≤ 2172)⟩, ?_⟩
  show Go none aM (Ev mt aM (d + 2)) mX2_init Q (48, [some (.ref 9), some (.ref 1), some (.int (5 : Int32))], [.ref 44, .int (5 : Int32), .ref 13], (SH.take 45, zr (up (kd_X9_init_4 (zr (up (kd_X9_init_3 (zr (up (kd_X9_init_2 (zr (up (kd_X9_init_1 (zr (up (kd_X9_init_0 (zr (up (zr (up (kd_X4_init_0 (zr (up (M) 9 0 (.ref 1)) 10)) 9 1 (.ref 10)) 13) 9 2 (.ref 13)) 14)) 13 0 (.ref 14)) 20)) 13 1 (.ref 20)) 26)) 13 2 (.ref 26)) 32)) 13 3 (.ref 32)) 38)) 13 4 (.ref 38)) 44), 35, 1390)
  refine Go.of_run (Ev.mono _) 2 _ ?_
  refine ⟨⟨Nat.le_of_ble_eq_true rfl, (by decide : 35 + (aM 104).1 ≤ 52), (by decide : 1390 + (aM 104).2 ≤ 2172)⟩, ?_⟩
  refine kc_X9_init_5 (d := d + 1) ?_
  show Go none aM (Ev mt aM (d + 2)) mX2_init Q (52, [some (.ref 9), some (.ref 1), some (.int (5 : Int32))], [.ref 44, .int (5 : Int32), .ref 13], (SH.take 50, kd_X9_init_5 (zr (up (kd_X9_init_4 (zr (up (kd_X9_init_3 (zr (up (kd_X9_init_2 (zr (up (kd_X9_init_1 (zr (up (kd_X9_init_0 (zr (up (zr (up (kd_X4_init_0 (zr (up (M) 9 0 (.ref 1)) 10)) 9 1 (.ref 10)) 13) 9 2 (.ref 13)) 14)) 13 0 (.ref 14)) 20)) 13 1 (.ref 20)) 26)) 13 2 (.ref 26)) 32)) 13 3 (.ref 32)) 38)) 13 4 (.ref 38)) 44)), 40, 1646)
  refine Go.of_run (Ev.mono _) 1 _ ?_
  refine ⟨(show vp_in (nI 5) 8 from vp_in_nI (by omega) (by omega)), ?_⟩
  show Go none aM (Ev mt aM (d + 2)) mX2_init Q (53, [some (.ref 9), some (.ref 1), some (.int (5 : Int32))], [], (SH.take 50, up (kd_X9_init_5 (zr (up (kd_X9_init_4 (zr (up (kd_X9_init_3 (zr (up (kd_X9_init_2 (zr (up (kd_X9_init_1 (zr (up (kd_X9_init_0 (zr (up (zr (up (kd_X4_init_0 (zr (up (M) 9 0 (.ref 1)) 10)) 9 1 (.ref 10)) 13) 9 2 (.ref 13)) 14)) 13 0 (.ref 14)) 20)) 13 1 (.ref 20)) 26)) 13 2 (.ref 26)) 32)) 13 3 (.ref 32)) 38)) 13 4 (.ref 38)) 44)) 13 5 (.ref 44)), 40, 1646)
  refine Go.of_run (Ev.mono _) 7 _ ?_
  show Go none aM (Ev mt aM (d + 2)) mX2_init Q (40, [some (.ref 9), some (.ref 1), some (.int (6 : Int32))], [], (SH.take 50, up (kd_X9_init_5 (zr (up (kd_X9_init_4 (zr (up (kd_X9_init_3 (zr (up (kd_X9_init_2 (zr (up (kd_X9_init_1 (zr (up (kd_X9_init_0 (zr (up (zr (up (kd_X4_init_0 (zr (up (M) 9 0 (.ref 1)) 10)) 9 1 (.ref 10)) 13) 9 2 (.ref 13)) 14)) 13 0 (.ref 14)) 20)) 13 1 (.ref 20)) 26)) 13 2 (.ref 26)) 32)) 13 3 (.ref 32)) 38)) 13 4 (.ref 38)) 44)) 13 5 (.ref 44)), 40, 1646)
  refine Go.of_run (Ev.mono _) 4 _ ?_
  refine ⟨⟨(by decide : (SH.take 50).length < 1000), (by decide : 40 + 1 ≤ 52), (by decide : 1646 + 7 ≤ 2172)⟩, ?_⟩
  show Go none aM (Ev mt aM (d + 2)) mX2_init Q (48, [some (.ref 9), some (.ref 1), some (.int (6 : Int32))], [.ref 50, .int (6 : Int32), .ref 13], (SH.take 51, zr (up (kd_X9_init_5 (zr (up (kd_X9_init_4 (zr (up (kd_X9_init_3 (zr (up (kd_X9_init_2 (zr (up (kd_X9_init_1 (zr (up (kd_X9_init_0 (zr (up (zr (up (kd_X4_init_0 (zr (up (M) 9 0 (.ref 1)) 10)) 9 1 (.ref 10)) 13) 9 2 (.ref 13)) 14)) 13 0 (.ref 14)) 20)) 13 1 (.ref 20)) 26)) 13 2 (.ref 26)) 32)) 13 3 (.ref 32)) 38)) 13 4 (.ref 38)) 44)) 13 5 (.ref 44)) 50), 41, 1653)
  refine Go.of_run (Ev.mono _) 2 _ ?_
  refine ⟨⟨Nat.le_of_ble_eq_true rfl, (by decide : 41 + (aM 104).1 ≤ 52), (by decide : 1653 + (aM 104).2 ≤ 2172)⟩, ?_⟩
  refine kc_X9_init_6 (d := d + 1) ?_
  show Go none aM (Ev mt aM (d + 2)) mX2_init Q (52, [some (.ref 9), some (.ref 1), some (.int (6 : Int32))], [.ref 50, .int (6 : Int32), .ref 13], (SH.take 56, kd_X9_init_6 (zr (up (kd_X9_init_5 (zr (up (kd_X9_init_4 (zr (up (kd_X9_init_3 (zr (up (kd_X9_init_2 (zr (up (kd_X9_init_1 (zr (up (kd_X9_init_0 (zr (up (zr (up (kd_X4_init_0 (zr (up (M) 9 0 (.ref 1)) 10)) 9 1 (.ref 10)) 13) 9 2 (.ref 13)) 14)) 13 0 (.ref 14)) 20)) 13 1 (.ref 20)) 26)) 13 2 (.ref 26)) 32)) 13 3 (.ref 32)) 38)) 13 4 (.ref 38)) 44)) 13 5 (.ref 44)) 50)), 46, 1909)
  refine Go.of_run (Ev.mono _) 1 _ ?_
  refine ⟨(show vp_in (nI 6) 8 from vp_in_nI (by omega) (by omega)), ?_⟩
  show Go none aM (Ev mt aM (d + 2)) mX2_init Q (53, [some (.ref 9), some (.ref 1), some (.int (6 : Int32))], [], (SH.take 56, up (kd_X9_init_6 (zr (up (kd_X9_init_5 (zr (up (kd_X9_init_4 (zr (up (kd_X9_init_3 (zr (up (kd_X9_init_2 (zr (up (kd_X9_init_1 (zr (up (kd_X9_init_0 (zr (up (zr (up (kd_X4_init_0 (zr (up (M) 9 0 (.ref 1)) 10)) 9 1 (.ref 10)) 13) 9 2 (.ref 13)) 14)) 13 0 (.ref 14)) 20)) 13 1 (.ref 20)) 26)) 13 2 (.ref 26)) 32)) 13 3 (.ref 32)) 38)) 13 4 (.ref 38)) 44)) 13 5 (.ref 44)) 50)) 13 6 (.ref 50)), 46, 1909)
  refine Go.of_run (Ev.mono _) 7 _ ?_
  show Go none aM (Ev mt aM (d + 2)) mX2_init Q (40, [some (.ref 9), some (.ref 1), some (.int (7 : Int32))], [], (SH.take 56, up (kd_X9_init_6 (zr (up (kd_X9_init_5 (zr (up (kd_X9_init_4 (zr (up (kd_X9_init_3 (zr (up (kd_X9_init_2 (zr (up (kd_X9_init_1 (zr (up (kd_X9_init_0 (zr (up (zr (up (kd_X4_init_0 (zr (up (M) 9 0 (.ref 1)) 10)) 9 1 (.ref 10)) 13) 9 2 (.ref 13)) 14)) 13 0 (.ref 14)) 20)) 13 1 (.ref 20)) 26)) 13 2 (.ref 26)) 32)) 13 3 (.ref 32)) 38)) 13 4 (.ref 38)) 44)) 13 5 (.ref 44)) 50)) 13 6 (.ref 50)), 46, 1909)
  refine Go.of_run (Ev.mono _) 4 _ ?_
  refine ⟨⟨(by decide : (SH.take 56).length < 1000), (by decide : 46 + 1 ≤ 52), (by decide : 1909 + 7 ≤ 2172)⟩, ?_⟩
  show Go none aM (Ev mt aM (d + 2)) mX2_init Q (48, [some (.ref 9), some (.ref 1), some (.int (7 : Int32))], [.ref 56, .int (7 : Int32), .ref 13], (SH.take 57, zr (up (kd_X9_init_6 (zr (up (kd_X9_init_5 (zr (up (kd_X9_init_4 (zr (up (kd_X9_init_3 (zr (up (kd_X9_init_2 (zr (up (kd_X9_init_1 (zr (up (kd_X9_init_0 (zr (up (zr (up (kd_X4_init_0 (zr (up (M) 9 0 (.ref 1)) 10)) 9 1 (.ref 10)) 13) 9 2 (.ref 13)) 14)) 13 0 (.ref 14)) 20)) 13 1 (.ref 20)) 26)) 13 2 (.ref 26)) 32)) 13 3 (.ref 32)) 38)) 13 4 (.ref 38)) 44)) 13 5 (.ref 44)) 50)) 13 6 (.ref 50)) 56), 47, 1916)
  refine Go.of_run (Ev.mono _) 2 _ ?_
  refine ⟨⟨Nat.le_of_ble_eq_true rfl, (by decide : 47 + (aM 104).1 ≤ 52), (by decide : 1916 + (aM 104).2 ≤ 2172)⟩, ?_⟩
  refine kc_X9_init_7 (d := d + 1) ?_
  show Go none aM (Ev mt aM (d + 2)) mX2_init Q (52, [some (.ref 9), some (.ref 1), some (.int (7 : Int32))], [.ref 56, .int (7 : Int32), .ref 13], (SH.take 62, kd_X9_init_7 (zr (up (kd_X9_init_6 (zr (up (kd_X9_init_5 (zr (up (kd_X9_init_4 (zr (up (kd_X9_init_3 (zr (up (kd_X9_init_2 (zr (up (kd_X9_init_1 (zr (up (kd_X9_init_0 (zr (up (zr (up (kd_X4_init_0 (zr (up (M) 9 0 (.ref 1)) 10)) 9 1 (.ref 10)) 13) 9 2 (.ref 13)) 14)) 13 0 (.ref 14)) 20)) 13 1 (.ref 20)) 26)) 13 2 (.ref 26)) 32)) 13 3 (.ref 32)) 38)) 13 4 (.ref 38)) 44)) 13 5 (.ref 44)) 50)) 13 6 (.ref 50)) 56)), 52, 2172)
  refine Go.of_run (Ev.mono _) 1 _ ?_
  refine ⟨(show vp_in (nI 7) 8 from vp_in_nI (by omega) (by omega)), ?_⟩
  show Go none aM (Ev mt aM (d + 2)) mX2_init Q (53, [some (.ref 9), some (.ref 1), some (.int (7 : Int32))], [], (SH.take 62, up (kd_X9_init_7 (zr (up (kd_X9_init_6 (zr (up (kd_X9_init_5 (zr (up (kd_X9_init_4 (zr (up (kd_X9_init_3 (zr (up (kd_X9_init_2 (zr (up (kd_X9_init_1 (zr (up (kd_X9_init_0 (zr (up (zr (up (kd_X4_init_0 (zr (up (M) 9 0 (.ref 1)) 10)) 9 1 (.ref 10)) 13) 9 2 (.ref 13)) 14)) 13 0 (.ref 14)) 20)) 13 1 (.ref 20)) 26)) 13 2 (.ref 26)) 32)) 13 3 (.ref 32)) 38)) 13 4 (.ref 38)) 44)) 13 5 (.ref 44)) 50)) 13 6 (.ref 50)) 56)) 13 7 (.ref 56)), 52, 2172)
  refine Go.of_run (Ev.mono _) 7 _ ?_
  show Go none aM (Ev mt aM (d + 2)) mX2_init Q (59, [some (.ref 9), some (.ref 1), some (.int (8 : Int32))], [], (SH.take 62, up (kd_X9_init_7 (zr (up (kd_X9_init_6 (zr (up (kd_X9_init_5 (zr (up (kd_X9_init_4 (zr (up (kd_X9_init_3 (zr (up (kd_X9_init_2 (zr (up (kd_X9_init_1 (zr (up (kd_X9_init_0 (zr (up (zr (up (kd_X4_init_0 (zr (up (M) 9 0 (.ref 1)) 10)) 9 1 (.ref 10)) 13) 9 2 (.ref 13)) 14)) 13 0 (.ref 14)) 20)) 13 1 (.ref 20)) 26)) 13 2 (.ref 26)) 32)) 13 3 (.ref 32)) 38)) 13 4 (.ref 38)) 44)) 13 5 (.ref 44)) 50)) 13 6 (.ref 50)) 56)) 13 7 (.ref 56)), 52, 2172)
  refine Go.of_run (Ev.mono _) 1 _ ?_
  refine ⟨trivial, ?_⟩
  exact h
def kd_X9_init_8 (M : Nat → Nat → Value) : Nat → Nat → Value := up (zr (up (zr (up (zr (up (zr (up (zr (M) 64) 63 2 (.ref 64)) 65) 63 3 (.ref 65)) 66) 63 4 (.ref 66)) 67) 63 5 (.ref 67)) 68) 63 6 (.ref 68)
set_option maxRecDepth 20000 in
theorem kc_X9_init_8 {d : Nat} {M : Nat → Nat → Value} {Q : Option Value → Mem → Prop} (h : Q none (SH.take 69, kd_X9_init_8 M)) : Ev mt aM (d + 1) 104 [.ref 63] (SH.take 64, M) Q := by
  refine Ev.intro (d := d + 0) mX9_init rfl rfl ?_
  show Go none aM (Ev mt aM (d + 0)) mX9_init Q (0, [some (.ref 63)], [], (SH.take 64, M), 0, 0)
  refine Go.of_run (Ev.mono _) 2 _ ?_
  refine ⟨Nat.le_of_ble_eq_true rfl, ?_⟩
  show Go none aM (Ev mt aM (d + 0)) mX9_init Q (4, [some (.ref 63)], [], (SH.take 64, M), 0, 0)
  refine Go.of_run (Ev.mono _) 3 _ ?_
  refine ⟨⟨(by decide : (SH.take 64).length < 1000), ⟨(by decide : ¬ (200 : Int32) < 0), (by decide : (200 : Int32).toNatClampNeg ≤ 65536)⟩, (by decide : 0 + 1 ≤ 5), (by decide : 0 + (200 : Int32).toNatClampNeg ≤ 256)⟩, ?_⟩
  show Go none aM (Ev mt aM (d + 0)) mX9_init Q (10, [some (.ref 63)], [.ref 64, .ref 63], (SH.take 65, zr (M) 64), 1, 200)
  refine Go.of_run (Ev.mono _) 4 _ ?_
  refine ⟨⟨(by decide : (SH.take 65).length < 1000), ⟨(by decide : ¬ (14 : Int32) < 0), (by decide : (14 : Int32).toNatClampNeg ≤ 65536)⟩, (by decide : 1 + 1 ≤ 5), (by decide : 200 + (14 : Int32).toNatClampNeg ≤ 256)⟩, ?_⟩
  show Go none aM (Ev mt aM (d + 0)) mX9_init Q (18, [some (.ref 63)], [.ref 65, .ref 63], (SH.take 66, zr (up (zr (M) 64) 63 2 (.ref 64)) 65), 2, 214)
  refine Go.of_run (Ev.mono _) 4 _ ?_
  refine ⟨⟨(by decide : (SH.take 66).length < 1000), ⟨(by decide : ¬ (14 : Int32) < 0), (by decide : (14 : Int32).toNatClampNeg ≤ 65536)⟩, (by decide : 2 + 1 ≤ 5), (by decide : 214 + (14 : Int32).toNatClampNeg ≤ 256)⟩, ?_⟩
  show Go none aM (Ev mt aM (d + 0)) mX9_init Q (26, [some (.ref 63)], [.ref 66, .ref 63], (SH.take 67, zr (up (zr (up (zr (M) 64) 63 2 (.ref 64)) 65) 63 3 (.ref 65)) 66), 3, 228)
  refine Go.of_run (Ev.mono _) 4 _ ?_
  refine ⟨⟨(by decide : (SH.take 67).length < 1000), ⟨(by decide : ¬ (14 : Int32) < 0), (by decide : (14 : Int32).toNatClampNeg ≤ 65536)⟩, (by decide : 3 + 1 ≤ 5), (by decide : 228 + (14 : Int32).toNatClampNeg ≤ 256)⟩, ?_⟩
  show Go none aM (Ev mt aM (d + 0)) mX9_init Q (34, [some (.ref 63)], [.ref 67, .ref 63], (SH.take 68, zr (up (zr (up (zr (up (zr (M) 64) 63 2 (.ref 64)) 65) 63 3 (.ref 65)) 66) 63 4 (.ref 66)) 67), 4, 242)
  refine Go.of_run (Ev.mono _) 4 _ ?_
  refine ⟨⟨(by decide : (SH.take 68).length < 1000), ⟨(by decide : ¬ (14 : Int32) < 0), (by decide : (14 : Int32).toNatClampNeg ≤ 65536)⟩, (by decide : 4 + 1 ≤ 5), (by decide : 242 + (14 : Int32).toNatClampNeg ≤ 256)⟩, ?_⟩
  show Go none aM (Ev mt aM (d + 0)) mX9_init Q (42, [some (.ref 63)], [.ref 68, .ref 63], (SH.take 69, zr (up (zr (up (zr (up (zr (up (zr (M) 64) 63 2 (.ref 64)) 65) 63 3 (.ref 65)) 66) 63 4 (.ref 66)) 67) 63 5 (.ref 67)) 68), 5, 256)
  refine Go.of_run (Ev.mono _) 2 _ ?_
  refine ⟨trivial, ?_⟩
  exact h
def kd_X3_init_0 (M : Nat → Nat → Value) : Nat → Nat → Value := up (up (kd_X9_init_8 (zr (up (M) 62 1 (.ref 8)) 63)) 62 0 (.ref 63)) 62 2 (.ref 1000)
set_option maxRecDepth 20000 in
theorem kc_X3_init_0 {d : Nat} {M : Nat → Nat → Value} {Q : Option Value → Mem → Prop} (h : Q none (SH.take 69, kd_X3_init_0 M)) : Ev mt aM (d + 2) 32 [.ref 62, .ref 8] (SH.take 63, M) Q := by
  refine Ev.intro (d := d + 1) mX3_init rfl rfl ?_
  show Go none aM (Ev mt aM (d + 1)) mX3_init Q (0, [some (.ref 62), some (.ref 8)], [], (SH.take 63, M), 0, 0)
  refine Go.of_run (Ev.mono _) 2 _ ?_
  refine ⟨Nat.le_of_ble_eq_true rfl, ?_⟩
  show Go none aM (Ev mt aM (d + 1)) mX3_init Q (4, [some (.ref 62), some (.ref 8)], [], (SH.take 63, M), 0, 0)
  refine Go.of_run (Ev.mono _) 5 _ ?_
  refine ⟨⟨(by decide : (SH.take 63).length < 1000), (by decide : 0 + 1 ≤ 6), (by decide : 0 + 7 ≤ 263)⟩, ?_⟩
  show Go none aM (Ev mt aM (d + 1)) mX3_init Q (13, [some (.ref 62), some (.ref 8)], [.ref 63, .ref 62], (SH.take 64, zr (up (M) 62 1 (.ref 8)) 63), 1, 7)
  refine Go.of_run (Ev.mono _) 2 _ ?_
  refine ⟨⟨Nat.le_of_ble_eq_true rfl, (by decide : 1 + (aM 104).1 ≤ 6), (by decide : 7 + (aM 104).2 ≤ 263)⟩, ?_⟩
  refine kc_X9_init_8 (d := d + 0) ?_
  show Go none aM (Ev mt aM (d + 1)) mX3_init Q (17, [some (.ref 62), some (.ref 8)], [.ref 63, .ref 62], (SH.take 69, kd_X9_init_8 (zr (up (M) 62 1 (.ref 8)) 63)), 6, 263)
  refine Go.of_run (Ev.mono _) 5 _ ?_
  refine ⟨trivial, ?_⟩
  exact h
def kd_X0_init_0 (M : Nat → Nat → Value) : Nat → Nat → Value := fil (up (up (zr (up (zr (up (zr (up (up (M) 69 0 (.ref 1)) 69 1 (.ref 9)) 70) 69 2 (.ref 70)) 71) 69 3 (.ref 71)) 72) 69 4 (.ref 72)) 69 5 (.int (-1 : Int32))) 2048
set_option maxRecDepth 20000 in
theorem kc_X0_init_0 {d : Nat} {M : Nat → Nat → Value} {Q : Option Value → Mem → Prop} (h : Q none (SH.take 73, kd_X0_init_0 M)) : Ev mt aM (d + 5) 0 [.ref 69, .ref 1, .ref 9] (SH.take 70, M) Q := by
  refine Ev.intro (d := d + 4) mX0_init rfl rfl ?_
  show Go none aM (Ev mt aM (d + 4)) mX0_init Q (0, [some (.ref 69), some (.ref 1), some (.ref 9), none, none, none], [], (SH.take 70, M), 0, 0)
  refine Go.of_run (Ev.mono _) 2 _ ?_
  refine ⟨Nat.le_of_ble_eq_true rfl, ?_⟩
  show Go none aM (Ev mt aM (d + 4)) mX0_init Q (4, [some (.ref 69), some (.ref 1), some (.ref 9), none, none, none], [], (SH.take 70, M), 0, 0)
  refine Go.of_run (Ev.mono _) 9 _ ?_
  refine ⟨⟨(by decide : (SH.take 70).length < 1000), ⟨(by decide : ¬ (2048 : Int32) < 0), (by decide : (2048 : Int32).toNatClampNeg ≤ 65536)⟩, (by decide : 0 + 1 ≤ 3), (by decide : 0 + (2048 : Int32).toNatClampNeg ≤ 9196)⟩, ?_⟩
  show Go none aM (Ev mt aM (d + 4)) mX0_init Q (20, [some (.ref 69), some (.ref 1), some (.ref 9), none, none, none], [.ref 70, .ref 69], (SH.take 71, zr (up (up (M) 69 0 (.ref 1)) 69 1 (.ref 9)) 70), 1, 2048)
  refine Go.of_run (Ev.mono _) 4 _ ?_
  refine ⟨⟨(by decide : (SH.take 71).length < 1000), ⟨(by decide : ¬ (7100 : Int32) < 0), (by decide : (7100 : Int32).toNatClampNeg ≤ 65536)⟩, (by decide : 1 + 1 ≤ 3), (by decide : 2048 + (7100 : Int32).toNatClampNeg ≤ 9196)⟩, ?_⟩
  show Go none aM (Ev mt aM (d + 4)) mX0_init Q (29, [some (.ref 69), some (.ref 1), some (.ref 9), none, none, none], [.ref 71, .ref 69], (SH.take 72, zr (up (zr (up (up (M) 69 0 (.ref 1)) 69 1 (.ref 9)) 70) 69 2 (.ref 70)) 71), 2, 9148)
  refine Go.of_run (Ev.mono _) 4 _ ?_
  refine ⟨⟨(by decide : (SH.take 72).length < 1000), ⟨(by decide : ¬ (48 : Int32) < 0), (by decide : (48 : Int32).toNatClampNeg ≤ 65536)⟩, (by decide : 2 + 1 ≤ 3), (by decide : 9148 + (48 : Int32).toNatClampNeg ≤ 9196)⟩, ?_⟩
  show Go none aM (Ev mt aM (d + 4)) mX0_init Q (37, [some (.ref 69), some (.ref 1), some (.ref 9), none, none, none], [.ref 72, .ref 69], (SH.take 73, zr (up (zr (up (zr (up (up (M) 69 0 (.ref 1)) 69 1 (.ref 9)) 70) 69 2 (.ref 70)) 71) 69 3 (.ref 71)) 72), 3, 9196)
  refine Go.of_run (Ev.mono _) 8 _ ?_
  have key := rk_loop (M := up (up (zr (up (zr (up (zr (up (up (M) 69 0 (.ref 1)) 69 1 (.ref 9)) 70) 69 2 (.ref 70)) 71) 69 3 (.ref 71)) 72) 69 4 (.ref 72)) 69 5 (.int (-1 : Int32))) (d := d) (Q := Q) rfl h 2048 0 none rfl
  rw [fil_0] at key
  exact key
def kd_X10_init_0 (M : Nat → Nat → Value) : Nat → Nat → Value := up (zr (up (zr (up (up (M) 73 0 (.ref 1)) 73 1 (.ref 9)) 74) 73 2 (.ref 74)) 75) 73 3 (.ref 75)
set_option maxRecDepth 20000 in
theorem kc_X10_init_0 {d : Nat} {M : Nat → Nat → Value} {Q : Option Value → Mem → Prop} (h : Q none (SH.take 76, kd_X10_init_0 M)) : Ev mt aM (d + 1) 115 [.ref 73, .ref 1, .ref 9] (SH.take 74, M) Q := by
  refine Ev.intro (d := d + 0) mX10_init rfl rfl ?_
  show Go none aM (Ev mt aM (d + 0)) mX10_init Q (0, [some (.ref 73), some (.ref 1), some (.ref 9)], [], (SH.take 74, M), 0, 0)
  refine Go.of_run (Ev.mono _) 2 _ ?_
  refine ⟨Nat.le_of_ble_eq_true rfl, ?_⟩
  show Go none aM (Ev mt aM (d + 0)) mX10_init Q (4, [some (.ref 73), some (.ref 1), some (.ref 9)], [], (SH.take 74, M), 0, 0)
  refine Go.of_run (Ev.mono _) 9 _ ?_
  refine ⟨⟨(by decide : (SH.take 74).length < 1000), ⟨(by decide : ¬ (3 : Int32) < 0), (by decide : (3 : Int32).toNatClampNeg ≤ 65536)⟩, (by decide : 0 + 1 ≤ 2), (by decide : 0 + (3 : Int32).toNatClampNeg ≤ 15)⟩, ?_⟩
  show Go none aM (Ev mt aM (d + 0)) mX10_init Q (18, [some (.ref 73), some (.ref 1), some (.ref 9)], [.ref 74, .ref 73], (SH.take 75, zr (up (up (M) 73 0 (.ref 1)) 73 1 (.ref 9)) 74), 1, 3)
  refine Go.of_run (Ev.mono _) 4 _ ?_
  refine ⟨⟨(by decide : (SH.take 75).length < 1000), ⟨(by decide : ¬ (12 : Int32) < 0), (by decide : (12 : Int32).toNatClampNeg ≤ 65536)⟩, (by decide : 1 + 1 ≤ 2), (by decide : 3 + (12 : Int32).toNatClampNeg ≤ 15)⟩, ?_⟩
  show Go none aM (Ev mt aM (d + 0)) mX10_init Q (26, [some (.ref 73), some (.ref 1), some (.ref 9)], [.ref 75, .ref 73], (SH.take 76, zr (up (zr (up (up (M) 73 0 (.ref 1)) 73 1 (.ref 9)) 74) 73 2 (.ref 74)) 75), 2, 15)
  refine Go.of_run (Ev.mono _) 2 _ ?_
  refine ⟨trivial, ?_⟩
  exact h
def kd_X1_init_0 (M : Nat → Nat → Value) : Nat → Nat → Value := up (up (zr (up (zr (up (zr (up (zr (up (M) 76 1 (.ref 1)) 77) 76 2 (.ref 77)) 78) 76 3 (.ref 78)) 79) 76 4 (.ref 79)) 80) 76 5 (.ref 80)) 77 0 (.int (3000 : Int32))
set_option maxRecDepth 20000 in
theorem kc_X1_init_0 {d : Nat} {M : Nat → Nat → Value} {Q : Option Value → Mem → Prop} (h : Q none (SH.take 81, kd_X1_init_0 M)) : Ev mt aM (d + 1) 13 [.ref 76, .ref 1] (SH.take 77, M) Q := by
  refine Ev.intro (d := d + 0) mX1_init rfl rfl ?_
  show Go none aM (Ev mt aM (d + 0)) mX1_init Q (0, [some (.ref 76), some (.ref 1)], [], (SH.take 77, M), 0, 0)
  refine Go.of_run (Ev.mono _) 2 _ ?_
  refine ⟨Nat.le_of_ble_eq_true rfl, ?_⟩
  show Go none aM (Ev mt aM (d + 0)) mX1_init Q (4, [some (.ref 76), some (.ref 1)], [], (SH.take 77, M), 0, 0)
  refine Go.of_run (Ev.mono _) 6 _ ?_
  refine ⟨⟨(by decide : (SH.take 77).length < 1000), ⟨(by decide : ¬ (6 : Int32) < 0), (by decide : (6 : Int32).toNatClampNeg ≤ 65536)⟩, (by decide : 0 + 1 ≤ 4), (by decide : 0 + (6 : Int32).toNatClampNeg ≤ 22)⟩, ?_⟩
  show Go none aM (Ev mt aM (d + 0)) mX1_init Q (14, [some (.ref 76), some (.ref 1)], [.ref 77, .ref 76], (SH.take 78, zr (up (M) 76 1 (.ref 1)) 77), 1, 6)
  refine Go.of_run (Ev.mono _) 4 _ ?_
  refine ⟨⟨(by decide : (SH.take 78).length < 1000), ⟨(by decide : ¬ (6 : Int32) < 0), (by decide : (6 : Int32).toNatClampNeg ≤ 65536)⟩, (by decide : 1 + 1 ≤ 4), (by decide : 6 + (6 : Int32).toNatClampNeg ≤ 22)⟩, ?_⟩
  show Go none aM (Ev mt aM (d + 0)) mX1_init Q (22, [some (.ref 76), some (.ref 1)], [.ref 78, .ref 76], (SH.take 79, zr (up (zr (up (M) 76 1 (.ref 1)) 77) 76 2 (.ref 77)) 78), 2, 12)
  refine Go.of_run (Ev.mono _) 4 _ ?_
  refine ⟨⟨(by decide : (SH.take 79).length < 1000), ⟨(by decide : ¬ (5 : Int32) < 0), (by decide : (5 : Int32).toNatClampNeg ≤ 65536)⟩, (by decide : 2 + 1 ≤ 4), (by decide : 12 + (5 : Int32).toNatClampNeg ≤ 22)⟩, ?_⟩
  show Go none aM (Ev mt aM (d + 0)) mX1_init Q (29, [some (.ref 76), some (.ref 1)], [.ref 79, .ref 76], (SH.take 80, zr (up (zr (up (zr (up (M) 76 1 (.ref 1)) 77) 76 2 (.ref 77)) 78) 76 3 (.ref 78)) 79), 3, 17)
  refine Go.of_run (Ev.mono _) 4 _ ?_
  refine ⟨⟨(by decide : (SH.take 80).length < 1000), ⟨(by decide : ¬ (5 : Int32) < 0), (by decide : (5 : Int32).toNatClampNeg ≤ 65536)⟩, (by decide : 3 + 1 ≤ 4), (by decide : 17 + (5 : Int32).toNatClampNeg ≤ 22)⟩, ?_⟩
  show Go none aM (Ev mt aM (d + 0)) mX1_init Q (36, [some (.ref 76), some (.ref 1)], [.ref 80, .ref 76], (SH.take 81, zr (up (zr (up (zr (up (zr (up (M) 76 1 (.ref 1)) 77) 76 2 (.ref 77)) 78) 76 3 (.ref 78)) 79) 76 4 (.ref 79)) 80), 4, 22)
  refine Go.of_run (Ev.mono _) 6 _ ?_
  refine ⟨(show vp_in (nI 0) 6 from vp_in_nI (by omega) (by omega)), ?_⟩
  show Go none aM (Ev mt aM (d + 0)) mX1_init Q (48, [some (.ref 76), some (.ref 1)], [], (SH.take 81, up (up (zr (up (zr (up (zr (up (zr (up (M) 76 1 (.ref 1)) 77) 76 2 (.ref 77)) 78) 76 3 (.ref 78)) 79) 76 4 (.ref 79)) 80) 76 5 (.ref 80)) 77 0 (.int (3000 : Int32))), 4, 22)
  refine Go.of_run (Ev.mono _) 1 _ ?_
  refine ⟨trivial, ?_⟩
  exact h
def kd_X6_init_0 (M : Nat → Nat → Value) : Nat → Nat → Value := up (zr (up (M) 81 0 (.ref 1)) 82) 81 1 (.ref 82)
set_option maxRecDepth 20000 in
theorem kc_X6_init_0 {d : Nat} {M : Nat → Nat → Value} {Q : Option Value → Mem → Prop} (h : Q none (SH.take 83, kd_X6_init_0 M)) : Ev mt aM (d + 1) 60 [.ref 81, .ref 1] (SH.take 82, M) Q := by
  refine Ev.intro (d := d + 0) mX6_init rfl rfl ?_
  show Go none aM (Ev mt aM (d + 0)) mX6_init Q (0, [some (.ref 81), some (.ref 1)], [], (SH.take 82, M), 0, 0)
  refine Go.of_run (Ev.mono _) 2 _ ?_
  refine ⟨Nat.le_of_ble_eq_true rfl, ?_⟩
  show Go none aM (Ev mt aM (d + 0)) mX6_init Q (4, [some (.ref 81), some (.ref 1)], [], (SH.take 82, M), 0, 0)
  refine Go.of_run (Ev.mono _) 6 _ ?_
  refine ⟨⟨(by decide : (SH.take 82).length < 1000), ⟨(by decide : ¬ (1024 : Int32) < 0), (by decide : (1024 : Int32).toNatClampNeg ≤ 65536)⟩, (by decide : 0 + 1 ≤ 1), (by decide : 0 + (1024 : Int32).toNatClampNeg ≤ 1024)⟩, ?_⟩
  show Go none aM (Ev mt aM (d + 0)) mX6_init Q (15, [some (.ref 81), some (.ref 1)], [.ref 82, .ref 81], (SH.take 83, zr (up (M) 81 0 (.ref 1)) 82), 1, 1024)
  refine Go.of_run (Ev.mono _) 2 _ ?_
  refine ⟨trivial, ?_⟩
  exact h
def kd_X11_init_0 (M : Nat → Nat → Value) : Nat → Nat → Value := up (up (kd_X6_init_0 (zr (up (kd_X1_init_0 (zr (up (kd_X10_init_0 (zr (up (kd_X0_init_0 (zr (up (kd_X3_init_0 (zr (up (kd_X2_init_0 (zr (up (kd_X8_init_0 (zr (up (kd_X7_init_0 (zr (M) 1)) 0 0 (.ref 1)) 7)) 0 1 (.ref 7)) 9)) 0 2 (.ref 9)) 62)) 0 3 (.ref 62)) 69)) 0 4 (.ref 69)) 73)) 0 5 (.ref 73)) 76)) 0 6 (.ref 76)) 81)) 0 7 (.ref 81)) 0 8 (.int (1 : Int32))
set_option maxRecDepth 20000 in
theorem kc_X11_init_0 {d : Nat} {M : Nat → Nat → Value} {Q : Option Value → Mem → Prop} (h : Q none (SH.take 83, kd_X11_init_0 M)) : Ev mt aM (d + 10) 122 [.ref 0] (SH.take 1, M) Q := by
  refine Ev.intro (d := d + 9) mX11_init rfl rfl ?_
  show Go none aM (Ev mt aM (d + 9)) mX11_init Q (0, [some (.ref 0)], [], (SH.take 1, M), 0, 0)
  refine Go.of_run (Ev.mono _) 2 _ ?_
  refine ⟨Nat.le_of_ble_eq_true rfl, ?_⟩
  show Go none aM (Ev mt aM (d + 9)) mX11_init Q (4, [some (.ref 0)], [], (SH.take 1, M), 0, 0)
  refine Go.of_run (Ev.mono _) 2 _ ?_
  refine ⟨⟨(by decide : (SH.take 1).length < 1000), (by decide : 0 + 1 ≤ 82), (by decide : 0 + 11 ≤ 13009)⟩, ?_⟩
  show Go none aM (Ev mt aM (d + 9)) mX11_init Q (8, [some (.ref 0)], [.ref 1, .ref 0], (SH.take 2, zr (M) 1), 1, 11)
  refine Go.of_run (Ev.mono _) 2 _ ?_
  refine ⟨⟨Nat.le_of_ble_eq_true rfl, (by decide : 1 + (aM 71).1 ≤ 82), (by decide : 11 + (aM 71).2 ≤ 13009)⟩, ?_⟩
  refine kc_X7_init_0 (d := d + 8) ?_
  show Go none aM (Ev mt aM (d + 9)) mX11_init Q (12, [some (.ref 0)], [.ref 1, .ref 0], (SH.take 7, kd_X7_init_0 (zr (M) 1)), 6, 61)
  refine Go.of_run (Ev.mono _) 3 _ ?_
  refine ⟨⟨(by decide : (SH.take 7).length < 1000), (by decide : 6 + 1 ≤ 82), (by decide : 61 + 2 ≤ 13009)⟩, ?_⟩
  show Go none aM (Ev mt aM (d + 9)) mX11_init Q (19, [some (.ref 0)], [.ref 7, .ref 0], (SH.take 8, zr (up (kd_X7_init_0 (zr (M) 1)) 0 0 (.ref 1)) 7), 7, 63)
  refine Go.of_run (Ev.mono _) 2 _ ?_
  refine ⟨⟨Nat.le_of_ble_eq_true rfl, (by decide : 7 + (aM 100).1 ≤ 82), (by decide : 63 + (aM 100).2 ≤ 13009)⟩, ?_⟩
  refine kc_X8_init_0 (d := d + 8) ?_
  show Go none aM (Ev mt aM (d + 9)) mX11_init Q (23, [some (.ref 0)], [.ref 7, .ref 0], (SH.take 9, kd_X8_init_0 (zr (up (kd_X7_init_0 (zr (M) 1)) 0 0 (.ref 1)) 7)), 8, 283)
  refine Go.of_run (Ev.mono _) 3 _ ?_
  refine ⟨⟨(by decide : (SH.take 9).length < 1000), (by decide : 8 + 1 ≤ 82), (by decide : 283 + 3 ≤ 13009)⟩, ?_⟩
  show Go none aM (Ev mt aM (d + 9)) mX11_init Q (30, [some (.ref 0)], [.ref 9, .ref 0], (SH.take 10, zr (up (kd_X8_init_0 (zr (up (kd_X7_init_0 (zr (M) 1)) 0 0 (.ref 1)) 7)) 0 1 (.ref 7)) 9), 9, 286)
  refine Go.of_run (Ev.mono _) 4 _ ?_
  refine ⟨⟨Nat.le_of_ble_eq_true rfl, (by decide : 9 + (aM 20).1 ≤ 82), (by decide : 286 + (aM 20).2 ≤ 13009)⟩, ?_⟩
  refine kc_X2_init_0 (d := d + 6) ?_
  show Go none aM (Ev mt aM (d + 9)) mX11_init Q (38, [some (.ref 0)], [.ref 9, .ref 0], (SH.take 62, kd_X2_init_0 (zr (up (kd_X8_init_0 (zr (up (kd_X7_init_0 (zr (M) 1)) 0 0 (.ref 1)) 7)) 0 1 (.ref 7)) 9)), 61, 2458)
  refine Go.of_run (Ev.mono _) 3 _ ?_
  refine ⟨⟨(by decide : (SH.take 62).length < 1000), (by decide : 61 + 1 ≤ 82), (by decide : 2458 + 8 ≤ 13009)⟩, ?_⟩
  show Go none aM (Ev mt aM (d + 9)) mX11_init Q (45, [some (.ref 0)], [.ref 62, .ref 0], (SH.take 63, zr (up (kd_X2_init_0 (zr (up (kd_X8_init_0 (zr (up (kd_X7_init_0 (zr (M) 1)) 0 0 (.ref 1)) 7)) 0 1 (.ref 7)) 9)) 0 2 (.ref 9)) 62), 62, 2466)
  refine Go.of_run (Ev.mono _) 5 _ ?_
  refine ⟨⟨Nat.le_of_ble_eq_true rfl, (by decide : 62 + (aM 32).1 ≤ 82), (by decide : 2466 + (aM 32).2 ≤ 13009)⟩, ?_⟩
  refine kc_X3_init_0 (d := d + 7) ?_
  show Go none aM (Ev mt aM (d + 9)) mX11_init Q (56, [some (.ref 0)], [.ref 62, .ref 0], (SH.take 69, kd_X3_init_0 (zr (up (kd_X2_init_0 (zr (up (kd_X8_init_0 (zr (up (kd_X7_init_0 (zr (M) 1)) 0 0 (.ref 1)) 7)) 0 1 (.ref 7)) 9)) 0 2 (.ref 9)) 62)), 68, 2729)
  refine Go.of_run (Ev.mono _) 3 _ ?_
  refine ⟨⟨(by decide : (SH.take 69).length < 1000), (by decide : 68 + 1 ≤ 82), (by decide : 2729 + 10 ≤ 13009)⟩, ?_⟩
  show Go none aM (Ev mt aM (d + 9)) mX11_init Q (63, [some (.ref 0)], [.ref 69, .ref 0], (SH.take 70, zr (up (kd_X3_init_0 (zr (up (kd_X2_init_0 (zr (up (kd_X8_init_0 (zr (up (kd_X7_init_0 (zr (M) 1)) 0 0 (.ref 1)) 7)) 0 1 (.ref 7)) 9)) 0 2 (.ref 9)) 62)) 0 3 (.ref 62)) 69), 69, 2739)
  refine Go.of_run (Ev.mono _) 6 _ ?_
  refine ⟨⟨Nat.le_of_ble_eq_true rfl, (by decide : 69 + (aM 0).1 ≤ 82), (by decide : 2739 + (aM 0).2 ≤ 13009)⟩, ?_⟩
  refine kc_X0_init_0 (d := d + 4) ?_
  show Go none aM (Ev mt aM (d + 9)) mX11_init Q (75, [some (.ref 0)], [.ref 69, .ref 0], (SH.take 73, kd_X0_init_0 (zr (up (kd_X3_init_0 (zr (up (kd_X2_init_0 (zr (up (kd_X8_init_0 (zr (up (kd_X7_init_0 (zr (M) 1)) 0 0 (.ref 1)) 7)) 0 1 (.ref 7)) 9)) 0 2 (.ref 9)) 62)) 0 3 (.ref 62)) 69)), 72, 11935)
  refine Go.of_run (Ev.mono _) 3 _ ?_
  refine ⟨⟨(by decide : (SH.take 73).length < 1000), (by decide : 72 + 1 ≤ 82), (by decide : 11935 + 4 ≤ 13009)⟩, ?_⟩
  show Go none aM (Ev mt aM (d + 9)) mX11_init Q (82, [some (.ref 0)], [.ref 73, .ref 0], (SH.take 74, zr (up (kd_X0_init_0 (zr (up (kd_X3_init_0 (zr (up (kd_X2_init_0 (zr (up (kd_X8_init_0 (zr (up (kd_X7_init_0 (zr (M) 1)) 0 0 (.ref 1)) 7)) 0 1 (.ref 7)) 9)) 0 2 (.ref 9)) 62)) 0 3 (.ref 62)) 69)) 0 4 (.ref 69)) 73), 73, 11939)
  refine Go.of_run (Ev.mono _) 6 _ ?_
  refine ⟨⟨Nat.le_of_ble_eq_true rfl, (by decide : 73 + (aM 115).1 ≤ 82), (by decide : 11939 + (aM 115).2 ≤ 13009)⟩, ?_⟩
  refine kc_X10_init_0 (d := d + 8) ?_
  show Go none aM (Ev mt aM (d + 9)) mX11_init Q (94, [some (.ref 0)], [.ref 73, .ref 0], (SH.take 76, kd_X10_init_0 (zr (up (kd_X0_init_0 (zr (up (kd_X3_init_0 (zr (up (kd_X2_init_0 (zr (up (kd_X8_init_0 (zr (up (kd_X7_init_0 (zr (M) 1)) 0 0 (.ref 1)) 7)) 0 1 (.ref 7)) 9)) 0 2 (.ref 9)) 62)) 0 3 (.ref 62)) 69)) 0 4 (.ref 69)) 73)), 75, 11954)
  refine Go.of_run (Ev.mono _) 3 _ ?_
  refine ⟨⟨(by decide : (SH.take 76).length < 1000), (by decide : 75 + 1 ≤ 82), (by decide : 11954 + 6 ≤ 13009)⟩, ?_⟩
  show Go none aM (Ev mt aM (d + 9)) mX11_init Q (101, [some (.ref 0)], [.ref 76, .ref 0], (SH.take 77, zr (up (kd_X10_init_0 (zr (up (kd_X0_init_0 (zr (up (kd_X3_init_0 (zr (up (kd_X2_init_0 (zr (up (kd_X8_init_0 (zr (up (kd_X7_init_0 (zr (M) 1)) 0 0 (.ref 1)) 7)) 0 1 (.ref 7)) 9)) 0 2 (.ref 9)) 62)) 0 3 (.ref 62)) 69)) 0 4 (.ref 69)) 73)) 0 5 (.ref 73)) 76), 76, 11960)
  refine Go.of_run (Ev.mono _) 4 _ ?_
  refine ⟨⟨Nat.le_of_ble_eq_true rfl, (by decide : 76 + (aM 13).1 ≤ 82), (by decide : 11960 + (aM 13).2 ≤ 13009)⟩, ?_⟩
  refine kc_X1_init_0 (d := d + 8) ?_
  show Go none aM (Ev mt aM (d + 9)) mX11_init Q (109, [some (.ref 0)], [.ref 76, .ref 0], (SH.take 81, kd_X1_init_0 (zr (up (kd_X10_init_0 (zr (up (kd_X0_init_0 (zr (up (kd_X3_init_0 (zr (up (kd_X2_init_0 (zr (up (kd_X8_init_0 (zr (up (kd_X7_init_0 (zr (M) 1)) 0 0 (.ref 1)) 7)) 0 1 (.ref 7)) 9)) 0 2 (.ref 9)) 62)) 0 3 (.ref 62)) 69)) 0 4 (.ref 69)) 73)) 0 5 (.ref 73)) 76)), 80, 11982)
  refine Go.of_run (Ev.mono _) 3 _ ?_
  refine ⟨⟨(by decide : (SH.take 81).length < 1000), (by decide : 80 + 1 ≤ 82), (by decide : 11982 + 3 ≤ 13009)⟩, ?_⟩
  show Go none aM (Ev mt aM (d + 9)) mX11_init Q (116, [some (.ref 0)], [.ref 81, .ref 0], (SH.take 82, zr (up (kd_X1_init_0 (zr (up (kd_X10_init_0 (zr (up (kd_X0_init_0 (zr (up (kd_X3_init_0 (zr (up (kd_X2_init_0 (zr (up (kd_X8_init_0 (zr (up (kd_X7_init_0 (zr (M) 1)) 0 0 (.ref 1)) 7)) 0 1 (.ref 7)) 9)) 0 2 (.ref 9)) 62)) 0 3 (.ref 62)) 69)) 0 4 (.ref 69)) 73)) 0 5 (.ref 73)) 76)) 0 6 (.ref 76)) 81), 81, 11985)
  refine Go.of_run (Ev.mono _) 4 _ ?_
  refine ⟨⟨Nat.le_of_ble_eq_true rfl, (by decide : 81 + (aM 60).1 ≤ 82), (by decide : 11985 + (aM 60).2 ≤ 13009)⟩, ?_⟩
  refine kc_X6_init_0 (d := d + 8) ?_
  show Go none aM (Ev mt aM (d + 9)) mX11_init Q (124, [some (.ref 0)], [.ref 81, .ref 0], (SH.take 83, kd_X6_init_0 (zr (up (kd_X1_init_0 (zr (up (kd_X10_init_0 (zr (up (kd_X0_init_0 (zr (up (kd_X3_init_0 (zr (up (kd_X2_init_0 (zr (up (kd_X8_init_0 (zr (up (kd_X7_init_0 (zr (M) 1)) 0 0 (.ref 1)) 7)) 0 1 (.ref 7)) 9)) 0 2 (.ref 9)) 62)) 0 3 (.ref 62)) 69)) 0 4 (.ref 69)) 73)) 0 5 (.ref 73)) 76)) 0 6 (.ref 76)) 81)), 82, 13009)
  refine Go.of_run (Ev.mono _) 5 _ ?_
  refine ⟨trivial, ?_⟩
  exact h
def kd_X12_init_0 (M : Nat → Nat → Value) : Nat → Nat → Value := up (up (up (up (up (up (up (up (up (up (up (up (up (up (zr (up (zr (up (zr (up (zr (up (zr (up (zr (up (zr (up (zr (up (zr (up (zr (up (zr (up (zr (up (zr (up (zr (up (zr (up (zr (up (zr (up (zr (up (zr (up (zr (up (zr (up (zr (up (zr (up (zr (up (zr (up (zr (up (zr (up (zr (up (zr (up (zr (up (zr (up (zr (up (zr (up (zr (M) 84) 83 4 (.ref 84)) 85) 83 5 (.ref 85)) 86) 83 6 (.ref 86)) 87) 83 7 (.ref 87)) 88) 83 8 (.ref 88)) 89) 83 9 (.ref 89)) 90) 83 10 (.ref 90)) 91) 83 20 (.ref 91)) 92) 83 21 (.ref 92)) 93) 83 22 (.ref 93)) 94) 83 23 (.ref 94)) 95) 83 24 (.ref 95)) 96) 83 25 (.ref 96)) 97) 83 26 (.ref 97)) 98) 83 27 (.ref 98)) 99) 83 28 (.ref 99)) 100) 83 29 (.ref 100)) 101) 83 30 (.ref 101)) 102) 83 31 (.ref 102)) 103) 83 32 (.ref 103)) 104) 83 33 (.ref 104)) 105) 83 37 (.ref 105)) 106) 83 38 (.ref 106)) 107) 83 39 (.ref 107)) 108) 83 40 (.ref 108)) 109) 83 41 (.ref 109)) 110) 83 42 (.ref 110)) 111) 83 43 (.ref 111)) 112) 83 47 (.ref 112)) 113) 83 49 (.ref 113)) 114) 83 50 (.ref 114)) 115) 83 51 (.ref 115)) 116) 83 52 (.ref 116)) 117) 83 53 (.ref 117)) 83 0 (.int (4 : Int32))) 83 1 (.int (3 : Int32))) 83 2 (.int (2 : Int32))) 84 0 (.int (3 : Int32))) 84 1 (.int (1 : Int32))) 83 3 (.int (1 : Int32))) 89 0 (.int (3 : Int32))) 89 1 (.int (3 : Int32))) 89 2 (.int (3 : Int32))) 89 3 (.int (3 : Int32))) 89 4 (.int (3 : Int32))) 83 34 (.int (3 : Int32))) 83 35 (.int (2 : Int32))
set_option maxRecDepth 20000 in
theorem kc_X12_init_0 {d : Nat} {M : Nat → Nat → Value} {Q : Option Value → Mem → Prop} (h : Q none (SH.take 118, kd_X12_init_0 M)) : Ev mt aM (d + 1) 173 [.ref 83] (SH.take 84, M) Q := by
  refine Ev.intro (d := d + 0) mX12_init rfl rfl ?_
  show Go none aM (Ev mt aM (d + 0)) mX12_init Q (0, [some (.ref 83), none], [], (SH.take 84, M), 0, 0)
  refine Go.of_run (Ev.mono _) 2 _ ?_
  refine ⟨Nat.le_of_ble_eq_true rfl, ?_⟩
  show Go none aM (Ev mt aM (d + 0)) mX12_init Q (4, [some (.ref 83), none], [], (SH.take 84, M), 0, 0)
  refine Go.of_run (Ev.mono _) 3 _ ?_
  refine ⟨⟨(by decide : (SH.take 84).length < 1000), ⟨(by decide : ¬ (3 : Int32) < 0), (by decide : (3 : Int32).toNatClampNeg ≤ 65536)⟩, (by decide : 0 + 1 ≤ 34), (by decide : 0 + (3 : Int32).toNatClampNeg ≤ 381118)⟩, ?_⟩
  show Go none aM (Ev mt aM (d + 0)) mX12_init Q (8, [some (.ref 83), none], [.ref 84, .ref 83], (SH.take 85, zr (M) 84), 1, 3)
  refine Go.of_run (Ev.mono _) 4 _ ?_
  refine ⟨⟨(by decide : (SH.take 85).length < 1000), ⟨(by decide : ¬ (10 : Int32) < 0), (by decide : (10 : Int32).toNatClampNeg ≤ 65536)⟩, (by decide : 1 + 1 ≤ 34), (by decide : 3 + (10 : Int32).toNatClampNeg ≤ 381118)⟩, ?_⟩
  show Go none aM (Ev mt aM (d + 0)) mX12_init Q (16, [some (.ref 83), none], [.ref 85, .ref 83], (SH.take 86, zr (up (zr (M) 84) 83 4 (.ref 84)) 85), 2, 13)
  refine Go.of_run (Ev.mono _) 4 _ ?_
  refine ⟨⟨(by decide : (SH.take 86).length < 1000), ⟨(by decide : ¬ (5 : Int32) < 0), (by decide : (5 : Int32).toNatClampNeg ≤ 65536)⟩, (by decide : 2 + 1 ≤ 34), (by decide : 13 + (5 : Int32).toNatClampNeg ≤ 381118)⟩, ?_⟩
  show Go none aM (Ev mt aM (d + 0)) mX12_init Q (23, [some (.ref 83), none], [.ref 86, .ref 83], (SH.take 87, zr (up (zr (up (zr (M) 84) 83 4 (.ref 84)) 85) 83 5 (.ref 85)) 86), 3, 18)
  refine Go.of_run (Ev.mono _) 4 _ ?_
  refine ⟨⟨(by decide : (SH.take 87).length < 1000), ⟨(by decide : ¬ (5 : Int32) < 0), (by decide : (5 : Int32).toNatClampNeg ≤ 65536)⟩, (by decide : 3 + 1 ≤ 34), (by decide : 18 + (5 : Int32).toNatClampNeg ≤ 381118)⟩, ?_⟩
  show Go none aM (Ev mt aM (d + 0)) mX12_init Q (30, [some (.ref 83), none], [.ref 87, .ref 83], (SH.take 88, zr (up (zr (up (zr (up (zr (M) 84) 83 4 (.ref 84)) 85) 83 5 (.ref 85)) 86) 83 6 (.ref 86)) 87), 4, 23)
  refine Go.of_run (Ev.mono _) 4 _ ?_
  refine ⟨⟨(by decide : (SH.take 88).length < 1000), ⟨(by decide : ¬ (25 : Int32) < 0), (by decide : (25 : Int32).toNatClampNeg ≤ 65536)⟩, (by decide : 4 + 1 ≤ 34), (by decide : 23 + (25 : Int32).toNatClampNeg ≤ 381118)⟩, ?_⟩
  show Go none aM (Ev mt aM (d + 0)) mX12_init Q (38, [some (.ref 83), none], [.ref 88, .ref 83], (SH.take 89, zr (up (zr (up (zr (up (zr (up (zr (M) 84) 83 4 (.ref 84)) 85) 83 5 (.ref 85)) 86) 83 6 (.ref 86)) 87) 83 7 (.ref 87)) 88), 5, 48)
  refine Go.of_run (Ev.mono _) 4 _ ?_
  refine ⟨⟨(by decide : (SH.take 89).length < 1000), ⟨(by decide : ¬ (5 : Int32) < 0), (by decide : (5 : Int32).toNatClampNeg ≤ 65536)⟩, (by decide : 5 + 1 ≤ 34), (by decide : 48 + (5 : Int32).toNatClampNeg ≤ 381118)⟩, ?_⟩
  show Go none aM (Ev mt aM (d + 0)) mX12_init Q (45, [some (.ref 83), none], [.ref 89, .ref 83], (SH.take 90, zr (up (zr (up (zr (up (zr (up (zr (up (zr (M) 84) 83 4 (.ref 84)) 85) 83 5 (.ref 85)) 86) 83 6 (.ref 86)) 87) 83 7 (.ref 87)) 88) 83 8 (.ref 88)) 89), 6, 53)
  refine Go.of_run (Ev.mono _) 4 _ ?_
  refine ⟨⟨(by decide : (SH.take 90).length < 1000), ⟨(by decide : ¬ (220 : Int32) < 0), (by decide : (220 : Int32).toNatClampNeg ≤ 65536)⟩, (by decide : 6 + 1 ≤ 34), (by decide : 53 + (220 : Int32).toNatClampNeg ≤ 381118)⟩, ?_⟩
  show Go none aM (Ev mt aM (d + 0)) mX12_init Q (54, [some (.ref 83), none], [.ref 90, .ref 83], (SH.take 91, zr (up (zr (up (zr (up (zr (up (zr (up (zr (up (zr (M) 84) 83 4 (.ref 84)) 85) 83 5 (.ref 85)) 86) 83 6 (.ref 86)) 87) 83 7 (.ref 87)) 88) 83 8 (.ref 88)) 89) 83 9 (.ref 89)) 90), 7, 273)
  refine Go.of_run (Ev.mono _) 4 _ ?_
  refine ⟨⟨(by decide : (SH.take 91).length < 1000), ⟨(by decide : ¬ (220 : Int32) < 0), (by decide : (220 : Int32).toNatClampNeg ≤ 65536)⟩, (by decide : 7 + 1 ≤ 34), (by decide : 273 + (220 : Int32).toNatClampNeg ≤ 381118)⟩, ?_⟩
  show Go none aM (Ev mt aM (d + 0)) mX12_init Q (63, [some (.ref 83), none], [.ref 91, .ref 83], (SH.take 92, zr (up (zr (up (zr (up (zr (up (zr (up (zr (up (zr (up (zr (M) 84) 83 4 (.ref 84)) 85) 83 5 (.ref 85)) 86) 83 6 (.ref 86)) 87) 83 7 (.ref 87)) 88) 83 8 (.ref 88)) 89) 83 9 (.ref 89)) 90) 83 10 (.ref 90)) 91), 8, 493)
  refine Go.of_run (Ev.mono _) 4 _ ?_
  refine ⟨⟨(by decide : (SH.take 92).length < 1000), ⟨(by decide : ¬ (220 : Int32) < 0), (by decide : (220 : Int32).toNatClampNeg ≤ 65536)⟩, (by decide : 8 + 1 ≤ 34), (by decide : 493 + (220 : Int32).toNatClampNeg ≤ 381118)⟩, ?_⟩
  show Go none aM (Ev mt aM (d + 0)) mX12_init Q (72, [some (.ref 83), none], [.ref 92, .ref 83], (SH.take 93, zr (up (zr (up (zr (up (zr (up (zr (up (zr (up (zr (up (zr (up (zr (M) 84) 83 4 (.ref 84)) 85) 83 5 (.ref 85)) 86) 83 6 (.ref 86)) 87) 83 7 (.ref 87)) 88) 83 8 (.ref 88)) 89) 83 9 (.ref 89)) 90) 83 10 (.ref 90)) 91) 83 20 (.ref 91)) 92), 9, 713)
  refine Go.of_run (Ev.mono _) 4 _ ?_
  refine ⟨⟨(by decide : (SH.take 93).length < 1000), ⟨(by decide : ¬ (14 : Int32) < 0), (by decide : (14 : Int32).toNatClampNeg ≤ 65536)⟩, (by decide : 9 + 1 ≤ 34), (by decide : 713 + (14 : Int32).toNatClampNeg ≤ 381118)⟩, ?_⟩
  show Go none aM (Ev mt aM (d + 0)) mX12_init Q (80, [some (.ref 83), none], [.ref 93, .ref 83], (SH.take 94, zr (up (zr (up (zr (up (zr (up (zr (up (zr (up (zr (up (zr (up (zr (up (zr (M) 84) 83 4 (.ref 84)) 85) 83 5 (.ref 85)) 86) 83 6 (.ref 86)) 87) 83 7 (.ref 87)) 88) 83 8 (.ref 88)) 89) 83 9 (.ref 89)) 90) 83 10 (.ref 90)) 91) 83 20 (.ref 91)) 92) 83 21 (.ref 92)) 93), 10, 727)
  refine Go.of_run (Ev.mono _) 4 _ ?_
  refine ⟨⟨(by decide : (SH.take 94).length < 1000), ⟨(by decide : ¬ (14 : Int32) < 0), (by decide : (14 : Int32).toNatClampNeg ≤ 65536)⟩, (by decide : 10 + 1 ≤ 34), (by decide : 727 + (14 : Int32).toNatClampNeg ≤ 381118)⟩, ?_⟩
  show Go none aM (Ev mt aM (d + 0)) mX12_init Q (88, [some (.ref 83), none], [.ref 94, .ref 83], (SH.take 95, zr (up (zr (up (zr (up (zr (up (zr (up (zr (up (zr (up (zr (up (zr (up (zr (up (zr (M) 84) 83 4 (.ref 84)) 85) 83 5 (.ref 85)) 86) 83 6 (.ref 86)) 87) 83 7 (.ref 87)) 88) 83 8 (.ref 88)) 89) 83 9 (.ref 89)) 90) 83 10 (.ref 90)) 91) 83 20 (.ref 91)) 92) 83 21 (.ref 92)) 93) 83 22 (.ref 93)) 94), 11, 741)
  refine Go.of_run (Ev.mono _) 4 _ ?_
  refine ⟨⟨(by decide : (SH.take 95).length < 1000), ⟨(by decide : ¬ (14 : Int32) < 0), (by decide : (14 : Int32).toNatClampNeg ≤ 65536)⟩, (by decide : 11 + 1 ≤ 34), (by decide : 741 + (14 : Int32).toNatClampNeg ≤ 381118)⟩, ?_⟩
  show Go none aM (Ev mt aM (d + 0)) mX12_init Q (96, [some (.ref 83), none], [.ref 95, .ref 83], (SH.take 96, zr (up (zr (up (zr (up (zr (up (zr (up (zr (up (zr (up (zr (up (zr (up (zr (up (zr (up (zr (M) 84) 83 4 (.ref 84)) 85) 83 5 (.ref 85)) 86) 83 6 (.ref 86)) 87) 83 7 (.ref 87)) 88) 83 8 (.ref 88)) 89) 83 9 (.ref 89)) 90) 83 10 (.ref 90)) 91) 83 20 (.ref 91)) 92) 83 21 (.ref 92)) 93) 83 22 (.ref 93)) 94) 83 23 (.ref 94)) 95), 12, 755)
  refine Go.of_run (Ev.mono _) 4 _ ?_
  refine ⟨⟨(by decide : (SH.take 96).length < 1000), ⟨(by decide : ¬ (14 : Int32) < 0), (by decide : (14 : Int32).toNatClampNeg ≤ 65536)⟩, (by decide : 12 + 1 ≤ 34), (by decide : 755 + (14 : Int32).toNatClampNeg ≤ 381118)⟩, ?_⟩
  show Go none aM (Ev mt aM (d + 0)) mX12_init Q (104, [some (.ref 83), none], [.ref 96, .ref 83], (SH.take 97, zr (up (zr (up (zr (up (zr (up (zr (up (zr (up (zr (up (zr (up (zr (up (zr (up (zr (up (zr (up (zr (M) 84) 83 4 (.ref 84)) 85) 83 5 (.ref 85)) 86) 83 6 (.ref 86)) 87) 83 7 (.ref 87)) 88) 83 8 (.ref 88)) 89) 83 9 (.ref 89)) 90) 83 10 (.ref 90)) 91) 83 20 (.ref 91)) 92) 83 21 (.ref 92)) 93) 83 22 (.ref 93)) 94) 83 23 (.ref 94)) 95) 83 24 (.ref 95)) 96), 13, 769)
  refine Go.of_run (Ev.mono _) 4 _ ?_
  refine ⟨⟨(by decide : (SH.take 97).length < 1000), ⟨(by decide : ¬ (1760 : Int32) < 0), (by decide : (1760 : Int32).toNatClampNeg ≤ 65536)⟩, (by decide : 13 + 1 ≤ 34), (by decide : 769 + (1760 : Int32).toNatClampNeg ≤ 381118)⟩, ?_⟩
  show Go none aM (Ev mt aM (d + 0)) mX12_init Q (113, [some (.ref 83), none], [.ref 97, .ref 83], (SH.take 98, zr (up (zr (up (zr (up (zr (up (zr (up (zr (up (zr (up (zr (up (zr (up (zr (up (zr (up (zr (up (zr (up (zr (M) 84) 83 4 (.ref 84)) 85) 83 5 (.ref 85)) 86) 83 6 (.ref 86)) 87) 83 7 (.ref 87)) 88) 83 8 (.ref 88)) 89) 83 9 (.ref 89)) 90) 83 10 (.ref 90)) 91) 83 20 (.ref 91)) 92) 83 21 (.ref 92)) 93) 83 22 (.ref 93)) 94) 83 23 (.ref 94)) 95) 83 24 (.ref 95)) 96) 83 25 (.ref 96)) 97), 14, 2529)
  refine Go.of_run (Ev.mono _) 4 _ ?_
  refine ⟨⟨(by decide : (SH.take 98).length < 1000), ⟨(by decide : ¬ (8 : Int32) < 0), (by decide : (8 : Int32).toNatClampNeg ≤ 65536)⟩, (by decide : 14 + 1 ≤ 34), (by decide : 2529 + (8 : Int32).toNatClampNeg ≤ 381118)⟩, ?_⟩
  show Go none aM (Ev mt aM (d + 0)) mX12_init Q (121, [some (.ref 83), none], [.ref 98, .ref 83], (SH.take 99, zr (up (zr (up (zr (up (zr (up (zr (up (zr (up (zr (up (zr (up (zr (up (zr (up (zr (up (zr (up (zr (up (zr (up (zr (M) 84) 83 4 (.ref 84)) 85) 83 5 (.ref 85)) 86) 83 6 (.ref 86)) 87) 83 7 (.ref 87)) 88) 83 8 (.ref 88)) 89) 83 9 (.ref 89)) 90) 83 10 (.ref 90)) 91) 83 20 (.ref 91)) 92) 83 21 (.ref 92)) 93) 83 22 (.ref 93)) 94) 83 23 (.ref 94)) 95) 83 24 (.ref 95)) 96) 83 25 (.ref 96)) 97) 83 26 (.ref 97)) 98), 15, 2537)
  refine Go.of_run (Ev.mono _) 4 _ ?_
  refine ⟨⟨(by decide : (SH.take 99).length < 1000), ⟨(by decide : ¬ (112 : Int32) < 0), (by decide : (112 : Int32).toNatClampNeg ≤ 65536)⟩, (by decide : 15 + 1 ≤ 34), (by decide : 2537 + (112 : Int32).toNatClampNeg ≤ 381118)⟩, ?_⟩
  show Go none aM (Ev mt aM (d + 0)) mX12_init Q (129, [some (.ref 83), none], [.ref 99, .ref 83], (SH.take 100, zr (up (zr (up (zr (up (zr (up (zr (up (zr (up (zr (up (zr (up (zr (up (zr (up (zr (up (zr (up (zr (up (zr (up (zr (up (zr (M) 84) 83 4 (.ref 84)) 85) 83 5 (.ref 85)) 86) 83 6 (.ref 86)) 87) 83 7 (.ref 87)) 88) 83 8 (.ref 88)) 89) 83 9 (.ref 89)) 90) 83 10 (.ref 90)) 91) 83 20 (.ref 91)) 92) 83 21 (.ref 92)) 93) 83 22 (.ref 93)) 94) 83 23 (.ref 94)) 95) 83 24 (.ref 95)) 96) 83 25 (.ref 96)) 97) 83 26 (.ref 97)) 98) 83 27 (.ref 98)) 99), 16, 2649)
  refine Go.of_run (Ev.mono _) 4 _ ?_
  refine ⟨⟨(by decide : (SH.take 100).length < 1000), ⟨(by decide : ¬ (112 : Int32) < 0), (by decide : (112 : Int32).toNatClampNeg ≤ 65536)⟩, (by decide : 16 + 1 ≤ 34), (by decide : 2649 + (112 : Int32).toNatClampNeg ≤ 381118)⟩, ?_⟩
  show Go none aM (Ev mt aM (d + 0)) mX12_init Q (137, [some (.ref 83), none], [.ref 100, .ref 83], (SH.take 101, zr (up (zr (up (zr (up (zr (up (zr (up (zr (up (zr (up (zr (up (zr (up (zr (up (zr (up (zr (up (zr (up (zr (up (zr (up (zr (up (zr (M) 84) 83 4 (.ref 84)) 85) 83 5 (.ref 85)) 86) 83 6 (.ref 86)) 87) 83 7 (.ref 87)) 88) 83 8 (.ref 88)) 89) 83 9 (.ref 89)) 90) 83 10 (.ref 90)) 91) 83 20 (.ref 91)) 92) 83 21 (.ref 92)) 93) 83 22 (.ref 93)) 94) 83 23 (.ref 94)) 95) 83 24 (.ref 95)) 96) 83 25 (.ref 96)) 97) 83 26 (.ref 97)) 98) 83 27 (.ref 98)) 99) 83 28 (.ref 99)) 100), 17, 2761)
  refine Go.of_run (Ev.mono _) 4 _ ?_
  refine ⟨⟨(by decide : (SH.take 101).length < 1000), ⟨(by decide : ¬ (112 : Int32) < 0), (by decide : (112 : Int32).toNatClampNeg ≤ 65536)⟩, (by decide : 17 + 1 ≤ 34), (by decide : 2761 + (112 : Int32).toNatClampNeg ≤ 381118)⟩, ?_⟩
  show Go none aM (Ev mt aM (d + 0)) mX12_init Q (145, [some (.ref 83), none], [.ref 101, .ref 83], (SH.take 102, zr (up (zr (up (zr (up (zr (up (zr (up (zr (up (zr (up (zr (up (zr (up (zr (up (zr (up (zr (up (zr (up (zr (up (zr (up (zr (up (zr (up (zr (M) 84) 83 4 (.ref 84)) 85) 83 5 (.ref 85)) 86) 83 6 (.ref 86)) 87) 83 7 (.ref 87)) 88) 83 8 (.ref 88)) 89) 83 9 (.ref 89)) 90) 83 10 (.ref 90)) 91) 83 20 (.ref 91)) 92) 83 21 (.ref 92)) 93) 83 22 (.ref 93)) 94) 83 23 (.ref 94)) 95) 83 24 (.ref 95)) 96) 83 25 (.ref 96)) 97) 83 26 (.ref 97)) 98) 83 27 (.ref 98)) 99) 83 28 (.ref 99)) 100) 83 29 (.ref 100)) 101), 18, 2873)
  refine Go.of_run (Ev.mono _) 4 _ ?_
  refine ⟨⟨(by decide : (SH.take 102).length < 1000), ⟨(by decide : ¬ (112 : Int32) < 0), (by decide : (112 : Int32).toNatClampNeg ≤ 65536)⟩, (by decide : 18 + 1 ≤ 34), (by decide : 2873 + (112 : Int32).toNatClampNeg ≤ 381118)⟩, ?_⟩
  show Go none aM (Ev mt aM (d + 0)) mX12_init Q (153, [some (.ref 83), none], [.ref 102, .ref 83], (SH.take 103, zr (up (zr (up (zr (up (zr (up (zr (up (zr (up (zr (up (zr (up (zr (up (zr (up (zr (up (zr (up (zr (up (zr (up (zr (up (zr (up (zr (up (zr (up (zr (M) 84) 83 4 (.ref 84)) 85) 83 5 (.ref 85)) 86) 83 6 (.ref 86)) 87) 83 7 (.ref 87)) 88) 83 8 (.ref 88)) 89) 83 9 (.ref 89)) 90) 83 10 (.ref 90)) 91) 83 20 (.ref 91)) 92) 83 21 (.ref 92)) 93) 83 22 (.ref 93)) 94) 83 23 (.ref 94)) 95) 83 24 (.ref 95)) 96) 83 25 (.ref 96)) 97) 83 26 (.ref 97)) 98) 83 27 (.ref 98)) 99) 83 28 (.ref 99)) 100) 83 29 (.ref 100)) 101) 83 30 (.ref 101)) 102), 19, 2985)
  refine Go.of_run (Ev.mono _) 4 _ ?_
  refine ⟨⟨(by decide : (SH.take 103).length < 1000), ⟨(by decide : ¬ (220 : Int32) < 0), (by decide : (220 : Int32).toNatClampNeg ≤ 65536)⟩, (by decide : 19 + 1 ≤ 34), (by decide : 2985 + (220 : Int32).toNatClampNeg ≤ 381118)⟩, ?_⟩
  show Go none aM (Ev mt aM (d + 0)) mX12_init Q (162, [some (.ref 83), none], [.ref 103, .ref 83], (SH.take 104, zr (up (zr (up (zr (up (zr (up (zr (up (zr (up (zr (up (zr (up (zr (up (zr (up (zr (up (zr (up (zr (up (zr (up (zr (up (zr (up (zr (up (zr (up (zr (up (zr (M) 84) 83 4 (.ref 84)) 85) 83 5 (.ref 85)) 86) 83 6 (.ref 86)) 87) 83 7 (.ref 87)) 88) 83 8 (.ref 88)) 89) 83 9 (.ref 89)) 90) 83 10 (.ref 90)) 91) 83 20 (.ref 91)) 92) 83 21 (.ref 92)) 93) 83 22 (.ref 93)) 94) 83 23 (.ref 94)) 95) 83 24 (.ref 95)) 96) 83 25 (.ref 96)) 97) 83 26 (.ref 97)) 98) 83 27 (.ref 98)) 99) 83 28 (.ref 99)) 100) 83 29 (.ref 100)) 101) 83 30 (.ref 101)) 102) 83 31 (.ref 102)) 103), 20, 3205)
  refine Go.of_run (Ev.mono _) 4 _ ?_
  refine ⟨⟨(by decide : (SH.take 104).length < 1000), ⟨(by decide : ¬ (16 : Int32) < 0), (by decide : (16 : Int32).toNatClampNeg ≤ 65536)⟩, (by decide : 20 + 1 ≤ 34), (by decide : 3205 + (16 : Int32).toNatClampNeg ≤ 381118)⟩, ?_⟩
  show Go none aM (Ev mt aM (d + 0)) mX12_init Q (170, [some (.ref 83), none], [.ref 104, .ref 83], (SH.take 105, zr (up (zr (up (zr (up (zr (up (zr (up (zr (up (zr (up (zr (up (zr (up (zr (up (zr (up (zr (up (zr (up (zr (up (zr (up (zr (up (zr (up (zr (up (zr (up (zr (up (zr (M) 84) 83 4 (.ref 84)) 85) 83 5 (.ref 85)) 86) 83 6 (.ref 86)) 87) 83 7 (.ref 87)) 88) 83 8 (.ref 88)) 89) 83 9 (.ref 89)) 90) 83 10 (.ref 90)) 91) 83 20 (.ref 91)) 92) 83 21 (.ref 92)) 93) 83 22 (.ref 93)) 94) 83 23 (.ref 94)) 95) 83 24 (.ref 95)) 96) 83 25 (.ref 96)) 97) 83 26 (.ref 97)) 98) 83 27 (.ref 98)) 99) 83 28 (.ref 99)) 100) 83 29 (.ref 100)) 101) 83 30 (.ref 101)) 102) 83 31 (.ref 102)) 103) 83 32 (.ref 103)) 104), 21, 3221)
  refine Go.of_run (Ev.mono _) 4 _ ?_
  refine ⟨⟨(by decide : (SH.take 105).length < 1000), ⟨(by decide : ¬ (5 : Int32) < 0), (by decide : (5 : Int32).toNatClampNeg ≤ 65536)⟩, (by decide : 21 + 1 ≤ 34), (by decide : 3221 + (5 : Int32).toNatClampNeg ≤ 381118)⟩, ?_⟩
  show Go none aM (Ev mt aM (d + 0)) mX12_init Q (177, [some (.ref 83), none], [.ref 105, .ref 83], (SH.take 106, zr (up (zr (up (zr (up (zr (up (zr (up (zr (up (zr (up (zr (up (zr (up (zr (up (zr (up (zr (up (zr (up (zr (up (zr (up (zr (up (zr (up (zr (up (zr (up (zr (up (zr (up (zr (M) 84) 83 4 (.ref 84)) 85) 83 5 (.ref 85)) 86) 83 6 (.ref 86)) 87) 83 7 (.ref 87)) 88) 83 8 (.ref 88)) 89) 83 9 (.ref 89)) 90) 83 10 (.ref 90)) 91) 83 20 (.ref 91)) 92) 83 21 (.ref 92)) 93) 83 22 (.ref 93)) 94) 83 23 (.ref 94)) 95) 83 24 (.ref 95)) 96) 83 25 (.ref 96)) 97) 83 26 (.ref 97)) 98) 83 27 (.ref 98)) 99) 83 28 (.ref 99)) 100) 83 29 (.ref 100)) 101) 83 30 (.ref 101)) 102) 83 31 (.ref 102)) 103) 83 32 (.ref 103)) 104) 83 33 (.ref 104)) 105), 22, 3226)
  refine Go.of_run (Ev.mono _) 4 _ ?_
  refine ⟨⟨(by decide : (SH.take 106).length < 1000), ⟨(by decide : ¬ (61440 : Int32) < 0), (by decide : (61440 : Int32).toNatClampNeg ≤ 65536)⟩, (by decide : 22 + 1 ≤ 34), (by decide : 3226 + (61440 : Int32).toNatClampNeg ≤ 381118)⟩, ?_⟩
  show Go none aM (Ev mt aM (d + 0)) mX12_init Q (185, [some (.ref 83), none], [.ref 106, .ref 83], (SH.take 107, zr (up (zr (up (zr (up (zr (up (zr (up (zr (up (zr (up (zr (up (zr (up (zr (up (zr (up (zr (up (zr (up (zr (up (zr (up (zr (up (zr (up (zr (up (zr (up (zr (up (zr (up (zr (up (zr (M) 84) 83 4 (.ref 84)) 85) 83 5 (.ref 85)) 86) 83 6 (.ref 86)) 87) 83 7 (.ref 87)) 88) 83 8 (.ref 88)) 89) 83 9 (.ref 89)) 90) 83 10 (.ref 90)) 91) 83 20 (.ref 91)) 92) 83 21 (.ref 92)) 93) 83 22 (.ref 93)) 94) 83 23 (.ref 94)) 95) 83 24 (.ref 95)) 96) 83 25 (.ref 96)) 97) 83 26 (.ref 97)) 98) 83 27 (.ref 98)) 99) 83 28 (.ref 99)) 100) 83 29 (.ref 100)) 101) 83 30 (.ref 101)) 102) 83 31 (.ref 102)) 103) 83 32 (.ref 103)) 104) 83 33 (.ref 104)) 105) 83 37 (.ref 105)) 106), 23, 64666)
  refine Go.of_run (Ev.mono _) 4 _ ?_
  refine ⟨⟨(by decide : (SH.take 107).length < 1000), ⟨(by decide : ¬ (61440 : Int32) < 0), (by decide : (61440 : Int32).toNatClampNeg ≤ 65536)⟩, (by decide : 23 + 1 ≤ 34), (by decide : 64666 + (61440 : Int32).toNatClampNeg ≤ 381118)⟩, ?_⟩
  show Go none aM (Ev mt aM (d + 0)) mX12_init Q (193, [some (.ref 83), none], [.ref 107, .ref 83], (SH.take 108, zr (up (zr (up (zr (up (zr (up (zr (up (zr (up (zr (up (zr (up (zr (up (zr (up (zr (up (zr (up (zr (up (zr (up (zr (up (zr (up (zr (up (zr (up (zr (up (zr (up (zr (up (zr (up (zr (up (zr (M) 84) 83 4 (.ref 84)) 85) 83 5 (.ref 85)) 86) 83 6 (.ref 86)) 87) 83 7 (.ref 87)) 88) 83 8 (.ref 88)) 89) 83 9 (.ref 89)) 90) 83 10 (.ref 90)) 91) 83 20 (.ref 91)) 92) 83 21 (.ref 92)) 93) 83 22 (.ref 93)) 94) 83 23 (.ref 94)) 95) 83 24 (.ref 95)) 96) 83 25 (.ref 96)) 97) 83 26 (.ref 97)) 98) 83 27 (.ref 98)) 99) 83 28 (.ref 99)) 100) 83 29 (.ref 100)) 101) 83 30 (.ref 101)) 102) 83 31 (.ref 102)) 103) 83 32 (.ref 103)) 104) 83 33 (.ref 104)) 105) 83 37 (.ref 105)) 106) 83 38 (.ref 106)) 107), 24, 126106)
  refine Go.of_run (Ev.mono _) 4 _ ?_
  refine ⟨⟨(by decide : (SH.take 108).length < 1000), ⟨(by decide : ¬ (61440 : Int32) < 0), (by decide : (61440 : Int32).toNatClampNeg ≤ 65536)⟩, (by decide : 24 + 1 ≤ 34), (by decide : 126106 + (61440 : Int32).toNatClampNeg ≤ 381118)⟩, ?_⟩
  show Go none aM (Ev mt aM (d + 0)) mX12_init Q (201, [some (.ref 83), none], [.ref 108, .ref 83], (SH.take 109, zr (up (zr (up (zr (up (zr (up (zr (up (zr (up (zr (up (zr (up (zr (up (zr (up (zr (up (zr (up (zr (up (zr (up (zr (up (zr (up (zr (up (zr (up (zr (up (zr (up (zr (up (zr (up (zr (up (zr (up (zr (M) 84) 83 4 (.ref 84)) 85) 83 5 (.ref 85)) 86) 83 6 (.ref 86)) 87) 83 7 (.ref 87)) 88) 83 8 (.ref 88)) 89) 83 9 (.ref 89)) 90) 83 10 (.ref 90)) 91) 83 20 (.ref 91)) 92) 83 21 (.ref 92)) 93) 83 22 (.ref 93)) 94) 83 23 (.ref 94)) 95) 83 24 (.ref 95)) 96) 83 25 (.ref 96)) 97) 83 26 (.ref 97)) 98) 83 27 (.ref 98)) 99) 83 28 (.ref 99)) 100) 83 29 (.ref 100)) 101) 83 30 (.ref 101)) 102) 83 31 (.ref 102)) 103) 83 32 (.ref 103)) 104) 83 33 (.ref 104)) 105) 83 37 (.ref 105)) 106) 83 38 (.ref 106)) 107) 83 39 (.ref 107)) 108), 25, 187546)
  refine Go.of_run (Ev.mono _) 4 _ ?_
  refine ⟨⟨(by decide : (SH.take 109).length < 1000), ⟨(by decide : ¬ (61440 : Int32) < 0), (by decide : (61440 : Int32).toNatClampNeg ≤ 65536)⟩, (by decide : 25 + 1 ≤ 34), (by decide : 187546 + (61440 : Int32).toNatClampNeg ≤ 381118)⟩, ?_⟩
  show Go none aM (Ev mt aM (d + 0)) mX12_init Q (209, [some (.ref 83), none], [.ref 109, .ref 83], (SH.take 110, zr (up (zr (up (zr (up (zr (up (zr (up (zr (up (zr (up (zr (up (zr (up (zr (up (zr (up (zr (up (zr (up (zr (up (zr (up (zr (up (zr (up (zr (up (zr (up (zr (up (zr (up (zr (up (zr (up (zr (up (zr (up (zr (M) 84) 83 4 (.ref 84)) 85) 83 5 (.ref 85)) 86) 83 6 (.ref 86)) 87) 83 7 (.ref 87)) 88) 83 8 (.ref 88)) 89) 83 9 (.ref 89)) 90) 83 10 (.ref 90)) 91) 83 20 (.ref 91)) 92) 83 21 (.ref 92)) 93) 83 22 (.ref 93)) 94) 83 23 (.ref 94)) 95) 83 24 (.ref 95)) 96) 83 25 (.ref 96)) 97) 83 26 (.ref 97)) 98) 83 27 (.ref 98)) 99) 83 28 (.ref 99)) 100) 83 29 (.ref 100)) 101) 83 30 (.ref 101)) 102) 83 31 (.ref 102)) 103) 83 32 (.ref 103)) 104) 83 33 (.ref 104)) 105) 83 37 (.ref 105)) 106) 83 38 (.ref 106)) 107) 83 39 (.ref 107)) 108) 83 40 (.ref 108)) 109), 26, 248986)
  refine Go.of_run (Ev.mono _) 4 _ ?_
  refine ⟨⟨(by decide : (SH.take 110).length < 1000), ⟨(by decide : ¬ (61440 : Int32) < 0), (by decide : (61440 : Int32).toNatClampNeg ≤ 65536)⟩, (by decide : 26 + 1 ≤ 34), (by decide : 248986 + (61440 : Int32).toNatClampNeg ≤ 381118)⟩, ?_⟩
  show Go none aM (Ev mt aM (d + 0)) mX12_init Q (217, [some (.ref 83), none], [.ref 110, .ref 83], (SH.take 111, zr (up (zr (up (zr (up (zr (up (zr (up (zr (up (zr (up (zr (up (zr (up (zr (up (zr (up (zr (up (zr (up (zr (up (zr (up (zr (up (zr (up (zr (up (zr (up (zr (up (zr (up (zr (up (zr (up (zr (up (zr (up (zr (up (zr (M) 84) 83 4 (.ref 84)) 85) 83 5 (.ref 85)) 86) 83 6 (.ref 86)) 87) 83 7 (.ref 87)) 88) 83 8 (.ref 88)) 89) 83 9 (.ref 89)) 90) 83 10 (.ref 90)) 91) 83 20 (.ref 91)) 92) 83 21 (.ref 92)) 93) 83 22 (.ref 93)) 94) 83 23 (.ref 94)) 95) 83 24 (.ref 95)) 96) 83 25 (.ref 96)) 97) 83 26 (.ref 97)) 98) 83 27 (.ref 98)) 99) 83 28 (.ref 99)) 100) 83 29 (.ref 100)) 101) 83 30 (.ref 101)) 102) 83 31 (.ref 102)) 103) 83 32 (.ref 103)) 104) 83 33 (.ref 104)) 105) 83 37 (.ref 105)) 106) 83 38 (.ref 106)) 107) 83 39 (.ref 107)) 108) 83 40 (.ref 108)) 109) 83 41 (.ref 109)) 110), 27, 310426)
  refine Go.of_run (Ev.mono _) 4 _ ?_
  refine ⟨⟨(by decide : (SH.take 111).length < 1000), ⟨(by decide : ¬ (61440 : Int32) < 0), (by decide : (61440 : Int32).toNatClampNeg ≤ 65536)⟩, (by decide : 27 + 1 ≤ 34), (by decide : 310426 + (61440 : Int32).toNatClampNeg ≤ 381118)⟩, ?_⟩
  show Go none aM (Ev mt aM (d + 0)) mX12_init Q (225, [some (.ref 83), none], [.ref 111, .ref 83], (SH.take 112, zr (up (zr (up (zr (up (zr (up (zr (up (zr (up (zr (up (zr (up (zr (up (zr (up (zr (up (zr (up (zr (up (zr (up (zr (up (zr (up (zr (up (zr (up (zr (up (zr (up (zr (up (zr (up (zr (up (zr (up (zr (up (zr (up (zr (up (zr (M) 84) 83 4 (.ref 84)) 85) 83 5 (.ref 85)) 86) 83 6 (.ref 86)) 87) 83 7 (.ref 87)) 88) 83 8 (.ref 88)) 89) 83 9 (.ref 89)) 90) 83 10 (.ref 90)) 91) 83 20 (.ref 91)) 92) 83 21 (.ref 92)) 93) 83 22 (.ref 93)) 94) 83 23 (.ref 94)) 95) 83 24 (.ref 95)) 96) 83 25 (.ref 96)) 97) 83 26 (.ref 97)) 98) 83 27 (.ref 98)) 99) 83 28 (.ref 99)) 100) 83 29 (.ref 100)) 101) 83 30 (.ref 101)) 102) 83 31 (.ref 102)) 103) 83 32 (.ref 103)) 104) 83 33 (.ref 104)) 105) 83 37 (.ref 105)) 106) 83 38 (.ref 106)) 107) 83 39 (.ref 107)) 108) 83 40 (.ref 108)) 109) 83 41 (.ref 109)) 110) 83 42 (.ref 110)) 111), 28, 371866)
  refine Go.of_run (Ev.mono _) 4 _ ?_
  refine ⟨⟨(by decide : (SH.take 112).length < 1000), ⟨(by decide : ¬ (12 : Int32) < 0), (by decide : (12 : Int32).toNatClampNeg ≤ 65536)⟩, (by decide : 28 + 1 ≤ 34), (by decide : 371866 + (12 : Int32).toNatClampNeg ≤ 381118)⟩, ?_⟩
  show Go none aM (Ev mt aM (d + 0)) mX12_init Q (233, [some (.ref 83), none], [.ref 112, .ref 83], (SH.take 113, zr (up (zr (up (zr (up (zr (up (zr (up (zr (up (zr (up (zr (up (zr (up (zr (up (zr (up (zr (up (zr (up (zr (up (zr (up (zr (up (zr (up (zr (up (zr (up (zr (up (zr (up (zr (up (zr (up (zr (up (zr (up (zr (up (zr (up (zr (up (zr (M) 84) 83 4 (.ref 84)) 85) 83 5 (.ref 85)) 86) 83 6 (.ref 86)) 87) 83 7 (.ref 87)) 88) 83 8 (.ref 88)) 89) 83 9 (.ref 89)) 90) 83 10 (.ref 90)) 91) 83 20 (.ref 91)) 92) 83 21 (.ref 92)) 93) 83 22 (.ref 93)) 94) 83 23 (.ref 94)) 95) 83 24 (.ref 95)) 96) 83 25 (.ref 96)) 97) 83 26 (.ref 97)) 98) 83 27 (.ref 98)) 99) 83 28 (.ref 99)) 100) 83 29 (.ref 100)) 101) 83 30 (.ref 101)) 102) 83 31 (.ref 102)) 103) 83 32 (.ref 103)) 104) 83 33 (.ref 104)) 105) 83 37 (.ref 105)) 106) 83 38 (.ref 106)) 107) 83 39 (.ref 107)) 108) 83 40 (.ref 108)) 109) 83 41 (.ref 109)) 110) 83 42 (.ref 110)) 111) 83 43 (.ref 111)) 112), 29, 371878)
  refine Go.of_run (Ev.mono _) 4 _ ?_
  refine ⟨⟨(by decide : (SH.take 113).length < 1000), ⟨(by decide : ¬ (6 : Int32) < 0), (by decide : (6 : Int32).toNatClampNeg ≤ 65536)⟩, (by decide : 29 + 1 ≤ 34), (by decide : 371878 + (6 : Int32).toNatClampNeg ≤ 381118)⟩, ?_⟩
  show Go none aM (Ev mt aM (d + 0)) mX12_init Q (241, [some (.ref 83), none], [.ref 113, .ref 83], (SH.take 114, zr (up (zr (up (zr (up (zr (up (zr (up (zr (up (zr (up (zr (up (zr (up (zr (up (zr (up (zr (up (zr (up (zr (up (zr (up (zr (up (zr (up (zr (up (zr (up (zr (up (zr (up (zr (up (zr (up (zr (up (zr (up (zr (up (zr (up (zr (up (zr (up (zr (M) 84) 83 4 (.ref 84)) 85) 83 5 (.ref 85)) 86) 83 6 (.ref 86)) 87) 83 7 (.ref 87)) 88) 83 8 (.ref 88)) 89) 83 9 (.ref 89)) 90) 83 10 (.ref 90)) 91) 83 20 (.ref 91)) 92) 83 21 (.ref 92)) 93) 83 22 (.ref 93)) 94) 83 23 (.ref 94)) 95) 83 24 (.ref 95)) 96) 83 25 (.ref 96)) 97) 83 26 (.ref 97)) 98) 83 27 (.ref 98)) 99) 83 28 (.ref 99)) 100) 83 29 (.ref 100)) 101) 83 30 (.ref 101)) 102) 83 31 (.ref 102)) 103) 83 32 (.ref 103)) 104) 83 33 (.ref 104)) 105) 83 37 (.ref 105)) 106) 83 38 (.ref 106)) 107) 83 39 (.ref 107)) 108) 83 40 (.ref 108)) 109) 83 41 (.ref 109)) 110) 83 42 (.ref 110)) 111) 83 43 (.ref 111)) 112) 83 47 (.ref 112)) 113), 30, 371884)
  refine Go.of_run (Ev.mono _) 4 _ ?_
  refine ⟨⟨(by decide : (SH.take 114).length < 1000), ⟨(by decide : ¬ (6 : Int32) < 0), (by decide : (6 : Int32).toNatClampNeg ≤ 65536)⟩, (by decide : 30 + 1 ≤ 34), (by decide : 371884 + (6 : Int32).toNatClampNeg ≤ 381118)⟩, ?_⟩
  show Go none aM (Ev mt aM (d + 0)) mX12_init Q (249, [some (.ref 83), none], [.ref 114, .ref 83], (SH.take 115, zr (up (zr (up (zr (up (zr (up (zr (up (zr (up (zr (up (zr (up (zr (up (zr (up (zr (up (zr (up (zr (up (zr (up (zr (up (zr (up (zr (up (zr (up (zr (up (zr (up (zr (up (zr (up (zr (up (zr (up (zr (up (zr (up (zr (up (zr (up (zr (up (zr (up (zr (M) 84) 83 4 (.ref 84)) 85) 83 5 (.ref 85)) 86) 83 6 (.ref 86)) 87) 83 7 (.ref 87)) 88) 83 8 (.ref 88)) 89) 83 9 (.ref 89)) 90) 83 10 (.ref 90)) 91) 83 20 (.ref 91)) 92) 83 21 (.ref 92)) 93) 83 22 (.ref 93)) 94) 83 23 (.ref 94)) 95) 83 24 (.ref 95)) 96) 83 25 (.ref 96)) 97) 83 26 (.ref 97)) 98) 83 27 (.ref 98)) 99) 83 28 (.ref 99)) 100) 83 29 (.ref 100)) 101) 83 30 (.ref 101)) 102) 83 31 (.ref 102)) 103) 83 32 (.ref 103)) 104) 83 33 (.ref 104)) 105) 83 37 (.ref 105)) 106) 83 38 (.ref 106)) 107) 83 39 (.ref 107)) 108) 83 40 (.ref 108)) 109) 83 41 (.ref 109)) 110) 83 42 (.ref 110)) 111) 83 43 (.ref 111)) 112) 83 47 (.ref 112)) 113) 83 49 (.ref 113)) 114), 31, 371890)
  refine Go.of_run (Ev.mono _) 4 _ ?_
  refine ⟨⟨(by decide : (SH.take 115).length < 1000), ⟨(by decide : ¬ (6 : Int32) < 0), (by decide : (6 : Int32).toNatClampNeg ≤ 65536)⟩, (by decide : 31 + 1 ≤ 34), (by decide : 371890 + (6 : Int32).toNatClampNeg ≤ 381118)⟩, ?_⟩
  show Go none aM (Ev mt aM (d + 0)) mX12_init Q (257, [some (.ref 83), none], [.ref 115, .ref 83], (SH.take 116, zr (up (zr (up (zr (up (zr (up (zr (up (zr (up (zr (up (zr (up (zr (up (zr (up (zr (up (zr (up (zr (up (zr (up (zr (up (zr (up (zr (up (zr (up (zr (up (zr (up (zr (up (zr (up (zr (up (zr (up (zr (up (zr (up (zr (up (zr (up (zr (up (zr (up (zr (up (zr (M) 84) 83 4 (.ref 84)) 85) 83 5 (.ref 85)) 86) 83 6 (.ref 86)) 87) 83 7 (.ref 87)) 88) 83 8 (.ref 88)) 89) 83 9 (.ref 89)) 90) 83 10 (.ref 90)) 91) 83 20 (.ref 91)) 92) 83 21 (.ref 92)) 93) 83 22 (.ref 93)) 94) 83 23 (.ref 94)) 95) 83 24 (.ref 95)) 96) 83 25 (.ref 96)) 97) 83 26 (.ref 97)) 98) 83 27 (.ref 98)) 99) 83 28 (.ref 99)) 100) 83 29 (.ref 100)) 101) 83 30 (.ref 101)) 102) 83 31 (.ref 102)) 103) 83 32 (.ref 103)) 104) 83 33 (.ref 104)) 105) 83 37 (.ref 105)) 106) 83 38 (.ref 106)) 107) 83 39 (.ref 107)) 108) 83 40 (.ref 108)) 109) 83 41 (.ref 109)) 110) 83 42 (.ref 110)) 111) 83 43 (.ref 111)) 112) 83 47 (.ref 112)) 113) 83 49 (.ref 113)) 114) 83 50 (.ref 114)) 115), 32, 371896)
  refine Go.of_run (Ev.mono _) 4 _ ?_
  refine ⟨⟨(by decide : (SH.take 116).length < 1000), ⟨(by decide : ¬ (6 : Int32) < 0), (by decide : (6 : Int32).toNatClampNeg ≤ 65536)⟩, (by decide : 32 + 1 ≤ 34), (by decide : 371896 + (6 : Int32).toNatClampNeg ≤ 381118)⟩, ?_⟩
  show Go none aM (Ev mt aM (d + 0)) mX12_init Q (265, [some (.ref 83), none], [.ref 116, .ref 83], (SH.take 117, zr (up (zr (up (zr (up (zr (up (zr (up (zr (up (zr (up (zr (up (zr (up (zr (up (zr (up (zr (up (zr (up (zr (up (zr (up (zr (up (zr (up (zr (up (zr (up (zr (up (zr (up (zr (up (zr (up (zr (up (zr (up (zr (up (zr (up (zr (up (zr (up (zr (up (zr (up (zr (up (zr (M) 84) 83 4 (.ref 84)) 85) 83 5 (.ref 85)) 86) 83 6 (.ref 86)) 87) 83 7 (.ref 87)) 88) 83 8 (.ref 88)) 89) 83 9 (.ref 89)) 90) 83 10 (.ref 90)) 91) 83 20 (.ref 91)) 92) 83 21 (.ref 92)) 93) 83 22 (.ref 93)) 94) 83 23 (.ref 94)) 95) 83 24 (.ref 95)) 96) 83 25 (.ref 96)) 97) 83 26 (.ref 97)) 98) 83 27 (.ref 98)) 99) 83 28 (.ref 99)) 100) 83 29 (.ref 100)) 101) 83 30 (.ref 101)) 102) 83 31 (.ref 102)) 103) 83 32 (.ref 103)) 104) 83 33 (.ref 104)) 105) 83 37 (.ref 105)) 106) 83 38 (.ref 106)) 107) 83 39 (.ref 107)) 108) 83 40 (.ref 108)) 109) 83 41 (.ref 109)) 110) 83 42 (.ref 110)) 111) 83 43 (.ref 111)) 112) 83 47 (.ref 112)) 113) 83 49 (.ref 113)) 114) 83 50 (.ref 114)) 115) 83 51 (.ref 115)) 116), 33, 371902)
  refine Go.of_run (Ev.mono _) 4 _ ?_
  refine ⟨⟨(by decide : (SH.take 117).length < 1000), ⟨(by decide : ¬ (9216 : Int32) < 0), (by decide : (9216 : Int32).toNatClampNeg ≤ 65536)⟩, (by decide : 33 + 1 ≤ 34), (by decide : 371902 + (9216 : Int32).toNatClampNeg ≤ 381118)⟩, ?_⟩
  show Go none aM (Ev mt aM (d + 0)) mX12_init Q (274, [some (.ref 83), none], [.ref 117, .ref 83], (SH.take 118, zr (up (zr (up (zr (up (zr (up (zr (up (zr (up (zr (up (zr (up (zr (up (zr (up (zr (up (zr (up (zr (up (zr (up (zr (up (zr (up (zr (up (zr (up (zr (up (zr (up (zr (up (zr (up (zr (up (zr (up (zr (up (zr (up (zr (up (zr (up (zr (up (zr (up (zr (up (zr (up (zr (up (zr (M) 84) 83 4 (.ref 84)) 85) 83 5 (.ref 85)) 86) 83 6 (.ref 86)) 87) 83 7 (.ref 87)) 88) 83 8 (.ref 88)) 89) 83 9 (.ref 89)) 90) 83 10 (.ref 90)) 91) 83 20 (.ref 91)) 92) 83 21 (.ref 92)) 93) 83 22 (.ref 93)) 94) 83 23 (.ref 94)) 95) 83 24 (.ref 95)) 96) 83 25 (.ref 96)) 97) 83 26 (.ref 97)) 98) 83 27 (.ref 98)) 99) 83 28 (.ref 99)) 100) 83 29 (.ref 100)) 101) 83 30 (.ref 101)) 102) 83 31 (.ref 102)) 103) 83 32 (.ref 103)) 104) 83 33 (.ref 104)) 105) 83 37 (.ref 105)) 106) 83 38 (.ref 106)) 107) 83 39 (.ref 107)) 108) 83 40 (.ref 108)) 109) 83 41 (.ref 109)) 110) 83 42 (.ref 110)) 111) 83 43 (.ref 111)) 112) 83 47 (.ref 112)) 113) 83 49 (.ref 113)) 114) 83 50 (.ref 114)) 115) 83 51 (.ref 115)) 116) 83 52 (.ref 116)) 117), 34, 381118)
  refine Go.of_run (Ev.mono _) 15 _ ?_
  refine ⟨(show vp_in (nI 0) 3 from vp_in_nI (by omega) (by omega)), ?_⟩
  show Go none aM (Ev mt aM (d + 0)) mX12_init Q (299, [some (.ref 83), none], [], (SH.take 118, up (up (up (up (up (zr (up (zr (up (zr (up (zr (up (zr (up (zr (up (zr (up (zr (up (zr (up (zr (up (zr (up (zr (up (zr (up (zr (up (zr (up (zr (up (zr (up (zr (up (zr (up (zr (up (zr (up (zr (up (zr (up (zr (up (zr (up (zr (up (zr (up (zr (up (zr (up (zr (up (zr (up (zr (up (zr (up (zr (M) 84) 83 4 (.ref 84)) 85) 83 5 (.ref 85)) 86) 83 6 (.ref 86)) 87) 83 7 (.ref 87)) 88) 83 8 (.ref 88)) 89) 83 9 (.ref 89)) 90) 83 10 (.ref 90)) 91) 83 20 (.ref 91)) 92) 83 21 (.ref 92)) 93) 83 22 (.ref 93)) 94) 83 23 (.ref 94)) 95) 83 24 (.ref 95)) 96) 83 25 (.ref 96)) 97) 83 26 (.ref 97)) 98) 83 27 (.ref 98)) 99) 83 28 (.ref 99)) 100) 83 29 (.ref 100)) 101) 83 30 (.ref 101)) 102) 83 31 (.ref 102)) 103) 83 32 (.ref 103)) 104) 83 33 (.ref 104)) 105) 83 37 (.ref 105)) 106) 83 38 (.ref 106)) 107) 83 39 (.ref 107)) 108) 83 40 (.ref 108)) 109) 83 41 (.ref 109)) 110) 83 42 (.ref 110)) 111) 83 43 (.ref 111)) 112) 83 47 (.ref 112)) 113) 83 49 (.ref 113)) 114) 83 50 (.ref 114)) 115) 83 51 (.ref 115)) 116) 83 52 (.ref 116)) 117) 83 53 (.ref 117)) 83 0 (.int (4 : Int32))) 83 1 (.int (3 : Int32))) 83 2 (.int (2 : Int32))) 84 0 (.int (3 : Int32))), 34, 381118)
  refine Go.of_run (Ev.mono _) 5 _ ?_
  refine ⟨(show vp_in (nI 1) 3 from vp_in_nI (by omega) (by omega)), ?_⟩
  show Go none aM (Ev mt aM (d + 0)) mX12_init Q (306, [some (.ref 83), none], [], (SH.take 118, up (up (up (up (up (up (zr (up (zr (up (zr (up (zr (up (zr (up (zr (up (zr (up (zr (up (zr (up (zr (up (zr (up (zr (up (zr (up (zr (up (zr (up (zr (up (zr (up (zr (up (zr (up (zr (up (zr (up (zr (up (zr (up (zr (up (zr (up (zr (up (zr (up (zr (up (zr (up (zr (up (zr (up (zr (up (zr (up (zr (M) 84) 83 4 (.ref 84)) 85) 83 5 (.ref 85)) 86) 83 6 (.ref 86)) 87) 83 7 (.ref 87)) 88) 83 8 (.ref 88)) 89) 83 9 (.ref 89)) 90) 83 10 (.ref 90)) 91) 83 20 (.ref 91)) 92) 83 21 (.ref 92)) 93) 83 22 (.ref 93)) 94) 83 23 (.ref 94)) 95) 83 24 (.ref 95)) 96) 83 25 (.ref 96)) 97) 83 26 (.ref 97)) 98) 83 27 (.ref 98)) 99) 83 28 (.ref 99)) 100) 83 29 (.ref 100)) 101) 83 30 (.ref 101)) 102) 83 31 (.ref 102)) 103) 83 32 (.ref 103)) 104) 83 33 (.ref 104)) 105) 83 37 (.ref 105)) 106) 83 38 (.ref 106)) 107) 83 39 (.ref 107)) 108) 83 40 (.ref 108)) 109) 83 41 (.ref 109)) 110) 83 42 (.ref 110)) 111) 83 43 (.ref 111)) 112) 83 47 (.ref 112)) 113) 83 49 (.ref 113)) 114) 83 50 (.ref 114)) 115) 83 51 (.ref 115)) 116) 83 52 (.ref 116)) 117) 83 53 (.ref 117)) 83 0 (.int (4 : Int32))) 83 1 (.int (3 : Int32))) 83 2 (.int (2 : Int32))) 84 0 (.int (3 : Int32))) 84 1 (.int (1 : Int32))), 34, 381118)
  refine Go.of_run (Ev.mono _) 8 _ ?_
  show Go none aM (Ev mt aM (d + 0)) mX12_init Q (318, [some (.ref 83), some (.int (0 : Int32))], [], (SH.take 118, up (up (up (up (up (up (up (zr (up (zr (up (zr (up (zr (up (zr (up (zr (up (zr (up (zr (up (zr (up (zr (up (zr (up (zr (up (zr (up (zr (up (zr (up (zr (up (zr (up (zr (up (zr (up (zr (up (zr (up (zr (up (zr (up (zr (up (zr (up (zr (up (zr (up (zr (up (zr (up (zr (up (zr (up (zr (up (zr (up (zr (M) 84) 83 4 (.ref 84)) 85) 83 5 (.ref 85)) 86) 83 6 (.ref 86)) 87) 83 7 (.ref 87)) 88) 83 8 (.ref 88)) 89) 83 9 (.ref 89)) 90) 83 10 (.ref 90)) 91) 83 20 (.ref 91)) 92) 83 21 (.ref 92)) 93) 83 22 (.ref 93)) 94) 83 23 (.ref 94)) 95) 83 24 (.ref 95)) 96) 83 25 (.ref 96)) 97) 83 26 (.ref 97)) 98) 83 27 (.ref 98)) 99) 83 28 (.ref 99)) 100) 83 29 (.ref 100)) 101) 83 30 (.ref 101)) 102) 83 31 (.ref 102)) 103) 83 32 (.ref 103)) 104) 83 33 (.ref 104)) 105) 83 37 (.ref 105)) 106) 83 38 (.ref 106)) 107) 83 39 (.ref 107)) 108) 83 40 (.ref 108)) 109) 83 41 (.ref 109)) 110) 83 42 (.ref 110)) 111) 83 43 (.ref 111)) 112) 83 47 (.ref 112)) 113) 83 49 (.ref 113)) 114) 83 50 (.ref 114)) 115) 83 51 (.ref 115)) 116) 83 52 (.ref 116)) 117) 83 53 (.ref 117)) 83 0 (.int (4 : Int32))) 83 1 (.int (3 : Int32))) 83 2 (.int (2 : Int32))) 84 0 (.int (3 : Int32))) 84 1 (.int (1 : Int32))) 83 3 (.int (1 : Int32))), 34, 381118)
  refine Go.of_run (Ev.mono _) 5 _ ?_
  refine ⟨(show vp_in (nI 0) 5 from vp_in_nI (by omega) (by omega)), ?_⟩
  show Go none aM (Ev mt aM (d + 0)) mX12_init Q (325, [some (.ref 83), some (.int (0 : Int32))], [], (SH.take 118, up (up (up (up (up (up (up (up (zr (up (zr (up (zr (up (zr (up (zr (up (zr (up (zr (up (zr (up (zr (up (zr (up (zr (up (zr (up (zr (up (zr (up (zr (up (zr (up (zr (up (zr (up (zr (up (zr (up (zr (up (zr (up (zr (up (zr (up (zr (up (zr (up (zr (up (zr (up (zr (up (zr (up (zr (up (zr (up (zr (up (zr (M) 84) 83 4 (.ref 84)) 85) 83 5 (.ref 85)) 86) 83 6 (.ref 86)) 87) 83 7 (.ref 87)) 88) 83 8 (.ref 88)) 89) 83 9 (.ref 89)) 90) 83 10 (.ref 90)) 91) 83 20 (.ref 91)) 92) 83 21 (.ref 92)) 93) 83 22 (.ref 93)) 94) 83 23 (.ref 94)) 95) 83 24 (.ref 95)) 96) 83 25 (.ref 96)) 97) 83 26 (.ref 97)) 98) 83 27 (.ref 98)) 99) 83 28 (.ref 99)) 100) 83 29 (.ref 100)) 101) 83 30 (.ref 101)) 102) 83 31 (.ref 102)) 103) 83 32 (.ref 103)) 104) 83 33 (.ref 104)) 105) 83 37 (.ref 105)) 106) 83 38 (.ref 106)) 107) 83 39 (.ref 107)) 108) 83 40 (.ref 108)) 109) 83 41 (.ref 109)) 110) 83 42 (.ref 110)) 111) 83 43 (.ref 111)) 112) 83 47 (.ref 112)) 113) 83 49 (.ref 113)) 114) 83 50 (.ref 114)) 115) 83 51 (.ref 115)) 116) 83 52 (.ref 116)) 117) 83 53 (.ref 117)) 83 0 (.int (4 : Int32))) 83 1 (.int (3 : Int32))) 83 2 (.int (2 : Int32))) 84 0 (.int (3 : Int32))) 84 1 (.int (1 : Int32))) 83 3 (.int (1 : Int32))) 89 0 (.int (3 : Int32))), 34, 381118)
  refine Go.of_run (Ev.mono _) 5 _ ?_
  show Go none aM (Ev mt aM (d + 0)) mX12_init Q (318, [some (.ref 83), some (.int (1 : Int32))], [], (SH.take 118, up (up (up (up (up (up (up (up (zr (up (zr (up (zr (up (zr (up (zr (up (zr (up (zr (up (zr (up (zr (up (zr (up (zr (up (zr (up (zr (up (zr (up (zr (up (zr (up (zr (up (zr (up (zr (up (zr (up (zr (up (zr (up (zr (up (zr (up (zr (up (zr (up (zr (up (zr (up (zr (up (zr (up (zr (up (zr (up (zr (up (zr (M) 84) 83 4 (.ref 84)) 85) 83 5 (.ref 85)) 86) 83 6 (.ref 86)) 87) 83 7 (.ref 87)) 88) 83 8 (.ref 88)) 89) 83 9 (.ref 89)) 90) 83 10 (.ref 90)) 91) 83 20 (.ref 91)) 92) 83 21 (.ref 92)) 93) 83 22 (.ref 93)) 94) 83 23 (.ref 94)) 95) 83 24 (.ref 95)) 96) 83 25 (.ref 96)) 97) 83 26 (.ref 97)) 98) 83 27 (.ref 98)) 99) 83 28 (.ref 99)) 100) 83 29 (.ref 100)) 101) 83 30 (.ref 101)) 102) 83 31 (.ref 102)) 103) 83 32 (.ref 103)) 104) 83 33 (.ref 104)) 105) 83 37 (.ref 105)) 106) 83 38 (.ref 106)) 107) 83 39 (.ref 107)) 108) 83 40 (.ref 108)) 109) 83 41 (.ref 109)) 110) 83 42 (.ref 110)) 111) 83 43 (.ref 111)) 112) 83 47 (.ref 112)) 113) 83 49 (.ref 113)) 114) 83 50 (.ref 114)) 115) 83 51 (.ref 115)) 116) 83 52 (.ref 116)) 117) 83 53 (.ref 117)) 83 0 (.int (4 : Int32))) 83 1 (.int (3 : Int32))) 83 2 (.int (2 : Int32))) 84 0 (.int (3 : Int32))) 84 1 (.int (1 : Int32))) 83 3 (.int (1 : Int32))) 89 0 (.int (3 : Int32))), 34, 381118)
  refine Go.of_run (Ev.mono _) 5 _ ?_
  refine ⟨(show vp_in (nI 1) 5 from vp_in_nI (by omega) (by omega)), ?_⟩
  show Go none aM (Ev mt aM (d + 0)) mX12_init Q (325, [some (.ref 83), some (.int (1 : Int32))], [], (SH.take 118, up (up (up (up (up (up (up (up (up (zr (up (zr (up (zr (up (zr (up (zr (up (zr (up (zr (up (zr (up (zr (up (zr (up (zr (up (zr (up (zr (up (zr (up (zr (up (zr (up (zr (up (zr (up (zr (up (zr (up (zr (up (zr (up (zr (up (zr (up (zr (up (zr (up (zr (up (zr (up (zr (up (zr (up (zr (up (zr (up (zr (up (zr (M) 84) 83 4 (.ref 84)) 85) 83 5 (.ref 85)) 86) 83 6 (.ref 86)) 87) 83 7 (.ref 87)) 88) 83 8 (.ref 88)) 89) 83 9 (.ref 89)) 90) 83 10 (.ref 90)) 91) 83 20 (.ref 91)) 92) 83 21 (.ref 92)) 93) 83 22 (.ref 93)) 94) 83 23 (.ref 94)) 95) 83 24 (.ref 95)) 96) 83 25 (.ref 96)) 97) 83 26 (.ref 97)) 98) 83 27 (.ref 98)) 99) 83 28 (.ref 99)) 100) 83 29 (.ref 100)) 101) 83 30 (.ref 101)) 102) 83 31 (.ref 102)) 103) 83 32 (.ref 103)) 104) 83 33 (.ref 104)) 105) 83 37 (.ref 105)) 106) 83 38 (.ref 106)) 107) 83 39 (.ref 107)) 108) 83 40 (.ref 108)) 109) 83 41 (.ref 109)) 110) 83 42 (.ref 110)) 111) 83 43 (.ref 111)) 112) 83 47 (.ref 112)) 113) 83 49 (.ref 113)) 114) 83 50 (.ref 114)) 115) 83 51 (.ref 115)) 116) 83 52 (.ref 116)) 117) 83 53 (.ref 117)) 83 0 (.int (4 : Int32))) 83 1 (.int (3 : Int32))) 83 2 (.int (2 : Int32))) 84 0 (.int (3 : Int32))) 84 1 (.int (1 : Int32))) 83 3 (.int (1 : Int32))) 89 0 (.int (3 : Int32))) 89 1 (.int (3 : Int32))), 34, 381118)
  refine Go.of_run (Ev.mono _) 5 _ ?_
  show Go none aM (Ev mt aM (d + 0)) mX12_init Q (318, [some (.ref 83), some (.int (2 : Int32))], [], (SH.take 118, up (up (up (up (up (up (up (up (up (zr (up (zr (up (zr (up (zr (up (zr (up (zr (up (zr (up (zr (up (zr (up (zr (up (zr (up (zr (up (zr (up (zr (up (zr (up (zr (up (zr (up (zr (up (zr (up (zr (up (zr (up (zr (up (zr (up (zr (up (zr (up (zr (up (zr (up (zr (up (zr (up (zr (up (zr (up (zr (up (zr (up (zr (M) 84) 83 4 (.ref 84)) 85) 83 5 (.ref 85)) 86) 83 6 (.ref 86)) 87) 83 7 (.ref 87)) 88) 83 8 (.ref 88)) 89) 83 9 (.ref 89)) 90) 83 10 (.ref 90)) 91) 83 20 (.ref 91)) 92) 83 21 (.ref 92)) 93) 83 22 (.ref 93)) 94) 83 23 (.ref 94)) 95) 83 24 (.ref 95)) 96) 83 25 (.ref 96)) 97) 83 26 (.ref 97)) 98) 83 27 (.ref 98)) 99) 83 28 (.ref 99)) 100) 83 29 (.ref 100)) 101) 83 30 (.ref 101)) 102) 83 31 (.ref 102)) 103) 83 32 (.ref 103)) 104) 83 33 (.ref 104)) 105) 83 37 (.ref 105)) 106) 83 38 (.ref 106)) 107) 83 39 (.ref 107)) 108) 83 40 (.ref 108)) 109) 83 41 (.ref 109)) 110) 83 42 (.ref 110)) 111) 83 43 (.ref 111)) 112) 83 47 (.ref 112)) 113) 83 49 (.ref 113)) 114) 83 50 (.ref 114)) 115) 83 51 (.ref 115)) 116) 83 52 (.ref 116)) 117) 83 53 (.ref 117)) 83 0 (.int (4 : Int32))) 83 1 (.int (3 : Int32))) 83 2 (.int (2 : Int32))) 84 0 (.int (3 : Int32))) 84 1 (.int (1 : Int32))) 83 3 (.int (1 : Int32))) 89 0 (.int (3 : Int32))) 89 1 (.int (3 : Int32))), 34, 381118)
  refine Go.of_run (Ev.mono _) 5 _ ?_
  refine ⟨(show vp_in (nI 2) 5 from vp_in_nI (by omega) (by omega)), ?_⟩
  show Go none aM (Ev mt aM (d + 0)) mX12_init Q (325, [some (.ref 83), some (.int (2 : Int32))], [], (SH.take 118, up (up (up (up (up (up (up (up (up (up (zr (up (zr (up (zr (up (zr (up (zr (up (zr (up (zr (up (zr (up (zr (up (zr (up (zr (up (zr (up (zr (up (zr (up (zr (up (zr (up (zr (up (zr (up (zr (up (zr (up (zr (up (zr (up (zr (up (zr (up (zr (up (zr (up (zr (up (zr (up (zr (up (zr (up (zr (up (zr (up (zr (up (zr (M) 84) 83 4 (.ref 84)) 85) 83 5 (.ref 85)) 86) 83 6 (.ref 86)) 87) 83 7 (.ref 87)) 88) 83 8 (.ref 88)) 89) 83 9 (.ref 89)) 90) 83 10 (.ref 90)) 91) 83 20 (.ref 91)) 92) 83 21 (.ref 92)) 93) 83 22 (.ref 93)) 94) 83 23 (.ref 94)) 95) 83 24 (.ref 95)) 96) 83 25 (.ref 96)) 97) 83 26 (.ref 97)) 98) 83 27 (.ref 98)) 99) 83 28 (.ref 99)) 100) 83 29 (.ref 100)) 101) 83 30 (.ref 101)) 102) 83 31 (.ref 102)) 103) 83 32 (.ref 103)) 104) 83 33 (.ref 104)) 105) 83 37 (.ref 105)) 106) 83 38 (.ref 106)) 107) 83 39 (.ref 107)) 108) 83 40 (.ref 108)) 109) 83 41 (.ref 109)) 110) 83 42 (.ref 110)) 111) 83 43 (.ref 111)) 112) 83 47 (.ref 112)) 113) 83 49 (.ref 113)) 114) 83 50 (.ref 114)) 115) 83 51 (.ref 115)) 116) 83 52 (.ref 116)) 117) 83 53 (.ref 117)) 83 0 (.int (4 : Int32))) 83 1 (.int (3 : Int32))) 83 2 (.int (2 : Int32))) 84 0 (.int (3 : Int32))) 84 1 (.int (1 : Int32))) 83 3 (.int (1 : Int32))) 89 0 (.int (3 : Int32))) 89 1 (.int (3 : Int32))) 89 2 (.int (3 : Int32))), 34, 381118)
  refine Go.of_run (Ev.mono _) 5 _ ?_
  show Go none aM (Ev mt aM (d + 0)) mX12_init Q (318, [some (.ref 83), some (.int (3 : Int32))], [], (SH.take 118, up (up (up (up (up (up (up (up (up (up (zr (up (zr (up (zr (up (zr (up (zr (up (zr (up (zr (up (zr (up (zr (up (zr (up (zr (up (zr (up (zr (up (zr (up (zr (up (zr (up (zr (up (zr (up (zr (up (zr (up (zr (up (zr (up (zr (up (zr (up (zr (up (zr (up (zr (up (zr (up (zr (up (zr (up (zr (up (zr (up (zr (up (zr (M) 84) 83 4 (.ref 84)) 85) 83 5 (.ref 85)) 86) 83 6 (.ref 86)) 87) 83 7 (.ref 87)) 88) 83 8 (.ref 88)) 89) 83 9 (.ref 89)) 90) 83 10 (.ref 90)) 91) 83 20 (.ref 91)) 92) 83 21 (.ref 92)) 93) 83 22 (.ref 93)) 94) 83 23 (.ref 94)) 95) 83 24 (.ref 95)) 96) 83 25 (.ref 96)) 97) 83 26 (.ref 97)) 98) 83 27 (.ref 98)) 99) 83 28 (.ref 99)) 100) 83 29 (.ref 100)) 101) 83 30 (.ref 101)) 102) 83 31 (.ref 102)) 103) 83 32 (.ref 103)) 104) 83 33 (.ref 104)) 105) 83 37 (.ref 105)) 106) 83 38 (.ref 106)) 107) 83 39 (.ref 107)) 108) 83 40 (.ref 108)) 109) 83 41 (.ref 109)) 110) 83 42 (.ref 110)) 111) 83 43 (.ref 111)) 112) 83 47 (.ref 112)) 113) 83 49 (.ref 113)) 114) 83 50 (.ref 114)) 115) 83 51 (.ref 115)) 116) 83 52 (.ref 116)) 117) 83 53 (.ref 117)) 83 0 (.int (4 : Int32))) 83 1 (.int (3 : Int32))) 83 2 (.int (2 : Int32))) 84 0 (.int (3 : Int32))) 84 1 (.int (1 : Int32))) 83 3 (.int (1 : Int32))) 89 0 (.int (3 : Int32))) 89 1 (.int (3 : Int32))) 89 2 (.int (3 : Int32))), 34, 381118)
  refine Go.of_run (Ev.mono _) 5 _ ?_
  refine ⟨(show vp_in (nI 3) 5 from vp_in_nI (by omega) (by omega)), ?_⟩
  show Go none aM (Ev mt aM (d + 0)) mX12_init Q (325, [some (.ref 83), some (.int (3 : Int32))], [], (SH.take 118, up (up (up (up (up (up (up (up (up (up (up (zr (up (zr (up (zr (up (zr (up (zr (up (zr (up (zr (up (zr (up (zr (up (zr (up (zr (up (zr (up (zr (up (zr (up (zr (up (zr (up (zr (up (zr (up (zr (up (zr (up (zr (up (zr (up (zr (up (zr (up (zr (up (zr (up (zr (up (zr (up (zr (up (zr (up (zr (up (zr (up (zr (up (zr (M) 84) 83 4 (.ref 84)) 85) 83 5 (.ref 85)) 86) 83 6 (.ref 86)) 87) 83 7 (.ref 87)) 88) 83 8 (.ref 88)) 89) 83 9 (.ref 89)) 90) 83 10 (.ref 90)) 91) 83 20 (.ref 91)) 92) 83 21 (.ref 92)) 93) 83 22 (.ref 93)) 94) 83 23 (.ref 94)) 95) 83 24 (.ref 95)) 96) 83 25 (.ref 96)) 97) 83 26 (.ref 97)) 98) 83 27 (.ref 98)) 99) 83 28 (.ref 99)) 100) 83 29 (.ref 100)) 101) 83 30 (.ref 101)) 102) 83 31 (.ref 102)) 103) 83 32 (.ref 103)) 104) 83 33 (.ref 104)) 105) 83 37 (.ref 105)) 106) 83 38 (.ref 106)) 107) 83 39 (.ref 107)) 108) 83 40 (.ref 108)) 109) 83 41 (.ref 109)) 110) 83 42 (.ref 110)) 111) 83 43 (.ref 111)) 112) 83 47 (.ref 112)) 113) 83 49 (.ref 113)) 114) 83 50 (.ref 114)) 115) 83 51 (.ref 115)) 116) 83 52 (.ref 116)) 117) 83 53 (.ref 117)) 83 0 (.int (4 : Int32))) 83 1 (.int (3 : Int32))) 83 2 (.int (2 : Int32))) 84 0 (.int (3 : Int32))) 84 1 (.int (1 : Int32))) 83 3 (.int (1 : Int32))) 89 0 (.int (3 : Int32))) 89 1 (.int (3 : Int32))) 89 2 (.int (3 : Int32))) 89 3 (.int (3 : Int32))), 34, 381118)
  refine Go.of_run (Ev.mono _) 5 _ ?_
  show Go none aM (Ev mt aM (d + 0)) mX12_init Q (318, [some (.ref 83), some (.int (4 : Int32))], [], (SH.take 118, up (up (up (up (up (up (up (up (up (up (up (zr (up (zr (up (zr (up (zr (up (zr (up (zr (up (zr (up (zr (up (zr (up (zr (up (zr (up (zr (up (zr (up (zr (up (zr (up (zr (up (zr (up (zr (up (zr (up (zr (up (zr (up (zr (up (zr (up (zr (up (zr (up (zr (up (zr (up (zr (up (zr (up (zr (up (zr (up (zr (up (zr (up (zr (M) 84) 83 4 (.ref 84)) 85) 83 5 (.ref 85)) 86) 83 6 (.ref 86)) 87) 83 7 (.ref 87)) 88) 83 8 (.ref 88)) 89) 83 9 (.ref 89)) 90) 83 10 (.ref 90)) 91) 83 20 (.ref 91)) 92) 83 21 (.ref 92)) 93) 83 22 (.ref 93)) 94) 83 23 (.ref 94)) 95) 83 24 (.ref 95)) 96) 83 25 (.ref 96)) 97) 83 26 (.ref 97)) 98) 83 27 (.ref 98)) 99) 83 28 (.ref 99)) 100) 83 29 (.ref 100)) 101) 83 30 (.ref 101)) 102) 83 31 (.ref 102)) 103) 83 32 (.ref 103)) 104) 83 33 (.ref 104)) 105) 83 37 (.ref 105)) 106) 83 38 (.ref 106)) 107) 83 39 (.ref 107)) 108) 83 40 (.ref 108)) 109) 83 41 (.ref 109)) 110) 83 42 (.ref 110)) 111) 83 43 (.ref 111)) 112) 83 47 (.ref 112)) 113) 83 49 (.ref 113)) 114) 83 50 (.ref 114)) 115) 83 51 (.ref 115)) 116) 83 52 (.ref 116)) 117) 83 53 (.ref 117)) 83 0 (.int (4 : Int32))) 83 1 (.int (3 : Int32))) 83 2 (.int (2 : Int32))) 84 0 (.int (3 : Int32))) 84 1 (.int (1 : Int32))) 83 3 (.int (1 : Int32))) 89 0 (.int (3 : Int32))) 89 1 (.int (3 : Int32))) 89 2 (.int (3 : Int32))) 89 3 (.int (3 : Int32))), 34, 381118)
  refine Go.of_run (Ev.mono _) 5 _ ?_
  refine ⟨(show vp_in (nI 4) 5 from vp_in_nI (by omega) (by omega)), ?_⟩
  show Go none aM (Ev mt aM (d + 0)) mX12_init Q (325, [some (.ref 83), some (.int (4 : Int32))], [], (SH.take 118, up (up (up (up (up (up (up (up (up (up (up (up (zr (up (zr (up (zr (up (zr (up (zr (up (zr (up (zr (up (zr (up (zr (up (zr (up (zr (up (zr (up (zr (up (zr (up (zr (up (zr (up (zr (up (zr (up (zr (up (zr (up (zr (up (zr (up (zr (up (zr (up (zr (up (zr (up (zr (up (zr (up (zr (up (zr (up (zr (up (zr (up (zr (up (zr (M) 84) 83 4 (.ref 84)) 85) 83 5 (.ref 85)) 86) 83 6 (.ref 86)) 87) 83 7 (.ref 87)) 88) 83 8 (.ref 88)) 89) 83 9 (.ref 89)) 90) 83 10 (.ref 90)) 91) 83 20 (.ref 91)) 92) 83 21 (.ref 92)) 93) 83 22 (.ref 93)) 94) 83 23 (.ref 94)) 95) 83 24 (.ref 95)) 96) 83 25 (.ref 96)) 97) 83 26 (.ref 97)) 98) 83 27 (.ref 98)) 99) 83 28 (.ref 99)) 100) 83 29 (.ref 100)) 101) 83 30 (.ref 101)) 102) 83 31 (.ref 102)) 103) 83 32 (.ref 103)) 104) 83 33 (.ref 104)) 105) 83 37 (.ref 105)) 106) 83 38 (.ref 106)) 107) 83 39 (.ref 107)) 108) 83 40 (.ref 108)) 109) 83 41 (.ref 109)) 110) 83 42 (.ref 110)) 111) 83 43 (.ref 111)) 112) 83 47 (.ref 112)) 113) 83 49 (.ref 113)) 114) 83 50 (.ref 114)) 115) 83 51 (.ref 115)) 116) 83 52 (.ref 116)) 117) 83 53 (.ref 117)) 83 0 (.int (4 : Int32))) 83 1 (.int (3 : Int32))) 83 2 (.int (2 : Int32))) 84 0 (.int (3 : Int32))) 84 1 (.int (1 : Int32))) 83 3 (.int (1 : Int32))) 89 0 (.int (3 : Int32))) 89 1 (.int (3 : Int32))) 89 2 (.int (3 : Int32))) 89 3 (.int (3 : Int32))) 89 4 (.int (3 : Int32))), 34, 381118)
  refine Go.of_run (Ev.mono _) 5 _ ?_
  show Go none aM (Ev mt aM (d + 0)) mX12_init Q (331, [some (.ref 83), some (.int (5 : Int32))], [], (SH.take 118, up (up (up (up (up (up (up (up (up (up (up (up (zr (up (zr (up (zr (up (zr (up (zr (up (zr (up (zr (up (zr (up (zr (up (zr (up (zr (up (zr (up (zr (up (zr (up (zr (up (zr (up (zr (up (zr (up (zr (up (zr (up (zr (up (zr (up (zr (up (zr (up (zr (up (zr (up (zr (up (zr (up (zr (up (zr (up (zr (up (zr (up (zr (up (zr (M) 84) 83 4 (.ref 84)) 85) 83 5 (.ref 85)) 86) 83 6 (.ref 86)) 87) 83 7 (.ref 87)) 88) 83 8 (.ref 88)) 89) 83 9 (.ref 89)) 90) 83 10 (.ref 90)) 91) 83 20 (.ref 91)) 92) 83 21 (.ref 92)) 93) 83 22 (.ref 93)) 94) 83 23 (.ref 94)) 95) 83 24 (.ref 95)) 96) 83 25 (.ref 96)) 97) 83 26 (.ref 97)) 98) 83 27 (.ref 98)) 99) 83 28 (.ref 99)) 100) 83 29 (.ref 100)) 101) 83 30 (.ref 101)) 102) 83 31 (.ref 102)) 103) 83 32 (.ref 103)) 104) 83 33 (.ref 104)) 105) 83 37 (.ref 105)) 106) 83 38 (.ref 106)) 107) 83 39 (.ref 107)) 108) 83 40 (.ref 108)) 109) 83 41 (.ref 109)) 110) 83 42 (.ref 110)) 111) 83 43 (.ref 111)) 112) 83 47 (.ref 112)) 113) 83 49 (.ref 113)) 114) 83 50 (.ref 114)) 115) 83 51 (.ref 115)) 116) 83 52 (.ref 116)) 117) 83 53 (.ref 117)) 83 0 (.int (4 : Int32))) 83 1 (.int (3 : Int32))) 83 2 (.int (2 : Int32))) 84 0 (.int (3 : Int32))) 84 1 (.int (1 : Int32))) 83 3 (.int (1 : Int32))) 89 0 (.int (3 : Int32))) 89 1 (.int (3 : Int32))) 89 2 (.int (3 : Int32))) 89 3 (.int (3 : Int32))) 89 4 (.int (3 : Int32))), 34, 381118)
  refine Go.of_run (Ev.mono _) 7 _ ?_
  refine ⟨trivial, ?_⟩
  exact h
