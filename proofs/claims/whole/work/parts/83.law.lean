/-! THE LAW'S LOOP: the 31 calls (laid by wip/whole/pure/glaw.py). -/
def Qf : Option Value → Mem → Prop := fun r _ => r = some (.int 1)
theorem kv1 {v : Value} (h : KV 1 (some v)) : ∃ y, v = .int y := by
  rcases h with ⟨_, x, h⟩ | ⟨h, _⟩
  · exact ⟨x, Option.some.inj h⟩
  · omega
theorem kv2 {v : Value} (h : KV 2 (some v)) : ∃ y, v = .long y := by
  rcases h with ⟨h, _⟩ | ⟨_, x, h⟩
  · omega
  · exact ⟨x, Option.some.inj h⟩
theorem vpx {i j L : Nat} (hi : i + 7 ≤ L) (hL : L ≤ 3584) (hj : j ≤ 6) : vp_in (nI i + nI j) L := by
  rw [nI_add]
  exact vp_in_nI (by omega) (by omega)
set_option maxRecDepth 20000 in
theorem lw_case_0 {L d i : Nat} {xs : Nat → Int32} (hi : i + 7 ≤ L) (hL : L ≤ 3584) {S : St} (hS : PUR S) {I : Nat → Nat → Int32} {J : Nat → Nat → Int64} {T : Nat → Nat → Nat} (hc : CINV S I J T) (hm : MINV S I) (g : ∀ S' I' J' T', PUR S' → CINV S' I' J' T' → MINV S' I' → Go (some (L, xs)) aM (Ev mt aM (d + 50)) mL_law Qf (1388, [some (.ref 2000), some (.ref 0), some (.ref 83), some (.int (nI i))], [], (SH, mkM I' J' T'), 118, 394190)) : Go (some (L, xs)) aM (Ev mt aM (d + 50)) mL_law Qf (172, [some (.ref 2000), some (.ref 0), some (.ref 83), some (.int (nI i))], [], (SH, mkM I J T), 118, 394190) := by
  obtain ⟨v, S', hk, hS', h1, h2⟩ := OPR.run (k := 1) (by omega) (by decide +kernel) (op_match hS (xs (nI i + (1 : Int32)).toNatClampNeg) (xs (nI i + (2 : Int32)).toNatClampNeg) (xs (nI i + (3 : Int32)).toNatClampNeg)) hc hm
  obtain ⟨y, rfl⟩ := kv1 hk
  refine Go.of_run (Ev.mono _) 6 _ ?_
  refine ⟨vpx (j := 1) hi hL (by omega), ?_⟩
  show Go (some (L, xs)) aM (Ev mt aM (d + 50)) mL_law Qf (178, [some (.ref 2000), some (.ref 0), some (.ref 83), some (.int (nI i))], [.int (xs (nI i + (1 : Int32)).toNatClampNeg), .ref 0], (SH, mkM I J T), 118, 394190)
  refine Go.of_run (Ev.mono _) 5 _ ?_
  refine ⟨vpx (j := 2) hi hL (by omega), ?_⟩
  show Go (some (L, xs)) aM (Ev mt aM (d + 50)) mL_law Qf (183, [some (.ref 2000), some (.ref 0), some (.ref 83), some (.int (nI i))], [.int (xs (nI i + (2 : Int32)).toNatClampNeg), .int (xs (nI i + (1 : Int32)).toNatClampNeg), .ref 0], (SH, mkM I J T), 118, 394190)
  refine Go.of_run (Ev.mono _) 5 _ ?_
  refine ⟨vpx (j := 3) hi hL (by omega), ?_⟩
  show Go (some (L, xs)) aM (Ev mt aM (d + 50)) mL_law Qf (188, [some (.ref 2000), some (.ref 0), some (.ref 83), some (.int (nI i))], [.int (xs (nI i + (3 : Int32)).toNatClampNeg), .int (xs (nI i + (2 : Int32)).toNatClampNeg), .int (xs (nI i + (1 : Int32)).toNatClampNeg), .ref 0], (SH, mkM I J T), 118, 394190)
  refine Go.of_run (Ev.mono _) 1 _ ?_
  refine ⟨Nat.le_of_ble_eq_true rfl, ?_⟩
  refine h1 d _ (fun I1 J1 T1 m1 c1 => ?_)
  show Go (some (L, xs)) aM (Ev mt aM (d + 50)) mL_law Qf (191, [some (.ref 2000), some (.ref 0), some (.ref 83), some (.int (nI i))], [.int y], (SH, mkM I1 J1 T1), 118, 394190)
  refine Go.of_run (Ev.mono _) 6 _ ?_
  refine ⟨vpx (j := 1) hi hL (by omega), ?_⟩
  show Go (some (L, xs)) aM (Ev mt aM (d + 50)) mL_law Qf (197, [some (.ref 2000), some (.ref 0), some (.ref 83), some (.int (nI i))], [.int (xs (nI i + (1 : Int32)).toNatClampNeg), .ref 83, .int y], (SH, mkM I1 J1 T1), 118, 394190)
  refine Go.of_run (Ev.mono _) 5 _ ?_
  refine ⟨vpx (j := 2) hi hL (by omega), ?_⟩
  show Go (some (L, xs)) aM (Ev mt aM (d + 50)) mL_law Qf (202, [some (.ref 2000), some (.ref 0), some (.ref 83), some (.int (nI i))], [.int (xs (nI i + (2 : Int32)).toNatClampNeg), .int (xs (nI i + (1 : Int32)).toNatClampNeg), .ref 83, .int y], (SH, mkM I1 J1 T1), 118, 394190)
  refine Go.of_run (Ev.mono _) 5 _ ?_
  refine ⟨vpx (j := 3) hi hL (by omega), ?_⟩
  show Go (some (L, xs)) aM (Ev mt aM (d + 50)) mL_law Qf (207, [some (.ref 2000), some (.ref 0), some (.ref 83), some (.int (nI i))], [.int (xs (nI i + (3 : Int32)).toNatClampNeg), .int (xs (nI i + (2 : Int32)).toNatClampNeg), .int (xs (nI i + (1 : Int32)).toNatClampNeg), .ref 83, .int y], (SH, mkM I1 J1 T1), 118, 394190)
  refine Go.of_run (Ev.mono _) 1 _ ?_
  refine ⟨Nat.le_of_ble_eq_true rfl, ?_⟩
  refine h2 d I1 J1 T1 _ m1 c1 (fun I2 J2 c2 m2 => ?_)
  show Go (some (L, xs)) aM (Ev mt aM (d + 50)) mL_law Qf (210, [some (.ref 2000), some (.ref 0), some (.ref 83), some (.int (nI i))], [.int y, .int y], (SH, mkM I2 J2 T1), 118, 394190)
  refine Go.of_run (Ev.mono _) 1 _ ?_
  show Go (some (L, xs)) aM (Ev mt aM (d + 50)) mL_law Qf (if y = y then 1388 else 213, [some (.ref 2000), some (.ref 0), some (.ref 83), some (.int (nI i))], [], (SH, mkM I2 J2 T1), 118, 394190)
  rw [if_pos rfl]
  exact g S' I2 J2 T1 hS' c2 m2
set_option maxRecDepth 20000 in
theorem lw_case_1 {L d i : Nat} {xs : Nat → Int32} (hi : i + 7 ≤ L) (hL : L ≤ 3584) {S : St} (hS : PUR S) {I : Nat → Nat → Int32} {J : Nat → Nat → Int64} {T : Nat → Nat → Nat} (hc : CINV S I J T) (hm : MINV S I) (g : ∀ S' I' J' T', PUR S' → CINV S' I' J' T' → MINV S' I' → Go (some (L, xs)) aM (Ev mt aM (d + 50)) mL_law Qf (1388, [some (.ref 2000), some (.ref 0), some (.ref 83), some (.int (nI i))], [], (SH, mkM I' J' T'), 118, 394190)) : Go (some (L, xs)) aM (Ev mt aM (d + 50)) mL_law Qf (215, [some (.ref 2000), some (.ref 0), some (.ref 83), some (.int (nI i))], [], (SH, mkM I J T), 118, 394190) := by
  obtain ⟨v, S', hk, hS', h1, h2⟩ := OPR.run (k := 1) (by omega) (by decide +kernel) (op_player hS (xs (nI i + (1 : Int32)).toNatClampNeg) (xs (nI i + (2 : Int32)).toNatClampNeg) (xs (nI i + (3 : Int32)).toNatClampNeg) (xs (nI i + (4 : Int32)).toNatClampNeg) (xs (nI i + (5 : Int32)).toNatClampNeg)) hc hm
  obtain ⟨y, rfl⟩ := kv1 hk
  refine Go.of_run (Ev.mono _) 6 _ ?_
  refine ⟨vpx (j := 1) hi hL (by omega), ?_⟩
  show Go (some (L, xs)) aM (Ev mt aM (d + 50)) mL_law Qf (221, [some (.ref 2000), some (.ref 0), some (.ref 83), some (.int (nI i))], [.int (xs (nI i + (1 : Int32)).toNatClampNeg), .ref 0], (SH, mkM I J T), 118, 394190)
  refine Go.of_run (Ev.mono _) 5 _ ?_
  refine ⟨vpx (j := 2) hi hL (by omega), ?_⟩
  show Go (some (L, xs)) aM (Ev mt aM (d + 50)) mL_law Qf (226, [some (.ref 2000), some (.ref 0), some (.ref 83), some (.int (nI i))], [.int (xs (nI i + (2 : Int32)).toNatClampNeg), .int (xs (nI i + (1 : Int32)).toNatClampNeg), .ref 0], (SH, mkM I J T), 118, 394190)
  refine Go.of_run (Ev.mono _) 5 _ ?_
  refine ⟨vpx (j := 3) hi hL (by omega), ?_⟩
  show Go (some (L, xs)) aM (Ev mt aM (d + 50)) mL_law Qf (231, [some (.ref 2000), some (.ref 0), some (.ref 83), some (.int (nI i))], [.int (xs (nI i + (3 : Int32)).toNatClampNeg), .int (xs (nI i + (2 : Int32)).toNatClampNeg), .int (xs (nI i + (1 : Int32)).toNatClampNeg), .ref 0], (SH, mkM I J T), 118, 394190)
  refine Go.of_run (Ev.mono _) 5 _ ?_
  refine ⟨vpx (j := 4) hi hL (by omega), ?_⟩
  show Go (some (L, xs)) aM (Ev mt aM (d + 50)) mL_law Qf (236, [some (.ref 2000), some (.ref 0), some (.ref 83), some (.int (nI i))], [.int (xs (nI i + (4 : Int32)).toNatClampNeg), .int (xs (nI i + (3 : Int32)).toNatClampNeg), .int (xs (nI i + (2 : Int32)).toNatClampNeg), .int (xs (nI i + (1 : Int32)).toNatClampNeg), .ref 0], (SH, mkM I J T), 118, 394190)
  refine Go.of_run (Ev.mono _) 5 _ ?_
  refine ⟨vpx (j := 5) hi hL (by omega), ?_⟩
  show Go (some (L, xs)) aM (Ev mt aM (d + 50)) mL_law Qf (241, [some (.ref 2000), some (.ref 0), some (.ref 83), some (.int (nI i))], [.int (xs (nI i + (5 : Int32)).toNatClampNeg), .int (xs (nI i + (4 : Int32)).toNatClampNeg), .int (xs (nI i + (3 : Int32)).toNatClampNeg), .int (xs (nI i + (2 : Int32)).toNatClampNeg), .int (xs (nI i + (1 : Int32)).toNatClampNeg), .ref 0], (SH, mkM I J T), 118, 394190)
  refine Go.of_run (Ev.mono _) 1 _ ?_
  refine ⟨Nat.le_of_ble_eq_true rfl, ?_⟩
  refine h1 d _ (fun I1 J1 T1 m1 c1 => ?_)
  show Go (some (L, xs)) aM (Ev mt aM (d + 50)) mL_law Qf (244, [some (.ref 2000), some (.ref 0), some (.ref 83), some (.int (nI i))], [.int y], (SH, mkM I1 J1 T1), 118, 394190)
  refine Go.of_run (Ev.mono _) 6 _ ?_
  refine ⟨vpx (j := 1) hi hL (by omega), ?_⟩
  show Go (some (L, xs)) aM (Ev mt aM (d + 50)) mL_law Qf (250, [some (.ref 2000), some (.ref 0), some (.ref 83), some (.int (nI i))], [.int (xs (nI i + (1 : Int32)).toNatClampNeg), .ref 83, .int y], (SH, mkM I1 J1 T1), 118, 394190)
  refine Go.of_run (Ev.mono _) 5 _ ?_
  refine ⟨vpx (j := 2) hi hL (by omega), ?_⟩
  show Go (some (L, xs)) aM (Ev mt aM (d + 50)) mL_law Qf (255, [some (.ref 2000), some (.ref 0), some (.ref 83), some (.int (nI i))], [.int (xs (nI i + (2 : Int32)).toNatClampNeg), .int (xs (nI i + (1 : Int32)).toNatClampNeg), .ref 83, .int y], (SH, mkM I1 J1 T1), 118, 394190)
  refine Go.of_run (Ev.mono _) 5 _ ?_
  refine ⟨vpx (j := 3) hi hL (by omega), ?_⟩
  show Go (some (L, xs)) aM (Ev mt aM (d + 50)) mL_law Qf (260, [some (.ref 2000), some (.ref 0), some (.ref 83), some (.int (nI i))], [.int (xs (nI i + (3 : Int32)).toNatClampNeg), .int (xs (nI i + (2 : Int32)).toNatClampNeg), .int (xs (nI i + (1 : Int32)).toNatClampNeg), .ref 83, .int y], (SH, mkM I1 J1 T1), 118, 394190)
  refine Go.of_run (Ev.mono _) 5 _ ?_
  refine ⟨vpx (j := 4) hi hL (by omega), ?_⟩
  show Go (some (L, xs)) aM (Ev mt aM (d + 50)) mL_law Qf (265, [some (.ref 2000), some (.ref 0), some (.ref 83), some (.int (nI i))], [.int (xs (nI i + (4 : Int32)).toNatClampNeg), .int (xs (nI i + (3 : Int32)).toNatClampNeg), .int (xs (nI i + (2 : Int32)).toNatClampNeg), .int (xs (nI i + (1 : Int32)).toNatClampNeg), .ref 83, .int y], (SH, mkM I1 J1 T1), 118, 394190)
  refine Go.of_run (Ev.mono _) 5 _ ?_
  refine ⟨vpx (j := 5) hi hL (by omega), ?_⟩
  show Go (some (L, xs)) aM (Ev mt aM (d + 50)) mL_law Qf (270, [some (.ref 2000), some (.ref 0), some (.ref 83), some (.int (nI i))], [.int (xs (nI i + (5 : Int32)).toNatClampNeg), .int (xs (nI i + (4 : Int32)).toNatClampNeg), .int (xs (nI i + (3 : Int32)).toNatClampNeg), .int (xs (nI i + (2 : Int32)).toNatClampNeg), .int (xs (nI i + (1 : Int32)).toNatClampNeg), .ref 83, .int y], (SH, mkM I1 J1 T1), 118, 394190)
  refine Go.of_run (Ev.mono _) 1 _ ?_
  refine ⟨Nat.le_of_ble_eq_true rfl, ?_⟩
  refine h2 d I1 J1 T1 _ m1 c1 (fun I2 J2 c2 m2 => ?_)
  show Go (some (L, xs)) aM (Ev mt aM (d + 50)) mL_law Qf (273, [some (.ref 2000), some (.ref 0), some (.ref 83), some (.int (nI i))], [.int y, .int y], (SH, mkM I2 J2 T1), 118, 394190)
  refine Go.of_run (Ev.mono _) 1 _ ?_
  show Go (some (L, xs)) aM (Ev mt aM (d + 50)) mL_law Qf (if y = y then 1388 else 276, [some (.ref 2000), some (.ref 0), some (.ref 83), some (.int (nI i))], [], (SH, mkM I2 J2 T1), 118, 394190)
  rw [if_pos rfl]
  exact g S' I2 J2 T1 hS' c2 m2
set_option maxRecDepth 20000 in
theorem lw_case_2 {L d i : Nat} {xs : Nat → Int32} (hi : i + 7 ≤ L) (hL : L ≤ 3584) {S : St} (hS : PUR S) {I : Nat → Nat → Int32} {J : Nat → Nat → Int64} {T : Nat → Nat → Nat} (hc : CINV S I J T) (hm : MINV S I) (g : ∀ S' I' J' T', PUR S' → CINV S' I' J' T' → MINV S' I' → Go (some (L, xs)) aM (Ev mt aM (d + 50)) mL_law Qf (1388, [some (.ref 2000), some (.ref 0), some (.ref 83), some (.int (nI i))], [], (SH, mkM I' J' T'), 118, 394190)) : Go (some (L, xs)) aM (Ev mt aM (d + 50)) mL_law Qf (278, [some (.ref 2000), some (.ref 0), some (.ref 83), some (.int (nI i))], [], (SH, mkM I J T), 118, 394190) := by
  obtain ⟨v, S', hk, hS', h1, h2⟩ := OPR.run (k := 1) (by omega) (by decide +kernel) (op_pair hS (xs (nI i + (1 : Int32)).toNatClampNeg) (xs (nI i + (2 : Int32)).toNatClampNeg) (xs (nI i + (3 : Int32)).toNatClampNeg)) hc hm
  obtain ⟨y, rfl⟩ := kv1 hk
  refine Go.of_run (Ev.mono _) 6 _ ?_
  refine ⟨vpx (j := 1) hi hL (by omega), ?_⟩
  show Go (some (L, xs)) aM (Ev mt aM (d + 50)) mL_law Qf (284, [some (.ref 2000), some (.ref 0), some (.ref 83), some (.int (nI i))], [.int (xs (nI i + (1 : Int32)).toNatClampNeg), .ref 0], (SH, mkM I J T), 118, 394190)
  refine Go.of_run (Ev.mono _) 5 _ ?_
  refine ⟨vpx (j := 2) hi hL (by omega), ?_⟩
  show Go (some (L, xs)) aM (Ev mt aM (d + 50)) mL_law Qf (289, [some (.ref 2000), some (.ref 0), some (.ref 83), some (.int (nI i))], [.int (xs (nI i + (2 : Int32)).toNatClampNeg), .int (xs (nI i + (1 : Int32)).toNatClampNeg), .ref 0], (SH, mkM I J T), 118, 394190)
  refine Go.of_run (Ev.mono _) 5 _ ?_
  refine ⟨vpx (j := 3) hi hL (by omega), ?_⟩
  show Go (some (L, xs)) aM (Ev mt aM (d + 50)) mL_law Qf (294, [some (.ref 2000), some (.ref 0), some (.ref 83), some (.int (nI i))], [.int (xs (nI i + (3 : Int32)).toNatClampNeg), .int (xs (nI i + (2 : Int32)).toNatClampNeg), .int (xs (nI i + (1 : Int32)).toNatClampNeg), .ref 0], (SH, mkM I J T), 118, 394190)
  refine Go.of_run (Ev.mono _) 1 _ ?_
  refine ⟨Nat.le_of_ble_eq_true rfl, ?_⟩
  refine h1 d _ (fun I1 J1 T1 m1 c1 => ?_)
  show Go (some (L, xs)) aM (Ev mt aM (d + 50)) mL_law Qf (297, [some (.ref 2000), some (.ref 0), some (.ref 83), some (.int (nI i))], [.int y], (SH, mkM I1 J1 T1), 118, 394190)
  refine Go.of_run (Ev.mono _) 6 _ ?_
  refine ⟨vpx (j := 1) hi hL (by omega), ?_⟩
  show Go (some (L, xs)) aM (Ev mt aM (d + 50)) mL_law Qf (303, [some (.ref 2000), some (.ref 0), some (.ref 83), some (.int (nI i))], [.int (xs (nI i + (1 : Int32)).toNatClampNeg), .ref 83, .int y], (SH, mkM I1 J1 T1), 118, 394190)
  refine Go.of_run (Ev.mono _) 5 _ ?_
  refine ⟨vpx (j := 2) hi hL (by omega), ?_⟩
  show Go (some (L, xs)) aM (Ev mt aM (d + 50)) mL_law Qf (308, [some (.ref 2000), some (.ref 0), some (.ref 83), some (.int (nI i))], [.int (xs (nI i + (2 : Int32)).toNatClampNeg), .int (xs (nI i + (1 : Int32)).toNatClampNeg), .ref 83, .int y], (SH, mkM I1 J1 T1), 118, 394190)
  refine Go.of_run (Ev.mono _) 5 _ ?_
  refine ⟨vpx (j := 3) hi hL (by omega), ?_⟩
  show Go (some (L, xs)) aM (Ev mt aM (d + 50)) mL_law Qf (313, [some (.ref 2000), some (.ref 0), some (.ref 83), some (.int (nI i))], [.int (xs (nI i + (3 : Int32)).toNatClampNeg), .int (xs (nI i + (2 : Int32)).toNatClampNeg), .int (xs (nI i + (1 : Int32)).toNatClampNeg), .ref 83, .int y], (SH, mkM I1 J1 T1), 118, 394190)
  refine Go.of_run (Ev.mono _) 1 _ ?_
  refine ⟨Nat.le_of_ble_eq_true rfl, ?_⟩
  refine h2 d I1 J1 T1 _ m1 c1 (fun I2 J2 c2 m2 => ?_)
  show Go (some (L, xs)) aM (Ev mt aM (d + 50)) mL_law Qf (316, [some (.ref 2000), some (.ref 0), some (.ref 83), some (.int (nI i))], [.int y, .int y], (SH, mkM I2 J2 T1), 118, 394190)
  refine Go.of_run (Ev.mono _) 1 _ ?_
  show Go (some (L, xs)) aM (Ev mt aM (d + 50)) mL_law Qf (if y = y then 1388 else 319, [some (.ref 2000), some (.ref 0), some (.ref 83), some (.int (nI i))], [], (SH, mkM I2 J2 T1), 118, 394190)
  rw [if_pos rfl]
  exact g S' I2 J2 T1 hS' c2 m2
set_option maxRecDepth 20000 in
theorem lw_case_3 {L d i : Nat} {xs : Nat → Int32} (hi : i + 7 ≤ L) (hL : L ≤ 3584) {S : St} (hS : PUR S) {I : Nat → Nat → Int32} {J : Nat → Nat → Int64} {T : Nat → Nat → Nat} (hc : CINV S I J T) (hm : MINV S I) (g : ∀ S' I' J' T', PUR S' → CINV S' I' J' T' → MINV S' I' → Go (some (L, xs)) aM (Ev mt aM (d + 50)) mL_law Qf (1388, [some (.ref 2000), some (.ref 0), some (.ref 83), some (.int (nI i))], [], (SH, mkM I' J' T'), 118, 394190)) : Go (some (L, xs)) aM (Ev mt aM (d + 50)) mL_law Qf (321, [some (.ref 2000), some (.ref 0), some (.ref 83), some (.int (nI i))], [], (SH, mkM I J T), 118, 394190) := by
  obtain ⟨v, S', hk, hS', h1, h2⟩ := OPR.run (k := 1) (by omega) (by decide +kernel) (op_worth hS (xs (nI i + (1 : Int32)).toNatClampNeg) (xs (nI i + (2 : Int32)).toNatClampNeg) (xs (nI i + (3 : Int32)).toNatClampNeg)) hc hm
  obtain ⟨y, rfl⟩ := kv1 hk
  refine Go.of_run (Ev.mono _) 6 _ ?_
  refine ⟨vpx (j := 1) hi hL (by omega), ?_⟩
  show Go (some (L, xs)) aM (Ev mt aM (d + 50)) mL_law Qf (327, [some (.ref 2000), some (.ref 0), some (.ref 83), some (.int (nI i))], [.int (xs (nI i + (1 : Int32)).toNatClampNeg), .ref 0], (SH, mkM I J T), 118, 394190)
  refine Go.of_run (Ev.mono _) 5 _ ?_
  refine ⟨vpx (j := 2) hi hL (by omega), ?_⟩
  show Go (some (L, xs)) aM (Ev mt aM (d + 50)) mL_law Qf (332, [some (.ref 2000), some (.ref 0), some (.ref 83), some (.int (nI i))], [.int (xs (nI i + (2 : Int32)).toNatClampNeg), .int (xs (nI i + (1 : Int32)).toNatClampNeg), .ref 0], (SH, mkM I J T), 118, 394190)
  refine Go.of_run (Ev.mono _) 5 _ ?_
  refine ⟨vpx (j := 3) hi hL (by omega), ?_⟩
  show Go (some (L, xs)) aM (Ev mt aM (d + 50)) mL_law Qf (337, [some (.ref 2000), some (.ref 0), some (.ref 83), some (.int (nI i))], [.int (xs (nI i + (3 : Int32)).toNatClampNeg), .int (xs (nI i + (2 : Int32)).toNatClampNeg), .int (xs (nI i + (1 : Int32)).toNatClampNeg), .ref 0], (SH, mkM I J T), 118, 394190)
  refine Go.of_run (Ev.mono _) 1 _ ?_
  refine ⟨Nat.le_of_ble_eq_true rfl, ?_⟩
  refine h1 d _ (fun I1 J1 T1 m1 c1 => ?_)
  show Go (some (L, xs)) aM (Ev mt aM (d + 50)) mL_law Qf (340, [some (.ref 2000), some (.ref 0), some (.ref 83), some (.int (nI i))], [.int y], (SH, mkM I1 J1 T1), 118, 394190)
  refine Go.of_run (Ev.mono _) 6 _ ?_
  refine ⟨vpx (j := 1) hi hL (by omega), ?_⟩
  show Go (some (L, xs)) aM (Ev mt aM (d + 50)) mL_law Qf (346, [some (.ref 2000), some (.ref 0), some (.ref 83), some (.int (nI i))], [.int (xs (nI i + (1 : Int32)).toNatClampNeg), .ref 83, .int y], (SH, mkM I1 J1 T1), 118, 394190)
  refine Go.of_run (Ev.mono _) 5 _ ?_
  refine ⟨vpx (j := 2) hi hL (by omega), ?_⟩
  show Go (some (L, xs)) aM (Ev mt aM (d + 50)) mL_law Qf (351, [some (.ref 2000), some (.ref 0), some (.ref 83), some (.int (nI i))], [.int (xs (nI i + (2 : Int32)).toNatClampNeg), .int (xs (nI i + (1 : Int32)).toNatClampNeg), .ref 83, .int y], (SH, mkM I1 J1 T1), 118, 394190)
  refine Go.of_run (Ev.mono _) 5 _ ?_
  refine ⟨vpx (j := 3) hi hL (by omega), ?_⟩
  show Go (some (L, xs)) aM (Ev mt aM (d + 50)) mL_law Qf (356, [some (.ref 2000), some (.ref 0), some (.ref 83), some (.int (nI i))], [.int (xs (nI i + (3 : Int32)).toNatClampNeg), .int (xs (nI i + (2 : Int32)).toNatClampNeg), .int (xs (nI i + (1 : Int32)).toNatClampNeg), .ref 83, .int y], (SH, mkM I1 J1 T1), 118, 394190)
  refine Go.of_run (Ev.mono _) 1 _ ?_
  refine ⟨Nat.le_of_ble_eq_true rfl, ?_⟩
  refine h2 d I1 J1 T1 _ m1 c1 (fun I2 J2 c2 m2 => ?_)
  show Go (some (L, xs)) aM (Ev mt aM (d + 50)) mL_law Qf (359, [some (.ref 2000), some (.ref 0), some (.ref 83), some (.int (nI i))], [.int y, .int y], (SH, mkM I2 J2 T1), 118, 394190)
  refine Go.of_run (Ev.mono _) 1 _ ?_
  show Go (some (L, xs)) aM (Ev mt aM (d + 50)) mL_law Qf (if y = y then 1388 else 362, [some (.ref 2000), some (.ref 0), some (.ref 83), some (.int (nI i))], [], (SH, mkM I2 J2 T1), 118, 394190)
  rw [if_pos rfl]
  exact g S' I2 J2 T1 hS' c2 m2
set_option maxRecDepth 20000 in
theorem lw_case_4 {L d i : Nat} {xs : Nat → Int32} (hi : i + 7 ≤ L) (hL : L ≤ 3584) {S : St} (hS : PUR S) {I : Nat → Nat → Int32} {J : Nat → Nat → Int64} {T : Nat → Nat → Nat} (hc : CINV S I J T) (hm : MINV S I) (g : ∀ S' I' J' T', PUR S' → CINV S' I' J' T' → MINV S' I' → Go (some (L, xs)) aM (Ev mt aM (d + 50)) mL_law Qf (1388, [some (.ref 2000), some (.ref 0), some (.ref 83), some (.int (nI i))], [], (SH, mkM I' J' T'), 118, 394190)) : Go (some (L, xs)) aM (Ev mt aM (d + 50)) mL_law Qf (364, [some (.ref 2000), some (.ref 0), some (.ref 83), some (.int (nI i))], [], (SH, mkM I J T), 118, 394190) := by
  obtain ⟨v, S', hk, hS', h1, h2⟩ := OPR.run (k := 1) (by omega) (by decide +kernel) (op_feed hS (xs (nI i + (1 : Int32)).toNatClampNeg) (xs (nI i + (2 : Int32)).toNatClampNeg) (xs (nI i + (3 : Int32)).toNatClampNeg) (xs (nI i + (4 : Int32)).toNatClampNeg) (xs (nI i + (5 : Int32)).toNatClampNeg)) hc hm
  obtain ⟨y, rfl⟩ := kv1 hk
  refine Go.of_run (Ev.mono _) 6 _ ?_
  refine ⟨vpx (j := 1) hi hL (by omega), ?_⟩
  show Go (some (L, xs)) aM (Ev mt aM (d + 50)) mL_law Qf (370, [some (.ref 2000), some (.ref 0), some (.ref 83), some (.int (nI i))], [.int (xs (nI i + (1 : Int32)).toNatClampNeg), .ref 0], (SH, mkM I J T), 118, 394190)
  refine Go.of_run (Ev.mono _) 5 _ ?_
  refine ⟨vpx (j := 2) hi hL (by omega), ?_⟩
  show Go (some (L, xs)) aM (Ev mt aM (d + 50)) mL_law Qf (375, [some (.ref 2000), some (.ref 0), some (.ref 83), some (.int (nI i))], [.int (xs (nI i + (2 : Int32)).toNatClampNeg), .int (xs (nI i + (1 : Int32)).toNatClampNeg), .ref 0], (SH, mkM I J T), 118, 394190)
  refine Go.of_run (Ev.mono _) 5 _ ?_
  refine ⟨vpx (j := 3) hi hL (by omega), ?_⟩
  show Go (some (L, xs)) aM (Ev mt aM (d + 50)) mL_law Qf (380, [some (.ref 2000), some (.ref 0), some (.ref 83), some (.int (nI i))], [.int (xs (nI i + (3 : Int32)).toNatClampNeg), .int (xs (nI i + (2 : Int32)).toNatClampNeg), .int (xs (nI i + (1 : Int32)).toNatClampNeg), .ref 0], (SH, mkM I J T), 118, 394190)
  refine Go.of_run (Ev.mono _) 5 _ ?_
  refine ⟨vpx (j := 4) hi hL (by omega), ?_⟩
  show Go (some (L, xs)) aM (Ev mt aM (d + 50)) mL_law Qf (385, [some (.ref 2000), some (.ref 0), some (.ref 83), some (.int (nI i))], [.int (xs (nI i + (4 : Int32)).toNatClampNeg), .int (xs (nI i + (3 : Int32)).toNatClampNeg), .int (xs (nI i + (2 : Int32)).toNatClampNeg), .int (xs (nI i + (1 : Int32)).toNatClampNeg), .ref 0], (SH, mkM I J T), 118, 394190)
  refine Go.of_run (Ev.mono _) 5 _ ?_
  refine ⟨vpx (j := 5) hi hL (by omega), ?_⟩
  show Go (some (L, xs)) aM (Ev mt aM (d + 50)) mL_law Qf (390, [some (.ref 2000), some (.ref 0), some (.ref 83), some (.int (nI i))], [.int (xs (nI i + (5 : Int32)).toNatClampNeg), .int (xs (nI i + (4 : Int32)).toNatClampNeg), .int (xs (nI i + (3 : Int32)).toNatClampNeg), .int (xs (nI i + (2 : Int32)).toNatClampNeg), .int (xs (nI i + (1 : Int32)).toNatClampNeg), .ref 0], (SH, mkM I J T), 118, 394190)
  refine Go.of_run (Ev.mono _) 1 _ ?_
  refine ⟨Nat.le_of_ble_eq_true rfl, ?_⟩
  refine h1 d _ (fun I1 J1 T1 m1 c1 => ?_)
  show Go (some (L, xs)) aM (Ev mt aM (d + 50)) mL_law Qf (393, [some (.ref 2000), some (.ref 0), some (.ref 83), some (.int (nI i))], [.int y], (SH, mkM I1 J1 T1), 118, 394190)
  refine Go.of_run (Ev.mono _) 6 _ ?_
  refine ⟨vpx (j := 1) hi hL (by omega), ?_⟩
  show Go (some (L, xs)) aM (Ev mt aM (d + 50)) mL_law Qf (399, [some (.ref 2000), some (.ref 0), some (.ref 83), some (.int (nI i))], [.int (xs (nI i + (1 : Int32)).toNatClampNeg), .ref 83, .int y], (SH, mkM I1 J1 T1), 118, 394190)
  refine Go.of_run (Ev.mono _) 5 _ ?_
  refine ⟨vpx (j := 2) hi hL (by omega), ?_⟩
  show Go (some (L, xs)) aM (Ev mt aM (d + 50)) mL_law Qf (404, [some (.ref 2000), some (.ref 0), some (.ref 83), some (.int (nI i))], [.int (xs (nI i + (2 : Int32)).toNatClampNeg), .int (xs (nI i + (1 : Int32)).toNatClampNeg), .ref 83, .int y], (SH, mkM I1 J1 T1), 118, 394190)
  refine Go.of_run (Ev.mono _) 5 _ ?_
  refine ⟨vpx (j := 3) hi hL (by omega), ?_⟩
  show Go (some (L, xs)) aM (Ev mt aM (d + 50)) mL_law Qf (409, [some (.ref 2000), some (.ref 0), some (.ref 83), some (.int (nI i))], [.int (xs (nI i + (3 : Int32)).toNatClampNeg), .int (xs (nI i + (2 : Int32)).toNatClampNeg), .int (xs (nI i + (1 : Int32)).toNatClampNeg), .ref 83, .int y], (SH, mkM I1 J1 T1), 118, 394190)
  refine Go.of_run (Ev.mono _) 5 _ ?_
  refine ⟨vpx (j := 4) hi hL (by omega), ?_⟩
  show Go (some (L, xs)) aM (Ev mt aM (d + 50)) mL_law Qf (414, [some (.ref 2000), some (.ref 0), some (.ref 83), some (.int (nI i))], [.int (xs (nI i + (4 : Int32)).toNatClampNeg), .int (xs (nI i + (3 : Int32)).toNatClampNeg), .int (xs (nI i + (2 : Int32)).toNatClampNeg), .int (xs (nI i + (1 : Int32)).toNatClampNeg), .ref 83, .int y], (SH, mkM I1 J1 T1), 118, 394190)
  refine Go.of_run (Ev.mono _) 5 _ ?_
  refine ⟨vpx (j := 5) hi hL (by omega), ?_⟩
  show Go (some (L, xs)) aM (Ev mt aM (d + 50)) mL_law Qf (419, [some (.ref 2000), some (.ref 0), some (.ref 83), some (.int (nI i))], [.int (xs (nI i + (5 : Int32)).toNatClampNeg), .int (xs (nI i + (4 : Int32)).toNatClampNeg), .int (xs (nI i + (3 : Int32)).toNatClampNeg), .int (xs (nI i + (2 : Int32)).toNatClampNeg), .int (xs (nI i + (1 : Int32)).toNatClampNeg), .ref 83, .int y], (SH, mkM I1 J1 T1), 118, 394190)
  refine Go.of_run (Ev.mono _) 1 _ ?_
  refine ⟨Nat.le_of_ble_eq_true rfl, ?_⟩
  refine h2 d I1 J1 T1 _ m1 c1 (fun I2 J2 c2 m2 => ?_)
  show Go (some (L, xs)) aM (Ev mt aM (d + 50)) mL_law Qf (422, [some (.ref 2000), some (.ref 0), some (.ref 83), some (.int (nI i))], [.int y, .int y], (SH, mkM I2 J2 T1), 118, 394190)
  refine Go.of_run (Ev.mono _) 1 _ ?_
  show Go (some (L, xs)) aM (Ev mt aM (d + 50)) mL_law Qf (if y = y then 1388 else 425, [some (.ref 2000), some (.ref 0), some (.ref 83), some (.int (nI i))], [], (SH, mkM I2 J2 T1), 118, 394190)
  rw [if_pos rfl]
  exact g S' I2 J2 T1 hS' c2 m2
set_option maxRecDepth 20000 in
theorem lw_case_5 {L d i : Nat} {xs : Nat → Int32} (hi : i + 7 ≤ L) (hL : L ≤ 3584) {S : St} (hS : PUR S) {I : Nat → Nat → Int32} {J : Nat → Nat → Int64} {T : Nat → Nat → Nat} (hc : CINV S I J T) (hm : MINV S I) (g : ∀ S' I' J' T', PUR S' → CINV S' I' J' T' → MINV S' I' → Go (some (L, xs)) aM (Ev mt aM (d + 50)) mL_law Qf (1388, [some (.ref 2000), some (.ref 0), some (.ref 83), some (.int (nI i))], [], (SH, mkM I' J' T'), 118, 394190)) : Go (some (L, xs)) aM (Ev mt aM (d + 50)) mL_law Qf (427, [some (.ref 2000), some (.ref 0), some (.ref 83), some (.int (nI i))], [], (SH, mkM I J T), 118, 394190) := by
  obtain ⟨v, S', hk, hS', h1, h2⟩ := OPR.run (k := 1) (by omega) (by decide +kernel) (op_law hS (xs (nI i + (1 : Int32)).toNatClampNeg)) hc hm
  obtain ⟨y, rfl⟩ := kv1 hk
  refine Go.of_run (Ev.mono _) 6 _ ?_
  refine ⟨vpx (j := 1) hi hL (by omega), ?_⟩
  show Go (some (L, xs)) aM (Ev mt aM (d + 50)) mL_law Qf (433, [some (.ref 2000), some (.ref 0), some (.ref 83), some (.int (nI i))], [.int (xs (nI i + (1 : Int32)).toNatClampNeg), .ref 0], (SH, mkM I J T), 118, 394190)
  refine Go.of_run (Ev.mono _) 1 _ ?_
  refine ⟨Nat.le_of_ble_eq_true rfl, ?_⟩
  refine h1 d _ (fun I1 J1 T1 m1 c1 => ?_)
  show Go (some (L, xs)) aM (Ev mt aM (d + 50)) mL_law Qf (436, [some (.ref 2000), some (.ref 0), some (.ref 83), some (.int (nI i))], [.int y], (SH, mkM I1 J1 T1), 118, 394190)
  refine Go.of_run (Ev.mono _) 6 _ ?_
  refine ⟨vpx (j := 1) hi hL (by omega), ?_⟩
  show Go (some (L, xs)) aM (Ev mt aM (d + 50)) mL_law Qf (442, [some (.ref 2000), some (.ref 0), some (.ref 83), some (.int (nI i))], [.int (xs (nI i + (1 : Int32)).toNatClampNeg), .ref 83, .int y], (SH, mkM I1 J1 T1), 118, 394190)
  refine Go.of_run (Ev.mono _) 1 _ ?_
  refine ⟨Nat.le_of_ble_eq_true rfl, ?_⟩
  refine h2 d I1 J1 T1 _ m1 c1 (fun I2 J2 c2 m2 => ?_)
  show Go (some (L, xs)) aM (Ev mt aM (d + 50)) mL_law Qf (445, [some (.ref 2000), some (.ref 0), some (.ref 83), some (.int (nI i))], [.int y, .int y], (SH, mkM I2 J2 T1), 118, 394190)
  refine Go.of_run (Ev.mono _) 1 _ ?_
  show Go (some (L, xs)) aM (Ev mt aM (d + 50)) mL_law Qf (if y = y then 1388 else 448, [some (.ref 2000), some (.ref 0), some (.ref 83), some (.int (nI i))], [], (SH, mkM I2 J2 T1), 118, 394190)
  rw [if_pos rfl]
  exact g S' I2 J2 T1 hS' c2 m2
set_option maxRecDepth 20000 in
theorem lw_case_6 {L d i : Nat} {xs : Nat → Int32} (hi : i + 7 ≤ L) (hL : L ≤ 3584) {S : St} (hS : PUR S) {I : Nat → Nat → Int32} {J : Nat → Nat → Int64} {T : Nat → Nat → Nat} (hc : CINV S I J T) (hm : MINV S I) (g : ∀ S' I' J' T', PUR S' → CINV S' I' J' T' → MINV S' I' → Go (some (L, xs)) aM (Ev mt aM (d + 50)) mL_law Qf (1388, [some (.ref 2000), some (.ref 0), some (.ref 83), some (.int (nI i))], [], (SH, mkM I' J' T'), 118, 394190)) : Go (some (L, xs)) aM (Ev mt aM (d + 50)) mL_law Qf (450, [some (.ref 2000), some (.ref 0), some (.ref 83), some (.int (nI i))], [], (SH, mkM I J T), 118, 394190) := by
  obtain ⟨v, S', hk, hS', h1, h2⟩ := OPR.run (k := 1) (by omega) (by decide +kernel) (op_other hS (xs (nI i + (1 : Int32)).toNatClampNeg) (xs (nI i + (2 : Int32)).toNatClampNeg)) hc hm
  obtain ⟨y, rfl⟩ := kv1 hk
  refine Go.of_run (Ev.mono _) 6 _ ?_
  refine ⟨vpx (j := 1) hi hL (by omega), ?_⟩
  show Go (some (L, xs)) aM (Ev mt aM (d + 50)) mL_law Qf (456, [some (.ref 2000), some (.ref 0), some (.ref 83), some (.int (nI i))], [.int (xs (nI i + (1 : Int32)).toNatClampNeg), .ref 0], (SH, mkM I J T), 118, 394190)
  refine Go.of_run (Ev.mono _) 5 _ ?_
  refine ⟨vpx (j := 2) hi hL (by omega), ?_⟩
  show Go (some (L, xs)) aM (Ev mt aM (d + 50)) mL_law Qf (461, [some (.ref 2000), some (.ref 0), some (.ref 83), some (.int (nI i))], [.int (xs (nI i + (2 : Int32)).toNatClampNeg), .int (xs (nI i + (1 : Int32)).toNatClampNeg), .ref 0], (SH, mkM I J T), 118, 394190)
  refine Go.of_run (Ev.mono _) 1 _ ?_
  refine ⟨Nat.le_of_ble_eq_true rfl, ?_⟩
  refine h1 d _ (fun I1 J1 T1 m1 c1 => ?_)
  show Go (some (L, xs)) aM (Ev mt aM (d + 50)) mL_law Qf (464, [some (.ref 2000), some (.ref 0), some (.ref 83), some (.int (nI i))], [.int y], (SH, mkM I1 J1 T1), 118, 394190)
  refine Go.of_run (Ev.mono _) 6 _ ?_
  refine ⟨vpx (j := 1) hi hL (by omega), ?_⟩
  show Go (some (L, xs)) aM (Ev mt aM (d + 50)) mL_law Qf (470, [some (.ref 2000), some (.ref 0), some (.ref 83), some (.int (nI i))], [.int (xs (nI i + (1 : Int32)).toNatClampNeg), .ref 83, .int y], (SH, mkM I1 J1 T1), 118, 394190)
  refine Go.of_run (Ev.mono _) 5 _ ?_
  refine ⟨vpx (j := 2) hi hL (by omega), ?_⟩
  show Go (some (L, xs)) aM (Ev mt aM (d + 50)) mL_law Qf (475, [some (.ref 2000), some (.ref 0), some (.ref 83), some (.int (nI i))], [.int (xs (nI i + (2 : Int32)).toNatClampNeg), .int (xs (nI i + (1 : Int32)).toNatClampNeg), .ref 83, .int y], (SH, mkM I1 J1 T1), 118, 394190)
  refine Go.of_run (Ev.mono _) 1 _ ?_
  refine ⟨Nat.le_of_ble_eq_true rfl, ?_⟩
  refine h2 d I1 J1 T1 _ m1 c1 (fun I2 J2 c2 m2 => ?_)
  show Go (some (L, xs)) aM (Ev mt aM (d + 50)) mL_law Qf (478, [some (.ref 2000), some (.ref 0), some (.ref 83), some (.int (nI i))], [.int y, .int y], (SH, mkM I2 J2 T1), 118, 394190)
  refine Go.of_run (Ev.mono _) 1 _ ?_
  show Go (some (L, xs)) aM (Ev mt aM (d + 50)) mL_law Qf (if y = y then 1388 else 481, [some (.ref 2000), some (.ref 0), some (.ref 83), some (.int (nI i))], [], (SH, mkM I2 J2 T1), 118, 394190)
  rw [if_pos rfl]
  exact g S' I2 J2 T1 hS' c2 m2
set_option maxRecDepth 20000 in
theorem lw_case_7 {L d i : Nat} {xs : Nat → Int32} (hi : i + 7 ≤ L) (hL : L ≤ 3584) {S : St} (hS : PUR S) {I : Nat → Nat → Int32} {J : Nat → Nat → Int64} {T : Nat → Nat → Nat} (hc : CINV S I J T) (hm : MINV S I) (g : ∀ S' I' J' T', PUR S' → CINV S' I' J' T' → MINV S' I' → Go (some (L, xs)) aM (Ev mt aM (d + 50)) mL_law Qf (1388, [some (.ref 2000), some (.ref 0), some (.ref 83), some (.int (nI i))], [], (SH, mkM I' J' T'), 118, 394190)) : Go (some (L, xs)) aM (Ev mt aM (d + 50)) mL_law Qf (483, [some (.ref 2000), some (.ref 0), some (.ref 83), some (.int (nI i))], [], (SH, mkM I J T), 118, 394190) := by
  obtain ⟨v, S', hk, hS', h1, h2⟩ := OPR.run (k := 1) (by omega) (by decide +kernel) (op_rule hS (xs (nI i + (1 : Int32)).toNatClampNeg) (xs (nI i + (2 : Int32)).toNatClampNeg)) hc hm
  obtain ⟨y, rfl⟩ := kv1 hk
  refine Go.of_run (Ev.mono _) 6 _ ?_
  refine ⟨vpx (j := 1) hi hL (by omega), ?_⟩
  show Go (some (L, xs)) aM (Ev mt aM (d + 50)) mL_law Qf (489, [some (.ref 2000), some (.ref 0), some (.ref 83), some (.int (nI i))], [.int (xs (nI i + (1 : Int32)).toNatClampNeg), .ref 0], (SH, mkM I J T), 118, 394190)
  refine Go.of_run (Ev.mono _) 5 _ ?_
  refine ⟨vpx (j := 2) hi hL (by omega), ?_⟩
  show Go (some (L, xs)) aM (Ev mt aM (d + 50)) mL_law Qf (494, [some (.ref 2000), some (.ref 0), some (.ref 83), some (.int (nI i))], [.int (xs (nI i + (2 : Int32)).toNatClampNeg), .int (xs (nI i + (1 : Int32)).toNatClampNeg), .ref 0], (SH, mkM I J T), 118, 394190)
  refine Go.of_run (Ev.mono _) 1 _ ?_
  refine ⟨Nat.le_of_ble_eq_true rfl, ?_⟩
  refine h1 d _ (fun I1 J1 T1 m1 c1 => ?_)
  show Go (some (L, xs)) aM (Ev mt aM (d + 50)) mL_law Qf (497, [some (.ref 2000), some (.ref 0), some (.ref 83), some (.int (nI i))], [.int y], (SH, mkM I1 J1 T1), 118, 394190)
  refine Go.of_run (Ev.mono _) 6 _ ?_
  refine ⟨vpx (j := 1) hi hL (by omega), ?_⟩
  show Go (some (L, xs)) aM (Ev mt aM (d + 50)) mL_law Qf (503, [some (.ref 2000), some (.ref 0), some (.ref 83), some (.int (nI i))], [.int (xs (nI i + (1 : Int32)).toNatClampNeg), .ref 83, .int y], (SH, mkM I1 J1 T1), 118, 394190)
  refine Go.of_run (Ev.mono _) 5 _ ?_
  refine ⟨vpx (j := 2) hi hL (by omega), ?_⟩
  show Go (some (L, xs)) aM (Ev mt aM (d + 50)) mL_law Qf (508, [some (.ref 2000), some (.ref 0), some (.ref 83), some (.int (nI i))], [.int (xs (nI i + (2 : Int32)).toNatClampNeg), .int (xs (nI i + (1 : Int32)).toNatClampNeg), .ref 83, .int y], (SH, mkM I1 J1 T1), 118, 394190)
  refine Go.of_run (Ev.mono _) 1 _ ?_
  refine ⟨Nat.le_of_ble_eq_true rfl, ?_⟩
  refine h2 d I1 J1 T1 _ m1 c1 (fun I2 J2 c2 m2 => ?_)
  show Go (some (L, xs)) aM (Ev mt aM (d + 50)) mL_law Qf (511, [some (.ref 2000), some (.ref 0), some (.ref 83), some (.int (nI i))], [.int y, .int y], (SH, mkM I2 J2 T1), 118, 394190)
  refine Go.of_run (Ev.mono _) 1 _ ?_
  show Go (some (L, xs)) aM (Ev mt aM (d + 50)) mL_law Qf (if y = y then 1388 else 514, [some (.ref 2000), some (.ref 0), some (.ref 83), some (.int (nI i))], [], (SH, mkM I2 J2 T1), 118, 394190)
  rw [if_pos rfl]
  exact g S' I2 J2 T1 hS' c2 m2
set_option maxRecDepth 20000 in
theorem lw_case_8 {L d i : Nat} {xs : Nat → Int32} (hi : i + 7 ≤ L) (hL : L ≤ 3584) {S : St} (hS : PUR S) {I : Nat → Nat → Int32} {J : Nat → Nat → Int64} {T : Nat → Nat → Nat} (hc : CINV S I J T) (hm : MINV S I) (g : ∀ S' I' J' T', PUR S' → CINV S' I' J' T' → MINV S' I' → Go (some (L, xs)) aM (Ev mt aM (d + 50)) mL_law Qf (1388, [some (.ref 2000), some (.ref 0), some (.ref 83), some (.int (nI i))], [], (SH, mkM I' J' T'), 118, 394190)) : Go (some (L, xs)) aM (Ev mt aM (d + 50)) mL_law Qf (516, [some (.ref 2000), some (.ref 0), some (.ref 83), some (.int (nI i))], [], (SH, mkM I J T), 118, 394190) := by
  obtain ⟨v, S', hk, hS', h1, h2⟩ := OPR.run (k := 1) (by omega) (by decide +kernel) (op_may hS (xs (nI i + (1 : Int32)).toNatClampNeg) (xs (nI i + (2 : Int32)).toNatClampNeg) (xs (nI i + (3 : Int32)).toNatClampNeg)) hc hm
  obtain ⟨y, rfl⟩ := kv1 hk
  refine Go.of_run (Ev.mono _) 6 _ ?_
  refine ⟨vpx (j := 1) hi hL (by omega), ?_⟩
  show Go (some (L, xs)) aM (Ev mt aM (d + 50)) mL_law Qf (522, [some (.ref 2000), some (.ref 0), some (.ref 83), some (.int (nI i))], [.int (xs (nI i + (1 : Int32)).toNatClampNeg), .ref 0], (SH, mkM I J T), 118, 394190)
  refine Go.of_run (Ev.mono _) 5 _ ?_
  refine ⟨vpx (j := 2) hi hL (by omega), ?_⟩
  show Go (some (L, xs)) aM (Ev mt aM (d + 50)) mL_law Qf (527, [some (.ref 2000), some (.ref 0), some (.ref 83), some (.int (nI i))], [.int (xs (nI i + (2 : Int32)).toNatClampNeg), .int (xs (nI i + (1 : Int32)).toNatClampNeg), .ref 0], (SH, mkM I J T), 118, 394190)
  refine Go.of_run (Ev.mono _) 5 _ ?_
  refine ⟨vpx (j := 3) hi hL (by omega), ?_⟩
  show Go (some (L, xs)) aM (Ev mt aM (d + 50)) mL_law Qf (532, [some (.ref 2000), some (.ref 0), some (.ref 83), some (.int (nI i))], [.int (xs (nI i + (3 : Int32)).toNatClampNeg), .int (xs (nI i + (2 : Int32)).toNatClampNeg), .int (xs (nI i + (1 : Int32)).toNatClampNeg), .ref 0], (SH, mkM I J T), 118, 394190)
  refine Go.of_run (Ev.mono _) 1 _ ?_
  refine ⟨Nat.le_of_ble_eq_true rfl, ?_⟩
  refine h1 d _ (fun I1 J1 T1 m1 c1 => ?_)
  show Go (some (L, xs)) aM (Ev mt aM (d + 50)) mL_law Qf (535, [some (.ref 2000), some (.ref 0), some (.ref 83), some (.int (nI i))], [.int y], (SH, mkM I1 J1 T1), 118, 394190)
  refine Go.of_run (Ev.mono _) 6 _ ?_
  refine ⟨vpx (j := 1) hi hL (by omega), ?_⟩
  show Go (some (L, xs)) aM (Ev mt aM (d + 50)) mL_law Qf (541, [some (.ref 2000), some (.ref 0), some (.ref 83), some (.int (nI i))], [.int (xs (nI i + (1 : Int32)).toNatClampNeg), .ref 83, .int y], (SH, mkM I1 J1 T1), 118, 394190)
  refine Go.of_run (Ev.mono _) 5 _ ?_
  refine ⟨vpx (j := 2) hi hL (by omega), ?_⟩
  show Go (some (L, xs)) aM (Ev mt aM (d + 50)) mL_law Qf (546, [some (.ref 2000), some (.ref 0), some (.ref 83), some (.int (nI i))], [.int (xs (nI i + (2 : Int32)).toNatClampNeg), .int (xs (nI i + (1 : Int32)).toNatClampNeg), .ref 83, .int y], (SH, mkM I1 J1 T1), 118, 394190)
  refine Go.of_run (Ev.mono _) 5 _ ?_
  refine ⟨vpx (j := 3) hi hL (by omega), ?_⟩
  show Go (some (L, xs)) aM (Ev mt aM (d + 50)) mL_law Qf (551, [some (.ref 2000), some (.ref 0), some (.ref 83), some (.int (nI i))], [.int (xs (nI i + (3 : Int32)).toNatClampNeg), .int (xs (nI i + (2 : Int32)).toNatClampNeg), .int (xs (nI i + (1 : Int32)).toNatClampNeg), .ref 83, .int y], (SH, mkM I1 J1 T1), 118, 394190)
  refine Go.of_run (Ev.mono _) 1 _ ?_
  refine ⟨Nat.le_of_ble_eq_true rfl, ?_⟩
  refine h2 d I1 J1 T1 _ m1 c1 (fun I2 J2 c2 m2 => ?_)
  show Go (some (L, xs)) aM (Ev mt aM (d + 50)) mL_law Qf (554, [some (.ref 2000), some (.ref 0), some (.ref 83), some (.int (nI i))], [.int y, .int y], (SH, mkM I2 J2 T1), 118, 394190)
  refine Go.of_run (Ev.mono _) 1 _ ?_
  show Go (some (L, xs)) aM (Ev mt aM (d + 50)) mL_law Qf (if y = y then 1388 else 557, [some (.ref 2000), some (.ref 0), some (.ref 83), some (.int (nI i))], [], (SH, mkM I2 J2 T1), 118, 394190)
  rw [if_pos rfl]
  exact g S' I2 J2 T1 hS' c2 m2
set_option maxRecDepth 20000 in
theorem lw_case_9 {L d i : Nat} {xs : Nat → Int32} (hi : i + 7 ≤ L) (hL : L ≤ 3584) {S : St} (hS : PUR S) {I : Nat → Nat → Int32} {J : Nat → Nat → Int64} {T : Nat → Nat → Nat} (hc : CINV S I J T) (hm : MINV S I) (g : ∀ S' I' J' T', PUR S' → CINV S' I' J' T' → MINV S' I' → Go (some (L, xs)) aM (Ev mt aM (d + 50)) mL_law Qf (1388, [some (.ref 2000), some (.ref 0), some (.ref 83), some (.int (nI i))], [], (SH, mkM I' J' T'), 118, 394190)) : Go (some (L, xs)) aM (Ev mt aM (d + 50)) mL_law Qf (559, [some (.ref 2000), some (.ref 0), some (.ref 83), some (.int (nI i))], [], (SH, mkM I J T), 118, 394190) := by
  obtain ⟨v, S', hk, hS', h1, h2⟩ := OPR.run (k := 1) (by omega) (by decide +kernel) (op_after hS (xs (nI i + (1 : Int32)).toNatClampNeg) (xs (nI i + (2 : Int32)).toNatClampNeg) (xs (nI i + (3 : Int32)).toNatClampNeg)) hc hm
  obtain ⟨y, rfl⟩ := kv1 hk
  refine Go.of_run (Ev.mono _) 6 _ ?_
  refine ⟨vpx (j := 1) hi hL (by omega), ?_⟩
  show Go (some (L, xs)) aM (Ev mt aM (d + 50)) mL_law Qf (565, [some (.ref 2000), some (.ref 0), some (.ref 83), some (.int (nI i))], [.int (xs (nI i + (1 : Int32)).toNatClampNeg), .ref 0], (SH, mkM I J T), 118, 394190)
  refine Go.of_run (Ev.mono _) 5 _ ?_
  refine ⟨vpx (j := 2) hi hL (by omega), ?_⟩
  show Go (some (L, xs)) aM (Ev mt aM (d + 50)) mL_law Qf (570, [some (.ref 2000), some (.ref 0), some (.ref 83), some (.int (nI i))], [.int (xs (nI i + (2 : Int32)).toNatClampNeg), .int (xs (nI i + (1 : Int32)).toNatClampNeg), .ref 0], (SH, mkM I J T), 118, 394190)
  refine Go.of_run (Ev.mono _) 5 _ ?_
  refine ⟨vpx (j := 3) hi hL (by omega), ?_⟩
  show Go (some (L, xs)) aM (Ev mt aM (d + 50)) mL_law Qf (575, [some (.ref 2000), some (.ref 0), some (.ref 83), some (.int (nI i))], [.int (xs (nI i + (3 : Int32)).toNatClampNeg), .int (xs (nI i + (2 : Int32)).toNatClampNeg), .int (xs (nI i + (1 : Int32)).toNatClampNeg), .ref 0], (SH, mkM I J T), 118, 394190)
  refine Go.of_run (Ev.mono _) 1 _ ?_
  refine ⟨Nat.le_of_ble_eq_true rfl, ?_⟩
  refine h1 d _ (fun I1 J1 T1 m1 c1 => ?_)
  show Go (some (L, xs)) aM (Ev mt aM (d + 50)) mL_law Qf (578, [some (.ref 2000), some (.ref 0), some (.ref 83), some (.int (nI i))], [.int y], (SH, mkM I1 J1 T1), 118, 394190)
  refine Go.of_run (Ev.mono _) 6 _ ?_
  refine ⟨vpx (j := 1) hi hL (by omega), ?_⟩
  show Go (some (L, xs)) aM (Ev mt aM (d + 50)) mL_law Qf (584, [some (.ref 2000), some (.ref 0), some (.ref 83), some (.int (nI i))], [.int (xs (nI i + (1 : Int32)).toNatClampNeg), .ref 83, .int y], (SH, mkM I1 J1 T1), 118, 394190)
  refine Go.of_run (Ev.mono _) 5 _ ?_
  refine ⟨vpx (j := 2) hi hL (by omega), ?_⟩
  show Go (some (L, xs)) aM (Ev mt aM (d + 50)) mL_law Qf (589, [some (.ref 2000), some (.ref 0), some (.ref 83), some (.int (nI i))], [.int (xs (nI i + (2 : Int32)).toNatClampNeg), .int (xs (nI i + (1 : Int32)).toNatClampNeg), .ref 83, .int y], (SH, mkM I1 J1 T1), 118, 394190)
  refine Go.of_run (Ev.mono _) 5 _ ?_
  refine ⟨vpx (j := 3) hi hL (by omega), ?_⟩
  show Go (some (L, xs)) aM (Ev mt aM (d + 50)) mL_law Qf (594, [some (.ref 2000), some (.ref 0), some (.ref 83), some (.int (nI i))], [.int (xs (nI i + (3 : Int32)).toNatClampNeg), .int (xs (nI i + (2 : Int32)).toNatClampNeg), .int (xs (nI i + (1 : Int32)).toNatClampNeg), .ref 83, .int y], (SH, mkM I1 J1 T1), 118, 394190)
  refine Go.of_run (Ev.mono _) 1 _ ?_
  refine ⟨Nat.le_of_ble_eq_true rfl, ?_⟩
  refine h2 d I1 J1 T1 _ m1 c1 (fun I2 J2 c2 m2 => ?_)
  show Go (some (L, xs)) aM (Ev mt aM (d + 50)) mL_law Qf (597, [some (.ref 2000), some (.ref 0), some (.ref 83), some (.int (nI i))], [.int y, .int y], (SH, mkM I2 J2 T1), 118, 394190)
  refine Go.of_run (Ev.mono _) 1 _ ?_
  show Go (some (L, xs)) aM (Ev mt aM (d + 50)) mL_law Qf (if y = y then 1388 else 600, [some (.ref 2000), some (.ref 0), some (.ref 83), some (.int (nI i))], [], (SH, mkM I2 J2 T1), 118, 394190)
  rw [if_pos rfl]
  exact g S' I2 J2 T1 hS' c2 m2
set_option maxRecDepth 20000 in
theorem lw_case_10 {L d i : Nat} {xs : Nat → Int32} (hi : i + 7 ≤ L) (hL : L ≤ 3584) {S : St} (hS : PUR S) {I : Nat → Nat → Int32} {J : Nat → Nat → Int64} {T : Nat → Nat → Nat} (hc : CINV S I J T) (hm : MINV S I) (g : ∀ S' I' J' T', PUR S' → CINV S' I' J' T' → MINV S' I' → Go (some (L, xs)) aM (Ev mt aM (d + 50)) mL_law Qf (1388, [some (.ref 2000), some (.ref 0), some (.ref 83), some (.int (nI i))], [], (SH, mkM I' J' T'), 118, 394190)) : Go (some (L, xs)) aM (Ev mt aM (d + 50)) mL_law Qf (602, [some (.ref 2000), some (.ref 0), some (.ref 83), some (.int (nI i))], [], (SH, mkM I J T), 118, 394190) := by
  obtain ⟨v, S', hk, hS', h1, h2⟩ := OPR.run (k := 1) (by omega) (by decide +kernel) (op_chance hS (xs (nI i + (1 : Int32)).toNatClampNeg) (xs (nI i + (2 : Int32)).toNatClampNeg) (xs (nI i + (3 : Int32)).toNatClampNeg) (xs (nI i + (4 : Int32)).toNatClampNeg) (xs (nI i + (5 : Int32)).toNatClampNeg) (xs (nI i + (6 : Int32)).toNatClampNeg)) hc hm
  obtain ⟨y, rfl⟩ := kv1 hk
  refine Go.of_run (Ev.mono _) 6 _ ?_
  refine ⟨vpx (j := 1) hi hL (by omega), ?_⟩
  show Go (some (L, xs)) aM (Ev mt aM (d + 50)) mL_law Qf (608, [some (.ref 2000), some (.ref 0), some (.ref 83), some (.int (nI i))], [.int (xs (nI i + (1 : Int32)).toNatClampNeg), .ref 0], (SH, mkM I J T), 118, 394190)
  refine Go.of_run (Ev.mono _) 5 _ ?_
  refine ⟨vpx (j := 2) hi hL (by omega), ?_⟩
  show Go (some (L, xs)) aM (Ev mt aM (d + 50)) mL_law Qf (613, [some (.ref 2000), some (.ref 0), some (.ref 83), some (.int (nI i))], [.int (xs (nI i + (2 : Int32)).toNatClampNeg), .int (xs (nI i + (1 : Int32)).toNatClampNeg), .ref 0], (SH, mkM I J T), 118, 394190)
  refine Go.of_run (Ev.mono _) 5 _ ?_
  refine ⟨vpx (j := 3) hi hL (by omega), ?_⟩
  show Go (some (L, xs)) aM (Ev mt aM (d + 50)) mL_law Qf (618, [some (.ref 2000), some (.ref 0), some (.ref 83), some (.int (nI i))], [.int (xs (nI i + (3 : Int32)).toNatClampNeg), .int (xs (nI i + (2 : Int32)).toNatClampNeg), .int (xs (nI i + (1 : Int32)).toNatClampNeg), .ref 0], (SH, mkM I J T), 118, 394190)
  refine Go.of_run (Ev.mono _) 5 _ ?_
  refine ⟨vpx (j := 4) hi hL (by omega), ?_⟩
  show Go (some (L, xs)) aM (Ev mt aM (d + 50)) mL_law Qf (623, [some (.ref 2000), some (.ref 0), some (.ref 83), some (.int (nI i))], [.int (xs (nI i + (4 : Int32)).toNatClampNeg), .int (xs (nI i + (3 : Int32)).toNatClampNeg), .int (xs (nI i + (2 : Int32)).toNatClampNeg), .int (xs (nI i + (1 : Int32)).toNatClampNeg), .ref 0], (SH, mkM I J T), 118, 394190)
  refine Go.of_run (Ev.mono _) 5 _ ?_
  refine ⟨vpx (j := 5) hi hL (by omega), ?_⟩
  show Go (some (L, xs)) aM (Ev mt aM (d + 50)) mL_law Qf (628, [some (.ref 2000), some (.ref 0), some (.ref 83), some (.int (nI i))], [.int (xs (nI i + (5 : Int32)).toNatClampNeg), .int (xs (nI i + (4 : Int32)).toNatClampNeg), .int (xs (nI i + (3 : Int32)).toNatClampNeg), .int (xs (nI i + (2 : Int32)).toNatClampNeg), .int (xs (nI i + (1 : Int32)).toNatClampNeg), .ref 0], (SH, mkM I J T), 118, 394190)
  refine Go.of_run (Ev.mono _) 5 _ ?_
  refine ⟨vpx (j := 6) hi hL (by omega), ?_⟩
  show Go (some (L, xs)) aM (Ev mt aM (d + 50)) mL_law Qf (634, [some (.ref 2000), some (.ref 0), some (.ref 83), some (.int (nI i))], [.int (xs (nI i + (6 : Int32)).toNatClampNeg), .int (xs (nI i + (5 : Int32)).toNatClampNeg), .int (xs (nI i + (4 : Int32)).toNatClampNeg), .int (xs (nI i + (3 : Int32)).toNatClampNeg), .int (xs (nI i + (2 : Int32)).toNatClampNeg), .int (xs (nI i + (1 : Int32)).toNatClampNeg), .ref 0], (SH, mkM I J T), 118, 394190)
  refine Go.of_run (Ev.mono _) 1 _ ?_
  refine ⟨Nat.le_of_ble_eq_true rfl, ?_⟩
  refine h1 d _ (fun I1 J1 T1 m1 c1 => ?_)
  show Go (some (L, xs)) aM (Ev mt aM (d + 50)) mL_law Qf (637, [some (.ref 2000), some (.ref 0), some (.ref 83), some (.int (nI i))], [.int y], (SH, mkM I1 J1 T1), 118, 394190)
  refine Go.of_run (Ev.mono _) 6 _ ?_
  refine ⟨vpx (j := 1) hi hL (by omega), ?_⟩
  show Go (some (L, xs)) aM (Ev mt aM (d + 50)) mL_law Qf (643, [some (.ref 2000), some (.ref 0), some (.ref 83), some (.int (nI i))], [.int (xs (nI i + (1 : Int32)).toNatClampNeg), .ref 83, .int y], (SH, mkM I1 J1 T1), 118, 394190)
  refine Go.of_run (Ev.mono _) 5 _ ?_
  refine ⟨vpx (j := 2) hi hL (by omega), ?_⟩
  show Go (some (L, xs)) aM (Ev mt aM (d + 50)) mL_law Qf (648, [some (.ref 2000), some (.ref 0), some (.ref 83), some (.int (nI i))], [.int (xs (nI i + (2 : Int32)).toNatClampNeg), .int (xs (nI i + (1 : Int32)).toNatClampNeg), .ref 83, .int y], (SH, mkM I1 J1 T1), 118, 394190)
  refine Go.of_run (Ev.mono _) 5 _ ?_
  refine ⟨vpx (j := 3) hi hL (by omega), ?_⟩
  show Go (some (L, xs)) aM (Ev mt aM (d + 50)) mL_law Qf (653, [some (.ref 2000), some (.ref 0), some (.ref 83), some (.int (nI i))], [.int (xs (nI i + (3 : Int32)).toNatClampNeg), .int (xs (nI i + (2 : Int32)).toNatClampNeg), .int (xs (nI i + (1 : Int32)).toNatClampNeg), .ref 83, .int y], (SH, mkM I1 J1 T1), 118, 394190)
  refine Go.of_run (Ev.mono _) 5 _ ?_
  refine ⟨vpx (j := 4) hi hL (by omega), ?_⟩
  show Go (some (L, xs)) aM (Ev mt aM (d + 50)) mL_law Qf (658, [some (.ref 2000), some (.ref 0), some (.ref 83), some (.int (nI i))], [.int (xs (nI i + (4 : Int32)).toNatClampNeg), .int (xs (nI i + (3 : Int32)).toNatClampNeg), .int (xs (nI i + (2 : Int32)).toNatClampNeg), .int (xs (nI i + (1 : Int32)).toNatClampNeg), .ref 83, .int y], (SH, mkM I1 J1 T1), 118, 394190)
  refine Go.of_run (Ev.mono _) 5 _ ?_
  refine ⟨vpx (j := 5) hi hL (by omega), ?_⟩
  show Go (some (L, xs)) aM (Ev mt aM (d + 50)) mL_law Qf (663, [some (.ref 2000), some (.ref 0), some (.ref 83), some (.int (nI i))], [.int (xs (nI i + (5 : Int32)).toNatClampNeg), .int (xs (nI i + (4 : Int32)).toNatClampNeg), .int (xs (nI i + (3 : Int32)).toNatClampNeg), .int (xs (nI i + (2 : Int32)).toNatClampNeg), .int (xs (nI i + (1 : Int32)).toNatClampNeg), .ref 83, .int y], (SH, mkM I1 J1 T1), 118, 394190)
  refine Go.of_run (Ev.mono _) 5 _ ?_
  refine ⟨vpx (j := 6) hi hL (by omega), ?_⟩
  show Go (some (L, xs)) aM (Ev mt aM (d + 50)) mL_law Qf (669, [some (.ref 2000), some (.ref 0), some (.ref 83), some (.int (nI i))], [.int (xs (nI i + (6 : Int32)).toNatClampNeg), .int (xs (nI i + (5 : Int32)).toNatClampNeg), .int (xs (nI i + (4 : Int32)).toNatClampNeg), .int (xs (nI i + (3 : Int32)).toNatClampNeg), .int (xs (nI i + (2 : Int32)).toNatClampNeg), .int (xs (nI i + (1 : Int32)).toNatClampNeg), .ref 83, .int y], (SH, mkM I1 J1 T1), 118, 394190)
  refine Go.of_run (Ev.mono _) 1 _ ?_
  refine ⟨Nat.le_of_ble_eq_true rfl, ?_⟩
  refine h2 d I1 J1 T1 _ m1 c1 (fun I2 J2 c2 m2 => ?_)
  show Go (some (L, xs)) aM (Ev mt aM (d + 50)) mL_law Qf (672, [some (.ref 2000), some (.ref 0), some (.ref 83), some (.int (nI i))], [.int y, .int y], (SH, mkM I2 J2 T1), 118, 394190)
  refine Go.of_run (Ev.mono _) 1 _ ?_
  show Go (some (L, xs)) aM (Ev mt aM (d + 50)) mL_law Qf (if y = y then 1388 else 675, [some (.ref 2000), some (.ref 0), some (.ref 83), some (.int (nI i))], [], (SH, mkM I2 J2 T1), 118, 394190)
  rw [if_pos rfl]
  exact g S' I2 J2 T1 hS' c2 m2
set_option maxRecDepth 20000 in
theorem lw_case_11 {L d i : Nat} {xs : Nat → Int32} (hi : i + 7 ≤ L) (hL : L ≤ 3584) {S : St} (hS : PUR S) {I : Nat → Nat → Int32} {J : Nat → Nat → Int64} {T : Nat → Nat → Nat} (hc : CINV S I J T) (hm : MINV S I) (g : ∀ S' I' J' T', PUR S' → CINV S' I' J' T' → MINV S' I' → Go (some (L, xs)) aM (Ev mt aM (d + 50)) mL_law Qf (1388, [some (.ref 2000), some (.ref 0), some (.ref 83), some (.int (nI i))], [], (SH, mkM I' J' T'), 118, 394190)) : Go (some (L, xs)) aM (Ev mt aM (d + 50)) mL_law Qf (677, [some (.ref 2000), some (.ref 0), some (.ref 83), some (.int (nI i))], [], (SH, mkM I J T), 118, 394190) := by
  obtain ⟨v, S', hk, hS', h1, h2⟩ := OPR.run (k := 2) (by omega) (by decide +kernel) (op_best hS (xs (nI i + (1 : Int32)).toNatClampNeg) (xs (nI i + (2 : Int32)).toNatClampNeg) (xs (nI i + (3 : Int32)).toNatClampNeg) (xs (nI i + (4 : Int32)).toNatClampNeg) (xs (nI i + (5 : Int32)).toNatClampNeg)) hc hm
  obtain ⟨y, rfl⟩ := kv2 hk
  refine Go.of_run (Ev.mono _) 6 _ ?_
  refine ⟨vpx (j := 1) hi hL (by omega), ?_⟩
  show Go (some (L, xs)) aM (Ev mt aM (d + 50)) mL_law Qf (683, [some (.ref 2000), some (.ref 0), some (.ref 83), some (.int (nI i))], [.int (xs (nI i + (1 : Int32)).toNatClampNeg), .ref 0], (SH, mkM I J T), 118, 394190)
  refine Go.of_run (Ev.mono _) 5 _ ?_
  refine ⟨vpx (j := 2) hi hL (by omega), ?_⟩
  show Go (some (L, xs)) aM (Ev mt aM (d + 50)) mL_law Qf (688, [some (.ref 2000), some (.ref 0), some (.ref 83), some (.int (nI i))], [.int (xs (nI i + (2 : Int32)).toNatClampNeg), .int (xs (nI i + (1 : Int32)).toNatClampNeg), .ref 0], (SH, mkM I J T), 118, 394190)
  refine Go.of_run (Ev.mono _) 5 _ ?_
  refine ⟨vpx (j := 3) hi hL (by omega), ?_⟩
  show Go (some (L, xs)) aM (Ev mt aM (d + 50)) mL_law Qf (693, [some (.ref 2000), some (.ref 0), some (.ref 83), some (.int (nI i))], [.int (xs (nI i + (3 : Int32)).toNatClampNeg), .int (xs (nI i + (2 : Int32)).toNatClampNeg), .int (xs (nI i + (1 : Int32)).toNatClampNeg), .ref 0], (SH, mkM I J T), 118, 394190)
  refine Go.of_run (Ev.mono _) 5 _ ?_
  refine ⟨vpx (j := 4) hi hL (by omega), ?_⟩
  show Go (some (L, xs)) aM (Ev mt aM (d + 50)) mL_law Qf (698, [some (.ref 2000), some (.ref 0), some (.ref 83), some (.int (nI i))], [.int (xs (nI i + (4 : Int32)).toNatClampNeg), .int (xs (nI i + (3 : Int32)).toNatClampNeg), .int (xs (nI i + (2 : Int32)).toNatClampNeg), .int (xs (nI i + (1 : Int32)).toNatClampNeg), .ref 0], (SH, mkM I J T), 118, 394190)
  refine Go.of_run (Ev.mono _) 5 _ ?_
  refine ⟨vpx (j := 5) hi hL (by omega), ?_⟩
  show Go (some (L, xs)) aM (Ev mt aM (d + 50)) mL_law Qf (703, [some (.ref 2000), some (.ref 0), some (.ref 83), some (.int (nI i))], [.int (xs (nI i + (5 : Int32)).toNatClampNeg), .int (xs (nI i + (4 : Int32)).toNatClampNeg), .int (xs (nI i + (3 : Int32)).toNatClampNeg), .int (xs (nI i + (2 : Int32)).toNatClampNeg), .int (xs (nI i + (1 : Int32)).toNatClampNeg), .ref 0], (SH, mkM I J T), 118, 394190)
  refine Go.of_run (Ev.mono _) 1 _ ?_
  refine ⟨Nat.le_of_ble_eq_true rfl, ?_⟩
  refine h1 d _ (fun I1 J1 T1 m1 c1 => ?_)
  show Go (some (L, xs)) aM (Ev mt aM (d + 50)) mL_law Qf (706, [some (.ref 2000), some (.ref 0), some (.ref 83), some (.int (nI i))], [.long y], (SH, mkM I1 J1 T1), 118, 394190)
  refine Go.of_run (Ev.mono _) 6 _ ?_
  refine ⟨vpx (j := 1) hi hL (by omega), ?_⟩
  show Go (some (L, xs)) aM (Ev mt aM (d + 50)) mL_law Qf (712, [some (.ref 2000), some (.ref 0), some (.ref 83), some (.int (nI i))], [.int (xs (nI i + (1 : Int32)).toNatClampNeg), .ref 83, .long y], (SH, mkM I1 J1 T1), 118, 394190)
  refine Go.of_run (Ev.mono _) 5 _ ?_
  refine ⟨vpx (j := 2) hi hL (by omega), ?_⟩
  show Go (some (L, xs)) aM (Ev mt aM (d + 50)) mL_law Qf (717, [some (.ref 2000), some (.ref 0), some (.ref 83), some (.int (nI i))], [.int (xs (nI i + (2 : Int32)).toNatClampNeg), .int (xs (nI i + (1 : Int32)).toNatClampNeg), .ref 83, .long y], (SH, mkM I1 J1 T1), 118, 394190)
  refine Go.of_run (Ev.mono _) 5 _ ?_
  refine ⟨vpx (j := 3) hi hL (by omega), ?_⟩
  show Go (some (L, xs)) aM (Ev mt aM (d + 50)) mL_law Qf (722, [some (.ref 2000), some (.ref 0), some (.ref 83), some (.int (nI i))], [.int (xs (nI i + (3 : Int32)).toNatClampNeg), .int (xs (nI i + (2 : Int32)).toNatClampNeg), .int (xs (nI i + (1 : Int32)).toNatClampNeg), .ref 83, .long y], (SH, mkM I1 J1 T1), 118, 394190)
  refine Go.of_run (Ev.mono _) 5 _ ?_
  refine ⟨vpx (j := 4) hi hL (by omega), ?_⟩
  show Go (some (L, xs)) aM (Ev mt aM (d + 50)) mL_law Qf (727, [some (.ref 2000), some (.ref 0), some (.ref 83), some (.int (nI i))], [.int (xs (nI i + (4 : Int32)).toNatClampNeg), .int (xs (nI i + (3 : Int32)).toNatClampNeg), .int (xs (nI i + (2 : Int32)).toNatClampNeg), .int (xs (nI i + (1 : Int32)).toNatClampNeg), .ref 83, .long y], (SH, mkM I1 J1 T1), 118, 394190)
  refine Go.of_run (Ev.mono _) 5 _ ?_
  refine ⟨vpx (j := 5) hi hL (by omega), ?_⟩
  show Go (some (L, xs)) aM (Ev mt aM (d + 50)) mL_law Qf (732, [some (.ref 2000), some (.ref 0), some (.ref 83), some (.int (nI i))], [.int (xs (nI i + (5 : Int32)).toNatClampNeg), .int (xs (nI i + (4 : Int32)).toNatClampNeg), .int (xs (nI i + (3 : Int32)).toNatClampNeg), .int (xs (nI i + (2 : Int32)).toNatClampNeg), .int (xs (nI i + (1 : Int32)).toNatClampNeg), .ref 83, .long y], (SH, mkM I1 J1 T1), 118, 394190)
  refine Go.of_run (Ev.mono _) 1 _ ?_
  refine ⟨Nat.le_of_ble_eq_true rfl, ?_⟩
  refine h2 d I1 J1 T1 _ m1 c1 (fun I2 J2 c2 m2 => ?_)
  show Go (some (L, xs)) aM (Ev mt aM (d + 50)) mL_law Qf (735, [some (.ref 2000), some (.ref 0), some (.ref 83), some (.int (nI i))], [.long y, .long y], (SH, mkM I2 J2 T1), 118, 394190)
  refine Go.of_run (Ev.mono _) 2 _ ?_
  show Go (some (L, xs)) aM (Ev mt aM (d + 50)) mL_law Qf (if lg_cmp y y = 0 then 1388 else 739, [some (.ref 2000), some (.ref 0), some (.ref 83), some (.int (nI i))], [], (SH, mkM I2 J2 T1), 118, 394190)
  rw [if_pos ((lg_cmp_eq y y).mpr rfl)]
  exact g S' I2 J2 T1 hS' c2 m2
set_option maxRecDepth 20000 in
theorem lw_case_12 {L d i : Nat} {xs : Nat → Int32} (hi : i + 7 ≤ L) (hL : L ≤ 3584) {S : St} (hS : PUR S) {I : Nat → Nat → Int32} {J : Nat → Nat → Int64} {T : Nat → Nat → Nat} (hc : CINV S I J T) (hm : MINV S I) (g : ∀ S' I' J' T', PUR S' → CINV S' I' J' T' → MINV S' I' → Go (some (L, xs)) aM (Ev mt aM (d + 50)) mL_law Qf (1388, [some (.ref 2000), some (.ref 0), some (.ref 83), some (.int (nI i))], [], (SH, mkM I' J' T'), 118, 394190)) : Go (some (L, xs)) aM (Ev mt aM (d + 50)) mL_law Qf (741, [some (.ref 2000), some (.ref 0), some (.ref 83), some (.int (nI i))], [], (SH, mkM I J T), 118, 394190) := by
  obtain ⟨v, S', hk, hS', h1, h2⟩ := OPR.run (k := 2) (by omega) (by decide +kernel) (op_by hS (xs (nI i + (1 : Int32)).toNatClampNeg) (xs (nI i + (2 : Int32)).toNatClampNeg) (xs (nI i + (3 : Int32)).toNatClampNeg) (xs (nI i + (4 : Int32)).toNatClampNeg) (xs (nI i + (5 : Int32)).toNatClampNeg) (xs (nI i + (6 : Int32)).toNatClampNeg)) hc hm
  obtain ⟨y, rfl⟩ := kv2 hk
  refine Go.of_run (Ev.mono _) 6 _ ?_
  refine ⟨vpx (j := 1) hi hL (by omega), ?_⟩
  show Go (some (L, xs)) aM (Ev mt aM (d + 50)) mL_law Qf (747, [some (.ref 2000), some (.ref 0), some (.ref 83), some (.int (nI i))], [.int (xs (nI i + (1 : Int32)).toNatClampNeg), .ref 0], (SH, mkM I J T), 118, 394190)
  refine Go.of_run (Ev.mono _) 5 _ ?_
  refine ⟨vpx (j := 2) hi hL (by omega), ?_⟩
  show Go (some (L, xs)) aM (Ev mt aM (d + 50)) mL_law Qf (752, [some (.ref 2000), some (.ref 0), some (.ref 83), some (.int (nI i))], [.int (xs (nI i + (2 : Int32)).toNatClampNeg), .int (xs (nI i + (1 : Int32)).toNatClampNeg), .ref 0], (SH, mkM I J T), 118, 394190)
  refine Go.of_run (Ev.mono _) 5 _ ?_
  refine ⟨vpx (j := 3) hi hL (by omega), ?_⟩
  show Go (some (L, xs)) aM (Ev mt aM (d + 50)) mL_law Qf (757, [some (.ref 2000), some (.ref 0), some (.ref 83), some (.int (nI i))], [.int (xs (nI i + (3 : Int32)).toNatClampNeg), .int (xs (nI i + (2 : Int32)).toNatClampNeg), .int (xs (nI i + (1 : Int32)).toNatClampNeg), .ref 0], (SH, mkM I J T), 118, 394190)
  refine Go.of_run (Ev.mono _) 5 _ ?_
  refine ⟨vpx (j := 4) hi hL (by omega), ?_⟩
  show Go (some (L, xs)) aM (Ev mt aM (d + 50)) mL_law Qf (762, [some (.ref 2000), some (.ref 0), some (.ref 83), some (.int (nI i))], [.int (xs (nI i + (4 : Int32)).toNatClampNeg), .int (xs (nI i + (3 : Int32)).toNatClampNeg), .int (xs (nI i + (2 : Int32)).toNatClampNeg), .int (xs (nI i + (1 : Int32)).toNatClampNeg), .ref 0], (SH, mkM I J T), 118, 394190)
  refine Go.of_run (Ev.mono _) 5 _ ?_
  refine ⟨vpx (j := 5) hi hL (by omega), ?_⟩
  show Go (some (L, xs)) aM (Ev mt aM (d + 50)) mL_law Qf (767, [some (.ref 2000), some (.ref 0), some (.ref 83), some (.int (nI i))], [.int (xs (nI i + (5 : Int32)).toNatClampNeg), .int (xs (nI i + (4 : Int32)).toNatClampNeg), .int (xs (nI i + (3 : Int32)).toNatClampNeg), .int (xs (nI i + (2 : Int32)).toNatClampNeg), .int (xs (nI i + (1 : Int32)).toNatClampNeg), .ref 0], (SH, mkM I J T), 118, 394190)
  refine Go.of_run (Ev.mono _) 5 _ ?_
  refine ⟨vpx (j := 6) hi hL (by omega), ?_⟩
  show Go (some (L, xs)) aM (Ev mt aM (d + 50)) mL_law Qf (773, [some (.ref 2000), some (.ref 0), some (.ref 83), some (.int (nI i))], [.int (xs (nI i + (6 : Int32)).toNatClampNeg), .int (xs (nI i + (5 : Int32)).toNatClampNeg), .int (xs (nI i + (4 : Int32)).toNatClampNeg), .int (xs (nI i + (3 : Int32)).toNatClampNeg), .int (xs (nI i + (2 : Int32)).toNatClampNeg), .int (xs (nI i + (1 : Int32)).toNatClampNeg), .ref 0], (SH, mkM I J T), 118, 394190)
  refine Go.of_run (Ev.mono _) 1 _ ?_
  refine ⟨Nat.le_of_ble_eq_true rfl, ?_⟩
  refine h1 d _ (fun I1 J1 T1 m1 c1 => ?_)
  show Go (some (L, xs)) aM (Ev mt aM (d + 50)) mL_law Qf (776, [some (.ref 2000), some (.ref 0), some (.ref 83), some (.int (nI i))], [.long y], (SH, mkM I1 J1 T1), 118, 394190)
  refine Go.of_run (Ev.mono _) 6 _ ?_
  refine ⟨vpx (j := 1) hi hL (by omega), ?_⟩
  show Go (some (L, xs)) aM (Ev mt aM (d + 50)) mL_law Qf (782, [some (.ref 2000), some (.ref 0), some (.ref 83), some (.int (nI i))], [.int (xs (nI i + (1 : Int32)).toNatClampNeg), .ref 83, .long y], (SH, mkM I1 J1 T1), 118, 394190)
  refine Go.of_run (Ev.mono _) 5 _ ?_
  refine ⟨vpx (j := 2) hi hL (by omega), ?_⟩
  show Go (some (L, xs)) aM (Ev mt aM (d + 50)) mL_law Qf (787, [some (.ref 2000), some (.ref 0), some (.ref 83), some (.int (nI i))], [.int (xs (nI i + (2 : Int32)).toNatClampNeg), .int (xs (nI i + (1 : Int32)).toNatClampNeg), .ref 83, .long y], (SH, mkM I1 J1 T1), 118, 394190)
  refine Go.of_run (Ev.mono _) 5 _ ?_
  refine ⟨vpx (j := 3) hi hL (by omega), ?_⟩
  show Go (some (L, xs)) aM (Ev mt aM (d + 50)) mL_law Qf (792, [some (.ref 2000), some (.ref 0), some (.ref 83), some (.int (nI i))], [.int (xs (nI i + (3 : Int32)).toNatClampNeg), .int (xs (nI i + (2 : Int32)).toNatClampNeg), .int (xs (nI i + (1 : Int32)).toNatClampNeg), .ref 83, .long y], (SH, mkM I1 J1 T1), 118, 394190)
  refine Go.of_run (Ev.mono _) 5 _ ?_
  refine ⟨vpx (j := 4) hi hL (by omega), ?_⟩
  show Go (some (L, xs)) aM (Ev mt aM (d + 50)) mL_law Qf (797, [some (.ref 2000), some (.ref 0), some (.ref 83), some (.int (nI i))], [.int (xs (nI i + (4 : Int32)).toNatClampNeg), .int (xs (nI i + (3 : Int32)).toNatClampNeg), .int (xs (nI i + (2 : Int32)).toNatClampNeg), .int (xs (nI i + (1 : Int32)).toNatClampNeg), .ref 83, .long y], (SH, mkM I1 J1 T1), 118, 394190)
  refine Go.of_run (Ev.mono _) 5 _ ?_
  refine ⟨vpx (j := 5) hi hL (by omega), ?_⟩
  show Go (some (L, xs)) aM (Ev mt aM (d + 50)) mL_law Qf (802, [some (.ref 2000), some (.ref 0), some (.ref 83), some (.int (nI i))], [.int (xs (nI i + (5 : Int32)).toNatClampNeg), .int (xs (nI i + (4 : Int32)).toNatClampNeg), .int (xs (nI i + (3 : Int32)).toNatClampNeg), .int (xs (nI i + (2 : Int32)).toNatClampNeg), .int (xs (nI i + (1 : Int32)).toNatClampNeg), .ref 83, .long y], (SH, mkM I1 J1 T1), 118, 394190)
  refine Go.of_run (Ev.mono _) 5 _ ?_
  refine ⟨vpx (j := 6) hi hL (by omega), ?_⟩
  show Go (some (L, xs)) aM (Ev mt aM (d + 50)) mL_law Qf (808, [some (.ref 2000), some (.ref 0), some (.ref 83), some (.int (nI i))], [.int (xs (nI i + (6 : Int32)).toNatClampNeg), .int (xs (nI i + (5 : Int32)).toNatClampNeg), .int (xs (nI i + (4 : Int32)).toNatClampNeg), .int (xs (nI i + (3 : Int32)).toNatClampNeg), .int (xs (nI i + (2 : Int32)).toNatClampNeg), .int (xs (nI i + (1 : Int32)).toNatClampNeg), .ref 83, .long y], (SH, mkM I1 J1 T1), 118, 394190)
  refine Go.of_run (Ev.mono _) 1 _ ?_
  refine ⟨Nat.le_of_ble_eq_true rfl, ?_⟩
  refine h2 d I1 J1 T1 _ m1 c1 (fun I2 J2 c2 m2 => ?_)
  show Go (some (L, xs)) aM (Ev mt aM (d + 50)) mL_law Qf (811, [some (.ref 2000), some (.ref 0), some (.ref 83), some (.int (nI i))], [.long y, .long y], (SH, mkM I2 J2 T1), 118, 394190)
  refine Go.of_run (Ev.mono _) 2 _ ?_
  show Go (some (L, xs)) aM (Ev mt aM (d + 50)) mL_law Qf (if lg_cmp y y = 0 then 1388 else 815, [some (.ref 2000), some (.ref 0), some (.ref 83), some (.int (nI i))], [], (SH, mkM I2 J2 T1), 118, 394190)
  rw [if_pos ((lg_cmp_eq y y).mpr rfl)]
  exact g S' I2 J2 T1 hS' c2 m2
set_option maxRecDepth 20000 in
theorem lw_case_13 {L d i : Nat} {xs : Nat → Int32} (hi : i + 7 ≤ L) (hL : L ≤ 3584) {S : St} (hS : PUR S) {I : Nat → Nat → Int32} {J : Nat → Nat → Int64} {T : Nat → Nat → Nat} (hc : CINV S I J T) (hm : MINV S I) (g : ∀ S' I' J' T', PUR S' → CINV S' I' J' T' → MINV S' I' → Go (some (L, xs)) aM (Ev mt aM (d + 50)) mL_law Qf (1388, [some (.ref 2000), some (.ref 0), some (.ref 83), some (.int (nI i))], [], (SH, mkM I' J' T'), 118, 394190)) : Go (some (L, xs)) aM (Ev mt aM (d + 50)) mL_law Qf (817, [some (.ref 2000), some (.ref 0), some (.ref 83), some (.int (nI i))], [], (SH, mkM I J T), 118, 394190) := by
  obtain ⟨v, S', hk, hS', h1, h2⟩ := OPR.run (k := 1) (by omega) (by decide +kernel) (op_says hS (xs (nI i + (1 : Int32)).toNatClampNeg) (xs (nI i + (2 : Int32)).toNatClampNeg) (xs (nI i + (3 : Int32)).toNatClampNeg) (xs (nI i + (4 : Int32)).toNatClampNeg) (xs (nI i + (5 : Int32)).toNatClampNeg)) hc hm
  obtain ⟨y, rfl⟩ := kv1 hk
  refine Go.of_run (Ev.mono _) 6 _ ?_
  refine ⟨vpx (j := 1) hi hL (by omega), ?_⟩
  show Go (some (L, xs)) aM (Ev mt aM (d + 50)) mL_law Qf (823, [some (.ref 2000), some (.ref 0), some (.ref 83), some (.int (nI i))], [.int (xs (nI i + (1 : Int32)).toNatClampNeg), .ref 0], (SH, mkM I J T), 118, 394190)
  refine Go.of_run (Ev.mono _) 5 _ ?_
  refine ⟨vpx (j := 2) hi hL (by omega), ?_⟩
  show Go (some (L, xs)) aM (Ev mt aM (d + 50)) mL_law Qf (828, [some (.ref 2000), some (.ref 0), some (.ref 83), some (.int (nI i))], [.int (xs (nI i + (2 : Int32)).toNatClampNeg), .int (xs (nI i + (1 : Int32)).toNatClampNeg), .ref 0], (SH, mkM I J T), 118, 394190)
  refine Go.of_run (Ev.mono _) 5 _ ?_
  refine ⟨vpx (j := 3) hi hL (by omega), ?_⟩
  show Go (some (L, xs)) aM (Ev mt aM (d + 50)) mL_law Qf (833, [some (.ref 2000), some (.ref 0), some (.ref 83), some (.int (nI i))], [.int (xs (nI i + (3 : Int32)).toNatClampNeg), .int (xs (nI i + (2 : Int32)).toNatClampNeg), .int (xs (nI i + (1 : Int32)).toNatClampNeg), .ref 0], (SH, mkM I J T), 118, 394190)
  refine Go.of_run (Ev.mono _) 5 _ ?_
  refine ⟨vpx (j := 4) hi hL (by omega), ?_⟩
  show Go (some (L, xs)) aM (Ev mt aM (d + 50)) mL_law Qf (838, [some (.ref 2000), some (.ref 0), some (.ref 83), some (.int (nI i))], [.int (xs (nI i + (4 : Int32)).toNatClampNeg), .int (xs (nI i + (3 : Int32)).toNatClampNeg), .int (xs (nI i + (2 : Int32)).toNatClampNeg), .int (xs (nI i + (1 : Int32)).toNatClampNeg), .ref 0], (SH, mkM I J T), 118, 394190)
  refine Go.of_run (Ev.mono _) 5 _ ?_
  refine ⟨vpx (j := 5) hi hL (by omega), ?_⟩
  show Go (some (L, xs)) aM (Ev mt aM (d + 50)) mL_law Qf (843, [some (.ref 2000), some (.ref 0), some (.ref 83), some (.int (nI i))], [.int (xs (nI i + (5 : Int32)).toNatClampNeg), .int (xs (nI i + (4 : Int32)).toNatClampNeg), .int (xs (nI i + (3 : Int32)).toNatClampNeg), .int (xs (nI i + (2 : Int32)).toNatClampNeg), .int (xs (nI i + (1 : Int32)).toNatClampNeg), .ref 0], (SH, mkM I J T), 118, 394190)
  refine Go.of_run (Ev.mono _) 1 _ ?_
  refine ⟨Nat.le_of_ble_eq_true rfl, ?_⟩
  refine h1 d _ (fun I1 J1 T1 m1 c1 => ?_)
  show Go (some (L, xs)) aM (Ev mt aM (d + 50)) mL_law Qf (846, [some (.ref 2000), some (.ref 0), some (.ref 83), some (.int (nI i))], [.int y], (SH, mkM I1 J1 T1), 118, 394190)
  refine Go.of_run (Ev.mono _) 6 _ ?_
  refine ⟨vpx (j := 1) hi hL (by omega), ?_⟩
  show Go (some (L, xs)) aM (Ev mt aM (d + 50)) mL_law Qf (852, [some (.ref 2000), some (.ref 0), some (.ref 83), some (.int (nI i))], [.int (xs (nI i + (1 : Int32)).toNatClampNeg), .ref 83, .int y], (SH, mkM I1 J1 T1), 118, 394190)
  refine Go.of_run (Ev.mono _) 5 _ ?_
  refine ⟨vpx (j := 2) hi hL (by omega), ?_⟩
  show Go (some (L, xs)) aM (Ev mt aM (d + 50)) mL_law Qf (857, [some (.ref 2000), some (.ref 0), some (.ref 83), some (.int (nI i))], [.int (xs (nI i + (2 : Int32)).toNatClampNeg), .int (xs (nI i + (1 : Int32)).toNatClampNeg), .ref 83, .int y], (SH, mkM I1 J1 T1), 118, 394190)
  refine Go.of_run (Ev.mono _) 5 _ ?_
  refine ⟨vpx (j := 3) hi hL (by omega), ?_⟩
  show Go (some (L, xs)) aM (Ev mt aM (d + 50)) mL_law Qf (862, [some (.ref 2000), some (.ref 0), some (.ref 83), some (.int (nI i))], [.int (xs (nI i + (3 : Int32)).toNatClampNeg), .int (xs (nI i + (2 : Int32)).toNatClampNeg), .int (xs (nI i + (1 : Int32)).toNatClampNeg), .ref 83, .int y], (SH, mkM I1 J1 T1), 118, 394190)
  refine Go.of_run (Ev.mono _) 5 _ ?_
  refine ⟨vpx (j := 4) hi hL (by omega), ?_⟩
  show Go (some (L, xs)) aM (Ev mt aM (d + 50)) mL_law Qf (867, [some (.ref 2000), some (.ref 0), some (.ref 83), some (.int (nI i))], [.int (xs (nI i + (4 : Int32)).toNatClampNeg), .int (xs (nI i + (3 : Int32)).toNatClampNeg), .int (xs (nI i + (2 : Int32)).toNatClampNeg), .int (xs (nI i + (1 : Int32)).toNatClampNeg), .ref 83, .int y], (SH, mkM I1 J1 T1), 118, 394190)
  refine Go.of_run (Ev.mono _) 5 _ ?_
  refine ⟨vpx (j := 5) hi hL (by omega), ?_⟩
  show Go (some (L, xs)) aM (Ev mt aM (d + 50)) mL_law Qf (872, [some (.ref 2000), some (.ref 0), some (.ref 83), some (.int (nI i))], [.int (xs (nI i + (5 : Int32)).toNatClampNeg), .int (xs (nI i + (4 : Int32)).toNatClampNeg), .int (xs (nI i + (3 : Int32)).toNatClampNeg), .int (xs (nI i + (2 : Int32)).toNatClampNeg), .int (xs (nI i + (1 : Int32)).toNatClampNeg), .ref 83, .int y], (SH, mkM I1 J1 T1), 118, 394190)
  refine Go.of_run (Ev.mono _) 1 _ ?_
  refine ⟨Nat.le_of_ble_eq_true rfl, ?_⟩
  refine h2 d I1 J1 T1 _ m1 c1 (fun I2 J2 c2 m2 => ?_)
  show Go (some (L, xs)) aM (Ev mt aM (d + 50)) mL_law Qf (875, [some (.ref 2000), some (.ref 0), some (.ref 83), some (.int (nI i))], [.int y, .int y], (SH, mkM I2 J2 T1), 118, 394190)
  refine Go.of_run (Ev.mono _) 1 _ ?_
  show Go (some (L, xs)) aM (Ev mt aM (d + 50)) mL_law Qf (if y = y then 1388 else 878, [some (.ref 2000), some (.ref 0), some (.ref 83), some (.int (nI i))], [], (SH, mkM I2 J2 T1), 118, 394190)
  rw [if_pos rfl]
  exact g S' I2 J2 T1 hS' c2 m2
set_option maxRecDepth 20000 in
theorem lw_case_14 {L d i : Nat} {xs : Nat → Int32} (hi : i + 7 ≤ L) (hL : L ≤ 3584) {S : St} (hS : PUR S) {I : Nat → Nat → Int32} {J : Nat → Nat → Int64} {T : Nat → Nat → Nat} (hc : CINV S I J T) (hm : MINV S I) (g : ∀ S' I' J' T', PUR S' → CINV S' I' J' T' → MINV S' I' → Go (some (L, xs)) aM (Ev mt aM (d + 50)) mL_law Qf (1388, [some (.ref 2000), some (.ref 0), some (.ref 83), some (.int (nI i))], [], (SH, mkM I' J' T'), 118, 394190)) : Go (some (L, xs)) aM (Ev mt aM (d + 50)) mL_law Qf (880, [some (.ref 2000), some (.ref 0), some (.ref 83), some (.int (nI i))], [], (SH, mkM I J T), 118, 394190) := by
  obtain ⟨v, S', hk, hS', h1, h2⟩ := OPR.run (k := 1) (by omega) (by decide +kernel) (op_edge hS (xs (nI i + (1 : Int32)).toNatClampNeg) (xs (nI i + (2 : Int32)).toNatClampNeg)) hc hm
  obtain ⟨y, rfl⟩ := kv1 hk
  refine Go.of_run (Ev.mono _) 6 _ ?_
  refine ⟨vpx (j := 1) hi hL (by omega), ?_⟩
  show Go (some (L, xs)) aM (Ev mt aM (d + 50)) mL_law Qf (886, [some (.ref 2000), some (.ref 0), some (.ref 83), some (.int (nI i))], [.int (xs (nI i + (1 : Int32)).toNatClampNeg), .ref 0], (SH, mkM I J T), 118, 394190)
  refine Go.of_run (Ev.mono _) 5 _ ?_
  refine ⟨vpx (j := 2) hi hL (by omega), ?_⟩
  show Go (some (L, xs)) aM (Ev mt aM (d + 50)) mL_law Qf (891, [some (.ref 2000), some (.ref 0), some (.ref 83), some (.int (nI i))], [.int (xs (nI i + (2 : Int32)).toNatClampNeg), .int (xs (nI i + (1 : Int32)).toNatClampNeg), .ref 0], (SH, mkM I J T), 118, 394190)
  refine Go.of_run (Ev.mono _) 1 _ ?_
  refine ⟨Nat.le_of_ble_eq_true rfl, ?_⟩
  refine h1 d _ (fun I1 J1 T1 m1 c1 => ?_)
  show Go (some (L, xs)) aM (Ev mt aM (d + 50)) mL_law Qf (894, [some (.ref 2000), some (.ref 0), some (.ref 83), some (.int (nI i))], [.int y], (SH, mkM I1 J1 T1), 118, 394190)
  refine Go.of_run (Ev.mono _) 6 _ ?_
  refine ⟨vpx (j := 1) hi hL (by omega), ?_⟩
  show Go (some (L, xs)) aM (Ev mt aM (d + 50)) mL_law Qf (900, [some (.ref 2000), some (.ref 0), some (.ref 83), some (.int (nI i))], [.int (xs (nI i + (1 : Int32)).toNatClampNeg), .ref 83, .int y], (SH, mkM I1 J1 T1), 118, 394190)
  refine Go.of_run (Ev.mono _) 5 _ ?_
  refine ⟨vpx (j := 2) hi hL (by omega), ?_⟩
  show Go (some (L, xs)) aM (Ev mt aM (d + 50)) mL_law Qf (905, [some (.ref 2000), some (.ref 0), some (.ref 83), some (.int (nI i))], [.int (xs (nI i + (2 : Int32)).toNatClampNeg), .int (xs (nI i + (1 : Int32)).toNatClampNeg), .ref 83, .int y], (SH, mkM I1 J1 T1), 118, 394190)
  refine Go.of_run (Ev.mono _) 1 _ ?_
  refine ⟨Nat.le_of_ble_eq_true rfl, ?_⟩
  refine h2 d I1 J1 T1 _ m1 c1 (fun I2 J2 c2 m2 => ?_)
  show Go (some (L, xs)) aM (Ev mt aM (d + 50)) mL_law Qf (908, [some (.ref 2000), some (.ref 0), some (.ref 83), some (.int (nI i))], [.int y, .int y], (SH, mkM I2 J2 T1), 118, 394190)
  refine Go.of_run (Ev.mono _) 1 _ ?_
  show Go (some (L, xs)) aM (Ev mt aM (d + 50)) mL_law Qf (if y = y then 1388 else 911, [some (.ref 2000), some (.ref 0), some (.ref 83), some (.int (nI i))], [], (SH, mkM I2 J2 T1), 118, 394190)
  rw [if_pos rfl]
  exact g S' I2 J2 T1 hS' c2 m2
set_option maxRecDepth 20000 in
theorem lw_case_15 {L d i : Nat} {xs : Nat → Int32} (hi : i + 7 ≤ L) (hL : L ≤ 3584) {S : St} (hS : PUR S) {I : Nat → Nat → Int32} {J : Nat → Nat → Int64} {T : Nat → Nat → Nat} (hc : CINV S I J T) (hm : MINV S I) (g : ∀ S' I' J' T', PUR S' → CINV S' I' J' T' → MINV S' I' → Go (some (L, xs)) aM (Ev mt aM (d + 50)) mL_law Qf (1388, [some (.ref 2000), some (.ref 0), some (.ref 83), some (.int (nI i))], [], (SH, mkM I' J' T'), 118, 394190)) : Go (some (L, xs)) aM (Ev mt aM (d + 50)) mL_law Qf (913, [some (.ref 2000), some (.ref 0), some (.ref 83), some (.int (nI i))], [], (SH, mkM I J T), 118, 394190) := by
  obtain ⟨v, S', hk, hS', h1, h2⟩ := OPR.run (k := 2) (by omega) (by decide +kernel) (op_kept hS (xs (nI i + (1 : Int32)).toNatClampNeg)) hc hm
  obtain ⟨y, rfl⟩ := kv2 hk
  refine Go.of_run (Ev.mono _) 6 _ ?_
  refine ⟨vpx (j := 1) hi hL (by omega), ?_⟩
  show Go (some (L, xs)) aM (Ev mt aM (d + 50)) mL_law Qf (919, [some (.ref 2000), some (.ref 0), some (.ref 83), some (.int (nI i))], [.int (xs (nI i + (1 : Int32)).toNatClampNeg), .ref 0], (SH, mkM I J T), 118, 394190)
  refine Go.of_run (Ev.mono _) 1 _ ?_
  refine ⟨Nat.le_of_ble_eq_true rfl, ?_⟩
  refine h1 d _ (fun I1 J1 T1 m1 c1 => ?_)
  show Go (some (L, xs)) aM (Ev mt aM (d + 50)) mL_law Qf (922, [some (.ref 2000), some (.ref 0), some (.ref 83), some (.int (nI i))], [.long y], (SH, mkM I1 J1 T1), 118, 394190)
  refine Go.of_run (Ev.mono _) 6 _ ?_
  refine ⟨vpx (j := 1) hi hL (by omega), ?_⟩
  show Go (some (L, xs)) aM (Ev mt aM (d + 50)) mL_law Qf (928, [some (.ref 2000), some (.ref 0), some (.ref 83), some (.int (nI i))], [.int (xs (nI i + (1 : Int32)).toNatClampNeg), .ref 83, .long y], (SH, mkM I1 J1 T1), 118, 394190)
  refine Go.of_run (Ev.mono _) 1 _ ?_
  refine ⟨Nat.le_of_ble_eq_true rfl, ?_⟩
  refine h2 d I1 J1 T1 _ m1 c1 (fun I2 J2 c2 m2 => ?_)
  show Go (some (L, xs)) aM (Ev mt aM (d + 50)) mL_law Qf (931, [some (.ref 2000), some (.ref 0), some (.ref 83), some (.int (nI i))], [.long y, .long y], (SH, mkM I2 J2 T1), 118, 394190)
  refine Go.of_run (Ev.mono _) 2 _ ?_
  show Go (some (L, xs)) aM (Ev mt aM (d + 50)) mL_law Qf (if lg_cmp y y = 0 then 1388 else 935, [some (.ref 2000), some (.ref 0), some (.ref 83), some (.int (nI i))], [], (SH, mkM I2 J2 T1), 118, 394190)
  rw [if_pos ((lg_cmp_eq y y).mpr rfl)]
  exact g S' I2 J2 T1 hS' c2 m2
set_option maxRecDepth 20000 in
theorem lw_case_16 {L d i : Nat} {xs : Nat → Int32} (hi : i + 7 ≤ L) (hL : L ≤ 3584) {S : St} (hS : PUR S) {I : Nat → Nat → Int32} {J : Nat → Nat → Int64} {T : Nat → Nat → Nat} (hc : CINV S I J T) (hm : MINV S I) (g : ∀ S' I' J' T', PUR S' → CINV S' I' J' T' → MINV S' I' → Go (some (L, xs)) aM (Ev mt aM (d + 50)) mL_law Qf (1388, [some (.ref 2000), some (.ref 0), some (.ref 83), some (.int (nI i))], [], (SH, mkM I' J' T'), 118, 394190)) : Go (some (L, xs)) aM (Ev mt aM (d + 50)) mL_law Qf (937, [some (.ref 2000), some (.ref 0), some (.ref 83), some (.int (nI i))], [], (SH, mkM I J T), 118, 394190) := by
  obtain ⟨v, S', hk, hS', h1, h2⟩ := OPR.run (k := 2) (by omega) (by decide +kernel) (op_together hS (xs (nI i + (1 : Int32)).toNatClampNeg)) hc hm
  obtain ⟨y, rfl⟩ := kv2 hk
  refine Go.of_run (Ev.mono _) 6 _ ?_
  refine ⟨vpx (j := 1) hi hL (by omega), ?_⟩
  show Go (some (L, xs)) aM (Ev mt aM (d + 50)) mL_law Qf (943, [some (.ref 2000), some (.ref 0), some (.ref 83), some (.int (nI i))], [.int (xs (nI i + (1 : Int32)).toNatClampNeg), .ref 0], (SH, mkM I J T), 118, 394190)
  refine Go.of_run (Ev.mono _) 1 _ ?_
  refine ⟨Nat.le_of_ble_eq_true rfl, ?_⟩
  refine h1 d _ (fun I1 J1 T1 m1 c1 => ?_)
  show Go (some (L, xs)) aM (Ev mt aM (d + 50)) mL_law Qf (946, [some (.ref 2000), some (.ref 0), some (.ref 83), some (.int (nI i))], [.long y], (SH, mkM I1 J1 T1), 118, 394190)
  refine Go.of_run (Ev.mono _) 6 _ ?_
  refine ⟨vpx (j := 1) hi hL (by omega), ?_⟩
  show Go (some (L, xs)) aM (Ev mt aM (d + 50)) mL_law Qf (952, [some (.ref 2000), some (.ref 0), some (.ref 83), some (.int (nI i))], [.int (xs (nI i + (1 : Int32)).toNatClampNeg), .ref 83, .long y], (SH, mkM I1 J1 T1), 118, 394190)
  refine Go.of_run (Ev.mono _) 1 _ ?_
  refine ⟨Nat.le_of_ble_eq_true rfl, ?_⟩
  refine h2 d I1 J1 T1 _ m1 c1 (fun I2 J2 c2 m2 => ?_)
  show Go (some (L, xs)) aM (Ev mt aM (d + 50)) mL_law Qf (955, [some (.ref 2000), some (.ref 0), some (.ref 83), some (.int (nI i))], [.long y, .long y], (SH, mkM I2 J2 T1), 118, 394190)
  refine Go.of_run (Ev.mono _) 2 _ ?_
  show Go (some (L, xs)) aM (Ev mt aM (d + 50)) mL_law Qf (if lg_cmp y y = 0 then 1388 else 959, [some (.ref 2000), some (.ref 0), some (.ref 83), some (.int (nI i))], [], (SH, mkM I2 J2 T1), 118, 394190)
  rw [if_pos ((lg_cmp_eq y y).mpr rfl)]
  exact g S' I2 J2 T1 hS' c2 m2
set_option maxRecDepth 20000 in
theorem lw_case_17 {L d i : Nat} {xs : Nat → Int32} (hi : i + 7 ≤ L) (hL : L ≤ 3584) {S : St} (hS : PUR S) {I : Nat → Nat → Int32} {J : Nat → Nat → Int64} {T : Nat → Nat → Nat} (hc : CINV S I J T) (hm : MINV S I) (g : ∀ S' I' J' T', PUR S' → CINV S' I' J' T' → MINV S' I' → Go (some (L, xs)) aM (Ev mt aM (d + 50)) mL_law Qf (1388, [some (.ref 2000), some (.ref 0), some (.ref 83), some (.int (nI i))], [], (SH, mkM I' J' T'), 118, 394190)) : Go (some (L, xs)) aM (Ev mt aM (d + 50)) mL_law Qf (961, [some (.ref 2000), some (.ref 0), some (.ref 83), some (.int (nI i))], [], (SH, mkM I J T), 118, 394190) := by
  obtain ⟨v, S', hk, hS', h1, h2⟩ := OPR.run (k := 2) (by omega) (by decide +kernel) (op_slower hS (xs (nI i + (1 : Int32)).toNatClampNeg)) hc hm
  obtain ⟨y, rfl⟩ := kv2 hk
  refine Go.of_run (Ev.mono _) 6 _ ?_
  refine ⟨vpx (j := 1) hi hL (by omega), ?_⟩
  show Go (some (L, xs)) aM (Ev mt aM (d + 50)) mL_law Qf (967, [some (.ref 2000), some (.ref 0), some (.ref 83), some (.int (nI i))], [.int (xs (nI i + (1 : Int32)).toNatClampNeg), .ref 0], (SH, mkM I J T), 118, 394190)
  refine Go.of_run (Ev.mono _) 1 _ ?_
  refine ⟨Nat.le_of_ble_eq_true rfl, ?_⟩
  refine h1 d _ (fun I1 J1 T1 m1 c1 => ?_)
  show Go (some (L, xs)) aM (Ev mt aM (d + 50)) mL_law Qf (970, [some (.ref 2000), some (.ref 0), some (.ref 83), some (.int (nI i))], [.long y], (SH, mkM I1 J1 T1), 118, 394190)
  refine Go.of_run (Ev.mono _) 6 _ ?_
  refine ⟨vpx (j := 1) hi hL (by omega), ?_⟩
  show Go (some (L, xs)) aM (Ev mt aM (d + 50)) mL_law Qf (976, [some (.ref 2000), some (.ref 0), some (.ref 83), some (.int (nI i))], [.int (xs (nI i + (1 : Int32)).toNatClampNeg), .ref 83, .long y], (SH, mkM I1 J1 T1), 118, 394190)
  refine Go.of_run (Ev.mono _) 1 _ ?_
  refine ⟨Nat.le_of_ble_eq_true rfl, ?_⟩
  refine h2 d I1 J1 T1 _ m1 c1 (fun I2 J2 c2 m2 => ?_)
  show Go (some (L, xs)) aM (Ev mt aM (d + 50)) mL_law Qf (979, [some (.ref 2000), some (.ref 0), some (.ref 83), some (.int (nI i))], [.long y, .long y], (SH, mkM I2 J2 T1), 118, 394190)
  refine Go.of_run (Ev.mono _) 2 _ ?_
  show Go (some (L, xs)) aM (Ev mt aM (d + 50)) mL_law Qf (if lg_cmp y y = 0 then 1388 else 983, [some (.ref 2000), some (.ref 0), some (.ref 83), some (.int (nI i))], [], (SH, mkM I2 J2 T1), 118, 394190)
  rw [if_pos ((lg_cmp_eq y y).mpr rfl)]
  exact g S' I2 J2 T1 hS' c2 m2
set_option maxRecDepth 20000 in
theorem lw_case_18 {L d i : Nat} {xs : Nat → Int32} (hi : i + 7 ≤ L) (hL : L ≤ 3584) {S : St} (hS : PUR S) {I : Nat → Nat → Int32} {J : Nat → Nat → Int64} {T : Nat → Nat → Nat} (hc : CINV S I J T) (hm : MINV S I) (g : ∀ S' I' J' T', PUR S' → CINV S' I' J' T' → MINV S' I' → Go (some (L, xs)) aM (Ev mt aM (d + 50)) mL_law Qf (1388, [some (.ref 2000), some (.ref 0), some (.ref 83), some (.int (nI i))], [], (SH, mkM I' J' T'), 118, 394190)) : Go (some (L, xs)) aM (Ev mt aM (d + 50)) mL_law Qf (985, [some (.ref 2000), some (.ref 0), some (.ref 83), some (.int (nI i))], [], (SH, mkM I J T), 118, 394190) := by
  obtain ⟨v, S', hk, hS', h1, h2⟩ := OPR.run (k := 2) (by omega) (by decide +kernel) (op_game hS (xs (nI i + (1 : Int32)).toNatClampNeg)) hc hm
  obtain ⟨y, rfl⟩ := kv2 hk
  refine Go.of_run (Ev.mono _) 6 _ ?_
  refine ⟨vpx (j := 1) hi hL (by omega), ?_⟩
  show Go (some (L, xs)) aM (Ev mt aM (d + 50)) mL_law Qf (991, [some (.ref 2000), some (.ref 0), some (.ref 83), some (.int (nI i))], [.int (xs (nI i + (1 : Int32)).toNatClampNeg), .ref 0], (SH, mkM I J T), 118, 394190)
  refine Go.of_run (Ev.mono _) 1 _ ?_
  refine ⟨Nat.le_of_ble_eq_true rfl, ?_⟩
  refine h1 d _ (fun I1 J1 T1 m1 c1 => ?_)
  show Go (some (L, xs)) aM (Ev mt aM (d + 50)) mL_law Qf (994, [some (.ref 2000), some (.ref 0), some (.ref 83), some (.int (nI i))], [.long y], (SH, mkM I1 J1 T1), 118, 394190)
  refine Go.of_run (Ev.mono _) 6 _ ?_
  refine ⟨vpx (j := 1) hi hL (by omega), ?_⟩
  show Go (some (L, xs)) aM (Ev mt aM (d + 50)) mL_law Qf (1000, [some (.ref 2000), some (.ref 0), some (.ref 83), some (.int (nI i))], [.int (xs (nI i + (1 : Int32)).toNatClampNeg), .ref 83, .long y], (SH, mkM I1 J1 T1), 118, 394190)
  refine Go.of_run (Ev.mono _) 1 _ ?_
  refine ⟨Nat.le_of_ble_eq_true rfl, ?_⟩
  refine h2 d I1 J1 T1 _ m1 c1 (fun I2 J2 c2 m2 => ?_)
  show Go (some (L, xs)) aM (Ev mt aM (d + 50)) mL_law Qf (1003, [some (.ref 2000), some (.ref 0), some (.ref 83), some (.int (nI i))], [.long y, .long y], (SH, mkM I2 J2 T1), 118, 394190)
  refine Go.of_run (Ev.mono _) 2 _ ?_
  show Go (some (L, xs)) aM (Ev mt aM (d + 50)) mL_law Qf (if lg_cmp y y = 0 then 1388 else 1007, [some (.ref 2000), some (.ref 0), some (.ref 83), some (.int (nI i))], [], (SH, mkM I2 J2 T1), 118, 394190)
  rw [if_pos ((lg_cmp_eq y y).mpr rfl)]
  exact g S' I2 J2 T1 hS' c2 m2
set_option maxRecDepth 20000 in
theorem lw_case_19 {L d i : Nat} {xs : Nat → Int32} (hi : i + 7 ≤ L) (hL : L ≤ 3584) {S : St} (hS : PUR S) {I : Nat → Nat → Int32} {J : Nat → Nat → Int64} {T : Nat → Nat → Nat} (hc : CINV S I J T) (hm : MINV S I) (g : ∀ S' I' J' T', PUR S' → CINV S' I' J' T' → MINV S' I' → Go (some (L, xs)) aM (Ev mt aM (d + 50)) mL_law Qf (1388, [some (.ref 2000), some (.ref 0), some (.ref 83), some (.int (nI i))], [], (SH, mkM I' J' T'), 118, 394190)) : Go (some (L, xs)) aM (Ev mt aM (d + 50)) mL_law Qf (1009, [some (.ref 2000), some (.ref 0), some (.ref 83), some (.int (nI i))], [], (SH, mkM I J T), 118, 394190) := by
  obtain ⟨v, S', hk, hS', h1, h2⟩ := OPR.run (k := 2) (by omega) (by decide +kernel) (op_mixed hS (xs (nI i + (1 : Int32)).toNatClampNeg) (xs (nI i + (2 : Int32)).toNatClampNeg) (xs (nI i + (3 : Int32)).toNatClampNeg) (xs (nI i + (4 : Int32)).toNatClampNeg) (xs (nI i + (5 : Int32)).toNatClampNeg)) hc hm
  obtain ⟨y, rfl⟩ := kv2 hk
  refine Go.of_run (Ev.mono _) 6 _ ?_
  refine ⟨vpx (j := 1) hi hL (by omega), ?_⟩
  show Go (some (L, xs)) aM (Ev mt aM (d + 50)) mL_law Qf (1015, [some (.ref 2000), some (.ref 0), some (.ref 83), some (.int (nI i))], [.int (xs (nI i + (1 : Int32)).toNatClampNeg), .ref 0], (SH, mkM I J T), 118, 394190)
  refine Go.of_run (Ev.mono _) 5 _ ?_
  refine ⟨vpx (j := 2) hi hL (by omega), ?_⟩
  show Go (some (L, xs)) aM (Ev mt aM (d + 50)) mL_law Qf (1020, [some (.ref 2000), some (.ref 0), some (.ref 83), some (.int (nI i))], [.int (xs (nI i + (2 : Int32)).toNatClampNeg), .int (xs (nI i + (1 : Int32)).toNatClampNeg), .ref 0], (SH, mkM I J T), 118, 394190)
  refine Go.of_run (Ev.mono _) 5 _ ?_
  refine ⟨vpx (j := 3) hi hL (by omega), ?_⟩
  show Go (some (L, xs)) aM (Ev mt aM (d + 50)) mL_law Qf (1025, [some (.ref 2000), some (.ref 0), some (.ref 83), some (.int (nI i))], [.int (xs (nI i + (3 : Int32)).toNatClampNeg), .int (xs (nI i + (2 : Int32)).toNatClampNeg), .int (xs (nI i + (1 : Int32)).toNatClampNeg), .ref 0], (SH, mkM I J T), 118, 394190)
  refine Go.of_run (Ev.mono _) 5 _ ?_
  refine ⟨vpx (j := 4) hi hL (by omega), ?_⟩
  show Go (some (L, xs)) aM (Ev mt aM (d + 50)) mL_law Qf (1030, [some (.ref 2000), some (.ref 0), some (.ref 83), some (.int (nI i))], [.int (xs (nI i + (4 : Int32)).toNatClampNeg), .int (xs (nI i + (3 : Int32)).toNatClampNeg), .int (xs (nI i + (2 : Int32)).toNatClampNeg), .int (xs (nI i + (1 : Int32)).toNatClampNeg), .ref 0], (SH, mkM I J T), 118, 394190)
  refine Go.of_run (Ev.mono _) 5 _ ?_
  refine ⟨vpx (j := 5) hi hL (by omega), ?_⟩
  show Go (some (L, xs)) aM (Ev mt aM (d + 50)) mL_law Qf (1035, [some (.ref 2000), some (.ref 0), some (.ref 83), some (.int (nI i))], [.int (xs (nI i + (5 : Int32)).toNatClampNeg), .int (xs (nI i + (4 : Int32)).toNatClampNeg), .int (xs (nI i + (3 : Int32)).toNatClampNeg), .int (xs (nI i + (2 : Int32)).toNatClampNeg), .int (xs (nI i + (1 : Int32)).toNatClampNeg), .ref 0], (SH, mkM I J T), 118, 394190)
  refine Go.of_run (Ev.mono _) 1 _ ?_
  refine ⟨Nat.le_of_ble_eq_true rfl, ?_⟩
  refine h1 d _ (fun I1 J1 T1 m1 c1 => ?_)
  show Go (some (L, xs)) aM (Ev mt aM (d + 50)) mL_law Qf (1038, [some (.ref 2000), some (.ref 0), some (.ref 83), some (.int (nI i))], [.long y], (SH, mkM I1 J1 T1), 118, 394190)
  refine Go.of_run (Ev.mono _) 6 _ ?_
  refine ⟨vpx (j := 1) hi hL (by omega), ?_⟩
  show Go (some (L, xs)) aM (Ev mt aM (d + 50)) mL_law Qf (1044, [some (.ref 2000), some (.ref 0), some (.ref 83), some (.int (nI i))], [.int (xs (nI i + (1 : Int32)).toNatClampNeg), .ref 83, .long y], (SH, mkM I1 J1 T1), 118, 394190)
  refine Go.of_run (Ev.mono _) 5 _ ?_
  refine ⟨vpx (j := 2) hi hL (by omega), ?_⟩
  show Go (some (L, xs)) aM (Ev mt aM (d + 50)) mL_law Qf (1049, [some (.ref 2000), some (.ref 0), some (.ref 83), some (.int (nI i))], [.int (xs (nI i + (2 : Int32)).toNatClampNeg), .int (xs (nI i + (1 : Int32)).toNatClampNeg), .ref 83, .long y], (SH, mkM I1 J1 T1), 118, 394190)
  refine Go.of_run (Ev.mono _) 5 _ ?_
  refine ⟨vpx (j := 3) hi hL (by omega), ?_⟩
  show Go (some (L, xs)) aM (Ev mt aM (d + 50)) mL_law Qf (1054, [some (.ref 2000), some (.ref 0), some (.ref 83), some (.int (nI i))], [.int (xs (nI i + (3 : Int32)).toNatClampNeg), .int (xs (nI i + (2 : Int32)).toNatClampNeg), .int (xs (nI i + (1 : Int32)).toNatClampNeg), .ref 83, .long y], (SH, mkM I1 J1 T1), 118, 394190)
  refine Go.of_run (Ev.mono _) 5 _ ?_
  refine ⟨vpx (j := 4) hi hL (by omega), ?_⟩
  show Go (some (L, xs)) aM (Ev mt aM (d + 50)) mL_law Qf (1059, [some (.ref 2000), some (.ref 0), some (.ref 83), some (.int (nI i))], [.int (xs (nI i + (4 : Int32)).toNatClampNeg), .int (xs (nI i + (3 : Int32)).toNatClampNeg), .int (xs (nI i + (2 : Int32)).toNatClampNeg), .int (xs (nI i + (1 : Int32)).toNatClampNeg), .ref 83, .long y], (SH, mkM I1 J1 T1), 118, 394190)
  refine Go.of_run (Ev.mono _) 5 _ ?_
  refine ⟨vpx (j := 5) hi hL (by omega), ?_⟩
  show Go (some (L, xs)) aM (Ev mt aM (d + 50)) mL_law Qf (1064, [some (.ref 2000), some (.ref 0), some (.ref 83), some (.int (nI i))], [.int (xs (nI i + (5 : Int32)).toNatClampNeg), .int (xs (nI i + (4 : Int32)).toNatClampNeg), .int (xs (nI i + (3 : Int32)).toNatClampNeg), .int (xs (nI i + (2 : Int32)).toNatClampNeg), .int (xs (nI i + (1 : Int32)).toNatClampNeg), .ref 83, .long y], (SH, mkM I1 J1 T1), 118, 394190)
  refine Go.of_run (Ev.mono _) 1 _ ?_
  refine ⟨Nat.le_of_ble_eq_true rfl, ?_⟩
  refine h2 d I1 J1 T1 _ m1 c1 (fun I2 J2 c2 m2 => ?_)
  show Go (some (L, xs)) aM (Ev mt aM (d + 50)) mL_law Qf (1067, [some (.ref 2000), some (.ref 0), some (.ref 83), some (.int (nI i))], [.long y, .long y], (SH, mkM I2 J2 T1), 118, 394190)
  refine Go.of_run (Ev.mono _) 2 _ ?_
  show Go (some (L, xs)) aM (Ev mt aM (d + 50)) mL_law Qf (if lg_cmp y y = 0 then 1388 else 1071, [some (.ref 2000), some (.ref 0), some (.ref 83), some (.int (nI i))], [], (SH, mkM I2 J2 T1), 118, 394190)
  rw [if_pos ((lg_cmp_eq y y).mpr rfl)]
  exact g S' I2 J2 T1 hS' c2 m2
set_option maxRecDepth 20000 in
theorem lw_case_20 {L d i : Nat} {xs : Nat → Int32} (hi : i + 7 ≤ L) (hL : L ≤ 3584) {S : St} (hS : PUR S) {I : Nat → Nat → Int32} {J : Nat → Nat → Int64} {T : Nat → Nat → Nat} (hc : CINV S I J T) (hm : MINV S I) (g : ∀ S' I' J' T', PUR S' → CINV S' I' J' T' → MINV S' I' → Go (some (L, xs)) aM (Ev mt aM (d + 50)) mL_law Qf (1388, [some (.ref 2000), some (.ref 0), some (.ref 83), some (.int (nI i))], [], (SH, mkM I' J' T'), 118, 394190)) : Go (some (L, xs)) aM (Ev mt aM (d + 50)) mL_law Qf (1073, [some (.ref 2000), some (.ref 0), some (.ref 83), some (.int (nI i))], [], (SH, mkM I J T), 118, 394190) := by
  obtain ⟨v, S', hk, hS', h1, h2⟩ := OPR.run (k := 1) (by omega) (by decide +kernel) (op_happens hS (xs (nI i + (1 : Int32)).toNatClampNeg) (xs (nI i + (2 : Int32)).toNatClampNeg)) hc hm
  obtain ⟨y, rfl⟩ := kv1 hk
  refine Go.of_run (Ev.mono _) 6 _ ?_
  refine ⟨vpx (j := 1) hi hL (by omega), ?_⟩
  show Go (some (L, xs)) aM (Ev mt aM (d + 50)) mL_law Qf (1079, [some (.ref 2000), some (.ref 0), some (.ref 83), some (.int (nI i))], [.int (xs (nI i + (1 : Int32)).toNatClampNeg), .ref 0], (SH, mkM I J T), 118, 394190)
  refine Go.of_run (Ev.mono _) 5 _ ?_
  refine ⟨vpx (j := 2) hi hL (by omega), ?_⟩
  show Go (some (L, xs)) aM (Ev mt aM (d + 50)) mL_law Qf (1084, [some (.ref 2000), some (.ref 0), some (.ref 83), some (.int (nI i))], [.int (xs (nI i + (2 : Int32)).toNatClampNeg), .int (xs (nI i + (1 : Int32)).toNatClampNeg), .ref 0], (SH, mkM I J T), 118, 394190)
  refine Go.of_run (Ev.mono _) 1 _ ?_
  refine ⟨Nat.le_of_ble_eq_true rfl, ?_⟩
  refine h1 d _ (fun I1 J1 T1 m1 c1 => ?_)
  show Go (some (L, xs)) aM (Ev mt aM (d + 50)) mL_law Qf (1087, [some (.ref 2000), some (.ref 0), some (.ref 83), some (.int (nI i))], [.int y], (SH, mkM I1 J1 T1), 118, 394190)
  refine Go.of_run (Ev.mono _) 6 _ ?_
  refine ⟨vpx (j := 1) hi hL (by omega), ?_⟩
  show Go (some (L, xs)) aM (Ev mt aM (d + 50)) mL_law Qf (1093, [some (.ref 2000), some (.ref 0), some (.ref 83), some (.int (nI i))], [.int (xs (nI i + (1 : Int32)).toNatClampNeg), .ref 83, .int y], (SH, mkM I1 J1 T1), 118, 394190)
  refine Go.of_run (Ev.mono _) 5 _ ?_
  refine ⟨vpx (j := 2) hi hL (by omega), ?_⟩
  show Go (some (L, xs)) aM (Ev mt aM (d + 50)) mL_law Qf (1098, [some (.ref 2000), some (.ref 0), some (.ref 83), some (.int (nI i))], [.int (xs (nI i + (2 : Int32)).toNatClampNeg), .int (xs (nI i + (1 : Int32)).toNatClampNeg), .ref 83, .int y], (SH, mkM I1 J1 T1), 118, 394190)
  refine Go.of_run (Ev.mono _) 1 _ ?_
  refine ⟨Nat.le_of_ble_eq_true rfl, ?_⟩
  refine h2 d I1 J1 T1 _ m1 c1 (fun I2 J2 c2 m2 => ?_)
  show Go (some (L, xs)) aM (Ev mt aM (d + 50)) mL_law Qf (1101, [some (.ref 2000), some (.ref 0), some (.ref 83), some (.int (nI i))], [.int y, .int y], (SH, mkM I2 J2 T1), 118, 394190)
  refine Go.of_run (Ev.mono _) 1 _ ?_
  show Go (some (L, xs)) aM (Ev mt aM (d + 50)) mL_law Qf (if y = y then 1388 else 1104, [some (.ref 2000), some (.ref 0), some (.ref 83), some (.int (nI i))], [], (SH, mkM I2 J2 T1), 118, 394190)
  rw [if_pos rfl]
  exact g S' I2 J2 T1 hS' c2 m2
set_option maxRecDepth 20000 in
theorem lw_case_21 {L d i : Nat} {xs : Nat → Int32} (hi : i + 7 ≤ L) (hL : L ≤ 3584) {S : St} (hS : PUR S) {I : Nat → Nat → Int32} {J : Nat → Nat → Int64} {T : Nat → Nat → Nat} (hc : CINV S I J T) (hm : MINV S I) (g : ∀ S' I' J' T', PUR S' → CINV S' I' J' T' → MINV S' I' → Go (some (L, xs)) aM (Ev mt aM (d + 50)) mL_law Qf (1388, [some (.ref 2000), some (.ref 0), some (.ref 83), some (.int (nI i))], [], (SH, mkM I' J' T'), 118, 394190)) : Go (some (L, xs)) aM (Ev mt aM (d + 50)) mL_law Qf (1106, [some (.ref 2000), some (.ref 0), some (.ref 83), some (.int (nI i))], [], (SH, mkM I J T), 118, 394190) := by
  obtain ⟨v, S', hk, hS', h1, h2⟩ := OPR.run (k := 1) (by omega) (by decide +kernel) (op_undo hS ) hc hm
  obtain ⟨y, rfl⟩ := kv1 hk
  refine Go.of_run (Ev.mono _) 2 _ ?_
  refine ⟨Nat.le_of_ble_eq_true rfl, ?_⟩
  refine h1 d _ (fun I1 J1 T1 m1 c1 => ?_)
  show Go (some (L, xs)) aM (Ev mt aM (d + 50)) mL_law Qf (1110, [some (.ref 2000), some (.ref 0), some (.ref 83), some (.int (nI i))], [.int y], (SH, mkM I1 J1 T1), 118, 394190)
  refine Go.of_run (Ev.mono _) 2 _ ?_
  refine ⟨Nat.le_of_ble_eq_true rfl, ?_⟩
  refine h2 d I1 J1 T1 _ m1 c1 (fun I2 J2 c2 m2 => ?_)
  show Go (some (L, xs)) aM (Ev mt aM (d + 50)) mL_law Qf (1114, [some (.ref 2000), some (.ref 0), some (.ref 83), some (.int (nI i))], [.int y, .int y], (SH, mkM I2 J2 T1), 118, 394190)
  refine Go.of_run (Ev.mono _) 1 _ ?_
  show Go (some (L, xs)) aM (Ev mt aM (d + 50)) mL_law Qf (if y = y then 1388 else 1117, [some (.ref 2000), some (.ref 0), some (.ref 83), some (.int (nI i))], [], (SH, mkM I2 J2 T1), 118, 394190)
  rw [if_pos rfl]
  exact g S' I2 J2 T1 hS' c2 m2
set_option maxRecDepth 20000 in
theorem lw_case_22 {L d i : Nat} {xs : Nat → Int32} (hi : i + 7 ≤ L) (hL : L ≤ 3584) {S : St} (hS : PUR S) {I : Nat → Nat → Int32} {J : Nat → Nat → Int64} {T : Nat → Nat → Nat} (hc : CINV S I J T) (hm : MINV S I) (g : ∀ S' I' J' T', PUR S' → CINV S' I' J' T' → MINV S' I' → Go (some (L, xs)) aM (Ev mt aM (d + 50)) mL_law Qf (1388, [some (.ref 2000), some (.ref 0), some (.ref 83), some (.int (nI i))], [], (SH, mkM I' J' T'), 118, 394190)) : Go (some (L, xs)) aM (Ev mt aM (d + 50)) mL_law Qf (1119, [some (.ref 2000), some (.ref 0), some (.ref 83), some (.int (nI i))], [], (SH, mkM I J T), 118, 394190) := by
  obtain ⟨v, S', hk, hS', h1, h2⟩ := OPR.run (k := 1) (by omega) (by decide +kernel) (op_logged hS (xs (nI i + (1 : Int32)).toNatClampNeg) (xs (nI i + (2 : Int32)).toNatClampNeg)) hc hm
  obtain ⟨y, rfl⟩ := kv1 hk
  refine Go.of_run (Ev.mono _) 6 _ ?_
  refine ⟨vpx (j := 1) hi hL (by omega), ?_⟩
  show Go (some (L, xs)) aM (Ev mt aM (d + 50)) mL_law Qf (1125, [some (.ref 2000), some (.ref 0), some (.ref 83), some (.int (nI i))], [.int (xs (nI i + (1 : Int32)).toNatClampNeg), .ref 0], (SH, mkM I J T), 118, 394190)
  refine Go.of_run (Ev.mono _) 5 _ ?_
  refine ⟨vpx (j := 2) hi hL (by omega), ?_⟩
  show Go (some (L, xs)) aM (Ev mt aM (d + 50)) mL_law Qf (1130, [some (.ref 2000), some (.ref 0), some (.ref 83), some (.int (nI i))], [.int (xs (nI i + (2 : Int32)).toNatClampNeg), .int (xs (nI i + (1 : Int32)).toNatClampNeg), .ref 0], (SH, mkM I J T), 118, 394190)
  refine Go.of_run (Ev.mono _) 1 _ ?_
  refine ⟨Nat.le_of_ble_eq_true rfl, ?_⟩
  refine h1 d _ (fun I1 J1 T1 m1 c1 => ?_)
  show Go (some (L, xs)) aM (Ev mt aM (d + 50)) mL_law Qf (1133, [some (.ref 2000), some (.ref 0), some (.ref 83), some (.int (nI i))], [.int y], (SH, mkM I1 J1 T1), 118, 394190)
  refine Go.of_run (Ev.mono _) 6 _ ?_
  refine ⟨vpx (j := 1) hi hL (by omega), ?_⟩
  show Go (some (L, xs)) aM (Ev mt aM (d + 50)) mL_law Qf (1139, [some (.ref 2000), some (.ref 0), some (.ref 83), some (.int (nI i))], [.int (xs (nI i + (1 : Int32)).toNatClampNeg), .ref 83, .int y], (SH, mkM I1 J1 T1), 118, 394190)
  refine Go.of_run (Ev.mono _) 5 _ ?_
  refine ⟨vpx (j := 2) hi hL (by omega), ?_⟩
  show Go (some (L, xs)) aM (Ev mt aM (d + 50)) mL_law Qf (1144, [some (.ref 2000), some (.ref 0), some (.ref 83), some (.int (nI i))], [.int (xs (nI i + (2 : Int32)).toNatClampNeg), .int (xs (nI i + (1 : Int32)).toNatClampNeg), .ref 83, .int y], (SH, mkM I1 J1 T1), 118, 394190)
  refine Go.of_run (Ev.mono _) 1 _ ?_
  refine ⟨Nat.le_of_ble_eq_true rfl, ?_⟩
  refine h2 d I1 J1 T1 _ m1 c1 (fun I2 J2 c2 m2 => ?_)
  show Go (some (L, xs)) aM (Ev mt aM (d + 50)) mL_law Qf (1147, [some (.ref 2000), some (.ref 0), some (.ref 83), some (.int (nI i))], [.int y, .int y], (SH, mkM I2 J2 T1), 118, 394190)
  refine Go.of_run (Ev.mono _) 1 _ ?_
  show Go (some (L, xs)) aM (Ev mt aM (d + 50)) mL_law Qf (if y = y then 1388 else 1150, [some (.ref 2000), some (.ref 0), some (.ref 83), some (.int (nI i))], [], (SH, mkM I2 J2 T1), 118, 394190)
  rw [if_pos rfl]
  exact g S' I2 J2 T1 hS' c2 m2
set_option maxRecDepth 20000 in
theorem lw_case_23 {L d i : Nat} {xs : Nat → Int32} (hi : i + 7 ≤ L) (hL : L ≤ 3584) {S : St} (hS : PUR S) {I : Nat → Nat → Int32} {J : Nat → Nat → Int64} {T : Nat → Nat → Nat} (hc : CINV S I J T) (hm : MINV S I) (g : ∀ S' I' J' T', PUR S' → CINV S' I' J' T' → MINV S' I' → Go (some (L, xs)) aM (Ev mt aM (d + 50)) mL_law Qf (1388, [some (.ref 2000), some (.ref 0), some (.ref 83), some (.int (nI i))], [], (SH, mkM I' J' T'), 118, 394190)) : Go (some (L, xs)) aM (Ev mt aM (d + 50)) mL_law Qf (1152, [some (.ref 2000), some (.ref 0), some (.ref 83), some (.int (nI i))], [], (SH, mkM I J T), 118, 394190) := by
  obtain ⟨v, S', hk, hS', h1, h2⟩ := OPR.run (k := 2) (by omega) (by decide +kernel) (op_wrong hS (xs (nI i + (1 : Int32)).toNatClampNeg) (xs (nI i + (2 : Int32)).toNatClampNeg)) hc hm
  obtain ⟨y, rfl⟩ := kv2 hk
  refine Go.of_run (Ev.mono _) 6 _ ?_
  refine ⟨vpx (j := 1) hi hL (by omega), ?_⟩
  show Go (some (L, xs)) aM (Ev mt aM (d + 50)) mL_law Qf (1158, [some (.ref 2000), some (.ref 0), some (.ref 83), some (.int (nI i))], [.int (xs (nI i + (1 : Int32)).toNatClampNeg), .ref 0], (SH, mkM I J T), 118, 394190)
  refine Go.of_run (Ev.mono _) 5 _ ?_
  refine ⟨vpx (j := 2) hi hL (by omega), ?_⟩
  show Go (some (L, xs)) aM (Ev mt aM (d + 50)) mL_law Qf (1163, [some (.ref 2000), some (.ref 0), some (.ref 83), some (.int (nI i))], [.int (xs (nI i + (2 : Int32)).toNatClampNeg), .int (xs (nI i + (1 : Int32)).toNatClampNeg), .ref 0], (SH, mkM I J T), 118, 394190)
  refine Go.of_run (Ev.mono _) 1 _ ?_
  refine ⟨Nat.le_of_ble_eq_true rfl, ?_⟩
  refine h1 d _ (fun I1 J1 T1 m1 c1 => ?_)
  show Go (some (L, xs)) aM (Ev mt aM (d + 50)) mL_law Qf (1166, [some (.ref 2000), some (.ref 0), some (.ref 83), some (.int (nI i))], [.long y], (SH, mkM I1 J1 T1), 118, 394190)
  refine Go.of_run (Ev.mono _) 6 _ ?_
  refine ⟨vpx (j := 1) hi hL (by omega), ?_⟩
  show Go (some (L, xs)) aM (Ev mt aM (d + 50)) mL_law Qf (1172, [some (.ref 2000), some (.ref 0), some (.ref 83), some (.int (nI i))], [.int (xs (nI i + (1 : Int32)).toNatClampNeg), .ref 83, .long y], (SH, mkM I1 J1 T1), 118, 394190)
  refine Go.of_run (Ev.mono _) 5 _ ?_
  refine ⟨vpx (j := 2) hi hL (by omega), ?_⟩
  show Go (some (L, xs)) aM (Ev mt aM (d + 50)) mL_law Qf (1177, [some (.ref 2000), some (.ref 0), some (.ref 83), some (.int (nI i))], [.int (xs (nI i + (2 : Int32)).toNatClampNeg), .int (xs (nI i + (1 : Int32)).toNatClampNeg), .ref 83, .long y], (SH, mkM I1 J1 T1), 118, 394190)
  refine Go.of_run (Ev.mono _) 1 _ ?_
  refine ⟨Nat.le_of_ble_eq_true rfl, ?_⟩
  refine h2 d I1 J1 T1 _ m1 c1 (fun I2 J2 c2 m2 => ?_)
  show Go (some (L, xs)) aM (Ev mt aM (d + 50)) mL_law Qf (1180, [some (.ref 2000), some (.ref 0), some (.ref 83), some (.int (nI i))], [.long y, .long y], (SH, mkM I2 J2 T1), 118, 394190)
  refine Go.of_run (Ev.mono _) 2 _ ?_
  show Go (some (L, xs)) aM (Ev mt aM (d + 50)) mL_law Qf (if lg_cmp y y = 0 then 1388 else 1184, [some (.ref 2000), some (.ref 0), some (.ref 83), some (.int (nI i))], [], (SH, mkM I2 J2 T1), 118, 394190)
  rw [if_pos ((lg_cmp_eq y y).mpr rfl)]
  exact g S' I2 J2 T1 hS' c2 m2
set_option maxRecDepth 20000 in
theorem lw_case_24 {L d i : Nat} {xs : Nat → Int32} (hi : i + 7 ≤ L) (hL : L ≤ 3584) {S : St} (hS : PUR S) {I : Nat → Nat → Int32} {J : Nat → Nat → Int64} {T : Nat → Nat → Nat} (hc : CINV S I J T) (hm : MINV S I) (g : ∀ S' I' J' T', PUR S' → CINV S' I' J' T' → MINV S' I' → Go (some (L, xs)) aM (Ev mt aM (d + 50)) mL_law Qf (1388, [some (.ref 2000), some (.ref 0), some (.ref 83), some (.int (nI i))], [], (SH, mkM I' J' T'), 118, 394190)) : Go (some (L, xs)) aM (Ev mt aM (d + 50)) mL_law Qf (1186, [some (.ref 2000), some (.ref 0), some (.ref 83), some (.int (nI i))], [], (SH, mkM I J T), 118, 394190) := by
  obtain ⟨v, S', hk, hS', h1, h2⟩ := OPR.run (k := 2) (by omega) (by decide +kernel) (op_worst hS (xs (nI i + (1 : Int32)).toNatClampNeg) (xs (nI i + (2 : Int32)).toNatClampNeg)) hc hm
  obtain ⟨y, rfl⟩ := kv2 hk
  refine Go.of_run (Ev.mono _) 6 _ ?_
  refine ⟨vpx (j := 1) hi hL (by omega), ?_⟩
  show Go (some (L, xs)) aM (Ev mt aM (d + 50)) mL_law Qf (1192, [some (.ref 2000), some (.ref 0), some (.ref 83), some (.int (nI i))], [.int (xs (nI i + (1 : Int32)).toNatClampNeg), .ref 0], (SH, mkM I J T), 118, 394190)
  refine Go.of_run (Ev.mono _) 5 _ ?_
  refine ⟨vpx (j := 2) hi hL (by omega), ?_⟩
  show Go (some (L, xs)) aM (Ev mt aM (d + 50)) mL_law Qf (1197, [some (.ref 2000), some (.ref 0), some (.ref 83), some (.int (nI i))], [.int (xs (nI i + (2 : Int32)).toNatClampNeg), .int (xs (nI i + (1 : Int32)).toNatClampNeg), .ref 0], (SH, mkM I J T), 118, 394190)
  refine Go.of_run (Ev.mono _) 1 _ ?_
  refine ⟨Nat.le_of_ble_eq_true rfl, ?_⟩
  refine h1 d _ (fun I1 J1 T1 m1 c1 => ?_)
  show Go (some (L, xs)) aM (Ev mt aM (d + 50)) mL_law Qf (1200, [some (.ref 2000), some (.ref 0), some (.ref 83), some (.int (nI i))], [.long y], (SH, mkM I1 J1 T1), 118, 394190)
  refine Go.of_run (Ev.mono _) 6 _ ?_
  refine ⟨vpx (j := 1) hi hL (by omega), ?_⟩
  show Go (some (L, xs)) aM (Ev mt aM (d + 50)) mL_law Qf (1206, [some (.ref 2000), some (.ref 0), some (.ref 83), some (.int (nI i))], [.int (xs (nI i + (1 : Int32)).toNatClampNeg), .ref 83, .long y], (SH, mkM I1 J1 T1), 118, 394190)
  refine Go.of_run (Ev.mono _) 5 _ ?_
  refine ⟨vpx (j := 2) hi hL (by omega), ?_⟩
  show Go (some (L, xs)) aM (Ev mt aM (d + 50)) mL_law Qf (1211, [some (.ref 2000), some (.ref 0), some (.ref 83), some (.int (nI i))], [.int (xs (nI i + (2 : Int32)).toNatClampNeg), .int (xs (nI i + (1 : Int32)).toNatClampNeg), .ref 83, .long y], (SH, mkM I1 J1 T1), 118, 394190)
  refine Go.of_run (Ev.mono _) 1 _ ?_
  refine ⟨Nat.le_of_ble_eq_true rfl, ?_⟩
  refine h2 d I1 J1 T1 _ m1 c1 (fun I2 J2 c2 m2 => ?_)
  show Go (some (L, xs)) aM (Ev mt aM (d + 50)) mL_law Qf (1214, [some (.ref 2000), some (.ref 0), some (.ref 83), some (.int (nI i))], [.long y, .long y], (SH, mkM I2 J2 T1), 118, 394190)
  refine Go.of_run (Ev.mono _) 2 _ ?_
  show Go (some (L, xs)) aM (Ev mt aM (d + 50)) mL_law Qf (if lg_cmp y y = 0 then 1388 else 1218, [some (.ref 2000), some (.ref 0), some (.ref 83), some (.int (nI i))], [], (SH, mkM I2 J2 T1), 118, 394190)
  rw [if_pos ((lg_cmp_eq y y).mpr rfl)]
  exact g S' I2 J2 T1 hS' c2 m2
set_option maxRecDepth 20000 in
theorem lw_case_25 {L d i : Nat} {xs : Nat → Int32} (hi : i + 7 ≤ L) (hL : L ≤ 3584) {S : St} (hS : PUR S) {I : Nat → Nat → Int32} {J : Nat → Nat → Int64} {T : Nat → Nat → Nat} (hc : CINV S I J T) (hm : MINV S I) (g : ∀ S' I' J' T', PUR S' → CINV S' I' J' T' → MINV S' I' → Go (some (L, xs)) aM (Ev mt aM (d + 50)) mL_law Qf (1388, [some (.ref 2000), some (.ref 0), some (.ref 83), some (.int (nI i))], [], (SH, mkM I' J' T'), 118, 394190)) : Go (some (L, xs)) aM (Ev mt aM (d + 50)) mL_law Qf (1220, [some (.ref 2000), some (.ref 0), some (.ref 83), some (.int (nI i))], [], (SH, mkM I J T), 118, 394190) := by
  obtain ⟨v, S', hk, hS', h1, h2⟩ := OPR.run (k := 1) (by omega) (by decide +kernel) (op_seed hS (xs (nI i + (1 : Int32)).toNatClampNeg)) hc hm
  obtain ⟨y, rfl⟩ := kv1 hk
  refine Go.of_run (Ev.mono _) 6 _ ?_
  refine ⟨vpx (j := 1) hi hL (by omega), ?_⟩
  show Go (some (L, xs)) aM (Ev mt aM (d + 50)) mL_law Qf (1226, [some (.ref 2000), some (.ref 0), some (.ref 83), some (.int (nI i))], [.int (xs (nI i + (1 : Int32)).toNatClampNeg), .ref 0], (SH, mkM I J T), 118, 394190)
  refine Go.of_run (Ev.mono _) 1 _ ?_
  refine ⟨Nat.le_of_ble_eq_true rfl, ?_⟩
  refine h1 d _ (fun I1 J1 T1 m1 c1 => ?_)
  show Go (some (L, xs)) aM (Ev mt aM (d + 50)) mL_law Qf (1229, [some (.ref 2000), some (.ref 0), some (.ref 83), some (.int (nI i))], [.int y], (SH, mkM I1 J1 T1), 118, 394190)
  refine Go.of_run (Ev.mono _) 6 _ ?_
  refine ⟨vpx (j := 1) hi hL (by omega), ?_⟩
  show Go (some (L, xs)) aM (Ev mt aM (d + 50)) mL_law Qf (1235, [some (.ref 2000), some (.ref 0), some (.ref 83), some (.int (nI i))], [.int (xs (nI i + (1 : Int32)).toNatClampNeg), .ref 83, .int y], (SH, mkM I1 J1 T1), 118, 394190)
  refine Go.of_run (Ev.mono _) 1 _ ?_
  refine ⟨Nat.le_of_ble_eq_true rfl, ?_⟩
  refine h2 d I1 J1 T1 _ m1 c1 (fun I2 J2 c2 m2 => ?_)
  show Go (some (L, xs)) aM (Ev mt aM (d + 50)) mL_law Qf (1238, [some (.ref 2000), some (.ref 0), some (.ref 83), some (.int (nI i))], [.int y, .int y], (SH, mkM I2 J2 T1), 118, 394190)
  refine Go.of_run (Ev.mono _) 1 _ ?_
  show Go (some (L, xs)) aM (Ev mt aM (d + 50)) mL_law Qf (if y = y then 1388 else 1241, [some (.ref 2000), some (.ref 0), some (.ref 83), some (.int (nI i))], [], (SH, mkM I2 J2 T1), 118, 394190)
  rw [if_pos rfl]
  exact g S' I2 J2 T1 hS' c2 m2
set_option maxRecDepth 20000 in
theorem lw_case_26 {L d i : Nat} {xs : Nat → Int32} (hi : i + 7 ≤ L) (hL : L ≤ 3584) {S : St} (hS : PUR S) {I : Nat → Nat → Int32} {J : Nat → Nat → Int64} {T : Nat → Nat → Nat} (hc : CINV S I J T) (hm : MINV S I) (g : ∀ S' I' J' T', PUR S' → CINV S' I' J' T' → MINV S' I' → Go (some (L, xs)) aM (Ev mt aM (d + 50)) mL_law Qf (1388, [some (.ref 2000), some (.ref 0), some (.ref 83), some (.int (nI i))], [], (SH, mkM I' J' T'), 118, 394190)) : Go (some (L, xs)) aM (Ev mt aM (d + 50)) mL_law Qf (1243, [some (.ref 2000), some (.ref 0), some (.ref 83), some (.int (nI i))], [], (SH, mkM I J T), 118, 394190) := by
  obtain ⟨v, S', hk, hS', h1, h2⟩ := OPR.run (k := 1) (by omega) (by decide +kernel) (op_draw hS (xs (nI i + (1 : Int32)).toNatClampNeg) (xs (nI i + (2 : Int32)).toNatClampNeg)) hc hm
  obtain ⟨y, rfl⟩ := kv1 hk
  refine Go.of_run (Ev.mono _) 6 _ ?_
  refine ⟨vpx (j := 1) hi hL (by omega), ?_⟩
  show Go (some (L, xs)) aM (Ev mt aM (d + 50)) mL_law Qf (1249, [some (.ref 2000), some (.ref 0), some (.ref 83), some (.int (nI i))], [.int (xs (nI i + (1 : Int32)).toNatClampNeg), .ref 0], (SH, mkM I J T), 118, 394190)
  refine Go.of_run (Ev.mono _) 5 _ ?_
  refine ⟨vpx (j := 2) hi hL (by omega), ?_⟩
  show Go (some (L, xs)) aM (Ev mt aM (d + 50)) mL_law Qf (1254, [some (.ref 2000), some (.ref 0), some (.ref 83), some (.int (nI i))], [.int (xs (nI i + (2 : Int32)).toNatClampNeg), .int (xs (nI i + (1 : Int32)).toNatClampNeg), .ref 0], (SH, mkM I J T), 118, 394190)
  refine Go.of_run (Ev.mono _) 1 _ ?_
  refine ⟨Nat.le_of_ble_eq_true rfl, ?_⟩
  refine h1 d _ (fun I1 J1 T1 m1 c1 => ?_)
  show Go (some (L, xs)) aM (Ev mt aM (d + 50)) mL_law Qf (1257, [some (.ref 2000), some (.ref 0), some (.ref 83), some (.int (nI i))], [.int y], (SH, mkM I1 J1 T1), 118, 394190)
  refine Go.of_run (Ev.mono _) 6 _ ?_
  refine ⟨vpx (j := 1) hi hL (by omega), ?_⟩
  show Go (some (L, xs)) aM (Ev mt aM (d + 50)) mL_law Qf (1263, [some (.ref 2000), some (.ref 0), some (.ref 83), some (.int (nI i))], [.int (xs (nI i + (1 : Int32)).toNatClampNeg), .ref 83, .int y], (SH, mkM I1 J1 T1), 118, 394190)
  refine Go.of_run (Ev.mono _) 5 _ ?_
  refine ⟨vpx (j := 2) hi hL (by omega), ?_⟩
  show Go (some (L, xs)) aM (Ev mt aM (d + 50)) mL_law Qf (1268, [some (.ref 2000), some (.ref 0), some (.ref 83), some (.int (nI i))], [.int (xs (nI i + (2 : Int32)).toNatClampNeg), .int (xs (nI i + (1 : Int32)).toNatClampNeg), .ref 83, .int y], (SH, mkM I1 J1 T1), 118, 394190)
  refine Go.of_run (Ev.mono _) 1 _ ?_
  refine ⟨Nat.le_of_ble_eq_true rfl, ?_⟩
  refine h2 d I1 J1 T1 _ m1 c1 (fun I2 J2 c2 m2 => ?_)
  show Go (some (L, xs)) aM (Ev mt aM (d + 50)) mL_law Qf (1271, [some (.ref 2000), some (.ref 0), some (.ref 83), some (.int (nI i))], [.int y, .int y], (SH, mkM I2 J2 T1), 118, 394190)
  refine Go.of_run (Ev.mono _) 1 _ ?_
  show Go (some (L, xs)) aM (Ev mt aM (d + 50)) mL_law Qf (if y = y then 1388 else 1274, [some (.ref 2000), some (.ref 0), some (.ref 83), some (.int (nI i))], [], (SH, mkM I2 J2 T1), 118, 394190)
  rw [if_pos rfl]
  exact g S' I2 J2 T1 hS' c2 m2
set_option maxRecDepth 20000 in
theorem lw_case_27 {L d i : Nat} {xs : Nat → Int32} (hi : i + 7 ≤ L) (hL : L ≤ 3584) {S : St} (hS : PUR S) {I : Nat → Nat → Int32} {J : Nat → Nat → Int64} {T : Nat → Nat → Nat} (hc : CINV S I J T) (hm : MINV S I) (g : ∀ S' I' J' T', PUR S' → CINV S' I' J' T' → MINV S' I' → Go (some (L, xs)) aM (Ev mt aM (d + 50)) mL_law Qf (1388, [some (.ref 2000), some (.ref 0), some (.ref 83), some (.int (nI i))], [], (SH, mkM I' J' T'), 118, 394190)) : Go (some (L, xs)) aM (Ev mt aM (d + 50)) mL_law Qf (1276, [some (.ref 2000), some (.ref 0), some (.ref 83), some (.int (nI i))], [], (SH, mkM I J T), 118, 394190) := by
  obtain ⟨v, S', hk, hS', h1, h2⟩ := OPR.run (k := 1) (by omega) (by decide +kernel) (op_fresh hS (xs (nI i + (1 : Int32)).toNatClampNeg) (xs (nI i + (2 : Int32)).toNatClampNeg)) hc hm
  obtain ⟨y, rfl⟩ := kv1 hk
  refine Go.of_run (Ev.mono _) 6 _ ?_
  refine ⟨vpx (j := 1) hi hL (by omega), ?_⟩
  show Go (some (L, xs)) aM (Ev mt aM (d + 50)) mL_law Qf (1282, [some (.ref 2000), some (.ref 0), some (.ref 83), some (.int (nI i))], [.int (xs (nI i + (1 : Int32)).toNatClampNeg), .ref 0], (SH, mkM I J T), 118, 394190)
  refine Go.of_run (Ev.mono _) 5 _ ?_
  refine ⟨vpx (j := 2) hi hL (by omega), ?_⟩
  show Go (some (L, xs)) aM (Ev mt aM (d + 50)) mL_law Qf (1287, [some (.ref 2000), some (.ref 0), some (.ref 83), some (.int (nI i))], [.int (xs (nI i + (2 : Int32)).toNatClampNeg), .int (xs (nI i + (1 : Int32)).toNatClampNeg), .ref 0], (SH, mkM I J T), 118, 394190)
  refine Go.of_run (Ev.mono _) 1 _ ?_
  refine ⟨Nat.le_of_ble_eq_true rfl, ?_⟩
  refine h1 d _ (fun I1 J1 T1 m1 c1 => ?_)
  show Go (some (L, xs)) aM (Ev mt aM (d + 50)) mL_law Qf (1290, [some (.ref 2000), some (.ref 0), some (.ref 83), some (.int (nI i))], [.int y], (SH, mkM I1 J1 T1), 118, 394190)
  refine Go.of_run (Ev.mono _) 6 _ ?_
  refine ⟨vpx (j := 1) hi hL (by omega), ?_⟩
  show Go (some (L, xs)) aM (Ev mt aM (d + 50)) mL_law Qf (1296, [some (.ref 2000), some (.ref 0), some (.ref 83), some (.int (nI i))], [.int (xs (nI i + (1 : Int32)).toNatClampNeg), .ref 83, .int y], (SH, mkM I1 J1 T1), 118, 394190)
  refine Go.of_run (Ev.mono _) 5 _ ?_
  refine ⟨vpx (j := 2) hi hL (by omega), ?_⟩
  show Go (some (L, xs)) aM (Ev mt aM (d + 50)) mL_law Qf (1301, [some (.ref 2000), some (.ref 0), some (.ref 83), some (.int (nI i))], [.int (xs (nI i + (2 : Int32)).toNatClampNeg), .int (xs (nI i + (1 : Int32)).toNatClampNeg), .ref 83, .int y], (SH, mkM I1 J1 T1), 118, 394190)
  refine Go.of_run (Ev.mono _) 1 _ ?_
  refine ⟨Nat.le_of_ble_eq_true rfl, ?_⟩
  refine h2 d I1 J1 T1 _ m1 c1 (fun I2 J2 c2 m2 => ?_)
  show Go (some (L, xs)) aM (Ev mt aM (d + 50)) mL_law Qf (1304, [some (.ref 2000), some (.ref 0), some (.ref 83), some (.int (nI i))], [.int y, .int y], (SH, mkM I2 J2 T1), 118, 394190)
  refine Go.of_run (Ev.mono _) 1 _ ?_
  show Go (some (L, xs)) aM (Ev mt aM (d + 50)) mL_law Qf (if y = y then 1388 else 1307, [some (.ref 2000), some (.ref 0), some (.ref 83), some (.int (nI i))], [], (SH, mkM I2 J2 T1), 118, 394190)
  rw [if_pos rfl]
  exact g S' I2 J2 T1 hS' c2 m2
set_option maxRecDepth 20000 in
theorem lw_case_28 {L d i : Nat} {xs : Nat → Int32} (hi : i + 7 ≤ L) (hL : L ≤ 3584) {S : St} (hS : PUR S) {I : Nat → Nat → Int32} {J : Nat → Nat → Int64} {T : Nat → Nat → Nat} (hc : CINV S I J T) (hm : MINV S I) (g : ∀ S' I' J' T', PUR S' → CINV S' I' J' T' → MINV S' I' → Go (some (L, xs)) aM (Ev mt aM (d + 50)) mL_law Qf (1388, [some (.ref 2000), some (.ref 0), some (.ref 83), some (.int (nI i))], [], (SH, mkM I' J' T'), 118, 394190)) : Go (some (L, xs)) aM (Ev mt aM (d + 50)) mL_law Qf (1309, [some (.ref 2000), some (.ref 0), some (.ref 83), some (.int (nI i))], [], (SH, mkM I J T), 118, 394190) := by
  obtain ⟨v, S', hk, hS', h1, h2⟩ := OPR.run (k := 1) (by omega) (by decide +kernel) (op_season hS (xs (nI i + (1 : Int32)).toNatClampNeg) (xs (nI i + (2 : Int32)).toNatClampNeg)) hc hm
  obtain ⟨y, rfl⟩ := kv1 hk
  refine Go.of_run (Ev.mono _) 6 _ ?_
  refine ⟨vpx (j := 1) hi hL (by omega), ?_⟩
  show Go (some (L, xs)) aM (Ev mt aM (d + 50)) mL_law Qf (1315, [some (.ref 2000), some (.ref 0), some (.ref 83), some (.int (nI i))], [.int (xs (nI i + (1 : Int32)).toNatClampNeg), .ref 0], (SH, mkM I J T), 118, 394190)
  refine Go.of_run (Ev.mono _) 5 _ ?_
  refine ⟨vpx (j := 2) hi hL (by omega), ?_⟩
  show Go (some (L, xs)) aM (Ev mt aM (d + 50)) mL_law Qf (1320, [some (.ref 2000), some (.ref 0), some (.ref 83), some (.int (nI i))], [.int (xs (nI i + (2 : Int32)).toNatClampNeg), .int (xs (nI i + (1 : Int32)).toNatClampNeg), .ref 0], (SH, mkM I J T), 118, 394190)
  refine Go.of_run (Ev.mono _) 1 _ ?_
  refine ⟨Nat.le_of_ble_eq_true rfl, ?_⟩
  refine h1 d _ (fun I1 J1 T1 m1 c1 => ?_)
  show Go (some (L, xs)) aM (Ev mt aM (d + 50)) mL_law Qf (1323, [some (.ref 2000), some (.ref 0), some (.ref 83), some (.int (nI i))], [.int y], (SH, mkM I1 J1 T1), 118, 394190)
  refine Go.of_run (Ev.mono _) 6 _ ?_
  refine ⟨vpx (j := 1) hi hL (by omega), ?_⟩
  show Go (some (L, xs)) aM (Ev mt aM (d + 50)) mL_law Qf (1329, [some (.ref 2000), some (.ref 0), some (.ref 83), some (.int (nI i))], [.int (xs (nI i + (1 : Int32)).toNatClampNeg), .ref 83, .int y], (SH, mkM I1 J1 T1), 118, 394190)
  refine Go.of_run (Ev.mono _) 5 _ ?_
  refine ⟨vpx (j := 2) hi hL (by omega), ?_⟩
  show Go (some (L, xs)) aM (Ev mt aM (d + 50)) mL_law Qf (1334, [some (.ref 2000), some (.ref 0), some (.ref 83), some (.int (nI i))], [.int (xs (nI i + (2 : Int32)).toNatClampNeg), .int (xs (nI i + (1 : Int32)).toNatClampNeg), .ref 83, .int y], (SH, mkM I1 J1 T1), 118, 394190)
  refine Go.of_run (Ev.mono _) 1 _ ?_
  refine ⟨Nat.le_of_ble_eq_true rfl, ?_⟩
  refine h2 d I1 J1 T1 _ m1 c1 (fun I2 J2 c2 m2 => ?_)
  show Go (some (L, xs)) aM (Ev mt aM (d + 50)) mL_law Qf (1337, [some (.ref 2000), some (.ref 0), some (.ref 83), some (.int (nI i))], [.int y, .int y], (SH, mkM I2 J2 T1), 118, 394190)
  refine Go.of_run (Ev.mono _) 1 _ ?_
  show Go (some (L, xs)) aM (Ev mt aM (d + 50)) mL_law Qf (if y = y then 1388 else 1340, [some (.ref 2000), some (.ref 0), some (.ref 83), some (.int (nI i))], [], (SH, mkM I2 J2 T1), 118, 394190)
  rw [if_pos rfl]
  exact g S' I2 J2 T1 hS' c2 m2
set_option maxRecDepth 20000 in
theorem lw_case_29 {L d i : Nat} {xs : Nat → Int32} (hi : i + 7 ≤ L) (hL : L ≤ 3584) {S : St} (hS : PUR S) {I : Nat → Nat → Int32} {J : Nat → Nat → Int64} {T : Nat → Nat → Nat} (hc : CINV S I J T) (hm : MINV S I) (g : ∀ S' I' J' T', PUR S' → CINV S' I' J' T' → MINV S' I' → Go (some (L, xs)) aM (Ev mt aM (d + 50)) mL_law Qf (1388, [some (.ref 2000), some (.ref 0), some (.ref 83), some (.int (nI i))], [], (SH, mkM I' J' T'), 118, 394190)) : Go (some (L, xs)) aM (Ev mt aM (d + 50)) mL_law Qf (1342, [some (.ref 2000), some (.ref 0), some (.ref 83), some (.int (nI i))], [], (SH, mkM I J T), 118, 394190) := by
  obtain ⟨v, S', hk, hS', h1, h2⟩ := OPR.run (k := 1) (by omega) (by decide +kernel) (op_check hS (xs (nI i + (1 : Int32)).toNatClampNeg)) hc hm
  obtain ⟨y, rfl⟩ := kv1 hk
  refine Go.of_run (Ev.mono _) 6 _ ?_
  refine ⟨vpx (j := 1) hi hL (by omega), ?_⟩
  show Go (some (L, xs)) aM (Ev mt aM (d + 50)) mL_law Qf (1348, [some (.ref 2000), some (.ref 0), some (.ref 83), some (.int (nI i))], [.int (xs (nI i + (1 : Int32)).toNatClampNeg), .ref 0], (SH, mkM I J T), 118, 394190)
  refine Go.of_run (Ev.mono _) 1 _ ?_
  refine ⟨Nat.le_of_ble_eq_true rfl, ?_⟩
  refine h1 d _ (fun I1 J1 T1 m1 c1 => ?_)
  show Go (some (L, xs)) aM (Ev mt aM (d + 50)) mL_law Qf (1351, [some (.ref 2000), some (.ref 0), some (.ref 83), some (.int (nI i))], [.int y], (SH, mkM I1 J1 T1), 118, 394190)
  refine Go.of_run (Ev.mono _) 6 _ ?_
  refine ⟨vpx (j := 1) hi hL (by omega), ?_⟩
  show Go (some (L, xs)) aM (Ev mt aM (d + 50)) mL_law Qf (1357, [some (.ref 2000), some (.ref 0), some (.ref 83), some (.int (nI i))], [.int (xs (nI i + (1 : Int32)).toNatClampNeg), .ref 83, .int y], (SH, mkM I1 J1 T1), 118, 394190)
  refine Go.of_run (Ev.mono _) 1 _ ?_
  refine ⟨Nat.le_of_ble_eq_true rfl, ?_⟩
  refine h2 d I1 J1 T1 _ m1 c1 (fun I2 J2 c2 m2 => ?_)
  show Go (some (L, xs)) aM (Ev mt aM (d + 50)) mL_law Qf (1360, [some (.ref 2000), some (.ref 0), some (.ref 83), some (.int (nI i))], [.int y, .int y], (SH, mkM I2 J2 T1), 118, 394190)
  refine Go.of_run (Ev.mono _) 1 _ ?_
  show Go (some (L, xs)) aM (Ev mt aM (d + 50)) mL_law Qf (if y = y then 1388 else 1363, [some (.ref 2000), some (.ref 0), some (.ref 83), some (.int (nI i))], [], (SH, mkM I2 J2 T1), 118, 394190)
  rw [if_pos rfl]
  exact g S' I2 J2 T1 hS' c2 m2
set_option maxRecDepth 20000 in
theorem lw_case_30 {L d i : Nat} {xs : Nat → Int32} (hi : i + 7 ≤ L) (hL : L ≤ 3584) {S : St} (hS : PUR S) {I : Nat → Nat → Int32} {J : Nat → Nat → Int64} {T : Nat → Nat → Nat} (hc : CINV S I J T) (hm : MINV S I) (g : ∀ S' I' J' T', PUR S' → CINV S' I' J' T' → MINV S' I' → Go (some (L, xs)) aM (Ev mt aM (d + 50)) mL_law Qf (1388, [some (.ref 2000), some (.ref 0), some (.ref 83), some (.int (nI i))], [], (SH, mkM I' J' T'), 118, 394190)) : Go (some (L, xs)) aM (Ev mt aM (d + 50)) mL_law Qf (1365, [some (.ref 2000), some (.ref 0), some (.ref 83), some (.int (nI i))], [], (SH, mkM I J T), 118, 394190) := by
  obtain ⟨v, S', hk, hS', h1, h2⟩ := OPR.run (k := 1) (by omega) (by decide +kernel) (op_count hS (xs (nI i + (1 : Int32)).toNatClampNeg)) hc hm
  obtain ⟨y, rfl⟩ := kv1 hk
  refine Go.of_run (Ev.mono _) 6 _ ?_
  refine ⟨vpx (j := 1) hi hL (by omega), ?_⟩
  show Go (some (L, xs)) aM (Ev mt aM (d + 50)) mL_law Qf (1371, [some (.ref 2000), some (.ref 0), some (.ref 83), some (.int (nI i))], [.int (xs (nI i + (1 : Int32)).toNatClampNeg), .ref 0], (SH, mkM I J T), 118, 394190)
  refine Go.of_run (Ev.mono _) 1 _ ?_
  refine ⟨Nat.le_of_ble_eq_true rfl, ?_⟩
  refine h1 d _ (fun I1 J1 T1 m1 c1 => ?_)
  show Go (some (L, xs)) aM (Ev mt aM (d + 50)) mL_law Qf (1374, [some (.ref 2000), some (.ref 0), some (.ref 83), some (.int (nI i))], [.int y], (SH, mkM I1 J1 T1), 118, 394190)
  refine Go.of_run (Ev.mono _) 6 _ ?_
  refine ⟨vpx (j := 1) hi hL (by omega), ?_⟩
  show Go (some (L, xs)) aM (Ev mt aM (d + 50)) mL_law Qf (1380, [some (.ref 2000), some (.ref 0), some (.ref 83), some (.int (nI i))], [.int (xs (nI i + (1 : Int32)).toNatClampNeg), .ref 83, .int y], (SH, mkM I1 J1 T1), 118, 394190)
  refine Go.of_run (Ev.mono _) 1 _ ?_
  refine ⟨Nat.le_of_ble_eq_true rfl, ?_⟩
  refine h2 d I1 J1 T1 _ m1 c1 (fun I2 J2 c2 m2 => ?_)
  show Go (some (L, xs)) aM (Ev mt aM (d + 50)) mL_law Qf (1383, [some (.ref 2000), some (.ref 0), some (.ref 83), some (.int (nI i))], [.int y, .int y], (SH, mkM I2 J2 T1), 118, 394190)
  refine Go.of_run (Ev.mono _) 1 _ ?_
  show Go (some (L, xs)) aM (Ev mt aM (d + 50)) mL_law Qf (if y = y then 1388 else 1386, [some (.ref 2000), some (.ref 0), some (.ref 83), some (.int (nI i))], [], (SH, mkM I2 J2 T1), 118, 394190)
  rw [if_pos rfl]
  exact g S' I2 J2 T1 hS' c2 m2
