set_option maxRecDepth 20000 in
theorem mos_z {d : Nat} {st : Int32} {I : Nat → Nat → Int32} {J : Nat → Nat → Int64} {T : Nat → Nat → Nat} {Q : Option Value → Mem → Prop} (hyp : Q (some (.int (0 : Int32))) (SH, mkM I J T)) : Go none aM (Ev mt aM (d + 1)) mX6_most Q (0, [some (.ref 81), some (.int (0 : Int32)), some (.int st), none, none, none], [], (SH, mkM I J T), 0, 0) := by
  refine Go.of_run (Ev.mono _) 2 _ ?_
  show Go none aM (Ev mt aM (d + 1)) mX6_most Q (if (0 : Int32) ≤ 0 then 10 else 4, [some (.ref 81), some (.int (0 : Int32)), some (.int st), none, none, none], [], (SH, mkM I J T), 0, 0)
  rw [if_pos (by decide : (0 : Int32) ≤ 0)]
  refine Go.of_run (Ev.mono _) 2 _ ?_
  refine ⟨trivial, ?_⟩
  show Q (some (.int (0 : Int32))) (SH, mkM I J T)
  exact hyp
set_option maxRecDepth 20000 in
theorem mos_0 {d : Nat} {l st : Int32} {I : Nat → Nat → Int32} {J : Nat → Nat → Int64} {T : Nat → Nat → Nat} {Q : Option Value → Mem → Prop} (h1 : ¬ l ≤ 0) (h2 : l ≤ (8 : Int32)) (h3 : ¬ (8 : Int32) ≤ l) (hyp : (vp_in st 1024 ∧ (((((v_X5_longAt_82 st J) >>> (((9 : Int32) * (l - (1 : Int32))).toInt64 &&& 63)).toInt32) &&& (511 : Int32) = 0 → Ev mt aM (d + 1) 66 [.ref 81, .int l, .int st] (SH, mkM I J T) (fun r m1 => Go none aM (Ev mt aM (d + 1)) mX6_most Q (69, [some (.ref 81), some (.int l), some (.int st), some (.int (1 : Int32)), some (.int ((9 : Int32) * (l - (1 : Int32)))), some (.int ((((v_X5_longAt_82 st J) >>> (((9 : Int32) * (l - (1 : Int32))).toInt64 &&& 63)).toInt32) &&& (511 : Int32)))], r.toList ++ [], m1, 0, 0))) ∧ ((¬ ((((v_X5_longAt_82 st J) >>> (((9 : Int32) * (l - (1 : Int32))).toInt64 &&& 63)).toInt32) &&& (511 : Int32) = 0)) → Q (some (.int (((((v_X5_longAt_82 st J) >>> (((9 : Int32) * (l - (1 : Int32))).toInt64 &&& 63)).toInt32) &&& (511 : Int32)) - (1 : Int32)))) (SH, mkM I J T))))) : Go none aM (Ev mt aM (d + 1)) mX6_most Q (0, [some (.ref 81), some (.int l), some (.int st), none, none, none], [], (SH, mkM I J T), 0, 0) := by
  refine Go.of_run (Ev.mono _) 2 _ ?_
  show Go none aM (Ev mt aM (d + 1)) mX6_most Q (if l ≤ 0 then 10 else 4, [some (.ref 81), some (.int l), some (.int st), none, none, none], [], (SH, mkM I J T), 0, 0)
  rw [if_neg h1]
  refine Go.of_run (Ev.mono _) 3 _ ?_
  show Go none aM (Ev mt aM (d + 1)) mX6_most Q (if l ≤ (8 : Int32) then 12 else 10, [some (.ref 81), some (.int l), some (.int st), none, none, none], [], (SH, mkM I J T), 0, 0)
  rw [if_pos h2]
  refine Go.of_run (Ev.mono _) 3 _ ?_
  show Go none aM (Ev mt aM (d + 1)) mX6_most Q (if (8 : Int32) ≤ l then 22 else 18, [some (.ref 81), some (.int l), some (.int st), none, none, none], [], (SH, mkM I J T), 0, 0)
  rw [if_neg h3]
  refine Go.of_run (Ev.mono _) 11 _ ?_
  show Go none aM (Ev mt aM (d + 1)) mX6_most Q (if (1 : Int32) = 0 then 55 else 36, [some (.ref 81), some (.int l), some (.int st), some (.int (1 : Int32)), some (.int ((9 : Int32) * (l - (1 : Int32)))), none], [], (SH, mkM I J T), 0, 0)
  rw [if_neg (by decide : ¬ ((1 : Int32) = 0))]
  refine Go.of_run (Ev.mono _) 4 _ ?_
  refine ⟨Nat.le_of_ble_eq_true rfl, ev_X5_longAt_82 hyp.1 ?_⟩
  show Go none aM (Ev mt aM (d + 1)) mX6_most Q (44, [some (.ref 81), some (.int l), some (.int st), some (.int (1 : Int32)), some (.int ((9 : Int32) * (l - (1 : Int32)))), none], [.long (v_X5_longAt_82 st J)], (SH, mkM I J T), 0, 0)
  refine Go.of_run (Ev.mono _) 9 _ ?_
  show Go none aM (Ev mt aM (d + 1)) mX6_most Q (if (((v_X5_longAt_82 st J) >>> (((9 : Int32) * (l - (1 : Int32))).toInt64 &&& 63)).toInt32) &&& (511 : Int32) = 0 then 63 else 100, [some (.ref 81), some (.int l), some (.int st), some (.int (1 : Int32)), some (.int ((9 : Int32) * (l - (1 : Int32)))), some (.int ((((v_X5_longAt_82 st J) >>> (((9 : Int32) * (l - (1 : Int32))).toInt64 &&& 63)).toInt32) &&& (511 : Int32)))], [], (SH, mkM I J T), 0, 0)
  rcases Decidable.em ((((v_X5_longAt_82 st J) >>> (((9 : Int32) * (l - (1 : Int32))).toInt64 &&& 63)).toInt32) &&& (511 : Int32) = 0) with c1 | c1
  · rw [if_pos c1]
    refine Go.of_run (Ev.mono _) 4 _ ?_
    refine ⟨Nat.le_of_ble_eq_true rfl, (hyp.2.1 c1)⟩
  · rw [if_neg c1]
    refine Go.of_run (Ev.mono _) 4 _ ?_
    refine ⟨trivial, ?_⟩
    show Q (some (.int (((((v_X5_longAt_82 st J) >>> (((9 : Int32) * (l - (1 : Int32))).toInt64 &&& 63)).toInt32) &&& (511 : Int32)) - (1 : Int32)))) (SH, mkM I J T)
    exact (hyp.2.2 c1)
set_option maxRecDepth 20000 in
theorem ev_X5_putLong_82 {d : Nat} {a1 : Int32} {a2 : Int64} {I : Nat → Nat → Int32} {J : Nat → Nat → Int64} {T : Nat → Nat → Nat} {Q : Option Value → Mem → Prop} (h1 : vp_in a1 1024) (h : Q none (SH, mkM I (sj J 82 a1.toNatClampNeg a2) T)) : Ev mt aM (d + 1) 58 [.ref 82, .int a1, .long a2] (SH, mkM I J T) Q := by
  refine Ev.intro mX5_putLong rfl rfl ?_
  show Go none aM (Ev mt aM d) mX5_putLong Q (0, [some (.ref 82), some (.int a1), some (.long a2), none], [], (SH, mkM I J T), 0, 0)
  refine Go.of_run (Ev.mono _) 4 _ ?_
  show Go none aM (Ev mt aM d) mX5_putLong Q (if a1 < 0 then 18 else 8, [some (.ref 82), some (.int a1), some (.long a2), none], [], (SH, mkM I J T), 0, 0)
  rw [if_neg (vin_lo h1)]
  refine Go.of_run (Ev.mono _) 4 _ ?_
  show Go none aM (Ev mt aM d) mX5_putLong Q (if (1024 : Int32) ≤ a1 then 18 else 14, [some (.ref 82), some (.int a1), some (.long a2), none], [], (SH, mkM I J T), 0, 0)
  rw [if_neg (vin_hi h1 rfl)]
  refine Go.of_run (Ev.mono _) 4 _ ?_
  refine ⟨h1, ?_⟩
  refine go_sj rfl ?_
  show Go none aM (Ev mt aM d) mX5_putLong Q (18, [some (.ref 82), some (.int a1), some (.long a2), none], [], (SH, mkM I (sj J 82 a1.toNatClampNeg a2) T), 0, 0)
  refine Go.of_run (Ev.mono _) 1 _ ?_
  refine ⟨trivial, ?_⟩
  show Q none (SH, mkM I (sj J 82 a1.toNatClampNeg a2) T)
  exact h
set_option maxRecDepth 20000 in
theorem mos_69 {d : Nat} {l st sh kn v : Int32} {I : Nat → Nat → Int32} {J : Nat → Nat → Int64} {T : Nat → Nat → Nat} {Q : Option Value → Mem → Prop} (hyp : (vp_in st 1024 ∧ (vp_in st 1024 ∧ Q (some (.int ((v + (1 : Int32)) - (1 : Int32)))) (SH, mkM I (sj J 82 st.toNatClampNeg ((v_X5_longAt_82 st J) ||| (((v + (1 : Int32)).toInt64) <<< (sh.toInt64 &&& 63)))) T)))) : Go none aM (Ev mt aM (d + 1)) mX6_most Q (69, [some (.ref 81), some (.int l), some (.int st), some (.int (1 : Int32)), some (.int sh), some (.int kn)], [.int v], (SH, mkM I J T), 0, 0) := by
  refine Go.of_run (Ev.mono _) 5 _ ?_
  show Go none aM (Ev mt aM (d + 1)) mX6_most Q (if (1 : Int32) = 0 then 100 else 77, [some (.ref 81), some (.int l), some (.int st), some (.int (1 : Int32)), some (.int sh), some (.int (v + (1 : Int32)))], [], (SH, mkM I J T), 0, 0)
  rw [if_neg (by decide : ¬ ((1 : Int32) = 0))]
  refine Go.of_run (Ev.mono _) 7 _ ?_
  refine ⟨Nat.le_of_ble_eq_true rfl, ev_X5_longAt_82 hyp.1 ?_⟩
  show Go none aM (Ev mt aM (d + 1)) mX6_most Q (90, [some (.ref 81), some (.int l), some (.int st), some (.int (1 : Int32)), some (.int sh), some (.int (v + (1 : Int32)))], [.long (v_X5_longAt_82 st J), .int st, .ref 82], (SH, mkM I J T), 0, 0)
  refine Go.of_run (Ev.mono _) 6 _ ?_
  refine ⟨Nat.le_of_ble_eq_true rfl, ev_X5_putLong_82 hyp.2.1 ?_⟩
  show Go none aM (Ev mt aM (d + 1)) mX6_most Q (100, [some (.ref 81), some (.int l), some (.int st), some (.int (1 : Int32)), some (.int sh), some (.int (v + (1 : Int32)))], [], (SH, mkM I (sj J 82 st.toNatClampNeg ((v_X5_longAt_82 st J) ||| (((v + (1 : Int32)).toInt64) <<< (sh.toInt64 &&& 63)))) T), 0, 0)
  refine Go.of_run (Ev.mono _) 4 _ ?_
  refine ⟨trivial, ?_⟩
  show Q (some (.int ((v + (1 : Int32)) - (1 : Int32)))) (SH, mkM I (sj J 82 st.toNatClampNeg ((v_X5_longAt_82 st J) ||| (((v + (1 : Int32)).toInt64) <<< (sh.toInt64 &&& 63)))) T)
  exact hyp.2.2
set_option maxRecDepth 20000 in
theorem mos_8 {d : Nat} {st : Int32} {I : Nat → Nat → Int32} {J : Nat → Nat → Int64} {T : Nat → Nat → Nat} {Q : Option Value → Mem → Prop} (hyp : Ev mt aM (d + 1) 66 [.ref 81, .int (8 : Int32), .int st] (SH, mkM I J T) (fun r m1 => Go none aM (Ev mt aM (d + 1)) mX6_most Q (69, [some (.ref 81), some (.int (8 : Int32)), some (.int st), some (.int (0 : Int32)), some (.int (63 : Int32)), some (.int (0 : Int32))], r.toList ++ [], m1, 0, 0))) : Go none aM (Ev mt aM (d + 1)) mX6_most Q (0, [some (.ref 81), some (.int (8 : Int32)), some (.int st), none, none, none], [], (SH, mkM I J T), 0, 0) := by
  refine Go.of_run (Ev.mono _) 2 _ ?_
  show Go none aM (Ev mt aM (d + 1)) mX6_most Q (if (8 : Int32) ≤ 0 then 10 else 4, [some (.ref 81), some (.int (8 : Int32)), some (.int st), none, none, none], [], (SH, mkM I J T), 0, 0)
  rw [if_neg (by decide : ¬ ((8 : Int32) ≤ 0))]
  refine Go.of_run (Ev.mono _) 3 _ ?_
  show Go none aM (Ev mt aM (d + 1)) mX6_most Q (if (8 : Int32) ≤ (8 : Int32) then 12 else 10, [some (.ref 81), some (.int (8 : Int32)), some (.int st), none, none, none], [], (SH, mkM I J T), 0, 0)
  rw [if_pos (by decide : (8 : Int32) ≤ (8 : Int32))]
  refine Go.of_run (Ev.mono _) 3 _ ?_
  show Go none aM (Ev mt aM (d + 1)) mX6_most Q (if (8 : Int32) ≤ (8 : Int32) then 22 else 18, [some (.ref 81), some (.int (8 : Int32)), some (.int st), none, none, none], [], (SH, mkM I J T), 0, 0)
  rw [if_pos (by decide : (8 : Int32) ≤ (8 : Int32))]
  refine Go.of_run (Ev.mono _) 10 _ ?_
  show Go none aM (Ev mt aM (d + 1)) mX6_most Q (if (0 : Int32) = 0 then 55 else 36, [some (.ref 81), some (.int (8 : Int32)), some (.int st), some (.int (0 : Int32)), some (.int (63 : Int32)), none], [], (SH, mkM I J T), 0, 0)
  rw [if_pos (by decide : (0 : Int32) = 0)]
  refine Go.of_run (Ev.mono _) 4 _ ?_
  show Go none aM (Ev mt aM (d + 1)) mX6_most Q (if (0 : Int32) = 0 then 63 else 100, [some (.ref 81), some (.int (8 : Int32)), some (.int st), some (.int (0 : Int32)), some (.int (63 : Int32)), some (.int (0 : Int32))], [], (SH, mkM I J T), 0, 0)
  rw [if_pos (by decide : (0 : Int32) = 0)]
  refine Go.of_run (Ev.mono _) 4 _ ?_
  refine ⟨Nat.le_of_ble_eq_true rfl, hyp⟩
set_option maxRecDepth 20000 in
theorem mos_89 {d : Nat} {l st sh kn v : Int32} {I : Nat → Nat → Int32} {J : Nat → Nat → Int64} {T : Nat → Nat → Nat} {Q : Option Value → Mem → Prop} (hyp : Q (some (.int ((v + (1 : Int32)) - (1 : Int32)))) (SH, mkM I J T)) : Go none aM (Ev mt aM (d + 1)) mX6_most Q (69, [some (.ref 81), some (.int l), some (.int st), some (.int (0 : Int32)), some (.int sh), some (.int kn)], [.int v], (SH, mkM I J T), 0, 0) := by
  refine Go.of_run (Ev.mono _) 5 _ ?_
  show Go none aM (Ev mt aM (d + 1)) mX6_most Q (if (0 : Int32) = 0 then 100 else 77, [some (.ref 81), some (.int l), some (.int st), some (.int (0 : Int32)), some (.int sh), some (.int (v + (1 : Int32)))], [], (SH, mkM I J T), 0, 0)
  rw [if_pos (by decide : (0 : Int32) = 0)]
  refine Go.of_run (Ev.mono _) 4 _ ?_
  refine ⟨trivial, ?_⟩
  show Q (some (.int ((v + (1 : Int32)) - (1 : Int32)))) (SH, mkM I J T)
  exact hyp
set_option maxRecDepth 20000 in
theorem srh_0 {d : Nat} {l st : Int32} {I : Nat → Nat → Int32} {J : Nat → Nat → Int64} {T : Nat → Nat → Nat} {Q : Option Value → Mem → Prop} (hyp : Go none aM (Ev mt aM (d + 1)) mX6_search Q (5, [some (.ref 81), some (.int l), some (.int st), some (.int (0 : Int32)), some (.int (0 : Int32))], [], (SH, mkM I J T), 0, 0)) : Go none aM (Ev mt aM (d + 1)) mX6_search Q (0, [some (.ref 81), some (.int l), some (.int st), none, none], [], (SH, mkM I J T), 0, 0) := by
  refine Go.of_run (Ev.mono _) 4 _ ?_
  exact hyp
set_option maxRecDepth 20000 in
theorem srh_5 {d : Nat} {l st g row : Int32} {I : Nat → Nat → Int32} {J : Nat → Nat → Int64} {T : Nat → Nat → Nat} {Q : Option Value → Mem → Prop} (hyp : (((25 : Int32) ≤ row → Q (some (.int g)) (SH, mkM I J T)) ∧ ((¬ ((25 : Int32) ≤ row)) → ((v_X6_isRow row = 0 → Go none aM (Ev mt aM (d + 1)) mX6_search Q (5, [some (.ref 81), some (.int l), some (.int st), some (.int g), some (.int (row + 1))], [], (SH, mkM I J T), 0, 0)) ∧ ((¬ (v_X6_isRow row = 0)) → Ev mt aM (d + 1) 69 [.ref 81, .int l, .int st, .int row] (SH, mkM I J T) (fun r m1 => Go none aM (Ev mt aM (d + 1)) mX6_search Q (29, [some (.ref 81), some (.int l), some (.int st), some (.int g), some (.int row)], r.toList ++ [.int g], m1, 0, 0))))))) : Go none aM (Ev mt aM (d + 1)) mX6_search Q (5, [some (.ref 81), some (.int l), some (.int st), some (.int g), some (.int row)], [], (SH, mkM I J T), 0, 0) := by
  refine Go.of_run (Ev.mono _) 3 _ ?_
  show Go none aM (Ev mt aM (d + 1)) mX6_search Q (if (25 : Int32) ≤ row then 39 else 12, [some (.ref 81), some (.int l), some (.int st), some (.int g), some (.int row)], [], (SH, mkM I J T), 0, 0)
  rcases Decidable.em ((25 : Int32) ≤ row) with c1 | c1
  · rw [if_pos c1]
    refine Go.of_run (Ev.mono _) 2 _ ?_
    refine ⟨trivial, ?_⟩
    show Q (some (.int g)) (SH, mkM I J T)
    exact (hyp.1 c1)
  · rw [if_neg c1]
    refine Go.of_run (Ev.mono _) 2 _ ?_
    refine ⟨Nat.le_of_ble_eq_true rfl, ev_X6_isRow ?_⟩
    show Go none aM (Ev mt aM (d + 1)) mX6_search Q (17, [some (.ref 81), some (.int l), some (.int st), some (.int g), some (.int row)], [.int (v_X6_isRow row)], (SH, mkM I J T), 0, 0)
    refine Go.of_run (Ev.mono _) 1 _ ?_
    show Go none aM (Ev mt aM (d + 1)) mX6_search Q (if v_X6_isRow row = 0 then 33 else 20, [some (.ref 81), some (.int l), some (.int st), some (.int g), some (.int row)], [], (SH, mkM I J T), 0, 0)
    rcases Decidable.em (v_X6_isRow row = 0) with c2 | c2
    · rw [if_pos c2]
      refine Go.of_run (Ev.mono _) 2 _ ?_
      exact ((hyp.2 c1).1 c2)
    · rw [if_neg c2]
      refine Go.of_run (Ev.mono _) 6 _ ?_
      refine ⟨Nat.le_of_ble_eq_true rfl, ((hyp.2 c1).2 c2)⟩
set_option maxRecDepth 20000 in
theorem srh_29 {d : Nat} {l st g row v : Int32} {I : Nat → Nat → Int32} {J : Nat → Nat → Int64} {T : Nat → Nat → Nat} {Q : Option Value → Mem → Prop} (hyp : Go none aM (Ev mt aM (d + 1)) mX6_search Q (5, [some (.ref 81), some (.int l), some (.int st), some (.int (if g < v then v else g)), some (.int (row + 1))], [], (SH, mkM I J T), 0, 0)) : Go none aM (Ev mt aM (d + 1)) mX6_search Q (29, [some (.ref 81), some (.int l), some (.int st), some (.int g), some (.int row)], [.int v, .int g], (SH, mkM I J T), 0, 0) := by
  refine Go.of_run (Ev.mono _) 1 _ ?_
  refine ⟨Nat.le_of_ble_eq_true rfl, ?_⟩
  show Go none aM (Ev mt aM (d + 1)) mX6_search Q (32, [some (.ref 81), some (.int l), some (.int st), some (.int g), some (.int row)], [.int (if g < v then v else g)], (SH, mkM I J T), 0, 0)
  refine Go.of_run (Ev.mono _) 3 _ ?_
  exact hyp
set_option maxRecDepth 20000 in
theorem wor_0 {d : Nat} {l st row : Int32} {I : Nat → Nat → Int32} {J : Nat → Nat → Int64} {T : Nat → Nat → Nat} {Q : Option Value → Mem → Prop} (hyp : (vp_in (((2 : Int32) * (row / (5 : Int32))) + (0 : Int32)) 10 ∧ (vp_in (((2 : Int32) * (row - row / (5 : Int32) * (5 : Int32))) + (1 : Int32)) 10 ∧ (vp_in (((5 : Int32) * (row / (5 : Int32))) + (row - row / (5 : Int32) * (5 : Int32))) 25 ∧ Ev mt aM (d + 2) 65 [.ref 81, .int (l - (1 : Int32)), .int (v_X6_next st row)] (SH, mkM I J T) (fun r m1 => Go none aM (Ev mt aM (d + 2)) mX6_worthOf Q (77, [some (.ref 81), some (.int l), some (.int st), some (.int row), some (.int (row / (5 : Int32))), some (.int (row - row / (5 : Int32) * (5 : Int32))), some (.int ((((v_X7_goodAt (row / (5 : Int32)) (0 : Int32) I) * ((st >>> (((2 : Int32) * (row / (5 : Int32))) &&& 31)) &&& (3 : Int32))) + ((v_X7_goodAt (row - row / (5 : Int32) * (5 : Int32)) (1 : Int32) I) * ((st >>> (((2 : Int32) * (row - row / (5 : Int32) * (5 : Int32))) &&& 31)) &&& (3 : Int32)))) + (v_X7_pairOf (row / (5 : Int32)) (row - row / (5 : Int32) * (5 : Int32)) I)))], r.toList ++ [.int ((((v_X7_goodAt (row / (5 : Int32)) (0 : Int32) I) * ((st >>> (((2 : Int32) * (row / (5 : Int32))) &&& 31)) &&& (3 : Int32))) + ((v_X7_goodAt (row - row / (5 : Int32) * (5 : Int32)) (1 : Int32) I) * ((st >>> (((2 : Int32) * (row - row / (5 : Int32) * (5 : Int32))) &&& 31)) &&& (3 : Int32)))) + (v_X7_pairOf (row / (5 : Int32)) (row - row / (5 : Int32) * (5 : Int32)) I))], m1, 0, 0)))))) : Go none aM (Ev mt aM (d + 2)) mX6_worthOf Q (0, [some (.ref 81), some (.int l), some (.int st), some (.int row), none, none, none], [], (SH, mkM I J T), 0, 0) := by
  refine Go.of_run (Ev.mono _) 3 _ ?_
  refine ⟨(by decide : ¬ (5 : Int32) = 0), ?_⟩
  show Go none aM (Ev mt aM (d + 2)) mX6_worthOf Q (3, [some (.ref 81), some (.int l), some (.int st), some (.int row), none, none, none], [.int (row / (5 : Int32))], (SH, mkM I J T), 0, 0)
  refine Go.of_run (Ev.mono _) 4 _ ?_
  refine ⟨(by decide : ¬ (5 : Int32) = 0), ?_⟩
  show Go none aM (Ev mt aM (d + 2)) mX6_worthOf Q (8, [some (.ref 81), some (.int l), some (.int st), some (.int row), some (.int (row / (5 : Int32))), none, none], [.int (row - row / (5 : Int32) * (5 : Int32))], (SH, mkM I J T), 0, 0)
  refine Go.of_run (Ev.mono _) 6 _ ?_
  refine ⟨Nat.le_of_ble_eq_true rfl, ev_X7_goodAt hyp.1 ?_⟩
  show Go none aM (Ev mt aM (d + 2)) mX6_worthOf Q (20, [some (.ref 81), some (.int l), some (.int st), some (.int row), some (.int (row / (5 : Int32))), some (.int (row - row / (5 : Int32) * (5 : Int32))), none], [.int (v_X7_goodAt (row / (5 : Int32)) (0 : Int32) I)], (SH, mkM I J T), 0, 0)
  refine Go.of_run (Ev.mono _) 13 _ ?_
  refine ⟨Nat.le_of_ble_eq_true rfl, ev_X7_goodAt hyp.2.1 ?_⟩
  show Go none aM (Ev mt aM (d + 2)) mX6_worthOf Q (39, [some (.ref 81), some (.int l), some (.int st), some (.int row), some (.int (row / (5 : Int32))), some (.int (row - row / (5 : Int32) * (5 : Int32))), none], [.int (v_X7_goodAt (row - row / (5 : Int32) * (5 : Int32)) (1 : Int32) I), .int ((v_X7_goodAt (row / (5 : Int32)) (0 : Int32) I) * ((st >>> (((2 : Int32) * (row / (5 : Int32))) &&& 31)) &&& (3 : Int32)))], (SH, mkM I J T), 0, 0)
  refine Go.of_run (Ev.mono _) 14 _ ?_
  refine ⟨Nat.le_of_ble_eq_true rfl, ev_X7_pairOf hyp.2.2.1 ?_⟩
  show Go none aM (Ev mt aM (d + 2)) mX6_worthOf Q (60, [some (.ref 81), some (.int l), some (.int st), some (.int row), some (.int (row / (5 : Int32))), some (.int (row - row / (5 : Int32) * (5 : Int32))), none], [.int (v_X7_pairOf (row / (5 : Int32)) (row - row / (5 : Int32) * (5 : Int32)) I), .int (((v_X7_goodAt (row / (5 : Int32)) (0 : Int32) I) * ((st >>> (((2 : Int32) * (row / (5 : Int32))) &&& 31)) &&& (3 : Int32))) + ((v_X7_goodAt (row - row / (5 : Int32) * (5 : Int32)) (1 : Int32) I) * ((st >>> (((2 : Int32) * (row - row / (5 : Int32) * (5 : Int32))) &&& 31)) &&& (3 : Int32))))], (SH, mkM I J T), 0, 0)
  refine Go.of_run (Ev.mono _) 10 _ ?_
  refine ⟨Nat.le_of_ble_eq_true rfl, ev_X6_next ?_⟩
  show Go none aM (Ev mt aM (d + 2)) mX6_worthOf Q (74, [some (.ref 81), some (.int l), some (.int st), some (.int row), some (.int (row / (5 : Int32))), some (.int (row - row / (5 : Int32) * (5 : Int32))), some (.int ((((v_X7_goodAt (row / (5 : Int32)) (0 : Int32) I) * ((st >>> (((2 : Int32) * (row / (5 : Int32))) &&& 31)) &&& (3 : Int32))) + ((v_X7_goodAt (row - row / (5 : Int32) * (5 : Int32)) (1 : Int32) I) * ((st >>> (((2 : Int32) * (row - row / (5 : Int32) * (5 : Int32))) &&& 31)) &&& (3 : Int32)))) + (v_X7_pairOf (row / (5 : Int32)) (row - row / (5 : Int32) * (5 : Int32)) I)))], [.int (v_X6_next st row), .int (l - (1 : Int32)), .ref 81, .int ((((v_X7_goodAt (row / (5 : Int32)) (0 : Int32) I) * ((st >>> (((2 : Int32) * (row / (5 : Int32))) &&& 31)) &&& (3 : Int32))) + ((v_X7_goodAt (row - row / (5 : Int32) * (5 : Int32)) (1 : Int32) I) * ((st >>> (((2 : Int32) * (row - row / (5 : Int32) * (5 : Int32))) &&& 31)) &&& (3 : Int32)))) + (v_X7_pairOf (row / (5 : Int32)) (row - row / (5 : Int32) * (5 : Int32)) I))], (SH, mkM I J T), 0, 0)
  refine Go.of_run (Ev.mono _) 1 _ ?_
  refine ⟨Nat.le_of_ble_eq_true rfl, hyp.2.2.2⟩
set_option maxRecDepth 20000 in
theorem wor_e {d : Nat} {l st row a b w v : Int32} {I : Nat → Nat → Int32} {J : Nat → Nat → Int64} {T : Nat → Nat → Nat} {Q : Option Value → Mem → Prop} (hyp : Q (some (.int (w + v))) (SH, mkM I J T)) : Go none aM (Ev mt aM (d + 2)) mX6_worthOf Q (77, [some (.ref 81), some (.int l), some (.int st), some (.int row), some (.int a), some (.int b), some (.int w)], [.int v, .int w], (SH, mkM I J T), 0, 0) := by
  refine Go.of_run (Ev.mono _) 2 _ ?_
  refine ⟨trivial, ?_⟩
  show Q (some (.int (w + v))) (SH, mkM I J T)
  exact hyp
set_option maxRecDepth 20000 in
theorem lea_0 {d : Nat} {l st : Int32} {I : Nat → Nat → Int32} {J : Nat → Nat → Int64} {T : Nat → Nat → Nat} {Q : Option Value → Mem → Prop} (hyp : Ev mt aM (d + 1) 65 [.ref 81, .int l, .int st] (SH, mkM I J T) (fun r m1 => Go none aM (Ev mt aM (d + 1)) mX6_leastRow Q (6, [some (.ref 81), some (.int l), some (.int st), none, none], r.toList ++ [], m1, 0, 0))) : Go none aM (Ev mt aM (d + 1)) mX6_leastRow Q (0, [some (.ref 81), some (.int l), some (.int st), none, none], [], (SH, mkM I J T), 0, 0) := by
  refine Go.of_run (Ev.mono _) 4 _ ?_
  refine ⟨Nat.le_of_ble_eq_true rfl, hyp⟩
set_option maxRecDepth 20000 in
theorem lea_6 {d : Nat} {l st v : Int32} {I : Nat → Nat → Int32} {J : Nat → Nat → Int64} {T : Nat → Nat → Nat} {Q : Option Value → Mem → Prop} (hyp : Go none aM (Ev mt aM (d + 1)) mX6_leastRow Q (10, [some (.ref 81), some (.int l), some (.int st), some (.int v), some (.int (0 : Int32))], [], (SH, mkM I J T), 0, 0)) : Go none aM (Ev mt aM (d + 1)) mX6_leastRow Q (6, [some (.ref 81), some (.int l), some (.int st), none, none], [.int v], (SH, mkM I J T), 0, 0) := by
  refine Go.of_run (Ev.mono _) 3 _ ?_
  exact hyp
set_option maxRecDepth 20000 in
theorem lea_10 {d : Nat} {l st due row : Int32} {I : Nat → Nat → Int32} {J : Nat → Nat → Int64} {T : Nat → Nat → Nat} {Q : Option Value → Mem → Prop} (hyp : (((25 : Int32) ≤ row → Q (some (.int (-1 : Int32))) (SH, mkM I J T)) ∧ ((¬ ((25 : Int32) ≤ row)) → ((v_X6_isRow row = 0 → Go none aM (Ev mt aM (d + 1)) mX6_leastRow Q (10, [some (.ref 81), some (.int l), some (.int st), some (.int due), some (.int (row + 1))], [], (SH, mkM I J T), 0, 0)) ∧ ((¬ (v_X6_isRow row = 0)) → Ev mt aM (d + 1) 69 [.ref 81, .int l, .int st, .int row] (SH, mkM I J T) (fun r m1 => Go none aM (Ev mt aM (d + 1)) mX6_leastRow Q (33, [some (.ref 81), some (.int l), some (.int st), some (.int due), some (.int row)], r.toList ++ [], m1, 0, 0))))))) : Go none aM (Ev mt aM (d + 1)) mX6_leastRow Q (10, [some (.ref 81), some (.int l), some (.int st), some (.int due), some (.int row)], [], (SH, mkM I J T), 0, 0) := by
  refine Go.of_run (Ev.mono _) 3 _ ?_
  show Go none aM (Ev mt aM (d + 1)) mX6_leastRow Q (if (25 : Int32) ≤ row then 46 else 17, [some (.ref 81), some (.int l), some (.int st), some (.int due), some (.int row)], [], (SH, mkM I J T), 0, 0)
  rcases Decidable.em ((25 : Int32) ≤ row) with c1 | c1
  · rw [if_pos c1]
    refine Go.of_run (Ev.mono _) 2 _ ?_
    refine ⟨trivial, ?_⟩
    show Q (some (.int (-1 : Int32))) (SH, mkM I J T)
    exact (hyp.1 c1)
  · rw [if_neg c1]
    refine Go.of_run (Ev.mono _) 2 _ ?_
    refine ⟨Nat.le_of_ble_eq_true rfl, ev_X6_isRow ?_⟩
    show Go none aM (Ev mt aM (d + 1)) mX6_leastRow Q (22, [some (.ref 81), some (.int l), some (.int st), some (.int due), some (.int row)], [.int (v_X6_isRow row)], (SH, mkM I J T), 0, 0)
    refine Go.of_run (Ev.mono _) 1 _ ?_
    show Go none aM (Ev mt aM (d + 1)) mX6_leastRow Q (if v_X6_isRow row = 0 then 40 else 25, [some (.ref 81), some (.int l), some (.int st), some (.int due), some (.int row)], [], (SH, mkM I J T), 0, 0)
    rcases Decidable.em (v_X6_isRow row = 0) with c2 | c2
    · rw [if_pos c2]
      refine Go.of_run (Ev.mono _) 2 _ ?_
      exact ((hyp.2 c1).1 c2)
    · rw [if_neg c2]
      refine Go.of_run (Ev.mono _) 5 _ ?_
      refine ⟨Nat.le_of_ble_eq_true rfl, ((hyp.2 c1).2 c2)⟩
set_option maxRecDepth 20000 in
theorem lea_33 {d : Nat} {l st due row v : Int32} {I : Nat → Nat → Int32} {J : Nat → Nat → Int64} {T : Nat → Nat → Nat} {Q : Option Value → Mem → Prop} (hyp : ((v = due → Q (some (.int row)) (SH, mkM I J T)) ∧ ((¬ (v = due)) → Go none aM (Ev mt aM (d + 1)) mX6_leastRow Q (10, [some (.ref 81), some (.int l), some (.int st), some (.int due), some (.int (row + 1))], [], (SH, mkM I J T), 0, 0)))) : Go none aM (Ev mt aM (d + 1)) mX6_leastRow Q (33, [some (.ref 81), some (.int l), some (.int st), some (.int due), some (.int row)], [.int v], (SH, mkM I J T), 0, 0) := by
  refine Go.of_run (Ev.mono _) 2 _ ?_
  show Go none aM (Ev mt aM (d + 1)) mX6_leastRow Q (if v = due then 37 else 40, [some (.ref 81), some (.int l), some (.int st), some (.int due), some (.int row)], [], (SH, mkM I J T), 0, 0)
  rcases Decidable.em (v = due) with c1 | c1
  · rw [if_pos c1]
    refine Go.of_run (Ev.mono _) 2 _ ?_
    refine ⟨trivial, ?_⟩
    show Q (some (.int row)) (SH, mkM I J T)
    exact (hyp.1 c1)
  · rw [if_neg c1]
    refine Go.of_run (Ev.mono _) 2 _ ?_
    exact (hyp.2 c1)
set_option maxRecDepth 20000 in
theorem plw_0 {d : Nat} {l : Int32} {I : Nat → Nat → Int32} {J : Nat → Nat → Int64} {T : Nat → Nat → Nat} {Q : Option Value → Mem → Prop} (hyp : Ev mt aM (d + 1) 64 [.ref 81] (SH, mkM I J T) (fun r m1 => Go none aM (Ev mt aM (d + 1)) mX6_planWorth Q (6, [some (.ref 81), some (.int l)], r.toList ++ [.int l, .ref 81], m1, 0, 0))) : Go none aM (Ev mt aM (d + 1)) mX6_planWorth Q (0, [some (.ref 81), some (.int l)], [], (SH, mkM I J T), 0, 0) := by
  refine Go.of_run (Ev.mono _) 4 _ ?_
  refine ⟨Nat.le_of_ble_eq_true rfl, hyp⟩
set_option maxRecDepth 20000 in
theorem plw_6 {d : Nat} {l v : Int32} {I : Nat → Nat → Int32} {J : Nat → Nat → Int64} {T : Nat → Nat → Nat} {Q : Option Value → Mem → Prop} (hyp : Ev mt aM (d + 1) 65 [.ref 81, .int l, .int v] (SH, mkM I J T) (fun r m1 => Go none aM (Ev mt aM (d + 1)) mX6_planWorth Q (9, [some (.ref 81), some (.int l)], r.toList ++ [], m1, 0, 0))) : Go none aM (Ev mt aM (d + 1)) mX6_planWorth Q (6, [some (.ref 81), some (.int l)], [.int v, .int l, .ref 81], (SH, mkM I J T), 0, 0) := by
  refine Go.of_run (Ev.mono _) 1 _ ?_
  refine ⟨Nat.le_of_ble_eq_true rfl, hyp⟩
set_option maxRecDepth 20000 in
theorem plw_9 {d : Nat} {l v : Int32} {I : Nat → Nat → Int32} {J : Nat → Nat → Int64} {T : Nat → Nat → Nat} {Q : Option Value → Mem → Prop} (hyp : Q (some (.int v)) (SH, mkM I J T)) : Go none aM (Ev mt aM (d + 1)) mX6_planWorth Q (9, [some (.ref 81), some (.int l)], [.int v], (SH, mkM I J T), 0, 0) := by
  refine Go.of_run (Ev.mono _) 1 _ ?_
  refine ⟨trivial, ?_⟩
  show Q (some (.int v)) (SH, mkM I J T)
  exact hyp
set_option maxRecDepth 20000 in
theorem plr_0 {d : Nat} {l w : Int32} {I : Nat → Nat → Int32} {J : Nat → Nat → Int64} {T : Nat → Nat → Nat} {Q : Option Value → Mem → Prop} (hyp : Ev mt aM (d + 1) 64 [.ref 81] (SH, mkM I J T) (fun r m1 => Go none aM (Ev mt aM (d + 1)) mX6_planRow Q (4, [some (.ref 81), some (.int l), some (.int w), none, none], r.toList ++ [], m1, 0, 0))) : Go none aM (Ev mt aM (d + 1)) mX6_planRow Q (0, [some (.ref 81), some (.int l), some (.int w), none, none], [], (SH, mkM I J T), 0, 0) := by
  refine Go.of_run (Ev.mono _) 2 _ ?_
  refine ⟨Nat.le_of_ble_eq_true rfl, hyp⟩
set_option maxRecDepth 20000 in
theorem plr_4 {d : Nat} {l w v : Int32} {I : Nat → Nat → Int32} {J : Nat → Nat → Int64} {T : Nat → Nat → Nat} {Q : Option Value → Mem → Prop} (hyp : Go none aM (Ev mt aM (d + 1)) mX6_planRow Q (8, [some (.ref 81), some (.int l), some (.int w), some (.int v), some (.int (0 : Int32))], [], (SH, mkM I J T), 0, 0)) : Go none aM (Ev mt aM (d + 1)) mX6_planRow Q (4, [some (.ref 81), some (.int l), some (.int w), none, none], [.int v], (SH, mkM I J T), 0, 0) := by
  refine Go.of_run (Ev.mono _) 3 _ ?_
  exact hyp
set_option maxRecDepth 20000 in
theorem plr_8 {d : Nat} {l w st i : Int32} {I : Nat → Nat → Int32} {J : Nat → Nat → Int64} {T : Nat → Nat → Nat} {Q : Option Value → Mem → Prop} (hyp : ((w ≤ i → Ev mt aM (d + 1) 67 [.ref 81, .int (l - w), .int st] (SH, mkM I J T) (fun r m1 => Go none aM (Ev mt aM (d + 1)) mX6_planRow Q (42, [some (.ref 81), some (.int l), some (.int w), some (.int st), some (.int i)], r.toList ++ [], m1, 0, 0))) ∧ ((¬ (w ≤ i)) → Ev mt aM (d + 1) 67 [.ref 81, .int (l - i), .int st] (SH, mkM I J T) (fun r m1 => Go none aM (Ev mt aM (d + 1)) mX6_planRow Q (24, [some (.ref 81), some (.int l), some (.int w), some (.int st), some (.int i)], r.toList ++ [.int st], m1, 0, 0))))) : Go none aM (Ev mt aM (d + 1)) mX6_planRow Q (8, [some (.ref 81), some (.int l), some (.int w), some (.int st), some (.int i)], [], (SH, mkM I J T), 0, 0) := by
  refine Go.of_run (Ev.mono _) 3 _ ?_
  show Go none aM (Ev mt aM (d + 1)) mX6_planRow Q (if w ≤ i then 34 else 14, [some (.ref 81), some (.int l), some (.int w), some (.int st), some (.int i)], [], (SH, mkM I J T), 0, 0)
  rcases Decidable.em (w ≤ i) with c1 | c1
  · rw [if_pos c1]
    refine Go.of_run (Ev.mono _) 6 _ ?_
    refine ⟨Nat.le_of_ble_eq_true rfl, (hyp.1 c1)⟩
  · rw [if_neg c1]
    refine Go.of_run (Ev.mono _) 7 _ ?_
    refine ⟨Nat.le_of_ble_eq_true rfl, (hyp.2 c1)⟩
set_option maxRecDepth 20000 in
theorem plr_24 {d : Nat} {l w st i v : Int32} {I : Nat → Nat → Int32} {J : Nat → Nat → Int64} {T : Nat → Nat → Nat} {Q : Option Value → Mem → Prop} (hyp : Go none aM (Ev mt aM (d + 1)) mX6_planRow Q (8, [some (.ref 81), some (.int l), some (.int w), some (.int (v_X6_next st v)), some (.int (i + 1))], [], (SH, mkM I J T), 0, 0)) : Go none aM (Ev mt aM (d + 1)) mX6_planRow Q (24, [some (.ref 81), some (.int l), some (.int w), some (.int st), some (.int i)], [.int v, .int st], (SH, mkM I J T), 0, 0) := by
  refine Go.of_run (Ev.mono _) 1 _ ?_
  refine ⟨Nat.le_of_ble_eq_true rfl, ev_X6_next ?_⟩
  show Go none aM (Ev mt aM (d + 1)) mX6_planRow Q (27, [some (.ref 81), some (.int l), some (.int w), some (.int st), some (.int i)], [.int (v_X6_next st v)], (SH, mkM I J T), 0, 0)
  refine Go.of_run (Ev.mono _) 3 _ ?_
  exact hyp
set_option maxRecDepth 20000 in
theorem plr_42 {d : Nat} {l w st i v : Int32} {I : Nat → Nat → Int32} {J : Nat → Nat → Int64} {T : Nat → Nat → Nat} {Q : Option Value → Mem → Prop} (hyp : Q (some (.int v)) (SH, mkM I J T)) : Go none aM (Ev mt aM (d + 1)) mX6_planRow Q (42, [some (.ref 81), some (.int l), some (.int w), some (.int st), some (.int i)], [.int v], (SH, mkM I J T), 0, 0) := by
  refine Go.of_run (Ev.mono _) 1 _ ?_
  refine ⟨trivial, ?_⟩
  show Q (some (.int v)) (SH, mkM I J T)
  exact hyp
set_option maxRecDepth 20000 in
theorem beg_0 {d : Nat} {I : Nat → Nat → Int32} {J : Nat → Nat → Int64} {T : Nat → Nat → Nat} {Q : Option Value → Mem → Prop} (h1 : I 81 2 = 0) (hyp : Q (some (.int ((((((0 : Int32) ||| ((v_X7_freshnessOf (0 : Int32) I) <<< ((0 : Int32) &&& 31))) ||| ((v_X7_freshnessOf (1 : Int32) I) <<< ((2 : Int32) &&& 31))) ||| ((v_X7_freshnessOf (2 : Int32) I) <<< ((4 : Int32) &&& 31))) ||| ((v_X7_freshnessOf (3 : Int32) I) <<< ((6 : Int32) &&& 31))) ||| ((v_X7_freshnessOf (4 : Int32) I) <<< ((8 : Int32) &&& 31))))) (SH, mkM I J T)) : Go none aM (Ev mt aM (d + 2)) mX6_begin Q (0, [some (.ref 81), none, none], [], (SH, mkM I J T), 0, 0) := by
  refine Go.of_run (Ev.mono _) 3 _ ?_
  show Go none aM (Ev mt aM (d + 2)) mX6_begin Q (if I 81 2 = 0 then 19 else 7, [some (.ref 81), none, none], [], (SH, mkM I J T), 0, 0)
  rw [if_pos h1]
  refine Go.of_run (Ev.mono _) 7 _ ?_
  show Go none aM (Ev mt aM (d + 2)) mX6_begin Q (if (5 : Int32) ≤ (0 : Int32) then 49 else 28, [some (.ref 81), some (.int (0 : Int32)), some (.int (0 : Int32))], [], (SH, mkM I J T), 0, 0)
  rw [if_neg (by decide : ¬ ((5 : Int32) ≤ (0 : Int32)))]
  refine Go.of_run (Ev.mono _) 5 _ ?_
  refine ⟨Nat.le_of_ble_eq_true rfl, ev_X7_freshnessOf (by unfold vp_in; decide : vp_in (0 : Int32) 5) ?_⟩
  show Go none aM (Ev mt aM (d + 2)) mX6_begin Q (37, [some (.ref 81), some (.int (0 : Int32)), some (.int (0 : Int32))], [.int (v_X7_freshnessOf (0 : Int32) I), .int (0 : Int32)], (SH, mkM I J T), 0, 0)
  refine Go.of_run (Ev.mono _) 11 _ ?_
  show Go none aM (Ev mt aM (d + 2)) mX6_begin Q (if (5 : Int32) ≤ (1 : Int32) then 49 else 28, [some (.ref 81), some (.int ((0 : Int32) ||| ((v_X7_freshnessOf (0 : Int32) I) <<< ((0 : Int32) &&& 31)))), some (.int (1 : Int32))], [], (SH, mkM I J T), 0, 0)
  rw [if_neg (by decide : ¬ ((5 : Int32) ≤ (1 : Int32)))]
  refine Go.of_run (Ev.mono _) 5 _ ?_
  refine ⟨Nat.le_of_ble_eq_true rfl, ev_X7_freshnessOf (by unfold vp_in; decide : vp_in (1 : Int32) 5) ?_⟩
  show Go none aM (Ev mt aM (d + 2)) mX6_begin Q (37, [some (.ref 81), some (.int ((0 : Int32) ||| ((v_X7_freshnessOf (0 : Int32) I) <<< ((0 : Int32) &&& 31)))), some (.int (1 : Int32))], [.int (v_X7_freshnessOf (1 : Int32) I), .int ((0 : Int32) ||| ((v_X7_freshnessOf (0 : Int32) I) <<< ((0 : Int32) &&& 31)))], (SH, mkM I J T), 0, 0)
  refine Go.of_run (Ev.mono _) 11 _ ?_
  show Go none aM (Ev mt aM (d + 2)) mX6_begin Q (if (5 : Int32) ≤ (2 : Int32) then 49 else 28, [some (.ref 81), some (.int (((0 : Int32) ||| ((v_X7_freshnessOf (0 : Int32) I) <<< ((0 : Int32) &&& 31))) ||| ((v_X7_freshnessOf (1 : Int32) I) <<< ((2 : Int32) &&& 31)))), some (.int (2 : Int32))], [], (SH, mkM I J T), 0, 0)
  rw [if_neg (by decide : ¬ ((5 : Int32) ≤ (2 : Int32)))]
  refine Go.of_run (Ev.mono _) 5 _ ?_
  refine ⟨Nat.le_of_ble_eq_true rfl, ev_X7_freshnessOf (by unfold vp_in; decide : vp_in (2 : Int32) 5) ?_⟩
  show Go none aM (Ev mt aM (d + 2)) mX6_begin Q (37, [some (.ref 81), some (.int (((0 : Int32) ||| ((v_X7_freshnessOf (0 : Int32) I) <<< ((0 : Int32) &&& 31))) ||| ((v_X7_freshnessOf (1 : Int32) I) <<< ((2 : Int32) &&& 31)))), some (.int (2 : Int32))], [.int (v_X7_freshnessOf (2 : Int32) I), .int (((0 : Int32) ||| ((v_X7_freshnessOf (0 : Int32) I) <<< ((0 : Int32) &&& 31))) ||| ((v_X7_freshnessOf (1 : Int32) I) <<< ((2 : Int32) &&& 31)))], (SH, mkM I J T), 0, 0)
  refine Go.of_run (Ev.mono _) 11 _ ?_
  show Go none aM (Ev mt aM (d + 2)) mX6_begin Q (if (5 : Int32) ≤ (3 : Int32) then 49 else 28, [some (.ref 81), some (.int ((((0 : Int32) ||| ((v_X7_freshnessOf (0 : Int32) I) <<< ((0 : Int32) &&& 31))) ||| ((v_X7_freshnessOf (1 : Int32) I) <<< ((2 : Int32) &&& 31))) ||| ((v_X7_freshnessOf (2 : Int32) I) <<< ((4 : Int32) &&& 31)))), some (.int (3 : Int32))], [], (SH, mkM I J T), 0, 0)
  rw [if_neg (by decide : ¬ ((5 : Int32) ≤ (3 : Int32)))]
  refine Go.of_run (Ev.mono _) 5 _ ?_
  refine ⟨Nat.le_of_ble_eq_true rfl, ev_X7_freshnessOf (by unfold vp_in; decide : vp_in (3 : Int32) 5) ?_⟩
  show Go none aM (Ev mt aM (d + 2)) mX6_begin Q (37, [some (.ref 81), some (.int ((((0 : Int32) ||| ((v_X7_freshnessOf (0 : Int32) I) <<< ((0 : Int32) &&& 31))) ||| ((v_X7_freshnessOf (1 : Int32) I) <<< ((2 : Int32) &&& 31))) ||| ((v_X7_freshnessOf (2 : Int32) I) <<< ((4 : Int32) &&& 31)))), some (.int (3 : Int32))], [.int (v_X7_freshnessOf (3 : Int32) I), .int ((((0 : Int32) ||| ((v_X7_freshnessOf (0 : Int32) I) <<< ((0 : Int32) &&& 31))) ||| ((v_X7_freshnessOf (1 : Int32) I) <<< ((2 : Int32) &&& 31))) ||| ((v_X7_freshnessOf (2 : Int32) I) <<< ((4 : Int32) &&& 31)))], (SH, mkM I J T), 0, 0)
  refine Go.of_run (Ev.mono _) 11 _ ?_
  show Go none aM (Ev mt aM (d + 2)) mX6_begin Q (if (5 : Int32) ≤ (4 : Int32) then 49 else 28, [some (.ref 81), some (.int (((((0 : Int32) ||| ((v_X7_freshnessOf (0 : Int32) I) <<< ((0 : Int32) &&& 31))) ||| ((v_X7_freshnessOf (1 : Int32) I) <<< ((2 : Int32) &&& 31))) ||| ((v_X7_freshnessOf (2 : Int32) I) <<< ((4 : Int32) &&& 31))) ||| ((v_X7_freshnessOf (3 : Int32) I) <<< ((6 : Int32) &&& 31)))), some (.int (4 : Int32))], [], (SH, mkM I J T), 0, 0)
  rw [if_neg (by decide : ¬ ((5 : Int32) ≤ (4 : Int32)))]
  refine Go.of_run (Ev.mono _) 5 _ ?_
  refine ⟨Nat.le_of_ble_eq_true rfl, ev_X7_freshnessOf (by unfold vp_in; decide : vp_in (4 : Int32) 5) ?_⟩
  show Go none aM (Ev mt aM (d + 2)) mX6_begin Q (37, [some (.ref 81), some (.int (((((0 : Int32) ||| ((v_X7_freshnessOf (0 : Int32) I) <<< ((0 : Int32) &&& 31))) ||| ((v_X7_freshnessOf (1 : Int32) I) <<< ((2 : Int32) &&& 31))) ||| ((v_X7_freshnessOf (2 : Int32) I) <<< ((4 : Int32) &&& 31))) ||| ((v_X7_freshnessOf (3 : Int32) I) <<< ((6 : Int32) &&& 31)))), some (.int (4 : Int32))], [.int (v_X7_freshnessOf (4 : Int32) I), .int (((((0 : Int32) ||| ((v_X7_freshnessOf (0 : Int32) I) <<< ((0 : Int32) &&& 31))) ||| ((v_X7_freshnessOf (1 : Int32) I) <<< ((2 : Int32) &&& 31))) ||| ((v_X7_freshnessOf (2 : Int32) I) <<< ((4 : Int32) &&& 31))) ||| ((v_X7_freshnessOf (3 : Int32) I) <<< ((6 : Int32) &&& 31)))], (SH, mkM I J T), 0, 0)
  refine Go.of_run (Ev.mono _) 11 _ ?_
  show Go none aM (Ev mt aM (d + 2)) mX6_begin Q (if (5 : Int32) ≤ (5 : Int32) then 49 else 28, [some (.ref 81), some (.int ((((((0 : Int32) ||| ((v_X7_freshnessOf (0 : Int32) I) <<< ((0 : Int32) &&& 31))) ||| ((v_X7_freshnessOf (1 : Int32) I) <<< ((2 : Int32) &&& 31))) ||| ((v_X7_freshnessOf (2 : Int32) I) <<< ((4 : Int32) &&& 31))) ||| ((v_X7_freshnessOf (3 : Int32) I) <<< ((6 : Int32) &&& 31))) ||| ((v_X7_freshnessOf (4 : Int32) I) <<< ((8 : Int32) &&& 31)))), some (.int (5 : Int32))], [], (SH, mkM I J T), 0, 0)
  rw [if_pos (by decide : (5 : Int32) ≤ (5 : Int32))]
  refine Go.of_run (Ev.mono _) 2 _ ?_
  refine ⟨trivial, ?_⟩
  show Q (some (.int ((((((0 : Int32) ||| ((v_X7_freshnessOf (0 : Int32) I) <<< ((0 : Int32) &&& 31))) ||| ((v_X7_freshnessOf (1 : Int32) I) <<< ((2 : Int32) &&& 31))) ||| ((v_X7_freshnessOf (2 : Int32) I) <<< ((4 : Int32) &&& 31))) ||| ((v_X7_freshnessOf (3 : Int32) I) <<< ((6 : Int32) &&& 31))) ||| ((v_X7_freshnessOf (4 : Int32) I) <<< ((8 : Int32) &&& 31))))) (SH, mkM I J T)
  exact hyp
set_option maxRecDepth 20000 in
theorem beg_1 {d : Nat} {I : Nat → Nat → Int32} {J : Nat → Nat → Int64} {T : Nat → Nat → Nat} {Q : Option Value → Mem → Prop} (h1 : ¬ (I 81 2 = 0)) (hyp : Ev mt aM (d + 2) 59 [.ref 82] (SH, mkM I J T) (fun r m1 => Go none aM (Ev mt aM (d + 2)) mX6_begin Q (14, [some (.ref 81), none, none], r.toList ++ [], m1, 0, 0))) : Go none aM (Ev mt aM (d + 2)) mX6_begin Q (0, [some (.ref 81), none, none], [], (SH, mkM I J T), 0, 0) := by
  refine Go.of_run (Ev.mono _) 3 _ ?_
  show Go none aM (Ev mt aM (d + 2)) mX6_begin Q (if I 81 2 = 0 then 19 else 7, [some (.ref 81), none, none], [], (SH, mkM I J T), 0, 0)
  rw [if_neg h1]
  refine Go.of_run (Ev.mono _) 3 _ ?_
  refine ⟨Nat.le_of_ble_eq_true rfl, hyp⟩
set_option maxRecDepth 20000 in
theorem beg_14 {d : Nat} {I : Nat → Nat → Int32} {J : Nat → Nat → Int64} {T : Nat → Nat → Nat} {Q : Option Value → Mem → Prop} (hyp : Q (some (.int ((((((0 : Int32) ||| ((v_X7_freshnessOf (0 : Int32) (si I 81 2 (0 : Int32))) <<< ((0 : Int32) &&& 31))) ||| ((v_X7_freshnessOf (1 : Int32) (si I 81 2 (0 : Int32))) <<< ((2 : Int32) &&& 31))) ||| ((v_X7_freshnessOf (2 : Int32) (si I 81 2 (0 : Int32))) <<< ((4 : Int32) &&& 31))) ||| ((v_X7_freshnessOf (3 : Int32) (si I 81 2 (0 : Int32))) <<< ((6 : Int32) &&& 31))) ||| ((v_X7_freshnessOf (4 : Int32) (si I 81 2 (0 : Int32))) <<< ((8 : Int32) &&& 31))))) (SH, mkM (si I 81 2 (0 : Int32)) J T)) : Go none aM (Ev mt aM (d + 2)) mX6_begin Q (14, [some (.ref 81), none, none], [], (SH, mkM I J T), 0, 0) := by
  refine Go.of_run (Ev.mono _) 3 _ ?_
  refine ⟨(by decide : (0 : Int32) = 0 ∨ (0 : Int32) = 1), ?_⟩
  refine go_si rfl ?_
  show Go none aM (Ev mt aM (d + 2)) mX6_begin Q (19, [some (.ref 81), none, none], [], (SH, mkM (si I 81 2 (0 : Int32)) J T), 0, 0)
  refine Go.of_run (Ev.mono _) 7 _ ?_
  show Go none aM (Ev mt aM (d + 2)) mX6_begin Q (if (5 : Int32) ≤ (0 : Int32) then 49 else 28, [some (.ref 81), some (.int (0 : Int32)), some (.int (0 : Int32))], [], (SH, mkM (si I 81 2 (0 : Int32)) J T), 0, 0)
  rw [if_neg (by decide : ¬ ((5 : Int32) ≤ (0 : Int32)))]
  refine Go.of_run (Ev.mono _) 5 _ ?_
  refine ⟨Nat.le_of_ble_eq_true rfl, ev_X7_freshnessOf (by unfold vp_in; decide : vp_in (0 : Int32) 5) ?_⟩
  show Go none aM (Ev mt aM (d + 2)) mX6_begin Q (37, [some (.ref 81), some (.int (0 : Int32)), some (.int (0 : Int32))], [.int (v_X7_freshnessOf (0 : Int32) (si I 81 2 (0 : Int32))), .int (0 : Int32)], (SH, mkM (si I 81 2 (0 : Int32)) J T), 0, 0)
  refine Go.of_run (Ev.mono _) 11 _ ?_
  show Go none aM (Ev mt aM (d + 2)) mX6_begin Q (if (5 : Int32) ≤ (1 : Int32) then 49 else 28, [some (.ref 81), some (.int ((0 : Int32) ||| ((v_X7_freshnessOf (0 : Int32) (si I 81 2 (0 : Int32))) <<< ((0 : Int32) &&& 31)))), some (.int (1 : Int32))], [], (SH, mkM (si I 81 2 (0 : Int32)) J T), 0, 0)
  rw [if_neg (by decide : ¬ ((5 : Int32) ≤ (1 : Int32)))]
  refine Go.of_run (Ev.mono _) 5 _ ?_
  refine ⟨Nat.le_of_ble_eq_true rfl, ev_X7_freshnessOf (by unfold vp_in; decide : vp_in (1 : Int32) 5) ?_⟩
  show Go none aM (Ev mt aM (d + 2)) mX6_begin Q (37, [some (.ref 81), some (.int ((0 : Int32) ||| ((v_X7_freshnessOf (0 : Int32) (si I 81 2 (0 : Int32))) <<< ((0 : Int32) &&& 31)))), some (.int (1 : Int32))], [.int (v_X7_freshnessOf (1 : Int32) (si I 81 2 (0 : Int32))), .int ((0 : Int32) ||| ((v_X7_freshnessOf (0 : Int32) (si I 81 2 (0 : Int32))) <<< ((0 : Int32) &&& 31)))], (SH, mkM (si I 81 2 (0 : Int32)) J T), 0, 0)
  refine Go.of_run (Ev.mono _) 11 _ ?_
  show Go none aM (Ev mt aM (d + 2)) mX6_begin Q (if (5 : Int32) ≤ (2 : Int32) then 49 else 28, [some (.ref 81), some (.int (((0 : Int32) ||| ((v_X7_freshnessOf (0 : Int32) (si I 81 2 (0 : Int32))) <<< ((0 : Int32) &&& 31))) ||| ((v_X7_freshnessOf (1 : Int32) (si I 81 2 (0 : Int32))) <<< ((2 : Int32) &&& 31)))), some (.int (2 : Int32))], [], (SH, mkM (si I 81 2 (0 : Int32)) J T), 0, 0)
  rw [if_neg (by decide : ¬ ((5 : Int32) ≤ (2 : Int32)))]
  refine Go.of_run (Ev.mono _) 5 _ ?_
  refine ⟨Nat.le_of_ble_eq_true rfl, ev_X7_freshnessOf (by unfold vp_in; decide : vp_in (2 : Int32) 5) ?_⟩
  show Go none aM (Ev mt aM (d + 2)) mX6_begin Q (37, [some (.ref 81), some (.int (((0 : Int32) ||| ((v_X7_freshnessOf (0 : Int32) (si I 81 2 (0 : Int32))) <<< ((0 : Int32) &&& 31))) ||| ((v_X7_freshnessOf (1 : Int32) (si I 81 2 (0 : Int32))) <<< ((2 : Int32) &&& 31)))), some (.int (2 : Int32))], [.int (v_X7_freshnessOf (2 : Int32) (si I 81 2 (0 : Int32))), .int (((0 : Int32) ||| ((v_X7_freshnessOf (0 : Int32) (si I 81 2 (0 : Int32))) <<< ((0 : Int32) &&& 31))) ||| ((v_X7_freshnessOf (1 : Int32) (si I 81 2 (0 : Int32))) <<< ((2 : Int32) &&& 31)))], (SH, mkM (si I 81 2 (0 : Int32)) J T), 0, 0)
  refine Go.of_run (Ev.mono _) 11 _ ?_
  show Go none aM (Ev mt aM (d + 2)) mX6_begin Q (if (5 : Int32) ≤ (3 : Int32) then 49 else 28, [some (.ref 81), some (.int ((((0 : Int32) ||| ((v_X7_freshnessOf (0 : Int32) (si I 81 2 (0 : Int32))) <<< ((0 : Int32) &&& 31))) ||| ((v_X7_freshnessOf (1 : Int32) (si I 81 2 (0 : Int32))) <<< ((2 : Int32) &&& 31))) ||| ((v_X7_freshnessOf (2 : Int32) (si I 81 2 (0 : Int32))) <<< ((4 : Int32) &&& 31)))), some (.int (3 : Int32))], [], (SH, mkM (si I 81 2 (0 : Int32)) J T), 0, 0)
  rw [if_neg (by decide : ¬ ((5 : Int32) ≤ (3 : Int32)))]
  refine Go.of_run (Ev.mono _) 5 _ ?_
  refine ⟨Nat.le_of_ble_eq_true rfl, ev_X7_freshnessOf (by unfold vp_in; decide : vp_in (3 : Int32) 5) ?_⟩
  show Go none aM (Ev mt aM (d + 2)) mX6_begin Q (37, [some (.ref 81), some (.int ((((0 : Int32) ||| ((v_X7_freshnessOf (0 : Int32) (si I 81 2 (0 : Int32))) <<< ((0 : Int32) &&& 31))) ||| ((v_X7_freshnessOf (1 : Int32) (si I 81 2 (0 : Int32))) <<< ((2 : Int32) &&& 31))) ||| ((v_X7_freshnessOf (2 : Int32) (si I 81 2 (0 : Int32))) <<< ((4 : Int32) &&& 31)))), some (.int (3 : Int32))], [.int (v_X7_freshnessOf (3 : Int32) (si I 81 2 (0 : Int32))), .int ((((0 : Int32) ||| ((v_X7_freshnessOf (0 : Int32) (si I 81 2 (0 : Int32))) <<< ((0 : Int32) &&& 31))) ||| ((v_X7_freshnessOf (1 : Int32) (si I 81 2 (0 : Int32))) <<< ((2 : Int32) &&& 31))) ||| ((v_X7_freshnessOf (2 : Int32) (si I 81 2 (0 : Int32))) <<< ((4 : Int32) &&& 31)))], (SH, mkM (si I 81 2 (0 : Int32)) J T), 0, 0)
  refine Go.of_run (Ev.mono _) 11 _ ?_
  show Go none aM (Ev mt aM (d + 2)) mX6_begin Q (if (5 : Int32) ≤ (4 : Int32) then 49 else 28, [some (.ref 81), some (.int (((((0 : Int32) ||| ((v_X7_freshnessOf (0 : Int32) (si I 81 2 (0 : Int32))) <<< ((0 : Int32) &&& 31))) ||| ((v_X7_freshnessOf (1 : Int32) (si I 81 2 (0 : Int32))) <<< ((2 : Int32) &&& 31))) ||| ((v_X7_freshnessOf (2 : Int32) (si I 81 2 (0 : Int32))) <<< ((4 : Int32) &&& 31))) ||| ((v_X7_freshnessOf (3 : Int32) (si I 81 2 (0 : Int32))) <<< ((6 : Int32) &&& 31)))), some (.int (4 : Int32))], [], (SH, mkM (si I 81 2 (0 : Int32)) J T), 0, 0)
  rw [if_neg (by decide : ¬ ((5 : Int32) ≤ (4 : Int32)))]
  refine Go.of_run (Ev.mono _) 5 _ ?_
  refine ⟨Nat.le_of_ble_eq_true rfl, ev_X7_freshnessOf (by unfold vp_in; decide : vp_in (4 : Int32) 5) ?_⟩
  show Go none aM (Ev mt aM (d + 2)) mX6_begin Q (37, [some (.ref 81), some (.int (((((0 : Int32) ||| ((v_X7_freshnessOf (0 : Int32) (si I 81 2 (0 : Int32))) <<< ((0 : Int32) &&& 31))) ||| ((v_X7_freshnessOf (1 : Int32) (si I 81 2 (0 : Int32))) <<< ((2 : Int32) &&& 31))) ||| ((v_X7_freshnessOf (2 : Int32) (si I 81 2 (0 : Int32))) <<< ((4 : Int32) &&& 31))) ||| ((v_X7_freshnessOf (3 : Int32) (si I 81 2 (0 : Int32))) <<< ((6 : Int32) &&& 31)))), some (.int (4 : Int32))], [.int (v_X7_freshnessOf (4 : Int32) (si I 81 2 (0 : Int32))), .int (((((0 : Int32) ||| ((v_X7_freshnessOf (0 : Int32) (si I 81 2 (0 : Int32))) <<< ((0 : Int32) &&& 31))) ||| ((v_X7_freshnessOf (1 : Int32) (si I 81 2 (0 : Int32))) <<< ((2 : Int32) &&& 31))) ||| ((v_X7_freshnessOf (2 : Int32) (si I 81 2 (0 : Int32))) <<< ((4 : Int32) &&& 31))) ||| ((v_X7_freshnessOf (3 : Int32) (si I 81 2 (0 : Int32))) <<< ((6 : Int32) &&& 31)))], (SH, mkM (si I 81 2 (0 : Int32)) J T), 0, 0)
  refine Go.of_run (Ev.mono _) 11 _ ?_
  show Go none aM (Ev mt aM (d + 2)) mX6_begin Q (if (5 : Int32) ≤ (5 : Int32) then 49 else 28, [some (.ref 81), some (.int ((((((0 : Int32) ||| ((v_X7_freshnessOf (0 : Int32) (si I 81 2 (0 : Int32))) <<< ((0 : Int32) &&& 31))) ||| ((v_X7_freshnessOf (1 : Int32) (si I 81 2 (0 : Int32))) <<< ((2 : Int32) &&& 31))) ||| ((v_X7_freshnessOf (2 : Int32) (si I 81 2 (0 : Int32))) <<< ((4 : Int32) &&& 31))) ||| ((v_X7_freshnessOf (3 : Int32) (si I 81 2 (0 : Int32))) <<< ((6 : Int32) &&& 31))) ||| ((v_X7_freshnessOf (4 : Int32) (si I 81 2 (0 : Int32))) <<< ((8 : Int32) &&& 31)))), some (.int (5 : Int32))], [], (SH, mkM (si I 81 2 (0 : Int32)) J T), 0, 0)
  rw [if_pos (by decide : (5 : Int32) ≤ (5 : Int32))]
  refine Go.of_run (Ev.mono _) 2 _ ?_
  refine ⟨trivial, ?_⟩
  show Q (some (.int ((((((0 : Int32) ||| ((v_X7_freshnessOf (0 : Int32) (si I 81 2 (0 : Int32))) <<< ((0 : Int32) &&& 31))) ||| ((v_X7_freshnessOf (1 : Int32) (si I 81 2 (0 : Int32))) <<< ((2 : Int32) &&& 31))) ||| ((v_X7_freshnessOf (2 : Int32) (si I 81 2 (0 : Int32))) <<< ((4 : Int32) &&& 31))) ||| ((v_X7_freshnessOf (3 : Int32) (si I 81 2 (0 : Int32))) <<< ((6 : Int32) &&& 31))) ||| ((v_X7_freshnessOf (4 : Int32) (si I 81 2 (0 : Int32))) <<< ((8 : Int32) &&& 31))))) (SH, mkM (si I 81 2 (0 : Int32)) J T)
  exact hyp
set_option maxRecDepth 20000 in
theorem sea11_0 {d : Nat} {l what : Int32} {I : Nat → Nat → Int32} {J : Nat → Nat → Int64} {T : Nat → Nat → Nat} {Q : Option Value → Mem → Prop} (hyp : ((l < (1 : Int32) → Q (some (.int (-1 : Int32))) (SH, mkM I J T)) ∧ ((¬ (l < (1 : Int32))) → (((8 : Int32) < l → Q (some (.int (-1 : Int32))) (SH, mkM I J T)) ∧ ((¬ ((8 : Int32) < l)) → ((what < (-1 : Int32) → Q (some (.int (-1 : Int32))) (SH, mkM I J T)) ∧ ((¬ (what < (-1 : Int32))) → ((what < l → ((what = (-1 : Int32) → Ev mt aM (d + 3) 62 [.ref 81, .int l] (SH, mkM I J T) (fun r m1 => Go none aM (Ev mt aM (d + 3)) mX11_season Q (36, [some (.ref 0), some (.int l), some (.int what)], r.toList ++ [], m1, 0, 0))) ∧ ((¬ (what = (-1 : Int32))) → Ev mt aM (d + 3) 63 [.ref 81, .int l, .int what] (SH, mkM I J T) (fun r m1 => Go none aM (Ev mt aM (d + 3)) mX11_season Q (48, [some (.ref 0), some (.int l), some (.int what)], r.toList ++ [], m1, 0, 0))))) ∧ ((¬ (what < l)) → Q (some (.int (-1 : Int32))) (SH, mkM I J T)))))))))) : Go none aM (Ev mt aM (d + 3)) mX11_season Q (0, [some (.ref 0), some (.int l), some (.int what)], [], (SH, mkM I J T), 0, 0) := by
  refine Go.of_run (Ev.mono _) 3 _ ?_
  show Go none aM (Ev mt aM (d + 3)) mX11_season Q (if l < (1 : Int32) then 21 else 5, [some (.ref 0), some (.int l), some (.int what)], [], (SH, mkM I J T), 0, 0)
  rcases Decidable.em (l < (1 : Int32)) with c1 | c1
  · rw [if_pos c1]
    refine Go.of_run (Ev.mono _) 2 _ ?_
    refine ⟨trivial, ?_⟩
    show Q (some (.int (-1 : Int32))) (SH, mkM I J T)
    exact (hyp.1 c1)
  · rw [if_neg c1]
    refine Go.of_run (Ev.mono _) 3 _ ?_
    show Go none aM (Ev mt aM (d + 3)) mX11_season Q (if (8 : Int32) < l then 21 else 11, [some (.ref 0), some (.int l), some (.int what)], [], (SH, mkM I J T), 0, 0)
    rcases Decidable.em ((8 : Int32) < l) with c2 | c2
    · rw [if_pos c2]
      refine Go.of_run (Ev.mono _) 2 _ ?_
      refine ⟨trivial, ?_⟩
      show Q (some (.int (-1 : Int32))) (SH, mkM I J T)
      exact ((hyp.2 c1).1 c2)
    · rw [if_neg c2]
      refine Go.of_run (Ev.mono _) 3 _ ?_
      show Go none aM (Ev mt aM (d + 3)) mX11_season Q (if what < (-1 : Int32) then 21 else 16, [some (.ref 0), some (.int l), some (.int what)], [], (SH, mkM I J T), 0, 0)
      rcases Decidable.em (what < (-1 : Int32)) with c3 | c3
      · rw [if_pos c3]
        refine Go.of_run (Ev.mono _) 2 _ ?_
        refine ⟨trivial, ?_⟩
        show Q (some (.int (-1 : Int32))) (SH, mkM I J T)
        exact (((hyp.2 c1).2 c2).1 c3)
      · rw [if_neg c3]
        refine Go.of_run (Ev.mono _) 3 _ ?_
        show Go none aM (Ev mt aM (d + 3)) mX11_season Q (if what < l then 23 else 21, [some (.ref 0), some (.int l), some (.int what)], [], (SH, mkM I J T), 0, 0)
        rcases Decidable.em (what < l) with c4 | c4
        · rw [if_pos c4]
          refine Go.of_run (Ev.mono _) 3 _ ?_
          show Go none aM (Ev mt aM (d + 3)) mX11_season Q (if what = (-1 : Int32) then 28 else 39, [some (.ref 0), some (.int l), some (.int what)], [], (SH, mkM I J T), 0, 0)
          rcases Decidable.em (what = (-1 : Int32)) with c5 | c5
          · rw [if_pos c5]
            refine Go.of_run (Ev.mono _) 4 _ ?_
            refine ⟨Nat.le_of_ble_eq_true rfl, (((((hyp.2 c1).2 c2).2 c3).1 c4).1 c5)⟩
          · rw [if_neg c5]
            refine Go.of_run (Ev.mono _) 5 _ ?_
            refine ⟨Nat.le_of_ble_eq_true rfl, (((((hyp.2 c1).2 c2).2 c3).1 c4).2 c5)⟩
        · rw [if_neg c4]
          refine Go.of_run (Ev.mono _) 2 _ ?_
          refine ⟨trivial, ?_⟩
          show Q (some (.int (-1 : Int32))) (SH, mkM I J T)
          exact ((((hyp.2 c1).2 c2).2 c3).2 c4)
set_option maxRecDepth 20000 in
theorem ses_0 {d : Nat} {l : Int32} {I : Nat → Nat → Int32} {J : Nat → Nat → Int64} {T : Nat → Nat → Nat} {Q : Option Value → Mem → Prop} (hyp : Go none aM (Ev mt aM (d + 3)) mX12_seasons Q (2, [some (.ref 83), some (.int l), some (.int (0 : Int32)), none, none, none, none, none], [], (SH, mkM I J T), 0, 0)) : Go none aM (Ev mt aM (d + 3)) mX12_seasons Q (0, [some (.ref 83), some (.int l), none, none, none, none, none, none], [], (SH, mkM I J T), 0, 0) := by
  refine Go.of_run (Ev.mono _) 2 _ ?_
  exact hyp
set_option maxRecDepth 20000 in
theorem ses_2 {d : Nat} {l i : Int32} {I : Nat → Nat → Int32} {J : Nat → Nat → Int64} {T : Nat → Nat → Nat} {Q : Option Value → Mem → Prop} (hyp : (((1024 : Int32) ≤ i → Go none aM (Ev mt aM (d + 3)) mX12_seasons Q (24, [some (.ref 83), some (.int l), some (.int (1 : Int32)), none, none, none, none, none], [], (SH, mkM I J T), 0, 0)) ∧ ((¬ ((1024 : Int32) ≤ i)) → (vp_in i 9216 ∧ Go none aM (Ev mt aM (d + 3)) mX12_seasons Q (2, [some (.ref 83), some (.int l), some (.int (i + 1)), none, none, none, none, none], [], (SH, mkM (si I 117 i.toNatClampNeg (0 : Int32)) J T), 0, 0))))) : Go none aM (Ev mt aM (d + 3)) mX12_seasons Q (2, [some (.ref 83), some (.int l), some (.int i), none, none, none, none, none], [], (SH, mkM I J T), 0, 0) := by
  refine Go.of_run (Ev.mono _) 3 _ ?_
  show Go none aM (Ev mt aM (d + 3)) mX12_seasons Q (if (1024 : Int32) ≤ i then 22 else 9, [some (.ref 83), some (.int l), some (.int i), none, none, none, none, none], [], (SH, mkM I J T), 0, 0)
  rcases Decidable.em ((1024 : Int32) ≤ i) with c1 | c1
  · rw [if_pos c1]
    refine Go.of_run (Ev.mono _) 2 _ ?_
    exact (hyp.1 c1)
  · rw [if_neg c1]
    refine Go.of_run (Ev.mono _) 5 _ ?_
    refine ⟨(hyp.2 c1).1, ?_⟩
    refine go_si rfl ?_
    show Go none aM (Ev mt aM (d + 3)) mX12_seasons Q (16, [some (.ref 83), some (.int l), some (.int i), none, none, none, none, none], [], (SH, mkM (si I 117 i.toNatClampNeg (0 : Int32)) J T), 0, 0)
    refine Go.of_run (Ev.mono _) 2 _ ?_
    exact (hyp.2 c1).2
set_option maxRecDepth 20000 in
theorem ses_24 {d : Nat} {l t : Int32} {I : Nat → Nat → Int32} {J : Nat → Nat → Int64} {T : Nat → Nat → Nat} {Q : Option Value → Mem → Prop} (hyp : ((l < t → Q none (SH, mkM I J T)) ∧ ((¬ (l < t)) → Go none aM (Ev mt aM (d + 3)) mX12_seasons Q (31, [some (.ref 83), some (.int l), some (.int t), some (.int (0 : Int32)), none, none, none, none], [], (SH, mkM I J T), 0, 0)))) : Go none aM (Ev mt aM (d + 3)) mX12_seasons Q (24, [some (.ref 83), some (.int l), some (.int t), none, none, none, none, none], [], (SH, mkM I J T), 0, 0) := by
  refine Go.of_run (Ev.mono _) 3 _ ?_
  show Go none aM (Ev mt aM (d + 3)) mX12_seasons Q (if l < t then 135 else 29, [some (.ref 83), some (.int l), some (.int t), none, none, none, none, none], [], (SH, mkM I J T), 0, 0)
  rcases Decidable.em (l < t) with c1 | c1
  · rw [if_pos c1]
    refine Go.of_run (Ev.mono _) 1 _ ?_
    refine ⟨trivial, ?_⟩
    show Q none (SH, mkM I J T)
    exact (hyp.1 c1)
  · rw [if_neg c1]
    refine Go.of_run (Ev.mono _) 2 _ ?_
    exact (hyp.2 c1)
set_option maxRecDepth 20000 in
theorem ses_31 {d : Nat} {l t st : Int32} {I : Nat → Nat → Int32} {J : Nat → Nat → Int64} {T : Nat → Nat → Nat} {Q : Option Value → Mem → Prop} (hyp : (((1024 : Int32) ≤ st → Go none aM (Ev mt aM (d + 3)) mX12_seasons Q (24, [some (.ref 83), some (.int l), some (.int (t + 1)), none, none, none, none, none], [], (SH, mkM I J T), 0, 0)) ∧ ((¬ ((1024 : Int32) ≤ st)) → Go none aM (Ev mt aM (d + 3)) mX12_seasons Q (44, [some (.ref 83), some (.int l), some (.int t), some (.int st), some (.int (-1 : Int32)), some (.int (0 : Int32)), none, none], [], (SH, mkM I J T), 0, 0)))) : Go none aM (Ev mt aM (d + 3)) mX12_seasons Q (31, [some (.ref 83), some (.int l), some (.int t), some (.int st), none, none, none, none], [], (SH, mkM I J T), 0, 0) := by
  refine Go.of_run (Ev.mono _) 3 _ ?_
  show Go none aM (Ev mt aM (d + 3)) mX12_seasons Q (if (1024 : Int32) ≤ st then 129 else 38, [some (.ref 83), some (.int l), some (.int t), some (.int st), none, none, none, none], [], (SH, mkM I J T), 0, 0)
  rcases Decidable.em ((1024 : Int32) ≤ st) with c1 | c1
  · rw [if_pos c1]
    refine Go.of_run (Ev.mono _) 2 _ ?_
    exact Go.weak (Ev.mono _) (LLe.cons (LLe.cons (LLe.cons (LLe.drop (LLe.cons (LLe.cons (LLe.cons (LLe.cons LLe.nil)))))))) (hyp.1 c1)
  · rw [if_neg c1]
    refine Go.of_run (Ev.mono _) 4 _ ?_
    exact (hyp.2 c1)
set_option maxRecDepth 20000 in
theorem ses_44 {d : Nat} {l t st bb a : Int32} {I : Nat → Nat → Int32} {J : Nat → Nat → Int64} {T : Nat → Nat → Nat} {Q : Option Value → Mem → Prop} (hyp : (((5 : Int32) ≤ a → (vp_in (((1024 : Int32) * t) + st) 9216 ∧ Go none aM (Ev mt aM (d + 3)) mX12_seasons Q (31, [some (.ref 83), some (.int l), some (.int t), some (.int (st + 1)), none, none, none, none], [], (SH, mkM (si I 117 ((((1024 : Int32) * t) + st).toNatClampNeg) bb) J T), 0, 0))) ∧ ((¬ ((5 : Int32) ≤ a)) → Go none aM (Ev mt aM (d + 3)) mX12_seasons Q (53, [some (.ref 83), some (.int l), some (.int t), some (.int st), some (.int bb), some (.int a), some (.int (0 : Int32)), none], [], (SH, mkM I J T), 0, 0)))) : Go none aM (Ev mt aM (d + 3)) mX12_seasons Q (44, [some (.ref 83), some (.int l), some (.int t), some (.int st), some (.int bb), some (.int a), none, none], [], (SH, mkM I J T), 0, 0) := by
  refine Go.of_run (Ev.mono _) 3 _ ?_
  show Go none aM (Ev mt aM (d + 3)) mX12_seasons Q (if (5 : Int32) ≤ a then 109 else 50, [some (.ref 83), some (.int l), some (.int t), some (.int st), some (.int bb), some (.int a), none, none], [], (SH, mkM I J T), 0, 0)
  rcases Decidable.em ((5 : Int32) ≤ a) with c1 | c1
  · rw [if_pos c1]
    refine Go.of_run (Ev.mono _) 9 _ ?_
    refine ⟨(hyp.1 c1).1, ?_⟩
    refine go_si rfl ?_
    show Go none aM (Ev mt aM (d + 3)) mX12_seasons Q (123, [some (.ref 83), some (.int l), some (.int t), some (.int st), some (.int bb), some (.int a), none, none], [], (SH, mkM (si I 117 ((((1024 : Int32) * t) + st).toNatClampNeg) bb) J T), 0, 0)
    refine Go.of_run (Ev.mono _) 2 _ ?_
    exact Go.weak (Ev.mono _) (LLe.cons (LLe.cons (LLe.cons (LLe.cons (LLe.drop (LLe.drop (LLe.cons (LLe.cons LLe.nil)))))))) (hyp.1 c1).2
  · rw [if_neg c1]
    refine Go.of_run (Ev.mono _) 2 _ ?_
    exact (hyp.2 c1)
set_option maxRecDepth 20000 in
theorem ses_53 {d : Nat} {l t st bb a b : Int32} {I : Nat → Nat → Int32} {J : Nat → Nat → Int64} {T : Nat → Nat → Nat} {Q : Option Value → Mem → Prop} (hyp : (((5 : Int32) ≤ b → Go none aM (Ev mt aM (d + 3)) mX12_seasons Q (44, [some (.ref 83), some (.int l), some (.int t), some (.int st), some (.int bb), some (.int (a + 1)), none, none], [], (SH, mkM I J T), 0, 0)) ∧ ((¬ ((5 : Int32) ≤ b)) → ((a = b → Go none aM (Ev mt aM (d + 3)) mX12_seasons Q (53, [some (.ref 83), some (.int l), some (.int t), some (.int st), some (.int bb), some (.int a), some (.int (b + 1)), none], [], (SH, mkM I J T), 0, 0)) ∧ ((¬ (a = b)) → (vp_in ((2 : Int32) * a) 10 ∧ (vp_in (((2 : Int32) * b) + (1 : Int32)) 10 ∧ (vp_in (((5 : Int32) * a) + b) 25 ∧ (vp_in (((1024 : Int32) * (t - (1 : Int32))) + (v_X12_freshAfter st a b)) 9216 ∧ ((v_X12_seasonBy t st a b I ≤ bb → Go none aM (Ev mt aM (d + 3)) mX12_seasons Q (53, [some (.ref 83), some (.int l), some (.int t), some (.int st), some (.int bb), some (.int a), some (.int (b + 1)), none], [], (SH, mkM I J T), 0, 0)) ∧ ((¬ (v_X12_seasonBy t st a b I ≤ bb)) → Go none aM (Ev mt aM (d + 3)) mX12_seasons Q (53, [some (.ref 83), some (.int l), some (.int t), some (.int st), some (.int (v_X12_seasonBy t st a b I)), some (.int a), some (.int (b + 1)), none], [], (SH, mkM I J T), 0, 0)))))))))))) : Go none aM (Ev mt aM (d + 3)) mX12_seasons Q (53, [some (.ref 83), some (.int l), some (.int t), some (.int st), some (.int bb), some (.int a), some (.int b), none], [], (SH, mkM I J T), 0, 0) := by
  refine Go.of_run (Ev.mono _) 3 _ ?_
  show Go none aM (Ev mt aM (d + 3)) mX12_seasons Q (if (5 : Int32) ≤ b then 103 else 59, [some (.ref 83), some (.int l), some (.int t), some (.int st), some (.int bb), some (.int a), some (.int b), none], [], (SH, mkM I J T), 0, 0)
  rcases Decidable.em ((5 : Int32) ≤ b) with c1 | c1
  · rw [if_pos c1]
    refine Go.of_run (Ev.mono _) 2 _ ?_
    exact Go.weak (Ev.mono _) (LLe.cons (LLe.cons (LLe.cons (LLe.cons (LLe.cons (LLe.cons (LLe.drop (LLe.cons LLe.nil)))))))) (hyp.1 c1)
  · rw [if_neg c1]
    refine Go.of_run (Ev.mono _) 3 _ ?_
    show Go none aM (Ev mt aM (d + 3)) mX12_seasons Q (if a = b then 66 else 69, [some (.ref 83), some (.int l), some (.int t), some (.int st), some (.int bb), some (.int a), some (.int b), none], [], (SH, mkM I J T), 0, 0)
    rcases Decidable.em (a = b) with c2 | c2
    · rw [if_pos c2]
      refine Go.of_run (Ev.mono _) 3 _ ?_
      exact ((hyp.2 c1).1 c2)
    · rw [if_neg c2]
      refine Go.of_run (Ev.mono _) 6 _ ?_
      refine ⟨Nat.le_of_ble_eq_true rfl, ev_X12_seasonBy ⟨((hyp.2 c1).2 c2).1, ⟨((hyp.2 c1).2 c2).2.1, ⟨((hyp.2 c1).2 c2).2.2.1, ((hyp.2 c1).2 c2).2.2.2.1⟩⟩⟩ ?_⟩
      show Go none aM (Ev mt aM (d + 3)) mX12_seasons Q (79, [some (.ref 83), some (.int l), some (.int t), some (.int st), some (.int bb), some (.int a), some (.int b), none], [.int (v_X12_seasonBy t st a b I)], (SH, mkM I J T), 0, 0)
      refine Go.of_run (Ev.mono _) 4 _ ?_
      show Go none aM (Ev mt aM (d + 3)) mX12_seasons Q (if v_X12_seasonBy t st a b I ≤ bb then 93 else 88, [some (.ref 83), some (.int l), some (.int t), some (.int st), some (.int bb), some (.int a), some (.int b), some (.int (v_X12_seasonBy t st a b I))], [], (SH, mkM I J T), 0, 0)
      rcases Decidable.em (v_X12_seasonBy t st a b I ≤ bb) with c3 | c3
      · rw [if_pos c3]
        refine Go.of_run (Ev.mono _) 4 _ ?_
        exact Go.weak (Ev.mono _) (LLe.cons (LLe.cons (LLe.cons (LLe.cons (LLe.cons (LLe.cons (LLe.cons (LLe.drop LLe.nil)))))))) (((hyp.2 c1).2 c2).2.2.2.2.1 c3)
      · rw [if_neg c3]
        refine Go.of_run (Ev.mono _) 5 _ ?_
        exact Go.weak (Ev.mono _) (LLe.cons (LLe.cons (LLe.cons (LLe.cons (LLe.cons (LLe.cons (LLe.cons (LLe.drop LLe.nil)))))))) (((hyp.2 c1).2 c2).2.2.2.2.2 c3)
set_option maxRecDepth 20000 in
theorem sn_23 {d : Nat} {l what : Int32} {I : Nat → Nat → Int32} {J : Nat → Nat → Int64} {T : Nat → Nat → Nat} {Q : Option Value → Mem → Prop} (hyp : Ev mt aM (d + 3) 282 [.ref 83, .int l] (SH, mkM I J T) (fun r m1 => Go none aM (Ev mt aM (d + 3)) mX12_season Q (28, [some (.ref 83), some (.int l), some (.int what), none, none, none], r.toList ++ [], m1, 0, 0))) : Go none aM (Ev mt aM (d + 3)) mX12_season Q (23, [some (.ref 83), some (.int l), some (.int what), none, none, none], [], (SH, mkM I J T), 0, 0) := by
  refine Go.of_run (Ev.mono _) 3 _ ?_
  refine ⟨Nat.le_of_ble_eq_true rfl, hyp⟩
set_option maxRecDepth 20000 in
theorem sn_28 {d : Nat} {l what : Int32} {I : Nat → Nat → Int32} {J : Nat → Nat → Int64} {T : Nat → Nat → Nat} {Q : Option Value → Mem → Prop} (hyp : ((what = (-1 : Int32) → (vp_in (((1024 : Int32) * l) + ((((((0 : Int32) ||| ((I 89 0) <<< ((0 : Int32) &&& 31))) ||| ((I 89 1) <<< ((2 : Int32) &&& 31))) ||| ((I 89 2) <<< ((4 : Int32) &&& 31))) ||| ((I 89 3) <<< ((6 : Int32) &&& 31))) ||| ((I 89 4) <<< ((8 : Int32) &&& 31)))) 9216 ∧ Q (some (.int (I 117 ((((1024 : Int32) * l) + ((((((0 : Int32) ||| ((I 89 0) <<< ((0 : Int32) &&& 31))) ||| ((I 89 1) <<< ((2 : Int32) &&& 31))) ||| ((I 89 2) <<< ((4 : Int32) &&& 31))) ||| ((I 89 3) <<< ((6 : Int32) &&& 31))) ||| ((I 89 4) <<< ((8 : Int32) &&& 31)))).toNatClampNeg)))) (SH, mkM I J T))) ∧ ((¬ (what = (-1 : Int32))) → Go none aM (Ev mt aM (d + 3)) mX12_season Q (84, [some (.ref 83), some (.int l), some (.int what), some (.int ((((((0 : Int32) ||| ((I 89 0) <<< ((0 : Int32) &&& 31))) ||| ((I 89 1) <<< ((2 : Int32) &&& 31))) ||| ((I 89 2) <<< ((4 : Int32) &&& 31))) ||| ((I 89 3) <<< ((6 : Int32) &&& 31))) ||| ((I 89 4) <<< ((8 : Int32) &&& 31)))), some (.int (0 : Int32)), some (.int (0 : Int32))], [], (SH, mkM I J T), 0, 0)))) : Go none aM (Ev mt aM (d + 3)) mX12_season Q (28, [some (.ref 83), some (.int l), some (.int what), none, none, none], [], (SH, mkM I J T), 0, 0) := by
  refine Go.of_run (Ev.mono _) 7 _ ?_
  show Go none aM (Ev mt aM (d + 3)) mX12_season Q (if (5 : Int32) ≤ (0 : Int32) then 60 else 39, [some (.ref 83), some (.int l), some (.int what), some (.int (0 : Int32)), some (.int (0 : Int32)), none], [], (SH, mkM I J T), 0, 0)
  rw [if_neg (by decide : ¬ ((5 : Int32) ≤ (0 : Int32)))]
  refine Go.of_run (Ev.mono _) 5 _ ?_
  refine ⟨(by unfold vp_in; decide : vp_in (0 : Int32) 5), ?_⟩
  show Go none aM (Ev mt aM (d + 3)) mX12_season Q (47, [some (.ref 83), some (.int l), some (.int what), some (.int (0 : Int32)), some (.int (0 : Int32)), none], [.int (I 89 0), .int (0 : Int32)], (SH, mkM I J T), 0, 0)
  refine Go.of_run (Ev.mono _) 11 _ ?_
  show Go none aM (Ev mt aM (d + 3)) mX12_season Q (if (5 : Int32) ≤ (1 : Int32) then 60 else 39, [some (.ref 83), some (.int l), some (.int what), some (.int ((0 : Int32) ||| ((I 89 0) <<< ((0 : Int32) &&& 31)))), some (.int (1 : Int32)), none], [], (SH, mkM I J T), 0, 0)
  rw [if_neg (by decide : ¬ ((5 : Int32) ≤ (1 : Int32)))]
  refine Go.of_run (Ev.mono _) 5 _ ?_
  refine ⟨(by unfold vp_in; decide : vp_in (1 : Int32) 5), ?_⟩
  show Go none aM (Ev mt aM (d + 3)) mX12_season Q (47, [some (.ref 83), some (.int l), some (.int what), some (.int ((0 : Int32) ||| ((I 89 0) <<< ((0 : Int32) &&& 31)))), some (.int (1 : Int32)), none], [.int (I 89 1), .int ((0 : Int32) ||| ((I 89 0) <<< ((0 : Int32) &&& 31)))], (SH, mkM I J T), 0, 0)
  refine Go.of_run (Ev.mono _) 11 _ ?_
  show Go none aM (Ev mt aM (d + 3)) mX12_season Q (if (5 : Int32) ≤ (2 : Int32) then 60 else 39, [some (.ref 83), some (.int l), some (.int what), some (.int (((0 : Int32) ||| ((I 89 0) <<< ((0 : Int32) &&& 31))) ||| ((I 89 1) <<< ((2 : Int32) &&& 31)))), some (.int (2 : Int32)), none], [], (SH, mkM I J T), 0, 0)
  rw [if_neg (by decide : ¬ ((5 : Int32) ≤ (2 : Int32)))]
  refine Go.of_run (Ev.mono _) 5 _ ?_
  refine ⟨(by unfold vp_in; decide : vp_in (2 : Int32) 5), ?_⟩
  show Go none aM (Ev mt aM (d + 3)) mX12_season Q (47, [some (.ref 83), some (.int l), some (.int what), some (.int (((0 : Int32) ||| ((I 89 0) <<< ((0 : Int32) &&& 31))) ||| ((I 89 1) <<< ((2 : Int32) &&& 31)))), some (.int (2 : Int32)), none], [.int (I 89 2), .int (((0 : Int32) ||| ((I 89 0) <<< ((0 : Int32) &&& 31))) ||| ((I 89 1) <<< ((2 : Int32) &&& 31)))], (SH, mkM I J T), 0, 0)
  refine Go.of_run (Ev.mono _) 11 _ ?_
  show Go none aM (Ev mt aM (d + 3)) mX12_season Q (if (5 : Int32) ≤ (3 : Int32) then 60 else 39, [some (.ref 83), some (.int l), some (.int what), some (.int ((((0 : Int32) ||| ((I 89 0) <<< ((0 : Int32) &&& 31))) ||| ((I 89 1) <<< ((2 : Int32) &&& 31))) ||| ((I 89 2) <<< ((4 : Int32) &&& 31)))), some (.int (3 : Int32)), none], [], (SH, mkM I J T), 0, 0)
  rw [if_neg (by decide : ¬ ((5 : Int32) ≤ (3 : Int32)))]
  refine Go.of_run (Ev.mono _) 5 _ ?_
  refine ⟨(by unfold vp_in; decide : vp_in (3 : Int32) 5), ?_⟩
  show Go none aM (Ev mt aM (d + 3)) mX12_season Q (47, [some (.ref 83), some (.int l), some (.int what), some (.int ((((0 : Int32) ||| ((I 89 0) <<< ((0 : Int32) &&& 31))) ||| ((I 89 1) <<< ((2 : Int32) &&& 31))) ||| ((I 89 2) <<< ((4 : Int32) &&& 31)))), some (.int (3 : Int32)), none], [.int (I 89 3), .int ((((0 : Int32) ||| ((I 89 0) <<< ((0 : Int32) &&& 31))) ||| ((I 89 1) <<< ((2 : Int32) &&& 31))) ||| ((I 89 2) <<< ((4 : Int32) &&& 31)))], (SH, mkM I J T), 0, 0)
  refine Go.of_run (Ev.mono _) 11 _ ?_
  show Go none aM (Ev mt aM (d + 3)) mX12_season Q (if (5 : Int32) ≤ (4 : Int32) then 60 else 39, [some (.ref 83), some (.int l), some (.int what), some (.int (((((0 : Int32) ||| ((I 89 0) <<< ((0 : Int32) &&& 31))) ||| ((I 89 1) <<< ((2 : Int32) &&& 31))) ||| ((I 89 2) <<< ((4 : Int32) &&& 31))) ||| ((I 89 3) <<< ((6 : Int32) &&& 31)))), some (.int (4 : Int32)), none], [], (SH, mkM I J T), 0, 0)
  rw [if_neg (by decide : ¬ ((5 : Int32) ≤ (4 : Int32)))]
  refine Go.of_run (Ev.mono _) 5 _ ?_
  refine ⟨(by unfold vp_in; decide : vp_in (4 : Int32) 5), ?_⟩
  show Go none aM (Ev mt aM (d + 3)) mX12_season Q (47, [some (.ref 83), some (.int l), some (.int what), some (.int (((((0 : Int32) ||| ((I 89 0) <<< ((0 : Int32) &&& 31))) ||| ((I 89 1) <<< ((2 : Int32) &&& 31))) ||| ((I 89 2) <<< ((4 : Int32) &&& 31))) ||| ((I 89 3) <<< ((6 : Int32) &&& 31)))), some (.int (4 : Int32)), none], [.int (I 89 4), .int (((((0 : Int32) ||| ((I 89 0) <<< ((0 : Int32) &&& 31))) ||| ((I 89 1) <<< ((2 : Int32) &&& 31))) ||| ((I 89 2) <<< ((4 : Int32) &&& 31))) ||| ((I 89 3) <<< ((6 : Int32) &&& 31)))], (SH, mkM I J T), 0, 0)
  refine Go.of_run (Ev.mono _) 11 _ ?_
  show Go none aM (Ev mt aM (d + 3)) mX12_season Q (if (5 : Int32) ≤ (5 : Int32) then 60 else 39, [some (.ref 83), some (.int l), some (.int what), some (.int ((((((0 : Int32) ||| ((I 89 0) <<< ((0 : Int32) &&& 31))) ||| ((I 89 1) <<< ((2 : Int32) &&& 31))) ||| ((I 89 2) <<< ((4 : Int32) &&& 31))) ||| ((I 89 3) <<< ((6 : Int32) &&& 31))) ||| ((I 89 4) <<< ((8 : Int32) &&& 31)))), some (.int (5 : Int32)), none], [], (SH, mkM I J T), 0, 0)
  rw [if_pos (by decide : (5 : Int32) ≤ (5 : Int32))]
  refine Go.of_run (Ev.mono _) 3 _ ?_
  show Go none aM (Ev mt aM (d + 3)) mX12_season Q (if what = (-1 : Int32) then 65 else 78, [some (.ref 83), some (.int l), some (.int what), some (.int ((((((0 : Int32) ||| ((I 89 0) <<< ((0 : Int32) &&& 31))) ||| ((I 89 1) <<< ((2 : Int32) &&& 31))) ||| ((I 89 2) <<< ((4 : Int32) &&& 31))) ||| ((I 89 3) <<< ((6 : Int32) &&& 31))) ||| ((I 89 4) <<< ((8 : Int32) &&& 31)))), some (.int (5 : Int32)), none], [], (SH, mkM I J T), 0, 0)
  rcases Decidable.em (what = (-1 : Int32)) with c1 | c1
  · rw [if_pos c1]
    refine Go.of_run (Ev.mono _) 8 _ ?_
    refine ⟨(hyp.1 c1).1, ?_⟩
    show Go none aM (Ev mt aM (d + 3)) mX12_season Q (77, [some (.ref 83), some (.int l), some (.int what), some (.int ((((((0 : Int32) ||| ((I 89 0) <<< ((0 : Int32) &&& 31))) ||| ((I 89 1) <<< ((2 : Int32) &&& 31))) ||| ((I 89 2) <<< ((4 : Int32) &&& 31))) ||| ((I 89 3) <<< ((6 : Int32) &&& 31))) ||| ((I 89 4) <<< ((8 : Int32) &&& 31)))), some (.int (5 : Int32)), none], [.int (I 117 ((((1024 : Int32) * l) + ((((((0 : Int32) ||| ((I 89 0) <<< ((0 : Int32) &&& 31))) ||| ((I 89 1) <<< ((2 : Int32) &&& 31))) ||| ((I 89 2) <<< ((4 : Int32) &&& 31))) ||| ((I 89 3) <<< ((6 : Int32) &&& 31))) ||| ((I 89 4) <<< ((8 : Int32) &&& 31)))).toNatClampNeg))], (SH, mkM I J T), 0, 0)
    refine Go.of_run (Ev.mono _) 1 _ ?_
    refine ⟨trivial, ?_⟩
    show Q (some (.int (I 117 ((((1024 : Int32) * l) + ((((((0 : Int32) ||| ((I 89 0) <<< ((0 : Int32) &&& 31))) ||| ((I 89 1) <<< ((2 : Int32) &&& 31))) ||| ((I 89 2) <<< ((4 : Int32) &&& 31))) ||| ((I 89 3) <<< ((6 : Int32) &&& 31))) ||| ((I 89 4) <<< ((8 : Int32) &&& 31)))).toNatClampNeg)))) (SH, mkM I J T)
    exact (hyp.1 c1).2
  · rw [if_neg c1]
    refine Go.of_run (Ev.mono _) 4 _ ?_
    exact (hyp.2 c1)
set_option maxRecDepth 20000 in
theorem sn_84 {d : Nat} {l what st row w : Int32} {I : Nat → Nat → Int32} {J : Nat → Nat → Int64} {T : Nat → Nat → Nat} {Q : Option Value → Mem → Prop} (hyp : ((what < w → Q (some (.int row)) (SH, mkM I J T)) ∧ ((¬ (what < w)) → Go none aM (Ev mt aM (d + 3)) mX12_season Q (93, [some (.ref 83), some (.int l), some (.int what), some (.int st), some (.int (1 : Int32)), some (.int w)], [], (SH, mkM I J T), 0, 0)))) : Go none aM (Ev mt aM (d + 3)) mX12_season Q (84, [some (.ref 83), some (.int l), some (.int what), some (.int st), some (.int row), some (.int w)], [], (SH, mkM I J T), 0, 0) := by
  refine Go.of_run (Ev.mono _) 3 _ ?_
  show Go none aM (Ev mt aM (d + 3)) mX12_season Q (if what < w then 167 else 90, [some (.ref 83), some (.int l), some (.int what), some (.int st), some (.int row), some (.int w)], [], (SH, mkM I J T), 0, 0)
  rcases Decidable.em (what < w) with c1 | c1
  · rw [if_pos c1]
    refine Go.of_run (Ev.mono _) 2 _ ?_
    refine ⟨trivial, ?_⟩
    show Q (some (.int row)) (SH, mkM I J T)
    exact (hyp.1 c1)
  · rw [if_neg c1]
    refine Go.of_run (Ev.mono _) 2 _ ?_
    exact (hyp.2 c1)
set_option maxRecDepth 20000 in
theorem sn_93 {d : Nat} {l what st row w : Int32} {I : Nat → Nat → Int32} {J : Nat → Nat → Int64} {T : Nat → Nat → Nat} {Q : Option Value → Mem → Prop} (hyp : ((row / (5 : Int32) = row - row / (5 : Int32) * (5 : Int32) → Go none aM (Ev mt aM (d + 3)) mX12_season Q (93, [some (.ref 83), some (.int l), some (.int what), some (.int st), some (.int (row + (1 : Int32))), some (.int w)], [], (SH, mkM I J T), 0, 0)) ∧ ((¬ (row / (5 : Int32) = row - row / (5 : Int32) * (5 : Int32))) → (vp_in ((2 : Int32) * (row / (5 : Int32))) 10 ∧ (vp_in (((2 : Int32) * (row - row / (5 : Int32) * (5 : Int32))) + (1 : Int32)) 10 ∧ (vp_in (((5 : Int32) * (row / (5 : Int32))) + (row - row / (5 : Int32) * (5 : Int32))) 25 ∧ (vp_in (((1024 : Int32) * ((l - w) - (1 : Int32))) + (v_X12_freshAfter st (row / (5 : Int32)) (row - row / (5 : Int32) * (5 : Int32)))) 9216 ∧ (vp_in (((1024 : Int32) * (l - w)) + st) 9216 ∧ ((v_X12_seasonBy (l - w) st (row / (5 : Int32)) (row - row / (5 : Int32) * (5 : Int32)) I = I 117 ((((1024 : Int32) * (l - w)) + st).toNatClampNeg) → Go none aM (Ev mt aM (d + 3)) mX12_season Q (84, [some (.ref 83), some (.int l), some (.int what), some (.int (v_X12_freshAfter st (row / (5 : Int32)) (row - row / (5 : Int32) * (5 : Int32)))), some (.int row), some (.int (w + 1))], [], (SH, mkM I J T), 0, 0)) ∧ ((¬ (v_X12_seasonBy (l - w) st (row / (5 : Int32)) (row - row / (5 : Int32) * (5 : Int32)) I = I 117 ((((1024 : Int32) * (l - w)) + st).toNatClampNeg))) → Go none aM (Ev mt aM (d + 3)) mX12_season Q (93, [some (.ref 83), some (.int l), some (.int what), some (.int st), some (.int (row + (1 : Int32))), some (.int w)], [], (SH, mkM I J T), 0, 0))))))))))) : Go none aM (Ev mt aM (d + 3)) mX12_season Q (93, [some (.ref 83), some (.int l), some (.int what), some (.int st), some (.int row), some (.int w)], [], (SH, mkM I J T), 0, 0) := by
  refine Go.of_run (Ev.mono _) 3 _ ?_
  refine ⟨(by decide : ¬ (5 : Int32) = 0), ?_⟩
  show Go none aM (Ev mt aM (d + 3)) mX12_season Q (97, [some (.ref 83), some (.int l), some (.int what), some (.int st), some (.int row), some (.int w)], [.int (row / (5 : Int32))], (SH, mkM I J T), 0, 0)
  refine Go.of_run (Ev.mono _) 3 _ ?_
  refine ⟨(by decide : ¬ (5 : Int32) = 0), ?_⟩
  show Go none aM (Ev mt aM (d + 3)) mX12_season Q (101, [some (.ref 83), some (.int l), some (.int what), some (.int st), some (.int row), some (.int w)], [.int (row - row / (5 : Int32) * (5 : Int32)), .int (row / (5 : Int32))], (SH, mkM I J T), 0, 0)
  refine Go.of_run (Ev.mono _) 1 _ ?_
  show Go none aM (Ev mt aM (d + 3)) mX12_season Q (if row / (5 : Int32) = row - row / (5 : Int32) * (5 : Int32) then 139 else 104, [some (.ref 83), some (.int l), some (.int what), some (.int st), some (.int row), some (.int w)], [], (SH, mkM I J T), 0, 0)
  rcases Decidable.em (row / (5 : Int32) = row - row / (5 : Int32) * (5 : Int32)) with c1 | c1
  · rw [if_pos c1]
    refine Go.of_run (Ev.mono _) 5 _ ?_
    exact (hyp.1 c1)
  · rw [if_neg c1]
    refine Go.of_run (Ev.mono _) 8 _ ?_
    refine ⟨(by decide : ¬ (5 : Int32) = 0), ?_⟩
    show Go none aM (Ev mt aM (d + 3)) mX12_season Q (114, [some (.ref 83), some (.int l), some (.int what), some (.int st), some (.int row), some (.int w)], [.int (row / (5 : Int32)), .int st, .int (l - w), .ref 83], (SH, mkM I J T), 0, 0)
    refine Go.of_run (Ev.mono _) 3 _ ?_
    refine ⟨(by decide : ¬ (5 : Int32) = 0), ?_⟩
    show Go none aM (Ev mt aM (d + 3)) mX12_season Q (118, [some (.ref 83), some (.int l), some (.int what), some (.int st), some (.int row), some (.int w)], [.int (row - row / (5 : Int32) * (5 : Int32)), .int (row / (5 : Int32)), .int st, .int (l - w), .ref 83], (SH, mkM I J T), 0, 0)
    refine Go.of_run (Ev.mono _) 1 _ ?_
    refine ⟨Nat.le_of_ble_eq_true rfl, ev_X12_seasonBy ⟨(hyp.2 c1).1, ⟨(hyp.2 c1).2.1, ⟨(hyp.2 c1).2.2.1, (hyp.2 c1).2.2.2.1⟩⟩⟩ ?_⟩
    show Go none aM (Ev mt aM (d + 3)) mX12_season Q (121, [some (.ref 83), some (.int l), some (.int what), some (.int st), some (.int row), some (.int w)], [.int (v_X12_seasonBy (l - w) st (row / (5 : Int32)) (row - row / (5 : Int32) * (5 : Int32)) I)], (SH, mkM I J T), 0, 0)
    refine Go.of_run (Ev.mono _) 10 _ ?_
    refine ⟨(hyp.2 c1).2.2.2.2.1, ?_⟩
    show Go none aM (Ev mt aM (d + 3)) mX12_season Q (136, [some (.ref 83), some (.int l), some (.int what), some (.int st), some (.int row), some (.int w)], [.int (I 117 ((((1024 : Int32) * (l - w)) + st).toNatClampNeg)), .int (v_X12_seasonBy (l - w) st (row / (5 : Int32)) (row - row / (5 : Int32) * (5 : Int32)) I)], (SH, mkM I J T), 0, 0)
    refine Go.of_run (Ev.mono _) 1 _ ?_
    show Go none aM (Ev mt aM (d + 3)) mX12_season Q (if v_X12_seasonBy (l - w) st (row / (5 : Int32)) (row - row / (5 : Int32) * (5 : Int32)) I = I 117 ((((1024 : Int32) * (l - w)) + st).toNatClampNeg) then 148 else 139, [some (.ref 83), some (.int l), some (.int what), some (.int st), some (.int row), some (.int w)], [], (SH, mkM I J T), 0, 0)
    rcases Decidable.em (v_X12_seasonBy (l - w) st (row / (5 : Int32)) (row - row / (5 : Int32) * (5 : Int32)) I = I 117 ((((1024 : Int32) * (l - w)) + st).toNatClampNeg)) with c2 | c2
    · rw [if_pos c2]
      refine Go.of_run (Ev.mono _) 4 _ ?_
      refine ⟨(by decide : ¬ (5 : Int32) = 0), ?_⟩
      show Go none aM (Ev mt aM (d + 3)) mX12_season Q (153, [some (.ref 83), some (.int l), some (.int what), some (.int st), some (.int row), some (.int w)], [.int (row / (5 : Int32)), .int st], (SH, mkM I J T), 0, 0)
      refine Go.of_run (Ev.mono _) 3 _ ?_
      refine ⟨(by decide : ¬ (5 : Int32) = 0), ?_⟩
      show Go none aM (Ev mt aM (d + 3)) mX12_season Q (157, [some (.ref 83), some (.int l), some (.int what), some (.int st), some (.int row), some (.int w)], [.int (row - row / (5 : Int32) * (5 : Int32)), .int (row / (5 : Int32)), .int st], (SH, mkM I J T), 0, 0)
      refine Go.of_run (Ev.mono _) 1 _ ?_
      refine ⟨Nat.le_of_ble_eq_true rfl, ev_X12_freshAfter ?_⟩
      show Go none aM (Ev mt aM (d + 3)) mX12_season Q (160, [some (.ref 83), some (.int l), some (.int what), some (.int st), some (.int row), some (.int w)], [.int (v_X12_freshAfter st (row / (5 : Int32)) (row - row / (5 : Int32) * (5 : Int32)))], (SH, mkM I J T), 0, 0)
      refine Go.of_run (Ev.mono _) 3 _ ?_
      exact ((hyp.2 c1).2.2.2.2.2.1 c2)
    · rw [if_neg c2]
      refine Go.of_run (Ev.mono _) 5 _ ?_
      exact ((hyp.2 c1).2.2.2.2.2.2 c2)
/-! the class's SEASON -/
theorem wk_c {A : Tm} {I : Nat → Nat → Int32} {st row : Nat} (h2 : ∀ j, j < 10 → I 2 j = nI (qG A j)) (h5 : ∀ j, j < 25 → I 5 j = nI (qX A j)) (hst : st < 1024) (hr : row < 25) : ((((v_X7_goodAt (nI (row / 5)) (0 : Int32) I) * ((nI st >>> (((2 : Int32) * (nI (row / 5))) &&& 31)) &&& (3 : Int32))) + ((v_X7_goodAt (nI (row % 5)) (1 : Int32) I) * ((nI st >>> (((2 : Int32) * (nI (row % 5))) &&& 31)) &&& (3 : Int32)))) + (v_X7_pairOf (nI (row / 5)) (nI (row % 5)) I)) = nI (wkF (qG A) (qX A) st row) := by
  have g1 : v_X7_goodAt (nI (row / 5)) (0 : Int32) I = nI (qG A (2 * (row / 5))) := by
    unfold v_X7_goodAt v_X5_at_2
    rw [show (2 : Int32) = nI 2 from rfl, pk_mul, show (0 : Int32) = nI 0 from rfl, nI_add, nI_clamp (by omega)]
    exact h2 _ (by omega)
  have g2 : v_X7_goodAt (nI (row % 5)) (1 : Int32) I = nI (qG A (2 * (row % 5) + 1)) := by
    unfold v_X7_goodAt v_X5_at_2
    rw [show (2 : Int32) = nI 2 from rfl, pk_mul, show (1 : Int32) = nI 1 from rfl, nI_add, nI_clamp (by omega)]
    exact h2 _ (by omega)
  have g3 : v_X7_pairOf (nI (row / 5)) (nI (row % 5)) I = nI (qX A (5 * (row / 5) + row % 5)) := by
    unfold v_X7_pairOf v_X5_at_5
    rw [show (5 : Int32) = nI 5 from rfl, pk_mul, nI_add, nI_clamp (by omega)]
    exact h5 _ (by omega)
  rw [g1, g2, g3, fr_c hst (by omega), fr_c hst (by omega), pk_mul, pk_mul, nI_add, nI_add]
  rfl
theorem row_c {row : Nat} (h : row < 25) : nI row / (5 : Int32) = nI (row / 5) ∧ nI row - nI row / (5 : Int32) * (5 : Int32) = nI (row % 5) ∧ (v_X6_isRow (nI row) = 0 ↔ rowB row = false) := by
  have e1 : nI row / (5 : Int32) = nI (row / 5) := by rw [show (5 : Int32) = nI 5 from rfl, pk_div (by omega) (by omega) (by omega)]
  have e2 : nI row - nI row / (5 : Int32) * (5 : Int32) = nI (row % 5) := by rw [show (5 : Int32) = nI 5 from rfl, pk_rem (by omega) (by omega) (by omega)]
  refine ⟨e1, e2, ?_⟩
  unfold v_X6_isRow w1_X6_isRow rowB
  rw [e2, e1]
  by_cases q : row / 5 = row % 5
  · rw [if_pos (by rw [q]), q, Nat.beq_refl]
    exact ⟨fun _ => rfl, fun _ => rfl⟩
  · rw [if_neg (fun e => q ((nI_eq (by omega) (by omega)).mp e))]
    have : Nat.beq (row / 5) (row % 5) = false := by
      cases hb : Nat.beq (row / 5) (row % 5) with
      | false => rfl
      | true => exact absurd (Nat.eq_of_beq_eq_true hb) q
    rw [this]
    exact ⟨fun e => absurd e (by decide), fun e => absurd e (by decide)⟩
def GX (A : Tm) (I : Nat → Nat → Int32) : Prop := (∀ j, j < 10 → I 2 j = nI (qG A j)) ∧ ∀ j, j < 25 → I 5 j = nI (qX A j)
def MosOK (A : Tm) (l : Nat) : Prop := ∀ (d st : Nat) (I : Nat → Nat → Int32) (J : Nat → Nat → Int64) (T : Nat → Nat → Nat) (Q : Option Value → Mem → Prop), GX A I → SMO (qG A) (qX A) J → st < 1024 → (∀ J', Fj [82] J J' → SMO (qG A) (qX A) J' → Q (some (.int (nI (sV (qG A) (qX A) l st)))) (SH, mkM I J' T)) → Ev mt aM (d + (3 * l + 5)) 65 [.ref 81, .int (nI l), .int (nI st)] (SH, mkM I J T) Q
theorem ev_worS {A : Tm} {l : Nat} (hm : MosOK A l) (hl : l < 8) {d st row : Nat} {I : Nat → Nat → Int32} {J : Nat → Nat → Int64} {T : Nat → Nat → Nat} {Q : Option Value → Mem → Prop} (hG : GX A I) (hS : SMO (qG A) (qX A) J) (hst : st < 1024) (hr : row < 25) (g : ∀ J', Fj [82] J J' → SMO (qG A) (qX A) J' → Q (some (.int (nI (sF (qG A) (qX A) l st row)))) (SH, mkM I J' T)) : Ev mt aM (d + (3 * l + 6)) 69 [.ref 81, .int (nI (l + 1)), .int (nI st), .int (nI row)] (SH, mkM I J T) Q := by
  obtain ⟨r1, r2, _⟩ := row_c hr
  obtain ⟨n1, n2, _⟩ := nx_c hst hr
  have hk := wk_c (A := A) (I := I) hG.1 hG.2 hst hr
  refine Ev.intro mX6_worthOf rfl rfl (wor_0 (d := d + (3 * l + 3)) ?_)
  rw [r2, r1, hk, n2, nI_pred]
  refine ⟨?_, ?_, ?_, ?_⟩
  · rw [show (2 : Int32) = nI 2 from rfl, pk_mul, show (0 : Int32) = nI 0 from rfl, nI_add]
    exact vp_in_nI (by omega) (by omega)
  · rw [show (2 : Int32) = nI 2 from rfl, pk_mul, show (1 : Int32) = nI 1 from rfl, nI_add]
    exact vp_in_nI (by omega) (by omega)
  · rw [show (5 : Int32) = nI 5 from rfl, pk_mul, nI_add]
    exact vp_in_nI (by omega) (by omega)
  · refine hm d (nxS st row) I J T _ hG hS n1 (fun J1 j1 s1 => wor_e (d := d + (3 * l + 3)) ?_)
    rw [nI_add]
    exact g J1 j1 s1
theorem sF_lt {A : Tm} (hA : BD A) {l st row : Nat} (hl : l < 8) (hr : row < 25) : sF (qG A) (qX A) l st row ≤ 504 := by
  have h1 := wk_le (G := qG A) (X := qX A) hA.2.2.2.2.1 hA.2.2.2.2.2.2.2.1 (st := st) hr
  have h2 := sV_le (G := qG A) (X := qX A) hA.2.2.2.2.1 hA.2.2.2.2.2.2.2.1 l (nxS st row)
  show wkF (qG A) (qX A) st row + sV (qG A) (qX A) l (nxS st row) ≤ 504
  omega
theorem ev_srhS {A : Tm} (hA : BD A) {l : Nat} (hm : MosOK A l) (hl : l < 8) {d st : Nat} {I : Nat → Nat → Int32} {J : Nat → Nat → Int64} {T : Nat → Nat → Nat} {Q : Option Value → Mem → Prop} (hG : GX A I) (hS : SMO (qG A) (qX A) J) (hst : st < 1024) (g : ∀ J', Fj [82] J J' → SMO (qG A) (qX A) J' → Q (some (.int (nI (sV (qG A) (qX A) (l + 1) st)))) (SH, mkM I J' T)) : Ev mt aM (d + (3 * l + 7)) 66 [.ref 81, .int (nI (l + 1)), .int (nI st)] (SH, mkM I J T) Q := by
  refine Ev.intro mX6_search rfl rfl (srh_0 (d := d + (3 * l + 5)) ?_)
  have loop : ∀ (m k : Nat) (J1 : Nat → Nat → Int64), m + k = 25 → Fj [82] J J1 → SMO (qG A) (qX A) J1 → Go none aM (Ev mt aM (d + (3 * l + 5) + 1)) mX6_search Q (5, [some (.ref 81), some (.int (nI (l + 1))), some (.int (nI st)), some (.int (nI (smx (sF (qG A) (qX A) l st) k))), some (.int (nI k))], [], (SH, mkM I J1 T), 0, 0) := by
    intro m
    induction m with
    | zero =>
      intro k J1 hk j1 s1
      have hk : k = 25 := by omega
      subst hk
      exact srh_5 (d := d + (3 * l + 5)) ⟨fun _ => g J1 j1 s1, fun c => absurd (Int32.le_refl _) c⟩
    | succ m ih =>
      intro k J1 hk j1 s1
      have hk5 : k < 25 := by omega
      obtain ⟨_, _, r3⟩ := row_c hk5
      have step : smx (sF (qG A) (qX A) l st) (k + 1) = if rowB k = true ∧ smx (sF (qG A) (qX A) l st) k < sF (qG A) (qX A) l st k then sF (qG A) (qX A) l st k else smx (sF (qG A) (qX A) l st) k := rfl
      have b1 := smx_le (f := sF (qG A) (qX A) l st) (M := 504) (fun r hr => sF_lt hA hl hr) k (by omega)
      have b2 := sF_lt hA (st := st) hl hk5
      refine srh_5 (d := d + (3 * l + 5)) ⟨fun c => absurd c (nI_ge (b := 25) hk5 (by omega)), fun _ => ⟨fun c => ?_, fun c => ?_⟩⟩
      · rw [if_neg (fun q => by rw [r3.mp c] at q; exact absurd q.1 (by decide))] at step
        rw [← step, nI_1]
        exact ih (k + 1) J1 (by omega) j1 s1
      · have hb : rowB k = true := by
          cases hb : rowB k with
          | true => rfl
          | false => exact absurd (r3.mpr hb) c
        refine ev_worS hm hl (d := d) hG s1 hst hk5 (fun J2 j2 s2 => srh_29 (d := d + (3 * l + 5)) ?_)
        have nx := ih (k + 1) J2 (by omega) (j1.trans j2) s2
        rw [step] at nx
        rw [nI_1]
        by_cases q : smx (sF (qG A) (qX A) l st) k < sF (qG A) (qX A) l st k
        · rw [if_pos ⟨hb, q⟩] at nx
          rw [if_pos (nI_lt q (by omega))]
          exact nx
        · rw [if_neg (fun e => q e.2)] at nx
          rw [if_neg (nI_nlt (by omega) (by omega))]
          exact nx
  exact loop 25 0 J rfl (Fj.rfl' _ _) hS
theorem mos_ok {A : Tm} (hA : BD A) : ∀ l, l ≤ 8 → MosOK A l := by
  intro l
  induction l with
  | zero => intro _ d st I J T Q hG hS hst g; exact Ev.intro mX6_most rfl rfl (mos_z (d := d + 3) (g J (Fj.rfl' _ _) hS))
  | succ l ih =>
    intro hl d st I J T Q hG hS hst g
    have ih := ih (by omega)
    have vst : vp_in (nI st) 1024 := vp_in_nI hst (by omega)
    have hv := sV_le (G := qG A) (X := qX A) hA.2.2.2.2.1 hA.2.2.2.2.2.2.2.1 (l + 1) st
    have e11 : ∀ x : Nat, (nI x + (1 : Int32)) - (1 : Int32) = nI x := fun x => by rw [nI_1]; exact nI_pred x
    rcases Nat.lt_or_ge l 7 with h7 | h7
    · obtain ⟨S, b1, b2, b3⟩ := hS st hst
      have eJ : v_X5_longAt_82 (nI st) J = lN S := by
        show J 82 (nI st).toNatClampNeg = _
        rw [nI_clamp (by omega)]
        exact b2
      refine Ev.intro mX6_most rfl rfl (mos_0 (d := d + (3 * l + 6)) (nI_nle (by omega) (by omega)) (nI_le (b := 8) (by omega) (by omega)) (nI_ge (b := 8) (by omega) (by omega)) ⟨vst, ?_⟩)
      rw [eJ]
      have pg := pk_get h7 b1
      rw [show (lN S >>> (((9 : Int32) * (nI (l + 1) - (1 : Int32))).toInt64 &&& 63)).toInt32 &&& (511 : Int32) = nI (S / 512 ^ l % 512) from pg]
      refine ⟨fun c => ?_, fun c => ?_⟩
      · have hz : S / 512 ^ l % 512 = 0 := by
          rcases Nat.eq_zero_or_pos (S / 512 ^ l % 512) with q | q
          · exact q
          · exact absurd c (nI_ne0 q (by omega))
        refine ev_srhS hA ih (by omega) (d := d) hG hS hst (fun J1 j1 s1 => mos_69 (d := d + (3 * l + 6)) ⟨vst, vst, ?_⟩)
        obtain ⟨S1, c1, c2, c3⟩ := s1 st hst
        have eJ1 : v_X5_longAt_82 (nI st) J1 = lN S1 := by
          show J1 82 (nI st).toNatClampNeg = _
          rw [nI_clamp (by omega)]
          exact c2
        rw [eJ1, e11, nI_1, nI_clamp (by omega)]
        rcases c3 l h7 with z | z
        · rw [show lN S1 ||| (nI (sV (qG A) (qX A) (l + 1) st + 1)).toInt64 <<< (((9 : Int32) * (nI (l + 1) - (1 : Int32))).toInt64 &&& 63) = lN (S1 + (sV (qG A) (qX A) (l + 1) st + 1) * 512 ^ l) from pk_put h7 (by omega) z]
          exact g _ (j1.to rfl) (s1.put hst h7 c1 c2 c3 z (by omega))
        · rw [show lN S1 ||| (nI (sV (qG A) (qX A) (l + 1) st + 1)).toInt64 <<< (((9 : Int32) * (nI (l + 1) - (1 : Int32))).toInt64 &&& 63) = lN S1 from pk_same h7 z]
          refine g _ (j1.to rfl) ?_
          have e : sj J1 82 st (lN S1) = J1 := by
            funext o' b'
            unfold sj
            by_cases hc : o' = 82 ∧ b' = st
            · rw [if_pos hc, hc.1, hc.2, c2]
            · rw [if_neg hc]
          rw [e]
          exact s1
      · have z : S / 512 ^ l % 512 = sV (qG A) (qX A) (l + 1) st + 1 := by
          rcases b3 l h7 with z | z
          · rw [z] at c; exact absurd rfl c
          · exact z
        rw [z, nI_pred]
        exact g J (Fj.rfl' _ _) hS
    · have hl7 : l = 7 := by omega
      subst hl7
      refine Ev.intro mX6_most rfl rfl (mos_8 (d := d + 27) ?_)
      refine ev_srhS hA ih (by omega) (d := d) hG hS hst (fun J1 j1 s1 => mos_89 (d := d + 27) ?_)
      rw [e11]
      exact g J1 j1 s1
theorem mos_at {A : Tm} (hA : BD A) {d l st : Nat} {I : Nat → Nat → Int32} {J : Nat → Nat → Int64} {T : Nat → Nat → Nat} {Q : Option Value → Mem → Prop} (hl : l ≤ 8) (hG : GX A I) (hS : SMO (qG A) (qX A) J) (hst : st < 1024) (g : ∀ J', Fj [82] J J' → SMO (qG A) (qX A) J' → Q (some (.int (nI (sV (qG A) (qX A) l st)))) (SH, mkM I J' T)) : Ev mt aM (d + 29) 65 [.ref 81, .int (nI l), .int (nI st)] (SH, mkM I J T) Q := by
  have e : d + 29 = (d + 3 * (8 - l)) + (3 * l + 5) := by omega
  rw [e]
  exact mos_ok hA l hl _ st I J T Q hG hS hst g
theorem ev_leaS {A : Tm} (hA : BD A) {d l st : Nat} {I : Nat → Nat → Int32} {J : Nat → Nat → Int64} {T : Nat → Nat → Nat} {Q : Option Value → Mem → Prop} (hl : l < 8) (hG : GX A I) (hS : SMO (qG A) (qX A) J) (hst : st < 1024) (g : ∀ J', Fj [82] J J' → SMO (qG A) (qX A) J' → Q (some (.int (nI (lR (qG A) (qX A) l st)))) (SH, mkM I J' T)) : Ev mt aM (d + 31) 67 [.ref 81, .int (nI (l + 1)), .int (nI st)] (SH, mkM I J T) Q := by
  have hv := sV_le (G := qG A) (X := qX A) hA.2.2.2.2.1 hA.2.2.2.2.2.2.2.1 (l + 1) st
  obtain ⟨_, l25⟩ := lR_is (qG A) (qX A) l st
  refine Ev.intro mX6_leastRow rfl rfl (lea_0 (d := d + 29) ?_)
  refine mos_at hA (d := d + 1) (by omega) hG hS hst (fun J1 j1 s1 => lea_6 (d := d + 29) ?_)
  have loop : ∀ (m k : Nat) (J1 : Nat → Nat → Int64), m + k = 25 → frow (lP (qG A) (qX A) l st) m k = lR (qG A) (qX A) l st → Fj [82] J J1 → SMO (qG A) (qX A) J1 → Go none aM (Ev mt aM (d + 29 + 1)) mX6_leastRow Q (10, [some (.ref 81), some (.int (nI (l + 1))), some (.int (nI st)), some (.int (nI (sV (qG A) (qX A) (l + 1) st))), some (.int (nI k))], [], (SH, mkM I J1 T), 0, 0) := by
    intro m
    induction m with
    | zero =>
      intro k J1 hk hf j1 s1
      have : k = lR (qG A) (qX A) l st := hf
      omega
    | succ m ih =>
      intro k J1 hk hf j1 s1
      have hk5 : k < 25 := by omega
      obtain ⟨_, _, r3⟩ := row_c hk5
      have hs := sF_lt hA (st := st) hl hk5
      have hp : frow (lP (qG A) (qX A) l st) (m + 1) k = if lP (qG A) (qX A) l st k = true then k else frow (lP (qG A) (qX A) l st) m (k + 1) := rfl
      rw [hp] at hf
      refine lea_10 (d := d + 29) ⟨fun c => absurd c (nI_ge (b := 25) hk5 (by omega)), fun _ => ⟨fun c => ?_, fun c => ?_⟩⟩
      · have hn : ¬ lP (qG A) (qX A) l st k = true := fun q => by
          unfold lP at q
          rw [r3.mp c, Bool.false_and] at q
          cases q
        rw [if_neg hn] at hf
        rw [nI_1]
        exact ih (k + 1) J1 (by omega) hf j1 s1
      · have hb : rowB k = true := by
          cases hb : rowB k with
          | true => rfl
          | false => exact absurd (r3.mpr hb) c
        have key : Ev mt aM ((d + 3 * (8 - l)) + (3 * l + 6)) 69 [.ref 81, .int (nI (l + 1)), .int (nI st), .int (nI k)] (SH, mkM I J1 T) (fun r m1 => Go none aM (Ev mt aM (d + 29 + 1)) mX6_leastRow Q (33, [some (.ref 81), some (.int (nI (l + 1))), some (.int (nI st)), some (.int (nI (sV (qG A) (qX A) (l + 1) st))), some (.int (nI k))], r.toList ++ [], m1, 0, 0)) := by
          refine ev_worS (mos_ok hA l (by omega)) hl hG s1 hst hk5 (fun J2 j2 s2 => lea_33 (d := d + 29) ⟨fun c => ?_, fun c => ?_⟩)
          · have hy : lP (qG A) (qX A) l st k = true := by
              unfold lP
              rw [hb, Bool.true_and, (nI_eq (by omega) (by omega)).mp c]
              exact Nat.beq_refl _
            rw [if_pos hy] at hf
            rw [hf]
            exact g J2 (j1.trans j2) s2
          · have hn : ¬ lP (qG A) (qX A) l st k = true := fun q => by
              unfold lP at q
              rw [hb, Bool.true_and] at q
              exact c (by rw [Nat.eq_of_beq_eq_true q])
            rw [if_neg hn] at hf
            rw [nI_1]
            exact ih (k + 1) J2 (by omega) hf (j1.trans j2) s2
        rw [show (d + 3 * (8 - l)) + (3 * l + 6) = d + 30 by omega] at key
        exact key
  exact loop 25 0 J1 rfl rfl j1 s1
/-- how FRESH all are, in the class; what is kept and whether it is stale -/
def CF (f : Nat → Nat) (I : Nat → Nat → Int32) : Prop := ∀ j, j < 5 → I 6 j = nI (f j)
def SMI (A : Tm) (I : Nat → Nat → Int32) (J : Nat → Nat → Int64) : Prop := I 81 2 = 1 ∨ (I 81 2 = 0 ∧ SMO (qG A) (qX A) J)
theorem beg_c {f : Nat → Nat} {I : Nat → Nat → Int32} (h : ∀ j, j < 5 → f j ≤ 3) (hF : CF f I) : ((((((0 : Int32) ||| ((v_X7_freshnessOf (0 : Int32) I) <<< ((0 : Int32) &&& 31))) ||| ((v_X7_freshnessOf (1 : Int32) I) <<< ((2 : Int32) &&& 31))) ||| ((v_X7_freshnessOf (2 : Int32) I) <<< ((4 : Int32) &&& 31))) ||| ((v_X7_freshnessOf (3 : Int32) I) <<< ((6 : Int32) &&& 31))) ||| ((v_X7_freshnessOf (4 : Int32) I) <<< ((8 : Int32) &&& 31))) = nI (stB f) := by
  have e : ((((((0 : Int32) ||| ((v_X7_freshnessOf (0 : Int32) I) <<< ((0 : Int32) &&& 31))) ||| ((v_X7_freshnessOf (1 : Int32) I) <<< ((2 : Int32) &&& 31))) ||| ((v_X7_freshnessOf (2 : Int32) I) <<< ((4 : Int32) &&& 31))) ||| ((v_X7_freshnessOf (3 : Int32) I) <<< ((6 : Int32) &&& 31))) ||| ((v_X7_freshnessOf (4 : Int32) I) <<< ((8 : Int32) &&& 31))) = bgE (I 6 0) (I 6 1) (I 6 2) (I 6 3) (I 6 4) := rfl
  rw [e, hF 0 (by omega), hF 1 (by omega), hF 2 (by omega), hF 3 (by omega), hF 4 (by omega)]
  exact (bg_c h).2
theorem ev_begS {A : Tm} {f : Nat → Nat} {d : Nat} {I : Nat → Nat → Int32} {J : Nat → Nat → Int64} {T : Nat → Nat → Nat} {Q : Option Value → Mem → Prop} (h : ∀ j, j < 5 → f j ≤ 3) (hF : CF f I) (hM : SMI A I J) (g : ∀ I' J', Fr [81] I I' → Fj [82] J J' → I' 81 2 = 0 → SMO (qG A) (qX A) J' → Q (some (.int (nI (stB f)))) (SH, mkM I' J' T)) : Ev mt aM (d + 3) 64 [.ref 81] (SH, mkM I J T) Q := by
  rcases hM with q | ⟨q, s⟩
  · refine Ev.intro mX6_begin rfl rfl (beg_1 (d := d) (by rw [q]; decide) ?_)
    refine ev_clear82 (d := d + 1) (Go.weak (Ev.mono _) (LLe.rfl' _) (beg_14 (d := d) ?_))
    rw [beg_c h (fun j hj => by rw [si_row (by omega)]; exact hF j hj)]
    exact g _ _ ((Fr.rfl' _ _).to rfl) ((Fj.rfl' _ _).z rfl) si_at (SMO.zero _ _ _)
  · refine Ev.intro mX6_begin rfl rfl (beg_0 (d := d) q ?_)
    rw [beg_c h hF]
    exact g I J (Fr.rfl' _ _) (Fj.rfl' _ _) q s
theorem pSt_lt (G X : Nat → Nat) (L st0 : Nat) (h : st0 < 1024) : ∀ w, pSt G X L st0 w < 1024 := by
  intro w
  induction w with
  | zero => exact h
  | succ w ih => exact (nx_c ih (lR_is G X (L - w - 1) _).2).1
theorem ev_plw {A : Tm} {f : Nat → Nat} (hA : BD A) {d l : Nat} {I : Nat → Nat → Int32} {J : Nat → Nat → Int64} {T : Nat → Nat → Nat} {Q : Option Value → Mem → Prop} (hl : l ≤ 8) (h : ∀ j, j < 5 → f j ≤ 3) (hF : CF f I) (hG : GX A I) (hM : SMI A I J) (g : ∀ I' J', Fr [81] I I' → Fj [82] J J' → SMI A I' J' → Q (some (.int (nI (sV (qG A) (qX A) l (stB f))))) (SH, mkM I' J' T)) : Ev mt aM (d + 30) 62 [.ref 81, .int (nI l)] (SH, mkM I J T) Q := by
  refine Ev.intro mX6_planWorth rfl rfl (plw_0 (d := d + 28) ?_)
  refine ev_begS (d := d + 26) h hF hM (fun I1 J1 f1 j1 z1 s1 => plw_6 (d := d + 28) ?_)
  have g1 : GX A I1 := by unfold GX; rw [f1 2 rfl, f1 5 rfl]; exact hG
  refine mos_at hA (d := d) hl g1 s1 (bg_c h).1 (fun J2 j2 s2 => plw_9 (d := d + 28) ?_)
  exact g I1 J2 f1 (j1.trans j2) (Or.inr ⟨z1, s2⟩)
theorem ev_plr {A : Tm} {f : Nat → Nat} (hA : BD A) {d l w : Nat} {I : Nat → Nat → Int32} {J : Nat → Nat → Int64} {T : Nat → Nat → Nat} {Q : Option Value → Mem → Prop} (hl : l ≤ 8) (hw : w < l) (h : ∀ j, j < 5 → f j ≤ 3) (hF : CF f I) (hG : GX A I) (hM : SMI A I J) (g : ∀ I' J', Fr [81] I I' → Fj [82] J J' → SMI A I' J' → Q (some (.int (nI (lR (qG A) (qX A) (l - w - 1) (pSt (qG A) (qX A) l (stB f) w))))) (SH, mkM I' J' T)) : Ev mt aM (d + 32) 63 [.ref 81, .int (nI l), .int (nI w)] (SH, mkM I J T) Q := by
  refine Ev.intro mX6_planRow rfl rfl (plr_0 (d := d + 30) ?_)
  refine ev_begS (d := d + 28) h hF hM (fun I1 J1 f1 j1 z1 s1 => plr_4 (d := d + 30) ?_)
  have g1 : GX A I1 := by unfold GX; rw [f1 2 rfl, f1 5 rfl]; exact hG
  have plt := pSt_lt (qG A) (qX A) l (stB f) (bg_c h).1
  have loop : ∀ (m k : Nat) (J2 : Nat → Nat → Int64), m + k = w → Fj [82] J J2 → SMO (qG A) (qX A) J2 → Go none aM (Ev mt aM (d + 30 + 1)) mX6_planRow Q (8, [some (.ref 81), some (.int (nI l)), some (.int (nI w)), some (.int (nI (pSt (qG A) (qX A) l (stB f) k))), some (.int (nI k))], [], (SH, mkM I1 J2 T), 0, 0) := by
    intro m
    induction m with
    | zero =>
      intro k J2 hk j2 s2
      have hk : k = w := by omega
      subst hk
      refine plr_8 (d := d + 30) ⟨fun _ => ?_, fun c => absurd (Int32.le_refl _) c⟩
      rw [pk_sub (by omega), show l - k = (l - k - 1) + 1 by omega]
      refine ev_leaS hA (d := d) (by omega) g1 s2 (plt k) (fun J3 j3 s3 => plr_42 (d := d + 30) ?_)
      exact g I1 J3 f1 (j2.trans j3) (Or.inr ⟨z1, s3⟩)
    | succ m ih =>
      intro k J2 hk j2 s2
      refine plr_8 (d := d + 30) ⟨fun c => absurd c (nI_ge (by omega) (by omega)), fun _ => ?_⟩
      rw [pk_sub (by omega), show l - k = (l - k - 1) + 1 by omega]
      refine ev_leaS hA (d := d) (by omega) g1 s2 (plt k) (fun J3 j3 s3 => plr_24 (d := d + 30) ?_)
      rw [(nx_c (plt k) (lR_is (qG A) (qX A) (l - k - 1) _).2).2.1, nI_1]
      exact ih (k + 1) J3 (by omega) (j2.trans j3) s3
  exact loop w 0 J1 (by omega) j1 s1
