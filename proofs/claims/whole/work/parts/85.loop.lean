/-! THE LAW'S LOOP, and its start. -/
def swL (x : Int32) : Nat := swT 33 0 30 1355 #[139, 182, 245, 288, 331, 394, 417, 450, 483, 526, 569, 644, 708, 784, 847, 880, 904, 928, 952, 976, 1040, 1073, 1086, 1119, 1153, 1187, 1210, 1243, 1276, 1309, 1332] x
theorem sw_0 : swL (nI 0) = 172 := by decide +kernel
theorem sw_1 : swL (nI 1) = 215 := by decide +kernel
theorem sw_2 : swL (nI 2) = 278 := by decide +kernel
theorem sw_3 : swL (nI 3) = 321 := by decide +kernel
theorem sw_4 : swL (nI 4) = 364 := by decide +kernel
theorem sw_5 : swL (nI 5) = 427 := by decide +kernel
theorem sw_6 : swL (nI 6) = 450 := by decide +kernel
theorem sw_7 : swL (nI 7) = 483 := by decide +kernel
theorem sw_8 : swL (nI 8) = 516 := by decide +kernel
theorem sw_9 : swL (nI 9) = 559 := by decide +kernel
theorem sw_10 : swL (nI 10) = 602 := by decide +kernel
theorem sw_11 : swL (nI 11) = 677 := by decide +kernel
theorem sw_12 : swL (nI 12) = 741 := by decide +kernel
theorem sw_13 : swL (nI 13) = 817 := by decide +kernel
theorem sw_14 : swL (nI 14) = 880 := by decide +kernel
theorem sw_15 : swL (nI 15) = 913 := by decide +kernel
theorem sw_16 : swL (nI 16) = 937 := by decide +kernel
theorem sw_17 : swL (nI 17) = 961 := by decide +kernel
theorem sw_18 : swL (nI 18) = 985 := by decide +kernel
theorem sw_19 : swL (nI 19) = 1009 := by decide +kernel
theorem sw_20 : swL (nI 20) = 1073 := by decide +kernel
theorem sw_21 : swL (nI 21) = 1106 := by decide +kernel
theorem sw_22 : swL (nI 22) = 1119 := by decide +kernel
theorem sw_23 : swL (nI 23) = 1152 := by decide +kernel
theorem sw_24 : swL (nI 24) = 1186 := by decide +kernel
theorem sw_25 : swL (nI 25) = 1220 := by decide +kernel
theorem sw_26 : swL (nI 26) = 1243 := by decide +kernel
theorem sw_27 : swL (nI 27) = 1276 := by decide +kernel
theorem sw_28 : swL (nI 28) = 1309 := by decide +kernel
theorem sw_29 : swL (nI 29) = 1342 := by decide +kernel
theorem sw_30 : swL (nI 30) = 1365 := by decide +kernel
theorem sw_31 : swL (nI 31) = 1388 := by decide +kernel
theorem and31 (x : Int32) : ∃ k, k < 32 ∧ x &&& 31 = nI k := by
  refine ⟨(x &&& 31).toBitVec.toNat, ?_, ?_⟩
  · show (x.toBitVec &&& (31 : Int32).toBitVec).toNat < 32
    rw [BitVec.toNat_and]
    exact Nat.lt_of_le_of_lt Nat.and_le_right (by decide)
  · refine Int32.toBitVec_inj.mp (BitVec.eq_of_toNat_eq ?_)
    show _ = (BitVec.ofNat 32 (x &&& 31).toBitVec.toNat).toNat
    rw [BitVec.toNat_ofNat, Nat.mod_eq_of_lt (x &&& 31).toBitVec.isLt]
theorem len7 {L i : Nat} (hL : L ≤ 3584) (hi : i ≤ 4000) : (nI L - (7 : Int32) < nI i) ↔ L < i + 7 := by
  rcases Nat.lt_or_ge L 7 with q | q
  · refine ⟨fun _ => by omega, fun _ => ?_⟩
    rw [Int32.lt_iff_toInt_lt, nI_toInt (n := i) (by omega)]
    have : (nI L - (7 : Int32)).toInt < 0 := by
      rcases (show L = 0 ∨ L = 1 ∨ L = 2 ∨ L = 3 ∨ L = 4 ∨ L = 5 ∨ L = 6 by omega) with rfl | rfl | rfl | rfl | rfl | rfl | rfl <;> decide
    omega
  · rw [show (7 : Int32) = nI 7 from rfl, pk_sub q, Int32.lt_iff_toInt_lt, nI_toInt (n := L - 7) (by omega), nI_toInt (n := i) (by omega)]
    omega
section LOOP
variable {L d : Nat} {xs : Nat → Int32}

set_option maxRecDepth 20000 in
theorem lw_loop (hL : L ≤ 3584) : ∀ (n i : Nat) (S : St) (I : Nat → Nat → Int32) (J : Nat → Nat → Int64) (T : Nat → Nat → Nat), i ≤ 4000 → L ≤ i + 7 * n → PUR S → CINV S I J T → MINV S I → Go (some (L, xs)) aM (Ev mt aM (d + 50)) mL_law Qf (18, [some (.ref 2000), some (.ref 0), some (.ref 83), some (.int (nI i))], [], (SH, mkM I J T), 118, 394190) := by
  intro n
  induction n with
  | zero =>
    intro i S I J T hi hn hS hc hm
    refine Go.of_run (Ev.mono _) 6 _ ?_
    show Go (some (L, xs)) aM (Ev mt aM (d + 50)) mL_law Qf (if nI L - (7 : Int32) < nI i then 1394 else 27, [some (.ref 2000), some (.ref 0), some (.ref 83), some (.int (nI i))], [], (SH, mkM I J T), 118, 394190)
    rw [if_pos ((len7 hL hi).mpr (by omega))]
    refine Go.of_run (Ev.mono _) 2 _ ?_
    exact ⟨Or.inr rfl, rfl⟩
  | succ n ih =>
    intro i S I J T hi hn hS hc hm
    refine Go.of_run (Ev.mono _) 6 _ ?_
    show Go (some (L, xs)) aM (Ev mt aM (d + 50)) mL_law Qf (if nI L - (7 : Int32) < nI i then 1394 else 27, [some (.ref 2000), some (.ref 0), some (.ref 83), some (.int (nI i))], [], (SH, mkM I J T), 118, 394190)
    by_cases c : L < i + 7
    · rw [if_pos ((len7 hL hi).mpr c)]
      refine Go.of_run (Ev.mono _) 2 _ ?_
      exact ⟨Or.inr rfl, rfl⟩
    rw [if_neg (fun q => c ((len7 hL hi).mp q))]
    have hi7 : i + 7 ≤ L := by omega
    refine Go.of_run (Ev.mono _) 3 _ ?_
    refine ⟨vp_in_nI (by omega) (by omega), ?_⟩
    show Go (some (L, xs)) aM (Ev mt aM (d + 50)) mL_law Qf (30, [some (.ref 2000), some (.ref 0), some (.ref 83), some (.int (nI i))], [.int (xs (nI i).toNatClampNeg)], (SH, mkM I J T), 118, 394190)
    refine Go.of_run (Ev.mono _) 3 _ ?_
    show Go (some (L, xs)) aM (Ev mt aM (d + 50)) mL_law Qf (swL (xs (nI i).toNatClampNeg &&& 31), [some (.ref 2000), some (.ref 0), some (.ref 83), some (.int (nI i))], [], (SH, mkM I J T), 118, 394190)
    have g : ∀ S' I' J' T', PUR S' → CINV S' I' J' T' → MINV S' I' → Go (some (L, xs)) aM (Ev mt aM (d + 50)) mL_law Qf (1388, [some (.ref 2000), some (.ref 0), some (.ref 83), some (.int (nI i))], [], (SH, mkM I' J' T'), 118, 394190) := by
      intro S' I' J' T' h1 h2 h3
      refine Go.of_run (Ev.mono _) 2 _ ?_
      show Go (some (L, xs)) aM (Ev mt aM (d + 50)) mL_law Qf (18, [some (.ref 2000), some (.ref 0), some (.ref 83), some (.int (nI i + (7 : Int32)))], [], (SH, mkM I' J' T'), 118, 394190)
      rw [show (7 : Int32) = nI 7 from rfl, nI_add]
      exact ih (i + 7) S' I' J' T' (by omega) (by omega) h1 h2 h3
    obtain ⟨k, hk, e⟩ := and31 (xs (nI i).toNatClampNeg)
    rw [e]
    clear e
    rcases (show k < 8 ∨ (8 ≤ k ∧ k < 16) ∨ (16 ≤ k ∧ k < 24) ∨ (24 ≤ k ∧ k < 32) by omega) with h | h | h | h
    · rcases (show k = 0 ∨ k = 1 ∨ k = 2 ∨ k = 3 ∨ k = 4 ∨ k = 5 ∨ k = 6 ∨ k = 7 by omega) with rfl | rfl | rfl | rfl | rfl | rfl | rfl | rfl
      · rw [sw_0]; exact lw_case_0 hi7 hL hS hc hm g
      · rw [sw_1]; exact lw_case_1 hi7 hL hS hc hm g
      · rw [sw_2]; exact lw_case_2 hi7 hL hS hc hm g
      · rw [sw_3]; exact lw_case_3 hi7 hL hS hc hm g
      · rw [sw_4]; exact lw_case_4 hi7 hL hS hc hm g
      · rw [sw_5]; exact lw_case_5 hi7 hL hS hc hm g
      · rw [sw_6]; exact lw_case_6 hi7 hL hS hc hm g
      · rw [sw_7]; exact lw_case_7 hi7 hL hS hc hm g
    · rcases (show k = 8 ∨ k = 9 ∨ k = 10 ∨ k = 11 ∨ k = 12 ∨ k = 13 ∨ k = 14 ∨ k = 15 by omega) with rfl | rfl | rfl | rfl | rfl | rfl | rfl | rfl
      · rw [sw_8]; exact lw_case_8 hi7 hL hS hc hm g
      · rw [sw_9]; exact lw_case_9 hi7 hL hS hc hm g
      · rw [sw_10]; exact lw_case_10 hi7 hL hS hc hm g
      · rw [sw_11]; exact lw_case_11 hi7 hL hS hc hm g
      · rw [sw_12]; exact lw_case_12 hi7 hL hS hc hm g
      · rw [sw_13]; exact lw_case_13 hi7 hL hS hc hm g
      · rw [sw_14]; exact lw_case_14 hi7 hL hS hc hm g
      · rw [sw_15]; exact lw_case_15 hi7 hL hS hc hm g
    · rcases (show k = 16 ∨ k = 17 ∨ k = 18 ∨ k = 19 ∨ k = 20 ∨ k = 21 ∨ k = 22 ∨ k = 23 by omega) with rfl | rfl | rfl | rfl | rfl | rfl | rfl | rfl
      · rw [sw_16]; exact lw_case_16 hi7 hL hS hc hm g
      · rw [sw_17]; exact lw_case_17 hi7 hL hS hc hm g
      · rw [sw_18]; exact lw_case_18 hi7 hL hS hc hm g
      · rw [sw_19]; exact lw_case_19 hi7 hL hS hc hm g
      · rw [sw_20]; exact lw_case_20 hi7 hL hS hc hm g
      · rw [sw_21]; exact lw_case_21 hi7 hL hS hc hm g
      · rw [sw_22]; exact lw_case_22 hi7 hL hS hc hm g
      · rw [sw_23]; exact lw_case_23 hi7 hL hS hc hm g
    · rcases (show k = 24 ∨ k = 25 ∨ k = 26 ∨ k = 27 ∨ k = 28 ∨ k = 29 ∨ k = 30 ∨ k = 31 by omega) with rfl | rfl | rfl | rfl | rfl | rfl | rfl | rfl
      · rw [sw_24]; exact lw_case_24 hi7 hL hS hc hm g
      · rw [sw_25]; exact lw_case_25 hi7 hL hS hc hm g
      · rw [sw_26]; exact lw_case_26 hi7 hL hS hc hm g
      · rw [sw_27]; exact lw_case_27 hi7 hL hS hc hm g
      · rw [sw_28]; exact lw_case_28 hi7 hL hS hc hm g
      · rw [sw_29]; exact lw_case_29 hi7 hL hS hc hm g
      · rw [sw_30]; exact lw_case_30 hi7 hL hS hc hm g
      · rw [sw_31]; exact g S I J T hS hc hm
theorem lw_go (hL : L ≤ 3584) : Go (some (L, xs)) aM (Ev mt aM (d + 50)) mL_law Qf (0, entP 4 (entA [.ref 2000]), [], ([], fun _ _ => .null), 0, 0) := by
  show Go (some (L, xs)) aM (Ev mt aM (d + 50)) mL_law Qf (0, [some (.ref 2000), none, none, none], [], ([], nulM), 0, 0)
  refine Go.of_run (Ev.mono _) 1 _ ?_
  refine ⟨⟨(by decide : (SH.take 0).length < 1000), (by decide : 0 + 1 ≤ 118), (by decide : 0 + 9 ≤ 394190)⟩, ?_⟩
  show Go (some (L, xs)) aM (Ev mt aM (d + 50)) mL_law Qf (3, [some (.ref 2000), none, none, none], [.ref 0], (SH.take 1, zr nulM 0), 1, 9)
  refine Go.of_run (Ev.mono _) 2 _ ?_
  refine ⟨⟨Nat.le_of_ble_eq_true rfl, (by decide : 1 + (aM 122).1 ≤ 118), (by decide : 9 + (aM 122).2 ≤ 394190)⟩, ?_⟩
  refine kc_X11_init_0 (d := d + 40) ?_
  show Go (some (L, xs)) aM (Ev mt aM (d + 50)) mL_law Qf (7, [some (.ref 2000), none, none, none], [.ref 0], (SH.take 83, kd_X11_init_0 (zr nulM 0)), 83, 13018)
  refine Go.of_run (Ev.mono _) 2 _ ?_
  refine ⟨⟨(by decide : (SH.take 83).length < 1000), (by decide : 83 + 1 ≤ 118), (by decide : 13018 + 54 ≤ 394190)⟩, ?_⟩
  show Go (some (L, xs)) aM (Ev mt aM (d + 50)) mL_law Qf (11, [some (.ref 2000), some (.ref 0), none, none], [.ref 83], (SH.take 84, zr (kd_X11_init_0 (zr nulM 0)) 83), 84, 13072)
  refine Go.of_run (Ev.mono _) 2 _ ?_
  refine ⟨⟨Nat.le_of_ble_eq_true rfl, (by decide : 84 + (aM 173).1 ≤ 118), (by decide : 13072 + (aM 173).2 ≤ 394190)⟩, ?_⟩
  refine kc_X12_init_0 (d := d + 49) ?_
  show Go (some (L, xs)) aM (Ev mt aM (d + 50)) mL_law Qf (15, [some (.ref 2000), some (.ref 0), none, none], [.ref 83], (SH.take 118, M0), 118, 394190)
  refine Go.of_run (Ev.mono _) 3 _ ?_
  show Go (some (L, xs)) aM (Ev mt aM (d + 50)) mL_law Qf (18, [some (.ref 2000), some (.ref 0), some (.ref 83), some (.int (nI 0))], [], (SH, M0), 118, 394190)
  have key := lw_loop (d := d) (xs := xs) hL L 0 S0 I0 J0 T0 (by omega) (by omega) PUR0 CINV0 MINV0
  exact Go.memq (c1 := (18, [some (.ref 2000), some (.ref 0), some (.ref 83), some (.int (nI 0))], [], (SH, mkM I0 J0 T0), 118, 394190)) (c2 := (18, [some (.ref 2000), some (.ref 0), some (.ref 83), some (.int (nI 0))], [], (SH, M0), 118, 394190)) (Q1 := Qf) gf_law (Ev.rmono gf_mt (d + 50)) (fun r a b _ h => h) ⟨rfl, rfl, rfl, ⟨rfl, M0_wq⟩, rfl⟩ key
end LOOP
