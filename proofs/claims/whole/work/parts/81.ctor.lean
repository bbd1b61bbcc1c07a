/-! THE CONSTRUCTORS. The ranks of the codes first. -/
def fil (M : Nat → Nat → Value) (i : Nat) : Nat → Nat → Value := fun o b => if o = 70 ∧ b < i then .int (nI (rkN b)) else M o b
theorem fil_0 (M : Nat → Nat → Value) : fil M 0 = M := by
  funext o b
  exact if_neg (fun q => Nat.not_lt_zero _ q.2)
theorem fil_up (M : Nat → Nat → Value) (i : Nat) : up (fil M i) 70 i (.int (nI (rkN i))) = fil M (i + 1) := by
  funext o b
  unfold up fil
  by_cases c : o = 70 ∧ b = i
  · rw [if_pos c, if_pos ⟨c.1, by omega⟩, c.2]
  · rw [if_neg c]
    by_cases e : o = 70 ∧ b < i
    · rw [if_pos e, if_pos ⟨e.1, by omega⟩]
    · rw [if_neg e, if_neg (fun q => by
        by_cases z : b = i
        · exact c ⟨q.1, z⟩
        · exact e ⟨q.1, by omega⟩)]
def dcE (c : Int32) : Int32 := ((((1000 : Int32) * (c >>> ((9 : Int32) &&& 31))) + ((100 : Int32) * ((c >>> ((6 : Int32) &&& 31)) &&& (7 : Int32)))) + ((10 : Int32) * ((c >>> ((3 : Int32) &&& 31)) &&& (7 : Int32)))) + (c &&& (7 : Int32))
theorem all_dcE : allB (fun o => eqI (dcE (nI o)) (dI o)) 2048 = true := by decide +kernel
theorem dc_c {o : Nat} (h : o < 2048) : dcE (nI o) = dI o := eqI_eq (allB_get all_dcE o h)
theorem rk_loop {d : Nat} {M : Nat → Nat → Value} {Q : Option Value → Mem → Prop} (hM : M 69 2 = .ref 70) (h : Q none (SH.take 73, fil M 2048)) : ∀ (n i : Nat) (c5 : Option Value), n + i = 2048 → Go none aM (Ev mt aM (d + 4)) mX0_init Q (50, [some (.ref 69), some (.ref 1), some (.ref 9), some (.int (nI (rkN i))), some (.int (nI i)), c5], [], (SH.take 73, fil M i), 3, 9196) := by
  intro n
  induction n with
  | zero =>
    intro i c5 hi
    have : i = 2048 := by omega
    subst this
    refine Go.of_run (Ev.mono _) 3 _ ?_
    show Go none aM (Ev mt aM (d + 4)) mX0_init Q (if (2048 : Int32) ≤ nI 2048 then 128 else 58, [some (.ref 69), some (.ref 1), some (.ref 9), some (.int (nI (rkN 2048))), some (.int (nI 2048)), c5], [], (SH.take 73, fil M 2048), 3, 9196)
    rw [if_pos (by decide)]
    refine Go.of_run (Ev.mono _) 1 _ ?_
    exact ⟨trivial, h⟩
  | succ n ih =>
    intro i c5 hi
    refine Go.of_run (Ev.mono _) 3 _ ?_
    show Go none aM (Ev mt aM (d + 4)) mX0_init Q (if (2048 : Int32) ≤ nI i then 128 else 58, [some (.ref 69), some (.ref 1), some (.ref 9), some (.int (nI (rkN i))), some (.int (nI i)), c5], [], (SH.take 73, fil M i), 3, 9196)
    rw [if_neg (show ¬ (2048 : Int32) ≤ nI i from nI_ge (b := 2048) (by omega) (by omega))]
    refine Go.of_run (Ev.mono _) 2 _ ?_
    have e1 : fil M i 69 2 = .ref 70 := (if_neg (fun q => absurd q.1 (by decide))).trans hM
    show Go none aM (Ev mt aM (d + 4)) mX0_init Q (62, [some (.ref 69), some (.ref 1), some (.ref 9), some (.int (nI (rkN i))), some (.int (nI i)), c5], [rfo (rv (fil M i 69 2))], (SH.take 73, fil M i), 3, 9196)
    rw [e1]
    show Go none aM (Ev mt aM (d + 4)) mX0_init Q (62, [some (.ref 69), some (.ref 1), some (.ref 9), some (.int (nI (rkN i))), some (.int (nI i)), c5], [.ref 70], (SH.take 73, fil M i), 3, 9196)
    refine Go.of_run (Ev.mono _) 3 _ ?_
    refine ⟨vp_in_nI (by omega) (by omega), ?_⟩
    show Go none aM (Ev mt aM (d + 4)) mX0_init Q (66, [some (.ref 69), some (.ref 1), some (.ref 9), some (.int (nI (rkN i))), some (.int (nI i)), c5], [], (SH.take 73, up (fil M i) 70 (nI i).toNatClampNeg (.int (nI (rkN i)))), 3, 9196)
    rw [nI_clamp (by omega), fil_up]
    refine Go.of_run (Ev.mono _) 29 _ ?_
    refine ⟨Nat.le_of_ble_eq_true rfl, ?_⟩
    show Ev mt aM (d + 4) 87 [.int (dcE (nI i))] (SH.take 73, fil M (i + 1)) (fun r m1 => Go none aM (Ev mt aM (d + 4)) mX0_init Q (112, [some (.ref 69), some (.ref 1), some (.ref 9), some (.int (nI (rkN i))), some (.int (nI i)), some (.int (dcE (nI i)))], r.toList ++ [.int (nI (rkN i))], m1, 3, 9196))
    rw [dc_c (by omega)]
    refine ev_X7_isWellFormed (d := d + 1) ?_
    show Go none aM (Ev mt aM (d + 4)) mX0_init Q (112, [some (.ref 69), some (.ref 1), some (.ref 9), some (.int (nI (rkN i))), some (.int (nI i)), some (.int (dI i))], [.int (v_X7_isWellFormed (dI i)), .int (nI (rkN i))], (SH.take 73, fil M (i + 1)), 3, 9196)
    refine Go.of_run (Ev.mono _) 1 _ ?_
    show Go none aM (Ev mt aM (d + 4)) mX0_init Q (if v_X7_isWellFormed (dI i) = 0 then 119 else 115, [some (.ref 69), some (.ref 1), some (.ref 9), some (.int (nI (rkN i))), some (.int (nI i)), some (.int (dI i))], [.int (nI (rkN i))], (SH.take 73, fil M (i + 1)), 3, 9196)
    rcases b_X7_isWellFormed (dI i) with w | w
    · have hr : rkN (i + 1) = rkN i := by
        show rkN i + (bif wfo i then 1 else 0) = rkN i
        have : wfo i = false := by
          unfold wfo
          rw [w]
          rfl
        rw [this]
        rfl
      rw [if_pos w]
      refine Go.of_run (Ev.mono _) 5 _ ?_
      show Go none aM (Ev mt aM (d + 4)) mX0_init Q (50, [some (.ref 69), some (.ref 1), some (.ref 9), some (.int (nI (rkN i) + 0)), some (.int (nI i + 1)), some (.int (dI i))], [], (SH.take 73, fil M (i + 1)), 3, 9196)
      rw [Int32.add_zero, nI_1, ← hr]
      exact ih (i + 1) _ (by omega)
    · have hr : rkN (i + 1) = rkN i + 1 := by
        show rkN i + (bif wfo i then 1 else 0) = rkN i + 1
        have : wfo i = true := by
          unfold wfo
          rw [w]
          rfl
        rw [this]
        rfl
      rw [if_neg (fun q => by rw [w] at q; exact absurd q (by decide))]
      refine Go.of_run (Ev.mono _) 6 _ ?_
      show Go none aM (Ev mt aM (d + 4)) mX0_init Q (50, [some (.ref 69), some (.ref 1), some (.ref 9), some (.int (nI (rkN i) + 1)), some (.int (nI i + 1)), some (.int (dI i))], [], (SH.take 73, fil M (i + 1)), 3, 9196)
      rw [nI_1, nI_1, ← hr]
      exact ih (i + 1) _ (by omega)
