/-! THE CLASS AND THE REFERENCE RUN A TEXT'S CODE: both come to evS. -/
theorem ev_push {d h : Nat} {x : Int32} {I : Nat → Nat → Int32} {J : Nat → Nat → Int64} {T : Nat → Nat → Nat} {Q : Option Value → Mem → Prop} (hh : h < 40) (he : I 10 2 = nI h) (g : Q none (SH, mkM (si (si I 12 h x) 10 2 (nI (h + 1))) J T)) : Ev mt aM (d + 1) 52 [.ref 10, .int x] (SH, mkM I J T) Q := by
  apply ev_X4_push
  rw [he, if_neg (nI_pos (by omega))]
  unfold w1_X4_push
  rw [he, if_neg (show ¬ (40 : Int32) ≤ nI h from nI_ge (b := 40) hh (by omega)), nI_clamp (by omega), nI_1]
  exact g
theorem ev_pop {d h : Nat} {I : Nat → Nat → Int32} {J : Nat → Nat → Int64} {T : Nat → Nat → Nat} {Q : Option Value → Mem → Prop} (hh : h < 40) (he : I 10 2 = nI (h + 1)) (g : Q (some (.int (I 12 h))) (SH, mkM (si I 10 2 (nI h)) J T)) : Ev mt aM (d + 1) 53 [.ref 10] (SH, mkM I J T) Q := by
  have h1 : ¬ nI (h + 1) ≤ 0 := nI_nle (by omega) (by omega)
  have h2 : nI (h + 1) ≤ (40 : Int32) := nI_le (b := 40) (by omega) (by omega)
  have h3 : nI (h + 1) - 1 = nI h := nI_pred h
  apply ev_X4_pop
  · rw [he]
    intro _ _
    rw [h3]
    exact vp_in_nI hh (by omega)
  · unfold v_X4_pop w3_X4_pop w1_X4_pop w2_X4_pop
    rw [he, if_neg h1, if_neg h1, if_pos h2, if_pos h2, h3, nI_clamp (by omega)]
    exact g
theorem ev_word {d t W : Nat} {k : Int32} {I : Nat → Nat → Int32} {J : Nat → Nat → Int64} {T : Nat → Nat → Nat} {Q : Option Value → Mem → Prop} (ht : TX t) (hk : vp_in k 200) (hW : I (t + 1) k.toNatClampNeg = nI W) (g : Q (some (.int (nI W))) (SH, mkM I J T)) : Ev mt aM (d + 1) 55 [.ref (t + 1), .int k] (SH, mkM I J T) Q := by
  apply ev_X5_at_t1 ht hk
  unfold v_X5_at_t1
  rw [hW]
  exact g
theorem both_opF {kk : Nat} (hk : 2 ≤ kk ∧ kk ≤ 9) (x y : Int32) (hr : ¬ ((kk = 5 ∨ kk = 6) ∧ y = 0)) : v_X4_both (nI kk) x y = opF kk x y ∧ (∀ I : Nat → Nat → Int32, (if nI kk = 2 then I else w10_X4_both (nI kk) y I) = I) ∧ v_X12_reckon (nI kk) x y = opF kk x y := by
  rcases (show kk = 2 ∨ kk = 3 ∨ kk = 4 ∨ kk = 5 ∨ kk = 6 ∨ kk = 7 ∨ kk = 8 ∨ kk = 9 by omega) with rfl | rfl | rfl | rfl | rfl | rfl | rfl | rfl
  · rw [show nI 2 = (2 : Int32) from rfl]
    refine ⟨?_, fun I => ?_, ?_⟩ <;> simp [v_X4_both, v_X12_reckon, opF, w11_X4_both, w9_X4_both, w8_X4_both, w6_X4_both, w5_X4_both, w3_X4_both, w2_X4_both, w1_X4_both, w10_X4_both, w7_X4_both, w4_X4_both, w7_X12_reckon, w6_X12_reckon, w5_X12_reckon, w4_X12_reckon, w3_X12_reckon, w2_X12_reckon, w1_X12_reckon]
  · rw [show nI 3 = (3 : Int32) from rfl]
    refine ⟨?_, fun I => ?_, ?_⟩ <;> simp [v_X4_both, v_X12_reckon, opF, w11_X4_both, w9_X4_both, w8_X4_both, w6_X4_both, w5_X4_both, w3_X4_both, w2_X4_both, w1_X4_both, w10_X4_both, w7_X4_both, w4_X4_both, w7_X12_reckon, w6_X12_reckon, w5_X12_reckon, w4_X12_reckon, w3_X12_reckon, w2_X12_reckon, w1_X12_reckon]
  · rw [show nI 4 = (4 : Int32) from rfl]
    refine ⟨?_, fun I => ?_, ?_⟩ <;> simp [v_X4_both, v_X12_reckon, opF, w11_X4_both, w9_X4_both, w8_X4_both, w6_X4_both, w5_X4_both, w3_X4_both, w2_X4_both, w1_X4_both, w10_X4_both, w7_X4_both, w4_X4_both, w7_X12_reckon, w6_X12_reckon, w5_X12_reckon, w4_X12_reckon, w3_X12_reckon, w2_X12_reckon, w1_X12_reckon]
  · have hy : ¬ y = 0 := fun e => hr ⟨by omega, e⟩
    rw [show nI 5 = (5 : Int32) from rfl]
    refine ⟨?_, fun I => ?_, ?_⟩ <;> simp [v_X4_both, v_X12_reckon, opF, w11_X4_both, w9_X4_both, w8_X4_both, w6_X4_both, w5_X4_both, w3_X4_both, w2_X4_both, w1_X4_both, w10_X4_both, w7_X4_both, w4_X4_both, w7_X12_reckon, w6_X12_reckon, w5_X12_reckon, w4_X12_reckon, w3_X12_reckon, w2_X12_reckon, w1_X12_reckon, hy]
  · have hy : ¬ y = 0 := fun e => hr ⟨by omega, e⟩
    rw [show nI 6 = (6 : Int32) from rfl]
    refine ⟨?_, fun I => ?_, ?_⟩ <;> simp [v_X4_both, v_X12_reckon, opF, w11_X4_both, w9_X4_both, w8_X4_both, w6_X4_both, w5_X4_both, w3_X4_both, w2_X4_both, w1_X4_both, w10_X4_both, w7_X4_both, w4_X4_both, w7_X12_reckon, w6_X12_reckon, w5_X12_reckon, w4_X12_reckon, w3_X12_reckon, w2_X12_reckon, w1_X12_reckon, hy]
  · rw [show nI 7 = (7 : Int32) from rfl]
    refine ⟨?_, fun I => ?_, ?_⟩ <;> simp [v_X4_both, v_X12_reckon, opF, w11_X4_both, w9_X4_both, w8_X4_both, w6_X4_both, w5_X4_both, w3_X4_both, w2_X4_both, w1_X4_both, w10_X4_both, w7_X4_both, w4_X4_both, w7_X12_reckon, w6_X12_reckon, w5_X12_reckon, w4_X12_reckon, w3_X12_reckon, w2_X12_reckon, w1_X12_reckon]
  · rw [show nI 8 = (8 : Int32) from rfl]
    refine ⟨?_, fun I => ?_, ?_⟩ <;> simp [v_X4_both, v_X12_reckon, opF, w11_X4_both, w9_X4_both, w8_X4_both, w6_X4_both, w5_X4_both, w3_X4_both, w2_X4_both, w1_X4_both, w10_X4_both, w7_X4_both, w4_X4_both, w7_X12_reckon, w6_X12_reckon, w5_X12_reckon, w4_X12_reckon, w3_X12_reckon, w2_X12_reckon, w1_X12_reckon]
  · rw [show nI 9 = (9 : Int32) from rfl]
    refine ⟨?_, fun I => ?_, ?_⟩ <;> simp [v_X4_both, v_X12_reckon, opF, w11_X4_both, w9_X4_both, w8_X4_both, w6_X4_both, w5_X4_both, w3_X4_both, w2_X4_both, w1_X4_both, w10_X4_both, w7_X4_both, w4_X4_both, w7_X12_reckon, w6_X12_reckon, w5_X12_reckon, w4_X12_reckon, w3_X12_reckon, w2_X12_reckon, w1_X12_reckon]
theorem ev_bothN {d kk : Nat} {a x y : Int32} {I : Nat → Nat → Int32} {J : Nat → Nat → Int64} {T : Nat → Nat → Nat} {Q : Option Value → Mem → Prop} (hk : 2 ≤ kk ∧ kk ≤ 9) (ha : a = nI kk) (hr : ¬ ((kk = 5 ∨ kk = 6) ∧ y = 0)) (g : Q (some (.int (opF kk x y))) (SH, mkM I J T)) : Ev mt aM (d + 1) 54 [.ref 10, .int a, .int x, .int y] (SH, mkM I J T) Q := by
  subst ha
  have e := both_opF hk x y hr
  apply ev_X4_both
  · exact ⟨fun _ h => ⟨fun _ => h, fun _ => h⟩, fun _ h => ⟨fun _ => h, fun _ => h⟩, fun _ _ _ _ _ _ _ _ h => ⟨fun _ => h, fun _ => h⟩⟩
  · rw [e.1, e.2.1]
    exact g
theorem ev_bothZ {d kk : Nat} {a x y : Int32} {I : Nat → Nat → Int32} {J : Nat → Nat → Int64} {T : Nat → Nat → Nat} {Q : Option Value → Mem → Prop} (hk : kk = 5 ∨ kk = 6) (ha : a = nI kk) (hr : y = 0) (g : Q (some (.int (0 : Int32))) (SH, mkM (si I 10 3 (1 : Int32)) J T)) : Ev mt aM (d + 1) 54 [.ref 10, .int a, .int x, .int y] (SH, mkM I J T) Q := by
  subst ha
  subst hr
  apply ev_X4_both
  · exact ⟨fun _ h => ⟨fun _ => h, fun _ => h⟩, fun _ h => ⟨fun _ => h, fun _ => h⟩, fun _ _ _ _ _ _ _ _ h => ⟨fun _ => h, fun _ => h⟩⟩
  · rcases hk with rfl | rfl
    · exact g
    · exact g
theorem ev_reckonN {d kk : Nat} {a x y : Int32} {m : Mem} {Q : Option Value → Mem → Prop} (hk : 2 ≤ kk ∧ kk ≤ 9) (ha : a = nI kk) (hr : ¬ ((kk = 5 ∨ kk = 6) ∧ y = 0)) (g : Q (some (.int (opF kk x y))) m) : Ev mt aM (d + 1) 208 [.int a, .int x, .int y] m Q := by
  subst ha
  have e := both_opF hk x y hr
  apply ev_X12_reckon
  · refine ⟨fun q => ?_, fun q => ?_⟩
    · intro hy
      apply hr
      refine ⟨Or.inl ?_, hy⟩
      exact (nI_eq (by omega) (by omega)).mp (show nI kk = nI 5 from q)
    · intro hy
      apply hr
      refine ⟨Or.inr ?_, hy⟩
      exact (nI_eq (by omega) (by omega)).mp (show nI kk = nI 6 from q)
  · rw [e.2.2]
    exact g
set_option maxRecDepth 20000 in
theorem run_num {d : Nat} {b k : Int32} {t h W : Nat} {I : Nat → Nat → Int32} {J : Nat → Nat → Int64} {T : Nat → Nat → Nat} {Q : Option Value → Mem → Prop} (ht : TX t) (hbk : ¬ b ≤ k) (hv : vp_in k 200) (hh : h < 40) (hW : (si (si I 10 3 (0 : Int32)) 10 2 (nI h)) (t + 1) k.toNatClampNeg = nI W) (hk : (nI W) &&& (15 : Int32) = (0 : Int32)) (hyp : Go none aM (Ev mt aM (d + 2)) mX4_run Q (13, [some (.ref 10), some (.ref t), none, some (.int b), some (.int (k + 1)), none, none, none, none], [], (SH, mkM (si (si (si (si I 10 3 (0 : Int32)) 10 2 (nI h)) 12 h ((nI W) >>> ((4 : Int32) &&& 31))) 10 2 (nI (h + 1))) J T), 0, 0)) : Go none aM (Ev mt aM (d + 2)) mX4_run Q (13, [some (.ref 10), some (.ref t), none, some (.int b), some (.int k), none, none, none, none], [], (SH, mkM (si (si I 10 3 (0 : Int32)) 10 2 (nI h)) J T), 0, 0) := by
  refine Go.of_run (Ev.mono _) 3 _ ?_
  show Go none aM (Ev mt aM (d + 2)) mX4_run Q (if b ≤ k then 199 else 19, [some (.ref 10), some (.ref t), none, some (.int b), some (.int k), none, none, none, none], [], (SH, mkM (si (si I 10 3 (0 : Int32)) 10 2 (nI h)) J T), 0, 0)
  rw [if_neg hbk]
  refine Go.of_run (Ev.mono _) 3 _ ?_
  show Go none aM (Ev mt aM (d + 2)) mX4_run Q (if (0 : Int32) = 0 then 26 else 199, [some (.ref 10), some (.ref t), none, some (.int b), some (.int k), none, none, none, none], [], (SH, mkM (si (si I 10 3 (0 : Int32)) 10 2 (nI h)) J T), 0, 0)
  rw [if_pos (by decide : (0 : Int32) = 0)]
  refine Go.of_run (Ev.mono _) 1 _ ?_
  show Go none aM (Ev mt aM (d + 2)) mX4_run Q (27, [some (.ref 10), some (.ref t), none, some (.int b), some (.int k), none, none, none, none], [.ref t], (SH, mkM (si (si I 10 3 (0 : Int32)) 10 2 (nI h)) J T), 0, 0)
  refine go_txR (k := 0) (Ev.mono _) ht rfl rfl ?_
  show Go none aM (Ev mt aM (d + 2)) mX4_run Q (30, [some (.ref 10), some (.ref t), none, some (.int b), some (.int k), none, none, none, none], [.ref (t + 1)], (SH, mkM (si (si I 10 3 (0 : Int32)) 10 2 (nI h)) J T), 0, 0)
  refine Go.of_run (Ev.mono _) 2 _ ?_
  refine ⟨Nat.le_of_ble_eq_true rfl, ev_word (W := W) ht hv hW ?_⟩
  show Go none aM (Ev mt aM (d + 2)) mX4_run Q (35, [some (.ref 10), some (.ref t), none, some (.int b), some (.int k), none, none, none, none], [.int (nI W)], (SH, mkM (si (si I 10 3 (0 : Int32)) 10 2 (nI h)) J T), 0, 0)
  refine Go.of_run (Ev.mono _) 11 _ ?_
  show Go none aM (Ev mt aM (d + 2)) mX4_run Q (if (nI W) &&& (15 : Int32) = 0 then 55 else 64, [some (.ref 10), some (.ref t), none, some (.int b), some (.int k), some (.int (nI W)), some (.int ((nI W) &&& (15 : Int32))), some (.int ((nI W) >>> ((4 : Int32) &&& 31))), none], [], (SH, mkM (si (si I 10 3 (0 : Int32)) 10 2 (nI h)) J T), 0, 0)
  rw [if_pos (by rw [hk])]
  refine Go.of_run (Ev.mono _) 3 _ ?_
  refine ⟨Nat.le_of_ble_eq_true rfl, ev_push (h := h) hh rfl ?_⟩
  show Go none aM (Ev mt aM (d + 2)) mX4_run Q (61, [some (.ref 10), some (.ref t), none, some (.int b), some (.int k), some (.int (nI W)), some (.int ((nI W) &&& (15 : Int32))), some (.int ((nI W) >>> ((4 : Int32) &&& 31))), none], [], (SH, mkM (si (si (si (si I 10 3 (0 : Int32)) 10 2 (nI h)) 12 h ((nI W) >>> ((4 : Int32) &&& 31))) 10 2 (nI (h + 1))) J T), 0, 0)
  refine Go.of_run (Ev.mono _) 3 _ ?_
  exact Go.weak (Ev.mono _) (LLe.cons (LLe.cons (LLe.cons (LLe.cons (LLe.cons (LLe.drop (LLe.drop (LLe.drop (LLe.cons LLe.nil))))))))) hyp
set_option maxRecDepth 20000 in
theorem run_let {d : Nat} {b k : Int32} {t h W : Nat} {I : Nat → Nat → Int32} {J : Nat → Nat → Int64} {T : Nat → Nat → Nat} {Q : Option Value → Mem → Prop} (ht : TX t) (hbk : ¬ b ≤ k) (hv : vp_in k 200) (hh : h < 40) (hW : (si (si I 10 3 (0 : Int32)) 10 2 (nI h)) (t + 1) k.toNatClampNeg = nI W) (hk : (nI W) &&& (15 : Int32) = (1 : Int32)) (hyp : (vp_in ((nI W) >>> ((4 : Int32) &&& 31)) 16 ∧ Go none aM (Ev mt aM (d + 2)) mX4_run Q (13, [some (.ref 10), some (.ref t), none, some (.int b), some (.int (k + 1)), none, none, none, none], [], (SH, mkM (si (si (si (si I 10 3 (0 : Int32)) 10 2 (nI h)) 12 h (v_X5_at_11 ((nI W) >>> ((4 : Int32) &&& 31)) (si (si I 10 3 (0 : Int32)) 10 2 (nI h)))) 10 2 (nI (h + 1))) J T), 0, 0))) : Go none aM (Ev mt aM (d + 2)) mX4_run Q (13, [some (.ref 10), some (.ref t), none, some (.int b), some (.int k), none, none, none, none], [], (SH, mkM (si (si I 10 3 (0 : Int32)) 10 2 (nI h)) J T), 0, 0) := by
  refine Go.of_run (Ev.mono _) 3 _ ?_
  show Go none aM (Ev mt aM (d + 2)) mX4_run Q (if b ≤ k then 199 else 19, [some (.ref 10), some (.ref t), none, some (.int b), some (.int k), none, none, none, none], [], (SH, mkM (si (si I 10 3 (0 : Int32)) 10 2 (nI h)) J T), 0, 0)
  rw [if_neg hbk]
  refine Go.of_run (Ev.mono _) 3 _ ?_
  show Go none aM (Ev mt aM (d + 2)) mX4_run Q (if (0 : Int32) = 0 then 26 else 199, [some (.ref 10), some (.ref t), none, some (.int b), some (.int k), none, none, none, none], [], (SH, mkM (si (si I 10 3 (0 : Int32)) 10 2 (nI h)) J T), 0, 0)
  rw [if_pos (by decide : (0 : Int32) = 0)]
  refine Go.of_run (Ev.mono _) 1 _ ?_
  show Go none aM (Ev mt aM (d + 2)) mX4_run Q (27, [some (.ref 10), some (.ref t), none, some (.int b), some (.int k), none, none, none, none], [.ref t], (SH, mkM (si (si I 10 3 (0 : Int32)) 10 2 (nI h)) J T), 0, 0)
  refine go_txR (k := 0) (Ev.mono _) ht rfl rfl ?_
  show Go none aM (Ev mt aM (d + 2)) mX4_run Q (30, [some (.ref 10), some (.ref t), none, some (.int b), some (.int k), none, none, none, none], [.ref (t + 1)], (SH, mkM (si (si I 10 3 (0 : Int32)) 10 2 (nI h)) J T), 0, 0)
  refine Go.of_run (Ev.mono _) 2 _ ?_
  refine ⟨Nat.le_of_ble_eq_true rfl, ev_word (W := W) ht hv hW ?_⟩
  show Go none aM (Ev mt aM (d + 2)) mX4_run Q (35, [some (.ref 10), some (.ref t), none, some (.int b), some (.int k), none, none, none, none], [.int (nI W)], (SH, mkM (si (si I 10 3 (0 : Int32)) 10 2 (nI h)) J T), 0, 0)
  refine Go.of_run (Ev.mono _) 11 _ ?_
  show Go none aM (Ev mt aM (d + 2)) mX4_run Q (if (nI W) &&& (15 : Int32) = 0 then 55 else 64, [some (.ref 10), some (.ref t), none, some (.int b), some (.int k), some (.int (nI W)), some (.int ((nI W) &&& (15 : Int32))), some (.int ((nI W) >>> ((4 : Int32) &&& 31))), none], [], (SH, mkM (si (si I 10 3 (0 : Int32)) 10 2 (nI h)) J T), 0, 0)
  rw [if_neg (by rw [hk]; decide)]
  refine Go.of_run (Ev.mono _) 3 _ ?_
  show Go none aM (Ev mt aM (d + 2)) mX4_run Q (if (nI W) &&& (15 : Int32) = (1 : Int32) then 70 else 86, [some (.ref 10), some (.ref t), none, some (.int b), some (.int k), some (.int (nI W)), some (.int ((nI W) &&& (15 : Int32))), some (.int ((nI W) >>> ((4 : Int32) &&& 31))), none], [], (SH, mkM (si (si I 10 3 (0 : Int32)) 10 2 (nI h)) J T), 0, 0)
  rw [if_pos (by rw [hk])]
  refine Go.of_run (Ev.mono _) 5 _ ?_
  refine ⟨Nat.le_of_ble_eq_true rfl, ev_X5_at_11 hyp.1 ?_⟩
  show Go none aM (Ev mt aM (d + 2)) mX4_run Q (80, [some (.ref 10), some (.ref t), none, some (.int b), some (.int k), some (.int (nI W)), some (.int ((nI W) &&& (15 : Int32))), some (.int ((nI W) >>> ((4 : Int32) &&& 31))), none], [.int (v_X5_at_11 ((nI W) >>> ((4 : Int32) &&& 31)) (si (si I 10 3 (0 : Int32)) 10 2 (nI h))), .ref 10], (SH, mkM (si (si I 10 3 (0 : Int32)) 10 2 (nI h)) J T), 0, 0)
  refine Go.of_run (Ev.mono _) 1 _ ?_
  refine ⟨Nat.le_of_ble_eq_true rfl, ev_push (h := h) hh rfl ?_⟩
  show Go none aM (Ev mt aM (d + 2)) mX4_run Q (83, [some (.ref 10), some (.ref t), none, some (.int b), some (.int k), some (.int (nI W)), some (.int ((nI W) &&& (15 : Int32))), some (.int ((nI W) >>> ((4 : Int32) &&& 31))), none], [], (SH, mkM (si (si (si (si I 10 3 (0 : Int32)) 10 2 (nI h)) 12 h (v_X5_at_11 ((nI W) >>> ((4 : Int32) &&& 31)) (si (si I 10 3 (0 : Int32)) 10 2 (nI h)))) 10 2 (nI (h + 1))) J T), 0, 0)
  refine Go.of_run (Ev.mono _) 3 _ ?_
  exact Go.weak (Ev.mono _) (LLe.cons (LLe.cons (LLe.cons (LLe.cons (LLe.cons (LLe.drop (LLe.drop (LLe.drop (LLe.cons LLe.nil))))))))) hyp.2
set_option maxRecDepth 20000 in
theorem run_not {d : Nat} {b k : Int32} {t h W : Nat} {I : Nat → Nat → Int32} {J : Nat → Nat → Int64} {T : Nat → Nat → Nat} {Q : Option Value → Mem → Prop} (ht : TX t) (hbk : ¬ b ≤ k) (hv : vp_in k 200) (hh : h < 40) (hW : (si (si I 10 3 (0 : Int32)) 10 2 (nI (h + 1))) (t + 1) k.toNatClampNeg = nI W) (hk : (nI W) &&& (15 : Int32) = (10 : Int32)) (hyp : Go none aM (Ev mt aM (d + 2)) mX4_run Q (13, [some (.ref 10), some (.ref t), none, some (.int b), some (.int (k + 1)), none, none, none, none], [], (SH, mkM (si (si (si (si (si I 10 3 (0 : Int32)) 10 2 (nI (h + 1))) 10 2 (nI h)) 12 h ((1 : Int32) - (I 12 h))) 10 2 (nI (h + 1))) J T), 0, 0)) : Go none aM (Ev mt aM (d + 2)) mX4_run Q (13, [some (.ref 10), some (.ref t), none, some (.int b), some (.int k), none, none, none, none], [], (SH, mkM (si (si I 10 3 (0 : Int32)) 10 2 (nI (h + 1))) J T), 0, 0) := by
  refine Go.of_run (Ev.mono _) 3 _ ?_
  show Go none aM (Ev mt aM (d + 2)) mX4_run Q (if b ≤ k then 199 else 19, [some (.ref 10), some (.ref t), none, some (.int b), some (.int k), none, none, none, none], [], (SH, mkM (si (si I 10 3 (0 : Int32)) 10 2 (nI (h + 1))) J T), 0, 0)
  rw [if_neg hbk]
  refine Go.of_run (Ev.mono _) 3 _ ?_
  show Go none aM (Ev mt aM (d + 2)) mX4_run Q (if (0 : Int32) = 0 then 26 else 199, [some (.ref 10), some (.ref t), none, some (.int b), some (.int k), none, none, none, none], [], (SH, mkM (si (si I 10 3 (0 : Int32)) 10 2 (nI (h + 1))) J T), 0, 0)
  rw [if_pos (by decide : (0 : Int32) = 0)]
  refine Go.of_run (Ev.mono _) 1 _ ?_
  show Go none aM (Ev mt aM (d + 2)) mX4_run Q (27, [some (.ref 10), some (.ref t), none, some (.int b), some (.int k), none, none, none, none], [.ref t], (SH, mkM (si (si I 10 3 (0 : Int32)) 10 2 (nI (h + 1))) J T), 0, 0)
  refine go_txR (k := 0) (Ev.mono _) ht rfl rfl ?_
  show Go none aM (Ev mt aM (d + 2)) mX4_run Q (30, [some (.ref 10), some (.ref t), none, some (.int b), some (.int k), none, none, none, none], [.ref (t + 1)], (SH, mkM (si (si I 10 3 (0 : Int32)) 10 2 (nI (h + 1))) J T), 0, 0)
  refine Go.of_run (Ev.mono _) 2 _ ?_
  refine ⟨Nat.le_of_ble_eq_true rfl, ev_word (W := W) ht hv hW ?_⟩
  show Go none aM (Ev mt aM (d + 2)) mX4_run Q (35, [some (.ref 10), some (.ref t), none, some (.int b), some (.int k), none, none, none, none], [.int (nI W)], (SH, mkM (si (si I 10 3 (0 : Int32)) 10 2 (nI (h + 1))) J T), 0, 0)
  refine Go.of_run (Ev.mono _) 11 _ ?_
  show Go none aM (Ev mt aM (d + 2)) mX4_run Q (if (nI W) &&& (15 : Int32) = 0 then 55 else 64, [some (.ref 10), some (.ref t), none, some (.int b), some (.int k), some (.int (nI W)), some (.int ((nI W) &&& (15 : Int32))), some (.int ((nI W) >>> ((4 : Int32) &&& 31))), none], [], (SH, mkM (si (si I 10 3 (0 : Int32)) 10 2 (nI (h + 1))) J T), 0, 0)
  rw [if_neg (by rw [hk]; decide)]
  refine Go.of_run (Ev.mono _) 3 _ ?_
  show Go none aM (Ev mt aM (d + 2)) mX4_run Q (if (nI W) &&& (15 : Int32) = (1 : Int32) then 70 else 86, [some (.ref 10), some (.ref t), none, some (.int b), some (.int k), some (.int (nI W)), some (.int ((nI W) &&& (15 : Int32))), some (.int ((nI W) >>> ((4 : Int32) &&& 31))), none], [], (SH, mkM (si (si I 10 3 (0 : Int32)) 10 2 (nI (h + 1))) J T), 0, 0)
  rw [if_neg (by rw [hk]; decide)]
  refine Go.of_run (Ev.mono _) 3 _ ?_
  show Go none aM (Ev mt aM (d + 2)) mX4_run Q (if (nI W) &&& (15 : Int32) = (10 : Int32) then 93 else 106, [some (.ref 10), some (.ref t), none, some (.int b), some (.int k), some (.int (nI W)), some (.int ((nI W) &&& (15 : Int32))), some (.int ((nI W) >>> ((4 : Int32) &&& 31))), none], [], (SH, mkM (si (si I 10 3 (0 : Int32)) 10 2 (nI (h + 1))) J T), 0, 0)
  rw [if_pos (by rw [hk])]
  refine Go.of_run (Ev.mono _) 4 _ ?_
  refine ⟨Nat.le_of_ble_eq_true rfl, ev_pop (h := h) hh rfl ?_⟩
  show Go none aM (Ev mt aM (d + 2)) mX4_run Q (99, [some (.ref 10), some (.ref t), none, some (.int b), some (.int k), some (.int (nI W)), some (.int ((nI W) &&& (15 : Int32))), some (.int ((nI W) >>> ((4 : Int32) &&& 31))), none], [.int (I 12 h), .int (1 : Int32), .ref 10], (SH, mkM (si (si (si I 10 3 (0 : Int32)) 10 2 (nI (h + 1))) 10 2 (nI h)) J T), 0, 0)
  refine Go.of_run (Ev.mono _) 2 _ ?_
  refine ⟨Nat.le_of_ble_eq_true rfl, ev_push (h := h) hh rfl ?_⟩
  show Go none aM (Ev mt aM (d + 2)) mX4_run Q (103, [some (.ref 10), some (.ref t), none, some (.int b), some (.int k), some (.int (nI W)), some (.int ((nI W) &&& (15 : Int32))), some (.int ((nI W) >>> ((4 : Int32) &&& 31))), none], [], (SH, mkM (si (si (si (si (si I 10 3 (0 : Int32)) 10 2 (nI (h + 1))) 10 2 (nI h)) 12 h ((1 : Int32) - (I 12 h))) 10 2 (nI (h + 1))) J T), 0, 0)
  refine Go.of_run (Ev.mono _) 3 _ ?_
  exact Go.weak (Ev.mono _) (LLe.cons (LLe.cons (LLe.cons (LLe.cons (LLe.cons (LLe.drop (LLe.drop (LLe.drop (LLe.cons LLe.nil))))))))) hyp
set_option maxRecDepth 20000 in
theorem run_and {d : Nat} {b k : Int32} {t h W : Nat} {I : Nat → Nat → Int32} {J : Nat → Nat → Int64} {T : Nat → Nat → Nat} {Q : Option Value → Mem → Prop} (ht : TX t) (hbk : ¬ b ≤ k) (hv : vp_in k 200) (hh : h < 40) (hW : (si (si I 10 3 (0 : Int32)) 10 2 (nI (h + 1))) (t + 1) k.toNatClampNeg = nI W) (hk : (nI W) &&& (15 : Int32) = (11 : Int32)) (hyp : ((I 12 h = 0 → Go none aM (Ev mt aM (d + 2)) mX4_run Q (13, [some (.ref 10), some (.ref t), none, some (.int b), some (.int ((if k < (((nI W) >>> ((4 : Int32) &&& 31)) - (1 : Int32)) then (((nI W) >>> ((4 : Int32) &&& 31)) - (1 : Int32)) else k) + 1)), none, none, none, none], [], (SH, mkM (si (si (si (si (si I 10 3 (0 : Int32)) 10 2 (nI (h + 1))) 10 2 (nI h)) 12 h (I 12 h)) 10 2 (nI (h + 1))) J T), 0, 0)) ∧ ((¬ (I 12 h = 0)) → Go none aM (Ev mt aM (d + 2)) mX4_run Q (13, [some (.ref 10), some (.ref t), none, some (.int b), some (.int (k + 1)), none, none, none, none], [], (SH, mkM (si (si (si I 10 3 (0 : Int32)) 10 2 (nI (h + 1))) 10 2 (nI h)) J T), 0, 0)))) : Go none aM (Ev mt aM (d + 2)) mX4_run Q (13, [some (.ref 10), some (.ref t), none, some (.int b), some (.int k), none, none, none, none], [], (SH, mkM (si (si I 10 3 (0 : Int32)) 10 2 (nI (h + 1))) J T), 0, 0) := by
  refine Go.of_run (Ev.mono _) 3 _ ?_
  show Go none aM (Ev mt aM (d + 2)) mX4_run Q (if b ≤ k then 199 else 19, [some (.ref 10), some (.ref t), none, some (.int b), some (.int k), none, none, none, none], [], (SH, mkM (si (si I 10 3 (0 : Int32)) 10 2 (nI (h + 1))) J T), 0, 0)
  rw [if_neg hbk]
  refine Go.of_run (Ev.mono _) 3 _ ?_
  show Go none aM (Ev mt aM (d + 2)) mX4_run Q (if (0 : Int32) = 0 then 26 else 199, [some (.ref 10), some (.ref t), none, some (.int b), some (.int k), none, none, none, none], [], (SH, mkM (si (si I 10 3 (0 : Int32)) 10 2 (nI (h + 1))) J T), 0, 0)
  rw [if_pos (by decide : (0 : Int32) = 0)]
  refine Go.of_run (Ev.mono _) 1 _ ?_
  show Go none aM (Ev mt aM (d + 2)) mX4_run Q (27, [some (.ref 10), some (.ref t), none, some (.int b), some (.int k), none, none, none, none], [.ref t], (SH, mkM (si (si I 10 3 (0 : Int32)) 10 2 (nI (h + 1))) J T), 0, 0)
  refine go_txR (k := 0) (Ev.mono _) ht rfl rfl ?_
  show Go none aM (Ev mt aM (d + 2)) mX4_run Q (30, [some (.ref 10), some (.ref t), none, some (.int b), some (.int k), none, none, none, none], [.ref (t + 1)], (SH, mkM (si (si I 10 3 (0 : Int32)) 10 2 (nI (h + 1))) J T), 0, 0)
  refine Go.of_run (Ev.mono _) 2 _ ?_
  refine ⟨Nat.le_of_ble_eq_true rfl, ev_word (W := W) ht hv hW ?_⟩
  show Go none aM (Ev mt aM (d + 2)) mX4_run Q (35, [some (.ref 10), some (.ref t), none, some (.int b), some (.int k), none, none, none, none], [.int (nI W)], (SH, mkM (si (si I 10 3 (0 : Int32)) 10 2 (nI (h + 1))) J T), 0, 0)
  refine Go.of_run (Ev.mono _) 11 _ ?_
  show Go none aM (Ev mt aM (d + 2)) mX4_run Q (if (nI W) &&& (15 : Int32) = 0 then 55 else 64, [some (.ref 10), some (.ref t), none, some (.int b), some (.int k), some (.int (nI W)), some (.int ((nI W) &&& (15 : Int32))), some (.int ((nI W) >>> ((4 : Int32) &&& 31))), none], [], (SH, mkM (si (si I 10 3 (0 : Int32)) 10 2 (nI (h + 1))) J T), 0, 0)
  rw [if_neg (by rw [hk]; decide)]
  refine Go.of_run (Ev.mono _) 3 _ ?_
  show Go none aM (Ev mt aM (d + 2)) mX4_run Q (if (nI W) &&& (15 : Int32) = (1 : Int32) then 70 else 86, [some (.ref 10), some (.ref t), none, some (.int b), some (.int k), some (.int (nI W)), some (.int ((nI W) &&& (15 : Int32))), some (.int ((nI W) >>> ((4 : Int32) &&& 31))), none], [], (SH, mkM (si (si I 10 3 (0 : Int32)) 10 2 (nI (h + 1))) J T), 0, 0)
  rw [if_neg (by rw [hk]; decide)]
  refine Go.of_run (Ev.mono _) 3 _ ?_
  show Go none aM (Ev mt aM (d + 2)) mX4_run Q (if (nI W) &&& (15 : Int32) = (10 : Int32) then 93 else 106, [some (.ref 10), some (.ref t), none, some (.int b), some (.int k), some (.int (nI W)), some (.int ((nI W) &&& (15 : Int32))), some (.int ((nI W) >>> ((4 : Int32) &&& 31))), none], [], (SH, mkM (si (si I 10 3 (0 : Int32)) 10 2 (nI (h + 1))) J T), 0, 0)
  rw [if_neg (by rw [hk]; decide)]
  refine Go.of_run (Ev.mono _) 3 _ ?_
  show Go none aM (Ev mt aM (d + 2)) mX4_run Q (if (nI W) &&& (15 : Int32) = (11 : Int32) then 120 else 113, [some (.ref 10), some (.ref t), none, some (.int b), some (.int k), some (.int (nI W)), some (.int ((nI W) &&& (15 : Int32))), some (.int ((nI W) >>> ((4 : Int32) &&& 31))), none], [], (SH, mkM (si (si I 10 3 (0 : Int32)) 10 2 (nI (h + 1))) J T), 0, 0)
  rw [if_pos (by rw [hk])]
  refine Go.of_run (Ev.mono _) 2 _ ?_
  refine ⟨Nat.le_of_ble_eq_true rfl, ev_pop (h := h) hh rfl ?_⟩
  show Go none aM (Ev mt aM (d + 2)) mX4_run Q (124, [some (.ref 10), some (.ref t), none, some (.int b), some (.int k), some (.int (nI W)), some (.int ((nI W) &&& (15 : Int32))), some (.int ((nI W) >>> ((4 : Int32) &&& 31))), none], [.int (I 12 h)], (SH, mkM (si (si (si I 10 3 (0 : Int32)) 10 2 (nI (h + 1))) 10 2 (nI h)) J T), 0, 0)
  refine Go.of_run (Ev.mono _) 3 _ ?_
  show Go none aM (Ev mt aM (d + 2)) mX4_run Q (if I 12 h = 0 then 131 else 135, [some (.ref 10), some (.ref t), none, some (.int b), some (.int k), some (.int (nI W)), some (.int ((nI W) &&& (15 : Int32))), some (.int ((nI W) >>> ((4 : Int32) &&& 31))), some (.int (I 12 h))], [], (SH, mkM (si (si (si I 10 3 (0 : Int32)) 10 2 (nI (h + 1))) 10 2 (nI h)) J T), 0, 0)
  rcases Decidable.em (I 12 h = 0) with c1 | c1
  · rw [if_pos c1]
    refine Go.of_run (Ev.mono _) 5 _ ?_
    show Go none aM (Ev mt aM (d + 2)) mX4_run Q (if (nI W) &&& (15 : Int32) = (11 : Int32) then 143 else 147, [some (.ref 10), some (.ref t), none, some (.int b), some (.int k), some (.int (nI W)), some (.int ((nI W) &&& (15 : Int32))), some (.int ((nI W) >>> ((4 : Int32) &&& 31))), some (.int (I 12 h))], [.int (1 : Int32)], (SH, mkM (si (si (si I 10 3 (0 : Int32)) 10 2 (nI (h + 1))) 10 2 (nI h)) J T), 0, 0)
    rw [if_pos (by rw [hk])]
    refine Go.of_run (Ev.mono _) 3 _ ?_
    show Go none aM (Ev mt aM (d + 2)) mX4_run Q (if (1 : Int32) = (1 : Int32) then 151 else 168, [some (.ref 10), some (.ref t), none, some (.int b), some (.int k), some (.int (nI W)), some (.int ((nI W) &&& (15 : Int32))), some (.int ((nI W) >>> ((4 : Int32) &&& 31))), some (.int (I 12 h))], [], (SH, mkM (si (si (si I 10 3 (0 : Int32)) 10 2 (nI (h + 1))) 10 2 (nI h)) J T), 0, 0)
    rw [if_pos (by decide : (1 : Int32) = (1 : Int32))]
    refine Go.of_run (Ev.mono _) 3 _ ?_
    refine ⟨Nat.le_of_ble_eq_true rfl, ev_push (h := h) hh rfl ?_⟩
    show Go none aM (Ev mt aM (d + 2)) mX4_run Q (157, [some (.ref 10), some (.ref t), none, some (.int b), some (.int k), some (.int (nI W)), some (.int ((nI W) &&& (15 : Int32))), some (.int ((nI W) >>> ((4 : Int32) &&& 31))), some (.int (I 12 h))], [], (SH, mkM (si (si (si (si (si I 10 3 (0 : Int32)) 10 2 (nI (h + 1))) 10 2 (nI h)) 12 h (I 12 h)) 10 2 (nI (h + 1))) J T), 0, 0)
    refine Go.of_run (Ev.mono _) 5 _ ?_
    refine ⟨Nat.le_of_ble_eq_true rfl, ?_⟩
    show Go none aM (Ev mt aM (d + 2)) mX4_run Q (166, [some (.ref 10), some (.ref t), none, some (.int b), some (.int k), some (.int (nI W)), some (.int ((nI W) &&& (15 : Int32))), some (.int ((nI W) >>> ((4 : Int32) &&& 31))), some (.int (I 12 h))], [.int (if k < (((nI W) >>> ((4 : Int32) &&& 31)) - (1 : Int32)) then (((nI W) >>> ((4 : Int32) &&& 31)) - (1 : Int32)) else k)], (SH, mkM (si (si (si (si (si I 10 3 (0 : Int32)) 10 2 (nI (h + 1))) 10 2 (nI h)) 12 h (I 12 h)) 10 2 (nI (h + 1))) J T), 0, 0)
    refine Go.of_run (Ev.mono _) 4 _ ?_
    exact Go.weak (Ev.mono _) (LLe.cons (LLe.cons (LLe.cons (LLe.cons (LLe.cons (LLe.drop (LLe.drop (LLe.drop (LLe.drop LLe.nil))))))))) (hyp.1 c1)
  · rw [if_neg c1]
    refine Go.of_run (Ev.mono _) 4 _ ?_
    show Go none aM (Ev mt aM (d + 2)) mX4_run Q (if (nI W) &&& (15 : Int32) = (11 : Int32) then 143 else 147, [some (.ref 10), some (.ref t), none, some (.int b), some (.int k), some (.int (nI W)), some (.int ((nI W) &&& (15 : Int32))), some (.int ((nI W) >>> ((4 : Int32) &&& 31))), some (.int (I 12 h))], [.int (0 : Int32)], (SH, mkM (si (si (si I 10 3 (0 : Int32)) 10 2 (nI (h + 1))) 10 2 (nI h)) J T), 0, 0)
    rw [if_pos (by rw [hk])]
    refine Go.of_run (Ev.mono _) 3 _ ?_
    show Go none aM (Ev mt aM (d + 2)) mX4_run Q (if (0 : Int32) = (1 : Int32) then 151 else 168, [some (.ref 10), some (.ref t), none, some (.int b), some (.int k), some (.int (nI W)), some (.int ((nI W) &&& (15 : Int32))), some (.int ((nI W) >>> ((4 : Int32) &&& 31))), some (.int (I 12 h))], [], (SH, mkM (si (si (si I 10 3 (0 : Int32)) 10 2 (nI (h + 1))) 10 2 (nI h)) J T), 0, 0)
    rw [if_neg (by decide : ¬ ((0 : Int32) = (1 : Int32)))]
    refine Go.of_run (Ev.mono _) 3 _ ?_
    exact Go.weak (Ev.mono _) (LLe.cons (LLe.cons (LLe.cons (LLe.cons (LLe.cons (LLe.drop (LLe.drop (LLe.drop (LLe.drop LLe.nil))))))))) (hyp.2 c1)
set_option maxRecDepth 20000 in
theorem run_or {d : Nat} {b k : Int32} {t h W : Nat} {I : Nat → Nat → Int32} {J : Nat → Nat → Int64} {T : Nat → Nat → Nat} {Q : Option Value → Mem → Prop} (ht : TX t) (hbk : ¬ b ≤ k) (hv : vp_in k 200) (hh : h < 40) (hW : (si (si I 10 3 (0 : Int32)) 10 2 (nI (h + 1))) (t + 1) k.toNatClampNeg = nI W) (hk : (nI W) &&& (15 : Int32) = (12 : Int32)) (hyp : ((I 12 h = 0 → Go none aM (Ev mt aM (d + 2)) mX4_run Q (13, [some (.ref 10), some (.ref t), none, some (.int b), some (.int (k + 1)), none, none, none, none], [], (SH, mkM (si (si (si I 10 3 (0 : Int32)) 10 2 (nI (h + 1))) 10 2 (nI h)) J T), 0, 0)) ∧ ((¬ (I 12 h = 0)) → Go none aM (Ev mt aM (d + 2)) mX4_run Q (13, [some (.ref 10), some (.ref t), none, some (.int b), some (.int ((if k < (((nI W) >>> ((4 : Int32) &&& 31)) - (1 : Int32)) then (((nI W) >>> ((4 : Int32) &&& 31)) - (1 : Int32)) else k) + 1)), none, none, none, none], [], (SH, mkM (si (si (si (si (si I 10 3 (0 : Int32)) 10 2 (nI (h + 1))) 10 2 (nI h)) 12 h (I 12 h)) 10 2 (nI (h + 1))) J T), 0, 0)))) : Go none aM (Ev mt aM (d + 2)) mX4_run Q (13, [some (.ref 10), some (.ref t), none, some (.int b), some (.int k), none, none, none, none], [], (SH, mkM (si (si I 10 3 (0 : Int32)) 10 2 (nI (h + 1))) J T), 0, 0) := by
  refine Go.of_run (Ev.mono _) 3 _ ?_
  show Go none aM (Ev mt aM (d + 2)) mX4_run Q (if b ≤ k then 199 else 19, [some (.ref 10), some (.ref t), none, some (.int b), some (.int k), none, none, none, none], [], (SH, mkM (si (si I 10 3 (0 : Int32)) 10 2 (nI (h + 1))) J T), 0, 0)
  rw [if_neg hbk]
  refine Go.of_run (Ev.mono _) 3 _ ?_
  show Go none aM (Ev mt aM (d + 2)) mX4_run Q (if (0 : Int32) = 0 then 26 else 199, [some (.ref 10), some (.ref t), none, some (.int b), some (.int k), none, none, none, none], [], (SH, mkM (si (si I 10 3 (0 : Int32)) 10 2 (nI (h + 1))) J T), 0, 0)
  rw [if_pos (by decide : (0 : Int32) = 0)]
  refine Go.of_run (Ev.mono _) 1 _ ?_
  show Go none aM (Ev mt aM (d + 2)) mX4_run Q (27, [some (.ref 10), some (.ref t), none, some (.int b), some (.int k), none, none, none, none], [.ref t], (SH, mkM (si (si I 10 3 (0 : Int32)) 10 2 (nI (h + 1))) J T), 0, 0)
  refine go_txR (k := 0) (Ev.mono _) ht rfl rfl ?_
  show Go none aM (Ev mt aM (d + 2)) mX4_run Q (30, [some (.ref 10), some (.ref t), none, some (.int b), some (.int k), none, none, none, none], [.ref (t + 1)], (SH, mkM (si (si I 10 3 (0 : Int32)) 10 2 (nI (h + 1))) J T), 0, 0)
  refine Go.of_run (Ev.mono _) 2 _ ?_
  refine ⟨Nat.le_of_ble_eq_true rfl, ev_word (W := W) ht hv hW ?_⟩
  show Go none aM (Ev mt aM (d + 2)) mX4_run Q (35, [some (.ref 10), some (.ref t), none, some (.int b), some (.int k), none, none, none, none], [.int (nI W)], (SH, mkM (si (si I 10 3 (0 : Int32)) 10 2 (nI (h + 1))) J T), 0, 0)
  refine Go.of_run (Ev.mono _) 11 _ ?_
  show Go none aM (Ev mt aM (d + 2)) mX4_run Q (if (nI W) &&& (15 : Int32) = 0 then 55 else 64, [some (.ref 10), some (.ref t), none, some (.int b), some (.int k), some (.int (nI W)), some (.int ((nI W) &&& (15 : Int32))), some (.int ((nI W) >>> ((4 : Int32) &&& 31))), none], [], (SH, mkM (si (si I 10 3 (0 : Int32)) 10 2 (nI (h + 1))) J T), 0, 0)
  rw [if_neg (by rw [hk]; decide)]
  refine Go.of_run (Ev.mono _) 3 _ ?_
  show Go none aM (Ev mt aM (d + 2)) mX4_run Q (if (nI W) &&& (15 : Int32) = (1 : Int32) then 70 else 86, [some (.ref 10), some (.ref t), none, some (.int b), some (.int k), some (.int (nI W)), some (.int ((nI W) &&& (15 : Int32))), some (.int ((nI W) >>> ((4 : Int32) &&& 31))), none], [], (SH, mkM (si (si I 10 3 (0 : Int32)) 10 2 (nI (h + 1))) J T), 0, 0)
  rw [if_neg (by rw [hk]; decide)]
  refine Go.of_run (Ev.mono _) 3 _ ?_
  show Go none aM (Ev mt aM (d + 2)) mX4_run Q (if (nI W) &&& (15 : Int32) = (10 : Int32) then 93 else 106, [some (.ref 10), some (.ref t), none, some (.int b), some (.int k), some (.int (nI W)), some (.int ((nI W) &&& (15 : Int32))), some (.int ((nI W) >>> ((4 : Int32) &&& 31))), none], [], (SH, mkM (si (si I 10 3 (0 : Int32)) 10 2 (nI (h + 1))) J T), 0, 0)
  rw [if_neg (by rw [hk]; decide)]
  refine Go.of_run (Ev.mono _) 3 _ ?_
  show Go none aM (Ev mt aM (d + 2)) mX4_run Q (if (nI W) &&& (15 : Int32) = (11 : Int32) then 120 else 113, [some (.ref 10), some (.ref t), none, some (.int b), some (.int k), some (.int (nI W)), some (.int ((nI W) &&& (15 : Int32))), some (.int ((nI W) >>> ((4 : Int32) &&& 31))), none], [], (SH, mkM (si (si I 10 3 (0 : Int32)) 10 2 (nI (h + 1))) J T), 0, 0)
  rw [if_neg (by rw [hk]; decide)]
  refine Go.of_run (Ev.mono _) 3 _ ?_
  show Go none aM (Ev mt aM (d + 2)) mX4_run Q (if (nI W) &&& (15 : Int32) = (12 : Int32) then 120 else 171, [some (.ref 10), some (.ref t), none, some (.int b), some (.int k), some (.int (nI W)), some (.int ((nI W) &&& (15 : Int32))), some (.int ((nI W) >>> ((4 : Int32) &&& 31))), none], [], (SH, mkM (si (si I 10 3 (0 : Int32)) 10 2 (nI (h + 1))) J T), 0, 0)
  rw [if_pos (by rw [hk])]
  refine Go.of_run (Ev.mono _) 2 _ ?_
  refine ⟨Nat.le_of_ble_eq_true rfl, ev_pop (h := h) hh rfl ?_⟩
  show Go none aM (Ev mt aM (d + 2)) mX4_run Q (124, [some (.ref 10), some (.ref t), none, some (.int b), some (.int k), some (.int (nI W)), some (.int ((nI W) &&& (15 : Int32))), some (.int ((nI W) >>> ((4 : Int32) &&& 31))), none], [.int (I 12 h)], (SH, mkM (si (si (si I 10 3 (0 : Int32)) 10 2 (nI (h + 1))) 10 2 (nI h)) J T), 0, 0)
  refine Go.of_run (Ev.mono _) 3 _ ?_
  show Go none aM (Ev mt aM (d + 2)) mX4_run Q (if I 12 h = 0 then 131 else 135, [some (.ref 10), some (.ref t), none, some (.int b), some (.int k), some (.int (nI W)), some (.int ((nI W) &&& (15 : Int32))), some (.int ((nI W) >>> ((4 : Int32) &&& 31))), some (.int (I 12 h))], [], (SH, mkM (si (si (si I 10 3 (0 : Int32)) 10 2 (nI (h + 1))) 10 2 (nI h)) J T), 0, 0)
  rcases Decidable.em (I 12 h = 0) with c1 | c1
  · rw [if_pos c1]
    refine Go.of_run (Ev.mono _) 5 _ ?_
    show Go none aM (Ev mt aM (d + 2)) mX4_run Q (if (nI W) &&& (15 : Int32) = (11 : Int32) then 143 else 147, [some (.ref 10), some (.ref t), none, some (.int b), some (.int k), some (.int (nI W)), some (.int ((nI W) &&& (15 : Int32))), some (.int ((nI W) >>> ((4 : Int32) &&& 31))), some (.int (I 12 h))], [.int (1 : Int32)], (SH, mkM (si (si (si I 10 3 (0 : Int32)) 10 2 (nI (h + 1))) 10 2 (nI h)) J T), 0, 0)
    rw [if_neg (by rw [hk]; decide)]
    refine Go.of_run (Ev.mono _) 2 _ ?_
    show Go none aM (Ev mt aM (d + 2)) mX4_run Q (if (1 : Int32) = (0 : Int32) then 151 else 168, [some (.ref 10), some (.ref t), none, some (.int b), some (.int k), some (.int (nI W)), some (.int ((nI W) &&& (15 : Int32))), some (.int ((nI W) >>> ((4 : Int32) &&& 31))), some (.int (I 12 h))], [], (SH, mkM (si (si (si I 10 3 (0 : Int32)) 10 2 (nI (h + 1))) 10 2 (nI h)) J T), 0, 0)
    rw [if_neg (by decide : ¬ ((1 : Int32) = (0 : Int32)))]
    refine Go.of_run (Ev.mono _) 3 _ ?_
    exact Go.weak (Ev.mono _) (LLe.cons (LLe.cons (LLe.cons (LLe.cons (LLe.cons (LLe.drop (LLe.drop (LLe.drop (LLe.drop LLe.nil))))))))) (hyp.1 c1)
  · rw [if_neg c1]
    refine Go.of_run (Ev.mono _) 4 _ ?_
    show Go none aM (Ev mt aM (d + 2)) mX4_run Q (if (nI W) &&& (15 : Int32) = (11 : Int32) then 143 else 147, [some (.ref 10), some (.ref t), none, some (.int b), some (.int k), some (.int (nI W)), some (.int ((nI W) &&& (15 : Int32))), some (.int ((nI W) >>> ((4 : Int32) &&& 31))), some (.int (I 12 h))], [.int (0 : Int32)], (SH, mkM (si (si (si I 10 3 (0 : Int32)) 10 2 (nI (h + 1))) 10 2 (nI h)) J T), 0, 0)
    rw [if_neg (by rw [hk]; decide)]
    refine Go.of_run (Ev.mono _) 2 _ ?_
    show Go none aM (Ev mt aM (d + 2)) mX4_run Q (if (0 : Int32) = (0 : Int32) then 151 else 168, [some (.ref 10), some (.ref t), none, some (.int b), some (.int k), some (.int (nI W)), some (.int ((nI W) &&& (15 : Int32))), some (.int ((nI W) >>> ((4 : Int32) &&& 31))), some (.int (I 12 h))], [], (SH, mkM (si (si (si I 10 3 (0 : Int32)) 10 2 (nI (h + 1))) 10 2 (nI h)) J T), 0, 0)
    rw [if_pos (by decide : (0 : Int32) = (0 : Int32))]
    refine Go.of_run (Ev.mono _) 3 _ ?_
    refine ⟨Nat.le_of_ble_eq_true rfl, ev_push (h := h) hh rfl ?_⟩
    show Go none aM (Ev mt aM (d + 2)) mX4_run Q (157, [some (.ref 10), some (.ref t), none, some (.int b), some (.int k), some (.int (nI W)), some (.int ((nI W) &&& (15 : Int32))), some (.int ((nI W) >>> ((4 : Int32) &&& 31))), some (.int (I 12 h))], [], (SH, mkM (si (si (si (si (si I 10 3 (0 : Int32)) 10 2 (nI (h + 1))) 10 2 (nI h)) 12 h (I 12 h)) 10 2 (nI (h + 1))) J T), 0, 0)
    refine Go.of_run (Ev.mono _) 5 _ ?_
    refine ⟨Nat.le_of_ble_eq_true rfl, ?_⟩
    show Go none aM (Ev mt aM (d + 2)) mX4_run Q (166, [some (.ref 10), some (.ref t), none, some (.int b), some (.int k), some (.int (nI W)), some (.int ((nI W) &&& (15 : Int32))), some (.int ((nI W) >>> ((4 : Int32) &&& 31))), some (.int (I 12 h))], [.int (if k < (((nI W) >>> ((4 : Int32) &&& 31)) - (1 : Int32)) then (((nI W) >>> ((4 : Int32) &&& 31)) - (1 : Int32)) else k)], (SH, mkM (si (si (si (si (si I 10 3 (0 : Int32)) 10 2 (nI (h + 1))) 10 2 (nI h)) 12 h (I 12 h)) 10 2 (nI (h + 1))) J T), 0, 0)
    refine Go.of_run (Ev.mono _) 4 _ ?_
    exact Go.weak (Ev.mono _) (LLe.cons (LLe.cons (LLe.cons (LLe.cons (LLe.cons (LLe.drop (LLe.drop (LLe.drop (LLe.drop LLe.nil))))))))) (hyp.2 c1)
set_option maxRecDepth 20000 in
theorem run_bin {d : Nat} {b k : Int32} {t h W kk : Nat} {I : Nat → Nat → Int32} {J : Nat → Nat → Int64} {T : Nat → Nat → Nat} {Q : Option Value → Mem → Prop} (ht : TX t) (hbk : ¬ b ≤ k) (hv : vp_in k 200) (hh : h < 40) (hW : (si (si I 10 3 (0 : Int32)) 10 2 (nI (h + 1 + 1))) (t + 1) k.toNatClampNeg = nI W) (hk0 : ¬ (nI W) &&& (15 : Int32) = 0) (hk1 : ¬ (nI W) &&& (15 : Int32) = (1 : Int32)) (hk10 : ¬ (nI W) &&& (15 : Int32) = (10 : Int32)) (hk11 : ¬ (nI W) &&& (15 : Int32) = (11 : Int32)) (hk12 : ¬ (nI W) &&& (15 : Int32) = (12 : Int32)) (hh2 : h + 1 < 40) (hk2 : 2 ≤ kk ∧ kk ≤ 9) (hkk : (nI W) &&& (15 : Int32) = nI kk) (hz : ¬ ((kk = 5 ∨ kk = 6) ∧ I 12 (h + 1) = 0)) (hyp : Go none aM (Ev mt aM (d + 2)) mX4_run Q (13, [some (.ref 10), some (.ref t), none, some (.int b), some (.int (k + 1)), none, none, none, none], [], (SH, mkM (si (si (si (si (si (si I 10 3 (0 : Int32)) 10 2 (nI (h + 1 + 1))) 10 2 (nI (h + 1))) 10 2 (nI h)) 12 h (opF kk (I 12 h) (I 12 (h + 1)))) 10 2 (nI (h + 1))) J T), 0, 0)) : Go none aM (Ev mt aM (d + 2)) mX4_run Q (13, [some (.ref 10), some (.ref t), none, some (.int b), some (.int k), none, none, none, none], [], (SH, mkM (si (si I 10 3 (0 : Int32)) 10 2 (nI (h + 1 + 1))) J T), 0, 0) := by
  refine Go.of_run (Ev.mono _) 3 _ ?_
  show Go none aM (Ev mt aM (d + 2)) mX4_run Q (if b ≤ k then 199 else 19, [some (.ref 10), some (.ref t), none, some (.int b), some (.int k), none, none, none, none], [], (SH, mkM (si (si I 10 3 (0 : Int32)) 10 2 (nI (h + 1 + 1))) J T), 0, 0)
  rw [if_neg hbk]
  refine Go.of_run (Ev.mono _) 3 _ ?_
  show Go none aM (Ev mt aM (d + 2)) mX4_run Q (if (0 : Int32) = 0 then 26 else 199, [some (.ref 10), some (.ref t), none, some (.int b), some (.int k), none, none, none, none], [], (SH, mkM (si (si I 10 3 (0 : Int32)) 10 2 (nI (h + 1 + 1))) J T), 0, 0)
  rw [if_pos (by decide : (0 : Int32) = 0)]
  refine Go.of_run (Ev.mono _) 1 _ ?_
  show Go none aM (Ev mt aM (d + 2)) mX4_run Q (27, [some (.ref 10), some (.ref t), none, some (.int b), some (.int k), none, none, none, none], [.ref t], (SH, mkM (si (si I 10 3 (0 : Int32)) 10 2 (nI (h + 1 + 1))) J T), 0, 0)
  refine go_txR (k := 0) (Ev.mono _) ht rfl rfl ?_
  show Go none aM (Ev mt aM (d + 2)) mX4_run Q (30, [some (.ref 10), some (.ref t), none, some (.int b), some (.int k), none, none, none, none], [.ref (t + 1)], (SH, mkM (si (si I 10 3 (0 : Int32)) 10 2 (nI (h + 1 + 1))) J T), 0, 0)
  refine Go.of_run (Ev.mono _) 2 _ ?_
  refine ⟨Nat.le_of_ble_eq_true rfl, ev_word (W := W) ht hv hW ?_⟩
  show Go none aM (Ev mt aM (d + 2)) mX4_run Q (35, [some (.ref 10), some (.ref t), none, some (.int b), some (.int k), none, none, none, none], [.int (nI W)], (SH, mkM (si (si I 10 3 (0 : Int32)) 10 2 (nI (h + 1 + 1))) J T), 0, 0)
  refine Go.of_run (Ev.mono _) 11 _ ?_
  show Go none aM (Ev mt aM (d + 2)) mX4_run Q (if (nI W) &&& (15 : Int32) = 0 then 55 else 64, [some (.ref 10), some (.ref t), none, some (.int b), some (.int k), some (.int (nI W)), some (.int ((nI W) &&& (15 : Int32))), some (.int ((nI W) >>> ((4 : Int32) &&& 31))), none], [], (SH, mkM (si (si I 10 3 (0 : Int32)) 10 2 (nI (h + 1 + 1))) J T), 0, 0)
  rw [if_neg hk0]
  refine Go.of_run (Ev.mono _) 3 _ ?_
  show Go none aM (Ev mt aM (d + 2)) mX4_run Q (if (nI W) &&& (15 : Int32) = (1 : Int32) then 70 else 86, [some (.ref 10), some (.ref t), none, some (.int b), some (.int k), some (.int (nI W)), some (.int ((nI W) &&& (15 : Int32))), some (.int ((nI W) >>> ((4 : Int32) &&& 31))), none], [], (SH, mkM (si (si I 10 3 (0 : Int32)) 10 2 (nI (h + 1 + 1))) J T), 0, 0)
  rw [if_neg hk1]
  refine Go.of_run (Ev.mono _) 3 _ ?_
  show Go none aM (Ev mt aM (d + 2)) mX4_run Q (if (nI W) &&& (15 : Int32) = (10 : Int32) then 93 else 106, [some (.ref 10), some (.ref t), none, some (.int b), some (.int k), some (.int (nI W)), some (.int ((nI W) &&& (15 : Int32))), some (.int ((nI W) >>> ((4 : Int32) &&& 31))), none], [], (SH, mkM (si (si I 10 3 (0 : Int32)) 10 2 (nI (h + 1 + 1))) J T), 0, 0)
  rw [if_neg hk10]
  refine Go.of_run (Ev.mono _) 3 _ ?_
  show Go none aM (Ev mt aM (d + 2)) mX4_run Q (if (nI W) &&& (15 : Int32) = (11 : Int32) then 120 else 113, [some (.ref 10), some (.ref t), none, some (.int b), some (.int k), some (.int (nI W)), some (.int ((nI W) &&& (15 : Int32))), some (.int ((nI W) >>> ((4 : Int32) &&& 31))), none], [], (SH, mkM (si (si I 10 3 (0 : Int32)) 10 2 (nI (h + 1 + 1))) J T), 0, 0)
  rw [if_neg hk11]
  refine Go.of_run (Ev.mono _) 3 _ ?_
  show Go none aM (Ev mt aM (d + 2)) mX4_run Q (if (nI W) &&& (15 : Int32) = (12 : Int32) then 120 else 171, [some (.ref 10), some (.ref t), none, some (.int b), some (.int k), some (.int (nI W)), some (.int ((nI W) &&& (15 : Int32))), some (.int ((nI W) >>> ((4 : Int32) &&& 31))), none], [], (SH, mkM (si (si I 10 3 (0 : Int32)) 10 2 (nI (h + 1 + 1))) J T), 0, 0)
  rw [if_neg hk12]
  refine Go.of_run (Ev.mono _) 2 _ ?_
  refine ⟨Nat.le_of_ble_eq_true rfl, ev_pop (h := h + 1) hh2 rfl ?_⟩
  show Go none aM (Ev mt aM (d + 2)) mX4_run Q (175, [some (.ref 10), some (.ref t), none, some (.int b), some (.int k), some (.int (nI W)), some (.int ((nI W) &&& (15 : Int32))), some (.int ((nI W) >>> ((4 : Int32) &&& 31))), none], [.int (I 12 (h + 1))], (SH, mkM (si (si (si I 10 3 (0 : Int32)) 10 2 (nI (h + 1 + 1))) 10 2 (nI (h + 1))) J T), 0, 0)
  refine Go.of_run (Ev.mono _) 6 _ ?_
  refine ⟨Nat.le_of_ble_eq_true rfl, ev_pop (h := h) hh rfl ?_⟩
  show Go none aM (Ev mt aM (d + 2)) mX4_run Q (185, [some (.ref 10), some (.ref t), none, some (.int b), some (.int k), some (.int (nI W)), some (.int ((nI W) &&& (15 : Int32))), some (.int ((nI W) >>> ((4 : Int32) &&& 31))), some (.int (I 12 (h + 1)))], [.int (I 12 h), .int ((nI W) &&& (15 : Int32)), .ref 10, .ref 10], (SH, mkM (si (si (si (si I 10 3 (0 : Int32)) 10 2 (nI (h + 1 + 1))) 10 2 (nI (h + 1))) 10 2 (nI h)) J T), 0, 0)
  refine Go.of_run (Ev.mono _) 2 _ ?_
  refine ⟨Nat.le_of_ble_eq_true rfl, ev_bothN (kk := kk) hk2 hkk hz ?_⟩
  show Go none aM (Ev mt aM (d + 2)) mX4_run Q (190, [some (.ref 10), some (.ref t), none, some (.int b), some (.int k), some (.int (nI W)), some (.int ((nI W) &&& (15 : Int32))), some (.int ((nI W) >>> ((4 : Int32) &&& 31))), some (.int (I 12 (h + 1)))], [.int (opF kk (I 12 h) (I 12 (h + 1))), .ref 10], (SH, mkM (si (si (si (si I 10 3 (0 : Int32)) 10 2 (nI (h + 1 + 1))) 10 2 (nI (h + 1))) 10 2 (nI h)) J T), 0, 0)
  refine Go.of_run (Ev.mono _) 1 _ ?_
  refine ⟨Nat.le_of_ble_eq_true rfl, ev_push (h := h) hh rfl ?_⟩
  show Go none aM (Ev mt aM (d + 2)) mX4_run Q (193, [some (.ref 10), some (.ref t), none, some (.int b), some (.int k), some (.int (nI W)), some (.int ((nI W) &&& (15 : Int32))), some (.int ((nI W) >>> ((4 : Int32) &&& 31))), some (.int (I 12 (h + 1)))], [], (SH, mkM (si (si (si (si (si (si I 10 3 (0 : Int32)) 10 2 (nI (h + 1 + 1))) 10 2 (nI (h + 1))) 10 2 (nI h)) 12 h (opF kk (I 12 h) (I 12 (h + 1)))) 10 2 (nI (h + 1))) J T), 0, 0)
  refine Go.of_run (Ev.mono _) 2 _ ?_
  exact Go.weak (Ev.mono _) (LLe.cons (LLe.cons (LLe.cons (LLe.cons (LLe.cons (LLe.drop (LLe.drop (LLe.drop (LLe.drop LLe.nil))))))))) hyp
set_option maxRecDepth 20000 in
theorem run_binz {d : Nat} {b k : Int32} {t h W kk : Nat} {I : Nat → Nat → Int32} {J : Nat → Nat → Int64} {T : Nat → Nat → Nat} {Q : Option Value → Mem → Prop} (ht : TX t) (hbk : ¬ b ≤ k) (hv : vp_in k 200) (hh : h < 40) (hW : (si (si I 10 3 (0 : Int32)) 10 2 (nI (h + 1 + 1))) (t + 1) k.toNatClampNeg = nI W) (hk0 : ¬ (nI W) &&& (15 : Int32) = 0) (hk1 : ¬ (nI W) &&& (15 : Int32) = (1 : Int32)) (hk10 : ¬ (nI W) &&& (15 : Int32) = (10 : Int32)) (hk11 : ¬ (nI W) &&& (15 : Int32) = (11 : Int32)) (hk12 : ¬ (nI W) &&& (15 : Int32) = (12 : Int32)) (hh2 : h + 1 < 40) (hk2 : 2 ≤ kk ∧ kk ≤ 9) (hkk : (nI W) &&& (15 : Int32) = nI kk) (h56 : kk = 5 ∨ kk = 6) (hz : I 12 (h + 1) = 0) (hyp : Q (some (.int (0 : Int32))) (SH, mkM (si (si (si (si (si (si (si I 10 3 (0 : Int32)) 10 2 (nI (h + 1 + 1))) 10 2 (nI (h + 1))) 10 2 (nI h)) 10 3 (1 : Int32)) 12 h (0 : Int32)) 10 2 (nI (h + 1))) J T)) : Go none aM (Ev mt aM (d + 2)) mX4_run Q (13, [some (.ref 10), some (.ref t), none, some (.int b), some (.int k), none, none, none, none], [], (SH, mkM (si (si I 10 3 (0 : Int32)) 10 2 (nI (h + 1 + 1))) J T), 0, 0) := by
  refine Go.of_run (Ev.mono _) 3 _ ?_
  show Go none aM (Ev mt aM (d + 2)) mX4_run Q (if b ≤ k then 199 else 19, [some (.ref 10), some (.ref t), none, some (.int b), some (.int k), none, none, none, none], [], (SH, mkM (si (si I 10 3 (0 : Int32)) 10 2 (nI (h + 1 + 1))) J T), 0, 0)
  rw [if_neg hbk]
  refine Go.of_run (Ev.mono _) 3 _ ?_
  show Go none aM (Ev mt aM (d + 2)) mX4_run Q (if (0 : Int32) = 0 then 26 else 199, [some (.ref 10), some (.ref t), none, some (.int b), some (.int k), none, none, none, none], [], (SH, mkM (si (si I 10 3 (0 : Int32)) 10 2 (nI (h + 1 + 1))) J T), 0, 0)
  rw [if_pos (by decide : (0 : Int32) = 0)]
  refine Go.of_run (Ev.mono _) 1 _ ?_
  show Go none aM (Ev mt aM (d + 2)) mX4_run Q (27, [some (.ref 10), some (.ref t), none, some (.int b), some (.int k), none, none, none, none], [.ref t], (SH, mkM (si (si I 10 3 (0 : Int32)) 10 2 (nI (h + 1 + 1))) J T), 0, 0)
  refine go_txR (k := 0) (Ev.mono _) ht rfl rfl ?_
  show Go none aM (Ev mt aM (d + 2)) mX4_run Q (30, [some (.ref 10), some (.ref t), none, some (.int b), some (.int k), none, none, none, none], [.ref (t + 1)], (SH, mkM (si (si I 10 3 (0 : Int32)) 10 2 (nI (h + 1 + 1))) J T), 0, 0)
  refine Go.of_run (Ev.mono _) 2 _ ?_
  refine ⟨Nat.le_of_ble_eq_true rfl, ev_word (W := W) ht hv hW ?_⟩
  show Go none aM (Ev mt aM (d + 2)) mX4_run Q (35, [some (.ref 10), some (.ref t), none, some (.int b), some (.int k), none, none, none, none], [.int (nI W)], (SH, mkM (si (si I 10 3 (0 : Int32)) 10 2 (nI (h + 1 + 1))) J T), 0, 0)
  refine Go.of_run (Ev.mono _) 11 _ ?_
  show Go none aM (Ev mt aM (d + 2)) mX4_run Q (if (nI W) &&& (15 : Int32) = 0 then 55 else 64, [some (.ref 10), some (.ref t), none, some (.int b), some (.int k), some (.int (nI W)), some (.int ((nI W) &&& (15 : Int32))), some (.int ((nI W) >>> ((4 : Int32) &&& 31))), none], [], (SH, mkM (si (si I 10 3 (0 : Int32)) 10 2 (nI (h + 1 + 1))) J T), 0, 0)
  rw [if_neg hk0]
  refine Go.of_run (Ev.mono _) 3 _ ?_
  show Go none aM (Ev mt aM (d + 2)) mX4_run Q (if (nI W) &&& (15 : Int32) = (1 : Int32) then 70 else 86, [some (.ref 10), some (.ref t), none, some (.int b), some (.int k), some (.int (nI W)), some (.int ((nI W) &&& (15 : Int32))), some (.int ((nI W) >>> ((4 : Int32) &&& 31))), none], [], (SH, mkM (si (si I 10 3 (0 : Int32)) 10 2 (nI (h + 1 + 1))) J T), 0, 0)
  rw [if_neg hk1]
  refine Go.of_run (Ev.mono _) 3 _ ?_
  show Go none aM (Ev mt aM (d + 2)) mX4_run Q (if (nI W) &&& (15 : Int32) = (10 : Int32) then 93 else 106, [some (.ref 10), some (.ref t), none, some (.int b), some (.int k), some (.int (nI W)), some (.int ((nI W) &&& (15 : Int32))), some (.int ((nI W) >>> ((4 : Int32) &&& 31))), none], [], (SH, mkM (si (si I 10 3 (0 : Int32)) 10 2 (nI (h + 1 + 1))) J T), 0, 0)
  rw [if_neg hk10]
  refine Go.of_run (Ev.mono _) 3 _ ?_
  show Go none aM (Ev mt aM (d + 2)) mX4_run Q (if (nI W) &&& (15 : Int32) = (11 : Int32) then 120 else 113, [some (.ref 10), some (.ref t), none, some (.int b), some (.int k), some (.int (nI W)), some (.int ((nI W) &&& (15 : Int32))), some (.int ((nI W) >>> ((4 : Int32) &&& 31))), none], [], (SH, mkM (si (si I 10 3 (0 : Int32)) 10 2 (nI (h + 1 + 1))) J T), 0, 0)
  rw [if_neg hk11]
  refine Go.of_run (Ev.mono _) 3 _ ?_
  show Go none aM (Ev mt aM (d + 2)) mX4_run Q (if (nI W) &&& (15 : Int32) = (12 : Int32) then 120 else 171, [some (.ref 10), some (.ref t), none, some (.int b), some (.int k), some (.int (nI W)), some (.int ((nI W) &&& (15 : Int32))), some (.int ((nI W) >>> ((4 : Int32) &&& 31))), none], [], (SH, mkM (si (si I 10 3 (0 : Int32)) 10 2 (nI (h + 1 + 1))) J T), 0, 0)
  rw [if_neg hk12]
  refine Go.of_run (Ev.mono _) 2 _ ?_
  refine ⟨Nat.le_of_ble_eq_true rfl, ev_pop (h := h + 1) hh2 rfl ?_⟩
  show Go none aM (Ev mt aM (d + 2)) mX4_run Q (175, [some (.ref 10), some (.ref t), none, some (.int b), some (.int k), some (.int (nI W)), some (.int ((nI W) &&& (15 : Int32))), some (.int ((nI W) >>> ((4 : Int32) &&& 31))), none], [.int (I 12 (h + 1))], (SH, mkM (si (si (si I 10 3 (0 : Int32)) 10 2 (nI (h + 1 + 1))) 10 2 (nI (h + 1))) J T), 0, 0)
  refine Go.of_run (Ev.mono _) 6 _ ?_
  refine ⟨Nat.le_of_ble_eq_true rfl, ev_pop (h := h) hh rfl ?_⟩
  show Go none aM (Ev mt aM (d + 2)) mX4_run Q (185, [some (.ref 10), some (.ref t), none, some (.int b), some (.int k), some (.int (nI W)), some (.int ((nI W) &&& (15 : Int32))), some (.int ((nI W) >>> ((4 : Int32) &&& 31))), some (.int (I 12 (h + 1)))], [.int (I 12 h), .int ((nI W) &&& (15 : Int32)), .ref 10, .ref 10], (SH, mkM (si (si (si (si I 10 3 (0 : Int32)) 10 2 (nI (h + 1 + 1))) 10 2 (nI (h + 1))) 10 2 (nI h)) J T), 0, 0)
  refine Go.of_run (Ev.mono _) 2 _ ?_
  refine ⟨Nat.le_of_ble_eq_true rfl, ev_bothZ (kk := kk) h56 hkk hz ?_⟩
  show Go none aM (Ev mt aM (d + 2)) mX4_run Q (190, [some (.ref 10), some (.ref t), none, some (.int b), some (.int k), some (.int (nI W)), some (.int ((nI W) &&& (15 : Int32))), some (.int ((nI W) >>> ((4 : Int32) &&& 31))), some (.int (I 12 (h + 1)))], [.int (0 : Int32), .ref 10], (SH, mkM (si (si (si (si (si I 10 3 (0 : Int32)) 10 2 (nI (h + 1 + 1))) 10 2 (nI (h + 1))) 10 2 (nI h)) 10 3 (1 : Int32)) J T), 0, 0)
  refine Go.of_run (Ev.mono _) 1 _ ?_
  refine ⟨Nat.le_of_ble_eq_true rfl, ev_push (h := h) hh rfl ?_⟩
  show Go none aM (Ev mt aM (d + 2)) mX4_run Q (193, [some (.ref 10), some (.ref t), none, some (.int b), some (.int k), some (.int (nI W)), some (.int ((nI W) &&& (15 : Int32))), some (.int ((nI W) >>> ((4 : Int32) &&& 31))), some (.int (I 12 (h + 1)))], [], (SH, mkM (si (si (si (si (si (si (si I 10 3 (0 : Int32)) 10 2 (nI (h + 1 + 1))) 10 2 (nI (h + 1))) 10 2 (nI h)) 10 3 (1 : Int32)) 12 h (0 : Int32)) 10 2 (nI (h + 1))) J T), 0, 0)
  refine Go.of_run (Ev.mono _) 5 _ ?_
  show Go none aM (Ev mt aM (d + 2)) mX4_run Q (if b ≤ k + 1 then 199 else 19, [some (.ref 10), some (.ref t), none, some (.int b), some (.int (k + 1)), some (.int (nI W)), some (.int ((nI W) &&& (15 : Int32))), some (.int ((nI W) >>> ((4 : Int32) &&& 31))), some (.int (I 12 (h + 1)))], [], (SH, mkM (si (si (si (si (si (si (si I 10 3 (0 : Int32)) 10 2 (nI (h + 1 + 1))) 10 2 (nI (h + 1))) 10 2 (nI h)) 10 3 (1 : Int32)) 12 h (0 : Int32)) 10 2 (nI (h + 1))) J T), 0, 0)
  have G2 : Go none aM (Ev mt aM (d + 2)) mX4_run Q (199, [some (.ref 10), none, none, none, none, none, none, none, none], [], (SH, mkM (si (si (si (si (si (si (si I 10 3 (0 : Int32)) 10 2 (nI (h + 1 + 1))) 10 2 (nI (h + 1))) 10 2 (nI h)) 10 3 (1 : Int32)) 12 h (0 : Int32)) 10 2 (nI (h + 1))) J T), 0, 0) := by
    refine Go.of_run (Ev.mono _) 3 _ ?_
    show Go none aM (Ev mt aM (d + 2)) mX4_run Q (if (1 : Int32) = 0 then 210 else 206, [some (.ref 10), none, none, none, none, none, none, none, none], [], (SH, mkM (si (si (si (si (si (si (si I 10 3 (0 : Int32)) 10 2 (nI (h + 1 + 1))) 10 2 (nI (h + 1))) 10 2 (nI h)) 10 3 (1 : Int32)) 12 h (0 : Int32)) 10 2 (nI (h + 1))) J T), 0, 0)
    rw [if_neg (by decide : ¬ ((1 : Int32) = 0))]
    refine Go.of_run (Ev.mono _) 3 _ ?_
    refine ⟨trivial, ?_⟩
    show Q (some (.int (0 : Int32))) (SH, mkM (si (si (si (si (si (si (si I 10 3 (0 : Int32)) 10 2 (nI (h + 1 + 1))) 10 2 (nI (h + 1))) 10 2 (nI h)) 10 3 (1 : Int32)) 12 h (0 : Int32)) 10 2 (nI (h + 1))) J T)
    exact hyp
  rcases Decidable.em (b ≤ k + 1) with c1 | c1
  · rw [if_pos c1]
    exact Go.weak (Ev.mono _) (LLe.cons (LLe.drop (LLe.cons (LLe.drop (LLe.drop (LLe.drop (LLe.drop (LLe.drop (LLe.drop LLe.nil))))))))) G2
  · rw [if_neg c1]
    refine Go.of_run (Ev.mono _) 3 _ ?_
    show Go none aM (Ev mt aM (d + 2)) mX4_run Q (if (1 : Int32) = 0 then 26 else 199, [some (.ref 10), some (.ref t), none, some (.int b), some (.int (k + 1)), some (.int (nI W)), some (.int ((nI W) &&& (15 : Int32))), some (.int ((nI W) >>> ((4 : Int32) &&& 31))), some (.int (I 12 (h + 1)))], [], (SH, mkM (si (si (si (si (si (si (si I 10 3 (0 : Int32)) 10 2 (nI (h + 1 + 1))) 10 2 (nI (h + 1))) 10 2 (nI h)) 10 3 (1 : Int32)) 12 h (0 : Int32)) 10 2 (nI (h + 1))) J T), 0, 0)
    rw [if_neg (by decide : ¬ ((1 : Int32) = 0))]
    exact Go.weak (Ev.mono _) (LLe.cons (LLe.drop (LLe.cons (LLe.drop (LLe.drop (LLe.drop (LLe.drop (LLe.drop (LLe.drop LLe.nil))))))))) G2
set_option maxRecDepth 20000 in
theorem run_end {d : Nat} {b k : Int32} {t h W : Nat} {I : Nat → Nat → Int32} {J : Nat → Nat → Int64} {T : Nat → Nat → Nat} {Q : Option Value → Mem → Prop} (hbk : b ≤ k) (hyp : Q (some (.int (I 12 0))) (SH, mkM (si (si (si I 10 3 (0 : Int32)) 10 2 (nI (0 + 1))) 10 2 (nI 0)) J T)) : Go none aM (Ev mt aM (d + 2)) mX4_run Q (13, [some (.ref 10), some (.ref t), none, some (.int b), some (.int k), none, none, none, none], [], (SH, mkM (si (si I 10 3 (0 : Int32)) 10 2 (nI (0 + 1))) J T), 0, 0) := by
  refine Go.of_run (Ev.mono _) 3 _ ?_
  show Go none aM (Ev mt aM (d + 2)) mX4_run Q (if b ≤ k then 199 else 19, [some (.ref 10), some (.ref t), none, some (.int b), some (.int k), none, none, none, none], [], (SH, mkM (si (si I 10 3 (0 : Int32)) 10 2 (nI (0 + 1))) J T), 0, 0)
  rw [if_pos hbk]
  refine Go.of_run (Ev.mono _) 3 _ ?_
  show Go none aM (Ev mt aM (d + 2)) mX4_run Q (if (0 : Int32) = 0 then 210 else 206, [some (.ref 10), some (.ref t), none, some (.int b), some (.int k), none, none, none, none], [], (SH, mkM (si (si I 10 3 (0 : Int32)) 10 2 (nI (0 + 1))) J T), 0, 0)
  rw [if_pos (by decide : (0 : Int32) = 0)]
  refine Go.of_run (Ev.mono _) 2 _ ?_
  refine ⟨Nat.le_of_ble_eq_true rfl, ev_pop (h := 0) (by decide : 0 < 40) rfl ?_⟩
  show Go none aM (Ev mt aM (d + 2)) mX4_run Q (214, [some (.ref 10), some (.ref t), none, some (.int b), some (.int k), none, none, none, none], [.int (I 12 0)], (SH, mkM (si (si (si I 10 3 (0 : Int32)) 10 2 (nI (0 + 1))) 10 2 (nI 0)) J T), 0, 0)
  refine Go.of_run (Ev.mono _) 1 _ ?_
  refine ⟨trivial, ?_⟩
  show Q (some (.int (I 12 0))) (SH, mkM (si (si (si I 10 3 (0 : Int32)) 10 2 (nI (0 + 1))) 10 2 (nI 0)) J T)
  exact hyp
set_option maxRecDepth 20000 in
theorem run_in {d : Nat} {a b : Int32} {t : Nat} {I : Nat → Nat → Int32} {J : Nat → Nat → Int64} {T : Nat → Nat → Nat} {Q : Option Value → Mem → Prop} (hyp : Go none aM (Ev mt aM (d + 2)) mX4_run Q (13, [some (.ref 10), some (.ref t), none, some (.int b), some (.int a), none, none, none, none], [], (SH, mkM (si (si I 10 2 (0 : Int32)) 10 3 (0 : Int32)) J T), 0, 0)) : Go none aM (Ev mt aM (d + 2)) mX4_run Q (0, [some (.ref 10), some (.ref t), some (.int a), some (.int b), none, none, none, none, none], [], (SH, mkM I J T), 0, 0) := by
  refine Go.of_run (Ev.mono _) 3 _ ?_
  refine go_si rfl ?_
  show Go none aM (Ev mt aM (d + 2)) mX4_run Q (5, [some (.ref 10), some (.ref t), some (.int a), some (.int b), none, none, none, none, none], [], (SH, mkM (si I 10 2 (0 : Int32)) J T), 0, 0)
  refine Go.of_run (Ev.mono _) 3 _ ?_
  refine ⟨(by decide : (0 : Int32) = 0 ∨ (0 : Int32) = 1), ?_⟩
  refine go_si rfl ?_
  show Go none aM (Ev mt aM (d + 2)) mX4_run Q (10, [some (.ref 10), some (.ref t), some (.int a), some (.int b), none, none, none, none, none], [], (SH, mkM (si (si I 10 2 (0 : Int32)) 10 3 (0 : Int32)) J T), 0, 0)
  refine Go.of_run (Ev.mono _) 2 _ ?_
  exact Go.weak (Ev.mono _) (LLe.cons (LLe.cons (LLe.drop (LLe.cons (LLe.cons (LLe.cons (LLe.cons (LLe.cons (LLe.cons LLe.nil))))))))) hyp
set_option maxRecDepth 20000 in
theorem com_num {d : Nat} {n b k base : Int32} {I : Nat → Nat → Int32} {J : Nat → Nat → Int64} {T : Nat → Nat → Nat} {Q : Option Value → Mem → Prop} (hbk : ¬ b ≤ k) (hv : vp_in k 1760) (hq : (I 97 k.toNatClampNeg) / (1048576 : Int32) = (0 : Int32)) (hyp : (vp_in n 220 ∧ Go none aM (Ev mt aM (d + 2)) mX12_comesTo Q (16, [some (.ref 83), none, some (.int b), some (.int (n + (1 : Int32))), some (.int base), some (.int (k + (1 : Int32))), none, none], [], (SH, mkM (si I 103 n.toNatClampNeg ((I 97 k.toNatClampNeg) - (I 97 k.toNatClampNeg) / (1048576 : Int32) * (1048576 : Int32))) J T), 0, 0))) : Go none aM (Ev mt aM (d + 2)) mX12_comesTo Q (16, [some (.ref 83), none, some (.int b), some (.int n), some (.int base), some (.int k), none, none], [], (SH, mkM I J T), 0, 0) := by
  refine Go.of_run (Ev.mono _) 3 _ ?_
  show Go none aM (Ev mt aM (d + 2)) mX12_comesTo Q (if b ≤ k then 233 else 22, [some (.ref 83), none, some (.int b), some (.int n), some (.int base), some (.int k), none, none], [], (SH, mkM I J T), 0, 0)
  rw [if_neg hbk]
  refine Go.of_run (Ev.mono _) 4 _ ?_
  refine ⟨hv, ?_⟩
  show Go none aM (Ev mt aM (d + 2)) mX12_comesTo Q (29, [some (.ref 83), none, some (.int b), some (.int n), some (.int base), some (.int k), none, none], [.int (I 97 k.toNatClampNeg)], (SH, mkM I J T), 0, 0)
  refine Go.of_run (Ev.mono _) 2 _ ?_
  refine ⟨(by decide : ¬ (1048576 : Int32) = 0), ?_⟩
  show Go none aM (Ev mt aM (d + 2)) mX12_comesTo Q (32, [some (.ref 83), none, some (.int b), some (.int n), some (.int base), some (.int k), none, none], [.int ((I 97 k.toNatClampNeg) / (1048576 : Int32))], (SH, mkM I J T), 0, 0)
  refine Go.of_run (Ev.mono _) 5 _ ?_
  refine ⟨hv, ?_⟩
  show Go none aM (Ev mt aM (d + 2)) mX12_comesTo Q (41, [some (.ref 83), none, some (.int b), some (.int n), some (.int base), some (.int k), some (.int ((I 97 k.toNatClampNeg) / (1048576 : Int32))), none], [.int (I 97 k.toNatClampNeg)], (SH, mkM I J T), 0, 0)
  refine Go.of_run (Ev.mono _) 2 _ ?_
  refine ⟨(by decide : ¬ (1048576 : Int32) = 0), ?_⟩
  show Go none aM (Ev mt aM (d + 2)) mX12_comesTo Q (44, [some (.ref 83), none, some (.int b), some (.int n), some (.int base), some (.int k), some (.int ((I 97 k.toNatClampNeg) / (1048576 : Int32))), none], [.int ((I 97 k.toNatClampNeg) - (I 97 k.toNatClampNeg) / (1048576 : Int32) * (1048576 : Int32))], (SH, mkM I J T), 0, 0)
  refine Go.of_run (Ev.mono _) 7 _ ?_
  show Go none aM (Ev mt aM (d + 2)) mX12_comesTo Q (if (I 97 k.toNatClampNeg) / (1048576 : Int32) = 0 then 63 else 57, [some (.ref 83), none, some (.int b), some (.int n), some (.int base), some (.int (k + (1 : Int32))), some (.int ((I 97 k.toNatClampNeg) / (1048576 : Int32))), some (.int ((I 97 k.toNatClampNeg) - (I 97 k.toNatClampNeg) / (1048576 : Int32) * (1048576 : Int32)))], [], (SH, mkM I J T), 0, 0)
  rw [if_pos (by rw [hq])]
  refine Go.of_run (Ev.mono _) 5 _ ?_
  show Go none aM (Ev mt aM (d + 2)) mX12_comesTo Q (if (I 97 k.toNatClampNeg) / (1048576 : Int32) = 0 then 73 else 78, [some (.ref 83), none, some (.int b), some (.int n), some (.int base), some (.int (k + (1 : Int32))), some (.int ((I 97 k.toNatClampNeg) / (1048576 : Int32))), some (.int ((I 97 k.toNatClampNeg) - (I 97 k.toNatClampNeg) / (1048576 : Int32) * (1048576 : Int32)))], [.int n, .ref 103], (SH, mkM I J T), 0, 0)
  rw [if_pos (by rw [hq])]
  refine Go.of_run (Ev.mono _) 3 _ ?_
  refine ⟨hyp.1, ?_⟩
  refine go_si rfl ?_
  show Go none aM (Ev mt aM (d + 2)) mX12_comesTo Q (86, [some (.ref 83), none, some (.int b), some (.int n), some (.int base), some (.int (k + (1 : Int32))), some (.int ((I 97 k.toNatClampNeg) / (1048576 : Int32))), some (.int ((I 97 k.toNatClampNeg) - (I 97 k.toNatClampNeg) / (1048576 : Int32) * (1048576 : Int32)))], [], (SH, mkM (si I 103 n.toNatClampNeg ((I 97 k.toNatClampNeg) - (I 97 k.toNatClampNeg) / (1048576 : Int32) * (1048576 : Int32))) J T), 0, 0)
  refine Go.of_run (Ev.mono _) 6 _ ?_
  exact Go.weak (Ev.mono _) (LLe.cons (LLe.cons (LLe.cons (LLe.cons (LLe.cons (LLe.cons (LLe.drop (LLe.drop LLe.nil)))))))) hyp.2
set_option maxRecDepth 20000 in
theorem com_let {d : Nat} {n b k base : Int32} {I : Nat → Nat → Int32} {J : Nat → Nat → Int64} {T : Nat → Nat → Nat} {Q : Option Value → Mem → Prop} (hbk : ¬ b ≤ k) (hv : vp_in k 1760) (hq : (I 97 k.toNatClampNeg) / (1048576 : Int32) = (1 : Int32)) (hyp : (vp_in ((I 97 k.toNatClampNeg) - (I 97 k.toNatClampNeg) / (1048576 : Int32) * (1048576 : Int32)) 16 ∧ (vp_in n 220 ∧ Go none aM (Ev mt aM (d + 2)) mX12_comesTo Q (16, [some (.ref 83), none, some (.int b), some (.int (n + (1 : Int32))), some (.int base), some (.int (k + (1 : Int32))), none, none], [], (SH, mkM (si I 103 n.toNatClampNeg (I 104 (((I 97 k.toNatClampNeg) - (I 97 k.toNatClampNeg) / (1048576 : Int32) * (1048576 : Int32)).toNatClampNeg))) J T), 0, 0)))) : Go none aM (Ev mt aM (d + 2)) mX12_comesTo Q (16, [some (.ref 83), none, some (.int b), some (.int n), some (.int base), some (.int k), none, none], [], (SH, mkM I J T), 0, 0) := by
  refine Go.of_run (Ev.mono _) 3 _ ?_
  show Go none aM (Ev mt aM (d + 2)) mX12_comesTo Q (if b ≤ k then 233 else 22, [some (.ref 83), none, some (.int b), some (.int n), some (.int base), some (.int k), none, none], [], (SH, mkM I J T), 0, 0)
  rw [if_neg hbk]
  refine Go.of_run (Ev.mono _) 4 _ ?_
  refine ⟨hv, ?_⟩
  show Go none aM (Ev mt aM (d + 2)) mX12_comesTo Q (29, [some (.ref 83), none, some (.int b), some (.int n), some (.int base), some (.int k), none, none], [.int (I 97 k.toNatClampNeg)], (SH, mkM I J T), 0, 0)
  refine Go.of_run (Ev.mono _) 2 _ ?_
  refine ⟨(by decide : ¬ (1048576 : Int32) = 0), ?_⟩
  show Go none aM (Ev mt aM (d + 2)) mX12_comesTo Q (32, [some (.ref 83), none, some (.int b), some (.int n), some (.int base), some (.int k), none, none], [.int ((I 97 k.toNatClampNeg) / (1048576 : Int32))], (SH, mkM I J T), 0, 0)
  refine Go.of_run (Ev.mono _) 5 _ ?_
  refine ⟨hv, ?_⟩
  show Go none aM (Ev mt aM (d + 2)) mX12_comesTo Q (41, [some (.ref 83), none, some (.int b), some (.int n), some (.int base), some (.int k), some (.int ((I 97 k.toNatClampNeg) / (1048576 : Int32))), none], [.int (I 97 k.toNatClampNeg)], (SH, mkM I J T), 0, 0)
  refine Go.of_run (Ev.mono _) 2 _ ?_
  refine ⟨(by decide : ¬ (1048576 : Int32) = 0), ?_⟩
  show Go none aM (Ev mt aM (d + 2)) mX12_comesTo Q (44, [some (.ref 83), none, some (.int b), some (.int n), some (.int base), some (.int k), some (.int ((I 97 k.toNatClampNeg) / (1048576 : Int32))), none], [.int ((I 97 k.toNatClampNeg) - (I 97 k.toNatClampNeg) / (1048576 : Int32) * (1048576 : Int32))], (SH, mkM I J T), 0, 0)
  refine Go.of_run (Ev.mono _) 7 _ ?_
  show Go none aM (Ev mt aM (d + 2)) mX12_comesTo Q (if (I 97 k.toNatClampNeg) / (1048576 : Int32) = 0 then 63 else 57, [some (.ref 83), none, some (.int b), some (.int n), some (.int base), some (.int (k + (1 : Int32))), some (.int ((I 97 k.toNatClampNeg) / (1048576 : Int32))), some (.int ((I 97 k.toNatClampNeg) - (I 97 k.toNatClampNeg) / (1048576 : Int32) * (1048576 : Int32)))], [], (SH, mkM I J T), 0, 0)
  rw [if_neg (by rw [hq]; decide)]
  refine Go.of_run (Ev.mono _) 3 _ ?_
  show Go none aM (Ev mt aM (d + 2)) mX12_comesTo Q (if (I 97 k.toNatClampNeg) / (1048576 : Int32) = (1 : Int32) then 63 else 93, [some (.ref 83), none, some (.int b), some (.int n), some (.int base), some (.int (k + (1 : Int32))), some (.int ((I 97 k.toNatClampNeg) / (1048576 : Int32))), some (.int ((I 97 k.toNatClampNeg) - (I 97 k.toNatClampNeg) / (1048576 : Int32) * (1048576 : Int32)))], [], (SH, mkM I J T), 0, 0)
  rw [if_pos (by rw [hq])]
  refine Go.of_run (Ev.mono _) 5 _ ?_
  show Go none aM (Ev mt aM (d + 2)) mX12_comesTo Q (if (I 97 k.toNatClampNeg) / (1048576 : Int32) = 0 then 73 else 78, [some (.ref 83), none, some (.int b), some (.int n), some (.int base), some (.int (k + (1 : Int32))), some (.int ((I 97 k.toNatClampNeg) / (1048576 : Int32))), some (.int ((I 97 k.toNatClampNeg) - (I 97 k.toNatClampNeg) / (1048576 : Int32) * (1048576 : Int32)))], [.int n, .ref 103], (SH, mkM I J T), 0, 0)
  rw [if_neg (by rw [hq]; decide)]
  refine Go.of_run (Ev.mono _) 4 _ ?_
  refine ⟨hyp.1, ?_⟩
  show Go none aM (Ev mt aM (d + 2)) mX12_comesTo Q (85, [some (.ref 83), none, some (.int b), some (.int n), some (.int base), some (.int (k + (1 : Int32))), some (.int ((I 97 k.toNatClampNeg) / (1048576 : Int32))), some (.int ((I 97 k.toNatClampNeg) - (I 97 k.toNatClampNeg) / (1048576 : Int32) * (1048576 : Int32)))], [.int (I 104 (((I 97 k.toNatClampNeg) - (I 97 k.toNatClampNeg) / (1048576 : Int32) * (1048576 : Int32)).toNatClampNeg)), .int n, .ref 103], (SH, mkM I J T), 0, 0)
  refine Go.of_run (Ev.mono _) 1 _ ?_
  refine ⟨hyp.2.1, ?_⟩
  refine go_si rfl ?_
  show Go none aM (Ev mt aM (d + 2)) mX12_comesTo Q (86, [some (.ref 83), none, some (.int b), some (.int n), some (.int base), some (.int (k + (1 : Int32))), some (.int ((I 97 k.toNatClampNeg) / (1048576 : Int32))), some (.int ((I 97 k.toNatClampNeg) - (I 97 k.toNatClampNeg) / (1048576 : Int32) * (1048576 : Int32)))], [], (SH, mkM (si I 103 n.toNatClampNeg (I 104 (((I 97 k.toNatClampNeg) - (I 97 k.toNatClampNeg) / (1048576 : Int32) * (1048576 : Int32)).toNatClampNeg))) J T), 0, 0)
  refine Go.of_run (Ev.mono _) 6 _ ?_
  exact Go.weak (Ev.mono _) (LLe.cons (LLe.cons (LLe.cons (LLe.cons (LLe.cons (LLe.cons (LLe.drop (LLe.drop LLe.nil)))))))) hyp.2.2
set_option maxRecDepth 20000 in
theorem com_not {d : Nat} {n b k base : Int32} {I : Nat → Nat → Int32} {J : Nat → Nat → Int64} {T : Nat → Nat → Nat} {Q : Option Value → Mem → Prop} (hbk : ¬ b ≤ k) (hv : vp_in k 1760) (hq : (I 97 k.toNatClampNeg) / (1048576 : Int32) = (10 : Int32)) (hyp : (vp_in (n - (1 : Int32)) 220 ∧ (vp_in (n - (1 : Int32)) 220 ∧ Go none aM (Ev mt aM (d + 2)) mX12_comesTo Q (16, [some (.ref 83), none, some (.int b), some (.int n), some (.int base), some (.int (k + (1 : Int32))), none, none], [], (SH, mkM (si I 103 ((n - (1 : Int32)).toNatClampNeg) ((1 : Int32) - (I 103 ((n - (1 : Int32)).toNatClampNeg)))) J T), 0, 0)))) : Go none aM (Ev mt aM (d + 2)) mX12_comesTo Q (16, [some (.ref 83), none, some (.int b), some (.int n), some (.int base), some (.int k), none, none], [], (SH, mkM I J T), 0, 0) := by
  refine Go.of_run (Ev.mono _) 3 _ ?_
  show Go none aM (Ev mt aM (d + 2)) mX12_comesTo Q (if b ≤ k then 233 else 22, [some (.ref 83), none, some (.int b), some (.int n), some (.int base), some (.int k), none, none], [], (SH, mkM I J T), 0, 0)
  rw [if_neg hbk]
  refine Go.of_run (Ev.mono _) 4 _ ?_
  refine ⟨hv, ?_⟩
  show Go none aM (Ev mt aM (d + 2)) mX12_comesTo Q (29, [some (.ref 83), none, some (.int b), some (.int n), some (.int base), some (.int k), none, none], [.int (I 97 k.toNatClampNeg)], (SH, mkM I J T), 0, 0)
  refine Go.of_run (Ev.mono _) 2 _ ?_
  refine ⟨(by decide : ¬ (1048576 : Int32) = 0), ?_⟩
  show Go none aM (Ev mt aM (d + 2)) mX12_comesTo Q (32, [some (.ref 83), none, some (.int b), some (.int n), some (.int base), some (.int k), none, none], [.int ((I 97 k.toNatClampNeg) / (1048576 : Int32))], (SH, mkM I J T), 0, 0)
  refine Go.of_run (Ev.mono _) 5 _ ?_
  refine ⟨hv, ?_⟩
  show Go none aM (Ev mt aM (d + 2)) mX12_comesTo Q (41, [some (.ref 83), none, some (.int b), some (.int n), some (.int base), some (.int k), some (.int ((I 97 k.toNatClampNeg) / (1048576 : Int32))), none], [.int (I 97 k.toNatClampNeg)], (SH, mkM I J T), 0, 0)
  refine Go.of_run (Ev.mono _) 2 _ ?_
  refine ⟨(by decide : ¬ (1048576 : Int32) = 0), ?_⟩
  show Go none aM (Ev mt aM (d + 2)) mX12_comesTo Q (44, [some (.ref 83), none, some (.int b), some (.int n), some (.int base), some (.int k), some (.int ((I 97 k.toNatClampNeg) / (1048576 : Int32))), none], [.int ((I 97 k.toNatClampNeg) - (I 97 k.toNatClampNeg) / (1048576 : Int32) * (1048576 : Int32))], (SH, mkM I J T), 0, 0)
  refine Go.of_run (Ev.mono _) 7 _ ?_
  show Go none aM (Ev mt aM (d + 2)) mX12_comesTo Q (if (I 97 k.toNatClampNeg) / (1048576 : Int32) = 0 then 63 else 57, [some (.ref 83), none, some (.int b), some (.int n), some (.int base), some (.int (k + (1 : Int32))), some (.int ((I 97 k.toNatClampNeg) / (1048576 : Int32))), some (.int ((I 97 k.toNatClampNeg) - (I 97 k.toNatClampNeg) / (1048576 : Int32) * (1048576 : Int32)))], [], (SH, mkM I J T), 0, 0)
  rw [if_neg (by rw [hq]; decide)]
  refine Go.of_run (Ev.mono _) 3 _ ?_
  show Go none aM (Ev mt aM (d + 2)) mX12_comesTo Q (if (I 97 k.toNatClampNeg) / (1048576 : Int32) = (1 : Int32) then 63 else 93, [some (.ref 83), none, some (.int b), some (.int n), some (.int base), some (.int (k + (1 : Int32))), some (.int ((I 97 k.toNatClampNeg) / (1048576 : Int32))), some (.int ((I 97 k.toNatClampNeg) - (I 97 k.toNatClampNeg) / (1048576 : Int32) * (1048576 : Int32)))], [], (SH, mkM I J T), 0, 0)
  rw [if_neg (by rw [hq]; decide)]
  refine Go.of_run (Ev.mono _) 3 _ ?_
  show Go none aM (Ev mt aM (d + 2)) mX12_comesTo Q (if (I 97 k.toNatClampNeg) / (1048576 : Int32) = (10 : Int32) then 100 else 121, [some (.ref 83), none, some (.int b), some (.int n), some (.int base), some (.int (k + (1 : Int32))), some (.int ((I 97 k.toNatClampNeg) / (1048576 : Int32))), some (.int ((I 97 k.toNatClampNeg) - (I 97 k.toNatClampNeg) / (1048576 : Int32) * (1048576 : Int32)))], [], (SH, mkM I J T), 0, 0)
  rw [if_pos (by rw [hq])]
  refine Go.of_run (Ev.mono _) 12 _ ?_
  refine ⟨hyp.1, ?_⟩
  show Go none aM (Ev mt aM (d + 2)) mX12_comesTo Q (116, [some (.ref 83), none, some (.int b), some (.int n), some (.int base), some (.int (k + (1 : Int32))), some (.int ((I 97 k.toNatClampNeg) / (1048576 : Int32))), some (.int ((I 97 k.toNatClampNeg) - (I 97 k.toNatClampNeg) / (1048576 : Int32) * (1048576 : Int32)))], [.int (I 103 ((n - (1 : Int32)).toNatClampNeg)), .int (1 : Int32), .int (n - (1 : Int32)), .ref 103], (SH, mkM I J T), 0, 0)
  refine Go.of_run (Ev.mono _) 2 _ ?_
  refine ⟨hyp.2.1, ?_⟩
  refine go_si rfl ?_
  show Go none aM (Ev mt aM (d + 2)) mX12_comesTo Q (118, [some (.ref 83), none, some (.int b), some (.int n), some (.int base), some (.int (k + (1 : Int32))), some (.int ((I 97 k.toNatClampNeg) / (1048576 : Int32))), some (.int ((I 97 k.toNatClampNeg) - (I 97 k.toNatClampNeg) / (1048576 : Int32) * (1048576 : Int32)))], [], (SH, mkM (si I 103 ((n - (1 : Int32)).toNatClampNeg) ((1 : Int32) - (I 103 ((n - (1 : Int32)).toNatClampNeg)))) J T), 0, 0)
  refine Go.of_run (Ev.mono _) 2 _ ?_
  exact Go.weak (Ev.mono _) (LLe.cons (LLe.cons (LLe.cons (LLe.cons (LLe.cons (LLe.cons (LLe.drop (LLe.drop LLe.nil)))))))) hyp.2.2
set_option maxRecDepth 20000 in
theorem com_and {d : Nat} {n b k base : Int32} {I : Nat → Nat → Int32} {J : Nat → Nat → Int64} {T : Nat → Nat → Nat} {Q : Option Value → Mem → Prop} (hbk : ¬ b ≤ k) (hv : vp_in k 1760) (hq : (I 97 k.toNatClampNeg) / (1048576 : Int32) = (11 : Int32)) (hyp : (vp_in (n - (1 : Int32)) 220 ∧ ((I 103 ((n - (1 : Int32)).toNatClampNeg) = (0 : Int32) → Go none aM (Ev mt aM (d + 2)) mX12_comesTo Q (16, [some (.ref 83), none, some (.int b), some (.int n), some (.int base), some (.int (base + ((I 97 k.toNatClampNeg) - (I 97 k.toNatClampNeg) / (1048576 : Int32) * (1048576 : Int32)))), none, none], [], (SH, mkM I J T), 0, 0)) ∧ ((¬ (I 103 ((n - (1 : Int32)).toNatClampNeg) = (0 : Int32))) → Go none aM (Ev mt aM (d + 2)) mX12_comesTo Q (16, [some (.ref 83), none, some (.int b), some (.int (n - (1 : Int32))), some (.int base), some (.int (k + (1 : Int32))), none, none], [], (SH, mkM I J T), 0, 0))))) : Go none aM (Ev mt aM (d + 2)) mX12_comesTo Q (16, [some (.ref 83), none, some (.int b), some (.int n), some (.int base), some (.int k), none, none], [], (SH, mkM I J T), 0, 0) := by
  refine Go.of_run (Ev.mono _) 3 _ ?_
  show Go none aM (Ev mt aM (d + 2)) mX12_comesTo Q (if b ≤ k then 233 else 22, [some (.ref 83), none, some (.int b), some (.int n), some (.int base), some (.int k), none, none], [], (SH, mkM I J T), 0, 0)
  rw [if_neg hbk]
  refine Go.of_run (Ev.mono _) 4 _ ?_
  refine ⟨hv, ?_⟩
  show Go none aM (Ev mt aM (d + 2)) mX12_comesTo Q (29, [some (.ref 83), none, some (.int b), some (.int n), some (.int base), some (.int k), none, none], [.int (I 97 k.toNatClampNeg)], (SH, mkM I J T), 0, 0)
  refine Go.of_run (Ev.mono _) 2 _ ?_
  refine ⟨(by decide : ¬ (1048576 : Int32) = 0), ?_⟩
  show Go none aM (Ev mt aM (d + 2)) mX12_comesTo Q (32, [some (.ref 83), none, some (.int b), some (.int n), some (.int base), some (.int k), none, none], [.int ((I 97 k.toNatClampNeg) / (1048576 : Int32))], (SH, mkM I J T), 0, 0)
  refine Go.of_run (Ev.mono _) 5 _ ?_
  refine ⟨hv, ?_⟩
  show Go none aM (Ev mt aM (d + 2)) mX12_comesTo Q (41, [some (.ref 83), none, some (.int b), some (.int n), some (.int base), some (.int k), some (.int ((I 97 k.toNatClampNeg) / (1048576 : Int32))), none], [.int (I 97 k.toNatClampNeg)], (SH, mkM I J T), 0, 0)
  refine Go.of_run (Ev.mono _) 2 _ ?_
  refine ⟨(by decide : ¬ (1048576 : Int32) = 0), ?_⟩
  show Go none aM (Ev mt aM (d + 2)) mX12_comesTo Q (44, [some (.ref 83), none, some (.int b), some (.int n), some (.int base), some (.int k), some (.int ((I 97 k.toNatClampNeg) / (1048576 : Int32))), none], [.int ((I 97 k.toNatClampNeg) - (I 97 k.toNatClampNeg) / (1048576 : Int32) * (1048576 : Int32))], (SH, mkM I J T), 0, 0)
  refine Go.of_run (Ev.mono _) 7 _ ?_
  show Go none aM (Ev mt aM (d + 2)) mX12_comesTo Q (if (I 97 k.toNatClampNeg) / (1048576 : Int32) = 0 then 63 else 57, [some (.ref 83), none, some (.int b), some (.int n), some (.int base), some (.int (k + (1 : Int32))), some (.int ((I 97 k.toNatClampNeg) / (1048576 : Int32))), some (.int ((I 97 k.toNatClampNeg) - (I 97 k.toNatClampNeg) / (1048576 : Int32) * (1048576 : Int32)))], [], (SH, mkM I J T), 0, 0)
  rw [if_neg (by rw [hq]; decide)]
  refine Go.of_run (Ev.mono _) 3 _ ?_
  show Go none aM (Ev mt aM (d + 2)) mX12_comesTo Q (if (I 97 k.toNatClampNeg) / (1048576 : Int32) = (1 : Int32) then 63 else 93, [some (.ref 83), none, some (.int b), some (.int n), some (.int base), some (.int (k + (1 : Int32))), some (.int ((I 97 k.toNatClampNeg) / (1048576 : Int32))), some (.int ((I 97 k.toNatClampNeg) - (I 97 k.toNatClampNeg) / (1048576 : Int32) * (1048576 : Int32)))], [], (SH, mkM I J T), 0, 0)
  rw [if_neg (by rw [hq]; decide)]
  refine Go.of_run (Ev.mono _) 3 _ ?_
  show Go none aM (Ev mt aM (d + 2)) mX12_comesTo Q (if (I 97 k.toNatClampNeg) / (1048576 : Int32) = (10 : Int32) then 100 else 121, [some (.ref 83), none, some (.int b), some (.int n), some (.int base), some (.int (k + (1 : Int32))), some (.int ((I 97 k.toNatClampNeg) / (1048576 : Int32))), some (.int ((I 97 k.toNatClampNeg) - (I 97 k.toNatClampNeg) / (1048576 : Int32) * (1048576 : Int32)))], [], (SH, mkM I J T), 0, 0)
  rw [if_neg (by rw [hq]; decide)]
  refine Go.of_run (Ev.mono _) 3 _ ?_
  show Go none aM (Ev mt aM (d + 2)) mX12_comesTo Q (if (I 97 k.toNatClampNeg) / (1048576 : Int32) = (11 : Int32) then 135 else 128, [some (.ref 83), none, some (.int b), some (.int n), some (.int base), some (.int (k + (1 : Int32))), some (.int ((I 97 k.toNatClampNeg) / (1048576 : Int32))), some (.int ((I 97 k.toNatClampNeg) - (I 97 k.toNatClampNeg) / (1048576 : Int32) * (1048576 : Int32)))], [], (SH, mkM I J T), 0, 0)
  rw [if_pos (by rw [hq])]
  refine Go.of_run (Ev.mono _) 6 _ ?_
  refine ⟨hyp.1, ?_⟩
  show Go none aM (Ev mt aM (d + 2)) mX12_comesTo Q (143, [some (.ref 83), none, some (.int b), some (.int n), some (.int base), some (.int (k + (1 : Int32))), some (.int ((I 97 k.toNatClampNeg) / (1048576 : Int32))), some (.int ((I 97 k.toNatClampNeg) - (I 97 k.toNatClampNeg) / (1048576 : Int32) * (1048576 : Int32)))], [.int (I 103 ((n - (1 : Int32)).toNatClampNeg))], (SH, mkM I J T), 0, 0)
  refine Go.of_run (Ev.mono _) 3 _ ?_
  show Go none aM (Ev mt aM (d + 2)) mX12_comesTo Q (if (I 97 k.toNatClampNeg) / (1048576 : Int32) = (12 : Int32) then 150 else 154, [some (.ref 83), none, some (.int b), some (.int n), some (.int base), some (.int (k + (1 : Int32))), some (.int ((I 97 k.toNatClampNeg) / (1048576 : Int32))), some (.int ((I 97 k.toNatClampNeg) - (I 97 k.toNatClampNeg) / (1048576 : Int32) * (1048576 : Int32)))], [.int (I 103 ((n - (1 : Int32)).toNatClampNeg))], (SH, mkM I J T), 0, 0)
  rw [if_neg (by rw [hq]; decide)]
  refine Go.of_run (Ev.mono _) 2 _ ?_
  show Go none aM (Ev mt aM (d + 2)) mX12_comesTo Q (if I 103 ((n - (1 : Int32)).toNatClampNeg) = (0 : Int32) then 158 else 168, [some (.ref 83), none, some (.int b), some (.int n), some (.int base), some (.int (k + (1 : Int32))), some (.int ((I 97 k.toNatClampNeg) / (1048576 : Int32))), some (.int ((I 97 k.toNatClampNeg) - (I 97 k.toNatClampNeg) / (1048576 : Int32) * (1048576 : Int32)))], [], (SH, mkM I J T), 0, 0)
  rcases Decidable.em (I 103 ((n - (1 : Int32)).toNatClampNeg) = (0 : Int32)) with c1 | c1
  · rw [if_pos c1]
    refine Go.of_run (Ev.mono _) 6 _ ?_
    exact Go.weak (Ev.mono _) (LLe.cons (LLe.cons (LLe.cons (LLe.cons (LLe.cons (LLe.cons (LLe.drop (LLe.drop LLe.nil)))))))) (hyp.2.1 c1)
  · rw [if_neg c1]
    refine Go.of_run (Ev.mono _) 6 _ ?_
    exact Go.weak (Ev.mono _) (LLe.cons (LLe.cons (LLe.cons (LLe.cons (LLe.cons (LLe.cons (LLe.drop (LLe.drop LLe.nil)))))))) (hyp.2.2 c1)
set_option maxRecDepth 20000 in
theorem com_or {d : Nat} {n b k base : Int32} {I : Nat → Nat → Int32} {J : Nat → Nat → Int64} {T : Nat → Nat → Nat} {Q : Option Value → Mem → Prop} (hbk : ¬ b ≤ k) (hv : vp_in k 1760) (hq : (I 97 k.toNatClampNeg) / (1048576 : Int32) = (12 : Int32)) (hyp : (vp_in (n - (1 : Int32)) 220 ∧ ((I 103 ((n - (1 : Int32)).toNatClampNeg) = (1 : Int32) → Go none aM (Ev mt aM (d + 2)) mX12_comesTo Q (16, [some (.ref 83), none, some (.int b), some (.int n), some (.int base), some (.int (base + ((I 97 k.toNatClampNeg) - (I 97 k.toNatClampNeg) / (1048576 : Int32) * (1048576 : Int32)))), none, none], [], (SH, mkM I J T), 0, 0)) ∧ ((¬ (I 103 ((n - (1 : Int32)).toNatClampNeg) = (1 : Int32))) → Go none aM (Ev mt aM (d + 2)) mX12_comesTo Q (16, [some (.ref 83), none, some (.int b), some (.int (n - (1 : Int32))), some (.int base), some (.int (k + (1 : Int32))), none, none], [], (SH, mkM I J T), 0, 0))))) : Go none aM (Ev mt aM (d + 2)) mX12_comesTo Q (16, [some (.ref 83), none, some (.int b), some (.int n), some (.int base), some (.int k), none, none], [], (SH, mkM I J T), 0, 0) := by
  refine Go.of_run (Ev.mono _) 3 _ ?_
  show Go none aM (Ev mt aM (d + 2)) mX12_comesTo Q (if b ≤ k then 233 else 22, [some (.ref 83), none, some (.int b), some (.int n), some (.int base), some (.int k), none, none], [], (SH, mkM I J T), 0, 0)
  rw [if_neg hbk]
  refine Go.of_run (Ev.mono _) 4 _ ?_
  refine ⟨hv, ?_⟩
  show Go none aM (Ev mt aM (d + 2)) mX12_comesTo Q (29, [some (.ref 83), none, some (.int b), some (.int n), some (.int base), some (.int k), none, none], [.int (I 97 k.toNatClampNeg)], (SH, mkM I J T), 0, 0)
  refine Go.of_run (Ev.mono _) 2 _ ?_
  refine ⟨(by decide : ¬ (1048576 : Int32) = 0), ?_⟩
  show Go none aM (Ev mt aM (d + 2)) mX12_comesTo Q (32, [some (.ref 83), none, some (.int b), some (.int n), some (.int base), some (.int k), none, none], [.int ((I 97 k.toNatClampNeg) / (1048576 : Int32))], (SH, mkM I J T), 0, 0)
  refine Go.of_run (Ev.mono _) 5 _ ?_
  refine ⟨hv, ?_⟩
  show Go none aM (Ev mt aM (d + 2)) mX12_comesTo Q (41, [some (.ref 83), none, some (.int b), some (.int n), some (.int base), some (.int k), some (.int ((I 97 k.toNatClampNeg) / (1048576 : Int32))), none], [.int (I 97 k.toNatClampNeg)], (SH, mkM I J T), 0, 0)
  refine Go.of_run (Ev.mono _) 2 _ ?_
  refine ⟨(by decide : ¬ (1048576 : Int32) = 0), ?_⟩
  show Go none aM (Ev mt aM (d + 2)) mX12_comesTo Q (44, [some (.ref 83), none, some (.int b), some (.int n), some (.int base), some (.int k), some (.int ((I 97 k.toNatClampNeg) / (1048576 : Int32))), none], [.int ((I 97 k.toNatClampNeg) - (I 97 k.toNatClampNeg) / (1048576 : Int32) * (1048576 : Int32))], (SH, mkM I J T), 0, 0)
  refine Go.of_run (Ev.mono _) 7 _ ?_
  show Go none aM (Ev mt aM (d + 2)) mX12_comesTo Q (if (I 97 k.toNatClampNeg) / (1048576 : Int32) = 0 then 63 else 57, [some (.ref 83), none, some (.int b), some (.int n), some (.int base), some (.int (k + (1 : Int32))), some (.int ((I 97 k.toNatClampNeg) / (1048576 : Int32))), some (.int ((I 97 k.toNatClampNeg) - (I 97 k.toNatClampNeg) / (1048576 : Int32) * (1048576 : Int32)))], [], (SH, mkM I J T), 0, 0)
  rw [if_neg (by rw [hq]; decide)]
  refine Go.of_run (Ev.mono _) 3 _ ?_
  show Go none aM (Ev mt aM (d + 2)) mX12_comesTo Q (if (I 97 k.toNatClampNeg) / (1048576 : Int32) = (1 : Int32) then 63 else 93, [some (.ref 83), none, some (.int b), some (.int n), some (.int base), some (.int (k + (1 : Int32))), some (.int ((I 97 k.toNatClampNeg) / (1048576 : Int32))), some (.int ((I 97 k.toNatClampNeg) - (I 97 k.toNatClampNeg) / (1048576 : Int32) * (1048576 : Int32)))], [], (SH, mkM I J T), 0, 0)
  rw [if_neg (by rw [hq]; decide)]
  refine Go.of_run (Ev.mono _) 3 _ ?_
  show Go none aM (Ev mt aM (d + 2)) mX12_comesTo Q (if (I 97 k.toNatClampNeg) / (1048576 : Int32) = (10 : Int32) then 100 else 121, [some (.ref 83), none, some (.int b), some (.int n), some (.int base), some (.int (k + (1 : Int32))), some (.int ((I 97 k.toNatClampNeg) / (1048576 : Int32))), some (.int ((I 97 k.toNatClampNeg) - (I 97 k.toNatClampNeg) / (1048576 : Int32) * (1048576 : Int32)))], [], (SH, mkM I J T), 0, 0)
  rw [if_neg (by rw [hq]; decide)]
  refine Go.of_run (Ev.mono _) 3 _ ?_
  show Go none aM (Ev mt aM (d + 2)) mX12_comesTo Q (if (I 97 k.toNatClampNeg) / (1048576 : Int32) = (11 : Int32) then 135 else 128, [some (.ref 83), none, some (.int b), some (.int n), some (.int base), some (.int (k + (1 : Int32))), some (.int ((I 97 k.toNatClampNeg) / (1048576 : Int32))), some (.int ((I 97 k.toNatClampNeg) - (I 97 k.toNatClampNeg) / (1048576 : Int32) * (1048576 : Int32)))], [], (SH, mkM I J T), 0, 0)
  rw [if_neg (by rw [hq]; decide)]
  refine Go.of_run (Ev.mono _) 3 _ ?_
  show Go none aM (Ev mt aM (d + 2)) mX12_comesTo Q (if (I 97 k.toNatClampNeg) / (1048576 : Int32) = (12 : Int32) then 135 else 175, [some (.ref 83), none, some (.int b), some (.int n), some (.int base), some (.int (k + (1 : Int32))), some (.int ((I 97 k.toNatClampNeg) / (1048576 : Int32))), some (.int ((I 97 k.toNatClampNeg) - (I 97 k.toNatClampNeg) / (1048576 : Int32) * (1048576 : Int32)))], [], (SH, mkM I J T), 0, 0)
  rw [if_pos (by rw [hq])]
  refine Go.of_run (Ev.mono _) 6 _ ?_
  refine ⟨hyp.1, ?_⟩
  show Go none aM (Ev mt aM (d + 2)) mX12_comesTo Q (143, [some (.ref 83), none, some (.int b), some (.int n), some (.int base), some (.int (k + (1 : Int32))), some (.int ((I 97 k.toNatClampNeg) / (1048576 : Int32))), some (.int ((I 97 k.toNatClampNeg) - (I 97 k.toNatClampNeg) / (1048576 : Int32) * (1048576 : Int32)))], [.int (I 103 ((n - (1 : Int32)).toNatClampNeg))], (SH, mkM I J T), 0, 0)
  refine Go.of_run (Ev.mono _) 3 _ ?_
  show Go none aM (Ev mt aM (d + 2)) mX12_comesTo Q (if (I 97 k.toNatClampNeg) / (1048576 : Int32) = (12 : Int32) then 150 else 154, [some (.ref 83), none, some (.int b), some (.int n), some (.int base), some (.int (k + (1 : Int32))), some (.int ((I 97 k.toNatClampNeg) / (1048576 : Int32))), some (.int ((I 97 k.toNatClampNeg) - (I 97 k.toNatClampNeg) / (1048576 : Int32) * (1048576 : Int32)))], [.int (I 103 ((n - (1 : Int32)).toNatClampNeg))], (SH, mkM I J T), 0, 0)
  rw [if_pos (by rw [hq])]
  refine Go.of_run (Ev.mono _) 3 _ ?_
  show Go none aM (Ev mt aM (d + 2)) mX12_comesTo Q (if I 103 ((n - (1 : Int32)).toNatClampNeg) = (1 : Int32) then 158 else 168, [some (.ref 83), none, some (.int b), some (.int n), some (.int base), some (.int (k + (1 : Int32))), some (.int ((I 97 k.toNatClampNeg) / (1048576 : Int32))), some (.int ((I 97 k.toNatClampNeg) - (I 97 k.toNatClampNeg) / (1048576 : Int32) * (1048576 : Int32)))], [], (SH, mkM I J T), 0, 0)
  rcases Decidable.em (I 103 ((n - (1 : Int32)).toNatClampNeg) = (1 : Int32)) with c1 | c1
  · rw [if_pos c1]
    refine Go.of_run (Ev.mono _) 6 _ ?_
    exact Go.weak (Ev.mono _) (LLe.cons (LLe.cons (LLe.cons (LLe.cons (LLe.cons (LLe.cons (LLe.drop (LLe.drop LLe.nil)))))))) (hyp.2.1 c1)
  · rw [if_neg c1]
    refine Go.of_run (Ev.mono _) 6 _ ?_
    exact Go.weak (Ev.mono _) (LLe.cons (LLe.cons (LLe.cons (LLe.cons (LLe.cons (LLe.cons (LLe.drop (LLe.drop LLe.nil)))))))) (hyp.2.2 c1)
set_option maxRecDepth 20000 in
theorem com_bin {d : Nat} {n b k base : Int32} {kk : Nat} {I : Nat → Nat → Int32} {J : Nat → Nat → Int64} {T : Nat → Nat → Nat} {Q : Option Value → Mem → Prop} (hbk : ¬ b ≤ k) (hv : vp_in k 1760) (hq0 : ¬ (I 97 k.toNatClampNeg) / (1048576 : Int32) = 0) (hq1 : ¬ (I 97 k.toNatClampNeg) / (1048576 : Int32) = (1 : Int32)) (hq10 : ¬ (I 97 k.toNatClampNeg) / (1048576 : Int32) = (10 : Int32)) (hq11 : ¬ (I 97 k.toNatClampNeg) / (1048576 : Int32) = (11 : Int32)) (hq12 : ¬ (I 97 k.toNatClampNeg) / (1048576 : Int32) = (12 : Int32)) (hq5 : ¬ (I 97 k.toNatClampNeg) / (1048576 : Int32) = (5 : Int32)) (hq6 : ¬ (I 97 k.toNatClampNeg) / (1048576 : Int32) = (6 : Int32)) (hk2 : 2 ≤ kk ∧ kk ≤ 9) (hkk : (I 97 k.toNatClampNeg) / (1048576 : Int32) = nI kk) (hyp : (vp_in ((n - (1 : Int32)) - (1 : Int32)) 220 ∧ (vp_in (n - (1 : Int32)) 220 ∧ (¬ ((kk = 5 ∨ kk = 6) ∧ I 103 ((n - (1 : Int32)).toNatClampNeg) = 0) ∧ (vp_in ((n - (1 : Int32)) - (1 : Int32)) 220 ∧ Go none aM (Ev mt aM (d + 2)) mX12_comesTo Q (16, [some (.ref 83), none, some (.int b), some (.int (n - (1 : Int32))), some (.int base), some (.int (k + (1 : Int32))), none, none], [], (SH, mkM (si I 103 (((n - (1 : Int32)) - (1 : Int32)).toNatClampNeg) (opF kk (I 103 (((n - (1 : Int32)) - (1 : Int32)).toNatClampNeg)) (I 103 ((n - (1 : Int32)).toNatClampNeg)))) J T), 0, 0)))))) : Go none aM (Ev mt aM (d + 2)) mX12_comesTo Q (16, [some (.ref 83), none, some (.int b), some (.int n), some (.int base), some (.int k), none, none], [], (SH, mkM I J T), 0, 0) := by
  refine Go.of_run (Ev.mono _) 3 _ ?_
  show Go none aM (Ev mt aM (d + 2)) mX12_comesTo Q (if b ≤ k then 233 else 22, [some (.ref 83), none, some (.int b), some (.int n), some (.int base), some (.int k), none, none], [], (SH, mkM I J T), 0, 0)
  rw [if_neg hbk]
  refine Go.of_run (Ev.mono _) 4 _ ?_
  refine ⟨hv, ?_⟩
  show Go none aM (Ev mt aM (d + 2)) mX12_comesTo Q (29, [some (.ref 83), none, some (.int b), some (.int n), some (.int base), some (.int k), none, none], [.int (I 97 k.toNatClampNeg)], (SH, mkM I J T), 0, 0)
  refine Go.of_run (Ev.mono _) 2 _ ?_
  refine ⟨(by decide : ¬ (1048576 : Int32) = 0), ?_⟩
  show Go none aM (Ev mt aM (d + 2)) mX12_comesTo Q (32, [some (.ref 83), none, some (.int b), some (.int n), some (.int base), some (.int k), none, none], [.int ((I 97 k.toNatClampNeg) / (1048576 : Int32))], (SH, mkM I J T), 0, 0)
  refine Go.of_run (Ev.mono _) 5 _ ?_
  refine ⟨hv, ?_⟩
  show Go none aM (Ev mt aM (d + 2)) mX12_comesTo Q (41, [some (.ref 83), none, some (.int b), some (.int n), some (.int base), some (.int k), some (.int ((I 97 k.toNatClampNeg) / (1048576 : Int32))), none], [.int (I 97 k.toNatClampNeg)], (SH, mkM I J T), 0, 0)
  refine Go.of_run (Ev.mono _) 2 _ ?_
  refine ⟨(by decide : ¬ (1048576 : Int32) = 0), ?_⟩
  show Go none aM (Ev mt aM (d + 2)) mX12_comesTo Q (44, [some (.ref 83), none, some (.int b), some (.int n), some (.int base), some (.int k), some (.int ((I 97 k.toNatClampNeg) / (1048576 : Int32))), none], [.int ((I 97 k.toNatClampNeg) - (I 97 k.toNatClampNeg) / (1048576 : Int32) * (1048576 : Int32))], (SH, mkM I J T), 0, 0)
  refine Go.of_run (Ev.mono _) 7 _ ?_
  show Go none aM (Ev mt aM (d + 2)) mX12_comesTo Q (if (I 97 k.toNatClampNeg) / (1048576 : Int32) = 0 then 63 else 57, [some (.ref 83), none, some (.int b), some (.int n), some (.int base), some (.int (k + (1 : Int32))), some (.int ((I 97 k.toNatClampNeg) / (1048576 : Int32))), some (.int ((I 97 k.toNatClampNeg) - (I 97 k.toNatClampNeg) / (1048576 : Int32) * (1048576 : Int32)))], [], (SH, mkM I J T), 0, 0)
  rw [if_neg hq0]
  refine Go.of_run (Ev.mono _) 3 _ ?_
  show Go none aM (Ev mt aM (d + 2)) mX12_comesTo Q (if (I 97 k.toNatClampNeg) / (1048576 : Int32) = (1 : Int32) then 63 else 93, [some (.ref 83), none, some (.int b), some (.int n), some (.int base), some (.int (k + (1 : Int32))), some (.int ((I 97 k.toNatClampNeg) / (1048576 : Int32))), some (.int ((I 97 k.toNatClampNeg) - (I 97 k.toNatClampNeg) / (1048576 : Int32) * (1048576 : Int32)))], [], (SH, mkM I J T), 0, 0)
  rw [if_neg hq1]
  refine Go.of_run (Ev.mono _) 3 _ ?_
  show Go none aM (Ev mt aM (d + 2)) mX12_comesTo Q (if (I 97 k.toNatClampNeg) / (1048576 : Int32) = (10 : Int32) then 100 else 121, [some (.ref 83), none, some (.int b), some (.int n), some (.int base), some (.int (k + (1 : Int32))), some (.int ((I 97 k.toNatClampNeg) / (1048576 : Int32))), some (.int ((I 97 k.toNatClampNeg) - (I 97 k.toNatClampNeg) / (1048576 : Int32) * (1048576 : Int32)))], [], (SH, mkM I J T), 0, 0)
  rw [if_neg hq10]
  refine Go.of_run (Ev.mono _) 3 _ ?_
  show Go none aM (Ev mt aM (d + 2)) mX12_comesTo Q (if (I 97 k.toNatClampNeg) / (1048576 : Int32) = (11 : Int32) then 135 else 128, [some (.ref 83), none, some (.int b), some (.int n), some (.int base), some (.int (k + (1 : Int32))), some (.int ((I 97 k.toNatClampNeg) / (1048576 : Int32))), some (.int ((I 97 k.toNatClampNeg) - (I 97 k.toNatClampNeg) / (1048576 : Int32) * (1048576 : Int32)))], [], (SH, mkM I J T), 0, 0)
  rw [if_neg hq11]
  refine Go.of_run (Ev.mono _) 3 _ ?_
  show Go none aM (Ev mt aM (d + 2)) mX12_comesTo Q (if (I 97 k.toNatClampNeg) / (1048576 : Int32) = (12 : Int32) then 135 else 175, [some (.ref 83), none, some (.int b), some (.int n), some (.int base), some (.int (k + (1 : Int32))), some (.int ((I 97 k.toNatClampNeg) / (1048576 : Int32))), some (.int ((I 97 k.toNatClampNeg) - (I 97 k.toNatClampNeg) / (1048576 : Int32) * (1048576 : Int32)))], [], (SH, mkM I J T), 0, 0)
  rw [if_neg hq12]
  refine Go.of_run (Ev.mono _) 7 _ ?_
  show Go none aM (Ev mt aM (d + 2)) mX12_comesTo Q (if (I 97 k.toNatClampNeg) / (1048576 : Int32) = (5 : Int32) then 192 else 185, [some (.ref 83), none, some (.int b), some (.int (n - (1 : Int32))), some (.int base), some (.int (k + (1 : Int32))), some (.int ((I 97 k.toNatClampNeg) / (1048576 : Int32))), some (.int ((I 97 k.toNatClampNeg) - (I 97 k.toNatClampNeg) / (1048576 : Int32) * (1048576 : Int32)))], [], (SH, mkM I J T), 0, 0)
  rw [if_neg hq5]
  refine Go.of_run (Ev.mono _) 3 _ ?_
  show Go none aM (Ev mt aM (d + 2)) mX12_comesTo Q (if (I 97 k.toNatClampNeg) / (1048576 : Int32) = (6 : Int32) then 192 else 203, [some (.ref 83), none, some (.int b), some (.int (n - (1 : Int32))), some (.int base), some (.int (k + (1 : Int32))), some (.int ((I 97 k.toNatClampNeg) / (1048576 : Int32))), some (.int ((I 97 k.toNatClampNeg) - (I 97 k.toNatClampNeg) / (1048576 : Int32) * (1048576 : Int32)))], [], (SH, mkM I J T), 0, 0)
  rw [if_neg hq6]
  refine Go.of_run (Ev.mono _) 12 _ ?_
  refine ⟨hyp.1, ?_⟩
  show Go none aM (Ev mt aM (d + 2)) mX12_comesTo Q (220, [some (.ref 83), none, some (.int b), some (.int (n - (1 : Int32))), some (.int base), some (.int (k + (1 : Int32))), some (.int ((I 97 k.toNatClampNeg) / (1048576 : Int32))), some (.int ((I 97 k.toNatClampNeg) - (I 97 k.toNatClampNeg) / (1048576 : Int32) * (1048576 : Int32)))], [.int (I 103 (((n - (1 : Int32)) - (1 : Int32)).toNatClampNeg)), .int ((I 97 k.toNatClampNeg) / (1048576 : Int32)), .int ((n - (1 : Int32)) - (1 : Int32)), .ref 103], (SH, mkM I J T), 0, 0)
  refine Go.of_run (Ev.mono _) 4 _ ?_
  refine ⟨hyp.2.1, ?_⟩
  show Go none aM (Ev mt aM (d + 2)) mX12_comesTo Q (226, [some (.ref 83), none, some (.int b), some (.int (n - (1 : Int32))), some (.int base), some (.int (k + (1 : Int32))), some (.int ((I 97 k.toNatClampNeg) / (1048576 : Int32))), some (.int ((I 97 k.toNatClampNeg) - (I 97 k.toNatClampNeg) / (1048576 : Int32) * (1048576 : Int32)))], [.int (I 103 ((n - (1 : Int32)).toNatClampNeg)), .int (I 103 (((n - (1 : Int32)) - (1 : Int32)).toNatClampNeg)), .int ((I 97 k.toNatClampNeg) / (1048576 : Int32)), .int ((n - (1 : Int32)) - (1 : Int32)), .ref 103], (SH, mkM I J T), 0, 0)
  refine Go.of_run (Ev.mono _) 1 _ ?_
  refine ⟨Nat.le_of_ble_eq_true rfl, ev_reckonN (kk := kk) hk2 hkk hyp.2.2.1 ?_⟩
  show Go none aM (Ev mt aM (d + 2)) mX12_comesTo Q (229, [some (.ref 83), none, some (.int b), some (.int (n - (1 : Int32))), some (.int base), some (.int (k + (1 : Int32))), some (.int ((I 97 k.toNatClampNeg) / (1048576 : Int32))), some (.int ((I 97 k.toNatClampNeg) - (I 97 k.toNatClampNeg) / (1048576 : Int32) * (1048576 : Int32)))], [.int (opF kk (I 103 (((n - (1 : Int32)) - (1 : Int32)).toNatClampNeg)) (I 103 ((n - (1 : Int32)).toNatClampNeg))), .int ((n - (1 : Int32)) - (1 : Int32)), .ref 103], (SH, mkM I J T), 0, 0)
  refine Go.of_run (Ev.mono _) 1 _ ?_
  refine ⟨hyp.2.2.2.1, ?_⟩
  refine go_si rfl ?_
  show Go none aM (Ev mt aM (d + 2)) mX12_comesTo Q (230, [some (.ref 83), none, some (.int b), some (.int (n - (1 : Int32))), some (.int base), some (.int (k + (1 : Int32))), some (.int ((I 97 k.toNatClampNeg) / (1048576 : Int32))), some (.int ((I 97 k.toNatClampNeg) - (I 97 k.toNatClampNeg) / (1048576 : Int32) * (1048576 : Int32)))], [], (SH, mkM (si I 103 (((n - (1 : Int32)) - (1 : Int32)).toNatClampNeg) (opF kk (I 103 (((n - (1 : Int32)) - (1 : Int32)).toNatClampNeg)) (I 103 ((n - (1 : Int32)).toNatClampNeg)))) J T), 0, 0)
  refine Go.of_run (Ev.mono _) 1 _ ?_
  exact Go.weak (Ev.mono _) (LLe.cons (LLe.cons (LLe.cons (LLe.cons (LLe.cons (LLe.cons (LLe.drop (LLe.drop LLe.nil)))))))) hyp.2.2.2.2
set_option maxRecDepth 20000 in
theorem com_div {d : Nat} {n b k base : Int32} {kk : Nat} {I : Nat → Nat → Int32} {J : Nat → Nat → Int64} {T : Nat → Nat → Nat} {Q : Option Value → Mem → Prop} (hbk : ¬ b ≤ k) (hv : vp_in k 1760) (hq : (I 97 k.toNatClampNeg) / (1048576 : Int32) = (5 : Int32)) (hk2 : 2 ≤ kk ∧ kk ≤ 9) (hkk : (I 97 k.toNatClampNeg) / (1048576 : Int32) = nI kk) (hyp : (vp_in (n - (1 : Int32)) 220 ∧ ((I 103 ((n - (1 : Int32)).toNatClampNeg) = 0 → Q (some (.int (0 : Int32))) (SH, mkM I J T)) ∧ ((¬ (I 103 ((n - (1 : Int32)).toNatClampNeg) = 0)) → (vp_in ((n - (1 : Int32)) - (1 : Int32)) 220 ∧ (vp_in (n - (1 : Int32)) 220 ∧ (¬ ((kk = 5 ∨ kk = 6) ∧ I 103 ((n - (1 : Int32)).toNatClampNeg) = 0) ∧ (vp_in ((n - (1 : Int32)) - (1 : Int32)) 220 ∧ Go none aM (Ev mt aM (d + 2)) mX12_comesTo Q (16, [some (.ref 83), none, some (.int b), some (.int (n - (1 : Int32))), some (.int base), some (.int (k + (1 : Int32))), none, none], [], (SH, mkM (si I 103 (((n - (1 : Int32)) - (1 : Int32)).toNatClampNeg) (opF kk (I 103 (((n - (1 : Int32)) - (1 : Int32)).toNatClampNeg)) (I 103 ((n - (1 : Int32)).toNatClampNeg)))) J T), 0, 0))))))))) : Go none aM (Ev mt aM (d + 2)) mX12_comesTo Q (16, [some (.ref 83), none, some (.int b), some (.int n), some (.int base), some (.int k), none, none], [], (SH, mkM I J T), 0, 0) := by
  refine Go.of_run (Ev.mono _) 3 _ ?_
  show Go none aM (Ev mt aM (d + 2)) mX12_comesTo Q (if b ≤ k then 233 else 22, [some (.ref 83), none, some (.int b), some (.int n), some (.int base), some (.int k), none, none], [], (SH, mkM I J T), 0, 0)
  rw [if_neg hbk]
  refine Go.of_run (Ev.mono _) 4 _ ?_
  refine ⟨hv, ?_⟩
  show Go none aM (Ev mt aM (d + 2)) mX12_comesTo Q (29, [some (.ref 83), none, some (.int b), some (.int n), some (.int base), some (.int k), none, none], [.int (I 97 k.toNatClampNeg)], (SH, mkM I J T), 0, 0)
  refine Go.of_run (Ev.mono _) 2 _ ?_
  refine ⟨(by decide : ¬ (1048576 : Int32) = 0), ?_⟩
  show Go none aM (Ev mt aM (d + 2)) mX12_comesTo Q (32, [some (.ref 83), none, some (.int b), some (.int n), some (.int base), some (.int k), none, none], [.int ((I 97 k.toNatClampNeg) / (1048576 : Int32))], (SH, mkM I J T), 0, 0)
  refine Go.of_run (Ev.mono _) 5 _ ?_
  refine ⟨hv, ?_⟩
  show Go none aM (Ev mt aM (d + 2)) mX12_comesTo Q (41, [some (.ref 83), none, some (.int b), some (.int n), some (.int base), some (.int k), some (.int ((I 97 k.toNatClampNeg) / (1048576 : Int32))), none], [.int (I 97 k.toNatClampNeg)], (SH, mkM I J T), 0, 0)
  refine Go.of_run (Ev.mono _) 2 _ ?_
  refine ⟨(by decide : ¬ (1048576 : Int32) = 0), ?_⟩
  show Go none aM (Ev mt aM (d + 2)) mX12_comesTo Q (44, [some (.ref 83), none, some (.int b), some (.int n), some (.int base), some (.int k), some (.int ((I 97 k.toNatClampNeg) / (1048576 : Int32))), none], [.int ((I 97 k.toNatClampNeg) - (I 97 k.toNatClampNeg) / (1048576 : Int32) * (1048576 : Int32))], (SH, mkM I J T), 0, 0)
  refine Go.of_run (Ev.mono _) 7 _ ?_
  show Go none aM (Ev mt aM (d + 2)) mX12_comesTo Q (if (I 97 k.toNatClampNeg) / (1048576 : Int32) = 0 then 63 else 57, [some (.ref 83), none, some (.int b), some (.int n), some (.int base), some (.int (k + (1 : Int32))), some (.int ((I 97 k.toNatClampNeg) / (1048576 : Int32))), some (.int ((I 97 k.toNatClampNeg) - (I 97 k.toNatClampNeg) / (1048576 : Int32) * (1048576 : Int32)))], [], (SH, mkM I J T), 0, 0)
  rw [if_neg (by rw [hq]; decide)]
  refine Go.of_run (Ev.mono _) 3 _ ?_
  show Go none aM (Ev mt aM (d + 2)) mX12_comesTo Q (if (I 97 k.toNatClampNeg) / (1048576 : Int32) = (1 : Int32) then 63 else 93, [some (.ref 83), none, some (.int b), some (.int n), some (.int base), some (.int (k + (1 : Int32))), some (.int ((I 97 k.toNatClampNeg) / (1048576 : Int32))), some (.int ((I 97 k.toNatClampNeg) - (I 97 k.toNatClampNeg) / (1048576 : Int32) * (1048576 : Int32)))], [], (SH, mkM I J T), 0, 0)
  rw [if_neg (by rw [hq]; decide)]
  refine Go.of_run (Ev.mono _) 3 _ ?_
  show Go none aM (Ev mt aM (d + 2)) mX12_comesTo Q (if (I 97 k.toNatClampNeg) / (1048576 : Int32) = (10 : Int32) then 100 else 121, [some (.ref 83), none, some (.int b), some (.int n), some (.int base), some (.int (k + (1 : Int32))), some (.int ((I 97 k.toNatClampNeg) / (1048576 : Int32))), some (.int ((I 97 k.toNatClampNeg) - (I 97 k.toNatClampNeg) / (1048576 : Int32) * (1048576 : Int32)))], [], (SH, mkM I J T), 0, 0)
  rw [if_neg (by rw [hq]; decide)]
  refine Go.of_run (Ev.mono _) 3 _ ?_
  show Go none aM (Ev mt aM (d + 2)) mX12_comesTo Q (if (I 97 k.toNatClampNeg) / (1048576 : Int32) = (11 : Int32) then 135 else 128, [some (.ref 83), none, some (.int b), some (.int n), some (.int base), some (.int (k + (1 : Int32))), some (.int ((I 97 k.toNatClampNeg) / (1048576 : Int32))), some (.int ((I 97 k.toNatClampNeg) - (I 97 k.toNatClampNeg) / (1048576 : Int32) * (1048576 : Int32)))], [], (SH, mkM I J T), 0, 0)
  rw [if_neg (by rw [hq]; decide)]
  refine Go.of_run (Ev.mono _) 3 _ ?_
  show Go none aM (Ev mt aM (d + 2)) mX12_comesTo Q (if (I 97 k.toNatClampNeg) / (1048576 : Int32) = (12 : Int32) then 135 else 175, [some (.ref 83), none, some (.int b), some (.int n), some (.int base), some (.int (k + (1 : Int32))), some (.int ((I 97 k.toNatClampNeg) / (1048576 : Int32))), some (.int ((I 97 k.toNatClampNeg) - (I 97 k.toNatClampNeg) / (1048576 : Int32) * (1048576 : Int32)))], [], (SH, mkM I J T), 0, 0)
  rw [if_neg (by rw [hq]; decide)]
  refine Go.of_run (Ev.mono _) 7 _ ?_
  show Go none aM (Ev mt aM (d + 2)) mX12_comesTo Q (if (I 97 k.toNatClampNeg) / (1048576 : Int32) = (5 : Int32) then 192 else 185, [some (.ref 83), none, some (.int b), some (.int (n - (1 : Int32))), some (.int base), some (.int (k + (1 : Int32))), some (.int ((I 97 k.toNatClampNeg) / (1048576 : Int32))), some (.int ((I 97 k.toNatClampNeg) - (I 97 k.toNatClampNeg) / (1048576 : Int32) * (1048576 : Int32)))], [], (SH, mkM I J T), 0, 0)
  rw [if_pos (by rw [hq])]
  refine Go.of_run (Ev.mono _) 4 _ ?_
  refine ⟨hyp.1, ?_⟩
  show Go none aM (Ev mt aM (d + 2)) mX12_comesTo Q (198, [some (.ref 83), none, some (.int b), some (.int (n - (1 : Int32))), some (.int base), some (.int (k + (1 : Int32))), some (.int ((I 97 k.toNatClampNeg) / (1048576 : Int32))), some (.int ((I 97 k.toNatClampNeg) - (I 97 k.toNatClampNeg) / (1048576 : Int32) * (1048576 : Int32)))], [.int (I 103 ((n - (1 : Int32)).toNatClampNeg))], (SH, mkM I J T), 0, 0)
  refine Go.of_run (Ev.mono _) 1 _ ?_
  show Go none aM (Ev mt aM (d + 2)) mX12_comesTo Q (if I 103 ((n - (1 : Int32)).toNatClampNeg) = 0 then 201 else 203, [some (.ref 83), none, some (.int b), some (.int (n - (1 : Int32))), some (.int base), some (.int (k + (1 : Int32))), some (.int ((I 97 k.toNatClampNeg) / (1048576 : Int32))), some (.int ((I 97 k.toNatClampNeg) - (I 97 k.toNatClampNeg) / (1048576 : Int32) * (1048576 : Int32)))], [], (SH, mkM I J T), 0, 0)
  rcases Decidable.em (I 103 ((n - (1 : Int32)).toNatClampNeg) = 0) with c1 | c1
  · rw [if_pos c1]
    refine Go.of_run (Ev.mono _) 2 _ ?_
    refine ⟨trivial, ?_⟩
    show Q (some (.int (0 : Int32))) (SH, mkM I J T)
    exact (hyp.2.1 c1)
  · rw [if_neg c1]
    refine Go.of_run (Ev.mono _) 12 _ ?_
    refine ⟨(hyp.2.2 c1).1, ?_⟩
    show Go none aM (Ev mt aM (d + 2)) mX12_comesTo Q (220, [some (.ref 83), none, some (.int b), some (.int (n - (1 : Int32))), some (.int base), some (.int (k + (1 : Int32))), some (.int ((I 97 k.toNatClampNeg) / (1048576 : Int32))), some (.int ((I 97 k.toNatClampNeg) - (I 97 k.toNatClampNeg) / (1048576 : Int32) * (1048576 : Int32)))], [.int (I 103 (((n - (1 : Int32)) - (1 : Int32)).toNatClampNeg)), .int ((I 97 k.toNatClampNeg) / (1048576 : Int32)), .int ((n - (1 : Int32)) - (1 : Int32)), .ref 103], (SH, mkM I J T), 0, 0)
    refine Go.of_run (Ev.mono _) 4 _ ?_
    refine ⟨(hyp.2.2 c1).2.1, ?_⟩
    show Go none aM (Ev mt aM (d + 2)) mX12_comesTo Q (226, [some (.ref 83), none, some (.int b), some (.int (n - (1 : Int32))), some (.int base), some (.int (k + (1 : Int32))), some (.int ((I 97 k.toNatClampNeg) / (1048576 : Int32))), some (.int ((I 97 k.toNatClampNeg) - (I 97 k.toNatClampNeg) / (1048576 : Int32) * (1048576 : Int32)))], [.int (I 103 ((n - (1 : Int32)).toNatClampNeg)), .int (I 103 (((n - (1 : Int32)) - (1 : Int32)).toNatClampNeg)), .int ((I 97 k.toNatClampNeg) / (1048576 : Int32)), .int ((n - (1 : Int32)) - (1 : Int32)), .ref 103], (SH, mkM I J T), 0, 0)
    refine Go.of_run (Ev.mono _) 1 _ ?_
    refine ⟨Nat.le_of_ble_eq_true rfl, ev_reckonN (kk := kk) hk2 hkk (hyp.2.2 c1).2.2.1 ?_⟩
    show Go none aM (Ev mt aM (d + 2)) mX12_comesTo Q (229, [some (.ref 83), none, some (.int b), some (.int (n - (1 : Int32))), some (.int base), some (.int (k + (1 : Int32))), some (.int ((I 97 k.toNatClampNeg) / (1048576 : Int32))), some (.int ((I 97 k.toNatClampNeg) - (I 97 k.toNatClampNeg) / (1048576 : Int32) * (1048576 : Int32)))], [.int (opF kk (I 103 (((n - (1 : Int32)) - (1 : Int32)).toNatClampNeg)) (I 103 ((n - (1 : Int32)).toNatClampNeg))), .int ((n - (1 : Int32)) - (1 : Int32)), .ref 103], (SH, mkM I J T), 0, 0)
    refine Go.of_run (Ev.mono _) 1 _ ?_
    refine ⟨(hyp.2.2 c1).2.2.2.1, ?_⟩
    refine go_si rfl ?_
    show Go none aM (Ev mt aM (d + 2)) mX12_comesTo Q (230, [some (.ref 83), none, some (.int b), some (.int (n - (1 : Int32))), some (.int base), some (.int (k + (1 : Int32))), some (.int ((I 97 k.toNatClampNeg) / (1048576 : Int32))), some (.int ((I 97 k.toNatClampNeg) - (I 97 k.toNatClampNeg) / (1048576 : Int32) * (1048576 : Int32)))], [], (SH, mkM (si I 103 (((n - (1 : Int32)) - (1 : Int32)).toNatClampNeg) (opF kk (I 103 (((n - (1 : Int32)) - (1 : Int32)).toNatClampNeg)) (I 103 ((n - (1 : Int32)).toNatClampNeg)))) J T), 0, 0)
    refine Go.of_run (Ev.mono _) 1 _ ?_
    exact Go.weak (Ev.mono _) (LLe.cons (LLe.cons (LLe.cons (LLe.cons (LLe.cons (LLe.cons (LLe.drop (LLe.drop LLe.nil)))))))) (hyp.2.2 c1).2.2.2.2
set_option maxRecDepth 20000 in
theorem com_rem {d : Nat} {n b k base : Int32} {kk : Nat} {I : Nat → Nat → Int32} {J : Nat → Nat → Int64} {T : Nat → Nat → Nat} {Q : Option Value → Mem → Prop} (hbk : ¬ b ≤ k) (hv : vp_in k 1760) (hq : (I 97 k.toNatClampNeg) / (1048576 : Int32) = (6 : Int32)) (hk2 : 2 ≤ kk ∧ kk ≤ 9) (hkk : (I 97 k.toNatClampNeg) / (1048576 : Int32) = nI kk) (hyp : (vp_in (n - (1 : Int32)) 220 ∧ ((I 103 ((n - (1 : Int32)).toNatClampNeg) = 0 → Q (some (.int (0 : Int32))) (SH, mkM I J T)) ∧ ((¬ (I 103 ((n - (1 : Int32)).toNatClampNeg) = 0)) → (vp_in ((n - (1 : Int32)) - (1 : Int32)) 220 ∧ (vp_in (n - (1 : Int32)) 220 ∧ (¬ ((kk = 5 ∨ kk = 6) ∧ I 103 ((n - (1 : Int32)).toNatClampNeg) = 0) ∧ (vp_in ((n - (1 : Int32)) - (1 : Int32)) 220 ∧ Go none aM (Ev mt aM (d + 2)) mX12_comesTo Q (16, [some (.ref 83), none, some (.int b), some (.int (n - (1 : Int32))), some (.int base), some (.int (k + (1 : Int32))), none, none], [], (SH, mkM (si I 103 (((n - (1 : Int32)) - (1 : Int32)).toNatClampNeg) (opF kk (I 103 (((n - (1 : Int32)) - (1 : Int32)).toNatClampNeg)) (I 103 ((n - (1 : Int32)).toNatClampNeg)))) J T), 0, 0))))))))) : Go none aM (Ev mt aM (d + 2)) mX12_comesTo Q (16, [some (.ref 83), none, some (.int b), some (.int n), some (.int base), some (.int k), none, none], [], (SH, mkM I J T), 0, 0) := by
  refine Go.of_run (Ev.mono _) 3 _ ?_
  show Go none aM (Ev mt aM (d + 2)) mX12_comesTo Q (if b ≤ k then 233 else 22, [some (.ref 83), none, some (.int b), some (.int n), some (.int base), some (.int k), none, none], [], (SH, mkM I J T), 0, 0)
  rw [if_neg hbk]
  refine Go.of_run (Ev.mono _) 4 _ ?_
  refine ⟨hv, ?_⟩
  show Go none aM (Ev mt aM (d + 2)) mX12_comesTo Q (29, [some (.ref 83), none, some (.int b), some (.int n), some (.int base), some (.int k), none, none], [.int (I 97 k.toNatClampNeg)], (SH, mkM I J T), 0, 0)
  refine Go.of_run (Ev.mono _) 2 _ ?_
  refine ⟨(by decide : ¬ (1048576 : Int32) = 0), ?_⟩
  show Go none aM (Ev mt aM (d + 2)) mX12_comesTo Q (32, [some (.ref 83), none, some (.int b), some (.int n), some (.int base), some (.int k), none, none], [.int ((I 97 k.toNatClampNeg) / (1048576 : Int32))], (SH, mkM I J T), 0, 0)
  refine Go.of_run (Ev.mono _) 5 _ ?_
  refine ⟨hv, ?_⟩
  show Go none aM (Ev mt aM (d + 2)) mX12_comesTo Q (41, [some (.ref 83), none, some (.int b), some (.int n), some (.int base), some (.int k), some (.int ((I 97 k.toNatClampNeg) / (1048576 : Int32))), none], [.int (I 97 k.toNatClampNeg)], (SH, mkM I J T), 0, 0)
  refine Go.of_run (Ev.mono _) 2 _ ?_
  refine ⟨(by decide : ¬ (1048576 : Int32) = 0), ?_⟩
  show Go none aM (Ev mt aM (d + 2)) mX12_comesTo Q (44, [some (.ref 83), none, some (.int b), some (.int n), some (.int base), some (.int k), some (.int ((I 97 k.toNatClampNeg) / (1048576 : Int32))), none], [.int ((I 97 k.toNatClampNeg) - (I 97 k.toNatClampNeg) / (1048576 : Int32) * (1048576 : Int32))], (SH, mkM I J T), 0, 0)
  refine Go.of_run (Ev.mono _) 7 _ ?_
  show Go none aM (Ev mt aM (d + 2)) mX12_comesTo Q (if (I 97 k.toNatClampNeg) / (1048576 : Int32) = 0 then 63 else 57, [some (.ref 83), none, some (.int b), some (.int n), some (.int base), some (.int (k + (1 : Int32))), some (.int ((I 97 k.toNatClampNeg) / (1048576 : Int32))), some (.int ((I 97 k.toNatClampNeg) - (I 97 k.toNatClampNeg) / (1048576 : Int32) * (1048576 : Int32)))], [], (SH, mkM I J T), 0, 0)
  rw [if_neg (by rw [hq]; decide)]
  refine Go.of_run (Ev.mono _) 3 _ ?_
  show Go none aM (Ev mt aM (d + 2)) mX12_comesTo Q (if (I 97 k.toNatClampNeg) / (1048576 : Int32) = (1 : Int32) then 63 else 93, [some (.ref 83), none, some (.int b), some (.int n), some (.int base), some (.int (k + (1 : Int32))), some (.int ((I 97 k.toNatClampNeg) / (1048576 : Int32))), some (.int ((I 97 k.toNatClampNeg) - (I 97 k.toNatClampNeg) / (1048576 : Int32) * (1048576 : Int32)))], [], (SH, mkM I J T), 0, 0)
  rw [if_neg (by rw [hq]; decide)]
  refine Go.of_run (Ev.mono _) 3 _ ?_
  show Go none aM (Ev mt aM (d + 2)) mX12_comesTo Q (if (I 97 k.toNatClampNeg) / (1048576 : Int32) = (10 : Int32) then 100 else 121, [some (.ref 83), none, some (.int b), some (.int n), some (.int base), some (.int (k + (1 : Int32))), some (.int ((I 97 k.toNatClampNeg) / (1048576 : Int32))), some (.int ((I 97 k.toNatClampNeg) - (I 97 k.toNatClampNeg) / (1048576 : Int32) * (1048576 : Int32)))], [], (SH, mkM I J T), 0, 0)
  rw [if_neg (by rw [hq]; decide)]
  refine Go.of_run (Ev.mono _) 3 _ ?_
  show Go none aM (Ev mt aM (d + 2)) mX12_comesTo Q (if (I 97 k.toNatClampNeg) / (1048576 : Int32) = (11 : Int32) then 135 else 128, [some (.ref 83), none, some (.int b), some (.int n), some (.int base), some (.int (k + (1 : Int32))), some (.int ((I 97 k.toNatClampNeg) / (1048576 : Int32))), some (.int ((I 97 k.toNatClampNeg) - (I 97 k.toNatClampNeg) / (1048576 : Int32) * (1048576 : Int32)))], [], (SH, mkM I J T), 0, 0)
  rw [if_neg (by rw [hq]; decide)]
  refine Go.of_run (Ev.mono _) 3 _ ?_
  show Go none aM (Ev mt aM (d + 2)) mX12_comesTo Q (if (I 97 k.toNatClampNeg) / (1048576 : Int32) = (12 : Int32) then 135 else 175, [some (.ref 83), none, some (.int b), some (.int n), some (.int base), some (.int (k + (1 : Int32))), some (.int ((I 97 k.toNatClampNeg) / (1048576 : Int32))), some (.int ((I 97 k.toNatClampNeg) - (I 97 k.toNatClampNeg) / (1048576 : Int32) * (1048576 : Int32)))], [], (SH, mkM I J T), 0, 0)
  rw [if_neg (by rw [hq]; decide)]
  refine Go.of_run (Ev.mono _) 7 _ ?_
  show Go none aM (Ev mt aM (d + 2)) mX12_comesTo Q (if (I 97 k.toNatClampNeg) / (1048576 : Int32) = (5 : Int32) then 192 else 185, [some (.ref 83), none, some (.int b), some (.int (n - (1 : Int32))), some (.int base), some (.int (k + (1 : Int32))), some (.int ((I 97 k.toNatClampNeg) / (1048576 : Int32))), some (.int ((I 97 k.toNatClampNeg) - (I 97 k.toNatClampNeg) / (1048576 : Int32) * (1048576 : Int32)))], [], (SH, mkM I J T), 0, 0)
  rw [if_neg (by rw [hq]; decide)]
  refine Go.of_run (Ev.mono _) 3 _ ?_
  show Go none aM (Ev mt aM (d + 2)) mX12_comesTo Q (if (I 97 k.toNatClampNeg) / (1048576 : Int32) = (6 : Int32) then 192 else 203, [some (.ref 83), none, some (.int b), some (.int (n - (1 : Int32))), some (.int base), some (.int (k + (1 : Int32))), some (.int ((I 97 k.toNatClampNeg) / (1048576 : Int32))), some (.int ((I 97 k.toNatClampNeg) - (I 97 k.toNatClampNeg) / (1048576 : Int32) * (1048576 : Int32)))], [], (SH, mkM I J T), 0, 0)
  rw [if_pos (by rw [hq])]
  refine Go.of_run (Ev.mono _) 4 _ ?_
  refine ⟨hyp.1, ?_⟩
  show Go none aM (Ev mt aM (d + 2)) mX12_comesTo Q (198, [some (.ref 83), none, some (.int b), some (.int (n - (1 : Int32))), some (.int base), some (.int (k + (1 : Int32))), some (.int ((I 97 k.toNatClampNeg) / (1048576 : Int32))), some (.int ((I 97 k.toNatClampNeg) - (I 97 k.toNatClampNeg) / (1048576 : Int32) * (1048576 : Int32)))], [.int (I 103 ((n - (1 : Int32)).toNatClampNeg))], (SH, mkM I J T), 0, 0)
  refine Go.of_run (Ev.mono _) 1 _ ?_
  show Go none aM (Ev mt aM (d + 2)) mX12_comesTo Q (if I 103 ((n - (1 : Int32)).toNatClampNeg) = 0 then 201 else 203, [some (.ref 83), none, some (.int b), some (.int (n - (1 : Int32))), some (.int base), some (.int (k + (1 : Int32))), some (.int ((I 97 k.toNatClampNeg) / (1048576 : Int32))), some (.int ((I 97 k.toNatClampNeg) - (I 97 k.toNatClampNeg) / (1048576 : Int32) * (1048576 : Int32)))], [], (SH, mkM I J T), 0, 0)
  rcases Decidable.em (I 103 ((n - (1 : Int32)).toNatClampNeg) = 0) with c1 | c1
  · rw [if_pos c1]
    refine Go.of_run (Ev.mono _) 2 _ ?_
    refine ⟨trivial, ?_⟩
    show Q (some (.int (0 : Int32))) (SH, mkM I J T)
    exact (hyp.2.1 c1)
  · rw [if_neg c1]
    refine Go.of_run (Ev.mono _) 12 _ ?_
    refine ⟨(hyp.2.2 c1).1, ?_⟩
    show Go none aM (Ev mt aM (d + 2)) mX12_comesTo Q (220, [some (.ref 83), none, some (.int b), some (.int (n - (1 : Int32))), some (.int base), some (.int (k + (1 : Int32))), some (.int ((I 97 k.toNatClampNeg) / (1048576 : Int32))), some (.int ((I 97 k.toNatClampNeg) - (I 97 k.toNatClampNeg) / (1048576 : Int32) * (1048576 : Int32)))], [.int (I 103 (((n - (1 : Int32)) - (1 : Int32)).toNatClampNeg)), .int ((I 97 k.toNatClampNeg) / (1048576 : Int32)), .int ((n - (1 : Int32)) - (1 : Int32)), .ref 103], (SH, mkM I J T), 0, 0)
    refine Go.of_run (Ev.mono _) 4 _ ?_
    refine ⟨(hyp.2.2 c1).2.1, ?_⟩
    show Go none aM (Ev mt aM (d + 2)) mX12_comesTo Q (226, [some (.ref 83), none, some (.int b), some (.int (n - (1 : Int32))), some (.int base), some (.int (k + (1 : Int32))), some (.int ((I 97 k.toNatClampNeg) / (1048576 : Int32))), some (.int ((I 97 k.toNatClampNeg) - (I 97 k.toNatClampNeg) / (1048576 : Int32) * (1048576 : Int32)))], [.int (I 103 ((n - (1 : Int32)).toNatClampNeg)), .int (I 103 (((n - (1 : Int32)) - (1 : Int32)).toNatClampNeg)), .int ((I 97 k.toNatClampNeg) / (1048576 : Int32)), .int ((n - (1 : Int32)) - (1 : Int32)), .ref 103], (SH, mkM I J T), 0, 0)
    refine Go.of_run (Ev.mono _) 1 _ ?_
    refine ⟨Nat.le_of_ble_eq_true rfl, ev_reckonN (kk := kk) hk2 hkk (hyp.2.2 c1).2.2.1 ?_⟩
    show Go none aM (Ev mt aM (d + 2)) mX12_comesTo Q (229, [some (.ref 83), none, some (.int b), some (.int (n - (1 : Int32))), some (.int base), some (.int (k + (1 : Int32))), some (.int ((I 97 k.toNatClampNeg) / (1048576 : Int32))), some (.int ((I 97 k.toNatClampNeg) - (I 97 k.toNatClampNeg) / (1048576 : Int32) * (1048576 : Int32)))], [.int (opF kk (I 103 (((n - (1 : Int32)) - (1 : Int32)).toNatClampNeg)) (I 103 ((n - (1 : Int32)).toNatClampNeg))), .int ((n - (1 : Int32)) - (1 : Int32)), .ref 103], (SH, mkM I J T), 0, 0)
    refine Go.of_run (Ev.mono _) 1 _ ?_
    refine ⟨(hyp.2.2 c1).2.2.2.1, ?_⟩
    refine go_si rfl ?_
    show Go none aM (Ev mt aM (d + 2)) mX12_comesTo Q (230, [some (.ref 83), none, some (.int b), some (.int (n - (1 : Int32))), some (.int base), some (.int (k + (1 : Int32))), some (.int ((I 97 k.toNatClampNeg) / (1048576 : Int32))), some (.int ((I 97 k.toNatClampNeg) - (I 97 k.toNatClampNeg) / (1048576 : Int32) * (1048576 : Int32)))], [], (SH, mkM (si I 103 (((n - (1 : Int32)) - (1 : Int32)).toNatClampNeg) (opF kk (I 103 (((n - (1 : Int32)) - (1 : Int32)).toNatClampNeg)) (I 103 ((n - (1 : Int32)).toNatClampNeg)))) J T), 0, 0)
    refine Go.of_run (Ev.mono _) 1 _ ?_
    exact Go.weak (Ev.mono _) (LLe.cons (LLe.cons (LLe.cons (LLe.cons (LLe.cons (LLe.cons (LLe.drop (LLe.drop LLe.nil)))))))) (hyp.2.2 c1).2.2.2.2
set_option maxRecDepth 20000 in
theorem com_end {d : Nat} {n b k base : Int32} {I : Nat → Nat → Int32} {J : Nat → Nat → Int64} {T : Nat → Nat → Nat} {Q : Option Value → Mem → Prop} (hbk : b ≤ k) (hyp : Q (some (.int (I 103 0))) (SH, mkM I J T)) : Go none aM (Ev mt aM (d + 2)) mX12_comesTo Q (16, [some (.ref 83), none, some (.int b), some (.int n), some (.int base), some (.int k), none, none], [], (SH, mkM I J T), 0, 0) := by
  refine Go.of_run (Ev.mono _) 3 _ ?_
  show Go none aM (Ev mt aM (d + 2)) mX12_comesTo Q (if b ≤ k then 233 else 22, [some (.ref 83), none, some (.int b), some (.int n), some (.int base), some (.int k), none, none], [], (SH, mkM I J T), 0, 0)
  rw [if_pos hbk]
  refine Go.of_run (Ev.mono _) 4 _ ?_
  refine ⟨(by unfold vp_in; decide : vp_in (0 : Int32) 220), ?_⟩
  show Go none aM (Ev mt aM (d + 2)) mX12_comesTo Q (239, [some (.ref 83), none, some (.int b), some (.int n), some (.int base), some (.int k), none, none], [.int (I 103 0)], (SH, mkM I J T), 0, 0)
  refine Go.of_run (Ev.mono _) 1 _ ?_
  refine ⟨trivial, ?_⟩
  show Q (some (.int (I 103 0))) (SH, mkM I J T)
  exact hyp
set_option maxRecDepth 20000 in
theorem com_in {d : Nat} {a b : Int32} {I : Nat → Nat → Int32} {J : Nat → Nat → Int64} {T : Nat → Nat → Nat} {Q : Option Value → Mem → Prop} (hyp : Go none aM (Ev mt aM (d + 2)) mX12_comesTo Q (16, [some (.ref 83), none, some (.int b), some (.int (0 : Int32)), some (.int ((220 : Int32) * (a / (220 : Int32)))), some (.int a), none, none], [], (SH, mkM I J T), 0, 0)) : Go none aM (Ev mt aM (d + 2)) mX12_comesTo Q (0, [some (.ref 83), some (.int a), some (.int b), none, none, none, none, none], [], (SH, mkM I J T), 0, 0) := by
  refine Go.of_run (Ev.mono _) 6 _ ?_
  refine ⟨(by decide : ¬ (220 : Int32) = 0), ?_⟩
  show Go none aM (Ev mt aM (d + 2)) mX12_comesTo Q (10, [some (.ref 83), some (.int a), some (.int b), some (.int (0 : Int32)), none, none, none, none], [.int (a / (220 : Int32)), .int (220 : Int32)], (SH, mkM I J T), 0, 0)
  refine Go.of_run (Ev.mono _) 4 _ ?_
  exact Go.weak (Ev.mono _) (LLe.cons (LLe.drop (LLe.cons (LLe.cons (LLe.cons (LLe.cons (LLe.cons (LLe.cons LLe.nil)))))))) hyp
theorem tx_ne {t k : Nat} (ht : TX t) (q : Nat) (hq : q = 10 ∨ q = 11 ∨ q = 12) : t + k = q → k < 6 → False := by
  intro e hk
  rcases ht with rfl | rfl | rfl | rfl | rfl | rfl | rfl | rfl | rfl <;> omega
theorem us_at {s : Nat → Int32} {h : Nat} {x : Int32} : us s h x h = x := if_pos rfl
/-- the class's loop over a text's code -/
theorem run_loop {d t b a : Nat} {w : Nat → Nat} {F : Nat → Int32} {τ : Nat → Nat} {J : Nat → Nat → Int64} {T : Nat → Nat → Nat} {Q : Option Value → Mem → Prop} (ht : TX t) (hb : b ≤ 200) (hck : ∀ j, a ≤ j → j < b → CK w τ b j) (hτ : τ b = 1 ∨ τ b = 50) : ∀ (f k h : Nat) (s : Nat → Int32) (I : Nat → Nat → Int32), b - k < f → a ≤ k → k ≤ b → h = hg (τ k) → (τ k = 50 → s 0 = 0 ∨ s 0 = 1) → (∀ j, j < h → I 12 j = s j) → I 10 2 = nI h → I 10 3 = 0 → (∀ j, j < b → I (t + 1) j = nI (w j)) → (∀ j, j < 16 → I 11 j = F j) → (∀ I', Fr [10, 12] I I' → Q (some (.int (evF w F b f k h s))) (SH, mkM I' J T)) → Go none aM (Ev mt aM (d + 2)) mX4_run Q (13, [some (.ref 10), some (.ref t), none, some (.int (nI b)), some (.int (nI k)), none, none, none, none], [], (SH, mkM I J T), 0, 0) := by
  have n10 : ¬ t + 1 = 10 := fun e => tx_ne ht 10 (Or.inl rfl) e (by omega)
  have n12 : ¬ t + 1 = 12 := fun e => tx_ne ht 12 (Or.inr (Or.inr rfl)) e (by omega)
  intro f
  induction f with
  | zero => intro k h s I hf; omega
  | succ f ih =>
    intro k h s I hf hak hkb hh hbool hst h2 h3 hw hF hQ
    have mem0 : ∀ h', I 10 2 = nI h' → si (si I 10 3 (0 : Int32)) 10 2 (nI h') = I := fun h' e => by
      rw [si_self h3, si_self e]
    by_cases hend : b ≤ k
    · have hk : k = b := by omega
      subst hk
      have h1 : h = 1 := by rcases hτ with q | q <;> (rw [hh, q]; rfl)
      subst h1
      have e0 : evF w F k (f + 1) k 1 s = s 0 := if_pos (Nat.le_refl k)
      rw [e0] at hQ
      refine Go.mem (mem0 (0 + 1) h2) (run_end (W := 0) (h := 0) (nI_le (Nat.le_refl k) (by omega)) ?_)
      rw [hst 0 (by omega)]
      exact hQ _ (((Fr.rfl' _ _).drop rfl |>.drop rfl |>.drop rfl))
    · have hlt : k < b := by omega
      obtain ⟨hwb, hcase⟩ := hck k hak hlt
      have hbk : ¬ nI b ≤ nI k := nI_ge hlt (by omega)
      have hv : vp_in (nI k) 200 := vp_in_nI (by omega) (by omega)
      have hcl : (nI k).toNatClampNeg = k := nI_clamp (by omega)
      have hW : ∀ h' : Nat, (si (si I 10 3 (0 : Int32)) 10 2 (nI h')) (t + 1) (nI k).toNatClampNeg = nI (w k) := fun h' => by
        rw [si_row n10, si_row n10, hcl]
        exact hw k hlt
      have next : ∀ (k' h' : Nat) (s' : Nat → Int32) (M : Nat → Nat → Int32), evF w F b (f + 1) k h s = evF w F b f k' h' s' → k < k' → k' ≤ b → h' = hg (τ k') → (τ k' = 50 → s' 0 = 0 ∨ s' 0 = 1) → (∀ j, j < h' → M 12 j = s' j) → M 10 2 = nI h' → M 10 3 = 0 → Fr [10, 12] I M → Go none aM (Ev mt aM (d + 2)) mX4_run Q (13, [some (.ref 10), some (.ref t), none, some (.int (nI b)), some (.int (nI k')), none, none, none, none], [], (SH, mkM M J T), 0, 0) := by
        intro k' h' s' M e hk1 hk2 hh' hb' hs' hm2 hm3 hfr
        refine ih k' h' s' M (by omega) (by omega) hk2 hh' hb' hs' hm2 hm3 (fun j hj => ?_) (fun j hj => ?_) (fun I' hI' => ?_)
        · rw [hfr (t + 1) (nel (by simp; omega))]
          exact hw j hj
        · rw [hfr 11 rfl]
          exact hF j hj
        · rw [← e]
          exact hQ I' (hfr.trans hI')
      rcases hcase with ⟨hk, q1, q2⟩ | ⟨hk, q1, q2, q3⟩ | ⟨hk, q1, q2⟩ | ⟨hk, q1, q2, q3, q4, q5⟩ | ⟨hk, q1, q2, q3⟩ | ⟨hk, q1, q2⟩
      · have hh2 : h = τ k := by rw [hh]; exact if_neg (by omega)
        refine Go.mem (mem0 h h2) (run_num ht hbk hv (by omega) (hW h) (w_kind hwb hk) ?_)
        rw [nI_1, w_arg hwb]
        refine next (k + 1) (h + 1) (us s h (nI (w k / 16))) _ ?_ (by omega) (by omega) ?_ (fun q => by omega) (fun j hj => ?_) si_at ?_ ?_
        · simp [evF, hend, hk]
        · rw [q2, ← hh2]; exact (if_neg (by omega)).symm
        · by_cases hj2 : j = h
          · subst hj2; simp [si, us]
          · have := hst j (by omega)
            simp [si, us, hj2, this]
        · simp [si]
        · exact (((Fr.rfl' _ _).to rfl |>.to rfl |>.to rfl |>.to rfl))
      · have hh2 : h = τ k := by rw [hh]; exact if_neg (by omega)
        refine Go.mem (mem0 h h2) (run_let ht hbk hv (by omega) (hW h) (w_kind hwb hk) ⟨?_, ?_⟩)
        · rw [w_arg hwb]; exact vp_in_nI q3 (by omega)
        have e1 : v_X5_at_11 (nI (w k) >>> ((4 : Int32) &&& 31)) (si (si I 10 3 (0 : Int32)) 10 2 (nI h)) = F (w k / 16) := by
          unfold v_X5_at_11
          rw [si_row (by omega), si_row (by omega), w_arg hwb, nI_clamp (by omega)]
          exact hF _ q3
        rw [nI_1, e1]
        refine next (k + 1) (h + 1) (us s h (F (w k / 16))) _ ?_ (by omega) (by omega) ?_ (fun q => by omega) (fun j hj => ?_) si_at ?_ ?_
        · simp [evF, hend, hk]
        · rw [q2, ← hh2]; exact (if_neg (by omega)).symm
        · by_cases hj2 : j = h
          · subst hj2; simp [si, us]
          · have := hst j (by omega)
            simp [si, us, hj2, this]
        · simp [si]
        · exact (((Fr.rfl' _ _).to rfl |>.to rfl |>.to rfl |>.to rfl))
      · have hh2 : h = 0 + 1 := by rw [hh, q1]; rfl
        subst hh2
        have h0 := hst 0 (by omega)
        refine Go.mem (mem0 (0 + 1) h2) (run_not (h := 0) ht hbk hv (by omega) (hW (0 + 1)) (w_kind hwb hk) ?_)
        rw [nI_1]
        refine next (k + 1) (0 + 1) (us s 0 (1 - s 0)) _ ?_ (by omega) (by omega) ?_ (fun q => ?_) (fun j hj => ?_) si_at ?_ ?_
        · simp [evF, hend, hk]
        · rw [q2]; rfl
        · rw [us_at]
          rcases hbool q1 with e | e <;> rw [e]
          · exact Or.inr rfl
          · exact Or.inl rfl
        · have hj2 : j = 0 := by omega
          subst hj2
          simp [si, us, h0]
        · simp [si]
        · exact (((Fr.rfl' _ _).to rfl |>.to rfl |>.to rfl |>.to rfl |>.to rfl))
      · have hh2 : h = 0 + 1 := by rw [hh, q1]; rfl
        subst hh2
        have h0 := hst 0 (by omega)
        have ej : (if nI k < ((nI (w k) >>> ((4 : Int32) &&& 31)) - (1 : Int32)) then ((nI (w k) >>> ((4 : Int32) &&& 31)) - (1 : Int32)) else nI k) + 1 = nI (w k / 16) := by
          rw [w_arg hwb, show (1 : Int32) = nI 1 from rfl, pk_sub (by omega)]
          by_cases hc : k < w k / 16 - 1
          · rw [if_pos (nI_lt hc (by omega)), nI_add]
            congr 1; omega
          · rw [if_neg (nI_nlt (by omega) (by omega)), nI_add]
            congr 1; omega
        have jmp : evF w F b (f + 1) k (0 + 1) s = evF w F b f (w k / 16) (0 + 1) s → Go none aM (Ev mt aM (d + 2)) mX4_run Q (13, [some (.ref 10), some (.ref t), none, some (.int (nI b)), some (.int ((if nI k < ((nI (w k) >>> ((4 : Int32) &&& 31)) - (1 : Int32)) then ((nI (w k) >>> ((4 : Int32) &&& 31)) - (1 : Int32)) else nI k) + 1)), none, none, none, none], [], (SH, mkM (si (si (si (si (si I 10 3 (0 : Int32)) 10 2 (nI (0 + 1))) 10 2 (nI 0)) 12 0 (I 12 0)) 10 2 (nI (0 + 1))) J T), 0, 0) := by
          intro e
          rw [ej]
          refine next (w k / 16) (0 + 1) s _ e q3 q4 ?_ (fun _ => hbool q1) (fun j hj => ?_) si_at ?_ ?_
          · rw [q5]; rfl
          · have hj2 : j = 0 := by omega
            subst hj2
            simp [si, h0]
          · simp [si]
          · exact (((Fr.rfl' _ _).to rfl |>.to rfl |>.to rfl |>.to rfl |>.to rfl))
        have go1 : evF w F b (f + 1) k (0 + 1) s = evF w F b f (k + 1) 0 s → Go none aM (Ev mt aM (d + 2)) mX4_run Q (13, [some (.ref 10), some (.ref t), none, some (.int (nI b)), some (.int (nI k + 1)), none, none, none, none], [], (SH, mkM (si (si (si I 10 3 (0 : Int32)) 10 2 (nI (0 + 1))) 10 2 (nI 0)) J T), 0, 0) := by
          intro e
          rw [nI_1]
          refine next (k + 1) 0 s _ e (by omega) (by omega) ?_ (fun q => by omega) (fun j hj => by omega) si_at ?_ ?_
          · rw [q2]; rfl
          · simp [si]
          · exact (((Fr.rfl' _ _).to rfl |>.to rfl |>.to rfl))
        rcases hk with hk | hk
        · refine Go.mem (mem0 (0 + 1) h2) (run_and (h := 0) ht hbk hv (by omega) (hW (0 + 1)) (w_kind hwb hk) ⟨fun c => ?_, fun c => ?_⟩)
          · refine jmp ?_
            rw [h0] at c
            simp [evF, hend, hk, c]
          · refine go1 ?_
            rw [h0] at c
            simp [evF, hend, hk, c]
        · refine Go.mem (mem0 (0 + 1) h2) (run_or (h := 0) ht hbk hv (by omega) (hW (0 + 1)) (w_kind hwb hk) ⟨fun c => ?_, fun c => ?_⟩)
          · refine go1 ?_
            rw [h0] at c
            simp [evF, hend, hk, c]
          · refine jmp ?_
            rw [h0] at c
            have c1 : s 0 = 1 := (hbool q1).resolve_left c
            simp [evF, hend, hk, c1]
      all_goals
        obtain ⟨hh2, h', hh3, hlt2⟩ : h = hg (τ k) ∧ ∃ h', h = h' + 1 + 1 ∧ h' + 1 < 40 := by
          refine ⟨hh, ?_⟩
          rcases Nat.lt_or_ge 49 (τ k) with q | q
          · omega
          · have : h = τ k := by rw [hh]; exact if_neg (by omega)
            exact ⟨τ k - 2, by omega, by omega⟩
        have hkk : h' + 2 = τ k := by
          have : hg (τ k) = τ k := if_neg (by omega)
          omega
        subst hh3
        have hr := hst (h' + 1) (by omega)
        have hl := hst h' (by omega)
        have k2 : 2 ≤ w k % 16 ∧ w k % 16 ≤ 9 := by omega
        have hne : ∀ j : Nat, j < 16 → j ≠ w k % 16 → ¬ (nI (w k)) &&& (15 : Int32) = nI j := fun j hj hn e => by
          rw [w_kind hwb rfl] at e
          exact hn ((nI_eq (by omega) (by omega)).mp e).symm
        by_cases hz : (w k % 16 = 5 ∨ w k % 16 = 6) ∧ I 12 (h' + 1) = 0
        · refine Go.mem (mem0 (h' + 1 + 1) h2) (run_binz (kk := w k % 16) ht hbk hv (by omega) (hW _) (hne 0 (by omega) (by omega)) (hne 1 (by omega) (by omega)) (hne 10 (by omega) (by omega)) (hne 11 (by omega) (by omega)) (hne 12 (by omega) (by omega)) (by omega) k2 (w_kind hwb rfl) hz.1 hz.2 ?_)
          have e0 : evF w F b (f + 1) k (h' + 1 + 1) s = 0 := by
            have z : s (h' + 1) = 0 := by rw [← hr]; exact hz.2
            rcases hz.1 with z1 | z1 <;> simp [evF, hend, z1, z]
          rw [e0] at hQ
          exact hQ _ (((Fr.rfl' _ _).to rfl |>.to rfl |>.to rfl |>.to rfl |>.to rfl |>.to rfl |>.to rfl))
        · refine Go.mem (mem0 (h' + 1 + 1) h2) (run_bin (kk := w k % 16) ht hbk hv (by omega) (hW _) (hne 0 (by omega) (by omega)) (hne 1 (by omega) (by omega)) (hne 10 (by omega) (by omega)) (hne 11 (by omega) (by omega)) (hne 12 (by omega) (by omega)) (by omega) k2 (w_kind hwb rfl) hz ?_)
          rw [nI_1, hl, hr]
          rw [hr] at hz
          have hz' : ¬ ((w k % 16 = 5 ∨ w k % 16 = 6) ∧ s (h' + 1) = 0) := hz
          refine next (k + 1) (h' + 1) (us s h' (opF (w k % 16) (s h') (s (h' + 1)))) _ ?_ (by omega) (by omega) ?_ (fun q => ?_) (fun j hj => ?_) si_at ?_ ?_
          · have b0 : ¬ w k % 16 = 0 := by omega
            have b1 : ¬ w k % 16 = 1 := by omega
            have b2 : ¬ w k % 16 = 10 := by omega
            have b3 : ¬ w k % 16 = 11 := by omega
            have b4 : ¬ w k % 16 = 12 := by omega
            show (if b ≤ k then _ else _) = _
            rw [if_neg hend, if_neg b0, if_neg b1, if_neg b2, if_neg b3, if_neg b4]
            exact if_neg hz'
          · first
              | (rw [q3, ← hkk]; exact (if_neg (by omega)).symm)
              | (rw [q2, show h' = 0 by omega]; rfl)
          · first
              | (exfalso; omega)
              | (rw [show h' = 0 by omega, us_at]; exact opF_bool hk _ _)
          · by_cases hj2 : j = h'
            · subst hj2; simp [si, us]
            · have := hst j (by omega)
              simp [si, us, hj2, this]
          · simp [si]
          · exact (((Fr.rfl' _ _).to rfl |>.to rfl |>.to rfl |>.to rfl |>.to rfl |>.to rfl))
/-- what the reference's loop over a text's code comes to -/
theorem com_loop {d B b a : Nat} {w : Nat → Nat} {F : Nat → Int32} {τ : Nat → Nat} {J : Nat → Nat → Int64} {T : Nat → Nat → Nat} {Q : Option Value → Mem → Prop} (hB : B ≤ 1540) (hb : b ≤ 200) (hck : ∀ j, a ≤ j → j < b → CK w τ b j) (hτ : τ b = 1 ∨ τ b = 50) : ∀ (f k h : Nat) (s : Nat → Int32) (I : Nat → Nat → Int32), b - k < f → a ≤ k → k ≤ b → h = hg (τ k) → (τ k = 50 → s 0 = 0 ∨ s 0 = 1) → (∀ j, j < h → I 103 j = s j) → (∀ j, j < b → I 97 (B + j) = nI (1048576 * (w j % 16) + w j / 16)) → (∀ j, j < 16 → I 104 j = F j) → (∀ I', Fr [103] I I' → Q (some (.int (evF w F b f k h s))) (SH, mkM I' J T)) → Go none aM (Ev mt aM (d + 2)) mX12_comesTo Q (16, [some (.ref 83), none, some (.int (nI (B + b))), some (.int (nI h)), some (.int (nI B)), some (.int (nI (B + k))), none, none], [], (SH, mkM I J T), 0, 0) := by
  intro f
  induction f with
  | zero => intro k h s I hf; omega
  | succ f ih =>
    intro k h s I hf hak hkb hh hbool hst hw hF hQ
    by_cases hend : b ≤ k
    · have hk : k = b := by omega
      subst hk
      have h1 : h = 1 := by rcases hτ with q | q <;> (rw [hh, q]; rfl)
      subst h1
      have e0 : evF w F k (f + 1) k 1 s = s 0 := if_pos (Nat.le_refl k)
      rw [e0] at hQ
      refine com_end (nI_le (Nat.le_refl _) (by omega)) ?_
      rw [hst 0 (by omega)]
      exact hQ _ (Fr.rfl' _ _)
    · have hlt : k < b := by omega
      obtain ⟨hwb, hcase⟩ := hck k hak hlt
      have hbk : ¬ nI (B + b) ≤ nI (B + k) := nI_ge (by omega) (by omega)
      have hv : vp_in (nI (B + k)) 1760 := vp_in_nI (by omega) (by omega)
      have hcl : (nI (B + k)).toNatClampNeg = B + k := nI_clamp (by omega)
      have hW := hw k hlt
      have hq : (I 97 (nI (B + k)).toNatClampNeg) / (1048576 : Int32) = nI (w k % 16) := by
        rw [hcl, hW, show (1048576 : Int32) = nI 1048576 from rfl, pk_div (by omega) (by omega) (by omega)]
        congr 1; omega
      have hr : (I 97 (nI (B + k)).toNatClampNeg) - (I 97 (nI (B + k)).toNatClampNeg) / (1048576 : Int32) * (1048576 : Int32) = nI (w k / 16) := by
        rw [hcl, hW, show (1048576 : Int32) = nI 1048576 from rfl, pk_rem (by omega) (by omega) (by omega)]
        congr 1; omega
      have ek : nI (B + k) + (1 : Int32) = nI (B + (k + 1)) := nI_1 _
      have next : ∀ (k' h' : Nat) (s' : Nat → Int32) (M : Nat → Nat → Int32), evF w F b (f + 1) k h s = evF w F b f k' h' s' → k < k' → k' ≤ b → h' = hg (τ k') → (τ k' = 50 → s' 0 = 0 ∨ s' 0 = 1) → (∀ j, j < h' → M 103 j = s' j) → Fr [103] I M → Go none aM (Ev mt aM (d + 2)) mX12_comesTo Q (16, [some (.ref 83), none, some (.int (nI (B + b))), some (.int (nI h')), some (.int (nI B)), some (.int (nI (B + k'))), none, none], [], (SH, mkM M J T), 0, 0) := by
        intro k' h' s' M e hk1 hk2 hh' hb' hs' hfr
        refine ih k' h' s' M (by omega) (by omega) hk2 hh' hb' hs' (fun j hj => ?_) (fun j hj => ?_) (fun I' hI' => ?_)
        · rw [hfr 97 rfl]
          exact hw j hj
        · rw [hfr 104 rfl]
          exact hF j hj
        · rw [← e]
          exact hQ I' (hfr.trans hI')
      rcases hcase with ⟨hk, q1, q2⟩ | ⟨hk, q1, q2, q3⟩ | ⟨hk, q1, q2⟩ | ⟨hk, q1, q2, q3, q4, q5⟩ | ⟨hk, q1, q2, q3⟩ | ⟨hk, q1, q2⟩
      · have hh2 : h = τ k := by rw [hh]; exact if_neg (by omega)
        refine com_num hbk hv (by rw [hq, hk]; rfl) ⟨vp_in_nI (by omega) (by omega), ?_⟩
        rw [hr, ek, show nI h + (1 : Int32) = nI (h + 1) from nI_1 _, nI_clamp (show h < 2 ^ 31 by omega)]
        refine next (k + 1) (h + 1) (us s h (nI (w k / 16))) _ ?_ (by omega) (by omega) ?_ (fun q => by omega) (fun j hj => ?_) ((Fr.rfl' _ _).to rfl)
        · simp [evF, hend, hk]
        · rw [q2, ← hh2]; exact (if_neg (by omega)).symm
        · by_cases hj2 : j = h
          · subst hj2; simp [si, us]
          · have := hst j (by omega)
            simp [si, us, hj2, this]
      · have hh2 : h = τ k := by rw [hh]; exact if_neg (by omega)
        refine com_let hbk hv (by rw [hq, hk]; rfl) ⟨?_, vp_in_nI (by omega) (by omega), ?_⟩
        · rw [hr]; exact vp_in_nI q3 (by omega)
        rw [hr, ek, show nI h + (1 : Int32) = nI (h + 1) from nI_1 _, nI_clamp (show h < 2 ^ 31 by omega), nI_clamp (show w k / 16 < 2 ^ 31 by omega), hF _ q3]
        refine next (k + 1) (h + 1) (us s h (F (w k / 16))) _ ?_ (by omega) (by omega) ?_ (fun q => by omega) (fun j hj => ?_) ((Fr.rfl' _ _).to rfl)
        · simp [evF, hend, hk]
        · rw [q2, ← hh2]; exact (if_neg (by omega)).symm
        · by_cases hj2 : j = h
          · subst hj2; simp [si, us]
          · have := hst j (by omega)
            simp [si, us, hj2, this]
      · have hh2 : h = 0 + 1 := by rw [hh, q1]; rfl
        subst hh2
        have h0 := hst 0 (by omega)
        have e1 : nI (0 + 1) - (1 : Int32) = nI 0 := rfl
        have e2 : (nI 0).toNatClampNeg = 0 := rfl
        refine com_not hbk hv (by rw [hq, hk]; rfl) ⟨by rw [e1]; exact vp_in_nI (by omega) (by omega), by rw [e1]; exact vp_in_nI (by omega) (by omega), ?_⟩
        rw [ek, e1, e2, h0]
        refine next (k + 1) (0 + 1) (us s 0 (1 - s 0)) _ ?_ (by omega) (by omega) ?_ (fun q => ?_) (fun j hj => ?_) ((Fr.rfl' _ _).to rfl)
        · simp [evF, hend, hk]
        · rw [q2]; rfl
        · rw [us_at]
          rcases hbool q1 with e | e <;> rw [e]
          · exact Or.inr rfl
          · exact Or.inl rfl
        · have hj2 : j = 0 := by omega
          subst hj2
          simp [si, us]
      · have hh2 : h = 0 + 1 := by rw [hh, q1]; rfl
        subst hh2
        have h0 := hst 0 (by omega)
        have e1 : nI (0 + 1) - (1 : Int32) = nI 0 := rfl
        have e2 : (nI 0).toNatClampNeg = 0 := rfl
        have ej : nI B + nI (w k / 16) = nI (B + w k / 16) := nI_add _ _
        have jmp : evF w F b (f + 1) k (0 + 1) s = evF w F b f (w k / 16) (0 + 1) s → Go none aM (Ev mt aM (d + 2)) mX12_comesTo Q (16, [some (.ref 83), none, some (.int (nI (B + b))), some (.int (nI (0 + 1))), some (.int (nI B)), some (.int (nI (B + w k / 16))), none, none], [], (SH, mkM I J T), 0, 0) := by
          intro e
          refine next (w k / 16) (0 + 1) s _ e q3 q4 ?_ (fun _ => hbool q1) (fun j hj => hst j hj) (Fr.rfl' _ _)
          rw [q5]; rfl
        have go1 : evF w F b (f + 1) k (0 + 1) s = evF w F b f (k + 1) 0 s → Go none aM (Ev mt aM (d + 2)) mX12_comesTo Q (16, [some (.ref 83), none, some (.int (nI (B + b))), some (.int (nI 0)), some (.int (nI B)), some (.int (nI (B + (k + 1)))), none, none], [], (SH, mkM I J T), 0, 0) := by
          intro e
          refine next (k + 1) 0 s _ e (by omega) (by omega) ?_ (fun q => by omega) (fun j hj => by omega) (Fr.rfl' _ _)
          rw [q2]; rfl
        rcases hk with hk | hk
        · refine com_and hbk hv (by rw [hq, hk]; rfl) ⟨by rw [e1]; exact vp_in_nI (by omega) (by omega), fun c => ?_, fun c => ?_⟩
          · rw [hr, ej]
            rw [e1, e2, h0] at c
            refine jmp ?_
            simp [evF, hend, hk, c]
          · rw [ek, e1]
            rw [e1, e2, h0] at c
            refine go1 ?_
            simp [evF, hend, hk, c]
        · refine com_or hbk hv (by rw [hq, hk]; rfl) ⟨by rw [e1]; exact vp_in_nI (by omega) (by omega), fun c => ?_, fun c => ?_⟩
          · rw [hr, ej]
            rw [e1, e2, h0] at c
            refine jmp ?_
            simp [evF, hend, hk, c]
          · rw [ek, e1]
            rw [e1, e2, h0] at c
            refine go1 ?_
            simp [evF, hend, hk, c]
      all_goals
        obtain ⟨hh2, h', hh3, hlt2⟩ : h = hg (τ k) ∧ ∃ h', h = h' + 1 + 1 ∧ h' + 1 < 40 := by
          refine ⟨hh, ?_⟩
          rcases Nat.lt_or_ge 49 (τ k) with q | q
          · omega
          · have : h = τ k := by rw [hh]; exact if_neg (by omega)
            exact ⟨τ k - 2, by omega, by omega⟩
        have hkk : h' + 2 = τ k := by
          have : hg (τ k) = τ k := if_neg (by omega)
          omega
        subst hh3
        have hr2 := hst (h' + 1) (by omega)
        have hl := hst h' (by omega)
        have k2 : 2 ≤ w k % 16 ∧ w k % 16 ≤ 9 := by omega
        have e1 : nI (h' + 1 + 1) - (1 : Int32) = nI (h' + 1) := nI_pred _
        have e2 : nI (h' + 1) - (1 : Int32) = nI h' := nI_pred _
        have e3 : (nI (h' + 1)).toNatClampNeg = h' + 1 := nI_clamp (by omega)
        have e4 : (nI h').toNatClampNeg = h' := nI_clamp (by omega)
        have v1 : vp_in (nI (h' + 1 + 1) - (1 : Int32)) 220 := by rw [e1]; exact vp_in_nI (by omega) (by omega)
        have v2 : vp_in (nI (h' + 1 + 1) - (1 : Int32) - (1 : Int32)) 220 := by rw [e1, e2]; exact vp_in_nI (by omega) (by omega)
        have hne : ∀ j : Nat, j < 16 → j ≠ w k % 16 → ¬ (I 97 (nI (B + k)).toNatClampNeg) / (1048576 : Int32) = nI j := fun j hj hn e => by
          rw [hq] at e
          exact hn ((nI_eq (by omega) (by omega)).mp e).symm
        have zero : (w k % 16 = 5 ∨ w k % 16 = 6) → I 103 (nI (h' + 1 + 1) - (1 : Int32)).toNatClampNeg = 0 → Q (some (.int (0 : Int32))) (SH, mkM I J T) := by
          intro z1 z2
          rw [e1, e3, hr2] at z2
          have e0 : evF w F b (f + 1) k (h' + 1 + 1) s = 0 := by
            rcases z1 with z1 | z1 <;> simp [evF, hend, z1, z2]
          rw [e0] at hQ
          exact hQ _ (Fr.rfl' _ _)
        have step : ¬ ((w k % 16 = 5 ∨ w k % 16 = 6) ∧ I 103 (nI (h' + 1 + 1) - (1 : Int32)).toNatClampNeg = 0) → Go none aM (Ev mt aM (d + 2)) mX12_comesTo Q (16, [some (.ref 83), none, some (.int (nI (B + b))), some (.int (nI (h' + 1 + 1) - (1 : Int32))), some (.int (nI B)), some (.int (nI (B + k) + (1 : Int32))), none, none], [], (SH, mkM (si I 103 (nI (h' + 1 + 1) - (1 : Int32) - (1 : Int32)).toNatClampNeg (opF (w k % 16) (I 103 (nI (h' + 1 + 1) - (1 : Int32) - (1 : Int32)).toNatClampNeg) (I 103 (nI (h' + 1 + 1) - (1 : Int32)).toNatClampNeg))) J T), 0, 0) := by
          intro hz
          rw [e1, e3, hr2] at hz
          rw [ek, e1, e2, e3, e4, hl, hr2]
          have hz' : ¬ ((w k % 16 = 5 ∨ w k % 16 = 6) ∧ s (h' + 1) = 0) := hz
          refine next (k + 1) (h' + 1) (us s h' (opF (w k % 16) (s h') (s (h' + 1)))) _ ?_ (by omega) (by omega) ?_ (fun q => ?_) (fun j hj => ?_) ((Fr.rfl' _ _).to rfl)
          · have b0 : ¬ w k % 16 = 0 := by omega
            have b1 : ¬ w k % 16 = 1 := by omega
            have b2 : ¬ w k % 16 = 10 := by omega
            have b3 : ¬ w k % 16 = 11 := by omega
            have b4 : ¬ w k % 16 = 12 := by omega
            show (if b ≤ k then _ else _) = _
            rw [if_neg hend, if_neg b0, if_neg b1, if_neg b2, if_neg b3, if_neg b4]
            exact if_neg hz'
          · first
              | (rw [q3, ← hkk]; exact (if_neg (by omega)).symm)
              | (rw [q2, show h' = 0 by omega]; rfl)
          · first
              | (exfalso; omega)
              | (rw [show h' = 0 by omega, us_at]; exact opF_bool hk _ _)
          · by_cases hj2 : j = h'
            · subst hj2; simp [si, us]
            · have := hst j (by omega)
              simp [si, us, hj2, this]
        by_cases c5 : w k % 16 = 5
        · refine com_div (kk := w k % 16) hbk hv (by rw [hq, c5]; rfl) k2 hq ⟨v1, zero (Or.inl c5), fun c => ⟨v2, v1, ?_, v2, ?_⟩⟩
          · exact fun q => c q.2
          · exact step (fun q => c q.2)
        · by_cases c6 : w k % 16 = 6
          · refine com_rem (kk := w k % 16) hbk hv (by rw [hq, c6]; rfl) k2 hq ⟨v1, zero (Or.inr c6), fun c => ⟨v2, v1, ?_, v2, ?_⟩⟩
            · exact fun q => c q.2
            · exact step (fun q => c q.2)
          · have hn : ¬ ((w k % 16 = 5 ∨ w k % 16 = 6) ∧ I 103 (nI (h' + 1 + 1) - (1 : Int32)).toNatClampNeg = 0) := fun q => by omega
            exact com_bin (kk := w k % 16) hbk hv (hne 0 (by omega) (by omega)) (hne 1 (by omega) (by omega)) (hne 10 (by omega) (by omega)) (hne 11 (by omega) (by omega)) (hne 12 (by omega) (by omega)) (hne 5 (by omega) (by omega)) (hne 6 (by omega) (by omega)) k2 hq ⟨v2, v1, hn, v2, step hn⟩
