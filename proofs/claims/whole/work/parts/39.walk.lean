/-! BEST in the class: tuned, by OTHERS, C, M and THE PACE; BY A RULE in the class. -/
def kyN (oth all once pace : Nat) : Nat := oth + 3 * (all + 4 * (once - 1 + 2 * pace))
theorem ky_lt {oth all once pace : Nat} (h1 : oth < 3) (h2 : all ≤ 3) (h3 : 1 ≤ once ∧ once ≤ 2) (h4 : pace ≤ 1) : kyN oth all once pace < 48 := by
  unfold kyN
  omega
theorem ky_inj {a b c e a' b' c' e' : Nat} (h1 : a < 3) (h2 : b ≤ 3) (h3 : 1 ≤ c ∧ c ≤ 2) (h1' : a' < 3) (h2' : b' ≤ 3) (h3' : 1 ≤ c' ∧ c' ≤ 2) (h : kyN a b c e = kyN a' b' c' e') : a = a' ∧ b = b' ∧ c = c' ∧ e = e' := by
  unfold kyN at h
  omega
theorem ky_c {oth all once pace : Nat} (h3 : 1 ≤ once) : v_X0_keyOf (nI oth) (nI all) (nI once) (nI pace) = nI (kyN oth all once pace) := by
  unfold v_X0_keyOf kyN
  rw [show (1 : Int32) = nI 1 from rfl, pk_sub h3, show (2 : Int32) = nI 2 from rfl, pk_mul, nI_add, show (4 : Int32) = nI 4 from rfl, pk_mul, nI_add, show (3 : Int32) = nI 3 from rfl, pk_mul, nI_add]
def TN (oth all once pace : Nat) : Prop := oth < 3 ∧ all ≤ 3 ∧ (1 ≤ once ∧ once ≤ 2) ∧ pace ≤ 1
def FO (A : Tm) (J : Nat → Nat → Int64) : Prop := ∀ oth all once pace, TN oth all once pace → J 72 (kyN oth all once pace) = 0 ∨ J 72 (kyN oth all once pace) = lN (bV A oth all once pace (qN A) 2 1536 + 1)
def TU (A : Tm) (oth all once pace : Nat) (I : Nat → Nat → Int32) (J : Nat → Nat → Int64) : Prop := I 69 5 = nI (kyN oth all once pace) ∧ FB oth all once pace I ∧ MMO A oth all once pace J
def IB (A : Tm) (I : Nat → Nat → Int32) (J : Nat → Nat → Int64) : Prop := RK I ∧ FO A J ∧ (I 69 5 = -1 ∨ ∃ oth all once pace, TN oth all once pace ∧ TU A oth all once pace I J)
theorem RK.fr {l : List Nat} {I I' : Nat → Nat → Int32} (hl : l.elem 70 = false) (hf : Fr l I I') (h : RK I) : RK I' := by
  unfold RK
  rw [hf _ hl]
  exact h
theorem FO.fr {l : List Nat} {A : Tm} {J J' : Nat → Nat → Int64} (hl : l.elem 72 = false) (hf : Fj l J J') (h : FO A J) : FO A J' := by
  unfold FO
  rw [hf _ hl]
  exact h
theorem MMO.fr {l : List Nat} {A : Tm} {oth all once pace : Nat} {J J' : Nat → Nat → Int64} (hl : l.elem 71 = false) (hf : Fj l J J') (h : MMO A oth all once pace J) : MMO A oth all once pace J' := by
  unfold MMO
  rw [hf _ hl]
  exact h
theorem FB.fr {l : List Nat} {oth all once pace : Nat} {I I' : Nat → Nat → Int32} (hl : l.elem 69 = false) (hf : Fr l I I') (h : FB oth all once pace I) : FB oth all once pace I' := by
  unfold FB
  rw [hf _ hl]
  exact h
theorem IB.fr {l lj : List Nat} {A : Tm} {I I' : Nat → Nat → Int32} {J J' : Nat → Nat → Int64} (hl : (l.elem 69 || l.elem 70) = false) (hlj : (lj.elem 71 || lj.elem 72) = false) (hf : Fr l I I') (hj : Fj lj J J') (h : IB A I J) : IB A I' J' := by
  simp only [Bool.or_eq_false_iff] at hl hlj
  obtain ⟨h1, h2, h3⟩ := h
  refine ⟨h1.fr hl.2 hf, h2.fr hlj.2 hj, ?_⟩
  rw [hf _ hl.1]
  rcases h3 with h3 | ⟨oth, all, once, pace, k1, k2, k3, k4⟩
  · exact Or.inl h3
  · refine Or.inr ⟨oth, all, once, pace, k1, ?_, k3.fr hl.1 hf, k4.fr hlj.1 hj⟩
    rw [hf _ hl.1]
    exact k2
theorem TU.ib {A : Tm} {oth all once pace : Nat} {I : Nat → Nat → Int32} {J : Nat → Nat → Int64} (hK : RK I) (hO : FO A J) (h0 : TN oth all once pace) (h : TU A oth all once pace I J) : IB A I J := ⟨hK, hO, Or.inr ⟨oth, all, once, pace, h0, h⟩⟩
theorem TU.mv {A : Tm} {oth all once pace : Nat} {I I' : Nat → Nat → Int32} {J J' : Nat → Nat → Int64} (h : TU A oth all once pace I J) (hf : Fr [10, 11, 12] I I') (hm : MMO A oth all once pace J') : TU A oth all once pace I' J' := by
  refine ⟨?_, h.2.1.fr rfl hf, hm⟩
  rw [hf 69 rfl]
  exact h.1
set_option maxRecDepth 20000 in
theorem aga_0 {d : Nat} {oth : Int32} {I : Nat → Nat → Int32} {J : Nat → Nat → Int64} {T : Nat → Nat → Nat} {Q : Option Value → Mem → Prop} (hyp : Ev mt aM (d + 4) 4 [.ref 69, .int oth, .int (I 1 1), .int (I 1 2), .int (0 : Int32)] (SH, mkM I J T) (fun r m1 => Go none aM (Ev mt aM (d + 4)) mX0_against Q (20, [some (.ref 69), some (.int oth)], r.toList ++ [], m1, 0, 0))) : Go none aM (Ev mt aM (d + 4)) mX0_against Q (0, [some (.ref 69), some (.int oth)], [], (SH, mkM I J T), 0, 0) := by
  refine Go.of_run (Ev.mono _) 10 _ ?_
  refine ⟨Nat.le_of_ble_eq_true rfl, hyp⟩
set_option maxRecDepth 20000 in
theorem aga_9 {d : Nat} {oth : Int32} {I : Nat → Nat → Int32} {J : Nat → Nat → Int64} {T : Nat → Nat → Nat} {Q : Option Value → Mem → Prop} (hyp : Q none (SH, mkM I J T)) : Go none aM (Ev mt aM (d + 4)) mX0_against Q (20, [some (.ref 69), some (.int oth)], [], (SH, mkM I J T), 0, 0) := by
  refine Go.of_run (Ev.mono _) 1 _ ?_
  refine ⟨trivial, ?_⟩
  show Q none (SH, mkM I J T)
  exact hyp
set_option maxRecDepth 20000 in
theorem ev_X5_putLong_74 {d : Nat} {a1 : Int32} {a2 : Int64} {I : Nat → Nat → Int32} {J : Nat → Nat → Int64} {T : Nat → Nat → Nat} {Q : Option Value → Mem → Prop} (h1 : vp_in a1 3) (h : Q none (SH, mkM I (sj J 74 a1.toNatClampNeg a2) T)) : Ev mt aM (d + 1) 58 [.ref 74, .int a1, .long a2] (SH, mkM I J T) Q := by
  refine Ev.intro mX5_putLong rfl rfl ?_
  show Go none aM (Ev mt aM d) mX5_putLong Q (0, [some (.ref 74), some (.int a1), some (.long a2), none], [], (SH, mkM I J T), 0, 0)
  refine Go.of_run (Ev.mono _) 4 _ ?_
  show Go none aM (Ev mt aM d) mX5_putLong Q (if a1 < 0 then 18 else 8, [some (.ref 74), some (.int a1), some (.long a2), none], [], (SH, mkM I J T), 0, 0)
  rw [if_neg (vin_lo h1)]
  refine Go.of_run (Ev.mono _) 4 _ ?_
  show Go none aM (Ev mt aM d) mX5_putLong Q (if (3 : Int32) ≤ a1 then 18 else 14, [some (.ref 74), some (.int a1), some (.long a2), none], [], (SH, mkM I J T), 0, 0)
  rw [if_neg (vin_hi h1 rfl)]
  refine Go.of_run (Ev.mono _) 4 _ ?_
  refine ⟨h1, ?_⟩
  refine go_sj rfl ?_
  show Go none aM (Ev mt aM d) mX5_putLong Q (18, [some (.ref 74), some (.int a1), some (.long a2), none], [], (SH, mkM I (sj J 74 a1.toNatClampNeg a2) T), 0, 0)
  refine Go.of_run (Ev.mono _) 1 _ ?_
  refine ⟨trivial, ?_⟩
  show Q none (SH, mkM I (sj J 74 a1.toNatClampNeg a2) T)
  exact h
def w1_go_0 (sc : Int32) : Int32 := if sc ≤ 0 then (if sc = 0 then (1 : Int32) else (2 : Int32)) else (0 : Int32)
set_option maxRecDepth 20000 in
theorem go_0 {d : Nat} {k oth per sc c : Int32} {w : Int64} {I : Nat → Nat → Int32} {J : Nat → Nat → Int64} {T : Nat → Nat → Nat} {Q : Option Value → Mem → Prop} (hyp : ((per < I 1 0 → Ev mt aM (d + 4) 27 [.ref 9, .int oth, .int per, .int sc] (SH, mkM I J T) (fun r m1 => Go none aM (Ev mt aM (d + 4)) mX10_go Q (62, [some (.ref 73), some (.int k), some (.int oth), some (.int per), some (.int sc), some (.int c), some (.long w), none, none, none, none, none, none, none, none], r.toList ++ [], m1, 0, 0))) ∧ ((¬ (per < I 1 0)) → (vp_in (w1_go_0 sc) 3 ∧ (vp_in (w1_go_0 sc) 3 ∧ Q none (SH, mkM I (sj J 74 ((w1_go_0 sc).toNatClampNeg) ((v_X10_likely (w1_go_0 sc) J) + w)) T)))))) : Go none aM (Ev mt aM (d + 4)) mX10_go Q (0, [some (.ref 73), some (.int k), some (.int oth), some (.int per), some (.int sc), some (.int c), some (.long w), none, none, none, none, none, none, none, none], [], (SH, mkM I J T), 0, 0) := by
  refine Go.of_run (Ev.mono _) 5 _ ?_
  show Go none aM (Ev mt aM (d + 4)) mX10_go Q (if per < I 1 0 then 51 else 11, [some (.ref 73), some (.int k), some (.int oth), some (.int per), some (.int sc), some (.int c), some (.long w), none, none, none, none, none, none, none, none], [], (SH, mkM I J T), 0, 0)
  rcases Decidable.em (per < I 1 0) with c1 | c1
  · rw [if_pos c1]
    refine Go.of_run (Ev.mono _) 6 _ ?_
    refine ⟨Nat.le_of_ble_eq_true rfl, (hyp.1 c1)⟩
  · rw [if_neg c1]
    refine Go.of_run (Ev.mono _) 2 _ ?_
    show Go none aM (Ev mt aM (d + 4)) mX10_go Q (if sc ≤ 0 then 20 else 16, [some (.ref 73), some (.int k), some (.int oth), some (.int per), some (.int sc), some (.int c), some (.long w), none, none, none, none, none, none, none, none], [], (SH, mkM I J T), 0, 0)
    have G3 : Go none aM (Ev mt aM (d + 4)) mX10_go Q (30, [some (.ref 73), none, none, none, none, none, some (.long w), none, none, none, none, none, none, none, none], [.int (w1_go_0 sc)], (SH, mkM I J T), 0, 0) := by
      refine Go.of_run (Ev.mono _) 7 _ ?_
      refine ⟨Nat.le_of_ble_eq_true rfl, ev_X10_likely (hyp.2 c1).1 ?_⟩
      show Go none aM (Ev mt aM (d + 4)) mX10_go Q (44, [some (.ref 73), none, none, none, none, none, some (.long w), none, some (.int (w1_go_0 sc)), none, none, none, none, none, none], [.long (v_X10_likely (w1_go_0 sc) J), .int (w1_go_0 sc), .ref 74], (SH, mkM I J T), 0, 0)
      refine Go.of_run (Ev.mono _) 3 _ ?_
      refine ⟨Nat.le_of_ble_eq_true rfl, ev_X5_putLong_74 (hyp.2 c1).2.1 ?_⟩
      show Go none aM (Ev mt aM (d + 4)) mX10_go Q (50, [some (.ref 73), none, none, none, none, none, some (.long w), none, some (.int (w1_go_0 sc)), none, none, none, none, none, none], [], (SH, mkM I (sj J 74 ((w1_go_0 sc).toNatClampNeg) ((v_X10_likely (w1_go_0 sc) J) + w)) T), 0, 0)
      refine Go.of_run (Ev.mono _) 1 _ ?_
      refine ⟨trivial, ?_⟩
      show Q none (SH, mkM I (sj J 74 ((w1_go_0 sc).toNatClampNeg) ((v_X10_likely (w1_go_0 sc) J) + w)) T)
      exact (hyp.2 c1).2.2
    rcases Decidable.em (sc ≤ 0) with c2 | c2
    · rw [if_pos c2]
      refine Go.of_run (Ev.mono _) 2 _ ?_
      show Go none aM (Ev mt aM (d + 4)) mX10_go Q (if sc = 0 then 25 else 29, [some (.ref 73), some (.int k), some (.int oth), some (.int per), some (.int sc), some (.int c), some (.long w), none, none, none, none, none, none, none, none], [], (SH, mkM I J T), 0, 0)
      have G5 : Go none aM (Ev mt aM (d + 4)) mX10_go Q (30, [some (.ref 73), none, none, none, none, none, some (.long w), none, none, none, none, none, none, none, none], [.int (if sc = 0 then (1 : Int32) else (2 : Int32))], (SH, mkM I J T), 0, 0) := by
        have e6 : (w1_go_0 sc) = if sc = 0 then (1 : Int32) else (2 : Int32) := if_pos c2
        rw [e6] at G3
        exact G3
      rcases Decidable.em (sc = 0) with c4 | c4
      · rw [if_pos c4]
        refine Go.of_run (Ev.mono _) 2 _ ?_
        have e7 : (if sc = 0 then (1 : Int32) else (2 : Int32)) = (1 : Int32) := if_pos c4
        rw [e7] at G5
        exact Go.weak (Ev.mono _) (LLe.cons (LLe.drop (LLe.drop (LLe.drop (LLe.drop (LLe.drop (LLe.cons (LLe.cons (LLe.cons (LLe.cons (LLe.cons (LLe.cons (LLe.cons (LLe.cons (LLe.cons LLe.nil))))))))))))))) G5
      · rw [if_neg c4]
        refine Go.of_run (Ev.mono _) 1 _ ?_
        have e8 : (if sc = 0 then (1 : Int32) else (2 : Int32)) = (2 : Int32) := if_neg c4
        rw [e8] at G5
        exact Go.weak (Ev.mono _) (LLe.cons (LLe.drop (LLe.drop (LLe.drop (LLe.drop (LLe.drop (LLe.cons (LLe.cons (LLe.cons (LLe.cons (LLe.cons (LLe.cons (LLe.cons (LLe.cons (LLe.cons LLe.nil))))))))))))))) G5
    · rw [if_neg c2]
      refine Go.of_run (Ev.mono _) 2 _ ?_
      have e9 : (w1_go_0 sc) = (0 : Int32) := if_neg c2
      rw [e9] at G3
      exact Go.weak (Ev.mono _) (LLe.cons (LLe.drop (LLe.drop (LLe.drop (LLe.drop (LLe.drop (LLe.cons (LLe.cons (LLe.cons (LLe.cons (LLe.cons (LLe.cons (LLe.cons (LLe.cons (LLe.cons LLe.nil))))))))))))))) G3
set_option maxRecDepth 20000 in
theorem go_62 {d : Nat} {k oth per sc c v : Int32} {w : Int64} {I : Nat → Nat → Int32} {J : Nat → Nat → Int64} {T : Nat → Nat → Nat} {Q : Option Value → Mem → Prop} (hyp : Ev mt aM (d + 4) 28 [.ref 9, .int k, .int per, .int sc, .int c, .int v] (SH, mkM I J T) (fun r m1 => Go none aM (Ev mt aM (d + 4)) mX10_go Q (79, [some (.ref 73), some (.int k), some (.int oth), some (.int per), some (.int sc), some (.int c), some (.long w), none, some (.int v), none, none, none, none, none, none], r.toList ++ [], m1, 0, 0))) : Go none aM (Ev mt aM (d + 4)) mX10_go Q (62, [some (.ref 73), some (.int k), some (.int oth), some (.int per), some (.int sc), some (.int c), some (.long w), none, none, none, none, none, none, none, none], [.int v], (SH, mkM I J T), 0, 0) := by
  refine Go.of_run (Ev.mono _) 9 _ ?_
  refine ⟨Nat.le_of_ble_eq_true rfl, hyp⟩
set_option maxRecDepth 20000 in
theorem go_79 {d : Nat} {k oth per sc c st v : Int32} {w : Int64} {I : Nat → Nat → Int32} {J : Nat → Nat → Int64} {T : Nat → Nat → Nat} {Q : Option Value → Mem → Prop} (hyp : ((0 < (v - v / (7 : Int32) * (7 : Int32)) → vp_in (v_X7_playerOf (v - v / (7 : Int32) * (7 : Int32))) 5) ∧ ((0 < (v / (7 : Int32)) → vp_in (v_X7_playerOf (v / (7 : Int32))) 5) ∧ Ev mt aM (d + 4) 29 [.ref 9, .int per, .int sc, .int (v_X7_codeAfter c v I), .int (v_X7_changesOf v), .int st, .int (I 1 1), .int (0 : Int32)] (SH, mkM I J T) (fun r m1 => Go none aM (Ev mt aM (d + 4)) mX10_go Q (121, [some (.ref 73), some (.int k), some (.int oth), some (.int per), some (.int sc), some (.int c), some (.long w), none, some (.int st), some (.int v), some (.int (v_X7_codeAfter c v I)), none, none, none, none], r.toList ++ [], m1, 0, 0))))) : Go none aM (Ev mt aM (d + 4)) mX10_go Q (79, [some (.ref 73), some (.int k), some (.int oth), some (.int per), some (.int sc), some (.int c), some (.long w), none, some (.int st), none, none, none, none, none, none], [.int v], (SH, mkM I J T), 0, 0) := by
  refine Go.of_run (Ev.mono _) 6 _ ?_
  refine ⟨Nat.le_of_ble_eq_true rfl, ev_X7_codeAfter ⟨hyp.1, hyp.2.1⟩ ?_⟩
  show Go none aM (Ev mt aM (d + 4)) mX10_go Q (92, [some (.ref 73), some (.int k), some (.int oth), some (.int per), some (.int sc), some (.int c), some (.long w), none, some (.int st), some (.int v), none, none, none, none, none], [.int (v_X7_codeAfter c v I)], (SH, mkM I J T), 0, 0)
  refine Go.of_run (Ev.mono _) 8 _ ?_
  refine ⟨Nat.le_of_ble_eq_true rfl, ev_X7_changesOf ?_⟩
  show Go none aM (Ev mt aM (d + 4)) mX10_go Q (108, [some (.ref 73), some (.int k), some (.int oth), some (.int per), some (.int sc), some (.int c), some (.long w), none, some (.int st), some (.int v), some (.int (v_X7_codeAfter c v I)), none, none, none, none], [.int (v_X7_changesOf v), .int (v_X7_codeAfter c v I), .int sc, .int per, .ref 9], (SH, mkM I J T), 0, 0)
  refine Go.of_run (Ev.mono _) 6 _ ?_
  refine ⟨Nat.le_of_ble_eq_true rfl, hyp.2.2⟩
set_option maxRecDepth 20000 in
theorem go_121 {d : Nat} {k oth per sc c st a then_ sh : Int32} {w : Int64} {I : Nat → Nat → Int32} {J : Nat → Nat → Int64} {T : Nat → Nat → Nat} {Q : Option Value → Mem → Prop} (hyp : Go none aM (Ev mt aM (d + 4)) mX10_go Q (126, [some (.ref 73), some (.int k), some (.int oth), some (.int per), some (.int sc), none, some (.long w), none, none, none, some (.int then_), some (.int sh), some (.int (0 : Int32)), none, none], [], (SH, mkM I J T), 0, 0)) : Go none aM (Ev mt aM (d + 4)) mX10_go Q (121, [some (.ref 73), some (.int k), some (.int oth), some (.int per), some (.int sc), some (.int c), some (.long w), none, some (.int st), some (.int a), some (.int then_), none, none, none, none], [.int sh], (SH, mkM I J T), 0, 0) := by
  refine Go.of_run (Ev.mono _) 3 _ ?_
  exact Go.weak (Ev.mono _) (LLe.cons (LLe.cons (LLe.cons (LLe.cons (LLe.cons (LLe.drop (LLe.cons (LLe.cons (LLe.drop (LLe.drop (LLe.cons (LLe.cons (LLe.cons (LLe.cons (LLe.cons LLe.nil))))))))))))))) hyp
set_option maxRecDepth 20000 in
theorem go_126 {d : Nat} {k oth per sc then_ sh e : Int32} {w : Int64} {I : Nat → Nat → Int32} {J : Nat → Nat → Int64} {T : Nat → Nat → Nat} {Q : Option Value → Mem → Prop} (hi : ¬ (4 : Int32) < e) (hyp : ((v_X2_shareOf sh e ≤ 0 → Go none aM (Ev mt aM (d + 4)) mX10_go Q (126, [some (.ref 73), some (.int k), some (.int oth), some (.int per), some (.int sc), none, some (.long w), none, none, none, some (.int then_), some (.int sh), some (.int (e + 1)), none, none], [], (SH, mkM I J T), 0, 0)) ∧ ((¬ (v_X2_shareOf sh e ≤ 0)) → Ev mt aM (d + 4) 121 [.ref 73, .int k, .int oth, .int (per + (1 : Int32)), .int (v_X7_scoreBehind sc e), .int (v_X7_codeBehind then_ e (0 : Int32) I), .long (w * ((v_X2_shareOf sh e).toInt64))] (SH, mkM I J T) (fun r m1 => Go none aM (Ev mt aM (d + 4)) mX10_go Q (184, [some (.ref 73), some (.int k), some (.int oth), some (.int per), some (.int sc), none, some (.long w), none, none, none, some (.int then_), some (.int sh), some (.int e), some (.int (v_X2_shareOf sh e)), some (.int (v_X7_codeBehind then_ e (0 : Int32) I))], r.toList ++ [], m1, 0, 0))))) : Go none aM (Ev mt aM (d + 4)) mX10_go Q (126, [some (.ref 73), some (.int k), some (.int oth), some (.int per), some (.int sc), none, some (.long w), none, none, none, some (.int then_), some (.int sh), some (.int e), none, none], [], (SH, mkM I J T), 0, 0) := by
  refine Go.of_run (Ev.mono _) 3 _ ?_
  show Go none aM (Ev mt aM (d + 4)) mX10_go Q (if (4 : Int32) < e then 190 else 132, [some (.ref 73), some (.int k), some (.int oth), some (.int per), some (.int sc), none, some (.long w), none, none, none, some (.int then_), some (.int sh), some (.int e), none, none], [], (SH, mkM I J T), 0, 0)
  rw [if_neg hi]
  refine Go.of_run (Ev.mono _) 3 _ ?_
  refine ⟨Nat.le_of_ble_eq_true rfl, ev_X2_shareOf ?_⟩
  show Go none aM (Ev mt aM (d + 4)) mX10_go Q (139, [some (.ref 73), some (.int k), some (.int oth), some (.int per), some (.int sc), none, some (.long w), none, none, none, some (.int then_), some (.int sh), some (.int e), none, none], [.int (v_X2_shareOf sh e)], (SH, mkM I J T), 0, 0)
  refine Go.of_run (Ev.mono _) 3 _ ?_
  show Go none aM (Ev mt aM (d + 4)) mX10_go Q (if v_X2_shareOf sh e ≤ 0 then 184 else 146, [some (.ref 73), some (.int k), some (.int oth), some (.int per), some (.int sc), none, some (.long w), none, none, none, some (.int then_), some (.int sh), some (.int e), some (.int (v_X2_shareOf sh e)), none], [], (SH, mkM I J T), 0, 0)
  rcases Decidable.em (v_X2_shareOf sh e ≤ 0) with c1 | c1
  · rw [if_pos c1]
    refine Go.of_run (Ev.mono _) 2 _ ?_
    exact Go.weak (Ev.mono _) (LLe.cons (LLe.cons (LLe.cons (LLe.cons (LLe.cons (LLe.cons (LLe.cons (LLe.cons (LLe.cons (LLe.cons (LLe.cons (LLe.cons (LLe.cons (LLe.drop (LLe.cons LLe.nil))))))))))))))) (hyp.1 c1)
  · rw [if_neg c1]
    refine Go.of_run (Ev.mono _) 6 _ ?_
    refine ⟨Nat.le_of_ble_eq_true rfl, ev_X7_codeBehind ?_⟩
    show Go none aM (Ev mt aM (d + 4)) mX10_go Q (158, [some (.ref 73), some (.int k), some (.int oth), some (.int per), some (.int sc), none, some (.long w), none, none, none, some (.int then_), some (.int sh), some (.int e), some (.int (v_X2_shareOf sh e)), none], [.int (v_X7_codeBehind then_ e (0 : Int32) I)], (SH, mkM I J T), 0, 0)
    refine Go.of_run (Ev.mono _) 10 _ ?_
    refine ⟨Nat.le_of_ble_eq_true rfl, ev_X7_scoreBehind ?_⟩
    show Go none aM (Ev mt aM (d + 4)) mX10_go Q (173, [some (.ref 73), some (.int k), some (.int oth), some (.int per), some (.int sc), none, some (.long w), none, none, none, some (.int then_), some (.int sh), some (.int e), some (.int (v_X2_shareOf sh e)), some (.int (v_X7_codeBehind then_ e (0 : Int32) I))], [.int (v_X7_scoreBehind sc e), .int (per + (1 : Int32)), .int oth, .int k, .ref 73], (SH, mkM I J T), 0, 0)
    refine Go.of_run (Ev.mono _) 6 _ ?_
    refine ⟨Nat.le_of_ble_eq_true rfl, (hyp.2 c1)⟩
set_option maxRecDepth 20000 in
theorem go_184 {d : Nat} {k oth per sc then_ sh e u v : Int32} {w : Int64} {I : Nat → Nat → Int32} {J : Nat → Nat → Int64} {T : Nat → Nat → Nat} {Q : Option Value → Mem → Prop} (hyp : Go none aM (Ev mt aM (d + 4)) mX10_go Q (126, [some (.ref 73), some (.int k), some (.int oth), some (.int per), some (.int sc), none, some (.long w), none, none, none, some (.int then_), some (.int sh), some (.int (e + 1)), none, none], [], (SH, mkM I J T), 0, 0)) : Go none aM (Ev mt aM (d + 4)) mX10_go Q (184, [some (.ref 73), some (.int k), some (.int oth), some (.int per), some (.int sc), none, some (.long w), none, none, none, some (.int then_), some (.int sh), some (.int e), some (.int u), some (.int v)], [], (SH, mkM I J T), 0, 0) := by
  refine Go.of_run (Ev.mono _) 2 _ ?_
  exact Go.weak (Ev.mono _) (LLe.cons (LLe.cons (LLe.cons (LLe.cons (LLe.cons (LLe.cons (LLe.cons (LLe.cons (LLe.cons (LLe.cons (LLe.cons (LLe.cons (LLe.cons (LLe.drop (LLe.drop LLe.nil))))))))))))))) hyp
set_option maxRecDepth 20000 in
theorem go_190 {d : Nat} {k oth per sc then_ sh : Int32} {w : Int64} {I : Nat → Nat → Int32} {J : Nat → Nat → Int64} {T : Nat → Nat → Nat} {Q : Option Value → Mem → Prop} (hyp : Q none (SH, mkM I J T)) : Go none aM (Ev mt aM (d + 4)) mX10_go Q (126, [some (.ref 73), some (.int k), some (.int oth), some (.int per), some (.int sc), none, some (.long w), none, none, none, some (.int then_), some (.int sh), some (.int (5 : Int32)), none, none], [], (SH, mkM I J T), 0, 0) := by
  refine Go.of_run (Ev.mono _) 3 _ ?_
  show Go none aM (Ev mt aM (d + 4)) mX10_go Q (if (4 : Int32) < (5 : Int32) then 190 else 132, [some (.ref 73), some (.int k), some (.int oth), some (.int per), some (.int sc), none, some (.long w), none, none, none, some (.int then_), some (.int sh), some (.int (5 : Int32)), none, none], [], (SH, mkM I J T), 0, 0)
  rw [if_pos (by decide : (4 : Int32) < (5 : Int32))]
  refine Go.of_run (Ev.mono _) 1 _ ?_
  refine ⟨trivial, ?_⟩
  show Q none (SH, mkM I J T)
  exact hyp
set_option maxRecDepth 20000 in
theorem wfi_0 {d : Nat} {k oth : Int32} {I : Nat → Nat → Int32} {J : Nat → Nat → Int64} {T : Nat → Nat → Nat} {Q : Option Value → Mem → Prop} (hyp : (vp_in (((3 : Int32) * k) + oth) 12 ∧ ((lg_cmp (v_X5_longAt_75 (((3 : Int32) * k) + oth) J) (0 : Int64) = 0 → Ev mt aM (d + 4) 59 [.ref 74] (SH, mkM I J T) (fun r m1 => Go none aM (Ev mt aM (d + 4)) mX10_first Q (30, [some (.ref 73), some (.int k), some (.int oth), some (.int (((3 : Int32) * k) + oth)), some (.long (v_X5_longAt_75 (((3 : Int32) * k) + oth) J)), none], r.toList ++ [], m1, 0, 0))) ∧ ((¬ (lg_cmp (v_X5_longAt_75 (((3 : Int32) * k) + oth) J) (0 : Int64) = 0)) → Q (some (.long ((v_X5_longAt_75 (((3 : Int32) * k) + oth) J) - (1 : Int64)))) (SH, mkM I J T))))) : Go none aM (Ev mt aM (d + 4)) mX10_first Q (0, [some (.ref 73), some (.int k), some (.int oth), none, none, none], [], (SH, mkM I J T), 0, 0) := by
  refine Go.of_run (Ev.mono _) 10 _ ?_
  refine ⟨Nat.le_of_ble_eq_true rfl, ev_X5_longAt_75 hyp.1 ?_⟩
  show Go none aM (Ev mt aM (d + 4)) mX10_first Q (14, [some (.ref 73), some (.int k), some (.int oth), some (.int (((3 : Int32) * k) + oth)), none, none], [.long (v_X5_longAt_75 (((3 : Int32) * k) + oth) J)], (SH, mkM I J T), 0, 0)
  refine Go.of_run (Ev.mono _) 5 _ ?_
  show Go none aM (Ev mt aM (d + 4)) mX10_first Q (if lg_cmp (v_X5_longAt_75 (((3 : Int32) * k) + oth) J) (0 : Int64) = 0 then 23 else 60, [some (.ref 73), some (.int k), some (.int oth), some (.int (((3 : Int32) * k) + oth)), some (.long (v_X5_longAt_75 (((3 : Int32) * k) + oth) J)), none], [], (SH, mkM I J T), 0, 0)
  rcases Decidable.em (lg_cmp (v_X5_longAt_75 (((3 : Int32) * k) + oth) J) (0 : Int64) = 0) with c1 | c1
  · rw [if_pos c1]
    refine Go.of_run (Ev.mono _) 3 _ ?_
    refine ⟨Nat.le_of_ble_eq_true rfl, (hyp.2.1 c1)⟩
  · rw [if_neg c1]
    refine Go.of_run (Ev.mono _) 4 _ ?_
    refine ⟨trivial, ?_⟩
    show Q (some (.long ((v_X5_longAt_75 (((3 : Int32) * k) + oth) J) - (1 : Int64)))) (SH, mkM I J T)
    exact (hyp.2.2 c1)
set_option maxRecDepth 20000 in
theorem wfi_30 {d : Nat} {k oth sl : Int32} {x : Int64} {I : Nat → Nat → Int32} {J : Nat → Nat → Int64} {T : Nat → Nat → Nat} {Q : Option Value → Mem → Prop} (hyp : Ev mt aM (d + 4) 121 [.ref 73, .int k, .int oth, .int (0 : Int32), .int (0 : Int32), .int (3000 : Int32), .long (1 : Int64)] (SH, mkM I J T) (fun r m1 => Go none aM (Ev mt aM (d + 4)) mX10_first Q (42, [some (.ref 73), some (.int k), some (.int oth), some (.int sl), some (.long x), none], r.toList ++ [], m1, 0, 0))) : Go none aM (Ev mt aM (d + 4)) mX10_first Q (30, [some (.ref 73), some (.int k), some (.int oth), some (.int sl), some (.long x), none], [], (SH, mkM I J T), 0, 0) := by
  refine Go.of_run (Ev.mono _) 8 _ ?_
  refine ⟨Nat.le_of_ble_eq_true rfl, hyp⟩
set_option maxRecDepth 20000 in
theorem ev_X5_putLong_75 {d : Nat} {a1 : Int32} {a2 : Int64} {I : Nat → Nat → Int32} {J : Nat → Nat → Int64} {T : Nat → Nat → Nat} {Q : Option Value → Mem → Prop} (h1 : vp_in a1 12) (h : Q none (SH, mkM I (sj J 75 a1.toNatClampNeg a2) T)) : Ev mt aM (d + 1) 58 [.ref 75, .int a1, .long a2] (SH, mkM I J T) Q := by
  refine Ev.intro mX5_putLong rfl rfl ?_
  show Go none aM (Ev mt aM d) mX5_putLong Q (0, [some (.ref 75), some (.int a1), some (.long a2), none], [], (SH, mkM I J T), 0, 0)
  refine Go.of_run (Ev.mono _) 4 _ ?_
  show Go none aM (Ev mt aM d) mX5_putLong Q (if a1 < 0 then 18 else 8, [some (.ref 75), some (.int a1), some (.long a2), none], [], (SH, mkM I J T), 0, 0)
  rw [if_neg (vin_lo h1)]
  refine Go.of_run (Ev.mono _) 4 _ ?_
  show Go none aM (Ev mt aM d) mX5_putLong Q (if (12 : Int32) ≤ a1 then 18 else 14, [some (.ref 75), some (.int a1), some (.long a2), none], [], (SH, mkM I J T), 0, 0)
  rw [if_neg (vin_hi h1 rfl)]
  refine Go.of_run (Ev.mono _) 4 _ ?_
  refine ⟨h1, ?_⟩
  refine go_sj rfl ?_
  show Go none aM (Ev mt aM d) mX5_putLong Q (18, [some (.ref 75), some (.int a1), some (.long a2), none], [], (SH, mkM I (sj J 75 a1.toNatClampNeg a2) T), 0, 0)
  refine Go.of_run (Ev.mono _) 1 _ ?_
  refine ⟨trivial, ?_⟩
  show Q none (SH, mkM I (sj J 75 a1.toNatClampNeg a2) T)
  exact h
set_option maxRecDepth 20000 in
theorem wfi_42 {d : Nat} {k oth sl : Int32} {x : Int64} {I : Nat → Nat → Int32} {J : Nat → Nat → Int64} {T : Nat → Nat → Nat} {Q : Option Value → Mem → Prop} (hyp : (vp_in sl 12 ∧ Q (some (.long (((v_X10_value I J) + (1 : Int64)) - (1 : Int64)))) (SH, mkM I (sj J 75 sl.toNatClampNeg ((v_X10_value I J) + (1 : Int64))) T))) : Go none aM (Ev mt aM (d + 4)) mX10_first Q (42, [some (.ref 73), some (.int k), some (.int oth), some (.int sl), some (.long x), none], [], (SH, mkM I J T), 0, 0) := by
  refine Go.of_run (Ev.mono _) 2 _ ?_
  refine ⟨Nat.le_of_ble_eq_true rfl, ev_X10_value ?_⟩
  show Go none aM (Ev mt aM (d + 4)) mX10_first Q (46, [some (.ref 73), some (.int k), some (.int oth), some (.int sl), some (.long x), none], [.long (v_X10_value I J)], (SH, mkM I J T), 0, 0)
  refine Go.of_run (Ev.mono _) 8 _ ?_
  refine ⟨Nat.le_of_ble_eq_true rfl, ev_X5_putLong_75 hyp.1 ?_⟩
  show Go none aM (Ev mt aM (d + 4)) mX10_first Q (60, [some (.ref 73), some (.int k), some (.int oth), some (.int sl), some (.long ((v_X10_value I J) + (1 : Int64))), none], [], (SH, mkM I (sj J 75 sl.toNatClampNeg ((v_X10_value I J) + (1 : Int64))) T), 0, 0)
  refine Go.of_run (Ev.mono _) 4 _ ?_
  refine ⟨trivial, ?_⟩
  show Q (some (.long (((v_X10_value I J) + (1 : Int64)) - (1 : Int64)))) (SH, mkM I (sj J 75 sl.toNatClampNeg ((v_X10_value I J) + (1 : Int64))) T)
  exact hyp.2
set_option maxRecDepth 20000 in
theorem wfr_0 {d : Nat} {k per sc c oth : Int32} {I : Nat → Nat → Int32} {J : Nat → Nat → Int64} {T : Nat → Nat → Nat} {Q : Option Value → Mem → Prop} (hyp : Ev mt aM (d + 4) 59 [.ref 74] (SH, mkM I J T) (fun r m1 => Go none aM (Ev mt aM (d + 4)) mX10_from Q (7, [some (.ref 73), some (.int k), some (.int per), some (.int sc), some (.int c), some (.int oth)], r.toList ++ [], m1, 0, 0))) : Go none aM (Ev mt aM (d + 4)) mX10_from Q (0, [some (.ref 73), some (.int k), some (.int per), some (.int sc), some (.int c), some (.int oth)], [], (SH, mkM I J T), 0, 0) := by
  refine Go.of_run (Ev.mono _) 3 _ ?_
  refine ⟨Nat.le_of_ble_eq_true rfl, hyp⟩
set_option maxRecDepth 20000 in
theorem wfr_7 {d : Nat} {k per sc c oth : Int32} {I : Nat → Nat → Int32} {J : Nat → Nat → Int64} {T : Nat → Nat → Nat} {Q : Option Value → Mem → Prop} (hyp : Ev mt aM (d + 4) 121 [.ref 73, .int k, .int oth, .int per, .int sc, .int c, .long (1 : Int64)] (SH, mkM I J T) (fun r m1 => Go none aM (Ev mt aM (d + 4)) mX10_from Q (19, [some (.ref 73), some (.int k), some (.int per), some (.int sc), some (.int c), some (.int oth)], r.toList ++ [], m1, 0, 0))) : Go none aM (Ev mt aM (d + 4)) mX10_from Q (7, [some (.ref 73), some (.int k), some (.int per), some (.int sc), some (.int c), some (.int oth)], [], (SH, mkM I J T), 0, 0) := by
  refine Go.of_run (Ev.mono _) 8 _ ?_
  refine ⟨Nat.le_of_ble_eq_true rfl, hyp⟩
set_option maxRecDepth 20000 in
theorem wfr_19 {d : Nat} {k per sc c oth : Int32} {I : Nat → Nat → Int32} {J : Nat → Nat → Int64} {T : Nat → Nat → Nat} {Q : Option Value → Mem → Prop} (hyp : Q none (SH, mkM I J T)) : Go none aM (Ev mt aM (d + 4)) mX10_from Q (19, [some (.ref 73), some (.int k), some (.int per), some (.int sc), some (.int c), some (.int oth)], [], (SH, mkM I J T), 0, 0) := by
  refine Go.of_run (Ev.mono _) 1 _ ?_
  refine ⟨trivial, ?_⟩
  show Q none (SH, mkM I J T)
  exact hyp
set_option maxRecDepth 20000 in
theorem wfo_0 {d : Nat} {I : Nat → Nat → Int32} {J : Nat → Nat → Int64} {T : Nat → Nat → Nat} {Q : Option Value → Mem → Prop} (hyp : Ev mt aM (d + 4) 59 [.ref 75] (SH, mkM I J T) (fun r m1 => Go none aM (Ev mt aM (d + 4)) mX10_forget Q (7, [some (.ref 73)], r.toList ++ [], m1, 0, 0))) : Go none aM (Ev mt aM (d + 4)) mX10_forget Q (0, [some (.ref 73)], [], (SH, mkM I J T), 0, 0) := by
  refine Go.of_run (Ev.mono _) 3 _ ?_
  refine ⟨Nat.le_of_ble_eq_true rfl, hyp⟩
set_option maxRecDepth 20000 in
theorem wfo_7 {d : Nat} {I : Nat → Nat → Int32} {J : Nat → Nat → Int64} {T : Nat → Nat → Nat} {Q : Option Value → Mem → Prop} (hyp : Q none (SH, mkM I J T)) : Go none aM (Ev mt aM (d + 4)) mX10_forget Q (7, [some (.ref 73)], [], (SH, mkM I J T), 0, 0) := by
  refine Go.of_run (Ev.mono _) 1 _ ?_
  refine ⟨trivial, ?_⟩
  show Q none (SH, mkM I J T)
  exact hyp
theorem ev_tune {A : Tm} {oth all once pace : Nat} (hA : BD A) (h0 : TN oth all once pace) {d : Nat} {I : Nat → Nat → Int32} {J : Nat → Nat → Int64} {T : Nat → Nat → Nat} {Q : Option Value → Mem → Prop} (hB : IB A I J) (g : ∀ I' J', Fr [69] I I' → Fj [71] J J' → TU A oth all once pace I' J' → RK I' → FO A J' → Q none (SH, mkM I' J' T)) : Ev mt aM (d + 5) 4 [.ref 69, .int (nI oth), .int (nI all), .int (nI once), .int (nI pace)] (SH, mkM I J T) Q := by
  have hk := ky_lt h0.1 h0.2.1 h0.2.2.1 h0.2.2.2
  refine Ev.intro mX0_tune rfl rfl (tun_0 (d := d) ?_)
  rw [ky_c h0.2.2.1.1]
  refine ⟨fun c => ?_, fun _ => ?_⟩
  · refine g I J (Fr.rfl' _ _) (Fj.rfl' _ _) ?_ hB.1 hB.2.1
    rcases hB.2.2 with q | ⟨a, b, e, f, k0, k1, k2, k3⟩
    · rw [q] at c
      have := congrArg Int32.toInt c
      rw [nI_toInt (by omega), show (-1 : Int32).toInt = -1 by decide] at this
      omega
    · have hk' := ky_lt k0.1 k0.2.1 k0.2.2.1 k0.2.2.2
      rw [k1] at c
      obtain ⟨e1, e2, e3, e4⟩ := ky_inj k0.1 k0.2.1 k0.2.2.1 h0.1 h0.2.1 h0.2.2.1 ((nI_eq (by omega) (by omega)).mp c).symm
      subst e1 e2 e3 e4
      exact ⟨k1, k2, k3⟩
  · refine ev_clear71 (tun_54 (d := d) ?_)
    have f1 : Fr [69] I (si (si (si (si (si I 69 5 (nI (kyN oth all once pace))) 69 6 (nI oth)) 69 7 (nI all)) 69 8 (nI once)) 69 9 (nI pace)) := (Fr.rfl' _ _).to rfl |>.to rfl |>.to rfl |>.to rfl |>.to rfl
    refine g _ _ f1 ((Fj.rfl' _ _).z rfl) ⟨rfl, ⟨rfl, rfl, rfl, rfl⟩, MMO.zero hA⟩ (hB.1.fr rfl f1) (hB.2.1.fr (l := [71]) rfl ((Fj.rfl' _ _).z rfl))
theorem cd1536 : CD 1536 ∧ mdN 1536 = 0 ∧ dI 1536 = 3000 := ⟨⟨by decide, by decide +kernel⟩, by decide, by decide⟩
theorem held_at {A : Tm} {oth all once pace : Nat} (hA : BD A) (h0 : TN oth all once pace) {d l s o : Nat} {I : Nat → Nat → Int32} {J : Nat → Nat → Int64} {T : Nat → Nat → Nat} {Q : Option Value → Mem → Prop} (hl : l ≤ qN A) (hR : RC A I T) (hK : RK I) (hT : TU A oth all once pace I J) (hs : s < 5) (ho : CD o) (hm : mdN o ≤ all) (g : ∀ I' J', Fr [10, 11, 12] I I' → Fj [71] J J' → MMO A oth all once pace J' → Q (some (.long (lN (hvF A oth all once pace l s o)))) (SH, mkM I' J' T)) : Ev mt aM (d + 23) 10 [.ref 69, .int (nI (qN A - l)), .int (scI s), .int (dI o)] (SH, mkM I J T) Q := by
  have h5 := hA.1.2
  have e : d + 23 = (d + 3 * (5 - l)) + (3 * l + 8) := by omega
  rw [e]
  exact held_ok hA h0.2.2.2 h0.1 h0.2.1 (by have := h0.2.2.1.2; omega) l hl _ s o I J T Q hR hK hT.2.1 hT.2.2 hs ho hm g
theorem ev_first {A : Tm} {oth all once pace : Nat} (hA : BD A) (h0 : TN oth all once pace) {d : Nat} {I : Nat → Nat → Int32} {J : Nat → Nat → Int64} {T : Nat → Nat → Nat} {Q : Option Value → Mem → Prop} (hR : RC A I T) (hB : IB A I J) (g : ∀ I' J', Fr [10, 11, 12, 69] I I' → Fj [71, 72] J J' → IB A I' J' → Q (some (.long (lN (bV A oth all once pace (qN A) 2 1536)))) (SH, mkM I' J' T)) : Ev mt aM (d + 24) 5 [.ref 69, .int (nI oth), .int (nI all), .int (nI once), .int (nI pace)] (SH, mkM I J T) Q := by
  have hk := ky_lt h0.1 h0.2.1 h0.2.2.1 h0.2.2.2
  have h5 := hA.1.2
  have hv := bV_lt hA oth all once pace (l := qN A) h5 2 1536
  have hsub : ∀ x : Nat, lN (x + 1) - (1 : Int64) = lN x := fun x => lN_sub (Nat.le_add_left _ _)
  refine Ev.intro mX0_first rfl rfl (fst_0 (d := d + 19) ?_)
  rw [ky_c h0.2.2.1.1]
  have eJ : v_X5_longAt_72 (nI (kyN oth all once pace)) J = J 72 (kyN oth all once pace) := by
    show J 72 (nI (kyN oth all once pace)).toNatClampNeg = _
    rw [nI_clamp (by omega)]
  rw [eJ]
  refine ⟨vp_in_nI hk (by omega), fun c => ?_, fun c => ?_⟩
  · refine ev_tune (d := d + 18) hA h0 hB (fun I1 J1 f1 j1 t1 k1 o1 => fst_37 (d := d + 19) ?_)
    have r1 := hR.fr rfl f1
    have hh := held_at (d := d) (l := qN A) (s := 2) (o := 1536) (T := T) hA h0 (Nat.le_refl _) r1 k1 t1 (by omega) cd1536.1 (by rw [cd1536.2.1]; omega) (Q := fun r m1 => Go none aM (Ev mt aM (d + 19 + 4)) mX0_first Q (46, [some (.ref 69), some (.int (nI oth)), some (.int (nI all)), some (.int (nI once)), some (.int (nI pace)), some (.int (nI (kyN oth all once pace))), some (.long (J 72 (kyN oth all once pace))), none], r.toList ++ [], m1, 0, 0)) (fun I2 J2 f2 j2 m2 => fst_46 (d := d + 19) ⟨vp_in_nI hk (by omega), ?_⟩)
    · rw [Nat.sub_self, cd1536.2.2] at hh
      exact hh
    · rw [hv_shr hA oth all once pace h5, lN_1, hsub, nI_clamp (by omega)]
      have t2 := t1.mv f2 m2
      refine g I2 _ ((f1.sub rfl).trans (f2.sub rfl)) (((j1.sub rfl).trans (j2.sub rfl)).to rfl) ⟨k1.fr rfl f2, ?_, Or.inr ⟨oth, all, once, pace, h0, t2.1, t2.2.1, m2.fr (l := [72]) rfl ((Fj.rfl' _ _).to rfl)⟩⟩
      intro a b e f k0
      have hk' := ky_lt k0.1 k0.2.1 k0.2.2.1 k0.2.2.2
      by_cases q : kyN a b e f = kyN oth all once pace
      · obtain ⟨e1, e2, e3, e4⟩ := ky_inj k0.1 k0.2.1 k0.2.2.1 h0.1 h0.2.1 h0.2.2.1 q
        subst e1 e2 e3 e4
        exact Or.inr sj_at
      · rw [sj_ne q, j2 72 rfl]
        exact o1 a b e f k0
  · rcases hB.2.1 oth all once pace h0 with q | q
    · exact absurd ((lg_cmp_eq _ _).mpr q) c
    · rw [q, hsub]
      exact g I J (Fr.rfl' _ _) (Fj.rfl' _ _) hB
theorem ev_bforget {d : Nat} {A : Tm} {I : Nat → Nat → Int32} {J : Nat → Nat → Int64} {T : Nat → Nat → Nat} {Q : Option Value → Mem → Prop} (hK : RK I) (g : ∀ I' J', Fr [69] I I' → Fj [72] J J' → IB A I' J' → Q none (SH, mkM I' J' T)) : Ev mt aM (d + 5) 1 [.ref 69] (SH, mkM I J T) Q := by
  refine Ev.intro mX0_forget rfl rfl (bfo_0 (d := d) (ev_clear72 (bfo_12 (d := d) ?_)))
  have f1 : Fr [69] I (si I 69 5 (-1)) := (Fr.rfl' _ _).to rfl
  refine g _ _ f1 ((Fj.rfl' _ _).z rfl) ⟨hK.fr rfl f1, fun a b e f k0 => Or.inl (zj_at (ky_lt k0.1 k0.2.1 k0.2.2.1 k0.2.2.2)), Or.inl rfl⟩
theorem ev_against {A : Tm} {oth : Nat} (hA : BD A) (ho : oth < 3) {d : Nat} {I : Nat → Nat → Int32} {J : Nat → Nat → Int64} {T : Nat → Nat → Nat} {Q : Option Value → Mem → Prop} (hR : RC A I T) (hB : IB A I J) (g : ∀ I' J', Fr [69] I I' → Fj [71] J J' → TU A oth (qC A) (qO A) 0 I' J' → RK I' → FO A J' → Q none (SH, mkM I' J' T)) : Ev mt aM (d + 6) 2 [.ref 69, .int (nI oth)] (SH, mkM I J T) Q := by
  refine Ev.intro mX0_against rfl rfl (aga_0 (d := d + 1) ?_)
  rw [hR.2.1, hR.2.2.1]
  exact ev_tune (d := d) (A := A) (pace := 0) hA ⟨ho, hA.2.1, hA.2.2.1, by omega⟩ hB (fun I1 J1 f1 j1 t1 k1 o1 => aga_9 (d := d + 1) (g I1 J1 f1 j1 t1 k1 o1))
/-- VALUE and ACTION, tuned -/
theorem ev_valueOf {A : Tm} {oth all once pace : Nat} (hA : BD A) (h0 : TN oth all once pace) {d l s o : Nat} {I : Nat → Nat → Int32} {J : Nat → Nat → Int64} {T : Nat → Nat → Nat} {Q : Option Value → Mem → Prop} (hl : l ≤ qN A) (hR : RC A I T) (hK : RK I) (hT : TU A oth all once pace I J) (hs : s < 5) (ho : CD o) (hm : mdN o ≤ all) (g : ∀ I' J', Fr [10, 11, 12] I I' → Fj [71] J J' → TU A oth all once pace I' J' → Q (some (.long (lN (bV A oth all once pace l s o)))) (SH, mkM I' J' T)) : Ev mt aM (d + 24) 6 [.ref 69, .int (nI (qN A - l)), .int (scI s), .int (dI o)] (SH, mkM I J T) Q := by
  have h5 := hA.1.2
  refine Ev.intro mX0_valueOf rfl rfl (vof_0 (d := d + 19) ?_)
  refine held_at (d := d) hA h0 hl hR hK hT hs ho hm (fun I1 J1 f1 j1 m1 => vof_7 (d := d + 19) ?_)
  rw [hv_shr hA oth all once pace (by omega)]
  exact g I1 J1 f1 j1 (hT.mv f1 m1)
theorem wb_and {a b : Nat} : lN a &&& lN b = lN (a &&& b) := by
  apply Int64.toBitVec_inj.mp
  show (BitVec.ofNat 64 a) &&& (BitVec.ofNat 64 b) = BitVec.ofNat 64 (a &&& b)
  rw [BitVec.ofNat_and]
theorem ev_actionOf {A : Tm} {oth all once pace : Nat} (hA : BD A) (h0 : TN oth all once pace) {d l s o : Nat} {I : Nat → Nat → Int32} {J : Nat → Nat → Int64} {T : Nat → Nat → Nat} {Q : Option Value → Mem → Prop} (hl : l + 1 ≤ qN A) (hR : RC A I T) (hK : RK I) (hT : TU A oth all once pace I J) (hs : s < 5) (ho : CD o) (hm : mdN o ≤ all) (g : ∀ I' J', Fr [10, 11, 12] I I' → Fj [71] J J' → TU A oth all once pace I' J' → Q (some (.int (nI (bA A oth all once pace l s o)))) (SH, mkM I' J' T)) : Ev mt aM (d + 24) 7 [.ref 69, .int (nI (qN A - (l + 1))), .int (scI s), .int (dI o)] (SH, mkM I J T) Q := by
  have h5 := hA.1.2
  have ba := bA_lt A oth all once pace l s o
  have bv := bV_lt hA oth all once pace (l := l + 1) (by omega) s o
  refine Ev.intro mX0_actionOf rfl rfl (aof_0 (d := d + 19) ?_)
  refine held_at (d := d) hA h0 hl hR hK hT hs ho hm (fun I1 J1 f1 j1 m1 => aof_7 (d := d + 19) ?_)
  have e : (lN (hvF A oth all once pace (l + 1) s o) &&& (63 : Int64)).toInt32 - 1 = nI (bA A oth all once pace l s o) := by
    rw [show (63 : Int64) = lN 63 from rfl, wb_and, show (63 : Nat) = 2 ^ 6 - 1 from rfl, Nat.and_two_pow_sub_one_eq_mod, lN_i]
    rw [show hvF A oth all once pace (l + 1) s o % 2 ^ 6 = bA A oth all once pace l s o + 1 by
      show (64 * bV A oth all once pace (l + 1) s o + bA A oth all once pace l s o + 1) % 64 = _
      omega]
    exact nI_pred _
  rw [e]
  exact g I1 J1 f1 j1 (hT.mv f1 m1)
theorem ev_valueBy {A : Tm} {oth all once pace : Nat} (hA : BD A) (h0 : TN oth all once pace) {d l s o a : Nat} {I : Nat → Nat → Int32} {J : Nat → Nat → Int64} {T : Nat → Nat → Nat} {Q : Option Value → Mem → Prop} (hl : l + 1 ≤ qN A) (hR : RC A I T) (hK : RK I) (hT : TU A oth all once pace I J) (hs : s < 5) (ho : CD o) (ha : a < 49) (hm : mayF o a all once = true) (g : ∀ I' J', Fr [10, 11, 12] I I' → Fj [71] J J' → TU A oth all once pace I' J' → Q (some (.long (lN (bsum A oth all pace (qN A - (l + 1)) (bV A oth all once pace l) s o a 5)))) (SH, mkM I' J' T)) : Ev mt aM (d + 25) 8 [.ref 69, .int (nI (qN A - (l + 1))), .int (scI s), .int (dI o), .int (nI a)] (SH, mkM I J T) Q := by
  have h5 := hA.1.2
  refine Ev.intro mX0_valueBy rfl rfl (vby_0 (d := d + 20) ?_)
  rw [hT.2.1.1]
  refine ev_strongOf (d := d + 19) (A := A) hA hR h0.1 (fun I1 f1 => vby_19 (d := d + 20) ?_)
  have key : Ev mt aM ((d + 3 * (5 - l)) + (3 * l + 9)) 12 [.ref 69, .int (nI (qN A - (l + 1))), .int (scI s), .int (dI o), .int (nI a), .int (nI (stF A oth (qN A - (l + 1)) (scI s)))] (SH, mkM I1 J T) (fun r m1 => Go none aM (Ev mt aM (d + 20 + 4)) mX0_valueBy Q (22, [some (.ref 69), some (.int (nI (qN A - (l + 1)))), some (.int (scI s)), some (.int (dI o)), some (.int (nI a))], r.toList ++ [], m1, 0, 0)) := by
    refine ev_sumOf hA (held_ok hA h0.2.2.2 h0.1 h0.2.1 (by have := h0.2.2.1.2; omega) l (by omega)) (by omega) h0.2.2.2 (hR.fr rfl f1) (hK.fr rfl f1) (hT.2.1.fr rfl f1) hT.2.2 hs ho ha hm (fun I2 J2 f2 j2 m2 => vby_22 (d := d + 20) ?_)
    exact g I2 J2 (f1.trans f2) j2 ((hT.mv f1 hT.2.2).mv f2 m2)
  rw [show (d + 3 * (5 - l)) + (3 * l + 9) = d + 24 by omega] at key
  exact key
/-! BY A RULE -/
def GoOK (A : Tm) (k oth l : Nat) : Prop := ∀ (d s o w : Nat) (E : Nat → Nat) (I : Nat → Nat → Int32) (J : Nat → Nat → Int64) (T : Nat → Nat → Nat) (Q : Option Value → Mem → Prop), RC A I T → s < 5 → CD o → mdN o ≤ qC A → (∀ j, j < 3 → J 74 j = lN (E j)) → (∀ I' J', Fr [10, 11, 12] I I' → Fj [74] J J' → (∀ j, j < 3 → J' 74 j = lN (E j + w * wN A k oth j l s o)) → Q none (SH, mkM I' J' T)) → Ev mt aM (d + (l + 6)) 121 [.ref 73, .int (nI k), .int (nI oth), .int (nI (qN A - l)), .int (scI s), .int (dI o), .long (lN w)] (SH, mkM I J T) Q
def eX (s : Nat) : Nat := if 2 < s then 0 else if s = 2 then 1 else 2
theorem eX_c {s : Nat} (hs : s < 5) : w1_go_0 (scI s) = nI (eX s) := by
  rcases (show s = 0 ∨ s = 1 ∨ s = 2 ∨ s = 3 ∨ s = 4 by omega) with rfl | rfl | rfl | rfl | rfl <;> decide
theorem eX_lt (s : Nat) : eX s < 3 := by
  unfold eX
  repeat' split
  all_goals omega
theorem go_ok {A : Tm} {k oth : Nat} (hA : BD A) (hk : k < 4) (hoth : oth < 3) : ∀ l, l ≤ qN A → GoOK A k oth l := by
  have h5 := hA.1.2
  intro l
  induction l with
  | zero =>
    intro _ d s o w E I J T Q hR hs ho hmd hE g
    refine Ev.intro mX10_go rfl rfl (go_0 (d := d + 1) ⟨fun c => ?_, fun _ => ?_⟩)
    · rw [hR.1, Nat.sub_zero] at c
      exact absurd c (nI_nlt (Nat.le_refl _) (by omega))
    · have hx := eX_lt s
      rw [eX_c hs]
      refine ⟨vp_in_nI hx (by omega), vp_in_nI hx (by omega), ?_⟩
      rw [show v_X10_likely (nI (eX s)) J = J 74 (eX s) by
        show J 74 (nI (eX s)).toNatClampNeg = _
        rw [nI_clamp (by omega)], nI_clamp (by omega), hE _ hx, lN_add]
      refine g I _ (Fr.rfl' _ _) ((Fj.rfl' _ _).to rfl) (fun j hj => ?_)
      show sj J 74 (eX s) _ 74 j = lN (E j + w * (if eX s = j then 1 else 0))
      by_cases q : eX s = j
      · rw [if_pos q, ← q, sj_at, Nat.mul_one]
      · rw [if_neg q, sj_ne (fun e => q e.symm), hE j hj]
        rfl
  | succ l ih =>
    intro hl d s o w E I J T Q hR hs ho hmd hE g
    have ih := ih (by omega)
    refine Ev.intro mX10_go rfl rfl (go_0 (d := d + (l + 2)) ⟨fun _ => ?_, fun c => ?_⟩)
    · obtain ⟨ra, rm⟩ := rA_may (A := A) (k := k) (oth := oth) (per := qN A - (l + 1)) (s := s) ho hmd
      obtain ⟨p1, p2⟩ := aft_pre ho ra rm
      obtain ⟨c1, c2, c3, c4, _⟩ := aft_all (M := I) ho hA ra rm
      refine ev_strongOf (d := d + (l + 1)) (A := A) hA hR hoth (fun I1 f1 => go_62 (d := d + (l + 2)) ?_)
      refine ev_ruleAction (d := d + (l + 1)) (A := A) hA (hR.fr rfl f1) hk (by omega) ho (fun I2 f2 => go_79 (d := d + (l + 2)) ?_)
      have f12 := f1.trans f2
      have r2 := hR.fr rfl f12
      obtain ⟨_, _, _, c4, _⟩ := aft_all (M := I2) ho hA ra rm
      have c4 := c4 r2.2.2.2.2.2.1
      refine ⟨p1, p2, ?_⟩
      rw [show ruF A k (qN A - (l + 1)) (scI s) o (stF A oth (qN A - (l + 1)) (scI s)) = rA A k oth (qN A - (l + 1)) s o from rfl, c4, ch_c ra, r2.2.1]
      refine ev_shares (d := d + (l + 1)) (A := A) (x := chN (rA A k oth (qN A - (l + 1)) s o)) (st := stF A oth (qN A - (l + 1)) (scI s)) (most := qC A) (pace := 0) (sc := scI s) hA r2 (by omega) (by omega) c1 (fun I3 f3 => go_121 (d := d + (l + 2)) ?_)
      have loop : ∀ (m e : Nat) (I1 : Nat → Nat → Int32) (J1 : Nat → Nat → Int64), m + e = 5 → Fr [10, 11, 12] I I1 → Fj [74] J J1 → (∀ j, j < 3 → J1 74 j = lN (E j + w * bsum A oth (qC A) 0 (qN A - (l + 1)) (wN A k oth j l) s o (rA A k oth (qN A - (l + 1)) s o) e)) → Go none aM (Ev mt aM (d + (l + 2) + 4)) mX10_go Q (126, [some (.ref 73), some (.int (nI k)), some (.int (nI oth)), some (.int (nI (qN A - (l + 1)))), some (.int (scI s)), none, some (.long (lN w)), none, none, none, some (.int (dI (aftF A o (rA A k oth (qN A - (l + 1)) s o)))), some (.int (nI (pkF (sG A (qN A - (l + 1)) (scI s) (aftF A o (rA A k oth (qN A - (l + 1)) s o)) (stF A oth (qN A - (l + 1)) (scI s)) (chN (rA A k oth (qN A - (l + 1)) s o)) (qC A) 0) (sA A (qN A - (l + 1)) (scI s) (aftF A o (rA A k oth (qN A - (l + 1)) s o)) (stF A oth (qN A - (l + 1)) (scI s)) (chN (rA A k oth (qN A - (l + 1)) s o)) (qC A) 0) (sH0 A (qN A - (l + 1)) (scI s) (aftF A o (rA A k oth (qN A - (l + 1)) s o)) (stF A oth (qN A - (l + 1)) (scI s)) (chN (rA A k oth (qN A - (l + 1)) s o)) (qC A) 0) (sH1 A (qN A - (l + 1)) (scI s) (aftF A o (rA A k oth (qN A - (l + 1)) s o)) (stF A oth (qN A - (l + 1)) (scI s)) (chN (rA A k oth (qN A - (l + 1)) s o)) (qC A) 0)))), some (.int (nI e)), none, none], [], (SH, mkM I1 J1 T), 0, 0) := by
        intro m
        induction m with
        | zero =>
          intro e I1 J1 he f1 j1 m1
          have he : e = 5 := by omega
          subst he
          exact go_190 (d := d + (l + 2)) (g I1 J1 f1 j1 m1)
        | succ m ihm =>
          intro e I1 J1 he f1 j1 m1
          have he5 : e < 5 := by omega
          have sle := shN_le A oth (qC A) 0 (qN A - (l + 1)) s o (rA A k oth (qN A - (l + 1)) s o) e he5
          have bs : ∀ j, bsum A oth (qC A) 0 (qN A - (l + 1)) (wN A k oth j l) s o (rA A k oth (qN A - (l + 1)) s o) (e + 1) = bsum A oth (qC A) 0 (qN A - (l + 1)) (wN A k oth j l) s o (rA A k oth (qN A - (l + 1)) s o) e + shN A oth (qC A) 0 (qN A - (l + 1)) s o (rA A k oth (qN A - (l + 1)) s o) e * wN A k oth j l (scN s e) (nxtF A (aftF A o (rA A k oth (qN A - (l + 1)) s o)) e 0) := fun j => rfl
          refine go_126 (d := d + (l + 2)) (nI_nlt (a := 4) (b := e) (by omega) (by omega)) ?_
          rw [shOf_c A oth (qC A) 0 (qN A - (l + 1)) s o (rA A k oth (qN A - (l + 1)) s o) e he5]
          refine ⟨fun c => ?_, fun c => ?_⟩
          · have z : shN A oth (qC A) 0 (qN A - (l + 1)) s o (rA A k oth (qN A - (l + 1)) s o) e = 0 := by
              rcases Nat.eq_zero_or_pos (shN A oth (qC A) 0 (qN A - (l + 1)) s o (rA A k oth (qN A - (l + 1)) s o) e) with q | q
              · exact q
              · exact absurd c (nI_nle q (by omega))
            rw [nI_1]
            refine ihm (e + 1) I1 J1 (by omega) f1 j1 (fun j hj => ?_)
            rw [bs j, z, Nat.zero_mul, Nat.add_zero]
            exact m1 j hj
          · obtain ⟨n1, n2, n3, _⟩ := nxt_all (M := I1) (e := e) (pace := 0) c1 hA he5 (by omega)
            have n3 := n3 (fun j hj => by rw [f1 4 rfl]; exact hR.2.2.2.2.2.2.1 j hj)
            rw [nI_1, show qN A - (l + 1) + 1 = qN A - l by omega, (sc_c hs he5).1, show v_X7_codeBehind (dI (aftF A o (rA A k oth (qN A - (l + 1)) s o))) (nI e) (0 : Int32) I1 = dI (nxtF A (aftF A o (rA A k oth (qN A - (l + 1)) s o)) e 0) from n3, nI_l (by omega), lN_mul]
            refine ih d (scN s e) _ _ _ I1 J1 T _ (hR.fr rfl f1) (scN_lt hs) n1 (by omega) m1 (fun I2 J2 f2 j2 m2 => ?_)
            refine go_184 (d := d + (l + 2)) ?_
            rw [nI_1]
            refine ihm (e + 1) I2 J2 (by omega) (f1.trans f2) (j1.trans j2) (fun j hj => ?_)
            rw [m2 j hj, bs j, Nat.mul_add, Nat.mul_assoc, Nat.add_assoc]
      exact loop 5 0 I3 J rfl (f12.trans f3) (Fj.rfl' _ _) hE
    · rw [hR.1] at c
      exact absurd (nI_lt (by omega) (by omega)) c
theorem go_at {A : Tm} {k oth : Nat} (hA : BD A) (hk : k < 4) (hoth : oth < 3) {d l s o : Nat} {I : Nat → Nat → Int32} {J : Nat → Nat → Int64} {T : Nat → Nat → Nat} {Q : Option Value → Mem → Prop} (hl : l ≤ qN A) (hR : RC A I T) (hs : s < 5) (ho : CD o) (hm : mdN o ≤ qC A) (hz : ∀ j, j < 3 → J 74 j = 0) (g : ∀ I' J', Fr [10, 11, 12] I I' → Fj [74] J J' → (∀ j, j < 3 → J' 74 j = lN (wN A k oth j l s o)) → Q none (SH, mkM I' J' T)) : Ev mt aM (d + 11) 121 [.ref 73, .int (nI k), .int (nI oth), .int (nI (qN A - l)), .int (scI s), .int (dI o), .long (1 : Int64)] (SH, mkM I J T) Q := by
  have h5 := hA.1.2
  have e : d + 11 = (d + (5 - l)) + (l + 6) := by omega
  rw [e]
  refine go_ok hA hk hoth l hl _ s o 1 (fun _ => 0) I J T Q hR hs ho hm hz (fun I1 J1 f1 j1 m1 => g I1 J1 f1 j1 (fun j hj => ?_))
  rw [m1 j hj, Nat.one_mul, Nat.zero_add]
theorem val_c {A : Tm} {k oth l s o : Nat} {I : Nat → Nat → Int32} {J : Nat → Nat → Int64} {T : Nat → Nat → Nat} (hA : BD A) (hR : RC A I T) (m : ∀ j, j < 3 → J 74 j = lN (wN A k oth j l s o)) : v_X10_value I J = lN (rV A k oth l s o) := by
  have hW := hA.2.2.2.1
  have w0 := hW 0 (by omega)
  have w1 := hW 1 (by omega)
  have w2 := hW 2 (by omega)
  have r := hR.2.2.2.1
  show J 74 0 * (I 1 3).toInt64 + J 74 1 * (I 1 4).toInt64 + J 74 2 * (I 1 5).toInt64 = _
  rw [m 0 (by omega), m 1 (by omega), m 2 (by omega), r 0 (by omega), r 1 (by omega), r 2 (by omega), nI_l (by omega), nI_l (by omega), nI_l (by omega), lN_mul, lN_mul, lN_mul, lN_add, lN_add, rV_wN]
/-- what is kept of the first STATE's VALUES -/
def IW (A : Tm) (J : Nat → Nat → Int64) : Prop := ∀ k oth, k < 4 → oth < 3 → J 75 (3 * k + oth) = 0 ∨ J 75 (3 * k + oth) = lN (rV A k oth (qN A) 2 1536 + 1)
theorem IW.fr {l : List Nat} {A : Tm} {J J' : Nat → Nat → Int64} (hl : l.elem 75 = false) (hf : Fj l J J') (h : IW A J) : IW A J' := by
  unfold IW
  rw [hf _ hl]
  exact h
theorem ev_wfirst {A : Tm} {k oth : Nat} (hA : BD A) (hk : k < 4) (hoth : oth < 3) {d : Nat} {I : Nat → Nat → Int32} {J : Nat → Nat → Int64} {T : Nat → Nat → Nat} {Q : Option Value → Mem → Prop} (hR : RC A I T) (hW : IW A J) (g : ∀ I' J', Fr [10, 11, 12] I I' → Fj [74, 75] J J' → IW A J' → Q (some (.long (lN (rV A k oth (qN A) 2 1536)))) (SH, mkM I' J' T)) : Ev mt aM (d + 12) 117 [.ref 73, .int (nI k), .int (nI oth)] (SH, mkM I J T) Q := by
  have hsub : ∀ x : Nat, lN (x + 1) - (1 : Int64) = lN x := fun x => lN_sub (Nat.le_add_left _ _)
  refine Ev.intro mX10_first rfl rfl (wfi_0 (d := d + 7) ?_)
  rw [show (3 : Int32) = nI 3 from rfl, pk_mul, nI_add]
  have eJ : v_X5_longAt_75 (nI (3 * k + oth)) J = J 75 (3 * k + oth) := by
    show J 75 (nI (3 * k + oth)).toNatClampNeg = _
    rw [nI_clamp (by omega)]
  rw [eJ]
  refine ⟨vp_in_nI (by omega) (by omega), fun c => ?_, fun c => ?_⟩
  · refine ev_clear74 (d := d + 10) (wfi_30 (d := d + 7) ?_)
    have hh := go_at (d := d) (l := qN A) (s := 2) (o := 1536) (I := I) (J := zj J 74 3) (T := T) hA hk hoth (Nat.le_refl _) hR (by omega) cd1536.1 (by rw [cd1536.2.1]; omega) (fun j hj => zj_at hj) (Q := fun r m1 => Go none aM (Ev mt aM (d + 7 + 4)) mX10_first Q (42, [some (.ref 73), some (.int (nI k)), some (.int (nI oth)), some (.int (nI (3 * k + oth))), some (.long (J 75 (3 * k + oth))), none], r.toList ++ [], m1, 0, 0)) (fun I1 J1 f1 j1 m1 => wfi_42 (d := d + 7) ⟨vp_in_nI (by omega) (by omega), ?_⟩)
    · rw [Nat.sub_self, cd1536.2.2] at hh
      exact hh
    · rw [val_c hA (hR.fr rfl f1) m1, lN_1, hsub, nI_clamp (by omega)]
      have jz : Fj [74, 75] J J1 := ((Fj.rfl' [74, 75] J).z rfl).trans (j1.sub rfl)
      refine g I1 _ f1 (jz.to rfl) (fun k' oth' hk' ho' => ?_)
      by_cases q : 3 * k' + oth' = 3 * k + oth
      · have e1 : k' = k := by omega
        have e2 : oth' = oth := by omega
        subst e1 e2
        exact Or.inr sj_at
      · rw [sj_ne q, j1 75 rfl, zj_row (by omega)]
        exact hW k' oth' hk' ho'
  · rcases hW k oth hk hoth with q | q
    · exact absurd ((lg_cmp_eq _ _).mpr q) c
    · rw [q, hsub]
      exact g I J (Fr.rfl' _ _) (Fj.rfl' _ _) hW
theorem ev_from {A : Tm} {k oth : Nat} (hA : BD A) (hk : k < 4) (hoth : oth < 3) {d l s o : Nat} {I : Nat → Nat → Int32} {J : Nat → Nat → Int64} {T : Nat → Nat → Nat} {Q : Option Value → Mem → Prop} (hl : l ≤ qN A) (hR : RC A I T) (hs : s < 5) (ho : CD o) (hm : mdN o ≤ qC A) (g : ∀ I' J', Fr [10, 11, 12] I I' → Fj [74] J J' → (∀ j, j < 3 → J' 74 j = lN (wN A k oth j l s o)) → Q none (SH, mkM I' J' T)) : Ev mt aM (d + 12) 118 [.ref 73, .int (nI k), .int (nI (qN A - l)), .int (scI s), .int (dI o), .int (nI oth)] (SH, mkM I J T) Q := by
  refine Ev.intro mX10_from rfl rfl (wfr_0 (d := d + 7) (ev_clear74 (d := d + 10) (wfr_7 (d := d + 7) ?_)))
  refine go_at (d := d) hA hk hoth hl hR hs ho hm (fun j hj => zj_at hj) (fun I1 J1 f1 j1 m1 => wfr_19 (d := d + 7) (g I1 J1 f1 (((Fj.rfl' [74] J).z rfl).trans j1) m1))
theorem ev_wforget {d : Nat} {A : Tm} {I : Nat → Nat → Int32} {J : Nat → Nat → Int64} {T : Nat → Nat → Nat} {Q : Option Value → Mem → Prop} (g : ∀ J', Fj [75] J J' → IW A J' → Q none (SH, mkM I J' T)) : Ev mt aM (d + 5) 116 [.ref 73] (SH, mkM I J T) Q := by
  refine Ev.intro mX10_forget rfl rfl (wfo_0 (d := d) (ev_clear75 (wfo_7 (d := d) ?_)))
  exact g _ ((Fj.rfl' _ _).z rfl) (fun k oth hk ho => Or.inl (zj_at (by omega)))
