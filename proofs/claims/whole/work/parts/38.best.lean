/-! BEST in the class: the memo, by PERIODS that are left. -/
theorem pf_lI {a : Nat} (h : a < 2 ^ 63) : (lN a).toInt = (a : Int) := pk_lT h
theorem pf_shr {a d : Nat} {D : Int64} (hD : (D.toBitVec.smod 64).toNat = d) (h : a < 2 ^ 62) : lN a >>> D = lN (a / 2 ^ d) := by
  have hd : a / 2 ^ d ≤ a := Nat.div_le_self _ _
  apply Int64.toInt_inj.mp
  have e : (lN a >>> D).toInt = (lN a).toInt >>> d := by
    rw [← hD]
    exact BitVec.toInt_sshiftRight ..
  rw [e, Int.shiftRight_eq_div_pow, pf_lI (by omega), pf_lI (by omega)]
  rfl
def Fj (l : List Nat) (J J' : Nat → Nat → Int64) : Prop := ∀ o, l.elem o = false → J' o = J o
theorem sj_row {J : Nat → Nat → Int64} {o b q : Nat} {x : Int64} (h : q ≠ o) : sj J o b x q = J q := by
  funext j
  unfold sj
  rw [if_neg (fun e => h e.1)]
theorem sj_at {J : Nat → Nat → Int64} {o b : Nat} {x : Int64} : sj J o b x o b = x := by
  unfold sj
  rw [if_pos ⟨rfl, rfl⟩]
theorem sj_ne {J : Nat → Nat → Int64} {o b j : Nat} {x : Int64} (h : j ≠ b) : sj J o b x o j = J o j := by
  unfold sj
  rw [if_neg (fun e => h e.2)]
theorem Fj.rfl' (l : List Nat) (J : Nat → Nat → Int64) : Fj l J J := fun _ _ => rfl
theorem Fj.trans {l : List Nat} {J J1 J2 : Nat → Nat → Int64} (h : Fj l J J1) (h2 : Fj l J1 J2) : Fj l J J2 := fun o ho => (h2 o ho).trans (h o ho)
theorem Fj.to {l : List Nat} {J J' : Nat → Nat → Int64} {o b : Nat} {x : Int64} (ho : l.elem o = true) (h : Fj l J J') : Fj l J (sj J' o b x) := fun q hq => (sj_row (fun e => by subst e; rw [ho] at hq; cases hq)).trans (h q hq)
theorem Fj.sub {l l2 : List Nat} {J J' : Nat → Nat → Int64} (hs : l.all (fun o => l2.elem o) = true) (h : Fj l J J') : Fj l2 J J' := by
  intro o ho
  apply h
  cases hc : l.elem o with
  | false => rfl
  | true =>
    have h1 := List.all_eq_true.mp hs o (List.elem_iff.mp hc)
    rw [h1] at ho
    cases ho
/-- a row of longs is cleared -/
def zj (J : Nat → Nat → Int64) (o n : Nat) : Nat → Nat → Int64 := fun o' b' => if o' = o ∧ b' < n then 0 else J o' b'
theorem zj_row {J : Nat → Nat → Int64} {o n q : Nat} (h : q ≠ o) : zj J o n q = J q := by
  funext j
  unfold zj
  rw [if_neg (fun e => h e.1)]
theorem zj_at {J : Nat → Nat → Int64} {o n b : Nat} (h : b < n) : zj J o n o b = 0 := if_pos ⟨rfl, h⟩
theorem Fj.z {l : List Nat} {J J' : Nat → Nat → Int64} {o n : Nat} (ho : l.elem o = true) (h : Fj l J J') : Fj l J (zj J' o n) := fun q hq => (zj_row (fun e => by subst e; rw [ho] at hq; cases hq)).trans (h q hq)
theorem zj_0 (J : Nat → Nat → Int64) (o : Nat) : zj J o 0 = J := by
  funext o' b'
  exact if_neg (fun q => absurd q.2 (Nat.not_lt_zero _))
theorem zj_s (J : Nat → Nat → Int64) (o i : Nat) : sj (zj J o i) o i 0 = zj J o (i + 1) := by
  funext o' b'
  unfold sj zj
  by_cases h : o' = o ∧ b' = i
  · rw [if_pos h, if_pos ⟨h.1, by omega⟩]
  · rw [if_neg h]
    by_cases h2 : o' = o ∧ b' < i
    · rw [if_pos h2, if_pos ⟨h2.1, by omega⟩]
    · rw [if_neg h2, if_neg (fun q => by
        by_cases hb : b' = i
        · exact h ⟨q.1, hb⟩
        · exact h2 ⟨q.1, by omega⟩)]
set_option maxRecDepth 20000 in
theorem hel_0 {d : Nat} {per sc c : Int32} {I : Nat → Nat → Int32} {J : Nat → Nat → Int64} {T : Nat → Nat → Nat} {Q : Option Value → Mem → Prop} (hyp : ((per < I 1 0 → (vp_in (((((c / (1000 : Int32)) <<< ((9 : Int32) &&& 31)) ||| (((c / (100 : Int32)) - (c / (100 : Int32)) / (10 : Int32) * (10 : Int32)) <<< ((6 : Int32) &&& 31))) ||| (((c / (10 : Int32)) - (c / (10 : Int32)) / (10 : Int32) * (10 : Int32)) <<< ((3 : Int32) &&& 31))) ||| (c - c / (10 : Int32) * (10 : Int32))) 2048 ∧ (vp_in (v_X0_slotOf per sc c I) 7100 ∧ ((lg_cmp (v_X5_longAt_71 (v_X0_slotOf per sc c I) J) (0 : Int64) = 0 → Ev mt aM (d + 4) 11 [.ref 69, .int per, .int sc, .int c] (SH, mkM I J T) (fun r m1 => Go none aM (Ev mt aM (d + 4)) mX0_held Q (59, [some (.ref 69), some (.int per), some (.int sc), some (.int c), some (.int (v_X0_slotOf per sc c I)), some (.long (v_X5_longAt_71 (v_X0_slotOf per sc c I) J)), none], r.toList ++ [], m1, 0, 0))) ∧ ((¬ (lg_cmp (v_X5_longAt_71 (v_X0_slotOf per sc c I) J) (0 : Int64) = 0)) → Q (some (.long (v_X5_longAt_71 (v_X0_slotOf per sc c I) J))) (SH, mkM I J T)))))) ∧ ((¬ (per < I 1 0)) → Q (some (.long ((64 : Int64) * ((v_X7_worthOf sc I).toInt64)))) (SH, mkM I J T)))) : Go none aM (Ev mt aM (d + 4)) mX0_held Q (0, [some (.ref 69), some (.int per), some (.int sc), some (.int c), none, none, none], [], (SH, mkM I J T), 0, 0) := by
  refine Go.of_run (Ev.mono _) 5 _ ?_
  show Go none aM (Ev mt aM (d + 4)) mX0_held Q (if per < I 1 0 then 25 else 11, [some (.ref 69), some (.int per), some (.int sc), some (.int c), none, none, none], [], (SH, mkM I J T), 0, 0)
  rcases Decidable.em (per < I 1 0) with c1 | c1
  · rw [if_pos c1]
    refine Go.of_run (Ev.mono _) 5 _ ?_
    refine ⟨Nat.le_of_ble_eq_true rfl, ev_X0_slotOf (hyp.1 c1).1 ?_⟩
    show Go none aM (Ev mt aM (d + 4)) mX0_held Q (32, [some (.ref 69), some (.int per), some (.int sc), some (.int c), none, none, none], [.int (v_X0_slotOf per sc c I)], (SH, mkM I J T), 0, 0)
    refine Go.of_run (Ev.mono _) 5 _ ?_
    refine ⟨Nat.le_of_ble_eq_true rfl, ev_X5_longAt_71 (hyp.1 c1).2.1 ?_⟩
    show Go none aM (Ev mt aM (d + 4)) mX0_held Q (43, [some (.ref 69), some (.int per), some (.int sc), some (.int c), some (.int (v_X0_slotOf per sc c I)), none, none], [.long (v_X5_longAt_71 (v_X0_slotOf per sc c I) J)], (SH, mkM I J T), 0, 0)
    refine Go.of_run (Ev.mono _) 5 _ ?_
    show Go none aM (Ev mt aM (d + 4)) mX0_held Q (if lg_cmp (v_X5_longAt_71 (v_X0_slotOf per sc c I) J) (0 : Int64) = 0 then 52 else 72, [some (.ref 69), some (.int per), some (.int sc), some (.int c), some (.int (v_X0_slotOf per sc c I)), some (.long (v_X5_longAt_71 (v_X0_slotOf per sc c I) J)), none], [], (SH, mkM I J T), 0, 0)
    rcases Decidable.em (lg_cmp (v_X5_longAt_71 (v_X0_slotOf per sc c I) J) (0 : Int64) = 0) with c2 | c2
    · rw [if_pos c2]
      refine Go.of_run (Ev.mono _) 5 _ ?_
      refine ⟨Nat.le_of_ble_eq_true rfl, ((hyp.1 c1).2.2.1 c2)⟩
    · rw [if_neg c2]
      refine Go.of_run (Ev.mono _) 2 _ ?_
      refine ⟨trivial, ?_⟩
      show Q (some (.long (v_X5_longAt_71 (v_X0_slotOf per sc c I) J))) (SH, mkM I J T)
      exact ((hyp.1 c1).2.2.2 c2)
  · rw [if_neg c1]
    refine Go.of_run (Ev.mono _) 5 _ ?_
    refine ⟨Nat.le_of_ble_eq_true rfl, ev_X7_worthOf ?_⟩
    show Go none aM (Ev mt aM (d + 4)) mX0_held Q (22, [some (.ref 69), some (.int per), some (.int sc), some (.int c), none, none, none], [.int (v_X7_worthOf sc I), .long (64 : Int64)], (SH, mkM I J T), 0, 0)
    refine Go.of_run (Ev.mono _) 3 _ ?_
    refine ⟨trivial, ?_⟩
    show Q (some (.long ((64 : Int64) * ((v_X7_worthOf sc I).toInt64)))) (SH, mkM I J T)
    exact (hyp.2 c1)
set_option maxRecDepth 20000 in
theorem ev_X5_putLong_71 {d : Nat} {a1 : Int32} {a2 : Int64} {I : Nat → Nat → Int32} {J : Nat → Nat → Int64} {T : Nat → Nat → Nat} {Q : Option Value → Mem → Prop} (h1 : vp_in a1 7100) (h : Q none (SH, mkM I (sj J 71 a1.toNatClampNeg a2) T)) : Ev mt aM (d + 1) 58 [.ref 71, .int a1, .long a2] (SH, mkM I J T) Q := by
  refine Ev.intro mX5_putLong rfl rfl ?_
  show Go none aM (Ev mt aM d) mX5_putLong Q (0, [some (.ref 71), some (.int a1), some (.long a2), none], [], (SH, mkM I J T), 0, 0)
  refine Go.of_run (Ev.mono _) 4 _ ?_
  show Go none aM (Ev mt aM d) mX5_putLong Q (if a1 < 0 then 18 else 8, [some (.ref 71), some (.int a1), some (.long a2), none], [], (SH, mkM I J T), 0, 0)
  rw [if_neg (vin_lo h1)]
  refine Go.of_run (Ev.mono _) 4 _ ?_
  show Go none aM (Ev mt aM d) mX5_putLong Q (if (7100 : Int32) ≤ a1 then 18 else 14, [some (.ref 71), some (.int a1), some (.long a2), none], [], (SH, mkM I J T), 0, 0)
  rw [if_neg (vin_hi h1 rfl)]
  refine Go.of_run (Ev.mono _) 4 _ ?_
  refine ⟨h1, ?_⟩
  refine go_sj rfl ?_
  show Go none aM (Ev mt aM d) mX5_putLong Q (18, [some (.ref 71), some (.int a1), some (.long a2), none], [], (SH, mkM I (sj J 71 a1.toNatClampNeg a2) T), 0, 0)
  refine Go.of_run (Ev.mono _) 1 _ ?_
  refine ⟨trivial, ?_⟩
  show Q none (SH, mkM I (sj J 71 a1.toNatClampNeg a2) T)
  exact h
set_option maxRecDepth 20000 in
theorem hel_59 {d : Nat} {per sc c sl : Int32} {x y : Int64} {I : Nat → Nat → Int32} {J : Nat → Nat → Int64} {T : Nat → Nat → Nat} {Q : Option Value → Mem → Prop} (hyp : (vp_in sl 7100 ∧ Q (some (.long x)) (SH, mkM I (sj J 71 sl.toNatClampNeg x) T))) : Go none aM (Ev mt aM (d + 4)) mX0_held Q (59, [some (.ref 69), some (.int per), some (.int sc), some (.int c), some (.int sl), some (.long y), none], [.long x], (SH, mkM I J T), 0, 0) := by
  refine Go.of_run (Ev.mono _) 6 _ ?_
  refine ⟨Nat.le_of_ble_eq_true rfl, ev_X5_putLong_71 hyp.1 ?_⟩
  show Go none aM (Ev mt aM (d + 4)) mX0_held Q (72, [some (.ref 69), some (.int per), some (.int sc), some (.int c), some (.int sl), some (.long x), none], [], (SH, mkM I (sj J 71 sl.toNatClampNeg x) T), 0, 0)
  refine Go.of_run (Ev.mono _) 2 _ ?_
  refine ⟨trivial, ?_⟩
  show Q (some (.long x)) (SH, mkM I (sj J 71 sl.toNatClampNeg x) T)
  exact hyp.2
set_option maxRecDepth 20000 in
theorem sea_0 {d : Nat} {per sc c : Int32} {I : Nat → Nat → Int32} {J : Nat → Nat → Int64} {T : Nat → Nat → Nat} {Q : Option Value → Mem → Prop} (hyp : Ev mt aM (d + 4) 27 [.ref 9, .int (I 69 6), .int per, .int sc] (SH, mkM I J T) (fun r m1 => Go none aM (Ev mt aM (d + 4)) mX0_search Q (13, [some (.ref 69), some (.int per), some (.int sc), some (.int c), none, none, none, none, none, none, none, none, none, none], r.toList ++ [], m1, 0, 0))) : Go none aM (Ev mt aM (d + 4)) mX0_search Q (0, [some (.ref 69), some (.int per), some (.int sc), some (.int c), none, none, none, none, none, none, none, none, none, none], [], (SH, mkM I J T), 0, 0) := by
  refine Go.of_run (Ev.mono _) 7 _ ?_
  refine ⟨Nat.le_of_ble_eq_true rfl, hyp⟩
set_option maxRecDepth 20000 in
theorem sea_13 {d : Nat} {per sc c v : Int32} {I : Nat → Nat → Int32} {J : Nat → Nat → Int64} {T : Nat → Nat → Nat} {Q : Option Value → Mem → Prop} (hyp : Go none aM (Ev mt aM (d + 4)) mX0_search Q (36, [some (.ref 69), some (.int per), some (.int sc), some (.int c), some (.int v), some (.long (-1 : Int64)), none, some (.int (0 : Int32)), some (.ref 3000), some (.int (13 : Int32)), some (.int (0 : Int32)), none, none, none], [], (SH, mkM I J T), 0, 0)) : Go none aM (Ev mt aM (d + 4)) mX0_search Q (13, [some (.ref 69), some (.int per), some (.int sc), some (.int c), none, none, none, none, none, none, none, none, none, none], [.int v], (SH, mkM I J T), 0, 0) := by
  refine Go.of_run (Ev.mono _) 12 _ ?_
  exact hyp
set_option maxRecDepth 20000 in
theorem sea_36 {d : Nat} {per sc c st b i : Int32} {g : Int64} {I : Nat → Nat → Int32} {J : Nat → Nat → Int64} {T : Nat → Nat → Nat} {Q : Option Value → Mem → Prop} (hi : ¬ (13 : Int32) ≤ i) (hv : vp_in i 13) (hyp : ((v_X7_mayBe c (actF i.toNatClampNeg) (I 69 7) (I 69 8) = 0 → Go none aM (Ev mt aM (d + 4)) mX0_search Q (36, [some (.ref 69), some (.int per), some (.int sc), some (.int c), some (.int st), some (.long g), none, some (.int b), some (.ref 3000), some (.int (13 : Int32)), some (.int (i + 1)), none, none, none], [], (SH, mkM I J T), 0, 0)) ∧ ((¬ (v_X7_mayBe c (actF i.toNatClampNeg) (I 69 7) (I 69 8) = 0)) → Ev mt aM (d + 4) 12 [.ref 69, .int per, .int sc, .int c, .int (actF i.toNatClampNeg), .int st] (SH, mkM I J T) (fun r m1 => Go none aM (Ev mt aM (d + 4)) mX0_search Q (78, [some (.ref 69), some (.int per), some (.int sc), some (.int c), some (.int st), some (.long g), none, some (.int b), some (.ref 3000), some (.int (13 : Int32)), some (.int i), some (.int (actF i.toNatClampNeg)), none, none], r.toList ++ [], m1, 0, 0))))) : Go none aM (Ev mt aM (d + 4)) mX0_search Q (36, [some (.ref 69), some (.int per), some (.int sc), some (.int c), some (.int st), some (.long g), none, some (.int b), some (.ref 3000), some (.int (13 : Int32)), some (.int i), none, none, none], [], (SH, mkM I J T), 0, 0) := by
  refine Go.of_run (Ev.mono _) 3 _ ?_
  show Go none aM (Ev mt aM (d + 4)) mX0_search Q (if (13 : Int32) ≤ i then 102 else 43, [some (.ref 69), some (.int per), some (.int sc), some (.int c), some (.int st), some (.long g), none, some (.int b), some (.ref 3000), some (.int (13 : Int32)), some (.int i), none, none, none], [], (SH, mkM I J T), 0, 0)
  rw [if_neg hi]
  refine Go.of_run (Ev.mono _) 3 _ ?_
  refine ⟨hv, ?_⟩
  show Go none aM (Ev mt aM (d + 4)) mX0_search Q (48, [some (.ref 69), some (.int per), some (.int sc), some (.int c), some (.int st), some (.long g), none, some (.int b), some (.ref 3000), some (.int (13 : Int32)), some (.int i), none, none, none], [.int (actF i.toNatClampNeg)], (SH, mkM I J T), 0, 0)
  refine Go.of_run (Ev.mono _) 8 _ ?_
  refine ⟨Nat.le_of_ble_eq_true rfl, ev_X7_mayBe ?_⟩
  show Go none aM (Ev mt aM (d + 4)) mX0_search Q (64, [some (.ref 69), some (.int per), some (.int sc), some (.int c), some (.int st), some (.long g), none, some (.int b), some (.ref 3000), some (.int (13 : Int32)), some (.int i), some (.int (actF i.toNatClampNeg)), none, none], [.int (v_X7_mayBe c (actF i.toNatClampNeg) (I 69 7) (I 69 8))], (SH, mkM I J T), 0, 0)
  refine Go.of_run (Ev.mono _) 1 _ ?_
  show Go none aM (Ev mt aM (d + 4)) mX0_search Q (if v_X7_mayBe c (actF i.toNatClampNeg) (I 69 7) (I 69 8) = 0 then 96 else 67, [some (.ref 69), some (.int per), some (.int sc), some (.int c), some (.int st), some (.long g), none, some (.int b), some (.ref 3000), some (.int (13 : Int32)), some (.int i), some (.int (actF i.toNatClampNeg)), none, none], [], (SH, mkM I J T), 0, 0)
  rcases Decidable.em (v_X7_mayBe c (actF i.toNatClampNeg) (I 69 7) (I 69 8) = 0) with c1 | c1
  · rw [if_pos c1]
    refine Go.of_run (Ev.mono _) 2 _ ?_
    exact Go.weak (Ev.mono _) (LLe.cons (LLe.cons (LLe.cons (LLe.cons (LLe.cons (LLe.cons (LLe.cons (LLe.cons (LLe.cons (LLe.cons (LLe.cons (LLe.drop (LLe.cons (LLe.cons LLe.nil)))))))))))))) (hyp.1 c1)
  · rw [if_neg c1]
    refine Go.of_run (Ev.mono _) 7 _ ?_
    refine ⟨Nat.le_of_ble_eq_true rfl, (hyp.2 c1)⟩
set_option maxRecDepth 20000 in
theorem sea_78 {d : Nat} {per sc c st b i a : Int32} {g s : Int64} {I : Nat → Nat → Int32} {J : Nat → Nat → Int64} {T : Nat → Nat → Nat} {Q : Option Value → Mem → Prop} (hyp : Go none aM (Ev mt aM (d + 4)) mX0_search Q (36, [some (.ref 69), some (.int per), some (.int sc), some (.int c), some (.int st), some (.long (if lg_cmp s g ≤ 0 then g else s)), none, some (.int (if lg_cmp s g ≤ 0 then b else a)), some (.ref 3000), some (.int (13 : Int32)), some (.int (i + 1)), none, none, none], [], (SH, mkM I J T), 0, 0)) : Go none aM (Ev mt aM (d + 4)) mX0_search Q (78, [some (.ref 69), some (.int per), some (.int sc), some (.int c), some (.int st), some (.long g), none, some (.int b), some (.ref 3000), some (.int (13 : Int32)), some (.int i), some (.int a), none, none], [.long s], (SH, mkM I J T), 0, 0) := by
  refine Go.of_run (Ev.mono _) 5 _ ?_
  show Go none aM (Ev mt aM (d + 4)) mX0_search Q (if lg_cmp s g ≤ 0 then 96 else 88, [some (.ref 69), some (.int per), some (.int sc), some (.int c), some (.int st), some (.long g), none, some (.int b), some (.ref 3000), some (.int (13 : Int32)), some (.int i), some (.int a), some (.long s), none], [], (SH, mkM I J T), 0, 0)
  have G2 : Go none aM (Ev mt aM (d + 4)) mX0_search Q (96, [some (.ref 69), some (.int per), some (.int sc), some (.int c), some (.int st), some (.long (if lg_cmp s g ≤ 0 then g else s)), none, some (.int (if lg_cmp s g ≤ 0 then b else a)), some (.ref 3000), some (.int (13 : Int32)), some (.int i), none, none, none], [], (SH, mkM I J T), 0, 0) := by
    refine Go.of_run (Ev.mono _) 2 _ ?_
    exact hyp
  rcases Decidable.em (lg_cmp s g ≤ 0) with c1 | c1
  · rw [if_pos c1]
    have e3 : (if lg_cmp s g ≤ 0 then g else s) = g := if_pos c1
    rw [e3] at G2
    have e4 : (if lg_cmp s g ≤ 0 then b else a) = b := if_pos c1
    rw [e4] at G2
    exact Go.weak (Ev.mono _) (LLe.cons (LLe.cons (LLe.cons (LLe.cons (LLe.cons (LLe.cons (LLe.cons (LLe.cons (LLe.cons (LLe.cons (LLe.cons (LLe.drop (LLe.drop (LLe.cons LLe.nil)))))))))))))) G2
  · rw [if_neg c1]
    refine Go.of_run (Ev.mono _) 4 _ ?_
    have e5 : (if lg_cmp s g ≤ 0 then g else s) = s := if_neg c1
    rw [e5] at G2
    have e6 : (if lg_cmp s g ≤ 0 then b else a) = a := if_neg c1
    rw [e6] at G2
    exact Go.weak (Ev.mono _) (LLe.cons (LLe.cons (LLe.cons (LLe.cons (LLe.cons (LLe.cons (LLe.cons (LLe.cons (LLe.cons (LLe.cons (LLe.cons (LLe.drop (LLe.drop (LLe.cons LLe.nil)))))))))))))) G2
set_option maxRecDepth 20000 in
theorem sea_102 {d : Nat} {per sc c st b : Int32} {g : Int64} {I : Nat → Nat → Int32} {J : Nat → Nat → Int64} {T : Nat → Nat → Nat} {Q : Option Value → Mem → Prop} (hyp : Q (some (.long ((((64 : Int64) * g) + b.toInt64) + (1 : Int64)))) (SH, mkM I J T)) : Go none aM (Ev mt aM (d + 4)) mX0_search Q (36, [some (.ref 69), some (.int per), some (.int sc), some (.int c), some (.int st), some (.long g), none, some (.int b), some (.ref 3000), some (.int (13 : Int32)), some (.int (13 : Int32)), none, none, none], [], (SH, mkM I J T), 0, 0) := by
  refine Go.of_run (Ev.mono _) 3 _ ?_
  show Go none aM (Ev mt aM (d + 4)) mX0_search Q (if (13 : Int32) ≤ (13 : Int32) then 102 else 43, [some (.ref 69), some (.int per), some (.int sc), some (.int c), some (.int st), some (.long g), none, some (.int b), some (.ref 3000), some (.int (13 : Int32)), some (.int (13 : Int32)), none, none, none], [], (SH, mkM I J T), 0, 0)
  rw [if_pos (by decide : (13 : Int32) ≤ (13 : Int32))]
  refine Go.of_run (Ev.mono _) 9 _ ?_
  refine ⟨trivial, ?_⟩
  show Q (some (.long ((((64 : Int64) * g) + b.toInt64) + (1 : Int64)))) (SH, mkM I J T)
  exact hyp
set_option maxRecDepth 20000 in
theorem sum_0 {d : Nat} {per sc c a st : Int32} {I : Nat → Nat → Int32} {J : Nat → Nat → Int64} {T : Nat → Nat → Nat} {Q : Option Value → Mem → Prop} (hyp : ((0 < (a - a / (7 : Int32) * (7 : Int32)) → vp_in (v_X7_playerOf (a - a / (7 : Int32) * (7 : Int32))) 5) ∧ ((0 < (a / (7 : Int32)) → vp_in (v_X7_playerOf (a / (7 : Int32))) 5) ∧ Ev mt aM (d + 4) 29 [.ref 9, .int per, .int sc, .int (v_X7_codeAfter c a I), .int (v_X7_changesOf a), .int st, .int (I 69 7), .int (I 69 9)] (SH, mkM I J T) (fun r m1 => Go none aM (Ev mt aM (d + 4)) mX0_sumOf Q (38, [some (.ref 69), some (.int per), some (.int sc), some (.int c), some (.int a), some (.int st), some (.int (v_X7_codeAfter c a I)), none, none, none, none, none, none], r.toList ++ [], m1, 0, 0))))) : Go none aM (Ev mt aM (d + 4)) mX0_sumOf Q (0, [some (.ref 69), some (.int per), some (.int sc), some (.int c), some (.int a), some (.int st), none, none, none, none, none, none, none], [], (SH, mkM I J T), 0, 0) := by
  refine Go.of_run (Ev.mono _) 5 _ ?_
  refine ⟨Nat.le_of_ble_eq_true rfl, ev_X7_codeAfter ⟨hyp.1, hyp.2.1⟩ ?_⟩
  show Go none aM (Ev mt aM (d + 4)) mX0_sumOf Q (10, [some (.ref 69), some (.int per), some (.int sc), some (.int c), some (.int a), some (.int st), none, none, none, none, none, none, none], [.int (v_X7_codeAfter c a I)], (SH, mkM I J T), 0, 0)
  refine Go.of_run (Ev.mono _) 8 _ ?_
  refine ⟨Nat.le_of_ble_eq_true rfl, ev_X7_changesOf ?_⟩
  show Go none aM (Ev mt aM (d + 4)) mX0_sumOf Q (25, [some (.ref 69), some (.int per), some (.int sc), some (.int c), some (.int a), some (.int st), some (.int (v_X7_codeAfter c a I)), none, none, none, none, none, none], [.int (v_X7_changesOf a), .int (v_X7_codeAfter c a I), .int sc, .int per, .ref 9], (SH, mkM I J T), 0, 0)
  refine Go.of_run (Ev.mono _) 6 _ ?_
  refine ⟨Nat.le_of_ble_eq_true rfl, hyp.2.2⟩
set_option maxRecDepth 20000 in
theorem sum_38 {d : Nat} {per sc c a st then_ sh : Int32} {I : Nat → Nat → Int32} {J : Nat → Nat → Int64} {T : Nat → Nat → Nat} {Q : Option Value → Mem → Prop} (hyp : Go none aM (Ev mt aM (d + 4)) mX0_sumOf Q (46, [some (.ref 69), some (.int per), some (.int sc), none, none, none, some (.int then_), some (.int sh), some (.long (0 : Int64)), none, some (.int (0 : Int32)), none, none], [], (SH, mkM I J T), 0, 0)) : Go none aM (Ev mt aM (d + 4)) mX0_sumOf Q (38, [some (.ref 69), some (.int per), some (.int sc), some (.int c), some (.int a), some (.int st), some (.int then_), none, none, none, none, none, none], [.int sh], (SH, mkM I J T), 0, 0) := by
  refine Go.of_run (Ev.mono _) 5 _ ?_
  exact Go.weak (Ev.mono _) (LLe.cons (LLe.cons (LLe.cons (LLe.drop (LLe.drop (LLe.drop (LLe.cons (LLe.cons (LLe.cons (LLe.cons (LLe.cons (LLe.cons (LLe.cons LLe.nil))))))))))))) hyp
set_option maxRecDepth 20000 in
theorem sum_46 {d : Nat} {per sc then_ sh e : Int32} {g : Int64} {I : Nat → Nat → Int32} {J : Nat → Nat → Int64} {T : Nat → Nat → Nat} {Q : Option Value → Mem → Prop} (hi : ¬ (4 : Int32) < e) (hyp : ((v_X2_shareOf sh e ≤ 0 → Go none aM (Ev mt aM (d + 4)) mX0_sumOf Q (46, [some (.ref 69), some (.int per), some (.int sc), none, none, none, some (.int then_), some (.int sh), some (.long g), none, some (.int (e + 1)), none, none], [], (SH, mkM I J T), 0, 0)) ∧ ((¬ (v_X2_shareOf sh e ≤ 0)) → Ev mt aM (d + 4) 10 [.ref 69, .int (per + (1 : Int32)), .int (v_X7_scoreBehind sc e), .int (v_X7_codeBehind then_ e (I 69 9) I)] (SH, mkM I J T) (fun r m1 => Go none aM (Ev mt aM (d + 4)) mX0_sumOf Q (103, [some (.ref 69), some (.int per), some (.int sc), none, none, none, some (.int then_), some (.int sh), some (.long g), none, some (.int e), some (.int (v_X2_shareOf sh e)), some (.int (v_X7_scoreBehind sc e))], r.toList ++ [.long ((v_X2_shareOf sh e).toInt64), .long g], m1, 0, 0))))) : Go none aM (Ev mt aM (d + 4)) mX0_sumOf Q (46, [some (.ref 69), some (.int per), some (.int sc), none, none, none, some (.int then_), some (.int sh), some (.long g), none, some (.int e), none, none], [], (SH, mkM I J T), 0, 0) := by
  refine Go.of_run (Ev.mono _) 3 _ ?_
  show Go none aM (Ev mt aM (d + 4)) mX0_sumOf Q (if (4 : Int32) < e then 116 else 52, [some (.ref 69), some (.int per), some (.int sc), none, none, none, some (.int then_), some (.int sh), some (.long g), none, some (.int e), none, none], [], (SH, mkM I J T), 0, 0)
  rw [if_neg hi]
  refine Go.of_run (Ev.mono _) 3 _ ?_
  refine ⟨Nat.le_of_ble_eq_true rfl, ev_X2_shareOf ?_⟩
  show Go none aM (Ev mt aM (d + 4)) mX0_sumOf Q (59, [some (.ref 69), some (.int per), some (.int sc), none, none, none, some (.int then_), some (.int sh), some (.long g), none, some (.int e), none, none], [.int (v_X2_shareOf sh e)], (SH, mkM I J T), 0, 0)
  refine Go.of_run (Ev.mono _) 3 _ ?_
  show Go none aM (Ev mt aM (d + 4)) mX0_sumOf Q (if v_X2_shareOf sh e ≤ 0 then 110 else 66, [some (.ref 69), some (.int per), some (.int sc), none, none, none, some (.int then_), some (.int sh), some (.long g), none, some (.int e), some (.int (v_X2_shareOf sh e)), none], [], (SH, mkM I J T), 0, 0)
  rcases Decidable.em (v_X2_shareOf sh e ≤ 0) with c1 | c1
  · rw [if_pos c1]
    refine Go.of_run (Ev.mono _) 2 _ ?_
    exact Go.weak (Ev.mono _) (LLe.cons (LLe.cons (LLe.cons (LLe.cons (LLe.cons (LLe.cons (LLe.cons (LLe.cons (LLe.cons (LLe.cons (LLe.cons (LLe.drop (LLe.cons LLe.nil))))))))))))) (hyp.1 c1)
  · rw [if_neg c1]
    refine Go.of_run (Ev.mono _) 3 _ ?_
    refine ⟨Nat.le_of_ble_eq_true rfl, ev_X7_scoreBehind ?_⟩
    show Go none aM (Ev mt aM (d + 4)) mX0_sumOf Q (72, [some (.ref 69), some (.int per), some (.int sc), none, none, none, some (.int then_), some (.int sh), some (.long g), none, some (.int e), some (.int (v_X2_shareOf sh e)), none], [.int (v_X7_scoreBehind sc e)], (SH, mkM I J T), 0, 0)
    refine Go.of_run (Ev.mono _) 16 _ ?_
    refine ⟨Nat.le_of_ble_eq_true rfl, ev_X7_codeBehind ?_⟩
    show Go none aM (Ev mt aM (d + 4)) mX0_sumOf Q (100, [some (.ref 69), some (.int per), some (.int sc), none, none, none, some (.int then_), some (.int sh), some (.long g), none, some (.int e), some (.int (v_X2_shareOf sh e)), some (.int (v_X7_scoreBehind sc e))], [.int (v_X7_codeBehind then_ e (I 69 9) I), .int (v_X7_scoreBehind sc e), .int (per + (1 : Int32)), .ref 69, .long ((v_X2_shareOf sh e).toInt64), .long g], (SH, mkM I J T), 0, 0)
    refine Go.of_run (Ev.mono _) 1 _ ?_
    refine ⟨Nat.le_of_ble_eq_true rfl, (hyp.2 c1)⟩
set_option maxRecDepth 20000 in
theorem sum_103 {d : Nat} {per sc then_ sh e st v : Int32} {g x k : Int64} {I : Nat → Nat → Int32} {J : Nat → Nat → Int64} {T : Nat → Nat → Nat} {Q : Option Value → Mem → Prop} (hyp : Go none aM (Ev mt aM (d + 4)) mX0_sumOf Q (46, [some (.ref 69), some (.int per), some (.int sc), none, none, none, some (.int then_), some (.int sh), some (.long (g + (k * (x >>> ((6 : Int32).toInt64 &&& 63))))), none, some (.int (e + 1)), none, none], [], (SH, mkM I J T), 0, 0)) : Go none aM (Ev mt aM (d + 4)) mX0_sumOf Q (103, [some (.ref 69), some (.int per), some (.int sc), none, none, none, some (.int then_), some (.int sh), some (.long g), none, some (.int e), some (.int st), some (.int v)], [.long x, .long k, .long g], (SH, mkM I J T), 0, 0) := by
  refine Go.of_run (Ev.mono _) 7 _ ?_
  exact Go.weak (Ev.mono _) (LLe.cons (LLe.cons (LLe.cons (LLe.cons (LLe.cons (LLe.cons (LLe.cons (LLe.cons (LLe.cons (LLe.cons (LLe.cons (LLe.drop (LLe.drop LLe.nil))))))))))))) hyp
set_option maxRecDepth 20000 in
theorem sum_116 {d : Nat} {per sc then_ sh : Int32} {g : Int64} {I : Nat → Nat → Int32} {J : Nat → Nat → Int64} {T : Nat → Nat → Nat} {Q : Option Value → Mem → Prop} (hyp : Q (some (.long g)) (SH, mkM I J T)) : Go none aM (Ev mt aM (d + 4)) mX0_sumOf Q (46, [some (.ref 69), some (.int per), some (.int sc), none, none, none, some (.int then_), some (.int sh), some (.long g), none, some (.int (5 : Int32)), none, none], [], (SH, mkM I J T), 0, 0) := by
  refine Go.of_run (Ev.mono _) 3 _ ?_
  show Go none aM (Ev mt aM (d + 4)) mX0_sumOf Q (if (4 : Int32) < (5 : Int32) then 116 else 52, [some (.ref 69), some (.int per), some (.int sc), none, none, none, some (.int then_), some (.int sh), some (.long g), none, some (.int (5 : Int32)), none, none], [], (SH, mkM I J T), 0, 0)
  rw [if_pos (by decide : (4 : Int32) < (5 : Int32))]
  refine Go.of_run (Ev.mono _) 2 _ ?_
  refine ⟨trivial, ?_⟩
  show Q (some (.long g)) (SH, mkM I J T)
  exact hyp
set_option maxRecDepth 20000 in
theorem clr71_0 {d : Nat} {I : Nat → Nat → Int32} {J : Nat → Nat → Int64} {T : Nat → Nat → Nat} {Q : Option Value → Mem → Prop} (hyp : Go none aM (Ev mt aM d) mX5_clear Q (7, [some (.ref 71), some (.int (0 : Int32))], [], (SH, mkM I J T), 0, 0)) : Go none aM (Ev mt aM (d + 0)) mX5_clear Q (0, [some (.ref 71), none], [], (SH, mkM I J T), 0, 0) := by
  refine Go.of_run (Ev.mono _) 4 _ ?_
  exact hyp
set_option maxRecDepth 20000 in
theorem clr71_7 {d : Nat} {i : Int32} {I : Nat → Nat → Int32} {J : Nat → Nat → Int64} {T : Nat → Nat → Nat} {Q : Option Value → Mem → Prop} (hyp : (((7100 : Int32) ≤ i → Q none (SH, mkM I J T)) ∧ ((¬ ((7100 : Int32) ≤ i)) → (vp_in i 7100 ∧ Go none aM (Ev mt aM d) mX5_clear Q (7, [some (.ref 71), some (.int (i + 1))], [], (SH, mkM I (sj J 71 i.toNatClampNeg (0 : Int64)) T), 0, 0))))) : Go none aM (Ev mt aM (d + 0)) mX5_clear Q (7, [some (.ref 71), some (.int i)], [], (SH, mkM I J T), 0, 0) := by
  refine Go.of_run (Ev.mono _) 4 _ ?_
  show Go none aM (Ev mt aM d) mX5_clear Q (if (7100 : Int32) ≤ i then 23 else 13, [some (.ref 71), some (.int i)], [], (SH, mkM I J T), 0, 0)
  rcases Decidable.em ((7100 : Int32) ≤ i) with c1 | c1
  · rw [if_pos c1]
    refine Go.of_run (Ev.mono _) 1 _ ?_
    refine ⟨trivial, ?_⟩
    show Q none (SH, mkM I J T)
    exact (hyp.1 c1)
  · rw [if_neg c1]
    refine Go.of_run (Ev.mono _) 4 _ ?_
    refine ⟨(hyp.2 c1).1, ?_⟩
    refine go_sj rfl ?_
    show Go none aM (Ev mt aM d) mX5_clear Q (17, [some (.ref 71), some (.int i)], [], (SH, mkM I (sj J 71 i.toNatClampNeg (0 : Int64)) T), 0, 0)
    refine Go.of_run (Ev.mono _) 2 _ ?_
    exact (hyp.2 c1).2
set_option maxRecDepth 20000 in
theorem clr72_0 {d : Nat} {I : Nat → Nat → Int32} {J : Nat → Nat → Int64} {T : Nat → Nat → Nat} {Q : Option Value → Mem → Prop} (hyp : Go none aM (Ev mt aM d) mX5_clear Q (7, [some (.ref 72), some (.int (0 : Int32))], [], (SH, mkM I J T), 0, 0)) : Go none aM (Ev mt aM (d + 0)) mX5_clear Q (0, [some (.ref 72), none], [], (SH, mkM I J T), 0, 0) := by
  refine Go.of_run (Ev.mono _) 4 _ ?_
  exact hyp
set_option maxRecDepth 20000 in
theorem clr72_7 {d : Nat} {i : Int32} {I : Nat → Nat → Int32} {J : Nat → Nat → Int64} {T : Nat → Nat → Nat} {Q : Option Value → Mem → Prop} (hyp : (((48 : Int32) ≤ i → Q none (SH, mkM I J T)) ∧ ((¬ ((48 : Int32) ≤ i)) → (vp_in i 48 ∧ Go none aM (Ev mt aM d) mX5_clear Q (7, [some (.ref 72), some (.int (i + 1))], [], (SH, mkM I (sj J 72 i.toNatClampNeg (0 : Int64)) T), 0, 0))))) : Go none aM (Ev mt aM (d + 0)) mX5_clear Q (7, [some (.ref 72), some (.int i)], [], (SH, mkM I J T), 0, 0) := by
  refine Go.of_run (Ev.mono _) 4 _ ?_
  show Go none aM (Ev mt aM d) mX5_clear Q (if (48 : Int32) ≤ i then 23 else 13, [some (.ref 72), some (.int i)], [], (SH, mkM I J T), 0, 0)
  rcases Decidable.em ((48 : Int32) ≤ i) with c1 | c1
  · rw [if_pos c1]
    refine Go.of_run (Ev.mono _) 1 _ ?_
    refine ⟨trivial, ?_⟩
    show Q none (SH, mkM I J T)
    exact (hyp.1 c1)
  · rw [if_neg c1]
    refine Go.of_run (Ev.mono _) 4 _ ?_
    refine ⟨(hyp.2 c1).1, ?_⟩
    refine go_sj rfl ?_
    show Go none aM (Ev mt aM d) mX5_clear Q (17, [some (.ref 72), some (.int i)], [], (SH, mkM I (sj J 72 i.toNatClampNeg (0 : Int64)) T), 0, 0)
    refine Go.of_run (Ev.mono _) 2 _ ?_
    exact (hyp.2 c1).2
set_option maxRecDepth 20000 in
theorem clr74_0 {d : Nat} {I : Nat → Nat → Int32} {J : Nat → Nat → Int64} {T : Nat → Nat → Nat} {Q : Option Value → Mem → Prop} (hyp : Go none aM (Ev mt aM d) mX5_clear Q (7, [some (.ref 74), some (.int (0 : Int32))], [], (SH, mkM I J T), 0, 0)) : Go none aM (Ev mt aM (d + 0)) mX5_clear Q (0, [some (.ref 74), none], [], (SH, mkM I J T), 0, 0) := by
  refine Go.of_run (Ev.mono _) 4 _ ?_
  exact hyp
set_option maxRecDepth 20000 in
theorem clr74_7 {d : Nat} {i : Int32} {I : Nat → Nat → Int32} {J : Nat → Nat → Int64} {T : Nat → Nat → Nat} {Q : Option Value → Mem → Prop} (hyp : (((3 : Int32) ≤ i → Q none (SH, mkM I J T)) ∧ ((¬ ((3 : Int32) ≤ i)) → (vp_in i 3 ∧ Go none aM (Ev mt aM d) mX5_clear Q (7, [some (.ref 74), some (.int (i + 1))], [], (SH, mkM I (sj J 74 i.toNatClampNeg (0 : Int64)) T), 0, 0))))) : Go none aM (Ev mt aM (d + 0)) mX5_clear Q (7, [some (.ref 74), some (.int i)], [], (SH, mkM I J T), 0, 0) := by
  refine Go.of_run (Ev.mono _) 4 _ ?_
  show Go none aM (Ev mt aM d) mX5_clear Q (if (3 : Int32) ≤ i then 23 else 13, [some (.ref 74), some (.int i)], [], (SH, mkM I J T), 0, 0)
  rcases Decidable.em ((3 : Int32) ≤ i) with c1 | c1
  · rw [if_pos c1]
    refine Go.of_run (Ev.mono _) 1 _ ?_
    refine ⟨trivial, ?_⟩
    show Q none (SH, mkM I J T)
    exact (hyp.1 c1)
  · rw [if_neg c1]
    refine Go.of_run (Ev.mono _) 4 _ ?_
    refine ⟨(hyp.2 c1).1, ?_⟩
    refine go_sj rfl ?_
    show Go none aM (Ev mt aM d) mX5_clear Q (17, [some (.ref 74), some (.int i)], [], (SH, mkM I (sj J 74 i.toNatClampNeg (0 : Int64)) T), 0, 0)
    refine Go.of_run (Ev.mono _) 2 _ ?_
    exact (hyp.2 c1).2
set_option maxRecDepth 20000 in
theorem clr75_0 {d : Nat} {I : Nat → Nat → Int32} {J : Nat → Nat → Int64} {T : Nat → Nat → Nat} {Q : Option Value → Mem → Prop} (hyp : Go none aM (Ev mt aM d) mX5_clear Q (7, [some (.ref 75), some (.int (0 : Int32))], [], (SH, mkM I J T), 0, 0)) : Go none aM (Ev mt aM (d + 0)) mX5_clear Q (0, [some (.ref 75), none], [], (SH, mkM I J T), 0, 0) := by
  refine Go.of_run (Ev.mono _) 4 _ ?_
  exact hyp
set_option maxRecDepth 20000 in
theorem clr75_7 {d : Nat} {i : Int32} {I : Nat → Nat → Int32} {J : Nat → Nat → Int64} {T : Nat → Nat → Nat} {Q : Option Value → Mem → Prop} (hyp : (((12 : Int32) ≤ i → Q none (SH, mkM I J T)) ∧ ((¬ ((12 : Int32) ≤ i)) → (vp_in i 12 ∧ Go none aM (Ev mt aM d) mX5_clear Q (7, [some (.ref 75), some (.int (i + 1))], [], (SH, mkM I (sj J 75 i.toNatClampNeg (0 : Int64)) T), 0, 0))))) : Go none aM (Ev mt aM (d + 0)) mX5_clear Q (7, [some (.ref 75), some (.int i)], [], (SH, mkM I J T), 0, 0) := by
  refine Go.of_run (Ev.mono _) 4 _ ?_
  show Go none aM (Ev mt aM d) mX5_clear Q (if (12 : Int32) ≤ i then 23 else 13, [some (.ref 75), some (.int i)], [], (SH, mkM I J T), 0, 0)
  rcases Decidable.em ((12 : Int32) ≤ i) with c1 | c1
  · rw [if_pos c1]
    refine Go.of_run (Ev.mono _) 1 _ ?_
    refine ⟨trivial, ?_⟩
    show Q none (SH, mkM I J T)
    exact (hyp.1 c1)
  · rw [if_neg c1]
    refine Go.of_run (Ev.mono _) 4 _ ?_
    refine ⟨(hyp.2 c1).1, ?_⟩
    refine go_sj rfl ?_
    show Go none aM (Ev mt aM d) mX5_clear Q (17, [some (.ref 75), some (.int i)], [], (SH, mkM I (sj J 75 i.toNatClampNeg (0 : Int64)) T), 0, 0)
    refine Go.of_run (Ev.mono _) 2 _ ?_
    exact (hyp.2 c1).2
set_option maxRecDepth 20000 in
theorem clr82_0 {d : Nat} {I : Nat → Nat → Int32} {J : Nat → Nat → Int64} {T : Nat → Nat → Nat} {Q : Option Value → Mem → Prop} (hyp : Go none aM (Ev mt aM d) mX5_clear Q (7, [some (.ref 82), some (.int (0 : Int32))], [], (SH, mkM I J T), 0, 0)) : Go none aM (Ev mt aM (d + 0)) mX5_clear Q (0, [some (.ref 82), none], [], (SH, mkM I J T), 0, 0) := by
  refine Go.of_run (Ev.mono _) 4 _ ?_
  exact hyp
set_option maxRecDepth 20000 in
theorem clr82_7 {d : Nat} {i : Int32} {I : Nat → Nat → Int32} {J : Nat → Nat → Int64} {T : Nat → Nat → Nat} {Q : Option Value → Mem → Prop} (hyp : (((1024 : Int32) ≤ i → Q none (SH, mkM I J T)) ∧ ((¬ ((1024 : Int32) ≤ i)) → (vp_in i 1024 ∧ Go none aM (Ev mt aM d) mX5_clear Q (7, [some (.ref 82), some (.int (i + 1))], [], (SH, mkM I (sj J 82 i.toNatClampNeg (0 : Int64)) T), 0, 0))))) : Go none aM (Ev mt aM (d + 0)) mX5_clear Q (7, [some (.ref 82), some (.int i)], [], (SH, mkM I J T), 0, 0) := by
  refine Go.of_run (Ev.mono _) 4 _ ?_
  show Go none aM (Ev mt aM d) mX5_clear Q (if (1024 : Int32) ≤ i then 23 else 13, [some (.ref 82), some (.int i)], [], (SH, mkM I J T), 0, 0)
  rcases Decidable.em ((1024 : Int32) ≤ i) with c1 | c1
  · rw [if_pos c1]
    refine Go.of_run (Ev.mono _) 1 _ ?_
    refine ⟨trivial, ?_⟩
    show Q none (SH, mkM I J T)
    exact (hyp.1 c1)
  · rw [if_neg c1]
    refine Go.of_run (Ev.mono _) 4 _ ?_
    refine ⟨(hyp.2 c1).1, ?_⟩
    refine go_sj rfl ?_
    show Go none aM (Ev mt aM d) mX5_clear Q (17, [some (.ref 82), some (.int i)], [], (SH, mkM I (sj J 82 i.toNatClampNeg (0 : Int64)) T), 0, 0)
    refine Go.of_run (Ev.mono _) 2 _ ?_
    exact (hyp.2 c1).2
set_option maxRecDepth 20000 in
theorem tun_0 {d : Nat} {oth mo on pa : Int32} {I : Nat → Nat → Int32} {J : Nat → Nat → Int64} {T : Nat → Nat → Nat} {Q : Option Value → Mem → Prop} (hyp : ((v_X0_keyOf oth mo on pa = I 69 5 → Q none (SH, mkM I J T)) ∧ ((¬ (v_X0_keyOf oth mo on pa = I 69 5)) → Ev mt aM (d + 4) 59 [.ref 71] (SH, mkM (si (si (si (si (si I 69 5 (v_X0_keyOf oth mo on pa)) 69 6 oth) 69 7 mo) 69 8 on) 69 9 pa) J T) (fun r m1 => Go none aM (Ev mt aM (d + 4)) mX0_tune Q (54, [some (.ref 69), some (.int oth), some (.int mo), some (.int on), some (.int pa), some (.int (v_X0_keyOf oth mo on pa))], r.toList ++ [], m1, 0, 0))))) : Go none aM (Ev mt aM (d + 4)) mX0_tune Q (0, [some (.ref 69), some (.int oth), some (.int mo), some (.int on), some (.int pa), none], [], (SH, mkM I J T), 0, 0) := by
  refine Go.of_run (Ev.mono _) 5 _ ?_
  refine ⟨Nat.le_of_ble_eq_true rfl, ev_X0_keyOf ?_⟩
  show Go none aM (Ev mt aM (d + 4)) mX0_tune Q (8, [some (.ref 69), some (.int oth), some (.int mo), some (.int on), some (.int pa), none], [.int (v_X0_keyOf oth mo on pa)], (SH, mkM I J T), 0, 0)
  refine Go.of_run (Ev.mono _) 5 _ ?_
  show Go none aM (Ev mt aM (d + 4)) mX0_tune Q (if v_X0_keyOf oth mo on pa = I 69 5 then 19 else 20, [some (.ref 69), some (.int oth), some (.int mo), some (.int on), some (.int pa), some (.int (v_X0_keyOf oth mo on pa))], [], (SH, mkM I J T), 0, 0)
  rcases Decidable.em (v_X0_keyOf oth mo on pa = I 69 5) with c1 | c1
  · rw [if_pos c1]
    refine Go.of_run (Ev.mono _) 1 _ ?_
    refine ⟨trivial, ?_⟩
    show Q none (SH, mkM I J T)
    exact (hyp.1 c1)
  · rw [if_neg c1]
    refine Go.of_run (Ev.mono _) 3 _ ?_
    refine go_si rfl ?_
    show Go none aM (Ev mt aM (d + 4)) mX0_tune Q (26, [some (.ref 69), some (.int oth), some (.int mo), some (.int on), some (.int pa), some (.int (v_X0_keyOf oth mo on pa))], [], (SH, mkM (si I 69 5 (v_X0_keyOf oth mo on pa)) J T), 0, 0)
    refine Go.of_run (Ev.mono _) 3 _ ?_
    refine go_si rfl ?_
    show Go none aM (Ev mt aM (d + 4)) mX0_tune Q (31, [some (.ref 69), some (.int oth), some (.int mo), some (.int on), some (.int pa), some (.int (v_X0_keyOf oth mo on pa))], [], (SH, mkM (si (si I 69 5 (v_X0_keyOf oth mo on pa)) 69 6 oth) J T), 0, 0)
    refine Go.of_run (Ev.mono _) 3 _ ?_
    refine go_si rfl ?_
    show Go none aM (Ev mt aM (d + 4)) mX0_tune Q (36, [some (.ref 69), some (.int oth), some (.int mo), some (.int on), some (.int pa), some (.int (v_X0_keyOf oth mo on pa))], [], (SH, mkM (si (si (si I 69 5 (v_X0_keyOf oth mo on pa)) 69 6 oth) 69 7 mo) J T), 0, 0)
    refine Go.of_run (Ev.mono _) 3 _ ?_
    refine go_si rfl ?_
    show Go none aM (Ev mt aM (d + 4)) mX0_tune Q (41, [some (.ref 69), some (.int oth), some (.int mo), some (.int on), some (.int pa), some (.int (v_X0_keyOf oth mo on pa))], [], (SH, mkM (si (si (si (si I 69 5 (v_X0_keyOf oth mo on pa)) 69 6 oth) 69 7 mo) 69 8 on) J T), 0, 0)
    refine Go.of_run (Ev.mono _) 3 _ ?_
    refine go_si rfl ?_
    show Go none aM (Ev mt aM (d + 4)) mX0_tune Q (47, [some (.ref 69), some (.int oth), some (.int mo), some (.int on), some (.int pa), some (.int (v_X0_keyOf oth mo on pa))], [], (SH, mkM (si (si (si (si (si I 69 5 (v_X0_keyOf oth mo on pa)) 69 6 oth) 69 7 mo) 69 8 on) 69 9 pa) J T), 0, 0)
    refine Go.of_run (Ev.mono _) 3 _ ?_
    refine ⟨Nat.le_of_ble_eq_true rfl, (hyp.2 c1)⟩
set_option maxRecDepth 20000 in
theorem tun_54 {d : Nat} {oth mo on pa v : Int32} {I : Nat → Nat → Int32} {J : Nat → Nat → Int64} {T : Nat → Nat → Nat} {Q : Option Value → Mem → Prop} (hyp : Q none (SH, mkM I J T)) : Go none aM (Ev mt aM (d + 4)) mX0_tune Q (54, [some (.ref 69), some (.int oth), some (.int mo), some (.int on), some (.int pa), some (.int v)], [], (SH, mkM I J T), 0, 0) := by
  refine Go.of_run (Ev.mono _) 1 _ ?_
  refine ⟨trivial, ?_⟩
  show Q none (SH, mkM I J T)
  exact hyp
set_option maxRecDepth 20000 in
theorem fst_0 {d : Nat} {oth mo on pa : Int32} {I : Nat → Nat → Int32} {J : Nat → Nat → Int64} {T : Nat → Nat → Nat} {Q : Option Value → Mem → Prop} (hyp : (vp_in (v_X0_keyOf oth mo on pa) 48 ∧ ((lg_cmp (v_X5_longAt_72 (v_X0_keyOf oth mo on pa) J) (0 : Int64) = 0 → Ev mt aM (d + 4) 4 [.ref 69, .int oth, .int mo, .int on, .int pa] (SH, mkM I J T) (fun r m1 => Go none aM (Ev mt aM (d + 4)) mX0_first Q (37, [some (.ref 69), some (.int oth), some (.int mo), some (.int on), some (.int pa), some (.int (v_X0_keyOf oth mo on pa)), some (.long (v_X5_longAt_72 (v_X0_keyOf oth mo on pa) J)), none], r.toList ++ [], m1, 0, 0))) ∧ ((¬ (lg_cmp (v_X5_longAt_72 (v_X0_keyOf oth mo on pa) J) (0 : Int64) = 0)) → Q (some (.long ((v_X5_longAt_72 (v_X0_keyOf oth mo on pa) J) - (1 : Int64)))) (SH, mkM I J T))))) : Go none aM (Ev mt aM (d + 4)) mX0_first Q (0, [some (.ref 69), some (.int oth), some (.int mo), some (.int on), some (.int pa), none, none, none], [], (SH, mkM I J T), 0, 0) := by
  refine Go.of_run (Ev.mono _) 5 _ ?_
  refine ⟨Nat.le_of_ble_eq_true rfl, ev_X0_keyOf ?_⟩
  show Go none aM (Ev mt aM (d + 4)) mX0_first Q (8, [some (.ref 69), some (.int oth), some (.int mo), some (.int on), some (.int pa), none, none, none], [.int (v_X0_keyOf oth mo on pa)], (SH, mkM I J T), 0, 0)
  refine Go.of_run (Ev.mono _) 5 _ ?_
  refine ⟨Nat.le_of_ble_eq_true rfl, ev_X5_longAt_72 hyp.1 ?_⟩
  show Go none aM (Ev mt aM (d + 4)) mX0_first Q (19, [some (.ref 69), some (.int oth), some (.int mo), some (.int on), some (.int pa), some (.int (v_X0_keyOf oth mo on pa)), none, none], [.long (v_X5_longAt_72 (v_X0_keyOf oth mo on pa) J)], (SH, mkM I J T), 0, 0)
  refine Go.of_run (Ev.mono _) 5 _ ?_
  show Go none aM (Ev mt aM (d + 4)) mX0_first Q (if lg_cmp (v_X5_longAt_72 (v_X0_keyOf oth mo on pa) J) (0 : Int64) = 0 then 28 else 64, [some (.ref 69), some (.int oth), some (.int mo), some (.int on), some (.int pa), some (.int (v_X0_keyOf oth mo on pa)), some (.long (v_X5_longAt_72 (v_X0_keyOf oth mo on pa) J)), none], [], (SH, mkM I J T), 0, 0)
  rcases Decidable.em (lg_cmp (v_X5_longAt_72 (v_X0_keyOf oth mo on pa) J) (0 : Int64) = 0) with c1 | c1
  · rw [if_pos c1]
    refine Go.of_run (Ev.mono _) 6 _ ?_
    refine ⟨Nat.le_of_ble_eq_true rfl, (hyp.2.1 c1)⟩
  · rw [if_neg c1]
    refine Go.of_run (Ev.mono _) 4 _ ?_
    refine ⟨trivial, ?_⟩
    show Q (some (.long ((v_X5_longAt_72 (v_X0_keyOf oth mo on pa) J) - (1 : Int64)))) (SH, mkM I J T)
    exact (hyp.2.2 c1)
set_option maxRecDepth 20000 in
theorem fst_37 {d : Nat} {oth mo on pa v : Int32} {x : Int64} {I : Nat → Nat → Int32} {J : Nat → Nat → Int64} {T : Nat → Nat → Nat} {Q : Option Value → Mem → Prop} (hyp : Ev mt aM (d + 4) 10 [.ref 69, .int (0 : Int32), .int (0 : Int32), .int (3000 : Int32)] (SH, mkM I J T) (fun r m1 => Go none aM (Ev mt aM (d + 4)) mX0_first Q (46, [some (.ref 69), some (.int oth), some (.int mo), some (.int on), some (.int pa), some (.int v), some (.long x), none], r.toList ++ [], m1, 0, 0))) : Go none aM (Ev mt aM (d + 4)) mX0_first Q (37, [some (.ref 69), some (.int oth), some (.int mo), some (.int on), some (.int pa), some (.int v), some (.long x), none], [], (SH, mkM I J T), 0, 0) := by
  refine Go.of_run (Ev.mono _) 5 _ ?_
  refine ⟨Nat.le_of_ble_eq_true rfl, hyp⟩
set_option maxRecDepth 20000 in
theorem ev_X5_putLong_72 {d : Nat} {a1 : Int32} {a2 : Int64} {I : Nat → Nat → Int32} {J : Nat → Nat → Int64} {T : Nat → Nat → Nat} {Q : Option Value → Mem → Prop} (h1 : vp_in a1 48) (h : Q none (SH, mkM I (sj J 72 a1.toNatClampNeg a2) T)) : Ev mt aM (d + 1) 58 [.ref 72, .int a1, .long a2] (SH, mkM I J T) Q := by
  refine Ev.intro mX5_putLong rfl rfl ?_
  show Go none aM (Ev mt aM d) mX5_putLong Q (0, [some (.ref 72), some (.int a1), some (.long a2), none], [], (SH, mkM I J T), 0, 0)
  refine Go.of_run (Ev.mono _) 4 _ ?_
  show Go none aM (Ev mt aM d) mX5_putLong Q (if a1 < 0 then 18 else 8, [some (.ref 72), some (.int a1), some (.long a2), none], [], (SH, mkM I J T), 0, 0)
  rw [if_neg (vin_lo h1)]
  refine Go.of_run (Ev.mono _) 4 _ ?_
  show Go none aM (Ev mt aM d) mX5_putLong Q (if (48 : Int32) ≤ a1 then 18 else 14, [some (.ref 72), some (.int a1), some (.long a2), none], [], (SH, mkM I J T), 0, 0)
  rw [if_neg (vin_hi h1 rfl)]
  refine Go.of_run (Ev.mono _) 4 _ ?_
  refine ⟨h1, ?_⟩
  refine go_sj rfl ?_
  show Go none aM (Ev mt aM d) mX5_putLong Q (18, [some (.ref 72), some (.int a1), some (.long a2), none], [], (SH, mkM I (sj J 72 a1.toNatClampNeg a2) T), 0, 0)
  refine Go.of_run (Ev.mono _) 1 _ ?_
  refine ⟨trivial, ?_⟩
  show Q none (SH, mkM I (sj J 72 a1.toNatClampNeg a2) T)
  exact h
set_option maxRecDepth 20000 in
theorem fst_46 {d : Nat} {oth mo on pa v : Int32} {x m : Int64} {I : Nat → Nat → Int32} {J : Nat → Nat → Int64} {T : Nat → Nat → Nat} {Q : Option Value → Mem → Prop} (hyp : (vp_in v 48 ∧ Q (some (.long (((m >>> ((6 : Int32).toInt64 &&& 63)) + (1 : Int64)) - (1 : Int64)))) (SH, mkM I (sj J 72 v.toNatClampNeg ((m >>> ((6 : Int32).toInt64 &&& 63)) + (1 : Int64))) T))) : Go none aM (Ev mt aM (d + 4)) mX0_first Q (46, [some (.ref 69), some (.int oth), some (.int mo), some (.int on), some (.int pa), some (.int v), some (.long x), none], [.long m], (SH, mkM I J T), 0, 0) := by
  refine Go.of_run (Ev.mono _) 10 _ ?_
  refine ⟨Nat.le_of_ble_eq_true rfl, ev_X5_putLong_72 hyp.1 ?_⟩
  show Go none aM (Ev mt aM (d + 4)) mX0_first Q (64, [some (.ref 69), some (.int oth), some (.int mo), some (.int on), some (.int pa), some (.int v), some (.long ((m >>> ((6 : Int32).toInt64 &&& 63)) + (1 : Int64))), none], [], (SH, mkM I (sj J 72 v.toNatClampNeg ((m >>> ((6 : Int32).toInt64 &&& 63)) + (1 : Int64))) T), 0, 0)
  refine Go.of_run (Ev.mono _) 4 _ ?_
  refine ⟨trivial, ?_⟩
  show Q (some (.long (((m >>> ((6 : Int32).toInt64 &&& 63)) + (1 : Int64)) - (1 : Int64)))) (SH, mkM I (sj J 72 v.toNatClampNeg ((m >>> ((6 : Int32).toInt64 &&& 63)) + (1 : Int64))) T)
  exact hyp.2
set_option maxRecDepth 20000 in
theorem bfo_0 {d : Nat} {I : Nat → Nat → Int32} {J : Nat → Nat → Int64} {T : Nat → Nat → Nat} {Q : Option Value → Mem → Prop} (hyp : Ev mt aM (d + 4) 59 [.ref 72] (SH, mkM (si I 69 5 (-1 : Int32)) J T) (fun r m1 => Go none aM (Ev mt aM (d + 4)) mX0_forget Q (12, [some (.ref 69)], r.toList ++ [], m1, 0, 0))) : Go none aM (Ev mt aM (d + 4)) mX0_forget Q (0, [some (.ref 69)], [], (SH, mkM I J T), 0, 0) := by
  refine Go.of_run (Ev.mono _) 3 _ ?_
  refine go_si rfl ?_
  show Go none aM (Ev mt aM (d + 4)) mX0_forget Q (5, [some (.ref 69)], [], (SH, mkM (si I 69 5 (-1 : Int32)) J T), 0, 0)
  refine Go.of_run (Ev.mono _) 3 _ ?_
  refine ⟨Nat.le_of_ble_eq_true rfl, hyp⟩
set_option maxRecDepth 20000 in
theorem bfo_12 {d : Nat} {I : Nat → Nat → Int32} {J : Nat → Nat → Int64} {T : Nat → Nat → Nat} {Q : Option Value → Mem → Prop} (hyp : Q none (SH, mkM I J T)) : Go none aM (Ev mt aM (d + 4)) mX0_forget Q (12, [some (.ref 69)], [], (SH, mkM I J T), 0, 0) := by
  refine Go.of_run (Ev.mono _) 1 _ ?_
  refine ⟨trivial, ?_⟩
  show Q none (SH, mkM I J T)
  exact hyp
set_option maxRecDepth 20000 in
theorem vof_0 {d : Nat} {per sc c : Int32} {I : Nat → Nat → Int32} {J : Nat → Nat → Int64} {T : Nat → Nat → Nat} {Q : Option Value → Mem → Prop} (hyp : Ev mt aM (d + 4) 10 [.ref 69, .int per, .int sc, .int c] (SH, mkM I J T) (fun r m1 => Go none aM (Ev mt aM (d + 4)) mX0_valueOf Q (7, [some (.ref 69), some (.int per), some (.int sc), some (.int c)], r.toList ++ [], m1, 0, 0))) : Go none aM (Ev mt aM (d + 4)) mX0_valueOf Q (0, [some (.ref 69), some (.int per), some (.int sc), some (.int c)], [], (SH, mkM I J T), 0, 0) := by
  refine Go.of_run (Ev.mono _) 5 _ ?_
  refine ⟨Nat.le_of_ble_eq_true rfl, hyp⟩
set_option maxRecDepth 20000 in
theorem vof_7 {d : Nat} {per sc c : Int32} {x : Int64} {I : Nat → Nat → Int32} {J : Nat → Nat → Int64} {T : Nat → Nat → Nat} {Q : Option Value → Mem → Prop} (hyp : Q (some (.long (x >>> ((6 : Int32).toInt64 &&& 63)))) (SH, mkM I J T)) : Go none aM (Ev mt aM (d + 4)) mX0_valueOf Q (7, [some (.ref 69), some (.int per), some (.int sc), some (.int c)], [.long x], (SH, mkM I J T), 0, 0) := by
  refine Go.of_run (Ev.mono _) 3 _ ?_
  refine ⟨trivial, ?_⟩
  show Q (some (.long (x >>> ((6 : Int32).toInt64 &&& 63)))) (SH, mkM I J T)
  exact hyp
set_option maxRecDepth 20000 in
theorem aof_0 {d : Nat} {per sc c : Int32} {I : Nat → Nat → Int32} {J : Nat → Nat → Int64} {T : Nat → Nat → Nat} {Q : Option Value → Mem → Prop} (hyp : Ev mt aM (d + 4) 10 [.ref 69, .int per, .int sc, .int c] (SH, mkM I J T) (fun r m1 => Go none aM (Ev mt aM (d + 4)) mX0_actionOf Q (7, [some (.ref 69), some (.int per), some (.int sc), some (.int c)], r.toList ++ [], m1, 0, 0))) : Go none aM (Ev mt aM (d + 4)) mX0_actionOf Q (0, [some (.ref 69), some (.int per), some (.int sc), some (.int c)], [], (SH, mkM I J T), 0, 0) := by
  refine Go.of_run (Ev.mono _) 5 _ ?_
  refine ⟨Nat.le_of_ble_eq_true rfl, hyp⟩
set_option maxRecDepth 20000 in
theorem aof_7 {d : Nat} {per sc c : Int32} {x : Int64} {I : Nat → Nat → Int32} {J : Nat → Nat → Int64} {T : Nat → Nat → Nat} {Q : Option Value → Mem → Prop} (hyp : Q (some (.int (((x &&& (63 : Int64)).toInt32) - (1 : Int32)))) (SH, mkM I J T)) : Go none aM (Ev mt aM (d + 4)) mX0_actionOf Q (7, [some (.ref 69), some (.int per), some (.int sc), some (.int c)], [.long x], (SH, mkM I J T), 0, 0) := by
  refine Go.of_run (Ev.mono _) 6 _ ?_
  refine ⟨trivial, ?_⟩
  show Q (some (.int (((x &&& (63 : Int64)).toInt32) - (1 : Int32)))) (SH, mkM I J T)
  exact hyp
set_option maxRecDepth 20000 in
theorem vby_0 {d : Nat} {per sc c a : Int32} {I : Nat → Nat → Int32} {J : Nat → Nat → Int64} {T : Nat → Nat → Nat} {Q : Option Value → Mem → Prop} (hyp : Ev mt aM (d + 4) 27 [.ref 9, .int (I 69 6), .int per, .int sc] (SH, mkM I J T) (fun r m1 => Go none aM (Ev mt aM (d + 4)) mX0_valueBy Q (19, [some (.ref 69), some (.int per), some (.int sc), some (.int c), some (.int a)], r.toList ++ [.int a, .int c, .int sc, .int per, .ref 69], m1, 0, 0))) : Go none aM (Ev mt aM (d + 4)) mX0_valueBy Q (0, [some (.ref 69), some (.int per), some (.int sc), some (.int c), some (.int a)], [], (SH, mkM I J T), 0, 0) := by
  refine Go.of_run (Ev.mono _) 12 _ ?_
  refine ⟨Nat.le_of_ble_eq_true rfl, hyp⟩
set_option maxRecDepth 20000 in
theorem vby_19 {d : Nat} {per sc c a st : Int32} {I : Nat → Nat → Int32} {J : Nat → Nat → Int64} {T : Nat → Nat → Nat} {Q : Option Value → Mem → Prop} (hyp : Ev mt aM (d + 4) 12 [.ref 69, .int per, .int sc, .int c, .int a, .int st] (SH, mkM I J T) (fun r m1 => Go none aM (Ev mt aM (d + 4)) mX0_valueBy Q (22, [some (.ref 69), some (.int per), some (.int sc), some (.int c), some (.int a)], r.toList ++ [], m1, 0, 0))) : Go none aM (Ev mt aM (d + 4)) mX0_valueBy Q (19, [some (.ref 69), some (.int per), some (.int sc), some (.int c), some (.int a)], [.int st, .int a, .int c, .int sc, .int per, .ref 69], (SH, mkM I J T), 0, 0) := by
  refine Go.of_run (Ev.mono _) 1 _ ?_
  refine ⟨Nat.le_of_ble_eq_true rfl, hyp⟩
set_option maxRecDepth 20000 in
theorem vby_22 {d : Nat} {per sc c a : Int32} {x : Int64} {I : Nat → Nat → Int32} {J : Nat → Nat → Int64} {T : Nat → Nat → Nat} {Q : Option Value → Mem → Prop} (hyp : Q (some (.long x)) (SH, mkM I J T)) : Go none aM (Ev mt aM (d + 4)) mX0_valueBy Q (22, [some (.ref 69), some (.int per), some (.int sc), some (.int c), some (.int a)], [.long x], (SH, mkM I J T), 0, 0) := by
  refine Go.of_run (Ev.mono _) 1 _ ?_
  refine ⟨trivial, ?_⟩
  show Q (some (.long x)) (SH, mkM I J T)
  exact hyp
theorem ev_clear71 {d : Nat} {I : Nat → Nat → Int32} {J : Nat → Nat → Int64} {T : Nat → Nat → Nat} {Q : Option Value → Mem → Prop} (g : Q none (SH, mkM I (zj J 71 7100) T)) : Ev mt aM (d + 1) 59 [.ref 71] (SH, mkM I J T) Q := by
  have key : ∀ m i, m + i = 7100 → Go none aM (Ev mt aM d) mX5_clear Q (7, [some (.ref 71), some (.int (nI i))], [], (SH, mkM I (zj J 71 i) T), 0, 0) := by
    intro m
    induction m with
    | zero =>
      intro i hi
      refine clr71_7 ⟨fun _ => ?_, fun c => absurd (nI_le (a := 7100) (show 7100 ≤ i by omega) (by omega)) c⟩
      rw [show i = 7100 by omega]
      exact g
    | succ m ih =>
      intro i hi
      refine clr71_7 ⟨fun c => absurd c (nI_ge (b := 7100) (by omega) (by omega)), fun _ => ⟨vp_in_nI (by omega) (by omega), ?_⟩⟩
      rw [nI_clamp (by omega), zj_s, nI_1]
      exact ih (i + 1) (by omega)
  refine Ev.intro mX5_clear rfl rfl (clr71_0 ?_)
  have k := key 7100 0 rfl
  rw [zj_0] at k
  exact k
theorem ev_clear72 {d : Nat} {I : Nat → Nat → Int32} {J : Nat → Nat → Int64} {T : Nat → Nat → Nat} {Q : Option Value → Mem → Prop} (g : Q none (SH, mkM I (zj J 72 48) T)) : Ev mt aM (d + 1) 59 [.ref 72] (SH, mkM I J T) Q := by
  have key : ∀ m i, m + i = 48 → Go none aM (Ev mt aM d) mX5_clear Q (7, [some (.ref 72), some (.int (nI i))], [], (SH, mkM I (zj J 72 i) T), 0, 0) := by
    intro m
    induction m with
    | zero =>
      intro i hi
      refine clr72_7 ⟨fun _ => ?_, fun c => absurd (nI_le (a := 48) (show 48 ≤ i by omega) (by omega)) c⟩
      rw [show i = 48 by omega]
      exact g
    | succ m ih =>
      intro i hi
      refine clr72_7 ⟨fun c => absurd c (nI_ge (b := 48) (by omega) (by omega)), fun _ => ⟨vp_in_nI (by omega) (by omega), ?_⟩⟩
      rw [nI_clamp (by omega), zj_s, nI_1]
      exact ih (i + 1) (by omega)
  refine Ev.intro mX5_clear rfl rfl (clr72_0 ?_)
  have k := key 48 0 rfl
  rw [zj_0] at k
  exact k
theorem ev_clear74 {d : Nat} {I : Nat → Nat → Int32} {J : Nat → Nat → Int64} {T : Nat → Nat → Nat} {Q : Option Value → Mem → Prop} (g : Q none (SH, mkM I (zj J 74 3) T)) : Ev mt aM (d + 1) 59 [.ref 74] (SH, mkM I J T) Q := by
  have key : ∀ m i, m + i = 3 → Go none aM (Ev mt aM d) mX5_clear Q (7, [some (.ref 74), some (.int (nI i))], [], (SH, mkM I (zj J 74 i) T), 0, 0) := by
    intro m
    induction m with
    | zero =>
      intro i hi
      refine clr74_7 ⟨fun _ => ?_, fun c => absurd (nI_le (a := 3) (show 3 ≤ i by omega) (by omega)) c⟩
      rw [show i = 3 by omega]
      exact g
    | succ m ih =>
      intro i hi
      refine clr74_7 ⟨fun c => absurd c (nI_ge (b := 3) (by omega) (by omega)), fun _ => ⟨vp_in_nI (by omega) (by omega), ?_⟩⟩
      rw [nI_clamp (by omega), zj_s, nI_1]
      exact ih (i + 1) (by omega)
  refine Ev.intro mX5_clear rfl rfl (clr74_0 ?_)
  have k := key 3 0 rfl
  rw [zj_0] at k
  exact k
theorem ev_clear75 {d : Nat} {I : Nat → Nat → Int32} {J : Nat → Nat → Int64} {T : Nat → Nat → Nat} {Q : Option Value → Mem → Prop} (g : Q none (SH, mkM I (zj J 75 12) T)) : Ev mt aM (d + 1) 59 [.ref 75] (SH, mkM I J T) Q := by
  have key : ∀ m i, m + i = 12 → Go none aM (Ev mt aM d) mX5_clear Q (7, [some (.ref 75), some (.int (nI i))], [], (SH, mkM I (zj J 75 i) T), 0, 0) := by
    intro m
    induction m with
    | zero =>
      intro i hi
      refine clr75_7 ⟨fun _ => ?_, fun c => absurd (nI_le (a := 12) (show 12 ≤ i by omega) (by omega)) c⟩
      rw [show i = 12 by omega]
      exact g
    | succ m ih =>
      intro i hi
      refine clr75_7 ⟨fun c => absurd c (nI_ge (b := 12) (by omega) (by omega)), fun _ => ⟨vp_in_nI (by omega) (by omega), ?_⟩⟩
      rw [nI_clamp (by omega), zj_s, nI_1]
      exact ih (i + 1) (by omega)
  refine Ev.intro mX5_clear rfl rfl (clr75_0 ?_)
  have k := key 12 0 rfl
  rw [zj_0] at k
  exact k
theorem ev_clear82 {d : Nat} {I : Nat → Nat → Int32} {J : Nat → Nat → Int64} {T : Nat → Nat → Nat} {Q : Option Value → Mem → Prop} (g : Q none (SH, mkM I (zj J 82 1024) T)) : Ev mt aM (d + 1) 59 [.ref 82] (SH, mkM I J T) Q := by
  have key : ∀ m i, m + i = 1024 → Go none aM (Ev mt aM d) mX5_clear Q (7, [some (.ref 82), some (.int (nI i))], [], (SH, mkM I (zj J 82 i) T), 0, 0) := by
    intro m
    induction m with
    | zero =>
      intro i hi
      refine clr82_7 ⟨fun _ => ?_, fun c => absurd (nI_le (a := 1024) (show 1024 ≤ i by omega) (by omega)) c⟩
      rw [show i = 1024 by omega]
      exact g
    | succ m ih =>
      intro i hi
      refine clr82_7 ⟨fun c => absurd c (nI_ge (b := 1024) (by omega) (by omega)), fun _ => ⟨vp_in_nI (by omega) (by omega), ?_⟩⟩
      rw [nI_clamp (by omega), zj_s, nI_1]
      exact ih (i + 1) (by omega)
  refine Ev.intro mX5_clear rfl rfl (clr82_0 ?_)
  have k := key 1024 0 rfl
  rw [zj_0] at k
  exact k
