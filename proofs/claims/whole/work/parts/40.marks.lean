/-! THE REFERENCE'S SOLVER: cells, marks, what an ACTION is worth. -/
def ix (per s o : Nat) : Nat := 10240 * per + (5 * o + s)
theorem ix_lt {per s o : Nat} (hp : per ≤ 5) (hs : s < 5) (ho : o < 2048) : ix per s o < 61440 := by
  unfold ix
  omega
theorem ix_inj {p p' s s' o o' : Nat} (hs : s < 5) (hs' : s' < 5) (ho : o < 2048) (ho' : o' < 2048) (e : ix p s o = ix p' s' o') : p = p' ∧ s = s' ∧ o = o' := by
  unfold ix at e
  omega
theorem sc_plus (x : Int32) (s : Nat) : (x + scI s) + (2 : Int32) = x + nI s := by
  unfold scI
  rw [Int32.add_assoc, Int32.sub_add_cancel]
theorem pl_ix (per s o : Nat) : v_X12_placeIn (nI per) (scI s) (nI o) = nI (ix per s o) := by
  unfold v_X12_placeIn
  rw [sc_plus, show (10240 : Int32) = nI 10240 from rfl, show (5 : Int32) = nI 5 from rfl, pk_mul, pk_mul, nI_add, nI_add]
  unfold ix
  rw [Nat.add_assoc]
theorem at_div {s o : Nat} (hs : s < 5) (ho : o < 2048) : nI (5 * o + s) / (5 : Int32) = nI o ∧ (nI (5 * o + s) - nI (5 * o + s) / (5 : Int32) * (5 : Int32)) - (2 : Int32) = scI s := by
  rw [show (5 : Int32) = nI 5 from rfl, pk_rem (by omega) (by omega) (by omega), pk_div (by omega) (by omega) (by omega), show (5 * o + s) / 5 = o by omega, show (5 * o + s) % 5 = s by omega]
  exact ⟨rfl, rfl⟩
def rI : Option Nat → Int32
  | none => -1
  | some k => nI k
def prA (A : Tm) (oth all once : Nat) (r : Option Nat) (per s o a : Nat) : Prop := match r with
  | none => mayF o a all once = true
  | some k => a = rA A k oth per s o
def RR (A : Tm) (all once pace : Nat) (r : Option Nat) : Prop := ∀ k, r = some k → k < 4 ∧ all = qC A ∧ once = qO A ∧ pace = 0
theorem prA_may {A : Tm} {oth all once pace : Nat} {r : Option Nat} {per s o a : Nat} (hr : RR A all once pace r) (h : CD o) (hm : mdN o ≤ all) (hp : prA A oth all once r per s o a) : mayF o a all once = true := by
  cases r with
  | none => exact hp
  | some k =>
    obtain ⟨_, e1, e2, _⟩ := hr k rfl
    subst e1 e2
    have hp : a = rA A k oth per s o := hp
    rw [hp]
    exact (rA_may h hm).2
theorem act_may {o a all once : Nat} (h : CD o) (ha : a < 49) (hm : mayF o a all once = true) : v_X12_changesOf (nI a) = nI (chN a) := by
  have q := allB_get all_may o h.1
  simp only [ckMay, h.2, Bool.not_true, Bool.false_or] at q
  have q := allB_get q a ha
  simp only [Bool.and_eq_true] at q
  have qa := allB_get all_act a ha
  simp only [ckAct, Bool.and_eq_true, Bool.or_eq_true] at qa
  rcases qa.1.1.1 with e | e
  · have e0 := eqI_eq e
    have : w6_X7_mayBe (dI o) (nI a) = 0 := by
      rw [eqI_eq q.1, e0]; rfl
    simp only [mayF, Bool.and_eq_true] at hm
    rw [this] at hm
    exact absurd hm.2 (by decide)
  · rw [← ch_c ha]; exact (eqI_eq e).symm
theorem beh_pre {o a all once : Nat} (h : CD o) (ha : a < 49) (hm : mayF o a all once = true) : (¬ (nI a = 0)) → (vp_in (v_X12_playerOf (v_X12_firstOf (nI a))) 5 ∧ ((7 : Int32) ≤ nI a → vp_in (v_X12_playerOf (v_X12_secondOf (nI a))) 5)) := by
  intro h0
  obtain ⟨_, _, k3⟩ := may_shape h ha hm
  have qa := allB_get all_act a ha
  simp only [ckAct, Bool.and_eq_true] at qa
  rw [eqI_eq qa.1.2, eqI_eq qa.2]
  have key : ∀ c : Nat, 1 ≤ c → c ≤ 6 → vp_in (v_X12_playerOf (nI c)) 5 := by
    intro c h1 hc
    rw [(pl_c ⟨h1, hc⟩).2]
    exact vp_in_nI (by omega) (by omega)
  rcases k3 with rfl | k3
  · exact absurd rfl h0
  · refine ⟨key _ (by omega) (by omega), fun q => ?_⟩
    have q : 7 ≤ a := (nI_leI (by omega) (by omega)).mp (show nI 7 ≤ nI a from q)
    exact key _ (by omega) (by omega)
theorem evC_lt {w : Nat} (h : w < 5) : evC w < 5 := by
  unfold evC
  split <;> omega
theorem evI_C {w : Nat} (h : w < 5) : evI (evC w) = nI w := by
  rcases (show w = 0 ∨ w = 1 ∨ w = 2 ∨ w = 3 ∨ w = 4 by omega) with rfl | rfl | rfl | rfl | rfl <;> rfl
theorem evC_on {e : Nat} (h : e < 5) : ∃ w, w < 5 ∧ evC w = e := by
  rcases (show e = 0 ∨ e = 1 ∨ e = 2 ∨ e = 3 ∨ e = 4 by omega) with rfl | rfl | rfl | rfl | rfl
  · exact ⟨4, by omega, rfl⟩
  · exact ⟨0, by omega, rfl⟩
  · exact ⟨1, by omega, rfl⟩
  · exact ⟨2, by omega, rfl⟩
  · exact ⟨3, by omega, rfl⟩
/-- where what comes next is kept -/
def sx (A : Tm) (pace per s o a e : Nat) : Nat := ix (per + 1) (scN s e) (nxtF A (aftF A o a) e pace)
theorem next_c {A : Tm} {oth all pace per s o a w : Nat} {M : Nat → Nat → Int32} (hA : BD A) (hs : s < 5) (hw : w < 5) (hpa : pace ≤ 1) (h : CD (aftF A o a)) (hR : RM A M) (h36 : M 83 36 = nI pace) (h0 : shN A oth all pace per s o a (evC w) ≠ 0) : v_X12_placeIn (nI per + (1 : Int32)) (v_X12_scoreAfter (scI s) (nI w)) (v_X12_codeAfter (nI (aftF A o a)) (nI w) M) = nI (sx A pace per s o a (evC w)) := by
  have he := evC_lt hw
  have e1 := (sc_c hs he).2
  rw [evI_C hw] at e1
  obtain ⟨_, _, _, n4⟩ := nxt_all (M := M) (e := evC w) h hA he hpa
  have n4 := n4 hR.2.2.2.2.2.2.1 h36 (fun q => sh_who _ _ _ _ _ _ _ _ _ ⟨q, he⟩ h0)
  rw [show (if evC w = 0 then (4 : Int32) else nI (evC w - 1)) = nI w from evI_C hw] at n4
  rw [e1, n4, nI_1, pl_ix]
  rfl
theorem sx_lt {A : Tm} {all once pace per s o a e : Nat} (hA : BD A) (hp : per < 5) (hs : s < 5) (h : CD o) (ha : a < 49) (hm : mayF o a all once = true) (he : e < 5) (hpa : pace ≤ 1) : sx A pace per s o a e < 61440 := ix_lt (by omega) (scN_lt hs) (nxt_cd hA h ha hm he hpa).1.1
theorem nar_b (x : Int32) (h : x = 0 ∨ x = 1) : vp_nar .boolean x = x := by
  rcases h with rfl | rfl <;> decide
set_option maxRecDepth 20000 in
theorem mar_0 {d : Nat} {per sc c a oth : Int32} {I : Nat → Nat → Int32} {J : Nat → Nat → Int64} {T : Nat → Nat → Nat} {Q : Option Value → Mem → Prop} (hyp : (((¬ (a = 0)) → (vp_in (v_X12_playerOf (v_X12_firstOf a)) 5 ∧ ((7 : Int32) ≤ a → vp_in (v_X12_playerOf (v_X12_secondOf a)) 5))) ∧ Ev mt aM (d + 7) 235 [.ref 83, .int per, .int sc, .int (v_X12_behind c a I), .int oth, .int (v_X12_changesOf a)] (SH, mkM I J T) (fun r m1 => Go none aM (Ev mt aM (d + 7)) mX12_marks Q (24, [some (.ref 83), some (.int per), some (.int sc), some (.int c), some (.int a), some (.int oth), some (.int (v_X12_behind c a I)), none], r.toList ++ [], m1, 0, 0)))) : Go none aM (Ev mt aM (d + 7)) mX12_marks Q (0, [some (.ref 83), some (.int per), some (.int sc), some (.int c), some (.int a), some (.int oth), none, none], [], (SH, mkM I J T), 0, 0) := by
  refine Go.of_run (Ev.mono _) 4 _ ?_
  refine ⟨Nat.le_of_ble_eq_true rfl, ev_X12_behind hyp.1 ?_⟩
  show Go none aM (Ev mt aM (d + 7)) mX12_marks Q (7, [some (.ref 83), some (.int per), some (.int sc), some (.int c), some (.int a), some (.int oth), none, none], [.int (v_X12_behind c a I)], (SH, mkM I J T), 0, 0)
  refine Go.of_run (Ev.mono _) 8 _ ?_
  refine ⟨Nat.le_of_ble_eq_true rfl, ev_X12_changesOf ?_⟩
  show Go none aM (Ev mt aM (d + 7)) mX12_marks Q (21, [some (.ref 83), some (.int per), some (.int sc), some (.int c), some (.int a), some (.int oth), some (.int (v_X12_behind c a I)), none], [.int (v_X12_changesOf a), .int oth, .int (v_X12_behind c a I), .int sc, .int per, .ref 83], (SH, mkM I J T), 0, 0)
  refine Go.of_run (Ev.mono _) 1 _ ?_
  refine ⟨Nat.le_of_ble_eq_true rfl, hyp.2⟩
set_option maxRecDepth 20000 in
theorem mar_24 {d : Nat} {per sc c a oth nw : Int32} {I : Nat → Nat → Int32} {J : Nat → Nat → Int64} {T : Nat → Nat → Nat} {Q : Option Value → Mem → Prop} (hyp : Go none aM (Ev mt aM (d + 7)) mX12_marks Q (27, [some (.ref 83), some (.int per), some (.int sc), none, none, none, some (.int nw), some (.int (0 : Int32))], [], (SH, mkM I J T), 0, 0)) : Go none aM (Ev mt aM (d + 7)) mX12_marks Q (24, [some (.ref 83), some (.int per), some (.int sc), some (.int c), some (.int a), some (.int oth), some (.int nw), none], [], (SH, mkM I J T), 0, 0) := by
  refine Go.of_run (Ev.mono _) 2 _ ?_
  exact Go.weak (Ev.mono _) (LLe.cons (LLe.cons (LLe.cons (LLe.drop (LLe.drop (LLe.drop (LLe.cons (LLe.cons LLe.nil)))))))) hyp
set_option maxRecDepth 20000 in
theorem mar_27 {d : Nat} {per sc nw w : Int32} {I : Nat → Nat → Int32} {J : Nat → Nat → Int64} {T : Nat → Nat → Nat} {Q : Option Value → Mem → Prop} (hyp : (((5 : Int32) ≤ w → Q none (SH, mkM I J T)) ∧ ((¬ ((5 : Int32) ≤ w)) → (vp_in w 5 ∧ ((I 105 w.toNatClampNeg ≤ 0 → Go none aM (Ev mt aM (d + 7)) mX12_marks Q (27, [some (.ref 83), some (.int per), some (.int sc), none, none, none, some (.int nw), some (.int (w + 1))], [], (SH, mkM I J T), 0, 0)) ∧ ((¬ (I 105 w.toNatClampNeg ≤ 0)) → (vp_in (v_X12_placeIn (per + (1 : Int32)) (v_X12_scoreAfter sc w) (v_X12_codeAfter nw w I)) 61440 ∧ Go none aM (Ev mt aM (d + 7)) mX12_marks Q (27, [some (.ref 83), some (.int per), some (.int sc), none, none, none, some (.int nw), some (.int (w + 1))], [], (SH, mkM (si I 106 ((v_X12_placeIn (per + (1 : Int32)) (v_X12_scoreAfter sc w) (v_X12_codeAfter nw w I)).toNatClampNeg) (vp_nar .boolean (1 : Int32))) J T), 0, 0)))))))) : Go none aM (Ev mt aM (d + 7)) mX12_marks Q (27, [some (.ref 83), some (.int per), some (.int sc), none, none, none, some (.int nw), some (.int w)], [], (SH, mkM I J T), 0, 0) := by
  refine Go.of_run (Ev.mono _) 3 _ ?_
  show Go none aM (Ev mt aM (d + 7)) mX12_marks Q (if (5 : Int32) ≤ w then 75 else 33, [some (.ref 83), some (.int per), some (.int sc), none, none, none, some (.int nw), some (.int w)], [], (SH, mkM I J T), 0, 0)
  rcases Decidable.em ((5 : Int32) ≤ w) with c1 | c1
  · rw [if_pos c1]
    refine Go.of_run (Ev.mono _) 1 _ ?_
    refine ⟨trivial, ?_⟩
    show Q none (SH, mkM I J T)
    exact (hyp.1 c1)
  · rw [if_neg c1]
    refine Go.of_run (Ev.mono _) 4 _ ?_
    refine ⟨(hyp.2 c1).1, ?_⟩
    show Go none aM (Ev mt aM (d + 7)) mX12_marks Q (40, [some (.ref 83), some (.int per), some (.int sc), none, none, none, some (.int nw), some (.int w)], [.int (I 105 w.toNatClampNeg)], (SH, mkM I J T), 0, 0)
    refine Go.of_run (Ev.mono _) 1 _ ?_
    show Go none aM (Ev mt aM (d + 7)) mX12_marks Q (if I 105 w.toNatClampNeg ≤ 0 then 69 else 43, [some (.ref 83), some (.int per), some (.int sc), none, none, none, some (.int nw), some (.int w)], [], (SH, mkM I J T), 0, 0)
    rcases Decidable.em (I 105 w.toNatClampNeg ≤ 0) with c2 | c2
    · rw [if_pos c2]
      refine Go.of_run (Ev.mono _) 2 _ ?_
      exact ((hyp.2 c1).2.1 c2)
    · rw [if_neg c2]
      refine Go.of_run (Ev.mono _) 8 _ ?_
      refine ⟨Nat.le_of_ble_eq_true rfl, ev_X12_scoreAfter ?_⟩
      show Go none aM (Ev mt aM (d + 7)) mX12_marks Q (56, [some (.ref 83), some (.int per), some (.int sc), none, none, none, some (.int nw), some (.int w)], [.int (v_X12_scoreAfter sc w), .int (per + (1 : Int32)), .ref 106], (SH, mkM I J T), 0, 0)
      refine Go.of_run (Ev.mono _) 4 _ ?_
      refine ⟨Nat.le_of_ble_eq_true rfl, ev_X12_codeAfter ?_⟩
      show Go none aM (Ev mt aM (d + 7)) mX12_marks Q (64, [some (.ref 83), some (.int per), some (.int sc), none, none, none, some (.int nw), some (.int w)], [.int (v_X12_codeAfter nw w I), .int (v_X12_scoreAfter sc w), .int (per + (1 : Int32)), .ref 106], (SH, mkM I J T), 0, 0)
      refine Go.of_run (Ev.mono _) 1 _ ?_
      refine ⟨Nat.le_of_ble_eq_true rfl, ev_X12_placeIn ?_⟩
      show Go none aM (Ev mt aM (d + 7)) mX12_marks Q (67, [some (.ref 83), some (.int per), some (.int sc), none, none, none, some (.int nw), some (.int w)], [.int (v_X12_placeIn (per + (1 : Int32)) (v_X12_scoreAfter sc w) (v_X12_codeAfter nw w I)), .ref 106], (SH, mkM I J T), 0, 0)
      refine Go.of_run (Ev.mono _) 2 _ ?_
      refine ⟨((hyp.2 c1).2.2 c2).1, ?_⟩
      refine go_si rfl ?_
      show Go none aM (Ev mt aM (d + 7)) mX12_marks Q (69, [some (.ref 83), some (.int per), some (.int sc), none, none, none, some (.int nw), some (.int w)], [], (SH, mkM (si I 106 ((v_X12_placeIn (per + (1 : Int32)) (v_X12_scoreAfter sc w) (v_X12_codeAfter nw w I)).toNatClampNeg) (vp_nar .boolean (1 : Int32))) J T), 0, 0)
      refine Go.of_run (Ev.mono _) 2 _ ?_
      exact ((hyp.2 c1).2.2 c2).2
set_option maxRecDepth 20000 in
theorem awo_0 {d : Nat} {per sc c a oth : Int32} {I : Nat → Nat → Int32} {J : Nat → Nat → Int64} {T : Nat → Nat → Nat} {Q : Option Value → Mem → Prop} (hyp : (((¬ (a = 0)) → (vp_in (v_X12_playerOf (v_X12_firstOf a)) 5 ∧ ((7 : Int32) ≤ a → vp_in (v_X12_playerOf (v_X12_secondOf a)) 5))) ∧ Ev mt aM (d + 7) 235 [.ref 83, .int per, .int sc, .int (v_X12_behind c a I), .int oth, .int (v_X12_changesOf a)] (SH, mkM I J T) (fun r m1 => Go none aM (Ev mt aM (d + 7)) mX12_actionWorth Q (24, [some (.ref 83), some (.int per), some (.int sc), some (.int c), some (.int a), some (.int oth), some (.int (v_X12_behind c a I)), none, none, none, none], r.toList ++ [], m1, 0, 0)))) : Go none aM (Ev mt aM (d + 7)) mX12_actionWorth Q (0, [some (.ref 83), some (.int per), some (.int sc), some (.int c), some (.int a), some (.int oth), none, none, none, none, none], [], (SH, mkM I J T), 0, 0) := by
  refine Go.of_run (Ev.mono _) 4 _ ?_
  refine ⟨Nat.le_of_ble_eq_true rfl, ev_X12_behind hyp.1 ?_⟩
  show Go none aM (Ev mt aM (d + 7)) mX12_actionWorth Q (7, [some (.ref 83), some (.int per), some (.int sc), some (.int c), some (.int a), some (.int oth), none, none, none, none, none], [.int (v_X12_behind c a I)], (SH, mkM I J T), 0, 0)
  refine Go.of_run (Ev.mono _) 8 _ ?_
  refine ⟨Nat.le_of_ble_eq_true rfl, ev_X12_changesOf ?_⟩
  show Go none aM (Ev mt aM (d + 7)) mX12_actionWorth Q (21, [some (.ref 83), some (.int per), some (.int sc), some (.int c), some (.int a), some (.int oth), some (.int (v_X12_behind c a I)), none, none, none, none], [.int (v_X12_changesOf a), .int oth, .int (v_X12_behind c a I), .int sc, .int per, .ref 83], (SH, mkM I J T), 0, 0)
  refine Go.of_run (Ev.mono _) 1 _ ?_
  refine ⟨Nat.le_of_ble_eq_true rfl, hyp.2⟩
set_option maxRecDepth 20000 in
theorem awo_24 {d : Nat} {per sc c a oth nw : Int32} {I : Nat → Nat → Int32} {J : Nat → Nat → Int64} {T : Nat → Nat → Nat} {Q : Option Value → Mem → Prop} (hyp : Go none aM (Ev mt aM (d + 7)) mX12_actionWorth Q (45, [some (.ref 83), some (.int per), some (.int sc), none, none, none, some (.int nw), some (.long (0 : Int64)), none, some (.int (0 : Int32)), none], [], (SH, mkM I (sj (sj (sj J 83 44 (0 : Int64)) 83 45 (0 : Int64)) 83 46 (0 : Int64)) T), 0, 0)) : Go none aM (Ev mt aM (d + 7)) mX12_actionWorth Q (24, [some (.ref 83), some (.int per), some (.int sc), some (.int c), some (.int a), some (.int oth), some (.int nw), none, none, none, none], [], (SH, mkM I J T), 0, 0) := by
  refine Go.of_run (Ev.mono _) 5 _ ?_
  refine go_sj rfl ?_
  show Go none aM (Ev mt aM (d + 7)) mX12_actionWorth Q (32, [some (.ref 83), some (.int per), some (.int sc), some (.int c), some (.int a), some (.int oth), some (.int nw), some (.long (0 : Int64)), none, none, none], [], (SH, mkM I (sj J 83 44 (0 : Int64)) T), 0, 0)
  refine Go.of_run (Ev.mono _) 3 _ ?_
  refine go_sj rfl ?_
  show Go none aM (Ev mt aM (d + 7)) mX12_actionWorth Q (37, [some (.ref 83), some (.int per), some (.int sc), some (.int c), some (.int a), some (.int oth), some (.int nw), some (.long (0 : Int64)), none, none, none], [], (SH, mkM I (sj (sj J 83 44 (0 : Int64)) 83 45 (0 : Int64)) T), 0, 0)
  refine Go.of_run (Ev.mono _) 3 _ ?_
  refine go_sj rfl ?_
  show Go none aM (Ev mt aM (d + 7)) mX12_actionWorth Q (42, [some (.ref 83), some (.int per), some (.int sc), some (.int c), some (.int a), some (.int oth), some (.int nw), some (.long (0 : Int64)), none, none, none], [], (SH, mkM I (sj (sj (sj J 83 44 (0 : Int64)) 83 45 (0 : Int64)) 83 46 (0 : Int64)) T), 0, 0)
  refine Go.of_run (Ev.mono _) 2 _ ?_
  exact Go.weak (Ev.mono _) (LLe.cons (LLe.cons (LLe.cons (LLe.drop (LLe.drop (LLe.drop (LLe.cons (LLe.cons (LLe.cons (LLe.cons (LLe.cons LLe.nil))))))))))) hyp
set_option maxRecDepth 20000 in
theorem awo_45 {d : Nat} {per sc nw w : Int32} {g : Int64} {I : Nat → Nat → Int32} {J : Nat → Nat → Int64} {T : Nat → Nat → Nat} {Q : Option Value → Mem → Prop} (hyp : (((5 : Int32) ≤ w → Q (some (.long g)) (SH, mkM I J T)) ∧ ((¬ ((5 : Int32) ≤ w)) → (vp_in w 5 ∧ ((I 105 w.toNatClampNeg = 0 → Go none aM (Ev mt aM (d + 7)) mX12_actionWorth Q (45, [some (.ref 83), some (.int per), some (.int sc), none, none, none, some (.int nw), some (.long g), none, some (.int (w + 1)), none], [], (SH, mkM I J T), 0, 0)) ∧ ((¬ (I 105 w.toNatClampNeg = 0)) → (vp_in w 5 ∧ (vp_in (v_X12_placeIn (per + (1 : Int32)) (v_X12_scoreAfter sc w) (v_X12_codeAfter nw w I)) 61440 ∧ (vp_in w 5 ∧ (vp_in (v_X12_placeIn (per + (1 : Int32)) (v_X12_scoreAfter sc w) (v_X12_codeAfter nw w I)) 61440 ∧ (vp_in w 5 ∧ (vp_in (v_X12_placeIn (per + (1 : Int32)) (v_X12_scoreAfter sc w) (v_X12_codeAfter nw w I)) 61440 ∧ (vp_in w 5 ∧ (vp_in (v_X12_placeIn (per + (1 : Int32)) (v_X12_scoreAfter sc w) (v_X12_codeAfter nw w I)) 61440 ∧ Go none aM (Ev mt aM (d + 7)) mX12_actionWorth Q (45, [some (.ref 83), some (.int per), some (.int sc), none, none, none, some (.int nw), some (.long (g + (((I 105 w.toNatClampNeg).toInt64) * (J 107 ((v_X12_placeIn (per + (1 : Int32)) (v_X12_scoreAfter sc w) (v_X12_codeAfter nw w I)).toNatClampNeg))))), none, some (.int (w + 1)), none], [], (SH, mkM I (sj (sj (sj J 83 44 ((J 83 44) + (((I 105 w.toNatClampNeg).toInt64) * (J 108 ((v_X12_placeIn (per + (1 : Int32)) (v_X12_scoreAfter sc w) (v_X12_codeAfter nw w I)).toNatClampNeg))))) 83 45 ((J 83 45) + (((I 105 w.toNatClampNeg).toInt64) * (J 109 ((v_X12_placeIn (per + (1 : Int32)) (v_X12_scoreAfter sc w) (v_X12_codeAfter nw w I)).toNatClampNeg))))) 83 46 ((J 83 46) + (((I 105 w.toNatClampNeg).toInt64) * (J 110 ((v_X12_placeIn (per + (1 : Int32)) (v_X12_scoreAfter sc w) (v_X12_codeAfter nw w I)).toNatClampNeg))))) T), 0, 0))))))))))))))) : Go none aM (Ev mt aM (d + 7)) mX12_actionWorth Q (45, [some (.ref 83), some (.int per), some (.int sc), none, none, none, some (.int nw), some (.long g), none, some (.int w), none], [], (SH, mkM I J T), 0, 0) := by
  refine Go.of_run (Ev.mono _) 3 _ ?_
  show Go none aM (Ev mt aM (d + 7)) mX12_actionWorth Q (if (5 : Int32) ≤ w then 188 else 51, [some (.ref 83), some (.int per), some (.int sc), none, none, none, some (.int nw), some (.long g), none, some (.int w), none], [], (SH, mkM I J T), 0, 0)
  rcases Decidable.em ((5 : Int32) ≤ w) with c1 | c1
  · rw [if_pos c1]
    refine Go.of_run (Ev.mono _) 2 _ ?_
    refine ⟨trivial, ?_⟩
    show Q (some (.long g)) (SH, mkM I J T)
    exact (hyp.1 c1)
  · rw [if_neg c1]
    refine Go.of_run (Ev.mono _) 4 _ ?_
    refine ⟨(hyp.2 c1).1, ?_⟩
    show Go none aM (Ev mt aM (d + 7)) mX12_actionWorth Q (58, [some (.ref 83), some (.int per), some (.int sc), none, none, none, some (.int nw), some (.long g), none, some (.int w), none], [.int (I 105 w.toNatClampNeg)], (SH, mkM I J T), 0, 0)
    refine Go.of_run (Ev.mono _) 1 _ ?_
    show Go none aM (Ev mt aM (d + 7)) mX12_actionWorth Q (if I 105 w.toNatClampNeg = 0 then 61 else 64, [some (.ref 83), some (.int per), some (.int sc), none, none, none, some (.int nw), some (.long g), none, some (.int w), none], [], (SH, mkM I J T), 0, 0)
    rcases Decidable.em (I 105 w.toNatClampNeg = 0) with c2 | c2
    · rw [if_pos c2]
      refine Go.of_run (Ev.mono _) 3 _ ?_
      exact ((hyp.2 c1).2.1 c2)
    · rw [if_neg c2]
      refine Go.of_run (Ev.mono _) 6 _ ?_
      refine ⟨Nat.le_of_ble_eq_true rfl, ev_X12_scoreAfter ?_⟩
      show Go none aM (Ev mt aM (d + 7)) mX12_actionWorth Q (73, [some (.ref 83), some (.int per), some (.int sc), none, none, none, some (.int nw), some (.long g), none, some (.int w), none], [.int (v_X12_scoreAfter sc w), .int (per + (1 : Int32))], (SH, mkM I J T), 0, 0)
      refine Go.of_run (Ev.mono _) 4 _ ?_
      refine ⟨Nat.le_of_ble_eq_true rfl, ev_X12_codeAfter ?_⟩
      show Go none aM (Ev mt aM (d + 7)) mX12_actionWorth Q (81, [some (.ref 83), some (.int per), some (.int sc), none, none, none, some (.int nw), some (.long g), none, some (.int w), none], [.int (v_X12_codeAfter nw w I), .int (v_X12_scoreAfter sc w), .int (per + (1 : Int32))], (SH, mkM I J T), 0, 0)
      refine Go.of_run (Ev.mono _) 1 _ ?_
      refine ⟨Nat.le_of_ble_eq_true rfl, ev_X12_placeIn ?_⟩
      show Go none aM (Ev mt aM (d + 7)) mX12_actionWorth Q (84, [some (.ref 83), some (.int per), some (.int sc), none, none, none, some (.int nw), some (.long g), none, some (.int w), none], [.int (v_X12_placeIn (per + (1 : Int32)) (v_X12_scoreAfter sc w) (v_X12_codeAfter nw w I))], (SH, mkM I J T), 0, 0)
      refine Go.of_run (Ev.mono _) 6 _ ?_
      refine ⟨((hyp.2 c1).2.2 c2).1, ?_⟩
      show Go none aM (Ev mt aM (d + 7)) mX12_actionWorth Q (95, [some (.ref 83), some (.int per), some (.int sc), none, none, none, some (.int nw), some (.long g), none, some (.int w), some (.int (v_X12_placeIn (per + (1 : Int32)) (v_X12_scoreAfter sc w) (v_X12_codeAfter nw w I)))], [.int (I 105 w.toNatClampNeg), .long g], (SH, mkM I J T), 0, 0)
      refine Go.of_run (Ev.mono _) 5 _ ?_
      refine ⟨((hyp.2 c1).2.2 c2).2.1, ?_⟩
      show Go none aM (Ev mt aM (d + 7)) mX12_actionWorth Q (103, [some (.ref 83), some (.int per), some (.int sc), none, none, none, some (.int nw), some (.long g), none, some (.int w), some (.int (v_X12_placeIn (per + (1 : Int32)) (v_X12_scoreAfter sc w) (v_X12_codeAfter nw w I)))], [.long (J 107 ((v_X12_placeIn (per + (1 : Int32)) (v_X12_scoreAfter sc w) (v_X12_codeAfter nw w I)).toNatClampNeg)), .long ((I 105 w.toNatClampNeg).toInt64), .long g], (SH, mkM I J T), 0, 0)
      refine Go.of_run (Ev.mono _) 10 _ ?_
      refine ⟨((hyp.2 c1).2.2 c2).2.2.1, ?_⟩
      show Go none aM (Ev mt aM (d + 7)) mX12_actionWorth Q (119, [some (.ref 83), some (.int per), some (.int sc), none, none, none, some (.int nw), some (.long (g + (((I 105 w.toNatClampNeg).toInt64) * (J 107 ((v_X12_placeIn (per + (1 : Int32)) (v_X12_scoreAfter sc w) (v_X12_codeAfter nw w I)).toNatClampNeg))))), none, some (.int w), some (.int (v_X12_placeIn (per + (1 : Int32)) (v_X12_scoreAfter sc w) (v_X12_codeAfter nw w I)))], [.int (I 105 w.toNatClampNeg), .long (J 83 44), .ref 83], (SH, mkM I J T), 0, 0)
      refine Go.of_run (Ev.mono _) 5 _ ?_
      refine ⟨((hyp.2 c1).2.2 c2).2.2.2.1, ?_⟩
      show Go none aM (Ev mt aM (d + 7)) mX12_actionWorth Q (127, [some (.ref 83), some (.int per), some (.int sc), none, none, none, some (.int nw), some (.long (g + (((I 105 w.toNatClampNeg).toInt64) * (J 107 ((v_X12_placeIn (per + (1 : Int32)) (v_X12_scoreAfter sc w) (v_X12_codeAfter nw w I)).toNatClampNeg))))), none, some (.int w), some (.int (v_X12_placeIn (per + (1 : Int32)) (v_X12_scoreAfter sc w) (v_X12_codeAfter nw w I)))], [.long (J 108 ((v_X12_placeIn (per + (1 : Int32)) (v_X12_scoreAfter sc w) (v_X12_codeAfter nw w I)).toNatClampNeg)), .long ((I 105 w.toNatClampNeg).toInt64), .long (J 83 44), .ref 83], (SH, mkM I J T), 0, 0)
      refine Go.of_run (Ev.mono _) 3 _ ?_
      refine go_sj rfl ?_
      show Go none aM (Ev mt aM (d + 7)) mX12_actionWorth Q (132, [some (.ref 83), some (.int per), some (.int sc), none, none, none, some (.int nw), some (.long (g + (((I 105 w.toNatClampNeg).toInt64) * (J 107 ((v_X12_placeIn (per + (1 : Int32)) (v_X12_scoreAfter sc w) (v_X12_codeAfter nw w I)).toNatClampNeg))))), none, some (.int w), some (.int (v_X12_placeIn (per + (1 : Int32)) (v_X12_scoreAfter sc w) (v_X12_codeAfter nw w I)))], [], (SH, mkM I (sj J 83 44 ((J 83 44) + (((I 105 w.toNatClampNeg).toInt64) * (J 108 ((v_X12_placeIn (per + (1 : Int32)) (v_X12_scoreAfter sc w) (v_X12_codeAfter nw w I)).toNatClampNeg))))) T), 0, 0)
      refine Go.of_run (Ev.mono _) 7 _ ?_
      refine ⟨((hyp.2 c1).2.2 c2).2.2.2.2.1, ?_⟩
      show Go none aM (Ev mt aM (d + 7)) mX12_actionWorth Q (144, [some (.ref 83), some (.int per), some (.int sc), none, none, none, some (.int nw), some (.long (g + (((I 105 w.toNatClampNeg).toInt64) * (J 107 ((v_X12_placeIn (per + (1 : Int32)) (v_X12_scoreAfter sc w) (v_X12_codeAfter nw w I)).toNatClampNeg))))), none, some (.int w), some (.int (v_X12_placeIn (per + (1 : Int32)) (v_X12_scoreAfter sc w) (v_X12_codeAfter nw w I)))], [.int (I 105 w.toNatClampNeg), .long (J 83 45), .ref 83], (SH, mkM I (sj J 83 44 ((J 83 44) + (((I 105 w.toNatClampNeg).toInt64) * (J 108 ((v_X12_placeIn (per + (1 : Int32)) (v_X12_scoreAfter sc w) (v_X12_codeAfter nw w I)).toNatClampNeg))))) T), 0, 0)
      refine Go.of_run (Ev.mono _) 5 _ ?_
      refine ⟨((hyp.2 c1).2.2 c2).2.2.2.2.2.1, ?_⟩
      show Go none aM (Ev mt aM (d + 7)) mX12_actionWorth Q (152, [some (.ref 83), some (.int per), some (.int sc), none, none, none, some (.int nw), some (.long (g + (((I 105 w.toNatClampNeg).toInt64) * (J 107 ((v_X12_placeIn (per + (1 : Int32)) (v_X12_scoreAfter sc w) (v_X12_codeAfter nw w I)).toNatClampNeg))))), none, some (.int w), some (.int (v_X12_placeIn (per + (1 : Int32)) (v_X12_scoreAfter sc w) (v_X12_codeAfter nw w I)))], [.long (J 109 ((v_X12_placeIn (per + (1 : Int32)) (v_X12_scoreAfter sc w) (v_X12_codeAfter nw w I)).toNatClampNeg)), .long ((I 105 w.toNatClampNeg).toInt64), .long (J 83 45), .ref 83], (SH, mkM I (sj J 83 44 ((J 83 44) + (((I 105 w.toNatClampNeg).toInt64) * (J 108 ((v_X12_placeIn (per + (1 : Int32)) (v_X12_scoreAfter sc w) (v_X12_codeAfter nw w I)).toNatClampNeg))))) T), 0, 0)
      refine Go.of_run (Ev.mono _) 3 _ ?_
      refine go_sj rfl ?_
      show Go none aM (Ev mt aM (d + 7)) mX12_actionWorth Q (157, [some (.ref 83), some (.int per), some (.int sc), none, none, none, some (.int nw), some (.long (g + (((I 105 w.toNatClampNeg).toInt64) * (J 107 ((v_X12_placeIn (per + (1 : Int32)) (v_X12_scoreAfter sc w) (v_X12_codeAfter nw w I)).toNatClampNeg))))), none, some (.int w), some (.int (v_X12_placeIn (per + (1 : Int32)) (v_X12_scoreAfter sc w) (v_X12_codeAfter nw w I)))], [], (SH, mkM I (sj (sj J 83 44 ((J 83 44) + (((I 105 w.toNatClampNeg).toInt64) * (J 108 ((v_X12_placeIn (per + (1 : Int32)) (v_X12_scoreAfter sc w) (v_X12_codeAfter nw w I)).toNatClampNeg))))) 83 45 ((J 83 45) + (((I 105 w.toNatClampNeg).toInt64) * (J 109 ((v_X12_placeIn (per + (1 : Int32)) (v_X12_scoreAfter sc w) (v_X12_codeAfter nw w I)).toNatClampNeg))))) T), 0, 0)
      refine Go.of_run (Ev.mono _) 7 _ ?_
      refine ⟨((hyp.2 c1).2.2 c2).2.2.2.2.2.2.1, ?_⟩
      show Go none aM (Ev mt aM (d + 7)) mX12_actionWorth Q (169, [some (.ref 83), some (.int per), some (.int sc), none, none, none, some (.int nw), some (.long (g + (((I 105 w.toNatClampNeg).toInt64) * (J 107 ((v_X12_placeIn (per + (1 : Int32)) (v_X12_scoreAfter sc w) (v_X12_codeAfter nw w I)).toNatClampNeg))))), none, some (.int w), some (.int (v_X12_placeIn (per + (1 : Int32)) (v_X12_scoreAfter sc w) (v_X12_codeAfter nw w I)))], [.int (I 105 w.toNatClampNeg), .long (J 83 46), .ref 83], (SH, mkM I (sj (sj J 83 44 ((J 83 44) + (((I 105 w.toNatClampNeg).toInt64) * (J 108 ((v_X12_placeIn (per + (1 : Int32)) (v_X12_scoreAfter sc w) (v_X12_codeAfter nw w I)).toNatClampNeg))))) 83 45 ((J 83 45) + (((I 105 w.toNatClampNeg).toInt64) * (J 109 ((v_X12_placeIn (per + (1 : Int32)) (v_X12_scoreAfter sc w) (v_X12_codeAfter nw w I)).toNatClampNeg))))) T), 0, 0)
      refine Go.of_run (Ev.mono _) 5 _ ?_
      refine ⟨((hyp.2 c1).2.2 c2).2.2.2.2.2.2.2.1, ?_⟩
      show Go none aM (Ev mt aM (d + 7)) mX12_actionWorth Q (177, [some (.ref 83), some (.int per), some (.int sc), none, none, none, some (.int nw), some (.long (g + (((I 105 w.toNatClampNeg).toInt64) * (J 107 ((v_X12_placeIn (per + (1 : Int32)) (v_X12_scoreAfter sc w) (v_X12_codeAfter nw w I)).toNatClampNeg))))), none, some (.int w), some (.int (v_X12_placeIn (per + (1 : Int32)) (v_X12_scoreAfter sc w) (v_X12_codeAfter nw w I)))], [.long (J 110 ((v_X12_placeIn (per + (1 : Int32)) (v_X12_scoreAfter sc w) (v_X12_codeAfter nw w I)).toNatClampNeg)), .long ((I 105 w.toNatClampNeg).toInt64), .long (J 83 46), .ref 83], (SH, mkM I (sj (sj J 83 44 ((J 83 44) + (((I 105 w.toNatClampNeg).toInt64) * (J 108 ((v_X12_placeIn (per + (1 : Int32)) (v_X12_scoreAfter sc w) (v_X12_codeAfter nw w I)).toNatClampNeg))))) 83 45 ((J 83 45) + (((I 105 w.toNatClampNeg).toInt64) * (J 109 ((v_X12_placeIn (per + (1 : Int32)) (v_X12_scoreAfter sc w) (v_X12_codeAfter nw w I)).toNatClampNeg))))) T), 0, 0)
      refine Go.of_run (Ev.mono _) 3 _ ?_
      refine go_sj rfl ?_
      show Go none aM (Ev mt aM (d + 7)) mX12_actionWorth Q (182, [some (.ref 83), some (.int per), some (.int sc), none, none, none, some (.int nw), some (.long (g + (((I 105 w.toNatClampNeg).toInt64) * (J 107 ((v_X12_placeIn (per + (1 : Int32)) (v_X12_scoreAfter sc w) (v_X12_codeAfter nw w I)).toNatClampNeg))))), none, some (.int w), some (.int (v_X12_placeIn (per + (1 : Int32)) (v_X12_scoreAfter sc w) (v_X12_codeAfter nw w I)))], [], (SH, mkM I (sj (sj (sj J 83 44 ((J 83 44) + (((I 105 w.toNatClampNeg).toInt64) * (J 108 ((v_X12_placeIn (per + (1 : Int32)) (v_X12_scoreAfter sc w) (v_X12_codeAfter nw w I)).toNatClampNeg))))) 83 45 ((J 83 45) + (((I 105 w.toNatClampNeg).toInt64) * (J 109 ((v_X12_placeIn (per + (1 : Int32)) (v_X12_scoreAfter sc w) (v_X12_codeAfter nw w I)).toNatClampNeg))))) 83 46 ((J 83 46) + (((I 105 w.toNatClampNeg).toInt64) * (J 110 ((v_X12_placeIn (per + (1 : Int32)) (v_X12_scoreAfter sc w) (v_X12_codeAfter nw w I)).toNatClampNeg))))) T), 0, 0)
      refine Go.of_run (Ev.mono _) 2 _ ?_
      exact Go.weak (Ev.mono _) (LLe.cons (LLe.cons (LLe.cons (LLe.cons (LLe.cons (LLe.cons (LLe.cons (LLe.cons (LLe.cons (LLe.cons (LLe.drop LLe.nil))))))))))) ((hyp.2 c1).2.2 c2).2.2.2.2.2.2.2.2
set_option maxRecDepth 20000 in
theorem mal_0 {d : Nat} {per at_ rr oth : Int32} {I : Nat → Nat → Int32} {J : Nat → Nat → Int64} {T : Nat → Nat → Nat} {Q : Option Value → Mem → Prop} (hyp : ((rr = (-1 : Int32) → Go none aM (Ev mt aM (d + 8)) mX12_marksAll Q (44, [some (.ref 83), some (.int per), none, none, some (.int oth), some (.int (at_ / (5 : Int32))), some (.int ((at_ - at_ / (5 : Int32) * (5 : Int32)) - (2 : Int32))), some (.int (0 : Int32))], [], (SH, mkM I J T), 0, 0)) ∧ ((¬ (rr = (-1 : Int32))) → Ev mt aM (d + 8) 242 [.ref 83, .int rr, .int per, .int ((at_ - at_ / (5 : Int32) * (5 : Int32)) - (2 : Int32)), .int (at_ / (5 : Int32)), .int oth] (SH, mkM I J T) (fun r m1 => Go none aM (Ev mt aM (d + 8)) mX12_marksAll Q (35, [some (.ref 83), some (.int per), some (.int at_), some (.int rr), some (.int oth), some (.int (at_ / (5 : Int32))), some (.int ((at_ - at_ / (5 : Int32) * (5 : Int32)) - (2 : Int32))), none], r.toList ++ [.int (at_ / (5 : Int32)), .int ((at_ - at_ / (5 : Int32) * (5 : Int32)) - (2 : Int32)), .int per, .ref 83], m1, 0, 0))))) : Go none aM (Ev mt aM (d + 8)) mX12_marksAll Q (0, [some (.ref 83), some (.int per), some (.int at_), some (.int rr), some (.int oth), none, none, none], [], (SH, mkM I J T), 0, 0) := by
  refine Go.of_run (Ev.mono _) 3 _ ?_
  refine ⟨(by decide : ¬ (5 : Int32) = 0), ?_⟩
  show Go none aM (Ev mt aM (d + 8)) mX12_marksAll Q (3, [some (.ref 83), some (.int per), some (.int at_), some (.int rr), some (.int oth), none, none, none], [.int (at_ / (5 : Int32))], (SH, mkM I J T), 0, 0)
  refine Go.of_run (Ev.mono _) 4 _ ?_
  refine ⟨(by decide : ¬ (5 : Int32) = 0), ?_⟩
  show Go none aM (Ev mt aM (d + 8)) mX12_marksAll Q (8, [some (.ref 83), some (.int per), some (.int at_), some (.int rr), some (.int oth), some (.int (at_ / (5 : Int32))), none, none], [.int (at_ - at_ / (5 : Int32) * (5 : Int32))], (SH, mkM I J T), 0, 0)
  refine Go.of_run (Ev.mono _) 6 _ ?_
  show Go none aM (Ev mt aM (d + 8)) mX12_marksAll Q (if rr = (-1 : Int32) then 41 else 17, [some (.ref 83), some (.int per), some (.int at_), some (.int rr), some (.int oth), some (.int (at_ / (5 : Int32))), some (.int ((at_ - at_ / (5 : Int32) * (5 : Int32)) - (2 : Int32))), none], [], (SH, mkM I J T), 0, 0)
  rcases Decidable.em (rr = (-1 : Int32)) with c1 | c1
  · rw [if_pos c1]
    refine Go.of_run (Ev.mono _) 2 _ ?_
    exact Go.weak (Ev.mono _) (LLe.cons (LLe.cons (LLe.drop (LLe.drop (LLe.cons (LLe.cons (LLe.cons (LLe.cons LLe.nil)))))))) (hyp.1 c1)
  · rw [if_neg c1]
    refine Go.of_run (Ev.mono _) 11 _ ?_
    refine ⟨Nat.le_of_ble_eq_true rfl, (hyp.2 c1)⟩
set_option maxRecDepth 20000 in
theorem mal_35 {d : Nat} {per at_ rr oth c sc v : Int32} {I : Nat → Nat → Int32} {J : Nat → Nat → Int64} {T : Nat → Nat → Nat} {Q : Option Value → Mem → Prop} (hyp : Ev mt aM (d + 8) 243 [.ref 83, .int per, .int sc, .int c, .int v, .int oth] (SH, mkM I J T) (fun r m1 => Go none aM (Ev mt aM (d + 8)) mX12_marksAll Q (40, [some (.ref 83), some (.int per), some (.int at_), some (.int rr), some (.int oth), some (.int c), some (.int sc), none], r.toList ++ [], m1, 0, 0))) : Go none aM (Ev mt aM (d + 8)) mX12_marksAll Q (35, [some (.ref 83), some (.int per), some (.int at_), some (.int rr), some (.int oth), some (.int c), some (.int sc), none], [.int v, .int c, .int sc, .int per, .ref 83], (SH, mkM I J T), 0, 0) := by
  refine Go.of_run (Ev.mono _) 2 _ ?_
  refine ⟨Nat.le_of_ble_eq_true rfl, hyp⟩
set_option maxRecDepth 20000 in
theorem mal_40 {d : Nat} {per at_ rr oth c sc : Int32} {I : Nat → Nat → Int32} {J : Nat → Nat → Int64} {T : Nat → Nat → Nat} {Q : Option Value → Mem → Prop} (hyp : Q none (SH, mkM I J T)) : Go none aM (Ev mt aM (d + 8)) mX12_marksAll Q (40, [some (.ref 83), some (.int per), some (.int at_), some (.int rr), some (.int oth), some (.int c), some (.int sc), none], [], (SH, mkM I J T), 0, 0) := by
  refine Go.of_run (Ev.mono _) 1 _ ?_
  refine ⟨trivial, ?_⟩
  show Q none (SH, mkM I J T)
  exact hyp
set_option maxRecDepth 20000 in
theorem mal_44 {d : Nat} {per oth c sc a : Int32} {I : Nat → Nat → Int32} {J : Nat → Nat → Int64} {T : Nat → Nat → Nat} {Q : Option Value → Mem → Prop} (hyp : (((49 : Int32) ≤ a → Q none (SH, mkM I J T)) ∧ ((¬ ((49 : Int32) ≤ a)) → ((v_X12_mayBe c a I = 0 → Go none aM (Ev mt aM (d + 8)) mX12_marksAll Q (44, [some (.ref 83), some (.int per), none, none, some (.int oth), some (.int c), some (.int sc), some (.int (a + 1))], [], (SH, mkM I J T), 0, 0)) ∧ ((¬ (v_X12_mayBe c a I = 0)) → Ev mt aM (d + 8) 243 [.ref 83, .int per, .int sc, .int c, .int a, .int oth] (SH, mkM I J T) (fun r m1 => Go none aM (Ev mt aM (d + 8)) mX12_marksAll Q (75, [some (.ref 83), some (.int per), none, none, some (.int oth), some (.int c), some (.int sc), some (.int a)], r.toList ++ [], m1, 0, 0))))))) : Go none aM (Ev mt aM (d + 8)) mX12_marksAll Q (44, [some (.ref 83), some (.int per), none, none, some (.int oth), some (.int c), some (.int sc), some (.int a)], [], (SH, mkM I J T), 0, 0) := by
  refine Go.of_run (Ev.mono _) 3 _ ?_
  show Go none aM (Ev mt aM (d + 8)) mX12_marksAll Q (if (49 : Int32) ≤ a then 81 else 51, [some (.ref 83), some (.int per), none, none, some (.int oth), some (.int c), some (.int sc), some (.int a)], [], (SH, mkM I J T), 0, 0)
  rcases Decidable.em ((49 : Int32) ≤ a) with c1 | c1
  · rw [if_pos c1]
    refine Go.of_run (Ev.mono _) 1 _ ?_
    refine ⟨trivial, ?_⟩
    show Q none (SH, mkM I J T)
    exact (hyp.1 c1)
  · rw [if_neg c1]
    refine Go.of_run (Ev.mono _) 4 _ ?_
    refine ⟨Nat.le_of_ble_eq_true rfl, ev_X12_mayBe ?_⟩
    show Go none aM (Ev mt aM (d + 8)) mX12_marksAll Q (59, [some (.ref 83), some (.int per), none, none, some (.int oth), some (.int c), some (.int sc), some (.int a)], [.int (v_X12_mayBe c a I)], (SH, mkM I J T), 0, 0)
    refine Go.of_run (Ev.mono _) 1 _ ?_
    show Go none aM (Ev mt aM (d + 8)) mX12_marksAll Q (if v_X12_mayBe c a I = 0 then 75 else 62, [some (.ref 83), some (.int per), none, none, some (.int oth), some (.int c), some (.int sc), some (.int a)], [], (SH, mkM I J T), 0, 0)
    rcases Decidable.em (v_X12_mayBe c a I = 0) with c2 | c2
    · rw [if_pos c2]
      refine Go.of_run (Ev.mono _) 2 _ ?_
      exact ((hyp.2 c1).1 c2)
    · rw [if_neg c2]
      refine Go.of_run (Ev.mono _) 7 _ ?_
      refine ⟨Nat.le_of_ble_eq_true rfl, ((hyp.2 c1).2 c2)⟩
set_option maxRecDepth 20000 in
theorem mal_75 {d : Nat} {per oth c sc a : Int32} {I : Nat → Nat → Int32} {J : Nat → Nat → Int64} {T : Nat → Nat → Nat} {Q : Option Value → Mem → Prop} (hyp : Go none aM (Ev mt aM (d + 8)) mX12_marksAll Q (44, [some (.ref 83), some (.int per), none, none, some (.int oth), some (.int c), some (.int sc), some (.int (a + 1))], [], (SH, mkM I J T), 0, 0)) : Go none aM (Ev mt aM (d + 8)) mX12_marksAll Q (75, [some (.ref 83), some (.int per), none, none, some (.int oth), some (.int c), some (.int sc), some (.int a)], [], (SH, mkM I J T), 0, 0) := by
  refine Go.of_run (Ev.mono _) 2 _ ?_
  exact hyp
set_option maxRecDepth 20000 in
theorem tel_0 {d : Nat} {per at_ rr oth : Int32} {I : Nat → Nat → Int32} {J : Nat → Nat → Int64} {T : Nat → Nat → Nat} {Q : Option Value → Mem → Prop} (hyp : ((rr = (-1 : Int32) → Go none aM (Ev mt aM (d + 8)) mX12_tells Q (96, [some (.ref 83), some (.int per), none, none, some (.int oth), some (.int (at_ / (5 : Int32))), some (.int ((at_ - at_ / (5 : Int32) * (5 : Int32)) - (2 : Int32))), some (.int (((10240 : Int32) * per) + at_)), some (.int (0 : Int32)), some (.int (0 : Int32)), none, none], [], (SH, mkM I J T), 0, 0)) ∧ ((¬ (rr = (-1 : Int32))) → Ev mt aM (d + 8) 242 [.ref 83, .int rr, .int per, .int ((at_ - at_ / (5 : Int32) * (5 : Int32)) - (2 : Int32)), .int (at_ / (5 : Int32)), .int oth] (SH, mkM I J T) (fun r m1 => Go none aM (Ev mt aM (d + 8)) mX12_tells Q (50, [some (.ref 83), some (.int per), some (.int at_), some (.int rr), some (.int oth), some (.int (at_ / (5 : Int32))), some (.int ((at_ - at_ / (5 : Int32) * (5 : Int32)) - (2 : Int32))), some (.int (((10240 : Int32) * per) + at_)), none, none, none, none], r.toList ++ [.int (at_ / (5 : Int32)), .int ((at_ - at_ / (5 : Int32) * (5 : Int32)) - (2 : Int32)), .int per, .ref 83, .int (((10240 : Int32) * per) + at_), .ref 107], m1, 0, 0))))) : Go none aM (Ev mt aM (d + 8)) mX12_tells Q (0, [some (.ref 83), some (.int per), some (.int at_), some (.int rr), some (.int oth), none, none, none, none, none, none, none], [], (SH, mkM I J T), 0, 0) := by
  refine Go.of_run (Ev.mono _) 3 _ ?_
  refine ⟨(by decide : ¬ (5 : Int32) = 0), ?_⟩
  show Go none aM (Ev mt aM (d + 8)) mX12_tells Q (3, [some (.ref 83), some (.int per), some (.int at_), some (.int rr), some (.int oth), none, none, none, none, none, none, none], [.int (at_ / (5 : Int32))], (SH, mkM I J T), 0, 0)
  refine Go.of_run (Ev.mono _) 4 _ ?_
  refine ⟨(by decide : ¬ (5 : Int32) = 0), ?_⟩
  show Go none aM (Ev mt aM (d + 8)) mX12_tells Q (8, [some (.ref 83), some (.int per), some (.int at_), some (.int rr), some (.int oth), some (.int (at_ / (5 : Int32))), none, none, none, none, none, none], [.int (at_ - at_ / (5 : Int32) * (5 : Int32))], (SH, mkM I J T), 0, 0)
  refine Go.of_run (Ev.mono _) 12 _ ?_
  show Go none aM (Ev mt aM (d + 8)) mX12_tells Q (if rr = (-1 : Int32) then 90 else 26, [some (.ref 83), some (.int per), some (.int at_), some (.int rr), some (.int oth), some (.int (at_ / (5 : Int32))), some (.int ((at_ - at_ / (5 : Int32) * (5 : Int32)) - (2 : Int32))), some (.int (((10240 : Int32) * per) + at_)), none, none, none, none], [], (SH, mkM I J T), 0, 0)
  rcases Decidable.em (rr = (-1 : Int32)) with c1 | c1
  · rw [if_pos c1]
    refine Go.of_run (Ev.mono _) 4 _ ?_
    exact Go.weak (Ev.mono _) (LLe.cons (LLe.cons (LLe.drop (LLe.drop (LLe.cons (LLe.cons (LLe.cons (LLe.cons (LLe.cons (LLe.cons (LLe.cons (LLe.cons LLe.nil)))))))))))) (hyp.1 c1)
  · rw [if_neg c1]
    refine Go.of_run (Ev.mono _) 14 _ ?_
    refine ⟨Nat.le_of_ble_eq_true rfl, (hyp.2 c1)⟩
set_option maxRecDepth 20000 in
theorem tel_50 {d : Nat} {per at_ rr oth c sc i v : Int32} {I : Nat → Nat → Int32} {J : Nat → Nat → Int64} {T : Nat → Nat → Nat} {Q : Option Value → Mem → Prop} (hyp : Ev mt aM (d + 8) 245 [.ref 83, .int per, .int sc, .int c, .int v, .int oth] (SH, mkM I J T) (fun r m1 => Go none aM (Ev mt aM (d + 8)) mX12_tells Q (55, [some (.ref 83), some (.int per), some (.int at_), some (.int rr), some (.int oth), some (.int c), some (.int sc), some (.int i), none, none, none, none], r.toList ++ [.int i, .ref 107], m1, 0, 0))) : Go none aM (Ev mt aM (d + 8)) mX12_tells Q (50, [some (.ref 83), some (.int per), some (.int at_), some (.int rr), some (.int oth), some (.int c), some (.int sc), some (.int i), none, none, none, none], [.int v, .int c, .int sc, .int per, .ref 83, .int i, .ref 107], (SH, mkM I J T), 0, 0) := by
  refine Go.of_run (Ev.mono _) 2 _ ?_
  refine ⟨Nat.le_of_ble_eq_true rfl, hyp⟩
set_option maxRecDepth 20000 in
theorem tel_55 {d : Nat} {per at_ rr oth c sc i : Int32} {x : Int64} {I : Nat → Nat → Int32} {J : Nat → Nat → Int64} {T : Nat → Nat → Nat} {Q : Option Value → Mem → Prop} (hyp : (vp_in i 61440 ∧ (vp_in i 61440 ∧ (vp_in i 61440 ∧ (vp_in i 61440 ∧ Q none (SH, mkM I (sj (sj (sj (sj J 107 i.toNatClampNeg x) 108 i.toNatClampNeg (J 83 44)) 109 i.toNatClampNeg (J 83 45)) 110 i.toNatClampNeg (J 83 46)) T)))))) : Go none aM (Ev mt aM (d + 8)) mX12_tells Q (55, [some (.ref 83), some (.int per), some (.int at_), some (.int rr), some (.int oth), some (.int c), some (.int sc), some (.int i), none, none, none, none], [.long x, .int i, .ref 107], (SH, mkM I J T), 0, 0) := by
  refine Go.of_run (Ev.mono _) 1 _ ?_
  refine ⟨hyp.1, ?_⟩
  refine go_sj rfl ?_
  show Go none aM (Ev mt aM (d + 8)) mX12_tells Q (56, [some (.ref 83), some (.int per), some (.int at_), some (.int rr), some (.int oth), some (.int c), some (.int sc), some (.int i), none, none, none, none], [], (SH, mkM I (sj J 107 i.toNatClampNeg x) T), 0, 0)
  refine Go.of_run (Ev.mono _) 6 _ ?_
  refine ⟨hyp.2.1, ?_⟩
  refine go_sj rfl ?_
  show Go none aM (Ev mt aM (d + 8)) mX12_tells Q (67, [some (.ref 83), some (.int per), some (.int at_), some (.int rr), some (.int oth), some (.int c), some (.int sc), some (.int i), none, none, none, none], [], (SH, mkM I (sj (sj J 107 i.toNatClampNeg x) 108 i.toNatClampNeg (J 83 44)) T), 0, 0)
  refine Go.of_run (Ev.mono _) 6 _ ?_
  refine ⟨hyp.2.2.1, ?_⟩
  refine go_sj rfl ?_
  show Go none aM (Ev mt aM (d + 8)) mX12_tells Q (78, [some (.ref 83), some (.int per), some (.int at_), some (.int rr), some (.int oth), some (.int c), some (.int sc), some (.int i), none, none, none, none], [], (SH, mkM I (sj (sj (sj J 107 i.toNatClampNeg x) 108 i.toNatClampNeg (J 83 44)) 109 i.toNatClampNeg (J 83 45)) T), 0, 0)
  refine Go.of_run (Ev.mono _) 6 _ ?_
  refine ⟨hyp.2.2.2.1, ?_⟩
  refine go_sj rfl ?_
  show Go none aM (Ev mt aM (d + 8)) mX12_tells Q (89, [some (.ref 83), some (.int per), some (.int at_), some (.int rr), some (.int oth), some (.int c), some (.int sc), some (.int i), none, none, none, none], [], (SH, mkM I (sj (sj (sj (sj J 107 i.toNatClampNeg x) 108 i.toNatClampNeg (J 83 44)) 109 i.toNatClampNeg (J 83 45)) 110 i.toNatClampNeg (J 83 46)) T), 0, 0)
  refine Go.of_run (Ev.mono _) 1 _ ?_
  refine ⟨trivial, ?_⟩
  show Q none (SH, mkM I (sj (sj (sj (sj J 107 i.toNatClampNeg x) 108 i.toNatClampNeg (J 83 44)) 109 i.toNatClampNeg (J 83 45)) 110 i.toNatClampNeg (J 83 46)) T)
  exact hyp.2.2.2.2
set_option maxRecDepth 20000 in
theorem tel_96 {d : Nat} {per oth c sc i b a : Int32} {I : Nat → Nat → Int32} {J : Nat → Nat → Int64} {T : Nat → Nat → Nat} {Q : Option Value → Mem → Prop} (hyp : (((49 : Int32) ≤ a → Q none (SH, mkM I J T)) ∧ ((¬ ((49 : Int32) ≤ a)) → ((v_X12_mayBe c a I = 0 → Go none aM (Ev mt aM (d + 8)) mX12_tells Q (96, [some (.ref 83), some (.int per), none, none, some (.int oth), some (.int c), some (.int sc), some (.int i), some (.int b), some (.int (a + 1)), none, none], [], (SH, mkM I J T), 0, 0)) ∧ ((¬ (v_X12_mayBe c a I = 0)) → Ev mt aM (d + 8) 245 [.ref 83, .int per, .int sc, .int c, .int a, .int oth] (SH, mkM I J T) (fun r m1 => Go none aM (Ev mt aM (d + 8)) mX12_tells Q (130, [some (.ref 83), some (.int per), none, none, some (.int oth), some (.int c), some (.int sc), some (.int i), some (.int b), some (.int a), none, none], r.toList ++ [], m1, 0, 0))))))) : Go none aM (Ev mt aM (d + 8)) mX12_tells Q (96, [some (.ref 83), some (.int per), none, none, some (.int oth), some (.int c), some (.int sc), some (.int i), some (.int b), some (.int a), none, none], [], (SH, mkM I J T), 0, 0) := by
  refine Go.of_run (Ev.mono _) 3 _ ?_
  show Go none aM (Ev mt aM (d + 8)) mX12_tells Q (if (49 : Int32) ≤ a then 181 else 103, [some (.ref 83), some (.int per), none, none, some (.int oth), some (.int c), some (.int sc), some (.int i), some (.int b), some (.int a), none, none], [], (SH, mkM I J T), 0, 0)
  rcases Decidable.em ((49 : Int32) ≤ a) with c1 | c1
  · rw [if_pos c1]
    refine Go.of_run (Ev.mono _) 1 _ ?_
    refine ⟨trivial, ?_⟩
    show Q none (SH, mkM I J T)
    exact (hyp.1 c1)
  · rw [if_neg c1]
    refine Go.of_run (Ev.mono _) 4 _ ?_
    refine ⟨Nat.le_of_ble_eq_true rfl, ev_X12_mayBe ?_⟩
    show Go none aM (Ev mt aM (d + 8)) mX12_tells Q (111, [some (.ref 83), some (.int per), none, none, some (.int oth), some (.int c), some (.int sc), some (.int i), some (.int b), some (.int a), none, none], [.int (v_X12_mayBe c a I)], (SH, mkM I J T), 0, 0)
    refine Go.of_run (Ev.mono _) 1 _ ?_
    show Go none aM (Ev mt aM (d + 8)) mX12_tells Q (if v_X12_mayBe c a I = 0 then 114 else 117, [some (.ref 83), some (.int per), none, none, some (.int oth), some (.int c), some (.int sc), some (.int i), some (.int b), some (.int a), none, none], [], (SH, mkM I J T), 0, 0)
    rcases Decidable.em (v_X12_mayBe c a I = 0) with c2 | c2
    · rw [if_pos c2]
      refine Go.of_run (Ev.mono _) 3 _ ?_
      exact ((hyp.2 c1).1 c2)
    · rw [if_neg c2]
      refine Go.of_run (Ev.mono _) 7 _ ?_
      refine ⟨Nat.le_of_ble_eq_true rfl, ((hyp.2 c1).2 c2)⟩
set_option maxRecDepth 20000 in
theorem tel_130 {d : Nat} {per oth c sc i b a : Int32} {x : Int64} {I : Nat → Nat → Int32} {J : Nat → Nat → Int64} {T : Nat → Nat → Nat} {Q : Option Value → Mem → Prop} (hyp : ((b = 0 → (vp_in i 61440 ∧ (vp_in i 61440 ∧ Go none aM (Ev mt aM (d + 8)) mX12_tells Q (96, [some (.ref 83), some (.int per), none, none, some (.int oth), some (.int c), some (.int sc), some (.int i), some (.int (1 : Int32)), some (.int (a + 1)), none, none], [], (SH, mkM (si I 111 i.toNatClampNeg (vp_nar .byte a.toInt8.toInt32)) (sj J 107 i.toNatClampNeg x) T), 0, 0)))) ∧ ((¬ (b = 0)) → (vp_in i 61440 ∧ ((0 < lg_cmp x (J 107 i.toNatClampNeg) → (vp_in i 61440 ∧ (vp_in i 61440 ∧ Go none aM (Ev mt aM (d + 8)) mX12_tells Q (96, [some (.ref 83), some (.int per), none, none, some (.int oth), some (.int c), some (.int sc), some (.int i), some (.int (1 : Int32)), some (.int (a + 1)), none, none], [], (SH, mkM (si I 111 i.toNatClampNeg (vp_nar .byte a.toInt8.toInt32)) (sj J 107 i.toNatClampNeg x) T), 0, 0)))) ∧ ((¬ (0 < lg_cmp x (J 107 i.toNatClampNeg))) → Go none aM (Ev mt aM (d + 8)) mX12_tells Q (96, [some (.ref 83), some (.int per), none, none, some (.int oth), some (.int c), some (.int sc), some (.int i), some (.int b), some (.int (a + 1)), none, none], [], (SH, mkM I J T), 0, 0))))))) : Go none aM (Ev mt aM (d + 8)) mX12_tells Q (130, [some (.ref 83), some (.int per), none, none, some (.int oth), some (.int c), some (.int sc), some (.int i), some (.int b), some (.int a), none, none], [.long x], (SH, mkM I J T), 0, 0) := by
  refine Go.of_run (Ev.mono _) 3 _ ?_
  show Go none aM (Ev mt aM (d + 8)) mX12_tells Q (if b = 0 then 153 else 137, [some (.ref 83), some (.int per), none, none, some (.int oth), some (.int c), some (.int sc), some (.int i), some (.int b), some (.int a), some (.long x), none], [], (SH, mkM I J T), 0, 0)
  rcases Decidable.em (b = 0) with c1 | c1
  · rw [if_pos c1]
    refine Go.of_run (Ev.mono _) 7 _ ?_
    refine ⟨(hyp.1 c1).1, ?_⟩
    refine go_sj rfl ?_
    show Go none aM (Ev mt aM (d + 8)) mX12_tells Q (165, [some (.ref 83), some (.int per), none, none, some (.int oth), some (.int c), some (.int sc), some (.int i), some (.int (1 : Int32)), some (.int a), some (.long x), none], [], (SH, mkM I (sj J 107 i.toNatClampNeg x) T), 0, 0)
    refine Go.of_run (Ev.mono _) 6 _ ?_
    refine ⟨(hyp.1 c1).2.1, ?_⟩
    refine go_si rfl ?_
    show Go none aM (Ev mt aM (d + 8)) mX12_tells Q (175, [some (.ref 83), some (.int per), none, none, some (.int oth), some (.int c), some (.int sc), some (.int i), some (.int (1 : Int32)), some (.int a), some (.long x), none], [], (SH, mkM (si I 111 i.toNatClampNeg (vp_nar .byte a.toInt8.toInt32)) (sj J 107 i.toNatClampNeg x) T), 0, 0)
    refine Go.of_run (Ev.mono _) 2 _ ?_
    exact Go.weak (Ev.mono _) (LLe.cons (LLe.cons (LLe.cons (LLe.cons (LLe.cons (LLe.cons (LLe.cons (LLe.cons (LLe.cons (LLe.cons (LLe.drop (LLe.cons LLe.nil)))))))))))) (hyp.1 c1).2.2
  · rw [if_neg c1]
    refine Go.of_run (Ev.mono _) 5 _ ?_
    refine ⟨(hyp.2 c1).1, ?_⟩
    show Go none aM (Ev mt aM (d + 8)) mX12_tells Q (146, [some (.ref 83), some (.int per), none, none, some (.int oth), some (.int c), some (.int sc), some (.int i), some (.int b), some (.int a), some (.long x), none], [.long (J 107 i.toNatClampNeg), .long x], (SH, mkM I J T), 0, 0)
    refine Go.of_run (Ev.mono _) 2 _ ?_
    show Go none aM (Ev mt aM (d + 8)) mX12_tells Q (if 0 < lg_cmp x (J 107 i.toNatClampNeg) then 153 else 150, [some (.ref 83), some (.int per), none, none, some (.int oth), some (.int c), some (.int sc), some (.int i), some (.int b), some (.int a), some (.long x), none], [], (SH, mkM I J T), 0, 0)
    rcases Decidable.em (0 < lg_cmp x (J 107 i.toNatClampNeg)) with c2 | c2
    · rw [if_pos c2]
      refine Go.of_run (Ev.mono _) 7 _ ?_
      refine ⟨((hyp.2 c1).2.1 c2).1, ?_⟩
      refine go_sj rfl ?_
      show Go none aM (Ev mt aM (d + 8)) mX12_tells Q (165, [some (.ref 83), some (.int per), none, none, some (.int oth), some (.int c), some (.int sc), some (.int i), some (.int (1 : Int32)), some (.int a), some (.long x), none], [], (SH, mkM I (sj J 107 i.toNatClampNeg x) T), 0, 0)
      refine Go.of_run (Ev.mono _) 6 _ ?_
      refine ⟨((hyp.2 c1).2.1 c2).2.1, ?_⟩
      refine go_si rfl ?_
      show Go none aM (Ev mt aM (d + 8)) mX12_tells Q (175, [some (.ref 83), some (.int per), none, none, some (.int oth), some (.int c), some (.int sc), some (.int i), some (.int (1 : Int32)), some (.int a), some (.long x), none], [], (SH, mkM (si I 111 i.toNatClampNeg (vp_nar .byte a.toInt8.toInt32)) (sj J 107 i.toNatClampNeg x) T), 0, 0)
      refine Go.of_run (Ev.mono _) 2 _ ?_
      exact Go.weak (Ev.mono _) (LLe.cons (LLe.cons (LLe.cons (LLe.cons (LLe.cons (LLe.cons (LLe.cons (LLe.cons (LLe.cons (LLe.cons (LLe.drop (LLe.cons LLe.nil)))))))))))) ((hyp.2 c1).2.1 c2).2.2
    · rw [if_neg c2]
      refine Go.of_run (Ev.mono _) 3 _ ?_
      exact Go.weak (Ev.mono _) (LLe.cons (LLe.cons (LLe.cons (LLe.cons (LLe.cons (LLe.cons (LLe.cons (LLe.cons (LLe.cons (LLe.cons (LLe.drop (LLe.cons LLe.nil)))))))))))) ((hyp.2 c1).2.2 c2)
set_option maxRecDepth 20000 in
theorem sol_0 {d : Nat} {per sc c rr oth : Int32} {I : Nat → Nat → Int32} {J : Nat → Nat → Int64} {T : Nat → Nat → Nat} {Q : Option Value → Mem → Prop} (hyp : Go none aM (Ev mt aM (d + 9)) mX12_solves Q (7, [some (.ref 83), some (.int per), some (.int sc), some (.int c), some (.int rr), some (.int oth), some (.int ((10240 : Int32) * per)), none], [], (SH, mkM I J T), 0, 0)) : Go none aM (Ev mt aM (d + 9)) mX12_solves Q (0, [some (.ref 83), some (.int per), some (.int sc), some (.int c), some (.int rr), some (.int oth), none, none], [], (SH, mkM I J T), 0, 0) := by
  refine Go.of_run (Ev.mono _) 4 _ ?_
  exact hyp
set_option maxRecDepth 20000 in
theorem sol_7 {d : Nat} {per sc c rr oth k : Int32} {I : Nat → Nat → Int32} {J : Nat → Nat → Int64} {T : Nat → Nat → Nat} {Q : Option Value → Mem → Prop} (hyp : (((10240 : Int32) * ((I 83 0) + (1 : Int32)) ≤ k → (vp_in (v_X12_placeIn per sc c) 61440 ∧ Go none aM (Ev mt aM (d + 9)) mX12_solves Q (51, [some (.ref 83), some (.int per), some (.int sc), some (.int c), some (.int rr), some (.int oth), some (.int per), none], [], (SH, mkM (si I 106 ((v_X12_placeIn per sc c).toNatClampNeg) (vp_nar .boolean (1 : Int32))) J T), 0, 0))) ∧ ((¬ ((10240 : Int32) * ((I 83 0) + (1 : Int32)) ≤ k)) → (vp_in k 61440 ∧ Go none aM (Ev mt aM (d + 9)) mX12_solves Q (7, [some (.ref 83), some (.int per), some (.int sc), some (.int c), some (.int rr), some (.int oth), some (.int (k + 1)), none], [], (SH, mkM (si I 106 k.toNatClampNeg (vp_nar .boolean (0 : Int32))) J T), 0, 0))))) : Go none aM (Ev mt aM (d + 9)) mX12_solves Q (7, [some (.ref 83), some (.int per), some (.int sc), some (.int c), some (.int rr), some (.int oth), some (.int k), none], [], (SH, mkM I J T), 0, 0) := by
  refine Go.of_run (Ev.mono _) 8 _ ?_
  show Go none aM (Ev mt aM (d + 9)) mX12_solves Q (if (10240 : Int32) * ((I 83 0) + (1 : Int32)) ≤ k then 36 else 22, [some (.ref 83), some (.int per), some (.int sc), some (.int c), some (.int rr), some (.int oth), some (.int k), none], [], (SH, mkM I J T), 0, 0)
  rcases Decidable.em ((10240 : Int32) * ((I 83 0) + (1 : Int32)) ≤ k) with c1 | c1
  · rw [if_pos c1]
    refine Go.of_run (Ev.mono _) 6 _ ?_
    refine ⟨Nat.le_of_ble_eq_true rfl, ev_X12_placeIn ?_⟩
    show Go none aM (Ev mt aM (d + 9)) mX12_solves Q (46, [some (.ref 83), some (.int per), some (.int sc), some (.int c), some (.int rr), some (.int oth), some (.int k), none], [.int (v_X12_placeIn per sc c), .ref 106], (SH, mkM I J T), 0, 0)
    refine Go.of_run (Ev.mono _) 2 _ ?_
    refine ⟨(hyp.1 c1).1, ?_⟩
    refine go_si rfl ?_
    show Go none aM (Ev mt aM (d + 9)) mX12_solves Q (48, [some (.ref 83), some (.int per), some (.int sc), some (.int c), some (.int rr), some (.int oth), some (.int k), none], [], (SH, mkM (si I 106 ((v_X12_placeIn per sc c).toNatClampNeg) (vp_nar .boolean (1 : Int32))) J T), 0, 0)
    refine Go.of_run (Ev.mono _) 2 _ ?_
    exact (hyp.1 c1).2
  · rw [if_neg c1]
    refine Go.of_run (Ev.mono _) 5 _ ?_
    refine ⟨(hyp.2 c1).1, ?_⟩
    refine go_si rfl ?_
    show Go none aM (Ev mt aM (d + 9)) mX12_solves Q (30, [some (.ref 83), some (.int per), some (.int sc), some (.int c), some (.int rr), some (.int oth), some (.int k), none], [], (SH, mkM (si I 106 k.toNatClampNeg (vp_nar .boolean (0 : Int32))) J T), 0, 0)
    refine Go.of_run (Ev.mono _) 2 _ ?_
    exact (hyp.2 c1).2
set_option maxRecDepth 20000 in
theorem sol_51 {d : Nat} {per sc c rr oth t : Int32} {I : Nat → Nat → Int32} {J : Nat → Nat → Int64} {T : Nat → Nat → Nat} {Q : Option Value → Mem → Prop} (hyp : ((I 83 0 ≤ t → Go none aM (Ev mt aM (d + 9)) mX12_solves Q (122, [some (.ref 83), some (.int per), some (.int sc), some (.int c), some (.int rr), some (.int oth), some (.int ((10240 : Int32) * (I 83 0))), none], [], (SH, mkM I J T), 0, 0)) ∧ ((¬ (I 83 0 ≤ t)) → Go none aM (Ev mt aM (d + 9)) mX12_solves Q (63, [some (.ref 83), some (.int per), some (.int sc), some (.int c), some (.int rr), some (.int oth), some (.int t), some (.int (0 : Int32))], [], (SH, mkM I J T), 0, 0)))) : Go none aM (Ev mt aM (d + 9)) mX12_solves Q (51, [some (.ref 83), some (.int per), some (.int sc), some (.int c), some (.int rr), some (.int oth), some (.int t), none], [], (SH, mkM I J T), 0, 0) := by
  refine Go.of_run (Ev.mono _) 4 _ ?_
  show Go none aM (Ev mt aM (d + 9)) mX12_solves Q (if I 83 0 ≤ t then 112 else 60, [some (.ref 83), some (.int per), some (.int sc), some (.int c), some (.int rr), some (.int oth), some (.int t), none], [], (SH, mkM I J T), 0, 0)
  rcases Decidable.em (I 83 0 ≤ t) with c1 | c1
  · rw [if_pos c1]
    refine Go.of_run (Ev.mono _) 5 _ ?_
    exact (hyp.1 c1)
  · rw [if_neg c1]
    refine Go.of_run (Ev.mono _) 2 _ ?_
    exact (hyp.2 c1)
set_option maxRecDepth 20000 in
theorem sol_63 {d : Nat} {per sc c rr oth t k : Int32} {I : Nat → Nat → Int32} {J : Nat → Nat → Int64} {T : Nat → Nat → Nat} {Q : Option Value → Mem → Prop} (hyp : (((10240 : Int32) ≤ k → Go none aM (Ev mt aM (d + 9)) mX12_solves Q (51, [some (.ref 83), some (.int per), some (.int sc), some (.int c), some (.int rr), some (.int oth), some (.int (t + 1)), none], [], (SH, mkM I J T), 0, 0)) ∧ ((¬ ((10240 : Int32) ≤ k)) → (vp_in (((10240 : Int32) * t) + k) 61440 ∧ ((I 106 ((((10240 : Int32) * t) + k).toNatClampNeg) = 0 → Go none aM (Ev mt aM (d + 9)) mX12_solves Q (63, [some (.ref 83), some (.int per), some (.int sc), some (.int c), some (.int rr), some (.int oth), some (.int t), some (.int (k + 1))], [], (SH, mkM I J T), 0, 0)) ∧ ((¬ (I 106 ((((10240 : Int32) * t) + k).toNatClampNeg) = 0)) → Ev mt aM (d + 9) 244 [.ref 83, .int t, .int k, .int rr, .int oth] (SH, mkM I J T) (fun r m1 => Go none aM (Ev mt aM (d + 9)) mX12_solves Q (100, [some (.ref 83), some (.int per), some (.int sc), some (.int c), some (.int rr), some (.int oth), some (.int t), some (.int k)], r.toList ++ [], m1, 0, 0)))))))) : Go none aM (Ev mt aM (d + 9)) mX12_solves Q (63, [some (.ref 83), some (.int per), some (.int sc), some (.int c), some (.int rr), some (.int oth), some (.int t), some (.int k)], [], (SH, mkM I J T), 0, 0) := by
  refine Go.of_run (Ev.mono _) 3 _ ?_
  show Go none aM (Ev mt aM (d + 9)) mX12_solves Q (if (10240 : Int32) ≤ k then 106 else 71, [some (.ref 83), some (.int per), some (.int sc), some (.int c), some (.int rr), some (.int oth), some (.int t), some (.int k)], [], (SH, mkM I J T), 0, 0)
  rcases Decidable.em ((10240 : Int32) ≤ k) with c1 | c1
  · rw [if_pos c1]
    refine Go.of_run (Ev.mono _) 2 _ ?_
    exact Go.weak (Ev.mono _) (LLe.cons (LLe.cons (LLe.cons (LLe.cons (LLe.cons (LLe.cons (LLe.cons (LLe.drop LLe.nil)))))))) (hyp.1 c1)
  · rw [if_neg c1]
    refine Go.of_run (Ev.mono _) 8 _ ?_
    refine ⟨(hyp.2 c1).1, ?_⟩
    show Go none aM (Ev mt aM (d + 9)) mX12_solves Q (85, [some (.ref 83), some (.int per), some (.int sc), some (.int c), some (.int rr), some (.int oth), some (.int t), some (.int k)], [.int (I 106 ((((10240 : Int32) * t) + k).toNatClampNeg))], (SH, mkM I J T), 0, 0)
    refine Go.of_run (Ev.mono _) 1 _ ?_
    show Go none aM (Ev mt aM (d + 9)) mX12_solves Q (if I 106 ((((10240 : Int32) * t) + k).toNatClampNeg) = 0 then 100 else 88, [some (.ref 83), some (.int per), some (.int sc), some (.int c), some (.int rr), some (.int oth), some (.int t), some (.int k)], [], (SH, mkM I J T), 0, 0)
    rcases Decidable.em (I 106 ((((10240 : Int32) * t) + k).toNatClampNeg) = 0) with c2 | c2
    · rw [if_pos c2]
      refine Go.of_run (Ev.mono _) 2 _ ?_
      exact ((hyp.2 c1).2.1 c2)
    · rw [if_neg c2]
      refine Go.of_run (Ev.mono _) 6 _ ?_
      refine ⟨Nat.le_of_ble_eq_true rfl, ((hyp.2 c1).2.2 c2)⟩
set_option maxRecDepth 20000 in
theorem sol_100 {d : Nat} {per sc c rr oth t k : Int32} {I : Nat → Nat → Int32} {J : Nat → Nat → Int64} {T : Nat → Nat → Nat} {Q : Option Value → Mem → Prop} (hyp : Go none aM (Ev mt aM (d + 9)) mX12_solves Q (63, [some (.ref 83), some (.int per), some (.int sc), some (.int c), some (.int rr), some (.int oth), some (.int t), some (.int (k + 1))], [], (SH, mkM I J T), 0, 0)) : Go none aM (Ev mt aM (d + 9)) mX12_solves Q (100, [some (.ref 83), some (.int per), some (.int sc), some (.int c), some (.int rr), some (.int oth), some (.int t), some (.int k)], [], (SH, mkM I J T), 0, 0) := by
  refine Go.of_run (Ev.mono _) 2 _ ?_
  exact hyp
set_option maxRecDepth 20000 in
theorem sol_122 {d : Nat} {per sc c rr oth k : Int32} {I : Nat → Nat → Int32} {J : Nat → Nat → Int64} {T : Nat → Nat → Nat} {Q : Option Value → Mem → Prop} (hyp : (((10240 : Int32) * ((I 83 0) + (1 : Int32)) ≤ k → Go none aM (Ev mt aM (d + 9)) mX12_solves Q (167, [some (.ref 83), some (.int per), some (.int sc), some (.int c), some (.int rr), some (.int oth), some (.int ((I 83 0) - (1 : Int32))), none], [], (SH, mkM I J T), 0, 0)) ∧ ((¬ ((10240 : Int32) * ((I 83 0) + (1 : Int32)) ≤ k)) → (vp_in k 61440 ∧ ((I 106 k.toNatClampNeg = 0 → Go none aM (Ev mt aM (d + 9)) mX12_solves Q (122, [some (.ref 83), some (.int per), some (.int sc), some (.int c), some (.int rr), some (.int oth), some (.int (k + 1)), none], [], (SH, mkM I J T), 0, 0)) ∧ ((¬ (I 106 k.toNatClampNeg = 0)) → (vp_in k 61440 ∧ (vp_in k 61440 ∧ (vp_in k 61440 ∧ (vp_in k 61440 ∧ Go none aM (Ev mt aM (d + 9)) mX12_solves Q (122, [some (.ref 83), some (.int per), some (.int sc), some (.int c), some (.int rr), some (.int oth), some (.int (k + 1)), none], [], (SH, mkM I (sj (sj (sj (sj J 107 k.toNatClampNeg (w2_X12_ends k I)) 108 k.toNatClampNeg (w3_X12_ends k)) 109 k.toNatClampNeg (w4_X12_ends k)) 110 k.toNatClampNeg (w5_X12_ends k)) T), 0, 0))))))))))) : Go none aM (Ev mt aM (d + 9)) mX12_solves Q (122, [some (.ref 83), some (.int per), some (.int sc), some (.int c), some (.int rr), some (.int oth), some (.int k), none], [], (SH, mkM I J T), 0, 0) := by
  refine Go.of_run (Ev.mono _) 8 _ ?_
  show Go none aM (Ev mt aM (d + 9)) mX12_solves Q (if (10240 : Int32) * ((I 83 0) + (1 : Int32)) ≤ k then 159 else 137, [some (.ref 83), some (.int per), some (.int sc), some (.int c), some (.int rr), some (.int oth), some (.int k), none], [], (SH, mkM I J T), 0, 0)
  rcases Decidable.em ((10240 : Int32) * ((I 83 0) + (1 : Int32)) ≤ k) with c1 | c1
  · rw [if_pos c1]
    refine Go.of_run (Ev.mono _) 5 _ ?_
    exact (hyp.1 c1)
  · rw [if_neg c1]
    refine Go.of_run (Ev.mono _) 4 _ ?_
    refine ⟨(hyp.2 c1).1, ?_⟩
    show Go none aM (Ev mt aM (d + 9)) mX12_solves Q (144, [some (.ref 83), some (.int per), some (.int sc), some (.int c), some (.int rr), some (.int oth), some (.int k), none], [.int (I 106 k.toNatClampNeg)], (SH, mkM I J T), 0, 0)
    refine Go.of_run (Ev.mono _) 1 _ ?_
    show Go none aM (Ev mt aM (d + 9)) mX12_solves Q (if I 106 k.toNatClampNeg = 0 then 153 else 147, [some (.ref 83), some (.int per), some (.int sc), some (.int c), some (.int rr), some (.int oth), some (.int k), none], [], (SH, mkM I J T), 0, 0)
    rcases Decidable.em (I 106 k.toNatClampNeg = 0) with c2 | c2
    · rw [if_pos c2]
      refine Go.of_run (Ev.mono _) 2 _ ?_
      exact ((hyp.2 c1).2.1 c2)
    · rw [if_neg c2]
      refine Go.of_run (Ev.mono _) 3 _ ?_
      refine ⟨Nat.le_of_ble_eq_true rfl, ev_X12_ends ⟨((hyp.2 c1).2.2 c2).1, ⟨((hyp.2 c1).2.2 c2).2.1, ⟨((hyp.2 c1).2.2 c2).2.2.1, ((hyp.2 c1).2.2 c2).2.2.2.1⟩⟩⟩ ?_⟩
      show Go none aM (Ev mt aM (d + 9)) mX12_solves Q (153, [some (.ref 83), some (.int per), some (.int sc), some (.int c), some (.int rr), some (.int oth), some (.int k), none], [], (SH, mkM I (sj (sj (sj (sj J 107 k.toNatClampNeg (w2_X12_ends k I)) 108 k.toNatClampNeg (w3_X12_ends k)) 109 k.toNatClampNeg (w4_X12_ends k)) 110 k.toNatClampNeg (w5_X12_ends k)) T), 0, 0)
      refine Go.of_run (Ev.mono _) 2 _ ?_
      exact ((hyp.2 c1).2.2 c2).2.2.2.2
set_option maxRecDepth 20000 in
theorem sol_167 {d : Nat} {per sc c rr oth t : Int32} {I : Nat → Nat → Int32} {J : Nat → Nat → Int64} {T : Nat → Nat → Nat} {Q : Option Value → Mem → Prop} (hyp : ((t < per → (vp_in (v_X12_placeIn per sc c) 61440 ∧ Q (some (.long (J 107 ((v_X12_placeIn per sc c).toNatClampNeg)))) (SH, mkM I J T))) ∧ ((¬ (t < per)) → Go none aM (Ev mt aM (d + 9)) mX12_solves Q (176, [some (.ref 83), some (.int per), some (.int sc), some (.int c), some (.int rr), some (.int oth), some (.int t), some (.int (0 : Int32))], [], (SH, mkM I J T), 0, 0)))) : Go none aM (Ev mt aM (d + 9)) mX12_solves Q (167, [some (.ref 83), some (.int per), some (.int sc), some (.int c), some (.int rr), some (.int oth), some (.int t), none], [], (SH, mkM I J T), 0, 0) := by
  refine Go.of_run (Ev.mono _) 3 _ ?_
  show Go none aM (Ev mt aM (d + 9)) mX12_solves Q (if t < per then 225 else 173, [some (.ref 83), some (.int per), some (.int sc), some (.int c), some (.int rr), some (.int oth), some (.int t), none], [], (SH, mkM I J T), 0, 0)
  rcases Decidable.em (t < per) with c1 | c1
  · rw [if_pos c1]
    refine Go.of_run (Ev.mono _) 6 _ ?_
    refine ⟨Nat.le_of_ble_eq_true rfl, ev_X12_placeIn ?_⟩
    show Go none aM (Ev mt aM (d + 9)) mX12_solves Q (235, [some (.ref 83), some (.int per), some (.int sc), some (.int c), some (.int rr), some (.int oth), some (.int t), none], [.int (v_X12_placeIn per sc c), .ref 107], (SH, mkM I J T), 0, 0)
    refine Go.of_run (Ev.mono _) 1 _ ?_
    refine ⟨(hyp.1 c1).1, ?_⟩
    show Go none aM (Ev mt aM (d + 9)) mX12_solves Q (236, [some (.ref 83), some (.int per), some (.int sc), some (.int c), some (.int rr), some (.int oth), some (.int t), none], [.long (J 107 ((v_X12_placeIn per sc c).toNatClampNeg))], (SH, mkM I J T), 0, 0)
    refine Go.of_run (Ev.mono _) 1 _ ?_
    refine ⟨trivial, ?_⟩
    show Q (some (.long (J 107 ((v_X12_placeIn per sc c).toNatClampNeg)))) (SH, mkM I J T)
    exact (hyp.1 c1).2
  · rw [if_neg c1]
    refine Go.of_run (Ev.mono _) 2 _ ?_
    exact (hyp.2 c1)
set_option maxRecDepth 20000 in
theorem sol_176 {d : Nat} {per sc c rr oth t k : Int32} {I : Nat → Nat → Int32} {J : Nat → Nat → Int64} {T : Nat → Nat → Nat} {Q : Option Value → Mem → Prop} (hyp : (((10240 : Int32) ≤ k → Go none aM (Ev mt aM (d + 9)) mX12_solves Q (167, [some (.ref 83), some (.int per), some (.int sc), some (.int c), some (.int rr), some (.int oth), some (.int (t + (-1))), none], [], (SH, mkM I J T), 0, 0)) ∧ ((¬ ((10240 : Int32) ≤ k)) → (vp_in (((10240 : Int32) * t) + k) 61440 ∧ ((I 106 ((((10240 : Int32) * t) + k).toNatClampNeg) = 0 → Go none aM (Ev mt aM (d + 9)) mX12_solves Q (176, [some (.ref 83), some (.int per), some (.int sc), some (.int c), some (.int rr), some (.int oth), some (.int t), some (.int (k + 1))], [], (SH, mkM I J T), 0, 0)) ∧ ((¬ (I 106 ((((10240 : Int32) * t) + k).toNatClampNeg) = 0)) → Ev mt aM (d + 9) 247 [.ref 83, .int t, .int k, .int rr, .int oth] (SH, mkM I J T) (fun r m1 => Go none aM (Ev mt aM (d + 9)) mX12_solves Q (213, [some (.ref 83), some (.int per), some (.int sc), some (.int c), some (.int rr), some (.int oth), some (.int t), some (.int k)], r.toList ++ [], m1, 0, 0)))))))) : Go none aM (Ev mt aM (d + 9)) mX12_solves Q (176, [some (.ref 83), some (.int per), some (.int sc), some (.int c), some (.int rr), some (.int oth), some (.int t), some (.int k)], [], (SH, mkM I J T), 0, 0) := by
  refine Go.of_run (Ev.mono _) 3 _ ?_
  show Go none aM (Ev mt aM (d + 9)) mX12_solves Q (if (10240 : Int32) ≤ k then 219 else 184, [some (.ref 83), some (.int per), some (.int sc), some (.int c), some (.int rr), some (.int oth), some (.int t), some (.int k)], [], (SH, mkM I J T), 0, 0)
  rcases Decidable.em ((10240 : Int32) ≤ k) with c1 | c1
  · rw [if_pos c1]
    refine Go.of_run (Ev.mono _) 2 _ ?_
    exact Go.weak (Ev.mono _) (LLe.cons (LLe.cons (LLe.cons (LLe.cons (LLe.cons (LLe.cons (LLe.cons (LLe.drop LLe.nil)))))))) (hyp.1 c1)
  · rw [if_neg c1]
    refine Go.of_run (Ev.mono _) 8 _ ?_
    refine ⟨(hyp.2 c1).1, ?_⟩
    show Go none aM (Ev mt aM (d + 9)) mX12_solves Q (198, [some (.ref 83), some (.int per), some (.int sc), some (.int c), some (.int rr), some (.int oth), some (.int t), some (.int k)], [.int (I 106 ((((10240 : Int32) * t) + k).toNatClampNeg))], (SH, mkM I J T), 0, 0)
    refine Go.of_run (Ev.mono _) 1 _ ?_
    show Go none aM (Ev mt aM (d + 9)) mX12_solves Q (if I 106 ((((10240 : Int32) * t) + k).toNatClampNeg) = 0 then 213 else 201, [some (.ref 83), some (.int per), some (.int sc), some (.int c), some (.int rr), some (.int oth), some (.int t), some (.int k)], [], (SH, mkM I J T), 0, 0)
    rcases Decidable.em (I 106 ((((10240 : Int32) * t) + k).toNatClampNeg) = 0) with c2 | c2
    · rw [if_pos c2]
      refine Go.of_run (Ev.mono _) 2 _ ?_
      exact ((hyp.2 c1).2.1 c2)
    · rw [if_neg c2]
      refine Go.of_run (Ev.mono _) 6 _ ?_
      refine ⟨Nat.le_of_ble_eq_true rfl, ((hyp.2 c1).2.2 c2)⟩
set_option maxRecDepth 20000 in
theorem sol_213 {d : Nat} {per sc c rr oth t k : Int32} {I : Nat → Nat → Int32} {J : Nat → Nat → Int64} {T : Nat → Nat → Nat} {Q : Option Value → Mem → Prop} (hyp : Go none aM (Ev mt aM (d + 9)) mX12_solves Q (176, [some (.ref 83), some (.int per), some (.int sc), some (.int c), some (.int rr), some (.int oth), some (.int t), some (.int (k + 1))], [], (SH, mkM I J T), 0, 0)) : Go none aM (Ev mt aM (d + 9)) mX12_solves Q (213, [some (.ref 83), some (.int per), some (.int sc), some (.int c), some (.int rr), some (.int oth), some (.int t), some (.int k)], [], (SH, mkM I J T), 0, 0) := by
  refine Go.of_run (Ev.mono _) 2 _ ?_
  exact hyp
section SLV
variable {A : Tm} {oth all once pace : Nat} {J : Nat → Nat → Int64} {T : Nat → Nat → Nat} {Q : Option Value → Mem → Prop}
theorem ev_marks (hA : BD A) (ho : oth < 3) (hpa : pace ≤ 1) {d per s o a : Nat} {I : Nat → Nat → Int32} (hR : RM A I) (hN : RN all once pace I) (hp : per < 5) (hs : s < 5) (h : CD o) (ha : a < 49) (hm : mayF o a all once = true)
    (g : ∀ I', Fr [103, 104, 105, 106] I I' → (∀ e, e < 5 → shN A oth all pace per s o a e ≠ 0 → I' 106 (sx A pace per s o a e) ≠ 0) → (∀ i, I' 106 i = I 106 i ∨ (I' 106 i = 1 ∧ ∃ e, e < 5 ∧ shN A oth all pace per s o a e ≠ 0 ∧ i = sx A pace per s o a e)) → Q none (SH, mkM I' J T)) : Ev mt aM (d + 8) 243 [.ref 83, .int (nI per), .int (scI s), .int (nI o), .int (nI a), .int (nI oth)] (SH, mkM I J T) Q := by
  obtain ⟨c1, _, _, _, c5⟩ := aft_all (M := I) h hA ha hm
  have c5 := c5 hR.2.2.2.2.2.1
  refine Ev.intro mX12_marks rfl rfl (mar_0 ⟨beh_pre h ha hm, ?_⟩)
  rw [c5, act_may h ha hm]
  refine ev_lots (A := A) (all := all) (once := once) (pace := pace) hA hR hN ho (by omega) hpa c1 (fun I1 f1 m1 => mar_24 ?_)
  have loop : ∀ (m w : Nat) (I2 : Nat → Nat → Int32), m + w = 5 → Fr [106] I1 I2 → (∀ w', w' < w → shN A oth all pace per s o a (evC w') ≠ 0 → I2 106 (sx A pace per s o a (evC w')) ≠ 0) → (∀ i, I2 106 i = I1 106 i ∨ (I2 106 i = 1 ∧ ∃ e, e < 5 ∧ shN A oth all pace per s o a e ≠ 0 ∧ i = sx A pace per s o a e)) → Go none aM (Ev mt aM (d + 7)) mX12_marks Q (27, [some (.ref 83), some (.int (nI per)), some (.int (scI s)), none, none, none, some (.int (nI (aftF A o a))), some (.int (nI w))], [], (SH, mkM I2 J T), 0, 0) := by
    intro m
    induction m with
    | zero =>
      intro w I2 hw f2 a2 b2
      have hw : w = 5 := by omega
      subst hw
      refine mar_27 ⟨fun _ => g I2 ((f1.sub rfl).trans (f2.sub rfl)) (fun e he h0 => ?_) (fun i => ?_), fun c => absurd (Int32.le_refl _) c⟩
      · obtain ⟨w, w1, w2⟩ := evC_on he
        subst w2
        exact a2 w w1 h0
      · rw [← f1 106 rfl]
        exact b2 i
    | succ m ih =>
      intro w I2 hw f2 a2 b2
      have hw5 : w < 5 := by omega
      have sle := shN_le A oth all pace per s o a (evC w) (evC_lt hw5)
      have r2 : RM A I2 := (hR.fr (l := [103, 104, 105]) rfl f1).fr (l := [106]) rfl f2
      have h36 : I2 83 36 = nI pace := by rw [f2 83 rfl, f1 83 rfl]; exact hN.2.2
      have e105 : I2 105 (nI w).toNatClampNeg = nI (shN A oth all pace per s o a (evC w)) := by
        rw [nI_clamp (by omega), f2 105 rfl]
        exact m1 w hw5
      refine mar_27 ⟨fun c => absurd c (nI_ge (b := 5) hw5 (by omega)), fun _ => ⟨vp_in_nI hw5 (by omega), ?_⟩⟩
      rw [e105, nI_1]
      refine ⟨fun c => ?_, fun c => ?_⟩
      · have z : shN A oth all pace per s o a (evC w) = 0 := by
          rcases Nat.eq_zero_or_pos (shN A oth all pace per s o a (evC w)) with q | q
          · exact q
          · exact absurd c (nI_nle q (by omega))
        refine ih (w + 1) I2 (by omega) f2 (fun w' h1 h0 => ?_) b2
        rcases Nat.lt_succ_iff_lt_or_eq.mp h1 with q | q
        · exact a2 w' q h0
        · rw [q] at h0; exact absurd z h0
      · have nz : shN A oth all pace per s o a (evC w) ≠ 0 := fun z => c (by rw [z]; decide)
        have sl := sx_lt (A := A) (pace := pace) (per := per) hA hp hs h ha hm (evC_lt hw5) hpa
        rw [next_c hA hs hw5 hpa c1 r2 h36 nz, nI_clamp (by omega), nar_b _ (Or.inr rfl)]
        refine ⟨vp_in_nI sl (by omega), ih (w + 1) _ (by omega) (f2.to rfl) (fun w' h1 h0 => ?_) (fun i => ?_)⟩
        · by_cases q : sx A pace per s o a (evC w') = sx A pace per s o a (evC w)
          · rw [q, si_at]; decide
          · rw [si_ne q]
            rcases Nat.lt_succ_iff_lt_or_eq.mp h1 with q2 | q2
            · exact a2 w' q2 h0
            · subst q2; exact absurd rfl q
        · by_cases q : i = sx A pace per s o a (evC w)
          · subst q
            exact Or.inr ⟨si_at, evC w, evC_lt hw5, nz, rfl⟩
          · rw [si_ne q]
            exact b2 i
  exact loop 5 0 I1 rfl (Fr.rfl' _ _) (fun w' h1 => absurd h1 (Nat.not_lt_zero _)) (fun i => Or.inl rfl)
/-- longs as numbers -/
def cJ (x : Int64) : Nat := x.toBitVec.toNat
theorem lN_cJ (x : Int64) : lN (cJ x) = x := by
  apply Int64.toBitVec_inj.mp
  apply BitVec.eq_of_toNat_eq
  show (BitVec.ofNat 64 x.toBitVec.toNat).toNat = _
  rw [BitVec.toNat_ofNat, Nat.mod_eq_of_lt x.toBitVec.isLt]
theorem cJ_lN {n : Nat} (h : n < 2 ^ 63) : cJ (lN n) = n := by
  show (BitVec.ofNat 64 n).toNat = n
  rw [BitVec.toNat_ofNat, Nat.mod_eq_of_lt (by omega)]
def vJ (J : Nat → Nat → Int64) (row per : Nat) : Nat → Nat → Nat := fun s o => cJ (J row (ix per s o))
def asum (A : Tm) (oth all pace per : Nat) (V : Nat → Nat → Nat) (s o a : Nat) : Nat → Nat
  | 0 => 0
  | w + 1 => asum A oth all pace per V s o a w + shN A oth all pace per s o a (evC w) * V (scN s (evC w)) (nxtF A (aftF A o a) (evC w) pace)
theorem asum_5 (A : Tm) (oth all pace per : Nat) (V : Nat → Nat → Nat) (s o a : Nat) : asum A oth all pace per V s o a 5 = bsum A oth all pace per V s o a 5 := by
  show ((((0 + shN A oth all pace per s o a 1 * V (scN s 1) (nxtF A (aftF A o a) 1 pace)) + shN A oth all pace per s o a 2 * V (scN s 2) (nxtF A (aftF A o a) 2 pace)) + shN A oth all pace per s o a 3 * V (scN s 3) (nxtF A (aftF A o a) 3 pace)) + shN A oth all pace per s o a 4 * V (scN s 4) (nxtF A (aftF A o a) 4 pace)) + shN A oth all pace per s o a 0 * V (scN s 0) (nxtF A (aftF A o a) 0 pace) = ((((0 + shN A oth all pace per s o a 0 * V (scN s 0) (nxtF A (aftF A o a) 0 pace)) + shN A oth all pace per s o a 1 * V (scN s 1) (nxtF A (aftF A o a) 1 pace)) + shN A oth all pace per s o a 2 * V (scN s 2) (nxtF A (aftF A o a) 2 pace)) + shN A oth all pace per s o a 3 * V (scN s 3) (nxtF A (aftF A o a) 3 pace)) + shN A oth all pace per s o a 4 * V (scN s 4) (nxtF A (aftF A o a) 4 pace)
  generalize shN A oth all pace per s o a 0 * V (scN s 0) (nxtF A (aftF A o a) 0 pace) = x0
  generalize shN A oth all pace per s o a 1 * V (scN s 1) (nxtF A (aftF A o a) 1 pace) = x1
  generalize shN A oth all pace per s o a 2 * V (scN s 2) (nxtF A (aftF A o a) 2 pace) = x2
  generalize shN A oth all pace per s o a 3 * V (scN s 3) (nxtF A (aftF A o a) 3 pace) = x3
  generalize shN A oth all pace per s o a 4 * V (scN s 4) (nxtF A (aftF A o a) 4 pace) = x4
  omega
theorem ev_actionWorth (hA : BD A) (ho : oth < 3) (hpa : pace ≤ 1) {d per s o a : Nat} {I : Nat → Nat → Int32} (hR : RM A I) (hN : RN all once pace I) (hp : per < 5) (hs : s < 5) (h : CD o) (ha : a < 49) (hm : mayF o a all once = true)
    (g : ∀ I' J', Fr [103, 104, 105] I I' → Fj [83] J J' → J' 83 44 = lN (bsum A oth all pace per (vJ J 108 (per + 1)) s o a 5) → J' 83 45 = lN (bsum A oth all pace per (vJ J 109 (per + 1)) s o a 5) → J' 83 46 = lN (bsum A oth all pace per (vJ J 110 (per + 1)) s o a 5) → Q (some (.long (lN (bsum A oth all pace per (vJ J 107 (per + 1)) s o a 5)))) (SH, mkM I' J' T)) : Ev mt aM (d + 8) 245 [.ref 83, .int (nI per), .int (scI s), .int (nI o), .int (nI a), .int (nI oth)] (SH, mkM I J T) Q := by
  obtain ⟨c1, _, _, _, c5⟩ := aft_all (M := I) h hA ha hm
  have c5 := c5 hR.2.2.2.2.2.1
  refine Ev.intro mX12_actionWorth rfl rfl (awo_0 ⟨beh_pre h ha hm, ?_⟩)
  rw [c5, act_may h ha hm]
  refine ev_lots (A := A) (all := all) (once := once) (pace := pace) hA hR hN ho (by omega) hpa c1 (fun I1 f1 m1 => awo_24 ?_)
  have r1 : RM A I1 := hR.fr (l := [103, 104, 105]) rfl f1
  have h36 : I1 83 36 = nI pace := by rw [f1 83 rfl]; exact hN.2.2
  have loop : ∀ (m w : Nat) (J2 : Nat → Nat → Int64), m + w = 5 → Fj [83] J J2 → J2 83 44 = lN (asum A oth all pace per (vJ J 108 (per + 1)) s o a w) → J2 83 45 = lN (asum A oth all pace per (vJ J 109 (per + 1)) s o a w) → J2 83 46 = lN (asum A oth all pace per (vJ J 110 (per + 1)) s o a w) → Go none aM (Ev mt aM (d + 7)) mX12_actionWorth Q (45, [some (.ref 83), some (.int (nI per)), some (.int (scI s)), none, none, none, some (.int (nI (aftF A o a))), some (.long (lN (asum A oth all pace per (vJ J 107 (per + 1)) s o a w))), none, some (.int (nI w)), none], [], (SH, mkM I1 J2 T), 0, 0) := by
    intro m
    induction m with
    | zero =>
      intro w J2 hw j2 a1 a2 a3
      have hw : w = 5 := by omega
      subst hw
      rw [asum_5] at a1 a2 a3
      refine awo_45 ⟨fun _ => ?_, fun c => absurd (Int32.le_refl _) c⟩
      rw [asum_5]
      exact g I1 J2 f1 j2 a1 a2 a3
    | succ m ih =>
      intro w J2 hw j2 a1 a2 a3
      have hw5 : w < 5 := by omega
      have vw : vp_in (nI w) 5 := vp_in_nI hw5 (by omega)
      have sle := shN_le A oth all pace per s o a (evC w) (evC_lt hw5)
      have e105 : I1 105 (nI w).toNatClampNeg = nI (shN A oth all pace per s o a (evC w)) := by
        rw [nI_clamp (by omega)]
        exact m1 w hw5
      have st : ∀ V, asum A oth all pace per V s o a (w + 1) = asum A oth all pace per V s o a w + shN A oth all pace per s o a (evC w) * V (scN s (evC w)) (nxtF A (aftF A o a) (evC w) pace) := fun V => rfl
      refine awo_45 ⟨fun c => absurd c (nI_ge (b := 5) hw5 (by omega)), fun _ => ⟨vw, ?_⟩⟩
      rw [e105, nI_1]
      refine ⟨fun c => ?_, fun c => ?_⟩
      · have z : shN A oth all pace per s o a (evC w) = 0 := by
          rcases Nat.eq_zero_or_pos (shN A oth all pace per s o a (evC w)) with q | q
          · exact q
          · exact absurd c (nI_ne0 q (by omega))
        have st2 : ∀ V, asum A oth all pace per V s o a (w + 1) = asum A oth all pace per V s o a w := fun V => by rw [st, z]; omega
        have nx := ih (w + 1) J2 (by omega) j2 (by rw [st2]; exact a1) (by rw [st2]; exact a2) (by rw [st2]; exact a3)
        rw [st2] at nx
        exact nx
      · have nz : shN A oth all pace per s o a (evC w) ≠ 0 := fun z => c (by rw [z]; decide)
        have sl := sx_lt (A := A) (pace := pace) (per := per) hA hp hs h ha hm (evC_lt hw5) hpa
        have vs : vp_in (nI (sx A pace per s o a (evC w))) 61440 := vp_in_nI sl (by omega)
        rw [next_c hA hs hw5 hpa c1 r1 h36 nz, nI_clamp (by omega)]
        refine ⟨vw, vs, vw, vs, vw, vs, vw, vs, ?_⟩
        have ev : ∀ row, row ≠ 83 → (nI (shN A oth all pace per s o a (evC w))).toInt64 * J2 row (sx A pace per s o a (evC w)) = lN (shN A oth all pace per s o a (evC w) * vJ J row (per + 1) (scN s (evC w)) (nxtF A (aftF A o a) (evC w) pace)) := by
          intro row hrow
          rw [j2 row (nel (by simp; exact hrow)), nI_l (by omega), ← lN_mul]
          unfold vJ
          rw [lN_cJ]
          rfl
        rw [ev 107 (by omega), ev 108 (by omega), ev 109 (by omega), ev 110 (by omega), a1, a2, a3, lN_add, lN_add, lN_add, lN_add]
        refine ih (w + 1) _ (by omega) (j2.to rfl |>.to rfl |>.to rfl) ?_ ?_ ?_
        · rw [sj_ne (by omega), sj_ne (by omega), sj_at, st]
        · rw [sj_ne (by omega), sj_at, st]
        · rw [sj_at, st]
  exact loop 5 0 _ rfl ((Fj.rfl' _ _).to rfl |>.to rfl |>.to rfl) (by rw [sj_ne (by omega), sj_ne (by omega), sj_at]; rfl) (by rw [sj_ne (by omega), sj_at]; rfl) (by rw [sj_at]; rfl)
theorem ev_marksAll {r : Option Nat} (hA : BD A) (ho : oth < 3) (hpa : pace ≤ 1) (hal : all ≤ 3) (hon : once ≤ 3) (hr : RR A all once pace r) {d per s o : Nat} {I : Nat → Nat → Int32} (hR : RM A I) (hN : RN all once pace I) (hp : per < 5) (hs : s < 5) (h : CD o) (hmd : mdN o ≤ all)
    (g : ∀ I', Fr [103, 104, 105, 106] I I' → (∀ a e, a < 49 → prA A oth all once r per s o a → e < 5 → shN A oth all pace per s o a e ≠ 0 → I' 106 (sx A pace per s o a e) ≠ 0) → (∀ i, I' 106 i = I 106 i ∨ (I' 106 i = 1 ∧ ∃ a e, a < 49 ∧ prA A oth all once r per s o a ∧ e < 5 ∧ shN A oth all pace per s o a e ≠ 0 ∧ i = sx A pace per s o a e)) → Q none (SH, mkM I' J T)) : Ev mt aM (d + 9) 244 [.ref 83, .int (nI per), .int (nI (5 * o + s)), .int (rI r), .int (nI oth)] (SH, mkM I J T) Q := by
  obtain ⟨d1, d2⟩ := at_div hs h.1
  refine Ev.intro mX12_marksAll rfl rfl (mal_0 ?_)
  rw [d2, d1]
  cases r with
  | some k =>
    obtain ⟨k1, k2, k3, k4⟩ := hr k rfl
    refine ⟨fun c => ?_, fun _ => ?_⟩
    · have := congrArg Int32.toInt (show nI k = (-1 : Int32) from c)
      rw [nI_toInt (by omega), show (-1 : Int32).toInt = -1 by decide] at this
      omega
    · subst k2 k3 k4
      obtain ⟨ra, rm⟩ := rA_may (A := A) (k := k) (oth := oth) (per := per) (s := s) h hmd
      refine ev_ruled (d := d + 1) (A := A) hA hR hN k1 ho (by omega) h (fun I1 f1 => mal_35 ?_)
      refine ev_marks (d := d) hA ho (by omega) (hR.fr (l := [103, 104]) rfl f1) (hN.fr (l := [103, 104]) rfl f1) hp hs h ra rm (fun I2 f2 a2 b2 => mal_40 ?_)
      refine g I2 ((f1.sub rfl).trans f2) (fun a e h1 h2 h3 h4 => ?_) (fun i => ?_)
      · have h2 : a = rA A k oth per s o := h2
        subst h2
        exact a2 e h3 h4
      · rw [← f1 106 rfl]
        rcases b2 i with q | ⟨q1, e, q2, q3, q4⟩
        · exact Or.inl q
        · exact Or.inr ⟨q1, _, e, ra, rfl, q2, q3, q4⟩
  | none =>
    refine ⟨fun _ => ?_, fun c => absurd rfl c⟩
    have loop : ∀ (m a : Nat) (I2 : Nat → Nat → Int32), m + a = 49 → Fr [103, 104, 105, 106] I I2 → (∀ a' e, a' < a → mayF o a' all once = true → e < 5 → shN A oth all pace per s o a' e ≠ 0 → I2 106 (sx A pace per s o a' e) ≠ 0) → (∀ i, I2 106 i = I 106 i ∨ (I2 106 i = 1 ∧ ∃ a e, a < 49 ∧ mayF o a all once = true ∧ e < 5 ∧ shN A oth all pace per s o a e ≠ 0 ∧ i = sx A pace per s o a e)) → Go none aM (Ev mt aM (d + 8)) mX12_marksAll Q (44, [some (.ref 83), some (.int (nI per)), none, none, some (.int (nI oth)), some (.int (nI o)), some (.int (scI s)), some (.int (nI a))], [], (SH, mkM I2 J T), 0, 0) := by
      intro m
      induction m with
      | zero =>
        intro a I2 ha f2 a2 b2
        have ha : a = 49 := by omega
        subst ha
        exact mal_44 ⟨fun _ => g I2 f2 (fun a e h1 h2 h3 h4 => a2 a e h1 h2 h3 h4) b2, fun c => absurd (Int32.le_refl _) c⟩
      | succ m ih =>
        intro a I2 ha f2 a2 b2
        have ha9 : a < 49 := by omega
        have r2 : RM A I2 := hR.fr (l := [103, 104, 105, 106]) rfl f2
        have n2 : RN all once pace I2 := hN.fr (l := [103, 104, 105, 106]) rfl f2
        refine mal_44 ⟨fun c => absurd c (nI_ge (b := 49) ha9 (by omega)), fun _ => ?_⟩
        rw [may_m h ha9 hal hon n2.1 n2.2.1, nI_1]
        refine ⟨fun c => ?_, fun c => ?_⟩
        · have hm : ¬ mayF o a all once = true := fun hb => by rw [hb] at c; exact absurd c (by decide)
          refine ih (a + 1) I2 (by omega) f2 (fun a' e h1 h2 h3 h4 => ?_) b2
          rcases Nat.lt_succ_iff_lt_or_eq.mp h1 with q | q
          · exact a2 a' e q h2 h3 h4
          · rw [q] at h2; exact absurd h2 hm
        · have hm : mayF o a all once = true := by
            cases hb : mayF o a all once with
            | true => rfl
            | false => rw [hb] at c; exact absurd rfl c
          refine ev_marks (d := d) hA ho hpa r2 n2 hp hs h ha9 hm (fun I3 f3 a3 b3 => mal_75 ?_)
          rw [nI_1]
          refine ih (a + 1) I3 (by omega) (f2.trans f3) (fun a' e h1 h2 h3 h4 => ?_) (fun i => ?_)
          · rcases Nat.lt_succ_iff_lt_or_eq.mp h1 with q | q
            · rcases b3 (sx A pace per s o a' e) with q2 | ⟨q2, _⟩
              · rw [q2]; exact a2 a' e q h2 h3 h4
              · rw [q2]; decide
            · subst q
              exact a3 e h3 h4
          · rcases b3 i with q | ⟨q1, e, q2, q3, q4⟩
            · rw [q]; exact b2 i
            · exact Or.inr ⟨q1, a, e, ha9, hm, q2, q3, q4⟩
    exact loop 49 0 I rfl (Fr.rfl' _ _) (fun a' e h1 => absurd h1 (Nat.not_lt_zero _)) (fun i => Or.inl rfl)
end SLV
