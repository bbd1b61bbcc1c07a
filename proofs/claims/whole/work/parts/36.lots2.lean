/-! HUNDREDTHS, whole: shares in the class; strength, feels, hurtAt, lots, ruled in the reference. -/
theorem c16 {j : Nat} (hj : j < 16) : j = 0 ∨ j = 1 ∨ j = 2 ∨ j = 3 ∨ j = 4 ∨ j = 5 ∨ j = 6 ∨ j = 7 ∨ j = 8 ∨ j = 9 ∨ j = 10 ∨ j = 11 ∨ j = 12 ∨ j = 13 ∨ j = 14 ∨ j = 15 := by omega
theorem ev_shares {d per o pace x st most : Nat} {sc : Int32} {A : Tm} {I : Nat → Nat → Int32} {J : Nat → Nat → Int64} {T : Nat → Nat → Nat} {Q : Option Value → Mem → Prop} (hA : BD A) (hR : RC A I T) (hp : per ≤ 5) (hpa : pace ≤ 1) (h : CD o) (g : ∀ I', Fr [10, 11, 12] I I' → Q (some (.int (nI (pkF (sG A per sc o st x most pace) (sA A per sc o st x most pace) (sH0 A per sc o st x most pace) (sH1 A per sc o st x most pace))))) (SH, mkM I' J T)) : Ev mt aM (d + 5) 29 [.ref 9, .int (nI per), .int sc, .int (dI o), .int (nI x), .int (nI st), .int (nI most), .int (nI pace)] (SH, mkM I J T) Q := by
  obtain ⟨ht, hrt⟩ := hR.2.2.2.2.2.2.2.2 0 (by omega)
  have hw := hA.2.2.2.2.2.2.2.2 0 (by omega)
  have f0 := sp_fr (pace := pace) (sc := sc) hA hR h hp hpa
  have f1 : Fr [11] I (si (si (si (si (si (si (w2_X2_setPlaces (nI per) (dI o) (nI pace) (i_X2_setMoment (nI per) sc I)) 11 ((7 : Int32).toNatClampNeg) ((w3_X2_setPlaces (dI o)) + (w4_X2_setPlaces (dI o)))) 11 ((10 : Int32).toNatClampNeg) (w6_X2_setPlaces (nI per) (dI o) (nI pace) (i_X2_setMoment (nI per) sc I))) 11 ((8 : Int32).toNatClampNeg) (nI x)) 11 ((9 : Int32).toNatClampNeg) (nI most - (v_X7_changesMade (dI o)))) 11 ((11 : Int32).toNatClampNeg) (nI st)) 11 ((12 : Int32).toNatClampNeg) (nI pace)) := f0.to rfl |>.to rfl |>.to rfl |>.to rfl |>.to rfl |>.to rfl
  have hX : ∀ j, j < 16 → (si (si (si (si (si (si (w2_X2_setPlaces (nI per) (dI o) (nI pace) (i_X2_setMoment (nI per) sc I)) 11 ((7 : Int32).toNatClampNeg) ((w3_X2_setPlaces (dI o)) + (w4_X2_setPlaces (dI o)))) 11 ((10 : Int32).toNatClampNeg) (w6_X2_setPlaces (nI per) (dI o) (nI pace) (i_X2_setMoment (nI per) sc I))) 11 ((8 : Int32).toNatClampNeg) (nI x)) 11 ((9 : Int32).toNatClampNeg) (nI most - (v_X7_changesMade (dI o)))) 11 ((11 : Int32).toNatClampNeg) (nI st)) 11 ((12 : Int32).toNatClampNeg) (nI pace)) 11 j = LT A per sc o st x most pace j := by
    refine LT_row hA hR h hp hpa (fun j hj => ?_)
    rw [made_c h.1]
    rcases c16 hj with rfl | rfl | rfl | rfl | rfl | rfl | rfl | rfl | rfl | rfl | rfl | rfl | rfl | rfl | rfl | rfl <;> rfl
  obtain ⟨p1, p2, p3⟩ := sp_pre h
  obtain ⟨b1, b2, b3, b4⟩ := sh_bounds A per sc o st x most pace
  refine Ev.intro mX2_shares rfl rfl (sha_0 ⟨p1, p2, p3, ?_⟩)
  refine ev_ask (t := T 13 0) (hd := 103) (F := LT A per sc o st x most pace) ht hw (by omega) (hrt.fr (fun k hk => tx_el rfl ht hk) f1) hX (fun I1 f2 => sha_81 ?_)
  have f3 : Fr [10, 11, 12] I I1 := (f1.sub rfl).trans (f2.sub rfl)
  have r1 : RC A I1 T := hR.fr rfl f3
  have hX1 : ∀ j, j < 16 → I1 11 j = LT A per sc o st x most pace j := fun j hj => (congrFun (f2 11 rfl) j).trans (hX j hj)
  obtain ⟨_, hrt1⟩ := r1.2.2.2.2.2.2.2.2 0 (by omega)
  refine ev_ask (t := T 13 0) (hd := 97) (F := LT A per sc o st x most pace) ht hw (by omega) hrt1 hX1 (fun I2 f4 => sha_99 ?_)
  have f5 : Fr [10, 11, 12] I I2 := f3.trans (f4.sub rfl)
  have r2 : RC A I2 T := hR.fr rfl f5
  have hX2 : ∀ j, j < 13 → I2 11 j = LT A per sc o st x most pace j := fun j hj => (congrFun (f4 11 rfl) j).trans (hX1 j (by omega))
  have e0 : v_X2_within (askF (qP A 0) 103 (LT A per sc o st x most pace)) (100 : Int32) = nI (sG A per sc o st x most pace) := (clN_all (m := 100) (by omega) _).2
  have e1 : (100 : Int32) - nI (sG A per sc o st x most pace) = nI (100 - sG A per sc o st x most pace) := pk_sub b1
  have e2 : v_X2_within (askF (qP A 0) 97 (LT A per sc o st x most pace)) (nI (100 - sG A per sc o st x most pace)) = nI (sA A per sc o st x most pace) := (clN_all (by omega) _).2
  have e3 : nI (sG A per sc o st x most pace) ||| ((nI (sA A per sc o st x most pace)) <<< ((7 : Int32) &&& 31)) = nI (sG A per sc o st x most pace + 128 * sA A per sc o st x most pace) := by
    rw [pk_shlN (n := sA A per sc o st x most pace) ((7 : Int32) &&& 31) 7 (by decide) (by omega), Nat.mul_comm, pk_or (k := 7) (by omega), Nat.add_comm]
  rw [e0, e1, e2, e3, pk_sub b2]
  refine sha_step (A := A) (p := 0) (sc := sc) (x := x) (st := st) (most := most) hA r2 rfl (by omega) hp hpa h (by omega) (show _ < 16384 by omega) hX2 (fun I3 f6 m6 => ?_)
  have f7 : Fr [10, 11, 12] I I3 := f5.trans f6
  refine sha_step (A := A) (p := 1) (sc := sc) (x := x) (st := st) (most := most) hA (hR.fr rfl f7) rfl (by omega) hp hpa h (by omega) ?_ m6 (fun I4 f8 m8 => sha_p2 ?_)
  · show _ + 16384 * sH0 A per sc o st x most pace < 2097152
    omega
  · exact g I4 (f7.trans f8)
/-! the reference's letters -/
theorem ev_strength {d oth per : Nat} {sc : Int32} {A : Tm} {I : Nat → Nat → Int32} {J : Nat → Nat → Int64} {T : Nat → Nat → Nat} {Q : Option Value → Mem → Prop} (hA : BD A) (hR : RM A I) (ho : oth < 3) (g : ∀ I', Fr [103, 104] I I' → (∀ j, j < 16 → I' 104 j = LM0 A per sc j) → Q (some (.int (nI (stF A oth per sc)))) (SH, mkM I' J T)) : Ev mt aM (d + 5) 232 [.ref 83, .int (nI per), .int sc, .int (nI oth)] (SH, mkM I J T) Q := by
  have hrt := hR.2.2.2.2.2.2.2.2 (1 + oth) (by omega)
  have hw := hA.2.2.2.2.2.2.2.2 (1 + oth) (by omega)
  have es : mS (1 + oth) = oth := by unfold mS; rw [if_neg (by omega)]; omega
  rw [es] at hrt
  refine Ev.intro mX12_strength rfl rfl (mst_0 ?_)
  have f1 : Fr [104] I (si (si (si (si (si (si (si (si (si (si (si (si (si (si (si (si (si (si (si I 104 0 (0 : Int32)) 104 1 (0 : Int32)) 104 2 (0 : Int32)) 104 3 (0 : Int32)) 104 4 (0 : Int32)) 104 5 (0 : Int32)) 104 6 (0 : Int32)) 104 7 (0 : Int32)) 104 8 (0 : Int32)) 104 9 (0 : Int32)) 104 10 (0 : Int32)) 104 11 (0 : Int32)) 104 12 (0 : Int32)) 104 13 (0 : Int32)) 104 14 (0 : Int32)) 104 15 (0 : Int32)) 104 0 (nI per)) 104 1 (I 83 0)) 104 2 sc) := (Fr.rfl' _ _).to rfl |>.to rfl |>.to rfl |>.to rfl |>.to rfl |>.to rfl |>.to rfl |>.to rfl |>.to rfl |>.to rfl |>.to rfl |>.to rfl |>.to rfl |>.to rfl |>.to rfl |>.to rfl |>.to rfl |>.to rfl |>.to rfl
  have hX : ∀ j, j < 16 → (si (si (si (si (si (si (si (si (si (si (si (si (si (si (si (si (si (si (si I 104 0 (0 : Int32)) 104 1 (0 : Int32)) 104 2 (0 : Int32)) 104 3 (0 : Int32)) 104 4 (0 : Int32)) 104 5 (0 : Int32)) 104 6 (0 : Int32)) 104 7 (0 : Int32)) 104 8 (0 : Int32)) 104 9 (0 : Int32)) 104 10 (0 : Int32)) 104 11 (0 : Int32)) 104 12 (0 : Int32)) 104 13 (0 : Int32)) 104 14 (0 : Int32)) 104 15 (0 : Int32)) 104 0 (nI per)) 104 1 (I 83 0)) 104 2 sc) 104 j = LM0 A per sc j := by
    intro j hj
    rw [hR.1]
    rcases c16 hj with rfl | rfl | rfl | rfl | rfl | rfl | rfl | rfl | rfl | rfl | rfl | rfl | rfl | rfl | rfl | rfl <;> rfl
  refine ev_byText (hd := 111) (lo := 0) (hi := 99) (F := LM0 A per sc) (by omega) hw (by omega) rfl (hrt.fr rfl f1) hX (fun I1 f2 => Go.weak (Ev.mono _) (LLe.cons (LLe.cons (LLe.cons (LLe.cons (LLe.drop LLe.nil))))) (mst_59 ?_))
  rw [show clF 0 (99 : Int32) (askF (qP A (1 + oth)) 111 (LM0 A per sc)) = nI (stF A oth per sc) from (clN_all (m := 99) (by omega) _).2]
  exact g I1 ((f1.sub rfl).trans (f2.sub rfl)) (fun j hj => (congrFun (f2 104 rfl) j).trans (hX j hj))
theorem mwh {o p : Nat} (h : CD o) (hp : p < 2) : (wh o p = 9 ∧ v_X12_whoAt (nI o) (nI p) = -1) ∨ (wh o p < 5 ∧ v_X12_whoAt (nI o) (nI p) = nI (wh o p) ∧ (2 ≤ wh o p → 1 ≤ dgN o (wh o p) ∧ dgN o (wh o p) ≤ 6)) := by
  rcases wh_cases h hp with ⟨k1, _, k2⟩ | ⟨k1, _, _, k2, k3⟩
  · exact Or.inl ⟨k1, k2⟩
  · exact Or.inr ⟨k1, k2, k3⟩
theorem nm1 {w : Nat} (h : w < 5) : ¬ nI w = (-1 : Int32) := by
  rcases (show w = 0 ∨ w = 1 ∨ w = 2 ∨ w = 3 ∨ w = 4 by omega) with rfl | rfl | rfl | rfl | rfl <;> decide
theorem ev_feels {d oth per o x all once pace : Nat} {sc : Int32} {A : Tm} {I : Nat → Nat → Int32} {J : Nat → Nat → Int64} {T : Nat → Nat → Nat} {Q : Option Value → Mem → Prop} (hA : BD A) (hR : RM A I) (hN : RN all once pace I) (ho : oth < 3) (hp : per ≤ 5) (hpa : pace ≤ 1) (h : CD o) (g : ∀ I', Fr [103, 104] I I' → (∀ j, j < 16 → I' 104 j = LT A per sc o (stF A oth per sc) x all pace j) → Q none (SH, mkM I' J T)) : Ev mt aM (d + 6) 233 [.ref 83, .int (nI per), .int sc, .int (nI o), .int (nI oth), .int (nI x)] (SH, mkM I J T) Q := by
  refine Ev.intro mX12_feels rfl rfl (mfe_0 ?_)
  refine ev_strength (A := A) hA hR ho (fun I1 f1 m1 => ?_)
  show Go none aM (Ev mt aM (d + 5)) mX12_feels Q (8, [some (.ref 83), some (.int (nI per)), some (.int sc), some (.int (nI o)), some (.int (nI oth)), some (.int (nI x)), none, none, none], [.int (nI (stF A oth per sc))], (SH, mkM I1 J T), 0, 0)
  obtain ⟨n1, n2, n3⟩ := hN.fr (l := [103, 104]) rfl f1
  obtain ⟨_, _, _, _, q5, q6, q7, q8, _⟩ := hR.fr (l := [103, 104]) rfl f1
  have legs : ∀ (i : Nat) (X : Nat → Nat → Int32), i < 5 → (2 ≤ i → 1 ≤ dgN o i ∧ dgN o i ≤ 6) → Fr [104] I1 X → v_X12_legsAt (nI per) (nI o) (nI i) X = nI (lgF A per o i pace) := by
    intro i X hi hd fX
    exact legs_m h.1 hi hd hA hp hpa (fun j hj => by rw [fX 86 rfl]; exact q6 j hj) (fun j hj => by rw [fX 87 rfl]; exact q7 j hj) (by rw [fX 83 rfl]; exact n3)
  have hr := Fr.rfl' [104] I1
  have hB : w1_mfe_8 (nI o) I1 = nI (ltB A o) := by
    unfold w1_mfe_8 ltB
    rcases mwh h (show 0 < 2 by omega) with ⟨k1, k2⟩ | ⟨k1, k2, k3⟩
    · have k2 : v_X12_whoAt (nI o) (0 : Int32) = -1 := k2
      rw [k2, if_pos rfl, if_pos k1]; rfl
    · have k2 : v_X12_whoAt (nI o) (0 : Int32) = nI (wh o 0) := k2
      rw [k2, if_neg (nm1 k1), if_neg (by omega), show (2 : Int32) = nI 2 from rfl, pk_mul, nI_clamp (by omega)]
      exact q5 _ (by omega)
  have hF : w2_mfe_8 (nI o) I1 = nI (ltF A o) := by
    unfold w2_mfe_8 ltF
    rcases mwh h (show 1 < 2 by omega) with ⟨k1, k2⟩ | ⟨k1, k2, k3⟩
    · have k2 : v_X12_whoAt (nI o) (1 : Int32) = -1 := k2
      rw [k2, if_pos rfl, if_pos k1]; rfl
    · have k2 : v_X12_whoAt (nI o) (1 : Int32) = nI (wh o 1) := k2
      rw [k2, if_neg (nm1 k1), if_neg (by omega), show (2 : Int32) = nI 2 from rfl, pk_mul, show (1 : Int32) = nI 1 from rfl, nI_add, nI_clamp (by omega)]
      exact q5 _ (by omega)
  have hL : w3_mfe_8 (nI per) (nI o) I1 = nI (ltL A per o 0 pace) := by
    unfold w3_mfe_8 ltL
    rcases mwh h (show 0 < 2 by omega) with ⟨k1, k2⟩ | ⟨k1, k2, k3⟩
    · have k2 : v_X12_whoAt (nI o) (0 : Int32) = -1 := k2
      rw [k2, if_pos rfl, if_pos k1]; rfl
    · have k2 : v_X12_whoAt (nI o) (0 : Int32) = nI (wh o 0) := k2
      rw [k2, if_neg (nm1 k1), if_neg (by omega)]
      exact legs _ _ k1 k3 (hr.to rfl |>.to rfl)
  have hM : w4_mfe_8 (nI per) (nI o) I1 = nI (ltL A per o 1 pace) := by
    unfold w4_mfe_8 ltL
    rcases mwh h (show 1 < 2 by omega) with ⟨k1, k2⟩ | ⟨k1, k2, k3⟩
    · have k2 : v_X12_whoAt (nI o) (1 : Int32) = -1 := k2
      rw [k2, if_pos rfl, if_pos k1]; rfl
    · have k2 : v_X12_whoAt (nI o) (1 : Int32) = nI (wh o 1) := k2
      rw [k2, if_neg (nm1 k1), if_neg (by omega)]
      exact legs _ _ k1 k3 (hr.to rfl |>.to rfl |>.to rfl)
  have hE : w5_mfe_8 (nI o) + w6_mfe_8 (nI o) = nI (ltE o) := by
    unfold w5_mfe_8 w6_mfe_8 ltE
    rcases mwh h (show 0 < 2 by omega) with ⟨k1, k2⟩ | ⟨k1, k2, k3⟩
    · have k2 : v_X12_whoAt (nI o) (0 : Int32) = -1 := k2
      rcases mwh h (show 1 < 2 by omega) with ⟨l1, l2⟩ | ⟨l1, l2, l3⟩
      · have l2 : v_X12_whoAt (nI o) (1 : Int32) = -1 := l2
        rw [k2, l2, k1, l1]; rfl
      · have l2 : v_X12_whoAt (nI o) (1 : Int32) = nI (wh o 1) := l2
        rw [k2, l2, k1, if_neg (nm1 l1), if_neg (show ¬ wh o 1 = 9 by omega)]; rfl
    · have k2 : v_X12_whoAt (nI o) (0 : Int32) = nI (wh o 0) := k2
      rcases mwh h (show 1 < 2 by omega) with ⟨l1, l2⟩ | ⟨l1, l2, l3⟩
      · have l2 : v_X12_whoAt (nI o) (1 : Int32) = -1 := l2
        rw [k2, l2, l1, if_neg (nm1 k1), if_neg (show ¬ wh o 0 = 9 by omega)]; rfl
      · have l2 : v_X12_whoAt (nI o) (1 : Int32) = nI (wh o 1) := l2
        rw [k2, l2, if_neg (nm1 k1), if_neg (nm1 l1), if_neg (show ¬ wh o 0 = 9 by omega), if_neg (show ¬ wh o 1 = 9 by omega)]; rfl
  have hQ : w8_mfe_8 (nI o) I1 = nI (ltQ A o) := by
    unfold w8_mfe_8 w7_mfe_8 ltQ
    rcases mwh h (show 0 < 2 by omega) with ⟨k1, k2⟩ | ⟨k1, k2, k3⟩
    · have k2 : v_X12_whoAt (nI o) (0 : Int32) = -1 := k2
      rw [k2, if_pos rfl, if_pos (Or.inl k1)]; rfl
    · have k2 : v_X12_whoAt (nI o) (0 : Int32) = nI (wh o 0) := k2
      rcases mwh h (show 1 < 2 by omega) with ⟨l1, l2⟩ | ⟨l1, l2, l3⟩
      · have l2 : v_X12_whoAt (nI o) (1 : Int32) = -1 := l2
        rw [k2, l2, if_neg (nm1 k1), if_pos rfl, if_pos (Or.inr l1)]; rfl
      · have l2 : v_X12_whoAt (nI o) (1 : Int32) = nI (wh o 1) := l2
        rw [k2, l2, if_neg (nm1 k1), if_neg (nm1 l1), if_neg (by omega), show (5 : Int32) = nI 5 from rfl, pk_mul, nI_add, nI_clamp (by omega)]
        exact q8 _ (by omega)
  refine mfe_8 ⟨fun n => ?_, fun n => ?_, fun n n2 => ?_, fun n n2 => ?_, fun n n2 => ?_, ?_⟩
  · rcases mwh h (show 0 < 2 by omega) with ⟨k1, k2⟩ | ⟨k1, k2, k3⟩
    · exact absurd k2 n
    · have k2 : v_X12_whoAt (nI o) (0 : Int32) = nI (wh o 0) := k2
      rw [k2, show (2 : Int32) = nI 2 from rfl, pk_mul]
      exact vp_in_nI (by omega) (by omega)
  · rcases mwh h (show 1 < 2 by omega) with ⟨k1, k2⟩ | ⟨k1, k2, k3⟩
    · exact absurd k2 n
    · have k2 : v_X12_whoAt (nI o) (1 : Int32) = nI (wh o 1) := k2
      rw [k2, show (2 : Int32) = nI 2 from rfl, pk_mul, show (1 : Int32) = nI 1 from rfl, nI_add]
      exact vp_in_nI (by omega) (by omega)
  · rcases mwh h (show 0 < 2 by omega) with ⟨k1, k2⟩ | ⟨k1, k2, k3⟩
    · exact absurd k2 n
    · have k2 : v_X12_whoAt (nI o) (0 : Int32) = nI (wh o 0) := k2
      rw [k2]
      exact ⟨vp_in_nI k1 (by omega), vp_in_nI k1 (by omega), fun _ => vp_in_nI k1 (by omega)⟩
  · rcases mwh h (show 1 < 2 by omega) with ⟨k1, k2⟩ | ⟨k1, k2, k3⟩
    · exact absurd k2 n
    · have k2 : v_X12_whoAt (nI o) (1 : Int32) = nI (wh o 1) := k2
      rw [k2]
      exact ⟨vp_in_nI k1 (by omega), vp_in_nI k1 (by omega), fun _ => vp_in_nI k1 (by omega)⟩
  · rcases mwh h (show 0 < 2 by omega) with ⟨k1, k2⟩ | ⟨k1, k2, k3⟩
    · exact absurd k2 n
    · rcases mwh h (show 1 < 2 by omega) with ⟨l1, l2⟩ | ⟨l1, l2, l3⟩
      · exact absurd l2 n2
      · have k2 : v_X12_whoAt (nI o) (0 : Int32) = nI (wh o 0) := k2
        have l2 : v_X12_whoAt (nI o) (1 : Int32) = nI (wh o 1) := l2
        rw [k2, l2, show (5 : Int32) = nI 5 from rfl, pk_mul, nI_add]
        exact vp_in_nI (by omega) (by omega)
  · rw [hB, hF, hL, hM, hE, hQ, n1, n3, made_m h.1]
    refine g _ (f1.trans ((hr.to rfl |>.to rfl |>.to rfl |>.to rfl |>.to rfl |>.to rfl |>.to rfl |>.to rfl |>.to rfl |>.to rfl).sub rfl)) (fun j hj => ?_)
    rcases c16 hj with rfl | rfl | rfl | rfl | rfl | rfl | rfl | rfl | rfl | rfl | rfl | rfl | rfl | rfl | rfl | rfl
    · exact m1 0 hj
    · exact m1 1 hj
    · exact m1 2 hj
    all_goals first | rfl | exact m1 _ hj
theorem ev_hurtAt {d per o x st most pace p left : Nat} {sc : Int32} {A : Tm} {I : Nat → Nat → Int32} {J : Nat → Nat → Int64} {T : Nat → Nat → Nat} {Q : Option Value → Mem → Prop} (hA : BD A) (hR : RM A I) (h36 : I 83 36 = nI pace) (hp2 : p < 2) (hp : per ≤ 5) (hpa : pace ≤ 1) (h : CD o) (hle : left ≤ 100) (hF : ∀ j, j < 13 → I 104 j = LT A per sc o st x most pace j) (g : ∀ I', Fr [103, 104] I I' → (∀ j, j < 13 → I' 104 j = LT A per sc o st x most pace j) → Q (some (.int (nI (sH A per sc o st x most pace p left)))) (SH, mkM I' J T)) : Ev mt aM (d + 5) 234 [.ref 83, .int (nI per), .int (nI o), .int (nI p), .int (nI left)] (SH, mkM I J T) Q := by
  have hw := hA.2.2.2.2.2.2.2.2 0 (by omega)
  have hrt : RTM I 7 (qP A 0) := hR.2.2.2.2.2.2.2.2 0 (by omega)
  refine Ev.intro mX12_hurtAt rfl rfl (mhu_0 ⟨fun n => ?_, fun n => ⟨fun _ => ?_, ?_⟩⟩)
  · rcases mwh h hp2 with ⟨k1, k2⟩ | ⟨k1, k2, k3⟩
    · have q := g I (Fr.rfl' _ _) hF
      rw [show sH A per sc o st x most pace p left = 0 from if_pos k1] at q
      exact q
    · rw [k2] at n
      exact absurd n (nm1 k1)
  · rcases mwh h hp2 with ⟨k1, k2⟩ | ⟨k1, k2, k3⟩
    · exact absurd k2 n
    · rw [k2]
      exact ⟨vp_in_nI k1 (by omega), vp_in_nI k1 (by omega), fun _ => vp_in_nI k1 (by omega)⟩
  · rcases mwh h hp2 with ⟨k1, k2⟩ | ⟨k1, k2, k3⟩
    · exact absurd k2 n
    · have f0 : Fr [104] I (si (si I 104 13 (nI p)) 104 14 (nI (wh o p))) := (Fr.rfl' _ _).to rfl |>.to rfl
      have e1 : v_X12_legsAt (nI per) (nI o) (nI (wh o p)) (si (si I 104 13 (nI p)) 104 14 (nI (wh o p))) = nI (lgF A per o (wh o p) pace) :=
        legs_m h.1 k1 k3 hA hp hpa (fun j hj => by rw [f0 86 rfl]; exact hR.2.2.2.2.2.1 j hj) (fun j hj => by rw [f0 87 rfl]; exact hR.2.2.2.2.2.2.1 j hj) (by rw [f0 83 rfl]; exact h36)
      rw [k2, e1]
      have f2 : Fr [104] I (si (si (si I 104 13 (nI p)) 104 14 (nI (wh o p))) 104 15 (nI (lgF A per o (wh o p) pace))) := f0.to rfl
      refine ev_byText (k := 7) (hd := 104) (lo := 0) (hi := nI left) (F := LTH p (wh o p) (lgF A per o (wh o p) pace) (LT A per sc o st x most pace)) (by omega) hw (by omega) (clF_0 left (by omega)) (hrt.fr rfl f2) (fun j hj => ?_) (fun I1 f1 => mhu_59 ?_)
      · unfold LTH
        by_cases j13 : j = 13
        · subst j13; simp [si]
        by_cases j14 : j = 14
        · subst j14; simp [si]
        by_cases j15 : j = 15
        · subst j15; simp [si]
        rw [if_neg j13, if_neg j14, if_neg j15, si_ne j15, si_ne j14, si_ne j13]
        exact hF j (by omega)
      · have e0 : sH A per sc o st x most pace p left = clN left (askF (qP A 0) 104 (LTH p (wh o p) (lgF A per o (wh o p) pace) (LT A per sc o st x most pace))) := if_neg (by omega)
        rw [(clN_all (by omega) _).2, ← e0]
        refine g I1 ((f2.sub rfl).trans (f1.sub rfl)) (fun j hj => ?_)
        rw [f1 104 rfl, si_ne (by omega), si_ne (by omega), si_ne (by omega)]
        exact hF j hj
/-- the class's number of what the reference counts -/
def evC (w : Nat) : Nat := if w = 4 then 0 else w + 1
theorem ev_lots {d oth per o x all once pace : Nat} {sc : Int32} {A : Tm} {I : Nat → Nat → Int32} {J : Nat → Nat → Int64} {T : Nat → Nat → Nat} {Q : Option Value → Mem → Prop} (hA : BD A) (hR : RM A I) (hN : RN all once pace I) (ho : oth < 3) (hp : per ≤ 5) (hpa : pace ≤ 1) (h : CD o) (g : ∀ I', Fr [103, 104, 105] I I' → (∀ w, w < 5 → I' 105 w = nI (shF A per sc o (stF A oth per sc) x all pace (evC w))) → Q none (SH, mkM I' J T)) : Ev mt aM (d + 7) 235 [.ref 83, .int (nI per), .int sc, .int (nI o), .int (nI oth), .int (nI x)] (SH, mkM I J T) Q := by
  have hw := hA.2.2.2.2.2.2.2.2 0 (by omega)
  obtain ⟨b1, b2, b3, b4⟩ := sh_bounds A per sc o (stF A oth per sc) x all pace
  refine Ev.intro mX12_lots rfl rfl (mlo_0 ?_)
  refine ev_feels (A := A) hA hR hN ho hp hpa h (fun I1 f1 m1 => mlo_11 ?_)
  have r1 : RM A I1 := hR.fr rfl f1
  refine ev_byText (k := 7) (hd := 103) (lo := 0) (hi := 100) (F := LT A per sc o (stF A oth per sc) x all pace) (by omega) hw (by omega) rfl (r1.2.2.2.2.2.2.2.2 0 (by omega)) m1 (fun I2 f2 => mlo_32 ?_)
  rw [show clF 0 (100 : Int32) (askF (qP A 0) 103 (LT A per sc o (stF A oth per sc) x all pace)) = nI (sG A per sc o (stF A oth per sc) x all pace) from (clN_all (m := 100) (by omega) _).2]
  rw [show (100 : Int32) - nI (sG A per sc o (stF A oth per sc) x all pace) = nI (100 - sG A per sc o (stF A oth per sc) x all pace) from pk_sub b1]
  have f3 : Fr [103, 104, 105] I (si I2 105 0 (nI (sG A per sc o (stF A oth per sc) x all pace))) := ((f1.sub rfl).trans (f2.sub rfl)).to rfl
  have r3 : RM A (si I2 105 0 (nI (sG A per sc o (stF A oth per sc) x all pace))) := hR.fr rfl f3
  have m3 : ∀ j, j < 16 → (si I2 105 0 (nI (sG A per sc o (stF A oth per sc) x all pace))) 104 j = LT A per sc o (stF A oth per sc) x all pace j := by
    intro j hj
    rw [si_row (by omega), f2 104 rfl]
    exact m1 j hj
  refine ev_byText (k := 7) (hd := 97) (lo := 0) (F := LT A per sc o (stF A oth per sc) x all pace) (by omega) hw (by omega) (clF_0 _ (by omega)) (r3.2.2.2.2.2.2.2.2 0 (by omega)) m3 (fun I3 f4 => mlo_61 ?_)
  rw [show clF 0 (nI (100 - sG A per sc o (stF A oth per sc) x all pace)) (askF (qP A 0) 97 (LT A per sc o (stF A oth per sc) x all pace)) = nI (sA A per sc o (stF A oth per sc) x all pace) from (clN_all (by omega) _).2, pk_sub b2]
  have f5 : Fr [103, 104, 105] I (si I3 105 1 (nI (sA A per sc o (stF A oth per sc) x all pace))) := (f3.trans (f4.sub rfl)).to rfl
  have m5 : ∀ j, j < 13 → (si I3 105 1 (nI (sA A per sc o (stF A oth per sc) x all pace))) 104 j = LT A per sc o (stF A oth per sc) x all pace j := by
    intro j hj
    rw [si_row (by omega), f4 104 rfl]
    exact m3 j (by omega)
  refine ev_hurtAt (A := A) (p := 0) (sc := sc) (st := stF A oth per sc) (x := x) (most := all) (pace := pace) hA (hR.fr rfl f5) (by rw [f5 83 rfl]; exact hN.2.2) (by omega) hp hpa h (by omega) m5 (fun I4 f6 m6 => mlo_87 ?_)
  rw [show sH A per sc o (stF A oth per sc) x all pace 0 (100 - sG A per sc o (stF A oth per sc) x all pace - sA A per sc o (stF A oth per sc) x all pace) = sH0 A per sc o (stF A oth per sc) x all pace from rfl, pk_sub b3]
  have f7 : Fr [103, 104, 105] I (si I4 105 2 (nI (sH0 A per sc o (stF A oth per sc) x all pace))) := (f5.trans (f6.sub rfl)).to rfl
  have m7 : ∀ j, j < 13 → (si I4 105 2 (nI (sH0 A per sc o (stF A oth per sc) x all pace))) 104 j = LT A per sc o (stF A oth per sc) x all pace j := by
    intro j hj
    rw [si_row (by omega)]
    exact m6 j hj
  refine ev_hurtAt (A := A) (p := 1) (sc := sc) (st := stF A oth per sc) (x := x) (most := all) (pace := pace) hA (hR.fr rfl f7) (by rw [f7 83 rfl]; exact hN.2.2) (by omega) hp hpa h (by omega) m7 (fun I5 f8 m8 => mlo_113 ?_)
  rw [show sH A per sc o (stF A oth per sc) x all pace 1 (100 - sG A per sc o (stF A oth per sc) x all pace - sA A per sc o (stF A oth per sc) x all pace - sH0 A per sc o (stF A oth per sc) x all pace) = sH1 A per sc o (stF A oth per sc) x all pace from rfl, pk_sub b4]
  have q8 := f8 105 rfl
  have q6 := f6 105 rfl
  have q4 := f4 105 rfl
  refine g _ (((f7.trans (f8.sub rfl)).to rfl).to rfl) (fun w hw' => ?_)
  rcases (show w = 0 ∨ w = 1 ∨ w = 2 ∨ w = 3 ∨ w = 4 by omega) with rfl | rfl | rfl | rfl | rfl
  · rw [si_ne (by omega), si_ne (by omega), q8, si_ne (by omega), q6, si_ne (by omega), q4, si_at]; rfl
  · rw [si_ne (by omega), si_ne (by omega), q8, si_ne (by omega), q6, si_at]; rfl
  · rw [si_ne (by omega), si_ne (by omega), q8, si_at]; rfl
  · rw [si_ne (by omega), si_at]; rfl
  · rw [si_at]; rfl
theorem clF_id (v : Int32) : clF (-2147483648) 2147483647 v = v := by
  unfold clF
  have h1 : (-2147483648 : Int32) ≤ v := by
    rw [Int32.le_iff_toInt_le]
    have := v.le_toInt
    exact this
  have h2 : v ≤ (2147483647 : Int32) := by
    rw [Int32.le_iff_toInt_le]
    have := v.toInt_lt
    have e : (2147483647 : Int32).toInt = 2147483647 := rfl
    omega
  rw [if_pos h1, if_pos h2]
theorem ev_ruled {d k oth per o : Nat} {sc : Int32} {A : Tm} {I : Nat → Nat → Int32} {J : Nat → Nat → Int64} {T : Nat → Nat → Nat} {Q : Option Value → Mem → Prop} (hA : BD A) (hR : RM A I) (hN : RN (qC A) (qO A) 0 I) (hk : k < 4) (ho : oth < 3) (hp : per ≤ 5) (h : CD o) (g : ∀ I', Fr [103, 104] I I' → Q (some (.int (nI (ruF A k per sc o (stF A oth per sc))))) (SH, mkM I' J T)) : Ev mt aM (d + 7) 242 [.ref 83, .int (nI k), .int (nI per), .int sc, .int (nI o), .int (nI oth)] (SH, mkM I J T) Q := by
  have hw := hA.2.2.2.2.2.2.2.2 (4 + k) (by omega)
  have hC := hA.2.1
  have hO := hA.2.2.1
  refine Ev.intro mX12_ruled rfl rfl (mru_0 ?_)
  refine ev_feels (A := A) (x := 0) hA hR hN ho hp (by omega) h (fun I1 f1 m1 => mru_11 ?_)
  have r1 : RM A I1 := hR.fr rfl f1
  have hrt := r1.2.2.2.2.2.2.2.2 (4 + k) (by omega)
  have es : mS (4 + k) = 3 + k := by unfold mS; rw [if_neg (by omega)]; omega
  rw [es] at hrt
  rw [show (3 : Int32) + nI k = nI (3 + k) from nI_add 3 k]
  refine ev_byText (hd := 99) (F := LT A per sc o (stF A oth per sc) 0 (qC A) 0) (by omega) hw (by omega) (clF_id 0) hrt m1 (fun I2 f2 => mru_27 ?_)
  rw [clF_id]
  have f3 : Fr [103, 104] I I2 := f1.trans (f2.sub rfl)
  obtain ⟨n1, n2, n3⟩ := hN.fr (l := [103, 104]) rfl f3
  have hv : w2_mru_27 (nI o) (ruV A k per sc o (stF A oth per sc)) I2 = nI (ruF A k per sc o (stF A oth per sc)) := by
    unfold w2_mru_27 w1_mru_27 ruF v_X12_in w1_X12_in
    generalize ruV A k per sc o (stF A oth per sc) = v
    by_cases hr : 0 ≤ v ∧ v < 49
    · have h2 : ¬ v < 0 := by
        have := hr.1
        rw [Int32.lt_iff_toInt_lt]
        rw [Int32.le_iff_toInt_le] at this
        omega
      obtain ⟨a, a1, rfl⟩ := nI_of h2
      have ha : a < 49 := (nI_ltI a1 (by omega)).mp (show nI a < nI 49 from hr.2)
      rw [cN_nI (by omega), if_neg h2, if_neg (show ¬ (48 : Int32) < nI a from nI_nlt (a := 48) (by omega) (by omega)), if_neg (show ¬ (1 : Int32) = 0 by decide), may_m h ha hC (by omega) n1 n2]
      by_cases hm : mayF o a (qC A) (qO A) = true
      · rw [hm, if_neg (show ¬ bI true = 0 by decide), if_pos ⟨hr, rfl⟩]
      · have hm' : mayF o a (qC A) (qO A) = false := by simpa using hm
        rw [hm', if_pos (show bI false = 0 from rfl), if_neg (fun q => by cases q.2)]
        rfl
    · rw [show (if (0 ≤ v ∧ v < 49) ∧ mayF o (cN v) (qC A) (qO A) = true then cN v else 0) = 0 from if_neg (fun q => hr q.1)]
      by_cases h0 : v < 0
      · rw [if_pos h0, if_pos rfl]; rfl
      · rw [if_neg h0]
        by_cases h1 : (48 : Int32) < v
        · rw [if_pos h1, if_pos rfl]; rfl
        · exfalso
          apply hr
          rw [Int32.le_iff_toInt_le, Int32.lt_iff_toInt_lt]
          rw [Int32.lt_iff_toInt_lt] at h0 h1
          have e0 : (0 : Int32).toInt = 0 := rfl
          have e1 : (48 : Int32).toInt = 48 := rfl
          have e2 : (49 : Int32).toInt = 49 := rfl
          omega
  show Q (some (.int (w2_mru_27 (nI o) (ruV A k per sc o (stF A oth per sc)) I2))) _
  rw [hv]
  exact g I2 f3
