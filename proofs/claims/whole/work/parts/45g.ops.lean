/-! CALLS: chance, says; happens; count. -/
theorem op_chance {S : St} (hS : PUR S) (x1 x2 x3 x4 x5 x6 : Int32) : OPR S 133 238 [.int x1, .int x2, .int x3, .int x4, .int x5, .int x6] := by
  have hA := hS.1
  have h5 := hA.1.2
  have refuse : ∀ (_ : ∀ (I : Nat → Nat → Int32) (T : Nat → Nat → Nat), RC (zA S) I T → v_X11_isLegal x1 x2 x3 x4 I = 0 ∨ v_X11_isOther x5 = 0 ∨ (x6 < 0 ∨ nI 4 < x6)) (_ : ∀ I : Nat → Nat → Int32, RM (zA S) I → RN (qC (zA S)) (qO (zA S)) 0 I → v_X12_isAhead x1 I = 0 ∨ v_X12_isScore x2 = 0 ∨ v_X12_taken x3 I = (-1 : Int32) ∨ v_X12_in x4 (0 : Int32) (48 : Int32) = 0 ∨ v_X12_isOther x5 = 0 ∨ v_X12_in x6 (0 : Int32) (4 : Int32) = 0 ∨ v_X12_mayBe (v_X12_taken x3 I) x4 I = 0), OPR S 133 238 [.int x1, .int x2, .int x3, .int x4, .int x5, .int x6] := by
    intro hc hm
    refine OPR.look hS (.int (-1)) (fun d I J T Q h g => ?_) (fun d I J T Q h g => ?_)
    · refine Ev.intro mX11_chance rfl rfl (cchance_0 (d := d + 42) ?_)
      by_cases k1 : v_X11_isLegal x1 x2 x3 x4 I = 0
      · exact br0 k1 g
      refine br1 k1 ?_
      by_cases k2 : v_X11_isOther x5 = 0
      · exact br0 k2 g
      refine br1 k2 ?_
      by_cases k3 : x6 < 0
      · exact br0 k3 g
      refine br1 k3 (br1 ?_ g)
      rcases hc I T h.1 with q | q | q | q
      · exact absurd q k1
      · exact absurd q k2
      · exact absurd q k3
      · exact nle_of q
    · refine Ev.intro mX12_chance rfl rfl (mchance_0 (d := d + 41) ?_)
      by_cases k1 : v_X12_isAhead x1 I = 0
      · exact br0 k1 g
      refine br1 k1 ?_
      by_cases k2 : v_X12_isScore x2 = 0
      · exact br0 k2 g
      refine br1 k2 ?_
      by_cases k3 : v_X12_taken x3 I = (-1 : Int32)
      · exact br0 k3 g
      refine br1 k3 ?_
      by_cases k4 : v_X12_in x4 (0 : Int32) (48 : Int32) = 0
      · exact br0 k4 g
      refine br1 k4 ?_
      by_cases k5 : v_X12_isOther x5 = 0
      · exact br0 k5 g
      refine br1 k5 ?_
      by_cases k6 : v_X12_in x6 (0 : Int32) (4 : Int32) = 0
      · exact br0 k6 g
      refine br1 k6 (br0 ?_ g)
      rcases hm I h.1 h.2.1 with q | q | q | q | q | q | q
      · exact absurd q k1
      · exact absurd q k2
      · exact absurd q k3
      · exact absurd q k4
      · exact absurd q k5
      · exact absurd q k6
      · exact q
  rcases leg_c x1 x2 x3 x4 hA with ⟨p, s, o, a, hp, hs, ho, hmd, ha, hm, rfl, rfl, rfl, rfl, k1, k2, k3, k4⟩ | ⟨k1, k2⟩
  · rcases oth_c x5 with ⟨k, hk, rfl, o1, o2⟩ | ⟨o1, o2⟩
    · rcases rg_ar x6 (b := 4) (by omega) with ⟨w, hw, rfl, w1, w2, w3⟩ | ⟨w1, w3⟩
      · clear refuse
        obtain ⟨p1, p2⟩ := aft_pre ho ha hm
        have wle : nI w ≤ (4 : Int32) := nI_le (b := 4) hw (by omega)
        refine OPR.scratch hS (.int (nI (shN (zA S) k (qC (zA S)) 0 p s o a (evC w)))) (fun d I J T Q h g => ?_) (fun d I J T Q h g => ?_)
        · refine Ev.intro mX11_chance rfl rfl (cchance_0 (d := d + 42) (br1 (ne0 (k1 I T h.1)) (br1 (ne0 o1) (br1 w1 (br0 wle ?_)))))
          refine ev_strongOf (d := d + 44) (A := zA S) hA h.1 hk (fun I1 f1 => cchance_44 (d := d + 42) ?_)
          have r1 := h.1.fr rfl f1
          obtain ⟨c1, _, _, c4, _⟩ := aft_all (M := I1) ho hA ha hm
          refine ⟨p1, p2, ?_⟩
          rw [c4 r1.2.2.2.2.2.1, ch_c ha, r1.2.1]
          refine ev_shares (d := d + 44) (A := zA S) (pace := 0) hA r1 (by omega) (by omega) c1 (fun I2 f2 => cchance_84 (d := d + 42) ?_)
          have f3 : Fr [10, 11, 12] I I2 := f1.trans f2
          have fin := g I2 J (f3.sub rfl) (Fj.rfl' _ _) (h.2.1.fr (lj := []) rfl rfl f3 (Fj.rfl' _ _)) h.2.2.1
          by_cases q : w = 4
          · subst q
            refine br0 rfl ?_
            rw [show (0 : Int32) = nI 0 from rfl, shOf_c (zA S) k (qC (zA S)) 0 p s o a 0 (by omega)]
            exact fin
          · refine br1 (fun e => q ((nI_eq (b := 4) (by omega) (by omega)).mp e)) ?_
            rw [nI_1, shOf_c (zA S) k (qC (zA S)) 0 p s o a (w + 1) (by omega)]
            have e : evC w = w + 1 := if_neg q
            rw [e] at fin
            exact fin
        · obtain ⟨t1, t2, t3⟩ := k4 I h.1 h.2.1
          obtain ⟨c1, _, _, _, c5⟩ := aft_all (M := I) ho hA ha hm
          have ho1 := ho.1
          refine Ev.intro mX12_chance rfl rfl (mchance_0 (d := d + 41) (br1 (ne0 t2) (br1 (ne0 k2) (br1 (by rw [t1]; exact nIm1 (by omega)) (br1 (ne0 k3) (br1 (ne0 o2) (br1 (show ¬ v_X12_in (nI w) (0 : Int32) (4 : Int32) = 0 from ne0 w3) (br1 (ne0 t3) ⟨beh_pre ho ha hm, ?_⟩))))))))
          rw [t1, c5 h.1.2.2.2.2.2.1, act_may ho ha hm]
          refine ev_lots (d := d + 42) (A := zA S) hA h.1 h.2.1 hk (by omega) (by omega) c1 (fun I1 f1 m1 => mchance_91 (d := d + 41) ⟨vp_in_nI (by omega) (by omega), ?_⟩)
          rw [nI_clamp (by omega), m1 w (by omega)]
          exact g I1 J (f1.sub rfl) (Fj.rfl' _ _) (h.scr (f1.sub rfl))
      · refine refuse (fun I T h => Or.inr (Or.inr w1)) (fun I h n => Or.inr (Or.inr (Or.inr (Or.inr (Or.inr (Or.inl w3))))))
    · exact refuse (fun I T h => Or.inr (Or.inl o1)) (fun I h n => Or.inr (Or.inr (Or.inr (Or.inr (Or.inl o2)))))
  · refine refuse (fun I T h => Or.inl (k1 I T h)) (fun I h n => ?_)
    rcases k2 I h n with q | q | q | q | q
    · exact Or.inl q
    · exact Or.inr (Or.inl q)
    · exact Or.inr (Or.inr (Or.inl q))
    · exact Or.inr (Or.inr (Or.inr (Or.inl q)))
    · exact Or.inr (Or.inr (Or.inr (Or.inr (Or.inr (Or.inr q)))))
/-- a RULE that is told, or not -/
theorem rt_c (x : Int32) {A : Tm} (hA : BD A) : (∃ k, k < 4 ∧ x = nI k ∧ v_X11_isRule x = 1 ∧ (qP A (4 + k)).1 ≠ 0 ∧ (∀ (I : Nat → Nat → Int32) (T : Nat → Nat → Nat), RC A I T → ¬ v_X2_isTold ((4 : Int32) + x) I T = 0 ∧ vp_in ((4 : Int32) + x) 8 ∧ TX (T 13 ((4 : Int32) + x).toNatClampNeg)) ∧ ∀ I : Nat → Nat → Int32, RM A I → ¬ v_X12_isRule x I = 0 ∧ vp_in ((3 : Int32) + x) 8) ∨ ((∀ (I : Nat → Nat → Int32) (T : Nat → Nat → Nat), RC A I T → v_X11_isRule x = 0 ∨ (¬ v_X11_isRule x = 0 ∧ v_X2_isTold ((4 : Int32) + x) I T = 0 ∧ vp_in ((4 : Int32) + x) 8 ∧ TX (T 13 ((4 : Int32) + x).toNatClampNeg))) ∧ ∀ I : Nat → Nat → Int32, RM A I → v_X12_isRule x I = 0 ∧ ((¬ (x < 0)) → ((¬ ((4 : Int32) ≤ x)) → vp_in ((3 : Int32) + x) 8))) := by
  rcases rul_c x with ⟨k, hk, rfl, r1⟩ | ⟨r1, r2⟩
  · have e4 : (4 : Int32) + nI k = nI (4 + k) := by rw [show (4 : Int32) = nI 4 from rfl, nI_add]
    rcases Nat.eq_zero_or_pos (qP A (4 + k)).1 with z | z
    · refine Or.inr ⟨fun I T h => Or.inr ⟨ne0 r1, ?_⟩, fun I h => ⟨(mul_c hA h hk).1.mpr z, fun _ _ => (mul_c hA h hk).2.1⟩⟩
      obtain ⟨t1, t2, t3, t4⟩ := told_c (s := 4 + k) hA h (by omega)
      rw [e4]
      exact ⟨t1.mpr z, t3, t4⟩
    · refine Or.inl ⟨k, hk, rfl, r1, by omega, fun I T h => ?_, fun I h => ⟨fun q => ?_, (mul_c hA h hk).2.1⟩⟩
      · obtain ⟨t1, t2, t3, t4⟩ := told_c (s := 4 + k) hA h (by omega)
        rw [e4]
        exact ⟨fun q => by have := t1.mp q; omega, t3, t4⟩
      · have := (mul_c hA h hk).1.mp q
        omega
  · exact Or.inr ⟨fun I T h => Or.inl r1, fun I h => mul_no r2⟩
theorem op_says {S : St} (hS : PUR S) (x1 x2 x3 x4 x5 : Int32) : OPR S 136 253 [.int x1, .int x2, .int x3, .int x4, .int x5] := by
  have hA := hS.1
  have h5 := hA.1.2
  have mst : ∀ I : Nat → Nat → Int32, (v_X12_in x2 (0 : Int32) (I 83 0) = 0 ∨ v_X12_isScore x3 = 0 ∨ v_X12_taken x4 I = (-1 : Int32) ∨ v_X12_isOther x5 = 0) → v_X12_isState x2 x3 x4 x5 I = 0 := fun I h => by
    unfold v_X12_isState w4_X12_isState w3_X12_isState w2_X12_isState w1_X12_isState
    rcases h with h | h | h | h
    · rw [if_pos h]
    · rw [if_pos h]; split <;> rfl
    · rw [if_pos h]; repeat' split
      all_goals rfl
    · rw [if_pos h]; repeat' split
      all_goals rfl
  have refuse : ∀ (_ : ∀ (I : Nat → Nat → Int32) (T : Nat → Nat → Nat), RC (zA S) I T → v_X11_isRule x1 = 0 ∨ (¬ v_X11_isRule x1 = 0 ∧ vp_in ((4 : Int32) + x1) 8 ∧ TX (T 13 ((4 : Int32) + x1).toNatClampNeg) ∧ (v_X2_isTold ((4 : Int32) + x1) I T = 0 ∨ v_X11_isState x2 x3 x4 I = 0 ∨ v_X11_isOther x5 = 0))) (_ : ∀ I : Nat → Nat → Int32, RM (zA S) I → ((¬ (x1 < 0)) → ((¬ ((4 : Int32) ≤ x1)) → vp_in ((3 : Int32) + x1) 8)) ∧ (v_X12_isRule x1 I = 0 ∨ v_X12_isAhead x2 I = 0 ∨ v_X12_isState x2 x3 x4 x5 I = 0)), OPR S 136 253 [.int x1, .int x2, .int x3, .int x4, .int x5] := by
    intro hc hm
    refine OPR.look hS (.int (-1)) (fun d I J T Q h g => ?_) (fun d I J T Q h g => ?_)
    · refine Ev.intro mX11_says rfl rfl (csays_0 (d := d + 42) ?_)
      rcases hc I T h.1 with q | ⟨q, v, t, q2⟩
      · exact br0 q g
      refine br1 q ⟨v, t, ?_⟩
      by_cases k1 : v_X2_isTold ((4 : Int32) + x1) I T = 0
      · exact br0 k1 g
      refine br1 k1 ?_
      by_cases k2 : v_X11_isState x2 x3 x4 I = 0
      · exact br0 k2 g
      refine br1 k2 (br0 ?_ g)
      rcases q2 with q2 | q2 | q2
      · exact absurd q2 k1
      · exact absurd q2 k2
      · exact q2
    · obtain ⟨v, q⟩ := hm I h.1
      refine Ev.intro mX12_says rfl rfl (msays_0 (d := d + 41) ⟨v, ?_⟩)
      by_cases k1 : v_X12_isRule x1 I = 0
      · exact br0 k1 g
      refine br1 k1 ?_
      by_cases k2 : v_X12_isAhead x2 I = 0
      · exact br0 k2 g
      refine br1 k2 (br0 ?_ g)
      rcases q with q | q | q
      · exact absurd q k1
      · exact absurd q k2
      · exact q
  rcases rt_c x1 hA with ⟨k, hk, rfl, r1, r2, r3, r4⟩ | ⟨r1, r2⟩
  · rcases st_c x2 x3 x4 hA with ⟨p, s, o, hp, hs, ho, hmd, rfl, rfl, rfl, k1, k2, k3⟩ | ⟨s, o, hs, ho, hmd, rfl, rfl, rfl, k1, k2, k3⟩ | ⟨k1, k2⟩
    · rcases oth_c x5 with ⟨b, hb, rfl, o1, o2⟩ | ⟨o1, o2⟩
      · clear refuse mst
        refine OPR.scratch hS (.int (nI (rA (zA S) k b p s o))) (fun d I J T Q h g => ?_) (fun d I J T Q h g => ?_)
        · obtain ⟨t1, t2, t3⟩ := r3 I T h.1
          refine Ev.intro mX11_says rfl rfl (csays_0 (d := d + 42) (br1 (ne0 r1) ⟨t2, t3, br1 t1 (br1 (ne0 (k1 I h.1.1 h.1.2.1).1) (br1 (ne0 o1) ?_))⟩))
          refine ev_strongOf (d := d + 44) (A := zA S) hA h.1 hb (fun I1 f1 => csays_61 (d := d + 42) ?_)
          refine ev_ruleAction (d := d + 44) (A := zA S) hA (h.1.fr rfl f1) hk (by omega) ho (fun I2 f2 => csays_64 (d := d + 42) ?_)
          have f3 : Fr [10, 11, 12] I I2 := f1.trans f2
          exact g I2 J (f3.sub rfl) (Fj.rfl' _ _) (h.2.1.fr (lj := []) rfl rfl f3 (Fj.rfl' _ _)) h.2.2.1
        · obtain ⟨t1, t2, t3⟩ := k3 I h.1.1 h.1.2.1
          obtain ⟨u1, u2⟩ := r4 I h.1
          have ho1 := ho.1
          have es : ¬ v_X12_isState (nI p) (scI s) (dI o) (nI b) I = 0 := by
            unfold v_X12_isState w4_X12_isState w3_X12_isState w2_X12_isState w1_X12_isState
            rw [if_neg (ne0 t3), if_neg (ne0 k2), if_neg (by rw [t1]; exact nIm1 (by omega)), if_neg (ne0 o2)]
            decide
          refine Ev.intro mX12_says rfl rfl (msays_0 (d := d + 41) ⟨fun _ _ => u2, br1 u1 (br1 (ne0 t2) (br1 es ?_))⟩)
          rw [t1]
          refine ev_ruled (d := d + 42) (A := zA S) hA h.1 h.2.1 hk hb (by omega) ho (fun I1 f1 => msays_48 (d := d + 41) ?_)
          exact g I1 J (f1.sub rfl) (Fj.rfl' _ _) (h.scr (f1.sub rfl))
      · refine refuse (fun I T h => Or.inr ⟨ne0 r1, (r3 I T h).2.1, (r3 I T h).2.2, Or.inr (Or.inr o1)⟩) (fun I h => ⟨fun _ _ => (r4 I h).2, Or.inr (Or.inr (mst I (Or.inr (Or.inr (Or.inr o2)))))⟩)
    · exact refuse (fun I T h => Or.inr ⟨ne0 r1, (r3 I T h).2.1, (r3 I T h).2.2, Or.inr (Or.inl (k1 I h.1 h.2.1).1)⟩) (fun I h => ⟨fun _ _ => (r4 I h).2, Or.inr (Or.inl (k3 I h.1 h.2.1).2.1)⟩)
    · refine refuse (fun I T h => Or.inr ⟨ne0 r1, (r3 I T h).2.1, (r3 I T h).2.2, Or.inr (Or.inl (k1 I h.1 h.2.1).1)⟩) (fun I h => ⟨fun _ _ => (r4 I h).2, ?_⟩)
      rcases k2 with q | q | q
      · exact Or.inr (Or.inl (q I h.1).1)
      · exact Or.inr (Or.inr (mst I (Or.inr (Or.inl q))))
      · exact Or.inr (Or.inr (mst I (Or.inr (Or.inr (Or.inl (q I h.2.1))))))
  · refine refuse (fun I T h => ?_) (fun I h => ⟨(r2 I h).2, Or.inl (r2 I h).1⟩)
    rcases r1 I T h with q | ⟨q1, q2, q3, q4⟩
    · exact Or.inl q
    · exact Or.inr ⟨q1, q3, q4, Or.inl q2⟩
