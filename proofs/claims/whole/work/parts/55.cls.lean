/-! THE CLASS READS: clauses, a whole text. -/
def FC (t : Nat) (I I' : Nat → Nat → Int32) : Prop := Fr [62, t, t + 1, t + 2, t + 3, t + 4, t + 5] I I'
theorem el7_ne {t o : Nat} (h : [62, t, t + 1, t + 2, t + 3, t + 4, t + 5].elem o = false) : o ≠ 62 ∧ o ≠ t ∧ o ≠ t + 1 ∧ o ≠ t + 2 ∧ o ≠ t + 3 ∧ o ≠ t + 4 ∧ o ≠ t + 5 := by
  refine ⟨?_, ?_, ?_, ?_, ?_, ?_, ?_⟩ <;> (intro e; subst e; rw [List.elem_iff.mpr (by simp)] at h; cases h)
theorem FT.fc {t : Nat} {I I' : Nat → Nat → Int32} (h : FT t I I') : FC t I I' := fun o ho => by
  have := el7_ne ho
  exact h.1 o (el3 (by omega) (by omega) (by omega))
theorem fc_si {t k j : Nat} {x : Int32} {I I' : Nat → Nat → Int32} (hk : k ≤ 5) (h : FC t I I') : FC t I (si I' (t + k) j x) := fun o ho => by
  have := el7_ne ho
  rw [si_row (by omega)]
  exact h o ho
theorem FT.hi {t k : Nat} {I I' : Nat → Nat → Int32} (ht : TX t) (hk : 2 ≤ k ∧ k ≤ 5) (h : FT t I I') : I' (t + k) = I (t + k) := by
  have := ht.ne
  refine h.1 _ (el3 ?_ (by omega) (by omega))
  unfold TX at ht
  omega
theorem TX.hi {t k : Nat} (ht : TX t) (hk : k ≤ 5) : t + k ≠ 62 ∧ t + k ≠ 8 := by
  unfold TX at ht
  omega
section CLV
variable {b : Nat → Nat} {n : Nat}
theorem KX.frE {t : Nat} {e : Nat × Nat} {I I' : Nat → Nat → Int32} (h : KX b n t (.inl e) I) (h62 : I' 62 = I 62) (h8 : I' 8 = I 8) : KX b n t (.inl e) I' := by
  obtain ⟨a1, a2, a3⟩ := h
  refine ⟨by rw [h62]; exact a1, fun i hi => by rw [h8]; exact a2 i hi, ?_⟩
  show KF e I'
  unfold KF
  rw [h62]
  exact a3
theorem KX.frS {t : Nat} {s : RdS} {I I' : Nat → Nat → Int32} (h : KX b n t (.inr s) I) (h62 : I' 62 = I 62) (h8 : I' 8 = I 8) (h0 : I' t 1 = I t 1) (h1 : I' (t + 1) = I (t + 1)) : KX b n t (.inr s) I' := by
  obtain ⟨a1, a2, a3⟩ := h
  refine ⟨by rw [h62]; exact a1, fun i hi => by rw [h8]; exact a2 i hi, ?_⟩
  show KR b n t s I'
  unfold KR
  rw [h62, h0, h1]
  exact a3
def HD (T : Nat → Nat → Nat) (hd : Nat → Bool) : Prop := (T 62 2 = 1001 ∧ hd = hdL) ∨ (T 62 2 = 1007 ∧ hd = hdO) ∨ (T 62 2 = 1008 ∧ hd = hdC)
theorem hd_128 {T : Nat → Nat → Nat} {hd : Nat → Bool} (h : HD T hd) : ∀ c, hd c = true → c < 128 := by
  intro c hc
  rcases h with ⟨_, rfl⟩ | ⟨_, rfl⟩ | ⟨_, rfl⟩
  · unfold hdL at hc
    simp only [Bool.or_eq_true] at hc
    rcases hc with (hc | hc) | hc
    · have := Nat.eq_of_beq_eq_true hc; omega
    · have := Nat.eq_of_beq_eq_true hc; omega
    · have := Nat.eq_of_beq_eq_true hc; omega
  · unfold hdO at hc
    have := Nat.eq_of_beq_eq_true hc
    omega
  · unfold hdC at hc
    have := Nat.eq_of_beq_eq_true hc
    omega
theorem ev_isoH (hN : BN b n) {hd : Nat → Bool} {d : Nat} {X : RdR} {I : Nat → Nat → Int32} {J : Nat → Nat → Int64} {T : Nat → Nat → Nat} {Q : Option Value → Mem → Prop} (hH : HD T hd) (h : KX b n (T 62 0) X I) (g : ∀ v : Int32, (∀ s, X = .inr s → (v = 0 ↔ hd (sgn b n (uP s)) = false)) → (∀ e, X = .inl e → v = 0) → Q (some (.int v)) (SH, mkM I J T)) : Ev mt aM (d + 7) 36 [.ref 62, .ref (T 62 2)] (SH, mkM I J T) Q := by
  have hs := h.sg
  rcases hH with ⟨h1, rfl⟩ | ⟨h1, rfl⟩ | ⟨h1, rfl⟩
  · rw [h1]
    refine ev_iso1 (g _ (fun s e => ?_) (fun e q => ?_))
    · subst e; rw [hs]; exact bqI_0 (sg_all (sgn_sg (b := b) (n := n) (p := uP s) hN.2)).2.2.2.2.2.1
    · subst q; rw [hs]; exact m2_no.1
  · rw [h1]
    refine ev_iso7 (g _ (fun s e => ?_) (fun e q => ?_))
    · subst e; rw [hs]; exact bqI_0 (sg_all (sgn_sg (b := b) (n := n) (p := uP s) hN.2)).2.2.2.2.2.2.1
    · subst q; rw [hs]; exact m2_no.2.2.2.2.2.2.1
  · rw [h1]
    refine ev_iso8 (g _ (fun s e => ?_) (fun e q => ?_))
    · subst e; rw [hs]; exact bqI_0 (sg_all (sgn_sg (b := b) (n := n) (p := uP s) hN.2)).2.2.2.2.2.2.2.1
    · subst q; rw [hs]; exact m2_no.2.2.2.2.2.2.2
theorem put2_in {t k : Nat} {x : Int32} {I : Nat → Nat → Int32} (hk : k < 14) : w2_X5_put_t2 t (nI k) x I = si I (t + 2) k x := by
  unfold w2_X5_put_t2 w1_X5_put_t2
  rw [if_neg (nI_pos (by omega)), if_neg (show ¬ (14 : Int32) ≤ nI k from nI_ge (b := 14) hk (by omega)), nI_clamp (by omega)]
theorem put3_in {t k : Nat} {x : Int32} {I : Nat → Nat → Int32} (hk : k < 14) : w2_X5_put_t3 t (nI k) x I = si I (t + 3) k x := by
  unfold w2_X5_put_t3 w1_X5_put_t3
  rw [if_neg (nI_pos (by omega)), if_neg (show ¬ (14 : Int32) ≤ nI k from nI_ge (b := 14) hk (by omega)), nI_clamp (by omega)]
theorem put4_in {t k : Nat} {x : Int32} {I : Nat → Nat → Int32} (hk : k < 14) : w2_X5_put_t4 t (nI k) x I = si I (t + 4) k x := by
  unfold w2_X5_put_t4 w1_X5_put_t4
  rw [if_neg (nI_pos (by omega)), if_neg (show ¬ (14 : Int32) ≤ nI k from nI_ge (b := 14) hk (by omega)), nI_clamp (by omega)]
theorem put5_in {t k : Nat} {x : Int32} {I : Nat → Nat → Int32} (hk : k < 14) : w2_X5_put_t5 t (nI k) x I = si I (t + 5) k x := by
  unfold w2_X5_put_t5 w1_X5_put_t5
  rw [if_neg (nI_pos (by omega)), if_neg (show ¬ (14 : Int32) ≤ nI k from nI_ge (b := 14) hk (by omega)), nI_clamp (by omega)]
theorem put4_fr {t : Nat} {i x : Int32} {I : Nat → Nat → Int32} : ∀ o, o ≠ t + 4 → w2_X5_put_t4 t i x I o = I o := by
  intro o ho
  unfold w2_X5_put_t4 w1_X5_put_t4
  by_cases c1 : i < 0
  · rw [if_pos c1]
  · rw [if_neg c1]
    by_cases c2 : (14 : Int32) ≤ i
    · rw [if_pos c2]
    · rw [if_neg c2]; exact si_row (by omega)
theorem put5_fr {t : Nat} {i x : Int32} {I : Nat → Nat → Int32} : ∀ o, o ≠ t + 5 → w2_X5_put_t5 t i x I o = I o := by
  intro o ho
  unfold w2_X5_put_t5 w1_X5_put_t5
  by_cases c1 : i < 0
  · rw [if_pos c1]
  · rw [if_neg c1]
    by_cases c2 : (14 : Int32) ≤ i
    · rw [if_pos c2]
    · rw [if_neg c2]; exact si_row (by omega)
/-- the clauses read so far -/
def KC (b : Nat → Nat) (n t : Nat) (Y : Sum (Nat × Nat) RdC) (I : Nat → Nat → Int32) : Prop := match Y with
  | .inl e => KX b n t (.inl e) I
  | .inr c => KX b n t (.inr c.1) I ∧ uN c.1 ≤ uP c.1 ∧ I t 0 = nI c.2.1 ∧ c.2.1 ≤ 14 ∧ ∀ j, j < c.2.1 → I (t + 2) j = nI (c.2.2.1 j) ∧ I (t + 3) j = nI (c.2.2.2.1 j) ∧ I (t + 4) j = nI (c.2.2.2.2.1 j) ∧ I (t + 5) j = nI (c.2.2.2.2.2 j)
def bndC (Y : Sum (Nat × Nat) RdC) (F : RdC → Sum (Nat × Nat) RdC) : Sum (Nat × Nat) RdC := match Y with
  | .inl e => .inl e
  | .inr c => F c
def clT (b : Nat → Nat) (n : Nat) (c : RdC) : RdR := bnd (pS b n (pF b n 6) (mvS c.1)) (rdF b n (pP b n 5))
theorem ev_cls (hN : BN b n) {hd : Nat → Bool} {d : Nat} {Y : Sum (Nat × Nat) RdC} {I : Nat → Nat → Int32} {J : Nat → Nat → Int64} {T : Nat → Nat → Nat} {Q : Option Value → Mem → Prop} (hH : HD T hd) (ht : TX (T 62 0)) (h : KC b n (T 62 0) Y I) (g : ∀ I', FC (T 62 0) I I' → KC b n (T 62 0) (bndC Y (clX b n hd)) I' → Q none (SH, mkM I' J T)) : Ev mt aM (d + 40) 39 [.ref 62] (SH, mkM I J T) Q := by
  have hw := ht.ne
  have hn := hN.1
  -- what a FAULT leaves
  have failE : ∀ (e : Nat × Nat) (I1 : Nat → Nat → Int32), bndC Y (clX b n hd) = .inl e → FC (T 62 0) I I1 → KX b n (T 62 0) (.inl e) I1 → Q none (SH, mkM I1 J T) := fun e I1 he f k => g I1 f (by rw [he]; exact k)
  have endE : ∀ (e : Nat × Nat) (I1 : Nat → Nat → Int32), bndC Y (clX b n hd) = .inl e → FC (T 62 0) I I1 → KX b n (T 62 0) (.inl e) I1 → Go none aM (Ev mt aM (d + 39)) mX3_clause Q (69, [some (.ref 62)], [], (SH, mkM I1 J T), 0, 0) := by
    intro e I1 he f k
    refine cls_69 (d := d + 32) ⟨ht, ev_X9_endClause_t ht (cls_76 (d := d + 32) (failE e _ he ?_ ?_))⟩
    · refine fc_si (k := 0) (by omega) (fun o ho => ?_)
      have := el7_ne ho
      rw [put5_fr _ (by omega)]
      exact f o ho
    · refine k.frE ?_ ?_
      · rw [si_row (by omega), put5_fr _ (by have := ht.hi (k := 5) (by omega); omega)]
      · rw [si_row (by omega), put5_fr _ (by have := ht.hi (k := 5) (by omega); omega)]
  have midE : ∀ (e : Nat × Nat) (I1 : Nat → Nat → Int32), bndC Y (clX b n hd) = .inl e → FC (T 62 0) I I1 → KX b n (T 62 0) (.inl e) I1 → Go none aM (Ev mt aM (d + 39)) mX3_clause Q (58, [some (.ref 62)], [], (SH, mkM I1 J T), 0, 0) := by
    intro e I1 he f k
    refine cls_58 (d := d + 32) ⟨ht, ev_X9_beginCondition_t ht (cls_65 (d := d + 32) ?_)⟩
    have k2 : KX b n (T 62 0) (.inl e) (w2_X5_put_t4 (T 62 0) (I1 (T 62 0) 0) (I1 (T 62 0) 1) I1) := by
      refine k.frE ?_ ?_
      · rw [put4_fr _ (by have := ht.hi (k := 4) (by omega); omega)]
      · rw [put4_fr _ (by have := ht.hi (k := 4) (by omega); omega)]
    refine cx_rd5 hN (d + 39) (.inl e) _ J T _ (by omega) ht k2 (fun s hs => by cases hs) (fun I2 f2 k3 => endE e I2 he ?_ k3)
    refine Fr.trans (fun o ho => ?_) f2.fc
    have := el7_ne ho
    rw [put4_fr _ (by omega)]
    exact f o ho
  refine Ev.intro (d := d + 39) mX3_clause rfl rfl (cls_0 (d := d + 32) ?_)
  cases Y with
  | inl e =>
    have h : KX b n (T 62 0) (.inl e) I := h
    refine ev_isoH (d := d + 32) hN hH (X := .inl e) h (fun v _ hv => cls_8 (d := d + 32) (br0 (hv e rfl) (ev_flX (b := b) (n := n) (X := .inl e) (d := d + 38) (k := 1) (by omega) ht h (fun I1 f1 k1 => cls_16 (d := d + 32) (failE e I1 rfl f1.fc k1)))))
  | inr c =>
    obtain ⟨k0, hl, h0, h14, hr⟩ := h
    refine ev_isoH (d := d + 32) hN hH (X := .inr c.1) k0 (fun v hv _ => cls_8 (d := d + 32) ?_)
    have hv := hv c.1 rfl
    cases hc : hd (sgn b n (uP c.1)) with
    | false =>
      have e1 : bndC (.inr c) (clX b n hd) = .inl (1, uP c.1) := if_pos hc
      exact br0 (hv.mpr hc) (ev_flX (d := d + 38) (k := 1) (by omega) ht k0 (fun I1 f1 k1 => cls_16 (d := d + 32) (failE _ I1 e1 f1.fc k1)))
    | true =>
      have hne : ¬ hd (sgn b n (uP c.1)) = false := by rw [hc]; decide
      refine br1 (fun z => hne (hv.mp z)) ⟨ht, ?_⟩
      rw [h0]
      by_cases hm : c.2.1 = 14
      · have e1 : bndC (.inr c) (clX b n hd) = .inl (4, uP c.1) := by
          show clX b n hd c = _
          unfold clX
          rw [if_neg hne, if_pos hm]
        refine br1 (by rw [hm]; exact nI_nlt (a := 14) (b := 14) (by omega) (by omega)) (ev_flX (d := d + 38) (k := 4) (by omega) ht k0 (fun I1 f1 k1 => cls_36 (d := d + 32) (failE _ I1 e1 f1.fc k1)))
      · have hm14 : c.2.1 < 14 := by omega
        have h128 := hd_128 hH _ hc
        have hlt : uP c.1 < n := sgn_lt (c := sgn b n (uP c.1)) (by omega) rfl
        have e5 : I 62 5 = nI (sgn b n (uP c.1)) := k0.sg.trans (if_neg (by omega))
        have eN : I (T 62 0) 1 = nI (uN c.1) := k0.2.2.2.1.1
        refine br0 (nI_lt (b := 14) hm14 (by omega)) ⟨ht, ev_X9_beginClause_t ht ?_⟩
        have r2 := ht.hi (k := 2) (by omega)
        have r3 := ht.hi (k := 3) (by omega)
        have r4 := ht.hi (k := 4) (by omega)
        have r5 := ht.hi (k := 5) (by omega)
        rw [h0, put2_in hm14, si_row (show T 62 0 ≠ T 62 0 + 2 by omega), h0, eN, put3_in hm14, e5]
        -- the clause has begun
        have k1 : KX b n (T 62 0) (.inr c.1) (si (si I (T 62 0 + 2) c.2.1 (nI (sgn b n (uP c.1)))) (T 62 0 + 3) c.2.1 (nI (uN c.1))) := k0.frS (by rw [si_row (by omega), si_row (by omega)]) (by rw [si_row (by omega), si_row (by omega)]) (by rw [si_row (by omega), si_row (by omega)]) (by rw [si_row (by omega), si_row (by omega)])
        have f1 : FC (T 62 0) I (si (si I (T 62 0 + 2) c.2.1 (nI (sgn b n (uP c.1)))) (T 62 0 + 3) c.2.1 (nI (uN c.1))) := fc_si (k := 3) (by omega) (fc_si (k := 2) (by omega) (Fr.rfl' _ _))
        refine cls_50 (d := d + 32) (ev_mvX (d := d + 37) hN ht k1 hlt (fun I2 f2 k2 => cls_54 (d := d + 32) ?_))
        refine cx_sm hN 6 (d + 39) (.inr (mvS c.1)) I2 J T _ (by omega) ht k2 (fun s hs => by cases hs; exact ⟨show uN c.1 ≤ uP c.1 + 1 by omega, show 6 ≤ uO c.1 + 6 by omega⟩) (fun I3 f3 k3 => ?_)
        have k3 : KX b n (T 62 0) (pS b n (pF b n 6) (mvS c.1)) I3 := k3
        have f13 : FC (T 62 0) I I3 := (f1.trans f2.fc).trans f3.fc
        have f23 : FT (T 62 0) (si (si I (T 62 0 + 2) c.2.1 (nI (sgn b n (uP c.1)))) (T 62 0 + 3) c.2.1 (nI (uN c.1))) I3 := f2.trans f3
        cases e1 : pS b n (pF b n 6) (mvS c.1) with
        | inl e =>
          rw [e1] at k3
          have e2 : bndC (.inr c) (clX b n hd) = .inl e := by
            show clX b n hd c = _
            unfold clX
            rw [if_neg hne, if_neg hm, e1]
          exact midE e I3 e2 f13 k3
        | inr s1 =>
          rw [e1] at k3
          have t0 : I3 (T 62 0) 0 = nI c.2.1 := by rw [f23.2, si_row (by omega), si_row (by omega)]; exact h0
          have tN : I3 (T 62 0) 1 = nI (uN s1) := k3.2.2.2.1.1
          have g1 := gr_pS (gr_pF 6) _ _ (show uP c.1 + 1 ≤ n by omega) e1
          have n1 : uN s1 + (uP c.1 + 1) ≤ uN c.1 + uP s1 := g1.2.2.1
          have p1 : uP c.1 + 1 ≤ uP s1 := g1.1
          refine cls_58 (d := d + 32) ⟨ht, ev_X9_beginCondition_t ht (cls_65 (d := d + 32) ?_)⟩
          rw [t0, tN, put4_in hm14]
          have k4 : KX b n (T 62 0) (.inr s1) (si I3 (T 62 0 + 4) c.2.1 (nI (uN s1))) := k3.frS (by rw [si_row (by omega)]) (by rw [si_row (by omega)]) (by rw [si_row (by omega)]) (by rw [si_row (by omega)])
          have f4 : FC (T 62 0) I (si I3 (T 62 0 + 4) c.2.1 (nI (uN s1))) := fc_si (k := 4) (by omega) f13
          refine cx_rd5 hN (d + 39) (.inr s1) _ J T _ (by omega) ht k4 (fun s hs => by cases hs; omega) (fun I5 f5 k5 => ?_)
          have k5 : KX b n (T 62 0) (rdF b n (pP b n 5) s1) I5 := k5
          cases e2 : rdF b n (pP b n 5) s1 with
          | inl e =>
            rw [e2] at k5
            have e3 : bndC (.inr c) (clX b n hd) = .inl e := by
              show clX b n hd c = _
              unfold clX
              rw [if_neg hne, if_neg hm, e1]
              show (match rdF b n (pP b n 5) s1 with
                | .inl e => .inl e
                | .inr s2 => .inr (s2, c.2.1 + 1, unF c.2.2.1 c.2.1 (sgn b n (uP c.1)), unF c.2.2.2.1 c.2.1 (uN c.1), unF c.2.2.2.2.1 c.2.1 (uN s1), unF c.2.2.2.2.2 c.2.1 (uN s2))) = Sum.inl e
              rw [e2]
            exact endE e I5 e3 (f4.trans f5.fc) k5
          | inr s2 =>
            rw [e2] at k5
            have e3 : bndC (.inr c) (clX b n hd) = .inr (s2, c.2.1 + 1, unF c.2.2.1 c.2.1 (sgn b n (uP c.1)), unF c.2.2.2.1 c.2.1 (uN c.1), unF c.2.2.2.2.1 c.2.1 (uN s1), unF c.2.2.2.2.2 c.2.1 (uN s2)) := by
              show clX b n hd c = _
              unfold clX
              rw [if_neg hne, if_neg hm, e1]
              dsimp only
              rw [e2]
            rw [e3] at g
            have g2 := gr_rd (gr_pP 5) _ _ g1.2.1 e2
            have t5 : I5 (T 62 0) 0 = nI c.2.1 := by rw [f5.2, si_row (by omega)]; exact t0
            have tN2 : I5 (T 62 0) 1 = nI (uN s2) := k5.2.2.2.1.1
            refine cls_69 (d := d + 32) ⟨ht, ev_X9_endClause_t ht (cls_76 (d := d + 32) (g _ ?_ ⟨?_, ?_, ?_, ?_, fun j hj => ?_⟩))⟩
            · rw [t5, tN2, put5_in hm14]
              exact fc_si (k := 0) (by omega) (fc_si (k := 5) (by omega) (f4.trans f5.fc))
            · rw [t5, tN2, put5_in hm14]
              exact k5.frS (by rw [si_row (by omega), si_row (by omega)]) (by rw [si_row (by omega), si_row (by omega)]) (by rw [si_ne (by omega), si_row (by omega)]) (by rw [si_row (by omega), si_row (by omega)])
            · have := g2.2.2.1
              have := g2.1
              show uN s2 ≤ uP s2
              omega
            · rw [t5, tN2, put5_in hm14, si_at, si_row (by omega), t5]
              exact nI_1 _
            · show c.2.1 + 1 ≤ 14
              omega
            · have hj : j < c.2.1 + 1 := hj
              rw [t5, tN2, put5_in hm14]
              have q2 : I5 (T 62 0 + 2) = (si (si I (T 62 0 + 2) c.2.1 (nI (sgn b n (uP c.1)))) (T 62 0 + 3) c.2.1 (nI (uN c.1))) (T 62 0 + 2) := by rw [f5.hi ht (by omega), si_row (by omega), f23.hi ht (by omega)]
              have q3 : I5 (T 62 0 + 3) = (si (si I (T 62 0 + 2) c.2.1 (nI (sgn b n (uP c.1)))) (T 62 0 + 3) c.2.1 (nI (uN c.1))) (T 62 0 + 3) := by rw [f5.hi ht (by omega), si_row (by omega), f23.hi ht (by omega)]
              have q4 : I5 (T 62 0 + 4) = (si I3 (T 62 0 + 4) c.2.1 (nI (uN s1))) (T 62 0 + 4) := by rw [f5.hi ht (by omega)]
              have q4' : I3 (T 62 0 + 4) = I (T 62 0 + 4) := by rw [f23.hi ht (by omega), si_row (by omega), si_row (by omega)]
              have q5 : I5 (T 62 0 + 5) = I (T 62 0 + 5) := by rw [f5.hi ht (by omega), si_row (by omega), f23.hi ht (by omega), si_row (by omega), si_row (by omega)]
              rw [si_row (by omega), si_row (by omega), si_row (by omega), si_row (by omega), si_row (by omega), si_row (by omega), si_row (by omega)]
              show I5 (T 62 0 + 2) j = nI (unF c.2.2.1 c.2.1 (sgn b n (uP c.1)) j) ∧ I5 (T 62 0 + 3) j = nI (unF c.2.2.2.1 c.2.1 (uN c.1) j) ∧ I5 (T 62 0 + 4) j = nI (unF c.2.2.2.2.1 c.2.1 (uN s1) j) ∧ si I5 (T 62 0 + 5) c.2.1 (nI (uN s2)) (T 62 0 + 5) j = nI (unF c.2.2.2.2.2 c.2.1 (uN s2) j)
              by_cases q : j = c.2.1
              · subst q
                rw [unF_at, unF_at, unF_at, unF_at, q2, q3, q4]
                refine ⟨?_, si_at, si_at, si_at⟩
                rw [si_row (by omega)]; exact si_at
              · obtain ⟨a1, a2, a3, a4⟩ := hr j (by omega)
                rw [unF_ne q, unF_ne q, unF_ne q, unF_ne q, q2, q3, q4]
                refine ⟨?_, ?_, ?_, ?_⟩
                · rw [si_row (by omega), si_ne q]; exact a1
                · rw [si_ne q, si_row (by omega)]; exact a2
                · rw [si_ne q, q4']; exact a3
                · rw [si_ne q, q5]; exact a4
/-- what reading a text answers -/
def ansT (Y : Sum (Nat × Nat) RdC) : Int32 := match Y with
  | .inl e => (-1000 : Int32) * nI e.1 - nI e.2
  | .inr c => nI c.2.1
theorem bndC_assoc {Y : Sum (Nat × Nat) RdC} {F G : RdC → Sum (Nat × Nat) RdC} : bndC (bndC Y F) G = bndC Y (fun c => bndC (F c) G) := by
  cases Y <;> rfl
theorem red_go (hN : BN b n) {hd : Nat → Bool} {d : Nat} {J : Nat → Nat → Int64} {T : Nat → Nat → Nat} {Q : Option Value → Mem → Prop} (hH : HD T hd) (ht : TX (T 62 0)) {I0 : Nat → Nat → Int32} : ∀ (k turn : Nat) (Y : Sum (Nat × Nat) RdC) (I : Nat → Nat → Int32), k + turn = n → FC (T 62 0) I0 I → KC b n (T 62 0) Y I → (∀ I', FC (T 62 0) I0 I' → KC b n (T 62 0) (bndC Y (txF b n hd k)) I' → Q (some (.int (ansT (bndC Y (txF b n hd k))))) (SH, mkM I' J T)) → Go none aM (Ev mt aM (d + 41)) mX3_read Q (42, [some (.ref 62), none, none, some (.int (nI turn))], [], (SH, mkM I J T), 0, 0) := by
  have hn := hN.1
  have fin : ∀ (Y : Sum (Nat × Nat) RdC) (I : Nat → Nat → Int32), KC b n (T 62 0) Y I → (Q (some (.int (ansT Y))) (SH, mkM I J T)) → (I 62 7 = 0 → TX (T 62 0) ∧ Q (some (.int (I (T 62 0) 0))) (SH, mkM I J T)) ∧ (¬ I 62 7 = 0 → Q (some (.int ((-1000 : Int32) * I 62 7 - I 62 4))) (SH, mkM I J T)) := by
    intro Y I h g
    cases Y with
    | inl e =>
      obtain ⟨a1, a2, a3, a4, a5⟩ := h.2.2
      have g : Q (some (.int ((-1000 : Int32) * nI e.1 - nI e.2))) (SH, mkM I J T) := g
      rw [a1, a3]
      exact br1 (nI_ne0 (by omega) (by omega)) g
    | inr c =>
      have a1 : I 62 7 = 0 := h.1.2.2.1.2.2.2
      have a2 : I (T 62 0) 0 = nI c.2.1 := h.2.2.1
      have g : Q (some (.int (nI c.2.1))) (SH, mkM I J T) := g
      rw [a2]
      exact br0 a1 ⟨ht, g⟩
  have k3 : ∀ (Y : Sum (Nat × Nat) RdC) (I : Nat → Nat → Int32), KC b n (T 62 0) Y I → I 62 3 = nI n := by
    intro Y I h
    cases Y with
    | inl e => exact h.1
    | inr c => exact h.1.1
  intro k
  induction k with
  | zero =>
    intro turn Y I hk f0 h g
    have e : bndC Y (txF b n hd 0) = Y := by cases Y <;> rfl
    rw [e] at g
    refine red_42 (d := d + 34) (br0 ?_ (fin Y I h (g I f0 h)))
    rw [k3 Y I h]; exact nI_le (by omega) (by omega)
  | succ k ih =>
    intro turn Y I hk f0 h g
    refine red_42 (d := d + 34) (br1 (by rw [k3 Y I h]; exact nI_ge (by omega) (by omega)) ?_)
    cases Y with
    | inl e =>
      refine br0 ?_ (fin (.inl e) I h (g I f0 h))
      rw [show I 62 5 = -2 from h.2.2.2.1]; decide
    | inr c =>
      have g : ∀ I', FC (T 62 0) I0 I' → KC b n (T 62 0) (txF b n hd (k + 1) c) I' → Q (some (.int (ansT (txF b n hd (k + 1) c)))) (SH, mkM I' J T) := g
      obtain ⟨a0, a1, a2, a3, a4⟩ := h
      have hs : I 62 5 = sgI (sgn b n (uP c.1)) := a0.sg
      have hsg := sgn_sg (b := b) (n := n) (p := uP c.1) hN.2
      unfold txF at g
      by_cases q : uP c.1 < n
      · rw [if_pos q] at g
        have hlt : sgn b n (uP c.1) < 256 := by
          rw [show sgn b n (uP c.1) = b (uP c.1) from if_pos q]; exact hN.2 _ q
        refine br1 (by rw [hs]; exact (sgI_nn hsg).mpr hlt) (ev_exX (d := d + 38) (x := 59) hN (by omega) ht a0 (fun I1 f1 k1 => red_63 (d := d + 34) ?_))
        have k1 : KX b n (T 62 0) (expS b n 59 c.1) I1 := k1
        -- the state behind the ;
        have hY : KC b n (T 62 0) (match expS b n 59 c.1 with
            | .inl e => (Sum.inl e : Sum (Nat × Nat) RdC)
            | .inr s => Sum.inr (s, c.2)) I1 := by
          cases e1 : expS b n 59 c.1 with
          | inl e => rw [e1] at k1; exact k1
          | inr s =>
            rw [e1] at k1
            obtain ⟨z1, _, _⟩ := exp_ok (by decide) e1
            subst z1
            refine ⟨k1, show uN c.1 ≤ uP c.1 + 1 by omega, by rw [f1.2]; exact a2, a3, fun j hj => ?_⟩
            rw [f1.hi ht (by omega), f1.hi ht (by omega), f1.hi ht (by omega), f1.hi ht (by omega)]
            exact a4 j hj
        refine ev_cls (d := d + 1) hN hH ht hY (fun I2 f2 k2 => red_67 (d := d + 34) ?_)
        rw [nI_1]
        refine ih (turn + 1) _ I2 (by omega) ((f0.trans f1.fc).trans f2) k2 (fun I' f' k' => ?_)
        have e9 : bndC (bndC (match expS b n 59 c.1 with
            | .inl e => (Sum.inl e : Sum (Nat × Nat) RdC)
            | .inr s => Sum.inr (s, c.2)) (clX b n hd)) (txF b n hd k) = (match expS b n 59 c.1 with
            | .inl e => .inl e
            | .inr s => match clX b n hd (s, c.2) with
              | .inl e => .inl e
              | .inr c2 => txF b n hd k c2) := by
          cases expS b n 59 c.1 with
          | inl e => rfl
          | inr s =>
            show bndC (clX b n hd (s, c.2)) (txF b n hd k) = (match clX b n hd (s, c.2) with
              | .inl e => .inl e
              | .inr c2 => txF b n hd k c2)
            cases clX b n hd (s, c.2) <;> rfl
        rw [e9] at k' ⊢
        exact g I' f' k'
      · rw [if_neg q] at g
        refine br0 ?_ (fin (.inr c) I ⟨a0, a1, a2, a3, a4⟩ (g I f0 ⟨a0, a1, a2, a3, a4⟩))
        rw [hs, show sgn b n (uP c.1) = 300 from if_neg q]; decide
theorem ev_read (hN : BN b n) {hd : Nat → Bool} {d h : Nat} {I : Nat → Nat → Int32} {J : Nat → Nat → Int64} {T : Nat → Nat → Nat} {Q : Option Value → Mem → Prop} (hH : HD (stt T 62 2 h) hd) (ht : TX (T 62 0)) (h8 : ∀ i, i < n → I 8 i = nI (b i)) (g : ∀ I', FC (T 62 0) I I' → KC b n (T 62 0) (rdT b n hd) I' → Q (some (.int (ansT (rdT b n hd)))) (SH, mkM I' J (stt T 62 2 h))) : Ev mt aM (d + 42) 33 [.ref 62, .int (nI n), .ref h] (SH, mkM I J T) Q := by
  have hn := hN.1
  have hw := ht.ne
  have e0 : (stt T 62 2 h) 62 0 = T 62 0 := if_neg (fun z => absurd z.2 (by decide))
  have ht' : TX ((stt T 62 2 h) 62 0) := by rw [e0]; exact ht
  refine Ev.intro (d := d + 41) mX3_read rfl rfl (red_0 (d := d + 34) ⟨ht, ev_X9_empty_t ht (red_12 (d := d + 34) ?_)⟩)
  have f1 : FC (T 62 0) I (si (si I (T 62 0) 0 (0 : Int32)) (T 62 0) 1 (0 : Int32)) := fc_si (k := 0) (by omega) (fc_si (k := 0) (by omega) (Fr.rfl' _ _))
  have f62 : ∀ {I1 : Nat → Nat → Int32} {j : Nat} {x : Int32}, FC (T 62 0) I I1 → FC (T 62 0) I (si I1 62 j x) := fun f => fun o ho => by
    have := el7_ne ho
    rw [si_row (by omega)]; exact f o ho
  refine ev_mv (p := 0) (d := d + 39) hN ?_ (fun i hi => ?_) ?_ (by omega) (red_36 (d := d + 34) ?_)
  · rw [si_ne (by omega), si_ne (by omega), si_ne (by omega)]; exact si_at
  · rw [si_row (by omega), si_row (by omega), si_row (by omega), si_row (by omega), si_row (by omega), si_row (by omega)]; exact h8 i hi
  · rw [si_at]; rfl
  have k0 : KC b n ((stt T 62 2 h) 62 0) (.inr ((0, 0, 0, fun _ => 0), 0, (fun _ => 0), (fun _ => 0), (fun _ => 0), fun _ => 0)) (si (si (si (si (si (si (si (si I (T 62 0) 0 (0 : Int32)) (T 62 0) 1 (0 : Int32)) 62 3 (nI n)) 62 6 (0 : Int32)) 62 7 (0 : Int32)) 62 4 (-1 : Int32)) 62 4 (nI 0)) 62 5 (sgI (sgn b n 0))) := by
    rw [e0]
    refine ⟨⟨?_, fun i hi => ?_, ⟨?_, si_at, ?_, ?_⟩, ⟨?_, fun i hi => absurd hi (Nat.not_lt_zero i)⟩, Nat.zero_le _, Nat.zero_le _⟩, Nat.le_refl _, ?_, Nat.zero_le _, fun j hj => absurd hj (Nat.not_lt_zero j)⟩
    · rw [si_ne (by omega), si_ne (by omega), si_ne (by omega), si_ne (by omega), si_ne (by omega)]; exact si_at
    · rw [si_row (by omega), si_row (by omega), si_row (by omega), si_row (by omega), si_row (by omega), si_row (by omega), si_row (by omega), si_row (by omega)]; exact h8 i hi
    · rw [si_ne (by omega)]; exact si_at
    · rw [si_ne (by omega), si_ne (by omega), si_ne (by omega), si_ne (by omega)]; exact si_at
    · rw [si_ne (by omega), si_ne (by omega), si_ne (by omega)]; exact si_at
    · rw [si_row (by omega), si_row (by omega), si_row (by omega), si_row (by omega), si_row (by omega), si_row (by omega)]; exact si_at
    · rw [si_row (by omega), si_row (by omega), si_row (by omega), si_row (by omega), si_row (by omega), si_row (by omega), si_ne (by omega)]; exact si_at
  have fA := f62 (j := 5) (x := sgI (sgn b n 0)) (f62 (j := 4) (x := nI 0) (f62 (j := 4) (x := (-1 : Int32)) (f62 (j := 7) (x := (0 : Int32)) (f62 (j := 6) (x := (0 : Int32)) (f62 (j := 3) (x := nI n) f1)))))
  refine ev_cls (d := d + 1) hN hH ht' k0 (fun I2 f2 k2 => red_40 (d := d + 34) ?_)
  rw [e0] at f2
  have e9 : bndC (bndC (.inr ((0, 0, 0, fun _ => 0), 0, (fun _ => 0), (fun _ => 0), (fun _ => 0), fun _ => 0)) (clX b n hd)) (txF b n hd n) = rdT b n hd := by
    unfold rdT
    show bndC (clX b n hd ((0, 0, 0, fun _ => 0), 0, (fun _ => 0), (fun _ => 0), (fun _ => 0), fun _ => 0)) (txF b n hd n) = _
    cases clX b n hd ((0, 0, 0, fun _ => 0), 0, (fun _ => 0), (fun _ => 0), (fun _ => 0), fun _ => 0) <;> rfl
  refine red_go (d := d) hN hH ht' n 0 _ I2 (by omega) (I0 := I) (by rw [e0]; exact fA.trans f2) k2 (fun I' f' k' => ?_)
  rw [e9] at k' ⊢
  rw [e0] at f' k'
  exact g I' f' k'
end CLV
