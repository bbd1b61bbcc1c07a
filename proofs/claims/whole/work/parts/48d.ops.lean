/-! GAME: the RULES against the OTHERS. -/
def rB (A : Tm) (k : Nat) : Bool := !(Nat.beq (qP A (4 + k)).1 0)
def oB (A : Tm) (j : Nat) : Bool := !(Nat.beq (qP A (1 + j)).1 0)
abbrev vG (A : Tm) (k j : Nat) : Nat := rV A k j (qN A) 2 1536
theorem nbq {x : Nat} : (!(Nat.beq x 0)) = false ↔ x = 0 := by
  cases h : Nat.beq x 0 with
  | false => exact ⟨fun q => (by cases q), fun q => (by rw [q] at h; exact absurd h (by decide))⟩
  | true => exact ⟨fun _ => Nat.eq_of_beq_eq_true h, fun _ => rfl⟩
theorem rB_iff {A : Tm} {k : Nat} : rB A k = false ↔ (qP A (4 + k)).1 = 0 := nbq
theorem oB_iff {A : Tm} {j : Nat} : oB A j = false ↔ (qP A (1 + j)).1 = 0 := nbq
theorem m_rl {A : Tm} {I : Nat → Nat → Int32} {k : Nat} (hA : BD A) (hR : RM A I) (hk : k < 4) : (v_X12_isRule (nI k) I = 0 ↔ rB A k = false) ∧ vp_in ((3 : Int32) + nI k) 8 := ⟨(mul_c hA hR hk).1.trans rB_iff.symm, (mul_c hA hR hk).2.1⟩
theorem m_ot {A : Tm} {I : Nat → Nat → Int32} {j : Nat} (hA : BD A) (hR : RM A I) (hj : j < 3) : (v_X12_isToldOther (nI j) I = 0 ↔ oB A j = false) ∧ vp_in (nI j) 8 := by
  have hw := (hA.2.2.2.2.2.2.2.2 (1 + j) (by omega)).1
  refine ⟨Iff.trans ?_ oB_iff.symm, vp_in_nI (by omega) (by omega)⟩
  have ho : ¬ v_X12_isOther (nI j) = 0 := by
    unfold v_X12_isOther w2_X12_isOther
    rw [if_neg (nI_pos (by omega))]
    exact fun q => by
      rw [show w1_X12_isOther (nI j) = 1 from if_neg (nI_ge (b := 3) hj (by omega))] at q
      exact absurd q (by decide)
  unfold v_X12_isToldOther w2_X12_isToldOther w1_X12_isToldOther
  rw [if_neg ho, nI_clamp (by omega), mth_c hA hR hj]
  rcases Nat.eq_zero_or_pos (qP A (1 + j)).1 with q | q
  · rw [q, if_pos (by decide)]
    exact ⟨fun _ => rfl, fun _ => rfl⟩
  · rw [if_neg (nI_nle q (by omega))]
    exact ⟨fun h => absurd h (by decide), fun h => by omega⟩
theorem c_met {A : Tm} {I : Nat → Nat → Int32} {T : Nat → Nat → Nat} {k j : Nat} (hA : BD A) (hR : RC A I T) (hk : k < 4) (hj : j < 3) : (v_X11_isMet (nI k) (nI j) I T = 0 ↔ (rB A k && oB A j) = false) ∧ vp_in ((4 : Int32) + nI k) 8 ∧ TX (T 13 ((4 : Int32) + nI k).toNatClampNeg) ∧ vp_in ((1 : Int32) + nI j) 8 ∧ TX (T 13 ((1 : Int32) + nI j).toNatClampNeg) := by
  have e4 : (4 : Int32) + nI k = nI (4 + k) := by rw [show (4 : Int32) = nI 4 from rfl, nI_add]
  have e1 : (1 : Int32) + nI j = nI (1 + j) := by rw [show (1 : Int32) = nI 1 from rfl, nI_add]
  obtain ⟨t1, _, t3, t4⟩ := told_c (s := 4 + k) hA hR (by omega)
  obtain ⟨u1, _, u3, u4⟩ := told_c (s := 1 + j) hA hR (by omega)
  rw [e4, e1]
  refine ⟨?_, t3, t4, u3, u4⟩
  unfold v_X11_isMet w2_X11_isMet w1_X11_isMet
  rw [e4, e1]
  cases hr : rB A k with
  | false =>
    rw [if_pos (t1.mpr (rB_iff.mp hr))]
    exact ⟨fun _ => rfl, fun _ => rfl⟩
  | true =>
    rw [if_neg (fun q => by have := rB_iff.mpr (t1.mp q); rw [hr] at this; cases this)]
    cases ho : oB A j with
    | false =>
      rw [if_pos (u1.mpr (oB_iff.mp ho))]
      exact ⟨fun _ => rfl, fun _ => rfl⟩
    | true =>
      rw [if_neg (fun q => by have := oB_iff.mpr (u1.mp q); rw [ho] at this; cases this)]
      exact ⟨fun h => absurd h (by decide), fun h => by cases h⟩
