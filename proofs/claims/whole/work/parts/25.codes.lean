/-! Codes: the checks, said as theorems. -/
def CD (o : Nat) : Prop := o < 2048 ∧ wfo o = true
theorem who_all {o : Nat} (h : CD o) : v_X7_whoIsAt (dI o) 0 = v_X12_whoAt (nI o) 0 ∧ v_X7_whoIsAt (dI o) 1 = v_X12_whoAt (nI o) 1 ∧ (v_X12_whoAt (nI o) 0 = -1 ∨ ∃ w : Nat, w < 5 ∧ w ≠ 1 ∧ v_X12_whoAt (nI o) 0 = nI w) ∧ (v_X12_whoAt (nI o) 1 = -1 ∨ ∃ w : Nat, w < 5 ∧ w ≠ 0 ∧ v_X12_whoAt (nI o) 1 = nI w) := by
  have q := allB_get all_who o h.1
  simp only [ckWho, h.2, Bool.not_true, Bool.false_or, Bool.and_eq_true] at q
  obtain ⟨⟨⟨q1, q2⟩, q3⟩, q4⟩ := q
  have key : ∀ (x : Int32) (n : Nat), n < 2 → (eqI x (-1) || Nat.blt (cN x) 5 && !(eqI x (nI n))) = true → x = -1 ∨ ∃ w : Nat, w < 5 ∧ w ≠ n ∧ x = nI w := by
    intro x n hn hq
    rcases (Bool.or_eq_true _ _).mp hq with e | e
    · exact Or.inl (eqI_eq e)
    · rw [Bool.and_eq_true] at e
      have hx : x = nI (cN x) := by
        apply Int32.toBitVec_inj.mp
        apply BitVec.eq_of_toNat_eq
        exact (pk_tn (n := cN x) x.toBitVec.isLt).symm
      refine Or.inr ⟨cN x, by simpa [Nat.blt, Nat.lt_iff_add_one_le] using e.1, fun hw => ?_, hx⟩
      have : eqI x (nI n) = true := by
        rw [hx, hw]
        unfold eqI
        exact Nat.beq_refl _
      rw [this] at e
      exact absurd e.2 (by decide)
  exact ⟨eqI_eq q1, eqI_eq q2, key _ 1 (by omega) q3, key _ 0 (by omega) q4⟩
theorem dig_all {o : Nat} (h : o < 2048) : v_X7_digit (dI o) 2 = nI (o % 8) ∧ v_X7_digit (dI o) 3 = nI (o / 8 % 8) ∧ v_X7_digit (dI o) 4 = nI (o / 64 % 8) ∧ v_X12_digit (nI o) 2 = nI (o % 8) ∧ v_X12_digit (nI o) 3 = nI (o / 8 % 8) ∧ v_X12_digit (nI o) 4 = nI (o / 64 % 8) ∧ v_X7_changesMade (dI o) = v_X12_made (nI o) ∧ v_X12_toldOf (nI o) = dI o := by
  have q := allB_get all_dig o h
  simp only [ckDig, Bool.and_eq_true] at q
  obtain ⟨⟨⟨⟨⟨⟨⟨q1, q2⟩, q3⟩, q4⟩, q5⟩, q6⟩, q7⟩, q8⟩ := q
  exact ⟨eqI_eq q1, eqI_eq q2, eqI_eq q3, eqI_eq q4, eqI_eq q5, eqI_eq q6, eqI_eq q7, eqI_eq q8⟩
theorem off_all {o p : Nat} (h : CD o) (hp : p < 2) : v_X12_whoAt (nI o) (nI p) = -1 ∨ (CD (offN o p) ∧ v_X7_takeOff (dI o) (v_X12_whoAt (nI o) (nI p)) = dI (offN o p) ∧ v_X12_offWith (nI o) (v_X12_whoAt (nI o) (nI p)) = nI (offN o p) ∧ v_X12_made (nI (offN o p)) = v_X12_made (nI o)) := by
  have q := allB_get all_off o h.1
  simp only [ckOff, h.2, Bool.not_true, Bool.false_or, Bool.and_eq_true] at q
  have q : ckOff1 o p = true := by
    rcases p with _ | _ | p
    · exact q.1
    · exact q.2
    · omega
  simp only [ckOff1, Bool.or_eq_true, Bool.and_eq_true] at q
  rcases q with e | ⟨⟨⟨⟨e1, e2⟩, e3⟩, e4⟩, e5⟩
  · exact Or.inl (eqI_eq e)
  · exact Or.inr ⟨⟨by simpa [Nat.blt, Nat.lt_iff_add_one_le] using e1, e2⟩, eqI_eq e3, eqI_eq e4, eqI_eq e5⟩
theorem send_all {o c l : Nat} (h : CD o) (hc : 1 ≤ c ∧ c ≤ 6) (hl : l < 3) (hw : dgN o (2 + (c - 1) / 2) = 0) : CD (sendN o c l) ∧ v_X7_sendOn (dI o) (nI c) (fun _ _ => nI l) = dI (sendN o c l) ∧ v_X12_changed (nI o) (nI c) (fun _ _ => nI l) = nI (sendN o c l) ∧ v_X12_made (nI (sendN o c l)) = v_X12_made (nI o) + 1 ∧ (∀ p : Nat, 2 ≤ p → p ≤ 4 → p ≠ 2 + (c - 1) / 2 → dgN o p = 0 → dgN (sendN o c l) p = 0) := by
  have q := allB_get all_send o h.1
  simp only [ckSend, h.2, Bool.not_true, Bool.false_or] at q
  have q := allB_get (allB_get q (c - 1) (by omega)) l hl
  rw [show c - 1 + 1 = c by omega] at q
  have hz : Nat.beq (dgN o (2 + (c - 1) / 2)) 0 = true := by rw [hw]; rfl
  simp only [ckSend1, hz, Bool.not_true, Bool.false_or, Bool.and_eq_true] at q
  obtain ⟨⟨⟨⟨⟨⟨⟨e1, e2⟩, e3⟩, e4⟩, e5⟩, e6⟩, e7⟩, e8⟩ := q
  refine ⟨⟨by simpa [Nat.blt, Nat.lt_iff_add_one_le] using e1, e2⟩, eqI_eq e3, eqI_eq e4, eqI_eq e5, fun p h1 h2 h3 h4 => ?_⟩
  have key : ∀ (m : Nat), (Nat.beq (2 + (c - 1) / 2) m || !(Nat.beq (dgN o m) 0) || Nat.beq (dgN (sendN o c l) m) 0) = true → m ≠ 2 + (c - 1) / 2 → dgN o m = 0 → dgN (sendN o c l) m = 0 := by
    intro m hm h3 h4
    rw [h4] at hm
    have : Nat.beq (2 + (c - 1) / 2) m = false := by
      cases hb : Nat.beq (2 + (c - 1) / 2) m with
      | false => rfl
      | true => exact absurd (Nat.eq_of_beq_eq_true hb).symm h3
    rw [this] at hm
    exact Nat.eq_of_beq_eq_true (by simpa using hm)
  rcases (show p = 2 ∨ p = 3 ∨ p = 4 by omega) with rfl | rfl | rfl
  · exact key 2 e6 h3 h4
  · exact key 3 e7 h3 h4
  · exact key 4 e8 h3 h4
theorem leg_all {o p e : Nat} (h : CD o) (hp : 2 ≤ p ∧ p ≤ 4) (he : e < 3) : CD (stN p o e) ∧ stC (nI p) (dI o) (nI e) = dI (stN p o e) ∧ stM (nI p) (nI o) (nI e) = nI (stN p o e) ∧ v_X12_made (nI (stN p o e)) = v_X12_made (nI o) := by
  have q := allB_get all_leg o h.1
  simp only [ckLeg, h.2, Bool.not_true, Bool.false_or] at q
  have q := allB_get (allB_get q (p - 2) (by omega)) e he
  rw [show p - 2 + 2 = p by omega] at q
  simp only [ckLeg1, Bool.and_eq_true] at q
  obtain ⟨⟨⟨⟨e1, e2⟩, e3⟩, e4⟩, e5⟩ := q
  exact ⟨⟨by simpa [Nat.blt, Nat.lt_iff_add_one_le] using e1, e2⟩, eqI_eq e3, eqI_eq e4, eqI_eq e5⟩
