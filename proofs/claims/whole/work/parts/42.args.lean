/-! ARGUMENTS: what is refused, and what is not, in class and reference alike. -/
def ckTk (q n : Nat) : Bool := bif eqI (v_X7_isWellFormed (nI n)) 1 && Nat.ble (mdN (octN n)) q then eqI (v_X12_taken (nI n) (fun _ _ => nI q)) (nI (octN n)) else eqI (v_X12_taken (nI n) (fun _ _ => nI q)) (-1)
theorem all_tk0 : allB (ckTk 0) 3778 = true := by decide +kernel
theorem all_tk1 : allB (ckTk 1) 3778 = true := by decide +kernel
theorem all_tk2 : allB (ckTk 2) 3778 = true := by decide +kernel
theorem all_tk3 : allB (ckTk 3) 3778 = true := by decide +kernel
theorem all_tk {q : Nat} (h : q ≤ 3) : allB (ckTk q) 3778 = true := by
  rcases (show q = 0 ∨ q = 1 ∨ q = 2 ∨ q = 3 by omega) with rfl | rfl | rfl | rfl
  · exact all_tk0
  · exact all_tk1
  · exact all_tk2
  · exact all_tk3
theorem code_all (c : Int32) {q : Nat} (hq : q ≤ 3) : (∃ o, CD o ∧ mdN o ≤ q ∧ c = dI o ∧ (∀ I : Nat → Nat → Int32, I 1 1 = nI q → v_X7_isCode c I = 1) ∧ ∀ I : Nat → Nat → Int32, I 83 1 = nI q → v_X12_taken c I = nI o) ∨ ((∀ I : Nat → Nat → Int32, I 1 1 = nI q → v_X7_isCode c I = 0) ∧ ∀ I : Nat → Nat → Int32, I 83 1 = nI q → v_X12_taken c I = -1) := by
  have et : ∀ I : Nat → Nat → Int32, I 83 1 = nI q → v_X12_taken c I = v_X12_taken c (fun _ _ => nI q) := fun I hI => by
    have : v_X12_taken c I = v_X12_taken c (fun _ _ => I 83 1) := rfl
    rw [this, hI]
  have no : ∀ (P : v_X7_isWellFormed c = 0) (R : v_X12_taken c (fun _ _ => nI q) = -1), (∀ I : Nat → Nat → Int32, I 1 1 = nI q → v_X7_isCode c I = 0) ∧ ∀ I : Nat → Nat → Int32, I 83 1 = nI q → v_X12_taken c I = -1 := fun P R => ⟨fun I _ => if_pos P, fun I hI => (et I hI).trans R⟩
  rcases pk_ix c (n := 3778) (by omega) with h | h | ⟨n, hn, rfl⟩
  · exact Or.inr (no (if_pos h) (if_pos h))
  · have h0 : ¬ c < 0 := by
      rw [Int32.le_iff_toInt_le, nI_toInt (by omega)] at h
      rw [Int32.lt_iff_toInt_lt]
      have : (0 : Int32).toInt = 0 := rfl
      omega
    have h1 : (3777 : Int32) < c := by
      rw [Int32.le_iff_toInt_le, nI_toInt (by omega)] at h
      rw [Int32.lt_iff_toInt_lt]
      have : (3777 : Int32).toInt = 3777 := rfl
      omega
    refine Or.inr (no ?_ ?_)
    · unfold v_X7_isWellFormed w7_X7_isWellFormed w6_X7_isWellFormed
      rw [if_neg h0, if_neg]
      rw [Int32.le_iff_toInt_le]
      rw [Int32.lt_iff_toInt_lt] at h1
      omega
    · unfold v_X12_taken w14_X12_taken w13_X12_taken
      rw [if_neg h0, if_pos h1]
  · have q1 := allB_get all_tak n hn
    have q2 := allB_get (all_tk hq) n hn
    simp only [ckTak] at q1
    simp only [ckTk] at q2
    cases hw : eqI (v_X7_isWellFormed (nI n)) 1 with
    | false =>
      rw [hw] at q1 q2
      simp only [cond_false, Bool.and_eq_true, Bool.false_and] at q1 q2
      exact Or.inr (no (eqI_eq q1.1) (eqI_eq q2))
    | true =>
      rw [hw] at q1 q2
      simp only [cond_true, Bool.and_eq_true, Bool.true_and] at q1 q2
      have e1 : dcN (octN n) = n := Nat.eq_of_beq_eq_true q1.1.2
      have ec : nI n = dI (octN n) := by unfold dI; rw [e1]
      have hcd : CD (octN n) := ⟨by simpa [Nat.blt, Nat.lt_iff_add_one_le] using q1.1.1, by unfold wfo; rw [← ec, eqI_eq hw]; rfl⟩
      have hm := mdN_le (octN n)
      have ecode : ∀ I : Nat → Nat → Int32, I 1 1 = nI q → v_X7_isCode (nI n) I = if q < mdN (octN n) then 0 else 1 := fun I hI => by
        unfold v_X7_isCode w2_X7_isCode w1_X7_isCode
        rw [if_neg (by rw [eqI_eq hw]; decide), hI, ec, made_c hcd.1]
        by_cases k : q < mdN (octN n)
        · rw [if_pos (nI_lt k (by omega)), if_pos k]
        · rw [if_neg (nI_nlt (by omega) (by omega)), if_neg k]
      by_cases k : mdN (octN n) ≤ q
      · rw [Nat.ble_eq_true_of_le k] at q2
        refine Or.inl ⟨octN n, hcd, k, ec, fun I hI => ?_, fun I hI => (et I hI).trans (eqI_eq q2)⟩
        rw [ecode I hI, if_neg (by omega)]
      · have kb : Nat.ble (mdN (octN n)) q = false := by
          cases hb : Nat.ble (mdN (octN n)) q with
          | false => rfl
          | true => exact absurd (Nat.le_of_ble_eq_true hb) k
        rw [kb] at q2
        refine Or.inr ⟨fun I hI => ?_, fun I hI => (et I hI).trans (eqI_eq q2)⟩
        rw [ecode I hI, if_pos (by omega)]
/-- an int of 0 to n less 1, or not -/
theorem i0 {x : Int32} {n : Nat} (hn : n < 2 ^ 31) (h : nI n ≤ x) : ¬ x < 0 := by
  rw [Int32.le_iff_toInt_le, nI_toInt hn] at h
  rw [Int32.lt_iff_toInt_lt]
  have : (0 : Int32).toInt = 0 := rfl
  omega
theorem iLe {x : Int32} {n : Nat} (hn : n + 1 < 2 ^ 31) (h : nI (n + 1) ≤ x) : nI n < x := by
  rw [Int32.le_iff_toInt_le, nI_toInt hn] at h
  rw [Int32.lt_iff_toInt_lt, nI_toInt (by omega)]
  omega
theorem iNeg {x : Int32} {n : Nat} (hn : n < 2 ^ 31) (h : x < 0) : ¬ nI n < x ∧ ¬ nI n ≤ x := by
  rw [Int32.lt_iff_toInt_lt] at h
  rw [Int32.lt_iff_toInt_lt, Int32.le_iff_toInt_le, nI_toInt hn]
  have : (0 : Int32).toInt = 0 := rfl
  omega
theorem in_yes {j b : Nat} (h : j ≤ b) (hb : b < 2 ^ 31) : v_X12_in (nI j) (0 : Int32) (nI b) = 1 := by
  unfold v_X12_in w1_X12_in
  rw [if_neg (nI_pos (by omega)), if_neg (nI_nlt h hb)]
theorem in_no {x : Int32} {b : Nat} (hb : b + 1 < 2 ^ 31) (h : x < 0 ∨ nI (b + 1) ≤ x) : v_X12_in x (0 : Int32) (nI b) = 0 := by
  unfold v_X12_in w1_X12_in
  rcases h with h | h
  · exact if_pos h
  · rw [if_neg (i0 hb h), if_pos (iLe hb h)]
theorem oth_c (x : Int32) : (∃ k, k < 3 ∧ x = nI k ∧ v_X11_isOther x = 1 ∧ v_X12_isOther x = 1) ∨ (v_X11_isOther x = 0 ∧ v_X12_isOther x = 0) := by
  rcases pk_ix x (n := 3) (by omega) with h | h | ⟨k, hk, rfl⟩
  · exact Or.inr ⟨if_pos h, if_pos h⟩
  · refine Or.inr ⟨?_, ?_⟩
    · unfold v_X11_isOther w2_X11_isOther; rw [if_neg (i0 (by omega) h)]; exact if_pos h
    · unfold v_X12_isOther w2_X12_isOther; rw [if_neg (i0 (by omega) h)]; exact if_pos h
  · refine Or.inl ⟨k, hk, rfl, ?_, ?_⟩
    · unfold v_X11_isOther w2_X11_isOther; rw [if_neg (nI_pos (by omega))]; exact if_neg (nI_ge (b := 3) hk (by omega))
    · unfold v_X12_isOther w2_X12_isOther; rw [if_neg (nI_pos (by omega))]; exact if_neg (nI_ge (b := 3) hk (by omega))
theorem rul_c (x : Int32) : (∃ k, k < 4 ∧ x = nI k ∧ v_X11_isRule x = 1) ∨ (v_X11_isRule x = 0 ∧ (x < 0 ∨ (4 : Int32) ≤ x)) := by
  rcases pk_ix x (n := 4) (by omega) with h | h | ⟨k, hk, rfl⟩
  · exact Or.inr ⟨if_pos h, Or.inl h⟩
  · refine Or.inr ⟨?_, Or.inr h⟩
    unfold v_X11_isRule w2_X11_isRule; rw [if_neg (i0 (by omega) h)]; exact if_pos h
  · refine Or.inl ⟨k, hk, rfl, ?_⟩
    unfold v_X11_isRule w2_X11_isRule; rw [if_neg (nI_pos (by omega))]; exact if_neg (nI_ge (b := 4) hk (by omega))
theorem ac_c (x : Int32) : (∃ a, a < 49 ∧ x = nI a ∧ v_X11_isAction x = 1 ∧ v_X12_in x (0 : Int32) (48 : Int32) = 1) ∨ (v_X11_isAction x = 0 ∧ v_X12_in x (0 : Int32) (48 : Int32) = 0) := by
  rcases pk_ix x (n := 49) (by omega) with h | h | ⟨k, hk, rfl⟩
  · exact Or.inr ⟨if_pos h, if_pos h⟩
  · refine Or.inr ⟨?_, in_no (b := 48) (by omega) (Or.inr h)⟩
    unfold v_X11_isAction w2_X11_isAction; rw [if_neg (i0 (by omega) h)]; exact if_pos h
  · refine Or.inl ⟨k, hk, rfl, ?_, in_yes (b := 48) (by omega) (by omega)⟩
    unfold v_X11_isAction w2_X11_isAction; rw [if_neg (nI_pos (by omega))]; exact if_neg (nI_ge (b := 49) hk (by omega))
theorem pl_ar (x : Int32) : (∃ k, k < 5 ∧ x = nI k ∧ v_X11_isPlayer x = 1 ∧ v_X12_in x (0 : Int32) (4 : Int32) = 1) ∨ (v_X11_isPlayer x = 0 ∧ v_X12_in x (0 : Int32) (4 : Int32) = 0) := by
  rcases pk_ix x (n := 5) (by omega) with h | h | ⟨k, hk, rfl⟩
  · exact Or.inr ⟨if_pos h, if_pos h⟩
  · refine Or.inr ⟨?_, in_no (b := 4) (by omega) (Or.inr h)⟩
    unfold v_X11_isPlayer w2_X11_isPlayer; rw [if_neg (i0 (by omega) h)]; exact if_pos h
  · refine Or.inl ⟨k, hk, rfl, ?_, in_yes (b := 4) (by omega) (by omega)⟩
    unfold v_X11_isPlayer w2_X11_isPlayer; rw [if_neg (nI_pos (by omega))]; exact if_neg (nI_ge (b := 5) hk (by omega))
theorem dg_ar (x : Int32) : (∃ k, k ≤ 9 ∧ x = nI k ∧ v_X11_isDigit x = 1 ∧ v_X12_in x (0 : Int32) (9 : Int32) = 1) ∨ (v_X11_isDigit x = 0 ∧ v_X12_in x (0 : Int32) (9 : Int32) = 0) := by
  rcases pk_ix x (n := 10) (by omega) with h | h | ⟨k, hk, rfl⟩
  · exact Or.inr ⟨if_pos h, if_pos h⟩
  · refine Or.inr ⟨?_, in_no (b := 9) (by omega) (Or.inr h)⟩
    unfold v_X11_isDigit w2_X11_isDigit; rw [if_neg (i0 (by omega) h)]; exact if_pos (iLe (n := 9) (by omega) h)
  · refine Or.inl ⟨k, by omega, rfl, ?_, in_yes (b := 9) (by omega) (by omega)⟩
    unfold v_X11_isDigit w2_X11_isDigit; rw [if_neg (nI_pos (by omega))]; exact if_neg (nI_nlt (a := 9) (by omega) (by omega))
/-- 0 to b, as the class tests it by hand -/
theorem rg_ar (x : Int32) {b : Nat} (hb : b + 1 < 2 ^ 31) : (∃ k, k ≤ b ∧ x = nI k ∧ ¬ x < 0 ∧ ¬ nI b < x ∧ v_X12_in x (0 : Int32) (nI b) = 1) ∨ ((x < 0 ∨ nI b < x) ∧ v_X12_in x (0 : Int32) (nI b) = 0) := by
  rcases pk_ix x (n := b + 1) hb with h | h | ⟨k, hk, rfl⟩
  · exact Or.inr ⟨Or.inl h, if_pos h⟩
  · exact Or.inr ⟨Or.inr (iLe hb h), in_no hb (Or.inr h)⟩
  · exact Or.inl ⟨k, by omega, rfl, nI_pos (by omega), nI_nlt (by omega) (by omega), in_yes (by omega) (by omega)⟩
theorem sco_c (x : Int32) : (∃ s, s < 5 ∧ x = scI s ∧ v_X11_isScore x = 1 ∧ v_X12_isScore x = 1) ∨ (v_X11_isScore x = 0 ∧ v_X12_isScore x = 0) := by
  have e2 : (-2 : Int32).toInt = -2 := rfl
  have e2' : (2 : Int32).toInt = 2 := rfl
  by_cases h1 : x < -2
  · exact Or.inr ⟨if_pos h1, if_pos h1⟩
  · by_cases h2 : (2 : Int32) < x
    · refine Or.inr ⟨?_, ?_⟩
      · unfold v_X11_isScore w2_X11_isScore; rw [if_neg h1]; exact if_pos h2
      · unfold v_X12_isScore w2_X12_isScore; rw [if_neg h1]; exact if_pos h2
    · have g1 := h1
      have g2 := h2
      rw [Int32.lt_iff_toInt_lt, e2] at g1
      rw [Int32.lt_iff_toInt_lt, e2'] at g2
      refine Or.inl ⟨(x.toInt + 2).toNat, by omega, ?_, ?_, ?_⟩
      · have hx : x.toInt = -2 ∨ x.toInt = -1 ∨ x.toInt = 0 ∨ x.toInt = 1 ∨ x.toInt = 2 := by omega
        rcases hx with q | q | q | q | q
        · rw [q]; exact Int32.toInt_inj.mp (q.trans (by decide))
        · rw [q]; exact Int32.toInt_inj.mp (q.trans (by decide))
        · rw [q]; exact Int32.toInt_inj.mp (q.trans (by decide))
        · rw [q]; exact Int32.toInt_inj.mp (q.trans (by decide))
        · rw [q]; exact Int32.toInt_inj.mp (q.trans (by decide))
      · unfold v_X11_isScore w2_X11_isScore; rw [if_neg h1]; exact if_neg h2
      · unfold v_X12_isScore w2_X12_isScore; rw [if_neg h1]; exact if_neg h2
/-- a STATE ahead of a PERIOD; behind the last; none -/
theorem st_c (per sc c : Int32) {A : Tm} (hA : BD A) : (∃ p s o, p < qN A ∧ s < 5 ∧ CD o ∧ mdN o ≤ qC A ∧ per = nI p ∧ sc = scI s ∧ c = dI o ∧ (∀ I : Nat → Nat → Int32, I 1 0 = nI (qN A) → I 1 1 = nI (qC A) → v_X11_isState per sc c I = 1 ∧ v_X11_isEnd per sc c I = 0) ∧ v_X12_isScore sc = 1 ∧ ∀ I : Nat → Nat → Int32, I 83 0 = nI (qN A) → I 83 1 = nI (qC A) → v_X12_taken c I = nI o ∧ v_X12_isAhead per I = 1 ∧ v_X12_in per (0 : Int32) (I 83 0) = 1) ∨ (∃ s o, s < 5 ∧ CD o ∧ mdN o ≤ qC A ∧ per = nI (qN A) ∧ sc = scI s ∧ c = dI o ∧ (∀ I : Nat → Nat → Int32, I 1 0 = nI (qN A) → I 1 1 = nI (qC A) → v_X11_isState per sc c I = 0 ∧ v_X11_isEnd per sc c I = 1) ∧ v_X12_isScore sc = 1 ∧ ∀ I : Nat → Nat → Int32, I 83 0 = nI (qN A) → I 83 1 = nI (qC A) → v_X12_taken c I = nI o ∧ v_X12_isAhead per I = 0 ∧ v_X12_in per (0 : Int32) (I 83 0) = 1) ∨ ((∀ I : Nat → Nat → Int32, I 1 0 = nI (qN A) → I 1 1 = nI (qC A) → v_X11_isState per sc c I = 0 ∧ v_X11_isEnd per sc c I = 0) ∧ ((∀ I : Nat → Nat → Int32, I 83 0 = nI (qN A) → v_X12_isAhead per I = 0 ∧ v_X12_in per (0 : Int32) (I 83 0) = 0) ∨ v_X12_isScore sc = 0 ∨ ∀ I : Nat → Nat → Int32, I 83 1 = nI (qC A) → v_X12_taken c I = -1)) := by
  have h5 := hA.1.2
  rcases pk_ix per (n := qN A + 1) (by omega) with h | h | ⟨p, hp, rfl⟩
  · refine Or.inr (Or.inr ⟨fun I e1 _ => ⟨if_pos h, ?_⟩, Or.inl fun I e => ⟨if_pos h, if_pos h⟩⟩)
    refine if_neg (fun q => ?_)
    rw [q, e1] at h
    exact absurd h (nI_pos (by omega))
  · refine Or.inr (Or.inr ⟨fun I e1 _ => ⟨?_, ?_⟩, Or.inl fun I e => ⟨?_, ?_⟩⟩)
    · unfold v_X11_isState w4_X11_isState w3_X11_isState
      rw [if_neg (i0 (by omega) h), e1]
      refine if_pos ?_
      have := iLe (by omega) h
      rw [Int32.lt_iff_toInt_lt] at this
      rw [Int32.le_iff_toInt_le]
      omega
    · refine if_neg (fun q => ?_)
      rw [q, e1] at h
      exact absurd h (nI_ge (by omega) (by omega))
    · unfold v_X12_isAhead w2_X12_isAhead w1_X12_isAhead
      rw [if_neg (i0 (by omega) h), e]
      refine if_pos ?_
      have := iLe (by omega) h
      rw [Int32.lt_iff_toInt_lt] at this
      rw [Int32.le_iff_toInt_le]
      omega
    · rw [e]; exact in_no (by omega) (Or.inr h)
  · have e5 : ∀ I : Nat → Nat → Int32, I 83 0 = nI (qN A) → v_X12_in (nI p) (0 : Int32) (I 83 0) = 1 := fun I e => by rw [e]; exact in_yes (by omega) (by omega)
    rcases sco_c sc with ⟨s, hs, rfl, s1, s2⟩ | ⟨s1, s2⟩
    · rcases code_all c hA.2.1 with ⟨o, ho, hm, rfl, c1, c2⟩ | ⟨c1, c2⟩
      · by_cases hpn : p < qN A
        · refine Or.inl ⟨p, s, o, hpn, hs, ho, hm, rfl, rfl, rfl, fun I e1 e2 => ⟨?_, ?_⟩, s2, fun I e1 e2 => ⟨c2 I e2, ?_, e5 I e1⟩⟩
          · unfold v_X11_isState w4_X11_isState w3_X11_isState w2_X11_isState w1_X11_isState
            rw [if_neg (nI_pos (by omega)), e1, if_neg (nI_ge hpn (by omega)), if_neg (by rw [s1]; decide), if_neg (by rw [c1 I e2]; decide)]
          · refine if_neg (fun q => ?_)
            rw [e1] at q
            have := (nI_eq (by omega) (by omega)).mp q
            omega
          · unfold v_X12_isAhead w2_X12_isAhead w1_X12_isAhead
            rw [if_neg (nI_pos (by omega)), e1, if_neg (nI_ge hpn (by omega))]
        · have hpe : p = qN A := by omega
          subst hpe
          refine Or.inr (Or.inl ⟨s, o, hs, ho, hm, rfl, rfl, rfl, fun I e1 e2 => ⟨?_, ?_⟩, s2, fun I e1 e2 => ⟨c2 I e2, ?_, e5 I e1⟩⟩)
          · unfold v_X11_isState w4_X11_isState w3_X11_isState
            rw [if_neg (nI_pos (by omega)), e1]
            exact if_pos (Int32.le_refl _)
          · unfold v_X11_isEnd w3_X11_isEnd w2_X11_isEnd w1_X11_isEnd
            rw [e1, if_pos rfl, if_neg (by rw [s1]; decide), if_neg (by rw [c1 I e2]; decide)]
          · unfold v_X12_isAhead w2_X12_isAhead w1_X12_isAhead
            rw [if_neg (nI_pos (by omega)), e1]
            exact if_pos (Int32.le_refl _)
      · refine Or.inr (Or.inr ⟨fun I e1 e2 => ⟨?_, ?_⟩, Or.inr (Or.inr c2)⟩)
        · unfold v_X11_isState w4_X11_isState w3_X11_isState w2_X11_isState w1_X11_isState
          rw [if_pos (c1 I e2)]
          repeat' split
          all_goals rfl
        · unfold v_X11_isEnd w3_X11_isEnd w2_X11_isEnd w1_X11_isEnd
          rw [if_pos (c1 I e2)]
          repeat' split
          all_goals rfl
    · refine Or.inr (Or.inr ⟨fun I e1 e2 => ⟨?_, ?_⟩, Or.inr (Or.inl s2)⟩)
      · unfold v_X11_isState w4_X11_isState w3_X11_isState w2_X11_isState
        rw [if_pos s1]
        repeat' split
        all_goals rfl
      · unfold v_X11_isEnd w3_X11_isEnd w2_X11_isEnd
        rw [if_pos s1]
        repeat' split
        all_goals rfl
