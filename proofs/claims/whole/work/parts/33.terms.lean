/-! THE TERMS OF A MATCH, and what class and reference say of codes, ACTIONS and LEGS, in plain numbers. -/
/-- PERIODS, C, M; WORTH; how good; LEGS; LOSS; PAIRS; texts (0 THE LAW, 1 to 3 OTHERS, 4 to 7 RULES) -/
abbrev Tm : Type := (Nat × Nat × Nat) × (Nat → Nat) × (Nat → Nat) × (Nat → Nat) × (Nat → Nat) × (Nat → Nat) × (Nat → Prg)
abbrev qN (A : Tm) : Nat := A.1.1
abbrev qC (A : Tm) : Nat := A.1.2.1
abbrev qO (A : Tm) : Nat := A.1.2.2
abbrev qW (A : Tm) : Nat → Nat := A.2.1
abbrev qG (A : Tm) : Nat → Nat := A.2.2.1
abbrev qL (A : Tm) : Nat → Nat := A.2.2.2.1
abbrev qS (A : Tm) : Nat → Nat := A.2.2.2.2.1
abbrev qX (A : Tm) : Nat → Nat := A.2.2.2.2.2.1
abbrev qP (A : Tm) : Nat → Prg := A.2.2.2.2.2.2
def BD (A : Tm) : Prop := (1 ≤ qN A ∧ qN A ≤ 5) ∧ qC A ≤ 3 ∧ (1 ≤ qO A ∧ qO A ≤ 2) ∧ (∀ j, j < 3 → qW A j ≤ 1000) ∧ (∀ j, j < 10 → qG A j ≤ 9) ∧ (∀ j, j < 5 → qL A j ≤ 2) ∧ (∀ j, j < 5 → qS A j ≤ 2) ∧ (∀ j, j < 25 → qX A j ≤ 9) ∧ ∀ s, s < 8 → WFP (qP A s)
def RC (A : Tm) (I : Nat → Nat → Int32) (T : Nat → Nat → Nat) : Prop := I 1 0 = nI (qN A) ∧ I 1 1 = nI (qC A) ∧ I 1 2 = nI (qO A) ∧ (∀ j, j < 3 → I 1 (3 + j) = nI (qW A j)) ∧ (∀ j, j < 10 → I 2 j = nI (qG A j)) ∧ (∀ j, j < 5 → I 3 j = nI (qL A j)) ∧ (∀ j, j < 5 → I 4 j = nI (qS A j)) ∧ (∀ j, j < 25 → I 5 j = nI (qX A j)) ∧ ∀ s, s < 8 → TX (T 13 s) ∧ RT I (T 13 s) (qP A s)
/-- a text's number in the reference -/
def mS (s : Nat) : Nat := if s = 0 then 7 else s - 1
def RM (A : Tm) (I : Nat → Nat → Int32) : Prop := I 83 0 = nI (qN A) ∧ I 83 1 = nI (qC A) ∧ I 83 2 = nI (qO A) ∧ (∀ j, j < 3 → I 84 j = nI (qW A j)) ∧ (∀ j, j < 10 → I 85 j = nI (qG A j)) ∧ (∀ j, j < 5 → I 86 j = nI (qL A j)) ∧ (∀ j, j < 5 → I 87 j = nI (qS A j)) ∧ (∀ j, j < 25 → I 88 j = nI (qX A j)) ∧ ∀ s, s < 8 → RTM I (mS s) (qP A s)
def RN (all once pace : Nat) (I : Nat → Nat → Int32) : Prop := I 83 34 = nI all ∧ I 83 35 = nI once ∧ I 83 36 = nI pace
theorem RC.fr {l : List Nat} {A : Tm} {I I' : Nat → Nat → Int32} {T : Nat → Nat → Nat} (hl : (l.all (fun o => decide (o < 14) || decide (69 ≤ o)) && !(l.elem 1 || l.elem 2 || l.elem 3 || l.elem 4 || l.elem 5)) = true) (hf : Fr l I I') (h : RC A I T) : RC A I' T := by
  simp only [Bool.and_eq_true, Bool.not_eq_true', Bool.or_eq_false_iff] at hl
  obtain ⟨h0, ⟨⟨⟨h1, h2⟩, h3⟩, h4⟩, h5⟩ := hl
  unfold RC
  rw [hf _ h1, hf _ h2, hf _ h3, hf _ h4, hf _ h5]
  obtain ⟨a1, a2, a3, a4, a5, a6, a7, a8, a9⟩ := h
  exact ⟨a1, a2, a3, a4, a5, a6, a7, a8, fun s hs => ⟨(a9 s hs).1, (a9 s hs).2.fr (fun k hk => tx_el h0 (a9 s hs).1 hk) hf⟩⟩
theorem RM.fr {l : List Nat} {A : Tm} {I I' : Nat → Nat → Int32} (hl : (l.elem 97 || l.elem 98 || l.elem 99 || l.elem 100 || l.elem 101 || l.elem 102 || l.elem 83 || l.elem 84 || l.elem 85 || l.elem 86 || l.elem 87 || l.elem 88) = false) (hf : Fr l I I') (h : RM A I) : RM A I' := by
  simp only [Bool.or_eq_false_iff] at hl
  obtain ⟨⟨⟨⟨⟨⟨⟨⟨⟨⟨⟨h1, h2⟩, h3⟩, h4⟩, h5⟩, h6⟩, h7⟩, h8⟩, h9⟩, h10⟩, h11⟩, h12⟩ := hl
  unfold RM
  rw [hf _ h7, hf _ h8, hf _ h9, hf _ h10, hf _ h11, hf _ h12]
  obtain ⟨a1, a2, a3, a4, a5, a6, a7, a8, a9⟩ := h
  exact ⟨a1, a2, a3, a4, a5, a6, a7, a8, fun s hs => (a9 s hs).fr (by simp only [Bool.or_eq_false_iff]; exact ⟨⟨⟨⟨⟨h1, h2⟩, h3⟩, h4⟩, h5⟩, h6⟩) hf⟩
theorem RN.fr {l : List Nat} {a b c : Nat} {I I' : Nat → Nat → Int32} (hl : l.elem 83 = false) (hf : Fr l I I') (h : RN a b c I) : RN a b c I' := by
  unfold RN
  rw [hf _ hl]
  exact h
/-- who is at a PLACE; 9: nobody -/
def wh (o p : Nat) : Nat := if v_X12_whoAt (nI o) (nI p) = -1 then 9 else cN (v_X12_whoAt (nI o) (nI p))
def ckOn1 (o p : Nat) : Bool := Nat.beq (wh o p) 9 || !(Nat.ble 2 (wh o p)) || (Nat.ble 1 (dgN o (wh o p)) && Nat.ble (dgN o (wh o p)) 6)
def ckOn (o : Nat) : Bool := !(wfo o) || (ckOn1 o 0 && ckOn1 o 1)
theorem all_on : allB ckOn 2048 = true := by decide +kernel
theorem cN_nI {n : Nat} (h : n < 2 ^ 32) : cN (nI n) = n := pk_tn h
theorem nI_cN (x : Int32) : nI (cN x) = x := by
  apply Int32.toBitVec_inj.mp
  apply BitVec.eq_of_toNat_eq
  exact pk_tn (n := cN x) x.toBitVec.isLt
theorem wh_cases {o p : Nat} (h : CD o) (hp : p < 2) : (wh o p = 9 ∧ v_X7_whoIsAt (dI o) (nI p) = -1 ∧ v_X12_whoAt (nI o) (nI p) = -1) ∨ (wh o p < 5 ∧ wh o p ≠ 1 - p ∧ v_X7_whoIsAt (dI o) (nI p) = nI (wh o p) ∧ v_X12_whoAt (nI o) (nI p) = nI (wh o p) ∧ (2 ≤ wh o p → 1 ≤ dgN o (wh o p) ∧ dgN o (wh o p) ≤ 6)) := by
  have key : ∀ p, p < 2 → v_X7_whoIsAt (dI o) (nI p) = v_X12_whoAt (nI o) (nI p) → (v_X12_whoAt (nI o) (nI p) = -1 ∨ ∃ w : Nat, w < 5 ∧ w ≠ 1 - p ∧ v_X12_whoAt (nI o) (nI p) = nI w) → ckOn1 o p = true → (wh o p = 9 ∧ v_X7_whoIsAt (dI o) (nI p) = -1 ∧ v_X12_whoAt (nI o) (nI p) = -1) ∨ (wh o p < 5 ∧ wh o p ≠ 1 - p ∧ v_X7_whoIsAt (dI o) (nI p) = nI (wh o p) ∧ v_X12_whoAt (nI o) (nI p) = nI (wh o p) ∧ (2 ≤ wh o p → 1 ≤ dgN o (wh o p) ∧ dgN o (wh o p) ≤ 6)) := by
    intro p hp e1 e2 e3
    rcases e2 with e2 | ⟨w, w1, w2, w3⟩
    · exact Or.inl ⟨if_pos e2, e1.trans e2, e2⟩
    · have hn : v_X12_whoAt (nI o) (nI p) ≠ -1 := by
        rw [w3]
        intro q
        have := congrArg Int32.toInt q
        rw [nI_toInt (by omega)] at this
        have h2 : (-1 : Int32).toInt = -1 := by decide
        omega
      have hw : wh o p = w := by
        unfold wh
        rw [if_neg hn, w3, cN_nI (by omega)]
      rw [hw]
      refine Or.inr ⟨w1, w2, e1.trans w3, w3, fun h2 => ?_⟩
      unfold ckOn1 at e3
      rw [hw] at e3
      have b1 : Nat.beq w 9 = false := by
        cases hb : Nat.beq w 9 with
        | false => rfl
        | true => have := Nat.eq_of_beq_eq_true hb; omega
      have b2 : Nat.ble 2 w = true := Nat.ble_eq_true_of_le h2
      rw [b1, b2] at e3
      simp only [Bool.not_true, Bool.false_or, Bool.and_eq_true] at e3
      exact ⟨Nat.le_of_ble_eq_true e3.1, Nat.le_of_ble_eq_true e3.2⟩
  obtain ⟨q1, q2, q3, q4⟩ := who_all h
  have q5 := allB_get all_on o h.1
  simp only [ckOn, h.2, Bool.not_true, Bool.false_or, Bool.and_eq_true] at q5
  rcases (show p = 0 ∨ p = 1 by omega) with rfl | rfl
  · exact key 0 hp q1 q3 q5.1
  · exact key 1 hp q2 q4 q5.2
/-! LEGS -/
def ckDg (g : Nat) : Bool := eqI (if v_X7_isOn (nI g) = 0 then (0 : Int32) else (nI g - 1) - (nI g - 1) / 3 * 3) (nI ((g - 1) % 3)) && eqI ((nI g - 1) - (nI g - 1) / 3 * 3) (nI ((g - 1) % 3))
theorem all_dg : ∀ g, 1 ≤ g → g ≤ 6 → ckDg g = true := by
  intro g h1 h2
  rcases (show g = 1 ∨ g = 2 ∨ g = 3 ∨ g = 4 ∨ g = 5 ∨ g = 6 by omega) with rfl | rfl | rfl | rfl | rfl | rfl <;> decide +kernel
/-- LEGS ahead of a PERIOD's play -/
def lgF (A : Tm) (per o i pace : Nat) : Nat := if i < 2 then qL A i - per * (qS A i - pace) else (dgN o i - 1) % 3
theorem mx_pos {a b : Nat} (ha : a < 2 ^ 30) (hb : b < 2 ^ 30) : (if (0 : Int32) < nI a - nI b then nI a - nI b else 0) = nI (a - b) := by
  rcases Nat.lt_or_ge b a with h | h
  · rw [pk_sub (by omega), if_pos]
    exact nI_lt (a := 0) (by omega) (by omega)
  · rw [if_neg, show a - b = 0 by omega]
    · rfl
    · rcases Nat.lt_or_ge a b with h2 | h2
      · intro q
        have := pk_sneg hb h2
        rw [Int32.lt_iff_toInt_lt] at q this
        omega
      · rw [show a = b by omega, pk_sub (Nat.le_refl b), Nat.sub_self]
        decide
theorem mx_ge {a b : Nat} (ha : a < 2 ^ 30) (hb : b < 2 ^ 30) : (if (0 : Int32) ≤ nI a - nI b then nI a - nI b else 0) = nI (a - b) := by
  rcases Nat.lt_or_ge a b with h | h
  · rw [if_neg, show a - b = 0 by omega]
    · rfl
    · intro q
      have := pk_sneg hb h
      rw [Int32.lt_iff_toInt_lt] at this
      rw [Int32.le_iff_toInt_le] at q
      omega
  · rw [pk_sub h, if_pos]
    exact nI_pos' (by omega)
theorem dg_all {o i : Nat} (h : o < 2048) (hi : 2 ≤ i ∧ i ≤ 4) : v_X7_digit (dI o) (nI i) = nI (dgN o i) ∧ v_X12_digit (nI o) (nI i) = nI (dgN o i) := by
  obtain ⟨q1, q2, q3, q4, q5, q6, _⟩ := dig_all h
  rcases (show i = 2 ∨ i = 3 ∨ i = 4 by omega) with rfl | rfl | rfl
  · exact ⟨q1, q4⟩
  · exact ⟨q2, q5⟩
  · exact ⟨q3, q6⟩
theorem eqI_rfl' {a b : Int32} (h : eqI a b = true) : a = b := eqI_eq h
theorem legs_c {A : Tm} {per o i pace : Nat} {M : Nat → Nat → Int32} (ho : o < 2048) (hi : i < 5) (hd : 2 ≤ i → 1 ≤ dgN o i ∧ dgN o i ≤ 6) (hA : BD A) (hp : per ≤ 5) (hpa : pace ≤ 1) (h3 : ∀ j, j < 5 → M 3 j = nI (qL A j)) (h4 : ∀ j, j < 5 → M 4 j = nI (qS A j)) : v_X7_legsOf (nI i) (nI per) (dI o) (nI pace) M = nI (lgF A per o i pace) := by
  have hL := hA.2.2.2.2.2.1 i hi
  have hS := hA.2.2.2.2.2.2.1 i hi
  unfold v_X7_legsOf w2_X7_legsOf lgF
  by_cases h2 : 2 ≤ i
  · rw [if_pos (show (2 : Int32) ≤ nI i from nI_le (a := 2) h2 (by omega)), if_neg (by omega)]
    unfold w1_X7_legsOf
    rw [(dg_all ho ⟨h2, by omega⟩).1]
    obtain ⟨g1, g2⟩ := hd h2
    have q := all_dg _ g1 g2
    simp only [ckDg, Bool.and_eq_true] at q
    exact eqI_eq q.1
  · rw [if_neg (show ¬ (2 : Int32) ≤ nI i from nI_ge (b := 2) (by omega) (by omega)), if_pos (show i < 2 by omega)]
    have e : v_X7_lossOf (v_X5_at_4 (nI i) M) (nI pace) = nI (qS A i - pace) := by
      unfold v_X7_lossOf v_X5_at_4
      rw [nI_clamp (by omega), h4 i hi]
      exact mx_pos (by omega) (by omega)
    have e3 : v_X5_at_3 (nI i) M = nI (qL A i) := by
      unfold v_X5_at_3
      rw [nI_clamp (by omega), h3 i hi]
    rw [e, e3, pk_mul]
    have hm : per * (qS A i - pace) ≤ 5 * 2 := Nat.mul_le_mul hp (by omega)
    exact mx_pos (by omega) (by omega)
theorem legs_m {A : Tm} {per o i pace : Nat} {M : Nat → Nat → Int32} (ho : o < 2048) (hi : i < 5) (hd : 2 ≤ i → 1 ≤ dgN o i ∧ dgN o i ≤ 6) (hA : BD A) (hp : per ≤ 5) (hpa : pace ≤ 1) (h3 : ∀ j, j < 5 → M 86 j = nI (qL A j)) (h4 : ∀ j, j < 5 → M 87 j = nI (qS A j)) (h5 : M 83 36 = nI pace) : v_X12_legsAt (nI per) (nI o) (nI i) M = nI (lgF A per o i pace) := by
  have hL := hA.2.2.2.2.2.1 i hi
  have hS := hA.2.2.2.2.2.2.1 i hi
  unfold v_X12_legsAt w2_X12_legsAt lgF
  by_cases h2 : 2 ≤ i
  · rw [if_neg (show ¬ nI i ≤ (1 : Int32) from nI_ge (a := 1) (by omega) (by omega)), if_neg (by omega)]
    rw [(dg_all ho ⟨h2, by omega⟩).2]
    obtain ⟨g1, g2⟩ := hd h2
    have q := all_dg _ g1 g2
    simp only [ckDg, Bool.and_eq_true] at q
    exact eqI_eq q.2
  · rw [if_pos (show nI i ≤ (1 : Int32) from nI_le (b := 1) (by omega) (by omega)), if_pos (by omega)]
    unfold w1_X12_legsAt
    have e : v_X12_lossBy (nI i) M = nI (qS A i - pace) := by
      unfold v_X12_lossBy w1_X12_lossBy
      rw [nI_clamp (by omega), h4 i hi, h5]
      exact mx_ge (by omega) (by omega)
    rw [e, nI_clamp (by omega), h3 i hi, pk_mul]
    have hm : per * (qS A i - pace) ≤ 5 * 2 := Nat.mul_le_mul hp (by omega)
    exact mx_ge (by omega) (by omega)
/-! changes made; ACTIONS that may be -/
def b01 (n : Nat) : Nat := if n = 0 then 0 else 1
def mdN (o : Nat) : Nat := b01 (o % 8) + b01 (o / 8 % 8) + b01 (o / 64 % 8)
theorem mdN_le (o : Nat) : mdN o ≤ 3 := by
  unfold mdN b01
  repeat' split
  all_goals omega
theorem made_m {o : Nat} (h : o < 2048) : v_X12_made (nI o) = nI (mdN o) := by
  obtain ⟨-, -, -, q4, q5, q6, -⟩ := dig_all h
  have key : ∀ g : Nat, g < 8 → (if nI g = 0 then (0 : Int32) else 1) = nI (b01 g) := by
    intro g hg
    unfold b01
    by_cases h0 : g = 0
    · subst h0; rfl
    · rw [if_neg (nI_ne0 (by omega) (by omega)), if_neg h0]; rfl
  unfold v_X12_made w1_X12_made w2_X12_made w3_X12_made mdN
  rw [q4, q5, q6, key _ (by omega), key _ (by omega), key _ (by omega), nI_add, nI_add]
theorem made_c {o : Nat} (h : o < 2048) : v_X7_changesMade (dI o) = nI (mdN o) := by
  rw [(dig_all h).2.2.2.2.2.2.1, made_m h]
def chN (a : Nat) : Nat := b01 (a % 7) + b01 (a / 7)
theorem chN_le (a : Nat) : chN a ≤ 2 := by
  unfold chN b01
  repeat' split
  all_goals omega
def ckCh (a : Nat) : Bool := eqI (v_X7_changesOf (nI a)) (nI (chN a))
theorem all_ch : allB ckCh 49 = true := by decide +kernel
theorem ch_c {a : Nat} (h : a < 49) : v_X7_changesOf (nI a) = nI (chN a) := eqI_eq (allB_get all_ch a h)
def mayF (o a all once : Nat) : Bool := Nat.ble (chN a) once && Nat.ble (mdN o + chN a) all && eqI (w6_X7_mayBe (dI o) (nI a)) 1
def bI (b : Bool) : Int32 := bif b then 1 else 0
theorem may_c {o a all once : Nat} (h : CD o) (ha : a < 49) (h1 : all ≤ 3) (h2 : once ≤ 3) : v_X7_mayBe (dI o) (nI a) (nI all) (nI once) = bI (mayF o a all once) := by
  have c1 := chN_le a
  have m1 := mdN_le o
  have w01 : w6_X7_mayBe (dI o) (nI a) = 0 ∨ w6_X7_mayBe (dI o) (nI a) = 1 := by
    have q := allB_get all_may o h.1
    simp only [ckMay, h.2, Bool.not_true, Bool.false_or] at q
    have q := allB_get q a ha
    simp only [Bool.and_eq_true, Bool.or_eq_true] at q
    rcases q.2 with e | e
    · exact Or.inl (eqI_eq e)
    · exact Or.inr (eqI_eq e.1)
  unfold v_X7_mayBe w10_X7_mayBe w9_X7_mayBe w8_X7_mayBe w7_X7_mayBe
  rw [if_neg (nI_pos (by omega)), if_pos (show nI a < (49 : Int32) from nI_lt (b := 49) ha (by omega)), ch_c ha, made_c h.1, nI_add]
  unfold mayF
  by_cases k1 : chN a ≤ once
  · rw [if_neg (nI_nlt k1 (by omega)), Nat.ble_eq_true_of_le k1]
    by_cases k2 : mdN o + chN a ≤ all
    · rw [if_pos (nI_le k2 (by omega)), Nat.ble_eq_true_of_le k2]
      rcases w01 with e | e <;> rw [e] <;> rfl
    · have : Nat.ble (mdN o + chN a) all = false := by
        cases hb : Nat.ble (mdN o + chN a) all with
        | false => rfl
        | true => exact absurd (Nat.le_of_ble_eq_true hb) k2
      rw [if_neg (nI_ge (by omega) (by omega)), this]
      rfl
  · have : Nat.ble (chN a) once = false := by
      cases hb : Nat.ble (chN a) once with
      | false => rfl
      | true => exact absurd (Nat.le_of_ble_eq_true hb) k1
    rw [if_pos (nI_lt (by omega) (by omega)), this]
    rfl
theorem may_out {c x al on : Int32} (h : ¬ (0 ≤ x ∧ x < 49)) : v_X7_mayBe c x al on = 0 := by
  unfold v_X7_mayBe w10_X7_mayBe w9_X7_mayBe
  by_cases h0 : x < 0
  · exact if_pos h0
  · rw [if_neg h0, if_neg]
    intro h1
    refine h ⟨?_, h1⟩
    rw [Int32.le_iff_toInt_le]
    rw [Int32.lt_iff_toInt_lt] at h0
    omega
theorem may_m {o a all once : Nat} {M : Nat → Nat → Int32} (h : CD o) (ha : a < 49) (h1 : all ≤ 3) (h2 : once ≤ 3) (h3 : M 83 34 = nI all) (h4 : M 83 35 = nI once) : v_X12_mayBe (nI o) (nI a) M = bI (mayF o a all once) := by
  have c1 := chN_le a
  have m1 := mdN_le o
  have q := allB_get all_may o h.1
  simp only [ckMay, h.2, Bool.not_true, Bool.false_or] at q
  have q := allB_get q a ha
  simp only [Bool.and_eq_true, Bool.or_eq_true] at q
  have qa := allB_get all_act a ha
  simp only [ckAct, Bool.and_eq_true, Bool.or_eq_true] at qa
  have q1 := eqI_eq q.1
  have w01 : w6_X7_mayBe (dI o) (nI a) = 0 ∨ w6_X7_mayBe (dI o) (nI a) = 1 := by
    rcases q.2 with e | e
    · exact Or.inl (eqI_eq e)
    · exact Or.inr (eqI_eq e.1)
  unfold v_X12_mayBe w7_X12_mayBe
  by_cases i0 : v_X12_isAction (nI a) = 0
  · rw [if_pos i0]
    have : w6_X7_mayBe (dI o) (nI a) = 0 := by
      rw [q1, i0]; rfl
    unfold mayF
    rw [this, show eqI (0 : Int32) 1 = false from rfl, Bool.and_false]
    rfl
  · rw [if_neg i0]
    have hb : eqI (v_X12_isAction (nI a)) 0 = false := by
      cases hb : eqI (v_X12_isAction (nI a)) 0 with
      | false => rfl
      | true => exact absurd (eqI_eq hb) i0
    rw [hb] at q1
    have hc : v_X12_changesOf (nI a) = nI (chN a) := by
      rcases qa.1.1.1 with e | e
      · exact absurd (eqI_eq e) i0
      · rw [← ch_c ha]; exact (eqI_eq e).symm
    unfold w6_X12_mayBe w5_X12_mayBe
    rw [hc, made_m h.1, nI_add, h3, h4, ← (show w6_X7_mayBe (dI o) (nI a) = w4_X12_mayBe (nI o) (nI a) from q1)]
    unfold mayF
    by_cases k1 : chN a ≤ once
    · rw [if_neg (nI_nlt k1 (by omega)), Nat.ble_eq_true_of_le k1]
      by_cases k2 : mdN o + chN a ≤ all
      · rw [if_pos (nI_le k2 (by omega)), Nat.ble_eq_true_of_le k2]
        rcases w01 with e | e <;> rw [e] <;> rfl
      · have : Nat.ble (mdN o + chN a) all = false := by
          cases hb : Nat.ble (mdN o + chN a) all with
          | false => rfl
          | true => exact absurd (Nat.le_of_ble_eq_true hb) k2
        rw [if_neg (nI_ge (by omega) (by omega)), this]
        rfl
    · have : Nat.ble (chN a) once = false := by
        cases hb : Nat.ble (chN a) once with
        | false => rfl
        | true => exact absurd (Nat.le_of_ble_eq_true hb) k1
      rw [if_pos (nI_lt (by omega) (by omega)), this]
      rfl
/-- what an ACTION that may be looks like -/
theorem may_shape {o a all once : Nat} (h : CD o) (ha : a < 49) (hm : mayF o a all once = true) : chN a ≤ once ∧ mdN o + chN a ≤ all ∧ (a = 0 ∨ (0 < a % 7 ∧ dgN o (2 + (a % 7 - 1) / 2) = 0 ∧ (a < 7 ∨ (0 < a / 7 ∧ dgN o (2 + (a / 7 - 1) / 2) = 0 ∧ (a / 7 - 1) / 2 ≠ (a % 7 - 1) / 2)))) := by
  simp only [mayF, Bool.and_eq_true] at hm
  obtain ⟨⟨h1, h2⟩, h3⟩ := hm
  refine ⟨Nat.le_of_ble_eq_true h1, Nat.le_of_ble_eq_true h2, ?_⟩
  have q := allB_get all_may o h.1
  simp only [ckMay, h.2, Bool.not_true, Bool.false_or] at q
  have q := allB_get q a ha
  simp only [Bool.and_eq_true, Bool.or_eq_true] at q
  rcases q.2 with e | e
  · rw [eqI_eq e] at h3
    exact absurd h3 (by decide)
  · rcases e.2 with e2 | e2
    · exact Or.inl (Nat.eq_of_beq_eq_true e2.2)
    · refine Or.inr ⟨by simpa [Nat.blt, Nat.lt_iff_add_one_le] using e2.1.1, Nat.eq_of_beq_eq_true e2.1.2, ?_⟩
      rcases e2.2 with e3 | e3
      · exact Or.inl (by simpa [Nat.blt, Nat.lt_iff_add_one_le] using e3)
      · refine Or.inr ⟨by simpa [Nat.blt, Nat.lt_iff_add_one_le] using e3.1.1, Nat.eq_of_beq_eq_true e3.1.2, fun q => ?_⟩
        have e4 := e3.2
        rw [q, Nat.beq_refl] at e4
        exact absurd e4 (by decide)
theorem may_zero {o all once : Nat} (hm : mdN o ≤ all) (h : CD o) : mayF o 0 all once = true := by
  have e : eqI (w6_X7_mayBe (dI o) (nI 0)) 1 = true := by
    have q := allB_get all_may o h.1
    simp only [ckMay, h.2, Bool.not_true, Bool.false_or] at q
    have q := allB_get q 0 (by omega)
    simp only [Bool.and_eq_true, Bool.or_eq_true] at q
    have q1 := eqI_eq q.1
    rw [q1]
    rfl
  simp only [mayF, Bool.and_eq_true]
  exact ⟨⟨Nat.ble_eq_true_of_le (Nat.zero_le _), Nat.ble_eq_true_of_le hm⟩, e⟩
/-! the CODE behind an ACTION -/
def sendF (A : Tm) (o c : Nat) : Nat := if c = 0 then o else sendN o c (qL A (2 + (c - 1) / 2))
def aftF (A : Tm) (o a : Nat) : Nat := sendF A (sendF A o (a % 7)) (a / 7)
theorem pl_c {c : Nat} (h : 1 ≤ c ∧ c ≤ 6) : v_X7_playerOf (nI c) = nI (2 + (c - 1) / 2) ∧ v_X12_playerOf (nI c) = nI (2 + (c - 1) / 2) := by
  rcases (show c = 1 ∨ c = 2 ∨ c = 3 ∨ c = 4 ∨ c = 5 ∨ c = 6 by omega) with rfl | rfl | rfl | rfl | rfl | rfl <;> exact ⟨by decide +kernel, by decide +kernel⟩
theorem send_c {A : Tm} {o c : Nat} {M : Nat → Nat → Int32} (h : CD o) (hA : BD A) (hc : c ≤ 6) (hw : 0 < c → dgN o (2 + (c - 1) / 2) = 0) (h3 : ∀ j, j < 5 → M 3 j = nI (qL A j)) : v_X7_sendOn (dI o) (nI c) M = dI (sendF A o c) := by
  unfold sendF
  by_cases h0 : c = 0
  · subst h0; rfl
  · rw [if_neg h0]
    have hc2 : 1 ≤ c ∧ c ≤ 6 := by omega
    have hl := hA.2.2.2.2.2.1 (2 + (c - 1) / 2) (by omega)
    rw [← (send_all h hc2 (show qL A (2 + (c - 1) / 2) < 3 by omega) (hw (by omega))).2.1]
    unfold v_X7_sendOn w1_X7_sendOn v_X7_legsAtFirst v_X5_at_3
    rw [(pl_c hc2).1, nI_clamp (by omega), h3 _ (by omega)]
theorem send_m {A : Tm} {o c : Nat} {M : Nat → Nat → Int32} (h : CD o) (hA : BD A) (hc : 1 ≤ c ∧ c ≤ 6) (hw : dgN o (2 + (c - 1) / 2) = 0) (h3 : ∀ j, j < 5 → M 86 j = nI (qL A j)) : v_X12_changed (nI o) (nI c) M = nI (sendF A o c) := by
  unfold sendF
  rw [if_neg (by omega)]
  have hl := hA.2.2.2.2.2.1 (2 + (c - 1) / 2) (by omega)
  rw [← (send_all h hc (show qL A (2 + (c - 1) / 2) < 3 by omega) hw).2.2.1]
  unfold v_X12_changed
  rw [(pl_c hc).2, nI_clamp (by omega), h3 _ (by omega)]
theorem send_cd {A : Tm} {o c : Nat} (h : CD o) (hA : BD A) (hc : c ≤ 6) (hw : 0 < c → dgN o (2 + (c - 1) / 2) = 0) : CD (sendF A o c) ∧ mdN (sendF A o c) = mdN o + b01 c ∧ ∀ p, 2 ≤ p → p ≤ 4 → (0 < c → p ≠ 2 + (c - 1) / 2) → dgN o p = 0 → dgN (sendF A o c) p = 0 := by
  unfold sendF
  by_cases h0 : c = 0
  · subst h0
    exact ⟨h, rfl, fun p _ _ _ e => e⟩
  · rw [if_neg h0]
    have hc2 : 1 ≤ c ∧ c ≤ 6 := by omega
    have hl := hA.2.2.2.2.2.1 (2 + (c - 1) / 2) (by omega)
    obtain ⟨s1, s2, s3, s4, s5⟩ := send_all h hc2 (show qL A (2 + (c - 1) / 2) < 3 by omega) (hw (by omega))
    refine ⟨s1, ?_, fun p h1 h2 h3 h4 => s5 p h1 h2 (h3 (by omega)) h4⟩
    rw [made_m s1.1, made_m h.1, show (1 : Int32) = nI 1 from rfl, nI_add] at s4
    have m1 := mdN_le (sendN o c (qL A (2 + (c - 1) / 2)))
    have m2 := mdN_le o
    rw [(nI_eq (by omega) (by omega)).mp s4]
    unfold b01
    rw [if_neg h0]
theorem aft_all {A : Tm} {o a all once : Nat} {M : Nat → Nat → Int32} (h : CD o) (hA : BD A) (ha : a < 49) (hm : mayF o a all once = true) : CD (aftF A o a) ∧ mdN (aftF A o a) = mdN o + chN a ∧ mdN (aftF A o a) ≤ all ∧ ((∀ j, j < 5 → M 3 j = nI (qL A j)) → v_X7_codeAfter (dI o) (nI a) M = dI (aftF A o a)) ∧ ((∀ j, j < 5 → M 86 j = nI (qL A j)) → v_X12_behind (nI o) (nI a) M = nI (aftF A o a)) := by
  obtain ⟨_, k2, k3⟩ := may_shape h ha hm
  have w1 : 0 < a % 7 → dgN o (2 + (a % 7 - 1) / 2) = 0 := fun q => by
    rcases k3 with rfl | k3
    · omega
    · exact k3.2.1
  obtain ⟨s1, s2, s3⟩ := send_cd (A := A) h hA (show a % 7 ≤ 6 by omega) w1
  have w2 : 0 < a / 7 → dgN (sendF A o (a % 7)) (2 + (a / 7 - 1) / 2) = 0 := fun q => by
    rcases k3 with rfl | k3
    · omega
    · rcases k3.2.2 with k4 | k4
      · omega
      · exact s3 _ (by omega) (by omega) (fun _ => by omega) k4.2.1
  obtain ⟨r1, r2, _⟩ := send_cd (A := A) s1 hA (show a / 7 ≤ 6 by omega) w2
  have e2 : mdN (aftF A o a) = mdN o + chN a := by
    show mdN (sendF A (sendF A o (a % 7)) (a / 7)) = _
    rw [r2, s2]
    unfold chN
    omega
  refine ⟨r1, e2, by rw [e2]; exact k2, fun h3 => ?_, fun h3 => ?_⟩
  · unfold v_X7_codeAfter
    rw [show (7 : Int32) = nI 7 from rfl, pk_rem (by omega) (by omega) (by omega), pk_div (by omega) (by omega) (by omega), send_c h hA (by omega) w1 h3, send_c s1 hA (by omega) w2 h3]
    rfl
  · have qa := allB_get all_act a ha
    simp only [ckAct, Bool.and_eq_true] at qa
    have f1 : v_X12_firstOf (nI a) = nI (a % 7) := eqI_eq qa.1.2
    have f2 : v_X12_secondOf (nI a) = nI (a / 7) := eqI_eq qa.2
    unfold v_X12_behind
    have s0 : ∀ x : Nat, sendF A x 0 = x := fun x => if_pos rfl
    rcases k3 with rfl | k3
    · rw [if_pos (show nI 0 = 0 from rfl)]
      show nI o = nI (sendF A (sendF A o 0) 0)
      rw [s0, s0]
    · rw [if_neg (nI_ne0 (by omega) (by omega))]
      unfold w1_X12_behind
      rw [f1, f2, send_m h hA (by omega) (w1 k3.1) h3]
      by_cases a7 : a < 7
      · rw [if_neg (show ¬ (7 : Int32) ≤ nI a from nI_ge (b := 7) a7 (by omega))]
        show _ = nI (sendF A (sendF A o (a % 7)) (a / 7))
        rw [show a / 7 = 0 by omega, s0]
      · rw [if_pos (show (7 : Int32) ≤ nI a from nI_le (a := 7) (by omega) (by omega)), send_m s1 hA (by omega) (w2 (by omega)) h3]
        rfl
/-! what a PERIOD leaves of a CODE -/
def offF (o e : Nat) : Nat := if e < 3 then o else if wh o (e - 3) = 9 then o else offN o (e - 3)
def nxtF (A : Tm) (o e pace : Nat) : Nat := stN 4 (stN 3 (stN 2 (offF o e) (qS A 2 - pace)) (qS A 3 - pace)) (qS A 4 - pace)
theorem off_cd {o e : Nat} (h : CD o) (he : e < 5) : CD (offF o e) ∧ mdN (offF o e) = mdN o ∧ w1_X7_codeBehind (dI o) (nI e) = dI (offF o e) := by
  unfold offF w1_X7_codeBehind
  by_cases h3 : e < 3
  · rw [if_pos h3, if_pos (show nI e < (3 : Int32) from nI_lt (b := 3) h3 (by omega))]
    exact ⟨h, rfl, rfl⟩
  · rw [if_neg h3, if_neg (show ¬ nI e < (3 : Int32) from nI_nlt (b := 3) (by omega) (by omega)), show nI e - (3 : Int32) = nI (e - 3) from pk_sub (b := 3) (by omega)]
    rcases wh_cases h (show e - 3 < 2 by omega) with ⟨k1, k2, k3⟩ | ⟨k1, k2, k3, k4, k5⟩
    · rw [if_pos k1, k2]
      exact ⟨h, rfl, rfl⟩
    · rw [if_neg (by omega)]
      rcases off_all h (show e - 3 < 2 by omega) with q | ⟨q1, q2, q3, q4⟩
      · rw [k4] at q
        have := congrArg Int32.toInt q
        rw [nI_toInt (by omega)] at this
        have h2 : (-1 : Int32).toInt = -1 := by decide
        omega
      · refine ⟨q1, ?_, ?_⟩
        · rw [made_m q1.1, made_m h.1] at q4
          have m1 := mdN_le (offN o (e - 3))
          have m2 := mdN_le o
          exact (nI_eq (by omega) (by omega)).mp q4
        · rw [k3, ← k4]
          exact q2
theorem nxt_all {A : Tm} {o e pace : Nat} {M : Nat → Nat → Int32} (h : CD o) (hA : BD A) (he : e < 5) (hpa : pace ≤ 1) : CD (nxtF A o e pace) ∧ mdN (nxtF A o e pace) = mdN o ∧ ((∀ j, j < 5 → M 4 j = nI (qS A j)) → v_X7_codeBehind (dI o) (nI e) (nI pace) M = dI (nxtF A o e pace)) ∧ ((∀ j, j < 5 → M 87 j = nI (qS A j)) → M 83 36 = nI pace → (3 ≤ e → wh o (e - 3) ≠ 9) → v_X12_codeAfter (nI o) (if e = 0 then 4 else nI (e - 1)) M = nI (nxtF A o e pace)) := by
  obtain ⟨f1, f2, f3⟩ := off_cd h he
  have l2 := hA.2.2.2.2.2.2.1 2 (by omega)
  have l3 := hA.2.2.2.2.2.2.1 3 (by omega)
  have l4 := hA.2.2.2.2.2.2.1 4 (by omega)
  obtain ⟨a1, a2, a3, a4⟩ := leg_all (p := 2) (e := qS A 2 - pace) f1 (by omega) (by omega)
  obtain ⟨b1, b2, b3, b4⟩ := leg_all (p := 3) (e := qS A 3 - pace) a1 (by omega) (by omega)
  obtain ⟨c1, c2, c3, c4⟩ := leg_all (p := 4) (e := qS A 4 - pace) b1 (by omega) (by omega)
  have mm : ∀ {x y : Nat}, x < 2048 → y < 2048 → v_X12_made (nI x) = v_X12_made (nI y) → mdN x = mdN y := by
    intro x y hx hy q
    rw [made_m hx, made_m hy] at q
    have m1 := mdN_le x
    have m2 := mdN_le y
    exact (nI_eq (by omega) (by omega)).mp q
  refine ⟨c1, ?_, fun h4 => ?_, fun h4 h5 h6 => ?_⟩
  · rw [← f2, ← mm a1.1 f1.1 a4, ← mm b1.1 a1.1 b4]
    exact mm c1.1 b1.1 c4
  · have e2 : ∀ i, i < 5 → v_X7_lossOf (v_X5_at_4 (nI i) M) (nI pace) = nI (qS A i - pace) := by
      intro i hi
      unfold v_X7_lossOf v_X5_at_4
      rw [nI_clamp (by omega), h4 i hi]
      have := hA.2.2.2.2.2.2.1 i hi
      exact mx_pos (by omega) (by omega)
    have s2 : w2_X7_codeBehind (dI o) (nI e) (nI pace) M = dI (stN 2 (offF o e) (qS A 2 - pace)) := by
      rw [← a2, ← f3, ← e2 2 (by omega)]
      rfl
    have s3 : w3_X7_codeBehind (dI o) (nI e) (nI pace) M = dI (stN 3 (stN 2 (offF o e) (qS A 2 - pace)) (qS A 3 - pace)) := by
      rw [← b2, ← s2, ← e2 3 (by omega)]
      rfl
    show w4_X7_codeBehind (dI o) (nI e) (nI pace) M = dI (stN 4 (stN 3 (stN 2 (offF o e) (qS A 2 - pace)) (qS A 3 - pace)) (qS A 4 - pace))
    rw [← c2, ← s3, ← e2 4 (by omega)]
    rfl
  · have e2 : ∀ i, i < 5 → v_X12_lossBy (nI i) M = nI (qS A i - pace) := by
      intro i hi
      unfold v_X12_lossBy w1_X12_lossBy
      rw [nI_clamp (by omega), h4 i hi, h5]
      have := hA.2.2.2.2.2.2.1 i hi
      exact mx_ge (by omega) (by omega)
    have s1 : w2_X12_codeAfter (nI o) (if e = 0 then 4 else nI (e - 1)) = nI (offF o e) := by
      unfold offF
      rcases (show e = 0 ∨ e = 1 ∨ e = 2 ∨ e = 3 ∨ e = 4 by omega) with rfl | rfl | rfl | rfl | rfl
      · rfl
      · rfl
      · rfl
      · rw [if_neg (by omega : ¬ 3 < 3), if_neg (h6 (by omega))]
        rcases off_all h (show 3 - 3 < 2 by omega) with q | ⟨q1, q2, q3, q4⟩
        · exact absurd (if_pos q) (h6 (by omega))
        · exact q3
      · rw [if_neg (by omega : ¬ 4 < 3), if_neg (h6 (by omega))]
        rcases off_all h (show 4 - 3 < 2 by omega) with q | ⟨q1, q2, q3, q4⟩
        · exact absurd (if_pos q) (h6 (by omega))
        · exact q3
    generalize (if e = 0 then (4 : Int32) else nI (e - 1)) = w at s1 ⊢
    have s2 : w5_X12_codeAfter (nI o) w M = nI (stN 2 (offF o e) (qS A 2 - pace)) := by
      rw [← a3, ← s1, ← e2 2 (by omega)]
      rfl
    have s3 : w8_X12_codeAfter (nI o) w M = nI (stN 3 (stN 2 (offF o e) (qS A 2 - pace)) (qS A 3 - pace)) := by
      rw [← b3, ← s2, ← e2 3 (by omega)]
      rfl
    show w11_X12_codeAfter (nI o) w M = nI (stN 4 (stN 3 (stN 2 (offF o e) (qS A 2 - pace)) (qS A 3 - pace)) (qS A 4 - pace))
    rw [← c3, ← s3, ← e2 4 (by omega)]
    rfl
