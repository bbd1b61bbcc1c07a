/-! HUNDREDTHS: the letters, how strong the other side is, the ACTION of a rule, the shares. -/
def clN (m : Nat) (v : Int32) : Nat := cN (clF 0 (nI m) v)
theorem clN_all {m : Nat} (hm : m < 2 ^ 31) (v : Int32) : clN m v ≤ m ∧ clF 0 (nI m) v = nI (clN m v) := by
  refine ⟨?_, (nI_cN _).symm⟩
  unfold clN clF
  by_cases h0 : 0 ≤ v
  · rw [if_pos h0]
    by_cases h1 : v ≤ nI m
    · rw [if_pos h1]
      have h2 : ¬ v < 0 := by
        rw [Int32.lt_iff_toInt_lt]
        rw [Int32.le_iff_toInt_le] at h0
        omega
      obtain ⟨j, j1, j2⟩ := nI_of h2
      subst j2
      rw [cN_nI (by omega)]
      exact (nI_leI j1 hm).mp h1
    · rw [if_neg h1, cN_nI (by omega)]
      exact Nat.le_refl m
  · rw [if_neg h0]
    exact Nat.zero_le m
theorem clF_0 (m : Nat) (hm : m < 2 ^ 31) : clF 0 (nI m) 0 = 0 := by
  unfold clF
  rw [if_pos (Int32.le_refl 0), if_pos (nI_pos' hm)]
theorem within_c (v m : Int32) : v_X2_within v m = clF 0 m v := rfl
def ltB (A : Tm) (o : Nat) : Nat := if wh o 0 = 9 then 0 else qG A (2 * wh o 0)
def ltF (A : Tm) (o : Nat) : Nat := if wh o 1 = 9 then 0 else qG A (2 * wh o 1 + 1)
def ltL (A : Tm) (per o p pace : Nat) : Nat := if wh o p = 9 then 0 else lgF A per o (wh o p) pace
def ltE (o : Nat) : Nat := (if wh o 0 = 9 then 1 else 0) + (if wh o 1 = 9 then 1 else 0)
def ltQ (A : Tm) (o : Nat) : Nat := if wh o 0 = 9 ∨ wh o 1 = 9 then 0 else qX A (5 * wh o 0 + wh o 1)
def ltV (A : Tm) (per : Nat) (sc : Int32) (o st x most pace : Nat) : List Int32 := [nI per, nI (qN A), sc, nI (ltB A o), nI (ltF A o), nI (ltL A per o 0 pace), nI (ltL A per o 1 pace), nI (ltE o), nI x, nI most - nI (mdN o), nI (ltQ A o), nI st, nI pace, 0, 0, 0]
def LT (A : Tm) (per : Nat) (sc : Int32) (o st x most pace : Nat) : Nat → Int32 := fun j => (ltV A per sc o st x most pace).getD j 0
def LTH (p k j : Nat) (F : Nat → Int32) : Nat → Int32 := fun i => if i = 13 then nI p else if i = 14 then nI k else if i = 15 then nI j else F i
def LM0 (A : Tm) (per : Nat) (sc : Int32) : Nat → Int32 := fun j => [nI per, nI (qN A), sc].getD j 0
/-- how strong the other side is -/
def stF (A : Tm) (oth per : Nat) (sc : Int32) : Nat := clN 99 (askF (qP A (1 + oth)) 111 (LM0 A per sc))
/-- the ACTION of a rule -/
def ruV (A : Tm) (k per : Nat) (sc : Int32) (o st : Nat) : Int32 := askF (qP A (4 + k)) 99 (LT A per sc o st 0 (qC A) 0)
def ruF (A : Tm) (k per : Nat) (sc : Int32) (o st : Nat) : Nat := if (0 ≤ ruV A k per sc o st ∧ ruV A k per sc o st < 49) ∧ mayF o (cN (ruV A k per sc o st)) (qC A) (qO A) = true then cN (ruV A k per sc o st) else 0
/-- hundredths: a goal, one let in, hurt at PLACE 0, 1; nothing -/
def sG (A : Tm) (per : Nat) (sc : Int32) (o st x most pace : Nat) : Nat := clN 100 (askF (qP A 0) 103 (LT A per sc o st x most pace))
def sA (A : Tm) (per : Nat) (sc : Int32) (o st x most pace : Nat) : Nat := clN (100 - sG A per sc o st x most pace) (askF (qP A 0) 97 (LT A per sc o st x most pace))
def sH (A : Tm) (per : Nat) (sc : Int32) (o st x most pace p left : Nat) : Nat := if wh o p = 9 then 0 else clN left (askF (qP A 0) 104 (LTH p (wh o p) (lgF A per o (wh o p) pace) (LT A per sc o st x most pace)))
def sH0 (A : Tm) (per : Nat) (sc : Int32) (o st x most pace : Nat) : Nat := sH A per sc o st x most pace 0 (100 - sG A per sc o st x most pace - sA A per sc o st x most pace)
def sH1 (A : Tm) (per : Nat) (sc : Int32) (o st x most pace : Nat) : Nat := sH A per sc o st x most pace 1 (100 - sG A per sc o st x most pace - sA A per sc o st x most pace - sH0 A per sc o st x most pace)
def shF (A : Tm) (per : Nat) (sc : Int32) (o st x most pace e : Nat) : Nat := if e = 1 then sG A per sc o st x most pace else if e = 2 then sA A per sc o st x most pace else if e = 3 then sH0 A per sc o st x most pace else if e = 4 then sH1 A per sc o st x most pace else 100 - sG A per sc o st x most pace - sA A per sc o st x most pace - sH0 A per sc o st x most pace - sH1 A per sc o st x most pace
def pkF (g a h0 h1 : Nat) : Nat := g + 128 * a + 16384 * h0 + 2097152 * h1
theorem sH_le (A : Tm) (per : Nat) (sc : Int32) (o st x most pace p left : Nat) (h : left < 2 ^ 31) : sH A per sc o st x most pace p left ≤ left := by
  unfold sH
  split
  · exact Nat.zero_le _
  · exact (clN_all h _).1
theorem sh_bounds (A : Tm) (per : Nat) (sc : Int32) (o st x most pace : Nat) : sG A per sc o st x most pace ≤ 100 ∧ sA A per sc o st x most pace ≤ 100 - sG A per sc o st x most pace ∧ sH0 A per sc o st x most pace ≤ 100 - sG A per sc o st x most pace - sA A per sc o st x most pace ∧ sH1 A per sc o st x most pace ≤ 100 - sG A per sc o st x most pace - sA A per sc o st x most pace - sH0 A per sc o st x most pace := by
  have h1 : sG A per sc o st x most pace ≤ 100 := (clN_all (by omega) _).1
  have h2 : sA A per sc o st x most pace ≤ 100 - sG A per sc o st x most pace := (clN_all (by omega) _).1
  refine ⟨h1, h2, sH_le _ _ _ _ _ _ _ _ _ _ (by omega), sH_le _ _ _ _ _ _ _ _ _ _ (by omega)⟩
theorem sh_sum (A : Tm) (per : Nat) (sc : Int32) (o st x most pace : Nat) : shF A per sc o st x most pace 0 + shF A per sc o st x most pace 1 + shF A per sc o st x most pace 2 + shF A per sc o st x most pace 3 + shF A per sc o st x most pace 4 = 100 := by
  obtain ⟨h1, h2, h3, h4⟩ := sh_bounds A per sc o st x most pace
  show (100 - sG A per sc o st x most pace - sA A per sc o st x most pace - sH0 A per sc o st x most pace - sH1 A per sc o st x most pace) + sG A per sc o st x most pace + sA A per sc o st x most pace + sH0 A per sc o st x most pace + sH1 A per sc o st x most pace = 100
  omega
/-- hurt is who is there -/
theorem sh_who (A : Tm) (per : Nat) (sc : Int32) (o st x most pace e : Nat) (he : 3 ≤ e ∧ e < 5) (h : shF A per sc o st x most pace e ≠ 0) : wh o (e - 3) ≠ 9 := by
  intro q
  apply h
  rcases (show e = 3 ∨ e = 4 by omega) with rfl | rfl
  · exact if_pos q
  · exact if_pos q
theorem pk_or {x y k : Nat} (hx : x < 2 ^ k) : nI x ||| nI (2 ^ k * y) = nI (2 ^ k * y + x) := by
  have e : nI x ||| nI (2 ^ k * y) = nI (x ||| 2 ^ k * y) := by
    apply Int32.toBitVec_inj.mp
    show (BitVec.ofNat 32 x) ||| (BitVec.ofNat 32 (2 ^ k * y)) = BitVec.ofNat 32 (x ||| 2 ^ k * y)
    rw [BitVec.ofNat_or]
  rw [e, Nat.or_comm, ← Nat.two_pow_add_eq_or_of_lt hx]
theorem pk_un4 {g a h0 h1 : Nat} (hg : g ≤ 100) (ha : a ≤ 100) (hh : h0 ≤ 100) (hh1 : h1 ≤ 100) : pkF g a h0 h1 < 2 ^ 31 ∧ pkF g a h0 h1 % 128 = g ∧ pkF g a h0 h1 / 128 % 128 = a ∧ pkF g a h0 h1 / 16384 % 128 = h0 ∧ pkF g a h0 h1 / 2097152 % 128 = h1 := by
  unfold pkF
  omega
theorem shareOf_c {g a h0 h1 e : Nat} (hg : g ≤ 100) (ha : a ≤ 100 - g) (hh : h0 ≤ 100 - g - a) (hh1 : h1 ≤ 100 - g - a - h0) (he : e < 5) : v_X2_shareOf (nI (pkF g a h0 h1)) (nI e) = nI (if e = 1 then g else if e = 2 then a else if e = 3 then h0 else if e = 4 then h1 else 100 - g - a - h0 - h1) := by
  obtain ⟨hp, e0, e1, e2, e3⟩ := pk_un4 (g := g) (a := a) (h0 := h0) (h1 := h1) hg (by omega) (by omega) (by omega)
  have m127 : ∀ n : Nat, n < 2 ^ 32 → nI n &&& (127 : Int32) = nI (n % 128) := fun n hn => pk_andN hn 7 (by decide)
  have s7 : nI (pkF g a h0 h1) >>> ((7 : Int32) &&& 31) = nI (pkF g a h0 h1 / 128) := pk_shrN hp _ 7 (by decide)
  have s14 : nI (pkF g a h0 h1) >>> ((14 : Int32) &&& 31) = nI (pkF g a h0 h1 / 16384) := pk_shrN hp _ 14 (by decide)
  have s21 : nI (pkF g a h0 h1) >>> ((21 : Int32) &&& 31) = nI (pkF g a h0 h1 / 2097152) := pk_shrN hp _ 21 (by decide)
  have s0 : nI (pkF g a h0 h1) >>> ((0 : Int32) &&& 31) = nI (pkF g a h0 h1 / 1) := pk_shrN hp _ 0 (by decide)
  unfold v_X2_shareOf w1_X2_shareOf
  rcases (show e = 0 ∨ e = 1 ∨ e = 2 ∨ e = 3 ∨ e = 4 by omega) with rfl | rfl | rfl | rfl | rfl
  · rw [if_pos (show nI 0 = 0 from rfl), s7, s14, s21, m127 _ (by omega), m127 _ (by omega), m127 _ (by omega), m127 _ (by omega), e0, e1, e2, e3, show (100 : Int32) = nI 100 from rfl, pk_sub hg, pk_sub ha, pk_sub hh, pk_sub hh1]
    rfl
  · rw [if_neg (show ¬ nI 1 = 0 by decide), show (7 : Int32) * (nI 1 - (1 : Int32)) = 0 from rfl, s0, Nat.div_one, m127 _ (by omega), e0]
    rfl
  · rw [if_neg (show ¬ nI 2 = 0 by decide), show (7 : Int32) * (nI 2 - (1 : Int32)) = 7 from rfl, s7, m127 _ (by omega), e1]
    rfl
  · rw [if_neg (show ¬ nI 3 = 0 by decide), show (7 : Int32) * (nI 3 - (1 : Int32)) = 14 from rfl, s14, m127 _ (by omega), e2]
    rfl
  · rw [if_neg (show ¬ nI 4 = 0 by decide), show (7 : Int32) * (nI 4 - (1 : Int32)) = 21 from rfl, s21, m127 _ (by omega), e3]
    rfl
/-! the class's letters -/
theorem sm_row (per sc : Int32) (I : Nat → Nat → Int32) : Fr [11] I (i_X2_setMoment per sc I) ∧ ∀ j, j < 16 → i_X2_setMoment per sc I 11 j = [per, I 1 0, sc].getD j 0 := by
  constructor
  · intro q hq
    have h : q ≠ 11 := fun e => by subst e; cases hq
    unfold i_X2_setMoment
    repeat rw [si_row h]
  · intro j hj
    rcases (show j = 0 ∨ j = 1 ∨ j = 2 ∨ j = 3 ∨ j = 4 ∨ j = 5 ∨ j = 6 ∨ j = 7 ∨ j = 8 ∨ j = 9 ∨ j = 10 ∨ j = 11 ∨ j = 12 ∨ j = 13 ∨ j = 14 ∨ j = 15 by omega) with rfl | rfl | rfl | rfl | rfl | rfl | rfl | rfl | rfl | rfl | rfl | rfl | rfl | rfl | rfl | rfl <;> rfl
theorem neg1 : (-1 : Int32) < 0 := by decide
theorem neg1' : ¬ (0 : Int32) ≤ -1 := by decide
/-- what setPlaces lays -/
theorem sp_row {A : Tm} {o per pace : Nat} {M : Nat → Nat → Int32} (h : CD o) (hA : BD A) (hp : per ≤ 5) (hpa : pace ≤ 1) (h2 : ∀ j, j < 10 → M 2 j = nI (qG A j)) (h3 : ∀ j, j < 5 → M 3 j = nI (qL A j)) (h4 : ∀ j, j < 5 → M 4 j = nI (qS A j)) (h5 : ∀ j, j < 25 → M 5 j = nI (qX A j)) (z : ∀ j, 3 ≤ j → j ≤ 6 → M 11 j = 0) :
    Fr [11] M (w2_X2_setPlaces (nI per) (dI o) (nI pace) M) ∧ (∀ j, w2_X2_setPlaces (nI per) (dI o) (nI pace) M 11 j = if j = 3 then nI (ltB A o) else if j = 4 then nI (ltF A o) else if j = 5 then nI (ltL A per o 0 pace) else if j = 6 then nI (ltL A per o 1 pace) else M 11 j) ∧ w3_X2_setPlaces (dI o) + w4_X2_setPlaces (dI o) = nI (ltE o) ∧ w6_X2_setPlaces (nI per) (dI o) (nI pace) M = nI (ltQ A o) := by
  have c3 : (3 : Int32).toNatClampNeg = 3 := rfl
  have c4 : (4 : Int32).toNatClampNeg = 4 := rfl
  have c5 : (5 : Int32).toNatClampNeg = 5 := rfl
  have c6 : (6 : Int32).toNatClampNeg = 6 := rfl
  have c7 : (7 : Int32).toNatClampNeg = 7 := rfl
  have good : ∀ (w p : Nat) (X : Nat → Nat → Int32), w < 5 → p < 2 → X 2 = M 2 → v_X7_goodAt (nI w) (nI p) X = nI (qG A (2 * w + p)) := by
    intro w p X hw hp' hX
    unfold v_X7_goodAt v_X5_at_2
    rw [show (2 : Int32) = nI 2 from rfl, pk_mul, nI_add, nI_clamp (by omega), hX]
    exact h2 _ (by omega)
  have pair : ∀ (w v : Nat) (X : Nat → Nat → Int32), w < 5 → v < 5 → X 5 = M 5 → v_X7_pairOf (nI w) (nI v) X = nI (qX A (5 * w + v)) := by
    intro w v X hw hv hX
    unfold v_X7_pairOf v_X5_at_5
    rw [show (5 : Int32) = nI 5 from rfl, pk_mul, nI_add, nI_clamp (by omega), hX]
    exact h5 _ (by omega)
  have legs : ∀ (i : Nat) (X : Nat → Nat → Int32), i < 5 → (2 ≤ i → 1 ≤ dgN o i ∧ dgN o i ≤ 6) → X 3 = M 3 → X 4 = M 4 → v_X7_legsOf (nI i) (nI per) (dI o) (nI pace) X = nI (lgF A per o i pace) := by
    intro i X hi hd e3 e4
    exact legs_c h.1 hi hd hA hp hpa (fun j hj => by rw [e3]; exact h3 j hj) (fun j hj => by rw [e4]; exact h4 j hj)
  rcases wh_cases h (show 0 < 2 by omega) with ⟨k1, k2, _⟩ | ⟨k1, k1', k2, _, k3⟩
  · have k2 : v_X7_whoIsAt (dI o) (0 : Int32) = -1 := k2
    rcases wh_cases h (show 1 < 2 by omega) with ⟨l1, l2, _⟩ | ⟨l1, l1', l2, _, l3⟩
    · have l2 : v_X7_whoIsAt (dI o) (1 : Int32) = -1 := l2
      simp only [w1_X2_setPlaces, w2_X2_setPlaces, w3_X2_setPlaces, w4_X2_setPlaces, w6_X2_setPlaces, w5_X2_setPlaces, k2, l2, if_pos neg1, if_neg neg1', ltB, ltF, ltL, ltE, ltQ, k1, l1, if_true, true_or]
      refine ⟨Fr.rfl' _ _, fun j => ?_, rfl, rfl⟩
      by_cases j3 : j = 3
      · rw [if_pos j3, j3]; exact z 3 (by omega) (by omega)
      rw [if_neg j3]
      by_cases j4 : j = 4
      · rw [if_pos j4, j4]; exact z 4 (by omega) (by omega)
      rw [if_neg j4]
      by_cases j5 : j = 5
      · rw [if_pos j5, j5]; exact z 5 (by omega) (by omega)
      rw [if_neg j5]
      by_cases j6 : j = 6
      · rw [if_pos j6, j6]; exact z 6 (by omega) (by omega)
      rw [if_neg j6]
    · have l2 : v_X7_whoIsAt (dI o) (1 : Int32) = nI (wh o 1) := l2
      have n1 : ¬ nI (wh o 1) < 0 := nI_pos (by omega)
      have p1 : 0 ≤ nI (wh o 1) := nI_pos' (by omega)
      have g1 := good (wh o 1) 1 M l1 (by omega) rfl
      have g2 := legs (wh o 1) (si M 11 4 (nI (qG A (2 * wh o 1 + 1)))) l1 l3 (si_row (by omega)) (si_row (by omega))
      simp only [w1_X2_setPlaces, w2_X2_setPlaces, w3_X2_setPlaces, w4_X2_setPlaces, w6_X2_setPlaces, w5_X2_setPlaces, k2, l2, if_pos neg1, if_neg neg1', if_neg n1, if_pos p1, ltB, ltF, ltL, ltE, ltQ, k1, if_neg (show ¬ wh o 1 = 9 by omega), if_true, true_or, c3, c4, c5, c6, show v_X7_goodAt (nI (wh o 1)) (1 : Int32) M = _ from g1, g2]
      refine ⟨(Fr.rfl' _ _).to rfl |>.to rfl, fun j => ?_, rfl, rfl⟩
      by_cases j3 : j = 3
      · subst j3; simp [si]; exact z 3 (by omega) (by omega)
      by_cases j4 : j = 4
      · subst j4; simp [si]
      by_cases j5 : j = 5
      · subst j5; simp [si]; exact z 5 (by omega) (by omega)
      by_cases j6 : j = 6
      · subst j6; simp [si]
      simp [si, j3, j4, j5, j6]
  · have k2 : v_X7_whoIsAt (dI o) (0 : Int32) = nI (wh o 0) := k2
    have n0 : ¬ nI (wh o 0) < 0 := nI_pos (by omega)
    have p0 : 0 ≤ nI (wh o 0) := nI_pos' (by omega)
    have f1 := good (wh o 0) 0 M k1 (by omega) rfl
    have f2 := legs (wh o 0) (si M 11 3 (nI (qG A (2 * wh o 0)))) k1 k3 (si_row (by omega)) (si_row (by omega))
    rcases wh_cases h (show 1 < 2 by omega) with ⟨l1, l2, _⟩ | ⟨l1, l1', l2, _, l3⟩
    · have l2 : v_X7_whoIsAt (dI o) (1 : Int32) = -1 := l2
      simp only [w1_X2_setPlaces, w2_X2_setPlaces, w3_X2_setPlaces, w4_X2_setPlaces, w6_X2_setPlaces, w5_X2_setPlaces, k2, l2, if_pos neg1, if_neg neg1', if_neg n0, if_pos p0, ltB, ltF, ltL, ltE, ltQ, l1, if_neg (show ¬ wh o 0 = 9 by omega), if_true, or_true, c3, c4, c5, c6, show v_X7_goodAt (nI (wh o 0)) (0 : Int32) M = nI (qG A (2 * wh o 0)) from f1, f2]
      refine ⟨(Fr.rfl' _ _).to rfl |>.to rfl, fun j => ?_, rfl, rfl⟩
      by_cases j3 : j = 3
      · subst j3; simp [si]
      by_cases j4 : j = 4
      · subst j4; simp [si]; exact z 4 (by omega) (by omega)
      by_cases j5 : j = 5
      · subst j5; simp [si]
      by_cases j6 : j = 6
      · subst j6; simp [si]; exact z 6 (by omega) (by omega)
      simp [si, j3, j4, j5, j6]
    · have l2 : v_X7_whoIsAt (dI o) (1 : Int32) = nI (wh o 1) := l2
      have n1 : ¬ nI (wh o 1) < 0 := nI_pos (by omega)
      have p1 : 0 ≤ nI (wh o 1) := nI_pos' (by omega)
      have hX : ∀ q, q ≠ 11 → (si (si M 11 3 (nI (qG A (2 * wh o 0)))) 11 5 (nI (lgF A per o (wh o 0) pace))) q = M q := fun q hq => by rw [si_row hq, si_row hq]
      have g1 := good (wh o 1) 1 (si (si M 11 3 (nI (qG A (2 * wh o 0)))) 11 5 (nI (lgF A per o (wh o 0) pace))) l1 (by omega) (hX 2 (by omega))
      have g2 := legs (wh o 1) (si (si (si M 11 3 (nI (qG A (2 * wh o 0)))) 11 5 (nI (lgF A per o (wh o 0) pace))) 11 4 (nI (qG A (2 * wh o 1 + 1)))) l1 l3 (by rw [si_row (by omega)]; exact hX 3 (by omega)) (by rw [si_row (by omega)]; exact hX 4 (by omega))
      have g3 : ∀ x y z : Int32, v_X7_pairOf (nI (wh o 0)) (nI (wh o 1)) (si (si (si (si (si M 11 3 (nI (qG A (2 * wh o 0)))) 11 5 (nI (lgF A per o (wh o 0) pace))) 11 4 x) 11 6 y) 11 7 z) = nI (qX A (5 * wh o 0 + wh o 1)) := fun x y z => pair (wh o 0) (wh o 1) _ k1 l1 (by rw [si_row (by omega), si_row (by omega), si_row (by omega)]; exact hX 5 (by omega))
      simp only [w1_X2_setPlaces, w2_X2_setPlaces, w3_X2_setPlaces, w4_X2_setPlaces, w6_X2_setPlaces, w5_X2_setPlaces, k2, l2, if_neg n0, if_pos p0, if_neg n1, if_pos p1, ltB, ltF, ltL, ltE, ltQ, if_neg (show ¬ wh o 0 = 9 by omega), if_neg (show ¬ wh o 1 = 9 by omega), if_neg (show ¬ (wh o 0 = 9 ∨ wh o 1 = 9) by omega), c3, c4, c5, c6, c7, show v_X7_goodAt (nI (wh o 0)) (0 : Int32) M = nI (qG A (2 * wh o 0)) from f1, f2, show v_X7_goodAt (nI (wh o 1)) (1 : Int32) (si (si M 11 3 (nI (qG A (2 * wh o 0)))) 11 5 (nI (lgF A per o (wh o 0) pace))) = _ from g1, g2, g3]
      refine ⟨(Fr.rfl' _ _).to rfl |>.to rfl |>.to rfl |>.to rfl, fun j => ?_, rfl, trivial⟩
      by_cases j3 : j = 3
      · subst j3; simp [si]
      by_cases j4 : j = 4
      · subst j4; simp [si]
      by_cases j5 : j = 5
      · subst j5; simp [si]
      by_cases j6 : j = 6
      · subst j6; simp [si]
      simp [si, j3, j4, j5, j6]
/-- what setPlaces asks for -/
theorem sp_pre {o : Nat} (h : CD o) : ((¬ (v_X7_whoIsAt (dI o) (0 : Int32) < 0)) → (vp_in (((2 : Int32) * (v_X7_whoIsAt (dI o) (0 : Int32))) + (0 : Int32)) 10 ∧ ((¬ ((2 : Int32) ≤ (v_X7_whoIsAt (dI o) (0 : Int32)))) → (vp_in (v_X7_whoIsAt (dI o) (0 : Int32)) 5 ∧ vp_in (v_X7_whoIsAt (dI o) (0 : Int32)) 5)))) ∧ ((¬ (v_X7_whoIsAt (dI o) (1 : Int32) < 0)) → (vp_in (((2 : Int32) * (v_X7_whoIsAt (dI o) (1 : Int32))) + (1 : Int32)) 10 ∧ ((¬ ((2 : Int32) ≤ (v_X7_whoIsAt (dI o) (1 : Int32)))) → (vp_in (v_X7_whoIsAt (dI o) (1 : Int32)) 5 ∧ vp_in (v_X7_whoIsAt (dI o) (1 : Int32)) 5)))) ∧ ((¬ (v_X7_whoIsAt (dI o) (0 : Int32) < 0)) → (0 ≤ v_X7_whoIsAt (dI o) (1 : Int32) → vp_in (((5 : Int32) * (v_X7_whoIsAt (dI o) (0 : Int32))) + (v_X7_whoIsAt (dI o) (1 : Int32))) 25)) := by
  have k0 : v_X7_whoIsAt (dI o) (0 : Int32) = -1 ∨ ∃ w : Nat, w < 5 ∧ v_X7_whoIsAt (dI o) (0 : Int32) = nI w := by
    rcases wh_cases h (show 0 < 2 by omega) with ⟨_, k2, _⟩ | ⟨k1, _, k2, _⟩
    · exact Or.inl k2
    · exact Or.inr ⟨_, k1, k2⟩
  have k1 : v_X7_whoIsAt (dI o) (1 : Int32) = -1 ∨ ∃ w : Nat, w < 5 ∧ v_X7_whoIsAt (dI o) (1 : Int32) = nI w := by
    rcases wh_cases h (show 1 < 2 by omega) with ⟨_, k2, _⟩ | ⟨k1, _, k2, _⟩
    · exact Or.inl k2
    · exact Or.inr ⟨_, k1, k2⟩
  refine ⟨fun n => ?_, fun n => ?_, fun n p => ?_⟩
  · rcases k0 with e | ⟨w, hw, e⟩
    · rw [e] at n; exact absurd neg1 n
    · rw [e]
      refine ⟨?_, fun _ => ⟨vp_in_nI hw (by omega), vp_in_nI hw (by omega)⟩⟩
      rw [show (2 : Int32) = nI 2 from rfl, pk_mul, show (0 : Int32) = nI 0 from rfl, nI_add]
      exact vp_in_nI (by omega) (by omega)
  · rcases k1 with e | ⟨w, hw, e⟩
    · rw [e] at n; exact absurd neg1 n
    · rw [e]
      refine ⟨?_, fun _ => ⟨vp_in_nI hw (by omega), vp_in_nI hw (by omega)⟩⟩
      rw [show (2 : Int32) = nI 2 from rfl, pk_mul, show (1 : Int32) = nI 1 from rfl, nI_add]
      exact vp_in_nI (by omega) (by omega)
  · rcases k0 with e | ⟨w, hw, e⟩
    · rw [e] at n; exact absurd neg1 n
    · rcases k1 with e1 | ⟨v, hv, e1⟩
      · rw [e1] at p; exact absurd p neg1'
      · rw [e, e1, show (5 : Int32) = nI 5 from rfl, pk_mul, nI_add]
        exact vp_in_nI (by omega) (by omega)
