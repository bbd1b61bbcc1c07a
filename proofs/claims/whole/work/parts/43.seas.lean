/-! A SEASON: what a row of WEEKS is worth, in plain numbers; digits of a long. -/
def wkF (G X : Nat → Nat) (st row : Nat) : Nat := G (2 * (row / 5)) * (st / 4 ^ (row / 5) % 4) + G (2 * (row % 5) + 1) * (st / 4 ^ (row % 5) % 4) + X (5 * (row / 5) + row % 5)
def nxS (st row : Nat) : Nat := cN (v_X6_next (nI st) (nI row))
def rowB (row : Nat) : Bool := !(Nat.beq (row / 5) (row % 5))
def smx (f : Nat → Nat) : Nat → Nat
  | 0 => 0
  | k + 1 => if rowB k = true ∧ smx f k < f k then f k else smx f k
def sV (G X : Nat → Nat) : Nat → Nat → Nat
  | 0 => fun _ => 0
  | l + 1 => fun st => smx (fun row => wkF G X st row + sV G X l (nxS st row)) 25
abbrev sF (G X : Nat → Nat) (l st : Nat) : Nat → Nat := fun row => wkF G X st row + sV G X l (nxS st row)
def frow (p : Nat → Bool) : Nat → Nat → Nat
  | 0, k => k
  | f + 1, k => if p k = true then k else frow p f (k + 1)
def lP (G X : Nat → Nat) (l st : Nat) : Nat → Bool := fun row => rowB row && Nat.beq (sF G X l st row) (sV G X (l + 1) st)
def lR (G X : Nat → Nat) (l st : Nat) : Nat := frow (lP G X l st) 25 0
/-- the STATE ahead of WEEK w of a PLAN of L WEEKS -/
def pSt (G X : Nat → Nat) (L st0 : Nat) : Nat → Nat
  | 0 => st0
  | w + 1 => nxS (pSt G X L st0 w) (lR G X (L - w - 1) (pSt G X L st0 w))
theorem smx_le {f : Nat → Nat} {M : Nat} (h : ∀ r, r < 25 → f r ≤ M) : ∀ k, k ≤ 25 → smx f k ≤ M := by
  intro k
  induction k with
  | zero => intro _; exact Nat.zero_le _
  | succ k ih =>
    intro hk
    unfold smx
    split
    · exact h k (by omega)
    · exact ih (by omega)
theorem smx_ge {f : Nat → Nat} : ∀ k r, r < k → rowB r = true → f r ≤ smx f k := by
  intro k
  induction k with
  | zero => intro r h; omega
  | succ k ih =>
    intro r h hr
    unfold smx
    rcases Nat.lt_succ_iff_lt_or_eq.mp h with q | q
    · have := ih r q hr
      split
      · next c => exact Nat.le_trans this (Nat.le_of_lt c.2)
      · exact this
    · subst q
      split
      · exact Nat.le_refl _
      · next c =>
        rcases Nat.lt_or_ge (smx f r) (f r) with q | q
        · exact absurd ⟨hr, q⟩ c
        · exact q
theorem smx_at {f : Nat → Nat} : ∀ k, smx f k = 0 ∨ ∃ r, r < k ∧ rowB r = true ∧ f r = smx f k := by
  intro k
  induction k with
  | zero => exact Or.inl rfl
  | succ k ih =>
    by_cases c : rowB k = true ∧ smx f k < f k
    · refine Or.inr ⟨k, Nat.lt_succ_self _, c.1, ?_⟩
      unfold smx
      rw [if_pos c]
    · have e : smx f (k + 1) = smx f k := if_neg c
      rw [e]
      rcases ih with q | ⟨r, h1, h2, h3⟩
      · exact Or.inl q
      · exact Or.inr ⟨r, by omega, h2, h3⟩
theorem smx_ex (f : Nat → Nat) : ∃ r, r < 25 ∧ rowB r = true ∧ f r = smx f 25 := by
  rcases smx_at (f := f) 25 with q | q
  · refine ⟨1, by omega, rfl, ?_⟩
    have := smx_ge (f := f) 25 1 (by omega) rfl
    omega
  · exact q
theorem frow_is {p : Nat → Bool} : ∀ (f k r : Nat), k ≤ r → r < k + f → p r = true → p (frow p f k) = true ∧ k ≤ frow p f k ∧ frow p f k ≤ r := by
  intro f
  induction f with
  | zero => intro k r h1 h2; omega
  | succ f ih =>
    intro k r h1 h2 hp
    unfold frow
    by_cases c : p k = true
    · rw [if_pos c]; exact ⟨c, Nat.le_refl _, h1⟩
    · rw [if_neg c]
      have : k ≠ r := fun e => by rw [e] at c; exact c hp
      obtain ⟨a, b, e⟩ := ih (k + 1) r (by omega) (by omega) hp
      exact ⟨a, by omega, e⟩
theorem lR_is (G X : Nat → Nat) (l st : Nat) : lP G X l st (lR G X l st) = true ∧ lR G X l st < 25 := by
  obtain ⟨r, h1, h2, h3⟩ := smx_ex (sF G X l st)
  have hp : lP G X l st r = true := by
    unfold lP
    rw [h2, Bool.true_and, h3]
    exact Nat.beq_refl _
  obtain ⟨a, _, b⟩ := frow_is 25 0 r (Nat.zero_le _) (by omega) hp
  exact ⟨a, by show frow _ 25 0 < 25; omega⟩
def ckNx (st : Nat) : Bool := allB (fun row => Nat.blt (nxS st row) 1024 && eqI (v_X12_freshAfter (nI st) (nI (row / 5)) (nI (row % 5))) (nI (nxS st row))) 25
theorem all_nx : allB ckNx 1024 = true := by decide +kernel
theorem nx_c {st row : Nat} (h : st < 1024) (hr : row < 25) : nxS st row < 1024 ∧ v_X6_next (nI st) (nI row) = nI (nxS st row) ∧ v_X12_freshAfter (nI st) (nI (row / 5)) (nI (row % 5)) = nI (nxS st row) := by
  have q := allB_get (allB_get all_nx st h) row hr
  rw [Bool.and_eq_true] at q
  exact ⟨by simpa [Nat.blt, Nat.lt_iff_add_one_le] using q.1, (nI_cN _).symm, eqI_eq q.2⟩
def bgE (a b c d e : Int32) : Int32 := ((((((0 : Int32) ||| (a <<< ((0 : Int32) &&& 31))) ||| (b <<< ((2 : Int32) &&& 31))) ||| (c <<< ((4 : Int32) &&& 31))) ||| (d <<< ((6 : Int32) &&& 31))) ||| (e <<< ((8 : Int32) &&& 31)))
theorem all_bg : allB (fun s => eqI (bgE (nI (s % 4)) (nI (s / 4 % 4)) (nI (s / 16 % 4)) (nI (s / 64 % 4)) (nI (s / 256 % 4))) (nI s)) 1024 = true := by decide +kernel
def stB (f : Nat → Nat) : Nat := f 0 + 4 * f 1 + 16 * f 2 + 64 * f 3 + 256 * f 4
theorem bg_c {f : Nat → Nat} (h : ∀ j, j < 5 → f j ≤ 3) : stB f < 1024 ∧ bgE (nI (f 0)) (nI (f 1)) (nI (f 2)) (nI (f 3)) (nI (f 4)) = nI (stB f) := by
  have h0 := h 0 (by omega)
  have h1 := h 1 (by omega)
  have h2 := h 2 (by omega)
  have h3 := h 3 (by omega)
  have h4 := h 4 (by omega)
  have hs : stB f < 1024 := by unfold stB; omega
  refine ⟨hs, ?_⟩
  have q := eqI_eq (allB_get all_bg _ hs)
  rw [show stB f % 4 = f 0 by unfold stB; omega, show stB f / 4 % 4 = f 1 by unfold stB; omega, show stB f / 16 % 4 = f 2 by unfold stB; omega, show stB f / 64 % 4 = f 3 by unfold stB; omega, show stB f / 256 % 4 = f 4 by unfold stB; omega] at q
  exact q
/-- how FRESH -/
theorem fr_c {st a : Nat} (h : st < 1024) (ha : a < 5) : (nI st >>> (((2 : Int32) * nI a) &&& 31)) &&& (3 : Int32) = nI (st / 4 ^ a % 4) := by
  rcases (show a = 0 ∨ a = 1 ∨ a = 2 ∨ a = 3 ∨ a = 4 by omega) with rfl | rfl | rfl | rfl | rfl
  · rw [pk_shrN (by omega) _ 0 (by decide), pk_andN (by omega) 2 (by decide)]
  · rw [pk_shrN (by omega) _ 2 (by decide), pk_andN (by omega) 2 (by decide)]
  · rw [pk_shrN (by omega) _ 4 (by decide), pk_andN (by omega) 2 (by decide)]
  · rw [pk_shrN (by omega) _ 6 (by decide), pk_andN (by omega) 2 (by decide)]
  · rw [pk_shrN (by omega) _ 8 (by decide), pk_andN (by omega) 2 (by decide)]
theorem wk_le {G X : Nat → Nat} (hG : ∀ j, j < 10 → G j ≤ 9) (hX : ∀ j, j < 25 → X j ≤ 9) {st row : Nat} (hr : row < 25) : wkF G X st row ≤ 63 := by
  have g1 := hG (2 * (row / 5)) (by omega)
  have g2 := hG (2 * (row % 5) + 1) (by omega)
  have x1 := hX (5 * (row / 5) + row % 5) (by omega)
  have m1 : G (2 * (row / 5)) * (st / 4 ^ (row / 5) % 4) ≤ 9 * 3 := Nat.mul_le_mul g1 (by omega)
  have m2 : G (2 * (row % 5) + 1) * (st / 4 ^ (row % 5) % 4) ≤ 9 * 3 := Nat.mul_le_mul g2 (by omega)
  unfold wkF
  omega
theorem sV_le {G X : Nat → Nat} (hG : ∀ j, j < 10 → G j ≤ 9) (hX : ∀ j, j < 25 → X j ≤ 9) : ∀ l st, sV G X l st ≤ 63 * l := by
  intro l
  induction l with
  | zero => intro st; exact Nat.le_refl _
  | succ l ih =>
    intro st
    refine smx_le (fun r hr => ?_) 25 (Nat.le_refl _)
    have h1 := wk_le (G := G) (X := X) hG hX (st := st) hr
    have h2 := ih (nxS st r)
    show wkF G X st r + sV G X l (nxS st r) ≤ _
    omega
/-! nine bits each -/
theorem pf_shr63 {a d : Nat} {D : Int64} (hD : (D.toBitVec.smod 64).toNat = d) (h : a < 2 ^ 63) : lN a >>> D = lN (a / 2 ^ d) := by
  have hd : a / 2 ^ d ≤ a := Nat.div_le_self _ _
  apply Int64.toInt_inj.mp
  have e : (lN a >>> D).toInt = (lN a).toInt >>> d := by
    rw [← hD]
    exact BitVec.toInt_sshiftRight ..
  rw [e, Int.shiftRight_eq_div_pow, pf_lI h, pf_lI (by omega)]
  rfl
theorem c7 {i : Nat} (h : i < 7) : i = 0 ∨ i = 1 ∨ i = 2 ∨ i = 3 ∨ i = 4 ∨ i = 5 ∨ i = 6 := by omega
def shI (i : Nat) : Int32 := (9 : Int32) * (nI (i + 1) - 1)
theorem nI_tn (n : Nat) : (nI n).toBitVec.toNat = n % 2 ^ 32 := by
  show (BitVec.ofNat 32 n).toNat = _
  exact BitVec.toNat_ofNat _ _
theorem and511 (n : Nat) : nI n &&& (511 : Int32) = nI (n % 512) := by
  rw [pk_and (nI n) 9 (by decide), nI_tn]
  congr 1
  omega
theorem pk_get {S i : Nat} (hi : i < 7) (hS : S < 2 ^ 63) : ((lN S >>> ((shI i).toInt64 &&& 63)).toInt32) &&& (511 : Int32) = nI (S / 512 ^ i % 512) := by
  have key : ∀ d, (((shI i).toInt64 &&& 63).toBitVec.smod 64).toNat = d → 2 ^ d = 512 ^ i → ((lN S >>> ((shI i).toInt64 &&& 63)).toInt32) &&& (511 : Int32) = nI (S / 512 ^ i % 512) := by
    intro d hD hp
    rw [pf_shr63 hD hS, lN_i, and511, hp]
  rcases c7 hi with rfl | rfl | rfl | rfl | rfl | rfl | rfl
  · exact key 0 (by decide) rfl
  · exact key 9 (by decide) rfl
  · exact key 18 (by decide) rfl
  · exact key 27 (by decide) rfl
  · exact key 36 (by decide) rfl
  · exact key 45 (by decide) rfl
  · exact key 54 (by decide) rfl
theorem or_put {S k kn : Nat} (hz : S / 2 ^ k % 512 = 0) (hk : kn < 512) : S ||| kn * 2 ^ k = S + kn * 2 ^ k := by
  have e9 : 2 ^ (k + 9) = 2 ^ k * 512 := by rw [Nat.pow_add]
  have hp : 0 < 2 ^ k := Nat.two_pow_pos k
  have e1 : S / 2 ^ k = 512 * (S / 2 ^ (k + 9)) := by
    rw [e9, ← Nat.div_div_eq_div_mul]
    omega
  have e2 : S = 2 ^ (k + 9) * (S / 2 ^ (k + 9)) + S % 2 ^ k := by
    have := Nat.div_add_mod S (2 ^ k)
    rw [e1] at this
    rw [e9, Nat.mul_assoc]
    rw [e9] at this
    exact this.symm
  have hlo : S % 2 ^ k < 2 ^ k := Nat.mod_lt _ hp
  have hlo9 : S % 2 ^ k < 2 ^ (k + 9) := by rw [e9]; omega
  have hsum : 2 ^ k * kn + S % 2 ^ k < 2 ^ (k + 9) := by
    rw [e9]
    have : 2 ^ k * kn ≤ 2 ^ k * 511 := Nat.mul_le_mul_left _ (by omega)
    omega
  rw [Nat.mul_comm kn]
  generalize hh : S / 2 ^ (k + 9) = hi at e2
  generalize S % 2 ^ k = lo at *
  rw [e2, Nat.two_pow_add_eq_or_of_lt hlo9, Nat.or_assoc, Nat.or_comm lo, ← Nat.two_pow_add_eq_or_of_lt hlo, ← Nat.two_pow_add_eq_or_of_lt hsum, ← Nat.two_pow_add_eq_or_of_lt hlo9]
  omega
theorem or_same {S k kn : Nat} (hz : S / 2 ^ k % 512 = kn) : S ||| kn * 2 ^ k = S := by
  have e9 : 2 ^ (k + 9) = 2 ^ k * 512 := by rw [Nat.pow_add]
  have hp : 0 < 2 ^ k := Nat.two_pow_pos k
  have hk : kn < 512 := by omega
  have e1 : S / 2 ^ k = 512 * (S / 2 ^ (k + 9)) + kn := by
    rw [e9, ← Nat.div_div_eq_div_mul]
    omega
  have e2 : S = 2 ^ (k + 9) * (S / 2 ^ (k + 9)) + (2 ^ k * kn + S % 2 ^ k) := by
    have := Nat.div_add_mod S (2 ^ k)
    rw [e1, Nat.mul_add] at this
    rw [e9, Nat.mul_assoc]
    rw [e9] at this
    omega
  have hlo : S % 2 ^ k < 2 ^ k := Nat.mod_lt _ hp
  have hsum : 2 ^ k * kn + S % 2 ^ k < 2 ^ (k + 9) := by
    rw [e9]
    have : 2 ^ k * kn ≤ 2 ^ k * 511 := Nat.mul_le_mul_left _ (by omega)
    omega
  rw [Nat.mul_comm kn]
  generalize hh : S / 2 ^ (k + 9) = hi at e2
  generalize S % 2 ^ k = lo at *
  have e3 : S = 2 ^ (k + 9) * hi ||| (2 ^ k * kn ||| lo) := by
    rw [e2, Nat.two_pow_add_eq_or_of_lt hsum, Nat.two_pow_add_eq_or_of_lt hlo]
  rw [e3, Nat.or_assoc, Nat.or_comm _ (2 ^ k * kn), ← Nat.or_assoc (2 ^ k * kn), Nat.or_self]
theorem lN_or (a b : Nat) : lN a ||| lN b = lN (a ||| b) := by
  apply Int64.toBitVec_inj.mp
  show (BitVec.ofNat 64 a) ||| (BitVec.ofNat 64 b) = BitVec.ofNat 64 (a ||| b)
  rw [BitVec.ofNat_or]
theorem lN_shl {a k : Nat} {y : Int64} (hy : (y.toBitVec.smod 64).toNat = k) : lN a <<< y = lN (a * 2 ^ k) := by
  apply Int64.toBitVec_inj.mp
  rw [Int64.toBitVec_shiftLeft, BitVec.shiftLeft_eq', hy]
  apply BitVec.eq_of_toNat_eq
  rw [BitVec.toNat_shiftLeft, Nat.shiftLeft_eq]
  show (a % 2 ^ 64 * 2 ^ k) % 2 ^ 64 = (a * 2 ^ k) % 2 ^ 64
  rw [Nat.mul_mod, Nat.mod_mod, ← Nat.mul_mod]
theorem pk_put {S i kn : Nat} (hi : i < 7) (hk : kn < 512) (hz : S / 512 ^ i % 512 = 0) : lN S ||| ((nI kn).toInt64 <<< ((shI i).toInt64 &&& 63)) = lN (S + kn * 512 ^ i) := by
  have key : ∀ d, (((shI i).toInt64 &&& 63).toBitVec.smod 64).toNat = d → 2 ^ d = 512 ^ i → lN S ||| ((nI kn).toInt64 <<< ((shI i).toInt64 &&& 63)) = lN (S + kn * 512 ^ i) := by
    intro d hD hp
    rw [nI_l (by omega), lN_shl hD, lN_or, or_put (by rw [hp]; exact hz) hk, hp]
  rcases c7 hi with rfl | rfl | rfl | rfl | rfl | rfl | rfl
  · exact key 0 (by decide) rfl
  · exact key 9 (by decide) rfl
  · exact key 18 (by decide) rfl
  · exact key 27 (by decide) rfl
  · exact key 36 (by decide) rfl
  · exact key 45 (by decide) rfl
  · exact key 54 (by decide) rfl
theorem pk_same {S i kn : Nat} (hi : i < 7) (hz : S / 512 ^ i % 512 = kn) : lN S ||| ((nI kn).toInt64 <<< ((shI i).toInt64 &&& 63)) = lN S := by
  have hk : kn < 512 := by omega
  have key : ∀ d, (((shI i).toInt64 &&& 63).toBitVec.smod 64).toNat = d → 2 ^ d = 512 ^ i → lN S ||| ((nI kn).toInt64 <<< ((shI i).toInt64 &&& 63)) = lN S := by
    intro d hD hp
    rw [nI_l (by omega), lN_shl hD, lN_or, or_same (by rw [hp]; exact hz)]
  rcases c7 hi with rfl | rfl | rfl | rfl | rfl | rfl | rfl
  · exact key 0 (by decide) rfl
  · exact key 9 (by decide) rfl
  · exact key 18 (by decide) rfl
  · exact key 27 (by decide) rfl
  · exact key 36 (by decide) rfl
  · exact key 45 (by decide) rfl
  · exact key 54 (by decide) rfl
theorem pw_c : (512 : Nat) ^ 0 = 1 ∧ (512 : Nat) ^ 1 = 512 ∧ (512 : Nat) ^ 2 = 262144 ∧ (512 : Nat) ^ 3 = 134217728 ∧ (512 : Nat) ^ 4 = 68719476736 ∧ (512 : Nat) ^ 5 = 35184372088832 ∧ (512 : Nat) ^ 6 = 18014398509481984 := ⟨rfl, rfl, rfl, rfl, rfl, rfl, rfl⟩
theorem dig_put {S i j kn : Nat} (hi : i < 7) (hj : j < 7) (hk : kn < 512) (hz : S / 512 ^ i % 512 = 0) : (S + kn * 512 ^ i) / 512 ^ j % 512 = if j = i then kn else S / 512 ^ j % 512 := by
  obtain ⟨p0, p1, p2, p3, p4, p5, p6⟩ := pw_c
  rcases c7 hi with rfl | rfl | rfl | rfl | rfl | rfl | rfl <;> rcases c7 hj with rfl | rfl | rfl | rfl | rfl | rfl | rfl <;> simp only [p0, p1, p2, p3, p4, p5, p6] at hz ⊢ <;> simp <;> omega
theorem dig_lt {S i kn : Nat} (hi : i < 7) (hk : kn < 512) (hS : S < 2 ^ 63) (hz : S / 512 ^ i % 512 = 0) : S + kn * 512 ^ i < 2 ^ 63 := by
  obtain ⟨p0, p1, p2, p3, p4, p5, p6⟩ := pw_c
  rcases c7 hi with rfl | rfl | rfl | rfl | rfl | rfl | rfl <;> simp only [p0, p1, p2, p3, p4, p5, p6] at hz ⊢ <;> omega
def SMO (G X : Nat → Nat) (J : Nat → Nat → Int64) : Prop := ∀ st, st < 1024 → ∃ S, S < 2 ^ 63 ∧ J 82 st = lN S ∧ ∀ i, i < 7 → S / 512 ^ i % 512 = 0 ∨ S / 512 ^ i % 512 = sV G X (i + 1) st + 1
theorem SMO.zero (G X : Nat → Nat) (J : Nat → Nat → Int64) : SMO G X (zj J 82 1024) := by
  intro st hst
  refine ⟨0, by omega, zj_at hst, fun i _ => Or.inl ?_⟩
  rw [Nat.zero_div]
theorem SMO.put {G X : Nat → Nat} {J : Nat → Nat → Int64} {st i S : Nat} (h : SMO G X J) (hst : st < 1024) (hi : i < 7) (hS : S < 2 ^ 63) (e : J 82 st = lN S) (hd : ∀ i, i < 7 → S / 512 ^ i % 512 = 0 ∨ S / 512 ^ i % 512 = sV G X (i + 1) st + 1) (hz : S / 512 ^ i % 512 = 0) (hk : sV G X (i + 1) st + 1 < 512) : SMO G X (sj J 82 st (lN (S + (sV G X (i + 1) st + 1) * 512 ^ i))) := by
  intro st' hst'
  by_cases q : st' = st
  · subst q
    refine ⟨_, dig_lt hi hk hS hz, sj_at, fun j hj => ?_⟩
    rw [dig_put hi hj hk hz]
    by_cases q : j = i
    · subst q; rw [if_pos rfl]; exact Or.inr rfl
    · rw [if_neg q]; exact hd j hj
  · obtain ⟨S', a, b, c⟩ := h st' hst'
    exact ⟨S', a, by rw [sj_ne q]; exact b, c⟩
