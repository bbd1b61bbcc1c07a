/-! MIXED: numbers. -/
def mnN (a b : Nat) : Nat := if b < a then b else a
def mxN (a b : Nat) : Nat := if b < a then a else b
theorem mnN_c (a b : Nat) : (mnN a b = a ∧ a ≤ b) ∨ (mnN a b = b ∧ b ≤ a) := by
  unfold mnN
  by_cases h : b < a
  · rw [if_pos h]; exact Or.inr ⟨rfl, by omega⟩
  · rw [if_neg h]; exact Or.inl ⟨rfl, by omega⟩
theorem mxN_c (a b : Nat) : (mxN a b = b ∧ a ≤ b) ∨ (mxN a b = a ∧ b ≤ a) := by
  unfold mxN
  by_cases h : b < a
  · rw [if_pos h]; exact Or.inr ⟨rfl, by omega⟩
  · rw [if_neg h]; exact Or.inl ⟨rfl, by omega⟩
theorem mnN_lt {a b n : Nat} (ha : a < n) (hb : b < n) : mnN a b < n := by
  rcases mnN_c a b with h | h <;> omega
theorem mxN_lt {a b n : Nat} (ha : a < n) (hb : b < n) : mxN a b < n := by
  rcases mxN_c a b with h | h <;> omega
theorem lmn {a b : Nat} (ha : a < 2 ^ 63) (hb : b < 2 ^ 63) : (if lN b < lN a then lN b else lN a) = lN (mnN a b) := by
  unfold mnN
  by_cases h : b < a
  · rw [if_pos h, if_pos ((pk_lLT hb ha).mpr h)]
  · rw [if_neg h, if_neg (fun q => h ((pk_lLT hb ha).mp q))]
theorem lmx {a b : Nat} (ha : a < 2 ^ 63) (hb : b < 2 ^ 63) : (if lN b < lN a then lN a else lN b) = lN (mxN a b) := by
  unfold mxN
  by_cases h : b < a
  · rw [if_pos h, if_pos ((pk_lLT hb ha).mpr h)]
  · rw [if_neg h, if_neg (fun q => h ((pk_lLT hb ha).mp q))]
theorem rmn {a b : Nat} (ha : a < 2 ^ 63) (hb : b < 2 ^ 63) : v_X12_less (lN a) (lN b) = lN (mnN a b) := by
  unfold v_X12_less mnN
  by_cases h : b < a
  · rw [if_pos h, if_pos ((lg_cmp_ge _ _).mpr ((pk_lLE hb ha).mpr (Nat.le_of_lt h)))]
  · rw [if_neg h]
    by_cases e : b = a
    · rw [e]; split <;> rfl
    · exact if_neg (fun q => by have := (pk_lLE hb ha).mp ((lg_cmp_ge _ _).mp q); omega)
theorem rmx {a b : Nat} (ha : a < 2 ^ 63) (hb : b < 2 ^ 63) : v_X12_more (lN a) (lN b) = lN (mxN a b) := by
  unfold v_X12_more mxN
  by_cases h : b < a
  · rw [if_pos h]
    exact if_neg (fun q => by have := (pk_lLE ha hb).mp ((lg_cmp_le _ _).mp q); omega)
  · rw [if_neg h, if_pos ((lg_cmp_le _ _).mpr ((pk_lLE ha hb).mpr (by omega)))]
def mxLo (p q u v : Nat) : Nat := mxN (mnN p q) (mnN u v)
def mxHi (p q u v : Nat) : Nat := mnN (mxN p u) (mxN q v)
def mxFar (p q u v : Nat) : Nat := mxN (mxN p q) (mxN u v) - mnN (mnN p q) (mnN u v)
theorem mx_cases {p q u v : Nat} (h : mxLo p q u v ≠ mxHi p q u v) : (q ≤ mxLo p q u v ∧ u ≤ mxLo p q u v ∧ (q = mxLo p q u v ∨ u = mxLo p q u v) ∧ mxLo p q u v < p ∧ mxLo p q u v < v) ∨ (p ≤ mxLo p q u v ∧ v ≤ mxLo p q u v ∧ (p = mxLo p q u v ∨ v = mxLo p q u v) ∧ mxLo p q u v < q ∧ mxLo p q u v < u) := by
  unfold mxLo mxHi at *
  have a := mnN_c p q
  have b := mnN_c u v
  have c := mxN_c (mnN p q) (mnN u v)
  have e := mxN_c p u
  have f := mxN_c q v
  have g := mnN_c (mxN p u) (mxN q v)
  rcases a with a | a
  · refine Or.inr ?_
    rcases b with b | b <;> rcases c with c | c <;> rcases e with e | e <;> rcases f with f | f <;> rcases g with g | g <;> omega
  · rcases b with b | b <;> rcases c with c | c <;> rcases e with e | e <;> rcases f with f | f <;> rcases g with g | g <;> omega
theorem mx_far {p q u v : Nat} : p - mxLo p q u v ≤ mxFar p q u v ∧ q - mxLo p q u v ≤ mxFar p q u v ∧ u - mxLo p q u v ≤ mxFar p q u v ∧ v - mxLo p q u v ≤ mxFar p q u v ∧ mnN (mnN p q) (mnN u v) ≤ mxN (mxN p q) (mxN u v) ∧ p + v - q - u ≤ 2 * mxFar p q u v ∧ q + u - p - v ≤ 2 * mxFar p q u v := by
  unfold mxLo mxFar
  have a := mnN_c p q
  have b := mnN_c u v
  have c := mxN_c (mnN p q) (mnN u v)
  have e := mxN_c p q
  have f := mxN_c u v
  have g := mnN_c (mnN p q) (mnN u v)
  have h := mxN_c (mxN p q) (mxN u v)
  have m1 : mnN (mnN p q) (mnN u v) ≤ mxN (mnN p q) (mnN u v) := by omega
  have x1 : p ≤ mxN (mxN p q) (mxN u v) := by omega
  have x2 : q ≤ mxN (mxN p q) (mxN u v) := by omega
  have x3 : u ≤ mxN (mxN p q) (mxN u v) := by omega
  have x4 : v ≤ mxN (mxN p q) (mxN u v) := by omega
  have y1 : mnN (mnN p q) (mnN u v) ≤ p := by omega
  have y2 : mnN (mnN p q) (mnN u v) ≤ q := by omega
  have y3 : mnN (mnN p q) (mnN u v) ≤ u := by omega
  have y4 : mnN (mnN p q) (mnN u v) ≤ v := by omega
  clear a b c e f g h
  exact ⟨by omega, by omega, by omega, by omega, by omega, by omega, by omega⟩
def mxNm (p q u v : Nat) : Nat := (p - mxLo p q u v) * (v - mxLo p q u v) + (q - mxLo p q u v) * (u - mxLo p q u v)
def mxDn (p q u v : Nat) : Nat := (p + v - q - u) + (q + u - p - v)
theorem lNz (n : Nat) : lN n = Int64.ofInt (n : Int) := Int64.ofInt_eq_ofNat.symm
theorem mx_num {p q u v : Nat} (h : mxLo p q u v ≠ mxHi p q u v) (hf : mxFar p q u v ≤ 2000000000) : 0 < mxNm p q u v ∧ mxNm p q u v < 2 ^ 63 ∧ 0 < mxDn p q u v ∧ mxDn p q u v < 2 ^ 63 ∧ ((((lN p - lN (mxLo p q u v)) * (lN v - lN (mxLo p q u v))) - ((lN q - lN (mxLo p q u v)) * (lN u - lN (mxLo p q u v))) = lN (mxNm p q u v) ∧ ((lN p + lN v) - lN q) - lN u = lN (mxDn p q u v)) ∨ (((lN p - lN (mxLo p q u v)) * (lN v - lN (mxLo p q u v))) - ((lN q - lN (mxLo p q u v)) * (lN u - lN (mxLo p q u v))) = -lN (mxNm p q u v) ∧ ((lN p + lN v) - lN q) - lN u = -lN (mxDn p q u v))) := by
  obtain ⟨f1, f2, f3, f4, _, f6, f7⟩ := @mx_far p q u v
  have hc := mx_cases h
  unfold mxNm mxDn
  generalize mxLo p q u v = o at *
  have big : ∀ x y : Nat, x ≤ 2000000000 → y ≤ 2000000000 → x * y ≤ 4000000000000000000 := fun x y hx hy => Nat.mul_le_mul hx hy
  rcases hc with ⟨c1, c2, c3, c4, c5⟩ | ⟨c1, c2, c3, c4, c5⟩
  · have z : (q - o) * (u - o) = 0 := by rw [Nat.sub_eq_zero_of_le c1, Nat.zero_mul]
    have b := big (p - o) (v - o) (by omega) (by omega)
    have b0 : 0 < (p - o) * (v - o) := Nat.mul_pos (by omega) (by omega)
    have zi : ((q : Int) - (o : Int)) * ((u : Int) - (o : Int)) = 0 := by
      rcases c3 with c | c
      · rw [c, Int.sub_self, Int.zero_mul]
      · rw [c, Int.sub_self, Int.mul_zero]
    rw [z, Nat.add_zero, show (p + v - q - u) + (q + u - p - v) = p + v - q - u by omega]
    refine ⟨b0, by omega, by omega, by omega, Or.inl ⟨?_, ?_⟩⟩
    · rw [lN_sub (Nat.le_of_lt c4), lN_sub (Nat.le_of_lt c5), lN_mul, lNz q, lNz u, lNz o, ← Int64.ofInt_sub, ← Int64.ofInt_sub, ← Int64.ofInt_mul, zi, show Int64.ofInt 0 = 0 from rfl]
      exact Int64.sub_zero _
    · rw [lN_add, lN_sub (by omega), lN_sub (by omega)]
  · have z : (p - o) * (v - o) = 0 := by rw [Nat.sub_eq_zero_of_le c1, Nat.zero_mul]
    have b := big (q - o) (u - o) (by omega) (by omega)
    have b0 : 0 < (q - o) * (u - o) := Nat.mul_pos (by omega) (by omega)
    have zi : ((p : Int) - (o : Int)) * ((v : Int) - (o : Int)) = 0 := by
      rcases c3 with c | c
      · rw [c, Int.sub_self, Int.zero_mul]
      · rw [c, Int.sub_self, Int.mul_zero]
    rw [z, Nat.zero_add, show (p + v - q - u) + (q + u - p - v) = q + u - p - v by omega]
    refine ⟨b0, by omega, by omega, by omega, Or.inr ⟨?_, ?_⟩⟩
    · rw [lN_sub (Nat.le_of_lt c4), lN_sub (Nat.le_of_lt c5), lN_mul, lNz p, lNz v, lNz o, ← Int64.ofInt_sub, ← Int64.ofInt_sub, ← Int64.ofInt_mul, zi, show Int64.ofInt 0 = 0 from rfl]
      exact Int64.zero_sub _
    · rw [lNz p, lNz q, lNz u, lNz v, lNz (q + u - p - v), ← Int64.ofInt_add, ← Int64.ofInt_sub, ← Int64.ofInt_sub, ← Int64.ofInt_neg]
      exact congrArg Int64.ofInt (by omega)
/-- all less the same -/
theorem mx_less (p q u v o : Nat) : (((lN p - lN o) + (lN v - lN o)) - (lN q - lN o)) - (lN u - lN o) = ((lN p + lN v) - lN q) - lN u := by
  rw [lNz p, lNz q, lNz u, lNz v, lNz o, ← Int64.ofInt_add, ← Int64.ofInt_sub, ← Int64.ofInt_sub, ← Int64.ofInt_sub, ← Int64.ofInt_sub, ← Int64.ofInt_sub, ← Int64.ofInt_sub, ← Int64.ofInt_add, ← Int64.ofInt_sub, ← Int64.ofInt_sub]
  exact congrArg Int64.ofInt (by omega)
theorem lneg_ti {n : Nat} (h : n < 2 ^ 63) : (-lN n).toInt = -(n : Int) := by
  rw [lNz, ← Int64.ofInt_neg]
  exact Int64.toInt_ofInt_of_le (by omega) (by omega)
theorem lneg_lt {n : Nat} (h0 : 0 < n) (h : n < 2 ^ 63) : -lN n < 0 := by
  rw [Int64.lt_iff_toInt_lt, lneg_ti h, show (0 : Int64).toInt = 0 by decide]
  omega
theorem lneg_div {a b : Nat} (ha : a < 2 ^ 63) (hb : b < 2 ^ 63) : -lN a / -lN b = lN a / lN b := by
  refine Int64.toInt_inj.mp ?_
  rw [Int64.toInt_div, Int64.toInt_div, lneg_ti ha, lneg_ti hb, pk_lT ha, pk_lT hb, Int.neg_tdiv_neg]
theorem lneg_ne {n : Nat} (h0 : 0 < n) (h : n < 2 ^ 63) : ¬ -lN n = 0 := fun q => by
  have := lneg_ti h
  rw [q, show (0 : Int64).toInt = 0 by decide] at this
  omega
theorem lpos {n : Nat} (h0 : 0 < n) (h : n < 2 ^ 63) : 0 < lN n := (pk_lLT (a := 0) (by omega) h).mpr h0
theorem gcd_st (a b : Nat) : Nat.gcd a b = Nat.gcd b (a % b) := by
  rw [Nat.gcd_comm a b, Nat.gcd_rec b a, Nat.gcd_comm]
theorem half_mod {b r : Nat} (h0 : 0 < r) (h : r ≤ b) : 2 * (b % r) < b := by
  have h1 := Nat.mod_lt b h0
  have h2 := Nat.div_add_mod b r
  have h3 : 0 < b / r := Nat.div_pos h h0
  have h4 : r * 1 ≤ r * (b / r) := Nat.mul_le_mul_left r h3
  omega
section GCD
variable {d : Nat} {I : Nat → Nat → Int32} {J : Nat → Nat → Int64} {T : Nat → Nat → Nat} {Q : Option Value → Mem → Prop}
theorem gdv_go {g : Nat} (h : Q (some (.long (lN g))) (SH, mkM I J T)) : ∀ k a b t, a < 2 ^ 63 → b < 2 ^ 63 → b < 2 ^ k → t + 2 * k + 2 ≤ 200 → Nat.gcd a b = g → Go none aM (Ev mt aM (d + 3)) mX11_greatestDivisor Q (9, [none, none, none, none, some (.long (lN a)), none, some (.long (lN b)), none, some (.int (nI t)), none, none], [], (SH, mkM I J T), 0, 0) := by
  have done : ∀ a t, t < 200 → Nat.gcd a 0 = g → Go none aM (Ev mt aM (d + 3)) mX11_greatestDivisor Q (9, [none, none, none, none, some (.long (lN a)), none, some (.long (lN 0)), none, some (.int (nI t)), none, none], [], (SH, mkM I J T), 0, 0) := fun a t ht e => by
    rw [Nat.gcd_zero_right] at e
    subst e
    exact gdn_9 (br1 (nI_ge (b := 200) ht (by omega)) (br0 ((lg_cmp_eq _ _).mpr rfl) h))
  intro k
  induction k with
  | zero =>
    intro a b t ha hb hk ht e
    have : b = 0 := by simp only [Nat.pow_zero] at hk; omega
    subst this
    exact done a t (by omega) e
  | succ k ih =>
    intro a b t ha hb hk ht e
    rcases Nat.eq_zero_or_pos b with z | z
    · subst z
      exact done a t (by omega) e
    refine gdn_9 (br1 (nI_ge (b := 200) (by omega) (by omega)) (br1 (fun q => by have := (pk_lEQ hb (b := 0) (by omega)).mp ((lg_cmp_eq _ _).mp q); omega) ⟨lN_ne0 z hb, ?_⟩))
    rw [pk_lRem ha z hb, nI_1]
    have r1 := Nat.mod_lt a z
    have e2 : Nat.gcd b (a % b) = g := (gcd_st a b).symm.trans e
    generalize a % b = r at *
    rcases Nat.eq_zero_or_pos r with y | y
    · subst y
      exact done b (t + 1) (by omega) e2
    refine gdn_9 (br1 (nI_ge (b := 200) (by omega) (by omega)) (br1 (fun q => by have := (pk_lEQ (a := r) (by omega) (b := 0) (by omega)).mp ((lg_cmp_eq _ _).mp q); omega) ⟨lN_ne0 y (by omega), ?_⟩))
    rw [pk_lRem hb y (by omega), nI_1]
    have r2 := Nat.mod_lt b y
    have r3 := half_mod y (Nat.le_of_lt r1)
    rw [Nat.pow_succ] at hk
    exact ih r (b % r) (t + 1 + 1) (by omega) (by omega) (by omega) (by omega) ((gcd_st b r).symm.trans e2)
theorem gcd_go {g : Nat} (h : Q (some (.long (lN g))) (SH, mkM I J T)) : ∀ k a b, a < 2 ^ 63 → b < 2 ^ 63 → b ≤ k → Nat.gcd a b = g → Go none aM (Ev mt aM (d + 3)) mX12_gcd Q (28, [none, none, none, none, some (.long (lN a)), none, some (.long (lN b)), none, none, none], [], (SH, mkM I J T), 0, 0) := by
  intro k
  induction k with
  | zero =>
    intro a b ha hb hk e
    have : b = 0 := Nat.le_zero.mp hk
    subst this
    rw [Nat.gcd_zero_right] at e
    subst e
    exact gcd_28 (br0 ((lg_cmp_eq _ _).mpr rfl) h)
  | succ k ih =>
    intro a b ha hb hk e
    rcases Nat.eq_zero_or_pos b with z | z
    · subst z
      rw [Nat.gcd_zero_right] at e
      subst e
      exact gcd_28 (br0 ((lg_cmp_eq _ _).mpr rfl) h)
    refine gcd_28 (br1 (fun q => by have := (pk_lEQ hb (b := 0) (by omega)).mp ((lg_cmp_eq _ _).mp q); omega) ⟨lN_ne0 z hb, ?_⟩)
    rw [pk_lRem ha z hb]
    have r1 := Nat.mod_lt a z
    exact ih b (a % b) hb (by omega) (by omega) ((gcd_st a b).symm.trans e)
theorem ev_gdv {a b : Nat} (ha : a < 2 ^ 63) (hb : b < 2 ^ 63) (h : Q (some (.long (lN (Nat.gcd a b)))) (SH, mkM I J T)) : Ev mt aM (d + 4) 170 [.long (lN a), .long (lN b)] (SH, mkM I J T) Q :=
  Ev.intro (d := d + 3) mX11_greatestDivisor rfl rfl (gdv_0 (gdv_go h 63 a b 0 ha hb hb (by omega) rfl))
theorem ev_gcd {a b : Nat} (ha : a < 2 ^ 63) (hb : b < 2 ^ 63) (h : Q (some (.long (lN (Nat.gcd a b)))) (SH, mkM I J T)) : Ev mt aM (d + 4) 267 [.long (lN a), .long (lN b)] (SH, mkM I J T) Q :=
  Ev.intro (d := d + 3) mX12_gcd rfl rfl (gcd_0 (br0 ((lg_cmp_ge _ _).mpr ((pk_lLE (a := 0) (by omega) ha).mpr (Nat.zero_le _))) (br0 ((lg_cmp_ge _ _).mpr ((pk_lLE (a := 0) (by omega) hb).mpr (Nat.zero_le _))) (gcd_go h b a b ha hb (Nat.le_refl _) rfl))))
theorem ev_gcdn {a b : Nat} (a0 : 0 < a) (b0 : 0 < b) (ha : a < 2 ^ 63) (hb : b < 2 ^ 63) (h : Q (some (.long (lN (Nat.gcd a b)))) (SH, mkM I J T)) : Ev mt aM (d + 4) 267 [.long (-lN a), .long (-lN b)] (SH, mkM I J T) Q := by
  have nn : ∀ n, 0 < n → n < 2 ^ 63 → ¬ 0 ≤ lg_cmp (-lN n) (0 : Int64) := fun n h0 h1 q => by
    have q := (lg_cmp_ge _ _).mp q
    rw [Int64.le_iff_toInt_le, lneg_ti h1, show (0 : Int64).toInt = 0 by decide] at q
    omega
  refine Ev.intro (d := d + 3) mX12_gcd rfl rfl (gcd_0 (br1 (nn a a0 ha) (br1 (nn b b0 hb) ?_)))
  rw [Int64.neg_neg, Int64.neg_neg]
  exact gcd_go h b a b ha hb (Nat.le_refl _) rfl
end GCD
theorem lneg_npos {n : Nat} (h0 : 0 < n) (h : n < 2 ^ 63) : ¬ 0 < -lN n := fun q => by
  rw [Int64.lt_iff_toInt_lt, lneg_ti h, show (0 : Int64).toInt = 0 by decide] at q
  omega
theorem lneg_nge {n : Nat} (h0 : 0 < n) (h1 : n < 2 ^ 63) : ¬ 0 ≤ lg_cmp (-lN n) (0 : Int64) := fun q => by
  have q := (lg_cmp_ge _ _).mp q
  rw [Int64.le_iff_toInt_le, lneg_ti h1, show (0 : Int64).toInt = 0 by decide] at q
  omega
