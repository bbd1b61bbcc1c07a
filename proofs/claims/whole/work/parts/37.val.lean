/-! VALUES: what BEST and a RULE come to, in plain numbers; the SCORE s is 0 to 4. -/
def scI (s : Nat) : Int32 := nI s - 2
def scN (s e : Nat) : Nat := if e = 1 then (if s < 4 then s + 1 else 4) else if e = 2 then s - 1 else s
theorem scN_lt {s e : Nat} (h : s < 5) : scN s e < 5 := by
  unfold scN
  repeat' split
  all_goals omega
def evI (e : Nat) : Int32 := if e = 0 then 4 else nI (e - 1)
def ckSc (s : Nat) : Bool := allB (fun e => eqI (v_X7_scoreBehind (scI s) (nI e)) (scI (scN s e)) && eqI (v_X12_scoreAfter (scI s) (evI e)) (scI (scN s e))) 5
theorem all_sc : allB ckSc 5 = true := by decide +kernel
theorem sc_c {s e : Nat} (hs : s < 5) (he : e < 5) : v_X7_scoreBehind (scI s) (nI e) = scI (scN s e) ∧ v_X12_scoreAfter (scI s) (evI e) = scI (scN s e) := by
  have q := allB_get (allB_get all_sc s hs) e he
  rw [Bool.and_eq_true] at q
  exact ⟨eqI_eq q.1, eqI_eq q.2⟩
def wv (A : Tm) (s : Nat) : Nat := if 2 < s then qW A 0 else if s = 2 then qW A 1 else qW A 2
theorem wv_le {A : Tm} (hA : BD A) (s : Nat) : wv A s ≤ 1000 := by
  have h := hA.2.2.2.1
  unfold wv
  repeat' split
  all_goals exact h _ (by omega)
def shN (A : Tm) (oth all pace per s o a e : Nat) : Nat := shF A per (scI s) (aftF A o a) (stF A oth per (scI s)) (chN a) all pace e
def bsum (A : Tm) (oth all pace per : Nat) (V : Nat → Nat → Nat) (s o a : Nat) : Nat → Nat
  | 0 => 0
  | e + 1 => bsum A oth all pace per V s o a e + shN A oth all pace per s o a e * V (scN s e) (nxtF A (aftF A o a) e pace)
theorem shN_sum (A : Tm) (oth all pace per s o a : Nat) : shN A oth all pace per s o a 0 + shN A oth all pace per s o a 1 + shN A oth all pace per s o a 2 + shN A oth all pace per s o a 3 + shN A oth all pace per s o a 4 = 100 := sh_sum _ _ _ _ _ _ _ _
theorem shN_le (A : Tm) (oth all pace per s o a e : Nat) (he : e < 5) : shN A oth all pace per s o a e ≤ 100 := by
  have h := shN_sum A oth all pace per s o a
  rcases (show e = 0 ∨ e = 1 ∨ e = 2 ∨ e = 3 ∨ e = 4 by omega) with rfl | rfl | rfl | rfl | rfl <;> omega
theorem bsum_le {A : Tm} {oth all pace per : Nat} {V : Nat → Nat → Nat} {M : Nat} (hV : ∀ s o, V s o ≤ M) (s o a : Nat) : ∀ e, e ≤ 5 → bsum A oth all pace per V s o a e ≤ 100 * M := by
  have h := shN_sum A oth all pace per s o a
  have key : ∀ e, bsum A oth all pace per V s o a e ≤ bsum A oth all pace per V s o a (e + 1) := fun e => Nat.le_add_right _ _
  have h5 : bsum A oth all pace per V s o a 5 ≤ 100 * M := by
    rw [← h, Nat.add_mul, Nat.add_mul, Nat.add_mul, Nat.add_mul]
    show 0 + _ + _ + _ + _ + _ ≤ _
    rw [Nat.zero_add]
    exact Nat.add_le_add (Nat.add_le_add (Nat.add_le_add (Nat.add_le_add (Nat.mul_le_mul_left _ (hV _ _)) (Nat.mul_le_mul_left _ (hV _ _))) (Nat.mul_le_mul_left _ (hV _ _))) (Nat.mul_le_mul_left _ (hV _ _))) (Nat.mul_le_mul_left _ (hV _ _))
  intro e he
  rcases (show e = 0 ∨ e = 1 ∨ e = 2 ∨ e = 3 ∨ e = 4 ∨ e = 5 by omega) with rfl | rfl | rfl | rfl | rfl | rfl
  · exact Nat.zero_le _
  · exact Nat.le_trans (key 1) (Nat.le_trans (key 2) (Nat.le_trans (key 3) (Nat.le_trans (key 4) h5)))
  · exact Nat.le_trans (key 2) (Nat.le_trans (key 3) (Nat.le_trans (key 4) h5))
  · exact Nat.le_trans (key 3) (Nat.le_trans (key 4) h5)
  · exact Nat.le_trans (key 4) h5
  · exact h5
theorem bsum_congr {A : Tm} {oth all pace per s o a : Nat} {V V' : Nat → Nat → Nat} : ∀ e, (∀ i, i < e → shN A oth all pace per s o a i ≠ 0 → V (scN s i) (nxtF A (aftF A o a) i pace) = V' (scN s i) (nxtF A (aftF A o a) i pace)) → bsum A oth all pace per V s o a e = bsum A oth all pace per V' s o a e := by
  intro e
  induction e with
  | zero => intro _; rfl
  | succ e ih =>
    intro h
    show bsum A oth all pace per V s o a e + _ = bsum A oth all pace per V' s o a e + _
    rw [ih (fun i hi => h i (by omega))]
    by_cases h0 : shN A oth all pace per s o a e = 0
    · rw [h0, Nat.zero_mul, Nat.zero_mul]
    · rw [h e (by omega) h0]
/-- the greatest (and 1), and the least place of it -/
def mx (p : Nat → Bool) (f : Nat → Nat) : Nat → Nat × Nat
  | 0 => (0, 0)
  | k + 1 => if p k = true ∧ (mx p f k).1 < f k + 1 then (f k + 1, k) else mx p f k
theorem mx_le {p : Nat → Bool} {f : Nat → Nat} {M : Nat} (h : ∀ a, f a ≤ M) : ∀ k, (mx p f k).1 ≤ M + 1 := by
  intro k
  induction k with
  | zero => exact Nat.zero_le _
  | succ k ih =>
    unfold mx
    split
    · exact Nat.succ_le_succ (h k)
    · exact ih
theorem mx_ix {p : Nat → Bool} {f : Nat → Nat} : ∀ k, (mx p f (k + 1)).2 ≤ k := by
  intro k
  induction k with
  | zero =>
    unfold mx
    split
    · exact Nat.le_refl _
    · exact Nat.le_refl _
  | succ k ih =>
    unfold mx
    split
    · exact Nat.le_refl _
    · exact Nat.le_succ_of_le ih
theorem mx_mono {p : Nat → Bool} {f : Nat → Nat} : ∀ k, (mx p f k).1 ≤ (mx p f (k + 1)).1 := by
  intro k
  show _ ≤ (if p k = true ∧ (mx p f k).1 < f k + 1 then (f k + 1, k) else mx p f k).1
  split
  · next h => exact Nat.le_of_lt h.2
  · exact Nat.le_refl _
theorem mxg_pos {p : Nat → Bool} {f : Nat → Nat} (h : p 0 = true) : ∀ k, 1 ≤ (mx p f (k + 1)).1 := by
  intro k
  induction k with
  | zero =>
    unfold mx
    rw [if_pos ⟨h, Nat.succ_pos _⟩]
    exact Nat.succ_le_succ (Nat.zero_le _)
  | succ k ih => exact Nat.le_trans ih (mx_mono _)
theorem mx_skip {p : Nat → Bool} {f : Nat → Nat} {a : Nat} : ∀ m, (∀ j, a ≤ j → j < a + m → p j = false) → mx p f (a + m) = mx p f a := by
  intro m
  induction m with
  | zero => intro _; rfl
  | succ m ih =>
    intro h
    show (if p (a + m) = true ∧ _ then _ else mx p f (a + m)) = _
    rw [if_neg (fun q => by rw [h (a + m) (by omega) (by omega)] at q; exact absurd q.1 (by decide))]
    exact ih (fun j h1 h2 => h j h1 (by omega))
theorem mx_congr {p : Nat → Bool} {f f' : Nat → Nat} : ∀ k, (∀ j, j < k → p j = true → f j = f' j) → mx p f k = mx p f' k := by
  intro k
  induction k with
  | zero => intro _; rfl
  | succ k ih =>
    intro h
    show (if _ then _ else _) = (if _ then _ else _)
    rw [ih (fun j hj => h j (by omega))]
    by_cases hp : p k = true
    · rw [h k (by omega) hp]
    · rw [if_neg (fun q => hp q.1), if_neg (fun q => hp q.1)]
/-- the best ACTION is one that may be -/
theorem mx_may {p : Nat → Bool} {f : Nat → Nat} : ∀ k, 1 ≤ (mx p f k).1 → p (mx p f k).2 = true ∧ (mx p f k).2 < k ∧ (mx p f k).1 = f (mx p f k).2 + 1 := by
  intro k
  induction k with
  | zero => intro h; exact absurd (show 1 ≤ 0 from h) (by decide)
  | succ k ih =>
    intro h
    by_cases hc : p k = true ∧ (mx p f k).1 < f k + 1
    · have e : mx p f (k + 1) = (f k + 1, k) := if_pos hc
      rw [e]
      exact ⟨hc.1, Nat.lt_succ_self _, rfl⟩
    · have e : mx p f (k + 1) = mx p f k := if_neg hc
      rw [e] at h ⊢
      obtain ⟨a, b, c⟩ := ih h
      exact ⟨a, Nat.lt_succ_of_lt b, c⟩
abbrev mxB (A : Tm) (oth all once pace per : Nat) (V : Nat → Nat → Nat) (s o : Nat) (k : Nat) : Nat × Nat := mx (fun a => mayF o a all once) (fun a => bsum A oth all pace per V s o a 5) k
/-- BEST's VALUE, by the PERIODS that are left -/
def bV (A : Tm) (oth all once pace : Nat) : Nat → Nat → Nat → Nat
  | 0 => fun s _ => wv A s
  | l + 1 => fun s o => (mxB A oth all once pace (qN A - (l + 1)) (bV A oth all once pace l) s o 49).1 - 1
def bA (A : Tm) (oth all once pace l s o : Nat) : Nat := (mxB A oth all once pace (qN A - (l + 1)) (bV A oth all once pace l) s o 49).2
def p100 (l : Nat) : Nat := 100 ^ l
theorem bV_le {A : Tm} (hA : BD A) (oth all once pace : Nat) : ∀ l s o, bV A oth all once pace l s o ≤ 1000 * 100 ^ l := by
  intro l
  induction l with
  | zero => intro s o; exact Nat.le_trans (wv_le hA s) (by omega)
  | succ l ih =>
    intro s o
    have h := mx_le (p := fun a => mayF o a all once) (f := fun a => bsum A oth all pace (qN A - (l + 1)) (bV A oth all once pace l) s o a 5) (M := 100 * (1000 * 100 ^ l)) (fun a => bsum_le ih s o a 5 (Nat.le_refl _)) 49
    show (mx (fun a => mayF o a all once) (fun a => bsum A oth all pace (qN A - (l + 1)) (bV A oth all once pace l) s o a 5) 49).1 - 1 ≤ _
    rw [Nat.pow_succ]
    omega
theorem bA_lt (A : Tm) (oth all once pace l s o : Nat) : bA A oth all once pace l s o < 49 := Nat.lt_succ_of_le (mx_ix 48)
theorem p100_le {l : Nat} (h : l ≤ 5) : 100 ^ l ≤ 10000000000 := by
  rcases (show l = 0 ∨ l = 1 ∨ l = 2 ∨ l = 3 ∨ l = 4 ∨ l = 5 by omega) with rfl | rfl | rfl | rfl | rfl | rfl <;> decide
theorem bV_lt {A : Tm} (hA : BD A) (oth all once pace : Nat) {l : Nat} (h : l ≤ 5) (s o : Nat) : bV A oth all once pace l s o ≤ 10000000000000 := by
  have h1 := bV_le hA oth all once pace l s o
  have h2 := p100_le h
  omega
theorem bV_mx {A : Tm} {oth all once pace l s o : Nat} (h : CD o) (hm : mdN o ≤ all) : bV A oth all once pace (l + 1) s o + 1 = (mxB A oth all once pace (qN A - (l + 1)) (bV A oth all once pace l) s o 49).1 := by
  have h1 := mxg_pos (p := fun a => mayF o a all once) (f := fun a => bsum A oth all pace (qN A - (l + 1)) (bV A oth all once pace l) s o a 5) (may_zero hm h) 48
  show _ - 1 + 1 = _
  exact Nat.sub_add_cancel h1
/-- what the class keeps -/
def hvF (A : Tm) (oth all once pace : Nat) : Nat → Nat → Nat → Nat
  | 0, s, _ => 64 * wv A s
  | l + 1, s, o => 64 * bV A oth all once pace (l + 1) s o + bA A oth all once pace l s o + 1
theorem hv_div (A : Tm) (oth all once pace l s o : Nat) : hvF A oth all once pace l s o / 64 = bV A oth all once pace l s o := by
  cases l with
  | zero => show 64 * wv A s / 64 = wv A s; omega
  | succ l =>
    have h := bA_lt A oth all once pace l s o
    show (64 * bV A oth all once pace (l + 1) s o + bA A oth all once pace l s o + 1) / 64 = _
    omega
theorem hv_lt {A : Tm} (hA : BD A) (oth all once pace : Nat) {l : Nat} (hl : l ≤ 5) (s o : Nat) : hvF A oth all once pace l s o < 2 ^ 60 := by
  have h1 := hv_div A oth all once pace l s o
  have h2 := bV_lt hA oth all once pace hl s o
  omega
/-! BY A RULE -/
/-- how likely the end j is (0 won, 1 drawn, 2 lost), of 100 for each PERIOD -/
def rA (A : Tm) (k oth per s o : Nat) : Nat := ruF A k per (scI s) o (stF A oth per (scI s))
def eN (j s : Nat) : Nat := if (if 2 < s then 0 else if s = 2 then 1 else 2) = j then 1 else 0
def wN (A : Tm) (k oth j : Nat) : Nat → Nat → Nat → Nat
  | 0 => fun s _ => eN j s
  | l + 1 => fun s o => bsum A oth (qC A) 0 (qN A - (l + 1)) (wN A k oth j l) s o (rA A k oth (qN A - (l + 1)) s o) 5
def rV (A : Tm) (k oth : Nat) : Nat → Nat → Nat → Nat
  | 0 => fun s _ => wv A s
  | l + 1 => fun s o => bsum A oth (qC A) 0 (qN A - (l + 1)) (rV A k oth l) s o (rA A k oth (qN A - (l + 1)) s o) 5
theorem bsum_lin {A : Tm} {oth all pace per : Nat} {V U0 U1 U2 : Nat → Nat → Nat} {x y z : Nat} (h : ∀ s o, V s o = U0 s o * x + U1 s o * y + U2 s o * z) (s o a : Nat) : ∀ e, bsum A oth all pace per V s o a e = bsum A oth all pace per U0 s o a e * x + bsum A oth all pace per U1 s o a e * y + bsum A oth all pace per U2 s o a e * z := by
  intro e
  induction e with
  | zero => show 0 = 0 * x + 0 * y + 0 * z; omega
  | succ e ih =>
    show bsum A oth all pace per V s o a e + _ * V _ _ = (bsum A oth all pace per U0 s o a e + _ * U0 _ _) * x + (bsum A oth all pace per U1 s o a e + _ * U1 _ _) * y + (bsum A oth all pace per U2 s o a e + _ * U2 _ _) * z
    rw [ih, h]
    simp only [Nat.add_mul, Nat.mul_add, Nat.mul_assoc]
    omega
theorem rV_wN (A : Tm) (k oth : Nat) : ∀ l s o, rV A k oth l s o = wN A k oth 0 l s o * qW A 0 + wN A k oth 1 l s o * qW A 1 + wN A k oth 2 l s o * qW A 2 := by
  intro l
  induction l with
  | zero =>
    intro s o
    show wv A s = eN 0 s * qW A 0 + eN 1 s * qW A 1 + eN 2 s * qW A 2
    unfold wv eN
    by_cases h1 : 2 < s
    · simp [h1]
    · by_cases h2 : s = 2
      · simp [h2]
      · simp [h1, h2]
  | succ l ih => intro s o; exact bsum_lin ih s o _ 5
theorem wN_le (A : Tm) (k oth j : Nat) : ∀ l s o, wN A k oth j l s o ≤ 100 ^ l := by
  intro l
  induction l with
  | zero =>
    intro s o
    show eN j s ≤ 1
    unfold eN
    generalize (if 2 < s then 0 else if s = 2 then 1 else 2) = x
    split
    · exact Nat.le_refl _
    · exact Nat.zero_le _
  | succ l ih =>
    intro s o
    have h := bsum_le (A := A) (oth := oth) (all := qC A) (pace := 0) (per := qN A - (l + 1)) ih s o (rA A k oth (qN A - (l + 1)) s o) 5 (Nat.le_refl _)
    rw [Nat.pow_succ, Nat.mul_comm]
    exact h
theorem rV_le {A : Tm} (hA : BD A) (k oth : Nat) : ∀ l s o, rV A k oth l s o ≤ 1000 * 100 ^ l := by
  intro l
  induction l with
  | zero => intro s o; exact Nat.le_trans (wv_le hA s) (by omega)
  | succ l ih =>
    intro s o
    have h := bsum_le (A := A) (oth := oth) (all := qC A) (pace := 0) (per := qN A - (l + 1)) ih s o (rA A k oth (qN A - (l + 1)) s o) 5 (Nat.le_refl _)
    rw [Nat.pow_succ]
    show bsum _ _ _ _ _ _ _ _ _ _ ≤ _
    omega
theorem rA_may {A : Tm} {k oth per s o : Nat} (h : CD o) (hm : mdN o ≤ qC A) : rA A k oth per s o < 49 ∧ mayF o (rA A k oth per s o) (qC A) (qO A) = true := by
  unfold rA ruF
  split
  · next q =>
    refine ⟨?_, q.2⟩
    have h2 : ¬ ruV A k per (scI s) o (stF A oth per (scI s)) < 0 := by
      have := q.1.1
      rw [Int32.lt_iff_toInt_lt]
      rw [Int32.le_iff_toInt_le] at this
      omega
    obtain ⟨a, a1, a2⟩ := nI_of h2
    have q2 := q.1.2
    rw [a2] at q2 ⊢
    rw [cN_nI (by omega)]
    exact (nI_ltI a1 (by omega)).mp (show nI a < nI 49 from q2)
  · exact ⟨by omega, may_zero hm h⟩
/-- what comes behind an ACTION that may be is a code, with no more changes made -/
theorem nxt_cd {A : Tm} {o a all once e pace : Nat} (hA : BD A) (h : CD o) (ha : a < 49) (hm : mayF o a all once = true) (he : e < 5) (hpa : pace ≤ 1) : CD (nxtF A (aftF A o a) e pace) ∧ mdN (nxtF A (aftF A o a) e pace) ≤ all := by
  obtain ⟨a1, _, a3, _, _⟩ := aft_all (M := fun _ _ => 0) h hA ha hm
  obtain ⟨n1, n2, _, _⟩ := nxt_all (M := fun _ _ => 0) a1 hA he hpa
  exact ⟨n1, by omega⟩
