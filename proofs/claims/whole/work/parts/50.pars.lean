/-! A TEXT IS READ: the grammar on bytes, from the left; what it leaves is well typed. -/
/-- place, how many are open, how much code, the code -/
abbrev RdS : Type := Nat × Nat × Nat × (Nat → Nat)
abbrev uP (s : RdS) : Nat := s.1
abbrev uO (s : RdS) : Nat := s.2.1
abbrev uN (s : RdS) : Nat := s.2.2.1
abbrev uW (s : RdS) : Nat → Nat := s.2.2.2
/-- a FAULT and its place, or what goes on -/
abbrev RdR : Type := Sum (Nat × Nat) RdS
def bnd (X : RdR) (F : RdS → RdR) : RdR := match X with
  | .inl e => .inl e
  | .inr s => F s
def unF (w : Nat → Nat) (k x : Nat) : Nat → Nat := fun j => if j = k then x else w j
def sgn (b : Nat → Nat) (n p : Nat) : Nat := if p < n then b p else 300
def mvS (s : RdS) : RdS := (uP s + 1, uO s, uN s, uW s)
def adS (x : Nat) (s : RdS) : RdS := (uP s, uO s, uN s + 1, unF (uW s) (uN s) x)
def outS (s : RdS) : RdS := (uP s, uO s - 1, uN s, uW s)
def lnS (L : Nat) (s : RdS) : RdS := (uP s, uO s, uN s, unF (uW s) L (uW s L % 16 + 16 * uN s))
def isDg (c : Nat) : Bool := Nat.ble 48 c && Nat.ble c 57
def letF (c : Nat) : Nat := if c = 116 then 0 else if c = 110 then 1 else if c = 115 then 2 else if c = 98 then 3 else if c = 102 then 4 else if c = 108 then 5 else if c = 109 then 6 else if c = 101 then 7 else if c = 120 then 8 else if c = 117 then 9 else if c = 113 then 10 else if c = 111 then 11 else if c = 121 then 12 else if c = 112 then 13 else if c = 107 then 14 else if c = 106 then 15 else 16
def mulK (c : Nat) : Nat := if c = 42 then 4 else if c = 47 then 5 else if c = 37 then 6 else 0
def addK (c : Nat) : Nat := if c = 43 then 2 else if c = 45 then 3 else 0
def cmpK (c : Nat) : Nat := if c = 60 then 7 else if c = 62 then 8 else if c = 61 then 9 else 0
section RD
variable (b : Nat → Nat) (n : Nat)
def expS (due : Nat) (s : RdS) : RdR := if sgn b n (uP s) = due then .inr (mvS s) else .inl (1, uP s)
def entS (s : RdS) : RdR := if uO s = 6 then .inl (5, uP s) else .inr (uP s + 1, uO s + 1, uN s, uW s)
def dgF : Nat → Nat → Nat → Sum (Nat × Nat) (Nat × Nat)
  | 0, v, p => if isDg (sgn b n p) = true then .inl (2, p) else .inr (v, p)
  | f + 1, v, p => if isDg (sgn b n p) = true then dgF f (10 * v + sgn b n p - 48) (p + 1) else .inr (v, p)
def atS (s : RdS) : RdR := if isDg (sgn b n (uP s)) = true then (match dgF b n 5 0 (uP s) with
    | .inl e => .inl e
    | .inr q => .inr (adS (16 * q.1) (q.2, uO s, uN s, uW s)))
  else if letF (sgn b n (uP s)) < 16 then .inr (mvS (adS (1 + 16 * letF (sgn b n (uP s))) s)) else .inl (1, uP s)
def lpT (F : RdS → RdR) : Nat → RdS → RdR
  | 0, s => .inr s
  | k + 1, s => if mulK (sgn b n (uP s)) = 0 then .inr s else bnd (F (mvS s)) (fun s2 => lpT F k (adS (mulK (sgn b n (uP s))) s2))
def pT (F : RdS → RdR) (s : RdS) : RdR := bnd (F s) (lpT b n F n)
def lpS (F : RdS → RdR) : Nat → RdS → RdR
  | 0, s => .inr s
  | k + 1, s => if addK (sgn b n (uP s)) = 0 then .inr s else bnd (pT b n F (mvS s)) (fun s2 => lpS F k (adS (addK (sgn b n (uP s))) s2))
def pS (F : RdS → RdR) (s : RdS) : RdR := bnd (pT b n F s) (lpS b n F n)
def pF : Nat → RdS → RdR
  | 0, s => if sgn b n (uP s) = 91 then .inl (5, uP s) else atS b n s
  | D + 1, s => if sgn b n (uP s) = 91 then bnd (entS s) (fun s1 => bnd (pS b n (pF D) s1) (fun s2 => bnd (expS b n 93 s2) (fun s3 => .inr (outS s3)))) else atS b n s
def cmF (F : RdS → RdR) (s : RdS) : RdR := bnd (pS b n F s) (fun s1 => if cmpK (sgn b n (uP s1)) = 0 then .inl (1, uP s1) else bnd (pS b n F (mvS s1)) (fun s2 => .inr (adS (cmpK (sgn b n (uP s1))) s2)))
def lpA (P : RdS → RdR) : Nat → RdS → RdR
  | 0, s => .inr s
  | k + 1, s => if sgn b n (uP s) = 38 then bnd (P (adS 11 (mvS s))) (fun s2 => lpA P k (lnS (uN s) s2)) else .inr s
def pA (P : RdS → RdR) (s : RdS) : RdR := bnd (P s) (lpA b n P n)
def lpO (P : RdS → RdR) : Nat → RdS → RdR
  | 0, s => .inr s
  | k + 1, s => if sgn b n (uP s) = 124 then bnd (pA b n P (adS 12 (mvS s))) (fun s2 => lpO P k (lnS (uN s) s2)) else .inr s
def pO (P : RdS → RdR) (s : RdS) : RdR := bnd (pA b n P s) (lpO b n P n)
def rdF (P : RdS → RdR) (s : RdS) : RdR := if sgn b n (uP s) = 40 then bnd (entS s) (fun s1 => bnd (pO b n P s1) (fun s2 => bnd (expS b n 41 s2) (fun s3 => .inr (outS s3)))) else .inl (1, uP s)
def pP : Nat → RdS → RdR
  | 0, s => if sgn b n (uP s) = 40 ∨ sgn b n (uP s) = 33 then .inl (5, uP s) else cmF b n (pF b n 0) s
  | D + 1, s => if sgn b n (uP s) = 40 then rdF b n (pP D) s else if sgn b n (uP s) = 33 then bnd (entS s) (fun s1 => bnd (pP D s1) (fun s2 => .inr (outS (adS 10 s2)))) else cmF b n (pF b n (D + 1)) s
end RD
/-- what has grown -/
def GR (n : Nat) (s s2 : RdS) : Prop := uP s ≤ uP s2 ∧ uP s2 ≤ n ∧ uN s2 + uP s ≤ uN s + uP s2 ∧ uO s2 = uO s ∧ uN s ≤ uN s2 ∧ ∀ i, i < uN s → uW s2 i = uW s i
theorem GR.rfl' {n : Nat} {s : RdS} (h : uP s ≤ n) : GR n s s := ⟨Nat.le_refl _, h, Nat.le_refl _, rfl, Nat.le_refl _, fun _ _ => rfl⟩
theorem GR.trans {n : Nat} {s s1 s2 : RdS} (h : GR n s s1) (g : GR n s1 s2) : GR n s s2 := by
  obtain ⟨a1, a2, a3, a4, a5, a6⟩ := h
  obtain ⟨b1, b2, b3, b4, b5, b6⟩ := g
  exact ⟨by omega, b2, by omega, b4.trans a4, by omega, fun i hi => (b6 i (by omega)).trans (a6 i hi)⟩
theorem unF_ne {w : Nat → Nat} {k x i : Nat} (h : i ≠ k) : unF w k x i = w i := if_neg h
theorem unF_at {w : Nat → Nat} {k x : Nat} : unF w k x k = x := if_pos rfl
/-- one moves on, what comes then, and one word -/
theorem gr_mad {n x : Nat} {s s2 : RdS} (h : GR n (mvS s) s2) : GR n s (adS x s2) := by
  obtain ⟨a1, a2, a3, a4, a5, a6⟩ := h
  have a1 : uP s + 1 ≤ uP s2 := a1
  have a3 : uN s2 + (uP s + 1) ≤ uN s + uP s2 := a3
  have a5 : uN s ≤ uN s2 := a5
  refine ⟨show uP s ≤ uP s2 by omega, a2, show uN s2 + 1 + uP s ≤ uN s + uP s2 by omega, a4, show uN s ≤ uN s2 + 1 by omega, fun i hi => ?_⟩
  show unF (uW s2) (uN s2) x i = uW s i
  rw [unF_ne (by omega)]
  exact a6 i hi
theorem sgn_lt {b : Nat → Nat} {n p c : Nat} (hc : c ≠ 300) (h : sgn b n p = c) : p < n := by
  unfold sgn at h
  by_cases q : p < n
  · exact q
  · rw [if_neg q] at h; exact absurd h.symm hc
theorem dg_lt {b : Nat → Nat} {n p : Nat} (h : isDg (sgn b n p) = true) : p < n ∧ 48 ≤ sgn b n p ∧ sgn b n p ≤ 57 := by
  unfold isDg at h
  simp only [Bool.and_eq_true] at h
  have h1 := Nat.le_of_ble_eq_true h.1
  have h2 := Nat.le_of_ble_eq_true h.2
  refine ⟨?_, h1, h2⟩
  exact sgn_lt (c := sgn b n p) (by omega) rfl
theorem mulK_lt {b : Nat → Nat} {n p : Nat} (h : mulK (sgn b n p) ≠ 0) : p < n := by
  unfold sgn at h
  by_cases q : p < n
  · exact q
  · rw [if_neg q] at h; exact absurd (by decide) h
theorem addK_lt {b : Nat → Nat} {n p : Nat} (h : addK (sgn b n p) ≠ 0) : p < n := by
  unfold sgn at h
  by_cases q : p < n
  · exact q
  · rw [if_neg q] at h; exact absurd (by decide) h
theorem cmpK_lt {b : Nat → Nat} {n p : Nat} (h : cmpK (sgn b n p) ≠ 0) : p < n := by
  unfold sgn at h
  by_cases q : p < n
  · exact q
  · rw [if_neg q] at h; exact absurd (by decide) h
theorem letF_lt {b : Nat → Nat} {n p : Nat} (h : letF (sgn b n p) < 16) : p < n := by
  unfold sgn at h
  by_cases q : p < n
  · exact q
  · rw [if_neg q] at h; exact absurd h (by decide)
theorem mulK_rg {c : Nat} (h : mulK c ≠ 0) : 4 ≤ mulK c ∧ mulK c ≤ 6 := by
  unfold mulK at h ⊢
  repeat' split
  all_goals first | omega | simp_all
theorem addK_rg {c : Nat} (h : addK c ≠ 0) : 2 ≤ addK c ∧ addK c ≤ 3 := by
  unfold addK at h ⊢
  repeat' split
  all_goals first | omega | simp_all
theorem cmpK_rg {c : Nat} (h : cmpK c ≠ 0) : 7 ≤ cmpK c ∧ cmpK c ≤ 9 := by
  unfold cmpK at h ⊢
  repeat' split
  all_goals first | omega | simp_all
theorem bnd_ok {X : RdR} {F : RdS → RdR} {s2 : RdS} (h : bnd X F = .inr s2) : ∃ s1, X = .inr s1 ∧ F s1 = .inr s2 := by
  cases X with
  | inl e => cases h
  | inr s1 => exact ⟨s1, rfl, h⟩
theorem bnd_r {s : RdS} {F : RdS → RdR} : bnd (.inr s) F = F s := rfl
theorem bnd_l {e : Nat × Nat} {F : RdS → RdR} : bnd (.inl e) F = .inl e := rfl
theorem bnd_assoc {X : RdR} {F G : RdS → RdR} : bnd (bnd X F) G = bnd X (fun s => bnd (F s) G) := by
  cases X <;> rfl
theorem p10 (f : Nat) : 1 ≤ 10 ^ f := by
  induction f with
  | zero => decide
  | succ f ih => rw [Nat.pow_succ]; omega
theorem dgF_ok {b : Nat → Nat} {n : Nat} : ∀ f v p q, p ≤ n → dgF b n f v p = .inr q → p ≤ q.2 ∧ q.2 ≤ n ∧ q.1 + 1 ≤ 10 ^ f * (v + 1) ∧ (isDg (sgn b n p) = true → 0 < f → p < q.2) := by
  intro f
  induction f with
  | zero =>
    intro v p q hp h
    unfold dgF at h
    by_cases c : isDg (sgn b n p) = true
    · rw [if_pos c] at h; cases h
    · rw [if_neg c] at h; cases h; exact ⟨Nat.le_refl _, hp, by omega, fun q => absurd q c⟩
  | succ f ih =>
    intro v p q hp h
    unfold dgF at h
    by_cases c : isDg (sgn b n p) = true
    · rw [if_pos c] at h
      obtain ⟨l1, l2, l3⟩ := dg_lt c
      obtain ⟨a1, a2, a3, _⟩ := ih _ _ q (by omega) h
      refine ⟨by omega, a2, ?_, fun _ _ => by omega⟩
      have : 10 * v + sgn b n p - 48 + 1 ≤ 10 * (v + 1) := by omega
      calc q.1 + 1 ≤ 10 ^ f * (10 * v + sgn b n p - 48 + 1) := a3
        _ ≤ 10 ^ f * (10 * (v + 1)) := Nat.mul_le_mul_left _ this
        _ = 10 ^ (f + 1) * (v + 1) := by rw [Nat.pow_succ, Nat.mul_assoc]
    · rw [if_neg c] at h; cases h
      exact ⟨Nat.le_refl _, hp, Nat.le_trans (Nat.le_of_eq (Nat.one_mul _).symm) (Nat.mul_le_mul_right _ (p10 (f + 1))), fun q => absurd q c⟩
def GRF (n : Nat) (F : RdS → RdR) : Prop := ∀ s s2, uP s ≤ n → F s = .inr s2 → GR n s s2
section GRS
variable {b : Nat → Nat} {n : Nat}
theorem gr_at : GRF n (atS b n) := by
  intro s s2 hp h
  unfold atS at h
  by_cases c : isDg (sgn b n (uP s)) = true
  · rw [if_pos c] at h
    cases hd : dgF b n 5 0 (uP s) with
    | inl e => rw [hd] at h; cases h
    | inr q =>
      rw [hd] at h
      cases h
      obtain ⟨a1, a2, _, a4⟩ := dgF_ok 5 0 (uP s) q hp hd
      have a4 := a4 c (by omega)
      refine ⟨a1, a2, show uN s + 1 + uP s ≤ uN s + q.2 by omega, rfl, show uN s ≤ uN s + 1 by omega, fun i hi => unF_ne (show i ≠ uN s by omega)⟩
  · rw [if_neg c] at h
    by_cases c2 : letF (sgn b n (uP s)) < 16
    · rw [if_pos c2] at h
      cases h
      have := letF_lt c2
      exact ⟨show uP s ≤ uP s + 1 by omega, show uP s + 1 ≤ n by omega, show uN s + 1 + uP s ≤ uN s + (uP s + 1) by omega, rfl, show uN s ≤ uN s + 1 by omega, fun i hi => unF_ne (show i ≠ uN s by omega)⟩
    · rw [if_neg c2] at h; cases h
theorem gr_lpT {F : RdS → RdR} (hF : GRF n F) : ∀ k, GRF n (lpT b n F k) := by
  intro k
  induction k with
  | zero => intro s s2 hp h; cases h; exact GR.rfl' hp
  | succ k ih =>
    intro s s2 hp h
    unfold lpT at h
    by_cases c : mulK (sgn b n (uP s)) = 0
    · rw [if_pos c] at h; cases h; exact GR.rfl' hp
    · rw [if_neg c] at h
      obtain ⟨s1, h1, h2⟩ := bnd_ok h
      have hl := mulK_lt c
      have g1 := gr_mad (x := mulK (sgn b n (uP s))) (hF _ _ (show uP s + 1 ≤ n by omega) h1)
      exact g1.trans (ih _ _ g1.2.1 h2)
theorem gr_pT {F : RdS → RdR} (hF : GRF n F) : GRF n (pT b n F) := by
  intro s s2 hp h
  obtain ⟨s1, h1, h2⟩ := bnd_ok h
  have g1 := hF _ _ hp h1
  exact g1.trans (gr_lpT hF _ _ _ g1.2.1 h2)
theorem gr_lpS {F : RdS → RdR} (hF : GRF n F) : ∀ k, GRF n (lpS b n F k) := by
  intro k
  induction k with
  | zero => intro s s2 hp h; cases h; exact GR.rfl' hp
  | succ k ih =>
    intro s s2 hp h
    unfold lpS at h
    by_cases c : addK (sgn b n (uP s)) = 0
    · rw [if_pos c] at h; cases h; exact GR.rfl' hp
    · rw [if_neg c] at h
      obtain ⟨s1, h1, h2⟩ := bnd_ok h
      have hl := addK_lt c
      have g1 := gr_mad (x := addK (sgn b n (uP s))) (gr_pT hF _ _ (show uP s + 1 ≤ n by omega) h1)
      exact g1.trans (ih _ _ g1.2.1 h2)
theorem gr_pS {F : RdS → RdR} (hF : GRF n F) : GRF n (pS b n F) := by
  intro s s2 hp h
  obtain ⟨s1, h1, h2⟩ := bnd_ok h
  have g1 := gr_pT hF _ _ hp h1
  exact g1.trans (gr_lpS hF _ _ _ g1.2.1 h2)
theorem exp_ok {due : Nat} {s s2 : RdS} (hd : due ≠ 300) (h : expS b n due s = .inr s2) : s2 = mvS s ∧ uP s < n ∧ sgn b n (uP s) = due := by
  unfold expS at h
  by_cases c : sgn b n (uP s) = due
  · rw [if_pos c] at h; cases h; exact ⟨rfl, sgn_lt hd c, c⟩
  · rw [if_neg c] at h; cases h
theorem ent_ok {s s2 : RdS} (h : entS s = .inr s2) : s2 = (uP s + 1, uO s + 1, uN s, uW s) ∧ uO s ≠ 6 := by
  unfold entS at h
  by_cases c : uO s = 6
  · rw [if_pos c] at h; cases h
  · rw [if_neg c] at h; cases h; exact ⟨rfl, c⟩
/-- what stands in ( ) or [ ] -/
theorem gr_in {due : Nat} {F : RdS → RdR} {s s2 : RdS} (hd : due ≠ 300) (hF : GRF n F) (hp : uP s < n) (h : bnd (entS s) (fun s1 => bnd (F s1) (fun s2 => bnd (expS b n due s2) (fun s3 => .inr (outS s3)))) = .inr s2) : GR n s s2 := by
  obtain ⟨s1, h1, h⟩ := bnd_ok h
  obtain ⟨z, h2, h⟩ := bnd_ok h
  obtain ⟨y, h3, h⟩ := bnd_ok h
  cases h
  obtain ⟨e1, _⟩ := ent_ok h1
  subst e1
  obtain ⟨e3, l3, _⟩ := exp_ok hd h3
  subst e3
  obtain ⟨a1, a2, a3, a4, a5, a6⟩ := hF _ _ (show uP s + 1 ≤ n by omega) h2
  have a1 : uP s + 1 ≤ uP z := a1
  have a3 : uN z + (uP s + 1) ≤ uN s + uP z := a3
  have a4 : uO z = uO s + 1 := a4
  exact ⟨show uP s ≤ uP z + 1 by omega, show uP z + 1 ≤ n by omega, show uN z + uP s ≤ uN s + (uP z + 1) by omega, show uO z - 1 = uO s by omega, a5, a6⟩
theorem gr_pF : ∀ D, GRF n (pF b n D) := by
  intro D
  induction D with
  | zero =>
    intro s s2 hp h
    unfold pF at h
    by_cases c : sgn b n (uP s) = 91
    · rw [if_pos c] at h; cases h
    · rw [if_neg c] at h; exact gr_at _ _ hp h
  | succ D ih =>
    intro s s2 hp h
    unfold pF at h
    by_cases c : sgn b n (uP s) = 91
    · rw [if_pos c] at h
      exact gr_in (by decide) (gr_pS ih) (sgn_lt (by decide) c) h
    · rw [if_neg c] at h; exact gr_at _ _ hp h
theorem gr_cm {F : RdS → RdR} (hF : GRF n F) : GRF n (cmF b n F) := by
  intro s s2 hp h
  obtain ⟨s1, h1, h⟩ := bnd_ok h
  have g1 := gr_pS hF _ _ hp h1
  by_cases c : cmpK (sgn b n (uP s1)) = 0
  · rw [if_pos c] at h; cases h
  · rw [if_neg c] at h
    obtain ⟨z, h2, h⟩ := bnd_ok h
    cases h
    have hl := cmpK_lt c
    exact g1.trans (gr_mad (gr_pS hF _ _ (show uP s1 + 1 ≤ n by omega) h2))
/-- a leap, what comes, the leap lands -/
theorem gr_ln {x : Nat} {s s2 : RdS} (h : GR n (adS x (mvS s)) s2) : GR n s (lnS (uN s) s2) := by
  obtain ⟨a1, a2, a3, a4, a5, a6⟩ := h
  have a1 : uP s + 1 ≤ uP s2 := a1
  have a3 : uN s2 + (uP s + 1) ≤ uN s + 1 + uP s2 := a3
  have a5 : uN s + 1 ≤ uN s2 := a5
  refine ⟨show uP s ≤ uP s2 by omega, a2, show uN s2 + uP s ≤ uN s + uP s2 by omega, a4, show uN s ≤ uN s2 by omega, fun i hi => ?_⟩
  show unF (uW s2) (uN s) _ i = uW s i
  rw [unF_ne (by omega), a6 i (show i < uN s + 1 by omega)]
  exact unF_ne (show i ≠ uN s by omega)
theorem gr_lpA {P : RdS → RdR} (hP : GRF n P) : ∀ k, GRF n (lpA b n P k) := by
  intro k
  induction k with
  | zero => intro s s2 hp h; cases h; exact GR.rfl' hp
  | succ k ih =>
    intro s s2 hp h
    unfold lpA at h
    by_cases c : sgn b n (uP s) = 38
    · rw [if_pos c] at h
      obtain ⟨s1, h1, h2⟩ := bnd_ok h
      have hl := sgn_lt (by decide) c
      have g1 := gr_ln (hP _ _ (show uP s + 1 ≤ n by omega) h1)
      exact g1.trans (ih _ _ g1.2.1 h2)
    · rw [if_neg c] at h; cases h; exact GR.rfl' hp
theorem gr_pA {P : RdS → RdR} (hP : GRF n P) : GRF n (pA b n P) := by
  intro s s2 hp h
  obtain ⟨s1, h1, h2⟩ := bnd_ok h
  have g1 := hP _ _ hp h1
  exact g1.trans (gr_lpA hP _ _ _ g1.2.1 h2)
theorem gr_lpO {P : RdS → RdR} (hP : GRF n P) : ∀ k, GRF n (lpO b n P k) := by
  intro k
  induction k with
  | zero => intro s s2 hp h; cases h; exact GR.rfl' hp
  | succ k ih =>
    intro s s2 hp h
    unfold lpO at h
    by_cases c : sgn b n (uP s) = 124
    · rw [if_pos c] at h
      obtain ⟨s1, h1, h2⟩ := bnd_ok h
      have hl := sgn_lt (by decide) c
      have g1 := gr_ln (gr_pA hP _ _ (show uP s + 1 ≤ n by omega) h1)
      exact g1.trans (ih _ _ g1.2.1 h2)
    · rw [if_neg c] at h; cases h; exact GR.rfl' hp
theorem gr_pO {P : RdS → RdR} (hP : GRF n P) : GRF n (pO b n P) := by
  intro s s2 hp h
  obtain ⟨s1, h1, h2⟩ := bnd_ok h
  have g1 := gr_pA hP _ _ hp h1
  exact g1.trans (gr_lpO hP _ _ _ g1.2.1 h2)
theorem gr_rd {P : RdS → RdR} (hP : GRF n P) : GRF n (rdF b n P) := by
  intro s s2 hp h
  unfold rdF at h
  by_cases c : sgn b n (uP s) = 40
  · rw [if_pos c] at h
    exact gr_in (by decide) (gr_pO hP) (sgn_lt (by decide) c) h
  · rw [if_neg c] at h; cases h
theorem gr_pP : ∀ D, GRF n (pP b n D) := by
  intro D
  induction D with
  | zero =>
    intro s s2 hp h
    unfold pP at h
    by_cases c : sgn b n (uP s) = 40 ∨ sgn b n (uP s) = 33
    · rw [if_pos c] at h; cases h
    · rw [if_neg c] at h; exact gr_cm (gr_pF 0) _ _ hp h
  | succ D ih =>
    intro s s2 hp h
    unfold pP at h
    by_cases c : sgn b n (uP s) = 40
    · rw [if_pos c] at h; exact gr_rd ih _ _ hp h
    · rw [if_neg c] at h
      by_cases c2 : sgn b n (uP s) = 33
      · rw [if_pos c2] at h
        obtain ⟨s1, h1, h⟩ := bnd_ok h
        obtain ⟨z, h2, h⟩ := bnd_ok h
        cases h
        have hl := sgn_lt (by decide) c2
        obtain ⟨e1, _⟩ := ent_ok h1
        subst e1
        obtain ⟨a1, a2, a3, a4, a5, a6⟩ := ih _ _ (show uP s + 1 ≤ n by omega) h2
        have a1 : uP s + 1 ≤ uP z := a1
        have a3 : uN z + (uP s + 1) ≤ uN s + uP z := a3
        have a4 : uO z = uO s + 1 := a4
        have a5 : uN s ≤ uN z := a5
        refine ⟨show uP s ≤ uP z by omega, a2, show uN z + 1 + uP s ≤ uN s + uP z by omega, show uO z - 1 = uO s by omega, show uN s ≤ uN z + 1 by omega, fun i hi => ?_⟩
        show unF (uW z) (uN z) 10 i = uW s i
        rw [unF_ne (by omega)]
        exact a6 i hi
      · rw [if_neg c2] at h; exact gr_cm (gr_pF _) _ _ hp h
end GRS
/-! what is read is well typed -/
def SEG (w : Nat → Nat) (a e x y : Nat) : Prop := ∃ τ : Nat → Nat, τ a = x ∧ τ e = y ∧ ∀ j, a ≤ j → j < e → CK w τ e j
theorem SEG.nil {w : Nat → Nat} {a x : Nat} : SEG w a a x x := ⟨fun _ => x, rfl, rfl, fun j h1 h2 => absurd h2 (by omega)⟩
theorem SEG.congr {w w2 : Nat → Nat} {a e x y : Nat} (hw : ∀ i, a ≤ i → i < e → w2 i = w i) (h : SEG w a e x y) : SEG w2 a e x y := by
  obtain ⟨τ, h1, h2, h3⟩ := h
  refine ⟨τ, h1, h2, fun j hj hj2 => ?_⟩
  have := h3 j hj hj2
  unfold CK at this ⊢
  rw [hw j hj hj2]
  exact this
theorem ck_le {w τ : Nat → Nat} {e e2 j : Nat} (he : e ≤ e2) (h : CK w τ e j) : CK w τ e2 j := by
  obtain ⟨h1, h2⟩ := h
  refine ⟨h1, ?_⟩
  rcases h2 with h | h | h | h | h | h
  · exact Or.inl h
  · exact Or.inr (Or.inl h)
  · exact Or.inr (Or.inr (Or.inl h))
  · exact Or.inr (Or.inr (Or.inr (Or.inl ⟨h.1, h.2.1, h.2.2.1, h.2.2.2.1, Nat.le_trans h.2.2.2.2.1 he, h.2.2.2.2.2⟩)))
  · exact Or.inr (Or.inr (Or.inr (Or.inr (Or.inl h))))
  · exact Or.inr (Or.inr (Or.inr (Or.inr (Or.inr h))))
theorem ck_tau {w τ σ : Nat → Nat} {e j : Nat} (h0 : σ j = τ j) (h1 : σ (j + 1) = τ (j + 1)) (h2 : ∀ k, j < k → k ≤ e → σ k = τ k) (h : CK w τ e j) : CK w σ e j := by
  obtain ⟨a1, a2⟩ := h
  refine ⟨a1, ?_⟩
  rw [h0, h1]
  rcases a2 with h | h | h | h | h | h
  · exact Or.inl h
  · exact Or.inr (Or.inl h)
  · exact Or.inr (Or.inr (Or.inl h))
  · refine Or.inr (Or.inr (Or.inr (Or.inl ⟨h.1, h.2.1, h.2.2.1, h.2.2.2.1, h.2.2.2.2.1, ?_⟩)))
    rw [h2 _ h.2.2.2.1 h.2.2.2.2.1]
    exact h.2.2.2.2.2
  · exact Or.inr (Or.inr (Or.inr (Or.inr (Or.inl h))))
  · exact Or.inr (Or.inr (Or.inr (Or.inr (Or.inr h))))
theorem SEG.cat {w : Nat → Nat} {a c e x y z : Nat} (hac : a ≤ c) (hce : c ≤ e) (h : SEG w a c x y) (g : SEG w c e y z) : SEG w a e x z := by
  obtain ⟨τ, t1, t2, t3⟩ := h
  obtain ⟨σ, s1, s2, s3⟩ := g
  refine ⟨fun k => if k ≤ c then τ k else σ k, ?_, ?_, fun j hj hj2 => ?_⟩
  · show (if a ≤ c then τ a else σ a) = x
    rw [if_pos hac]; exact t1
  · show (if e ≤ c then τ e else σ e) = z
    by_cases q : e ≤ c
    · have : e = c := by omega
      subst this
      rw [if_pos q, t2, ← s1]; exact s2
    · rw [if_neg q]; exact s2
  · rcases Nat.lt_or_ge j c with q | q
    · refine ck_le hce (ck_tau ?_ ?_ ?_ (t3 j hj q))
      · show (if j ≤ c then τ j else σ j) = τ j
        rw [if_pos (by omega)]
      · show (if j + 1 ≤ c then τ (j + 1) else σ (j + 1)) = τ (j + 1)
        rw [if_pos (by omega)]
      · intro k hk hk2
        show (if k ≤ c then τ k else σ k) = τ k
        rw [if_pos hk2]
    · refine ck_tau ?_ ?_ ?_ (s3 j q hj2)
      · show (if j ≤ c then τ j else σ j) = σ j
        by_cases z : j ≤ c
        · have : j = c := by omega
          rw [if_pos z, this, t2, s1]
        · rw [if_neg z]
      · show (if j + 1 ≤ c then τ (j + 1) else σ (j + 1)) = σ (j + 1)
        rw [if_neg (by omega)]
      · intro k hk hk2
        show (if k ≤ c then τ k else σ k) = σ k
        rw [if_neg (by omega)]
/-- one word more -/
theorem SEG.add {w : Nat → Nat} {a e x y z : Nat} (hae : a ≤ e) (h : SEG w a e x y) (v : Nat) (hv : v < 2097152) (hk : (v % 16 = 0 ∧ y ≤ 20 ∧ z = y + 1) ∨ (v % 16 = 1 ∧ y ≤ 20 ∧ z = y + 1 ∧ v / 16 < 16) ∨ (v % 16 = 10 ∧ y = 50 ∧ z = 50) ∨ ((2 ≤ v % 16 ∧ v % 16 ≤ 6) ∧ 2 ≤ y ∧ y ≤ 21 ∧ z = y - 1) ∨ ((7 ≤ v % 16 ∧ v % 16 ≤ 9) ∧ y = 2 ∧ z = 50)) : SEG (unF w e v) a (e + 1) x z := by
  refine SEG.cat hae (Nat.le_add_right e 1) (h.congr (fun i _ hi => unF_ne (by omega))) ⟨fun k => if k = e then y else z, if_pos rfl, if_neg (by omega), fun j hj hj2 => ?_⟩
  have : j = e := by omega
  subst this
  unfold CK
  dsimp only
  rw [unF_at, if_pos rfl, if_neg (show ¬ j + 1 = j by omega)]
  refine ⟨hv, ?_⟩
  rcases hk with q | q | q | q | q
  · exact Or.inl q
  · exact Or.inr (Or.inl q)
  · exact Or.inr (Or.inr (Or.inl q))
  · exact Or.inr (Or.inr (Or.inr (Or.inr (Or.inl q))))
  · exact Or.inr (Or.inr (Or.inr (Or.inr (Or.inr q))))
/-- a leap and what it leaps over -/
theorem SEG.leap {w : Nat → Nat} {a e k : Nat} (hk : k = 11 ∨ k = 12) (hae : a < e) (he : e ≤ 200) (h : SEG w (a + 1) e 0 50) : SEG (unF w a (k + 16 * e)) a e 50 50 := by
  obtain ⟨τ, t1, t2, t3⟩ := h
  refine ⟨fun j => if j = a then 50 else τ j, if_pos rfl, ?_, fun j hj hj2 => ?_⟩
  · show (if e = a then 50 else τ e) = 50
    rw [if_neg (by omega)]; exact t2
  · by_cases q : j = a
    · subst q
      unfold CK
      dsimp only
      rw [unF_at, if_pos rfl, if_neg (show ¬ j + 1 = j by omega)]
      have e1 : (k + 16 * e) % 16 = k := by omega
      have e2 : (k + 16 * e) / 16 = e := by omega
      rw [e1, e2, if_neg (show ¬ e = j by omega)]
      exact ⟨by omega, Or.inr (Or.inr (Or.inr (Or.inl ⟨hk, rfl, t1, hae, Nat.le_refl _, t2⟩)))⟩
    · have := t3 j (by omega) hj2
      have : CK (unF w a (k + 16 * e)) τ e j := by
        unfold CK at this ⊢
        rw [unF_ne q]; exact this
      refine ck_tau (if_neg q) (if_neg (by omega)) (fun i hi _ => if_neg (by omega)) this
/-- sums: height up by 1 -/
def TYz (n : Nat) (F : RdS → RdR) (c : Nat) : Prop := ∀ s s2 h, uP s ≤ n → uO s ≤ 6 → h ≤ 2 * uO s + c → F s = .inr s2 → SEG (uW s2) (uN s) (uN s2) h (h + 1)
section TYY
variable {b : Nat → Nat} {n : Nat}
theorem ty_at : TYz n (atS b n) 3 := by
  intro s s2 h hp ho hh e
  unfold atS at e
  by_cases c : isDg (sgn b n (uP s)) = true
  · rw [if_pos c] at e
    cases hd : dgF b n 5 0 (uP s) with
    | inl e' => rw [hd] at e; cases e
    | inr q =>
      rw [hd] at e
      cases e
      obtain ⟨a1, a2, a3, _⟩ := dgF_ok 5 0 (uP s) q hp hd
      have a3 : q.1 + 1 ≤ 100000 := a3
      exact SEG.add (Nat.le_refl _) SEG.nil _ (by omega) (Or.inl ⟨by omega, by omega, rfl⟩)
  · rw [if_neg c] at e
    by_cases c2 : letF (sgn b n (uP s)) < 16
    · rw [if_pos c2] at e
      cases e
      exact SEG.add (Nat.le_refl _) SEG.nil _ (by omega) (Or.inr (Or.inl ⟨by omega, by omega, rfl, by omega⟩))
    · rw [if_neg c2] at e; cases e
/-- what has been laid, a sum more, what joins them -/
theorem seg_op {a x h k : Nat} {s s1 : RdS} (ha : a ≤ uN s) (g : GR n s s1) (h1 : SEG (uW s) a (uN s) x (h + 1)) (h2 : SEG (uW s1) (uN s) (uN s1) (h + 1) (h + 2)) (hk : 2 ≤ k ∧ k ≤ 6) (hh : h ≤ 19) : SEG (uW (adS k s1)) a (uN (adS k s1)) x (h + 1) := by
  obtain ⟨_, _, _, _, g5, g6⟩ := g
  refine SEG.add (Nat.le_trans ha g5) (SEG.cat ha g5 (h1.congr (fun i _ hi => g6 i hi)) h2) k (by omega) (Or.inr (Or.inr (Or.inr (Or.inl ⟨by omega, by omega, by omega, by omega⟩))))
theorem ty_lpT {F : RdS → RdR} (hF : GRF n F) (tF : TYz n F 3) : ∀ k a s s2 h x, uP s ≤ n → uO s ≤ 6 → h ≤ 2 * uO s + 2 → a ≤ uN s → SEG (uW s) a (uN s) x (h + 1) → lpT b n F k s = .inr s2 → SEG (uW s2) a (uN s2) x (h + 1) := by
  intro k
  induction k with
  | zero => intro a s s2 h x hp ho hh ha hs e; cases e; exact hs
  | succ k ih =>
    intro a s s2 h x hp ho hh ha hs e
    unfold lpT at e
    by_cases c : mulK (sgn b n (uP s)) = 0
    · rw [if_pos c] at e; cases e; exact hs
    · rw [if_neg c] at e
      obtain ⟨s1, h1, h2⟩ := bnd_ok e
      have hl := mulK_lt c
      have hp1 : uP (mvS s) ≤ n := show uP s + 1 ≤ n by omega
      have g1 := hF _ _ hp1 h1
      have g2 := gr_mad (x := mulK (sgn b n (uP s))) g1
      have := mulK_rg c
      have t1 := tF (mvS s) s1 (h + 1) hp1 ho (by show h + 1 ≤ 2 * uO s + 3; omega) h1
      have o1 : uO s1 = uO s := g1.2.2.2.1
      refine ih a _ s2 h x g2.2.1 (by show uO s1 ≤ 6; omega) (by show h ≤ 2 * uO s1 + 2; omega) (Nat.le_trans ha g2.2.2.2.2.1) ?_ h2
      exact seg_op (s := mvS s) ha g1 hs t1 (by omega) (by omega)
theorem ty_pT {F : RdS → RdR} (hF : GRF n F) (tF : TYz n F 3) : TYz n (pT b n F) 2 := by
  intro s s2 h hp ho hh e
  obtain ⟨s1, h1, h2⟩ := bnd_ok e
  have g1 := hF _ _ hp h1
  have o1 : uO s1 = uO s := g1.2.2.2.1
  exact ty_lpT hF tF n (uN s) s1 s2 h h g1.2.1 (by omega) (by omega) g1.2.2.2.2.1 (tF s s1 h hp ho (by omega) h1) h2
theorem ty_lpS {F : RdS → RdR} (hF : GRF n F) (tF : TYz n F 3) : ∀ k a s s2 h x, uP s ≤ n → uO s ≤ 6 → h ≤ 2 * uO s + 1 → a ≤ uN s → SEG (uW s) a (uN s) x (h + 1) → lpS b n F k s = .inr s2 → SEG (uW s2) a (uN s2) x (h + 1) := by
  intro k
  induction k with
  | zero => intro a s s2 h x hp ho hh ha hs e; cases e; exact hs
  | succ k ih =>
    intro a s s2 h x hp ho hh ha hs e
    unfold lpS at e
    by_cases c : addK (sgn b n (uP s)) = 0
    · rw [if_pos c] at e; cases e; exact hs
    · rw [if_neg c] at e
      obtain ⟨s1, h1, h2⟩ := bnd_ok e
      have hl := addK_lt c
      have hp1 : uP (mvS s) ≤ n := show uP s + 1 ≤ n by omega
      have g1 := gr_pT hF _ _ hp1 h1
      have g2 := gr_mad (x := addK (sgn b n (uP s))) g1
      have := addK_rg c
      have t1 := ty_pT hF tF (mvS s) s1 (h + 1) hp1 ho (by show h + 1 ≤ 2 * uO s + 2; omega) h1
      have o1 : uO s1 = uO s := g1.2.2.2.1
      refine ih a _ s2 h x g2.2.1 (by show uO s1 ≤ 6; omega) (by show h ≤ 2 * uO s1 + 1; omega) (Nat.le_trans ha g2.2.2.2.2.1) ?_ h2
      exact seg_op (s := mvS s) ha g1 hs t1 (by omega) (by omega)
theorem ty_pS {F : RdS → RdR} (hF : GRF n F) (tF : TYz n F 3) : TYz n (pS b n F) 1 := by
  intro s s2 h hp ho hh e
  obtain ⟨s1, h1, h2⟩ := bnd_ok e
  have g1 := gr_pT hF _ _ hp h1
  have o1 : uO s1 = uO s := g1.2.2.2.1
  exact ty_lpS hF tF n (uN s) s1 s2 h h g1.2.1 (by omega) (by omega) g1.2.2.2.2.1 (ty_pT hF tF s s1 h hp ho (by omega) h1) h2
theorem ty_pF : ∀ D, TYz n (pF b n D) 3 := by
  intro D
  induction D with
  | zero =>
    intro s s2 h hp ho hh e
    unfold pF at e
    by_cases c : sgn b n (uP s) = 91
    · rw [if_pos c] at e; cases e
    · rw [if_neg c] at e; exact ty_at _ _ _ hp ho hh e
  | succ D ih =>
    intro s s2 h hp ho hh e
    unfold pF at e
    by_cases c : sgn b n (uP s) = 91
    · rw [if_pos c] at e
      obtain ⟨s1, h1, e⟩ := bnd_ok e
      obtain ⟨z, h2, e⟩ := bnd_ok e
      obtain ⟨y, h3, e⟩ := bnd_ok e
      cases e
      have hl := sgn_lt (by decide) c
      obtain ⟨e1, e2⟩ := ent_ok h1
      subst e1
      obtain ⟨e3, _, _⟩ := exp_ok (by decide) h3
      subst e3
      exact ty_pS (gr_pF D) ih (uP s + 1, uO s + 1, uN s, uW s) z h (show uP s + 1 ≤ n by omega) (show uO s + 1 ≤ 6 by omega) (show h ≤ 2 * (uO s + 1) + 1 by omega) h2
    · rw [if_neg c] at e; exact ty_at _ _ _ hp ho hh e
/-- conditions: from 0 to 50 -/
def TYb (n : Nat) (F : RdS → RdR) : Prop := ∀ s s2, uP s ≤ n → uN s ≤ uP s → uO s ≤ 6 → F s = .inr s2 → SEG (uW s2) (uN s) (uN s2) 0 50
theorem ty_cm {F : RdS → RdR} (hF : GRF n F) (tF : TYz n F 3) : TYb n (cmF b n F) := by
  intro s s2 hp hn ho e
  obtain ⟨s1, h1, e⟩ := bnd_ok e
  have g1 := gr_pS hF _ _ hp h1
  by_cases c : cmpK (sgn b n (uP s1)) = 0
  · rw [if_pos c] at e; cases e
  · rw [if_neg c] at e
    obtain ⟨z, h2, e⟩ := bnd_ok e
    cases e
    have hl := cmpK_lt c
    have o1 : uO s1 = uO s := g1.2.2.2.1
    have hp1 : uP (mvS s1) ≤ n := show uP s1 + 1 ≤ n by omega
    have g2 := gr_pS hF _ _ hp1 h2
    have t1 := ty_pS hF tF s s1 0 hp ho (by omega) h1
    have t2 := ty_pS hF tF (mvS s1) z 1 hp1 (by show uO s1 ≤ 6; omega) (by omega) h2
    have := cmpK_rg c
    refine SEG.add (Nat.le_trans g1.2.2.2.2.1 g2.2.2.2.2.1) (SEG.cat g1.2.2.2.2.1 g2.2.2.2.2.1 (t1.congr (fun i _ hi => g2.2.2.2.2.2 i hi)) t2) _ (by omega) (Or.inr (Or.inr (Or.inr (Or.inr ⟨by omega, rfl, rfl⟩))))
/-- a leap over what was read -/
theorem seg_ln {a k : Nat} {s s2 : RdS} (hk : k = 11 ∨ k = 12) (ha : a ≤ uN s) (he : uN s2 ≤ 200) (g : GR n (adS k (mvS s)) s2) (h1 : SEG (uW s) a (uN s) 0 50) (h2 : SEG (uW s2) (uN s + 1) (uN s2) 0 50) : SEG (uW (lnS (uN s) s2)) a (uN (lnS (uN s) s2)) 0 50 := by
  obtain ⟨_, _, _, _, g5, g6⟩ := g
  have g5 : uN s + 1 ≤ uN s2 := g5
  have e : uW s2 (uN s) = k := (g6 (uN s) (show uN s < uN s + 1 by omega)).trans unF_at
  show SEG (unF (uW s2) (uN s) (uW s2 (uN s) % 16 + 16 * uN s2)) a (uN s2) 0 50
  rw [e, show k % 16 = k by omega]
  refine SEG.cat ha (by omega) (h1.congr (fun i _ hi => ?_)) (SEG.leap hk (by omega) he h2)
  rw [unF_ne (by omega)]
  exact (g6 i (show i < uN s + 1 by omega)).trans (unF_ne (show i ≠ uN s by omega))
theorem ty_lpA {P : RdS → RdR} (hn : n ≤ 200) (hP : GRF n P) (tP : TYb n P) : ∀ k a s s2, uP s ≤ n → uN s ≤ uP s → uO s ≤ 6 → a ≤ uN s → SEG (uW s) a (uN s) 0 50 → lpA b n P k s = .inr s2 → SEG (uW s2) a (uN s2) 0 50 := by
  intro k
  induction k with
  | zero => intro a s s2 hp hN ho ha hs e; cases e; exact hs
  | succ k ih =>
    intro a s s2 hp hN ho ha hs e
    unfold lpA at e
    by_cases c : sgn b n (uP s) = 38
    · rw [if_pos c] at e
      obtain ⟨s1, h1, h2⟩ := bnd_ok e
      have hl := sgn_lt (by decide) c
      have hp1 : uP (adS 11 (mvS s)) ≤ n := show uP s + 1 ≤ n by omega
      have g1 := hP _ _ hp1 h1
      have g2 := gr_ln g1
      have t1 := tP _ s1 hp1 (show uN s + 1 ≤ uP s + 1 by omega) ho h1
      have n1 : uN s1 ≤ uP s1 := by have := g2.2.2.1; have : uN s1 + uP s ≤ uN s + uP s1 := this; omega
      have o1 : uO s1 = uO s := g1.2.2.2.1
      refine ih a _ s2 g2.2.1 n1 (by show uO s1 ≤ 6; omega) (Nat.le_trans ha g2.2.2.2.2.1) ?_ h2
      exact seg_ln (Or.inl rfl) ha (Nat.le_trans n1 (Nat.le_trans g1.2.1 hn)) g1 hs t1
    · rw [if_neg c] at e; cases e; exact hs
theorem ty_pA {P : RdS → RdR} (hn : n ≤ 200) (hP : GRF n P) (tP : TYb n P) : TYb n (pA b n P) := by
  intro s s2 hp hN ho e
  obtain ⟨s1, h1, h2⟩ := bnd_ok e
  have g1 := hP _ _ hp h1
  have := g1.2.2.1
  exact ty_lpA hn hP tP n (uN s) s1 s2 g1.2.1 (by omega) (by rw [g1.2.2.2.1]; exact ho) g1.2.2.2.2.1 (tP s s1 hp hN ho h1) h2
theorem ty_lpO {P : RdS → RdR} (hn : n ≤ 200) (hP : GRF n P) (tP : TYb n P) : ∀ k a s s2, uP s ≤ n → uN s ≤ uP s → uO s ≤ 6 → a ≤ uN s → SEG (uW s) a (uN s) 0 50 → lpO b n P k s = .inr s2 → SEG (uW s2) a (uN s2) 0 50 := by
  intro k
  induction k with
  | zero => intro a s s2 hp hN ho ha hs e; cases e; exact hs
  | succ k ih =>
    intro a s s2 hp hN ho ha hs e
    unfold lpO at e
    by_cases c : sgn b n (uP s) = 124
    · rw [if_pos c] at e
      obtain ⟨s1, h1, h2⟩ := bnd_ok e
      have hl := sgn_lt (by decide) c
      have hp1 : uP (adS 12 (mvS s)) ≤ n := show uP s + 1 ≤ n by omega
      have g1 := gr_pA hP _ _ hp1 h1
      have g2 := gr_ln g1
      have t1 := ty_pA hn hP tP _ s1 hp1 (show uN s + 1 ≤ uP s + 1 by omega) ho h1
      have n1 : uN s1 ≤ uP s1 := by have := g2.2.2.1; have : uN s1 + uP s ≤ uN s + uP s1 := this; omega
      have o1 : uO s1 = uO s := g1.2.2.2.1
      refine ih a _ s2 g2.2.1 n1 (by show uO s1 ≤ 6; omega) (Nat.le_trans ha g2.2.2.2.2.1) ?_ h2
      exact seg_ln (Or.inr rfl) ha (Nat.le_trans n1 (Nat.le_trans g1.2.1 hn)) g1 hs t1
    · rw [if_neg c] at e; cases e; exact hs
theorem ty_pO {P : RdS → RdR} (hn : n ≤ 200) (hP : GRF n P) (tP : TYb n P) : TYb n (pO b n P) := by
  intro s s2 hp hN ho e
  obtain ⟨s1, h1, h2⟩ := bnd_ok e
  have g1 := gr_pA hP _ _ hp h1
  have := g1.2.2.1
  exact ty_lpO hn hP tP n (uN s) s1 s2 g1.2.1 (by omega) (by rw [g1.2.2.2.1]; exact ho) g1.2.2.2.2.1 (ty_pA hn hP tP s s1 hp hN ho h1) h2
theorem ty_rd {P : RdS → RdR} (hn : n ≤ 200) (hP : GRF n P) (tP : TYb n P) : TYb n (rdF b n P) := by
  intro s s2 hp hN ho e
  unfold rdF at e
  by_cases c : sgn b n (uP s) = 40
  · rw [if_pos c] at e
    obtain ⟨s1, h1, e⟩ := bnd_ok e
    obtain ⟨z, h2, e⟩ := bnd_ok e
    obtain ⟨y, h3, e⟩ := bnd_ok e
    cases e
    have hl := sgn_lt (by decide) c
    obtain ⟨e1, e2⟩ := ent_ok h1
    subst e1
    obtain ⟨e3, _, _⟩ := exp_ok (by decide) h3
    subst e3
    exact ty_pO hn hP tP (uP s + 1, uO s + 1, uN s, uW s) z (show uP s + 1 ≤ n by omega) (show uN s ≤ uP s + 1 by omega) (show uO s + 1 ≤ 6 by omega) h2
  · rw [if_neg c] at e; cases e
theorem ty_pP (hn : n ≤ 200) : ∀ D, TYb n (pP b n D) := by
  intro D
  induction D with
  | zero =>
    intro s s2 hp hN ho e
    unfold pP at e
    by_cases c : sgn b n (uP s) = 40 ∨ sgn b n (uP s) = 33
    · rw [if_pos c] at e; cases e
    · rw [if_neg c] at e; exact ty_cm (gr_pF 0) (ty_pF 0) _ _ hp hN ho e
  | succ D ih =>
    intro s s2 hp hN ho e
    unfold pP at e
    by_cases c : sgn b n (uP s) = 40
    · rw [if_pos c] at e; exact ty_rd hn (gr_pP D) ih _ _ hp hN ho e
    · rw [if_neg c] at e
      by_cases c2 : sgn b n (uP s) = 33
      · rw [if_pos c2] at e
        obtain ⟨s1, h1, e⟩ := bnd_ok e
        obtain ⟨z, h2, e⟩ := bnd_ok e
        cases e
        have hl := sgn_lt (by decide) c2
        obtain ⟨e1, e2⟩ := ent_ok h1
        subst e1
        have hp1 : uP ((uP s + 1, uO s + 1, uN s, uW s) : RdS) ≤ n := show uP s + 1 ≤ n by omega
        have t1 := ih _ z hp1 (show uN s ≤ uP s + 1 by omega) (show uO s + 1 ≤ 6 by omega) h2
        exact SEG.add (gr_pP D _ _ hp1 h2).2.2.2.2.1 t1 10 (by omega) (Or.inr (Or.inr (Or.inl ⟨rfl, rfl, rfl⟩)))
      · rw [if_neg c2] at e; exact ty_cm (gr_pF _) (ty_pF _) _ _ hp hN ho e
end TYY
/-! clauses -/
abbrev RdC : Type := RdS × Nat × (Nat → Nat) × (Nat → Nat) × (Nat → Nat) × (Nat → Nat)
section RDC
variable (b : Nat → Nat) (n : Nat) (hd : Nat → Bool)
def clX (c : RdC) : Sum (Nat × Nat) RdC := if hd (sgn b n (uP c.1)) = false then .inl (1, uP c.1) else if c.2.1 = 14 then .inl (4, uP c.1) else match pS b n (pF b n 6) (mvS c.1) with
  | .inl e => .inl e
  | .inr s1 => match rdF b n (pP b n 5) s1 with
    | .inl e => .inl e
    | .inr s2 => .inr (s2, c.2.1 + 1, unF c.2.2.1 c.2.1 (sgn b n (uP c.1)), unF c.2.2.2.1 c.2.1 (uN c.1), unF c.2.2.2.2.1 c.2.1 (uN s1), unF c.2.2.2.2.2 c.2.1 (uN s2))
def txF : Nat → RdC → Sum (Nat × Nat) RdC
  | 0, c => .inr c
  | k + 1, c => if uP c.1 < n then (match expS b n 59 c.1 with
      | .inl e => .inl e
      | .inr s => match clX b n hd (s, c.2) with
        | .inl e => .inl e
        | .inr c2 => txF k c2) else .inr c
def rdT : Sum (Nat × Nat) RdC := match clX b n hd ((0, 0, 0, fun _ => 0), 0, (fun _ => 0), (fun _ => 0), (fun _ => 0), fun _ => 0) with
  | .inl e => .inl e
  | .inr c => txF b n hd n c
end RDC
def prgC (c : RdC) : Prg := (c.2.1, c.2.2.1, c.2.2.2.1, c.2.2.2.2.1, c.2.2.2.2.2, uW c.1)
/-- what has been read is a text -/
def WFC (n : Nat) (c : RdC) : Prop := uP c.1 ≤ n ∧ uN c.1 ≤ uP c.1 ∧ uO c.1 = 0 ∧ c.2.1 ≤ 14 ∧ ∀ j, j < c.2.1 → c.2.2.1 j < 128 ∧ c.2.2.2.1 j ≤ c.2.2.2.2.1 j ∧ c.2.2.2.2.1 j ≤ c.2.2.2.2.2 j ∧ c.2.2.2.2.2 j ≤ uN c.1 ∧ SEG (uW c.1) (c.2.2.2.1 j) (c.2.2.2.2.1 j) 0 1 ∧ SEG (uW c.1) (c.2.2.2.2.1 j) (c.2.2.2.2.2 j) 0 50
theorem wfc_cl {b : Nat → Nat} {n : Nat} {hd : Nat → Bool} (hn : n ≤ 200) (hh : ∀ c, hd c = true → c < 128) {c c2 : RdC} (h : WFC n c) (e : clX b n hd c = .inr c2) : WFC n c2 ∧ uP c.1 ≤ uP c2.1 ∧ c2.2.1 = c.2.1 + 1 := by
  obtain ⟨h1, h2, h3, h4, h5⟩ := h
  unfold clX at e
  cases hc : hd (sgn b n (uP c.1)) with
  | false => rw [hc, if_pos rfl] at e; cases e
  | true =>
    rw [hc, if_neg (by decide)] at e
    by_cases hm : c.2.1 = 14
    · rw [if_pos hm] at e; cases e
    rw [if_neg hm] at e
    cases e1 : pS b n (pF b n 6) (mvS c.1) with
    | inl q => rw [e1] at e; cases e
    | inr s1 =>
      rw [e1] at e
      dsimp only at e
      cases e2 : rdF b n (pP b n 5) s1 with
      | inl q => rw [e2] at e; cases e
      | inr s2 =>
        rw [e2] at e
        cases e
        have hs := hh _ hc
        have hl : uP c.1 < n := sgn_lt (c := sgn b n (uP c.1)) (by omega) rfl
        have hp1 : uP (mvS c.1) ≤ n := show uP c.1 + 1 ≤ n by omega
        have g1 := gr_pS (gr_pF 6) _ _ hp1 e1
        have t1 := ty_pS (gr_pF 6) (ty_pF 6) (mvS c.1) s1 0 hp1 (show uO c.1 ≤ 6 by omega) (by omega) e1
        have n1 : uN s1 + (uP c.1 + 1) ≤ uN c.1 + uP s1 := g1.2.2.1
        have p1 : uP c.1 + 1 ≤ uP s1 := g1.1
        have o1 : uO s1 = uO c.1 := g1.2.2.2.1
        have g2 := gr_rd (gr_pP 5) _ _ g1.2.1 e2
        have t2 := ty_rd hn (gr_pP 5) (ty_pP hn 5) s1 s2 g1.2.1 (by omega) (by omega) e2
        have n2 := g2.2.2.1
        have p2 := g2.1
        have m1 : uN c.1 ≤ uN s1 := g1.2.2.2.2.1
        have m2 := g2.2.2.2.2.1
        refine ⟨⟨g2.2.1, show uN s2 ≤ uP s2 by omega, show uO s2 = 0 by rw [g2.2.2.2.1, o1]; exact h3, show c.2.1 + 1 ≤ 14 by omega, fun j hj => ?_⟩, show uP c.1 ≤ uP s2 by omega, rfl⟩
        have hj : j < c.2.1 + 1 := hj
        show unF c.2.2.1 c.2.1 (sgn b n (uP c.1)) j < 128 ∧ unF c.2.2.2.1 c.2.1 (uN c.1) j ≤ unF c.2.2.2.2.1 c.2.1 (uN s1) j ∧ unF c.2.2.2.2.1 c.2.1 (uN s1) j ≤ unF c.2.2.2.2.2 c.2.1 (uN s2) j ∧ unF c.2.2.2.2.2 c.2.1 (uN s2) j ≤ uN s2 ∧ SEG (uW s2) (unF c.2.2.2.1 c.2.1 (uN c.1) j) (unF c.2.2.2.2.1 c.2.1 (uN s1) j) 0 1 ∧ SEG (uW s2) (unF c.2.2.2.2.1 c.2.1 (uN s1) j) (unF c.2.2.2.2.2 c.2.1 (uN s2) j) 0 50
        by_cases q : j = c.2.1
        · subst q
          rw [unF_at, unF_at, unF_at, unF_at]
          exact ⟨hs, m1, m2, Nat.le_refl _, t1.congr (fun i _ hi => g2.2.2.2.2.2 i hi), t2⟩
        · rw [unF_ne q, unF_ne q, unF_ne q, unF_ne q]
          obtain ⟨a1, a2, a3, a4, a5, a6⟩ := h5 j (by omega)
          have cg : ∀ i, i < uN c.1 → uW s2 i = uW c.1 i := fun i hi => (g2.2.2.2.2.2 i (by omega)).trans (g1.2.2.2.2.2 i hi)
          exact ⟨a1, a2, a3, by omega, a5.congr (fun i _ hi => cg i (by omega)), a6.congr (fun i _ hi => cg i (by omega))⟩
theorem wfc_tx {b : Nat → Nat} {n : Nat} {hd : Nat → Bool} (hn : n ≤ 200) (hh : ∀ c, hd c = true → c < 128) : ∀ k c c2, WFC n c → 0 < c.2.1 → txF b n hd k c = .inr c2 → WFC n c2 ∧ 0 < c2.2.1 := by
  intro k
  induction k with
  | zero => intro c c2 h hm e; cases e; exact ⟨h, hm⟩
  | succ k ih =>
    intro c c2 h hm e
    unfold txF at e
    by_cases q : uP c.1 < n
    · rw [if_pos q] at e
      cases e1 : expS b n 59 c.1 with
      | inl z => rw [e1] at e; cases e
      | inr s =>
        rw [e1] at e
        obtain ⟨e3, l3, _⟩ := exp_ok (by decide) e1
        subst e3
        dsimp only at e
        have h' : WFC n (mvS c.1, c.2) := ⟨show uP c.1 + 1 ≤ n by omega, show uN c.1 ≤ uP c.1 + 1 by have := h.2.1; omega, h.2.2⟩
        cases e2 : clX b n hd (mvS c.1, c.2) with
        | inl z => rw [e2] at e; cases e
        | inr c3 =>
          rw [e2] at e
          obtain ⟨w1, _, w3⟩ := wfc_cl hn hh h' e2
          exact ih c3 c2 w1 (by rw [w3]; omega) e
    · rw [if_neg q] at e; cases e; exact ⟨h, hm⟩
theorem wfc_rd {b : Nat → Nat} {n : Nat} {hd : Nat → Bool} (hn : n ≤ 200) (hh : ∀ c, hd c = true → c < 128) {c : RdC} (e : rdT b n hd = .inr c) : WFC n c ∧ 0 < c.2.1 := by
  unfold rdT at e
  cases e1 : clX b n hd ((0, 0, 0, fun _ => 0), 0, (fun _ => 0), (fun _ => 0), (fun _ => 0), fun _ => 0) with
  | inl z => rw [e1] at e; cases e
  | inr c1 =>
    rw [e1] at e
    obtain ⟨w1, _, w3⟩ := wfc_cl hn hh (c := ((0, 0, 0, fun _ => 0), 0, (fun _ => 0), (fun _ => 0), (fun _ => 0), fun _ => 0)) ⟨Nat.zero_le _, Nat.le_refl _, rfl, Nat.zero_le _, fun j hj => absurd hj (Nat.not_lt_zero j)⟩ e1
    exact wfc_tx hn hh n c1 c w1 (by rw [w3]; omega) e
theorem wfc_p {n : Nat} {c : RdC} (hn : n ≤ 200) (h : WFC n c) : WFP (prgC c) := by
  obtain ⟨h1, h2, h3, h4, h5⟩ := h
  refine ⟨h4, fun j hj => ?_⟩
  obtain ⟨a1, a2, a3, a4, a5, a6⟩ := h5 j hj
  exact ⟨a1, a2, a3, Nat.le_trans a4 (by omega), a5, a6⟩
