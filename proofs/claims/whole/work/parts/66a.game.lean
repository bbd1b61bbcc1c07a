/-- the least, the greatest of those that count -/
def lsF (P : Nat → Bool) (V : Nat → Nat) : Nat → Option Nat
  | 0 => none
  | j + 1 => if P j = true then (match lsF P V j with
    | none => some (V j)
    | some n => some (if V j < n then V j else n)) else lsF P V j
def gsF (P : Nat → Bool) (V : Nat → Nat) : Nat → Option Nat
  | 0 => none
  | j + 1 => if P j = true then (match gsF P V j with
    | none => some (V j)
    | some n => some (if V j < n then n else V j)) else gsF P V j
def grF (W : Nat → Option Nat) : Nat → Option (Nat × Nat)
  | 0 => none
  | k + 1 => match W k with
    | none => grF W k
    | some n => match grF W k with
      | none => some (n, k)
      | some p => if p.1 < n then some (n, k) else some p
def lrF (W : Nat → Option Nat) : Nat → Option (Nat × Nat)
  | 0 => none
  | k + 1 => match W k with
    | none => lrF W k
    | some n => match lrF W k with
      | none => some (n, k)
      | some p => if n < p.1 then some (n, k) else some p
def oL : Option Nat → Int64
  | none => -1
  | some n => lN n
def gLo : Option (Nat × Nat) → Int64
  | none => -1
  | some p => lN p.1
def gRl : Option (Nat × Nat) → Int32
  | none => -1
  | some p => nI p.2
theorem lsF_none {P : Nat → Bool} {V : Nat → Nat} : ∀ n, (∀ j, j < n → P j = false) → lsF P V n = none := by
  intro n
  induction n with
  | zero => intro _; rfl
  | succ n ih =>
    intro h
    unfold lsF
    rw [if_neg (by rw [h n (by omega)]; decide)]
    exact ih (fun j hj => h j (by omega))
theorem gsF_none {P : Nat → Bool} {V : Nat → Nat} : ∀ n, (∀ j, j < n → P j = false) → gsF P V n = none := by
  intro n
  induction n with
  | zero => intro _; rfl
  | succ n ih =>
    intro h
    unfold gsF
    rw [if_neg (by rw [h n (by omega)]; decide)]
    exact ih (fun j hj => h j (by omega))
theorem lsF_some {P : Nat → Bool} {V : Nat → Nat} : ∀ n, (∃ j, j < n ∧ P j = true) → ∃ m, lsF P V n = some m := by
  intro n
  induction n with
  | zero => intro ⟨j, hj, _⟩; omega
  | succ n ih =>
    intro ⟨j, hj, hp⟩
    unfold lsF
    by_cases c : P n = true
    · rw [if_pos c]
      cases lsF P V n with
      | none => exact ⟨_, rfl⟩
      | some m => exact ⟨_, rfl⟩
    · rw [if_neg c]
      refine ih ⟨j, ?_, hp⟩
      have : j ≠ n := fun q => c (q ▸ hp)
      omega
theorem gsF_some {P : Nat → Bool} {V : Nat → Nat} : ∀ n, (∃ j, j < n ∧ P j = true) → ∃ m, gsF P V n = some m := by
  intro n
  induction n with
  | zero => intro ⟨j, hj, _⟩; omega
  | succ n ih =>
    intro ⟨j, hj, hp⟩
    unfold gsF
    by_cases c : P n = true
    · rw [if_pos c]
      cases gsF P V n with
      | none => exact ⟨_, rfl⟩
      | some m => exact ⟨_, rfl⟩
    · rw [if_neg c]
      refine ih ⟨j, ?_, hp⟩
      have : j ≠ n := fun q => c (q ▸ hp)
      omega
theorem lsF_le {P : Nat → Bool} {V : Nat → Nat} {M : Nat} (hV : ∀ j, V j ≤ M) : ∀ n m, lsF P V n = some m → m ≤ M := by
  intro n
  induction n with
  | zero => intro m h; cases h
  | succ n ih =>
    intro m h
    unfold lsF at h
    by_cases c : P n = true
    · rw [if_pos c] at h
      revert h
      cases hl : lsF P V n with
      | none => intro h; cases h; exact hV n
      | some q =>
        intro h
        cases h
        by_cases d : V n < q
        · rw [if_pos d]; exact hV n
        · rw [if_neg d]; exact ih q hl
    · rw [if_neg c] at h
      exact ih m h
theorem gsF_le {P : Nat → Bool} {V : Nat → Nat} {M : Nat} (hV : ∀ j, V j ≤ M) : ∀ n m, gsF P V n = some m → m ≤ M := by
  intro n
  induction n with
  | zero => intro m h; cases h
  | succ n ih =>
    intro m h
    unfold gsF at h
    by_cases c : P n = true
    · rw [if_pos c] at h
      revert h
      cases hl : gsF P V n with
      | none => intro h; cases h; exact hV n
      | some q =>
        intro h
        cases h
        by_cases d : V n < q
        · rw [if_pos d]; exact ih q hl
        · rw [if_neg d]; exact hV n
    · rw [if_neg c] at h
      exact ih m h
theorem grF_at {W : Nat → Option Nat} : ∀ n p, grF W n = some p → p.2 < n ∧ W p.2 = some p.1 := by
  intro n
  induction n with
  | zero => intro p h; cases h
  | succ n ih =>
    intro p h
    unfold grF at h
    revert h
    cases hw : W n with
    | none => intro h; have := ih p h; exact ⟨by omega, this.2⟩
    | some m =>
      cases hg : grF W n with
      | none => intro h; cases h; exact ⟨Nat.lt_succ_self n, hw⟩
      | some q =>
        intro h
        have h : (if q.1 < m then some (m, n) else some q) = some p := h
        by_cases d : q.1 < m
        · rw [if_pos d] at h; cases h; exact ⟨Nat.lt_succ_self n, hw⟩
        · rw [if_neg d] at h; cases h; have := ih _ hg; exact ⟨by omega, this.2⟩
theorem lrF_at {W : Nat → Option Nat} : ∀ n p, lrF W n = some p → p.2 < n ∧ W p.2 = some p.1 := by
  intro n
  induction n with
  | zero => intro p h; cases h
  | succ n ih =>
    intro p h
    unfold lrF at h
    revert h
    cases hw : W n with
    | none => intro h; have := ih p h; exact ⟨by omega, this.2⟩
    | some m =>
      cases hg : lrF W n with
      | none => intro h; cases h; exact ⟨Nat.lt_succ_self n, hw⟩
      | some q =>
        intro h
        have h : (if m < q.1 then some (m, n) else some q) = some p := h
        by_cases d : m < q.1
        · rw [if_pos d] at h; cases h; exact ⟨Nat.lt_succ_self n, hw⟩
        · rw [if_neg d] at h; cases h; have := ih _ hg; exact ⟨by omega, this.2⟩
theorem grF_some {W : Nat → Option Nat} : ∀ n, (∃ k m, k < n ∧ W k = some m) → ∃ p, grF W n = some p := by
  intro n
  induction n with
  | zero => intro ⟨j, _, hj, _⟩; omega
  | succ n ih =>
    intro ⟨k, m, hk, hw⟩
    unfold grF
    cases hn : W n with
    | none =>
      refine ih ⟨k, m, ?_, hw⟩
      have : k ≠ n := fun q => by rw [q, hn] at hw; cases hw
      omega
    | some q =>
      cases grF W n with
      | none => exact ⟨_, rfl⟩
      | some z => by_cases d : z.1 < q <;> simp [d]
theorem lrF_some {W : Nat → Option Nat} : ∀ n, (∃ k m, k < n ∧ W k = some m) → ∃ p, lrF W n = some p := by
  intro n
  induction n with
  | zero => intro ⟨j, _, hj, _⟩; omega
  | succ n ih =>
    intro ⟨k, m, hk, hw⟩
    unfold lrF
    cases hn : W n with
    | none =>
      refine ih ⟨k, m, ?_, hw⟩
      have : k ≠ n := fun q => by rw [q, hn] at hw; cases hw
      omega
    | some q =>
      cases lrF W n with
      | none => exact ⟨_, rfl⟩
      | some z => by_cases d : q < z.1 <;> simp [d]
theorem grF_none {W : Nat → Option Nat} : ∀ n, (∀ k, k < n → W k = none) → grF W n = none := by
  intro n
  induction n with
  | zero => intro _; rfl
  | succ n ih =>
    intro h
    unfold grF
    rw [h n (by omega)]
    exact ih (fun k hk => h k (by omega))
theorem lrF_none {W : Nat → Option Nat} : ∀ n, (∀ k, k < n → W k = none) → lrF W n = none := by
  intro n
  induction n with
  | zero => intro _; rfl
  | succ n ih =>
    intro h
    unfold lrF
    rw [h n (by omega)]
    exact ih (fun k hk => h k (by omega))
