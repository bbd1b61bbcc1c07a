/-! WHAT A TEXT COMES TO: words of code (kind and 16 times its number), letters; what is well typed; frames. -/
def Fr (l : List Nat) (I I' : Nat → Nat → Int32) : Prop := ∀ o, l.elem o = false → I' o = I o
theorem si_row {I : Nat → Nat → Int32} {o b q : Nat} {x : Int32} (h : q ≠ o) : si I o b x q = I q := by
  funext j
  unfold si
  rw [if_neg (fun e => h e.1)]
theorem si_at {I : Nat → Nat → Int32} {o b : Nat} {x : Int32} : si I o b x o b = x := by
  unfold si
  rw [if_pos ⟨rfl, rfl⟩]
theorem si_ne {I : Nat → Nat → Int32} {o b j : Nat} {x : Int32} (h : j ≠ b) : si I o b x o j = I o j := by
  unfold si
  rw [if_neg (fun e => h e.2)]
theorem si_self {I : Nat → Nat → Int32} {o b : Nat} {x : Int32} (h : I o b = x) : si I o b x = I := by
  funext o' b'
  unfold si
  by_cases hc : o' = o ∧ b' = b
  · rw [if_pos hc, hc.1, hc.2, h]
  · rw [if_neg hc]
theorem Fr.rfl' (l : List Nat) (I : Nat → Nat → Int32) : Fr l I I := fun _ _ => rfl
theorem Fr.trans {l : List Nat} {I I1 I2 : Nat → Nat → Int32} (h : Fr l I I1) (h2 : Fr l I1 I2) : Fr l I I2 := fun o ho => (h2 o ho).trans (h o ho)
theorem Fr.drop {l : List Nat} {I I' : Nat → Nat → Int32} {o b : Nat} {x : Int32} (ho : l.elem o = true) (h : Fr l (si I o b x) I') : Fr l I I' := fun q hq => (h q hq).trans (si_row (fun e => by subst e; rw [ho] at hq; cases hq))
theorem Fr.to {l : List Nat} {I I' : Nat → Nat → Int32} {o b : Nat} {x : Int32} (ho : l.elem o = true) (h : Fr l I I') : Fr l I (si I' o b x) := fun q hq => (si_row (fun e => by subst e; rw [ho] at hq; cases hq)).trans (h q hq)
theorem Fr.sub {l l2 : List Nat} {I I' : Nat → Nat → Int32} (hs : l.all (fun o => l2.elem o) = true) (h : Fr l I I') : Fr l2 I I' := by
  intro o ho
  apply h
  cases hc : l.elem o with
  | false => rfl
  | true =>
    have h1 := List.all_eq_true.mp hs o (List.elem_iff.mp hc)
    rw [h1] at ho
    cases ho
theorem nel {a : Nat} {l : List Nat} (h : a ∉ l) : l.elem a = false := by
  cases hc : l.elem a with
  | false => rfl
  | true => exact absurd (List.elem_iff.mp hc) h
theorem Go.mem {sc : Scr} {E : Cal} {f : Mth} {Q : Option Value → Mem → Prop} {pc kc ks : Nat} {L : Lo} {st : List Value} {I I2 : Nat → Nat → Int32} {J : Nat → Nat → Int64} {T : Nat → Nat → Nat} (e : I2 = I) (h : Go sc aM E f Q (pc, L, st, (SH, mkM I2 J T), kc, ks)) : Go sc aM E f Q (pc, L, st, (SH, mkM I J T), kc, ks) := by
  subst e
  exact h
abbrev Prg : Type := Nat × (Nat → Nat) × (Nat → Nat) × (Nat → Nat) × (Nat → Nat) × (Nat → Nat)
def opF (k : Nat) (x y : Int32) : Int32 := if k = 2 then x + y else if k = 3 then x - y else if k = 4 then x * y else if k = 5 then x / y else if k = 6 then x - x / y * y else if k = 7 then (if y ≤ x then 0 else 1) else if k = 8 then (if x ≤ y then 0 else 1) else (if x = y then 1 else 0)
def us (s : Nat → Int32) (h : Nat) (x : Int32) : Nat → Int32 := fun j => if j = h then x else s j
def evF (w : Nat → Nat) (F : Nat → Int32) (to : Nat) : Nat → Nat → Nat → (Nat → Int32) → Int32
  | 0, _, _, s => s 0
  | f + 1, k, h, s => if to ≤ k then s 0
    else if w k % 16 = 0 then evF w F to f (k + 1) (h + 1) (us s h (nI (w k / 16)))
    else if w k % 16 = 1 then evF w F to f (k + 1) (h + 1) (us s h (F (w k / 16)))
    else if w k % 16 = 10 then evF w F to f (k + 1) h (us s (h - 1) (1 - s (h - 1)))
    else if w k % 16 = 11 then (if s (h - 1) = 0 then evF w F to f (w k / 16) h s else evF w F to f (k + 1) (h - 1) s)
    else if w k % 16 = 12 then (if s (h - 1) = 1 then evF w F to f (w k / 16) h s else evF w F to f (k + 1) (h - 1) s)
    else if (w k % 16 = 5 ∨ w k % 16 = 6) ∧ s (h - 1) = 0 then 0
    else evF w F to f (k + 1) (h - 1) (us s (h - 2) (opF (w k % 16) (s (h - 2)) (s (h - 1))))
/-- what the code from a to b comes to -/
def evS (w : Nat → Nat) (F : Nat → Int32) (a b : Nat) : Int32 := evF w F b (b - a + 1) a 0 (fun _ => 0)
/-- height by type: 50 is one that is 0 or 1 -/
def hg (t : Nat) : Nat := if t = 50 then 1 else t
def CK (w : Nat → Nat) (τ : Nat → Nat) (to k : Nat) : Prop := w k < 2097152 ∧ (
  (w k % 16 = 0 ∧ τ k ≤ 20 ∧ τ (k + 1) = τ k + 1) ∨
  (w k % 16 = 1 ∧ τ k ≤ 20 ∧ τ (k + 1) = τ k + 1 ∧ w k / 16 < 16) ∨
  (w k % 16 = 10 ∧ τ k = 50 ∧ τ (k + 1) = 50) ∨
  ((w k % 16 = 11 ∨ w k % 16 = 12) ∧ τ k = 50 ∧ τ (k + 1) = 0 ∧ k < w k / 16 ∧ w k / 16 ≤ to ∧ τ (w k / 16) = 50) ∨
  ((2 ≤ w k % 16 ∧ w k % 16 ≤ 6) ∧ 2 ≤ τ k ∧ τ k ≤ 21 ∧ τ (k + 1) = τ k - 1) ∨
  ((7 ≤ w k % 16 ∧ w k % 16 ≤ 9) ∧ τ k = 2 ∧ τ (k + 1) = 50))
theorem w_kind {W k : Nat} (hW : W < 2097152) (hk : W % 16 = k) : (nI W) &&& (15 : Int32) = nI k := by
  rw [pk_andN (by omega) 4 (by decide), ← hk]
theorem w_arg {W : Nat} (hW : W < 2097152) : (nI W) >>> ((4 : Int32) &&& 31) = nI (W / 16) := pk_shrN (by omega) _ 4 (by decide)
theorem opF_bool {k : Nat} (h : 7 ≤ k ∧ k ≤ 9) (x y : Int32) : opF k x y = 0 ∨ opF k x y = 1 := by
  unfold opF
  have h2 : k ≠ 2 ∧ k ≠ 3 ∧ k ≠ 4 ∧ k ≠ 5 ∧ k ≠ 6 := by omega
  rw [if_neg h2.1, if_neg h2.2.1, if_neg h2.2.2.1, if_neg h2.2.2.2.1, if_neg h2.2.2.2.2]
  repeat' split
  all_goals first | exact Or.inl rfl | exact Or.inr rfl
