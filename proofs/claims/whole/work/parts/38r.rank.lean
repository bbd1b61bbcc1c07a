/-! ranks of codes -/
def rkN : Nat → Nat
  | 0 => 0
  | k + 1 => rkN k + (bif wfo k then 1 else 0)
theorem rk_all : rkN 2048 = 284 := by decide +kernel
theorem rk_mono : ∀ m a, rkN a ≤ rkN (a + m) := by
  intro m
  induction m with
  | zero => intro a; exact Nat.le_refl _
  | succ m ih => intro a; exact Nat.le_trans (ih a) (Nat.le_add_right _ _)
theorem rk_succ {o : Nat} (h : wfo o = true) : rkN (o + 1) = rkN o + 1 := by
  show rkN o + (bif wfo o then 1 else 0) = _
  rw [h]; rfl
theorem rk_lt {o : Nat} (h : CD o) : rkN o < 284 := by
  have h1 := rk_succ h.2
  have h2 := rk_mono (2048 - (o + 1)) (o + 1)
  rw [show o + 1 + (2048 - (o + 1)) = 2048 by have := h.1; omega, rk_all] at h2
  omega
theorem rk_inj1 {o o' : Nat} (h : CD o) (h2 : o < o') : rkN o < rkN o' := by
  have h1 := rk_succ h.2
  have h3 := rk_mono (o' - (o + 1)) (o + 1)
  rw [show o + 1 + (o' - (o + 1)) = o' by omega] at h3
  omega
theorem rk_inj {o o' : Nat} (h : CD o) (h' : CD o') (e : rkN o = rkN o') : o = o' := by
  rcases Nat.lt_trichotomy o o' with q | q | q
  · have := rk_inj1 h q; omega
  · exact q
  · have := rk_inj1 h' q; omega
def octE (c : Int32) : Int32 := (((((c / (1000 : Int32)) <<< ((9 : Int32) &&& 31)) ||| (((c / (100 : Int32)) - (c / (100 : Int32)) / (10 : Int32) * (10 : Int32)) <<< ((6 : Int32) &&& 31))) ||| (((c / (10 : Int32)) - (c / (10 : Int32)) / (10 : Int32) * (10 : Int32)) <<< ((3 : Int32) &&& 31))) ||| (c - c / (10 : Int32) * (10 : Int32)))
theorem all_oct : allB (fun o => eqI (octE (dI o)) (nI o)) 2048 = true := by decide +kernel
def RK (I : Nat → Nat → Int32) : Prop := ∀ o, o < 2048 → I 70 o = nI (rkN o)
def slN (per s o : Nat) : Nat := (per * 5 + s) * 284 + rkN o
theorem sl_lt {per s o : Nat} (hp : per < 5) (hs : s < 5) (h : CD o) : slN per s o < 7100 := by
  have := rk_lt h
  unfold slN
  omega
theorem sl_inj {p p' s s' o o' : Nat} (hs : s < 5) (hs' : s' < 5) (h : CD o) (h' : CD o') (e : slN p s o = slN p' s' o') : p = p' ∧ s = s' ∧ o = o' := by
  have h1 := rk_lt h
  have h2 := rk_lt h'
  unfold slN at e
  have e1 : p * 5 + s = p' * 5 + s' := by omega
  exact ⟨by omega, by omega, rk_inj h h' (by omega)⟩
theorem sl_c {I : Nat → Nat → Int32} {per s o : Nat} (hK : RK I) (h : CD o) : vp_in (octE (dI o)) 2048 ∧ v_X0_slotOf (nI per) (scI s) (dI o) I = nI (slN per s o) := by
  have e : octE (dI o) = nI o := eqI_eq (allB_get all_oct o h.1)
  have ho := h.1
  refine ⟨by rw [e]; exact vp_in_nI ho (by omega), ?_⟩
  show (((nI per * (5 : Int32)) + scI s) + (2 : Int32)) * (284 : Int32) + I 70 (octE (dI o)).toNatClampNeg = _
  rw [e, nI_clamp (by omega), hK o ho]
  unfold scI slN
  rw [show ((nI per * (5 : Int32)) + (nI s - 2)) + (2 : Int32) = nI (per * 5 + s) by
    rw [show (5 : Int32) = nI 5 from rfl, pk_mul, Int32.add_assoc, Int32.sub_add_cancel, nI_add], show (284 : Int32) = nI 284 from rfl, pk_mul, nI_add]
/-! the ACTIONS that can be at all -/
def acN (i : Nat) : Nat := [0, 1, 2, 3, 4, 5, 6, 23, 29, 37, 39, 43, 45].getD i 49
theorem act_c {i : Nat} (h : i < 13) : actF i = nI (acN i) ∧ acN i < 49 := by
  rcases (show i = 0 ∨ i = 1 ∨ i = 2 ∨ i = 3 ∨ i = 4 ∨ i = 5 ∨ i = 6 ∨ i = 7 ∨ i = 8 ∨ i = 9 ∨ i = 10 ∨ i = 11 ∨ i = 12 by omega) with rfl | rfl | rfl | rfl | rfl | rfl | rfl | rfl | rfl | rfl | rfl | rfl | rfl <;> exact ⟨rfl, by decide⟩
def isAc (a : Nat) : Bool := Nat.ble a 6 || Nat.beq a 23 || Nat.beq a 29 || Nat.beq a 37 || Nat.beq a 39 || Nat.beq a 43 || Nat.beq a 45
def ckAc (o : Nat) : Bool := allB (fun a => isAc a || !(eqI (w6_X7_mayBe (dI o) (nI a)) 1)) 49
set_option maxRecDepth 100000 in
theorem all_ac : allB ckAc 2048 = true := by decide +kernel
theorem may_ac {o a all once : Nat} (h : CD o) (ha : a < 49) (hn : isAc a = false) : mayF o a all once = false := by
  have q := allB_get (allB_get all_ac o h.1) a ha
  rw [hn, Bool.false_or] at q
  unfold mayF
  rw [show eqI (w6_X7_mayBe (dI o) (nI a)) 1 = false by simpa using q, Bool.and_false]
def ckGap (i : Nat) : Bool := Nat.blt (acN i) (acN (i + 1)) && allB (fun a => Nat.ble a (acN i) || Nat.ble (acN (i + 1)) a || !(isAc a)) 49
theorem all_gap : allB ckGap 13 = true := by decide +kernel
theorem mx_gap {o all once i : Nat} {f : Nat → Nat} (h : CD o) (hi : i < 13) : mx (fun a => mayF o a all once) f (acN (i + 1)) = mx (fun a => mayF o a all once) f (acN i + 1) := by
  have q := allB_get all_gap i hi
  simp only [ckGap, Bool.and_eq_true] at q
  have hlt : acN i < acN (i + 1) := by simpa [Nat.blt, Nat.lt_iff_add_one_le] using q.1
  have h49 : acN (i + 1) ≤ 49 := by
    rcases Nat.lt_or_ge (i + 1) 13 with k | k
    · exact Nat.le_of_lt (act_c k).2
    · rw [show i + 1 = 13 by omega]; decide
  have e : acN i + 1 + (acN (i + 1) - (acN i + 1)) = acN (i + 1) := by omega
  rw [← e]
  refine mx_skip _ (fun j h1 h2 => may_ac h (by omega) ?_)
  have r := allB_get q.2 j (by omega)
  simp only [Bool.or_eq_true] at r
  rcases r with (r | r) | r
  · have := Nat.le_of_ble_eq_true r; omega
  · have := Nat.le_of_ble_eq_true r; omega
  · simpa using r
