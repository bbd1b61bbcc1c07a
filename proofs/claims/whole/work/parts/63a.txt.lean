/-! A TEXT IN PLACE OF ANOTHER: what stays; where a FAULT is. -/
def setP (A : Tm) (s : Nat) (p : Prg) : Tm := (A.1, A.2.1, A.2.2.1, A.2.2.2.1, A.2.2.2.2.1, A.2.2.2.2.2.1, fun k => if k = s then p else qP A k)
theorem setP_bd {A : Tm} {s : Nat} {p : Prg} (h : BD A) (hp : WFP p) : BD (setP A s p) := by
  obtain ⟨h1, h2, h3, h4, h5, h6, h7, h8, h9⟩ := h
  refine ⟨h1, h2, h3, h4, h5, h6, h7, h8, fun k hk => ?_⟩
  show WFP (if k = s then p else qP A k)
  by_cases c : k = s
  · rw [if_pos c]; exact hp
  · rw [if_neg c]; exact h9 k hk
section SPC
variable {A : Tm} {s : Nat} {p : Prg}
theorem sp_st {oth per : Nat} {sc : Int32} (hs : 4 ≤ s) (ho : oth < 3) : stF (setP A s p) oth per sc = stF A oth per sc := by
  have e0 : qP (setP A s p) (1 + oth) = qP A (1 + oth) := if_neg (by omega)
  unfold stF
  rw [e0]
  rfl
theorem sp_g {per : Nat} {sc : Int32} {o st x most pace : Nat} (hs : 4 ≤ s) : sG (setP A s p) per sc o st x most pace = sG A per sc o st x most pace := by
  have e0 : qP (setP A s p) 0 = qP A 0 := if_neg (by omega)
  unfold sG
  rw [e0]
  rfl
theorem sp_a {per : Nat} {sc : Int32} {o st x most pace : Nat} (hs : 4 ≤ s) : sA (setP A s p) per sc o st x most pace = sA A per sc o st x most pace := by
  have e0 : qP (setP A s p) 0 = qP A 0 := if_neg (by omega)
  unfold sA
  rw [e0, sp_g hs]
  rfl
theorem sp_h {per : Nat} {sc : Int32} {o st x most pace q left : Nat} (hs : 4 ≤ s) : sH (setP A s p) per sc o st x most pace q left = sH A per sc o st x most pace q left := by
  have e0 : qP (setP A s p) 0 = qP A 0 := if_neg (by omega)
  unfold sH
  rw [e0]
  rfl
theorem sp_sh {per : Nat} {sc : Int32} {o st x most pace e : Nat} (hs : 4 ≤ s) : shF (setP A s p) per sc o st x most pace e = shF A per sc o st x most pace e := by
  unfold shF sH1 sH0
  rw [sp_g hs, sp_a hs, sp_h hs, sp_h hs]
theorem sp_shN {oth all pace per sc o a e : Nat} (hs : 4 ≤ s) (ho : oth < 3) : shN (setP A s p) oth all pace per sc o a e = shN A oth all pace per sc o a e := by
  unfold shN
  rw [sp_sh hs, sp_st hs ho]
  rfl
theorem sp_bsum {oth all pace per sc o a : Nat} {V : Nat → Nat → Nat} (hs : 4 ≤ s) (ho : oth < 3) : ∀ k, bsum (setP A s p) oth all pace per V sc o a k = bsum A oth all pace per V sc o a k := by
  intro k
  induction k with
  | zero => rfl
  | succ k ih =>
    show bsum (setP A s p) oth all pace per V sc o a k + shN (setP A s p) oth all pace per sc o a k * V (scN sc k) (nxtF (setP A s p) (aftF (setP A s p) o a) k pace) = bsum A oth all pace per V sc o a k + shN A oth all pace per sc o a k * V (scN sc k) (nxtF A (aftF A o a) k pace)
    rw [ih, sp_shN hs ho]
    rfl
theorem sp_bV {oth all once pace : Nat} (hs : 4 ≤ s) (ho : oth < 3) : ∀ l, bV (setP A s p) oth all once pace l = bV A oth all once pace l := by
  intro l
  induction l with
  | zero => rfl
  | succ l ih =>
    funext sc o
    show (mx (fun a => mayF o a all once) (fun a => bsum (setP A s p) oth all pace (qN A - (l + 1)) (bV (setP A s p) oth all once pace l) sc o a 5) 49).1 - 1 = (mx (fun a => mayF o a all once) (fun a => bsum A oth all pace (qN A - (l + 1)) (bV A oth all once pace l) sc o a 5) 49).1 - 1
    rw [ih, show (fun a => bsum (setP A s p) oth all pace (qN A - (l + 1)) (bV A oth all once pace l) sc o a 5) = (fun a => bsum A oth all pace (qN A - (l + 1)) (bV A oth all once pace l) sc o a 5) from funext (fun a => sp_bsum hs ho 5)]
theorem sp_hv {oth all once pace : Nat} (hs : 4 ≤ s) (ho : oth < 3) : ∀ l sc o, hvF (setP A s p) oth all once pace l sc o = hvF A oth all once pace l sc o := by
  intro l sc o
  cases l with
  | zero => rfl
  | succ l =>
    show 64 * bV (setP A s p) oth all once pace (l + 1) sc o + bA (setP A s p) oth all once pace l sc o + 1 = 64 * bV A oth all once pace (l + 1) sc o + bA A oth all once pace l sc o + 1
    have e : bA (setP A s p) oth all once pace l sc o = bA A oth all once pace l sc o := by
      show (mx (fun a => mayF o a all once) (fun a => bsum (setP A s p) oth all pace (qN A - (l + 1)) (bV (setP A s p) oth all once pace l) sc o a 5) 49).2 = (mx (fun a => mayF o a all once) (fun a => bsum A oth all pace (qN A - (l + 1)) (bV A oth all once pace l) sc o a 5) 49).2
      rw [sp_bV hs ho, show (fun a => bsum (setP A s p) oth all pace (qN A - (l + 1)) (bV A oth all once pace l) sc o a 5) = (fun a => bsum A oth all pace (qN A - (l + 1)) (bV A oth all once pace l) sc o a 5) from funext (fun a => sp_bsum hs ho 5)]
    rw [sp_bV hs ho, e]
/-- a RULE in place of another changes nothing in BEST -/
theorem sp_ib {I : Nat → Nat → Int32} {J : Nat → Nat → Int64} (hs : 4 ≤ s) (h : IB A I J) : IB (setP A s p) I J := by
  obtain ⟨h1, h2, h3⟩ := h
  refine ⟨h1, fun oth all once pace k => ?_, ?_⟩
  · rw [show bV (setP A s p) oth all once pace (qN (setP A s p)) = bV A oth all once pace (qN A) from sp_bV hs k.1 (qN A)]
    exact h2 oth all once pace k
  · rcases h3 with h3 | ⟨oth, all, once, pace, k1, k2, k3, k4⟩
    · exact Or.inl h3
    · refine Or.inr ⟨oth, all, once, pace, k1, k2, k3, fun l sc o a1 a2 a3 a4 => ?_⟩
      rw [sp_hv hs k1.1]
      exact k4 l sc o a1 a2 a3 a4
end SPC
