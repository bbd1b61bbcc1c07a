/-! CODES: decimal in the class, octal in the reference; what both say of them, by going through all. -/
def dcN (o : Nat) : Nat := 1000 * (o / 512) + 100 * (o / 64 % 8) + 10 * (o / 8 % 8) + o % 8
def dI (o : Nat) : Int32 := nI (dcN o)
def wfo (o : Nat) : Bool := decide (v_X7_isWellFormed (dI o) = 1)
def allB (p : Nat → Bool) : Nat → Bool
  | 0 => true
  | n + 1 => p n && allB p n
theorem allB_get {p : Nat → Bool} : ∀ {n : Nat}, allB p n = true → ∀ k, k < n → p k = true := by
  intro n
  induction n with
  | zero => intro _ k hk; omega
  | succ n ih =>
    intro h k hk
    simp only [allB, Bool.and_eq_true] at h
    rcases Nat.lt_succ_iff_lt_or_eq.mp hk with q | q
    · exact ih h.2 k q
    · rw [q]; exact h.1
def eqI (a b : Int32) : Bool := Nat.beq a.toBitVec.toNat b.toBitVec.toNat
theorem eqI_eq {a b : Int32} (h : eqI a b = true) : a = b := Int32.toBitVec_inj.mp (BitVec.eq_of_toNat_eq (Nat.eq_of_beq_eq_true h))
def cN (a : Int32) : Nat := a.toBitVec.toNat
/-- what is said of one octal code -/
def ckWho (o : Nat) : Bool := !(wfo o) || (eqI (v_X7_whoIsAt (dI o) 0) (v_X12_whoAt (nI o) 0) && eqI (v_X7_whoIsAt (dI o) 1) (v_X12_whoAt (nI o) 1) && (eqI (v_X12_whoAt (nI o) 0) (-1) || (Nat.blt (cN (v_X12_whoAt (nI o) 0)) 5 && !(eqI (v_X12_whoAt (nI o) 0) 1))) && (eqI (v_X12_whoAt (nI o) 1) (-1) || (Nat.blt (cN (v_X12_whoAt (nI o) 1)) 5 && !(eqI (v_X12_whoAt (nI o) 1) 0))))
theorem all_who : allB ckWho 2048 = true := by decide +kernel
def ckDig (o : Nat) : Bool := eqI (v_X7_digit (dI o) 2) (nI (o % 8)) && eqI (v_X7_digit (dI o) 3) (nI (o / 8 % 8)) && eqI (v_X7_digit (dI o) 4) (nI (o / 64 % 8)) && eqI (v_X12_digit (nI o) 2) (nI (o % 8)) && eqI (v_X12_digit (nI o) 3) (nI (o / 8 % 8)) && eqI (v_X12_digit (nI o) 4) (nI (o / 64 % 8)) && eqI (v_X7_changesMade (dI o)) (v_X12_made (nI o)) && eqI (v_X12_toldOf (nI o)) (dI o)
theorem all_dig : allB ckDig 2048 = true := by decide +kernel
def octN (n : Nat) : Nat := 512 * (n / 1000) + 64 * (n / 100 % 10) + 8 * (n / 10 % 10) + n % 10
def ckTak (n : Nat) : Bool := bif eqI (v_X7_isWellFormed (nI n)) 1 then Nat.blt (octN n) 2048 && Nat.beq (dcN (octN n)) n && eqI (v_X12_taken (nI n) (fun _ _ => 3)) (nI (octN n)) else eqI (v_X7_isWellFormed (nI n)) 0 && eqI (v_X12_taken (nI n) (fun _ _ => 3)) (-1)
theorem all_tak : allB ckTak 3778 = true := by decide +kernel
def offN (o p : Nat) : Nat := cN (v_X12_offWith (nI o) (v_X12_whoAt (nI o) (nI p)))
def ckOff1 (o p : Nat) : Bool := eqI (v_X12_whoAt (nI o) (nI p)) (-1) || (Nat.blt (offN o p) 2048 && wfo (offN o p) && eqI (v_X7_takeOff (dI o) (v_X12_whoAt (nI o) (nI p))) (dI (offN o p)) && eqI (v_X12_offWith (nI o) (v_X12_whoAt (nI o) (nI p))) (nI (offN o p)) && eqI (v_X12_made (nI (offN o p))) (v_X12_made (nI o)))
def ckOff (o : Nat) : Bool := !(wfo o) || (ckOff1 o 0 && ckOff1 o 1)
theorem all_off : allB ckOff 2048 = true := by decide +kernel
def sendN (o c l : Nat) : Nat := cN (v_X12_changed (nI o) (nI c) (fun _ _ => nI l))
def dgN (o p : Nat) : Nat := match p with
  | 2 => o % 8
  | 3 => o / 8 % 8
  | _ => o / 64 % 8
def ckSend1 (o c l : Nat) : Bool := !(Nat.beq (dgN o (2 + (c - 1) / 2)) 0) || (Nat.blt (sendN o c l) 2048 && wfo (sendN o c l) && eqI (v_X7_sendOn (dI o) (nI c) (fun _ _ => nI l)) (dI (sendN o c l)) && eqI (v_X12_changed (nI o) (nI c) (fun _ _ => nI l)) (nI (sendN o c l)) && eqI (v_X12_made (nI (sendN o c l))) (v_X12_made (nI o) + 1) && (Nat.beq (2 + (c - 1) / 2) 2 || !(Nat.beq (dgN o 2) 0) || Nat.beq (dgN (sendN o c l) 2) 0) && (Nat.beq (2 + (c - 1) / 2) 3 || !(Nat.beq (dgN o 3) 0) || Nat.beq (dgN (sendN o c l) 3) 0) && (Nat.beq (2 + (c - 1) / 2) 4 || !(Nat.beq (dgN o 4) 0) || Nat.beq (dgN (sendN o c l) 4) 0))
def ckSend (o : Nat) : Bool := !(wfo o) || allB (fun c => allB (fun l => ckSend1 o (c + 1) l) 3) 6
theorem all_send : allB ckSend 2048 = true := by decide +kernel
/-- what a PERIOD costs player p, by e -/
def stC (p c e : Int32) : Int32 := if v_X7_isOn (v_X7_digit c p) = 0 then c else c - ((v_X7_unit p) * (if e < (((v_X7_digit c p) - (1 : Int32)) - ((v_X7_digit c p) - (1 : Int32)) / (3 : Int32) * (3 : Int32)) then e else (((v_X7_digit c p) - (1 : Int32)) - ((v_X7_digit c p) - (1 : Int32)) / (3 : Int32) * (3 : Int32))))
def stM (p c e : Int32) : Int32 := if v_X12_digit c p = 0 then c else if v_X12_digit c p = (7 : Int32) then c else v_X12_withDigit c p (((1 : Int32) + ((3 : Int32) * (((v_X12_digit c p) - (1 : Int32)) / (3 : Int32)))) + (if 0 ≤ (((v_X12_digit c p) - (1 : Int32)) - ((v_X12_digit c p) - (1 : Int32)) / (3 : Int32) * (3 : Int32)) - e then (((v_X12_digit c p) - (1 : Int32)) - ((v_X12_digit c p) - (1 : Int32)) / (3 : Int32) * (3 : Int32)) - e else (0 : Int32)))
def stN (p o e : Nat) : Nat := cN (stM (nI p) (nI o) (nI e))
def ckLeg1 (o p e : Nat) : Bool := Nat.blt (stN p o e) 2048 && wfo (stN p o e) && eqI (stC (nI p) (dI o) (nI e)) (dI (stN p o e)) && eqI (stM (nI p) (nI o) (nI e)) (nI (stN p o e)) && eqI (v_X12_made (nI (stN p o e))) (v_X12_made (nI o))
def ckLeg (o : Nat) : Bool := !(wfo o) || allB (fun p => allB (fun e => ckLeg1 o (p + 2) e) 3) 3
theorem all_leg : allB ckLeg 2048 = true := by decide +kernel
