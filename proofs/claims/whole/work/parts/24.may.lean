/-! What the checks of the codes say, one by one; legal ACTIONS. -/
def ckMay (o : Nat) : Bool := !(wfo o) || allB (fun k => eqI (w6_X7_mayBe (dI o) (nI k)) (bif eqI (v_X12_isAction (nI k)) 0 then 0 else w4_X12_mayBe (nI o) (nI k)) && (eqI (w6_X7_mayBe (dI o) (nI k)) 0 || eqI (w6_X7_mayBe (dI o) (nI k)) 1 && ((Nat.beq (k % 7) 0 && Nat.beq k 0) || (Nat.blt 0 (k % 7) && Nat.beq (dgN o (2 + (k % 7 - 1) / 2)) 0 && (Nat.blt k 7 || (Nat.blt 0 (k / 7) && Nat.beq (dgN o (2 + (k / 7 - 1) / 2)) 0 && !(Nat.beq ((k / 7 - 1) / 2) ((k % 7 - 1) / 2)))))))) 49
set_option maxRecDepth 100000 in
theorem all_may : allB ckMay 2048 = true := by decide +kernel
def ckAct (k : Nat) : Bool := (eqI (v_X12_isAction (nI k)) 0 || eqI (v_X7_changesOf (nI k)) (v_X12_changesOf (nI k))) && (eqI (v_X12_changesOf (nI k)) 0 || eqI (v_X12_changesOf (nI k)) 1 || eqI (v_X12_changesOf (nI k)) 2) && eqI (v_X12_firstOf (nI k)) (nI (k % 7)) && eqI (v_X12_secondOf (nI k)) (nI (k / 7))
theorem all_act : allB ckAct 49 = true := by decide +kernel
