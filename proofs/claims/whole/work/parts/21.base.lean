/-! Small words for blocks: indices, numbers, texts whose place is not told. -/
theorem vin_lo {x : Int32} {n : Nat} (h : vp_in x n) : ¬ x < 0 := fun q => h (Or.inl q)
theorem vin_hi {x c : Int32} {n : Nat} (h : vp_in x n) (hc : c.toInt = n) : ¬ c ≤ x := by
  intro q
  have h1 := vp_in_iff.mp h
  rw [Int32.le_iff_toInt_le] at q
  omega
theorem vin_of {x c : Int32} {n : Nat} (hc : c.toInt = n) (h0 : ¬ x < 0) (h1 : ¬ c ≤ x) : vp_in x n := by
  rw [vp_in_iff]
  rw [Int32.lt_iff_toInt_lt] at h0
  rw [Int32.le_iff_toInt_le] at h1
  have : (0 : Int32).toInt = 0 := rfl
  omega
theorem vin_nlt {x : Int32} (h : 0 ≤ x) : ¬ x < 0 := by
  rw [Int32.le_iff_toInt_le] at h
  rw [Int32.lt_iff_toInt_lt]
  omega
theorem vin_nle {x c : Int32} (h : x < c) : ¬ c ≤ x := by
  rw [Int32.lt_iff_toInt_lt] at h
  rw [Int32.le_iff_toInt_le]
  omega
theorem i32_ne {x c : Int32} {n : Int} (h : ¬ x = c) (hc : c.toInt = n) : x.toInt ≠ n := fun q => h (Int32.toInt_inj.mp (by rw [q, hc]))
def TX (t : Nat) : Prop := t = 14 ∨ t = 20 ∨ t = 26 ∨ t = 32 ∨ t = 38 ∨ t = 44 ∨ t = 50 ∨ t = 56 ∨ t = 63
theorem tx_cell {α : Type} {t : Nat} {K : Nat → Option α} (h : TX t) : cellN SH t 8 K = K 7 := by
  rcases h with rfl | rfl | rfl | rfl | rfl | rfl | rfl | rfl | rfl <;> rfl
theorem tx_kI {t b : Nat} (h : TX t) (hb : Nat.blt b 2 = true) : kd2 t b = 0 := by
  rcases b with _ | _ | b
  · rcases h with rfl | rfl | rfl | rfl | rfl | rfl | rfl | rfl | rfl <;> rfl
  · rcases h with rfl | rfl | rfl | rfl | rfl | rfl | rfl | rfl | rfl <;> rfl
  · exact absurd hb (by simp [Nat.blt])
theorem tx_kR {t k : Nat} (h : TX t) (hk : Nat.blt k 5 = true) : kd2 t (k + 2) = t + (k + 1) + 10 := by
  rcases k with _ | _ | _ | _ | _ | k
  · rcases h with rfl | rfl | rfl | rfl | rfl | rfl | rfl | rfl | rfl <;> rfl
  · rcases h with rfl | rfl | rfl | rfl | rfl | rfl | rfl | rfl | rfl <;> rfl
  · rcases h with rfl | rfl | rfl | rfl | rfl | rfl | rfl | rfl | rfl <;> rfl
  · rcases h with rfl | rfl | rfl | rfl | rfl | rfl | rfl | rfl | rfl <;> rfl
  · rcases h with rfl | rfl | rfl | rfl | rfl | rfl | rfl | rfl | rfl <;> rfl
  · exact absurd hk (by simp [Nat.blt])
def txn (k : Nat) : Nat := match k with
  | 1 => 200
  | _ => 14
theorem tx_arr {α : Type} {t k : Nat} {K : Nat → Option α} (h : TX t) (hk : Nat.blt k 5 = true) : cellN SH (t + (k + 1)) 20 K = K (txn (k + 1)) := by
  rcases k with _ | _ | _ | _ | _ | k
  · rcases h with rfl | rfl | rfl | rfl | rfl | rfl | rfl | rfl | rfl <;> rfl
  · rcases h with rfl | rfl | rfl | rfl | rfl | rfl | rfl | rfl | rfl <;> rfl
  · rcases h with rfl | rfl | rfl | rfl | rfl | rfl | rfl | rfl | rfl <;> rfl
  · rcases h with rfl | rfl | rfl | rfl | rfl | rfl | rfl | rfl | rfl <;> rfl
  · rcases h with rfl | rfl | rfl | rfl | rfl | rfl | rfl | rfl | rfl <;> rfl
  · exact absurd hk (by simp [Nat.blt])
theorem nth_nil {α : Type} (d : α) : ∀ k : Nat, nth ([] : List α) k d = d := by
  intro k; cases k <;> rfl
theorem tx_kA {t k j : Nat} (h : TX t) (hk : Nat.blt k 5 = true) : kd2 (t + (k + 1)) j = 0 := by
  rcases k with _ | _ | _ | _ | _ | k
  · rcases h with rfl | rfl | rfl | rfl | rfl | rfl | rfl | rfl | rfl <;> rfl
  · rcases h with rfl | rfl | rfl | rfl | rfl | rfl | rfl | rfl | rfl <;> rfl
  · rcases h with rfl | rfl | rfl | rfl | rfl | rfl | rfl | rfl | rfl <;> rfl
  · rcases h with rfl | rfl | rfl | rfl | rfl | rfl | rfl | rfl | rfl <;> rfl
  · rcases h with rfl | rfl | rfl | rfl | rfl | rfl | rfl | rfl | rfl <;> rfl
  · exact absurd hk (by simp [Nat.blt])
theorem tx_lt {t k : Nat} (h : TX t) (hk : Nat.blt k 5 = true) : Nat.blt (t + (k + 1)) 1000 = true := by
  have : k < 5 := by simpa [Nat.blt, Nat.lt_iff_add_one_le] using hk
  have : t < 64 := by rcases h with rfl | rfl | rfl | rfl | rfl | rfl | rfl | rfl | rfl <;> decide
  exact Nat.ble_eq_true_of_le (by omega)
section TXG
variable {E : Cal} {f : Mth} {Q : Option Value → Mem → Prop} {pc n kc ks t : Nat} {L : Lo} {st : List Value} {I : Nat → Nat → Int32} {J : Nat → Nat → Int64} {T : Nat → Nat → Nat} {pc' b j0 ix a0 : Nat} {w : Int32} {z : Int64}
theorem mk_int {o b : Nat} (h : kd2 o b = 0) : mkM I J T o b = .int (I o b) := by show mkV (kd2 o b) _ _ _ = _; rw [h]; rfl
/-- an int of a text -/
theorem go_txI (hE : Mono E) (ht : TX t) (hb : Nat.blt b 2 = true) (he : lkc f.2.2.2.2.2.1 pc = some (pc', .getfield ix, n, 8, b, 0, j0, w, z)) (g : Go none aM E f Q (pc + n, L, .int (I t b) :: st, (SH, mkM I J T), kc, ks)) : Go none aM E f Q (pc, L, .ref t :: st, (SH, mkM I J T), kc, ks) := by
  apply Go.of_exec hE
  unfold exec
  rw [out_eq, he]
  show ex1 E _ Q (cellN SH t 8 fun _ => oGo (pc + n, L, fv 0 (mkM I J T t b) :: st, (SH, mkM I J T), kc, ks))
  rw [tx_cell ht, mk_int (tx_kI ht hb)]
  exact g
/-- an array of a text -/
theorem go_txR {k : Nat} (hE : Mono E) (ht : TX t) (hk : Nat.blt k 5 = true) (he : lkc f.2.2.2.2.2.1 pc = some (pc', .getfield ix, n, 8, k + 2, 2, j0, w, z)) (g : Go none aM E f Q (pc + n, L, .ref (t + (k + 1)) :: st, (SH, mkM I J T), kc, ks)) : Go none aM E f Q (pc, L, .ref t :: st, (SH, mkM I J T), kc, ks) := by
  apply Go.of_exec hE
  unfold exec
  rw [out_eq, he]
  show ex1 E _ Q (cellN SH t 8 fun _ => oGo (pc + n, L, fv 2 (mkV (kd2 t (k + 2)) (I t (k + 2)) (J t (k + 2)) (T t (k + 2))) :: st, (SH, mkM I J T), kc, ks))
  rw [tx_cell ht, tx_kR ht hk]
  exact g
/-- an int of a text is written -/
theorem go_txP {x : Int32} (hE : Mono E) (ht : TX t) (hb : Nat.blt b 2 = true) (he : lkc f.2.2.2.2.2.1 pc = some (pc', .putfield ix, n, 8, b, 0, j0, w, z)) (g : Go none aM E f Q (pc + n, L, st, (SH, mkM (si I t b x) J T), kc, ks)) : Go none aM E f Q (pc, L, .int x :: .ref t :: st, (SH, mkM I J T), kc, ks) := by
  apply Go.of_exec hE
  unfold exec
  rw [out_eq, he]
  show ex1 E _ Q (cellN SH t 8 fun _ => oGo (pc + n, L, st, (SH, up (mkM I J T) t b (.int x)), kc, ks))
  rw [tx_cell ht, mk_si (tx_kI ht hb)]
  exact g
theorem go_txL {i : Int32} {k : Nat} (hE : Mono E) (ht : TX t) (hk : Nat.blt k 5 = true) (hi : vp_in i (txn (k + 1))) (he : lkc f.2.2.2.2.2.1 pc = some (pc', .iaload, n, a0, b, ix, j0, w, z)) (g : Go none aM E f Q (pc + n, L, .int (I (t + (k + 1)) i.toNatClampNeg) :: st, (SH, mkM I J T), kc, ks)) : Go none aM E f Q (pc, L, .int i :: .ref (t + (k + 1)) :: st, (SH, mkM I J T), kc, ks) := by
  apply Go.of_exec hE
  unfold exec
  rw [out_eq, he]
  show ex1 E _ Q (bR (Nat.blt (t + (k + 1)) 1000) (cellN SH (t + (k + 1)) 20 fun len => oChk (vp_in i len) (pc + n, L, .int (iv (mkM I J T (t + (k + 1)) i.toNatClampNeg)) :: st, (SH, mkM I J T), kc, ks)) _)
  rw [tx_lt ht hk, tx_arr ht hk, mk_int (tx_kA ht hk)]
  exact ⟨hi, g⟩
theorem go_txS {i x : Int32} {k : Nat} (hE : Mono E) (ht : TX t) (hk : Nat.blt k 5 = true) (hi : vp_in i (txn (k + 1))) (he : lkc f.2.2.2.2.2.1 pc = some (pc', .iastore, n, a0, b, ix, j0, w, z)) (g : Go none aM E f Q (pc + n, L, st, (SH, mkM (si I (t + (k + 1)) i.toNatClampNeg x) J T), kc, ks)) : Go none aM E f Q (pc, L, .int x :: .int i :: .ref (t + (k + 1)) :: st, (SH, mkM I J T), kc, ks) := by
  apply Go.of_exec hE
  unfold exec
  rw [out_eq, he]
  show ex1 E _ Q (cellN SH (t + (k + 1)) 20 fun len => oChk (vp_in i len) (pc + n, L, st, (SH, up (mkM I J T) (t + (k + 1)) i.toNatClampNeg (.int x)), kc, ks))
  rw [tx_arr ht hk, mk_si (tx_kA ht hk)]
  exact ⟨hi, g⟩
theorem go_txN {k : Nat} (hE : Mono E) (ht : TX t) (hk : Nat.blt k 5 = true) (he : lkc f.2.2.2.2.2.1 pc = some (pc', .arraylength, n, a0, b, ix, j0, w, z)) (g : Go none aM E f Q (pc + n, L, .int (Int32.ofNat (txn (k + 1))) :: st, (SH, mkM I J T), kc, ks)) : Go none aM E f Q (pc, L, .ref (t + (k + 1)) :: st, (SH, mkM I J T), kc, ks) := by
  apply Go.of_exec hE
  unfold exec
  rw [out_eq, he]
  have e : SH[t + (k + 1)]? = some (20, txn (k + 1)) := by
    have h9 := tx_arr (K := fun n => some n) ht hk
    unfold cellN at h9
    cases hs : SH[t + (k + 1)]? with
    | none => rw [hs] at h9; cases h9
    | some p =>
      rw [hs] at h9
      obtain ⟨p1, p2⟩ := p
      cases hb : Nat.beq p1 20 with
      | false => simp [hb] at h9
      | true =>
        simp only [hb] at h9
        cases h9
        rw [Nat.eq_of_beq_eq_true hb]
  show ex1 E _ Q (bR (Nat.blt (t + (k + 1)) 1000) (match SH[t + (k + 1)]? with
    | some p => bR (Nat.ble 20 p.1) (oGo (pc + n, L, .int (Int32.ofNat p.2) :: st, (SH, mkM I J T), kc, ks)) none
    | none => none) _)
  rw [tx_lt ht hk, e]
  exact g
theorem popN_some {α : Type} : ∀ (n : Nat) (acc st as st' : List Value) (K : List Value → List Value → Option α), popN n acc st (fun a s => some (a, s)) = some (as, st') → popN n acc st K = K as st' := by
  intro n
  induction n with
  | zero => intro acc st as st' K h; cases h; rfl
  | succ n ih =>
    intro acc st as st' K h
    cases st with
    | nil => cases h
    | cons v st => exact ih _ _ _ _ K h
/-- a text's method is called -/
theorem go_txV {st' as : List Value} {gm : Nat} {m : Mem} (hE : Mono E) (ht : TX t) (hm : m.1 = SH) (he : lkc f.2.2.2.2.2.1 pc = some (pc', .invokevirtual ix, n, gm, b, 8, j0, w, z)) (hp : popN b [] st (fun a s => some (a, s)) = some (as, .ref t :: st')) (hc : Nat.ble (ocat st') 8 = true) (g : E gm (.ref t :: as) m (fun r m1 => Go none aM E f Q (pc + n, L, r.toList ++ st', m1, kc, ks))) : Go none aM E f Q (pc, L, st, m, kc, ks) := by
  apply Go.of_exec hE
  unfold exec
  rw [out_eq, he]
  show ex1 E _ Q (popN b [] st fun as st => xR st fun o st => recvAt m o 8 (oCall (ocat st ≤ 8) gm (.ref o :: as) m (fun r m1 => (pc + n, L, r.toList ++ st, m1, kc, ks))))
  rw [popN_some _ _ _ _ _ _ hp]
  show ex1 E _ Q (cellN m.1 t 8 fun _ => oCall (ocat st' ≤ 8) gm (.ref t :: as) m (fun r m1 => (pc + n, L, r.toList ++ st', m1, kc, ks)))
  rw [hm, tx_cell ht]
  exact ⟨Nat.le_of_ble_eq_true hc, g⟩
end TXG
theorem bool_or {c : Prop} {_ : Decidable c} {x y : Int32} (hx : x = 0 ∨ x = 1) (hy : y = 0 ∨ y = 1) : (if c then x else y) = 0 ∨ (if c then x else y) = 1 := by
  split
  · exact hx
  · exact hy
