/-! THE CLASS READS: each method of the reader by the grammar. -/
def sgI (c : Nat) : Int32 := if c = 300 then -1 else nI c
def hdL (c : Nat) : Bool := Nat.beq c 103 || Nat.beq c 97 || Nat.beq c 104
def hdO (c : Nat) : Bool := Nat.beq c 111
def hdC (c : Nat) : Bool := Nat.beq c 99
def bqI (p : Bool) : Int32 := match p with
  | true => 1
  | false => 0
def ckS (c : Nat) : Bool := eqI (isoF2 (nI c)) (bqI (isDg c)) && eqI (isoF3 (nI c)) (bqI (Nat.blt (letF c) 16)) && (!(Nat.blt (letF c) 16) || eqI (ixB 3 16 ((nI c).toUInt32 % 65536).toInt32) (nI (letF c))) && eqI (isoF4 (nI c)) (bqI (!(Nat.beq (cmpK c) 0))) && eqI (isoF5 (nI c)) (bqI (!(Nat.beq (addK c) 0))) && eqI (isoF6 (nI c)) (bqI (!(Nat.beq (mulK c) 0))) && eqI (isoF1 (nI c)) (bqI (hdL c)) && eqI (isoF7 (nI c)) (bqI (hdO c)) && eqI (isoF8 (nI c)) (bqI (hdC c))
theorem all_s : allB ckS 256 = true := by decide +kernel
theorem bqI_0 {p : Bool} {x : Int32} (h : x = bqI p) : x = 0 ↔ p = false := by
  subst h
  cases p
  · exact ⟨fun _ => rfl, fun _ => rfl⟩
  · exact ⟨fun q => absurd q (by decide), fun q => by cases q⟩
/-- a sign, or the end -/
def SG (c : Nat) : Prop := c < 256 ∨ c = 300
theorem sg_all {c : Nat} (h : SG c) : isoF2 (sgI c) = bqI (isDg c) ∧ isoF3 (sgI c) = bqI (Nat.blt (letF c) 16) ∧ isoF4 (sgI c) = bqI (!(Nat.beq (cmpK c) 0)) ∧ isoF5 (sgI c) = bqI (!(Nat.beq (addK c) 0)) ∧ isoF6 (sgI c) = bqI (!(Nat.beq (mulK c) 0)) ∧ isoF1 (sgI c) = bqI (hdL c) ∧ isoF7 (sgI c) = bqI (hdO c) ∧ isoF8 (sgI c) = bqI (hdC c) ∧ (letF c < 16 → ixB 3 16 ((sgI c).toUInt32 % 65536).toInt32 = nI (letF c)) := by
  rcases h with h | h
  · have q := allB_get all_s c h
    unfold ckS at q
    simp only [Bool.and_eq_true] at q
    obtain ⟨⟨⟨⟨⟨⟨⟨⟨q1, q2⟩, q3⟩, q4⟩, q5⟩, q6⟩, q7⟩, q8⟩, q9⟩ := q
    have e : sgI c = nI c := if_neg (by omega)
    rw [e]
    refine ⟨eqI_eq q1, eqI_eq q2, eqI_eq q4, eqI_eq q5, eqI_eq q6, eqI_eq q7, eqI_eq q8, eqI_eq q9, fun hl => ?_⟩
    have hb : Nat.blt (letF c) 16 = true := Nat.ble_eq_true_of_le hl
    rw [hb] at q3
    exact eqI_eq q3
  · subst h
    refine ⟨by decide, by decide, by decide, by decide, by decide, by decide, by decide, by decide, fun q => absurd q (by decide)⟩
theorem sgn_sg {b : Nat → Nat} {n p : Nat} (hb : ∀ i, i < n → b i < 256) : SG (sgn b n p) := by
  unfold sgn
  by_cases q : p < n
  · rw [if_pos q]; exact Or.inl (hb p q)
  · rw [if_neg q]; exact Or.inr rfl
theorem sgI_eq {c x : Nat} (h : SG c) (hx : x < 256) : sgI c = nI x ↔ c = x := by
  rcases h with h | h
  · rw [show sgI c = nI c from if_neg (by omega)]
    exact nI_eq (by omega) (by omega)
  · subst h
    refine ⟨fun q => ?_, fun q => by omega⟩
    have := congrArg Int32.toInt q
    rw [nI_toInt (by omega)] at this
    have h2 : (sgI 300).toInt = -1 := by decide
    omega
theorem sgI_nn {c : Nat} (h : SG c) : ¬ sgI c < 0 ↔ c < 256 := by
  rcases h with h | h
  · rw [show sgI c = nI c from if_neg (by omega)]
    exact ⟨fun _ => h, fun _ => nI_pos (by omega)⟩
  · subst h
    exact ⟨fun q => absurd (by decide) q, fun q => by omega⟩
theorem m2_no : isoF1 (-2) = 0 ∧ isoF2 (-2) = 0 ∧ isoF3 (-2) = 0 ∧ isoF4 (-2) = 0 ∧ isoF5 (-2) = 0 ∧ isoF6 (-2) = 0 ∧ isoF7 (-2) = 0 ∧ isoF8 (-2) = 0 := by decide
theorem m2_ne {x : Nat} (h : x < 256) : ¬ (-2 : Int32) = nI x := by
  intro q
  have := congrArg Int32.toInt q
  rw [nI_toInt (by omega), show (-2 : Int32).toInt = -2 by decide] at this
  omega
/-- the class's reader stands at s -/
def KR (b : Nat → Nat) (n t : Nat) (s : RdS) (I : Nat → Nat → Int32) : Prop := (I 62 4 = nI (uP s) ∧ I 62 5 = sgI (sgn b n (uP s)) ∧ I 62 6 = nI (uO s) ∧ I 62 7 = 0) ∧ (I t 1 = nI (uN s) ∧ ∀ i, i < uN s → I (t + 1) i = nI (uW s i)) ∧ uP s ≤ n ∧ uO s ≤ 6
/-- it is behind a FAULT -/
def KF (e : Nat × Nat) (I : Nat → Nat → Int32) : Prop := I 62 4 = nI e.2 ∧ I 62 5 = -2 ∧ I 62 7 = nI e.1 ∧ 1 ≤ e.1 ∧ e.1 ≤ 5
def KX (b : Nat → Nat) (n t : Nat) (X : RdR) (I : Nat → Nat → Int32) : Prop := I 62 3 = nI n ∧ (∀ i, i < n → I 8 i = nI (b i)) ∧ match X with
  | .inr s => KR b n t s I
  | .inl e => KF e I
def FT (t : Nat) (I I' : Nat → Nat → Int32) : Prop := Fr [62, t, t + 1] I I' ∧ I' t 0 = I t 0
theorem FT.rfl' (t : Nat) (I : Nat → Nat → Int32) : FT t I I := ⟨Fr.rfl' _ _, rfl⟩
theorem FT.trans {t : Nat} {I I1 I2 : Nat → Nat → Int32} (h : FT t I I1) (g : FT t I1 I2) : FT t I I2 := ⟨h.1.trans g.1, g.2.trans h.2⟩
theorem el3 {t o : Nat} (h1 : o ≠ 62) (h2 : o ≠ t) (h3 : o ≠ t + 1) : [62, t, t + 1].elem o = false := nel (by simp [h1, h2, h3])
theorem el3_62 {t : Nat} : [62, t, t + 1].elem 62 = true := List.elem_iff.mpr (by simp)
theorem el3_t {t : Nat} : [62, t, t + 1].elem t = true := List.elem_iff.mpr (by simp)
theorem el3_t1 {t : Nat} : [62, t, t + 1].elem (t + 1) = true := List.elem_iff.mpr (by simp)
theorem TX.ne {t : Nat} (h : TX t) : t ≠ 62 ∧ t + 1 ≠ 62 ∧ t ≠ 8 ∧ t + 1 ≠ 8 ∧ 14 ≤ t ∧ t ≤ 63 ∧ (t < 62 → t + 5 < 62) := by
  unfold TX at h
  omega
theorem ft_62 {t : Nat} (ht : TX t) {I : Nat → Nat → Int32} {j : Nat} {x : Int32} : FT t I (si I 62 j x) := by
  have := ht.ne
  exact ⟨(Fr.rfl' _ _).to el3_62, by rw [si_row (by omega)]⟩
/-- a text of bytes -/
def BN (b : Nat → Nat) (n : Nat) : Prop := n ≤ 200 ∧ ∀ i, i < n → b i < 256
section CLS
variable {b : Nat → Nat} {n : Nat}
/-- the next sign -/
theorem ev_mv {p d : Nat} {I : Nat → Nat → Int32} {J : Nat → Nat → Int64} {T : Nat → Nat → Nat} {Q : Option Value → Mem → Prop} (hN : BN b n) (h3 : I 62 3 = nI n) (h8 : ∀ i, i < n → I 8 i = nI (b i)) (h4 : I 62 4 + 1 = nI p) (hp : p ≤ n) (g : Q none (SH, mkM (si (si I 62 4 (nI p)) 62 5 (sgI (sgn b n p))) J T)) : Ev mt aM (d + 2) 34 [.ref 62] (SH, mkM I J T) Q := by
  obtain ⟨hn, hb⟩ := hN
  refine Ev.intro mX3_move rfl rfl (mov_0 (d := d) ?_)
  rw [h4, h3]
  unfold sgn sgI at g
  refine br1 (nI_pos (by omega)) ?_
  by_cases q : p < n
  · rw [if_pos q, if_neg (by have := hb p q; omega)] at g
    refine br1 (nI_ge q (by omega)) (br1 (nI_ge (b := 220) (by omega) (by omega)) ?_)
    rw [nI_clamp (by omega), h8 p q]
    exact g
  · rw [if_neg q, if_pos rfl] at g
    exact br0 (nI_le (by omega) (by omega)) g
theorem mv_KR {t : Nat} {s : RdS} {I : Nat → Nat → Int32} (ht : TX t) (hp : uP s < n) (h : KR b n t s I) : KR b n t (mvS s) (si (si I 62 4 (nI (uP s + 1))) 62 5 (sgI (sgn b n (uP s + 1)))) := by
  obtain ⟨⟨h1, h2, h3, h4⟩, ⟨h5, h6⟩, h7, h9⟩ := h
  have := ht.ne
  refine ⟨⟨?_, si_at, ?_, ?_⟩, ⟨?_, fun i hi => ?_⟩, show uP s + 1 ≤ n by omega, h9⟩
  · rw [si_ne (by omega)]; exact si_at
  · rw [si_ne (by omega), si_ne (by omega)]; exact h3
  · rw [si_ne (by omega), si_ne (by omega)]; exact h4
  · rw [si_row (by omega), si_row (by omega)]; exact h5
  · rw [si_row (by omega), si_row (by omega)]; exact h6 i hi
theorem ev_mvX {d : Nat} {s : RdS} {I : Nat → Nat → Int32} {J : Nat → Nat → Int64} {T : Nat → Nat → Nat} {Q : Option Value → Mem → Prop} (hN : BN b n) (ht : TX (T 62 0)) (h : KX b n (T 62 0) (.inr s) I) (hp : uP s < n) (g : ∀ I', FT (T 62 0) I I' → KX b n (T 62 0) (.inr (mvS s)) I' → Q none (SH, mkM I' J T)) : Ev mt aM (d + 2) 34 [.ref 62] (SH, mkM I J T) Q := by
  have f := (ft_62 ht (I := I) (j := 4) (x := nI (uP s + 1))).trans (ft_62 ht (j := 5) (x := sgI (sgn b n (uP s + 1))))
  refine ev_mv (p := uP s + 1) hN h.1 h.2.1 ?_ (by omega) (g _ f ?_)
  · rw [h.2.2.1.1]; exact nI_1 _
  · have := ht.ne
    refine ⟨?_, fun i hi => ?_, mv_KR ht hp h.2.2⟩
    · rw [si_ne (by omega), si_ne (by omega)]; exact h.1
    · rw [si_row (by omega), si_row (by omega)]; exact h.2.1 i hi
def flX (k : Nat) (X : RdR) : RdR := bnd X (fun s => .inl (k, uP s))
theorem ev_flX {d k : Nat} {X : RdR} {I : Nat → Nat → Int32} {J : Nat → Nat → Int64} {T : Nat → Nat → Nat} {Q : Option Value → Mem → Prop} (hk : 1 ≤ k ∧ k ≤ 5) (ht : TX (T 62 0)) (h : KX b n (T 62 0) X I) (g : ∀ I', FT (T 62 0) I I' → KX b n (T 62 0) (flX k X) I' → Q none (SH, mkM I' J T)) : Ev mt aM (d + 1) 35 [.ref 62, .int (nI k)] (SH, mkM I J T) Q := by
  refine ev_X3_fail ?_
  unfold w1_X3_fail
  cases X with
  | inl e =>
    have h7 : I 62 7 = nI e.1 := h.2.2.2.2.1
    have := h.2.2.2.2.2
    rw [if_neg (by rw [h7]; exact nI_ne0 (by omega) (by omega))]
    exact g I (FT.rfl' _ _) h
  | inr s =>
    have h7 : I 62 7 = 0 := h.2.2.1.2.2.2
    rw [if_pos h7]
    have f := (ft_62 ht (I := I) (j := 7) (x := nI k)).trans (ft_62 ht (j := 5) (x := (-2 : Int32)))
    have := ht.ne
    refine g _ f ⟨?_, fun i hi => ?_, ?_, si_at, ?_, hk⟩
    · rw [si_ne (by omega), si_ne (by omega)]; exact h.1
    · rw [si_row (by omega), si_row (by omega)]; exact h.2.1 i hi
    · rw [si_ne (by omega), si_ne (by omega)]; exact h.2.2.1.1
    · rw [si_ne (by omega)]; exact si_at
/-- the sign at hand -/
def sgX (b : Nat → Nat) (n : Nat) (X : RdR) : Int32 := match X with
  | .inr s => sgI (sgn b n (uP s))
  | .inl _ => -2
theorem KX.sg {t : Nat} {X : RdR} {I : Nat → Nat → Int32} (h : KX b n t X I) : I 62 5 = sgX b n X := by
  cases X with
  | inl e => exact h.2.2.2.1
  | inr s => exact h.2.2.1.2.1
theorem sgX_eq {X : RdR} {x : Nat} (hN : BN b n) (hx : x < 256) (q : sgX b n X = nI x) : ∃ s, X = .inr s ∧ sgn b n (uP s) = x := by
  cases X with
  | inl e => exact absurd q (m2_ne hx)
  | inr s => exact ⟨s, rfl, (sgI_eq (sgn_sg hN.2) hx).mp q⟩
theorem sgX_ne {s : RdS} {x : Nat} (hN : BN b n) (hx : x < 256) (q : ¬ sgX b n (.inr s) = nI x) : ¬ sgn b n (uP s) = x := fun z => q ((sgI_eq (sgn_sg hN.2) hx).mpr z)
theorem ev_exX {d x : Nat} {X : RdR} {I : Nat → Nat → Int32} {J : Nat → Nat → Int64} {T : Nat → Nat → Nat} {Q : Option Value → Mem → Prop} (hN : BN b n) (hx : x < 256) (ht : TX (T 62 0)) (h : KX b n (T 62 0) X I) (g : ∀ I', FT (T 62 0) I I' → KX b n (T 62 0) (bnd X (expS b n x)) I' → Q none (SH, mkM I' J T)) : Ev mt aM (d + 3) 37 [.ref 62, .int (nI x)] (SH, mkM I J T) Q := by
  refine Ev.intro mX3_expect rfl rfl (exp_0 (d := d + 1) ?_)
  rw [h.sg]
  by_cases c : sgX b n X = nI x
  · obtain ⟨s, rfl, hs⟩ := sgX_eq hN hx c
    have e : bnd (.inr s) (expS b n x) = .inr (mvS s) := if_pos hs
    rw [e] at g
    exact br0 c (ev_mvX (d := d) hN ht h (sgn_lt (by omega) hs) (fun I' f k => exp_12 (d := d + 1) (g I' f k)))
  · have e : bnd X (expS b n x) = flX 1 X := by
      cases X with
      | inl e => rfl
      | inr s => exact if_neg (sgX_ne hN hx c)
    rw [e] at g
    exact br1 c (ev_flX (d := d + 1) (k := 1) (by omega) ht h (fun I' f k => exp_20 (d := d + 1) (g I' f k)))
theorem ev_enX {d : Nat} {s : RdS} {I : Nat → Nat → Int32} {J : Nat → Nat → Int64} {T : Nat → Nat → Nat} {Q : Option Value → Mem → Prop} (hN : BN b n) (hp : uP s < n) (ht : TX (T 62 0)) (h : KX b n (T 62 0) (.inr s) I) (g : ∀ I', FT (T 62 0) I I' → KX b n (T 62 0) (entS s) I' → Q none (SH, mkM I' J T)) : Ev mt aM (d + 3) 38 [.ref 62] (SH, mkM I J T) Q := by
  refine Ev.intro mX3_enter rfl rfl (ent_0 (d := d + 1) ?_)
  have h6 : I 62 6 = nI (uO s) := h.2.2.1.2.2.1
  have ho : uO s ≤ 6 := h.2.2.2.2.2
  have hw := ht.ne
  rw [h6]
  unfold entS at g
  by_cases c : uO s = 6
  · rw [if_pos c] at g
    exact br1 (by rw [c]; exact nI_nlt (a := 6) (b := 6) (by omega) (by omega)) (ev_flX (d := d + 1) (k := 5) (by omega) ht h (fun I' f k => ent_14 (d := d + 1) (g I' f k)))
  · rw [if_neg c] at g
    have f0 : FT (T 62 0) I (si I 62 6 (nI (uO s + 1))) := ft_62 ht
    have h0 : KX b n (T 62 0) (.inr (uP s, uO s + 1, uN s, uW s)) (si I 62 6 (nI (uO s + 1))) := by
      obtain ⟨q1, q2, ⟨k1, k2, k3, k4⟩, ⟨k5, k6⟩, k7, k9⟩ := h
      refine ⟨?_, fun i hi => ?_, ⟨?_, ?_, si_at, ?_⟩, ⟨?_, fun i hi => ?_⟩, k7, show uO s + 1 ≤ 6 by omega⟩
      · rw [si_ne (by omega)]; exact q1
      · rw [si_row (by omega)]; exact q2 i hi
      · rw [si_ne (by omega)]; exact k1
      · rw [si_ne (by omega)]; exact k2
      · rw [si_ne (by omega)]; exact k4
      · rw [si_row (by omega)]; exact k5
      · rw [si_row (by omega)]; exact k6 i hi
    refine br0 (nI_lt (b := 6) (by omega) (by omega)) ?_
    rw [nI_1]
    exact ev_mvX (d := d) hN ht h0 hp (fun I' f k => ent_31 (d := d + 1) (g I' (f0.trans f) k))
/-- less is open -/
theorem out_X {t : Nat} {X : RdR} {I : Nat → Nat → Int32} (ht : TX t) (h : KX b n t X I) (ho : ∀ s, X = .inr s → 1 ≤ uO s) : KX b n t (bnd X (fun s => .inr (outS s))) (si I 62 6 (I 62 6 - 1)) ∧ FT t I (si I 62 6 (I 62 6 - 1)) := by
  have hw := ht.ne
  refine ⟨?_, ft_62 ht⟩
  obtain ⟨q1, q2, q3⟩ := h
  refine ⟨by rw [si_ne (by omega)]; exact q1, fun i hi => by rw [si_row (by omega)]; exact q2 i hi, ?_⟩
  cases X with
  | inl e =>
    obtain ⟨k1, k2, k3, k4⟩ := q3
    exact ⟨by rw [si_ne (by omega)]; exact k1, by rw [si_ne (by omega)]; exact k2, by rw [si_ne (by omega)]; exact k3, k4⟩
  | inr s =>
    have := ho s rfl
    obtain ⟨⟨k1, k2, k3, k4⟩, ⟨k5, k6⟩, k7, k9⟩ := q3
    refine ⟨⟨?_, ?_, ?_, ?_⟩, ⟨?_, fun i hi => ?_⟩, k7, show uO s - 1 ≤ 6 by omega⟩
    · rw [si_ne (by omega)]; exact k1
    · rw [si_ne (by omega)]; exact k2
    · rw [si_at, k3, show (1 : Int32) = nI 1 from rfl, pk_sub (by omega)]
      rfl
    · rw [si_ne (by omega)]; exact k4
    · rw [si_row (by omega)]; exact k5
    · rw [si_row (by omega)]; exact k6 i hi
theorem put1_fr {t : Nat} {i x : Int32} {I : Nat → Nat → Int32} : ∀ o, o ≠ t + 1 → w2_X5_put_t1 t i x I o = I o := by
  intro o ho
  unfold w2_X5_put_t1 w1_X5_put_t1
  by_cases c1 : i < 0
  · rw [if_pos c1]
  · rw [if_neg c1]
    by_cases c2 : (200 : Int32) ≤ i
    · rw [if_pos c2]
    · rw [if_neg c2]; exact si_row (by omega)
theorem put1_in {t k : Nat} {x : Int32} {I : Nat → Nat → Int32} (hk : k < 200) : w2_X5_put_t1 t (nI k) x I = si I (t + 1) k x := by
  unfold w2_X5_put_t1 w1_X5_put_t1
  rw [if_neg (nI_pos (by omega)), if_neg (show ¬ (200 : Int32) ≤ nI k from nI_ge (b := 200) hk (by omega)), nI_clamp (by omega)]
theorem wd_or {k v : Nat} (hk : k < 16) (hv : v < 2 ^ 20) : nI k ||| (nI v <<< ((4 : Int32) &&& 31)) = nI (k + 16 * v) := by
  rw [pk_shlN _ 4 (by decide) (by omega), show v * 2 ^ 4 = 2 ^ 4 * v by omega, pk_or (k := 4) (by omega), show 2 ^ 4 * v + k = k + 16 * v by omega]
/-- a step more -/
theorem ev_adX {d k v : Nat} {X : RdR} {x : Int32} {I : Nat → Nat → Int32} {J : Nat → Nat → Int64} {T : Nat → Nat → Nat} {Q : Option Value → Mem → Prop} (hN : BN b n) (hk : k < 16) (hv : (∃ s, X = .inr s) → x = nI v ∧ v < 2 ^ 20) (ht : TX (T 62 0)) (h : KX b n (T 62 0) X I) (hl : ∀ s, X = .inr s → uN s < 200) (g : ∀ I' r, FT (T 62 0) I I' → KX b n (T 62 0) (bnd X (fun s => .inr (adS (k + 16 * v) s))) I' → (∀ s, X = .inr s → r = nI (uN s)) → Q (some (.int r)) (SH, mkM I' J T)) : Ev mt aM (d + 2) 109 [.ref (T 62 0), .int (nI k), .int x] (SH, mkM I J T) Q := by
  have hw := ht.ne
  refine ev_X9_add_t ht (g _ _ ?_ ?_ ?_)
  · refine ⟨Fr.to el3_t (fun o ho => put1_fr o (fun e => ?_)), ?_⟩
    · subst e; rw [el3_t1] at ho; cases ho
    · rw [si_ne (by omega), put1_fr _ (by omega)]
  · obtain ⟨q1, q2, q3⟩ := h
    refine ⟨by rw [si_row (by omega), put1_fr _ (by omega)]; exact q1, fun i hi => by rw [si_row (by omega), put1_fr _ (by omega)]; exact q2 i hi, ?_⟩
    cases X with
    | inl e =>
      obtain ⟨k1, k2, k3, k4⟩ := q3
      refine ⟨?_, ?_, ?_, k4⟩
      · rw [si_row (by omega), put1_fr _ (by omega)]; exact k1
      · rw [si_row (by omega), put1_fr _ (by omega)]; exact k2
      · rw [si_row (by omega), put1_fr _ (by omega)]; exact k3
    | inr s =>
      obtain ⟨hx, hv⟩ := hv ⟨s, rfl⟩
      have := hl s rfl
      obtain ⟨⟨k1, k2, k3, k4⟩, ⟨k5, k6⟩, k7, k9⟩ := q3
      rw [k5, hx, wd_or hk hv, put1_in this]
      refine ⟨⟨?_, ?_, ?_, ?_⟩, ⟨?_, fun i hi => ?_⟩, k7, k9⟩
      · rw [si_row (by omega), si_row (by omega)]; exact k1
      · rw [si_row (by omega), si_row (by omega)]; exact k2
      · rw [si_row (by omega), si_row (by omega)]; exact k3
      · rw [si_row (by omega), si_row (by omega)]; exact k4
      · rw [si_at, si_row (by omega), k5]; exact nI_1 _
      · have hi : i < uN s + 1 := hi
        rw [si_row (by omega)]
        show _ = nI (unF (uW s) (uN s) (k + 16 * v) i)
        by_cases c : i = uN s
        · rw [c, unF_at]; exact si_at
        · rw [unF_ne c, si_ne c]; exact k6 i (by omega)
  · intro s hs
    subst hs
    unfold v_X9_add_t
    rw [si_at, put1_fr _ (by omega), h.2.2.2.1.1, nI_1, nI_pred]
theorem ev_ldX {d L : Nat} {X : RdR} {I : Nat → Nat → Int32} {J : Nat → Nat → Int64} {T : Nat → Nat → Nat} {Q : Option Value → Mem → Prop} (hN : BN b n) (hL : L < 200) (ht : TX (T 62 0)) (h : KX b n (T 62 0) X I) (hl : ∀ s, X = .inr s → L < uN s ∧ uN s ≤ 200 ∧ uW s L < 2 ^ 31) (g : ∀ I', FT (T 62 0) I I' → KX b n (T 62 0) (bnd X (fun s => .inr (lnS L s))) I' → Q none (SH, mkM I' J T)) : Ev mt aM (d + 2) 110 [.ref (T 62 0), .int (nI L)] (SH, mkM I J T) Q := by
  have hw := ht.ne
  refine ev_X9_landHere_t ht (vp_in_nI hL (by omega)) (g _ ?_ ?_)
  · rw [put1_in hL]
    exact ⟨(Fr.rfl' _ _).to el3_t1, by rw [si_row (by omega)]⟩
  · rw [put1_in hL]
    obtain ⟨q1, q2, q3⟩ := h
    refine ⟨by rw [si_row (by omega)]; exact q1, fun i hi => by rw [si_row (by omega)]; exact q2 i hi, ?_⟩
    cases X with
    | inl e =>
      obtain ⟨k1, k2, k3, k4⟩ := q3
      refine ⟨?_, ?_, ?_, k4⟩
      · rw [si_row (by omega)]; exact k1
      · rw [si_row (by omega)]; exact k2
      · rw [si_row (by omega)]; exact k3
    | inr s =>
      obtain ⟨l1, l3, l2⟩ := hl s rfl
      obtain ⟨⟨k1, k2, k3, k4⟩, ⟨k5, k6⟩, k7, k9⟩ := q3
      have e : v_X5_at_t1 (T 62 0) (nI L) I = nI (uW s L) := by
        unfold v_X5_at_t1
        rw [nI_clamp (by omega)]
        exact k6 L l1
      have hn := hN.1
      rw [e, k5, pk_andN (by omega) 4 (by decide), wd_or (by omega) (by omega)]
      refine ⟨⟨?_, ?_, ?_, ?_⟩, ⟨?_, fun i hi => ?_⟩, k7, k9⟩
      · rw [si_row (by omega)]; exact k1
      · rw [si_row (by omega)]; exact k2
      · rw [si_row (by omega)]; exact k3
      · rw [si_row (by omega)]; exact k4
      · rw [si_row (by omega)]; exact k5
      · show _ = nI (unF (uW s) L (uW s L % 16 + 16 * uN s) i)
        by_cases c : i = L
        · rw [c, unF_at]; exact si_at
        · rw [unF_ne c, si_ne c]; exact k6 i hi
/-- what a method of the reader comes to -/
def CX (b : Nat → Nat) (n g K : Nat) (F : RdS → RdR) (C : RdS → Prop) : Prop := ∀ (e : Nat) (X : RdR) (I : Nat → Nat → Int32) (J : Nat → Nat → Int64) (T : Nat → Nat → Nat) (Q : Option Value → Mem → Prop), K ≤ e → TX (T 62 0) → KX b n (T 62 0) X I → (∀ s, X = .inr s → C s) → (∀ I', FT (T 62 0) I I' → KX b n (T 62 0) (bnd X F) I' → Q none (SH, mkM I' J T)) → Ev mt aM e g [.ref 62] (SH, mkM I J T) Q
theorem KX.in_n {t : Nat} {s : RdS} {I : Nat → Nat → Int32} (h : KX b n t (.inr s) I) : uP s ≤ n ∧ uO s ≤ 6 := h.2.2.2.2
/-! numbers -/
def dgX (b : Nat → Nat) (n f v : Nat) (s : RdS) : RdR := match dgF b n f v (uP s) with
  | .inl e => .inl e
  | .inr q => .inr (q.2, uO s, uN s, uW s)
def dgV (b : Nat → Nat) (n f v p : Nat) : Nat := match dgF b n f v p with
  | .inl _ => 0
  | .inr q => q.1
theorem num_go (hN : BN b n) {d : Nat} {J : Nat → Nat → Int64} {T : Nat → Nat → Nat} {Q : Option Value → Mem → Prop} (ht : TX (T 62 0)) {I0 : Nat → Nat → Int32} : ∀ (f v : Nat) (s : RdS) (I : Nat → Nat → Int32), f ≤ 5 → v + 1 ≤ 10 ^ (5 - f) → FT (T 62 0) I0 I → KX b n (T 62 0) (.inr s) I → (∀ I' r, FT (T 62 0) I0 I' → KX b n (T 62 0) (dgX b n f v s) I' → ((∃ s', dgX b n f v s = .inr s') → r = nI (dgV b n f v (uP s))) → Q (some (.int r)) (SH, mkM I' J T)) → Go none aM (Ev mt aM (d + 7)) mX3_number Q (4, [some (.ref 62), some (.int (nI v)), some (.int (nI (5 - f)))], [], (SH, mkM I J T), 0, 0) := by
  intro f
  induction f with
  | zero =>
    intro v s I hf hv h0 h g
    refine num_4 (br1 (nI_ge (b := 6) (by omega) (by omega)) ?_)
    have hs : I 62 5 = sgI (sgn b n (uP s)) := h.sg
    have hd := bqI_0 (sg_all (sgn_sg (p := uP s) hN.2)).1
    rw [hs]
    unfold dgX dgV dgF at g
    by_cases c : isDg (sgn b n (uP s)) = true
    · rw [if_pos c] at g
      refine br1 (fun z => by rw [hd.mp z] at c; cases c) (br0 rfl (ev_flX (d := d + 6) (k := 2) (by omega) ht h (fun I' f' k' => num_29 ?_)))
      refine num_4 (br0 (by decide) (g I' _ (h0.trans f') k' (fun ⟨_, z⟩ => by cases z)))
    · rw [if_neg c] at g
      refine br0 (hd.mpr (by simpa using c)) (g I _ h0 h (fun _ => rfl))
  | succ f ih =>
    intro v s I hf hv h0 h g
    refine num_4 (br1 (nI_ge (b := 6) (by omega) (by omega)) ?_)
    have hs : I 62 5 = sgI (sgn b n (uP s)) := h.sg
    have hd := bqI_0 (sg_all (sgn_sg (p := uP s) hN.2)).1
    rw [hs]
    unfold dgX dgV dgF at g
    by_cases c : isDg (sgn b n (uP s)) = true
    · rw [if_pos c] at g
      obtain ⟨l1, l2, l3⟩ := dg_lt c
      have e1 : sgI (sgn b n (uP s)) = nI (sgn b n (uP s)) := if_neg (by omega)
      have hp : (10 : Nat) ^ (5 - (f + 1)) ≤ 10 ^ 4 := Nat.pow_le_pow_right (by omega) (by omega)
      refine br1 (fun z => by rw [hd.mp z] at c; cases c) (br1 (fun z => by have := (nI_eq (b := 5) (by omega) (by omega)).mp z; omega) (ev_mvX (d := d + 5) hN ht h l1 (fun I' f' k' => num_49 ?_)))
      rw [e1, show (10 : Int32) = nI 10 from rfl, pk_mul, nI_add, show (48 : Int32) = nI 48 from rfl, pk_sub (by omega), nI_1, show 5 - (f + 1) + 1 = 5 - f by omega]
      refine ih _ _ _ (by omega) ?_ (h0.trans f') k' g
      have e3 : (10 : Nat) ^ (5 - f) = 10 * 10 ^ (5 - (f + 1)) := by
        rw [show 5 - f = 5 - (f + 1) + 1 by omega, Nat.pow_succ, Nat.mul_comm]
      rw [e3]
      omega
    · rw [if_neg c] at g
      refine br0 (hd.mpr (by simpa using c)) (g I _ h0 h (fun _ => rfl))
theorem ev_num (hN : BN b n) {d : Nat} {s : RdS} {I : Nat → Nat → Int32} {J : Nat → Nat → Int64} {T : Nat → Nat → Nat} {Q : Option Value → Mem → Prop} (ht : TX (T 62 0)) (h : KX b n (T 62 0) (.inr s) I) (g : ∀ I' r, FT (T 62 0) I I' → KX b n (T 62 0) (dgX b n 5 0 s) I' → ((∃ s', dgX b n 5 0 s = .inr s') → r = nI (dgV b n 5 0 (uP s))) → Q (some (.int r)) (SH, mkM I' J T)) : Ev mt aM (d + 8) 47 [.ref 62] (SH, mkM I J T) Q :=
  Ev.intro mX3_number rfl rfl (num_0 (num_go hN ht 5 0 s I (by omega) (by decide) (FT.rfl' _ _) h g))
end CLS
