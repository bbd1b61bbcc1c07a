/-! THE REFERENCE READS: its stack of what waits, and the grammar. -/
/-- what waits: each cell, and that leaps lead to code -/
def SK (N : Nat) : List Nat → (Nat → Nat → Int32) → Prop
  | [], _ => True
  | x :: l, I => (I 92 l.length = nI x ∧ x < 2 ^ 24 ∧ (x / 1048576 = 11 ∨ x / 1048576 = 12 → x % 1048576 < N)) ∧ SK N l I
theorem SK.up {N M : Nat} (hm : N ≤ M) : ∀ {l : List Nat} {I : Nat → Nat → Int32}, SK N l I → SK M l I := by
  intro l
  induction l with
  | nil => intro I _; trivial
  | cons x l ih => intro I h; exact ⟨⟨h.1.1, h.1.2.1, fun q => Nat.lt_of_lt_of_le (h.1.2.2 q) hm⟩, ih h.2⟩
theorem SK.fr {N : Nat} : ∀ {l : List Nat} {I I' : Nat → Nat → Int32}, (∀ j, j < l.length → I' 92 j = I 92 j) → SK N l I → SK N l I' := by
  intro l
  induction l with
  | nil => intro I I' _ _; trivial
  | cons x l ih =>
    intro I I' hf h
    exact ⟨⟨(hf l.length (Nat.lt_succ_self _)).trans h.1.1, h.1.2⟩, ih (fun j hj => hf j (Nat.lt_succ_of_lt hj)) h.2⟩
def wtL : List Nat → Nat
  | [] => 0
  | x :: l => (if x / 1048576 = 11 ∨ x / 1048576 = 12 then 0 else 1) + wtL l
def opL : List Nat → Nat
  | [] => 0
  | x :: l => (if x / 1048576 = 10 ∨ x / 1048576 = 13 ∨ x / 1048576 = 14 then 1 else 0) + opL l
def enW (w : Nat) : Nat := 1048576 * (w % 16) + w / 16
def RRz (b : Nat → Nat) (n : Nat) (s : RdS) (st : List Nat) (I : Nat → Nat → Int32) : Prop := (I 83 12 = nI (uP s) ∧ I 83 13 = nI n ∧ I 83 15 = nI (uO s) ∧ I 83 16 = nI (uN s) ∧ I 83 17 = nI st.length) ∧ (∀ i, i < uN s → I 91 i = nI (enW (uW s i))) ∧ SK (uN s) st I ∧ (∀ i, i < n → I 90 i &&& 255 = nI (b i)) ∧ uP s ≤ n ∧ uN s + wtL st ≤ uP s ∧ st.length ≤ uP s ∧ (uO s ≤ 6 ∧ opL st ≤ uO s) ∧ ∀ i, i < uN s → uW s i < 2 ^ 24
def FM (I I' : Nat → Nat → Int32) : Prop := Fr [83, 91, 92] I I' ∧ ∀ j, j ≠ 12 → j ≠ 14 → j ≠ 15 → j ≠ 16 → j ≠ 17 → j ≠ 19 → I' 83 j = I 83 j
theorem FM.rfl' (I : Nat → Nat → Int32) : FM I I := ⟨Fr.rfl' _ _, fun _ _ _ _ _ _ _ => rfl⟩
theorem FM.trans {I I1 I2 : Nat → Nat → Int32} (h : FM I I1) (g : FM I1 I2) : FM I I2 := ⟨h.1.trans g.1, fun j a b c d e f => (g.2 j a b c d e f).trans (h.2 j a b c d e f)⟩
theorem FM.s91 {I I' : Nat → Nat → Int32} {j : Nat} {x : Int32} (h : FM I I') : FM I (si I' 91 j x) := ⟨h.1.to rfl, fun k a b c d e f => by rw [si_row (by omega)]; exact h.2 k a b c d e f⟩
theorem FM.s92 {I I' : Nat → Nat → Int32} {j : Nat} {x : Int32} (h : FM I I') : FM I (si I' 92 j x) := ⟨h.1.to rfl, fun k a b c d e f => by rw [si_row (by omega)]; exact h.2 k a b c d e f⟩
theorem FM.s83 {I I' : Nat → Nat → Int32} {j : Nat} {x : Int32} (hj : j = 12 ∨ j = 14 ∨ j = 15 ∨ j = 16 ∨ j = 17 ∨ j = 19) (h : FM I I') : FM I (si I' 83 j x) := ⟨h.1.to rfl, fun k a b c d e f => by rw [si_ne (by omega)]; exact h.2 k a b c d e f⟩
def FBz (e : Nat × Nat) (I : Nat → Nat → Int32) : Prop := I 83 14 = (-1000 : Int32) * nI e.1 - nI e.2
/-- closing what waits: signs of sums -/
def csF (a : Bool) : List Nat → RdS → List Nat × RdS
  | [], s => ([], s)
  | x :: l, s => if (4 ≤ x / 1048576 ∧ x / 1048576 ≤ 6) ∨ (a = true ∧ (x / 1048576 = 2 ∨ x / 1048576 = 3)) then csF a l (adS (x / 1048576) s) else (x :: l, s)
def epF : List Nat → RdS → List Nat × RdS
  | [], s => ([], s)
  | x :: l, s => if x / 1048576 = 10 then epF l (outS (adS 10 s)) else (x :: l, s)
def ldF (a : Bool) : List Nat → RdS → List Nat × RdS
  | [], s => ([], s)
  | x :: l, s => if x / 1048576 = 11 ∨ (a = true ∧ x / 1048576 = 12) then ldF a l (lnS (x % 1048576) s) else (x :: l, s)
/-- a bracket [ waits above -/
def ixL : List Nat → Nat → Nat
  | [], _ => 0
  | x :: l, j => if j = l.length then x else ixL l j
def hoI (st : List Nat) : Nat → Nat → Bool
  | 0, _ => false
  | m + 1, k => Nat.beq (ixL st k / 1048576) 14 || hoI st m (k + 1)
def hoF (base : Nat) (st : List Nat) : Bool := hoI st (st.length - base) base
theorem hoI_cons {x : Nat} {l : List Nat} : ∀ m k, k + m = l.length → hoI (x :: l) (m + 1) k = (hoI l m k || Nat.beq (x / 1048576) 14) := by
  intro m
  induction m with
  | zero =>
    intro k hk
    show (Nat.beq (ixL (x :: l) k / 1048576) 14 || false) = (false || Nat.beq (x / 1048576) 14)
    rw [show ixL (x :: l) k = x from if_pos (by omega)]
    cases Nat.beq (x / 1048576) 14 <;> rfl
  | succ m ih =>
    intro k hk
    show (Nat.beq (ixL (x :: l) k / 1048576) 14 || hoI (x :: l) (m + 1) (k + 1)) = ((Nat.beq (ixL l k / 1048576) 14 || hoI l m (k + 1)) || Nat.beq (x / 1048576) 14)
    rw [show ixL (x :: l) k = ixL l k from if_neg (by omega), ih (k + 1) (by omega)]
    cases Nat.beq (ixL l k / 1048576) 14 <;> cases hoI l m (k + 1) <;> cases Nat.beq (x / 1048576) 14 <;> rfl
theorem hoF_cons {base x : Nat} {l : List Nat} (hb : base ≤ l.length) : hoF base (x :: l) = (hoF base l || Nat.beq (x / 1048576) 14) := by
  have := hoI_cons (x := x) (l := l) (l.length - base) base (by omega)
  unfold hoF
  rw [← this]
  show hoI (x :: l) (l.length + 1 - base) base = _
  rw [show l.length + 1 - base = l.length - base + 1 by omega]
theorem hoF_nil {base : Nat} {l : List Nat} (hb : l.length = base) : hoF base l = false := by
  unfold hoF
  rw [show l.length - base = 0 by omega]
  rfl
theorem sk_ix {N : Nat} : ∀ {l : List Nat} {I : Nat → Nat → Int32}, SK N l I → ∀ j, j < l.length → I 92 j = nI (ixL l j) ∧ ixL l j < 2 ^ 24 := by
  intro l
  induction l with
  | nil => intro I _ j hj; exact absurd hj (Nat.not_lt_zero j)
  | cons x l ih =>
    intro I h j hj
    by_cases q : j = l.length
    · rw [show ixL (x :: l) j = x from if_pos q, q]; exact ⟨h.1.1, h.1.2.1⟩
    · rw [show ixL (x :: l) j = ixL l j from if_neg q]
      have hj : j < l.length + 1 := hj
      exact ih h.2 j (by omega)
section REF
variable {b : Nat → Nat} {n : Nat}
theorem here_c (hN : BN b n) {s : RdS} {st : List Nat} {I : Nat → Nat → Int32} (h : RRz b n s st I) : v_X12_here I = sgI (sgn b n (uP s)) ∧ ((¬ I 83 13 ≤ I 83 12) → vp_in (I 83 12) 220) := by
  obtain ⟨hn, hb⟩ := hN
  obtain ⟨⟨a1, a2, a3, a4, a5⟩, h2, h3, h4, h5, h6, h7, h8, h9⟩ := h
  rw [a1, a2]
  refine ⟨?_, fun _ => vp_in_nI (by omega) (by omega)⟩
  unfold v_X12_here w1_X12_here sgn sgI
  rw [a1, a2]
  by_cases q : uP s < n
  · have := hb _ q
    rw [if_neg (nI_ge q (by omega)), if_pos q, if_neg (by omega), nI_clamp (by omega)]
    exact h4 _ q
  · rw [if_pos (nI_le (by omega) (by omega)), if_neg q, if_pos rfl]
theorem isdg_c (hN : BN b n) {p : Nat} {I : Nat → Nat → Int32} (h : v_X12_here I = sgI (sgn b n p)) : v_X12_isDigit I = bqI (isDg (sgn b n p)) := by
  unfold v_X12_isDigit w2_X12_isDigit w1_X12_isDigit
  rw [h]
  rcases sgn_sg (b := b) (n := n) (p := p) hN.2 with c | c
  · rw [show sgI (sgn b n p) = nI (sgn b n p) from if_neg (by omega)]
    by_cases c1 : sgn b n p < 48
    · have e : isDg (sgn b n p) = false := by
        cases he : isDg (sgn b n p) with
        | false => rfl
        | true => have := dg_lt he; omega
      rw [e, if_pos (show nI (sgn b n p) < (48 : Int32) from nI_lt (b := 48) c1 (by omega))]; rfl
    · rw [if_neg (show ¬ nI (sgn b n p) < (48 : Int32) from nI_nlt (b := 48) (by omega) (by omega))]
      by_cases c2 : 57 < sgn b n p
      · have e : isDg (sgn b n p) = false := by
          cases he : isDg (sgn b n p) with
          | false => rfl
          | true => have := dg_lt he; omega
        rw [e, if_pos (show (57 : Int32) < nI (sgn b n p) from nI_lt (a := 57) c2 (by omega))]; rfl
      · have e : isDg (sgn b n p) = true := by
          unfold isDg
          rw [Nat.ble_eq_true_of_le (by omega), Nat.ble_eq_true_of_le (by omega)]; rfl
        rw [e, if_neg (show ¬ (57 : Int32) < nI (sgn b n p) from nI_nlt (a := 57) (by omega) (by omega))]; rfl
  · rw [c]; decide
theorem top_c {s : RdS} {x : Nat} {l : List Nat} {I : Nat → Nat → Int32} (hN : BN b n) (h : RRz b n s (x :: l) I) : v_X12_top I = nI (x / 1048576) ∧ x / 1048576 < 16 ∧ vp_in (I 83 17 - (1 : Int32)) 220 ∧ I 83 17 - (1 : Int32) = nI l.length := by
  have hn := hN.1
  obtain ⟨⟨a1, a2, a3, a4, a5⟩, h2, h3, h4, h5, h6, h7, h8, h9⟩ := h
  have a5 : I 83 17 = nI (l.length + 1) := a5
  have h7 : l.length + 1 ≤ uP s := h7
  have h24 := h3.1.2.1
  rw [a5, nI_pred]
  refine ⟨?_, by omega, vp_in_nI (by omega) (by omega), rfl⟩
  unfold v_X12_top w1_X12_top
  rw [a5, if_neg (nI_ne0 (by omega) (by omega)), nI_pred, nI_clamp (by omega), h3.1.1, show (1048576 : Int32) = nI 1048576 from rfl, pk_div (by omega) (by omega) (by omega)]
theorem top_0 {s : RdS} {I : Nat → Nat → Int32} (h : RRz b n s [] I) : v_X12_top I = -1 ∧ I 83 17 = 0 := by
  have a5 : I 83 17 = 0 := h.1.2.2.2.2
  refine ⟨?_, a5⟩
  unfold v_X12_top w1_X12_top
  rw [if_pos a5]
theorem en_k {k : Nat} (hk : k < 16) : enW k = 1048576 * k := by
  unfold enW
  omega
/-- a word more, what waited on top is gone -/
theorem emit_c (hN : BN b n) {s : RdS} {x : Nat} {l : List Nat} {I : Nat → Nat → Int32} (hx : ¬ (x / 1048576 = 11 ∨ x / 1048576 = 12)) {v : Nat} (hv : v < 2 ^ 24) (h : RRz b n s (x :: l) I) : RRz b n (adS v s) l (si (si (si I 91 (uN s) (nI (enW v))) 83 16 (nI (uN s + 1))) 83 17 (nI l.length)) ∧ FM I (si (si (si I 91 (uN s) (nI (enW v))) 83 16 (nI (uN s + 1))) 83 17 (nI l.length)) ∧ vp_in (nI (uN s)) 220 := by
  have hn := hN.1
  obtain ⟨⟨a1, a2, a3, a4, a5⟩, h2, h3, h4, h5, h6, h7, h8, h9⟩ := h
  have h6 : uN s + ((if x / 1048576 = 11 ∨ x / 1048576 = 12 then 0 else 1) + wtL l) ≤ uP s := h6
  rw [if_neg hx] at h6
  have h7 : l.length + 1 ≤ uP s := h7
  refine ⟨⟨⟨?_, ?_, ?_, ?_, si_at⟩, fun i hi => ?_, ?_, fun i hi => ?_, h5, show uN s + 1 + wtL l ≤ uP s by omega, by show l.length ≤ uP s; omega, ⟨h8.1, Nat.le_trans (Nat.le_add_left _ _) h8.2⟩, fun i hi => ?_⟩, (((FM.rfl' I).s91).s83 (by omega)).s83 (by omega), vp_in_nI (by omega) (by omega)⟩
  · rw [si_ne (by omega), si_ne (by omega), si_row (by omega)]; exact a1
  · rw [si_ne (by omega), si_ne (by omega), si_row (by omega)]; exact a2
  · rw [si_ne (by omega), si_ne (by omega), si_row (by omega)]; exact a3
  · rw [si_ne (by omega)]; exact si_at
  · have hi : i < uN s + 1 := hi
    rw [si_row (by omega), si_row (by omega)]
    show _ = nI (enW (unF (uW s) (uN s) v i))
    by_cases q : i = uN s
    · rw [q, unF_at]; exact si_at
    · rw [unF_ne q, si_ne q]; exact h2 i (by omega)
  · refine SK.fr (fun j _ => by rw [si_row (by omega), si_row (by omega), si_row (by omega)]) (h3.2.up (show uN s ≤ uN s + 1 by omega))
  · rw [si_row (by omega), si_row (by omega), si_row (by omega)]; exact h4 i hi
  · have hi : i < uN s + 1 := hi
    show unF (uW s) (uN s) v i < 2 ^ 24
    by_cases q : i = uN s
    · rw [q, unF_at]; exact hv
    · rw [unF_ne q]; exact h9 i (by omega)
theorem u_mul {k : Nat} : (1048576 : Int32) * nI k + (0 : Int32) = nI (1048576 * k) := by
  rw [show (1048576 : Int32) = nI 1048576 from rfl, show (0 : Int32) = nI 0 from rfl, pk_mul, nI_add]
  rfl
theorem RRz.nN {s : RdS} {st : List Nat} {I : Nat → Nat → Int32} (h : RRz b n s st I) : I 83 16 = nI (uN s) ∧ uN s ≤ uP s ∧ uP s ≤ n := by
  obtain ⟨⟨a1, a2, a3, a4, a5⟩, h2, h3, h4, h5, h6, h7, h8, h9⟩ := h
  exact ⟨a4, by omega, h5⟩
theorem cs_go (hN : BN b n) {a : Bool} {d : Nat} {J : Nat → Nat → Int64} {T : Nat → Nat → Nat} {Q : Option Value → Mem → Prop} {I0 : Nat → Nat → Int32} : ∀ (st : List Nat) (s : RdS) (I : Nat → Nat → Int32), FM I0 I → RRz b n s st I → (∀ I', FM I0 I' → RRz b n (csF a st s).2 (csF a st s).1 I' → Q none (SH, mkM I' J T)) → Go none aM (Ev mt aM (d + 2)) mX12_closesSums Q (0, [some (.ref 83), some (.int (bqI a))], [], (SH, mkM I J T), 0, 0) := by
  intro st
  induction st with
  | nil =>
    intro s I f0 h g
    obtain ⟨t1, t2⟩ := top_0 h
    have g' := g I f0 h
    refine mcs_0 ⟨fun q => absurd t2 q, ?_⟩
    rw [t1]
    refine br0 (by decide) ?_
    cases a with
    | false => exact br0 rfl g'
    | true => exact br1 (by decide) ⟨fun q => absurd t2 q, br1 (by decide) ⟨fun q => absurd t2 q, br1 (by decide) g'⟩⟩
  | cons x l ih =>
    intro s I f0 h g
    obtain ⟨t1, t2, t3, t4⟩ := top_c hN h
    have nn := h.nN
    have step : ¬ (x / 1048576 = 11 ∨ x / 1048576 = 12) → (∀ I', FM I0 I' → RRz b n (csF a l (adS (x / 1048576) s)).2 (csF a l (adS (x / 1048576) s)).1 I' → Q none (SH, mkM I' J T)) → ((¬ (I 83 17 = 0)) → vp_in ((I 83 17) - (1 : Int32)) 220) ∧ (vp_in (I 83 16) 220 ∧ Go none aM (Ev mt aM (d + 2)) mX12_closesSums Q (0, [some (.ref 83), some (.int (bqI a))], [], (SH, mkM (si (si (si I 91 ((I 83 16).toNatClampNeg) (((1048576 : Int32) * (nI (x / 1048576))) + (0 : Int32))) 83 16 ((I 83 16) + (1 : Int32))) 83 17 ((I 83 17) - (1 : Int32))) J T), 0, 0)) := by
      intro hx g
      obtain ⟨e1, e2, e3⟩ := emit_c hN hx (v := x / 1048576) (by omega) h
      have hn := hN.1
      rw [t4, nn.1, nI_1, nI_clamp (by omega), u_mul, ← en_k t2]
      exact ⟨fun _ => by rw [← t4]; exact t3, e3, ih _ _ (f0.trans e2) e1 g⟩
    have stop : ¬ ((4 ≤ x / 1048576 ∧ x / 1048576 ≤ 6) ∨ (a = true ∧ (x / 1048576 = 2 ∨ x / 1048576 = 3))) → Q none (SH, mkM I J T) := by
      intro q
      have e : csF a (x :: l) s = (x :: l, s) := if_neg q
      rw [e] at g
      exact g I f0 h
    have goon : ((4 ≤ x / 1048576 ∧ x / 1048576 ≤ 6) ∨ (a = true ∧ (x / 1048576 = 2 ∨ x / 1048576 = 3))) → (∀ I', FM I0 I' → RRz b n (csF a l (adS (x / 1048576) s)).2 (csF a l (adS (x / 1048576) s)).1 I' → Q none (SH, mkM I' J T)) := by
      intro q
      have e : csF a (x :: l) s = csF a l (adS (x / 1048576) s) := if_pos q
      rw [e] at g
      exact g
    refine mcs_0 ⟨fun _ => t3, ?_⟩
    rw [t1]
    by_cases c4 : x / 1048576 < 4
    · refine br0 (nI_lt (b := 4) c4 (by omega)) ?_
      cases a with
      | false => exact br0 rfl (stop (fun z => z.elim (fun z => by omega) (fun z => absurd z.1 (by decide))))
      | true =>
        refine br1 (by decide) ⟨fun _ => t3, ?_⟩
        by_cases c2 : x / 1048576 = 2
        · exact br0 (by rw [c2]; rfl) (step (by omega) (goon (Or.inr ⟨rfl, Or.inl c2⟩)))
        refine br1 (fun z => c2 ((nI_eq (b := 2) (by omega) (by omega)).mp z)) ⟨fun _ => t3, ?_⟩
        by_cases c3 : x / 1048576 = 3
        · exact br0 (by rw [c3]; rfl) (step (by omega) (goon (Or.inr ⟨rfl, Or.inr c3⟩)))
        · exact br1 (fun z => c3 ((nI_eq (b := 3) (by omega) (by omega)).mp z)) (stop (fun z => z.elim (fun z => by omega) (fun z => z.2.elim c2 c3)))
    refine br1 (nI_nlt (b := 4) (by omega) (by omega)) ⟨fun _ => t3, ?_⟩
    by_cases c6 : x / 1048576 ≤ 6
    · exact br0 (nI_le (b := 6) c6 (by omega)) (step (by omega) (goon (Or.inl ⟨by omega, c6⟩)))
    refine br1 (nI_ge (a := 6) (by omega) (by omega)) ?_
    cases a with
    | false => exact br0 rfl (stop (fun z => z.elim (fun z => by omega) (fun z => absurd z.1 (by decide))))
    | true => exact br1 (by decide) ⟨fun _ => t3, br1 (fun z => by have := (nI_eq (b := 2) (by omega) (by omega)).mp z; omega) ⟨fun _ => t3, br1 (fun z => by have := (nI_eq (b := 3) (by omega) (by omega)).mp z; omega) (stop (fun z => z.elim (fun z => by omega) (fun z => by omega)))⟩⟩
theorem ev_cs (hN : BN b n) {a : Bool} {d : Nat} {x : Int32} {s : RdS} {st : List Nat} {I : Nat → Nat → Int32} {J : Nat → Nat → Int64} {T : Nat → Nat → Nat} {Q : Option Value → Mem → Prop} (hx : x = bqI a) (h : RRz b n s st I) (g : ∀ I', FM I I' → RRz b n (csF a st s).2 (csF a st s).1 I' → Q none (SH, mkM I' J T)) : Ev mt aM (d + 3) 193 [.ref 83, .int x] (SH, mkM I J T) Q := by
  subst hx
  exact Ev.intro (d := d + 2) mX12_closesSums rfl rfl (cs_go (d := d) hN st s I (FM.rfl' _) h g)
theorem ho_go (hN : BN b n) {d base : Nat} {s : RdS} {st : List Nat} {I : Nat → Nat → Int32} {J : Nat → Nat → Int64} {T : Nat → Nat → Nat} {Q : Option Value → Mem → Prop} (h : RRz b n s st I) : ∀ m k, k + m = st.length → Q (some (.int (bqI (hoI st m k)))) (SH, mkM I J T) → Go none aM (Ev mt aM (d + 2)) mX12_hasOpenSum Q (2, [some (.ref 83), none, some (.int (nI k))], [], (SH, mkM I J T), 0, 0) := by
  have hn := hN.1
  obtain ⟨⟨a1, a2, a3, a4, a5⟩, h2, h3, h4, h5, h6, h7, h8, h9⟩ := h
  intro m
  induction m with
  | zero =>
    intro k hk g
    exact mho_2 (br0 (by rw [a5]; exact nI_le (by omega) (by omega)) g)
  | succ m ih =>
    intro k hk g
    obtain ⟨q1, q2⟩ := sk_ix h3 k (by omega)
    refine mho_2 (br1 (by rw [a5]; exact nI_ge (by omega) (by omega)) ⟨vp_in_nI (by omega) (by omega), ?_⟩)
    rw [nI_clamp (by omega), q1, show (1048576 : Int32) = nI 1048576 from rfl, pk_div (by omega) (by omega) (by omega), nI_1]
    have g : Q (some (.int (bqI (Nat.beq (ixL st k / 1048576) 14 || hoI st m (k + 1))))) (SH, mkM I J T) := g
    by_cases c : ixL st k / 1048576 = 14
    · rw [c] at g ⊢
      exact br0 rfl g
    · refine br1 (fun z => c ((nI_eq (b := 14) (by omega) (by omega)).mp z)) (ih (k + 1) (by omega) ?_)
      have e : Nat.beq (ixL st k / 1048576) 14 = false := by
        cases hb : Nat.beq (ixL st k / 1048576) 14 with
        | false => rfl
        | true => exact absurd (Nat.eq_of_beq_eq_true hb) c
      rw [e, Bool.false_or] at g
      exact g
theorem ev_ho (hN : BN b n) {d base : Nat} {s : RdS} {st : List Nat} {I : Nat → Nat → Int32} {J : Nat → Nat → Int64} {T : Nat → Nat → Nat} {Q : Option Value → Mem → Prop} (hb : base ≤ st.length) (h : RRz b n s st I) (g : Q (some (.int (bqI (hoF base st)))) (SH, mkM I J T)) : Ev mt aM (d + 3) 195 [.ref 83, .int (nI base)] (SH, mkM I J T) Q :=
  Ev.intro (d := d + 2) mX12_hasOpenSum rfl rfl (mho_0 (d := d) (ho_go (d := d) (base := base) hN h (st.length - base) base (by omega) g))
/-- opening -/
theorem ev_op (hN : BN b n) {d w : Nat} {s : RdS} {st : List Nat} {I : Nat → Nat → Int32} {J : Nat → Nat → Int64} {T : Nat → Nat → Nat} {Q : Option Value → Mem → Prop} (hw : w < 16 ∧ w ≠ 11 ∧ w ≠ 12) (hp : uP s < n) (h : RRz b n s st I) (g0 : uO s = 6 → ∀ I', FM I I' → FBz (5, uP s) I' → Q (some (.int 0)) (SH, mkM I' J T)) (g1 : uO s ≠ 6 → ∀ I', FM I I' → RRz b n (uP s + 1, uO s + 1, uN s, uW s) (1048576 * w :: st) I' → Q (some (.int 1)) (SH, mkM I' J T)) : Ev mt aM (d + 3) 189 [.ref 83, .int (nI w)] (SH, mkM I J T) Q := by
  have hn := hN.1
  obtain ⟨⟨a1, a2, a3, a4, a5⟩, h2, h3, h4, h5, h6, h7, h8, h9⟩ := h
  refine Ev.intro (d := d + 2) mX12_opens rfl rfl (mop_0 (d := d) ?_)
  rw [a1, a3, a5]
  by_cases c : uO s = 6
  · exact br0 (by rw [c]; rfl) (g0 c _ ((FM.rfl' I).s83 (by omega)) si_at)
  · refine br1 (fun z => c ((nI_eq (b := 6) (by omega) (by omega)).mp z)) ⟨vp_in_nI (by omega) (by omega), g1 c _ ((((FM.rfl' I).s83 (by omega)).s92.s83 (by omega)).s83 (by omega)) ?_⟩
    rw [nI_clamp (by omega), nI_1, nI_1, nI_1, show (1048576 : Int32) = nI 1048576 from rfl, pk_mul]
    have e1 : 1048576 * w / 1048576 = w := by omega
    refine ⟨⟨si_at, ?_, ?_, ?_, ?_⟩, fun i hi => ?_, ⟨⟨?_, by omega, fun z => by rw [e1] at z; omega⟩, ?_⟩, fun i hi => ?_, show uP s + 1 ≤ n by omega, ?_, show st.length + 1 ≤ uP s + 1 by omega, ⟨show uO s + 1 ≤ 6 by omega, ?_⟩, h9⟩
    · rw [si_ne (by omega), si_ne (by omega), si_row (by omega), si_ne (by omega)]; exact a2
    · rw [si_ne (by omega), si_ne (by omega), si_row (by omega)]; exact si_at
    · rw [si_ne (by omega), si_ne (by omega), si_row (by omega), si_ne (by omega)]; exact a4
    · rw [si_ne (by omega)]; exact si_at
    · rw [si_row (by omega), si_row (by omega), si_row (by omega), si_row (by omega)]; exact h2 i hi
    · rw [si_row (by omega), si_row (by omega)]; exact si_at
    · refine SK.fr (fun j hj => ?_) h3
      rw [si_row (by omega), si_row (by omega), si_ne (by omega), si_row (by omega)]
    · rw [si_row (by omega), si_row (by omega), si_row (by omega), si_row (by omega)]; exact h4 i hi
    · show uN s + ((if 1048576 * w / 1048576 = 11 ∨ 1048576 * w / 1048576 = 12 then 0 else 1) + wtL st) ≤ uP s + 1
      rw [if_neg (by rw [e1]; omega)]
      omega
    · show (if 1048576 * w / 1048576 = 10 ∨ 1048576 * w / 1048576 = 13 ∨ 1048576 * w / 1048576 = 14 then 1 else 0) + opL st ≤ uO s + 1
      split <;> omega
/-- less is open -/
theorem out_c {s : RdS} {st : List Nat} {I : Nat → Nat → Int32} (ho : opL st + 1 ≤ uO s) (h : RRz b n s st I) : RRz b n (outS s) st (si I 83 15 (I 83 15 - (1 : Int32))) := by
  obtain ⟨⟨a1, a2, a3, a4, a5⟩, h2, h3, h4, h5, h6, h7, h8, h9⟩ := h
  rw [a3, show (1 : Int32) = nI 1 from rfl, pk_sub (by omega)]
  refine ⟨⟨?_, ?_, si_at, ?_, ?_⟩, fun i hi => ?_, ?_, fun i hi => ?_, h5, h6, h7, ⟨show uO s - 1 ≤ 6 by omega, show opL st ≤ uO s - 1 by omega⟩, h9⟩
  · rw [si_ne (by omega)]; exact a1
  · rw [si_ne (by omega)]; exact a2
  · rw [si_ne (by omega)]; exact a4
  · rw [si_ne (by omega)]; exact a5
  · rw [si_row (by omega)]; exact h2 i hi
  · exact SK.fr (fun j _ => by rw [si_row (by omega)]) h3
  · rw [si_row (by omega)]; exact h4 i hi
/-- endsPiece -/
theorem ep_go (hN : BN b n) {d : Nat} {J : Nat → Nat → Int64} {T : Nat → Nat → Nat} {Q : Option Value → Mem → Prop} {I0 : Nat → Nat → Int32} : ∀ (st : List Nat) (s : RdS) (I : Nat → Nat → Int32), FM I0 I → RRz b n s st I → (∀ I', FM I0 I' → RRz b n (epF st s).2 (epF st s).1 I' → Q none (SH, mkM I' J T)) → Go none aM (Ev mt aM (d + 2)) mX12_endsPiece Q (0, [some (.ref 83)], [], (SH, mkM I J T), 0, 0) := by
  intro st
  induction st with
  | nil =>
    intro s I f0 h g
    obtain ⟨t1, t2⟩ := top_0 h
    refine mep_0 ⟨fun q => absurd t2 q, ?_⟩
    rw [t1]
    exact br1 (by decide) (g I f0 h)
  | cons x l ih =>
    intro s I f0 h g
    obtain ⟨t1, t2, t3, t4⟩ := top_c hN h
    have nn := h.nN
    have hn := hN.1
    have hop := h.2.2.2.2.2.2.2.1.2
    refine mep_0 ⟨fun _ => t3, ?_⟩
    rw [t1]
    by_cases c : x / 1048576 = 10
    · have e : epF (x :: l) s = epF l (outS (adS 10 s)) := if_pos c
      rw [e] at g
      have hop : (if x / 1048576 = 10 ∨ x / 1048576 = 13 ∨ x / 1048576 = 14 then 1 else 0) + opL l ≤ uO s := hop
      rw [if_pos (Or.inl c)] at hop
      obtain ⟨e1, e2, e3⟩ := emit_c hN (by omega) (v := 10) (by omega) h
      have e4 := out_c (show opL l + 1 ≤ uO (adS 10 s) by show opL l + 1 ≤ uO s; omega) e1
      have e5 : (si (si (si I 91 (uN s) (nI (enW 10))) 83 16 (nI (uN s + 1))) 83 17 (nI l.length)) 83 15 = I 83 15 := by rw [si_ne (by omega), si_ne (by omega), si_row (by omega)]
      rw [e5] at e4
      rw [t4, nn.1, nI_1, nI_clamp (by omega), show (10 : Int32) = nI 10 from rfl, u_mul, ← en_k (k := 10) (by omega)]
      exact br0 (by rw [c]) ⟨e3, ih (outS (adS 10 s)) _ ((f0.trans e2).s83 (by omega)) e4 g⟩
    · have e : epF (x :: l) s = (x :: l, s) := if_neg c
      rw [e] at g
      exact br1 (fun z => c ((nI_eq (b := 10) (by omega) (by omega)).mp z)) (g I f0 h)
theorem ev_ep (hN : BN b n) {d : Nat} {s : RdS} {st : List Nat} {I : Nat → Nat → Int32} {J : Nat → Nat → Int64} {T : Nat → Nat → Nat} {Q : Option Value → Mem → Prop} (h : RRz b n s st I) (g : ∀ I', FM I I' → RRz b n (epF st s).2 (epF st s).1 I' → Q none (SH, mkM I' J T)) : Ev mt aM (d + 3) 197 [.ref 83] (SH, mkM I J T) Q :=
  Ev.intro (d := d + 2) mX12_endsPiece rfl rfl (ep_go (d := d) hN st s I (FM.rfl' _) h g)
theorem en_ln {w N : Nat} (hw : w < 2 ^ 24) (hN : N < 2 ^ 16) : enW (w % 16 + 16 * N) = 1048576 * (w % 16) + N ∧ enW w < 2 ^ 31 ∧ enW w / 1048576 = w % 16 := by
  unfold enW
  omega
/-- a leap lands -/
theorem land_c (hN : BN b n) {s : RdS} {x : Nat} {l : List Nat} {I : Nat → Nat → Int32} (hx : x / 1048576 = 11 ∨ x / 1048576 = 12) (h : RRz b n s (x :: l) I) : RRz b n (lnS (x % 1048576) s) l (si (si I 91 (x % 1048576) (nI (enW (uW s (x % 1048576) % 16 + 16 * uN s)))) 83 17 (nI l.length)) ∧ FM I (si (si I 91 (x % 1048576) (nI (enW (uW s (x % 1048576) % 16 + 16 * uN s)))) 83 17 (nI l.length)) ∧ vp_in (nI (x % 1048576)) 220 ∧ x % 1048576 < 2 ^ 20 ∧ I 92 l.length - I 92 l.length / (1048576 : Int32) * (1048576 : Int32) = nI (x % 1048576) ∧ (1048576 : Int32) * (I 91 (x % 1048576) / (1048576 : Int32)) + I 83 16 = nI (enW (uW s (x % 1048576) % 16 + 16 * uN s)) := by
  have hn := hN.1
  obtain ⟨⟨a1, a2, a3, a4, a5⟩, h2, h3, h4, h5, h6, h7, h8, h9⟩ := h
  have h6 : uN s + ((if x / 1048576 = 11 ∨ x / 1048576 = 12 then 0 else 1) + wtL l) ≤ uP s := h6
  rw [if_pos hx] at h6
  have h7 : l.length + 1 ≤ uP s := h7
  have hL := h3.1.2.2 hx
  have h24 := h3.1.2.1
  have hw := h9 _ hL
  obtain ⟨w1, w2, w3⟩ := en_ln (N := uN s) hw (by omega)
  refine ⟨⟨⟨?_, ?_, ?_, ?_, si_at⟩, fun i hi => ?_, ?_, fun i hi => ?_, h5, show uN s + wtL l ≤ uP s by omega, by show l.length ≤ uP s; omega, ⟨h8.1, Nat.le_trans (Nat.le_add_left _ _) h8.2⟩, fun i hi => ?_⟩, ((FM.rfl' I).s91).s83 (by omega), vp_in_nI (by omega) (by omega), by omega, ?_, ?_⟩
  · rw [si_ne (by omega), si_row (by omega)]; exact a1
  · rw [si_ne (by omega), si_row (by omega)]; exact a2
  · rw [si_ne (by omega), si_row (by omega)]; exact a3
  · rw [si_ne (by omega), si_row (by omega)]; exact a4
  · have hi : i < uN s := hi
    rw [si_row (by omega)]
    show _ = nI (enW (unF (uW s) (x % 1048576) (uW s (x % 1048576) % 16 + 16 * uN s) i))
    by_cases q : i = x % 1048576
    · rw [q, unF_at]; exact si_at
    · rw [unF_ne q, si_ne q]; exact h2 i hi
  · refine SK.fr (fun j _ => by rw [si_row (by omega), si_row (by omega)]) h3.2
  · rw [si_row (by omega), si_row (by omega)]; exact h4 i hi
  · show unF (uW s) (x % 1048576) (uW s (x % 1048576) % 16 + 16 * uN s) i < 2 ^ 24
    by_cases q : i = x % 1048576
    · rw [q, unF_at]; omega
    · rw [unF_ne q]; exact h9 i hi
  · rw [h3.1.1, show (1048576 : Int32) = nI 1048576 from rfl, pk_rem (by omega) (by omega) (by omega)]
  · rw [h2 _ hL, a4, show (1048576 : Int32) = nI 1048576 from rfl, pk_div (by omega) (by omega) (by omega), w3, pk_mul, nI_add, w1]
theorem ld_go (hN : BN b n) {a : Bool} {d : Nat} {J : Nat → Nat → Int64} {T : Nat → Nat → Nat} {Q : Option Value → Mem → Prop} {I0 : Nat → Nat → Int32} : ∀ (st : List Nat) (s : RdS) (I : Nat → Nat → Int32), FM I0 I → RRz b n s st I → (∀ I', FM I0 I' → RRz b n (ldF a st s).2 (ldF a st s).1 I' → Q none (SH, mkM I' J T)) → Go none aM (Ev mt aM (d + 2)) mX12_lands Q (0, [some (.ref 83), some (.int (bqI a)), none], [], (SH, mkM I J T), 0, 0) := by
  intro st
  induction st with
  | nil =>
    intro s I f0 h g
    obtain ⟨t1, t2⟩ := top_0 h
    have g' := g I f0 h
    refine mld_0 ⟨fun q => absurd t2 q, ?_⟩
    rw [t1]
    refine br1 (by decide) ?_
    cases a with
    | false => exact br0 rfl g'
    | true => exact br1 (by decide) ⟨fun q => absurd t2 q, br1 (by decide) g'⟩
  | cons x l ih =>
    intro s I f0 h g
    obtain ⟨t1, t2, t3, t4⟩ := top_c hN h
    have hn := hN.1
    have hl : l.length + 1 ≤ uP s := h.2.2.2.2.2.2.1
    have hp : uP s ≤ n := h.2.2.2.2.1
    have stop : ¬ (x / 1048576 = 11 ∨ (a = true ∧ x / 1048576 = 12)) → Q none (SH, mkM I J T) := by
      intro q
      have e : ldF a (x :: l) s = (x :: l, s) := if_neg q
      rw [e] at g
      exact g I f0 h
    refine mld_0 ⟨fun _ => t3, ?_⟩
    rw [t1, t4, nI_clamp (by omega)]
    by_cases c1 : x / 1048576 = 11
    · obtain ⟨e1, e2, e3, e4, e5, e6⟩ := land_c hN (Or.inl c1) h
      have e : ldF a (x :: l) s = ldF a l (lnS (x % 1048576) s) := if_pos (Or.inl c1)
      rw [e] at g
      rw [e5, nI_clamp (by omega), e6]
      exact br0 (by rw [c1]; rfl) ⟨by rw [← t4]; exact t3, e3, e3, ih _ _ (f0.trans e2) e1 g⟩
    refine br1 (fun z => c1 ((nI_eq (b := 11) (by omega) (by omega)).mp z)) ?_
    cases a with
    | false => exact br0 rfl (stop (fun z => z.elim c1 (fun z => absurd z.1 (by decide))))
    | true =>
      refine br1 (by decide) ⟨fun _ => by rw [← t4]; exact t3, ?_⟩
      by_cases c2 : x / 1048576 = 12
      · obtain ⟨e1, e2, e3, e4, e5, e6⟩ := land_c hN (Or.inr c2) h
        have e : ldF true (x :: l) s = ldF true l (lnS (x % 1048576) s) := if_pos (Or.inr ⟨rfl, c2⟩)
        rw [e] at g
        rw [e5, nI_clamp (by omega), e6]
        exact br0 (by rw [c2]; rfl) ⟨by rw [← t4]; exact t3, e3, e3, ih _ _ (f0.trans e2) e1 g⟩
      · exact br1 (fun z => c2 ((nI_eq (b := 12) (by omega) (by omega)).mp z)) (stop (fun z => z.elim c1 (fun z => c2 z.2)))
theorem ev_ld (hN : BN b n) {a : Bool} {d : Nat} {x : Int32} {s : RdS} {st : List Nat} {I : Nat → Nat → Int32} {J : Nat → Nat → Int64} {T : Nat → Nat → Nat} {Q : Option Value → Mem → Prop} (hx : x = bqI a) (h : RRz b n s st I) (g : ∀ I', FM I I' → RRz b n (ldF a st s).2 (ldF a st s).1 I' → Q none (SH, mkM I' J T)) : Ev mt aM (d + 3) 198 [.ref 83, .int x] (SH, mkM I J T) Q := by
  subst hx
  exact Ev.intro (d := d + 2) mX12_lands rfl rfl (ld_go (d := d) hN st s I (FM.rfl' _) h g)
/-- what is written after numbers -/
theorem num_c (hN : BN b n) {d : Nat} {s : RdS} {st : List Nat} {J : Nat → Nat → Int64} {T : Nat → Nat → Nat} {Q : Option Value → Mem → Prop} {I0 : Nat → Nat → Int32} : ∀ (f v p : Nat) (I : Nat → Nat → Int32), f ≤ 5 → v + 1 ≤ 10 ^ (5 - f) → p + f = uP s + 5 → p ≤ n → FM I0 I → RRz b n (p, uO s, uN s, uW s) st I → I 83 19 = nI v → (∀ e, dgF b n f v p = .inl e → ∀ I', FM I0 I' → FBz e I' → Q (some (.int 0)) (SH, mkM I' J T)) → (∀ q, dgF b n f v p = .inr q → ∀ I', FM I0 I' → RRz b n (q.2, uO s, uN s, uW s) st I' → I' 83 19 = nI q.1 → Q (some (.int 1)) (SH, mkM I' J T)) → Go none aM (Ev mt aM (d + 2)) mX12_readsNumber Q (10, [some (.ref 83), some (.int (nI (uP s)))], [], (SH, mkM I J T), 0, 0) := by
  have hn := hN.1
  intro f
  induction f with
  | zero =>
    intro v p I hf hv hpf hp f0 h h19 g0 g1
    obtain ⟨y1, y2⟩ := here_c hN h
    refine mnu_10 ⟨y2, fun _ => y2, ?_⟩
    have hd : v_X12_isDigit I = bqI (isDg (sgn b n p)) := isdg_c hN y1
    have a1 : I 83 12 = nI p := h.1.1
    unfold dgF at g0 g1
    by_cases c : isDg (sgn b n p) = true
    · refine br1 (by rw [hd, c]; decide) (br0 ?_ (g0 (2, p) (if_pos c) _ (f0.s83 (by omega)) ?_))
      · rw [a1, show (5 : Int32) = nI 5 from rfl, nI_add, show uP s + 5 = p by omega]
      · show (si I 83 14 _) 83 14 = _
        rw [si_at, a1]; rfl
    · refine br0 (by rw [hd, show isDg (sgn b n p) = false by simpa using c]; rfl) (g1 (v, p) (if_neg c) I f0 h h19)
  | succ f ih =>
    intro v p I hf hv hpf hp f0 h h19 g0 g1
    obtain ⟨y1, y2⟩ := here_c hN h
    refine mnu_10 ⟨y2, fun _ => y2, ?_⟩
    have hd : v_X12_isDigit I = bqI (isDg (sgn b n p)) := isdg_c hN y1
    have a1 : I 83 12 = nI p := h.1.1
    unfold dgF at g0 g1
    by_cases c : isDg (sgn b n p) = true
    · rw [if_pos c] at g0 g1
      obtain ⟨l1, l2, l3⟩ := dg_lt c
      have hpw : (10 : Nat) ^ (5 - (f + 1)) ≤ 10 ^ 4 := Nat.pow_le_pow_right (by omega) (by omega)
      refine br1 (by rw [hd, c]; decide) (br1 ?_ ⟨y2, ?_⟩)
      · rw [a1, show (5 : Int32) = nI 5 from rfl, nI_add]
        exact fun z => by have := (nI_eq (by omega) (by omega)).mp z; omega
      · rw [y1, show sgI (sgn b n (uP (p, uO s, uN s, uW s))) = nI (sgn b n p) from if_neg (by show ¬ sgn b n p = 300; omega), h19, a1, show (10 : Int32) = nI 10 from rfl, pk_mul, nI_add, show (48 : Int32) = nI 48 from rfl, pk_sub (by omega), nI_1]
        have e3 : (10 : Nat) ^ (5 - f) = 10 * 10 ^ (5 - (f + 1)) := by
          rw [show 5 - f = 5 - (f + 1) + 1 by omega, Nat.pow_succ, Nat.mul_comm]
        refine ih _ (p + 1) _ (by omega) (by rw [e3]; omega) (by omega) (by omega) ((f0.s83 (by omega)).s83 (by omega)) ?_ ?_ g0 g1
        · obtain ⟨⟨a1, a2, a3, a4, a5⟩, h2, h3, h4, h5, h6, h7, h8, h9⟩ := h
          refine ⟨⟨si_at, ?_, ?_, ?_, ?_⟩, fun i hi => ?_, ?_, fun i hi => ?_, show p + 1 ≤ n by omega, ?_, ?_, h8, h9⟩
          · rw [si_ne (by omega), si_ne (by omega)]; exact a2
          · rw [si_ne (by omega), si_ne (by omega)]; exact a3
          · rw [si_ne (by omega), si_ne (by omega)]; exact a4
          · rw [si_ne (by omega), si_ne (by omega)]; exact a5
          · rw [si_row (by omega), si_row (by omega)]; exact h2 i hi
          · exact SK.fr (fun j _ => by rw [si_row (by omega), si_row (by omega)]) h3
          · rw [si_row (by omega), si_row (by omega)]; exact h4 i hi
          · have h6 : uN s + wtL st ≤ p := h6
            show uN s + wtL st ≤ p + 1
            omega
          · have h7 : st.length ≤ p := h7
            show st.length ≤ p + 1
            omega
        · rw [si_ne (by omega)]; exact si_at
    · rw [if_neg c] at g0 g1
      refine br0 (by rw [hd, show isDg (sgn b n p) = false by simpa using c]; rfl) (g1 (v, p) rfl I f0 h h19)
end REF
