/-! CHECK: what stands written against the LOG. -/
theorem nu_eq (a b c e : Int32) : (((a <<< ((24 : Int32) &&& 31)) ||| (b <<< ((16 : Int32) &&& 31))) ||| (c <<< ((8 : Int32) &&& 31))) ||| e = (((((((((0:Int32) <<< ((8 : Int32) &&& 31)) ||| a) <<< ((8 : Int32) &&& 31)) ||| b) <<< ((8 : Int32) &&& 31)) ||| c) <<< ((8 : Int32) &&& 31)) ||| e) := by
  have h : ∀ (x s : Int32) (n : Nat), (s.toBitVec.smod 32).toNat = n → (x <<< s).toBitVec = x.toBitVec <<< n := fun x s n hs => by
    rw [Int32.toBitVec_shiftLeft, BitVec.shiftLeft_eq', hs]
  apply Int32.toBitVec_inj.mp
  simp only [Int32.toBitVec_or]
  rw [h a ((24 : Int32) &&& 31) 24 (by decide), h b ((16 : Int32) &&& 31) 16 (by decide)]
  simp only [h _ ((8 : Int32) &&& 31) 8 (by decide), Int32.toBitVec_or]
  simp only [BitVec.shiftLeft_or_distrib, ← BitVec.shiftLeft_add]
  simp
/-- the I-th number of the tape, the reference's way -/
def nuI (t : Nat → Nat) (i : Nat) : Int32 := (((((((((0:Int32) <<< ((8 : Int32) &&& 31)) ||| nI (t (4 * i))) <<< ((8 : Int32) &&& 31)) ||| nI (t (4 * i + 1))) <<< ((8 : Int32) &&& 31)) ||| nI (t (4 * i + 2))) <<< ((8 : Int32) &&& 31)) ||| nI (t (4 * i + 3)))
def ckF (L : Lg) (t : Nat → Nat) (n : Nat) : Nat → Nat → Int32
  | 0, _ => -1
  | f + 1, j => if lgN L ≤ j then (if n ≤ lgN L then -1 else nI (2 * lgN L)) else if j = n then nI (2 * n) else if nuI t (2 * j) = dI (lgO L (j + 1)) then (if nuI t (2 * j + 1) = scI (lgS L (j + 1)) then ckF L t n f (j + 1) else nI (2 * j + 1)) else nI (2 * j)
theorem c_num {t : Nat × (Nat → Nat)} {I : Nat → Nat → Int32} {i : Nat} (h : CTp t I) (hi : 4 * i + 4 ≤ t.1) (ht : t.1 ≤ 220) : v_X8_numberAt ((4 : Int32) * nI i) I = nuI t.2 i ∧ vp_in ((4 : Int32) * nI i) 220 ∧ vp_in (((4 : Int32) * nI i) + (1 : Int32)) 220 ∧ vp_in (((4 : Int32) * nI i) + (2 : Int32)) 220 ∧ vp_in (((4 : Int32) * nI i) + (3 : Int32)) 220 := by
  have e : (4 : Int32) * nI i = nI (4 * i) := by rw [show (4 : Int32) = nI 4 from rfl, pk_mul]
  have e1 : nI (4 * i) + (1 : Int32) = nI (4 * i + 1) := nI_1 _
  have e2 : nI (4 * i) + (2 : Int32) = nI (4 * i + 2) := nI_add _ 2
  have e3 : nI (4 * i) + (3 : Int32) = nI (4 * i + 3) := nI_add _ 3
  have b : ∀ k, k < t.1 → v_X8_byteAt (nI k) I = nI (t.2 k) := fun k hk => by
    show I 8 (nI k).toNatClampNeg = _
    rw [nI_clamp (by omega)]
    exact h.2 k hk
  unfold v_X8_numberAt
  rw [e, e1, e2, e3, b _ (by omega), b _ (by omega), b _ (by omega), b _ (by omega), nu_eq]
  exact ⟨rfl, vp_in_nI (by omega) (by omega), vp_in_nI (by omega) (by omega), vp_in_nI (by omega) (by omega), vp_in_nI (by omega) (by omega)⟩
theorem c_beh {L : Lg} {I : Nat → Nat → Int32} {j k : Nat} {x : Int32} (hC : CL L I) (h5 : lgN L ≤ 5) (hj : j < 30) (hk : k < 2) : v_X1_isBehind (nI (j + 1)) (nI k) x I = (if j < lgN L then (if x = (if k = 0 then dI (lgO L (j + 1)) else scI (lgS L (j + 1))) then (1 : Int32) else 0) else 0) ∧ (nI (j + 1) ≤ I 76 0 → (((nI k = 0) → vp_in (nI (j + 1)) 6) ∧ ((¬ (nI k = 0)) → vp_in (nI (j + 1)) 6))) := by
  have e1 := hC.1
  refine ⟨?_, fun q => ?_⟩
  · unfold v_X1_isBehind w3_X1_isBehind w2_X1_isBehind w1_X1_isBehind
    rw [e1]
    by_cases q : j < lgN L
    · have c1 : v_X1_codeBehind (nI (j + 1)) I = dI (lgO L (j + 1)) := by
        show I 77 (nI (j + 1)).toNatClampNeg = _
        rw [nI_clamp (by omega)]
        exact (hC.2.1 _ (by omega)).1
      have c2 : v_X1_scoreBehind (nI (j + 1)) I = scI (lgS L (j + 1)) := by
        show I 78 (nI (j + 1)).toNatClampNeg = _
        rw [nI_clamp (by omega)]
        exact (hC.2.1 _ (by omega)).2
      rw [if_pos (nI_le (by omega) (by omega)), if_pos q, c1, c2]
      rcases (show k = 0 ∨ k = 1 by omega) with z | z
      · rw [z, if_pos (show nI 0 = 0 from rfl), if_pos (show (0 : Nat) = 0 from rfl)]
      · rw [z, if_neg (show ¬ nI 1 = 0 by decide), if_neg (show ¬ (1 : Nat) = 0 by decide)]
    · rw [if_neg (nI_ge (by omega) (by omega)), if_neg q]
  · rw [e1] at q
    have := (nI_leI (by omega) (by omega)).mp q
    have v : vp_in (nI (j + 1)) 6 := vp_in_nI (by omega) (by omega)
    exact ⟨fun _ => v, fun _ => v⟩
theorem chk_end {d : Nat} {n p i : Int32} {I : Nat → Nat → Int32} {J : Nat → Nat → Int64} {T : Nat → Nat → Nat} {Q : Option Value → Mem → Prop} (hp : ¬ p = (-1 : Int32)) (g : Q (some (.int p)) (SH, mkM (si I 7 0 (0 : Int32)) J T)) : Go none aM (Ev mt aM (d + 7)) mX11_check Q (31, [some (.ref 0), some (.int n), some (.int p), some (.int i)], [], (SH, mkM I J T), 0, 0) := by
  refine chk_31 ?_
  by_cases c : (2 : Int32) * n ≤ i
  · exact br0 c (br1 hp g)
  · exact br1 c (br1 hp (br1 hp g))
theorem chk_go {d n : Nat} {L : Lg} {t : Nat × (Nat → Nat)} {I : Nat → Nat → Int32} {J : Nat → Nat → Int64} {T : Nat → Nat → Nat} {Q : Option Value → Mem → Prop} (hC : CL L I) (h5 : lgN L ≤ 5) (ht : CTp t I) (h2 : t.1 ≤ 220) (hn : 8 * n ≤ t.1) : ∀ (f j : Nat), lgN L < f + j → j ≤ lgN L → j ≤ n → Q (some (.int (ckF L t.2 n f j))) (SH, mkM (si I 7 0 (0 : Int32)) J T) → Go none aM (Ev mt aM (d + 7)) mX11_check Q (31, [some (.ref 0), some (.int (nI n)), some (.int (-1 : Int32)), some (.int (nI (2 * j)))], [], (SH, mkM I J T), 0, 0) := by
  intro f
  induction f with
  | zero => intro j h1 h2; omega
  | succ f ih =>
    intro j hf hj hjn g
    have e2 : (2 : Int32) * nI n = nI (2 * n) := by rw [show (2 : Int32) = nI 2 from rfl, pk_mul]
    have ei : ∀ i, i < 100 → nI i / (2 : Int32) + (1 : Int32) = nI (i / 2 + 1) ∧ nI i - nI i / (2 : Int32) * (2 : Int32) = nI (i % 2) := fun i hi => by
      rw [show (2 : Int32) = nI 2 from rfl, pk_rem (by omega) (by omega) (by omega), pk_div (by omega) (by omega) (by omega), nI_1]
      exact ⟨rfl, rfl⟩
    unfold ckF at g
    refine chk_31 ?_
    rw [e2, hC.1]
    by_cases c : n ≤ j
    · refine br0 (nI_le (by omega) (by omega)) (br0 rfl ?_)
      by_cases c2 : lgN L ≤ n
      · refine br0 (nI_le c2 (by omega)) ?_
        rw [if_pos (by omega), if_pos (by omega)] at g
        exact g
      · refine br1 (nI_ge (by omega) (by omega)) ?_
        rw [if_neg (by omega), if_pos (by omega)] at g
        exact g
    · obtain ⟨a1, a2, a3, a4, a5⟩ := c_num (i := 2 * j) ht (by omega) h2
      obtain ⟨i1, i2⟩ := ei (2 * j) (by omega)
      refine br1 (nI_ge (by omega) (by omega)) (br0 rfl ?_)
      rw [i1, i2, a1, show 2 * j / 2 = j by omega, show 2 * j % 2 = 0 by omega]
      obtain ⟨b1, b2⟩ := c_beh (k := 0) (j := j) (x := nuI t.2 (2 * j)) hC h5 (by omega) (by omega)
      rw [hC.1] at b2
      refine ⟨a2, a3, a4, a5, b2, ?_⟩
      rw [b1]
      by_cases c2 : lgN L ≤ j
      · rw [if_neg (show ¬ j < lgN L by omega)]
        rw [if_pos c2, if_neg (by omega), show lgN L = j by omega] at g
        exact br0 rfl (chk_end (nIm1 (by omega)) g)
      · rw [if_pos (show j < lgN L by omega), if_pos rfl]
        rw [if_neg c2, if_neg (by omega)] at g
        by_cases c3 : nuI t.2 (2 * j) = dI (lgO L (j + 1))
        · rw [if_pos c3]
          rw [if_pos c3] at g
          refine br1 (by decide) (chk_31 ?_)
          rw [e2, hC.1, nI_1]
          obtain ⟨a1, a2, a3, a4, a5⟩ := c_num (i := 2 * j + 1) ht (by omega) h2
          obtain ⟨i1, i2⟩ := ei (2 * j + 1) (by omega)
          refine br1 (nI_ge (by omega) (by omega)) (br0 rfl ?_)
          rw [i1, i2, a1, show (2 * j + 1) / 2 = j by omega, show (2 * j + 1) % 2 = 1 by omega]
          obtain ⟨b1, b2⟩ := c_beh (k := 1) (j := j) (x := nuI t.2 (2 * j + 1)) hC h5 (by omega) (by omega)
          rw [hC.1] at b2
          refine ⟨a2, a3, a4, a5, b2, ?_⟩
          rw [b1, if_pos (show j < lgN L by omega), if_neg (show ¬ (1 : Nat) = 0 by decide)]
          by_cases c4 : nuI t.2 (2 * j + 1) = scI (lgS L (j + 1))
          · rw [if_pos c4]
            rw [if_pos c4] at g
            refine br1 (by decide) ?_
            rw [nI_1]
            exact ih (j + 1) (by omega) (by omega) (by omega) g
          · rw [if_neg c4]
            rw [if_neg c4] at g
            exact br0 rfl (chk_end (nIm1 (by omega)) g)
        · rw [if_neg c3]
          rw [if_neg c3] at g
          exact br0 rfl (chk_end (nIm1 (by omega)) g)
theorem all_by : allB (fun b => eqI ((nI b).toInt8.toInt32 &&& (255 : Int32)) (nI b)) 256 = true := by decide +kernel
def R90 (t : Nat × (Nat → Nat)) (I : Nat → Nat → Int32) : Prop := ∀ j, j < t.1 → t.2 j < 256 ∧ I 90 j = (nI (t.2 j)).toInt8.toInt32
theorem ev_tape {d i : Nat} {t : Nat × (Nat → Nat)} {I : Nat → Nat → Int32} {J : Nat → Nat → Int64} {T : Nat → Nat → Nat} {Q : Option Value → Mem → Prop} (h : R90 t I) (hi : 4 * i + 4 ≤ t.1) (ht : t.1 ≤ 220) (g : Q (some (.int (nuI t.2 i))) (SH, mkM I J T)) : Ev mt aM (d + 2) 284 [.ref 83, .int (nI i)] (SH, mkM I J T) Q := by
  have e : (4 : Int32) * nI i = nI (4 * i) := by rw [show (4 : Int32) = nI 4 from rfl, pk_mul]
  have stp : ∀ (m : Nat) (v : Int32), m < 4 → Go none aM (Ev mt aM (d + 1)) mX12_tapeNumber Q (6, [some (.ref 83), some (.int (nI i)), some (.int ((v <<< ((8 : Int32) &&& 31)) ||| nI (t.2 (4 * i + m)))), some (.int (nI (4 * i + m + 1)))], [], (SH, mkM I J T), 0, 0) → Go none aM (Ev mt aM (d + 1)) mX12_tapeNumber Q (6, [some (.ref 83), some (.int (nI i)), some (.int v), some (.int (nI (4 * i + m)))], [], (SH, mkM I J T), 0, 0) := fun m v hm k => by
    refine tpn_6 ?_
    have e4 : (4 : Int32) * nI i + (4 : Int32) = nI (4 * i + 4) := by rw [e]; exact nI_add _ 4
    rw [e4, nI_1, nI_clamp (by omega), (h _ (show 4 * i + m < t.1 by omega)).2, eqI_eq (allB_get all_by _ (h _ (show 4 * i + m < t.1 by omega)).1)]
    exact br1 (nI_ge (by omega) (by omega)) ⟨vp_in_nI (by omega) (by omega), k⟩
  refine Ev.intro mX12_tapeNumber rfl rfl (tpn_0 (d := d) ?_)
  rw [e]
  refine stp 0 _ (by omega) (stp 1 _ (by omega) (stp 2 _ (by omega) (stp 3 _ (by omega) (tpn_6 ?_))))
  have e4 : (4 : Int32) * nI i + (4 : Int32) = nI (4 * i + 4) := by rw [e]; exact nI_add _ 4
  rw [e4]
  exact br0 (nI_le (by omega) (by omega)) g
theorem mck_go {d n : Nat} {L : Lg} {t : Nat × (Nat → Nat)} {I : Nat → Nat → Int32} {J : Nat → Nat → Int64} {T : Nat → Nat → Nat} {Q : Option Value → Mem → Prop} (hC : ML L I) (h5 : lgN L ≤ 5) (ho : ∀ j, j ≤ lgN L → lgO L j < 2048) (ht : R90 t I) (h2 : t.1 ≤ 220) (hn : 8 * n ≤ t.1) : ∀ (f j : Nat), lgN L < f + j → j ≤ lgN L → j ≤ n → Q (some (.int (ckF L t.2 n f j))) (SH, mkM I J T) → Go none aM (Ev mt aM (d + 7)) mX12_check Q (25, [some (.ref 83), some (.int (nI n)), some (.int (nI j))], [], (SH, mkM I J T), 0, 0) := by
  intro f
  induction f with
  | zero => intro j h1 h2; omega
  | succ f ih =>
    intro j hf hj hjn g
    have e2 : ∀ k, (2 : Int32) * nI k = nI (2 * k) := fun k => by rw [show (2 : Int32) = nI 2 from rfl, pk_mul]
    unfold ckF at g
    refine mck_25 ?_
    rw [hC.1, e2, e2]
    by_cases c : lgN L ≤ j
    · rw [if_pos c] at g
      refine br0 (nI_le c (by omega)) ?_
      by_cases c2 : n ≤ lgN L
      · rw [if_pos c2] at g
        exact br0 (nI_le c2 (by omega)) g
      · rw [if_neg c2] at g
        exact br1 (nI_ge (by omega) (by omega)) g
    · rw [if_neg c] at g
      refine br1 (nI_ge (by omega) (by omega)) ?_
      by_cases c2 : j = n
      · rw [if_pos c2] at g
        rw [c2]
        exact br0 rfl g
      · rw [if_neg c2] at g
        refine br1 (fun q => c2 ((nI_eq (by omega) (by omega)).mp q)) (ev_tape (d := d + 5) ht (by omega) h2 (mck_45 ?_))
        have k2 := hC.2.1 (j + 1) (by omega) (by omega)
        rw [nI_1, nI_clamp (by omega), k2.1, (dig_all (ho _ (show j + 1 ≤ lgN L by omega))).2.2.2.2.2.2.2, e2, nI_1]
        refine ⟨vp_in_nI (by omega) (by omega), ?_⟩
        by_cases c3 : nuI t.2 (2 * j) = dI (lgO L (j + 1))
        · rw [if_pos c3] at g
          refine br0 c3 (ev_tape (d := d + 5) ht (by omega) h2 (mck_72 ?_))
          rw [nI_1, nI_clamp (by omega), k2.2, e2, nI_1]
          refine ⟨vp_in_nI (by omega) (by omega), ?_⟩
          by_cases c4 : nuI t.2 (2 * j + 1) = scI (lgS L (j + 1))
          · rw [if_pos c4] at g
            exact br0 c4 (ih (j + 1) (by omega) (by omega) (by omega) g)
          · rw [if_neg c4] at g
            exact br1 c4 g
        · rw [if_neg c3] at g
          exact br1 c3 g
theorem op_check {S : St} (hS : PUR S) (x : Int32) : OPR S 152 285 [.int x] := by
  have h5 := hS.1.1.2
  have hl := hS.2.1.1
  have ht := hS.2.2.2.1
  have no : (x < 0 ∨ (¬ x < 0 ∧ (27 : Int32) < x) ∨ ∃ n, n < 28 ∧ x = nI n ∧ ¬ 8 * n ≤ (zT S).1) → OPR S 152 285 [.int x] := fun hx => by
    refine OPR.look hS (.int (-2)) (fun d I J T Q h g => ?_) (fun d I J T Q h g => ?_)
    · refine Ev.intro mX11_check rfl rfl (chk_0 (d := d + 42) ?_)
      rcases hx with c | ⟨c, c2⟩ | ⟨n, hn, rfl, c⟩
      · exact br0 c g
      · exact br1 c (br0 c2 g)
      · refine br1 (nI_pos (by omega)) (br1 (nI_nlt (b := n) (a := 27) (by omega) (by omega)) (br1 ?_ g))
        rw [h.2.2.2.2.2.2.2.1.1, show (8 : Int32) = nI 8 from rfl, pk_mul]
        exact nI_ge (by omega) (by omega)
    · refine Ev.intro mX12_check rfl rfl (mck_0 (d := d + 42) ?_)
      have e8 : I 83 11 / (8 : Int32) = nI ((zT S).1 / 8) := by
        rw [h.2.2.2.2.1.1, show (8 : Int32) = nI 8 from rfl, pk_div (by omega) (by omega) (by omega)]
      rw [e8]
      rcases hx with c | ⟨c, c2⟩ | ⟨n, hn, rfl, c⟩
      · exact br0 c g
      · refine br1 c (br1 ?_ g)
        rw [Int32.lt_iff_toInt_lt, show (27 : Int32).toInt = 27 from rfl] at c2
        rw [Int32.le_iff_toInt_le, nI_toInt (by omega)]
        omega
      · exact br1 (nI_pos (by omega)) (br1 (nI_ge (by omega) (by omega)) g)
  rcases pk_ix x (n := 28) (by omega) with c | c | ⟨n, hn, rfl⟩
  · exact no (Or.inl c)
  · exact no (Or.inr (Or.inl ⟨i0 (n := 28) (by omega) c, iLe (n := 27) (by omega) c⟩))
  · by_cases c8 : 8 * n ≤ (zT S).1
    · refine ⟨.int (ckF (zL S) (zT S).2 n 6 0), (zA S, zX S, zL S, (0, (zT S).2), zF S), ⟨hS.1, hS.2.1, hS.2.2.1, Nat.zero_le _, fun j hj => absurd hj (Nat.not_lt_zero j), hS.2.2.2.2.2⟩, fun d I J T Q h g => ?_, fun d I J T Q h g => ?_⟩
      · obtain ⟨h1, h2, h3, h4, h5', h6, h7, h8, h9⟩ := h
        refine Ev.intro mX11_check rfl rfl (chk_0 (d := d + 42) (br1 (nI_pos (by omega)) (br1 (nI_nlt (b := n) (a := 27) (by omega) (by omega)) (br0 ?_ (chk_go h7 (by omega) h8 ht c8 6 0 (by omega) (by omega) (by omega) ?_)))))
        · rw [h8.1, show (8 : Int32) = nI 8 from rfl, pk_mul]
          exact nI_le (by omega) (by omega)
        · have f : Fr [7] I (si I 7 0 (0 : Int32)) := (Fr.rfl' _ _).to rfl
          refine g _ J T (f.sub rfl) (Fj.rfl' _ _) ⟨h1.fr rfl f, h2.fr rfl rfl f (Fj.rfl' [] _), h3.fr rfl (Fj.rfl' [] _), h4, h5'.fr rfl rfl f (Fj.rfl' [] _), ?_, h7.fr rfl f, ⟨si_at, fun j hj => absurd hj (Nat.not_lt_zero j)⟩, h9.fr rfl f⟩
          rw [si_row (by omega)]
          exact h6
      · obtain ⟨h1, h2, h3, h4, ht2, h6⟩ := h
        have f : Fr [83] I (si I 83 11 (0 : Int32)) := (Fr.rfl' _ _).to rfl
        have h4' : ML (zL S) (si I 83 11 (0 : Int32)) := by
          unfold ML
          rw [si_ne (by omega), f 113 rfl, f 114 rfl, f 115 rfl, f 116 rfl]
          exact h4
        refine Ev.intro mX12_check rfl rfl (mck_0 (d := d + 42) (br1 (nI_pos (by omega)) (br0 ?_ (mck_go (j := 0) (f := 6) (t := zT S) h4' (by omega) (fun j hj => (hS.2.1.2.2.2.1 j hj).1.1) (fun j hj => ⟨hS.2.2.2.2.1 j hj, ?_⟩) ht c8 (by omega) (by omega) (by omega) ?_))))
        · rw [ht2.1, show (8 : Int32) = nI 8 from rfl, pk_div (by omega) (by omega) (by omega)]
          exact nI_le (by omega) (by omega)
        · rw [si_row (by omega)]
          exact ht2.2 j hj
        · refine g _ J (f.sub rfl) (Fj.rfl' _ _) ⟨h1.fr83 rfl f (si_ne (by omega)) (si_ne (by omega)) (si_ne (by omega)), ?_, ?_, h4', ⟨si_at, fun j hj => absurd hj (Nat.not_lt_zero j)⟩, h6.fr rfl f⟩
          · unfold RN; rw [si_ne (by omega), si_ne (by omega), si_ne (by omega)]; exact h2
          · rw [si_ne (by omega)]; exact h3
    · exact no (Or.inr (Or.inr ⟨n, hn, rfl, c8⟩))
