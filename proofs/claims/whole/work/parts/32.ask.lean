/-! A TEXT IS ASKED: the first clause of a letter whose C holds. -/
def TYC (w : Nat → Nat) (a b e : Nat) : Prop := ∃ τ : Nat → Nat, τ a = 0 ∧ τ b = e ∧ ∀ j, a ≤ j → j < b → CK w τ b j
def WFP (p : Prg) : Prop := p.1 ≤ 14 ∧ ∀ j, j < p.1 → p.2.1 j < 128 ∧ p.2.2.1 j ≤ p.2.2.2.1 j ∧ p.2.2.2.1 j ≤ p.2.2.2.2.1 j ∧ p.2.2.2.2.1 j ≤ 200 ∧ TYC p.2.2.2.2.2 (p.2.2.1 j) (p.2.2.2.1 j) 1 ∧ TYC p.2.2.2.2.2 (p.2.2.2.1 j) (p.2.2.2.2.1 j) 50
def RT (I : Nat → Nat → Int32) (t : Nat) (p : Prg) : Prop := I t 0 = nI p.1 ∧ ∀ j, j < p.1 → I (t + 2) j = nI (p.2.1 j) ∧ I (t + 3) j = nI (p.2.2.1 j) ∧ I (t + 4) j = nI (p.2.2.2.1 j) ∧ I (t + 5) j = nI (p.2.2.2.2.1 j) ∧ ∀ i, i < p.2.2.2.2.1 j → I (t + 1) i = nI (p.2.2.2.2.2 i)
def RTM (I : Nat → Nat → Int32) (k : Nat) (p : Prg) : Prop := I 98 k = nI p.1 ∧ ∀ j, j < p.1 → I 99 (14 * k + j) = nI (p.2.1 j) ∧ I 100 (14 * k + j) = nI (220 * k + p.2.2.1 j) ∧ I 101 (14 * k + j) = nI (220 * k + p.2.2.2.1 j) ∧ I 102 (14 * k + j) = nI (220 * k + p.2.2.2.2.1 j) ∧ ∀ i, i < p.2.2.2.2.1 j → I 97 (220 * k + i) = nI (1048576 * (p.2.2.2.2.2 i % 16) + p.2.2.2.2.2 i / 16)
def askG (p : Prg) (hd : Nat) (F : Nat → Int32) : Nat → Nat → Int32
  | 0, _ => 0
  | m + 1, j => if p.2.1 j = hd ∧ evS p.2.2.2.2.2 F (p.2.2.2.1 j) (p.2.2.2.2.1 j) ≠ 0 then evS p.2.2.2.2.2 F (p.2.2.1 j) (p.2.2.2.1 j) else askG p hd F m (j + 1)
def askF (p : Prg) (hd : Nat) (F : Nat → Int32) : Int32 := askG p hd F p.1 0
def clF (lo hi v : Int32) : Int32 := if lo ≤ v then (if v ≤ hi then v else hi) else lo
theorem tx_rng {t : Nat} (ht : TX t) : 14 ≤ t ∧ t ≤ 63 := by
  rcases ht with rfl | rfl | rfl | rfl | rfl | rfl | rfl | rfl | rfl <;> omega
theorem tx_el {l : List Nat} {t k : Nat} (hl : l.all (fun o => decide (o < 14) || decide (69 ≤ o)) = true) (ht : TX t) (hk : k < 6) : l.elem (t + k) = false := by
  apply nel
  intro hm
  have h1 := List.all_eq_true.mp hl _ hm
  have h2 := tx_rng ht
  simp at h1
  omega
theorem RT.fr {l : List Nat} {t : Nat} {p : Prg} {I I' : Nat → Nat → Int32} (hl : ∀ k, k < 6 → l.elem (t + k) = false) (hf : Fr l I I') (h : RT I t p) : RT I' t p := by
  have e0 := hf _ (hl 0 (by omega))
  rw [Nat.add_zero] at e0
  unfold RT
  rw [e0, hf _ (hl 1 (by omega)), hf _ (hl 2 (by omega)), hf _ (hl 3 (by omega)), hf _ (hl 4 (by omega)), hf _ (hl 5 (by omega))]
  exact h
theorem RTM.fr {l : List Nat} {k : Nat} {p : Prg} {I I' : Nat → Nat → Int32} (hl : (l.elem 97 || l.elem 98 || l.elem 99 || l.elem 100 || l.elem 101 || l.elem 102) = false) (hf : Fr l I I') (h : RTM I k p) : RTM I' k p := by
  simp only [Bool.or_eq_false_iff] at hl
  obtain ⟨⟨⟨⟨⟨h1, h2⟩, h3⟩, h4⟩, h5⟩, h6⟩ := hl
  unfold RTM
  rw [hf _ h1, hf _ h2, hf _ h3, hf _ h4, hf _ h5, hf _ h6]
  exact h
theorem evF_bool {b a : Nat} {w : Nat → Nat} {F : Nat → Int32} {τ : Nat → Nat} (hck : ∀ j, a ≤ j → j < b → CK w τ b j) (hτ : τ b = 50) : ∀ (f k h : Nat) (s : Nat → Int32), b - k < f → a ≤ k → k ≤ b → h = hg (τ k) → (τ k = 50 → s 0 = 0 ∨ s 0 = 1) → evF w F b f k h s = 0 ∨ evF w F b f k h s = 1 := by
  intro f
  induction f with
  | zero => intro k h s hf; omega
  | succ f ih =>
    intro k h s hf hak hkb hh hbool
    by_cases hend : b ≤ k
    · have hk : k = b := by omega
      subst hk
      rw [show evF w F k (f + 1) k h s = s 0 from if_pos (Nat.le_refl k)]
      exact hbool hτ
    · have hlt : k < b := by omega
      obtain ⟨hwb, hcase⟩ := hck k hak hlt
      have E : evF w F b (f + 1) k h s = _ := if_neg hend
      rw [E]
      rcases hcase with ⟨hk, q1, q2⟩ | ⟨hk, q1, q2, q3⟩ | ⟨hk, q1, q2⟩ | ⟨hk, q1, q2, q3, q4, q5⟩ | ⟨hk, q1, q2, q3⟩ | ⟨hk, q1, q2⟩
      · have hh2 : h = τ k := by rw [hh]; exact if_neg (by omega)
        rw [if_pos hk]
        exact ih _ _ _ (by omega) (by omega) (by omega) (by rw [q2, ← hh2]; exact (if_neg (by omega)).symm) (fun q => by omega)
      · have hh2 : h = τ k := by rw [hh]; exact if_neg (by omega)
        rw [if_neg (by omega), if_pos hk]
        exact ih _ _ _ (by omega) (by omega) (by omega) (by rw [q2, ← hh2]; exact (if_neg (by omega)).symm) (fun q => by omega)
      · have hh2 : h = 1 := by rw [hh, q1]; rfl
        subst hh2
        rw [if_neg (by omega), if_neg (by omega), if_pos hk]
        refine ih _ _ _ (by omega) (by omega) (by omega) (by rw [q2]; rfl) (fun q => ?_)
        show us s 0 (1 - s 0) 0 = 0 ∨ us s 0 (1 - s 0) 0 = 1
        rw [us_at]
        rcases hbool q1 with e | e <;> rw [e]
        · exact Or.inr rfl
        · exact Or.inl rfl
      · have hh2 : h = 1 := by rw [hh, q1]; rfl
        subst hh2
        have j1 := ih (w k / 16) 1 s (by omega) (by omega) q4 (by rw [q5]; rfl) (fun _ => hbool q1)
        have j2 := ih (k + 1) 0 s (by omega) (by omega) (by omega) (by rw [q2]; rfl) (fun q => by omega)
        rcases hk with hk | hk
        · rw [if_neg (by omega), if_neg (by omega), if_neg (by omega), if_pos hk]
          split
          · exact j1
          · exact j2
        · rw [if_neg (by omega), if_neg (by omega), if_neg (by omega), if_neg (by omega), if_pos hk]
          split
          · exact j1
          · exact j2
      · have hh2 : h = τ k := by rw [hh]; exact if_neg (by omega)
        rw [if_neg (by omega), if_neg (by omega), if_neg (by omega), if_neg (by omega), if_neg (by omega)]
        split
        · exact Or.inl rfl
        · exact ih _ _ _ (by omega) (by omega) (by omega) (by rw [q3, ← hh2]; exact (if_neg (by omega)).symm) (fun q => by omega)
      · have hh2 : h = 2 := by rw [hh, q1]; rfl
        subst hh2
        rw [if_neg (by omega), if_neg (by omega), if_neg (by omega), if_neg (by omega), if_neg (by omega)]
        split
        · exact Or.inl rfl
        · refine ih _ _ _ (by omega) (by omega) (by omega) (by rw [q2]; rfl) (fun q => ?_)
          show us s 0 _ 0 = 0 ∨ us s 0 _ 0 = 1
          rw [us_at]
          exact opF_bool hk _ _
theorem evS_bool {w : Nat → Nat} {F : Nat → Int32} {a b : Nat} (hab : a ≤ b) (h : TYC w a b 50) : evS w F a b = 0 ∨ evS w F a b = 1 := by
  obtain ⟨τ, h0, h1, h2⟩ := h
  exact evF_bool h2 h1 _ _ _ _ (by omega) (Nat.le_refl a) hab (by rw [h0]; rfl) (fun q => by omega)
theorem ev_run {d t a b e : Nat} {w : Nat → Nat} {F : Nat → Int32} {I : Nat → Nat → Int32} {J : Nat → Nat → Int64} {T : Nat → Nat → Nat} {Q : Option Value → Mem → Prop} (ht : TX t) (hb : b ≤ 200) (hab : a ≤ b) (he : e = 1 ∨ e = 50) (hty : TYC w a b e) (hw : ∀ j, j < b → I (t + 1) j = nI (w j)) (hF : ∀ j, j < 16 → I 11 j = F j) (g : ∀ I', Fr [10, 12] I I' → Q (some (.int (evS w F a b))) (SH, mkM I' J T)) : Ev mt aM (d + 3) 51 [.ref 10, .ref t, .int (nI a), .int (nI b)] (SH, mkM I J T) Q := by
  obtain ⟨τ, h0, h1, h2⟩ := hty
  refine Ev.intro mX4_run rfl rfl (run_in ?_)
  have n10 : ¬ t + 1 = 10 := fun e => tx_ne ht 10 (Or.inl rfl) e (by omega)
  refine run_loop ht hb h2 (by rw [h1]; exact he) (b - a + 1) a 0 (fun _ => 0) _ (by omega) (Nat.le_refl a) hab (by rw [h0]; rfl) (fun q => by omega) (fun j hj => by omega) (by simp [si]; rfl) (by simp [si]) (fun j hj => ?_) (fun j hj => ?_) (fun I' hI' => g I' (hI'.drop rfl |>.drop rfl))
  · rw [si_row n10, si_row n10]
    exact hw j hj
  · rw [si_row (by omega), si_row (by omega)]
    exact hF j hj
theorem ev_comesTo {d k a b e : Nat} {w : Nat → Nat} {F : Nat → Int32} {I : Nat → Nat → Int32} {J : Nat → Nat → Int64} {T : Nat → Nat → Nat} {Q : Option Value → Mem → Prop} (hk : k < 8) (hb : b ≤ 200) (hab : a ≤ b) (he : e = 1 ∨ e = 50) (hty : TYC w a b e) (hw : ∀ j, j < b → I 97 (220 * k + j) = nI (1048576 * (w j % 16) + w j / 16)) (hF : ∀ j, j < 16 → I 104 j = F j) (g : ∀ I', Fr [103] I I' → Q (some (.int (evS w F a b))) (SH, mkM I' J T)) : Ev mt aM (d + 3) 209 [.ref 83, .int (nI (220 * k + a)), .int (nI (220 * k + b))] (SH, mkM I J T) Q := by
  obtain ⟨τ, h0, h1, h2⟩ := hty
  refine Ev.intro mX12_comesTo rfl rfl (com_in ?_)
  have e1 : (220 : Int32) * (nI (220 * k + a) / (220 : Int32)) = nI (220 * k) := by
    rw [show (220 : Int32) = nI 220 from rfl, pk_div (by omega) (by omega) (by omega), pk_mul]
    congr 1; omega
  rw [e1]
  exact com_loop (by omega) hb h2 (by rw [h1]; exact he) (b - a + 1) a 0 (fun _ => 0) _ (by omega) (Nat.le_refl a) hab (by rw [h0]; rfl) (fun q => by omega) (fun j hj => by omega) hw hF (fun I' hI' => g I' hI')
set_option maxRecDepth 20000 in
theorem ask_8 {d : Nat} {hd i : Int32} {t : Nat} {I : Nat → Nat → Int32} {J : Nat → Nat → Int64} {T : Nat → Nat → Nat} {Q : Option Value → Mem → Prop} (ht : TX t) (hyp : ((I t 0 ≤ i → Q (some (.int (0 : Int32))) (SH, mkM I J T)) ∧ ((¬ (I t 0 ≤ i)) → (vp_in i 14 ∧ ((v_X9_headOf_t t i I = hd → (vp_in i 14 ∧ (vp_in i 14 ∧ Ev mt aM (d + 3) 51 [.ref 10, .ref t, .int (v_X9_conditionOf_t t i I), .int (v_X9_endOf_t t i I)] (SH, mkM I J T) (fun r m1 => Go none aM (Ev mt aM (d + 3)) mX4_ask Q (40, [some (.ref 10), some (.ref t), some (.int hd), some (.int i)], r.toList ++ [], m1, 0, 0))))) ∧ ((¬ (v_X9_headOf_t t i I = hd)) → Go none aM (Ev mt aM (d + 3)) mX4_ask Q (8, [some (.ref 10), some (.ref t), some (.int hd), some (.int (i + 1))], [], (SH, mkM I J T), 0, 0))))))) : Go none aM (Ev mt aM (d + 3)) mX4_ask Q (8, [some (.ref 10), some (.ref t), some (.int hd), some (.int i)], [], (SH, mkM I J T), 0, 0) := by
  refine Go.of_run (Ev.mono _) 2 _ ?_
  show Go none aM (Ev mt aM (d + 3)) mX4_ask Q (10, [some (.ref 10), some (.ref t), some (.int hd), some (.int i)], [.ref t, .int i], (SH, mkM I J T), 0, 0)
  refine go_txI (Ev.mono _) ht rfl rfl ?_
  show Go none aM (Ev mt aM (d + 3)) mX4_ask Q (13, [some (.ref 10), some (.ref t), some (.int hd), some (.int i)], [.int (I t 0), .int i], (SH, mkM I J T), 0, 0)
  refine Go.of_run (Ev.mono _) 1 _ ?_
  show Go none aM (Ev mt aM (d + 3)) mX4_ask Q (if I t 0 ≤ i then 65 else 16, [some (.ref 10), some (.ref t), some (.int hd), some (.int i)], [], (SH, mkM I J T), 0, 0)
  rcases Decidable.em (I t 0 ≤ i) with c1 | c1
  · rw [if_pos c1]
    refine Go.of_run (Ev.mono _) 2 _ ?_
    refine ⟨trivial, ?_⟩
    show Q (some (.int (0 : Int32))) (SH, mkM I J T)
    exact (hyp.1 c1)
  · rw [if_neg c1]
    refine Go.of_run (Ev.mono _) 2 _ ?_
    show Go none aM (Ev mt aM (d + 3)) mX4_ask Q (18, [some (.ref 10), some (.ref t), some (.int hd), some (.int i)], [.int i, .ref t], (SH, mkM I J T), 0, 0)
    refine go_txV (Ev.mono _) ht rfl rfl rfl rfl (ev_X9_headOf_t ht (hyp.2 c1).1 ?_)
    show Go none aM (Ev mt aM (d + 3)) mX4_ask Q (21, [some (.ref 10), some (.ref t), some (.int hd), some (.int i)], [.int (v_X9_headOf_t t i I)], (SH, mkM I J T), 0, 0)
    refine Go.of_run (Ev.mono _) 2 _ ?_
    show Go none aM (Ev mt aM (d + 3)) mX4_ask Q (if v_X9_headOf_t t i I = hd then 25 else 59, [some (.ref 10), some (.ref t), some (.int hd), some (.int i)], [], (SH, mkM I J T), 0, 0)
    rcases Decidable.em (v_X9_headOf_t t i I = hd) with c2 | c2
    · rw [if_pos c2]
      refine Go.of_run (Ev.mono _) 4 _ ?_
      show Go none aM (Ev mt aM (d + 3)) mX4_ask Q (29, [some (.ref 10), some (.ref t), some (.int hd), some (.int i)], [.int i, .ref t, .ref t, .ref 10], (SH, mkM I J T), 0, 0)
      refine go_txV (Ev.mono _) ht rfl rfl rfl rfl (ev_X9_conditionOf_t ht ((hyp.2 c1).2.1 c2).1 ?_)
      show Go none aM (Ev mt aM (d + 3)) mX4_ask Q (32, [some (.ref 10), some (.ref t), some (.int hd), some (.int i)], [.int (v_X9_conditionOf_t t i I), .ref t, .ref 10], (SH, mkM I J T), 0, 0)
      refine Go.of_run (Ev.mono _) 2 _ ?_
      show Go none aM (Ev mt aM (d + 3)) mX4_ask Q (34, [some (.ref 10), some (.ref t), some (.int hd), some (.int i)], [.int i, .ref t, .int (v_X9_conditionOf_t t i I), .ref t, .ref 10], (SH, mkM I J T), 0, 0)
      refine go_txV (Ev.mono _) ht rfl rfl rfl rfl (ev_X9_endOf_t ht ((hyp.2 c1).2.1 c2).2.1 ?_)
      show Go none aM (Ev mt aM (d + 3)) mX4_ask Q (37, [some (.ref 10), some (.ref t), some (.int hd), some (.int i)], [.int (v_X9_endOf_t t i I), .int (v_X9_conditionOf_t t i I), .ref t, .ref 10], (SH, mkM I J T), 0, 0)
      refine Go.of_run (Ev.mono _) 1 _ ?_
      refine ⟨Nat.le_of_ble_eq_true rfl, ((hyp.2 c1).2.1 c2).2.2⟩
    · rw [if_neg c2]
      refine Go.of_run (Ev.mono _) 2 _ ?_
      exact ((hyp.2 c1).2.2 c2)
def v_X5_at_t3 (a0 : Nat) (a1 : Int32) (I : Nat → Nat → Int32) : Int32 := I (a0 + 3) a1.toNatClampNeg
set_option maxRecDepth 20000 in
theorem ev_X5_at_t3 {d : Nat} {a1 : Int32} {a0 : Nat} {I : Nat → Nat → Int32} {J : Nat → Nat → Int64} {T : Nat → Nat → Nat} {Q : Option Value → Mem → Prop} (h_a0 : TX a0) (h1 : vp_in a1 14) (h : Q (some (.int (v_X5_at_t3 a0 a1 I))) (SH, mkM I J T)) : Ev mt aM (d + 1) 55 [.ref (a0 + 3), .int a1] (SH, mkM I J T) Q := by
  refine Ev.intro mX5_at rfl rfl ?_
  show Go none aM (Ev mt aM d) mX5_at Q (0, [some (.ref (a0 + 3)), some (.int a1)], [], (SH, mkM I J T), 0, 0)
  refine Go.of_run (Ev.mono _) 2 _ ?_
  show Go none aM (Ev mt aM d) mX5_at Q (4, [some (.ref (a0 + 3)), some (.int a1)], [], (SH, mkM I J T), 0, 0)
  refine Go.of_run (Ev.mono _) 2 _ ?_
  show Go none aM (Ev mt aM d) mX5_at Q (if a1 < 0 then 20 else 8, [some (.ref (a0 + 3)), some (.int a1)], [], (SH, mkM I J T), 0, 0)
  rw [if_neg (vin_lo h1)]
  refine Go.of_run (Ev.mono _) 2 _ ?_
  show Go none aM (Ev mt aM d) mX5_at Q (10, [some (.ref (a0 + 3)), some (.int a1)], [.ref (a0 + 3), .int a1], (SH, mkM I J T), 0, 0)
  refine go_txN (k := 2) (Ev.mono _) h_a0 rfl rfl ?_
  show Go none aM (Ev mt aM d) mX5_at Q (11, [some (.ref (a0 + 3)), some (.int a1)], [.int (14 : Int32), .int a1], (SH, mkM I J T), 0, 0)
  refine Go.of_run (Ev.mono _) 1 _ ?_
  show Go none aM (Ev mt aM d) mX5_at Q (if (14 : Int32) ≤ a1 then 20 else 14, [some (.ref (a0 + 3)), some (.int a1)], [], (SH, mkM I J T), 0, 0)
  rw [if_neg (vin_hi h1 rfl)]
  refine Go.of_run (Ev.mono _) 2 _ ?_
  show Go none aM (Ev mt aM d) mX5_at Q (16, [some (.ref (a0 + 3)), some (.int a1)], [.int a1, .ref (a0 + 3)], (SH, mkM I J T), 0, 0)
  refine go_txL (k := 2) (Ev.mono _) h_a0 rfl h1 rfl ?_
  show Go none aM (Ev mt aM d) mX5_at Q (17, [some (.ref (a0 + 3)), some (.int a1)], [.int (I (a0 + 3) a1.toNatClampNeg)], (SH, mkM I J T), 0, 0)
  refine Go.of_run (Ev.mono _) 2 _ ?_
  refine ⟨trivial, ?_⟩
  show Q (some (.int (I (a0 + 3) a1.toNatClampNeg))) (SH, mkM I J T)
  exact h
def v_X9_sumOf_t (a0 : Nat) (a1 : Int32) (I : Nat → Nat → Int32) : Int32 := v_X5_at_t3 a0 a1 I
set_option maxRecDepth 20000 in
theorem ev_X9_sumOf_t {d : Nat} {a1 : Int32} {a0 : Nat} {I : Nat → Nat → Int32} {J : Nat → Nat → Int64} {T : Nat → Nat → Nat} {Q : Option Value → Mem → Prop} (h_a0 : TX a0) (hp : vp_in a1 14) (h : Q (some (.int (v_X9_sumOf_t a0 a1 I))) (SH, mkM I J T)) : Ev mt aM (d + 2) 112 [.ref a0, .int a1] (SH, mkM I J T) Q := by
  refine Ev.intro mX9_sumOf rfl rfl ?_
  show Go none aM (Ev mt aM (d + 1)) mX9_sumOf Q (0, [some (.ref a0), some (.int a1)], [], (SH, mkM I J T), 0, 0)
  refine Go.of_run (Ev.mono _) 1 _ ?_
  show Go none aM (Ev mt aM (d + 1)) mX9_sumOf Q (1, [some (.ref a0), some (.int a1)], [.ref a0], (SH, mkM I J T), 0, 0)
  refine go_txR (k := 2) (Ev.mono _) h_a0 rfl rfl ?_
  show Go none aM (Ev mt aM (d + 1)) mX9_sumOf Q (4, [some (.ref a0), some (.int a1)], [.ref (a0 + 3)], (SH, mkM I J T), 0, 0)
  refine Go.of_run (Ev.mono _) 2 _ ?_
  refine ⟨Nat.le_of_ble_eq_true rfl, ev_X5_at_t3 h_a0 hp ?_⟩
  show Go none aM (Ev mt aM (d + 1)) mX9_sumOf Q (8, [some (.ref a0), some (.int a1)], [.int (v_X5_at_t3 a0 a1 I)], (SH, mkM I J T), 0, 0)
  refine Go.of_run (Ev.mono _) 1 _ ?_
  refine ⟨trivial, ?_⟩
  show Q (some (.int (v_X5_at_t3 a0 a1 I))) (SH, mkM I J T)
  exact h
set_option maxRecDepth 20000 in
theorem ask_40 {d : Nat} {hd i v : Int32} {t : Nat} {I : Nat → Nat → Int32} {J : Nat → Nat → Int64} {T : Nat → Nat → Nat} {Q : Option Value → Mem → Prop} (ht : TX t) (hyp : ((v = 0 → Go none aM (Ev mt aM (d + 3)) mX4_ask Q (8, [some (.ref 10), some (.ref t), some (.int hd), some (.int (i + 1))], [], (SH, mkM I J T), 0, 0)) ∧ ((¬ (v = 0)) → (vp_in i 14 ∧ (vp_in i 14 ∧ Ev mt aM (d + 3) 51 [.ref 10, .ref t, .int (v_X9_sumOf_t t i I), .int (v_X9_conditionOf_t t i I)] (SH, mkM I J T) (fun r m1 => Go none aM (Ev mt aM (d + 3)) mX4_ask Q (58, [some (.ref 10), some (.ref t), some (.int hd), some (.int i)], r.toList ++ [], m1, 0, 0))))))) : Go none aM (Ev mt aM (d + 3)) mX4_ask Q (40, [some (.ref 10), some (.ref t), some (.int hd), some (.int i)], [.int v], (SH, mkM I J T), 0, 0) := by
  refine Go.of_run (Ev.mono _) 1 _ ?_
  show Go none aM (Ev mt aM (d + 3)) mX4_ask Q (if v = 0 then 59 else 43, [some (.ref 10), some (.ref t), some (.int hd), some (.int i)], [], (SH, mkM I J T), 0, 0)
  rcases Decidable.em (v = 0) with c1 | c1
  · rw [if_pos c1]
    refine Go.of_run (Ev.mono _) 2 _ ?_
    exact (hyp.1 c1)
  · rw [if_neg c1]
    refine Go.of_run (Ev.mono _) 4 _ ?_
    show Go none aM (Ev mt aM (d + 3)) mX4_ask Q (47, [some (.ref 10), some (.ref t), some (.int hd), some (.int i)], [.int i, .ref t, .ref t, .ref 10], (SH, mkM I J T), 0, 0)
    refine go_txV (Ev.mono _) ht rfl rfl rfl rfl (ev_X9_sumOf_t ht (hyp.2 c1).1 ?_)
    show Go none aM (Ev mt aM (d + 3)) mX4_ask Q (50, [some (.ref 10), some (.ref t), some (.int hd), some (.int i)], [.int (v_X9_sumOf_t t i I), .ref t, .ref 10], (SH, mkM I J T), 0, 0)
    refine Go.of_run (Ev.mono _) 2 _ ?_
    show Go none aM (Ev mt aM (d + 3)) mX4_ask Q (52, [some (.ref 10), some (.ref t), some (.int hd), some (.int i)], [.int i, .ref t, .int (v_X9_sumOf_t t i I), .ref t, .ref 10], (SH, mkM I J T), 0, 0)
    refine go_txV (Ev.mono _) ht rfl rfl rfl rfl (ev_X9_conditionOf_t ht (hyp.2 c1).2.1 ?_)
    show Go none aM (Ev mt aM (d + 3)) mX4_ask Q (55, [some (.ref 10), some (.ref t), some (.int hd), some (.int i)], [.int (v_X9_conditionOf_t t i I), .int (v_X9_sumOf_t t i I), .ref t, .ref 10], (SH, mkM I J T), 0, 0)
    refine Go.of_run (Ev.mono _) 1 _ ?_
    refine ⟨Nat.le_of_ble_eq_true rfl, (hyp.2 c1).2.2⟩
set_option maxRecDepth 20000 in
theorem ask_0 {d : Nat} {hd : Int32} {t : Nat} {I : Nat → Nat → Int32} {J : Nat → Nat → Int64} {T : Nat → Nat → Nat} {Q : Option Value → Mem → Prop} (ht : TX t) (hyp : Go none aM (Ev mt aM (d + 3)) mX4_ask Q (8, [some (.ref 10), some (.ref t), some (.int hd), some (.int (0 : Int32))], [], (SH, mkM I J T), 0, 0)) : Go none aM (Ev mt aM (d + 3)) mX4_ask Q (0, [some (.ref 10), some (.ref t), some (.int hd), none], [], (SH, mkM I J T), 0, 0) := by
  refine Go.of_run (Ev.mono _) 2 _ ?_
  show Go none aM (Ev mt aM (d + 3)) mX4_ask Q (6, [some (.ref 10), some (.ref t), some (.int hd), none], [], (SH, mkM I J T), 0, 0)
  refine Go.of_run (Ev.mono _) 2 _ ?_
  exact hyp
set_option maxRecDepth 20000 in
theorem ask_58 {d : Nat} {hd i v : Int32} {t : Nat} {I : Nat → Nat → Int32} {J : Nat → Nat → Int64} {T : Nat → Nat → Nat} {Q : Option Value → Mem → Prop} (hyp : Q (some (.int v)) (SH, mkM I J T)) : Go none aM (Ev mt aM (d + 3)) mX4_ask Q (58, [some (.ref 10), some (.ref t), some (.int hd), some (.int i)], [.int v], (SH, mkM I J T), 0, 0) := by
  refine Go.of_run (Ev.mono _) 1 _ ?_
  refine ⟨trivial, ?_⟩
  show Q (some (.int v)) (SH, mkM I J T)
  exact hyp
set_option maxRecDepth 20000 in
theorem byt_0 {d : Nat} {x hd lo hi no : Int32} {I : Nat → Nat → Int32} {J : Nat → Nat → Int64} {T : Nat → Nat → Nat} {Q : Option Value → Mem → Prop} (hyp : Go none aM (Ev mt aM (d + 3)) mX12_byText Q (6, [some (.ref 83), some (.int x), some (.int hd), some (.int lo), some (.int hi), some (.int no), some (.int ((14 : Int32) * x)), none], [], (SH, mkM I J T), 0, 0)) : Go none aM (Ev mt aM (d + 3)) mX12_byText Q (0, [some (.ref 83), some (.int x), some (.int hd), some (.int lo), some (.int hi), some (.int no), none, none], [], (SH, mkM I J T), 0, 0) := by
  refine Go.of_run (Ev.mono _) 4 _ ?_
  exact hyp
set_option maxRecDepth 20000 in
theorem byt_6 {d : Nat} {x hd lo hi no q : Int32} {I : Nat → Nat → Int32} {J : Nat → Nat → Int64} {T : Nat → Nat → Nat} {Q : Option Value → Mem → Prop} (hyp : (vp_in x 8 ∧ ((((14 : Int32) * x) + (I 98 x.toNatClampNeg) ≤ q → Q (some (.int no)) (SH, mkM I J T)) ∧ ((¬ (((14 : Int32) * x) + (I 98 x.toNatClampNeg) ≤ q)) → (vp_in q 112 ∧ ((I 99 q.toNatClampNeg = hd → (vp_in q 112 ∧ (vp_in q 112 ∧ Ev mt aM (d + 3) 209 [.ref 83, .int (I 101 q.toNatClampNeg), .int (I 102 q.toNatClampNeg)] (SH, mkM I J T) (fun r m1 => Go none aM (Ev mt aM (d + 3)) mX12_byText Q (51, [some (.ref 83), some (.int x), some (.int hd), some (.int lo), some (.int hi), some (.int no), some (.int q), none], r.toList ++ [], m1, 0, 0))))) ∧ ((¬ (I 99 q.toNatClampNeg = hd)) → Go none aM (Ev mt aM (d + 3)) mX12_byText Q (6, [some (.ref 83), some (.int x), some (.int hd), some (.int lo), some (.int hi), some (.int no), some (.int (q + 1)), none], [], (SH, mkM I J T), 0, 0)))))))) : Go none aM (Ev mt aM (d + 3)) mX12_byText Q (6, [some (.ref 83), some (.int x), some (.int hd), some (.int lo), some (.int hi), some (.int no), some (.int q), none], [], (SH, mkM I J T), 0, 0) := by
  refine Go.of_run (Ev.mono _) 8 _ ?_
  refine ⟨hyp.1, ?_⟩
  show Go none aM (Ev mt aM (d + 3)) mX12_byText Q (18, [some (.ref 83), some (.int x), some (.int hd), some (.int lo), some (.int hi), some (.int no), some (.int q), none], [.int (I 98 x.toNatClampNeg), .int ((14 : Int32) * x), .int q], (SH, mkM I J T), 0, 0)
  refine Go.of_run (Ev.mono _) 2 _ ?_
  show Go none aM (Ev mt aM (d + 3)) mX12_byText Q (if ((14 : Int32) * x) + (I 98 x.toNatClampNeg) ≤ q then 109 else 22, [some (.ref 83), some (.int x), some (.int hd), some (.int lo), some (.int hi), some (.int no), some (.int q), none], [], (SH, mkM I J T), 0, 0)
  rcases Decidable.em (((14 : Int32) * x) + (I 98 x.toNatClampNeg) ≤ q) with c1 | c1
  · rw [if_pos c1]
    refine Go.of_run (Ev.mono _) 2 _ ?_
    refine ⟨trivial, ?_⟩
    show Q (some (.int no)) (SH, mkM I J T)
    exact (hyp.2.1 c1)
  · rw [if_neg c1]
    refine Go.of_run (Ev.mono _) 4 _ ?_
    refine ⟨(hyp.2.2 c1).1, ?_⟩
    show Go none aM (Ev mt aM (d + 3)) mX12_byText Q (29, [some (.ref 83), some (.int x), some (.int hd), some (.int lo), some (.int hi), some (.int no), some (.int q), none], [.int (I 99 q.toNatClampNeg)], (SH, mkM I J T), 0, 0)
    refine Go.of_run (Ev.mono _) 2 _ ?_
    show Go none aM (Ev mt aM (d + 3)) mX12_byText Q (if I 99 q.toNatClampNeg = hd then 33 else 103, [some (.ref 83), some (.int x), some (.int hd), some (.int lo), some (.int hi), some (.int no), some (.int q), none], [], (SH, mkM I J T), 0, 0)
    rcases Decidable.em (I 99 q.toNatClampNeg = hd) with c2 | c2
    · rw [if_pos c2]
      refine Go.of_run (Ev.mono _) 5 _ ?_
      refine ⟨((hyp.2.2 c1).2.1 c2).1, ?_⟩
      show Go none aM (Ev mt aM (d + 3)) mX12_byText Q (41, [some (.ref 83), some (.int x), some (.int hd), some (.int lo), some (.int hi), some (.int no), some (.int q), none], [.int (I 101 q.toNatClampNeg), .ref 83], (SH, mkM I J T), 0, 0)
      refine Go.of_run (Ev.mono _) 4 _ ?_
      refine ⟨((hyp.2.2 c1).2.1 c2).2.1, ?_⟩
      show Go none aM (Ev mt aM (d + 3)) mX12_byText Q (48, [some (.ref 83), some (.int x), some (.int hd), some (.int lo), some (.int hi), some (.int no), some (.int q), none], [.int (I 102 q.toNatClampNeg), .int (I 101 q.toNatClampNeg), .ref 83], (SH, mkM I J T), 0, 0)
      refine Go.of_run (Ev.mono _) 1 _ ?_
      refine ⟨Nat.le_of_ble_eq_true rfl, ((hyp.2.2 c1).2.1 c2).2.2⟩
    · rw [if_neg c2]
      refine Go.of_run (Ev.mono _) 2 _ ?_
      exact ((hyp.2.2 c1).2.2 c2)
set_option maxRecDepth 20000 in
theorem byt_51 {d : Nat} {x hd lo hi no q v : Int32} {I : Nat → Nat → Int32} {J : Nat → Nat → Int64} {T : Nat → Nat → Nat} {Q : Option Value → Mem → Prop} (hyp : ((v = (1 : Int32) → (vp_in q 112 ∧ (vp_in q 112 ∧ Ev mt aM (d + 3) 209 [.ref 83, .int (I 100 q.toNatClampNeg), .int (I 101 q.toNatClampNeg)] (SH, mkM I J T) (fun r m1 => Go none aM (Ev mt aM (d + 3)) mX12_byText Q (76, [some (.ref 83), some (.int x), some (.int hd), some (.int lo), some (.int hi), some (.int no), some (.int q), none], r.toList ++ [], m1, 0, 0))))) ∧ ((¬ (v = (1 : Int32))) → Go none aM (Ev mt aM (d + 3)) mX12_byText Q (6, [some (.ref 83), some (.int x), some (.int hd), some (.int lo), some (.int hi), some (.int no), some (.int (q + 1)), none], [], (SH, mkM I J T), 0, 0)))) : Go none aM (Ev mt aM (d + 3)) mX12_byText Q (51, [some (.ref 83), some (.int x), some (.int hd), some (.int lo), some (.int hi), some (.int no), some (.int q), none], [.int v], (SH, mkM I J T), 0, 0) := by
  refine Go.of_run (Ev.mono _) 2 _ ?_
  show Go none aM (Ev mt aM (d + 3)) mX12_byText Q (if v = (1 : Int32) then 58 else 55, [some (.ref 83), some (.int x), some (.int hd), some (.int lo), some (.int hi), some (.int no), some (.int q), none], [], (SH, mkM I J T), 0, 0)
  rcases Decidable.em (v = (1 : Int32)) with c1 | c1
  · rw [if_pos c1]
    refine Go.of_run (Ev.mono _) 5 _ ?_
    refine ⟨(hyp.1 c1).1, ?_⟩
    show Go none aM (Ev mt aM (d + 3)) mX12_byText Q (66, [some (.ref 83), some (.int x), some (.int hd), some (.int lo), some (.int hi), some (.int no), some (.int q), none], [.int (I 100 q.toNatClampNeg), .ref 83], (SH, mkM I J T), 0, 0)
    refine Go.of_run (Ev.mono _) 4 _ ?_
    refine ⟨(hyp.1 c1).2.1, ?_⟩
    show Go none aM (Ev mt aM (d + 3)) mX12_byText Q (73, [some (.ref 83), some (.int x), some (.int hd), some (.int lo), some (.int hi), some (.int no), some (.int q), none], [.int (I 101 q.toNatClampNeg), .int (I 100 q.toNatClampNeg), .ref 83], (SH, mkM I J T), 0, 0)
    refine Go.of_run (Ev.mono _) 1 _ ?_
    refine ⟨Nat.le_of_ble_eq_true rfl, (hyp.1 c1).2.2⟩
  · rw [if_neg c1]
    refine Go.of_run (Ev.mono _) 3 _ ?_
    exact (hyp.2 c1)
def w1_byt_76 (lo : Int32) (hi : Int32) (v : Int32) : Int32 := if lo ≤ v then (if v ≤ hi then v else hi) else lo
set_option maxRecDepth 20000 in
theorem byt_76 {d : Nat} {x hd lo hi no q v : Int32} {I : Nat → Nat → Int32} {J : Nat → Nat → Int64} {T : Nat → Nat → Nat} {Q : Option Value → Mem → Prop} (hyp : Q (some (.int (w1_byt_76 lo hi v))) (SH, mkM I J T)) : Go none aM (Ev mt aM (d + 3)) mX12_byText Q (76, [some (.ref 83), some (.int x), some (.int hd), some (.int lo), some (.int hi), some (.int no), some (.int q), none], [.int v], (SH, mkM I J T), 0, 0) := by
  refine Go.of_run (Ev.mono _) 4 _ ?_
  show Go none aM (Ev mt aM (d + 3)) mX12_byText Q (if lo ≤ v then 88 else 84, [some (.ref 83), some (.int x), some (.int hd), some (.int lo), some (.int hi), some (.int no), some (.int q), some (.int v)], [], (SH, mkM I J T), 0, 0)
  have G2 : Go none aM (Ev mt aM (d + 3)) mX12_byText Q (102, [none, none, none, none, none, none, none, none], [.int (w1_byt_76 lo hi v)], (SH, mkM I J T), 0, 0) := by
    refine Go.of_run (Ev.mono _) 1 _ ?_
    refine ⟨trivial, ?_⟩
    show Q (some (.int (w1_byt_76 lo hi v))) (SH, mkM I J T)
    exact hyp
  rcases Decidable.em (lo ≤ v) with c1 | c1
  · rw [if_pos c1]
    refine Go.of_run (Ev.mono _) 3 _ ?_
    show Go none aM (Ev mt aM (d + 3)) mX12_byText Q (if v ≤ hi then 100 else 95, [some (.ref 83), some (.int x), some (.int hd), some (.int lo), some (.int hi), some (.int no), some (.int q), some (.int v)], [], (SH, mkM I J T), 0, 0)
    have G4 : Go none aM (Ev mt aM (d + 3)) mX12_byText Q (102, [none, none, none, none, none, none, none, none], [.int (if v ≤ hi then v else hi)], (SH, mkM I J T), 0, 0) := by
      have e5 : (w1_byt_76 lo hi v) = if v ≤ hi then v else hi := if_pos c1
      rw [e5] at G2
      exact G2
    rcases Decidable.em (v ≤ hi) with c3 | c3
    · rw [if_pos c3]
      refine Go.of_run (Ev.mono _) 1 _ ?_
      have e6 : (if v ≤ hi then v else hi) = v := if_pos c3
      rw [e6] at G4
      exact Go.weak (Ev.mono _) (LLe.drop (LLe.drop (LLe.drop (LLe.drop (LLe.drop (LLe.drop (LLe.drop (LLe.drop LLe.nil)))))))) G4
    · rw [if_neg c3]
      refine Go.of_run (Ev.mono _) 2 _ ?_
      have e7 : (if v ≤ hi then v else hi) = hi := if_neg c3
      rw [e7] at G4
      exact Go.weak (Ev.mono _) (LLe.drop (LLe.drop (LLe.drop (LLe.drop (LLe.drop (LLe.drop (LLe.drop (LLe.drop LLe.nil)))))))) G4
  · rw [if_neg c1]
    refine Go.of_run (Ev.mono _) 2 _ ?_
    have e8 : (w1_byt_76 lo hi v) = lo := if_neg c1
    rw [e8] at G2
    exact Go.weak (Ev.mono _) (LLe.drop (LLe.drop (LLe.drop (LLe.drop (LLe.drop (LLe.drop (LLe.drop (LLe.drop LLe.nil)))))))) G2
theorem ask_loop {d t hd : Nat} {p : Prg} {F : Nat → Int32} {J : Nat → Nat → Int64} {T : Nat → Nat → Nat} {Q : Option Value → Mem → Prop} (ht : TX t) (hp : WFP p) (hh : hd < 128) : ∀ (m j : Nat) (I : Nat → Nat → Int32), m + j = p.1 → RT I t p → (∀ j, j < 16 → I 11 j = F j) → (∀ I', Fr [10, 12] I I' → Q (some (.int (askG p hd F m j))) (SH, mkM I' J T)) → Go none aM (Ev mt aM (d + 3)) mX4_ask Q (8, [some (.ref 10), some (.ref t), some (.int (nI hd)), some (.int (nI j))], [], (SH, mkM I J T), 0, 0) := by
  intro m
  induction m with
  | zero =>
    intro j I hm hR hF hQ
    refine ask_8 ht ⟨fun _ => hQ I (Fr.rfl' _ _), fun c => ?_⟩
    refine absurd (?_ : I t 0 ≤ nI j) c
    rw [hR.1, show j = p.1 by omega]
    exact nI_le (Nat.le_refl _) (by have := hp.1; omega)
  | succ m ih =>
    intro j I hm hR hF hQ
    have hn := hp.1
    have hj : j < p.1 := by omega
    obtain ⟨r1, r2, r3, r4, r5⟩ := hR.2 j hj
    obtain ⟨w1, w2, w3, w4, w5, w6⟩ := hp.2 j hj
    have cj : (nI j).toNatClampNeg = j := nI_clamp (by omega)
    have vj : vp_in (nI j) 14 := vp_in_nI (by omega) (by omega)
    have eH : v_X9_headOf_t t (nI j) I = nI (p.2.1 j) := by show I (t + 2) (nI j).toNatClampNeg = _; rw [cj]; exact r1
    have next : ∀ I' : Nat → Nat → Int32, Fr [10, 12] I I' → askG p hd F (m + 1) j = askG p hd F m (j + 1) → Go none aM (Ev mt aM (d + 3)) mX4_ask Q (8, [some (.ref 10), some (.ref t), some (.int (nI hd)), some (.int (nI j + 1))], [], (SH, mkM I' J T), 0, 0) := by
      intro I' hf e
      rw [nI_1]
      refine ih (j + 1) I' (by omega) (hR.fr (fun k hk => tx_el rfl ht hk) hf) (fun i hi => by rw [hf 11 rfl]; exact hF i hi) (fun I2 h2 => ?_)
      rw [← e]
      exact hQ I2 (hf.trans h2)
    refine ask_8 ht ⟨fun c => absurd c ?_, fun _ => ⟨vj, fun c => ⟨vj, vj, ?_⟩, fun c => ?_⟩⟩
    · rw [hR.1]
      exact nI_ge hj (by omega)
    · rw [eH] at c
      have c := (nI_eq (by omega) (by omega)).mp c
      rw [show v_X9_conditionOf_t t (nI j) I = nI (p.2.2.2.1 j) by show I (t + 4) (nI j).toNatClampNeg = _; rw [cj]; exact r3, show v_X9_endOf_t t (nI j) I = nI (p.2.2.2.2.1 j) by show I (t + 5) (nI j).toNatClampNeg = _; rw [cj]; exact r4]
      refine ev_run (F := F) ht w4 w3 (Or.inr rfl) w6 r5 hF (fun I1 f1 => ?_)
      refine ask_40 ht ⟨fun z => next I1 f1 ?_, fun z => ⟨vj, vj, ?_⟩⟩
      · exact if_neg (fun q => q.2 z)
      · have eA : askG p hd F (m + 1) j = evS p.2.2.2.2.2 F (p.2.2.1 j) (p.2.2.2.1 j) := if_pos ⟨c, z⟩
        rw [show v_X9_sumOf_t t (nI j) I1 = nI (p.2.2.1 j) by show I1 (t + 3) (nI j).toNatClampNeg = _; rw [cj, f1 _ (tx_el rfl ht (by omega))]; exact r2, show v_X9_conditionOf_t t (nI j) I1 = nI (p.2.2.2.1 j) by show I1 (t + 4) (nI j).toNatClampNeg = _; rw [cj, f1 _ (tx_el rfl ht (by omega))]; exact r3]
        refine ev_run (F := F) ht (by omega) w2 (Or.inl rfl) w5 (fun i hi => by rw [f1 _ (tx_el rfl ht (by omega))]; exact r5 i (by omega)) (fun i hi => by rw [f1 11 rfl]; exact hF i hi) (fun I2 f2 => ?_)
        refine ask_58 ?_
        rw [← eA]
        exact hQ I2 (f1.trans f2)
    · rw [eH] at c
      exact next I (Fr.rfl' _ _) (if_neg (fun q => c (by rw [q.1])))
theorem ev_ask {d t hd : Nat} {p : Prg} {F : Nat → Int32} {I : Nat → Nat → Int32} {J : Nat → Nat → Int64} {T : Nat → Nat → Nat} {Q : Option Value → Mem → Prop} (ht : TX t) (hp : WFP p) (hh : hd < 128) (hR : RT I t p) (hF : ∀ j, j < 16 → I 11 j = F j) (g : ∀ I', Fr [10, 12] I I' → Q (some (.int (askF p hd F))) (SH, mkM I' J T)) : Ev mt aM (d + 4) 50 [.ref 10, .ref t, .int (nI hd)] (SH, mkM I J T) Q := by
  refine Ev.intro mX4_ask rfl rfl (ask_0 ht ?_)
  exact ask_loop ht hp hh p.1 0 I rfl hR hF g
theorem byt_loop {d k hd : Nat} {lo hi : Int32} {p : Prg} {F : Nat → Int32} {J : Nat → Nat → Int64} {T : Nat → Nat → Nat} {Q : Option Value → Mem → Prop} (hk : k < 8) (hp : WFP p) (hh : hd < 128) (h0 : clF lo hi 0 = 0) : ∀ (m j : Nat) (I : Nat → Nat → Int32), m + j = p.1 → RTM I k p → (∀ j, j < 16 → I 104 j = F j) → (∀ I', Fr [103] I I' → Q (some (.int (clF lo hi (askG p hd F m j)))) (SH, mkM I' J T)) → Go none aM (Ev mt aM (d + 3)) mX12_byText Q (6, [some (.ref 83), some (.int (nI k)), some (.int (nI hd)), some (.int lo), some (.int hi), some (.int 0), some (.int (nI (14 * k + j))), none], [], (SH, mkM I J T), 0, 0) := by
  have ck : (nI k).toNatClampNeg = k := nI_clamp (by omega)
  have e14 : (14 : Int32) * nI k = nI (14 * k) := pk_mul 14 k
  intro m
  induction m with
  | zero =>
    intro j I hm hR hF hQ
    have q := hQ I (Fr.rfl' _ _)
    rw [show askG p hd F 0 j = 0 from rfl, h0] at q
    refine byt_6 ⟨vp_in_nI hk (by omega), fun _ => q, fun c => ?_⟩
    refine absurd (?_ : (14 : Int32) * nI k + I 98 (nI k).toNatClampNeg ≤ nI (14 * k + j)) c
    rw [ck, hR.1, e14, nI_add, show j = p.1 by omega]
    exact nI_le (Nat.le_refl _) (by have := hp.1; omega)
  | succ m ih =>
    intro j I hm hR hF hQ
    have hn := hp.1
    have hj : j < p.1 := by omega
    obtain ⟨r1, r2, r3, r4, r5⟩ := hR.2 j hj
    obtain ⟨w1, w2, w3, w4, w5, w6⟩ := hp.2 j hj
    have cj : (nI (14 * k + j)).toNatClampNeg = 14 * k + j := nI_clamp (by omega)
    have vj : vp_in (nI (14 * k + j)) 112 := vp_in_nI (by omega) (by omega)
    have next : ∀ I' : Nat → Nat → Int32, Fr [103] I I' → askG p hd F (m + 1) j = askG p hd F m (j + 1) → Go none aM (Ev mt aM (d + 3)) mX12_byText Q (6, [some (.ref 83), some (.int (nI k)), some (.int (nI hd)), some (.int lo), some (.int hi), some (.int 0), some (.int (nI (14 * k + j) + 1)), none], [], (SH, mkM I' J T), 0, 0) := by
      intro I' hf e
      rw [nI_1, Nat.add_assoc]
      refine ih (j + 1) I' (by omega) (hR.fr rfl hf) (fun i hi => by rw [hf 104 rfl]; exact hF i hi) (fun I2 h2 => ?_)
      rw [← e]
      exact hQ I2 (hf.trans h2)
    refine byt_6 ⟨vp_in_nI hk (by omega), fun c => absurd c ?_, fun _ => ⟨vj, fun c => ⟨vj, vj, ?_⟩, fun c => ?_⟩⟩
    · rw [ck, hR.1, e14, nI_add]
      exact nI_ge (by omega) (by omega)
    · rw [cj, r1] at c
      have c := (nI_eq (by omega) (by omega)).mp c
      rw [cj, r3, r4]
      refine ev_comesTo (F := F) hk w4 w3 (Or.inr rfl) w6 r5 hF (fun I1 f1 => ?_)
      have bb := evS_bool (F := F) w3 w6
      refine byt_51 ⟨fun z => ⟨vj, vj, ?_⟩, fun z => next I1 f1 ?_⟩
      · have z0 : evS p.2.2.2.2.2 F (p.2.2.2.1 j) (p.2.2.2.2.1 j) ≠ 0 := by rw [z]; decide
        have eA : askG p hd F (m + 1) j = evS p.2.2.2.2.2 F (p.2.2.1 j) (p.2.2.2.1 j) := if_pos ⟨c, z0⟩
        rw [cj, f1 100 rfl, f1 101 rfl, r2, r3]
        refine ev_comesTo (F := F) hk (by omega) w2 (Or.inl rfl) w5 (fun i hi => by rw [f1 97 rfl]; exact r5 i (by omega)) (fun i hi => by rw [f1 104 rfl]; exact hF i hi) (fun I2 f2 => ?_)
        refine byt_76 ?_
        show Q (some (.int (clF lo hi _))) _
        rw [← eA]
        exact hQ I2 (f1.trans f2)
      · exact if_neg (fun q => q.2 (bb.resolve_right z))
    · rw [cj, r1] at c
      exact next I (Fr.rfl' _ _) (if_neg (fun q => c (by rw [q.1])))
theorem ev_byText {d k hd : Nat} {lo hi : Int32} {p : Prg} {F : Nat → Int32} {I : Nat → Nat → Int32} {J : Nat → Nat → Int64} {T : Nat → Nat → Nat} {Q : Option Value → Mem → Prop} (hk : k < 8) (hp : WFP p) (hh : hd < 128) (h0 : clF lo hi 0 = 0) (hR : RTM I k p) (hF : ∀ j, j < 16 → I 104 j = F j) (g : ∀ I', Fr [103] I I' → Q (some (.int (clF lo hi (askF p hd F)))) (SH, mkM I' J T)) : Ev mt aM (d + 4) 210 [.ref 83, .int (nI k), .int (nI hd), .int lo, .int hi, .int 0] (SH, mkM I J T) Q := by
  refine Ev.intro mX12_byText rfl rfl (byt_0 ?_)
  rw [show (14 : Int32) * nI k = nI (14 * k + 0) from pk_mul 14 k]
  exact byt_loop hk hp hh h0 p.1 0 I rfl hR hF g
