/-! THE REFERENCE READS a whole text, and keeps it. -/
section REX
variable {b : Nat → Nat} {n : Nat}
/-- the reference's own fields that reading leaves -/
def F83r (I I' : Nat → Nat → Int32) : Prop := ∀ j, (j < 11 ∨ 19 < j) → I' 83 j = I 83 j
theorem tk_c (hN : BN b n) {s : RdS} {I : Nat → Nat → Int32} (h : RRz b n s [] I) : (expS b n 59 s = .inr (mvS s) ∧ v_X12_takes (59 : Int32) I = 1 ∧ w2_X12_takes (59 : Int32) I = si I 83 12 (nI (uP s + 1)) ∧ uP s < n) ∨ (expS b n 59 s = .inl (1, uP s) ∧ v_X12_takes (59 : Int32) I = 0 ∧ w2_X12_takes (59 : Int32) I = si I 83 14 ((-1000 : Int32) * nI 1 - I 83 12)) := by
  obtain ⟨y1, y2⟩ := here_c hN h
  have hsg := sgn_sg (b := b) (n := n) (p := uP s) hN.2
  have q59 : sgI (sgn b n (uP s)) = (59 : Int32) ↔ sgn b n (uP s) = 59 := sgI_eq (x := 59) hsg (by omega)
  unfold v_X12_takes w2_X12_takes w1_X12_takes
  rw [y1]
  by_cases c : sgn b n (uP s) = 59
  · rw [if_pos (q59.mpr c), if_pos (q59.mpr c), h.1.1, nI_1]
    exact Or.inl ⟨if_pos c, rfl, rfl, sgn_lt (by omega) c⟩
  · rw [if_neg (fun z => c (q59.mp z)), if_neg (fun z => c (q59.mp z))]
    exact Or.inr ⟨if_neg c, rfl, rfl⟩
theorem rd_fail {d x : Nat} {e : Nat × Nat} {I I0 : Nat → Nat → Int32} {J : Nat → Nat → Int64} {T : Nat → Nat → Nat} {Q : Option Value → Mem → Prop} (f : FMc I0 I) (k : FBz e I) (g : ∀ I', FMc I0 I' → FBz e I' → Q (some (.int ((-1000 : Int32) * nI e.1 - nI e.2))) (SH, mkM (si I' 83 11 (0 : Int32)) J T)) : Go none aM (Ev mt aM (d + 8)) mX12_reads Q (47, [some (.ref 83), some (.int (nI x)), none, some (.int (0 : Int32)), none, none], [], (SH, mkM I J T), 0, 0) := by
  refine mrd_47 (br0 rfl (mrd_88 (br0 rfl ?_)))
  have e14 : I 83 14 = (-1000 : Int32) * nI e.1 - nI e.2 := k
  rw [e14]
  exact g I f k
theorem rk_go (hN : BN b n) {d x : Nat} (hx : x < 8) {J : Nat → Nat → Int64} {T : Nat → Nat → Nat} {Q : Option Value → Mem → Prop} {I0 : Nat → Nat → Int32} : ∀ (k : Nat) (c : RdC) (I : Nat → Nat → Int32), n ≤ k + uP c.1 → WFC n c → FMc I0 I → RKc b n c I → (∀ e, txF b n (hdX x) k c = .inl e → ∀ I', FMc I0 I' → FBz e I' → Q (some (.int ((-1000 : Int32) * nI e.1 - nI e.2))) (SH, mkM (si I' 83 11 (0 : Int32)) J T)) → (∀ c', txF b n (hdX x) k c = .inr c' → ∀ I', FMc I0 I' → RKc b n c' I' → Go none aM (Ev mt aM (d + 8)) mX12_reads Q (88, [some (.ref 83), some (.int (nI x)), none, some (.int (1 : Int32)), none, none], [], (SH, mkM I' J T), 0, 0)) → Go none aM (Ev mt aM (d + 8)) mX12_reads Q (47, [some (.ref 83), some (.int (nI x)), none, some (.int (1 : Int32)), none, none], [], (SH, mkM I J T), 0, 0) := by
  have hn := hN.1
  intro k
  induction k with
  | zero =>
    intro c I hk hw f h g0 g1
    obtain ⟨hr, ho, h18, h14, hrow⟩ := h
    refine mrd_47 (br1 (by decide) (br0 ?_ (g1 c rfl I f ⟨hr, ho, h18, h14, hrow⟩)))
    rw [hr.1.2.1, hr.1.1]
    exact nI_le (by omega) (by have := hw.1; omega)
  | succ k ih =>
    intro c I hk hw f h g0 g1
    obtain ⟨hr, ho, h18, h14, hrow⟩ := h
    have hp := hw.1
    refine mrd_47 (br1 (by decide) ?_)
    rw [hr.1.2.1, hr.1.1]
    unfold txF at g0 g1
    by_cases q : uP c.1 < n
    · rw [if_pos q] at g0 g1
      refine br1 (nI_ge q (by omega)) ⟨fun _ => vp_in_nI (by omega) (by omega), ?_⟩
      rcases tk_c hN hr with ⟨t1, t2, t3, t4⟩ | ⟨t1, t2, t3⟩
      · rw [t1] at g0 g1
        rw [t2, t3]
        dsimp only at g0 g1
        obtain ⟨m1, m2⟩ := mv_c q hr
        have h' : RKc b n (mvS c.1, c.2) (si I 83 12 (nI (uP c.1 + 1))) := by
          refine ⟨m1, ho, ?_, h14, fun j hj => ?_⟩
          · rw [si_ne (by omega)]; exact h18
          · rw [si_row (by omega), si_row (by omega), si_row (by omega), si_row (by omega)]; exact hrow j hj
        have hw' : WFC n (mvS c.1, c.2) := ⟨show uP c.1 + 1 ≤ n by omega, show uN c.1 ≤ uP c.1 + 1 by have := hw.2.1; omega, hw.2.2⟩
        refine br1 (by decide) (ev_rcls (d := d) hN hx h'.q (fun e he I1 f1 k1 => mrd_76 (br0 rfl (rd_fail ((f.trans m2.toc).trans f1) k1 (g0 e ?_)))) (fun c' hc' I1 f1 k1 => mrd_76 (br1 (by decide) ?_)))
        · rw [he]
        · rw [hc'] at g0 g1
          obtain ⟨w1, w2, w3⟩ := wfc_cl hn hdX_128 hw' hc'
          have w2 : uP c.1 + 1 ≤ uP c'.1 := w2
          exact ih c' I1 (by omega) w1 ((f.trans m2.toc).trans f1) k1 g0 g1
      · rw [t1] at g0 g1
        rw [t2, t3]
        exact br0 rfl (rd_fail (f.s83 (by omega)) (fb_c (k := 1) hr.1.1) (g0 _ rfl))
    · rw [if_neg q] at g1
      exact br0 (nI_le (by omega) (by omega)) (g1 c rfl I f ⟨hr, ho, h18, h14, hrow⟩)
theorem ev_reads (hN : BN b n) (hn1 : 1 ≤ n) {d x t : Nat} {I : Nat → Nat → Int32} {J : Nat → Nat → Int64} {T : Nat → Nat → Nat} {Q : Option Value → Mem → Prop} (hx : x < 8) (ht : n ≤ t ∧ t ≤ 220) (h11 : I 83 11 = nI t) (h90 : ∀ i, i < n → I 90 i &&& 255 = nI (b i)) (g0 : ∀ e, rdT b n (hdX x) = .inl e → ∀ I', Fr [83, 91, 92, 93, 94, 95, 96] I I' → F83r I I' → I' 83 11 = 0 → Q (some (.int (ansT (.inl e)))) (SH, mkM I' J T)) (g1 : ∀ c, rdT b n (hdX x) = .inr c → ∀ I', Fr [83, 91, 92, 93, 94, 95, 96, 97, 98, 99, 100, 101, 102] I I' → F83r I I' → I' 83 11 = 0 → RTM I' x (prgC c) → (∀ k p, k ≠ x → WFP p → RTM I k p → RTM I' k p) → Q (some (.int (nI c.2.1))) (SH, mkM I' J T)) : Ev mt aM (d + 9) 204 [.ref 83, .int (nI x), .int (nI n)] (SH, mkM I J T) Q := by
  have hn := hN.1
  have hin : ¬ v_X12_in (nI n) (1 : Int32) (200 : Int32) = 0 := by
    unfold v_X12_in w1_X12_in
    rw [if_neg (show ¬ nI n < (1 : Int32) from nI_nlt (b := 1) hn1 (by omega)), if_neg (show ¬ (200 : Int32) < nI n from nI_nlt (a := 200) (by omega) (by omega))]
    decide
  refine Ev.intro (d := d + 8) mX12_reads rfl rfl (mrd_0 (d := d) (br1 hin (br0 (by rw [h11]; exact nI_le ht.1 (by omega)) ?_)))
  have f83 : F83r I (si (si (si (si I 83 12 (0 : Int32)) 83 13 (nI n)) 83 16 (0 : Int32)) 83 18 (0 : Int32)) := fun j hj => by rw [si_ne (by omega), si_ne (by omega), si_ne (by omega), si_ne (by omega)]
  have ffr : Fr [83, 91, 92, 93, 94, 95, 96] I (si (si (si (si I 83 12 (0 : Int32)) 83 13 (nI n)) 83 16 (0 : Int32)) 83 18 (0 : Int32)) := (((Fr.rfl' _ _).to rfl).to rfl).to rfl |>.to rfl
  have k0 : RKq b n ((0, 0, 0, fun _ => 0), 0, (fun _ => 0), (fun _ => 0), (fun _ => 0), fun _ => 0) (si (si (si (si I 83 12 (0 : Int32)) 83 13 (nI n)) 83 16 (0 : Int32)) 83 18 (0 : Int32)) := by
    refine ⟨⟨⟨?_, ?_, ?_, ?_, ?_⟩, fun i hi => absurd hi (Nat.not_lt_zero i), trivial, fun i hi => ?_, Nat.zero_le _, Nat.le_refl _, Nat.le_refl _, ⟨Nat.zero_le _, Nat.le_refl _⟩, fun i hi => absurd hi (Nat.not_lt_zero i)⟩, rfl, ?_, Nat.zero_le _, fun j hj => absurd hj (Nat.not_lt_zero j)⟩
    · rw [si_ne (by omega), si_ne (by omega), si_ne (by omega), si_ne (by omega), si_ne (by omega)]; exact si_at
    · rw [si_ne (by omega), si_ne (by omega), si_ne (by omega), si_ne (by omega)]; exact si_at
    · rw [si_ne (by omega)]; exact si_at
    · rw [si_ne (by omega), si_ne (by omega), si_ne (by omega)]; exact si_at
    · exact si_at
    · rw [si_row (by omega), si_row (by omega), si_row (by omega), si_row (by omega), si_row (by omega), si_row (by omega)]; exact h90 i hi
    · rw [si_ne (by omega), si_ne (by omega)]; exact si_at
  -- what is left of a reading that ends
  have fin0 : ∀ e, rdT b n (hdX x) = .inl e → ∀ I', FMc (si (si (si (si I 83 12 (0 : Int32)) 83 13 (nI n)) 83 16 (0 : Int32)) 83 18 (0 : Int32)) I' → FBz e I' → Q (some (.int ((-1000 : Int32) * nI e.1 - nI e.2))) (SH, mkM (si I' 83 11 (0 : Int32)) J T) := by
    intro e he I' f k
    refine g0 e he _ ((ffr.trans f.1).to rfl) (fun j hj => ?_) si_at
    rw [si_ne (by omega), f.2 j (by omega) (by omega) (by omega) (by omega) (by omega) (by omega) (by omega)]
    exact f83 j hj
  have fin1 : ∀ c, rdT b n (hdX x) = .inr c → ∀ I', FMc (si (si (si (si I 83 12 (0 : Int32)) 83 13 (nI n)) 83 16 (0 : Int32)) 83 18 (0 : Int32)) I' → RKc b n c I' → Go none aM (Ev mt aM (d + 8)) mX12_reads Q (88, [some (.ref 83), some (.int (nI x)), none, some (.int (1 : Int32)), none, none], [], (SH, mkM I' J T), 0, 0) := by
    intro c hc I' f k
    obtain ⟨wf, _⟩ := wfc_rd hn hdX_128 hc
    obtain ⟨hr, ho, h18, h14, hrow⟩ := k
    have nn := hr.nN
    refine mrd_88 (br1 (by decide) ⟨vp_in_nI hx (by omega), ?_⟩)
    rw [nI_clamp (by omega), h18]
    have e1 : Fr [83, 98] I' (si (si I' 83 11 (0 : Int32)) 98 x (nI c.2.1)) := ((Fr.rfl' _ _).to rfl).to rfl
    refine cpy1 (d := d) (N := uN c.1) (I0 := si (si I' 83 11 (0 : Int32)) 98 x (nI c.2.1)) hx (by omega) (by rw [si_row (by omega), si_ne (by omega)]; exact nn.1) (fun I2 f2 a1 a2 => ?_) (uN c.1) 0 _ (by omega) (Fr.rfl' _ _) (fun i hi => absurd hi (Nat.not_lt_zero i)) (fun i hi => rfl)
    have r93 : ∀ o, o = 93 ∨ o = 94 ∨ o = 95 ∨ o = 96 → I2 o = I' o := fun o ho => by rw [f2 o (by rcases ho with rfl | rfl | rfl | rfl <;> rfl), si_row (by omega), si_row (by omega)]
    refine cpy2 (d := d) (M := c.2.1) (I0 := I2) (S := c.2.2.2.1) (E := c.2.2.2.2.1) (C := c.2.2.2.2.2) hx h14 (by rw [f2 83 rfl, si_row (by omega), si_ne (by omega)]; exact h18) (fun j hj => ?_) (fun I3 f3 b1 b2 => ?_) c.2.1 0 _ (by omega) (Fr.rfl' _ _) (fun j hj => absurd hj (Nat.not_lt_zero j)) (fun i hi => ⟨rfl, rfl, rfl, rfl⟩)
    · rw [r93 94 (by omega), r93 95 (by omega), r93 96 (by omega)]
      exact (hrow j hj).2
    · have e83 : I3 83 = si I' 83 11 (0 : Int32) 83 := by rw [f3 83 rfl, f2 83 rfl, si_row (by omega)]
      have e98 : I3 98 = si (si I' 83 11 (0 : Int32)) 98 x (nI c.2.1) 98 := by rw [f3 98 rfl, f2 98 rfl]
      have e97 : I3 97 = I2 97 := f3 97 rfl
      have b98 : I' 98 = I 98 := by rw [f.1 98 rfl, si_row (by omega), si_row (by omega), si_row (by omega), si_row (by omega)]
      have b97 : I' 97 = I 97 := by rw [f.1 97 rfl, si_row (by omega), si_row (by omega), si_row (by omega), si_row (by omega)]
      have b99 : ∀ o, o = 99 ∨ o = 100 ∨ o = 101 ∨ o = 102 → I2 o = I o := fun o ho => by
        rw [f2 o (by rcases ho with rfl | rfl | rfl | rfl <;> rfl), si_row (by omega), si_row (by omega), f.1 o (by rcases ho with rfl | rfl | rfl | rfl <;> rfl), si_row (by omega), si_row (by omega), si_row (by omega), si_row (by omega)]
      refine g1 c hc I3 ?_ (fun j hj => ?_) ?_ ⟨?_, fun j hj => ?_⟩ (fun k p hk hp hr2 => ⟨?_, fun j hj => ?_⟩)
      · exact ((((ffr.trans f.1).sub rfl).trans (e1.sub rfl)).trans (f2.sub rfl)).trans (f3.sub rfl)
      · rw [e83, si_ne (by omega), f.2 j (by omega) (by omega) (by omega) (by omega) (by omega) (by omega) (by omega)]
        exact f83 j hj
      · rw [e83]; exact si_at
      · rw [e98]; exact si_at
      · obtain ⟨c1, c2, c3, c4⟩ := b1 j hj
        have hw := wf.2.2.2.2 j hj
        rw [r93 93 (by omega)] at c1
        refine ⟨c1.trans (hrow j hj).1, c2, c3, c4, fun i hi => ?_⟩
        have hi : i < c.2.2.2.2.2 j := hi
        rw [e97, a1 i (by omega), si_row (by omega), si_row (by omega)]
        exact hr.2.1 i (by omega)
      · rw [e98, si_ne hk, si_row (by omega), b98]
        exact hr2.1
      · have hj14 : j < 14 := by have := hp.1; omega
        obtain ⟨d1, d2, d3, d4⟩ := b2 (14 * k + j) (by omega)
        obtain ⟨p1, p2, p3, p4, p5⟩ := hr2.2 j hj
        obtain ⟨_, _, _, w4, _⟩ := hp.2 j hj
        rw [d1, d2, d3, d4, b99 99 (by omega), b99 100 (by omega), b99 101 (by omega), b99 102 (by omega)]
        refine ⟨p1, p2, p3, p4, fun i hi => ?_⟩
        rw [e97, a2 (220 * k + i) (by omega), si_row (by omega), si_row (by omega), b97]
        exact p5 i hi
  refine ev_rcls (d := d) hN hx k0 (fun e he I1 f1 k1 => mrd_46 (rd_fail f1 k1 (fin0 e ?_))) (fun c1 hc1 I1 f1 k1 => mrd_46 ?_)
  · unfold rdT
    rw [he]
  · obtain ⟨w1, w2, w3⟩ := wfc_cl hn hdX_128 (c := ((0, 0, 0, fun _ => 0), 0, (fun _ => 0), (fun _ => 0), (fun _ => 0), fun _ => 0)) ⟨Nat.zero_le _, Nat.le_refl _, rfl, Nat.zero_le _, fun j hj => absurd hj (Nat.not_lt_zero j)⟩ hc1
    have e1 : rdT b n (hdX x) = txF b n (hdX x) n c1 := by
      unfold rdT
      rw [hc1]
    rw [e1] at fin0 fin1
    exact rk_go (d := d) hN hx n c1 I1 (by omega) w1 f1 k1 fin0 fin1
end REX
