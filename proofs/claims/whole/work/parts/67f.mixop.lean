theorem two_z {x y s n : Int32} {I : Nat → Nat → Int32} {T : Nat → Nat → Nat} (h : x < 0 ∨ n ≤ x ∨ y < 0 ∨ n ≤ y ∨ x = y ∨ v_X2_isTold (s + x) I T = 0 ∨ v_X2_isTold (s + y) I T = 0) : v_X11_isTwo x y s n I T = 0 := by
  unfold v_X11_isTwo w7_X11_isTwo w6_X11_isTwo w5_X11_isTwo w4_X11_isTwo w3_X11_isTwo w2_X11_isTwo w1_X11_isTwo
  by_cases c1 : x < 0
  · rw [if_pos c1]
  rw [if_neg c1]
  by_cases c2 : n ≤ x
  · rw [if_pos c2]
  rw [if_neg c2]
  by_cases c3 : y < 0
  · rw [if_pos c3]
  rw [if_neg c3]
  by_cases c4 : n ≤ y
  · rw [if_pos c4]
  rw [if_neg c4]
  by_cases c5 : x = y
  · rw [if_pos c5]
  rw [if_neg c5]
  by_cases c6 : v_X2_isTold (s + x) I T = 0
  · rw [if_pos c6]
  rw [if_neg c6]
  by_cases c7 : v_X2_isTold (s + y) I T = 0
  · rw [if_pos c7]
  rcases h with h | h | h | h | h | h | h
  · exact absurd h c1
  · exact absurd h c2
  · exact absurd h c3
  · exact absurd h c4
  · exact absurd h c5
  · exact absurd h c6
  · exact absurd h c7
theorem two_o {x y s n : Int32} {I : Nat → Nat → Int32} {T : Nat → Nat → Nat} (c1 : ¬ x < 0) (c2 : ¬ n ≤ x) (c3 : ¬ y < 0) (c4 : ¬ n ≤ y) (c5 : ¬ x = y) (c6 : ¬ v_X2_isTold (s + x) I T = 0) (c7 : ¬ v_X2_isTold (s + y) I T = 0) : ¬ v_X11_isTwo x y s n I T = 0 := by
  unfold v_X11_isTwo w7_X11_isTwo w6_X11_isTwo w5_X11_isTwo w4_X11_isTwo w3_X11_isTwo w2_X11_isTwo w1_X11_isTwo
  rw [if_neg c1, if_neg c2, if_neg c3, if_neg c4, if_neg c5, if_neg c6, if_neg c7]
  decide
theorem two_h {A : Tm} (hA : BD A) {s n : Nat} (hs : s + n ≤ 8) {I : Nat → Nat → Int32} {T : Nat → Nat → Nat} (hR : RC A I T) (x y : Int32) : (¬ (x < 0)) → ((¬ (nI n ≤ x)) → ((¬ (y < 0)) → ((¬ (nI n ≤ y)) → ((¬ (x = y)) → (vp_in (nI s + x) 8 ∧ (TX (T 13 (nI s + x).toNatClampNeg) ∧ ((¬ (v_X2_isTold (nI s + x) I T = 0)) → (vp_in (nI s + y) 8 ∧ TX (T 13 (nI s + y).toNatClampNeg))))))))) := by
  intro a b c e _
  rcases pk_ix x (n := n) (by omega) with h | h | ⟨k, hk, rfl⟩
  · exact absurd h a
  · exact absurd h b
  rcases pk_ix y (n := n) (by omega) with h | h | ⟨l, hl, rfl⟩
  · exact absurd h c
  · exact absurd h e
  rw [nI_add, nI_add]
  obtain ⟨_, _, t3, t4⟩ := told_c (s := s + k) hA hR (by omega)
  obtain ⟨_, _, u3, u4⟩ := told_c (s := s + l) hA hR (by omega)
  exact ⟨t3, t4, fun _ => ⟨u3, u4⟩⟩
theorem two_c {A : Tm} (hA : BD A) {s n : Nat} (hs : s + n ≤ 8) (x y : Int32) : (∃ k l, k < n ∧ l < n ∧ k ≠ l ∧ x = nI k ∧ y = nI l ∧ (qP A (s + k)).1 ≠ 0 ∧ (qP A (s + l)).1 ≠ 0 ∧ ∀ (I : Nat → Nat → Int32) (T : Nat → Nat → Nat), RC A I T → ¬ v_X11_isTwo x y (nI s) (nI n) I T = 0) ∨ ((x < 0 ∨ nI n ≤ x ∨ y < 0 ∨ nI n ≤ y ∨ x = y ∨ (∃ k, k < n ∧ x = nI k ∧ (qP A (s + k)).1 = 0) ∨ (∃ l, l < n ∧ y = nI l ∧ (qP A (s + l)).1 = 0)) ∧ ∀ (I : Nat → Nat → Int32) (T : Nat → Nat → Nat), RC A I T → v_X11_isTwo x y (nI s) (nI n) I T = 0) := by
  rcases pk_ix x (n := n) (by omega) with h | h | ⟨k, hk, rfl⟩
  · exact Or.inr ⟨Or.inl h, fun I T _ => two_z (Or.inl h)⟩
  · exact Or.inr ⟨Or.inr (Or.inl h), fun I T _ => two_z (Or.inr (Or.inl h))⟩
  rcases pk_ix y (n := n) (by omega) with h | h | ⟨l, hl, rfl⟩
  · exact Or.inr ⟨Or.inr (Or.inr (Or.inl h)), fun I T _ => two_z (Or.inr (Or.inr (Or.inl h)))⟩
  · exact Or.inr ⟨Or.inr (Or.inr (Or.inr (Or.inl h))), fun I T _ => two_z (Or.inr (Or.inr (Or.inr (Or.inl h))))⟩
  by_cases e : k = l
  · subst e
    exact Or.inr ⟨Or.inr (Or.inr (Or.inr (Or.inr (Or.inl rfl)))), fun I T _ => two_z (Or.inr (Or.inr (Or.inr (Or.inr (Or.inl rfl)))))⟩
  have ne : ¬ nI k = nI l := fun z => e ((nI_eq (by omega) (by omega)).mp z)
  by_cases z1 : (qP A (s + k)).1 = 0
  · refine Or.inr ⟨Or.inr (Or.inr (Or.inr (Or.inr (Or.inr (Or.inl ⟨k, hk, rfl, z1⟩))))), fun I T hR => two_z (Or.inr (Or.inr (Or.inr (Or.inr (Or.inr (Or.inl ?_))))))⟩
    rw [nI_add]
    exact (told_c (s := s + k) hA hR (by omega)).1.mpr z1
  by_cases z2 : (qP A (s + l)).1 = 0
  · refine Or.inr ⟨Or.inr (Or.inr (Or.inr (Or.inr (Or.inr (Or.inr ⟨l, hl, rfl, z2⟩))))), fun I T hR => two_z (Or.inr (Or.inr (Or.inr (Or.inr (Or.inr (Or.inr ?_))))))⟩
    rw [nI_add]
    exact (told_c (s := s + l) hA hR (by omega)).1.mpr z2
  refine Or.inl ⟨k, l, hk, hl, e, rfl, rfl, z1, z2, fun I T hR => two_o (nI_pos (by omega)) (nI_ge hk (by omega)) (nI_pos (by omega)) (nI_ge hl (by omega)) ne ?_ ?_⟩
  · rw [nI_add]
    exact fun z => z1 ((told_c (s := s + k) hA hR (by omega)).1.mp z)
  · rw [nI_add]
    exact fun z => z2 ((told_c (s := s + l) hA hR (by omega)).1.mp z)
theorem vpR (x : Int32) : (¬ (x < 0)) → ((¬ ((4 : Int32) ≤ x)) → vp_in ((3 : Int32) + x) 8) := by
  intro a b
  rcases pk_ix x (n := 4) (by omega) with h | h | ⟨k, hk, rfl⟩
  · exact absurd h a
  · exact absurd h b
  rw [show (3 : Int32) = nI 3 from rfl, nI_add]
  exact vp_in_nI (by omega) (by omega)
theorem vpO (x : Int32) : (¬ (v_X12_isOther x = 0)) → vp_in x 8 := by
  intro a
  rcases oth_c x with ⟨k, hk, rfl, _⟩ | ⟨_, h⟩
  · exact vp_in_nI (by omega) (by omega)
  · exact absurd h a
theorem oth_z {x : Int32} {I : Nat → Nat → Int32} (h : x < 0 ∨ nI 3 ≤ x) : v_X12_isToldOther x I = 0 := by
  unfold v_X12_isToldOther w2_X12_isToldOther
  refine if_pos ?_
  unfold v_X12_isOther w2_X12_isOther w1_X12_isOther
  rcases h with h | h
  · exact if_pos h
  · by_cases c : x < 0
    · exact if_pos c
    · rw [if_neg c]
      exact if_pos h
theorem op_mixed {S : St} (hS : PUR S) (i j x y w : Int32) : OPR S 142 268 [.int i, .int j, .int x, .int y, .int w] := by
  have hA := hS.1
  have refuse : ∀ (_ : ∀ (I : Nat → Nat → Int32) (T : Nat → Nat → Nat), RC (zA S) I T → v_X11_isTwo i j (4 : Int32) (4 : Int32) I T = 0 ∨ v_X11_isTwo x y (1 : Int32) (3 : Int32) I T = 0 ∨ w < 0 ∨ ¬ w ≤ (2 : Int32)) (_ : ∀ I : Nat → Nat → Int32, RM (zA S) I → v_X12_isRule i I = 0 ∨ v_X12_isRule j I = 0 ∨ i = j ∨ v_X12_isToldOther x I = 0 ∨ v_X12_isToldOther y I = 0 ∨ x = y ∨ v_X12_in w (0 : Int32) (2 : Int32) = 0), OPR S 142 268 [.int i, .int j, .int x, .int y, .int w] := by
    intro hc hm
    refine OPR.look hS (.long (-1)) (fun d I J T Q h g => ?_) (fun d I J T Q h g => ?_)
    · refine Ev.intro mX11_mixed rfl rfl (cmx_0 (d := d + 19) ⟨two_h (s := 4) (n := 4) hA (by omega) h.1 i j, ?_⟩)
      have hc := hc I T h.1
      by_cases k1 : v_X11_isTwo i j (4 : Int32) (4 : Int32) I T = 0
      · exact br0 k1 g
      refine br1 k1 ⟨two_h (s := 1) (n := 3) hA (by omega) h.1 x y, ?_⟩
      by_cases k2 : v_X11_isTwo x y (1 : Int32) (3 : Int32) I T = 0
      · exact br0 k2 g
      refine br1 k2 ?_
      by_cases k3 : w < 0
      · exact br0 k3 g
      refine br1 k3 (br1 ?_ g)
      rcases hc with q | q | q | q
      · exact absurd q k1
      · exact absurd q k2
      · exact absurd q k3
      · exact q
    · refine Ev.intro mX12_mixed rfl rfl (mmx_0 (d := d + 19) ⟨vpR i, ?_⟩)
      have hm := hm I h.1
      by_cases k1 : v_X12_isRule i I = 0
      · exact br0 k1 g
      refine br1 k1 ⟨vpR j, ?_⟩
      by_cases k2 : v_X12_isRule j I = 0
      · exact br0 k2 g
      refine br1 k2 ?_
      by_cases k3 : i = j
      · exact br0 k3 g
      refine br1 k3 ⟨vpO x, ?_⟩
      by_cases k4 : v_X12_isToldOther x I = 0
      · exact br0 k4 g
      refine br1 k4 ⟨vpO y, ?_⟩
      by_cases k5 : v_X12_isToldOther y I = 0
      · exact br0 k5 g
      refine br1 k5 ?_
      by_cases k6 : x = y
      · exact br0 k6 g
      refine br1 k6 (br0 ?_ g)
      rcases hm with q | q | q | q | q | q | q
      · exact absurd q k1
      · exact absurd q k2
      · exact absurd q k3
      · exact absurd q k4
      · exact absurd q k5
      · exact absurd q k6
      · exact q
  rcases two_c (s := 4) (n := 4) hA (by omega) i j with ⟨k, l, hk, hl, kl, rfl, rfl, z1, z2, t⟩ | ⟨c, t⟩
  · rcases two_c (s := 1) (n := 3) hA (by omega) x y with ⟨o, e, ho, he, oe, rfl, rfl, y1, y2, t'⟩ | ⟨c, t'⟩
    · rcases rg_ar w (b := 2) (by omega) with ⟨n, w1, rfl, w2, w3, w4⟩ | ⟨w1, w2⟩
      · have hv : ∀ k j, vG (zA S) k j < 2 ^ 63 := fun k j => Nat.lt_of_le_of_lt (rV_lt hA hA.1.2 _ _) (by omega)
        have ne : ∀ a b, a < 4 → b < 4 → a ≠ b → ¬ nI a = nI b := fun a b ha hb hn z => hn ((nI_eq (by omega) (by omega)).mp z)
        have r1 : rB (zA S) k = true := by
          cases q : rB (zA S) k with
          | true => rfl
          | false => exact absurd (rB_iff.mp q) z1
        have r2 : rB (zA S) l = true := by
          cases q : rB (zA S) l with
          | true => rfl
          | false => exact absurd (rB_iff.mp q) z2
        have o1 : oB (zA S) o = true := by
          cases q : oB (zA S) o with
          | true => rfl
          | false => exact absurd (oB_iff.mp q) y1
        have o2 : oB (zA S) e = true := by
          cases q : oB (zA S) e with
          | true => rfl
          | false => exact absurd (oB_iff.mp q) y2
        refine OPR.scratch hS (.long (mixV (vG (zA S) k o) (vG (zA S) k e) (vG (zA S) l o) (vG (zA S) l e) n)) (fun d I J T Q h g => ?_) (fun d I J T Q h g => ?_)
        · refine Ev.intro mX11_mixed rfl rfl (cmx_0 (d := d + 19) ⟨two_h (s := 4) (n := 4) hA (by omega) h.1 _ _, br1 (t I T h.1) ⟨two_h (s := 1) (n := 3) hA (by omega) h.1 _ _, br1 (t' I T h.1) (br1 w2 (br0 (nI_le (b := 2) w1 (by omega)) ?_))⟩⟩)
          refine ev_wfirst (d := d + 37) hA hk ho h.1 h.2.2.1 (fun I1 J1 f1 j1 q1 => cmx_51 (d := d + 19) ?_)
          have h1 := h.1.fr rfl f1
          refine ev_wfirst (d := d + 37) hA hk he h1 q1 (fun I2 J2 f2 j2 q2 => cmx_61 (d := d + 19) ?_)
          have h2 := h1.fr rfl f2
          refine ev_wfirst (d := d + 37) hA hl ho h2 q2 (fun I3 J3 f3 j3 q3 => cmx_70 (d := d + 19) ?_)
          have h3 := h2.fr rfl f3
          refine ev_wfirst (d := d + 37) hA hl he h3 q3 (fun I4 J4 f4 j4 q4 => cmx_80 (d := d + 19) (ev_mixedOf (d := d + 19) w1 (hv _ _) (hv _ _) (hv _ _) (hv _ _) (cmx_85 (d := d + 19) ?_)))
          have fr := ((f1.trans f2).trans f3).trans f4
          have fj := ((j1.trans j2).trans j3).trans j4
          exact g I4 J4 (fr.sub rfl) (fj.sub rfl) (h.2.1.fr rfl rfl fr fj) q4
        · refine Ev.intro mX12_mixed rfl rfl (mmx_0 (d := d + 19) ⟨vpR _, br1 ((m_rlb hA h.1 hk).1 r1) ⟨vpR _, br1 ((m_rlb hA h.1 hl).1 r2) (br1 (ne k l hk hl kl) ⟨vpO _, br1 ((m_otb hA h.1 ho).1 o1) ⟨vpO _, br1 ((m_otb hA h.1 he).1 o2) (br1 (ne o e (by omega) (by omega) oe) (br1 (ne0 w4) ?_))⟩⟩)⟩⟩)
          refine ev_rsolve (d := d + 39) hA hk ho h.1 h.2.1 (fun I1 J1 f1 j1 => mmx_69 (d := d + 19) ?_)
          have h1 := h.1.fr rfl f1
          have n1 := h.2.1.fr rfl f1
          refine ev_rsolve (d := d + 39) hA hk he h1 n1 (fun I2 J2 f2 j2 => mmx_83 (d := d + 19) ?_)
          have h2 := h1.fr rfl f2
          have n2 := n1.fr rfl f2
          refine ev_rsolve (d := d + 39) hA hl ho h2 n2 (fun I3 J3 f3 j3 => mmx_96 (d := d + 19) ?_)
          have h3 := h2.fr rfl f3
          have n3 := n2.fr rfl f3
          refine ev_rsolve (d := d + 39) hA hl he h3 n3 (fun I4 J4 f4 j4 => m_mixed (d := d + 19) w1 (hv _ _) (hv _ _) (hv _ _) (hv _ _) ?_)
          have fr := ((f1.trans f2).trans f3).trans f4
          have fj := ((j1.trans j2).trans j3).trans j4
          exact g I4 J4 (fr.sub rfl) (fj.sub rfl) (h.scr (fr.sub rfl))
      · refine refuse (fun I T _ => Or.inr (Or.inr ?_)) (fun I _ => Or.inr (Or.inr (Or.inr (Or.inr (Or.inr (Or.inr w2))))))
        rcases w1 with q | q
        · exact Or.inl q
        · refine Or.inr (fun z => ?_)
          have q : (2 : Int32) < w := q
          rw [Int32.lt_iff_toInt_lt] at q
          rw [Int32.le_iff_toInt_le] at z
          omega
    · refine refuse (fun I T h => Or.inr (Or.inl (t' I T h))) (fun I h => Or.inr (Or.inr (Or.inr ?_)))
      rcases c with c | c | c | c | c | ⟨o, ho, rfl, c⟩ | ⟨o, ho, rfl, c⟩
      · exact Or.inl (oth_z (Or.inl c))
      · exact Or.inl (oth_z (Or.inr c))
      · exact Or.inr (Or.inl (oth_z (Or.inl c)))
      · exact Or.inr (Or.inl (oth_z (Or.inr c)))
      · exact Or.inr (Or.inr (Or.inl c))
      · exact Or.inl ((m_otb hA h ho).2 (oB_iff.mpr c))
      · exact Or.inr (Or.inl ((m_otb hA h ho).2 (oB_iff.mpr c)))
  · refine refuse (fun I T h => Or.inl (t I T h)) (fun I h => ?_)
    rcases c with c | c | c | c | c | ⟨o, ho, rfl, c⟩ | ⟨o, ho, rfl, c⟩
    · exact Or.inl (mul_no (Or.inl c)).1
    · exact Or.inl (mul_no (Or.inr c)).1
    · exact Or.inr (Or.inl (mul_no (Or.inl c)).1)
    · exact Or.inr (Or.inl (mul_no (Or.inr c)).1)
    · exact Or.inr (Or.inr (Or.inl c))
    · exact Or.inl ((m_rlb hA h ho).2 (rB_iff.mpr c))
    · exact Or.inr (Or.inl ((m_rlb hA h ho).2 (rB_iff.mpr c)))
