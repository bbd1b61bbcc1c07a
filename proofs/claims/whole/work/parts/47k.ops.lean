/-! COUNT and SEASON. -/
theorem sw7 {x : Int32} {P0 P1 P2 P3 P4 P5 P6 R : Prop} (h : (x = 0 ∧ P0) ∨ (x = 1 ∧ P1) ∨ (x = 2 ∧ P2) ∨ (x = 3 ∧ P3) ∨ (x = 4 ∧ P4) ∨ (x = 5 ∧ P5) ∨ (x = 6 ∧ P6) ∨ (¬ x = 0 ∧ ¬ x = 1 ∧ ¬ x = 2 ∧ ¬ x = 3 ∧ ¬ x = 4 ∧ ¬ x = 5 ∧ ¬ x = 6 ∧ R)) : (x = 0 → P0) ∧ (x = 1 → P1) ∧ (x = 2 → P2) ∧ (x = 3 → P3) ∧ (x = 4 → P4) ∧ (x = 5 → P5) ∧ (x = 6 → P6) ∧ (¬ x = 0 → ¬ x = 1 → ¬ x = 2 → ¬ x = 3 → ¬ x = 4 → ¬ x = 5 → ¬ x = 6 → R) := by
  rcases h with ⟨rfl, p⟩ | ⟨rfl, p⟩ | ⟨rfl, p⟩ | ⟨rfl, p⟩ | ⟨rfl, p⟩ | ⟨rfl, p⟩ | ⟨rfl, p⟩ | ⟨h0, h1, h2, h3, h4, h5, h6, p⟩
  · exact ⟨fun _ => p, fun c => absurd c (by decide), fun c => absurd c (by decide), fun c => absurd c (by decide), fun c => absurd c (by decide), fun c => absurd c (by decide), fun c => absurd c (by decide), fun c _ _ _ _ _ _ => absurd rfl c⟩
  · exact ⟨fun c => absurd c (by decide), fun _ => p, fun c => absurd c (by decide), fun c => absurd c (by decide), fun c => absurd c (by decide), fun c => absurd c (by decide), fun c => absurd c (by decide), fun _ c _ _ _ _ _ => absurd rfl c⟩
  · exact ⟨fun c => absurd c (by decide), fun c => absurd c (by decide), fun _ => p, fun c => absurd c (by decide), fun c => absurd c (by decide), fun c => absurd c (by decide), fun c => absurd c (by decide), fun _ _ c _ _ _ _ => absurd rfl c⟩
  · exact ⟨fun c => absurd c (by decide), fun c => absurd c (by decide), fun c => absurd c (by decide), fun _ => p, fun c => absurd c (by decide), fun c => absurd c (by decide), fun c => absurd c (by decide), fun _ _ _ c _ _ _ => absurd rfl c⟩
  · exact ⟨fun c => absurd c (by decide), fun c => absurd c (by decide), fun c => absurd c (by decide), fun c => absurd c (by decide), fun _ => p, fun c => absurd c (by decide), fun c => absurd c (by decide), fun _ _ _ _ c _ _ => absurd rfl c⟩
  · exact ⟨fun c => absurd c (by decide), fun c => absurd c (by decide), fun c => absurd c (by decide), fun c => absurd c (by decide), fun c => absurd c (by decide), fun _ => p, fun c => absurd c (by decide), fun _ _ _ _ _ c _ => absurd rfl c⟩
  · exact ⟨fun c => absurd c (by decide), fun c => absurd c (by decide), fun c => absurd c (by decide), fun c => absurd c (by decide), fun c => absurd c (by decide), fun c => absurd c (by decide), fun _ => p, fun _ _ _ _ _ _ c => absurd rfl c⟩
  · exact ⟨fun c => absurd c h0, fun c => absurd c h1, fun c => absurd c h2, fun c => absurd c h3, fun c => absurd c h4, fun c => absurd c h5, fun c => absurd c h6, fun _ _ _ _ _ _ _ => p⟩
theorem in_n {j a b : Nat} (hj : j < 2 ^ 31) (ha : a < 2 ^ 31) (hb : b < 2 ^ 31) : v_X12_in (nI j) (nI a) (nI b) = if j < a then 0 else if b < j then 0 else 1 := by
  unfold v_X12_in w1_X12_in
  by_cases c : j < a
  · rw [if_pos c, if_pos (nI_lt c ha)]
  · rw [if_neg c, if_neg (nI_nlt (by omega) hj)]
    by_cases c2 : b < j
    · rw [if_pos c2, if_pos (nI_lt c2 hj)]
    · rw [if_neg c2, if_neg (nI_nlt (by omega) hb)]
theorem oth_n {k : Nat} (hk : k < 2 ^ 31) : v_X11_isOther (nI k) = if 3 ≤ k then 0 else 1 := by
  unfold v_X11_isOther w2_X11_isOther w1_X11_isOther
  rw [if_neg (nI_pos hk)]
  by_cases c : 3 ≤ k
  · rw [if_pos c]; exact if_pos (nI_le (a := 3) c hk)
  · rw [if_neg c]; exact if_neg (nI_ge (a := k) (b := 3) (by omega) (by omega))
theorem rule_n {k : Nat} (hk : k < 2 ^ 31) : v_X11_isRule (nI k) = if 4 ≤ k then 0 else 1 := by
  unfold v_X11_isRule w2_X11_isRule w1_X11_isRule
  rw [if_neg (nI_pos hk)]
  by_cases c : 4 ≤ k
  · rw [if_pos c]; exact if_pos (nI_le (a := 4) c hk)
  · rw [if_neg c]; exact if_neg (nI_ge (a := k) (b := 4) (by omega) (by omega))
theorem play_n {k : Nat} (hk : k < 2 ^ 31) : v_X11_isPlayer (nI k) = if 5 ≤ k then 0 else 1 := by
  unfold v_X11_isPlayer w2_X11_isPlayer w1_X11_isPlayer
  rw [if_neg (nI_pos hk)]
  by_cases c : 5 ≤ k
  · rw [if_pos c]; exact if_pos (nI_le (a := 5) c hk)
  · rw [if_neg c]; exact if_neg (nI_ge (a := k) (b := 5) (by omega) (by omega))
theorem op_count {S : St} (hS : PUR S) (x : Int32) : OPR S 153 286 [.int x] := by
  have hA := hS.1
  rcases pk_ix x (n := 2 ^ 31 - 1) (by omega) with hx | hx | ⟨j, hj, rfl⟩
  · -- below 0
    have n0 : ∀ k, k < 100 → ¬ x = nI k := fun k hk q => by
      rw [q] at hx
      exact nI_pos (by omega) hx
    have lt : ∀ k, k < 100 → x < nI k := fun k hk => by
      rw [Int32.lt_iff_toInt_lt] at hx ⊢
      rw [nI_toInt (by omega)]
      have : (0 : Int32).toInt = 0 := rfl
      omega
    have nin : ∀ a b, a < 100 → v_X12_in x (nI a) b = 0 := fun a b ha => if_pos (lt a ha)
    refine OPR.look hS (.int (-1)) (fun d I J T Q h g => ?_) (fun d I J T Q h g => ?_)
    · exact Ev.intro mX11_count rfl rfl (ccount_0 (d := d + 42) (sw7 (Or.inr (Or.inr (Or.inr (Or.inr (Or.inr (Or.inr (Or.inr ⟨n0 0 (by omega), n0 1 (by omega), n0 2 (by omega), n0 3 (by omega), n0 4 (by omega), n0 5 (by omega), n0 6 (by omega), br0 (lt 10 (by omega)) (br0 (lt 20 (by omega)) (br0 (lt 30 (by omega)) g))⟩)))))))))
    · exact Ev.intro mX12_count rfl rfl (mcount_0 (d := d + 42) (sw7 (Or.inr (Or.inr (Or.inr (Or.inr (Or.inr (Or.inr (Or.inr ⟨n0 0 (by omega), n0 1 (by omega), n0 2 (by omega), n0 3 (by omega), n0 4 (by omega), n0 5 (by omega), n0 6 (by omega), br0 (nin 10 _ (by omega)) (br0 (nin 20 _ (by omega)) (br0 (nin 30 _ (by omega)) g))⟩)))))))))
  · -- 2^31 - 1
    have ex : x = nI (2 ^ 31 - 1) := by
      apply Int32.toInt_inj.mp
      rw [Int32.le_iff_toInt_le, nI_toInt (by omega)] at hx
      rw [nI_toInt (by omega)]
      have := Int32.toInt_lt x
      omega
    rw [ex]
    refine OPR.look hS (.int (-1)) (fun d I J T Q h g => ?_) (fun d I J T Q h g => ?_)
    · exact Ev.intro mX11_count rfl rfl (ccount_0 (d := d + 42) (sw7 (Or.inr (Or.inr (Or.inr (Or.inr (Or.inr (Or.inr (Or.inr ⟨by decide, by decide, by decide, by decide, by decide, by decide, by decide, br1 (by decide) (br0 (by decide) (br1 (by decide) (br0 (by decide) (br1 (by decide) (br0 (by decide) g)))))⟩)))))))))
    · exact Ev.intro mX12_count rfl rfl (mcount_0 (d := d + 42) (sw7 (Or.inr (Or.inr (Or.inr (Or.inr (Or.inr (Or.inr (Or.inr ⟨by decide, by decide, by decide, by decide, by decide, by decide, by decide, br0 (by decide) (br0 (by decide) (br0 (by decide) g))⟩)))))))))
  by_cases h7 : j < 7
  · have look : ∀ v : Int32, (∀ (I : Nat → Nat → Int32) (J : Nat → Nat → Int64) (T : Nat → Nat → Nat), CINV S I J T → ((nI j = 0 ∧ v = I 1 0) ∨ (nI j = 1 ∧ v = I 1 1) ∨ (nI j = 2 ∧ v = I 1 2) ∨ (nI j = 3 ∧ v = I 0 8) ∨ (nI j = 4 ∧ TX (T 13 (0 : Int32).toNatClampNeg) ∧ v = v_X2_clausesOf (0 : Int32) I T) ∨ (nI j = 5 ∧ v = I 7 0) ∨ (nI j = 6 ∧ v = I 76 0))) → (∀ (I : Nat → Nat → Int32), MINV S I → ((nI j = 0 ∧ v = I 83 0) ∨ (nI j = 1 ∧ v = I 83 1) ∨ (nI j = 2 ∧ v = I 83 2) ∨ (nI j = 3 ∧ v = I 83 3) ∨ (nI j = 4 ∧ v = I 98 7) ∨ (nI j = 5 ∧ v = I 83 11) ∨ (nI j = 6 ∧ v = I 83 48))) → OPR S 153 286 [.int (nI j)] := fun v hc hm => by
      refine OPR.look hS (.int v) (fun d I J T Q h g => ?_) (fun d I J T Q h g => ?_)
      · refine Ev.intro mX11_count rfl rfl (ccount_0 (d := d + 42) (sw7 ?_))
        rcases hc I J T h with ⟨q, rfl⟩ | ⟨q, rfl⟩ | ⟨q, rfl⟩ | ⟨q, rfl⟩ | ⟨q, t, rfl⟩ | ⟨q, rfl⟩ | ⟨q, rfl⟩
        · exact Or.inl ⟨q, g⟩
        · exact Or.inr (Or.inl ⟨q, g⟩)
        · exact Or.inr (Or.inr (Or.inl ⟨q, g⟩))
        · exact Or.inr (Or.inr (Or.inr (Or.inl ⟨q, g⟩)))
        · exact Or.inr (Or.inr (Or.inr (Or.inr (Or.inl ⟨q, t, g⟩))))
        · exact Or.inr (Or.inr (Or.inr (Or.inr (Or.inr (Or.inl ⟨q, g⟩)))))
        · exact Or.inr (Or.inr (Or.inr (Or.inr (Or.inr (Or.inr (Or.inl ⟨q, g⟩))))))
      · refine Ev.intro mX12_count rfl rfl (mcount_0 (d := d + 42) (sw7 ?_))
        rcases hm I h with ⟨q, rfl⟩ | ⟨q, rfl⟩ | ⟨q, rfl⟩ | ⟨q, rfl⟩ | ⟨q, rfl⟩ | ⟨q, rfl⟩ | ⟨q, rfl⟩
        · exact Or.inl ⟨q, g⟩
        · exact Or.inr (Or.inl ⟨q, g⟩)
        · exact Or.inr (Or.inr (Or.inl ⟨q, g⟩))
        · exact Or.inr (Or.inr (Or.inr (Or.inl ⟨q, g⟩)))
        · exact Or.inr (Or.inr (Or.inr (Or.inr (Or.inl ⟨q, g⟩))))
        · exact Or.inr (Or.inr (Or.inr (Or.inr (Or.inr (Or.inl ⟨q, g⟩)))))
        · exact Or.inr (Or.inr (Or.inr (Or.inr (Or.inr (Or.inr (Or.inl ⟨q, g⟩))))))
    rcases (show j = 0 ∨ j = 1 ∨ j = 2 ∨ j = 3 ∨ j = 4 ∨ j = 5 ∨ j = 6 by omega) with rfl | rfl | rfl | rfl | rfl | rfl | rfl
    · exact look (nI (qN (zA S))) (fun I J T h => Or.inl ⟨rfl, h.1.1.symm⟩) (fun I h => Or.inl ⟨rfl, h.1.1.symm⟩)
    · exact look (nI (qC (zA S))) (fun I J T h => Or.inr (Or.inl ⟨rfl, h.1.2.1.symm⟩)) (fun I h => Or.inr (Or.inl ⟨rfl, h.1.2.1.symm⟩))
    · exact look (nI (qO (zA S))) (fun I J T h => Or.inr (Or.inr (Or.inl ⟨rfl, h.1.2.2.1.symm⟩))) (fun I h => Or.inr (Or.inr (Or.inl ⟨rfl, h.1.2.2.1.symm⟩)))
    · exact look (nI (zX S)) (fun I J T h => Or.inr (Or.inr (Or.inr (Or.inl ⟨rfl, h.2.2.2.2.2.1.symm⟩)))) (fun I h => Or.inr (Or.inr (Or.inr (Or.inl ⟨rfl, h.2.2.1.symm⟩))))
    · refine look (nI (qP (zA S) 0).1) (fun I J T h => Or.inr (Or.inr (Or.inr (Or.inr (Or.inl ⟨rfl, ?_, ?_⟩))))) (fun I h => Or.inr (Or.inr (Or.inr (Or.inr (Or.inl ⟨rfl, ?_⟩)))))
      · exact (told_c (s := 0) hA h.1 (by omega)).2.2.2
      · exact (told_c (s := 0) hA h.1 (by omega)).2.1.symm
      · exact (h.1.2.2.2.2.2.2.2.2 0 (by omega)).1.symm
    · exact look (nI (zT S).1) (fun I J T h => Or.inr (Or.inr (Or.inr (Or.inr (Or.inr (Or.inl ⟨rfl, h.2.2.2.2.2.2.2.1.1.symm⟩)))))) (fun I h => Or.inr (Or.inr (Or.inr (Or.inr (Or.inr (Or.inl ⟨rfl, h.2.2.2.2.1.1.symm⟩))))))
    · exact look (nI (lgN (zL S))) (fun I J T h => Or.inr (Or.inr (Or.inr (Or.inr (Or.inr (Or.inr ⟨rfl, h.2.2.2.2.2.2.1.1.symm⟩)))))) (fun I h => Or.inr (Or.inr (Or.inr (Or.inr (Or.inr (Or.inr ⟨rfl, h.2.2.2.1.1.symm⟩))))))
  have nn : ∀ k, k < 7 → ¬ nI j = nI k := fun k hk q => by
    have := (nI_eq (by omega) (by omega)).mp q
    omega
  have lt : ∀ c, c < 100 → j < c → nI j < nI c := fun c hc q => nI_lt q (by omega)
  have nl : ∀ c, c < 100 → c ≤ j → ¬ nI j < nI c := fun c hc q => nI_nlt q (by omega)
  have sb : ∀ c, c ≤ j → nI j - nI c = nI (j - c) := fun c hc => pk_sub hc
  have o0 : 10 ≤ j → (j < 13 → ¬ v_X11_isOther (nI j - nI 10) = 0) ∧ (13 ≤ j → v_X11_isOther (nI j - nI 10) = 0) := fun h => by
    rw [sb 10 h, oth_n (by omega)]
    exact ⟨fun q => by rw [if_neg (by omega)]; decide, fun q => if_pos (by omega)⟩
  have r0 : 20 ≤ j → (j < 24 → ¬ v_X11_isRule (nI j - nI 20) = 0) ∧ (24 ≤ j → v_X11_isRule (nI j - nI 20) = 0) := fun h => by
    rw [sb 20 h, rule_n (by omega)]
    exact ⟨fun q => by rw [if_neg (by omega)]; decide, fun q => if_pos (by omega)⟩
  have p0 : 30 ≤ j → (j < 35 → ¬ v_X11_isPlayer (nI j - nI 30) = 0) ∧ (35 ≤ j → v_X11_isPlayer (nI j - nI 30) = 0) := fun h => by
    rw [sb 30 h, play_n (by omega)]
    exact ⟨fun q => by rw [if_neg (by omega)]; decide, fun q => if_pos (by omega)⟩
  have iny : ∀ a b, a < 100 → b < 100 → a ≤ j → j ≤ b → ¬ v_X12_in (nI j) (nI a) (nI b) = 0 := fun a b ha hb h1 h2 => by
    rw [in_n (by omega) (by omega) (by omega), if_neg (by omega), if_neg (by omega)]; decide
  have inn : ∀ a b, a < 100 → b < 100 → (j < a ∨ b < j) → v_X12_in (nI j) (nI a) (nI b) = 0 := fun a b ha hb h => by
    rw [in_n (by omega) (by omega) (by omega)]
    by_cases q : j < a
    · rw [if_pos q]
    · rw [if_neg q, if_pos (by omega)]
  have seven : ∀ {P0 P1 P2 P3 P4 P5 P6 R : Prop}, R → (nI j = 0 → P0) ∧ (nI j = 1 → P1) ∧ (nI j = 2 → P2) ∧ (nI j = 3 → P3) ∧ (nI j = 4 → P4) ∧ (nI j = 5 → P5) ∧ (nI j = 6 → P6) ∧ (¬ nI j = 0 → ¬ nI j = 1 → ¬ nI j = 2 → ¬ nI j = 3 → ¬ nI j = 4 → ¬ nI j = 5 → ¬ nI j = 6 → R) := fun p => sw7 (Or.inr (Or.inr (Or.inr (Or.inr (Or.inr (Or.inr (Or.inr ⟨nn 0 (by omega), nn 1 (by omega), nn 2 (by omega), nn 3 (by omega), nn 4 (by omega), nn 5 (by omega), nn 6 (by omega), p⟩)))))))
  by_cases c1 : 10 ≤ j ∧ j < 13
  · refine OPR.look hS (.int (nI (qP (zA S) (1 + (j - 10))).1)) (fun d I J T Q h g => ?_) (fun d I J T Q h g => ?_)
    · obtain ⟨_, t2, t3, t4⟩ := told_c (s := 1 + (j - 10)) hA h.1 (by omega)
      have e : (1 : Int32) + nI j - (10 : Int32) = nI (1 + (j - 10)) := by
        rw [show (1 : Int32) = nI 1 from rfl, nI_add, show (10 : Int32) = nI 10 from rfl, pk_sub (by omega), show 1 + j - 10 = 1 + (j - 10) by omega]
      refine Ev.intro mX11_count rfl rfl (ccount_0 (d := d + 42) (seven (br1 (nl 10 (by omega) c1.1) (br1 ((o0 c1.1).1 c1.2) ?_))))
      rw [e, t2]
      exact ⟨t3, t4, g⟩
    · refine Ev.intro mX12_count rfl rfl (mcount_0 (d := d + 42) (seven (br1 (iny 10 12 (by omega) (by omega) c1.1 (by omega)) ?_)))
      rw [show nI j - (10 : Int32) = nI (j - 10) from sb 10 c1.1, nI_clamp (by omega), mth_c hA h.1 (by omega)]
      exact ⟨vp_in_nI (by omega) (by omega), g⟩
  by_cases c2 : 20 ≤ j ∧ j < 24
  · refine OPR.look hS (.int (nI (qP (zA S) (4 + (j - 20))).1)) (fun d I J T Q h g => ?_) (fun d I J T Q h g => ?_)
    · obtain ⟨_, t2, t3, t4⟩ := told_c (s := 4 + (j - 20)) hA h.1 (by omega)
      have e : (4 : Int32) + nI j - (20 : Int32) = nI (4 + (j - 20)) := by
        rw [show (4 : Int32) = nI 4 from rfl, nI_add, show (20 : Int32) = nI 20 from rfl, pk_sub (by omega), show 4 + j - 20 = 4 + (j - 20) by omega]
      refine Ev.intro mX11_count rfl rfl (ccount_0 (d := d + 42) (seven (br1 (nl 10 (by omega) (by omega)) (br0 ((o0 (by omega)).2 (by omega)) (br1 (nl 20 (by omega) c2.1) (br1 ((r0 c2.1).1 c2.2) ?_))))))
      rw [e, t2]
      exact ⟨t3, t4, g⟩
    · refine Ev.intro mX12_count rfl rfl (mcount_0 (d := d + 42) (seven (br0 (inn 10 12 (by omega) (by omega) (by omega)) (br1 (iny 20 23 (by omega) (by omega) c2.1 (by omega)) ?_))))
      have e : (3 : Int32) + nI j - (20 : Int32) = nI (3 + (j - 20)) := by
        rw [show (3 : Int32) = nI 3 from rfl, nI_add, show (20 : Int32) = nI 20 from rfl, pk_sub (by omega), show 3 + j - 20 = 3 + (j - 20) by omega]
      rw [e, nI_clamp (by omega), (mul_c (k := j - 20) hA h.1 (by omega)).2.2]
      exact ⟨vp_in_nI (by omega) (by omega), g⟩
  by_cases c3 : 30 ≤ j ∧ j < 35
  · refine OPR.look hS (.int (nI (qL (zA S) (j - 30)))) (fun d I J T Q h g => ?_) (fun d I J T Q h g => ?_)
    · have e : v_X7_legsAtFirst (nI (j - 30)) I = nI (qL (zA S) (j - 30)) := by
        show I 3 (nI (j - 30)).toNatClampNeg = _
        rw [nI_clamp (by omega)]
        exact h.1.2.2.2.2.2.1 _ (by omega)
      refine Ev.intro mX11_count rfl rfl (ccount_0 (d := d + 42) (seven (br1 (nl 10 (by omega) (by omega)) (br0 ((o0 (by omega)).2 (by omega)) (br1 (nl 20 (by omega) (by omega)) (br0 ((r0 (by omega)).2 (by omega)) (br1 (nl 30 (by omega) c3.1) (br1 ((p0 c3.1).1 c3.2) ?_))))))))
      rw [show nI j - (30 : Int32) = nI (j - 30) from sb 30 c3.1, e]
      exact ⟨vp_in_nI (by omega) (by omega), g⟩
    · refine Ev.intro mX12_count rfl rfl (mcount_0 (d := d + 42) (seven (br0 (inn 10 12 (by omega) (by omega) (by omega)) (br0 (inn 20 23 (by omega) (by omega) (by omega)) (br1 (iny 30 34 (by omega) (by omega) c3.1 (by omega)) ?_)))))
      rw [show nI j - (30 : Int32) = nI (j - 30) from sb 30 c3.1, nI_clamp (by omega), h.1.2.2.2.2.2.1 _ (show j - 30 < 5 by omega)]
      exact ⟨vp_in_nI (by omega) (by omega), g⟩
  refine OPR.look hS (.int (-1)) (fun d I J T Q h g => ?_) (fun d I J T Q h g => ?_)
  · refine Ev.intro mX11_count rfl rfl (ccount_0 (d := d + 42) (seven ?_))
    by_cases q1 : j < 10
    · exact br0 (lt 10 (by omega) q1) (br0 (lt 20 (by omega) (by omega)) (br0 (lt 30 (by omega) (by omega)) g))
    refine br1 (nl 10 (by omega) (by omega)) (br0 ((o0 (by omega)).2 (by omega)) ?_)
    by_cases q2 : j < 20
    · exact br0 (lt 20 (by omega) (by omega)) (br0 (lt 30 (by omega) (by omega)) g)
    refine br1 (nl 20 (by omega) (by omega)) (br0 ((r0 (by omega)).2 (by omega)) ?_)
    by_cases q3 : j < 30
    · exact br0 (lt 30 (by omega) (by omega)) g
    exact br1 (nl 30 (by omega) (by omega)) (br0 ((p0 (by omega)).2 (by omega)) g)
  · exact Ev.intro mX12_count rfl rfl (mcount_0 (d := d + 42) (seven (br0 (inn 10 12 (by omega) (by omega) (by omega)) (br0 (inn 20 23 (by omega) (by omega) (by omega)) (br0 (inn 30 34 (by omega) (by omega) (by omega)) g)))))
theorem op_season {S : St} (hS : PUR S) (x y : Int32) : OPR S 151 283 [.int x, .int y] := by
  have hA := hS.1
  have n1 : (-1 : Int32).toInt = -1 := rfl
  have refuse : (x < (1 : Int32) ∨ (¬ x < (1 : Int32) ∧ (8 : Int32) < x) ∨ (¬ x < (1 : Int32) ∧ ¬ (8 : Int32) < x ∧ (y < (-1 : Int32) ∨ (¬ y < (-1 : Int32) ∧ ¬ y < x ∧ x - (1 : Int32) < y)))) → OPR S 151 283 [.int x, .int y] := fun hr => by
    refine OPR.look hS (.int (-1)) (fun d I J T Q h g => ?_) (fun d I J T Q h g => ?_)
    · refine Ev.intro mX11_season rfl rfl (sea11_0 (d := d + 46) ?_)
      rcases hr with c | ⟨c1, c2⟩ | ⟨c1, c2, c3 | ⟨c3, c4, _⟩⟩
      · exact br0 c g
      · exact br1 c1 (br0 c2 g)
      · exact br1 c1 (br1 c2 (br0 c3 g))
      · exact br1 c1 (br1 c2 (br1 c3 (br1 c4 g)))
    · refine Ev.intro mX12_season rfl rfl (sn_0 (d := d + 46) ?_)
      rcases hr with c | ⟨c1, c2⟩ | ⟨c1, c2, c3⟩
      · exact br0 (if_pos c) g
      · refine br0 ?_ g
        unfold v_X12_in w1_X12_in
        rw [if_neg c1, if_pos c2]
      · refine br1 ?_ (br0 ?_ g)
        · unfold v_X12_in w1_X12_in
          rw [if_neg c1, if_neg c2]; decide
        · unfold v_X12_in w1_X12_in
          rcases c3 with c3 | ⟨c3, _, c4⟩
          · rw [if_pos c3]
          · rw [if_neg c3, if_pos c4]
  by_cases a1 : x < (1 : Int32)
  · exact refuse (Or.inl a1)
  by_cases a2 : (8 : Int32) < x
  · exact refuse (Or.inr (Or.inl ⟨a1, a2⟩))
  by_cases a3 : y < (-1 : Int32)
  · exact refuse (Or.inr (Or.inr ⟨a1, a2, Or.inl a3⟩))
  obtain ⟨L, hL, rfl⟩ : ∃ L, (1 ≤ L ∧ L ≤ 8) ∧ x = nI L := by
    have b1 := a1
    have b2 := a2
    rw [Int32.lt_iff_toInt_lt, show (1 : Int32).toInt = 1 from rfl] at b1
    rw [Int32.lt_iff_toInt_lt, show (8 : Int32).toInt = 8 from rfl] at b2
    have hx0 : ¬ x < 0 := by
      rw [Int32.lt_iff_toInt_lt, show (0 : Int32).toInt = 0 from rfl]; omega
    obtain ⟨L, hL, rfl⟩ := nI_of hx0
    rw [nI_toInt hL] at b1 b2
    exact ⟨L, by omega, rfl⟩
  by_cases a4 : y < nI L
  · have hw : y = -1 ∨ ∃ w, w < L ∧ y = nI w := by
      by_cases y1 : y = -1
      · exact Or.inl y1
      · have b3 := a3
        have b4 := a4
        rw [Int32.lt_iff_toInt_lt, n1] at b3
        have y0 : ¬ y < 0 := by
          rw [Int32.lt_iff_toInt_lt, show (0 : Int32).toInt = 0 from rfl]
          have : y.toInt ≠ -1 := fun q => y1 (Int32.toInt_inj.mp (by rw [q, n1]))
          omega
        obtain ⟨w, hw, rfl⟩ := nI_of y0
        exact Or.inr ⟨w, (nI_ltI hw (by omega)).mp b4, rfl⟩
    have go : ∀ v : Int32, (y = -1 → v = nI (sV (qG (zA S)) (qX (zA S)) L (stB (zF S)))) → (∀ w, w < L → y = nI w → v = nI (lR (qG (zA S)) (qX (zA S)) (L - w - 1) (pSt (qG (zA S)) (qX (zA S)) L (stB (zF S)) w))) → OPR S 151 283 [.int (nI L), .int y] := fun v v1 v2 => by
      refine ⟨.int v, S, hS, fun d I J T Q h g => ?_, fun d I J T Q h g => ?_⟩
      · have hG : GX (zA S) I := ⟨h.1.2.2.2.2.1, h.1.2.2.2.2.2.2.2.1⟩
        have fin : ∀ I' J', Fr [81] I I' → Fj [82] J J' → SMI (zA S) I' J' → Q (some (.int v)) (SH, mkM I' J' T) := fun I' J' f j s => by
          obtain ⟨h1, h2, h3, h4, h5, h6, h7, h8, h9⟩ := h
          exact g I' J' T (f.sub rfl) (j.sub rfl) ⟨h1.fr rfl f, h2.fr rfl rfl f j, h3.fr rfl j, h4, s, by rw [f 0 rfl]; exact h6, h7.fr rfl f, h8.fr rfl f, h9.fr rfl f⟩
        refine Ev.intro mX11_season rfl rfl (sea11_0 (d := d + 46) (br1 a1 (br1 a2 (br1 a3 (br0 a4 ?_)))))
        rcases hw with y1 | ⟨w, hw, y1⟩
        · refine br0 y1 (ev_plw (d := d + 19) hA hL.2 hS.2.2.2.2.2 h.2.2.2.2.2.2.2.2 hG h.2.2.2.2.1 (fun I' J' f j s => sea11_36 (d := d + 46) ?_))
          rw [← v1 y1]
          exact fin I' J' f j s
        · refine br1 ?_ ?_
          · rw [y1]; exact nIm1 (by omega)
          · rw [y1]
            refine ev_plr (d := d + 17) hA hL.2 hw hS.2.2.2.2.2 h.2.2.2.2.2.2.2.2 hG h.2.2.2.2.1 (fun I' J' f j s => sea11_48 (d := d + 46) ?_)
            rw [← v2 w hw y1]
            exact fin I' J' f j s
      · have hG : GM (zA S) I := ⟨h.1.2.2.2.2.1, h.1.2.2.2.2.2.2.2.1⟩
        refine ev_sn (d := d + 45) hA hL hS.2.2.2.2.2 h.2.2.2.2.2 hG hw (fun I' v' f u1 u2 => ?_)
        have ev : v' = v := by
          rcases hw with y1 | ⟨w, hw, y1⟩
          · rw [u1 y1, v1 y1]
          · rw [u2 w hw y1, v2 w hw y1]
        rw [ev]
        exact g I' J (f.sub rfl) (Fj.rfl' _ _) (h.scr (f.sub rfl))
    rcases hw with y1 | ⟨w, hw, y1⟩
    · refine go _ (fun _ => rfl) (fun w hw q => absurd (q.symm.trans y1) (nIm1 (by omega)))
    · refine go (nI (lR (qG (zA S)) (qX (zA S)) (L - w - 1) (pSt (qG (zA S)) (qX (zA S)) L (stB (zF S)) w))) (fun q => absurd (y1.symm.trans q) (nIm1 (by omega))) (fun w' hw' q => ?_)
      have : w = w' := (nI_eq (by omega) (by omega)).mp (y1.symm.trans q)
      rw [this]
  · refine refuse (Or.inr (Or.inr ⟨a1, a2, Or.inr ⟨a3, a4, ?_⟩⟩))
    rw [show nI L - (1 : Int32) = nI (L - 1) from pk_sub (b := 1) hL.1]
    rw [Int32.lt_iff_toInt_lt, nI_toInt (by omega)] at a4 ⊢
    omega
