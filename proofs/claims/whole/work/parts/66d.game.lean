/-! GAME, both alike. -/
theorem orI (a b : Bool) : (if bqI a = 0 then bqI b else 1) = bqI (a || b) := by cases a <;> cases b <;> rfl
theorem some_c {A : Tm} {I : Nat → Nat → Int32} (hA : BD A) (hR : RM A I) : (v_X12_isSome I = 0 ∧ ((∀ k, k < 4 → rB A k = false) ∨ ∀ j, j < 3 → oB A j = false)) ∨ (v_X12_isSome I = 1 ∧ (∃ k, k < 4 ∧ rB A k = true) ∧ ∃ j, j < 3 ∧ oB A j = true) := by
  have er : ∀ k, k < 4 → (if v_X12_isRule (nI k) I = 0 then (0 : Int32) else 1) = bqI (rB A k) := fun k hk => by
    obtain ⟨b1, b2⟩ := m_rlb (k := k) hA hR hk
    cases h : rB A k with
    | false => rw [if_pos (b2 h)]; rfl
    | true => rw [if_neg (b1 h)]; rfl
  have eo : ∀ j, j < 3 → (if v_X12_isToldOther (nI j) I = 0 then (0 : Int32) else 1) = bqI (oB A j) := fun j hj => by
    obtain ⟨b1, b2⟩ := m_otb (j := j) hA hR hj
    cases h : oB A j with
    | false => rw [if_pos (b2 h)]; rfl
    | true => rw [if_neg (b1 h)]; rfl
  have a0 : w1_X12_isSome I = bqI (rB A 0) := er 0 (by omega)
  have a1 : w2_X12_isSome I = bqI (rB A 1) := er 1 (by omega)
  have a2 : w4_X12_isSome I = bqI (rB A 2) := er 2 (by omega)
  have a3 : w6_X12_isSome I = bqI (rB A 3) := er 3 (by omega)
  have c0 : w8_X12_isSome I = bqI (oB A 0) := eo 0 (by omega)
  have c1 : w9_X12_isSome I = bqI (oB A 1) := eo 1 (by omega)
  have c2 : w11_X12_isSome I = bqI (oB A 2) := eo 2 (by omega)
  have e : v_X12_isSome I = (if (if (if (if bqI (rB A 0) = 0 then bqI (rB A 1) else 1) = 0 then bqI (rB A 2) else 1) = 0 then bqI (rB A 3) else 1) = 0 then (0 : Int32) else (if (if (if bqI (oB A 0) = 0 then bqI (oB A 1) else 1) = 0 then bqI (oB A 2) else 1) = 0 then 0 else 1)) := by
    unfold v_X12_isSome w14_X12_isSome w13_X12_isSome w12_X12_isSome w10_X12_isSome w7_X12_isSome w5_X12_isSome w3_X12_isSome
    rw [a0, a1, a2, a3, c0, c1, c2]
  have k4 : ∀ k, k < 4 → k = 0 ∨ k = 1 ∨ k = 2 ∨ k = 3 := fun k hk => by omega
  have j3 : ∀ j, j < 3 → j = 0 ∨ j = 1 ∨ j = 2 := fun j hj => by omega
  rw [e, orI, orI, orI, orI, orI]
  cases hr : (((rB A 0 || rB A 1) || rB A 2) || rB A 3) with
  | false =>
    obtain ⟨q1, q2⟩ := (Bool.or_eq_false_iff).mp hr
    obtain ⟨q3, q4⟩ := (Bool.or_eq_false_iff).mp q1
    obtain ⟨q5, q6⟩ := (Bool.or_eq_false_iff).mp q3
    exact Or.inl ⟨rfl, Or.inl (fun k hk => by rcases k4 k hk with rfl | rfl | rfl | rfl <;> assumption)⟩
  | true =>
    cases ho : ((oB A 0 || oB A 1) || oB A 2) with
    | false =>
      obtain ⟨q1, q2⟩ := (Bool.or_eq_false_iff).mp ho
      obtain ⟨q3, q4⟩ := (Bool.or_eq_false_iff).mp q1
      exact Or.inl ⟨rfl, Or.inr (fun j hj => by rcases j3 j hj with rfl | rfl | rfl <;> assumption)⟩
    | true =>
      refine Or.inr ⟨rfl, ?_, ?_⟩
      · rcases (Bool.or_eq_true_iff).mp hr with q | q
        · rcases (Bool.or_eq_true_iff).mp q with q | q
          · rcases (Bool.or_eq_true_iff).mp q with q | q
            · exact ⟨0, by omega, q⟩
            · exact ⟨1, by omega, q⟩
          · exact ⟨2, by omega, q⟩
        · exact ⟨3, by omega, q⟩
      · rcases (Bool.or_eq_true_iff).mp ho with q | q
        · rcases (Bool.or_eq_true_iff).mp q with q | q
          · exact ⟨0, by omega, q⟩
          · exact ⟨1, by omega, q⟩
        · exact ⟨2, by omega, q⟩
theorem gm_none {A : Tm} (h : (∀ k, k < 4 → rB A k = false) ∨ ∀ j, j < 3 → oB A j = false) (w : Nat) : gmV A w = -1 := by
  have e1 : grF (wL A) 4 = none := by
    refine grF_none 4 (fun k hk => ?_)
    refine lsF_none 3 (fun j hj => ?_)
    rcases h with h | h
    · rw [h k hk]; rfl
    · rw [h j hj, Bool.and_false]
  have e2 : lrF (wH A) 3 = none := by
    refine lrF_none 3 (fun j hj => ?_)
    refine gsF_none 4 (fun k hk => ?_)
    rcases h with h | h
    · show (rB A k && oB A j) = false
      rw [h k hk]; rfl
    · show (rB A k && oB A j) = false
      rw [h j hj, Bool.and_false]
  rcases w with _ | _ | _ | w
  · show gLo (grF (wL A) 4) = -1
    rw [e1]; rfl
  · show (gRl (grF (wL A) 4)).toInt64 = -1
    rw [e1]; decide
  · show gLo (lrF (wH A) 3) = -1
    rw [e2]; rfl
  · show (gRl (lrF (wH A) 3)).toInt64 = -1
    rw [e2]; decide
theorem wL_no {A : Tm} {k : Nat} (h : rB A k = false) : wL A k = none := lsF_none 3 (fun j _ => by show (rB A k && oB A j) = false; rw [h]; rfl)
theorem wH_no {A : Tm} {j : Nat} (h : oB A j = false) : wH A j = none := gsF_none 4 (fun k _ => by show (rB A k && oB A j) = false; rw [h, Bool.and_false])
theorem wL_yes {A : Tm} {k : Nat} (h : rB A k = true) (ho : ∃ j, j < 3 ∧ oB A j = true) : ∃ n, wL A k = some n := by
  obtain ⟨j, hj, h2⟩ := ho
  exact lsF_some 3 ⟨j, hj, by show (rB A k && oB A j) = true; rw [h, h2]; rfl⟩
theorem wH_yes {A : Tm} {j : Nat} (h : oB A j = true) (hr : ∃ k, k < 4 ∧ rB A k = true) : ∃ n, wH A j = some n := by
  obtain ⟨k, hk, h2⟩ := hr
  exact gsF_some 4 ⟨k, hk, by show (rB A k && oB A j) = true; rw [h, h2]; rfl⟩
theorem wL_r {A : Tm} {k n : Nat} (h : wL A k = some n) : rB A k = true := by
  cases hr : rB A k with
  | true => rfl
  | false => rw [wL_no hr] at h; cases h
theorem wH_o {A : Tm} {j n : Nat} (h : wH A j = some n) : oB A j = true := by
  cases hr : oB A j with
  | true => rfl
  | false => rw [wH_no hr] at h; cases h
section MGM
variable {A : Tm} {w d : Nat} {I : Nat → Nat → Int32} {J : Nat → Nat → Int64} {T : Nat → Nat → Nat} {Q : Option Value → Mem → Prop}
/-- the OTHERS' half -/
theorem mgm_lo (hA : BD A) (hw : w ≤ 3) (hR : RM A I) (hT : TBo A J) (hk : ∃ k, k < 4 ∧ rB A k = true) (ho : ∃ j, j < 3 ∧ oB A j = true) (g : Q (some (.long (gmV A w))) (SH, mkM I J T)) : ∀ n j, n + j = 3 → Go none aM (Ev mt aM (d + 30)) mX12_game Q (73, [some (.ref 83), some (.int (nI w)), some (.int (gRl (grF (wL A) 4))), some (.int (gRl (lrF (wH A) j))), some (.int (nI j))], [], (SH, mkM I J T), 0, 0) := by
  intro n
  induction n with
  | zero =>
    intro j hj
    have : j = 3 := by omega
    subst this
    refine mgm_73 (br0 (by decide) ?_)
    obtain ⟨k0, hk0, hk1⟩ := hk
    obtain ⟨j0, hj0, hj1⟩ := ho
    obtain ⟨n0, hn0⟩ := wL_yes hk1 ⟨j0, hj0, hj1⟩
    obtain ⟨n1, hn1⟩ := wH_yes hj1 ⟨k0, hk0, hk1⟩
    obtain ⟨p, hp⟩ := grF_some 4 ⟨k0, n0, hk0, hn0⟩
    obtain ⟨q, hq⟩ := lrF_some 3 ⟨j0, n1, hj0, hn1⟩
    obtain ⟨p1, p2⟩ := grF_at _ _ hp
    obtain ⟨q1, q2⟩ := lrF_at _ _ hq
    rw [hp, hq]
    rcases (show w = 0 ∨ w = 1 ∨ w = 2 ∨ w = 3 by omega) with rfl | rfl | rfl | rfl
    · refine br0 rfl (ev_least (d := d + 24) (k := p.2) hA p1 (wL_r p2) hR hT (mgm_126 ?_))
      have g : Q (some (.long (gLo (grF (wL A) 4)))) (SH, mkM I J T) := g
      rw [hp] at g
      rw [p2]
      exact g
    · have g : Q (some (.long (gRl (grF (wL A) 4)).toInt64)) (SH, mkM I J T) := g
      rw [hp] at g
      exact br1 (by decide) (br0 rfl g)
    · refine br1 (by decide) (br1 (by decide) (br0 rfl (ev_great (d := d + 24) (j := q.2) hA q1 (wH_o q2) hR hT (mgm_149 ?_))))
      have g : Q (some (.long (gLo (lrF (wH A) 3)))) (SH, mkM I J T) := g
      rw [hq] at g
      rw [q2]
      exact g
    · have g : Q (some (.long (gRl (lrF (wH A) 3)).toInt64)) (SH, mkM I J T) := g
      rw [hq] at g
      exact br1 (by decide) (br1 (by decide) (br1 (by decide) g))
  | succ n ih =>
    intro j hj
    obtain ⟨b1, b2⟩ := m_otb (j := j) hA hR (by omega)
    have ihj := ih (j + 1) (by omega)
    have eS : lrF (wH A) (j + 1) = (match wH A j with
      | none => lrF (wH A) j
      | some n => match lrF (wH A) j with
        | none => some (n, j)
        | some p => if n < p.1 then some (n, j) else some p) := rfl
    rw [eS] at ihj
    refine mgm_73 (br1 (nI_ge (b := 3) (by omega) (by omega)) ⟨fun _ => (m_ot hA hR (by omega)).2, ?_⟩)
    rw [nI_1]
    cases hb : oB A j with
    | false =>
      rw [wH_no hb] at ihj
      exact br0 (b2 hb) ihj
    | true =>
      obtain ⟨m, hm⟩ := wH_yes hb hk
      rw [hm] at ihj
      have hm9 := wH_le hA hm
      refine br1 (b1 hb) ?_
      revert ihj
      cases hl : lrF (wH A) j with
      | none =>
        intro ihj
        exact br0 rfl ihj
      | some p =>
        intro ihj
        obtain ⟨p1, p2⟩ := lrF_at _ _ hl
        have hp9 := wH_le hA p2
        have ihj : Go none aM (Ev mt aM (d + 30)) mX12_game Q (73, [some (.ref 83), some (.int (nI w)), some (.int (gRl (grF (wL A) 4))), some (.int (gRl (if m < p.1 then some (m, j) else some p))), some (.int (nI (j + 1)))], [], (SH, mkM I J T), 0, 0) := ihj
        refine br1 (nIm1 (n := p.2) (by omega)) (ev_great (d := d + 24) (j := j) hA (by omega) hb hR hT (mgm_99 (ev_great (d := d + 24) (j := p.2) hA (by omega) (wH_o p2) hR hT (mgm_104 ?_))))
        rw [hm, p2]
        show (0 ≤ lg_cmp (lN m) (lN p.1) → _) ∧ (¬ 0 ≤ lg_cmp (lN m) (lN p.1) → _)
        rw [lg_cmp_ge, pk_lLE (by omega) (by omega), nI_1]
        by_cases c : m < p.1
        · rw [if_pos c] at ihj
          exact br1 (by omega) ihj
        · rw [if_neg c] at ihj
          exact br0 (by omega) ihj
theorem mgm_rl (hA : BD A) (hw : w ≤ 3) (hR : RM A I) (hT : TBo A J) (hk : ∃ k, k < 4 ∧ rB A k = true) (ho : ∃ j, j < 3 ∧ oB A j = true) (g : Q (some (.long (gmV A w))) (SH, mkM I J T)) : ∀ n k, n + k = 4 → Go none aM (Ev mt aM (d + 30)) mX12_game Q (28, [some (.ref 83), some (.int (nI w)), some (.int (gRl (grF (wL A) k))), some (.int (nI k)), none], [], (SH, mkM I J T), 0, 0) := by
  intro n
  induction n with
  | zero =>
    intro k hk4
    have : k = 4 := by omega
    subst this
    exact mgm_28 (br0 (by decide) (mgm_lo (d := d) hA hw hR hT hk ho g 3 0 rfl))
  | succ n ih =>
    intro k hk4
    obtain ⟨b1, b2⟩ := m_rlb (k := k) hA hR (by omega)
    have ihj := ih (k + 1) (by omega)
    have eS : grF (wL A) (k + 1) = (match wL A k with
      | none => grF (wL A) k
      | some n => match grF (wL A) k with
        | none => some (n, k)
        | some p => if p.1 < n then some (n, k) else some p) := rfl
    rw [eS] at ihj
    refine mgm_28 (br1 (nI_ge (b := 4) (by omega) (by omega)) ⟨fun _ _ => (m_rl hA hR (by omega)).2, ?_⟩)
    rw [nI_1]
    cases hb : rB A k with
    | false =>
      rw [wL_no hb] at ihj
      exact br0 (b2 hb) ihj
    | true =>
      obtain ⟨m, hm⟩ := wL_yes hb ho
      rw [hm] at ihj
      have hm9 := wL_le hA hm
      refine br1 (b1 hb) ?_
      revert ihj
      cases hl : grF (wL A) k with
      | none =>
        intro ihj
        exact br0 rfl ihj
      | some p =>
        intro ihj
        obtain ⟨p1, p2⟩ := grF_at _ _ hl
        have hp9 := wL_le hA p2
        have ihj : Go none aM (Ev mt aM (d + 30)) mX12_game Q (28, [some (.ref 83), some (.int (nI w)), some (.int (gRl (if p.1 < m then some (m, k) else some p))), some (.int (nI (k + 1))), none], [], (SH, mkM I J T), 0, 0) := ihj
        refine br1 (nIm1 (n := p.2) (by omega)) (ev_least (d := d + 24) (k := k) hA (by omega) hb hR hT (mgm_51 (ev_least (d := d + 24) (k := p.2) hA (by omega) (wL_r p2) hR hT (mgm_56 ?_))))
        rw [hm, p2]
        show (lg_cmp (lN m) (lN p.1) ≤ 0 → _) ∧ (¬ lg_cmp (lN m) (lN p.1) ≤ 0 → _)
        rw [lg_cmp_le, pk_lLE (by omega) (by omega), nI_1]
        by_cases c : p.1 < m
        · rw [if_pos c] at ihj
          exact br1 (by omega) ihj
        · rw [if_neg c] at ihj
          exact br0 (by omega) ihj
end MGM
theorem op_game {S : St} (hS : PUR S) (x : Int32) : OPR S 141 264 [.int x] := by
  have hA := hS.1
  rcases rg_ar x (b := 3) (by omega) with ⟨w, w1, rfl, w2, w3, w4⟩ | ⟨w1, w2⟩
  · refine OPR.scratch hS (.long (gmV (zA S) w)) (fun d I J T Q h g => ?_) (fun d I J T Q h g => ?_)
    · have fin : ∀ I' J', WI (zA S) I J T I' J' → Q (some (.long (gmV (zA S) w))) (SH, mkM I' J' T) := fun I' J' k => g I' J' (k.2.2.1.sub rfl) (k.2.2.2.sub rfl) (h.2.1.fr rfl rfl k.2.2.1 k.2.2.2) k.2.1
      have h0 : WI (zA S) I J T I J := ⟨h.1, h.2.2.1, Fr.rfl' _ _, Fj.rfl' _ _⟩
      refine Ev.intro mX11_game rfl rfl (cgm_0 (d := d + 19) (br1 w2 (br0 (nI_le (b := 3) w1 (by omega)) ?_)))
      by_cases c : 2 ≤ w
      · refine br0 (nI_le (a := 2) c (by omega)) ?_
        rw [show nI w - (2 : Int32) = nI (w - 2) by rw [show (2 : Int32) = nI 2 from rfl, pk_sub c]]
        refine Ev.intro (d := d + 48) mX11_gameHigh rfl rfl (ghi_0 (d := d + 19) (ghi_out (w := w - 2) (d := d + 19) hA (by omega) (I0 := I) (J0 := J) (fun I' J' k => cgm_33 (d := d + 19) ?_) 3 0 I J rfl h0))
        rw [show 2 + (w - 2) = w by omega]
        exact fin I' J' k
      · refine br1 (nI_ge (b := 2) (by omega) (by omega)) ?_
        exact Ev.intro (d := d + 48) mX11_gameLow rfl rfl (glo_0 (d := d + 19) (glo_out (w := w) (d := d + 19) hA (by omega) (I0 := I) (J0 := J) (fun I' J' k => cgm_23 (d := d + 19) (fin I' J' k)) 4 0 I J rfl h0))
    · refine Ev.intro mX12_game rfl rfl (mgm_0 (d := d + 19) (br1 (ne0 w4) (ev_X12_isSome (d := d + 46) (mgm_13 (d := d + 19) ?_))))
      rcases some_c hA h.1 with ⟨s1, s2⟩ | ⟨s1, s2, s3⟩
      · have g := g I J (Fr.rfl' _ _) (Fj.rfl' _ _) h
        rw [gm_none s2] at g
        exact br0 s1 g
      · refine br1 (ne0 s1) (ev_plays (d := d + 19) hA h.1 h.2.1 (fun I' J' r' f' j' t' => mgm_24 (d := d + 19) (mgm_rl (d := d + 19) hA w1 r' t' s2 s3 (g I' J' (f'.sub rfl) (j'.sub rfl) (h.scr (f'.sub rfl))) 4 0 rfl)))
  · refine OPR.look hS (.long (-1)) (fun d I J T Q h g => ?_) (fun d I J T Q h g => ?_)
    · refine Ev.intro mX11_game rfl rfl (cgm_0 (d := d + 19) ?_)
      by_cases c : x < 0
      · exact br0 c g
      refine br1 c (br1 (fun z => ?_) g)
      rcases w1 with q | q
      · exact c q
      · have q : (3 : Int32) < x := q
        rw [Int32.lt_iff_toInt_lt] at q
        rw [Int32.le_iff_toInt_le] at z
        omega
    · exact Ev.intro mX12_game rfl rfl (mgm_0 (d := d + 19) (br0 w2 g))
