/-! GAME: the reference, and both alike. -/
def sIo : Option Nat → Int32
  | none => 0
  | some _ => 1
def nLo : Option Nat → Int64
  | none => 0
  | some m => lN m
/-- the table of VALUES -/
def TBo (A : Tm) (J : Nat → Nat → Int64) : Prop := ∀ k j, k < 4 → j < 3 → rB A k = true → oB A j = true → J 112 (3 * k + j) = lN (vG A k j)
theorem ix3 {k j : Nat} : (3 : Int32) * nI k + nI j = nI (3 * k + j) := by
  rw [show (3 : Int32) = nI 3 from rfl, pk_mul, nI_add]
theorem m_rlb {A : Tm} {I : Nat → Nat → Int32} {k : Nat} (hA : BD A) (hR : RM A I) (hk : k < 4) : (rB A k = true → ¬ v_X12_isRule (nI k) I = 0) ∧ (rB A k = false → v_X12_isRule (nI k) I = 0) := by
  have h := (m_rl hA hR hk).1
  exact ⟨fun q z => (by have := h.mp z; rw [q] at this; cases this), fun q => h.mpr q⟩
theorem m_otb {A : Tm} {I : Nat → Nat → Int32} {j : Nat} (hA : BD A) (hR : RM A I) (hj : j < 3) : (oB A j = true → ¬ v_X12_isToldOther (nI j) I = 0) ∧ (oB A j = false → v_X12_isToldOther (nI j) I = 0) := by
  have h := (m_ot hA hR hj).1
  exact ⟨fun q z => (by have := h.mp z; rw [q] at this; cases this), fun q => h.mpr q⟩
theorem lst_go {A : Tm} {k d : Nat} (hA : BD A) (hk : k < 4) (hr : rB A k = true) {I : Nat → Nat → Int32} {J : Nat → Nat → Int64} {T : Nat → Nat → Nat} {Q : Option Value → Mem → Prop} (hR : RM A I) (hT : TBo A J) (g : Q (some (.long (nLo (wL A k)))) (SH, mkM I J T)) : ∀ n j, n + j = 3 → Go none aM (Ev mt aM (d + 5)) mX12_leastOf Q (8, [some (.ref 83), some (.int (nI k)), some (.long (nLo (lsF (fun o => rB A k && oB A o) (vG A k) j))), none, some (.int (sIo (lsF (fun o => rB A k && oB A o) (vG A k) j))), some (.int (nI j))], [], (SH, mkM I J T), 0, 0) := by
  intro n
  induction n with
  | zero =>
    intro j hj
    have : j = 3 := by omega
    subst this
    exact lst_8 (br0 (by decide) g)
  | succ n ih =>
    intro j hj
    obtain ⟨b1, b2⟩ := m_otb (j := j) hA hR (by omega)
    have ihj := ih (j + 1) (by omega)
    refine lst_8 (br1 (nI_ge (b := 3) (by omega) (by omega)) ⟨fun _ => (m_ot hA hR (by omega)).2, ?_⟩)
    rw [nI_1]
    cases ho : oB A j with
    | false =>
      have e : lsF (fun o => rB A k && oB A o) (vG A k) (j + 1) = lsF (fun o => rB A k && oB A o) (vG A k) j := if_neg (show ¬ (rB A k && oB A j) = true by rw [ho, Bool.and_false]; decide)
      rw [e] at ihj
      exact br0 (b2 ho) ihj
    | true =>
      have e : lsF (fun o => rB A k && oB A o) (vG A k) (j + 1) = (match lsF (fun o => rB A k && oB A o) (vG A k) j with
        | none => some (vG A k j)
        | some n => some (if vG A k j < n then vG A k j else n)) := if_pos (show (rB A k && oB A j) = true by rw [ho, hr]; rfl)
      have hv : vG A k j ≤ 10000000000000 := rV_lt hA hA.1.2 _ _
      have v12 : vp_in (nI (3 * k + j)) 12 := vp_in_nI (by omega) (by omega)
      rw [e] at ihj
      refine br1 (b1 ho) ?_
      rw [ix3, nI_clamp (by omega), hT k j hk (by omega) hr ho]
      revert ihj
      cases hl : lsF (fun o => rB A k && oB A o) (vG A k) j with
      | none =>
        intro ihj
        exact br0 rfl ⟨v12, ihj⟩
      | some q =>
        intro ihj
        have hq : q ≤ 10000000000000 := lsF_le (fun j => rV_lt hA hA.1.2 _ _) _ _ hl
        have ihj : Go none aM (Ev mt aM (d + 5)) mX12_leastOf Q (8, [some (.ref 83), some (.int (nI k)), some (.long (lN (if vG A k j < q then vG A k j else q))), none, some (.int (1 : Int32)), some (.int (nI (j + 1)))], [], (SH, mkM I J T), 0, 0) := ihj
        refine br1 (show ¬ (1 : Int32) = 0 by decide) ⟨v12, ?_⟩
        show (lg_cmp (lN (vG A k j)) (lN q) < 0 → _) ∧ (¬ lg_cmp (lN (vG A k j)) (lN q) < 0 → _)
        rw [lg_cmp_lt, pk_lLT (by omega) (by omega)]
        by_cases c : vG A k j < q
        · rw [if_pos c] at ihj
          exact br0 c ⟨v12, ihj⟩
        · rw [if_neg c] at ihj
          exact br1 c ihj
theorem ev_least {A : Tm} {k d : Nat} (hA : BD A) (hk : k < 4) (hr : rB A k = true) {I : Nat → Nat → Int32} {J : Nat → Nat → Int64} {T : Nat → Nat → Nat} {Q : Option Value → Mem → Prop} (hR : RM A I) (hT : TBo A J) (g : Q (some (.long (nLo (wL A k)))) (SH, mkM I J T)) : Ev mt aM (d + 6) 262 [.ref 83, .int (nI k)] (SH, mkM I J T) Q :=
  Ev.intro (d := d + 5) mX12_leastOf rfl rfl (lst_0 (d := d) (lst_go (d := d) hA hk hr hR hT g 3 0 rfl))
theorem gst_go {A : Tm} {j d : Nat} (hA : BD A) (hj : j < 3) (ho : oB A j = true) {I : Nat → Nat → Int32} {J : Nat → Nat → Int64} {T : Nat → Nat → Nat} {Q : Option Value → Mem → Prop} (hR : RM A I) (hT : TBo A J) (g : Q (some (.long (nLo (wH A j)))) (SH, mkM I J T)) : ∀ n k, n + k = 4 → Go none aM (Ev mt aM (d + 5)) mX12_greatestOf Q (8, [some (.ref 83), some (.int (nI j)), some (.long (nLo (gsF (fun k => rB A k && oB A j) (fun k => vG A k j) k))), none, some (.int (sIo (gsF (fun k => rB A k && oB A j) (fun k => vG A k j) k))), some (.int (nI k))], [], (SH, mkM I J T), 0, 0) := by
  intro n
  induction n with
  | zero =>
    intro k hk
    have : k = 4 := by omega
    subst this
    exact gst_8 (br0 (by decide) g)
  | succ n ih =>
    intro k hk
    obtain ⟨b1, b2⟩ := m_rlb (k := k) hA hR (by omega)
    have ihj := ih (k + 1) (by omega)
    refine gst_8 (br1 (nI_ge (b := 4) (by omega) (by omega)) ⟨fun _ _ => (m_rl hA hR (by omega)).2, ?_⟩)
    rw [nI_1]
    cases hr : rB A k with
    | false =>
      have e : gsF (fun k => rB A k && oB A j) (fun k => vG A k j) (k + 1) = gsF (fun k => rB A k && oB A j) (fun k => vG A k j) k := if_neg (show ¬ (rB A k && oB A j) = true by rw [hr]; show ¬ false = true; decide)
      rw [e] at ihj
      exact br0 (b2 hr) ihj
    | true =>
      have e : gsF (fun k => rB A k && oB A j) (fun k => vG A k j) (k + 1) = (match gsF (fun k => rB A k && oB A j) (fun k => vG A k j) k with
        | none => some (vG A k j)
        | some n => some (if vG A k j < n then n else vG A k j)) := if_pos (show (rB A k && oB A j) = true by rw [ho, hr]; rfl)
      have hv : vG A k j ≤ 10000000000000 := rV_lt hA hA.1.2 _ _
      have v12 : vp_in (nI (3 * k + j)) 12 := vp_in_nI (by omega) (by omega)
      rw [e] at ihj
      refine br1 (b1 hr) ?_
      rw [ix3, nI_clamp (by omega), hT k j (by omega) hj hr ho]
      revert ihj
      cases hl : gsF (fun k => rB A k && oB A j) (fun k => vG A k j) k with
      | none =>
        intro ihj
        exact br0 rfl ⟨v12, ihj⟩
      | some q =>
        intro ihj
        have hq : q ≤ 10000000000000 := gsF_le (fun j => rV_lt hA hA.1.2 _ _) _ _ hl
        have ihj : Go none aM (Ev mt aM (d + 5)) mX12_greatestOf Q (8, [some (.ref 83), some (.int (nI j)), some (.long (lN (if vG A k j < q then q else vG A k j))), none, some (.int (1 : Int32)), some (.int (nI (k + 1)))], [], (SH, mkM I J T), 0, 0) := ihj
        refine br1 (show ¬ (1 : Int32) = 0 by decide) ⟨v12, ?_⟩
        show (0 < lg_cmp (lN (vG A k j)) (lN q) → _) ∧ (¬ 0 < lg_cmp (lN (vG A k j)) (lN q) → _)
        rw [lg_cmp_gt, pk_lLT (by omega) (by omega)]
        by_cases c : q < vG A k j
        · rw [if_neg (by omega)] at ihj
          exact br0 c ⟨v12, ihj⟩
        · refine br1 c ?_
          by_cases c2 : vG A k j < q
          · rw [if_pos c2] at ihj
            exact ihj
          · rw [if_neg c2, show vG A k j = q by omega] at ihj
            exact ihj
theorem ev_great {A : Tm} {j d : Nat} (hA : BD A) (hj : j < 3) (ho : oB A j = true) {I : Nat → Nat → Int32} {J : Nat → Nat → Int64} {T : Nat → Nat → Nat} {Q : Option Value → Mem → Prop} (hR : RM A I) (hT : TBo A J) (g : Q (some (.long (nLo (wH A j)))) (SH, mkM I J T)) : Ev mt aM (d + 6) 263 [.ref 83, .int (nI j)] (SH, mkM I J T) Q :=
  Ev.intro (d := d + 5) mX12_greatestOf rfl rfl (gst_0 (d := d) (gst_go (d := d) hA hj ho hR hT g 4 0 rfl))
/-- one match by a RULE, solved -/
theorem ev_rsolve {A : Tm} {k j d : Nat} (hA : BD A) (hk : k < 4) (hj : j < 3) {I : Nat → Nat → Int32} {J : Nat → Nat → Int64} {T : Nat → Nat → Nat} {Q : Option Value → Mem → Prop} (hR : RM A I) (hN : RN (qC A) (qO A) 0 I) (g : ∀ I' J', Fr [103, 104, 105, 106, 111] I I' → Fj [83, 107, 108, 109, 110] J J' → Q (some (.long (lN (vG A k j)))) (SH, mkM I' J' T)) : Ev mt aM (d + 10) 248 [.ref 83, .int (0 : Int32), .int (0 : Int32), .int (1536 : Int32), .int (nI k), .int (nI j)] (SH, mkM I J T) Q := by
  have key := ev_solves (T := T) (J := J) (Q := Q) (r := some k) (d := d) (l0 := qN A) (s0 := 2) (o0 := 1536) hA hj (by omega) hA.2.1 (on3 hA) (fun k' h => by cases h; exact ⟨hk, rfl, rfl, rfl⟩) hR hN (Nat.le_refl _) (by omega) cd1536.1 (by rw [cd1536.2.1]; omega) (fun I' J' f1 j1 _ _ => g I' J' f1 j1)
  rw [Nat.sub_self, scI_2] at key
  exact key
/-- while the reference plays -/
def PI (A : Tm) (I0 : Nat → Nat → Int32) (J0 : Nat → Nat → Int64) (k j : Nat) (I : Nat → Nat → Int32) (J : Nat → Nat → Int64) : Prop := RM A I ∧ RN (qC A) (qO A) 0 I ∧ Fr [103, 104, 105, 106, 111] I0 I ∧ Fj [83, 107, 108, 109, 110, 112] J0 J ∧ ∀ k' j', (k' < k ∨ (k' = k ∧ j' < j)) → k' < 4 → j' < 3 → rB A k' = true → oB A j' = true → J 112 (3 * k' + j') = lN (vG A k' j')
theorem ply_go {A : Tm} {d : Nat} (hA : BD A) {I0 : Nat → Nat → Int32} {J0 : Nat → Nat → Int64} {T : Nat → Nat → Nat} {Q : Option Value → Mem → Prop} (g : ∀ I J, PI A I0 J0 4 0 I J → Q none (SH, mkM I J T)) : ∀ n k I J, n + k = 4 → PI A I0 J0 k 0 I J → Go none aM (Ev mt aM (d + 29)) mX12_plays Q (2, [some (.ref 83), some (.int (nI k)), none], [], (SH, mkM I J T), 0, 0) := by
  intro n
  induction n with
  | zero =>
    intro k I J hk h
    have : k = 4 := by omega
    subst this
    exact ply_2 (br0 (by decide) (g I J h))
  | succ n ih =>
    intro k I J hk h
    refine ply_2 (br1 (nI_ge (b := 4) (by omega) (by omega)) ?_)
    have inner : ∀ m j I J, m + j = 3 → PI A I0 J0 k j I J → Go none aM (Ev mt aM (d + 29)) mX12_plays Q (9, [some (.ref 83), some (.int (nI k)), some (.int (nI j))], [], (SH, mkM I J T), 0, 0) := by
      intro m
      induction m with
      | zero =>
        intro j I J hj h
        have : j = 3 := by omega
        subst this
        refine ply_9 (br0 (by decide) ?_)
        rw [nI_1]
        refine ih (k + 1) I J (by omega) ⟨h.1, h.2.1, h.2.2.1, h.2.2.2.1, fun k' j' hc h1 h2 => h.2.2.2.2 k' j' (by omega) h1 h2⟩
      | succ m ihm =>
        intro j I J hj h
        obtain ⟨b1, b2⟩ := m_rlb (k := k) hA h.1 (by omega)
        obtain ⟨c1, c2⟩ := m_otb (j := j) hA h.1 (by omega)
        refine ply_9 (br1 (nI_ge (b := 3) (by omega) (by omega)) ⟨fun _ _ => (m_rl hA h.1 (by omega)).2, ?_⟩)
        rw [nI_1]
        have skip : (rB A k = true → oB A j = true → False) → PI A I0 J0 k (j + 1) I J := fun hn => ⟨h.1, h.2.1, h.2.2.1, h.2.2.2.1, fun k' j' hc h1 h2 r o => by
          by_cases q : k' = k ∧ j' = j
          · exact (hn (q.1 ▸ r) (q.2 ▸ o)).elim
          · exact h.2.2.2.2 k' j' (by omega) h1 h2 r o⟩
        cases hr : rB A k with
        | false => exact br0 (b2 hr) (ihm (j + 1) I J (by omega) (skip (fun r _ => by rw [hr] at r; cases r)))
        | true =>
          refine br1 (b1 hr) ⟨fun _ => (m_ot hA h.1 (by omega)).2, ?_⟩
          cases ho : oB A j with
          | false => exact br0 (c2 ho) (ihm (j + 1) I J (by omega) (skip (fun _ o => by rw [ho] at o; cases o)))
          | true =>
            refine br1 (c1 ho) (ev_rsolve (d := d + 19) hA (by omega) (by omega) h.1 h.2.1 (fun I1 J1 f1 j1 => ply_50 (d := d) ?_))
            rw [ix3, nI_clamp (by omega), nI_1]
            refine ⟨vp_in_nI (by omega) (by omega), ihm (j + 1) I1 _ (by omega) ⟨h.1.fr rfl f1, h.2.1.fr rfl f1, h.2.2.1.trans f1, ?_, fun k' j' hc h1 h2 r o => ?_⟩⟩
            · exact (h.2.2.2.1.trans (j1.sub rfl)).to rfl
            · by_cases q : k' = k ∧ j' = j
              · rw [q.1, q.2]; exact sj_at
              · rw [sj_ne (by omega), j1 112 rfl]
                exact h.2.2.2.2 k' j' (by omega) h1 h2 r o
    exact inner 3 0 I J rfl h
theorem ev_plays {A : Tm} {d : Nat} (hA : BD A) {I : Nat → Nat → Int32} {J : Nat → Nat → Int64} {T : Nat → Nat → Nat} {Q : Option Value → Mem → Prop} (hR : RM A I) (hN : RN (qC A) (qO A) 0 I) (g : ∀ I' J', RM A I' → Fr [103, 104, 105, 106, 111] I I' → Fj [83, 107, 108, 109, 110, 112] J J' → TBo A J' → Q none (SH, mkM I' J' T)) : Ev mt aM (d + 30) 260 [.ref 83] (SH, mkM I J T) Q := by
  refine Ev.intro (d := d + 29) mX12_plays rfl rfl (ply_0 (d := d) (ply_go (d := d) (I0 := I) (J0 := J) hA (fun I' J' h => g I' J' h.1 h.2.2.1 h.2.2.2.1 (fun k j h1 h2 r o => h.2.2.2.2 k j (by omega) h1 h2 r o)) 4 0 I J rfl ⟨hR, hN, Fr.rfl' _ _, Fj.rfl' _ _, fun k' j' hc => by omega⟩))
