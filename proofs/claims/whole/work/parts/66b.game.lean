/-! GAME: the class and the reference. -/
/-- what the class keeps while it plays -/
def WI (A : Tm) (I0 : Nat → Nat → Int32) (J0 : Nat → Nat → Int64) (T : Nat → Nat → Nat) (I : Nat → Nat → Int32) (J : Nat → Nat → Int64) : Prop := RC A I T ∧ IW A J ∧ Fr [10, 11, 12] I0 I ∧ Fj [74, 75] J0 J
theorem neg_lt : lg_cmp (-1 : Int64) (0 : Int64) < 0 := by decide
theorem pos_nlt {n : Nat} (h : n < 2 ^ 63) : ¬ lg_cmp (lN n) (0 : Int64) < 0 := by
  rw [lg_cmp_lt, show (0 : Int64) = lN 0 from rfl, pk_lLT h (by omega)]
  omega
theorem neg_llt {n : Nat} (h : n < 2 ^ 63) : (-1 : Int64) < lN n := by
  rw [Int64.lt_iff_toInt_lt, pk_lT h, show (-1 : Int64).toInt = -1 by decide]
  omega
theorem neg_lle {n : Nat} (h : n < 2 ^ 63) : (-1 : Int64) ≤ lN n := by
  rw [Int64.le_iff_toInt_le, pk_lT h, show (-1 : Int64).toInt = -1 by decide]
  omega
theorem nle_neg {n : Nat} (h : n < 2 ^ 63) : ¬ lN n ≤ (-1 : Int64) := by
  rw [Int64.le_iff_toInt_le, pk_lT h, show (-1 : Int64).toInt = -1 by decide]
  omega
theorem nlt_neg {n : Nat} (h : n < 2 ^ 63) : ¬ lN n < (-1 : Int64) := by
  rw [Int64.lt_iff_toInt_lt, pk_lT h, show (-1 : Int64).toInt = -1 by decide]
  omega
theorem glo_in {A : Tm} {w rl : Int32} {lo : Int64} {k d : Nat} (hA : BD A) (hk : k < 4) {I0 : Nat → Nat → Int32} {J0 : Nat → Nat → Int64} {T : Nat → Nat → Nat} {Q : Option Value → Mem → Prop} (g : ∀ I J, WI A I0 J0 T I J → Go none aM (Ev mt aM (d + 29)) mX11_gameLow Q (24, [some (.ref 0), some (.int w), some (.long lo), none, some (.int rl), some (.int (nI k)), some (.long (oL (lsF (fun o => rB A k && oB A o) (vG A k) 3))), none, some (.int (nI 3)), none, none], [], (SH, mkM I J T), 0, 0)) : ∀ n o I J, n + o = 3 → WI A I0 J0 T I J → Go none aM (Ev mt aM (d + 29)) mX11_gameLow Q (24, [some (.ref 0), some (.int w), some (.long lo), none, some (.int rl), some (.int (nI k)), some (.long (oL (lsF (fun o => rB A k && oB A o) (vG A k) o))), none, some (.int (nI o)), none, none], [], (SH, mkM I J T), 0, 0) := by
  intro n
  induction n with
  | zero =>
    intro o I J ho h
    have : o = 3 := by omega
    subst this
    exact g I J h
  | succ n ih =>
    intro o I J ho h
    obtain ⟨m1, m2, m3, m4, m5⟩ := c_met (k := k) (j := o) hA h.1 hk (by omega)
    have hV : ∀ j, vG A k j ≤ 10000000000000 := fun j => rV_lt hA hA.1.2 _ _
    refine glo_24 (br1 (nI_ge (b := 3) (by omega) (by omega)) ⟨m2, m3, fun _ => ⟨m4, m5⟩, ?_⟩)
    by_cases c : v_X11_isMet (nI k) (nI o) I T = 0
    · refine br0 c (br0 neg_lt ?_)
      rw [nI_1]
      have := ih (o + 1) I J (by omega) h
      rw [show lsF (fun o => rB A k && oB A o) (vG A k) (o + 1) = lsF (fun o => rB A k && oB A o) (vG A k) o from if_neg (show ¬ (rB A k && oB A o) = true by rw [m1.mp c]; decide)] at this
      exact this
    · have cp : (rB A k && oB A o) = true := by
        cases hb : (rB A k && oB A o) with
        | true => rfl
        | false => exact absurd (m1.mpr hb) c
      refine br1 c (ev_wfirst (d := d + 17) hA hk (by omega) h.1 h.2.1 (fun I' J' f j w' => glo_52 (br1 (pos_nlt (by have := hV o; unfold vG at this; omega)) ?_)))
      have h' : WI A I0 J0 T I' J' := ⟨h.1.fr rfl f, w', h.2.2.1.trans f, h.2.2.2.trans j⟩
      have := ih (o + 1) I' J' (by omega) h'
      rw [show lsF (fun o => rB A k && oB A o) (vG A k) (o + 1) = (match lsF (fun o => rB A k && oB A o) (vG A k) o with
        | none => some (vG A k o)
        | some n => some (if vG A k o < n then vG A k o else n)) from if_pos cp] at this
      rw [nI_1]
      revert this
      cases hl : lsF (fun o => rB A k && oB A o) (vG A k) o with
      | none =>
        intro this
        exact br0 neg_lt this
      | some q =>
        intro this
        have hq := lsF_le hV _ _ hl
        have hv := hV o
        have this : Go none aM (Ev mt aM (d + 29)) mX11_gameLow Q (24, [some (.ref 0), some (.int w), some (.long lo), none, some (.int rl), some (.int (nI k)), some (.long (lN (if vG A k o < q then vG A k o else q))), none, some (.int (nI (o + 1))), none, none], [], (SH, mkM I' J' T), 0, 0) := this
        show (lg_cmp (lN q) 0 < 0 → _) ∧ (¬ lg_cmp (lN q) 0 < 0 → (0 ≤ lg_cmp (lN (vG A k o)) (lN q) → _) ∧ (¬ 0 ≤ lg_cmp (lN (vG A k o)) (lN q) → _))
        refine br1 (pos_nlt (by omega)) ?_
        rw [lg_cmp_ge, pk_lLE (by omega) (by omega)]
        by_cases e : vG A k o < q
        · rw [if_pos e] at this
          exact br1 (by omega) this
        · rw [if_neg e] at this
          exact br0 (by omega) this
/-- the RULES' least, the OTHERS' greatest -/
abbrev wL (A : Tm) (k : Nat) : Option Nat := lsF (fun o => rB A k && oB A o) (vG A k) 3
abbrev wH (A : Tm) (j : Nat) : Option Nat := gsF (fun k => rB A k && oB A j) (fun k => vG A k j) 4
def gmV (A : Tm) : Nat → Int64
  | 0 => gLo (grF (wL A) 4)
  | 1 => (gRl (grF (wL A) 4)).toInt64
  | 2 => gLo (lrF (wH A) 3)
  | _ => (gRl (lrF (wH A) 3)).toInt64
theorem wL_le {A : Tm} (hA : BD A) {k m : Nat} (h : wL A k = some m) : m ≤ 10000000000000 := lsF_le (fun j => rV_lt hA hA.1.2 _ _) _ _ h
theorem wH_le {A : Tm} (hA : BD A) {k m : Nat} (h : wH A k = some m) : m ≤ 10000000000000 := gsF_le (fun j => rV_lt hA hA.1.2 _ _) _ _ h
theorem glo_out {A : Tm} {w d : Nat} (hA : BD A) (hw : w < 2) {I0 : Nat → Nat → Int32} {J0 : Nat → Nat → Int64} {T : Nat → Nat → Nat} {Q : Option Value → Mem → Prop} (g : ∀ I J, WI A I0 J0 T I J → Q (some (.long (gmV A w))) (SH, mkM I J T)) : ∀ n k I J, n + k = 4 → WI A I0 J0 T I J → Go none aM (Ev mt aM (d + 29)) mX11_gameLow Q (10, [some (.ref 0), some (.int (nI w)), some (.long (gLo (grF (wL A) k))), none, some (.int (gRl (grF (wL A) k))), some (.int (nI k)), none, none, none, none, none], [], (SH, mkM I J T), 0, 0) := by
  intro n
  induction n with
  | zero =>
    intro k I J hk h
    have : k = 4 := by omega
    subst this
    have := g I J h
    refine glo_10 (br0 (by decide) ?_)
    rcases (show w = 0 ∨ w = 1 by omega) with rfl | rfl
    · exact br0 rfl this
    · exact br1 (by decide) this
  | succ n ih =>
    intro k I J hk h
    refine glo_10 (br1 (nI_ge (b := 4) (by omega) (by omega)) ?_)
    refine glo_in (lo := gLo (grF (wL A) k)) (rl := gRl (grF (wL A) k)) hA (by omega) (fun I' J' h' => ?_) 3 0 I J rfl h
    have := ih (k + 1) I' J' (by omega) h'
    rw [show grF (wL A) (k + 1) = (match wL A k with
      | none => grF (wL A) k
      | some n => match grF (wL A) k with
        | none => some (n, k)
        | some p => if p.1 < n then some (n, k) else some p) from rfl] at this
    show Go none aM (Ev mt aM (d + 29)) mX11_gameLow Q (24, [some (.ref 0), some (.int (nI w)), some (.long (gLo (grF (wL A) k))), none, some (.int (gRl (grF (wL A) k))), some (.int (nI k)), some (.long (oL (wL A k))), none, some (.int (nI 3)), none, none], [], (SH, mkM I' J' T), 0, 0)
    refine glo_24 (br0 (by decide) ?_)
    rw [nI_1]
    revert this
    cases hl : wL A k with
    | none =>
      intro this
      refine br0 ?_ this
      rw [lg_cmp_le]
      cases hg : grF (wL A) k with
      | none => exact (by decide : (-1 : Int64) ≤ (-1 : Int64))
      | some p =>
        have := wL_le hA (grF_at _ _ hg).2
        exact neg_lle (by omega)
    | some q =>
      have hq := wL_le hA hl
      cases hg : grF (wL A) k with
      | none =>
        intro this
        refine br1 ?_ this
        rw [lg_cmp_le]
        exact nle_neg (n := q) (by omega)
      | some p =>
        have hp := wL_le hA (grF_at _ _ hg).2
        intro this
        have this : Go none aM (Ev mt aM (d + 29)) mX11_gameLow Q (10, [some (.ref 0), some (.int (nI w)), some (.long (gLo (if p.1 < q then some (q, k) else some p))), none, some (.int (gRl (if p.1 < q then some (q, k) else some p))), some (.int (nI (k + 1))), none, none, none, none, none], [], (SH, mkM I' J' T), 0, 0) := this
        show (lg_cmp (lN q) (lN p.1) ≤ 0 → _) ∧ (¬ lg_cmp (lN q) (lN p.1) ≤ 0 → _)
        rw [lg_cmp_le, pk_lLE (by omega) (by omega)]
        by_cases e : p.1 < q
        · rw [if_pos e] at this
          exact br1 (by omega) this
        · rw [if_neg e] at this
          exact br0 (by omega) this
theorem ghi_in {A : Tm} {w rl : Int32} {lo : Int64} {k d : Nat} (hA : BD A) (hk : k < 3) {I0 : Nat → Nat → Int32} {J0 : Nat → Nat → Int64} {T : Nat → Nat → Nat} {Q : Option Value → Mem → Prop} (g : ∀ I J, WI A I0 J0 T I J → Go none aM (Ev mt aM (d + 29)) mX11_gameHigh Q (24, [some (.ref 0), some (.int w), some (.long lo), none, some (.int rl), some (.int (nI k)), some (.long (oL (gsF (fun o => rB A o && oB A k) (fun o => vG A o k) 4))), none, some (.int (nI 4))], [], (SH, mkM I J T), 0, 0)) : ∀ n o I J, n + o = 4 → WI A I0 J0 T I J → Go none aM (Ev mt aM (d + 29)) mX11_gameHigh Q (24, [some (.ref 0), some (.int w), some (.long lo), none, some (.int rl), some (.int (nI k)), some (.long (oL (gsF (fun o => rB A o && oB A k) (fun o => vG A o k) o))), none, some (.int (nI o))], [], (SH, mkM I J T), 0, 0) := by
  intro n
  induction n with
  | zero =>
    intro o I J ho h
    have : o = 4 := by omega
    subst this
    exact g I J h
  | succ n ih =>
    intro o I J ho h
    obtain ⟨m1, m2, m3, m4, m5⟩ := c_met (k := o) (j := k) hA h.1 (by omega) hk
    have hV : ∀ j, vG A j k ≤ 10000000000000 := fun j => rV_lt hA hA.1.2 _ _
    refine ghi_24 (br1 (nI_ge (b := 4) (by omega) (by omega)) ⟨m2, m3, fun _ => ⟨m4, m5⟩, ?_⟩)
    by_cases c : v_X11_isMet (nI o) (nI k) I T = 0
    · refine br0 c ?_
      rw [nI_1]
      have := ih (o + 1) I J (by omega) h
      rw [show gsF (fun o => rB A o && oB A k) (fun o => vG A o k) (o + 1) = gsF (fun o => rB A o && oB A k) (fun o => vG A o k) o from if_neg (show ¬ (rB A o && oB A k) = true by rw [m1.mp c]; decide)] at this
      exact this
    · have cp : (rB A o && oB A k) = true := by
        cases hb : (rB A o && oB A k) with
        | true => rfl
        | false => exact absurd (m1.mpr hb) c
      refine br1 c (ev_wfirst (d := d + 17) hA (by omega) hk h.1 h.2.1 (fun I' J' f j w' => ghi_54 ?_))
      have h' : WI A I0 J0 T I' J' := ⟨h.1.fr rfl f, w', h.2.2.1.trans f, h.2.2.2.trans j⟩
      have := ih (o + 1) I' J' (by omega) h'
      rw [show gsF (fun o => rB A o && oB A k) (fun o => vG A o k) (o + 1) = (match gsF (fun o => rB A o && oB A k) (fun o => vG A o k) o with
        | none => some (vG A o k)
        | some n => some (if vG A o k < n then n else vG A o k)) from if_pos cp] at this
      rw [nI_1]
      revert this
      cases hl : gsF (fun o => rB A o && oB A k) (fun o => vG A o k) o with
      | none =>
        intro this
        have hv := hV o
        show Go none aM (Ev mt aM (d + 29)) mX11_gameHigh Q (24, [some (.ref 0), some (.int w), some (.long lo), none, some (.int rl), some (.int (nI k)), some (.long (if lN (vG A o k) < (-1 : Int64) then (-1 : Int64) else lN (vG A o k))), none, some (.int (nI (o + 1)))], [], (SH, mkM I' J' T), 0, 0)
        rw [if_neg (nlt_neg (n := vG A o k) (by omega))]
        exact this
      | some q =>
        intro this
        have hq := gsF_le hV _ _ hl
        have hv := hV o
        have this : Go none aM (Ev mt aM (d + 29)) mX11_gameHigh Q (24, [some (.ref 0), some (.int w), some (.long lo), none, some (.int rl), some (.int (nI k)), some (.long (lN (if vG A o k < q then q else vG A o k))), none, some (.int (nI (o + 1)))], [], (SH, mkM I' J' T), 0, 0) := this
        show Go none aM (Ev mt aM (d + 29)) mX11_gameHigh Q (24, [some (.ref 0), some (.int w), some (.long lo), none, some (.int rl), some (.int (nI k)), some (.long (if lN (vG A o k) < lN q then lN q else lN (vG A o k))), none, some (.int (nI (o + 1)))], [], (SH, mkM I' J' T), 0, 0)
        by_cases e : vG A o k < q
        · rw [if_pos e] at this
          rw [if_pos ((pk_lLT (by omega) (by omega)).mpr e)]
          exact this
        · rw [if_neg e] at this
          rw [if_neg (fun q => e ((pk_lLT (by omega) (by omega)).mp q))]
          exact this
theorem ghi_out {A : Tm} {w d : Nat} (hA : BD A) (hw : w < 2) {I0 : Nat → Nat → Int32} {J0 : Nat → Nat → Int64} {T : Nat → Nat → Nat} {Q : Option Value → Mem → Prop} (g : ∀ I J, WI A I0 J0 T I J → Q (some (.long (gmV A (2 + w)))) (SH, mkM I J T)) : ∀ n k I J, n + k = 3 → WI A I0 J0 T I J → Go none aM (Ev mt aM (d + 29)) mX11_gameHigh Q (10, [some (.ref 0), some (.int (nI w)), some (.long (gLo (lrF (wH A) k))), none, some (.int (gRl (lrF (wH A) k))), some (.int (nI k)), none, none, none], [], (SH, mkM I J T), 0, 0) := by
  intro n
  induction n with
  | zero =>
    intro k I J hk h
    have : k = 3 := by omega
    subst this
    have := g I J h
    refine ghi_10 (br0 (by decide) ?_)
    rcases (show w = 0 ∨ w = 1 by omega) with rfl | rfl
    · exact br0 rfl this
    · exact br1 (by decide) this
  | succ n ih =>
    intro k I J hk h
    refine ghi_10 (br1 (nI_ge (b := 3) (by omega) (by omega)) ?_)
    refine ghi_in (lo := gLo (lrF (wH A) k)) (rl := gRl (lrF (wH A) k)) hA (by omega) (fun I' J' h' => ?_) 4 0 I J rfl h
    have := ih (k + 1) I' J' (by omega) h'
    rw [show lrF (wH A) (k + 1) = (match wH A k with
      | none => lrF (wH A) k
      | some n => match lrF (wH A) k with
        | none => some (n, k)
        | some p => if n < p.1 then some (n, k) else some p) from rfl] at this
    show Go none aM (Ev mt aM (d + 29)) mX11_gameHigh Q (24, [some (.ref 0), some (.int (nI w)), some (.long (gLo (lrF (wH A) k))), none, some (.int (gRl (lrF (wH A) k))), some (.int (nI k)), some (.long (oL (wH A k))), none, some (.int (nI 4))], [], (SH, mkM I' J' T), 0, 0)
    refine ghi_24 (br0 (by decide) ?_)
    rw [nI_1]
    revert this
    cases hl : wH A k with
    | none =>
      intro this
      exact br0 neg_lt this
    | some q =>
      have hq := wH_le hA hl
      cases hg : lrF (wH A) k with
      | none =>
        intro this
        exact br1 (pos_nlt (by omega)) (br0 neg_lt this)
      | some p =>
        have hp := wH_le hA (lrF_at _ _ hg).2
        intro this
        have this : Go none aM (Ev mt aM (d + 29)) mX11_gameHigh Q (10, [some (.ref 0), some (.int (nI w)), some (.long (gLo (if q < p.1 then some (q, k) else some p))), none, some (.int (gRl (if q < p.1 then some (q, k) else some p))), some (.int (nI (k + 1))), none, none, none], [], (SH, mkM I' J' T), 0, 0) := this
        show (lg_cmp (lN q) 0 < 0 → _) ∧ (¬ lg_cmp (lN q) 0 < 0 → (lg_cmp (lN p.1) 0 < 0 → _) ∧ (¬ lg_cmp (lN p.1) 0 < 0 → (0 ≤ lg_cmp (lN q) (lN p.1) → _) ∧ (¬ 0 ≤ lg_cmp (lN q) (lN p.1) → _)))
        refine br1 (pos_nlt (by omega)) (br1 (pos_nlt (by omega)) ?_)
        rw [lg_cmp_ge, pk_lLE (by omega) (by omega)]
        by_cases e : q < p.1
        · rw [if_pos e] at this
          exact br1 (by omega) this
        · rw [if_neg e] at this
          exact br0 (by omega) this
