/-! GAME: the RULES against the OTHERS. -/
def rB (A : Tm) (k : Nat) : Bool := !(Nat.beq (qP A (4 + k)).1 0)
def oB (A : Tm) (j : Nat) : Bool := !(Nat.beq (qP A (1 + j)).1 0)
abbrev vG (A : Tm) (k j : Nat) : Nat := rV A k j (qN A) 2 1536
theorem nbq {x : Nat} : (!(Nat.beq x 0)) = false ↔ x = 0 := by
  cases h : Nat.beq x 0 with
  | false => exact ⟨fun q => by cases q, fun q => by rw [q] at h; exact absurd h (by decide)⟩
  | true => exact ⟨fun _ => Nat.eq_of_beq_eq_true h, fun _ => rfl⟩
theorem rB_iff {A : Tm} {k : Nat} : rB A k = false ↔ (qP A (4 + k)).1 = 0 := nbq
theorem oB_iff {A : Tm} {j : Nat} : oB A j = false ↔ (qP A (1 + j)).1 = 0 := nbq
theorem m_rl {A : Tm} {I : Nat → Nat → Int32} {k : Nat} (hA : BD A) (hR : RM A I) (hk : k < 4) : (v_X12_isRule (nI k) I = 0 ↔ rB A k = false) ∧ vp_in ((3 : Int32) + nI k) 8 := ⟨(mul_c hA hR hk).1.trans rB_iff.symm, (mul_c hA hR hk).2.1⟩
theorem m_ot {A : Tm} {I : Nat → Nat → Int32} {j : Nat} (hA : BD A) (hR : RM A I) (hj : j < 3) : (v_X12_isToldOther (nI j) I = 0 ↔ oB A j = false) ∧ vp_in (nI j) 8 := by
  have hw := (hA.2.2.2.2.2.2.2.2 (1 + j) (by omega)).1
  refine ⟨Iff.trans ?_ oB_iff.symm, vp_in_nI (by omega) (by omega)⟩
  have ho : ¬ v_X12_isOther (nI j) = 0 := by
    unfold v_X12_isOther w2_X12_isOther
    rw [if_neg (nI_pos (by omega))]
    exact fun q => by
      rw [show w1_X12_isOther (nI j) = 1 from if_neg (nI_ge (b := 3) hj (by omega))] at q
      exact absurd q (by decide)
  unfold v_X12_isToldOther w2_X12_isToldOther w1_X12_isToldOther
  rw [if_neg ho, nI_clamp (by omega), mth_c hA hR hj]
  rcases Nat.eq_zero_or_pos (qP A (1 + j)).1 with q | q
  · rw [q, if_pos (by decide)]
    exact ⟨fun _ => rfl, fun _ => rfl⟩
  · rw [if_neg (nI_nle q (by omega))]
    exact ⟨fun h => absurd h (by decide), fun h => by omega⟩
theorem c_met {A : Tm} {I : Nat → Nat → Int32} {T : Nat → Nat → Nat} {k j : Nat} (hA : BD A) (hR : RC A I T) (hk : k < 4) (hj : j < 3) : (v_X11_isMet (nI k) (nI j) I T = 0 ↔ (rB A k && oB A j) = false) ∧ vp_in ((4 : Int32) + nI k) 8 ∧ TX (T 13 ((4 : Int32) + nI k).toNatClampNeg) ∧ vp_in ((1 : Int32) + nI j) 8 ∧ TX (T 13 ((1 : Int32) + nI j).toNatClampNeg) := by
  have e4 : (4 : Int32) + nI k = nI (4 + k) := by rw [show (4 : Int32) = nI 4 from rfl, nI_add]
  have e1 : (1 : Int32) + nI j = nI (1 + j) := by rw [show (1 : Int32) = nI 1 from rfl, nI_add]
  obtain ⟨t1, _, t3, t4⟩ := told_c (s := 4 + k) hA hR (by omega)
  obtain ⟨u1, _, u3, u4⟩ := told_c (s := 1 + j) hA hR (by omega)
  rw [e4, e1]
  refine ⟨?_, t3, t4, u3, u4⟩
  unfold v_X11_isMet w2_X11_isMet w1_X11_isMet
  rw [e4, e1]
  cases hr : rB A k with
  | false =>
    rw [if_pos (t1.mpr (rB_iff.mp hr))]
    exact ⟨fun _ => rfl, fun _ => rfl⟩
  | true =>
    rw [if_neg (fun q => by have := rB_iff.mpr (t1.mp q); rw [hr] at this; cases this)]
    cases ho : oB A j with
    | false =>
      rw [if_pos (u1.mpr (oB_iff.mp ho))]
      exact ⟨fun _ => rfl, fun _ => rfl⟩
    | true =>
      rw [if_neg (fun q => by have := oB_iff.mpr (u1.mp q); rw [ho] at this; cases this)]
      exact ⟨fun h => absurd h (by decide), fun h => by cases h⟩
/-- the least, the greatest of those that count -/
def lsF (P : Nat → Bool) (V : Nat → Nat) : Nat → Option Nat
  | 0 => none
  | j + 1 => if P j = true then (match lsF P V j with
    | none => some (V j)
    | some n => some (if V j < n then V j else n)) else lsF P V j
def gsF (P : Nat → Bool) (V : Nat → Nat) : Nat → Option Nat
  | 0 => none
  | j + 1 => if P j = true then (match gsF P V j with
    | none => some (V j)
    | some n => some (if V j < n then n else V j)) else gsF P V j
def grF (W : Nat → Option Nat) : Nat → Option (Nat × Nat)
  | 0 => none
  | k + 1 => match W k with
    | none => grF W k
    | some n => match grF W k with
      | none => some (n, k)
      | some p => if p.1 < n then some (n, k) else some p
def lrF (W : Nat → Option Nat) : Nat → Option (Nat × Nat)
  | 0 => none
  | k + 1 => match W k with
    | none => lrF W k
    | some n => match lrF W k with
      | none => some (n, k)
      | some p => if n < p.1 then some (n, k) else some p
def oL : Option Nat → Int64
  | none => -1
  | some n => lN n
def gLo : Option (Nat × Nat) → Int64
  | none => -1
  | some p => lN p.1
def gRl : Option (Nat × Nat) → Int32
  | none => -1
  | some p => nI p.2
theorem lsF_none {P : Nat → Bool} {V : Nat → Nat} : ∀ n, (∀ j, j < n → P j = false) → lsF P V n = none := by
  intro n
  induction n with
  | zero => intro _; rfl
  | succ n ih =>
    intro h
    unfold lsF
    rw [if_neg (by rw [h n (by omega)]; decide)]
    exact ih (fun j hj => h j (by omega))
theorem gsF_none {P : Nat → Bool} {V : Nat → Nat} : ∀ n, (∀ j, j < n → P j = false) → gsF P V n = none := by
  intro n
  induction n with
  | zero => intro _; rfl
  | succ n ih =>
    intro h
    unfold gsF
    rw [if_neg (by rw [h n (by omega)]; decide)]
    exact ih (fun j hj => h j (by omega))
theorem lsF_some {P : Nat → Bool} {V : Nat → Nat} : ∀ n, (∃ j, j < n ∧ P j = true) → ∃ m, lsF P V n = some m := by
  intro n
  induction n with
  | zero => intro ⟨j, hj, _⟩; omega
  | succ n ih =>
    intro ⟨j, hj, hp⟩
    unfold lsF
    by_cases c : P n = true
    · rw [if_pos c]
      cases lsF P V n with
      | none => exact ⟨_, rfl⟩
      | some m => exact ⟨_, rfl⟩
    · rw [if_neg c]
      refine ih ⟨j, ?_, hp⟩
      have : j ≠ n := fun q => c (q ▸ hp)
      omega
theorem gsF_some {P : Nat → Bool} {V : Nat → Nat} : ∀ n, (∃ j, j < n ∧ P j = true) → ∃ m, gsF P V n = some m := by
  intro n
  induction n with
  | zero => intro ⟨j, hj, _⟩; omega
  | succ n ih =>
    intro ⟨j, hj, hp⟩
    unfold gsF
    by_cases c : P n = true
    · rw [if_pos c]
      cases gsF P V n with
      | none => exact ⟨_, rfl⟩
      | some m => exact ⟨_, rfl⟩
    · rw [if_neg c]
      refine ih ⟨j, ?_, hp⟩
      have : j ≠ n := fun q => c (q ▸ hp)
      omega
theorem lsF_le {P : Nat → Bool} {V : Nat → Nat} {M : Nat} (hV : ∀ j, V j ≤ M) : ∀ n m, lsF P V n = some m → m ≤ M := by
  intro n
  induction n with
  | zero => intro m h; cases h
  | succ n ih =>
    intro m h
    unfold lsF at h
    by_cases c : P n = true
    · rw [if_pos c] at h
      revert h
      cases hl : lsF P V n with
      | none => intro h; cases h; exact hV n
      | some q =>
        intro h
        cases h
        by_cases d : V n < q
        · rw [if_pos d]; exact hV n
        · rw [if_neg d]; exact ih q hl
    · rw [if_neg c] at h
      exact ih m h
theorem gsF_le {P : Nat → Bool} {V : Nat → Nat} {M : Nat} (hV : ∀ j, V j ≤ M) : ∀ n m, gsF P V n = some m → m ≤ M := by
  intro n
  induction n with
  | zero => intro m h; cases h
  | succ n ih =>
    intro m h
    unfold gsF at h
    by_cases c : P n = true
    · rw [if_pos c] at h
      revert h
      cases hl : gsF P V n with
      | none => intro h; cases h; exact hV n
      | some q =>
        intro h
        cases h
        by_cases d : V n < q
        · rw [if_pos d]; exact ih q hl
        · rw [if_neg d]; exact hV n
    · rw [if_neg c] at h
      exact ih m h
theorem grF_at {W : Nat → Option Nat} : ∀ n p, grF W n = some p → p.2 < n ∧ W p.2 = some p.1 := by
  intro n
  induction n with
  | zero => intro p h; cases h
  | succ n ih =>
    intro p h
    unfold grF at h
    revert h
    cases hw : W n with
    | none => intro h; have := ih p h; exact ⟨by omega, this.2⟩
    | some m =>
      cases hg : grF W n with
      | none => intro h; cases h; exact ⟨Nat.lt_succ_self n, hw⟩
      | some q =>
        intro h
        have h : (if q.1 < m then some (m, n) else some q) = some p := h
        by_cases d : q.1 < m
        · rw [if_pos d] at h; cases h; exact ⟨Nat.lt_succ_self n, hw⟩
        · rw [if_neg d] at h; cases h; have := ih q hg; exact ⟨by omega, this.2⟩
theorem lrF_at {W : Nat → Option Nat} : ∀ n p, lrF W n = some p → p.2 < n ∧ W p.2 = some p.1 := by
  intro n
  induction n with
  | zero => intro p h; cases h
  | succ n ih =>
    intro p h
    unfold lrF at h
    revert h
    cases hw : W n with
    | none => intro h; have := ih p h; exact ⟨by omega, this.2⟩
    | some m =>
      cases hg : lrF W n with
      | none => intro h; cases h; exact ⟨Nat.lt_succ_self n, hw⟩
      | some q =>
        intro h
        have h : (if m < q.1 then some (m, n) else some q) = some p := h
        by_cases d : m < q.1
        · rw [if_pos d] at h; cases h; exact ⟨Nat.lt_succ_self n, hw⟩
        · rw [if_neg d] at h; cases h; have := ih q hg; exact ⟨by omega, this.2⟩
theorem grF_some {W : Nat → Option Nat} : ∀ n, (∃ k m, k < n ∧ W k = some m) → ∃ p, grF W n = some p := by
  intro n
  induction n with
  | zero => intro ⟨j, _, hj, _⟩; omega
  | succ n ih =>
    intro ⟨k, m, hk, hw⟩
    unfold grF
    cases hn : W n with
    | none =>
      refine ih ⟨k, m, ?_, hw⟩
      have : k ≠ n := fun q => by rw [q, hn] at hw; cases hw
      omega
    | some q =>
      cases grF W n with
      | none => exact ⟨_, rfl⟩
      | some z => by_cases d : z.1 < q <;> simp [d]
theorem lrF_some {W : Nat → Option Nat} : ∀ n, (∃ k m, k < n ∧ W k = some m) → ∃ p, lrF W n = some p := by
  intro n
  induction n with
  | zero => intro ⟨j, _, hj, _⟩; omega
  | succ n ih =>
    intro ⟨k, m, hk, hw⟩
    unfold lrF
    cases hn : W n with
    | none =>
      refine ih ⟨k, m, ?_, hw⟩
      have : k ≠ n := fun q => by rw [q, hn] at hw; cases hw
      omega
    | some q =>
      cases lrF W n with
      | none => exact ⟨_, rfl⟩
      | some z => by_cases d : q < z.1 <;> simp [d]
theorem grF_none {W : Nat → Option Nat} : ∀ n, (∀ k, k < n → W k = none) → grF W n = none := by
  intro n
  induction n with
  | zero => intro _; rfl
  | succ n ih =>
    intro h
    unfold grF
    rw [h n (by omega)]
    exact ih (fun k hk => h k (by omega))
theorem lrF_none {W : Nat → Option Nat} : ∀ n, (∀ k, k < n → W k = none) → lrF W n = none := by
  intro n
  induction n with
  | zero => intro _; rfl
  | succ n ih =>
    intro h
    unfold lrF
    rw [h n (by omega)]
    exact ih (fun k hk => h k (by omega))
/-- what the class keeps while it plays -/
def WI (A : Tm) (I0 : Nat → Nat → Int32) (J0 : Nat → Nat → Int64) (T : Nat → Nat → Nat) (I : Nat → Nat → Int32) (J : Nat → Nat → Int64) : Prop := RC A I T ∧ IW A J ∧ Fr [10, 11, 12] I0 I ∧ Fj [74, 75] J0 J
theorem neg_lt : lg_cmp (-1 : Int64) (0 : Int64) < 0 := by decide
theorem pos_nlt {n : Nat} (h : n < 2 ^ 63) : ¬ lg_cmp (lN n) (0 : Int64) < 0 := by
  rw [lg_cmp_lt, show (0 : Int64) = lN 0 from rfl, pk_lLT h (by omega)]
  omega
theorem neg_llt {n : Nat} (h : n < 2 ^ 63) : (-1 : Int64) < lN n := by
  rw [Int64.lt_iff_toInt_lt, pk_lT h, show (-1 : Int64).toInt = -1 by decide]
  omega
theorem neg_lle {n : Nat} (h : n < 2 ^ 63) : (-1 : Int64) ≤ lN n := by
  rw [Int64.le_iff_toInt_le, pk_lT h, show (-1 : Int64).toInt = -1 by decide]
  omega
theorem nle_neg {n : Nat} (h : n < 2 ^ 63) : ¬ lN n ≤ (-1 : Int64) := by
  rw [Int64.le_iff_toInt_le, pk_lT h, show (-1 : Int64).toInt = -1 by decide]
  omega
theorem nlt_neg {n : Nat} (h : n < 2 ^ 63) : ¬ lN n < (-1 : Int64) := by
  rw [Int64.lt_iff_toInt_lt, pk_lT h, show (-1 : Int64).toInt = -1 by decide]
  omega
theorem glo_in {A : Tm} {w rl : Int32} {lo : Int64} {k d : Nat} (hA : BD A) (hk : k < 4) {I0 : Nat → Nat → Int32} {J0 : Nat → Nat → Int64} {T : Nat → Nat → Nat} {Q : Option Value → Mem → Prop} (g : ∀ I J, WI A I0 J0 T I J → Go none aM (Ev mt aM (d + 29)) mX11_gameLow Q (24, [some (.ref 0), some (.int w), some (.long lo), none, some (.int rl), some (.int (nI k)), some (.long (oL (lsF (fun o => rB A k && oB A o) (vG A k) 3))), none, some (.int (nI 3)), none, none], [], (SH, mkM I J T), 0, 0)) : ∀ n o I J, n + o = 3 → WI A I0 J0 T I J → Go none aM (Ev mt aM (d + 29)) mX11_gameLow Q (24, [some (.ref 0), some (.int w), some (.long lo), none, some (.int rl), some (.int (nI k)), some (.long (oL (lsF (fun o => rB A k && oB A o) (vG A k) o))), none, some (.int (nI o)), none, none], [], (SH, mkM I J T), 0, 0) := by
  intro n
  induction n with
  | zero =>
    intro o I J ho h
    have : o = 3 := by omega
    subst this
    exact g I J h
  | succ n ih =>
    intro o I J ho h
    obtain ⟨m1, m2, m3, m4, m5⟩ := c_met (k := k) (j := o) hA h.1 hk (by omega)
    have hV : ∀ j, vG A k j ≤ 10000000000000 := fun j => rV_lt hA hA.1.2 _ _
    refine glo_24 (br1 (nI_ge (b := 3) (by omega) (by omega)) ⟨m2, m3, fun _ => ⟨m4, m5⟩, ?_⟩)
    by_cases c : v_X11_isMet (nI k) (nI o) I T = 0
    · refine br0 c (br0 neg_lt ?_)
      rw [nI_1]
      have := ih (o + 1) I J (by omega) h
      rw [show lsF (fun o => rB A k && oB A o) (vG A k) (o + 1) = lsF (fun o => rB A k && oB A o) (vG A k) o from if_neg (by rw [m1.mp c]; decide)] at this
      exact this
    · have cp : (rB A k && oB A o) = true := by
        cases hb : (rB A k && oB A o) with
        | true => rfl
        | false => exact absurd (m1.mpr hb) c
      refine br1 c (ev_wfirst (d := d + 17) hA hk (by omega) h.1 h.2.1 (fun I' J' f j w' => glo_52 (br1 (pos_nlt (by have := hV o; unfold vG at this; omega)) ?_)))
      have h' : WI A I0 J0 T I' J' := ⟨h.1.fr rfl f, w', h.2.2.1.trans f, h.2.2.2.trans j⟩
      have := ih (o + 1) I' J' (by omega) h'
      rw [show lsF (fun o => rB A k && oB A o) (vG A k) (o + 1) = (match lsF (fun o => rB A k && oB A o) (vG A k) o with
        | none => some (vG A k o)
        | some n => some (if vG A k o < n then vG A k o else n)) from if_pos cp] at this
      rw [nI_1]
      revert this
      cases hl : lsF (fun o => rB A k && oB A o) (vG A k) o with
      | none =>
        intro this
        exact br0 neg_lt this
      | some q =>
        intro this
        have hq := lsF_le hV _ _ hl
        have hv := hV o
        have this : Go none aM (Ev mt aM (d + 29)) mX11_gameLow Q (24, [some (.ref 0), some (.int w), some (.long lo), none, some (.int rl), some (.int (nI k)), some (.long (lN (if vG A k o < q then vG A k o else q))), none, some (.int (nI (o + 1))), none, none], [], (SH, mkM I' J' T), 0, 0) := this
        show (lg_cmp (lN q) 0 < 0 → _) ∧ (¬ lg_cmp (lN q) 0 < 0 → (0 ≤ lg_cmp (lN (vG A k o)) (lN q) → _) ∧ (¬ 0 ≤ lg_cmp (lN (vG A k o)) (lN q) → _))
        refine br1 (pos_nlt (by omega)) ?_
        rw [lg_cmp_ge, pk_lLE (by omega) (by omega)]
        by_cases e : vG A k o < q
        · rw [if_pos e] at this
          exact br1 (by omega) this
        · rw [if_neg e] at this
          exact br0 (by omega) this
/-- the RULES' least, the OTHERS' greatest -/
abbrev wL (A : Tm) (k : Nat) : Option Nat := lsF (fun o => rB A k && oB A o) (vG A k) 3
abbrev wH (A : Tm) (j : Nat) : Option Nat := gsF (fun k => rB A k && oB A j) (fun k => vG A k j) 4
def gmV (A : Tm) : Nat → Int64
  | 0 => gLo (grF (wL A) 4)
  | 1 => (gRl (grF (wL A) 4)).toInt64
  | 2 => gLo (lrF (wH A) 3)
  | _ => (gRl (lrF (wH A) 3)).toInt64
theorem wL_le {A : Tm} (hA : BD A) {k m : Nat} (h : wL A k = some m) : m ≤ 10000000000000 := lsF_le (fun j => rV_lt hA hA.1.2 _ _) _ _ h
theorem wH_le {A : Tm} (hA : BD A) {k m : Nat} (h : wH A k = some m) : m ≤ 10000000000000 := gsF_le (fun j => rV_lt hA hA.1.2 _ _) _ _ h
theorem glo_out {A : Tm} {w d : Nat} (hA : BD A) (hw : w < 2) {I0 : Nat → Nat → Int32} {J0 : Nat → Nat → Int64} {T : Nat → Nat → Nat} {Q : Option Value → Mem → Prop} (g : ∀ I J, WI A I0 J0 T I J → Q (some (.long (gmV A w))) (SH, mkM I J T)) : ∀ n k I J, n + k = 4 → WI A I0 J0 T I J → Go none aM (Ev mt aM (d + 29)) mX11_gameLow Q (10, [some (.ref 0), some (.int (nI w)), some (.long (gLo (grF (wL A) k))), none, some (.int (gRl (grF (wL A) k))), some (.int (nI k)), none, none, none, none, none], [], (SH, mkM I J T), 0, 0) := by
  intro n
  induction n with
  | zero =>
    intro k I J hk h
    have : k = 4 := by omega
    subst this
    have := g I J h
    refine glo_10 (br0 (by decide) ?_)
    rcases (show w = 0 ∨ w = 1 by omega) with rfl | rfl
    · exact br0 rfl this
    · exact br1 (by decide) this
  | succ n ih =>
    intro k I J hk h
    refine glo_10 (br1 (nI_ge (b := 4) (by omega) (by omega)) ?_)
    refine glo_in (lo := gLo (grF (wL A) k)) (rl := gRl (grF (wL A) k)) hA (by omega) (fun I' J' h' => ?_) 3 0 I J rfl h
    have := ih (k + 1) I' J' (by omega) h'
    rw [show grF (wL A) (k + 1) = (match wL A k with
      | none => grF (wL A) k
      | some n => match grF (wL A) k with
        | none => some (n, k)
        | some p => if p.1 < n then some (n, k) else some p) from rfl] at this
    refine glo_24 (br0 (by decide) ?_)
    rw [nI_1]
    revert this
    cases hl : wL A k with
    | none =>
      intro this
      refine br0 ?_ this
      rw [lg_cmp_le]
      cases hg : grF (wL A) k with
      | none => exact (by decide : (-1 : Int64) ≤ (-1 : Int64))
      | some p =>
        have := wL_le hA (grF_at _ _ hg).2
        exact neg_lle (by omega)
    | some q =>
      have hq := wL_le hA hl
      cases hg : grF (wL A) k with
      | none =>
        intro this
        refine br1 ?_ this
        rw [lg_cmp_le]
        exact nle_neg (n := q) (by omega)
      | some p =>
        have hp := wL_le hA (grF_at _ _ hg).2
        intro this
        have this : Go none aM (Ev mt aM (d + 29)) mX11_gameLow Q (10, [some (.ref 0), some (.int (nI w)), some (.long (gLo (if p.1 < q then some (q, k) else some p))), none, some (.int (gRl (if p.1 < q then some (q, k) else some p))), some (.int (nI (k + 1))), none, none, none, none, none], [], (SH, mkM I' J' T), 0, 0) := this
        show (lg_cmp (lN q) (lN p.1) ≤ 0 → _) ∧ (¬ lg_cmp (lN q) (lN p.1) ≤ 0 → _)
        rw [lg_cmp_le, pk_lLE (by omega) (by omega)]
        by_cases e : p.1 < q
        · rw [if_pos e] at this
          exact br1 (by omega) this
        · rw [if_neg e] at this
          exact br0 (by omega) this
theorem ghi_in {A : Tm} {w rl : Int32} {lo : Int64} {k d : Nat} (hA : BD A) (hk : k < 3) {I0 : Nat → Nat → Int32} {J0 : Nat → Nat → Int64} {T : Nat → Nat → Nat} {Q : Option Value → Mem → Prop} (g : ∀ I J, WI A I0 J0 T I J → Go none aM (Ev mt aM (d + 29)) mX11_gameHigh Q (24, [some (.ref 0), some (.int w), some (.long lo), none, some (.int rl), some (.int (nI k)), some (.long (oL (gsF (fun o => rB A o && oB A k) (fun o => vG A o k) 4))), none, some (.int (nI 4))], [], (SH, mkM I J T), 0, 0)) : ∀ n o I J, n + o = 4 → WI A I0 J0 T I J → Go none aM (Ev mt aM (d + 29)) mX11_gameHigh Q (24, [some (.ref 0), some (.int w), some (.long lo), none, some (.int rl), some (.int (nI k)), some (.long (oL (gsF (fun o => rB A o && oB A k) (fun o => vG A o k) o))), none, some (.int (nI o))], [], (SH, mkM I J T), 0, 0) := by
  intro n
  induction n with
  | zero =>
    intro o I J ho h
    have : o = 4 := by omega
    subst this
    exact g I J h
  | succ n ih =>
    intro o I J ho h
    obtain ⟨m1, m2, m3, m4, m5⟩ := c_met (k := o) (j := k) hA h.1 (by omega) hk
    have hV : ∀ j, vG A j k ≤ 10000000000000 := fun j => rV_lt hA hA.1.2 _ _
    refine ghi_24 (br1 (nI_ge (b := 4) (by omega) (by omega)) ⟨m2, m3, fun _ => ⟨m4, m5⟩, ?_⟩)
    by_cases c : v_X11_isMet (nI o) (nI k) I T = 0
    · refine br0 c ?_
      rw [nI_1]
      have := ih (o + 1) I J (by omega) h
      rw [show gsF (fun o => rB A o && oB A k) (fun o => vG A o k) (o + 1) = gsF (fun o => rB A o && oB A k) (fun o => vG A o k) o from if_neg (by rw [m1.mp c]; decide)] at this
      exact this
    · have cp : (rB A o && oB A k) = true := by
        cases hb : (rB A o && oB A k) with
        | true => rfl
        | false => exact absurd (m1.mpr hb) c
      refine br1 c (ev_wfirst (d := d + 17) hA (by omega) hk h.1 h.2.1 (fun I' J' f j w' => ghi_54 ?_))
      have h' : WI A I0 J0 T I' J' := ⟨h.1.fr rfl f, w', h.2.2.1.trans f, h.2.2.2.trans j⟩
      have := ih (o + 1) I' J' (by omega) h'
      rw [show gsF (fun o => rB A o && oB A k) (fun o => vG A o k) (o + 1) = (match gsF (fun o => rB A o && oB A k) (fun o => vG A o k) o with
        | none => some (vG A o k)
        | some n => some (if vG A o k < n then n else vG A o k)) from if_pos cp] at this
      rw [nI_1]
      revert this
      cases hl : gsF (fun o => rB A o && oB A k) (fun o => vG A o k) o with
      | none =>
        intro this
        have hv := hV o
        show Go none aM (Ev mt aM (d + 29)) mX11_gameHigh Q (24, [some (.ref 0), some (.int w), some (.long lo), none, some (.int rl), some (.int (nI k)), some (.long (if lN (vG A o k) < (-1 : Int64) then (-1 : Int64) else lN (vG A o k))), none, some (.int (nI (o + 1)))], [], (SH, mkM I' J' T), 0, 0)
        rw [if_neg (nlt_neg (n := vG A o k) (by omega))]
        exact this
      | some q =>
        intro this
        have hq := gsF_le hV _ _ hl
        have hv := hV o
        have this : Go none aM (Ev mt aM (d + 29)) mX11_gameHigh Q (24, [some (.ref 0), some (.int w), some (.long lo), none, some (.int rl), some (.int (nI k)), some (.long (lN (if vG A o k < q then q else vG A o k))), none, some (.int (nI (o + 1)))], [], (SH, mkM I' J' T), 0, 0) := this
        show Go none aM (Ev mt aM (d + 29)) mX11_gameHigh Q (24, [some (.ref 0), some (.int w), some (.long lo), none, some (.int rl), some (.int (nI k)), some (.long (if lN (vG A o k) < lN q then lN q else lN (vG A o k))), none, some (.int (nI (o + 1)))], [], (SH, mkM I' J' T), 0, 0)
        by_cases e : vG A o k < q
        · rw [if_pos e] at this
          rw [if_pos ((pk_lLT (by omega) (by omega)).mpr e)]
          exact this
        · rw [if_neg e] at this
          rw [if_neg (fun q => e ((pk_lLT (by omega) (by omega)).mp q))]
          exact this
theorem ghi_out {A : Tm} {w d : Nat} (hA : BD A) (hw : w < 2) {I0 : Nat → Nat → Int32} {J0 : Nat → Nat → Int64} {T : Nat → Nat → Nat} {Q : Option Value → Mem → Prop} (g : ∀ I J, WI A I0 J0 T I J → Q (some (.long (gmV A (2 + w)))) (SH, mkM I J T)) : ∀ n k I J, n + k = 3 → WI A I0 J0 T I J → Go none aM (Ev mt aM (d + 29)) mX11_gameHigh Q (10, [some (.ref 0), some (.int (nI w)), some (.long (gLo (lrF (wH A) k))), none, some (.int (gRl (lrF (wH A) k))), some (.int (nI k)), none, none, none], [], (SH, mkM I J T), 0, 0) := by
  intro n
  induction n with
  | zero =>
    intro k I J hk h
    have : k = 3 := by omega
    subst this
    have := g I J h
    refine ghi_10 (br0 (by decide) ?_)
    rcases (show w = 0 ∨ w = 1 by omega) with rfl | rfl
    · exact br0 rfl this
    · exact br1 (by decide) this
  | succ n ih =>
    intro k I J hk h
    refine ghi_10 (br1 (nI_ge (b := 3) (by omega) (by omega)) ?_)
    refine ghi_in (lo := gLo (lrF (wH A) k)) (rl := gRl (lrF (wH A) k)) hA (by omega) (fun I' J' h' => ?_) 4 0 I J rfl h
    have := ih (k + 1) I' J' (by omega) h'
    rw [show lrF (wH A) (k + 1) = (match wH A k with
      | none => lrF (wH A) k
      | some n => match lrF (wH A) k with
        | none => some (n, k)
        | some p => if n < p.1 then some (n, k) else some p) from rfl] at this
    refine ghi_24 (br0 (by decide) ?_)
    rw [nI_1]
    revert this
    cases hl : wH A k with
    | none =>
      intro this
      exact br0 neg_lt this
    | some q =>
      have hq := wH_le hA hl
      cases hg : lrF (wH A) k with
      | none =>
        intro this
        exact br1 (pos_nlt (by omega)) (br0 neg_lt this)
      | some p =>
        have hp := wH_le hA (lrF_at _ _ hg).2
        intro this
        have this : Go none aM (Ev mt aM (d + 29)) mX11_gameHigh Q (10, [some (.ref 0), some (.int (nI w)), some (.long (gLo (if q < p.1 then some (q, k) else some p))), none, some (.int (gRl (if q < p.1 then some (q, k) else some p))), some (.int (nI (k + 1))), none, none, none], [], (SH, mkM I' J' T), 0, 0) := this
        show (lg_cmp (lN q) 0 < 0 → _) ∧ (¬ lg_cmp (lN q) 0 < 0 → (lg_cmp (lN p.1) 0 < 0 → _) ∧ (¬ lg_cmp (lN p.1) 0 < 0 → (0 ≤ lg_cmp (lN q) (lN p.1) → _) ∧ (¬ 0 ≤ lg_cmp (lN q) (lN p.1) → _)))
        refine br1 (pos_nlt (by omega)) (br1 (pos_nlt (by omega)) ?_)
        rw [lg_cmp_ge, pk_lLE (by omega) (by omega)]
        by_cases e : q < p.1
        · rw [if_pos e] at this
          exact br1 (by omega) this
        · rw [if_neg e] at this
          exact br0 (by omega) this
