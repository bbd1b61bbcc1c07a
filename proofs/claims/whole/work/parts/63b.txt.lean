/-! where a FAULT is: within the text, or at its end -/
def FPF (n : Nat) (F : RdS → RdR) : Prop := ∀ s e, uP s ≤ n → F s = .inl e → e.2 ≤ n ∧ 1 ≤ e.1 ∧ e.1 ≤ 5
theorem bnd_er {X : RdR} {F : RdS → RdR} {e : Nat × Nat} (h : bnd X F = .inl e) : X = .inl e ∨ ∃ s1, X = .inr s1 ∧ F s1 = .inl e := by
  cases X with
  | inl z => exact Or.inl h
  | inr s1 => exact Or.inr ⟨s1, rfl, h⟩
section FPP
variable {b : Nat → Nat} {n : Nat}
theorem fp_dg : ∀ f v p e, p ≤ n → dgF b n f v p = .inl e → e.2 ≤ n ∧ e.1 = 2 := by
  intro f
  induction f with
  | zero =>
    intro v p e hp h
    unfold dgF at h
    by_cases c : isDg (sgn b n p) = true
    · rw [if_pos c] at h; cases h; exact ⟨hp, rfl⟩
    · rw [if_neg c] at h; cases h
  | succ f ih =>
    intro v p e hp h
    unfold dgF at h
    by_cases c : isDg (sgn b n p) = true
    · rw [if_pos c] at h
      have := (dg_lt c).1
      exact ih _ _ e (by omega) h
    · rw [if_neg c] at h; cases h
theorem fp_at : FPF n (atS b n) := by
  intro s e hp h
  unfold atS at h
  by_cases c : isDg (sgn b n (uP s)) = true
  · rw [if_pos c] at h
    cases hd : dgF b n 5 0 (uP s) with
    | inl z =>
      rw [hd] at h
      cases h
      obtain ⟨a1, a2⟩ := fp_dg 5 0 (uP s) _ hp hd
      exact ⟨a1, by omega, by omega⟩
    | inr q => rw [hd] at h; cases h
  · rw [if_neg c] at h
    by_cases c2 : letF (sgn b n (uP s)) < 16
    · rw [if_pos c2] at h; cases h
    · rw [if_neg c2] at h; cases h; exact ⟨hp, (by dsimp only; decide), (by dsimp only; decide)⟩
theorem fp_lpT {F : RdS → RdR} (gF : GRF n F) (hF : FPF n F) : ∀ k, FPF n (lpT b n F k) := by
  intro k
  induction k with
  | zero => intro s e hp h; cases h
  | succ k ih =>
    intro s e hp h
    unfold lpT at h
    by_cases c : mulK (sgn b n (uP s)) = 0
    · rw [if_pos c] at h; cases h
    · rw [if_neg c] at h
      have hl := mulK_lt c
      rcases bnd_er h with h | ⟨s1, h1, h2⟩
      · exact hF _ _ (show uP s + 1 ≤ n by omega) h
      · refine ih _ _ ?_ h2
        exact (gF _ _ (show uP s + 1 ≤ n by omega) h1).2.1
theorem fp_pT {F : RdS → RdR} (gF : GRF n F) (hF : FPF n F) : FPF n (pT b n F) := by
  intro s e hp h
  rcases bnd_er h with h | ⟨s1, h1, h2⟩
  · exact hF _ _ hp h
  · exact fp_lpT gF hF _ _ _ (gF _ _ hp h1).2.1 h2
theorem fp_lpS {F : RdS → RdR} (gF : GRF n F) (hF : FPF n F) : ∀ k, FPF n (lpS b n F k) := by
  intro k
  induction k with
  | zero => intro s e hp h; cases h
  | succ k ih =>
    intro s e hp h
    unfold lpS at h
    by_cases c : addK (sgn b n (uP s)) = 0
    · rw [if_pos c] at h; cases h
    · rw [if_neg c] at h
      have hl := addK_lt c
      rcases bnd_er h with h | ⟨s1, h1, h2⟩
      · exact fp_pT gF hF _ _ (show uP s + 1 ≤ n by omega) h
      · refine ih _ _ ?_ h2
        exact (gr_pT gF _ _ (show uP s + 1 ≤ n by omega) h1).2.1
theorem fp_pS {F : RdS → RdR} (gF : GRF n F) (hF : FPF n F) : FPF n (pS b n F) := by
  intro s e hp h
  rcases bnd_er h with h | ⟨s1, h1, h2⟩
  · exact fp_pT gF hF _ _ hp h
  · exact fp_lpS gF hF _ _ _ (gr_pT gF _ _ hp h1).2.1 h2
theorem fp_in {due : Nat} {F : RdS → RdR} {s : RdS} {e : Nat × Nat} (gF : GRF n F) (hF : FPF n F) (hp : uP s < n) (h : bnd (entS s) (fun s1 => bnd (F s1) (fun s2 => bnd (expS b n due s2) (fun s3 => .inr (outS s3)))) = .inl e) : e.2 ≤ n ∧ 1 ≤ e.1 ∧ e.1 ≤ 5 := by
  rcases bnd_er h with h | ⟨s1, h1, h⟩
  · unfold entS at h
    by_cases c : uO s = 6
    · rw [if_pos c] at h; cases h; exact ⟨show uP s ≤ n by omega, (by dsimp only; decide), (by dsimp only; decide)⟩
    · rw [if_neg c] at h; cases h
  · obtain ⟨e1, _⟩ := ent_ok h1
    subst e1
    rcases bnd_er h with h | ⟨s2, h2, h⟩
    · exact hF _ _ (show uP s + 1 ≤ n by omega) h
    · have g := gF _ _ (show uP s + 1 ≤ n by omega) h2
      rcases bnd_er h with h | ⟨s3, h3, h⟩
      · unfold expS at h
        by_cases c : sgn b n (uP s2) = due
        · rw [if_pos c] at h; cases h
        · rw [if_neg c] at h; cases h; exact ⟨g.2.1, (by dsimp only; decide), (by dsimp only; decide)⟩
      · cases h
theorem fp_pF : ∀ D, FPF n (pF b n D) := by
  intro D
  induction D with
  | zero =>
    intro s e hp h
    unfold pF at h
    by_cases c : sgn b n (uP s) = 91
    · rw [if_pos c] at h; cases h; exact ⟨hp, (by dsimp only; decide), (by dsimp only; decide)⟩
    · rw [if_neg c] at h; exact fp_at _ _ hp h
  | succ D ih =>
    intro s e hp h
    unfold pF at h
    by_cases c : sgn b n (uP s) = 91
    · rw [if_pos c] at h
      exact fp_in (gr_pS (gr_pF D)) (fp_pS (gr_pF D) ih) (sgn_lt (by decide) c) h
    · rw [if_neg c] at h; exact fp_at _ _ hp h
theorem fp_cm {F : RdS → RdR} (gF : GRF n F) (hF : FPF n F) : FPF n (cmF b n F) := by
  intro s e hp h
  rcases bnd_er h with h | ⟨s1, h1, h⟩
  · exact fp_pS gF hF _ _ hp h
  · have g := gr_pS gF _ _ hp h1
    by_cases c : cmpK (sgn b n (uP s1)) = 0
    · rw [if_pos c] at h; cases h; exact ⟨g.2.1, (by dsimp only; decide), (by dsimp only; decide)⟩
    · rw [if_neg c] at h
      have hl := cmpK_lt c
      rcases bnd_er h with h | ⟨s2, h2, h⟩
      · exact fp_pS gF hF _ _ (show uP s1 + 1 ≤ n by omega) h
      · cases h
theorem fp_lpA {P : RdS → RdR} (gP : GRF n P) (hP : FPF n P) : ∀ k, FPF n (lpA b n P k) := by
  intro k
  induction k with
  | zero => intro s e hp h; cases h
  | succ k ih =>
    intro s e hp h
    unfold lpA at h
    by_cases c : sgn b n (uP s) = 38
    · rw [if_pos c] at h
      have hl : uP s < n := sgn_lt (by decide) c
      rcases bnd_er h with h | ⟨s1, h1, h2⟩
      · exact hP _ _ (show uP s + 1 ≤ n by omega) h
      · refine ih _ _ ?_ h2
        exact (gP _ _ (show uP s + 1 ≤ n by omega) h1).2.1
    · rw [if_neg c] at h; cases h
theorem fp_pA {P : RdS → RdR} (gP : GRF n P) (hP : FPF n P) : FPF n (pA b n P) := by
  intro s e hp h
  rcases bnd_er h with h | ⟨s1, h1, h2⟩
  · exact hP _ _ hp h
  · exact fp_lpA gP hP _ _ _ (gP _ _ hp h1).2.1 h2
theorem fp_lpO {P : RdS → RdR} (gP : GRF n P) (hP : FPF n P) : ∀ k, FPF n (lpO b n P k) := by
  intro k
  induction k with
  | zero => intro s e hp h; cases h
  | succ k ih =>
    intro s e hp h
    unfold lpO at h
    by_cases c : sgn b n (uP s) = 124
    · rw [if_pos c] at h
      have hl : uP s < n := sgn_lt (by decide) c
      rcases bnd_er h with h | ⟨s1, h1, h2⟩
      · exact fp_pA gP hP _ _ (show uP s + 1 ≤ n by omega) h
      · refine ih _ _ ?_ h2
        exact (gr_pA gP _ _ (show uP s + 1 ≤ n by omega) h1).2.1
    · rw [if_neg c] at h; cases h
theorem fp_pO {P : RdS → RdR} (gP : GRF n P) (hP : FPF n P) : FPF n (pO b n P) := by
  intro s e hp h
  rcases bnd_er h with h | ⟨s1, h1, h2⟩
  · exact fp_pA gP hP _ _ hp h
  · exact fp_lpO gP hP _ _ _ (gr_pA gP _ _ hp h1).2.1 h2
theorem fp_rd {P : RdS → RdR} (gP : GRF n P) (hP : FPF n P) : FPF n (rdF b n P) := by
  intro s e hp h
  unfold rdF at h
  by_cases c : sgn b n (uP s) = 40
  · rw [if_pos c] at h
    exact fp_in (gr_pO gP) (fp_pO gP hP) (sgn_lt (by decide) c) h
  · rw [if_neg c] at h; cases h; exact ⟨hp, (by dsimp only; decide), (by dsimp only; decide)⟩
theorem fp_pP : ∀ D, FPF n (pP b n D) := by
  intro D
  induction D with
  | zero =>
    intro s e hp h
    unfold pP at h
    by_cases c : sgn b n (uP s) = 40 ∨ sgn b n (uP s) = 33
    · rw [if_pos c] at h; cases h; exact ⟨hp, (by dsimp only; decide), (by dsimp only; decide)⟩
    · rw [if_neg c] at h; exact fp_cm (gr_pF 0) (fp_pF 0) _ _ hp h
  | succ D ih =>
    intro s e hp h
    unfold pP at h
    by_cases c : sgn b n (uP s) = 40
    · rw [if_pos c] at h; exact fp_rd (gr_pP D) ih _ _ hp h
    · rw [if_neg c] at h
      by_cases c2 : sgn b n (uP s) = 33
      · rw [if_pos c2] at h
        have hl : uP s < n := sgn_lt (by decide) c2
        rcases bnd_er h with h | ⟨s1, h1, h⟩
        · unfold entS at h
          by_cases c3 : uO s = 6
          · rw [if_pos c3] at h; cases h; exact ⟨show uP s ≤ n by omega, (by dsimp only; decide), (by dsimp only; decide)⟩
          · rw [if_neg c3] at h; cases h
        · obtain ⟨e1, _⟩ := ent_ok h1
          subst e1
          rcases bnd_er h with h | ⟨s2, h2, h⟩
          · exact ih _ _ (show uP s + 1 ≤ n by omega) h
          · cases h
      · rw [if_neg c2] at h; exact fp_cm (gr_pF _) (fp_pF _) _ _ hp h
theorem fp_cl {hd : Nat → Bool} {c : RdC} {e : Nat × Nat} (hh : ∀ c, hd c = true → c < 128) (hp : uP c.1 ≤ n) (h : clX b n hd c = .inl e) : e.2 ≤ n ∧ 1 ≤ e.1 ∧ e.1 ≤ 5 := by
  unfold clX at h
  cases hc : hd (sgn b n (uP c.1)) with
  | false => rw [hc, if_pos rfl] at h; cases h; exact ⟨hp, (by dsimp only; decide), (by dsimp only; decide)⟩
  | true =>
    rw [hc, if_neg (by decide)] at h
    by_cases hm : c.2.1 = 14
    · rw [if_pos hm] at h; cases h; exact ⟨hp, (by dsimp only; decide), (by dsimp only; decide)⟩
    rw [if_neg hm] at h
    have hs := hh _ hc
    have hl : uP c.1 < n := sgn_lt (c := sgn b n (uP c.1)) (by omega) rfl
    cases e1 : pS b n (pF b n 6) (mvS c.1) with
    | inl z =>
      rw [e1] at h
      cases h
      exact fp_pS (gr_pF 6) (fp_pF 6) _ _ (show uP c.1 + 1 ≤ n by omega) e1
    | inr s1 =>
      rw [e1] at h
      dsimp only at h
      have g1 := gr_pS (gr_pF 6) _ _ (show uP c.1 + 1 ≤ n by omega) e1
      cases e2 : rdF b n (pP b n 5) s1 with
      | inl z =>
        rw [e2] at h
        cases h
        exact fp_rd (gr_pP 5) (fp_pP 5) _ _ g1.2.1 e2
      | inr s2 => rw [e2] at h; cases h
theorem fp_tx {hd : Nat → Bool} (hn : n ≤ 200) (hh : ∀ c, hd c = true → c < 128) : ∀ k c e, WFC n c → txF b n hd k c = .inl e → e.2 ≤ n ∧ 1 ≤ e.1 ∧ e.1 ≤ 5 := by
  intro k
  induction k with
  | zero => intro c e _ h; cases h
  | succ k ih =>
    intro c e hw h
    unfold txF at h
    by_cases q : uP c.1 < n
    · rw [if_pos q] at h
      cases e1 : expS b n 59 c.1 with
      | inl z =>
        rw [e1] at h
        cases h
        unfold expS at e1
        by_cases c3 : sgn b n (uP c.1) = 59
        · rw [if_pos c3] at e1; cases e1
        · rw [if_neg c3] at e1; cases e1; exact ⟨hw.1, (by dsimp only; decide), (by dsimp only; decide)⟩
      | inr s =>
        rw [e1] at h
        dsimp only at h
        obtain ⟨z1, _, _⟩ := exp_ok (by decide) e1
        subst z1
        have hw' : WFC n (mvS c.1, c.2) := ⟨show uP c.1 + 1 ≤ n by omega, show uN c.1 ≤ uP c.1 + 1 by have := hw.2.1; omega, hw.2.2⟩
        cases e2 : clX b n hd (mvS c.1, c.2) with
        | inl z =>
          rw [e2] at h
          cases h
          exact fp_cl hh (show uP c.1 + 1 ≤ n by omega) e2
        | inr c2 =>
          rw [e2] at h
          dsimp only at h
          exact ih c2 e (wfc_cl hn hh hw' e2).1 h
    · rw [if_neg q] at h; cases h
theorem fp_rdT {hd : Nat → Bool} {e : Nat × Nat} (hn : n ≤ 200) (hh : ∀ c, hd c = true → c < 128) (h : rdT b n hd = .inl e) : e.2 ≤ n ∧ 1 ≤ e.1 ∧ e.1 ≤ 5 := by
  unfold rdT at h
  cases e1 : clX b n hd ((0, 0, 0, fun _ => 0), 0, (fun _ => 0), (fun _ => 0), (fun _ => 0), fun _ => 0) with
  | inl z =>
    rw [e1] at h
    cases h
    exact fp_cl hh (Nat.zero_le _) e1
  | inr c =>
    rw [e1] at h
    dsimp only at h
    exact fp_tx hn hh n c e (wfc_cl hn hh (c := ((0, 0, 0, fun _ => 0), 0, (fun _ => 0), (fun _ => 0), (fun _ => 0), fun _ => 0)) ⟨Nat.zero_le _, Nat.le_refl _, rfl, Nat.zero_le _, fun j hj => absurd hj (Nat.not_lt_zero j)⟩ e1).1 h
end FPP
def ckFt (k : Nat) : Bool := allB (fun p => decide (((-1000 : Int32) * nI (k + 1) - nI p) ≤ 0)) 201
theorem all_ft : allB ckFt 5 = true := by decide +kernel
theorem ft_le {e : Nat × Nat} (h : e.2 ≤ 200 ∧ 1 ≤ e.1 ∧ e.1 ≤ 5) : (-1000 : Int32) * nI e.1 - nI e.2 ≤ 0 := by
  have q := allB_get (allB_get all_ft (e.1 - 1) (by omega)) e.2 (by omega)
  rw [show e.1 - 1 + 1 = e.1 by omega] at q
  exact of_decide_eq_true q
