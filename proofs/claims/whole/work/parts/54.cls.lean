/-! THE CLASS READS: pieces, parts, conditions, clauses, a whole text. -/
section CLU
variable {b : Nat → Nat} {n : Nat}
def cmR (b : Nat → Nat) (n : Nat) (F : RdS → RdR) (s1 : RdS) : RdR := if cmpK (sgn b n (uP s1)) = 0 then .inl (1, uP s1) else bnd (pS b n F (mvS s1)) (fun s2 => .inr (adS (cmpK (sgn b n (uP s1))) s2))
theorem cmX_eq {X : RdR} {F : RdS → RdR} : bnd X (cmF b n F) = bnd (bnd X (pS b n F)) (cmR b n F) := by
  rw [bnd_assoc]
  rfl
theorem pce_cm (hN : BN b n) {K d : Nat} {F : RdS → RdR} {C : RdS → Prop} {X : RdR} (hK : K ≤ d + 7) (cl : CLz n C) (gF : GRF n F) (hS : CX b n 44 K (pS b n F) C) {I : Nat → Nat → Int32} {J : Nat → Nat → Int64} {T : Nat → Nat → Nat} {Q : Option Value → Mem → Prop} (ht : TX (T 62 0)) (h : KX b n (T 62 0) X I) (c1 : ¬ sgX b n X = nI 40) (c2 : ¬ sgX b n X = nI 33) (hC : ∀ s, X = .inr s → C s) (g : ∀ I', FT (T 62 0) I I' → KX b n (T 62 0) (bnd X (cmF b n F)) I' → Q none (SH, mkM I' J T)) : Go none aM (Ev mt aM (d + 7)) mX3_piece Q (0, [some (.ref 62), none], [], (SH, mkM I J T), 0, 0) := by
  refine pce_0 ?_
  rw [h.sg]
  refine br1 c1 (br1 c2 (hS (d + 7) X I J T _ hK ht h hC (fun I1 f1 k1 => pce_57 ?_)))
  rw [cmX_eq] at g
  rw [k1.sg]
  cases hX : bnd X (pS b n F) with
  | inl e =>
    rw [hX] at k1 g
    exact br0 m2_no.2.2.2.1 (ev_flX (d := d + 6) (k := 1) (by omega) ht k1 (fun I2 f2 k2 => pce_102 (g I2 (f1.trans f2) k2)))
  | inr s1 =>
    rw [hX] at k1 g
    have g : ∀ I', FT (T 62 0) I I' → KX b n (T 62 0) (cmR b n F s1) I' → Q none (SH, mkM I' J T) := g
    have hsg := sgn_sg (b := b) (n := n) (p := uP s1) hN.2
    have a := (bqI_0 (sg_all hsg).2.2.1).trans beq0
    unfold cmR at g
    show (isoF4 (sgI (sgn b n (uP s1))) = 0 → _) ∧ _
    by_cases c : cmpK (sgn b n (uP s1)) = 0
    · rw [if_pos c] at g
      exact br0 (a.mpr c) (ev_flX (d := d + 6) (k := 1) (by omega) ht k1 (fun I2 f2 k2 => pce_102 (g I2 (f1.trans f2) k2)))
    · rw [if_neg c] at g
      have hr := cmpK_rg c
      have hlt := cmpK_lt c
      have hn := hN.1
      obtain ⟨s, h1, h2⟩ := bnd_ok hX
      subst h1
      have hc1 : C s1 := cl.1 s s1 (hC s rfl) (gr_pS gF s s1 h.in_n.1 h2)
      rw [w_pce hsg k1.sg c]
      refine br1 (fun z => c (a.mp z)) (ev_mvX (d := d + 5) hN ht k1 hlt (fun I2 f2 k2 => pce_107 ?_))
      refine hS (d + 7) (.inr (mvS s1)) I2 J T _ hK ht k2 (fun s' hs' => by cases hs'; exact cl.2.1 s1 hc1) (fun I3 f3 k3 => pce_111 ⟨ht, ?_⟩)
      refine ev_adX (d := d + 5) (k := cmpK (sgn b n (uP s1))) (v := 0) hN (by omega) (fun _ => ⟨rfl, by omega⟩) ht k3 (fun s2 hs2 => mad_lt (x := 0) hn (cl.2.2.1 s1 hc1) (gr_pS gF _ _ (show uP s1 + 1 ≤ n by omega) hs2)) (fun I4 r f4 k4 _ => pce_120 (g I4 (((f1.trans f2).trans f3).trans f4) k4))
theorem part_go (hN : BN b n) {K : Nat} {P : RdS → RdR} {C : RdS → Prop} (cl : CLz n C) (gP : GRF n P) (hP : CX b n 43 K P C) {d : Nat} (hK : K ≤ d + 7) {J : Nat → Nat → Int64} {T : Nat → Nat → Nat} {Q : Option Value → Mem → Prop} (ht : TX (T 62 0)) {I0 : Nat → Nat → Int32} : ∀ (k turn : Nat) (X : RdR) (I : Nat → Nat → Int32), k + turn = n → FT (T 62 0) I0 I → KX b n (T 62 0) X I → (∀ s, X = .inr s → C s) → (∀ I', FT (T 62 0) I0 I' → KX b n (T 62 0) (bnd X (lpA b n P k)) I' → Q none (SH, mkM I' J T)) → Go none aM (Ev mt aM (d + 7)) mX3_part Q (6, [some (.ref 62), some (.int (nI turn)), none], [], (SH, mkM I J T), 0, 0) := by
  have hn := hN.1
  intro k
  induction k with
  | zero =>
    intro turn X I hk f0 h hC g
    refine prt_6 (br0 ?_ (g I f0 ?_))
    · rw [h.1]; exact nI_le (by omega) (by omega)
    · cases X <;> exact h
  | succ k ih =>
    intro turn X I hk f0 h hC g
    refine prt_6 (br1 (by rw [h.1]; exact nI_ge (by omega) (by omega)) ?_)
    rw [h.sg]
    cases X with
    | inl e => exact br1 (m2_ne (x := 38) (by omega)) (g I f0 h)
    | inr s =>
      have hc := hC s rfl
      have g : ∀ I', FT (T 62 0) I0 I' → KX b n (T 62 0) (lpA b n P (k + 1) s) I' → Q none (SH, mkM I' J T) := g
      unfold lpA at g
      have hq := sgI_eq (x := 38) (sgn_sg (b := b) (n := n) (p := uP s) hN.2) (by omega)
      show (sgI (sgn b n (uP s)) = (38 : Int32) → _) ∧ _
      by_cases c : sgn b n (uP s) = 38
      · rw [if_pos c] at g
        have hlt : uP s < n := sgn_lt (by omega) c
        have hl := cl.2.2.1 s hc
        refine br0 (hq.mpr c) (ev_mvX (d := d + 5) hN ht h hlt (fun I1 f1 k1 => prt_27 ⟨ht, ?_⟩))
        refine ev_adX (d := d + 5) (k := 11) (v := 0) hN (by omega) (fun _ => ⟨rfl, by omega⟩) ht k1 (fun s2 hs2 => by cases hs2; show uN s < 200; omega) (fun I2 r f2 k2 hr => prt_37 ?_)
        have hr := hr _ rfl
        subst hr
        have k2 : KX b n (T 62 0) (.inr (adS 11 (mvS s))) I2 := k2
        have gr : ∀ s2, P (adS 11 (mvS s)) = .inr s2 → GR n (adS 11 (mvS s)) s2 := fun s2 hs2 => gP _ _ (show uP s + 1 ≤ n by omega) hs2
        refine hP (d + 7) (.inr (adS 11 (mvS s))) I2 J T _ hK ht k2 (fun s' hs' => by cases hs'; exact cl.2.2.2 s 11 hc) (fun I3 f3 k3 => prt_42 ⟨ht, ?_⟩)
        refine ev_ldX (d := d + 5) (L := uN s) hN (by omega) ht k3 (fun s2 hs2 => ?_) (fun I4 f4 k4 => prt_50 ?_)
        · obtain ⟨_, gp, g3, _, g5, g6⟩ := gr s2 hs2
          have g5 : uN s + 1 ≤ uN s2 := g5
          have g3 : uN s2 + (uP s + 1) ≤ uN s + 1 + uP s2 := g3
          refine ⟨by omega, by omega, ?_⟩
          rw [g6 (uN s) (show uN s < uN s + 1 by omega), show uW (adS 11 (mvS s)) (uN s) = 11 from unF_at]
          omega
        · rw [nI_1]
          refine ih (turn + 1) _ I4 (by omega) ((((f0.trans f1).trans f2).trans f3).trans f4) k4 (fun s3 hs3 => ?_) (fun I' f' k' => g I' f' ?_)
          · obtain ⟨s2, h2, h3⟩ := bnd_ok hs3
            cases h3
            exact cl.1 s _ hc (gr_ln (gr s2 h2))
          · rw [bnd_assoc] at k'
            exact k'
      · rw [if_neg c] at g
        exact br1 (fun z => c (hq.mp z)) (g I f0 h)
theorem cx_part (hN : BN b n) {K : Nat} {P : RdS → RdR} {C : RdS → Prop} (hK : 9 ≤ K) (cl : CLz n C) (gP : GRF n P) (hP : CX b n 43 K P C) : CX b n 42 (K + 1) (pA b n P) C := by
  intro e X I J T Q he ht h hC g
  obtain ⟨d, rfl⟩ : ∃ d, e = d + 8 := ⟨e - 8, by omega⟩
  refine Ev.intro (d := d + 7) mX3_part rfl rfl (prt_0 (d := d) ?_)
  refine hP (d + 7) X I J T _ (by omega) ht h hC (fun I1 f1 k1 => prt_4 (d := d) ?_)
  refine part_go hN cl gP hP (d := d) (by omega) ht n 0 (bnd X P) I1 (by omega) f1 k1 (fun s1 hs1 => ?_) (fun I' f' k' => g I' f' ?_)
  · obtain ⟨s, h1, h2⟩ := bnd_ok hs1
    subst h1
    exact cl.1 s s1 (hC s rfl) (gP s s1 h.in_n.1 h2)
  · rw [bnd_assoc] at k'
    exact k'
theorem parts_go (hN : BN b n) {K : Nat} {P : RdS → RdR} {C : RdS → Prop} (cl : CLz n C) (gP : GRF n P) (hP : CX b n 42 K (pA b n P) C) {d : Nat} (hK : K ≤ d + 7) {J : Nat → Nat → Int64} {T : Nat → Nat → Nat} {Q : Option Value → Mem → Prop} (ht : TX (T 62 0)) {I0 : Nat → Nat → Int32} : ∀ (k turn : Nat) (X : RdR) (I : Nat → Nat → Int32), k + turn = n → FT (T 62 0) I0 I → KX b n (T 62 0) X I → (∀ s, X = .inr s → C s) → (∀ I', FT (T 62 0) I0 I' → KX b n (T 62 0) (bnd X (lpO b n P k)) I' → Q none (SH, mkM I' J T)) → Go none aM (Ev mt aM (d + 7)) mX3_parts Q (6, [some (.ref 62), some (.int (nI turn)), none], [], (SH, mkM I J T), 0, 0) := by
  have hn := hN.1
  intro k
  induction k with
  | zero =>
    intro turn X I hk f0 h hC g
    refine pas_6 (br0 ?_ (g I f0 ?_))
    · rw [h.1]; exact nI_le (by omega) (by omega)
    · cases X <;> exact h
  | succ k ih =>
    intro turn X I hk f0 h hC g
    refine pas_6 (br1 (by rw [h.1]; exact nI_ge (by omega) (by omega)) ?_)
    rw [h.sg]
    cases X with
    | inl e => exact br1 (m2_ne (x := 124) (by omega)) (g I f0 h)
    | inr s =>
      have hc := hC s rfl
      have g : ∀ I', FT (T 62 0) I0 I' → KX b n (T 62 0) (lpO b n P (k + 1) s) I' → Q none (SH, mkM I' J T) := g
      unfold lpO at g
      have hq := sgI_eq (x := 124) (sgn_sg (b := b) (n := n) (p := uP s) hN.2) (by omega)
      show (sgI (sgn b n (uP s)) = (124 : Int32) → _) ∧ _
      by_cases c : sgn b n (uP s) = 124
      · rw [if_pos c] at g
        have hlt : uP s < n := sgn_lt (by omega) c
        have hl := cl.2.2.1 s hc
        refine br0 (hq.mpr c) (ev_mvX (d := d + 5) hN ht h hlt (fun I1 f1 k1 => pas_27 ⟨ht, ?_⟩))
        refine ev_adX (d := d + 5) (k := 12) (v := 0) hN (by omega) (fun _ => ⟨rfl, by omega⟩) ht k1 (fun s2 hs2 => by cases hs2; show uN s < 200; omega) (fun I2 r f2 k2 hr => pas_37 ?_)
        have hr := hr _ rfl
        subst hr
        have k2 : KX b n (T 62 0) (.inr (adS 12 (mvS s))) I2 := k2
        have gr : ∀ s2, pA b n P (adS 12 (mvS s)) = .inr s2 → GR n (adS 12 (mvS s)) s2 := fun s2 hs2 => gr_pA gP _ _ (show uP s + 1 ≤ n by omega) hs2
        refine hP (d + 7) (.inr (adS 12 (mvS s))) I2 J T _ hK ht k2 (fun s' hs' => by cases hs'; exact cl.2.2.2 s 12 hc) (fun I3 f3 k3 => pas_42 ⟨ht, ?_⟩)
        refine ev_ldX (d := d + 5) (L := uN s) hN (by omega) ht k3 (fun s2 hs2 => ?_) (fun I4 f4 k4 => pas_50 ?_)
        · obtain ⟨_, gp, g3, _, g5, g6⟩ := gr s2 hs2
          have g5 : uN s + 1 ≤ uN s2 := g5
          have g3 : uN s2 + (uP s + 1) ≤ uN s + 1 + uP s2 := g3
          refine ⟨by omega, by omega, ?_⟩
          rw [g6 (uN s) (show uN s < uN s + 1 by omega), show uW (adS 12 (mvS s)) (uN s) = 12 from unF_at]
          omega
        · rw [nI_1]
          refine ih (turn + 1) _ I4 (by omega) ((((f0.trans f1).trans f2).trans f3).trans f4) k4 (fun s3 hs3 => ?_) (fun I' f' k' => g I' f' ?_)
          · obtain ⟨s2, h2, h3⟩ := bnd_ok hs3
            cases h3
            exact cl.1 s _ hc (gr_ln (gr s2 h2))
          · rw [bnd_assoc] at k'
            exact k'
      · rw [if_neg c] at g
        exact br1 (fun z => c (hq.mp z)) (g I f0 h)
theorem cx_parts (hN : BN b n) {K : Nat} {P : RdS → RdR} {C : RdS → Prop} (hK : 9 ≤ K) (cl : CLz n C) (gP : GRF n P) (hP : CX b n 43 K P C) : CX b n 41 (K + 2) (pO b n P) C := by
  have hA := cx_part hN hK cl gP hP
  intro e X I J T Q he ht h hC g
  obtain ⟨d, rfl⟩ : ∃ d, e = d + 8 := ⟨e - 8, by omega⟩
  refine Ev.intro (d := d + 7) mX3_parts rfl rfl (pas_0 (d := d) ?_)
  refine hA (d + 7) X I J T _ (by omega) ht h hC (fun I1 f1 k1 => pas_4 (d := d) ?_)
  refine parts_go hN cl gP hA (d := d) (by omega) ht n 0 (bnd X (pA b n P)) I1 (by omega) f1 k1 (fun s1 hs1 => ?_) (fun I' f' k' => g I' f' ?_)
  · obtain ⟨s, h1, h2⟩ := bnd_ok hs1
    subst h1
    exact cl.1 s s1 (hC s rfl) (gr_pA gP s s1 h.in_n.1 h2)
  · rw [bnd_assoc] at k'
    exact k'
/-- what stands in ( ) -/
theorem rnd_X (hN : BN b n) {P : RdS → RdR} {d : Nat} {X : RdR} {I : Nat → Nat → Int32} {J : Nat → Nat → Int64} {T : Nat → Nat → Nat} {Q : Option Value → Mem → Prop} (ht : TX (T 62 0)) (h : KX b n (T 62 0) X I) (gP : GRF n P) (hS : ∀ (s : RdS) (I1 : Nat → Nat → Int32) (Q1 : Option Value → Mem → Prop), X = .inr s → sgn b n (uP s) = 40 → KX b n (T 62 0) (entS s) I1 → (∀ I', FT (T 62 0) I1 I' → KX b n (T 62 0) (bnd (entS s) (pO b n P)) I' → Q1 none (SH, mkM I' J T)) → Ev mt aM (d + 7) 41 [.ref 62] (SH, mkM I1 J T) Q1) (g : ∀ I', FT (T 62 0) I I' → KX b n (T 62 0) (bnd X (rdF b n P)) I' → Q none (SH, mkM I' J T)) : Ev mt aM (d + 8) 40 [.ref 62] (SH, mkM I J T) Q := by
  refine Ev.intro (d := d + 7) mX3_inRound rfl rfl (rnd_0 (d := d) ?_)
  rw [h.sg]
  rcases sg_dich (X := X) hN 40 (by omega) with ⟨s, rfl, hs⟩ | ⟨c, cs⟩
  · have hlt : uP s < n := sgn_lt (by omega) hs
    have e2 : rdF b n P s = bnd (entS s) (fun s1 => bnd (pO b n P s1) (fun s2 => bnd (expS b n 41 s2) (fun s3 => .inr (outS s3)))) := if_pos hs
    refine br0 (show sgI (sgn b n (uP s)) = nI 40 by rw [hs]; rfl) (ev_enX (d := d + 4) hN hlt ht h (fun I1 f1 k1 => rnd_13 (hS s I1 _ rfl hs k1 (fun I2 f2 k2 => rnd_17 ?_))))
    refine ev_exX (d := d + 4) (x := 41) hN (by omega) ht k2 (fun I3 f3 k3 => rnd_23 ?_)
    obtain ⟨o1, o2⟩ := out_X ht k3 (fun s' hs' => by
      obtain ⟨z, z1, z2⟩ := bnd_ok hs'
      obtain ⟨e3, _, _⟩ := exp_ok (by decide) z2
      subst e3
      exact (show 1 ≤ uO z from ent_o (gr_pO gP) hlt z1))
    refine g _ (((f1.trans f2).trans f3).trans o2) ?_
    show KX b n (T 62 0) (rdF b n P s) _
    rw [e2]
    rw [bnd_assoc, bnd_assoc] at o1
    exact o1
  · refine br1 c (ev_flX (d := d + 6) (k := 1) (by omega) ht h (fun I' f k => rnd_41 (g I' f ?_)))
    cases X with
    | inl e => exact k
    | inr s =>
      have e : rdF b n P s = .inl (1, uP s) := if_neg (cs s rfl)
      show KX b n (T 62 0) (rdF b n P s) I'
      rw [e]; exact k
theorem cx_pceF (hN : BN b n) (F : RdS → RdR) : CX b n 43 12 F (fun _ => False) := by
  intro e X I J T Q he ht h hC g
  obtain ⟨d, rfl⟩ : ∃ d, e = d + 12 := ⟨e - 12, by omega⟩
  cases X with
  | inr s => exact (hC s rfl).elim
  | inl z =>
    refine Ev.intro (d := d + 11) mX3_piece rfl rfl ?_
    exact pce_cm (d := d + 4) (K := 11) (F := fun s => .inl (1, uP s)) hN (by omega) clo_no (fun s s2 _ h => by cases h) (cx_sumF hN _) ht h (m2_ne (by omega)) (m2_ne (by omega)) hC g
theorem cx_partsF (hN : BN b n) (F : RdS → RdR) : CX b n 41 14 F (fun _ => False) := by
  have q := cx_parts hN (K := 12) (P := fun s => .inl (1, uP s)) (by omega) clo_no (fun s s2 _ h => by cases h) (cx_pceF hN _)
  intro e X I J T Q he ht h hC g
  cases X with
  | inr s => exact (hC s rfl).elim
  | inl z => exact q e (.inl z) I J T Q he ht h hC g
theorem cx_pce (hN : BN b n) : ∀ D, CX b n 43 (16 + 4 * D) (pP b n D) (CD6 D) := by
  intro D
  induction D with
  | zero =>
    intro e X I J T Q he ht h hC g
    obtain ⟨d, rfl⟩ : ∃ d, e = d + 16 := ⟨e - 16, by omega⟩
    refine Ev.intro (d := d + 15) mX3_piece rfl rfl ?_
    show Go none aM (Ev mt aM (d + 15)) mX3_piece Q (0, [some (.ref 62), none], [], (SH, mkM I J T), 0, 0)
    rcases sg_dich (X := X) hN 40 (by omega) with ⟨s, rfl, hs⟩ | ⟨c1, cs1⟩
    · have hC := hC s rfl
      have h6 : uO s = 6 := by have := h.in_n.2; have := hC.2; omega
      have e1 : entS s = .inl (5, uP s) := if_pos h6
      have e2 : pP b n 0 s = .inl (5, uP s) := if_pos (Or.inl hs)
      have e3 : rdF b n (fun s => .inl (1, uP s)) s = .inl (5, uP s) := by unfold rdF; rw [if_pos hs, e1]; rfl
      refine pce_0 (d := d + 8) ?_
      rw [h.sg]
      refine br0 (show sgI (sgn b n (uP s)) = nI 40 by rw [hs]; rfl) (rnd_X (d := d + 7) (P := fun s => .inl (1, uP s)) hN ht h (fun s s2 _ h => by cases h) (fun s' I1 Q1 hs' _ k1 g1 => ?_) (fun I' f k => pce_13 (g I' f ?_)))
      · cases hs'
        rw [e1] at k1 g1
        exact cx_partsF hN (fun s => .inl (1, uP s)) (d + 14) (.inl (5, uP s)) I1 J T Q1 (by omega) ht k1 (fun s hs => by cases hs) g1
      · have k : KX b n (T 62 0) (rdF b n (fun s => .inl (1, uP s)) s) I' := k
        rw [e3] at k
        show KX b n (T 62 0) (pP b n 0 s) I'
        rw [e2]; exact k
    rcases sg_dich (X := X) hN 33 (by omega) with ⟨s, rfl, hs⟩ | ⟨c2, cs2⟩
    · have hC := hC s rfl
      have h6 : uO s = 6 := by have := h.in_n.2; have := hC.2; omega
      have e1 : entS s = .inl (5, uP s) := if_pos h6
      have e2 : pP b n 0 s = .inl (5, uP s) := if_pos (Or.inr hs)
      refine pce_0 (d := d + 8) ?_
      rw [h.sg]
      refine br1 c1 (br0 (show sgI (sgn b n (uP s)) = nI 33 by rw [hs]; rfl) (ev_enX (d := d + 12) hN (sgn_lt (by omega) hs) ht h (fun I1 f1 k1 => pce_27 (d := d + 8) ?_)))
      rw [e1] at k1
      refine cx_pceF hN (fun s => .inl (1, uP s)) (d + 15) (.inl (5, uP s)) I1 J T _ (by omega) ht k1 (fun s hs => by cases hs) (fun I2 f2 k2 => pce_31 (d := d + 8) ⟨ht, ?_⟩)
      refine ev_adX (d := d + 13) (k := 10) (v := 0) hN (by omega) (fun _ => ⟨rfl, by omega⟩) ht k2 (fun s2 hs2 => by cases hs2) (fun I3 r f3 k3 _ => pce_41 (d := d + 8) ?_)
      obtain ⟨o1, o2⟩ := out_X ht k3 (fun s' hs' => by cases hs')
      refine g _ (((f1.trans f2).trans f3).trans o2) ?_
      show KX b n (T 62 0) (pP b n 0 s) _
      rw [e2]; exact o1
    · refine pce_cm (d := d + 8) (K := 14) (F := pF b n 0) (C := CD6 0) hN (by omega) (clo_cd 0) (gr_pF 0) (cx_sm hN 0) ht h c1 c2 hC (fun I' f k => g I' f ?_)
      cases X with
      | inl e => exact k
      | inr s =>
        have e : pP b n 0 s = cmF b n (pF b n 0) s := if_neg (fun z => z.elim (cs1 s rfl) (cs2 s rfl))
        show KX b n (T 62 0) (pP b n 0 s) I'
        rw [e]; exact k
  | succ D ih =>
    have hS := cx_parts hN (by omega) (clo_cd D) (gr_pP D) ih
    intro e X I J T Q he ht h hC g
    obtain ⟨d, rfl⟩ : ∃ d, e = d + 16 := ⟨e - 16, by omega⟩
    refine Ev.intro (d := d + 15) mX3_piece rfl rfl ?_
    show Go none aM (Ev mt aM (d + 15)) mX3_piece Q (0, [some (.ref 62), none], [], (SH, mkM I J T), 0, 0)
    have inC : ∀ s s1, CD6 (D + 1) s → entS s = .inr s1 → CD6 D s1 := by
      intro s s1 hc hs1
      obtain ⟨e1, _⟩ := ent_ok hs1
      subst e1
      exact ⟨show uN s ≤ uP s + 1 by have := hc.1; omega, show 6 ≤ uO s + 1 + D by have := hc.2; omega⟩
    rcases sg_dich (X := X) hN 40 (by omega) with ⟨s, rfl, hs⟩ | ⟨c1, cs1⟩
    · have e2 : pP b n (D + 1) s = rdF b n (pP b n D) s := if_pos hs
      refine pce_0 (d := d + 8) ?_
      rw [h.sg]
      refine br0 (show sgI (sgn b n (uP s)) = nI 40 by rw [hs]; rfl) (rnd_X (d := d + 7) (P := pP b n D) hN ht h (gr_pP D) (fun s' I1 Q1 hs' _ k1 g1 => ?_) (fun I' f k => pce_13 (g I' f ?_)))
      · cases hs'
        exact hS (d + 14) (entS s) I1 J T Q1 (by omega) ht k1 (fun s1 hs1 => inC s s1 (hC s rfl) hs1) g1
      · have k : KX b n (T 62 0) (rdF b n (pP b n D) s) I' := k
        show KX b n (T 62 0) (pP b n (D + 1) s) I'
        rw [e2]; exact k
    rcases sg_dich (X := X) hN 33 (by omega) with ⟨s, rfl, hs⟩ | ⟨c2, cs2⟩
    · have hlt : uP s < n := sgn_lt (by omega) hs
      have e2 : pP b n (D + 1) s = bnd (entS s) (fun s1 => bnd (pP b n D s1) (fun s2 => .inr (outS (adS 10 s2)))) := by
        show (if sgn b n (uP s) = 40 then _ else if sgn b n (uP s) = 33 then _ else _) = _
        rw [if_neg (cs1 s rfl), if_pos hs]
      refine pce_0 (d := d + 8) ?_
      rw [h.sg]
      refine br1 c1 (br0 (show sgI (sgn b n (uP s)) = nI 33 by rw [hs]; rfl) (ev_enX (d := d + 12) hN hlt ht h (fun I1 f1 k1 => pce_27 (d := d + 8) ?_)))
      refine ih (d + 15) (entS s) I1 J T _ (by omega) ht k1 (fun s1 hs1 => inC s s1 (hC s rfl) hs1) (fun I2 f2 k2 => pce_31 (d := d + 8) ⟨ht, ?_⟩)
      refine ev_adX (d := d + 13) (k := 10) (v := 0) hN (by omega) (fun _ => ⟨rfl, by omega⟩) ht k2 (fun s2 hs2 => ?_) (fun I3 r f3 k3 _ => pce_41 (d := d + 8) ?_)
      · obtain ⟨s1, a1, a2⟩ := bnd_ok hs2
        obtain ⟨e1, _⟩ := ent_ok a1
        subst e1
        obtain ⟨g1, g2, g3, _⟩ := gr_pP D _ s2 (show uP s + 1 ≤ n by omega) a2
        have g1 : uP s + 1 ≤ uP s2 := g1
        have g3 : uN s2 + (uP s + 1) ≤ uN s + uP s2 := g3
        have := (hC s rfl).1
        have := hN.1
        omega
      · obtain ⟨o1, o2⟩ := out_X ht k3 (fun s' hs' => by
          obtain ⟨z, z1, z2⟩ := bnd_ok hs'
          cases z2
          exact (show 1 ≤ uO z from ent_o (gr_pP D) hlt z1))
        refine g _ (((f1.trans f2).trans f3).trans o2) ?_
        show KX b n (T 62 0) (pP b n (D + 1) s) _
        rw [e2]
        rw [bnd_assoc, bnd_assoc] at o1
        exact o1
    · refine pce_cm (d := d + 8) (K := 14 + 3 * (D + 1)) (F := pF b n (D + 1)) (C := CD6 (D + 1)) hN (by omega) (clo_cd _) (gr_pF _) (cx_sm hN _) ht h c1 c2 hC (fun I' f k => g I' f ?_)
      cases X with
      | inl e => exact k
      | inr s =>
        have e : pP b n (D + 1) s = cmF b n (pF b n (D + 1)) s := by
          show (if sgn b n (uP s) = 40 then _ else if sgn b n (uP s) = 33 then _ else _) = _
          rw [if_neg (cs1 s rfl), if_neg (cs2 s rfl)]
        show KX b n (T 62 0) (pP b n (D + 1) s) I'
        rw [e]; exact k
/-- the condition of a clause -/
theorem cx_rd5 (hN : BN b n) : CX b n 40 39 (rdF b n (pP b n 5)) (fun s => uN s ≤ uP s) := by
  have hS := cx_parts hN (by omega) (clo_cd 5) (gr_pP 5) (cx_pce hN 5)
  intro e X I J T Q he ht h hC g
  obtain ⟨d, rfl⟩ : ∃ d, e = d + 39 := ⟨e - 39, by omega⟩
  refine rnd_X (d := d + 31) (P := pP b n 5) hN ht h (gr_pP 5) (fun s' I1 Q1 hs' _ k1 g1 => ?_) g
  subst hs'
  refine hS (d + 38) (entS s') I1 J T Q1 (by omega) ht k1 (fun s1 hs1 => ?_) g1
  obtain ⟨e1, _⟩ := ent_ok hs1
  subst e1
  exact ⟨show uN s' ≤ uP s' + 1 by have := hC s' rfl; omega, show 6 ≤ uO s' + 1 + 5 by omega⟩
end CLU
