/-! THE CLASS READS: factors, sums, pieces. -/
section CLT
variable {b : Nat → Nat} {n : Nat}
/-- how much is open, how much code there may be -/
def CD6 (D : Nat) (s : RdS) : Prop := uN s ≤ uP s ∧ 6 ≤ uO s + D
def CLz (n : Nat) (C : RdS → Prop) : Prop := (∀ s s2, C s → GR n s s2 → C s2) ∧ (∀ s, C s → C (mvS s)) ∧ (∀ s, C s → uN s ≤ uP s) ∧ ∀ s x, C s → C (adS x (mvS s))
theorem gr_cd {D : Nat} {s s2 : RdS} (g : GR n s s2) (h : CD6 D s) : CD6 D s2 := by
  obtain ⟨g1, g2, g3, g4, g5, g6⟩ := g
  obtain ⟨h1, h2⟩ := h
  exact ⟨by omega, by omega⟩
theorem mv_cd {D : Nat} {s : RdS} (h : CD6 D s) : CD6 D (mvS s) := ⟨Nat.le_succ_of_le h.1, h.2⟩
theorem clo_cd (D : Nat) : CLz n (CD6 D) := ⟨fun _ _ h g => gr_cd g h, fun _ h => mv_cd h, fun _ h => h.1, fun _ _ h => ⟨Nat.succ_le_succ h.1, h.2⟩⟩
theorem clo_no : CLz n (fun _ => False) := ⟨fun _ _ h _ => h, fun _ h => h, fun _ h => h.elim, fun _ _ h => h⟩
theorem fac_no (hN : BN b n) {d : Nat} {X : RdR} {I : Nat → Nat → Int32} {J : Nat → Nat → Int64} {T : Nat → Nat → Nat} {Q : Option Value → Mem → Prop} (ht : TX (T 62 0)) (h : KX b n (T 62 0) X I) (hl : ∀ s, X = .inr s → uN s ≤ uP s) (c : ¬ sgX b n X = nI 91) (g : ∀ I', FT (T 62 0) I I' → KX b n (T 62 0) (bnd X (atS b n)) I' → Q none (SH, mkM I' J T)) : Go none aM (Ev mt aM (d + 8)) mX3_factor Q (0, [some (.ref 62)], [], (SH, mkM I J T), 0, 0) := by
  refine fac_0 (d := d + 1) ?_
  rw [h.sg]
  refine br1 c ?_
  cases X with
  | inl e =>
    refine br0 m2_no.2.1 (br0 m2_no.2.2.1 (ev_flX (d := d + 7) (k := 1) (by omega) ht h (fun I' f k => fac_101 (d := d + 1) (g I' f k))))
  | inr s =>
    have hl := hl s rfl
    have hp := h.in_n.1
    obtain ⟨a1, a2, _, _, _, _, _, _, a3⟩ := sg_all (sgn_sg (b := b) (n := n) (p := uP s) hN.2)
    have g : ∀ I', FT (T 62 0) I I' → KX b n (T 62 0) (atS b n s) I' → Q none (SH, mkM I' J T) := g
    unfold atS at g
    show (isoF2 (sgI (sgn b n (uP s))) = 0 → _) ∧ _
    by_cases c1 : isDg (sgn b n (uP s)) = true
    · rw [if_pos c1] at g
      refine br1 (fun z => by rw [(bqI_0 a1).mp z] at c1; cases c1) (ev_num (d := d) hN ht h (fun I1 r f1 k1 e1 => fac_54 (d := d + 1) (t := T 62 0) ⟨ht, ?_⟩))
      have hlt : ∀ s', dgX b n 5 0 s = .inr s' → uN s' < 200 := by
        intro s' hs'
        unfold dgX at hs'
        cases hd : dgF b n 5 0 (uP s) with
        | inl e => rw [hd] at hs'; cases hs'
        | inr q =>
          rw [hd] at hs'; cases hs'
          obtain ⟨z1, z2, _, z4⟩ := dgF_ok 5 0 (uP s) q hp hd
          have := z4 c1 (by omega)
          have := hN.1
          show uN s < 200
          omega
      refine ev_adX (d := d + 6) (k := 0) (v := dgV b n 5 0 (uP s)) hN (by omega) (fun hs => ⟨e1 hs, ?_⟩) ht k1 hlt (fun I2 r2 f2 k2 _ => fac_57 (d := d + 1) (g I2 (f1.trans f2) ?_))
      · unfold dgV
        cases hd : dgF b n 5 0 (uP s) with
        | inl e => exact (by decide : 0 < 2 ^ 20)
        | inr q =>
          obtain ⟨_, _, z3, _⟩ := dgF_ok 5 0 (uP s) q hp hd
          have z3 : q.1 + 1 ≤ 100000 := z3
          show q.1 < 2 ^ 20
          omega
      · have e : bnd (dgX b n 5 0 s) (fun s => .inr (adS (0 + 16 * dgV b n 5 0 (uP s)) s)) = bnd (dgX b n 5 0 s) (fun s => .inr (adS (0 + 16 * dgV b n 5 0 (uP s)) s)) := rfl
        unfold dgX dgV at k2
        cases hd : dgF b n 5 0 (uP s) with
        | inl e => rw [hd] at k2; exact k2
        | inr q =>
          rw [hd] at k2
          have k2 : KX b n (T 62 0) (.inr (adS (0 + 16 * q.1) (q.2, uO s, uN s, uW s))) I2 := k2
          rw [Nat.zero_add] at k2
          exact k2
    · rw [if_neg c1] at g
      refine br0 ((bqI_0 a1).mpr (by simpa using c1)) ?_
      show (isoF3 (sgI (sgn b n (uP s))) = 0 → _) ∧ _
      by_cases c2 : letF (sgn b n (uP s)) < 16
      · rw [if_pos c2] at g
        have hb2 : Nat.blt (letF (sgn b n (uP s))) 16 = true := Nat.ble_eq_true_of_le c2
        have hlt := letF_lt c2
        have hn := hN.1
        refine br1 (fun z => by have := (bqI_0 a2).mp z; rw [hb2] at this; cases this) ⟨ht, ev_adX (d := d + 6) (k := 1) (v := letF (sgn b n (uP s))) hN (by omega) (fun _ => ⟨a3 c2, by omega⟩) ht h (fun s' hs' => by cases hs'; omega) (fun I1 r f1 k1 _ => fac_88 (d := d + 1) ?_)⟩
        exact ev_mvX (d := d + 6) hN ht k1 hlt (fun I2 f2 k2 => fac_93 (d := d + 1) (g I2 (f1.trans f2) k2))
      · rw [if_neg c2] at g
        have hb2 : Nat.blt (letF (sgn b n (uP s))) 16 = false := by
          cases hb : Nat.blt (letF (sgn b n (uP s))) 16 with
          | false => rfl
          | true => exact absurd (Nat.le_of_ble_eq_true hb) c2
        refine br0 ((bqI_0 a2).mpr hb2) (ev_flX (d := d + 7) (k := 1) (by omega) ht h (fun I' f k => fac_101 (d := d + 1) (g I' f k)))
theorem cx_facF (hN : BN b n) (F : RdS → RdR) : CX b n 46 9 F (fun _ => False) := by
  intro e X I J T Q he ht h hC g
  obtain ⟨d, rfl⟩ : ∃ d, e = d + 9 := ⟨e - 9, by omega⟩
  refine Ev.intro (d := d + 8) mX3_factor rfl rfl ?_
  show Go none aM (Ev mt aM (d + 8)) mX3_factor Q (0, [some (.ref 62)], [], (SH, mkM I J T), 0, 0)
  cases X with
  | inr s => exact (hC s rfl).elim
  | inl e => exact fac_no hN ht h (fun s hs => by cases hs) (m2_ne (by omega)) g
theorem sg_dich {X : RdR} (hN : BN b n) (x : Nat) (hx : x < 256) : (∃ s, X = .inr s ∧ sgn b n (uP s) = x) ∨ (¬ sgX b n X = nI x ∧ ∀ s, X = .inr s → ¬ sgn b n (uP s) = x) := by
  by_cases c : sgX b n X = nI x
  · exact Or.inl (sgX_eq hN hx c)
  · refine Or.inr ⟨c, fun s hs => ?_⟩
    subst hs
    exact sgX_ne hN hx c
theorem w_trm {c : Nat} {I : Nat → Nat → Int32} (h : SG c) (h5 : I 62 5 = sgI c) (hc : mulK c ≠ 0) : w2_trm_6 I = nI (mulK c) := by
  have e1 : I 62 5 = (42 : Int32) ↔ c = 42 := by rw [h5]; exact sgI_eq (x := 42) h (by omega)
  have e2 : I 62 5 = (47 : Int32) ↔ c = 47 := by rw [h5]; exact sgI_eq (x := 47) h (by omega)
  unfold mulK at hc ⊢
  unfold w2_trm_6 w1_trm_6
  by_cases c1 : c = 42
  · rw [if_pos (e1.mpr c1), if_pos c1]; rfl
  · rw [if_neg (fun q => c1 (e1.mp q)), if_neg c1]
    rw [if_neg c1] at hc
    by_cases c2 : c = 47
    · rw [if_pos (e2.mpr c2), if_pos c2]; rfl
    · rw [if_neg (fun q => c2 (e2.mp q)), if_neg c2]
      rw [if_neg c2] at hc
      by_cases c3 : c = 37
      · rw [if_pos c3]; rfl
      · rw [if_neg c3] at hc; exact absurd rfl hc
theorem w_sum {c : Nat} {I : Nat → Nat → Int32} (h : SG c) (h5 : I 62 5 = sgI c) (hc : addK c ≠ 0) : w1_smm_6 I = nI (addK c) := by
  have e1 : I 62 5 = (43 : Int32) ↔ c = 43 := by rw [h5]; exact sgI_eq (x := 43) h (by omega)
  unfold addK at hc ⊢
  unfold w1_smm_6
  by_cases c1 : c = 43
  · rw [if_pos (e1.mpr c1), if_pos c1]; rfl
  · rw [if_neg (fun q => c1 (e1.mp q)), if_neg c1]
    rw [if_neg c1] at hc
    by_cases c2 : c = 45
    · rw [if_pos c2]; rfl
    · rw [if_neg c2] at hc; exact absurd rfl hc
theorem w_pce {c : Nat} {I : Nat → Nat → Int32} (h : SG c) (h5 : I 62 5 = sgI c) (hc : cmpK c ≠ 0) : w2_pce_57 I = nI (cmpK c) := by
  have e1 : I 62 5 = (60 : Int32) ↔ c = 60 := by rw [h5]; exact sgI_eq (x := 60) h (by omega)
  have e2 : I 62 5 = (62 : Int32) ↔ c = 62 := by rw [h5]; exact sgI_eq (x := 62) h (by omega)
  unfold cmpK at hc ⊢
  unfold w2_pce_57 w1_pce_57
  by_cases c1 : c = 60
  · rw [if_pos (e1.mpr c1), if_pos c1]; rfl
  · rw [if_neg (fun q => c1 (e1.mp q)), if_neg c1]
    rw [if_neg c1] at hc
    by_cases c2 : c = 62
    · rw [if_pos (e2.mpr c2), if_pos c2]; rfl
    · rw [if_neg (fun q => c2 (e2.mp q)), if_neg c2]
      rw [if_neg c2] at hc
      by_cases c3 : c = 61
      · rw [if_pos c3]; rfl
      · rw [if_neg c3] at hc; exact absurd rfl hc
theorem beq0 {x : Nat} : (!(Nat.beq x 0)) = false ↔ x = 0 := nbq
/-- after a factor and its sign -/
theorem mad_lt {x : Nat} {s s2 : RdS} (hn : n ≤ 200) (hl : uN s ≤ uP s) (g : GR n (mvS s) s2) : uN s2 < 200 := by
  obtain ⟨g1, g2, g3, _⟩ := g
  have g1 : uP s + 1 ≤ uP s2 := g1
  have g3 : uN s2 + (uP s + 1) ≤ uN s + uP s2 := g3
  omega
theorem term_go (hN : BN b n) {K : Nat} {F : RdS → RdR} {C : RdS → Prop} (cl : CLz n C) (gF : GRF n F) (hF : CX b n 46 K F C) {d : Nat} (hK : K ≤ d + 7) {J : Nat → Nat → Int64} {T : Nat → Nat → Nat} {Q : Option Value → Mem → Prop} (ht : TX (T 62 0)) {I0 : Nat → Nat → Int32} : ∀ (k turn : Nat) (X : RdR) (I : Nat → Nat → Int32), k + turn = n → FT (T 62 0) I0 I → KX b n (T 62 0) X I → (∀ s, X = .inr s → C s) → (∀ I', FT (T 62 0) I0 I' → KX b n (T 62 0) (bnd X (lpT b n F k)) I' → Q none (SH, mkM I' J T)) → Go none aM (Ev mt aM (d + 7)) mX3_term Q (6, [some (.ref 62), some (.int (nI turn)), none], [], (SH, mkM I J T), 0, 0) := by
  have hn := hN.1
  intro k
  induction k with
  | zero =>
    intro turn X I hk f0 h hC g
    refine trm_6 (br0 ?_ (g I f0 ?_))
    · rw [h.1]; exact nI_le (by omega) (by omega)
    · cases X <;> exact h
  | succ k ih =>
    intro turn X I hk f0 h hC g
    refine trm_6 (br1 (by rw [h.1]; exact nI_ge (by omega) (by omega)) ?_)
    rw [h.sg]
    cases X with
    | inl e => exact br0 m2_no.2.2.2.2.2.1 (g I f0 h)
    | inr s =>
      have hc := hC s rfl
      have hsg := sgn_sg (b := b) (n := n) (p := uP s) hN.2
      have a := (bqI_0 (sg_all hsg).2.2.2.2.1).trans beq0
      have g : ∀ I', FT (T 62 0) I0 I' → KX b n (T 62 0) (lpT b n F (k + 1) s) I' → Q none (SH, mkM I' J T) := g
      unfold lpT at g
      show (isoF6 (sgI (sgn b n (uP s))) = 0 → _) ∧ _
      by_cases c : mulK (sgn b n (uP s)) = 0
      · rw [if_pos c] at g
        exact br0 (a.mpr c) (g I f0 h)
      · rw [if_neg c] at g
        have hr := mulK_rg c
        have hlt := mulK_lt c
        rw [w_trm hsg h.sg c]
        refine br1 (fun z => c (a.mp z)) (ev_mvX (d := d + 5) hN ht h hlt (fun I1 f1 k1 => trm_56 ?_))
        refine hF (d + 7) (.inr (mvS s)) I1 J T _ hK ht k1 (fun s' hs' => by cases hs'; exact cl.2.1 s hc) (fun I2 f2 k2 => trm_60 ⟨ht, ?_⟩)
        have gr : ∀ s2, F (mvS s) = .inr s2 → GR n (mvS s) s2 := fun s2 hs2 => gF _ _ (show uP s + 1 ≤ n by omega) hs2
        refine ev_adX (d := d + 5) (k := mulK (sgn b n (uP s))) (v := 0) hN (by omega) (fun _ => ⟨rfl, by omega⟩) ht k2 (fun s2 hs2 => mad_lt (x := 0) hn (cl.2.2.1 s hc) (gr s2 hs2)) (fun I3 r f3 k3 _ => trm_69 ?_)
        rw [nI_1]
        refine ih (turn + 1) _ I3 (by omega) (((f0.trans f1).trans f2).trans f3) k3 (fun s3 hs3 => ?_) (fun I' f' k' => g I' f' ?_)
        · obtain ⟨s2, h2, h3⟩ := bnd_ok hs3
          cases h3
          exact cl.1 s _ hc (gr_mad (gr s2 h2))
        · rw [bnd_assoc] at k'
          exact k'
theorem cx_term (hN : BN b n) {K : Nat} {F : RdS → RdR} {C : RdS → Prop} (hK : 9 ≤ K) (cl : CLz n C) (gF : GRF n F) (hF : CX b n 46 K F C) : CX b n 45 (K + 1) (pT b n F) C := by
  intro e X I J T Q he ht h hC g
  obtain ⟨d, rfl⟩ : ∃ d, e = d + 8 := ⟨e - 8, by omega⟩
  refine Ev.intro (d := d + 7) mX3_term rfl rfl (trm_0 (d := d) ?_)
  refine hF (d + 7) X I J T _ (by omega) ht h hC (fun I1 f1 k1 => trm_4 (d := d) ?_)
  refine term_go hN cl gF hF (d := d) (by omega) ht n 0 (bnd X F) I1 (by omega) f1 k1 (fun s1 hs1 => ?_) (fun I' f' k' => g I' f' ?_)
  · obtain ⟨s, h1, h2⟩ := bnd_ok hs1
    subst h1
    exact cl.1 s s1 (hC s rfl) (gF s s1 h.in_n.1 h2)
  · rw [bnd_assoc] at k'
    exact k'
theorem sum_go (hN : BN b n) {K : Nat} {F : RdS → RdR} {C : RdS → Prop} (cl : CLz n C) (gF : GRF n F) (hF : CX b n 45 K (pT b n F) C) {d : Nat} (hK : K ≤ d + 7) {J : Nat → Nat → Int64} {T : Nat → Nat → Nat} {Q : Option Value → Mem → Prop} (ht : TX (T 62 0)) {I0 : Nat → Nat → Int32} : ∀ (k turn : Nat) (X : RdR) (I : Nat → Nat → Int32), k + turn = n → FT (T 62 0) I0 I → KX b n (T 62 0) X I → (∀ s, X = .inr s → C s) → (∀ I', FT (T 62 0) I0 I' → KX b n (T 62 0) (bnd X (lpS b n F k)) I' → Q none (SH, mkM I' J T)) → Go none aM (Ev mt aM (d + 7)) mX3_sum Q (6, [some (.ref 62), some (.int (nI turn)), none], [], (SH, mkM I J T), 0, 0) := by
  have hn := hN.1
  intro k
  induction k with
  | zero =>
    intro turn X I hk f0 h hC g
    refine smm_6 (br0 ?_ (g I f0 ?_))
    · rw [h.1]; exact nI_le (by omega) (by omega)
    · cases X <;> exact h
  | succ k ih =>
    intro turn X I hk f0 h hC g
    refine smm_6 (br1 (by rw [h.1]; exact nI_ge (by omega) (by omega)) ?_)
    rw [h.sg]
    cases X with
    | inl e => exact br0 m2_no.2.2.2.2.1 (g I f0 h)
    | inr s =>
      have hc := hC s rfl
      have hsg := sgn_sg (b := b) (n := n) (p := uP s) hN.2
      have a := (bqI_0 (sg_all hsg).2.2.2.1).trans beq0
      have g : ∀ I', FT (T 62 0) I0 I' → KX b n (T 62 0) (lpS b n F (k + 1) s) I' → Q none (SH, mkM I' J T) := g
      unfold lpS at g
      show (isoF5 (sgI (sgn b n (uP s))) = 0 → _) ∧ _
      by_cases c : addK (sgn b n (uP s)) = 0
      · rw [if_pos c] at g
        exact br0 (a.mpr c) (g I f0 h)
      · rw [if_neg c] at g
        have hr := addK_rg c
        have hlt := addK_lt c
        rw [w_sum hsg h.sg c]
        refine br1 (fun z => c (a.mp z)) (ev_mvX (d := d + 5) hN ht h hlt (fun I1 f1 k1 => smm_42 ?_))
        refine hF (d + 7) (.inr (mvS s)) I1 J T _ hK ht k1 (fun s' hs' => by cases hs'; exact cl.2.1 s hc) (fun I2 f2 k2 => smm_46 ⟨ht, ?_⟩)
        have gr : ∀ s2, pT b n F (mvS s) = .inr s2 → GR n (mvS s) s2 := fun s2 hs2 => gr_pT gF _ _ (show uP s + 1 ≤ n by omega) hs2
        refine ev_adX (d := d + 5) (k := addK (sgn b n (uP s))) (v := 0) hN (by omega) (fun _ => ⟨rfl, by omega⟩) ht k2 (fun s2 hs2 => mad_lt (x := 0) hn (cl.2.2.1 s hc) (gr s2 hs2)) (fun I3 r f3 k3 _ => smm_55 ?_)
        rw [nI_1]
        refine ih (turn + 1) _ I3 (by omega) (((f0.trans f1).trans f2).trans f3) k3 (fun s3 hs3 => ?_) (fun I' f' k' => g I' f' ?_)
        · obtain ⟨s2, h2, h3⟩ := bnd_ok hs3
          cases h3
          exact cl.1 s _ hc (gr_mad (gr s2 h2))
        · rw [bnd_assoc] at k'
          exact k'
theorem cx_sum (hN : BN b n) {K : Nat} {F : RdS → RdR} {C : RdS → Prop} (hK : 9 ≤ K) (cl : CLz n C) (gF : GRF n F) (hF : CX b n 46 K F C) : CX b n 44 (K + 2) (pS b n F) C := by
  have hT := cx_term hN hK cl gF hF
  intro e X I J T Q he ht h hC g
  obtain ⟨d, rfl⟩ : ∃ d, e = d + 8 := ⟨e - 8, by omega⟩
  refine Ev.intro (d := d + 7) mX3_sum rfl rfl (smm_0 (d := d) ?_)
  refine hT (d + 7) X I J T _ (by omega) ht h hC (fun I1 f1 k1 => smm_4 (d := d) ?_)
  refine sum_go hN cl gF hT (d := d) (by omega) ht n 0 (bnd X (pT b n F)) I1 (by omega) f1 k1 (fun s1 hs1 => ?_) (fun I' f' k' => g I' f' ?_)
  · obtain ⟨s, h1, h2⟩ := bnd_ok hs1
    subst h1
    exact cl.1 s s1 (hC s rfl) (gr_pT gF s s1 h.in_n.1 h2)
  · rw [bnd_assoc] at k'
    exact k'
theorem cx_sumF (hN : BN b n) (F : RdS → RdR) : CX b n 44 11 F (fun _ => False) := by
  have q := cx_sum hN (K := 9) (F := fun s => .inl (1, uP s)) (by omega) clo_no (fun s s2 _ h => by cases h) (cx_facF hN _)
  intro e X I J T Q he ht h hC g
  cases X with
  | inr s => exact (hC s rfl).elim
  | inl z => exact q e (.inl z) I J T Q he ht h hC g
/-- what stands in [ ] -/
theorem fac_in (hN : BN b n) {F : RdS → RdR} {d : Nat} {s : RdS} {I : Nat → Nat → Int32} {J : Nat → Nat → Int64} {T : Nat → Nat → Nat} {Q : Option Value → Mem → Prop} (ht : TX (T 62 0)) (h : KX b n (T 62 0) (.inr s) I) (hs : sgn b n (uP s) = 91) (hS : ∀ (I1 : Nat → Nat → Int32) (Q1 : Option Value → Mem → Prop), KX b n (T 62 0) (entS s) I1 → (∀ I', FT (T 62 0) I1 I' → KX b n (T 62 0) (bnd (entS s) F) I' → Q1 none (SH, mkM I' J T)) → Ev mt aM (d + 7) 44 [.ref 62] (SH, mkM I1 J T) Q1) (h1 : ∀ z, bnd (entS s) F = .inr z → 1 ≤ uO z) (g : ∀ I', FT (T 62 0) I I' → KX b n (T 62 0) (bnd (entS s) (fun s1 => bnd (F s1) (fun s2 => bnd (expS b n 93 s2) (fun s3 => .inr (outS s3))))) I' → Q none (SH, mkM I' J T)) : Go none aM (Ev mt aM (d + 7)) mX3_factor Q (0, [some (.ref 62)], [], (SH, mkM I J T), 0, 0) := by
  have hlt : uP s < n := sgn_lt (by omega) hs
  refine fac_0 ?_
  rw [h.sg]
  refine br0 (show sgI (sgn b n (uP s)) = nI 91 by rw [hs]; rfl) (ev_enX (d := d + 4) hN hlt ht h (fun I1 f1 k1 => fac_13 (hS I1 _ k1 (fun I2 f2 k2 => fac_17 ?_))))
  refine ev_exX (d := d + 4) (x := 93) hN (by omega) ht k2 (fun I3 f3 k3 => fac_23 ?_)
  obtain ⟨o1, o2⟩ := out_X ht k3 (fun s' hs' => by
    obtain ⟨z, z1, z2⟩ := bnd_ok hs'
    obtain ⟨e3, _, _⟩ := exp_ok (by decide) z2
    subst e3
    exact h1 z z1)
  refine g _ (((f1.trans f2).trans f3).trans o2) ?_
  rw [bnd_assoc, bnd_assoc] at o1
  exact o1
theorem ent_o {s z : RdS} {F : RdS → RdR} (gF : GRF n F) (hp : uP s < n) (h : bnd (entS s) F = .inr z) : 1 ≤ uO z := by
  obtain ⟨s1, a1, a2⟩ := bnd_ok h
  obtain ⟨e1, _⟩ := ent_ok a1
  subst e1
  have gg := gF _ z (show uP s + 1 ≤ n by omega) a2
  rw [gg.2.2.2.1]
  exact Nat.le_add_left 1 (uO s)
theorem cx_fac (hN : BN b n) : ∀ D, CX b n 46 (12 + 3 * D) (pF b n D) (CD6 D) := by
  intro D
  induction D with
  | zero =>
    intro e X I J T Q he ht h hC g
    obtain ⟨d, rfl⟩ : ∃ d, e = d + 12 := ⟨e - 12, by omega⟩
    refine Ev.intro (d := d + 11) mX3_factor rfl rfl ?_
    show Go none aM (Ev mt aM (d + 11)) mX3_factor Q (0, [some (.ref 62)], [], (SH, mkM I J T), 0, 0)
    rcases sg_dich (X := X) hN 91 (by omega) with ⟨s, rfl, hs⟩ | ⟨c, cs⟩
    · have hC := hC s rfl
      have h6 : uO s = 6 := by have := h.in_n.2; have := hC.2; omega
      have e1 : entS s = .inl (5, uP s) := if_pos h6
      have e2 : pF b n 0 s = .inl (5, uP s) := if_pos hs
      refine fac_in (F := fun s => .inl (1, uP s)) (d := d + 4) hN ht h hs (fun I1 Q1 k1 g1 => ?_) (fun z hz => by rw [e1] at hz; cases hz) (fun I' f k => g I' f ?_)
      · rw [e1] at k1 g1
        exact cx_sumF hN (fun s => .inl (1, uP s)) (d + 11) (.inl (5, uP s)) I1 J T Q1 (by omega) ht k1 (fun s hs => by cases hs) g1
      · rw [e1] at k
        show KX b n (T 62 0) (pF b n 0 s) I'
        rw [e2]
        exact k
    · refine fac_no (d := d + 3) hN ht h (fun s hs => (hC s hs).1) c (fun I' f k => g I' f ?_)
      cases X with
      | inl e => exact k
      | inr s =>
        have e : pF b n 0 s = atS b n s := if_neg (cs s rfl)
        show KX b n (T 62 0) (pF b n 0 s) I'
        rw [e]; exact k
  | succ D ih =>
    have hS := cx_sum hN (by omega) (clo_cd D) (gr_pF D) ih
    intro e X I J T Q he ht h hC g
    obtain ⟨d, rfl⟩ : ∃ d, e = d + 12 := ⟨e - 12, by omega⟩
    refine Ev.intro (d := d + 11) mX3_factor rfl rfl ?_
    show Go none aM (Ev mt aM (d + 11)) mX3_factor Q (0, [some (.ref 62)], [], (SH, mkM I J T), 0, 0)
    rcases sg_dich (X := X) hN 91 (by omega) with ⟨s, rfl, hs⟩ | ⟨c, cs⟩
    · have hC := hC s rfl
      refine fac_in (F := pS b n (pF b n D)) (d := d + 4) hN ht h hs (fun I1 Q1 k1 g1 => ?_) (fun z hz => ent_o (gr_pS (gr_pF D)) (sgn_lt (by omega) hs) hz) (fun I' f k => g I' f ?_)
      · refine hS (d + 11) (entS s) I1 J T Q1 (by omega) ht k1 (fun s1 hs1 => ?_) g1
        obtain ⟨e1, _⟩ := ent_ok hs1
        subst e1
        exact ⟨show uN s ≤ uP s + 1 by have := hC.1; omega, show 6 ≤ uO s + 1 + D by have := hC.2; omega⟩
      · have e2 : pF b n (D + 1) s = bnd (entS s) (fun s1 => bnd (pS b n (pF b n D) s1) (fun s2 => bnd (expS b n 93 s2) (fun s3 => .inr (outS s3)))) := if_pos hs
        show KX b n (T 62 0) (pF b n (D + 1) s) I'
        rw [e2]
        exact k
    · refine fac_no (d := d + 3) hN ht h (fun s hs => (hC s hs).1) c (fun I' f k => g I' f ?_)
      cases X with
      | inl e => exact k
      | inr s =>
        have e : pF b n (D + 1) s = atS b n s := if_neg (cs s rfl)
        show KX b n (T 62 0) (pF b n (D + 1) s) I'
        rw [e]; exact k
theorem cx_sm (hN : BN b n) (D : Nat) : CX b n 44 (14 + 3 * D) (pS b n (pF b n D)) (CD6 D) := by
  have := cx_sum hN (by omega) (clo_cd D) (gr_pF D) (cx_fac hN D)
  intro e X I J T Q he
  exact this e X I J T Q (by omega)
end CLT
