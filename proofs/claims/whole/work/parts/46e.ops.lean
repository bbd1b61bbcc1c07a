/-! CALLS: kept, together, slower; wrong, worst. -/
theorem ev_firstWith {S : St} (hA : BD (zA S)) {all once pace oth : Nat} (h0 : TN oth all once pace) {d : Nat} {I : Nat → Nat → Int32} {J : Nat → Nat → Int64} {T : Nat → Nat → Nat} {Q : Option Value → Mem → Prop} (h : MINV S I) (g : ∀ I' J', Fr LM I I' → Fj LM J J' → MINV S I' → Q (some (.long (lN (bV (zA S) oth all once pace (qN (zA S)) 2 1536)))) (SH, mkM I' J' T)) : Ev mt aM (d + 31) 255 [.ref 83, .int (nI all), .int (nI once), .int (nI pace), .int (nI oth)] (SH, mkM I J T) Q := by
  have h5 := hA.1.2
  have f0 : Fr [83] I (si (si (si I 83 34 (nI all)) 83 35 (nI once)) 83 36 (nI pace)) := (Fr.rfl' _ _).to rfl |>.to rfl |>.to rfl
  have e0 : ∀ j, j ≠ 34 → j ≠ 35 → j ≠ 36 → (si (si (si I 83 34 (nI all)) 83 35 (nI once)) 83 36 (nI pace)) 83 j = I 83 j := fun j a b c => by rw [si_ne c, si_ne b, si_ne a]
  have r0 : RM (zA S) (si (si (si I 83 34 (nI all)) 83 35 (nI once)) 83 36 (nI pace)) := h.1.fr83 rfl f0 (e0 0 (by omega) (by omega) (by omega)) (e0 1 (by omega) (by omega) (by omega)) (e0 2 (by omega) (by omega) (by omega))
  have n0 : RN all once pace (si (si (si I 83 34 (nI all)) 83 35 (nI once)) 83 36 (nI pace)) := ⟨by rw [si_ne (by omega), si_ne (by omega), si_at], by rw [si_ne (by omega), si_at], si_at⟩
  refine Ev.intro mX12_firstWith rfl rfl (mfirstWith_0 (d := d) ?_)
  have key := ev_solves (r := none) (d := d + 20) (l0 := qN (zA S)) (s0 := 2) (o0 := 1536) (J := J) (T := T) (Q := fun r m1 => Go none aM (Ev mt aM (d + 30)) mX12_firstWith Q (27, [some (.ref 83), some (.int (nI all)), some (.int (nI once)), some (.int (nI pace)), some (.int (nI oth)), none, none], r.toList ++ [], m1, 0, 0)) hA h0.1 h0.2.2.2 h0.2.1 (by have := h0.2.2.1.2; omega) RR.none r0 n0 (Nat.le_refl _) (by omega) cd1536.1 (by rw [cd1536.2.1]; omega) (fun I1 J1 f1 j1 s1 _ => mfirstWith_27 (d := d) ?_)
  · rw [Nat.sub_self] at key
    exact key
  · have f2 : Fr [83] I1 (si (si (si I1 83 34 (I1 83 1)) 83 35 (I1 83 2)) 83 36 (0 : Int32)) := (Fr.rfl' _ _).to rfl |>.to rfl |>.to rfl
    have fa : Fr [83, 91, 92, 93, 94, 95, 96, 103, 104, 105, 106, 107, 108, 109, 110, 111, 112, 117] I (si (si (si I1 83 34 (I1 83 1)) 83 35 (I1 83 2)) 83 36 (0 : Int32)) := ((f0.sub rfl).trans (f1.sub rfl)).trans (f2.sub rfl)
    have e2 : ∀ j, j ≠ 34 → j ≠ 35 → j ≠ 36 → (si (si (si I1 83 34 (I1 83 1)) 83 35 (I1 83 2)) 83 36 (0 : Int32)) 83 j = I 83 j := fun j a b c => by rw [si_ne c, si_ne b, si_ne a, f1 83 rfl, e0 j a b c]
    refine g _ J1 (fa.sub rfl) (j1.sub rfl) (h.mv fa ⟨e2 0 (by omega) (by omega) (by omega), e2 1 (by omega) (by omega) (by omega), e2 2 (by omega) (by omega) (by omega), e2 3 (by omega) (by omega) (by omega), e2 11 (by omega) (by omega) (by omega), ?_, ?_, ?_, e2 48 (by omega) (by omega) (by omega)⟩)
    · rw [si_ne (by omega), si_ne (by omega), si_at, f1 83 rfl, e0 1 (by omega) (by omega) (by omega), h.1.2.1, h.2.1.1]
    · rw [si_ne (by omega), si_at, f1 83 rfl, e0 2 (by omega) (by omega) (by omega), h.1.2.2.1, h.2.1.2.1]
    · rw [si_at, h.2.1.2.2]; rfl
theorem ev_first2 {S : St} (hA : BD (zA S)) {k all once pace : Nat} (h0 : TN k all once pace) {d : Nat} {I0 I : Nat → Nat → Int32} {J0 J : Nat → Nat → Int64} {T : Nat → Nat → Nat} {Q : Option Value → Mem → Prop} (hR : RC (zA S) I T) (hB : IB (zA S) I J) (hf : Fr [10, 11, 12, 69, 70] I0 I) (hj : Fj [71, 72, 74, 75] J0 J) (g : ∀ I' J', RC (zA S) I' T → IB (zA S) I' J' → Fr [10, 11, 12, 69, 70] I0 I' → Fj [71, 72, 74, 75] J0 J' → J' 75 = J 75 → Q (some (.long (lN (bV (zA S) k all once pace (qN (zA S)) 2 1536)))) (SH, mkM I' J' T)) : Ev mt aM (d + 49) 5 [.ref 69, .int (nI k), .int (nI all), .int (nI once), .int (nI pace)] (SH, mkM I J T) Q :=
  ev_first (d := d + 25) hA h0 hR hB (fun I1 J1 f1 j1 b1 => g I1 J1 (hR.fr rfl f1) b1 (hf.trans (f1.sub rfl)) (hj.trans (j1.sub rfl)) (j1 75 rfl))
theorem op_kept {S : St} (hS : PUR S) (x : Int32) : OPR S 138 256 [.int x] := by
  have hA := hS.1
  have hC := hA.2.1
  rcases oth_c x with ⟨k, hk, rfl, o1, o2⟩ | ⟨o1, o2⟩
  · rcases Nat.eq_zero_or_pos (qC (zA S)) with z | z
    · refine OPR.look hS (.long (-1)) (fun d I J T Q h g => ?_) (fun d I J T Q h g => ?_)
      · exact Ev.intro mX11_kept rfl rfl (ckept_0 (d := d + 19) (br1 (ne0 o1) (br0 (by rw [h.1.2.1, z]; rfl) g)))
      · exact Ev.intro mX12_kept rfl rfl (mkept_0 (d := d + 19) (br1 (ne0 o2) (br0 (by rw [h.1.2.1, z]; rfl) g)))
    · have t1 : TN k (qC (zA S)) (qO (zA S)) 0 := TN0 hA hk
      have t2 : TN k (qC (zA S) - 1) (qO (zA S)) 0 := ⟨hk, by omega, hA.2.2.1, by omega⟩
      refine OPR.scratch hS (.long (lN (bV (zA S) k (qC (zA S)) (qO (zA S)) 0 (qN (zA S)) 2 1536) - lN (bV (zA S) k (qC (zA S) - 1) (qO (zA S)) 0 (qN (zA S)) 2 1536))) (fun d I J T Q h g => ?_) (fun d I J T Q h g => ?_)
      · refine Ev.intro mX11_kept rfl rfl (ckept_0 (d := d + 19) (br1 (ne0 o1) (br1 (by rw [h.1.2.1]; exact nI_ne0 z (by omega)) ?_)))
        rw [h.1.2.1, h.1.2.2.1]
        refine ev_first2 (d := d) hA t1 h.1 h.2.1 (Fr.rfl' _ _) (Fj.rfl' _ _) (fun I1 J1 r1 b1 f1 j1 w1 => ckept_46 (d := d + 19) ?_)
        rw [r1.2.2.1, show nI (qC (zA S)) - (1 : Int32) = nI (qC (zA S) - 1) from pk_sub (b := 1) z]
        exact ev_first2 (d := d) hA t2 r1 b1 f1 j1 (fun I2 J2 r2 b2 f2 j2 w2 => ckept_65 (d := d + 19) (g I2 J2 f2 j2 b2 (by unfold IW; rw [w2, w1]; exact h.2.2.1)))
      · refine Ev.intro mX12_kept rfl rfl (mkept_0 (d := d + 19) (br1 (ne0 o2) (br1 (by rw [h.1.2.1]; exact nI_ne0 z (by omega)) ?_)))
        rw [h.1.2.1, h.1.2.2.1]
        refine ev_firstWith (d := d + 18) hA t1 h (fun I1 J1 f1 j1 m1 => mkept_34 (d := d + 19) ?_)
        rw [m1.1.2.1, m1.1.2.2.1, show nI (qC (zA S)) - (1 : Int32) = nI (qC (zA S) - 1) from pk_sub (b := 1) z]
        exact ev_firstWith (d := d + 18) hA t2 m1 (fun I2 J2 f2 j2 m2 => mkept_50 (d := d + 19) (g I2 J2 (f1.trans f2) (j1.trans j2) m2))
  · refine OPR.look hS (.long (-1)) (fun d I J T Q h g => ?_) (fun d I J T Q h g => ?_)
    · exact Ev.intro mX11_kept rfl rfl (ckept_0 (d := d + 19) (br0 o1 g))
    · exact Ev.intro mX12_kept rfl rfl (mkept_0 (d := d + 19) (br0 o2 g))
theorem op_together {S : St} (hS : PUR S) (x : Int32) : OPR S 139 257 [.int x] := by
  have hA := hS.1
  have hC := hA.2.1
  rcases oth_c x with ⟨k, hk, rfl, o1, o2⟩ | ⟨o1, o2⟩
  · have t1 : TN k (qC (zA S)) 2 0 := ⟨hk, hC, by omega, by omega⟩
    have t2 : TN k (qC (zA S)) 1 0 := ⟨hk, hC, by omega, by omega⟩
    refine OPR.scratch hS (.long (lN (bV (zA S) k (qC (zA S)) 2 0 (qN (zA S)) 2 1536) - lN (bV (zA S) k (qC (zA S)) 1 0 (qN (zA S)) 2 1536))) (fun d I J T Q h g => ?_) (fun d I J T Q h g => ?_)
    · refine Ev.intro mX11_together rfl rfl (ctogether_0 (d := d + 19) (br1 (ne0 o1) ?_))
      rw [h.1.2.1]
      refine ev_first2 (d := d) hA t1 h.1 h.2.1 (Fr.rfl' _ _) (Fj.rfl' _ _) (fun I1 J1 r1 b1 f1 j1 w1 => ctogether_28 (d := d + 19) ?_)
      rw [r1.2.1]
      exact ev_first2 (d := d) hA t2 r1 b1 f1 j1 (fun I2 J2 r2 b2 f2 j2 w2 => ctogether_45 (d := d + 19) (g I2 J2 f2 j2 b2 (by unfold IW; rw [w2, w1]; exact h.2.2.1)))
    · refine Ev.intro mX12_together rfl rfl (mtogether_0 (d := d + 19) (br1 (ne0 o2) ?_))
      rw [h.1.2.1]
      refine ev_firstWith (d := d + 18) hA t1 h (fun I1 J1 f1 j1 m1 => mtogether_24 (d := d + 19) ?_)
      rw [m1.1.2.1]
      exact ev_firstWith (d := d + 18) hA t2 m1 (fun I2 J2 f2 j2 m2 => mtogether_35 (d := d + 19) (g I2 J2 (f1.trans f2) (j1.trans j2) m2))
  · refine OPR.look hS (.long (-1)) (fun d I J T Q h g => ?_) (fun d I J T Q h g => ?_)
    · exact Ev.intro mX11_together rfl rfl (ctogether_0 (d := d + 19) (br0 o1 g))
    · exact Ev.intro mX12_together rfl rfl (mtogether_0 (d := d + 19) (br0 o2 g))
theorem op_slower {S : St} (hS : PUR S) (x : Int32) : OPR S 140 258 [.int x] := by
  have hA := hS.1
  have hC := hA.2.1
  rcases oth_c x with ⟨k, hk, rfl, o1, o2⟩ | ⟨o1, o2⟩
  · have t1 : TN k (qC (zA S)) (qO (zA S)) 1 := ⟨hk, hC, hA.2.2.1, by omega⟩
    have t2 : TN k (qC (zA S)) (qO (zA S)) 0 := TN0 hA hk
    refine OPR.scratch hS (.long (lN (bV (zA S) k (qC (zA S)) (qO (zA S)) 1 (qN (zA S)) 2 1536) - lN (bV (zA S) k (qC (zA S)) (qO (zA S)) 0 (qN (zA S)) 2 1536))) (fun d I J T Q h g => ?_) (fun d I J T Q h g => ?_)
    · refine Ev.intro mX11_slower rfl rfl (cslower_0 (d := d + 19) (br1 (ne0 o1) ?_))
      rw [h.1.2.1, h.1.2.2.1]
      refine ev_first2 (d := d) hA t1 h.1 h.2.1 (Fr.rfl' _ _) (Fj.rfl' _ _) (fun I1 J1 r1 b1 f1 j1 w1 => cslower_36 (d := d + 19) ?_)
      rw [r1.2.2.1]
      exact ev_first2 (d := d) hA t2 r1 b1 f1 j1 (fun I2 J2 r2 b2 f2 j2 w2 => cslower_53 (d := d + 19) (g I2 J2 f2 j2 b2 (by unfold IW; rw [w2, w1]; exact h.2.2.1)))
    · refine Ev.intro mX12_slower rfl rfl (mslower_0 (d := d + 19) (br1 (ne0 o2) ?_))
      rw [h.1.2.1, h.1.2.2.1]
      refine ev_firstWith (d := d + 18) hA t1 h (fun I1 J1 f1 j1 m1 => mslower_27 (d := d + 19) ?_)
      rw [m1.1.2.1, m1.1.2.2.1]
      exact ev_firstWith (d := d + 18) hA t2 m1 (fun I2 J2 f2 j2 m2 => mslower_41 (d := d + 19) (g I2 J2 (f1.trans f2) (j1.trans j2) m2))
  · refine OPR.look hS (.long (-1000000000000000000)) (fun d I J T Q h g => ?_) (fun d I J T Q h g => ?_)
    · exact Ev.intro mX11_slower rfl rfl (cslower_0 (d := d + 19) (br0 o1 g))
    · exact Ev.intro mX12_slower rfl rfl (mslower_0 (d := d + 19) (br0 o2 g))
/-! WRONG -/
def m100 : Nat → Int64 → Int64
  | 0, x => x
  | n + 1, x => m100 n x * 100
def wrV (S : St) (k i : Nat) : Int64 := m100 i (lN (bV (zA S) k (qC (zA S)) (qO (zA S)) 0 (qN (zA S) - i) (lgS (zL S) i) (lgO (zL S) i)) - lN (bsum (zA S) k (qC (zA S)) 0 i (bV (zA S) k (qC (zA S)) (qO (zA S)) 0 (qN (zA S) - i - 1)) (lgS (zL S) i) (lgO (zL S) i) (lgA (zL S) i) 5))
theorem ev_cwrongIn {S : St} (hS : PUR S) {k i d : Nat} (hk : k < 3) (hi : i < lgN (zL S)) {I : Nat → Nat → Int32} {J : Nat → Nat → Int64} {T : Nat → Nat → Nat} {Q : Option Value → Mem → Prop} (hR : RC (zA S) I T) (hK : RK I) (hT : TU (zA S) k (qC (zA S)) (qO (zA S)) 0 I J) (hC : CL (zL S) I) (g : ∀ I' J', Fr [10, 11, 12] I I' → Fj [71] J J' → TU (zA S) k (qC (zA S)) (qO (zA S)) 0 I' J' → Q (some (.long (wrV S k i))) (SH, mkM I' J' T)) : Ev mt aM (d + 31) 171 [.ref 0, .int (nI i)] (SH, mkM I J T) Q := by
  have hA := hS.1
  have h5 := hA.1.2
  have hL := hS.2.1
  have hl := hL.1
  have h0 := TN0 hA hk
  obtain ⟨l, hlq, hil⟩ : ∃ l, l < qN (zA S) ∧ i = qN (zA S) - (l + 1) := ⟨qN (zA S) - i - 1, by omega, by omega⟩
  obtain ⟨c1, c2, c3⟩ := hL.2.2.2.1 i (by omega)
  obtain ⟨d1, d2, d3⟩ := hL.2.2.2.2 i hi
  have e1 : v_X1_scoreBehind (nI i) I = scI (lgS (zL S) i) := by
    show I 78 (nI i).toNatClampNeg = _
    rw [nI_clamp (by omega)]
    exact (hC.2.1 i (by omega)).2
  have e2 : v_X1_codeBehind (nI i) I = dI (lgO (zL S) i) := by
    show I 77 (nI i).toNatClampNeg = _
    rw [nI_clamp (by omega)]
    exact (hC.2.1 i (by omega)).1
  refine Ev.intro mX11_wrongIn rfl rfl (cwrongIn_0 (d := d) ⟨vp_in_nI (by omega) (by omega), vp_in_nI (by omega) (by omega), ?_⟩)
  rw [e1, e2]
  have ew : wrV S k i = m100 i (lN (bV (zA S) k (qC (zA S)) (qO (zA S)) 0 (l + 1) (lgS (zL S) i) (lgO (zL S) i)) - lN (bsum (zA S) k (qC (zA S)) 0 (qN (zA S) - (l + 1)) (bV (zA S) k (qC (zA S)) (qO (zA S)) 0 l) (lgS (zL S) i) (lgO (zL S) i) (lgA (zL S) i) 5)) := by
    unfold wrV
    rw [show qN (zA S) - i = l + 1 by omega, show l + 1 - 1 = l by omega, ← hil]
  have key := ev_valueOf (d := d + 6) (l := l + 1) (s := lgS (zL S) i) (o := lgO (zL S) i) (T := T) (Q := fun r m1 => Go none aM (Ev mt aM (d + 30)) mX11_wrongIn Q (28, [some (.ref 0), some (.int (nI i)), some (.int (scI (lgS (zL S) i))), some (.int (dI (lgO (zL S) i))), none, none, none], r.toList ++ [], m1, 0, 0)) hA h0 hlq hR hK hT c3 c1 c2 (fun I1 J1 f1 j1 t1 => cwrongIn_28 (d := d) ⟨vp_in_nI (by omega) (by omega), ?_⟩)
  · rw [← hil] at key
    exact key
  · have ea : v_X1_actionIn (nI i) I1 = nI (lgA (zL S) i) := by
      show I1 79 (nI i).toNatClampNeg = _
      rw [nI_clamp (by omega), f1 79 rfl]
      exact (hC.2.2 i hi).1
    rw [ea]
    have key2 := ev_valueBy (d := d + 5) (l := l) (s := lgS (zL S) i) (o := lgO (zL S) i) (a := lgA (zL S) i) (T := T) (Q := fun r m1 => Go none aM (Ev mt aM (d + 30)) mX11_wrongIn Q (46, [some (.ref 0), some (.int (nI i)), some (.int (scI (lgS (zL S) i))), some (.int (dI (lgO (zL S) i))), none, none, none], r.toList ++ [.long (lN (bV (zA S) k (qC (zA S)) (qO (zA S)) 0 (l + 1) (lgS (zL S) i) (lgO (zL S) i)))], m1, 0, 0)) hA h0 hlq (hR.fr rfl f1) (hK.fr rfl f1) t1 c3 c1 d1 d2 (fun I2 J2 f2 j2 t2 => cwrongIn_46 (d := d) ?_)
    · rw [← hil] at key2
      exact key2
    · have loop : ∀ (m n : Nat), m + n = i → Go none aM (Ev mt aM (d + 30)) mX11_wrongIn Q (52, [none, some (.int (nI i)), none, none, some (.long (m100 n (lN (bV (zA S) k (qC (zA S)) (qO (zA S)) 0 (l + 1) (lgS (zL S) i) (lgO (zL S) i)) - lN (bsum (zA S) k (qC (zA S)) 0 (qN (zA S) - (l + 1)) (bV (zA S) k (qC (zA S)) (qO (zA S)) 0 l) (lgS (zL S) i) (lgO (zL S) i) (lgA (zL S) i) 5)))), none, some (.int (nI n))], [], (SH, mkM I2 J2 T), 0, 0) := by
        intro m
        induction m with
        | zero =>
          intro n hn
          have hn : n = i := by omega
          subst hn
          refine cwrongIn_52 (d := d) (br0 (Int32.le_refl _) ?_)
          rw [← ew]
          exact g I2 J2 (f1.trans f2) (j1.trans j2) t2
        | succ m ih =>
          intro n hn
          refine cwrongIn_52 (d := d) (br1 (nI_ge (by omega) (by omega)) ?_)
          rw [nI_1]
          exact ih (n + 1) (by omega)
      exact loop i 0 rfl
theorem ev_mwrongIn {S : St} (hS : PUR S) {k i d : Nat} (hk : k < 3) (hi : i < lgN (zL S)) {I : Nat → Nat → Int32} {J : Nat → Nat → Int64} {T : Nat → Nat → Nat} {Q : Option Value → Mem → Prop} (h : MINV S I) (g : ∀ I' J', Fr LM I I' → Fj LM J J' → MINV S I' → Q (some (.long (wrV S k i))) (SH, mkM I' J' T)) : Ev mt aM (d + 31) 274 [.ref 83, .int (nI i), .int (nI k)] (SH, mkM I J T) Q := by
  have hA := hS.1
  have h5 := hA.1.2
  have hL := hS.2.1
  have hl := hL.1
  obtain ⟨l, hlq, hil⟩ : ∃ l, l < qN (zA S) ∧ i = qN (zA S) - (l + 1) := ⟨qN (zA S) - i - 1, by omega, by omega⟩
  obtain ⟨c1, c2, c3⟩ := hL.2.2.2.1 i (by omega)
  obtain ⟨d1, d2, d3⟩ := hL.2.2.2.2 i hi
  have hb := h.beg
  have fb : Fr [113, 114] I (si (si I 113 0 (1536 : Int32)) 114 0 (0 : Int32)) := (Fr.rfl' _ _).to rfl |>.to rfl
  have hB : LB (zL S) (si (si I 113 0 (1536 : Int32)) 114 0 (0 : Int32)) := ⟨hb.2.2.2.1, rfl, rfl⟩
  obtain ⟨e1, e2⟩ := hB.at hL (show i ≤ lgN (zL S) by omega)
  have v6 : vp_in (nI i) 6 := vp_in_nI (by omega) (by omega)
  have ew : wrV S k i = m100 i (lN (bV (zA S) k (qC (zA S)) (qO (zA S)) 0 (l + 1) (lgS (zL S) i) (lgO (zL S) i)) - lN (bsum (zA S) k (qC (zA S)) 0 (qN (zA S) - (l + 1)) (bV (zA S) k (qC (zA S)) (qO (zA S)) 0 l) (lgS (zL S) i) (lgO (zL S) i) (lgA (zL S) i) 5)) := by
    unfold wrV
    rw [show qN (zA S) - i = l + 1 by omega, show l + 1 - 1 = l by omega, ← hil]
  refine Ev.intro mX12_wrongIn rfl rfl (mwrongIn_0 (d := d) ⟨v6, v6, ?_⟩)
  rw [nI_clamp (by omega), e2]
  rw [si_row (by omega)] at e1
  rw [e1]
  have key := ev_solves (r := none) (d := d + 20) (l0 := l + 1) (s0 := lgS (zL S) i) (o0 := lgO (zL S) i) (J := J) (T := T) (Q := fun r m1 => Go none aM (Ev mt aM (d + 30)) mX12_wrongIn Q (23, [some (.ref 83), some (.int (nI i)), some (.int (nI k)), none, none, none], r.toList ++ [], m1, 0, 0)) hA hk (by omega) hA.2.1 (on3 hA) RR.none hb.1 hb.2.1 hlq c3 c1 c2 (fun I1 J1 f1 j1 s1 sn => mwrongIn_23 (d := d) ⟨v6, v6, by rw [nI_1]; exact vp_in_nI (by omega) (by omega), ?_⟩)
  · rw [← hil] at key
    exact key
  · have b1 := hb.scr (f1.sub rfl)
    have hB1 : LB (zL S) I1 := ⟨b1.2.2.2.1, by rw [f1 113 rfl]; rfl, by rw [f1 114 rfl]; rfl⟩
    obtain ⟨g1, g2⟩ := hB1.at hL (show i ≤ lgN (zL S) by omega)
    rw [nI_1, nI_clamp (by omega), nI_clamp (by omega), g1, g2, (hB1.1.2.2 i hi).1]
    have key2 := ev_actionWorth (d := d + 22) (per := qN (zA S) - (l + 1)) (s := lgS (zL S) i) (o := lgO (zL S) i) (a := lgA (zL S) i) (J := J1) (T := T) (Q := fun r m1 => Go none aM (Ev mt aM (d + 30)) mX12_wrongIn Q (49, [some (.ref 83), some (.int (nI i)), some (.int (nI k)), none, none, none], r.toList ++ [.long (lN (bV (zA S) k (qC (zA S)) (qO (zA S)) 0 (l + 1) (lgS (zL S) i) (lgO (zL S) i)))], m1, 0, 0)) hA hk (by omega) b1.1 b1.2.1 (by omega) c3 c1 d1 d2 (fun I2 J2 f2 j2 _ _ _ => mwrongIn_49 (d := d) ?_)
    · rw [← hil] at key2
      exact key2
    · rw [bs_eq (V := bV (zA S) k (qC (zA S)) (qO (zA S)) 0 l) (fun s o => by have := bV_lt hA k (qC (zA S)) (qO (zA S)) 0 (l := l) (by omega) s o; omega) (fun e he h0 => by
        rw [show qN (zA S) - (l + 1) + 1 = qN (zA S) - l by omega]
        exact (sn l rfl (lgA (zL S) i) e d1 d2 he h0).1)]
      have fa : Fr LM I I2 := ((fb.sub rfl).trans (f1.sub rfl)).trans (f2.sub rfl)
      have ja : Fj LM J J2 := (j1.sub rfl).trans (j2.sub rfl)
      have loop : ∀ (m n : Nat), m + n = i → Go none aM (Ev mt aM (d + 30)) mX12_wrongIn Q (54, [none, some (.int (nI i)), none, some (.long (m100 n (lN (bV (zA S) k (qC (zA S)) (qO (zA S)) 0 (l + 1) (lgS (zL S) i) (lgO (zL S) i)) - lN (bsum (zA S) k (qC (zA S)) 0 (qN (zA S) - (l + 1)) (bV (zA S) k (qC (zA S)) (qO (zA S)) 0 l) (lgS (zL S) i) (lgO (zL S) i) (lgA (zL S) i) 5)))), none, some (.int (nI n))], [], (SH, mkM I2 J2 T), 0, 0) := by
        intro m
        induction m with
        | zero =>
          intro n hn
          have hn : n = i := by omega
          subst hn
          refine mwrongIn_54 (d := d) (br0 (Int32.le_refl _) ?_)
          rw [← ew]
          exact g I2 J2 fa ja (b1.scr (f2.sub rfl))
        | succ m ih =>
          intro n hn
          refine mwrongIn_54 (d := d) (br1 (nI_ge (by omega) (by omega)) ?_)
          rw [nI_1]
          exact ih (n + 1) (by omega)
      exact loop i 0 rfl
theorem op_wrong {S : St} (hS : PUR S) (x y : Int32) : OPR S 146 275 [.int x, .int y] := by
  have hA := hS.1
  have h5 := hA.1.2
  have hl := hS.2.1.1
  have em : ∀ I : Nat → Nat → Int32, MINV S I → I 83 48 - (1 : Int32) = tI (lgN (zL S)) := fun I h => by rw [h.2.2.2.1.1]; rfl
  rcases pk_ix x (n := lgN (zL S)) (by omega) with c | c | ⟨i, hi, rfl⟩
  · refine OPR.look hS (.long (-1)) (fun d I J T Q h g => ?_) (fun d I J T Q h g => ?_)
    · exact Ev.intro mX11_wrong rfl rfl (cwrong_0 (d := d + 19) (br0 c g))
    · exact Ev.intro mX12_wrong rfl rfl (mwrong_0 (d := d + 19) (br0 (if_pos c) g))
  · have hx : ¬ x < 0 := i0 (by omega) c
    refine OPR.look hS (.long (-1)) (fun d I J T Q h g => ?_) (fun d I J T Q h g => ?_)
    · exact Ev.intro mX11_wrong rfl rfl (cwrong_0 (d := d + 19) (br1 hx (br0 (by rw [h.2.2.2.2.2.2.1.1]; exact c) g)))
    · refine Ev.intro mX12_wrong rfl rfl (mwrong_0 (d := d + 19) (br0 ?_ g))
      rw [em I h]
      unfold v_X12_in w1_X12_in
      rw [if_neg hx, if_pos]
      obtain ⟨n, hn, rfl⟩ := nI_of hx
      have : lgN (zL S) ≤ n := (nI_leI (by omega) hn).mp c
      rcases Nat.eq_zero_or_pos (lgN (zL S)) with z | z
      · rw [z, Int32.lt_iff_toInt_lt, nI_toInt hn, show (tI 0).toInt = -1 by decide]
        omega
      · rw [show lgN (zL S) = lgN (zL S) - 1 + 1 by omega, tI_s]
        exact nI_lt (by omega) hn
  · have hin : ∀ I : Nat → Nat → Int32, MINV S I → ¬ v_X12_in (nI i) (0 : Int32) (I 83 48 - (1 : Int32)) = 0 := fun I h => by
      rw [em I h, show lgN (zL S) = lgN (zL S) - 1 + 1 by omega, tI_s]
      exact ne0 (in_yes (by omega) (by omega))
    have hlt : ∀ I : Nat → Nat → Int32, CL (zL S) I → ¬ I 76 0 ≤ nI i := fun I h => by
      rw [h.1]; exact nI_ge hi (by omega)
    rcases oth_c y with ⟨k, hk, rfl, o1, o2⟩ | ⟨o1, o2⟩
    · refine OPR.scratch hS (.long (wrV S k i)) (fun d I J T Q h g => ?_) (fun d I J T Q h g => ?_)
      · refine Ev.intro mX11_wrong rfl rfl (cwrong_0 (d := d + 19) (br1 (nI_pos (by omega)) (br1 (hlt I h.2.2.2.2.2.2.1) (br1 (ne0 o1) ?_))))
        refine ev_against (d := d + 43) hA hk h.1 h.2.1 (fun I1 J1 f1 j1 t1 r1 o1 => cwrong_34 (d := d + 19) ?_)
        refine ev_cwrongIn (d := d + 18) hS hk hi (h.1.fr rfl f1) r1 t1 (h.2.2.2.2.2.2.1.fr rfl f1) (fun I2 J2 f2 j2 t2 => cwrong_39 (d := d + 19) ?_)
        exact g I2 J2 ((f1.sub rfl).trans (f2.sub rfl)) ((j1.sub rfl).trans (j2.sub rfl)) (TU.ib' r1 o1 (TN0 hA hk) rfl f2 j2 t2) (h.2.2.1.fr (l := [71]) rfl (j1.trans j2))
      · refine Ev.intro mX12_wrong rfl rfl (mwrong_0 (d := d + 19) (br1 (hin I h) (br1 (ne0 o2) ?_)))
        exact ev_mwrongIn (d := d + 18) hS hk hi h (fun I1 J1 f1 j1 m1 => mwrong_27 (d := d + 19) (g I1 J1 f1 j1 m1))
    · refine OPR.look hS (.long (-1)) (fun d I J T Q h g => ?_) (fun d I J T Q h g => ?_)
      · exact Ev.intro mX11_wrong rfl rfl (cwrong_0 (d := d + 19) (br1 (nI_pos (by omega)) (br1 (hlt I h.2.2.2.2.2.2.1) (br0 o1 g))))
      · exact Ev.intro mX12_wrong rfl rfl (mwrong_0 (d := d + 19) (br1 (hin I h) (br0 o2 g)))
/-- the PERIOD of the greatest, and it, among the first n + 1 -/
def wo (S : St) (k : Nat) : Nat → Nat × Int64
  | 0 => (0, wrV S k 0)
  | n + 1 => if lg_cmp (wrV S k (n + 1)) (wo S k n).2 ≤ 0 then wo S k n else (n + 1, wrV S k (n + 1))
theorem wo_le (S : St) (k : Nat) : ∀ n, (wo S k n).1 ≤ n := by
  intro n
  induction n with
  | zero => exact Nat.le_refl _
  | succ n ih =>
    unfold wo
    split
    · exact Nat.le_succ_of_le ih
    · exact Nat.le_refl _
theorem op_worst {S : St} (hS : PUR S) (x y : Int32) : OPR S 147 276 [.int x, .int y] := by
  have hA := hS.1
  have h5 := hA.1.2
  have hl := hS.2.1.1
  rcases Nat.eq_zero_or_pos (lgN (zL S)) with z | z
  · refine OPR.look hS (.long (-1)) (fun d I J T Q h g => ?_) (fun d I J T Q h g => ?_)
    · exact Ev.intro mX11_worst rfl rfl (cworst_0 (d := d + 19) (br0 (by rw [h.2.2.2.2.2.2.1.1, z]; rfl) g))
    · exact Ev.intro mX12_worst rfl rfl (mworst_0 (d := d + 19) (br0 (by rw [h.2.2.2.1.1, z]; rfl) g))
  · have c0 : ∀ I : Nat → Nat → Int32, CL (zL S) I → ¬ I 76 0 = 0 := fun I h => by rw [h.1]; exact nI_ne0 z (by omega)
    have m0 : ∀ I : Nat → Nat → Int32, MINV S I → ¬ I 83 48 = 0 := fun I h => by rw [h.2.2.2.1.1]; exact nI_ne0 z (by omega)
    rcases oth_c x with ⟨k, hk, rfl, o1, o2⟩ | ⟨o1, o2⟩
    · rcases rg_ar y (b := 1) (by omega) with ⟨w, hw, rfl, w1, w2, w3⟩ | ⟨w1, w3⟩
      · have wle : nI w ≤ (1 : Int32) := nI_le (b := 1) hw (by omega)
        have w3' : ¬ v_X12_in (nI w) (0 : Int32) (1 : Int32) = 0 := ne0 w3
        have w0 : nI w = 0 ↔ w = 0 := nI_eq (b := 0) (by omega) (by omega)
        have hlast := wo_le S k (lgN (zL S) - 1)
        refine OPR.scratch hS (.long (if w = 0 then lN (wo S k (lgN (zL S) - 1)).1 else (wo S k (lgN (zL S) - 1)).2)) (fun d I J T Q h g => ?_) (fun d I J T Q h g => ?_)
        · refine Ev.intro mX11_worst rfl rfl (cworst_0 (d := d + 19) (br1 (c0 I h.2.2.2.2.2.2.1) (br1 (ne0 o1) (br1 w1 (br0 wle ?_)))))
          refine ev_against (d := d + 43) hA hk h.1 h.2.1 (fun I1 J1 f1 j1 t1 r1 o1 => cworst_38 (d := d + 19) ?_)
          refine ev_cwrongIn (d := d + 18) (i := 0) hS hk z (h.1.fr rfl f1) r1 t1 (h.2.2.2.2.2.2.1.fr rfl f1) (fun I2 J2 f2 j2 t2 => cworst_45 (d := d + 19) ?_)
          have loop : ∀ (m n : Nat) (I3 : Nat → Nat → Int32) (J3 : Nat → Nat → Int64), m + n + 1 = lgN (zL S) → Fr [10, 11, 12] I1 I3 → Fj [71] J1 J3 → TU (zA S) k (qC (zA S)) (qO (zA S)) 0 I3 J3 → Go none aM (Ev mt aM (d + 19 + 30)) mX11_worst Q (50, [some (.ref 0), none, some (.int (nI w)), some (.int (nI (wo S k n).1)), some (.long (wo S k n).2), none, some (.int (nI (n + 1))), none, none], [], (SH, mkM I3 J3 T), 0, 0) := by
            intro m
            induction m with
            | zero =>
              intro n I3 J3 hn f3 j3 t3
              have hn : n = lgN (zL S) - 1 := by omega
              subst hn
              have c3 : CL (zL S) I3 := (h.2.2.2.2.2.2.1.fr rfl f1).fr rfl f3
              have fin := g I3 J3 ((f1.sub rfl).trans (f3.sub rfl)) ((j1.sub rfl).trans (j3.sub rfl)) (TU.ib' r1 o1 (TN0 hA hk) rfl f3 j3 t3) (h.2.2.1.fr (l := [71]) rfl (j1.trans j3))
              refine cworst_50 (d := d + 19) (br0 (by rw [c3.1]; exact nI_le (by omega) (by omega)) ?_)
              by_cases q : w = 0
              · rw [if_pos q] at fin
                refine br0 (w0.mpr q) ?_
                rw [nI_l (by omega)]
                exact fin
              · rw [if_neg q] at fin
                exact br1 (fun e => q (w0.mp e)) fin
            | succ m ih =>
              intro n I3 J3 hn f3 j3 t3
              have c3 : CL (zL S) I3 := (h.2.2.2.2.2.2.1.fr rfl f1).fr rfl f3
              have st : wo S k (n + 1) = if lg_cmp (wrV S k (n + 1)) (wo S k n).2 ≤ 0 then wo S k n else (n + 1, wrV S k (n + 1)) := rfl
              refine cworst_50 (d := d + 19) (br1 (by rw [c3.1]; exact nI_ge (by omega) (by omega)) ?_)
              refine ev_cwrongIn (d := d + 18) (i := n + 1) hS hk (by omega) ((h.1.fr rfl f1).fr rfl f3) (r1.fr rfl f3) t3 c3 (fun I4 J4 f4 j4 t4 => cworst_68 (d := d + 19) ?_)
              have nx := ih (n + 1) I4 J4 (by omega) (f3.trans f4) (j3.trans j4) t4
              rw [st] at nx
              rw [nI_1]
              by_cases q : lg_cmp (wrV S k (n + 1)) (wo S k n).2 ≤ 0
              · rw [if_pos q] at nx; exact br0 q nx
              · rw [if_neg q] at nx; exact br1 q nx
          exact loop (lgN (zL S) - 1) 0 I2 J2 (by omega) f2 j2 t2
        · refine Ev.intro mX12_worst rfl rfl (mworst_0 (d := d + 19) (br1 (m0 I h) (br1 (ne0 o2) (br1 w3' ?_))))
          refine ev_mwrongIn (d := d + 18) (i := 0) hS hk z h (fun I2 J2 f2 j2 m2 => mworst_35 (d := d + 19) ?_)
          have loop : ∀ (m n : Nat) (I3 : Nat → Nat → Int32) (J3 : Nat → Nat → Int64), m + n + 1 = lgN (zL S) → Fr LM I I3 → Fj LM J J3 → MINV S I3 → Go none aM (Ev mt aM (d + 19 + 30)) mX12_worst Q (40, [some (.ref 83), some (.int (nI k)), some (.int (nI w)), some (.int (nI (wo S k n).1)), some (.long (wo S k n).2), none, some (.int (nI (n + 1))), none, none], [], (SH, mkM I3 J3 T), 0, 0) := by
            intro m
            induction m with
            | zero =>
              intro n I3 J3 hn f3 j3 m3
              have hn : n = lgN (zL S) - 1 := by omega
              subst hn
              have fin := g I3 J3 f3 j3 m3
              refine mworst_40 (d := d + 19) (br0 (by rw [m3.2.2.2.1.1]; exact nI_le (by omega) (by omega)) ?_)
              by_cases q : w = 0
              · rw [if_pos q] at fin
                refine br0 (w0.mpr q) ?_
                rw [nI_l (by omega)]
                exact fin
              · rw [if_neg q] at fin
                exact br1 (fun e => q (w0.mp e)) fin
            | succ m ih =>
              intro n I3 J3 hn f3 j3 m3
              have st : wo S k (n + 1) = if lg_cmp (wrV S k (n + 1)) (wo S k n).2 ≤ 0 then wo S k n else (n + 1, wrV S k (n + 1)) := rfl
              refine mworst_40 (d := d + 19) (br1 (by rw [m3.2.2.2.1.1]; exact nI_ge (by omega) (by omega)) ?_)
              refine ev_mwrongIn (d := d + 18) (i := n + 1) hS hk (by omega) m3 (fun I4 J4 f4 j4 m4 => mworst_56 (d := d + 19) ?_)
              have nx := ih (n + 1) I4 J4 (by omega) (f3.trans f4) (j3.trans j4) m4
              rw [st] at nx
              rw [nI_1]
              by_cases q : lg_cmp (wrV S k (n + 1)) (wo S k n).2 ≤ 0
              · rw [if_pos q] at nx
                refine br1 (fun e => ?_) nx
                rw [lg_cmp_gt] at e
                rw [lg_cmp_le] at q
                rw [Int64.lt_iff_toInt_lt] at e
                rw [Int64.le_iff_toInt_le] at q
                omega
              · rw [if_neg q] at nx
                refine br0 ?_ nx
                rw [lg_cmp_le] at q
                rw [lg_cmp_gt]
                rw [Int64.le_iff_toInt_le] at q
                rw [Int64.lt_iff_toInt_lt]
                omega
          exact loop (lgN (zL S) - 1) 0 I2 J2 (by omega) f2 j2 m2
      · refine OPR.look hS (.long (-1)) (fun d I J T Q h g => ?_) (fun d I J T Q h g => ?_)
        · refine Ev.intro mX11_worst rfl rfl (cworst_0 (d := d + 19) (br1 (c0 I h.2.2.2.2.2.2.1) (br1 (ne0 o1) ?_)))
          rcases rgc (by omega) w1 with w1 | ⟨w1, w2⟩
          · exact br0 w1 g
          · exact br1 w1 (br1 (nle_of w2) g)
        · exact Ev.intro mX12_worst rfl rfl (mworst_0 (d := d + 19) (br1 (m0 I h) (br1 (ne0 o2) (br0 w3 g))))
    · refine OPR.look hS (.long (-1)) (fun d I J T Q h g => ?_) (fun d I J T Q h g => ?_)
      · exact Ev.intro mX11_worst rfl rfl (cworst_0 (d := d + 19) (br1 (c0 I h.2.2.2.2.2.2.1) (br0 o1 g)))
      · exact Ev.intro mX12_worst rfl rfl (mworst_0 (d := d + 19) (br1 (m0 I h) (br0 o2 g)))
