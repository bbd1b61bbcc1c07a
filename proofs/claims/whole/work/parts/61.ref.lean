/-! THE REFERENCE READS: clauses, a whole text. -/
section REW
variable {b : Nat → Nat} {n : Nat}
theorem ev_rcnd (hN : BN b n) {d : Nat} {s : RdS} {I : Nat → Nat → Int32} {J : Nat → Nat → Int64} {T : Nat → Nat → Nat} {Q : Option Value → Mem → Prop} (ho : uO s = 0) (h : RRz b n s [] I) (g0 : ∀ e, rdF b n (pP b n 5) s = .inl e → ∀ I', FM I I' → FBz e I' → Q (some (.int 0)) (SH, mkM I' J T)) (g1 : ∀ s', rdF b n (pP b n 5) s = .inr s' → ∀ I', FM I I' → RRz b n s' [] I' → Q (some (.int 1)) (SH, mkM I' J T)) : Ev mt aM (d + 7) 201 [.ref 83] (SH, mkM I J T) Q := by
  have hn := hN.1
  have nn := h.nN
  obtain ⟨y1, y2⟩ := here_c hN h
  have hsg := sgn_sg (b := b) (n := n) (p := uP s) hN.2
  have q40 := sgI_eq (x := 40) hsg (by omega)
  refine Ev.intro (d := d + 6) mX12_readsCondition rfl rfl (mcn_0 (d := d) ⟨y2, ?_⟩)
  rw [y1]
  by_cases c : sgn b n (uP s) = 40
  · have e1 : entS s = .inr (uP s + 1, uO s + 1, uN s, uW s) := if_neg (by omega)
    have e2 : rdF b n (pP b n 5) s = bnd (pO b n (pP b n 5) (uP s + 1, uO s + 1, uN s, uW s)) (fun s2 => bnd (expS b n 41 s2) (fun s3 => .inr (outS s3))) := by
      unfold rdF
      rw [if_pos c, e1]
      rfl
    rw [e2] at g0 g1
    have hlt : uP s < n := sgn_lt (by omega) c
    have h15 : I 83 15 = (0 : Int32) := by rw [h.1.2.2.1, ho]; rfl
    have h17 : I 83 17 = (0 : Int32) := h.1.2.2.2.2
    have e13 : 1048576 * 13 / 1048576 = 13 := by decide
    refine br0 (q40.mpr c) ?_
    rw [si_self h15, si_self h17]
    refine ev_op (d := d + 3) (w := 13) hN (by omega) hlt h (fun h6 => by omega) (fun _ I1 f1 k1 => mcn_35 (br1 (by decide) ?_))
    refine po_go (b := b) (n := n) (s := (uP s + 1, uO s + 1, uN s, uW s)) (d := d) (I0 := I) (J := J) (T := T) (Q := Q) (st := [1048576 * 13]) hN co_cr (gr_pP 5) (pq_go hN 5) (by intro z; cases z) (show uP s + 1 ≤ n by omega) (show uN s ≤ uP s + 1 by omega) (show 6 ≤ uO s + 1 + 5 by omega) (fun x l hx => by cases hx; rw [e13]; omega) (fun x l hx => by cases hx; rw [e13]; omega) (fun e he I2 f2 k2 => g0 e (by rw [he]; rfl) I2 f2 k2) (fun s2 hs2 h38 h124 => ?_) I1 f1 k1
    refine rnd_end hN h38 h124 (fun e he I2 f2 k2 => g0 e (by rw [hs2]; exact he) I2 f2 k2) (fun hlt2 e3 I2 f2 hr => ?_)
    have hr : RRz b n s2 (1048576 * 13 :: []) I2 := hr
    obtain ⟨k3, k4⟩ := a106_c hN hlt2 hr
    refine mcn_106 (br0 (by rw [k4]; rfl) (g1 (outS (mvS s2)) ?_ _ (((f2.s83 (by omega)).s83 (by omega)).s83 (by omega)) k3))
    rw [hs2]
    show bnd (expS b n 41 s2) _ = _
    rw [e3]; rfl
  · have e2 : rdF b n (pP b n 5) s = .inl (1, uP s) := if_neg c
    exact br1 (fun z => c (q40.mp z)) (g0 _ e2 _ ((FM.rfl' I).s83 (by omega)) (fb_c (k := 1) h.1.1))
/-- clauses laid so far -/
def RKc (b : Nat → Nat) (n : Nat) (c : RdC) (I : Nat → Nat → Int32) : Prop := RRz b n c.1 [] I ∧ uO c.1 = 0 ∧ I 83 18 = nI c.2.1 ∧ c.2.1 ≤ 14 ∧ ∀ j, j < c.2.1 → I 93 j = nI (c.2.2.1 j) ∧ I 94 j = nI (c.2.2.2.1 j) ∧ I 95 j = nI (c.2.2.2.2.1 j) ∧ I 96 j = nI (c.2.2.2.2.2 j)
def FMc (I I' : Nat → Nat → Int32) : Prop := Fr [83, 91, 92, 93, 94, 95, 96] I I' ∧ ∀ j, j ≠ 12 → j ≠ 14 → j ≠ 15 → j ≠ 16 → j ≠ 17 → j ≠ 18 → j ≠ 19 → I' 83 j = I 83 j
theorem FMc.rfl' (I : Nat → Nat → Int32) : FMc I I := ⟨Fr.rfl' _ _, fun _ _ _ _ _ _ _ _ => rfl⟩
theorem FMc.trans {I I1 I2 : Nat → Nat → Int32} (h : FMc I I1) (g : FMc I1 I2) : FMc I I2 := ⟨h.1.trans g.1, fun j a b c d e f x => (g.2 j a b c d e f x).trans (h.2 j a b c d e f x)⟩
theorem FM.toc {I I' : Nat → Nat → Int32} (h : FM I I') : FMc I I' := ⟨h.1.sub rfl, fun j a b c d e _ f => h.2 j a b c d e f⟩
theorem FMc.row {I I' : Nat → Nat → Int32} {o j : Nat} {x : Int32} (ho : o = 93 ∨ o = 94 ∨ o = 95 ∨ o = 96) (h : FMc I I') : FMc I (si I' o j x) := by
  refine ⟨h.1.to (by rcases ho with rfl | rfl | rfl | rfl <;> rfl), fun k a b c d e f x => ?_⟩
  rw [si_row (by omega)]
  exact h.2 k a b c d e f x
theorem FMc.s83 {I I' : Nat → Nat → Int32} {j : Nat} {x : Int32} (hj : j = 12 ∨ j = 14 ∨ j = 15 ∨ j = 16 ∨ j = 17 ∨ j = 18 ∨ j = 19) (h : FMc I I') : FMc I (si I' 83 j x) := ⟨h.1.to rfl, fun k a b c d e f x => by rw [si_ne (by omega)]; exact h.2 k a b c d e f x⟩
def hdX (x : Nat) : Nat → Bool := if x = 7 then hdL else if x < 3 then hdO else hdC
def ckB1 (c x : Nat) : Bool := eqI (v_X12_canBegin (nI x) (nI c)) (bqI (hdX x c))
theorem all_b : allB (fun c => allB (ckB1 c) 8) 256 = true := by decide +kernel
theorem cb_c {x c : Nat} (hx : x < 8) (h : SG c) : v_X12_canBegin (nI x) (sgI c) = bqI (hdX x c) := by
  rcases h with h | h
  · rw [show sgI c = nI c from if_neg (by omega)]
    exact eqI_eq (allB_get (allB_get all_b c h) x hx)
  · subst h
    rcases (show x = 0 ∨ x = 1 ∨ x = 2 ∨ x = 3 ∨ x = 4 ∨ x = 5 ∨ x = 6 ∨ x = 7 by omega) with rfl | rfl | rfl | rfl | rfl | rfl | rfl | rfl <;> decide
theorem hdX_128 {x : Nat} : ∀ c, hdX x c = true → c < 128 := by
  intro c hc
  unfold hdX at hc
  by_cases c1 : x = 7
  · rw [if_pos c1] at hc
    exact hd_128 (T := fun _ _ => 1001) (Or.inl ⟨rfl, rfl⟩) c hc
  · rw [if_neg c1] at hc
    by_cases c2 : x < 3
    · rw [if_pos c2] at hc
      exact hd_128 (T := fun _ _ => 1007) (Or.inr (Or.inl ⟨rfl, rfl⟩)) c hc
    · rw [if_neg c2] at hc
      exact hd_128 (T := fun _ _ => 1008) (Or.inr (Or.inr ⟨rfl, rfl⟩)) c hc
/-- a row that reading does not touch -/
theorem RRz.frw {s : RdS} {I I' : Nat → Nat → Int32} (h : RRz b n s [] I) (h83 : ∀ j, j = 12 ∨ j = 13 ∨ j = 15 ∨ j = 16 ∨ j = 17 → I' 83 j = I 83 j) (h91 : I' 91 = I 91) (h90 : I' 90 = I 90) : RRz b n s [] I' := by
  obtain ⟨⟨a1, a2, a3, a4, a5⟩, h2, h3, h4, h5⟩ := h
  exact ⟨⟨(h83 12 (by omega)).trans a1, (h83 13 (by omega)).trans a2, (h83 15 (by omega)).trans a3, (h83 16 (by omega)).trans a4, (h83 17 (by omega)).trans a5⟩, fun i hi => by rw [h91]; exact h2 i hi, trivial, fun i hi => by rw [h90]; exact h4 i hi, h5⟩
/-- as RKc, but for how much is open and waits: a clause begins with none -/
def RKq (b : Nat → Nat) (n : Nat) (c : RdC) (I : Nat → Nat → Int32) : Prop := RKc b n c (si (si I 83 15 (0 : Int32)) 83 17 (0 : Int32))
theorem RKc.q {c : RdC} {I : Nat → Nat → Int32} (h : RKc b n c I) : RKq b n c I := by
  have h15 : I 83 15 = (0 : Int32) := by rw [h.1.1.2.2.1, h.2.1]; rfl
  have h17 : I 83 17 = (0 : Int32) := h.1.1.2.2.2.2
  unfold RKq
  rw [si_self h15, si_self h17]
  exact h
theorem ev_rcls (hN : BN b n) {d x : Nat} {c : RdC} {I : Nat → Nat → Int32} {J : Nat → Nat → Int64} {T : Nat → Nat → Nat} {Q : Option Value → Mem → Prop} (hx : x < 8) (h : RKq b n c I) (g0 : ∀ e, clX b n (hdX x) c = .inl e → ∀ I', FMc I I' → FBz e I' → Q (some (.int 0)) (SH, mkM I' J T)) (g1 : ∀ c', clX b n (hdX x) c = .inr c' → ∀ I', FMc I I' → RKc b n c' I' → Q (some (.int 1)) (SH, mkM I' J T)) : Ev mt aM (d + 8) 203 [.ref 83, .int (nI x)] (SH, mkM I J T) Q := by
  have hn := hN.1
  obtain ⟨hr, ho, h18', h14, hrow'⟩ := h
  have er : ∀ o, o ≠ 83 → (si (si I 83 15 (0 : Int32)) 83 17 (0 : Int32)) o = I o := fun o ho => by rw [si_row ho, si_row ho]
  have h18 : I 83 18 = nI c.2.1 := h18'
  have hrow : ∀ j, j < c.2.1 → I 93 j = nI (c.2.2.1 j) ∧ I 94 j = nI (c.2.2.2.1 j) ∧ I 95 j = nI (c.2.2.2.2.1 j) ∧ I 96 j = nI (c.2.2.2.2.2 j) := fun j hj => by
    have := hrow' j hj
    rw [er 93 (by omega), er 94 (by omega), er 95 (by omega), er 96 (by omega)] at this
    exact this
  obtain ⟨z1, z2⟩ := here_c hN hr
  have y1 : v_X12_here I = sgI (sgn b n (uP c.1)) := z1
  have y2 : (¬ I 83 13 ≤ I 83 12) → vp_in (I 83 12) 220 := z2
  have h12 : I 83 12 = nI (uP c.1) := hr.1.1
  have nn : I 83 16 = nI (uN c.1) ∧ uN c.1 ≤ uP c.1 ∧ uP c.1 ≤ n := hr.nN
  have hsg := sgn_sg (b := b) (n := n) (p := uP c.1) hN.2
  refine Ev.intro (d := d + 7) mX12_readsClause rfl rfl (mcl_0 (d := d) ⟨y2, ?_⟩)
  rw [y1, cb_c hx hsg, h18]
  cases hc : hdX x (sgn b n (uP c.1)) with
  | false =>
    have e1 : clX b n (hdX x) c = .inl (1, uP c.1) := if_pos hc
    exact br0 rfl (g0 _ e1 _ ((FMc.rfl' I).s83 (by omega)) (fb_c (k := 1) h12))
  | true =>
    have hne : ¬ hdX x (sgn b n (uP c.1)) = false := by rw [hc]; decide
    refine br1 (by decide) ?_
    by_cases hm : c.2.1 = 14
    · have e1 : clX b n (hdX x) c = .inl (4, uP c.1) := by
        unfold clX
        rw [if_neg hne, if_pos hm]
      exact br0 (by rw [hm]; rfl) (g0 _ e1 _ ((FMc.rfl' I).s83 (by omega)) (fb_c (k := 4) h12))
    · have hm14 : c.2.1 < 14 := by omega
      have h128 := hdX_128 _ hc
      have hlt : uP c.1 < n := sgn_lt (c := sgn b n (uP c.1)) (by omega) rfl
      have v14 : vp_in (nI c.2.1) 14 := vp_in_nI hm14 (by omega)
      refine br1 (fun z => hm ((nI_eq (b := 14) (by omega) (by omega)).mp z)) ⟨v14, v14, ?_⟩
      rw [nI_clamp (by omega), nn.1, h12, nI_1, show sgI (sgn b n (uP c.1)) = nI (sgn b n (uP c.1)) from if_neg (by omega)]
      -- the clause has begun
      have f1 : FMc I (si (si (si (si (si I 93 c.2.1 (nI (sgn b n (uP c.1)))) 83 12 (nI (uP c.1 + 1))) 94 c.2.1 (nI (uN c.1))) 83 15 (0 : Int32)) 83 17 (0 : Int32)) := (((((FMc.rfl' I).row (by omega)).s83 (by omega)).row (by omega)).s83 (by omega)).s83 (by omega)
      have k1 : RRz b n (mvS c.1) [] (si (si (si (si (si I 93 c.2.1 (nI (sgn b n (uP c.1)))) 83 12 (nI (uP c.1 + 1))) 94 c.2.1 (nI (uN c.1))) 83 15 (0 : Int32)) 83 17 (0 : Int32)) := by
        refine (mv_c hlt hr).1.frw (fun j hj => ?_) ?_ ?_
        · rcases hj with rfl | rfl | rfl | rfl | rfl
          · rw [si_ne (by omega), si_ne (by omega), si_row (by omega), si_at, si_at]
          · rw [si_ne (by omega), si_ne (by omega), si_row (by omega), si_ne (by omega), si_row (by omega), si_ne (by omega), si_ne (by omega), si_ne (by omega)]
          · rw [si_ne (by omega), si_at, si_ne (by omega), si_ne (by omega), si_at]
          · rw [si_ne (by omega), si_ne (by omega), si_row (by omega), si_ne (by omega), si_row (by omega), si_ne (by omega), si_ne (by omega), si_ne (by omega)]
          · rw [si_at, si_ne (by omega), si_at]
        · rw [si_row (by omega), si_row (by omega), si_row (by omega), si_row (by omega), si_row (by omega), si_row (by omega), si_row (by omega), si_row (by omega)]
        · rw [si_row (by omega), si_row (by omega), si_row (by omega), si_row (by omega), si_row (by omega), si_row (by omega), si_row (by omega), si_row (by omega)]
      refine ev_rsum (s := mvS c.1) (D := 6) (d := d + 2) hN (show 6 ≤ uO c.1 + 6 by omega) (fun x l hx => by cases hx) k1 (fun e he I2 f2 k2 => mcl_89 (br0 rfl (g0 e ?_ I2 (f1.trans f2.toc) k2))) (fun s1 hs1 I2 f2 k2 => mcl_89 (br1 (by decide) ?_))
      · unfold clX
        rw [if_neg hne, if_neg hm, he]
      · have gr1 := gr_pS (gr_pF 6) _ _ (show uP c.1 + 1 ≤ n by omega) hs1
        have o1 : uO s1 = 0 := by rw [gr1.2.2.2.1]; exact ho
        have m2 : I2 83 18 = nI c.2.1 := by rw [f2.2 18 (by omega) (by omega) (by omega) (by omega) (by omega) (by omega), si_ne (by omega), si_ne (by omega), si_row (by omega), si_ne (by omega), si_row (by omega)]; exact h18
        have n2 := k2.nN
        rw [m2, n2.1, nI_clamp (by omega)]
        have k3 : RRz b n s1 [] (si I2 95 c.2.1 (nI (uN s1))) := k2.frw (fun j hj => by rw [si_row (by omega)]) (by rw [si_row (by omega)]) (by rw [si_row (by omega)])
        have f3 : FMc I (si I2 95 c.2.1 (nI (uN s1))) := (f1.trans f2.toc).row (by omega)
        refine ⟨v14, ev_rcnd (d := d) hN o1 k3 (fun e he I4 f4 k4 => mcl_111 (br0 rfl (g0 e ?_ I4 (f3.trans f4.toc) k4))) (fun s2 hs2 I4 f4 k4 => mcl_111 (br1 (by decide) ?_))⟩
        · unfold clX
          rw [if_neg hne, if_neg hm, hs1]
          dsimp only
          rw [he]
        · have gr2 := gr_rd (gr_pP 5) _ _ gr1.2.1 hs2
          have m4 : I4 83 18 = nI c.2.1 := by rw [f4.2 18 (by omega) (by omega) (by omega) (by omega) (by omega) (by omega), si_row (by omega)]; exact m2
          have n4 := k4.nN
          rw [m4, n4.1, nI_clamp (by omega), nI_1]
          refine ⟨v14, g1 (s2, c.2.1 + 1, unF c.2.2.1 c.2.1 (sgn b n (uP c.1)), unF c.2.2.2.1 c.2.1 (uN c.1), unF c.2.2.2.2.1 c.2.1 (uN s1), unF c.2.2.2.2.2 c.2.1 (uN s2)) ?_ _ (((f3.trans f4.toc).row (by omega)).s83 (by omega)) ⟨?_, ?_, si_at, ?_, fun j hj => ?_⟩⟩
          · unfold clX
            rw [if_neg hne, if_neg hm, hs1]
            dsimp only
            rw [hs2]
          · exact k4.frw (fun j hj => by rw [si_ne (by omega), si_row (by omega)]) (by rw [si_row (by omega), si_row (by omega)]) (by rw [si_row (by omega), si_row (by omega)])
          · show uO s2 = 0
            rw [gr2.2.2.2.1]; exact o1
          · show c.2.1 + 1 ≤ 14
            omega
          · have hj : j < c.2.1 + 1 := hj
            have q3 : I4 93 = si I 93 c.2.1 (nI (sgn b n (uP c.1))) 93 := by
              rw [f4.1 93 rfl, si_row (by omega), f2.1 93 rfl, si_row (by omega), si_row (by omega), si_row (by omega), si_row (by omega)]
            have q4 : I4 94 = si I 94 c.2.1 (nI (uN c.1)) 94 := by
              funext i
              rw [f4.1 94 rfl, si_row (by omega), f2.1 94 rfl, si_row (by omega), si_row (by omega)]
              by_cases q : i = c.2.1
              · rw [q, si_at, si_at]
              · rw [si_ne q, si_ne q, si_row (by omega), si_row (by omega)]
            have q5 : I4 95 = si I2 95 c.2.1 (nI (uN s1)) 95 := f4.1 95 rfl
            have q5' : I2 95 = I 95 := by rw [f2.1 95 rfl, si_row (by omega), si_row (by omega), si_row (by omega), si_row (by omega), si_row (by omega)]
            have q6 : I4 96 = I 96 := by rw [f4.1 96 rfl, si_row (by omega), f2.1 96 rfl, si_row (by omega), si_row (by omega), si_row (by omega), si_row (by omega), si_row (by omega)]
            rw [si_row (by omega), si_row (by omega), si_row (by omega), si_row (by omega), si_row (by omega), si_row (by omega), si_row (by omega), q3, q4, q5]
            show si I 93 c.2.1 (nI (sgn b n (uP c.1))) 93 j = nI (unF c.2.2.1 c.2.1 (sgn b n (uP c.1)) j) ∧ si I 94 c.2.1 (nI (uN c.1)) 94 j = nI (unF c.2.2.2.1 c.2.1 (uN c.1) j) ∧ si I2 95 c.2.1 (nI (uN s1)) 95 j = nI (unF c.2.2.2.2.1 c.2.1 (uN s1) j) ∧ si I4 96 c.2.1 (nI (uN s2)) 96 j = nI (unF c.2.2.2.2.2 c.2.1 (uN s2) j)
            by_cases q : j = c.2.1
            · subst q
              rw [unF_at, unF_at, unF_at, unF_at]
              exact ⟨si_at, si_at, si_at, si_at⟩
            · obtain ⟨a1, a2, a3, a4⟩ := hrow j (by omega)
              rw [unF_ne q, unF_ne q, unF_ne q, unF_ne q, si_ne q, si_ne q, si_ne q, si_ne q, q5', q6]
              exact ⟨a1, a2, a3, a4⟩
/-- copying what was read: words -/
theorem cpy1 {d x N : Nat} (hx : x < 8) (hN : N ≤ 200) {J : Nat → Nat → Int64} {T : Nat → Nat → Nat} {Q : Option Value → Mem → Prop} {I0 : Nat → Nat → Int32} (h16 : I0 83 16 = nI N) (g : ∀ I, Fr [97] I0 I → (∀ i, i < N → I 97 (220 * x + i) = I0 91 i) → (∀ i, i / 220 ≠ x → I 97 i = I0 97 i) → Go none aM (Ev mt aM (d + 8)) mX12_reads Q (153, [some (.ref 83), some (.int (nI x)), none, none, some (.int (0 : Int32)), none], [], (SH, mkM I J T), 0, 0)) : ∀ (m k : Nat) (I : Nat → Nat → Int32), k + m = N → Fr [97] I0 I → (∀ i, i < k → I 97 (220 * x + i) = I0 91 i) → (∀ i, i / 220 ≠ x → I 97 i = I0 97 i) → Go none aM (Ev mt aM (d + 8)) mX12_reads Q (115, [some (.ref 83), some (.int (nI x)), none, none, some (.int (nI k)), none], [], (SH, mkM I J T), 0, 0) := by
  intro m
  induction m with
  | zero =>
    intro k I hk f h1 h2
    have : k = N := by omega
    subst this
    refine mrd_115 (br0 ?_ (g I f h1 h2))
    rw [f 83 rfl, h16]; exact nI_le (Nat.le_refl _) (by omega)
  | succ m ih =>
    intro k I hk f h1 h2
    refine mrd_115 (br1 ?_ ⟨vp_in_nI (by omega) (by omega), ?_⟩)
    · rw [f 83 rfl, h16]; exact nI_ge (by omega) (by omega)
    rw [show (220 : Int32) = nI 220 from rfl, pk_mul, nI_add, nI_clamp (by omega), nI_clamp (by omega), nI_1]
    refine ⟨vp_in_nI (by omega) (by omega), ih (k + 1) _ (by omega) (f.to rfl) (fun i hi => ?_) (fun i hi => ?_)⟩
    · by_cases q : i = k
      · rw [q, si_at, f 91 rfl]
      · rw [si_ne (by omega)]; exact h1 i (by omega)
    · rw [si_ne (by omega)]; exact h2 i hi
/-- clauses -/
theorem cpy2 {d x M : Nat} (hx : x < 8) (hM : M ≤ 14) {J : Nat → Nat → Int64} {T : Nat → Nat → Nat} {Q : Option Value → Mem → Prop} {I0 : Nat → Nat → Int32} (h18 : I0 83 18 = nI M) {S E C : Nat → Nat} (hS : ∀ j, j < M → I0 94 j = nI (S j) ∧ I0 95 j = nI (E j) ∧ I0 96 j = nI (C j)) (g : ∀ I, Fr [99, 100, 101, 102] I0 I → (∀ j, j < M → I 99 (14 * x + j) = I0 93 j ∧ I 100 (14 * x + j) = nI (220 * x + S j) ∧ I 101 (14 * x + j) = nI (220 * x + E j) ∧ I 102 (14 * x + j) = nI (220 * x + C j)) → (∀ i, i / 14 ≠ x → I 99 i = I0 99 i ∧ I 100 i = I0 100 i ∧ I 101 i = I0 101 i ∧ I 102 i = I0 102 i) → Q (some (.int (nI M))) (SH, mkM I J T)) : ∀ (m k : Nat) (I : Nat → Nat → Int32), k + m = M → Fr [99, 100, 101, 102] I0 I → (∀ j, j < k → I 99 (14 * x + j) = I0 93 j ∧ I 100 (14 * x + j) = nI (220 * x + S j) ∧ I 101 (14 * x + j) = nI (220 * x + E j) ∧ I 102 (14 * x + j) = nI (220 * x + C j)) → (∀ i, i / 14 ≠ x → I 99 i = I0 99 i ∧ I 100 i = I0 100 i ∧ I 101 i = I0 101 i ∧ I 102 i = I0 102 i) → Go none aM (Ev mt aM (d + 8)) mX12_reads Q (153, [some (.ref 83), some (.int (nI x)), none, none, some (.int (nI k)), none], [], (SH, mkM I J T), 0, 0) := by
  intro m
  induction m with
  | zero =>
    intro k I hk f h1 h2
    have : k = M := by omega
    subst this
    have e : I 83 18 = nI k := by rw [f 83 rfl, h18]
    refine mrd_153 (br0 (by rw [e]; exact nI_le (Nat.le_refl _) (by omega)) ?_)
    rw [e]
    exact g I f h1 h2
  | succ m ih =>
    intro k I hk f h1 h2
    have e : I 83 18 = nI M := by rw [f 83 rfl, h18]
    have v1 : vp_in (nI k) 14 := vp_in_nI (by omega) (by omega)
    have v2 : vp_in (nI (14 * x + k)) 112 := vp_in_nI (by omega) (by omega)
    obtain ⟨s1, s2, s3⟩ := hS k (by omega)
    refine mrd_153 (br1 (by rw [e]; exact nI_ge (by omega) (by omega)) ?_)
    rw [show (220 : Int32) = nI 220 from rfl, show (14 : Int32) = nI 14 from rfl, pk_mul, pk_mul, nI_add, nI_clamp (by omega), nI_clamp (by omega), nI_1, f 94 rfl, f 95 rfl, f 96 rfl, f 93 rfl, s1, s2, s3, nI_add, nI_add, nI_add]
    refine ⟨v1, v2, v1, v2, v1, v2, v1, v2, ih (k + 1) _ (by omega) (((f.to rfl).to rfl).to rfl |>.to rfl) (fun j hj => ?_) (fun i hi => ?_)⟩
    · rw [si_row (show 99 ≠ 102 by omega), si_row (show 99 ≠ 101 by omega), si_row (show 99 ≠ 100 by omega), si_row (show 100 ≠ 102 by omega), si_row (show 100 ≠ 101 by omega), si_row (show 101 ≠ 102 by omega)]
      by_cases q : j = k
      · rw [q]; exact ⟨si_at, si_at, si_at, si_at⟩
      · rw [si_ne (by omega), si_ne (by omega), si_ne (by omega), si_ne (by omega), si_row (by omega), si_row (by omega), si_row (by omega), si_row (by omega), si_row (by omega), si_row (by omega)]
        exact h1 j (by omega)
    · rw [si_row (show 99 ≠ 102 by omega), si_row (show 99 ≠ 101 by omega), si_row (show 99 ≠ 100 by omega), si_row (show 100 ≠ 102 by omega), si_row (show 100 ≠ 101 by omega), si_row (show 101 ≠ 102 by omega), si_ne (by omega), si_ne (by omega), si_ne (by omega), si_ne (by omega), si_row (by omega), si_row (by omega), si_row (by omega), si_row (by omega), si_row (by omega), si_row (by omega)]
      exact h2 i hi
end REW
