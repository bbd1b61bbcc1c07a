/-! BEST in the class: the memo. -/
/-- the memo -/
def MMO (A : Tm) (oth all once pace : Nat) (J : Nat → Nat → Int64) : Prop := ∀ l s o, l < qN A → s < 5 → CD o → mdN o ≤ all → J 71 (slN (qN A - (l + 1)) s o) = 0 ∨ J 71 (slN (qN A - (l + 1)) s o) = lN (hvF A oth all once pace (l + 1) s o)
theorem MMO.set {A : Tm} {oth all once pace l s o : Nat} {J : Nat → Nat → Int64} (h : MMO A oth all once pace J) (hl : l < qN A) (hs : s < 5) (ho : CD o) : MMO A oth all once pace (sj J 71 (slN (qN A - (l + 1)) s o) (lN (hvF A oth all once pace (l + 1) s o))) := by
  intro l' s' o' hl' hs' ho' hm'
  by_cases e : slN (qN A - (l' + 1)) s' o' = slN (qN A - (l + 1)) s o
  · obtain ⟨e1, e2, e3⟩ := sl_inj hs' hs ho' ho e
    have e4 : l' = l := by omega
    subst e4 e2 e3
    exact Or.inr sj_at
  · rw [sj_ne e]
    exact h l' s' o' hl' hs' ho' hm'
theorem MMO.zero {A : Tm} (hA : BD A) {oth all once pace : Nat} {J : Nat → Nat → Int64} : MMO A oth all once pace (zj J 71 7100) := by
  intro l s o hl hs ho _
  have hn := hA.1.2
  exact Or.inl (zj_at (sl_lt (by omega) hs ho))
def FB (oth all once pace : Nat) (I : Nat → Nat → Int32) : Prop := I 69 6 = nI oth ∧ I 69 7 = nI all ∧ I 69 8 = nI once ∧ I 69 9 = nI pace
theorem hv_shr {A : Tm} (hA : BD A) (oth all once pace : Nat) {l : Nat} (hl : l ≤ 5) (s o : Nat) : lN (hvF A oth all once pace l s o) >>> ((6 : Int32).toInt64 &&& 63) = lN (bV A oth all once pace l s o) := by
  have h := hv_lt hA oth all once pace hl s o
  rw [pf_shr (d := 6) (by decide) (by omega), ← hv_div A oth all once pace l s o]
theorem hv_pos (A : Tm) (oth all once pace l s o : Nat) : 0 < hvF A oth all once pace (l + 1) s o := Nat.succ_pos _
theorem lN_ne0 {n : Nat} (h0 : 0 < n) (h : n < 2 ^ 63) : ¬ lN n = 0 := by
  intro q
  have := (pk_lEQ (a := n) (b := 0) h (by omega)).mp q
  omega
theorem w_c {A : Tm} {I : Nat → Nat → Int32} {T : Nat → Nat → Nat} {s : Nat} (hR : RC A I T) (hs : s < 5) : v_X7_worthOf (scI s) I = nI (wv A s) := by
  have h3 := hR.2.2.2.1
  unfold v_X7_worthOf w1_X7_worthOf wv
  rcases (show s = 0 ∨ s = 1 ∨ s = 2 ∨ s = 3 ∨ s = 4 by omega) with rfl | rfl | rfl | rfl | rfl
  · rw [if_pos (by decide), if_neg (by decide), if_neg (by omega), if_neg (by omega)]; exact h3 2 (by omega)
  · rw [if_pos (by decide), if_neg (by decide), if_neg (by omega), if_neg (by omega)]; exact h3 2 (by omega)
  · rw [if_pos (by decide), if_pos (by decide), if_neg (by omega), if_pos rfl]; exact h3 1 (by omega)
  · rw [if_neg (by decide), if_pos (by omega)]; exact h3 0 (by omega)
  · rw [if_neg (by decide), if_pos (by omega)]; exact h3 0 (by omega)
def HeldOK (A : Tm) (oth all once pace l : Nat) : Prop := ∀ (d s o : Nat) (I : Nat → Nat → Int32) (J : Nat → Nat → Int64) (T : Nat → Nat → Nat) (Q : Option Value → Mem → Prop), RC A I T → RK I → FB oth all once pace I → MMO A oth all once pace J → s < 5 → CD o → mdN o ≤ all → (∀ I' J', Fr [10, 11, 12] I I' → Fj [71] J J' → MMO A oth all once pace J' → Q (some (.long (lN (hvF A oth all once pace l s o)))) (SH, mkM I' J' T)) → Ev mt aM (d + (3 * l + 8)) 10 [.ref 69, .int (nI (qN A - l)), .int (scI s), .int (dI o)] (SH, mkM I J T) Q
theorem shOf_c (A : Tm) (oth all pace per s o a e : Nat) (he : e < 5) : v_X2_shareOf (nI (pkF (sG A per (scI s) (aftF A o a) (stF A oth per (scI s)) (chN a) all pace) (sA A per (scI s) (aftF A o a) (stF A oth per (scI s)) (chN a) all pace) (sH0 A per (scI s) (aftF A o a) (stF A oth per (scI s)) (chN a) all pace) (sH1 A per (scI s) (aftF A o a) (stF A oth per (scI s)) (chN a) all pace))) (nI e) = nI (shN A oth all pace per s o a e) := by
  obtain ⟨b1, b2, b3, b4⟩ := sh_bounds A per (scI s) (aftF A o a) (stF A oth per (scI s)) (chN a) all pace
  exact shareOf_c b1 b2 b3 b4 he
theorem aft_pre {o a all once : Nat} (h : CD o) (ha : a < 49) (hm : mayF o a all once = true) : (0 < ((nI a) - (nI a) / (7 : Int32) * (7 : Int32)) → vp_in (v_X7_playerOf ((nI a) - (nI a) / (7 : Int32) * (7 : Int32))) 5) ∧ (0 < ((nI a) / (7 : Int32)) → vp_in (v_X7_playerOf ((nI a) / (7 : Int32))) 5) := by
  have key : ∀ c : Nat, c ≤ 6 → 0 < nI c → vp_in (v_X7_playerOf (nI c)) 5 := by
    intro c hc h0
    have hc0 : 1 ≤ c := by
      rcases Nat.eq_zero_or_pos c with q | q
      · subst q; exact absurd h0 (by decide)
      · exact q
    rw [(pl_c ⟨hc0, hc⟩).1]
    exact vp_in_nI (by omega) (by omega)
  rw [show (7 : Int32) = nI 7 from rfl, pk_rem (by omega) (by omega) (by omega), pk_div (by omega) (by omega) (by omega)]
  exact ⟨key _ (by omega), key _ (by omega)⟩
theorem ev_sumOf {A : Tm} {oth all once pace l : Nat} (hA : BD A) (hl : HeldOK A oth all once pace l) (hn : l < qN A) (hpa : pace ≤ 1) {d s o a : Nat} {I : Nat → Nat → Int32} {J : Nat → Nat → Int64} {T : Nat → Nat → Nat} {Q : Option Value → Mem → Prop} (hR : RC A I T) (hK : RK I) (hF : FB oth all once pace I) (hM : MMO A oth all once pace J) (hs : s < 5) (ho : CD o) (ha : a < 49) (hm : mayF o a all once = true)
    (g : ∀ I' J', Fr [10, 11, 12] I I' → Fj [71] J J' → MMO A oth all once pace J' → Q (some (.long (lN (bsum A oth all pace (qN A - (l + 1)) (bV A oth all once pace l) s o a 5)))) (SH, mkM I' J' T)) : Ev mt aM (d + (3 * l + 9)) 12 [.ref 69, .int (nI (qN A - (l + 1))), .int (scI s), .int (dI o), .int (nI a), .int (nI (stF A oth (qN A - (l + 1)) (scI s)))] (SH, mkM I J T) Q := by
  have h5 := hA.1.2
  obtain ⟨p1, p2⟩ := aft_pre ho ha hm
  obtain ⟨c1, c2, c3, c4, _⟩ := aft_all (M := I) ho hA ha hm
  have c4 := c4 hR.2.2.2.2.2.1
  refine Ev.intro mX0_sumOf rfl rfl (sum_0 (d := d + (3 * l + 4)) ⟨p1, p2, ?_⟩)
  rw [c4, ch_c ha, hF.2.1, hF.2.2.2]
  refine ev_shares (d := d + (3 * l + 3)) (A := A) (x := chN a) (st := stF A oth (qN A - (l + 1)) (scI s)) (most := all) (pace := pace) (sc := scI s) hA hR (by omega) hpa c1 (fun I1 f1 => sum_38 (d := d + (3 * l + 4)) ?_)
  have loop : ∀ (m e : Nat) (I1 : Nat → Nat → Int32) (J1 : Nat → Nat → Int64), m + e = 5 → Fr [10, 11, 12] I I1 → Fj [71] J J1 → MMO A oth all once pace J1 → Go none aM (Ev mt aM (d + (3 * l + 4) + 4)) mX0_sumOf Q (46, [some (.ref 69), some (.int (nI (qN A - (l + 1)))), some (.int (scI s)), none, none, none, some (.int (dI (aftF A o a))), some (.int (nI (pkF (sG A (qN A - (l + 1)) (scI s) (aftF A o a) (stF A oth (qN A - (l + 1)) (scI s)) (chN a) all pace) (sA A (qN A - (l + 1)) (scI s) (aftF A o a) (stF A oth (qN A - (l + 1)) (scI s)) (chN a) all pace) (sH0 A (qN A - (l + 1)) (scI s) (aftF A o a) (stF A oth (qN A - (l + 1)) (scI s)) (chN a) all pace) (sH1 A (qN A - (l + 1)) (scI s) (aftF A o a) (stF A oth (qN A - (l + 1)) (scI s)) (chN a) all pace)))), some (.long (lN (bsum A oth all pace (qN A - (l + 1)) (bV A oth all once pace l) s o a e))), none, some (.int (nI e)), none, none], [], (SH, mkM I1 J1 T), 0, 0) := by
    intro m
    induction m with
    | zero =>
      intro e I1 J1 he f1 j1 m1
      have he : e = 5 := by omega
      subst he
      exact sum_116 (d := d + (3 * l + 4)) (g I1 J1 f1 j1 m1)
    | succ m ih =>
      intro e I1 J1 he f1 j1 m1
      have he5 : e < 5 := by omega
      have b1 : bsum A oth all pace (qN A - (l + 1)) (bV A oth all once pace l) s o a e ≤ 100 * 10000000000000 := bsum_le (fun s o => bV_lt hA oth all once pace (by omega) s o) s o a e (by omega)
      refine sum_46 (d := d + (3 * l + 4)) (nI_nlt (a := 4) (b := e) (by omega) (by omega)) ?_
      rw [shOf_c A oth all pace (qN A - (l + 1)) s o a e he5]
      have sle := shN_le A oth all pace (qN A - (l + 1)) s o a e he5
      have bs : bsum A oth all pace (qN A - (l + 1)) (bV A oth all once pace l) s o a (e + 1) = bsum A oth all pace (qN A - (l + 1)) (bV A oth all once pace l) s o a e + shN A oth all pace (qN A - (l + 1)) s o a e * bV A oth all once pace l (scN s e) (nxtF A (aftF A o a) e pace) := rfl
      refine ⟨fun c => ?_, fun c => ?_⟩
      · have z : shN A oth all pace (qN A - (l + 1)) s o a e = 0 := by
          rcases Nat.eq_zero_or_pos (shN A oth all pace (qN A - (l + 1)) s o a e) with q | q
          · exact q
          · exact absurd c (nI_nle q (by omega))
        have bs0 : bsum A oth all pace (qN A - (l + 1)) (bV A oth all once pace l) s o a (e + 1) = bsum A oth all pace (qN A - (l + 1)) (bV A oth all once pace l) s o a e := by rw [z] at bs; omega
        rw [← bs0, nI_1]
        exact ih (e + 1) I1 J1 (by omega) f1 j1 m1
      · obtain ⟨n1, n2, n3, _⟩ := nxt_all (M := I1) (e := e) c1 hA he5 hpa
        have n3 := n3 (fun j hj => by rw [f1 4 rfl]; exact hR.2.2.2.2.2.2.1 j hj)
        rw [nI_1, show qN A - (l + 1) + 1 = qN A - l by omega, (sc_c hs he5).1, show I1 69 9 = nI pace by rw [f1 69 rfl]; exact hF.2.2.2, n3, nI_l (by omega)]
        refine hl d (scN s e) _ I1 J1 T _ (hR.fr rfl f1) (fun o ho => by rw [f1 70 rfl]; exact hK o ho) (by unfold FB; rw [f1 69 rfl]; exact hF) m1 (scN_lt hs) n1 (by omega) (fun I2 J2 f2 j2 m2 => ?_)
        refine sum_103 (d := d + (3 * l + 4)) ?_
        rw [hv_shr hA oth all once pace (by omega), lN_mul, lN_add, ← bs, nI_1]
        exact ih (e + 1) I2 J2 (by omega) (f1.trans f2) (j1.trans j2) m2
  exact loop 5 0 I1 J rfl f1 (Fj.rfl' _ _) hM
/-- the greatest so far, less 1 -/
def gJ1 (n : Nat) : Int64 := lN n - 1
theorem gJ_cmp {m n : Nat} (hm : m < 2 ^ 60) (hn : n < 2 ^ 60) : (lg_cmp (lN m) (gJ1 n) ≤ 0) ↔ ¬ n < m + 1 := by
  rw [lg_cmp_le]
  unfold gJ1
  rcases Nat.eq_zero_or_pos n with q | q
  · subst q
    rw [Int64.le_iff_toInt_le, pk_lT (by omega), show (lN 0 - 1 : Int64).toInt = -1 by decide]
    omega
  · rw [show (1 : Int64) = lN 1 from rfl, lN_sub q, pk_lLE (by omega) (by omega)]
    omega
theorem ev_search {A : Tm} {oth all once pace l : Nat} (hA : BD A) (hl : HeldOK A oth all once pace l) (hn : l < qN A) (hpa : pace ≤ 1) (hoth : oth < 3) (hal : all ≤ 3) (hon : once ≤ 3) {d s o : Nat} {I : Nat → Nat → Int32} {J : Nat → Nat → Int64} {T : Nat → Nat → Nat} {Q : Option Value → Mem → Prop} (hR : RC A I T) (hK : RK I) (hF : FB oth all once pace I) (hM : MMO A oth all once pace J) (hs : s < 5) (ho : CD o) (hmd : mdN o ≤ all)
    (g : ∀ I' J', Fr [10, 11, 12] I I' → Fj [71] J J' → MMO A oth all once pace J' → Q (some (.long (lN (hvF A oth all once pace (l + 1) s o)))) (SH, mkM I' J' T)) : Ev mt aM (d + (3 * l + 10)) 11 [.ref 69, .int (nI (qN A - (l + 1))), .int (scI s), .int (dI o)] (SH, mkM I J T) Q := by
  have h5 := hA.1.2
  refine Ev.intro mX0_search rfl rfl (sea_0 (d := d + (3 * l + 5)) ?_)
  rw [hF.1]
  refine ev_strongOf (d := d + (3 * l + 4)) (A := A) hA hR hoth (fun I1 f1 => sea_13 (d := d + (3 * l + 5)) ?_)
  have hf : ∀ a, bsum A oth all pace (qN A - (l + 1)) (bV A oth all once pace l) s o a 5 ≤ 100 * 10000000000000 := fun a => bsum_le (fun s o => bV_lt hA oth all once pace (by omega) s o) s o a 5 (by omega)
  have loop : ∀ (m i : Nat) (I1 : Nat → Nat → Int32) (J1 : Nat → Nat → Int64), m + i = 13 → Fr [10, 11, 12] I I1 → Fj [71] J J1 → MMO A oth all once pace J1 → Go none aM (Ev mt aM (d + (3 * l + 5) + 4)) mX0_search Q (36, [some (.ref 69), some (.int (nI (qN A - (l + 1)))), some (.int (scI s)), some (.int (dI o)), some (.int (nI (stF A oth (qN A - (l + 1)) (scI s)))), some (.long (gJ1 (mxB A oth all once pace (qN A - (l + 1)) (bV A oth all once pace l) s o (acN i)).1)), none, some (.int (nI (mxB A oth all once pace (qN A - (l + 1)) (bV A oth all once pace l) s o (acN i)).2)), some (.ref 3000), some (.int (13 : Int32)), some (.int (nI i)), none, none, none], [], (SH, mkM I1 J1 T), 0, 0) := by
    intro m
    induction m with
    | zero =>
      intro i I1 J1 hi f1 j1 m1
      have hi : i = 13 := by omega
      subst hi
      have ba := bA_lt A oth all once pace l s o
      have bv := bV_lt hA oth all once pace (l := l + 1) (by omega) s o
      have hx := bV_mx (A := A) (oth := oth) (once := once) (pace := pace) (l := l) (s := s) ho hmd
      refine sea_102 (d := d + (3 * l + 5)) ?_
      rw [show acN 13 = 49 from rfl, ← hx]
      have e1 : gJ1 (bV A oth all once pace (l + 1) s o + 1) = lN (bV A oth all once pace (l + 1) s o) := lN_sub (Nat.le_add_left _ _)
      have e2 : (64 : Int64) * lN (bV A oth all once pace (l + 1) s o) + (nI (bA A oth all once pace l s o)).toInt64 + 1 = lN (hvF A oth all once pace (l + 1) s o) := by
        rw [show (64 : Int64) = lN 64 from rfl, lN_mul, nI_l (by omega), lN_add, lN_1]
        rfl
      rw [e1]
      show Q (some (.long ((64 : Int64) * lN (bV A oth all once pace (l + 1) s o) + (nI (bA A oth all once pace l s o)).toInt64 + 1))) _
      rw [e2]
      exact g I1 J1 f1 j1 m1
    | succ m ih =>
      intro i I1 J1 hi f1 j1 m1
      have hi13 : i < 13 := by omega
      obtain ⟨ac1, ac2⟩ := act_c hi13
      have step : mxB A oth all once pace (qN A - (l + 1)) (bV A oth all once pace l) s o (acN (i + 1)) = if mayF o (acN i) all once = true ∧ (mxB A oth all once pace (qN A - (l + 1)) (bV A oth all once pace l) s o (acN i)).1 < bsum A oth all pace (qN A - (l + 1)) (bV A oth all once pace l) s o (acN i) 5 + 1 then (bsum A oth all pace (qN A - (l + 1)) (bV A oth all once pace l) s o (acN i) 5 + 1, acN i) else mxB A oth all once pace (qN A - (l + 1)) (bV A oth all once pace l) s o (acN i) := mx_gap ho hi13
      have hml : (mxB A oth all once pace (qN A - (l + 1)) (bV A oth all once pace l) s o (acN i)).1 ≤ 100 * 10000000000000 + 1 := mx_le (p := fun a => mayF o a all once) hf (acN i)
      refine sea_36 (d := d + (3 * l + 5)) (nI_ge (b := 13) hi13 (by omega)) (vp_in_nI hi13 (by omega)) ?_
      rw [nI_clamp (by omega), ac1, show I1 69 7 = nI all by rw [f1 69 rfl]; exact hF.2.1, show I1 69 8 = nI once by rw [f1 69 rfl]; exact hF.2.2.1, may_c ho ac2 hal hon]
      refine ⟨fun c => ?_, fun c => ?_⟩
      · have hm : mayF o (acN i) all once = false := by
          cases hb : mayF o (acN i) all once with
          | false => rfl
          | true => rw [hb] at c; exact absurd c (by decide)
        rw [if_neg (fun q => by rw [hm] at q; exact absurd q.1 (by decide))] at step
        rw [← step, nI_1]
        exact ih (i + 1) I1 J1 (by omega) f1 j1 m1
      · have hm : mayF o (acN i) all once = true := by
          cases hb : mayF o (acN i) all once with
          | true => rfl
          | false => rw [hb] at c; exact absurd rfl c
        refine ev_sumOf hA hl hn hpa (d := d) (hR.fr rfl f1) (fun o ho => by rw [f1 70 rfl]; exact hK o ho) (by unfold FB; rw [f1 69 rfl]; exact hF) m1 hs ho ac2 hm (fun I2 J2 f2 j2 m2 => ?_)
        refine sea_78 (d := d + (3 * l + 5)) ?_
        have nx := ih (i + 1) I2 J2 (by omega) (f1.trans f2) (j1.trans j2) m2
        rw [step] at nx
        have hcmp := gJ_cmp (m := bsum A oth all pace (qN A - (l + 1)) (bV A oth all once pace l) s o (acN i) 5) (n := (mxB A oth all once pace (qN A - (l + 1)) (bV A oth all once pace l) s o (acN i)).1) (by have := hf (acN i); omega) (by omega)
        by_cases k : (mxB A oth all once pace (qN A - (l + 1)) (bV A oth all once pace l) s o (acN i)).1 < bsum A oth all pace (qN A - (l + 1)) (bV A oth all once pace l) s o (acN i) 5 + 1
        · rw [if_pos ⟨hm, k⟩] at nx
          rw [if_neg (fun q => hcmp.mp q k), if_neg (fun q => hcmp.mp q k), nI_1]
          have e : gJ1 (bsum A oth all pace (qN A - (l + 1)) (bV A oth all once pace l) s o (acN i) 5 + 1) = lN (bsum A oth all pace (qN A - (l + 1)) (bV A oth all once pace l) s o (acN i) 5) := lN_sub (Nat.le_add_left _ _)
          rw [← e]
          exact nx
        · rw [if_neg (fun q => k q.2)] at nx
          rw [if_pos (hcmp.mpr k), if_pos (hcmp.mpr k), nI_1]
          exact nx
  exact loop 13 0 I1 J rfl f1 (Fj.rfl' _ _) hM
theorem held_ok {A : Tm} {oth all once pace : Nat} (hA : BD A) (hpa : pace ≤ 1) (hoth : oth < 3) (hal : all ≤ 3) (hon : once ≤ 3) : ∀ l, l ≤ qN A → HeldOK A oth all once pace l := by
  have h5 := hA.1.2
  intro l
  induction l with
  | zero =>
    intro _ d s o I J T Q hR hK hF hM hs ho hmd g
    have hw := wv_le hA s
    refine Ev.intro mX0_held rfl rfl (hel_0 (d := d + 3) ⟨fun c => ?_, fun _ => ?_⟩)
    · rw [hR.1, Nat.sub_zero] at c
      exact absurd c (nI_nlt (Nat.le_refl _) (by omega))
    · rw [w_c hR hs, nI_l (by omega), show (64 : Int64) = lN 64 from rfl, lN_mul]
      exact g I J (Fr.rfl' _ _) (Fj.rfl' _ _) hM
  | succ l ih =>
    intro hl d s o I J T Q hR hK hF hM hs ho hmd g
    have ih := ih (by omega)
    have sl := sl_lt (per := qN A - (l + 1)) (s := s) (by omega) hs ho
    obtain ⟨v1, v2⟩ := sl_c (per := qN A - (l + 1)) (s := s) hK ho
    have hlt := hv_lt hA oth all once pace (l := l + 1) (by omega) s o
    have hps := hv_pos A oth all once pace l s o
    refine Ev.intro mX0_held rfl rfl (hel_0 (d := d + (3 * l + 6)) ⟨fun _ => ⟨v1, ?_⟩, fun c => ?_⟩)
    · rw [v2]
      refine ⟨vp_in_nI sl (by omega), fun c => ?_, fun c => ?_⟩
      · refine ev_search hA ih (by omega) hpa hoth hal hon (d := d) hR hK hF hM hs ho hmd (fun I1 J1 f1 j1 m1 => hel_59 (d := d + (3 * l + 6)) ⟨vp_in_nI sl (by omega), ?_⟩)
        rw [nI_clamp (by omega)]
        exact g I1 _ f1 (j1.to rfl) (m1.set (by omega) hs ho)
      · have e : v_X5_longAt_71 (nI (slN (qN A - (l + 1)) s o)) J = lN (hvF A oth all once pace (l + 1) s o) := by
          show J 71 (nI (slN (qN A - (l + 1)) s o)).toNatClampNeg = _
          rw [nI_clamp (by omega)]
          rcases hM l s o (by omega) hs ho hmd with q | q
          · refine absurd ((lg_cmp_eq _ _).mpr ?_) c
            show J 71 (nI (slN (qN A - (l + 1)) s o)).toNatClampNeg = _
            rw [nI_clamp (by omega)]
            exact q
          · exact q
        rw [e]
        exact g I J (Fr.rfl' _ _) (Fj.rfl' _ _) hM
    · rw [hR.1] at c
      exact absurd (nI_lt (by omega) (by omega)) c
