/-! THE REFERENCE'S SOLVER: VALUES told back from the last PERIOD; the whole. -/
def GV (A : Tm) (oth all once pace : Nat) (r : Option Nat) (l s o : Nat) : Nat := match r with
  | none => bV A oth all once pace l s o
  | some k => rV A k oth l s o
def SVl (A : Tm) (oth all once pace : Nat) (r : Option Nat) (I : Nat → Nat → Int32) (J : Nat → Nat → Int64) (l s o : Nat) : Prop := J 107 (ix (qN A - l) s o) = lN (GV A oth all once pace r l s o) ∧ (∀ k, r = some k → J 108 (ix (qN A - l) s o) = lN (wN A k oth 0 l s o) ∧ J 109 (ix (qN A - l) s o) = lN (wN A k oth 1 l s o) ∧ J 110 (ix (qN A - l) s o) = lN (wN A k oth 2 l s o)) ∧ (r = none → ∀ l', l = l' + 1 → I 111 (ix (qN A - l) s o) = nI (bA A oth all once pace l' s o))
theorem SVl.mv {A : Tm} {oth all once pace : Nat} {r : Option Nat} {I I' : Nat → Nat → Int32} {J J' : Nat → Nat → Int64} {l s o : Nat} (h : SVl A oth all once pace r I J l s o) (e0 : I' 111 (ix (qN A - l) s o) = I 111 (ix (qN A - l) s o)) (e1 : J' 107 (ix (qN A - l) s o) = J 107 (ix (qN A - l) s o)) (e2 : J' 108 (ix (qN A - l) s o) = J 108 (ix (qN A - l) s o)) (e3 : J' 109 (ix (qN A - l) s o) = J 109 (ix (qN A - l) s o)) (e4 : J' 110 (ix (qN A - l) s o) = J 110 (ix (qN A - l) s o)) : SVl A oth all once pace r I' J' l s o := by
  unfold SVl
  rw [e0, e1, e2, e3, e4]
  exact h
theorem wN_lt {A : Tm} {k oth j l : Nat} (h : l ≤ 5) (s o : Nat) : wN A k oth j l s o < 2 ^ 63 := by
  have h1 := wN_le A k oth j l s o
  have h2 := p100_le h
  omega
theorem rV_lt {A : Tm} (hA : BD A) {k oth l : Nat} (h : l ≤ 5) (s o : Nat) : rV A k oth l s o ≤ 10000000000000 := by
  have h1 := rV_le hA k oth l s o
  have h2 := p100_le h
  omega
theorem bs_eq {A : Tm} {oth all pace per s o a row : Nat} {J : Nat → Nat → Int64} {V : Nat → Nat → Nat} (hV : ∀ s o, V s o < 2 ^ 63) (h : ∀ e, e < 5 → shN A oth all pace per s o a e ≠ 0 → J row (ix (per + 1) (scN s e) (nxtF A (aftF A o a) e pace)) = lN (V (scN s e) (nxtF A (aftF A o a) e pace))) : bsum A oth all pace per (vJ J row (per + 1)) s o a 5 = bsum A oth all pace per V s o a 5 := by
  refine bsum_congr 5 (fun i hi h0 => ?_)
  unfold vJ
  rw [h i hi h0, cJ_lN (hV _ _)]
theorem all_byte : allB (fun a => eqI (vp_nar .byte (nI a).toInt8.toInt32) (nI a)) 49 = true := by decide +kernel
section SLT
variable {A : Tm} {oth all once pace : Nat} {T : Nat → Nat → Nat} {Q : Option Value → Mem → Prop}
theorem ev_tells {r : Option Nat} (hA : BD A) (ho : oth < 3) (hpa : pace ≤ 1) (hal : all ≤ 3) (hon : once ≤ 3) (hr : RR A all once pace r) {d l s o : Nat} {I : Nat → Nat → Int32} {J : Nat → Nat → Int64} (hR : RM A I) (hN : RN all once pace I) (hl : l < qN A) (hs : s < 5) (h : CD o) (hmd : mdN o ≤ all)
    (hV : ∀ a e, a < 49 → prA A oth all once r (qN A - (l + 1)) s o a → e < 5 → shN A oth all pace (qN A - (l + 1)) s o a e ≠ 0 → SVl A oth all once pace r I J l (scN s e) (nxtF A (aftF A o a) e pace))
    (g : ∀ I' J', Fr [103, 104, 105, 111] I I' → Fj [83, 107, 108, 109, 110] J J' → (∀ i, i ≠ ix (qN A - (l + 1)) s o → I' 111 i = I 111 i ∧ J' 107 i = J 107 i ∧ J' 108 i = J 108 i ∧ J' 109 i = J 109 i ∧ J' 110 i = J 110 i) → SVl A oth all once pace r I' J' (l + 1) s o → Q none (SH, mkM I' J' T)) : Ev mt aM (d + 9) 247 [.ref 83, .int (nI (qN A - (l + 1))), .int (nI (5 * o + s)), .int (rI r), .int (nI oth)] (SH, mkM I J T) Q := by
  have h5 := hA.1.2
  have hp1 : qN A - (l + 1) + 1 = qN A - l := by omega
  have hp5 : qN A - (l + 1) < 5 := by omega
  obtain ⟨d1, d2⟩ := at_div hs h.1
  have hi : ix (qN A - (l + 1)) s o < 61440 := ix_lt (by omega) hs h.1
  have vi : vp_in (nI (ix (qN A - (l + 1)) s o)) 61440 := vp_in_nI hi (by omega)
  have ei : (10240 : Int32) * nI (qN A - (l + 1)) + nI (5 * o + s) = nI (ix (qN A - (l + 1)) s o) := by
    rw [show (10240 : Int32) = nI 10240 from rfl, pk_mul, nI_add]
    rfl
  refine Ev.intro mX12_tells rfl rfl (tel_0 ?_)
  rw [d2, d1, ei]
  cases r with
  | some k =>
    obtain ⟨k1, k2, k3, k4⟩ := hr k rfl
    refine ⟨fun c => ?_, fun _ => ?_⟩
    · have := congrArg Int32.toInt (show nI k = (-1 : Int32) from c)
      rw [nI_toInt (by omega), show (-1 : Int32).toInt = -1 by decide] at this
      omega
    · subst k2 k3 k4
      obtain ⟨ra, rm⟩ := rA_may (A := A) (k := k) (oth := oth) (per := qN A - (l + 1)) (s := s) h hmd
      refine ev_ruled (d := d + 1) (A := A) hA hR hN k1 ho (by omega) h (fun I1 f1 => tel_50 ?_)
      refine ev_actionWorth (d := d) hA ho (by omega) (hR.fr (l := [103, 104]) rfl f1) (hN.fr (l := [103, 104]) rfl f1) hp5 hs h ra rm (fun I2 J2 f2 j2 e1 e2 e3 => tel_55 ⟨vi, vi, vi, vi, ?_⟩)
      have hv := fun e he h0 => hV (rA A k oth (qN A - (l + 1)) s o) e ra rfl he h0
      rw [nI_clamp (by omega), e1, e2, e3]
      rw [bs_eq (V := rV A k oth l) (fun s o => by have := rV_lt hA (k := k) (oth := oth) (l := l) (by omega) s o; omega) (fun e he h0 => by rw [hp1]; exact (hv e he h0).1), bs_eq (V := wN A k oth 0 l) (fun s o => wN_lt (by omega) s o) (fun e he h0 => by rw [hp1]; exact ((hv e he h0).2.1 k rfl).1), bs_eq (V := wN A k oth 1 l) (fun s o => wN_lt (by omega) s o) (fun e he h0 => by rw [hp1]; exact ((hv e he h0).2.1 k rfl).2.1), bs_eq (V := wN A k oth 2 l) (fun s o => wN_lt (by omega) s o) (fun e he h0 => by rw [hp1]; exact ((hv e he h0).2.1 k rfl).2.2)]
      refine g I2 _ ((f1.sub rfl).trans (f2.sub rfl)) ((j2.sub rfl).to rfl |>.to rfl |>.to rfl |>.to rfl) (fun i hi2 => ⟨?_, ?_, ?_, ?_, ?_⟩) ⟨?_, fun k' hk' => ?_, fun q => by cases q⟩
      · rw [f2 111 rfl, f1 111 rfl]
      · rw [sj_row (by omega), sj_row (by omega), sj_row (by omega), sj_ne hi2, j2 107 rfl]
      · rw [sj_row (by omega), sj_row (by omega), sj_ne hi2, sj_row (by omega), j2 108 rfl]
      · rw [sj_row (by omega), sj_ne hi2, sj_row (by omega), sj_row (by omega), j2 109 rfl]
      · rw [sj_ne hi2, sj_row (by omega), sj_row (by omega), sj_row (by omega), j2 110 rfl]
      · rw [sj_row (by omega), sj_row (by omega), sj_row (by omega), sj_at]; rfl
      · cases hk'
        refine ⟨?_, ?_, ?_⟩
        · rw [sj_row (by omega), sj_row (by omega), sj_at]; rfl
        · rw [sj_row (by omega), sj_at]; rfl
        · rw [sj_at]; rfl
  | none =>
    refine ⟨fun _ => ?_, fun c => absurd rfl c⟩
    have hf : ∀ a, bsum A oth all pace (qN A - (l + 1)) (bV A oth all once pace l) s o a 5 ≤ 100 * 10000000000000 := fun a => bsum_le (fun s o => bV_lt hA oth all once pace (by omega) s o) s o a 5 (by omega)
    have loop : ∀ (m a : Nat) (b : Int32) (I2 : Nat → Nat → Int32) (J2 : Nat → Nat → Int64), m + a = 49 → Fr [103, 104, 105, 111] I I2 → Fj [83, 107] J J2 → (∀ i, i ≠ ix (qN A - (l + 1)) s o → I2 111 i = I 111 i ∧ J2 107 i = J 107 i) → (b = 0 ↔ (mxB A oth all once pace (qN A - (l + 1)) (bV A oth all once pace l) s o a).1 = 0) → (1 ≤ (mxB A oth all once pace (qN A - (l + 1)) (bV A oth all once pace l) s o a).1 → J2 107 (ix (qN A - (l + 1)) s o) = lN ((mxB A oth all once pace (qN A - (l + 1)) (bV A oth all once pace l) s o a).1 - 1) ∧ I2 111 (ix (qN A - (l + 1)) s o) = nI (mxB A oth all once pace (qN A - (l + 1)) (bV A oth all once pace l) s o a).2) → Go none aM (Ev mt aM (d + 8)) mX12_tells Q (96, [some (.ref 83), some (.int (nI (qN A - (l + 1)))), none, none, some (.int (nI oth)), some (.int (nI o)), some (.int (scI s)), some (.int (nI (ix (qN A - (l + 1)) s o))), some (.int b), some (.int (nI a)), none, none], [], (SH, mkM I2 J2 T), 0, 0) := by
      intro m
      induction m with
      | zero =>
        intro a b I2 J2 ha f2 j2 c2 b2 v2
        have ha : a = 49 := by omega
        subst ha
        have hx := bV_mx (A := A) (oth := oth) (once := once) (pace := pace) (l := l) (s := s) h hmd
        obtain ⟨v3, v4⟩ := v2 (by omega)
        refine tel_96 ⟨fun _ => ?_, fun c => absurd (Int32.le_refl _) c⟩
        refine g I2 J2 f2 (j2.sub rfl) (fun i hi2 => ⟨(c2 i hi2).1, (c2 i hi2).2, ?_, ?_, ?_⟩) ⟨?_, fun k' hk' => (by cases hk'), fun _ l' hl' => ?_⟩
        · rw [j2 108 rfl]
        · rw [j2 109 rfl]
        · rw [j2 110 rfl]
        · exact v3
        · have : l' = l := by omega
          subst this
          exact v4
      | succ m ih =>
        intro a b I2 J2 ha f2 j2 c2 b2 v2
        have ha9 : a < 49 := by omega
        have r2 : RM A I2 := hR.fr (l := [103, 104, 105, 111]) rfl f2
        have n2 : RN all once pace I2 := hN.fr (l := [103, 104, 105, 111]) rfl f2
        have step : mxB A oth all once pace (qN A - (l + 1)) (bV A oth all once pace l) s o (a + 1) = if mayF o a all once = true ∧ (mxB A oth all once pace (qN A - (l + 1)) (bV A oth all once pace l) s o a).1 < bsum A oth all pace (qN A - (l + 1)) (bV A oth all once pace l) s o a 5 + 1 then (bsum A oth all pace (qN A - (l + 1)) (bV A oth all once pace l) s o a 5 + 1, a) else mxB A oth all once pace (qN A - (l + 1)) (bV A oth all once pace l) s o a := rfl
        have hml : (mxB A oth all once pace (qN A - (l + 1)) (bV A oth all once pace l) s o a).1 ≤ 100 * 10000000000000 + 1 := mx_le (p := fun a => mayF o a all once) hf a
        refine tel_96 ⟨fun c => absurd c (nI_ge (b := 49) ha9 (by omega)), fun _ => ?_⟩
        rw [may_m h ha9 hal hon n2.1 n2.2.1, nI_1]
        refine ⟨fun c => ?_, fun c => ?_⟩
        · have hm : ¬ mayF o a all once = true := fun hb => by rw [hb] at c; exact absurd c (by decide)
          rw [if_neg (fun q => hm q.1)] at step
          refine ih (a + 1) b I2 J2 (by omega) f2 j2 c2 ?_ ?_
          · rw [step]; exact b2
          · rw [step]; exact v2
        · have hm : mayF o a all once = true := by
            cases hb : mayF o a all once with
            | true => rfl
            | false => rw [hb] at c; exact absurd rfl c
          refine ev_actionWorth (d := d) hA ho hpa r2 n2 hp5 hs h ha9 hm (fun I3 J3 f3 j3 _ _ _ => tel_130 ?_)
          have ev : bsum A oth all pace (qN A - (l + 1)) (vJ J2 107 (qN A - (l + 1) + 1)) s o a 5 = bsum A oth all pace (qN A - (l + 1)) (bV A oth all once pace l) s o a 5 := bs_eq (fun s o => by have := bV_lt hA oth all once pace (l := l) (by omega) s o; omega) (fun e he h0 => by
            have hn := nxt_cd hA h ha9 hm he hpa
            rw [(c2 _ (fun q => by have := (ix_inj (scN_lt hs) hs hn.1.1 h.1 q).1; omega)).2, hp1]
            exact (hV a e ha9 hm he h0).1)
          rw [ev, nI_clamp (by omega), nI_1]
          have f23 := f2.trans (f3.sub (l2 := [103, 104, 105, 111]) rfl)
          have j23 := j2.trans (j3.sub (l2 := [83, 107]) rfl)
          have c3 : ∀ i, i ≠ ix (qN A - (l + 1)) s o → I3 111 i = I 111 i ∧ J3 107 i = J 107 i := fun i hi2 => by
            rw [f3 111 rfl, j3 107 rfl]; exact c2 i hi2
          have won : (mxB A oth all once pace (qN A - (l + 1)) (bV A oth all once pace l) s o a).1 < bsum A oth all pace (qN A - (l + 1)) (bV A oth all once pace l) s o a 5 + 1 → Go none aM (Ev mt aM (d + 8)) mX12_tells Q (96, [some (.ref 83), some (.int (nI (qN A - (l + 1)))), none, none, some (.int (nI oth)), some (.int (nI o)), some (.int (scI s)), some (.int (nI (ix (qN A - (l + 1)) s o))), some (.int (1 : Int32)), some (.int (nI (a + 1))), none, none], [], (SH, mkM (si I3 111 (ix (qN A - (l + 1)) s o) (vp_nar .byte (nI a).toInt8.toInt32)) (sj J3 107 (ix (qN A - (l + 1)) s o) (lN (bsum A oth all pace (qN A - (l + 1)) (bV A oth all once pace l) s o a 5))) T), 0, 0) := by
            intro w
            rw [if_pos ⟨hm, w⟩] at step
            refine ih (a + 1) 1 _ _ (by omega) (f23.to rfl) (j23.to rfl) (fun i hi2 => ?_) ?_ ?_
            · rw [si_ne hi2, sj_ne hi2]; exact c3 i hi2
            · rw [step]; exact ⟨fun q => absurd q (by decide), fun q => by omega⟩
            · rw [step]
              intro _
              rw [sj_at, si_at]
              exact ⟨rfl, eqI_eq (allB_get all_byte a ha9)⟩
          refine ⟨fun c0 => ⟨vi, vi, won ?_⟩, fun c0 => ⟨vi, fun c1 => ⟨vi, vi, won ?_⟩, fun c1 => ?_⟩⟩
          · rw [b2.mp c0]; omega
          · have m1 : 1 ≤ (mxB A oth all once pace (qN A - (l + 1)) (bV A oth all once pace l) s o a).1 := Nat.pos_of_ne_zero (fun q => c0 (b2.mpr q))
            rw [lg_cmp_gt, j3 107 rfl, (v2 m1).1, pk_lLT (by omega) (by have := hf a; omega)] at c1
            omega
          · have m1 : 1 ≤ (mxB A oth all once pace (qN A - (l + 1)) (bV A oth all once pace l) s o a).1 := Nat.pos_of_ne_zero (fun q => c0 (b2.mpr q))
            rw [lg_cmp_gt, j3 107 rfl, (v2 m1).1, pk_lLT (by omega) (by have := hf a; omega)] at c1
            rw [if_neg (fun q => c1 (by omega))] at step
            refine ih (a + 1) b I3 J3 (by omega) f23 j23 c3 ?_ ?_
            · rw [step]; exact b2
            · rw [step, f3 111 rfl, j3 107 rfl]; exact v2
    refine loop 49 0 0 I J rfl (Fr.rfl' _ _) (Fj.rfl' _ _) (fun i _ => ⟨rfl, rfl⟩) ⟨fun _ => rfl, fun _ => rfl⟩ (fun q => absurd (show 1 ≤ 0 from q) (by decide))
/-- what the marks say -/
def VAL (A : Tm) (all p : Nat) (I : Nat → Nat → Int32) : Prop := ∀ i, 10240 * p ≤ i → i < 10240 * (qN A + 1) → I 106 i ≠ 0 → ∃ t s o, i = ix t s o ∧ p ≤ t ∧ t ≤ qN A ∧ s < 5 ∧ CD o ∧ mdN o ≤ all
def CLO (A : Tm) (oth all once pace : Nat) (r : Option Nat) (I : Nat → Nat → Int32) (t s o : Nat) : Prop := I 106 (ix t s o) ≠ 0 → ∀ a e, a < 49 → prA A oth all once r t s o a → e < 5 → shN A oth all pace t s o a e ≠ 0 → I 106 (sx A pace t s o a e) ≠ 0
def FWD (A : Tm) (oth all once pace : Nat) (r : Option Nat) (p i0 t k : Nat) (I : Nat → Nat → Int32) : Prop := VAL A all p I ∧ I 106 i0 ≠ 0 ∧ ∀ t' s o, p ≤ t' → (t' < t ∨ (t' = t ∧ 5 * o + s < k)) → s < 5 → CD o → mdN o ≤ all → CLO A oth all once pace r I t' s o
theorem ends_c {s o t : Nat} {I : Nat → Nat → Int32} (hA : BD A) (hR : RM A I) (hs : s < 5) (ho : o < 2048) (ht : t ≤ 5) : w2_X12_ends (nI (ix t s o)) I = lN (wv A s) ∧ w3_X12_ends (nI (ix t s o)) = lN (eN 0 s) ∧ w4_X12_ends (nI (ix t s o)) = lN (eN 1 s) ∧ w5_X12_ends (nI (ix t s o)) = lN (eN 2 s) := by
  have hW := hA.2.2.2.1
  have w0 := hW 0 (by omega)
  have w1 := hW 1 (by omega)
  have w2 := hW 2 (by omega)
  have r := hR.2.2.2.1
  have e : (nI (ix t s o) - nI (ix t s o) / (5 : Int32) * (5 : Int32)) - (2 : Int32) = scI s := by
    unfold ix
    rw [show (5 : Int32) = nI 5 from rfl, pk_rem (by omega) (by omega) (by omega), show (10240 * t + (5 * o + s)) % 5 = s by omega]
    rfl
  unfold w2_X12_ends w1_X12_ends w3_X12_ends w4_X12_ends w5_X12_ends wv eN
  rw [e, r 0 (by omega), r 1 (by omega), r 2 (by omega), nI_l (by omega), nI_l (by omega), nI_l (by omega)]
  rcases (show s = 0 ∨ s = 1 ∨ s = 2 ∨ s = 3 ∨ s = 4 by omega) with rfl | rfl | rfl | rfl | rfl
  · exact ⟨rfl, rfl, rfl, rfl⟩
  · exact ⟨rfl, rfl, rfl, rfl⟩
  · exact ⟨rfl, rfl, rfl, rfl⟩
  · exact ⟨rfl, rfl, rfl, rfl⟩
  · exact ⟨rfl, rfl, rfl, rfl⟩
def tI (m : Nat) : Int32 := nI m - 1
theorem tI_s (m : Nat) : tI (m + 1) = nI m := nI_pred m
theorem tI_lt {m p : Nat} (hm : m < 2 ^ 30) (hp : p < 2 ^ 30) : tI m < nI p ↔ m ≤ p := by
  cases m with
  | zero =>
    refine ⟨fun _ => Nat.zero_le _, fun _ => ?_⟩
    rw [Int32.lt_iff_toInt_lt, nI_toInt (by omega), show (tI 0).toInt = -1 by decide]
    omega
  | succ m =>
    rw [tI_s, nI_ltI (by omega) (by omega)]
    omega
theorem tI_m (m : Nat) : nI m + (-1) = tI m := by
  unfold tI
  rw [Int32.sub_eq_add_neg]
theorem ev_solves {r : Option Nat} (hA : BD A) (ho : oth < 3) (hpa : pace ≤ 1) (hal : all ≤ 3) (hon : once ≤ 3) (hr : RR A all once pace r) {d l0 s0 o0 : Nat} {I : Nat → Nat → Int32} {J : Nat → Nat → Int64} (hR : RM A I) (hN : RN all once pace I) (hl : l0 ≤ qN A) (hs0 : s0 < 5) (h0 : CD o0) (hm0 : mdN o0 ≤ all)
    (g : ∀ I' J', Fr [103, 104, 105, 106, 111] I I' → Fj [83, 107, 108, 109, 110] J J' → SVl A oth all once pace r I' J' l0 s0 o0 → (∀ l, l0 = l + 1 → ∀ a e, a < 49 → prA A oth all once r (qN A - l0) s0 o0 a → e < 5 → shN A oth all pace (qN A - l0) s0 o0 a e ≠ 0 → SVl A oth all once pace r I' J' l (scN s0 e) (nxtF A (aftF A o0 a) e pace)) → Q (some (.long (lN (GV A oth all once pace r l0 s0 o0)))) (SH, mkM I' J' T)) : Ev mt aM (d + 10) 248 [.ref 83, .int (nI (qN A - l0)), .int (scI s0), .int (nI o0), .int (rI r), .int (nI oth)] (SH, mkM I J T) Q := by
  have h5 := hA.1.2
  have hi0 : ix (qN A - l0) s0 o0 < 61440 := ix_lt (by omega) hs0 h0.1
  have hi0' : ix (qN A - l0) s0 o0 < 10240 * (qN A + 1) := by unfold ix; have := h0.1; omega
  have eN1 : ∀ X : Nat → Nat → Int32, X 83 0 = nI (qN A) → (10240 : Int32) * (X 83 0 + 1) = nI (10240 * (qN A + 1)) := fun X hX => by rw [hX, nI_1, show (10240 : Int32) = nI 10240 from rfl, pk_mul]
  -- phase 4: back
  have back : ∀ (m l : Nat) (I1 : Nat → Nat → Int32) (J1 : Nat → Nat → Int64), m + l = l0 → Fr [103, 104, 105, 106, 111] I I1 → Fj [83, 107, 108, 109, 110] J J1 → FWD A oth all once pace r (qN A - l0) (ix (qN A - l0) s0 o0) (qN A) 0 I1 → (∀ l' s o, l' ≤ l → s < 5 → CD o → mdN o ≤ all → I1 106 (ix (qN A - l') s o) ≠ 0 → SVl A oth all once pace r I1 J1 l' s o) → Go none aM (Ev mt aM (d + 9)) mX12_solves Q (167, [some (.ref 83), some (.int (nI (qN A - l0))), some (.int (scI s0)), some (.int (nI o0)), some (.int (rI r)), some (.int (nI oth)), some (.int (tI (qN A - l))), none], [], (SH, mkM I1 J1 T), 0, 0) := by
    intro m
    induction m with
    | zero =>
      intro l I1 J1 hm f1 j1 w1 v1
      have hm : l = l0 := by omega
      subst hm
      refine sol_167 ⟨fun _ => ?_, fun c => absurd ((tI_lt (by omega) (by omega)).mpr (Nat.le_refl _)) c⟩
      have s1 := v1 l s0 o0 (Nat.le_refl _) hs0 h0 hm0 w1.2.1
      rw [pl_ix, nI_clamp (by omega)]
      refine ⟨vp_in_nI hi0 (by omega), ?_⟩
      rw [s1.1]
      refine g I1 J1 f1 j1 s1 (fun l' hl' a e ha hp he hsh => ?_)
      have hma := prA_may hr h0 hm0 hp
      obtain ⟨n1, n2⟩ := nxt_cd hA h0 ha hma he hpa
      refine v1 l' _ _ (by omega) (scN_lt hs0) n1 n2 ?_
      have q := w1.2.2 (qN A - l) s0 o0 (Nat.le_refl _) (Or.inl (by omega)) hs0 h0 hm0 w1.2.1 a e ha hp he hsh
      unfold sx at q
      rw [show qN A - l + 1 = qN A - l' by omega] at q
      exact q
    | succ m ih =>
      intro l I1 J1 hm f1 j1 w1 v1
      have et : tI (qN A - l) = nI (qN A - (l + 1)) := by
        rw [← tI_s]
        congr 1
        omega
      refine sol_167 ⟨fun c => absurd ((tI_lt (by omega) (by omega)).mp c) (by omega), fun _ => ?_⟩
      rw [et]
      have inner : ∀ (mk k : Nat) (I2 : Nat → Nat → Int32) (J2 : Nat → Nat → Int64), mk + k = 10240 → Fr [103, 104, 105, 106, 111] I I2 → Fj [83, 107, 108, 109, 110] J J2 → FWD A oth all once pace r (qN A - l0) (ix (qN A - l0) s0 o0) (qN A) 0 I2 → (∀ l' s o, l' ≤ l → s < 5 → CD o → mdN o ≤ all → I2 106 (ix (qN A - l') s o) ≠ 0 → SVl A oth all once pace r I2 J2 l' s o) → (∀ s o, 5 * o + s < k → s < 5 → CD o → mdN o ≤ all → I2 106 (ix (qN A - (l + 1)) s o) ≠ 0 → SVl A oth all once pace r I2 J2 (l + 1) s o) → Go none aM (Ev mt aM (d + 9)) mX12_solves Q (176, [some (.ref 83), some (.int (nI (qN A - l0))), some (.int (scI s0)), some (.int (nI o0)), some (.int (rI r)), some (.int (nI oth)), some (.int (nI (qN A - (l + 1)))), some (.int (nI k))], [], (SH, mkM I2 J2 T), 0, 0) := by
        intro mk
        induction mk with
        | zero =>
          intro k I2 J2 hk f2 j2 w2 v2 u2
          have hk : k = 10240 := by omega
          subst hk
          refine sol_176 ⟨fun _ => ?_, fun c => absurd (Int32.le_refl _) c⟩
          rw [tI_m]
          refine ih (l + 1) I2 J2 (by omega) f2 j2 w2 (fun l' s o h1 h2 h3 h4 h6 => ?_)
          rcases Nat.lt_or_ge l l' with q | q
          · have : l' = l + 1 := by omega
            subst this
            exact u2 s o (by have := h3.1; omega) h2 h3 h4 h6
          · exact v2 l' s o q h2 h3 h4 h6
        | succ mk ihk =>
          intro k I2 J2 hk f2 j2 w2 v2 u2
          have hk9 : k < 10240 := by omega
          have hin : 10240 * (qN A - (l + 1)) + k < 61440 := by omega
          have ek : (10240 : Int32) * nI (qN A - (l + 1)) + nI k = nI (10240 * (qN A - (l + 1)) + k) := by
            rw [show (10240 : Int32) = nI 10240 from rfl, pk_mul, nI_add]
          refine sol_176 ⟨fun c => absurd c (nI_ge (b := 10240) hk9 (by omega)), fun _ => ?_⟩
          rw [ek, nI_clamp (by omega), nI_1]
          refine ⟨vp_in_nI hin (by omega), fun c => ?_, fun c => ?_⟩
          · refine ihk (k + 1) I2 J2 (by omega) f2 j2 w2 v2 (fun s o h1 h2 h3 h4 h6 => ?_)
            rcases Nat.lt_succ_iff_lt_or_eq.mp h1 with q | q
            · exact u2 s o q h2 h3 h4 h6
            · refine absurd ?_ h6
              unfold ix
              rw [q]
              exact c
          · obtain ⟨t, s, o, i1, i2, i3, i4, i5, i6⟩ := w2.1 (10240 * (qN A - (l + 1)) + k) (by omega) (by omega) c
            have ho1 := i5.1
            have et2 : t = qN A - (l + 1) ∧ k = 5 * o + s := by unfold ix at i1; omega
            obtain ⟨et2, ek2⟩ := et2
            subst et2 ek2
            refine ev_tells (d := d) (r := r) hA ho hpa hal hon hr (hR.fr (l := [103, 104, 105, 106, 111]) rfl f2) (hN.fr (l := [103, 104, 105, 106, 111]) rfl f2) (by omega) i4 i5 i6 (fun a e ha hp he hsh => ?_) (fun I3 J3 f3 j3 c3 s3 => sol_213 ?_)
            · have hma := prA_may hr i5 i6 hp
              obtain ⟨n1, n2⟩ := nxt_cd hA i5 ha hma he hpa
              refine v2 l _ _ (Nat.le_refl _) (scN_lt i4) n1 n2 ?_
              have q := w2.2.2 (qN A - (l + 1)) s o (by omega) (Or.inl (by omega)) i4 i5 i6 c a e ha hp he hsh
              unfold sx at q
              rw [show qN A - (l + 1) + 1 = qN A - l by omega] at q
              exact q
            · rw [nI_1]
              have e106 : I3 106 = I2 106 := f3 106 rfl
              refine ihk (5 * o + s + 1) I3 J3 (by omega) (f2.trans (f3.sub rfl)) (j2.trans j3) ?_ (fun l' s' o' h1 h2 h3 h4 h6 => ?_) (fun s' o' h1 h2 h3 h4 h6 => ?_)
              · unfold FWD VAL CLO
                rw [e106]
                exact w2
              · rw [e106] at h6
                obtain ⟨q1, q2, q3, q4, q5⟩ := c3 (ix (qN A - l') s' o') (fun q => by have := (ix_inj h2 i4 h3.1 i5.1 q).1; omega)
                exact (v2 l' s' o' h1 h2 h3 h4 h6).mv q1 q2 q3 q4 q5
              · rw [e106] at h6
                by_cases q : 5 * o' + s' = 5 * o + s
                · have e1 : s' = s := by omega
                  have e2 : o' = o := by omega
                  subst e1 e2
                  exact s3
                · obtain ⟨q1, q2, q3, q4, q5⟩ := c3 (ix (qN A - (l + 1)) s' o') (fun q' => by have := ix_inj h2 i4 h3.1 i5.1 q'; omega)
                  exact (u2 s' o' (by omega) h2 h3 h4 h6).mv q1 q2 q3 q4 q5
      exact inner 10240 0 I1 J1 rfl f1 j1 w1 v1 (fun s o h1 => absurd h1 (Nat.not_lt_zero _))
  -- phase 3: the ends
  have ends : ∀ (m k : Nat) (I1 : Nat → Nat → Int32) (J1 : Nat → Nat → Int64), m + k = 10240 * (qN A + 1) → 10240 * qN A ≤ k → Fr [103, 104, 105, 106, 111] I I1 → Fj [83, 107, 108, 109, 110] J J1 → FWD A oth all once pace r (qN A - l0) (ix (qN A - l0) s0 o0) (qN A) 0 I1 → (∀ s o, s < 5 → CD o → mdN o ≤ all → ix (qN A) s o < k → I1 106 (ix (qN A) s o) ≠ 0 → SVl A oth all once pace r I1 J1 0 s o) → Go none aM (Ev mt aM (d + 9)) mX12_solves Q (122, [some (.ref 83), some (.int (nI (qN A - l0))), some (.int (scI s0)), some (.int (nI o0)), some (.int (rI r)), some (.int (nI oth)), some (.int (nI k)), none], [], (SH, mkM I1 J1 T), 0, 0) := by
    intro m
    induction m with
    | zero =>
      intro k I1 J1 hm hk f1 j1 w1 v1
      have r1 : RM A I1 := hR.fr (l := [103, 104, 105, 106, 111]) rfl f1
      have hm : k = 10240 * (qN A + 1) := by omega
      subst hm
      refine sol_122 ⟨fun _ => ?_, fun c => absurd ?_ c⟩
      · rw [r1.1]
        refine back l0 0 I1 J1 rfl f1 j1 w1 (fun l' s o h1 h2 h3 h4 h6 => ?_)
        have : l' = 0 := by omega
        subst this
        refine v1 s o h2 h3 h4 ?_ h6
        unfold ix
        have := h3.1
        omega
      · rw [eN1 I1 r1.1]
        exact Int32.le_refl _
    | succ m ih =>
      intro k I1 J1 hm hk f1 j1 w1 v1
      have r1 : RM A I1 := hR.fr (l := [103, 104, 105, 106, 111]) rfl f1
      have hk2 : k < 61440 := by omega
      have vk : vp_in (nI k) 61440 := vp_in_nI hk2 (by omega)
      refine sol_122 ⟨fun c => ?_, fun _ => ?_⟩
      · rw [eN1 I1 r1.1] at c
        exact absurd c (nI_ge (by omega) (by omega))
      · rw [nI_clamp (by omega), nI_1]
        refine ⟨vk, fun c => ?_, fun c => ⟨vk, vk, vk, vk, ?_⟩⟩
        · refine ih (k + 1) I1 J1 (by omega) (by omega) f1 j1 w1 (fun s o h1 h2 h3 h4 h6 => ?_)
          rcases Nat.lt_succ_iff_lt_or_eq.mp h4 with q | q
          · exact v1 s o h1 h2 h3 q h6
          · rw [q] at h6; exact absurd c h6
        · obtain ⟨t, s, o, i1, i2, i3, i4, i5, i6⟩ := w1.1 k (by omega) (by omega) c
          have ho1 := i5.1
          have et2 : t = qN A := by unfold ix at i1; omega
          subst et2 i1
          obtain ⟨e1, e2, e3, e4⟩ := ends_c (t := qN A) hA r1 i4 i5.1 h5
          rw [e1, e2, e3, e4]
          refine ih (ix (qN A) s o + 1) I1 _ (by omega) (by omega) f1 (j1.to rfl |>.to rfl |>.to rfl |>.to rfl) w1 (fun s' o' h1 h2 h3 h4 h6 => ?_)
          by_cases q : ix (qN A) s' o' = ix (qN A) s o
          · obtain ⟨_, q1, q2⟩ := ix_inj h1 i4 h2.1 i5.1 q
            subst q1 q2
            refine ⟨?_, fun k hk => ⟨?_, ?_, ?_⟩, fun _ l' hl' => by cases hl'⟩
            · rw [Nat.sub_zero, sj_row (by omega), sj_row (by omega), sj_row (by omega), sj_at]
              cases r <;> rfl
            · rw [Nat.sub_zero, sj_row (by omega), sj_row (by omega), sj_at]; rfl
            · rw [Nat.sub_zero, sj_row (by omega), sj_at]; rfl
            · rw [Nat.sub_zero, sj_at]; rfl
          · refine (v1 s' o' h1 h2 h3 (by omega) h6).mv rfl ?_ ?_ ?_ ?_
            · rw [Nat.sub_zero, sj_row (by omega), sj_row (by omega), sj_row (by omega), sj_ne q]
            · rw [Nat.sub_zero, sj_row (by omega), sj_row (by omega), sj_ne q, sj_row (by omega)]
            · rw [Nat.sub_zero, sj_row (by omega), sj_ne q, sj_row (by omega), sj_row (by omega)]
            · rw [Nat.sub_zero, sj_ne q, sj_row (by omega), sj_row (by omega), sj_row (by omega)]
  -- phase 2: the marks
  have marks : ∀ (m t : Nat) (I1 : Nat → Nat → Int32), m + t = qN A → qN A - l0 ≤ t → Fr [103, 104, 105, 106, 111] I I1 → FWD A oth all once pace r (qN A - l0) (ix (qN A - l0) s0 o0) t 0 I1 → Go none aM (Ev mt aM (d + 9)) mX12_solves Q (51, [some (.ref 83), some (.int (nI (qN A - l0))), some (.int (scI s0)), some (.int (nI o0)), some (.int (rI r)), some (.int (nI oth)), some (.int (nI t)), none], [], (SH, mkM I1 J T), 0, 0) := by
    intro m
    induction m with
    | zero =>
      intro t I1 hm ht f1 w1
      have r1 : RM A I1 := hR.fr (l := [103, 104, 105, 106, 111]) rfl f1
      have hm : t = qN A := by omega
      subst hm
      refine sol_51 ⟨fun _ => ?_, fun c => absurd ?_ c⟩
      · rw [r1.1, show (10240 : Int32) = nI 10240 from rfl, pk_mul]
        exact ends 10240 (10240 * qN A) I1 J (by omega) (Nat.le_refl _) f1 (Fj.rfl' _ _) w1 (fun s o _ _ _ h4 => absurd h4 (by unfold ix; omega))
      · rw [r1.1]; exact Int32.le_refl _
    | succ m ih =>
      intro t I1 hm ht f1 w1
      have r1 : RM A I1 := hR.fr (l := [103, 104, 105, 106, 111]) rfl f1
      refine sol_51 ⟨fun c => ?_, fun _ => ?_⟩
      · rw [r1.1] at c
        exact absurd c (nI_ge (by omega) (by omega))
      have inner : ∀ (mk k : Nat) (I2 : Nat → Nat → Int32), mk + k = 10240 → Fr [103, 104, 105, 106, 111] I I2 → FWD A oth all once pace r (qN A - l0) (ix (qN A - l0) s0 o0) t k I2 → Go none aM (Ev mt aM (d + 9)) mX12_solves Q (63, [some (.ref 83), some (.int (nI (qN A - l0))), some (.int (scI s0)), some (.int (nI o0)), some (.int (rI r)), some (.int (nI oth)), some (.int (nI t)), some (.int (nI k))], [], (SH, mkM I2 J T), 0, 0) := by
        intro mk
        induction mk with
        | zero =>
          intro k I2 hk f2 w2
          have hk : k = 10240 := by omega
          subst hk
          refine sol_63 ⟨fun _ => ?_, fun c => absurd (Int32.le_refl _) c⟩
          rw [nI_1]
          refine ih (t + 1) I2 (by omega) (by omega) f2 ⟨w2.1, w2.2.1, fun t' s o h1 h2 h3 h4 h6 => w2.2.2 t' s o h1 ?_ h3 h4 h6⟩
          have := h4.1
          omega
        | succ mk ihk =>
          intro k I2 hk f2 w2
          have hk9 : k < 10240 := by omega
          have hin : 10240 * t + k < 61440 := by omega
          have ek : (10240 : Int32) * nI t + nI k = nI (10240 * t + k) := by
            rw [show (10240 : Int32) = nI 10240 from rfl, pk_mul, nI_add]
          refine sol_63 ⟨fun c => absurd c (nI_ge (b := 10240) hk9 (by omega)), fun _ => ?_⟩
          rw [ek, nI_clamp (by omega), nI_1]
          refine ⟨vp_in_nI hin (by omega), fun c => ?_, fun c => ?_⟩
          · refine ihk (k + 1) I2 (by omega) f2 ⟨w2.1, w2.2.1, fun t' s o h1 h2 h3 h4 h6 => ?_⟩
            rcases h2 with q | ⟨q1, q2⟩
            · exact w2.2.2 t' s o h1 (Or.inl q) h3 h4 h6
            · rcases Nat.lt_succ_iff_lt_or_eq.mp q2 with q | q
              · exact w2.2.2 t' s o h1 (Or.inr ⟨q1, q⟩) h3 h4 h6
              · intro z
                refine absurd ?_ z
                unfold ix
                rw [q, q1]
                exact c
          · obtain ⟨t1, s, o, i1, i2, i3, i4, i5, i6⟩ := w2.1 (10240 * t + k) (by omega) (by omega) c
            have ho1 := i5.1
            have et2 : t1 = t ∧ k = 5 * o + s := by unfold ix at i1; omega
            obtain ⟨et2, ek2⟩ := et2
            subst et2 ek2
            refine ev_marksAll (d := d) (r := r) hA ho hpa hal hon hr (hR.fr (l := [103, 104, 105, 106, 111]) rfl f2) (hN.fr (l := [103, 104, 105, 106, 111]) rfl f2) (by omega) i4 i5 i6 (fun I3 f3 a3 b3 => sol_100 ?_)
            rw [nI_1]
            have mono : ∀ i, I2 106 i ≠ 0 → I3 106 i ≠ 0 := fun i hi => by
              rcases b3 i with q | ⟨q, _⟩
              · rw [q]; exact hi
              · rw [q]; decide
            have nosx : ∀ t' s' o', t' ≤ t1 → s' < 5 → o' < 2048 → I3 106 (ix t' s' o') ≠ 0 → I2 106 (ix t' s' o') ≠ 0 := fun t' s' o' h1 h2 h3 h4 => by
              rcases b3 (ix t' s' o') with q | ⟨_, a, e, ha, hp, he, hsh, q⟩
              · rw [q] at h4; exact h4
              · obtain ⟨n1, n2⟩ := nxt_cd hA i5 ha (prA_may hr i5 i6 hp) he hpa
                have := (ix_inj h2 (scN_lt i4) h3 n1.1 q).1
                omega
            refine ihk (5 * o + s + 1) I3 (by omega) (f2.trans (f3.sub rfl)) ⟨fun i h1 h2 h3 => ?_, mono _ w2.2.1, fun t' s' o' h1 h2 h3 h4 h6 => ?_⟩
            · rcases b3 i with q | ⟨_, a, e, ha, hp, he, hsh, q⟩
              · rw [q] at h3
                exact w2.1 i h1 h2 h3
              · obtain ⟨n1, n2⟩ := nxt_cd hA i5 ha (prA_may hr i5 i6 hp) he hpa
                exact ⟨t1 + 1, _, _, q, by omega, by omega, scN_lt i4, n1, n2⟩
            · intro z a e ha hp he hsh
              by_cases q : t' = t1 ∧ 5 * o' + s' = 5 * o + s
              · have e1 : s' = s := by omega
                have e2 : o' = o := by omega
                have e3 := q.1
                subst e1 e2 e3
                exact a3 a e ha hp he hsh
              · refine mono _ (w2.2.2 t' s' o' h1 (by omega) h3 h4 h6 (nosx t' s' o' (by omega) h3 h4.1 z) a e ha hp he hsh)
      exact inner 10240 0 I1 rfl f1 w1
  -- phase 1: all marks fall
  have clear : ∀ (m k : Nat) (I1 : Nat → Nat → Int32), m + k = 10240 * (qN A + 1) → 10240 * (qN A - l0) ≤ k → Fr [103, 104, 105, 106, 111] I I1 → (∀ i, 10240 * (qN A - l0) ≤ i → i < k → I1 106 i = 0) → Go none aM (Ev mt aM (d + 9)) mX12_solves Q (7, [some (.ref 83), some (.int (nI (qN A - l0))), some (.int (scI s0)), some (.int (nI o0)), some (.int (rI r)), some (.int (nI oth)), some (.int (nI k)), none], [], (SH, mkM I1 J T), 0, 0) := by
    intro m
    induction m with
    | zero =>
      intro k I1 hm hk f1 z1
      have r1 : RM A I1 := hR.fr (l := [103, 104, 105, 106, 111]) rfl f1
      have hm : k = 10240 * (qN A + 1) := by omega
      subst hm
      refine sol_7 ⟨fun _ => ?_, fun c => absurd ?_ c⟩
      · rw [pl_ix, nI_clamp (by omega), nar_b _ (Or.inr rfl)]
        refine ⟨vp_in_nI hi0 (by omega), marks l0 (qN A - l0) _ (by omega) (Nat.le_refl _) (f1.to rfl) ⟨fun i h1 h2 h3 => ?_, ?_, fun t' s o h1 h2 => by omega⟩⟩
        · by_cases q : i = ix (qN A - l0) s0 o0
          · exact ⟨qN A - l0, s0, o0, q, Nat.le_refl _, by omega, hs0, h0, hm0⟩
          · rw [si_ne q] at h3
            exact absurd (z1 i h1 h2) h3
        · rw [si_at]; decide
      · rw [eN1 I1 r1.1]; exact Int32.le_refl _
    | succ m ih =>
      intro k I1 hm hk f1 z1
      have r1 : RM A I1 := hR.fr (l := [103, 104, 105, 106, 111]) rfl f1
      refine sol_7 ⟨fun c => ?_, fun _ => ?_⟩
      · rw [eN1 I1 r1.1] at c
        exact absurd c (nI_ge (by omega) (by omega))
      · rw [nI_clamp (by omega), nar_b _ (Or.inl rfl), nI_1]
        refine ⟨vp_in_nI (by omega) (by omega), ih (k + 1) _ (by omega) (by omega) (f1.to rfl) (fun i h1 h2 => ?_)⟩
        by_cases q : i = k
        · rw [q, si_at]
        · rw [si_ne q]
          exact z1 i h1 (by omega)
  refine Ev.intro mX12_solves rfl rfl (sol_0 ?_)
  rw [show (10240 : Int32) = nI 10240 from rfl, pk_mul]
  exact clear (10240 * (qN A + 1) - 10240 * (qN A - l0)) (10240 * (qN A - l0)) I (by omega) (Nat.le_refl _) (Fr.rfl' _ _) (fun i h1 h2 => by omega)
end SLT
