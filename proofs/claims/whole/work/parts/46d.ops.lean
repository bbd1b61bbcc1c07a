/-! CALLS: best, by, edge, kept, together, slower, wrong, worst. -/
theorem TU.ib' {A : Tm} {oth all once pace : Nat} {l : List Nat} {I1 I2 : Nat → Nat → Int32} {J1 J2 : Nat → Nat → Int64} (hK : RK I1) (hO : FO A J1) (h0 : TN oth all once pace) (hl : l.elem 70 = false) (f : Fr l I1 I2) (j : Fj [71] J1 J2) (t : TU A oth all once pace I2 J2) : IB A I2 J2 := t.ib (hK.fr hl f) (hO.fr (l := [71]) rfl j) h0
theorem mst_no {x2 x3 x4 x5 : Int32} {I : Nat → Nat → Int32} (h : v_X12_in x2 (0 : Int32) (I 83 0) = 0 ∨ v_X12_isScore x3 = 0 ∨ v_X12_taken x4 I = (-1 : Int32) ∨ v_X12_isOther x5 = 0) : v_X12_isState x2 x3 x4 x5 I = 0 := by
  unfold v_X12_isState w4_X12_isState w3_X12_isState w2_X12_isState w1_X12_isState
  rcases h with h | h | h | h
  · rw [if_pos h]
  · rw [if_pos h]; split <;> rfl
  · rw [if_pos h]; repeat' split
    all_goals rfl
  · rw [if_pos h]; repeat' split
    all_goals rfl
theorem mst_yes {x2 x3 x4 x5 : Int32} {I : Nat → Nat → Int32} {o : Nat} (ho : o < 2048) (h1 : v_X12_in x2 (0 : Int32) (I 83 0) = 1) (h2 : v_X12_isScore x3 = 1) (h3 : v_X12_taken x4 I = nI o) (h4 : v_X12_isOther x5 = 1) : ¬ v_X12_isState x2 x3 x4 x5 I = 0 := by
  unfold v_X12_isState w4_X12_isState w3_X12_isState w2_X12_isState w1_X12_isState
  rw [if_neg (ne0 h1), if_neg (ne0 h2), if_neg (by rw [h3]; exact nIm1 (by omega)), if_neg (ne0 h4)]
  decide
theorem RR.none {A : Tm} {all once pace : Nat} : RR A all once pace none := fun k h => by cases h
theorem TN0 {A : Tm} (hA : BD A) {k : Nat} (hk : k < 3) : TN k (qC A) (qO A) 0 := ⟨hk, hA.2.1, hA.2.2.1, by omega⟩
theorem on3 {A : Tm} (hA : BD A) : qO A ≤ 3 := by have := hA.2.2.1; omega
theorem op_best {S : St} (hS : PUR S) (x1 x2 x3 x4 x5 : Int32) : OPR S 134 250 [.int x1, .int x2, .int x3, .int x4, .int x5] := by
  have hA := hS.1
  have h5 := hA.1.2
  have refuse : ∀ (_ : v_X11_isOther x4 = 0 ∨ (x5 < 0 ∨ nI 1 < x5) ∨ ∀ I : Nat → Nat → Int32, I 1 0 = nI (qN (zA S)) → I 1 1 = nI (qC (zA S)) → v_X11_isState x1 x2 x3 I = 0 ∧ v_X11_isEnd x1 x2 x3 I = 0) (_ : ∀ I : Nat → Nat → Int32, RM (zA S) I → v_X12_isState x1 x2 x3 x4 I = 0 ∨ v_X12_in x5 (0 : Int32) (1 : Int32) = 0), OPR S 134 250 [.int x1, .int x2, .int x3, .int x4, .int x5] := by
    intro hc hm
    refine OPR.look hS (.long (-1)) (fun d I J T Q h g => ?_) (fun d I J T Q h g => ?_)
    · refine Ev.intro mX11_best rfl rfl (cbest_0 (d := d + 19) ?_)
      by_cases k1 : v_X11_isOther x4 = 0
      · exact br0 k1 g
      refine br1 k1 ?_
      by_cases k2 : x5 < 0
      · exact br0 k2 g
      refine br1 k2 ?_
      by_cases k3 : x5 ≤ (1 : Int32)
      · refine br0 k3 ?_
        rcases hc with q | (q | q) | q
        · exact absurd q k1
        · exact absurd q k2
        · exact absurd k3 (nle_of q)
        · obtain ⟨q1, q2⟩ := q I h.1.1 h.1.2.1
          exact br0 q2 (br0 q1 g)
      · exact br1 k3 g
    · refine Ev.intro mX12_best rfl rfl (mbest_0 (d := d + 19) ?_)
      by_cases k1 : v_X12_isState x1 x2 x3 x4 I = 0
      · exact br0 k1 g
      refine br1 k1 (br0 ?_ g)
      rcases hm I h.1 with q | q
      · exact absurd q k1
      · exact q
  rcases oth_c x4 with ⟨k, hk, rfl, o1, o2⟩ | ⟨o1, o2⟩
  · rcases rg_ar x5 (b := 1) (by omega) with ⟨w, hw, rfl, w1, w2, w3⟩ | ⟨w1, w3⟩
    · have wle : nI w ≤ (1 : Int32) := nI_le (b := 1) hw (by omega)
      have w3' : ¬ v_X12_in (nI w) (0 : Int32) (1 : Int32) = 0 := ne0 w3
      have w0 : nI w = 0 ↔ w = 0 := nI_eq (b := 0) (by omega) (by omega)
      have h0 := TN0 hA hk
      rcases st_c x1 x2 x3 hA with ⟨p, s, o, hp, hs, ho, hmd, rfl, rfl, rfl, k1, k2, k3⟩ | ⟨s, o, hs, ho, hmd, rfl, rfl, rfl, k1, k2, k3⟩ | ⟨k1, k2⟩
      · clear refuse
        obtain ⟨l, hl, rfl⟩ : ∃ l, l < qN (zA S) ∧ p = qN (zA S) - (l + 1) := ⟨qN (zA S) - p - 1, by omega, by omega⟩
        have hil : ix (qN (zA S) - (l + 1)) s o < 61440 := ix_lt (by omega) hs ho.1
        have ba := bA_lt (zA S) k (qC (zA S)) (qO (zA S)) 0 l s o
        refine OPR.scratch hS (.long (if w = 0 then lN (bV (zA S) k (qC (zA S)) (qO (zA S)) 0 (l + 1) s o) else lN (bA (zA S) k (qC (zA S)) (qO (zA S)) 0 l s o))) (fun d I J T Q h g => ?_) (fun d I J T Q h g => ?_)
        · refine Ev.intro mX11_best rfl rfl (cbest_0 (d := d + 19) (br1 (ne0 o1) (br1 w1 (br0 wle (br0 (k1 I h.1.1 h.1.2.1).2 (br1 (ne0 (k1 I h.1.1 h.1.2.1).1) ?_))))))
          refine ev_against (d := d + 43) hA hk h.1 h.2.1 (fun I1 J1 f1 j1 t1 r1 o1 => cbest_77 (d := d + 19) ?_)
          by_cases q : w = 0
          · refine br0 (w0.mpr q) ?_
            refine ev_valueOf (d := d + 25) hA h0 hl (h.1.fr rfl f1) r1 t1 hs ho hmd (fun I2 J2 f2 j2 t2 => cbest_92 (d := d + 19) ?_)
            have := g I2 J2 ((f1.sub rfl).trans (f2.sub rfl)) ((j1.sub rfl).trans (j2.sub rfl)) (TU.ib' r1 o1 h0 rfl f2 j2 t2) (h.2.2.1.fr (l := [71]) rfl (j1.trans j2))
            rw [if_pos q] at this
            exact this
          · refine br1 (fun e => q (w0.mp e)) ?_
            refine ev_actionOf (d := d + 25) hA h0 hl (h.1.fr rfl f1) r1 t1 hs ho hmd (fun I2 J2 f2 j2 t2 => cbest_105 (d := d + 19) ?_)
            have := g I2 J2 ((f1.sub rfl).trans (f2.sub rfl)) ((j1.sub rfl).trans (j2.sub rfl)) (TU.ib' r1 o1 h0 rfl f2 j2 t2) (h.2.2.1.fr (l := [71]) rfl (j1.trans j2))
            rw [if_neg q] at this
            rw [nI_l (by omega)]
            exact this
        · obtain ⟨t1, t2, t3⟩ := k3 I h.1.1 h.1.2.1
          refine Ev.intro mX12_best rfl rfl (mbest_0 (d := d + 19) (br1 (mst_yes ho.1 t3 k2 t1 o2) (br1 w3' ?_)))
          rw [t1]
          refine ev_solves (r := none) (d := d + 39) hA hk (by omega) hA.2.1 (on3 hA) RR.none h.1 h.2.1 hl hs ho hmd (fun I1 J1 f1 j1 s1 _ => mbest_40 (d := d + 19) ?_)
          have fin := g I1 J1 (f1.sub rfl) (j1.sub rfl) (h.scr (f1.sub rfl))
          by_cases q : w = 0
          · rw [if_pos q] at fin
            exact br0 (w0.mpr q) fin
          · rw [if_neg q] at fin
            have hR1 : RM (zA S) I1 := h.1.fr (l := [103, 104, 105, 106, 111]) rfl f1
            obtain ⟨u1, _, _⟩ := k3 I1 hR1.1 hR1.2.1
            refine br1 (fun e => q (w0.mp e)) (br1 ?_ ⟨?_, ?_⟩)
            · rw [hR1.1]
              intro e
              have := (nI_eq (by omega) (by omega)).mp e
              omega
            · rw [u1, pl_ix]; exact vp_in_nI hil (by omega)
            · rw [u1, pl_ix, nI_clamp (by omega), s1.2.2 rfl l rfl, nI_l (by omega)]
              exact fin
      · clear refuse
        have hw0 := wv_le hA s
        refine OPR.scratch hS (.long (if w = 0 then lN (wv (zA S) s) else -1)) (fun d I J T Q h g => ?_) (fun d I J T Q h g => ?_)
        · refine Ev.intro mX11_best rfl rfl (cbest_0 (d := d + 19) (br1 (ne0 o1) (br1 w1 (br0 wle (br1 (ne0 (k1 I h.1.1 h.1.2.1).2) ?_)))))
          have fin := g I J (Fr.rfl' _ _) (Fj.rfl' _ _) h.2.1 h.2.2.1
          by_cases q : w = 0
          · rw [if_pos q] at fin
            refine br0 (w0.mpr q) ?_
            rw [w_c h.1 hs, nI_l (by omega)]
            exact fin
          · rw [if_neg q] at fin
            exact br1 (fun e => q (w0.mp e)) fin
        · obtain ⟨t1, t2, t3⟩ := k3 I h.1.1 h.1.2.1
          refine Ev.intro mX12_best rfl rfl (mbest_0 (d := d + 19) (br1 (mst_yes ho.1 t3 k2 t1 o2) (br1 w3' ?_)))
          rw [t1]
          refine ev_solves (r := none) (l0 := 0) (d := d + 39) hA hk (by omega) hA.2.1 (on3 hA) RR.none h.1 h.2.1 (Nat.zero_le _) hs ho hmd (fun I1 J1 f1 j1 s1 _ => mbest_40 (d := d + 19) ?_)
          have fin := g I1 J1 (f1.sub rfl) (j1.sub rfl) (h.scr (f1.sub rfl))
          by_cases q : w = 0
          · rw [if_pos q] at fin
            exact br0 (w0.mpr q) fin
          · rw [if_neg q] at fin
            have hR1 : RM (zA S) I1 := h.1.fr (l := [103, 104, 105, 106, 111]) rfl f1
            exact br1 (fun e => q (w0.mp e)) (br0 (by rw [hR1.1]) fin)
      · refine refuse (Or.inr (Or.inr k1)) (fun I h => Or.inl (mst_no ?_))
        rcases k2 with q | q | q
        · exact Or.inl (q I h.1).2
        · exact Or.inr (Or.inl q)
        · exact Or.inr (Or.inr (Or.inl (q I h.2.1)))
    · exact refuse (Or.inr (Or.inl w1)) (fun I h => Or.inr w3)
  · exact refuse (Or.inl o1) (fun I h => Or.inl (mst_no (Or.inr (Or.inr (Or.inr o2)))))
theorem op_by {S : St} (hS : PUR S) (x1 x2 x3 x4 x5 x6 : Int32) : OPR S 135 252 [.int x1, .int x2, .int x3, .int x4, .int x5, .int x6] := by
  have hA := hS.1
  have h5 := hA.1.2
  have refuse : ∀ (_ : ∀ (I : Nat → Nat → Int32) (T : Nat → Nat → Nat), RC (zA S) I T → v_X11_isRule x1 = 0 ∨ (¬ v_X11_isRule x1 = 0 ∧ vp_in ((4 : Int32) + x1) 8 ∧ TX (T 13 ((4 : Int32) + x1).toNatClampNeg) ∧ (v_X2_isTold ((4 : Int32) + x1) I T = 0 ∨ v_X11_isOther x5 = 0 ∨ (x6 < 0 ∨ nI 3 < x6) ∨ (v_X11_isState x2 x3 x4 I = 0 ∧ v_X11_isEnd x2 x3 x4 I = 0)))) (_ : ∀ I : Nat → Nat → Int32, RM (zA S) I → ((¬ (x1 < 0)) → ((¬ ((4 : Int32) ≤ x1)) → vp_in ((3 : Int32) + x1) 8)) ∧ (v_X12_isRule x1 I = 0 ∨ v_X12_isState x2 x3 x4 x5 I = 0 ∨ v_X12_in x6 (0 : Int32) (3 : Int32) = 0)), OPR S 135 252 [.int x1, .int x2, .int x3, .int x4, .int x5, .int x6] := by
    intro hc hm
    refine OPR.look hS (.long (-1)) (fun d I J T Q h g => ?_) (fun d I J T Q h g => ?_)
    · refine Ev.intro mX11_by rfl rfl (cby_0 (d := d + 19) ?_)
      rcases hc I T h.1 with q | ⟨q, v, t, q2⟩
      · exact br0 q g
      refine br1 q ⟨v, t, ?_⟩
      by_cases k1 : v_X2_isTold ((4 : Int32) + x1) I T = 0
      · exact br0 k1 g
      refine br1 k1 ?_
      by_cases k2 : v_X11_isOther x5 = 0
      · exact br0 k2 g
      refine br1 k2 ?_
      by_cases k3 : x6 < 0
      · exact br0 k3 g
      refine br1 k3 ?_
      by_cases k4 : x6 ≤ (3 : Int32)
      · refine br0 k4 ?_
        rcases q2 with q2 | q2 | (q2 | q2) | ⟨q2, q3⟩
        · exact absurd q2 k1
        · exact absurd q2 k2
        · exact absurd q2 k3
        · exact absurd k4 (nle_of q2)
        · exact br0 q2 (br0 q3 g)
      · exact br1 k4 g
    · obtain ⟨v, q⟩ := hm I h.1
      refine Ev.intro mX12_by rfl rfl (mby_0 (d := d + 19) ⟨v, ?_⟩)
      by_cases k1 : v_X12_isRule x1 I = 0
      · exact br0 k1 g
      refine br1 k1 ?_
      by_cases k2 : v_X12_isState x2 x3 x4 x5 I = 0
      · exact br0 k2 g
      refine br1 k2 (br0 ?_ g)
      rcases q with q | q | q
      · exact absurd q k1
      · exact absurd q k2
      · exact q
  rcases rt_c x1 hA with ⟨k, hk, rfl, r1, r2, r3, r4⟩ | ⟨r1, r2⟩
  · rcases oth_c x5 with ⟨b, hb, rfl, o1, o2⟩ | ⟨o1, o2⟩
    · rcases rg_ar x6 (b := 3) (by omega) with ⟨w, hw, rfl, w1, w2, w3⟩ | ⟨w1, w3⟩
      · have wle : nI w ≤ (3 : Int32) := nI_le (b := 3) hw (by omega)
        have w3' : ¬ v_X12_in (nI w) (0 : Int32) (3 : Int32) = 0 := ne0 w3
        obtain ⟨e0, e1, e2⟩ := c4k hw rfl
        -- a STATE with l PERIODS left
        have key : ∀ l s o, l ≤ qN (zA S) → s < 5 → CD o → mdN o ≤ qC (zA S) → x2 = nI (qN (zA S) - l) → x3 = scI s → x4 = dI o → (∀ I : Nat → Nat → Int32, I 1 0 = nI (qN (zA S)) → I 1 1 = nI (qC (zA S)) → v_X11_isState x2 x3 x4 I = 1 ∨ (v_X11_isState x2 x3 x4 I = 0 ∧ v_X11_isEnd x2 x3 x4 I = 1)) → v_X12_isScore x3 = 1 → (∀ I : Nat → Nat → Int32, I 83 0 = nI (qN (zA S)) → I 83 1 = nI (qC (zA S)) → v_X12_taken x4 I = nI o ∧ v_X12_in x2 (0 : Int32) (I 83 0) = 1) → OPR S 135 252 [.int (nI k), .int x2, .int x3, .int x4, .int (nI b), .int (nI w)] := by
          intro l s o hl hs ho hmd q1 q2 q3 k1 k2 k3
          have hil : ix (qN (zA S) - l) s o < 61440 := ix_lt (by omega) hs ho.1
          have hrr : RR (zA S) (qC (zA S)) (qO (zA S)) 0 (some k) := fun k' hk' => by cases hk'; exact ⟨hk, rfl, rfl, rfl⟩
          refine OPR.scratch hS (.long (if w = 0 then lN (rV (zA S) k b l s o) else lN (wN (zA S) k b (w - 1) l s o))) (fun d I J T Q h g => ?_) (fun d I J T Q h g => ?_)
          · obtain ⟨t1, t2, t3⟩ := r3 I T h.1
            refine Ev.intro mX11_by rfl rfl (cby_0 (d := d + 19) (br1 (ne0 r1) ⟨t2, t3, br1 t1 (br1 (ne0 o1) (br1 w1 (br0 wle ?_)))⟩))
            have go : Ev mt aM (d + 19 + 30) 118 [.ref 73, .int (nI k), .int x2, .int x3, .int x4, .int (nI b)] (SH, mkM I J T) (fun r m1 => Go none aM (Ev mt aM (d + 19 + 30)) mX11_by Q (83, [some (.ref 0), some (.int (nI k)), some (.int x2), some (.int x3), some (.int x4), some (.int (nI b)), some (.int (nI w))], r.toList ++ [], m1, 0, 0)) := by
              rw [q1, q2, q3]
              refine ev_from (d := d + 37) hA hk hb hl h.1 hs ho hmd (fun I1 J1 f1 j1 m1 => cby_83 (d := d + 19) ?_)
              have fin := g I1 J1 (f1.sub rfl) (j1.sub rfl) (h.2.1.fr (lj := [74]) rfl rfl f1 j1) (h.2.2.1.fr (l := [74]) rfl j1)
              by_cases q : w = 0
              · rw [if_pos q] at fin
                refine br0 (e0.mpr q) ?_
                rw [val_c hA (h.1.fr rfl f1) m1]
                exact fin
              · rw [if_neg q] at fin
                have ew : nI w - (1 : Int32) = nI (w - 1) := pk_sub (b := 1) (by omega)
                refine br1 (fun e => q (e0.mp e)) ⟨by rw [ew]; exact vp_in_nI (by omega) (by omega), ?_⟩
                have el : v_X10_likely (nI w - (1 : Int32)) J1 = lN (wN (zA S) k b (w - 1) l s o) := by
                  show J1 74 (nI w - (1 : Int32)).toNatClampNeg = _
                  rw [ew, nI_clamp (by omega)]
                  exact m1 (w - 1) (by omega)
                rw [el]
                exact fin
            rcases k1 I h.1.1 h.1.2.1 with z | ⟨z1, z2⟩
            · exact br1 (ne0 z) go
            · exact br0 z1 (br1 (ne0 z2) go)
          · obtain ⟨t1, t3⟩ := k3 I h.1.1 h.1.2.1
            obtain ⟨u1, u2⟩ := r4 I h.1
            refine Ev.intro mX12_by rfl rfl (mby_0 (d := d + 19) ⟨fun _ _ => u2, br1 u1 (br1 (mst_yes ho.1 t3 k2 t1 o2) (br1 w3' ?_))⟩)
            rw [t1, q1, q2]
            refine ev_solves (r := some k) (d := d + 39) hA hb (by omega) hA.2.1 (on3 hA) hrr h.1 h.2.1 hl hs ho hmd (fun I1 J1 f1 j1 s1 _ => mby_50 (d := d + 19) ?_)
            have fin := g I1 J1 (f1.sub rfl) (j1.sub rfl) (h.scr (f1.sub rfl))
            have hR1 : RM (zA S) I1 := h.1.fr (l := [103, 104, 105, 106, 111]) rfl f1
            obtain ⟨u3, _⟩ := k3 I1 hR1.1 hR1.2.1
            obtain ⟨v0, v1, v2⟩ := s1.2.1 k rfl
            have vix : vp_in (v_X12_placeIn (nI (qN (zA S) - l)) (scI s) (v_X12_taken x4 I1)) 61440 := by
              rw [u3, pl_ix]; exact vp_in_nI hil (by omega)
            have ex : (v_X12_placeIn (nI (qN (zA S) - l)) (scI s) (v_X12_taken x4 I1)).toNatClampNeg = ix (qN (zA S) - l) s o := by
              rw [u3, pl_ix, nI_clamp (by omega)]
            rw [ex, v0, v1, v2]
            rcases (show w = 0 ∨ w = 1 ∨ w = 2 ∨ w = 3 by omega) with q | q | q | q
            · rw [if_pos q] at fin
              exact br0 (e0.mpr q) fin
            · subst q
              exact br1 (fun e => absurd (e0.mp e) (by omega)) (br0 rfl ⟨vix, fin⟩)
            · subst q
              exact br1 (fun e => absurd (e0.mp e) (by omega)) (br1 (fun e => absurd (e1.mp e) (by omega)) (br0 rfl ⟨vix, fin⟩))
            · subst q
              exact br1 (fun e => absurd (e0.mp e) (by omega)) (br1 (fun e => absurd (e1.mp e) (by omega)) (br1 (fun e => absurd (e2.mp e) (by omega)) ⟨vix, fin⟩))
        rcases st_c x2 x3 x4 hA with ⟨p, s, o, hp, hs, ho, hmd, q1, q2, q3, k1, k2, k3⟩ | ⟨s, o, hs, ho, hmd, q1, q2, q3, k1, k2, k3⟩ | ⟨k1, k2⟩
        · exact key (qN (zA S) - p) s o (Nat.sub_le _ _) hs ho hmd (by rw [q1]; congr 1; omega) q2 q3 (fun I i1 i2 => Or.inl (k1 I i1 i2).1) k2 (fun I i1 i2 => ⟨(k3 I i1 i2).1, (k3 I i1 i2).2.2⟩)
        · exact key 0 s o (Nat.zero_le _) hs ho hmd q1 q2 q3 (fun I i1 i2 => Or.inr (k1 I i1 i2)) k2 (fun I i1 i2 => ⟨(k3 I i1 i2).1, (k3 I i1 i2).2.2⟩)
        · refine refuse (fun I T h => Or.inr ⟨ne0 r1, (r3 I T h).2.1, (r3 I T h).2.2, Or.inr (Or.inr (Or.inr (k1 I h.1 h.2.1)))⟩) (fun I h => ⟨fun _ _ => (r4 I h).2, Or.inr (Or.inl (mst_no ?_))⟩)
          rcases k2 with q | q | q
          · exact Or.inl (q I h.1).2
          · exact Or.inr (Or.inl q)
          · exact Or.inr (Or.inr (Or.inl (q I h.2.1)))
      · exact refuse (fun I T h => Or.inr ⟨ne0 r1, (r3 I T h).2.1, (r3 I T h).2.2, Or.inr (Or.inr (Or.inl w1))⟩) (fun I h => ⟨fun _ _ => (r4 I h).2, Or.inr (Or.inr w3)⟩)
    · exact refuse (fun I T h => Or.inr ⟨ne0 r1, (r3 I T h).2.1, (r3 I T h).2.2, Or.inr (Or.inl o1)⟩) (fun I h => ⟨fun _ _ => (r4 I h).2, Or.inr (Or.inl (mst_no (Or.inr (Or.inr (Or.inr o2)))))⟩)
  · refine refuse (fun I T h => ?_) (fun I h => ⟨(r2 I h).2, Or.inl (r2 I h).1⟩)
    rcases r1 I T h with q | ⟨q1, q2, q3, q4⟩
    · exact Or.inl q
    · exact Or.inr ⟨q1, q3, q4, Or.inl q2⟩
/-- EDGE -/
def edF (A : Tm) (k s : Nat) : Nat → Int32
  | 0 => -2
  | l + 1 => if bA A k (qC A) (qO A) 0 l s 1536 = 0 then edF A k s l else nI (qN A - (l + 1))
theorem op_edge {S : St} (hS : PUR S) (x1 x2 : Int32) : OPR S 137 254 [.int x1, .int x2] := by
  have hA := hS.1
  have h5 := hA.1.2
  rcases sco_c x1 with ⟨s, hs, rfl, s1, s2⟩ | ⟨s1, s2⟩
  · rcases oth_c x2 with ⟨k, hk, rfl, o1, o2⟩ | ⟨o1, o2⟩
    · have h0 := TN0 hA hk
      have hm0 : mdN 1536 ≤ qC (zA S) := by rw [cd1536.2.1]; omega
      refine OPR.scratch hS (.int (edF (zA S) k s (qN (zA S)))) (fun d I J T Q h g => ?_) (fun d I J T Q h g => ?_)
      · refine Ev.intro mX11_edge rfl rfl (cedge_0 (d := d + 19) (br1 (ne0 s1) (br1 (ne0 o1) ?_)))
        refine ev_against (d := d + 43) hA hk h.1 h.2.1 (fun I1 J1 f1 j1 t1 r1 o1 => cedge_24 (d := d + 19) ?_)
        have loop : ∀ (l : Nat) (I2 : Nat → Nat → Int32) (J2 : Nat → Nat → Int64), l ≤ qN (zA S) → Fr [10, 11, 12] I1 I2 → Fj [71] J1 J2 → TU (zA S) k (qC (zA S)) (qO (zA S)) 0 I2 J2 → edF (zA S) k s l = edF (zA S) k s (qN (zA S)) → Go none aM (Ev mt aM (d + 19 + 30)) mX11_edge Q (26, [some (.ref 0), some (.int (scI s)), none, some (.int (nI (qN (zA S) - l)))], [], (SH, mkM I2 J2 T), 0, 0) := by
          intro l
          induction l with
          | zero =>
            intro I2 J2 hl f2 j2 t2 e
            have r2 : RC (zA S) I2 T := (h.1.fr rfl f1).fr rfl f2
            have fin := g I2 J2 ((f1.sub rfl).trans (f2.sub rfl)) ((j1.sub rfl).trans (j2.sub rfl)) (TU.ib' r1 o1 h0 rfl f2 j2 t2) (h.2.2.1.fr (l := [71]) rfl (j1.trans j2))
            rw [← e] at fin
            refine cedge_26 (d := d + 19) (br0 ?_ fin)
            rw [r2.1]
            exact Int32.le_refl _
          | succ l ih =>
            intro I2 J2 hl f2 j2 t2 e
            have r2 : RC (zA S) I2 T := (h.1.fr rfl f1).fr rfl f2
            have ba := bA_lt (zA S) k (qC (zA S)) (qO (zA S)) 0 l s 1536
            refine cedge_26 (d := d + 19) (br1 ?_ ?_)
            · rw [r2.1]
              exact nI_ge (by omega) (by omega)
            · have key := ev_actionOf (d := d + 25) (l := l) (s := s) (o := 1536) (T := T) (Q := fun r m1 => Go none aM (Ev mt aM (d + 19 + 30)) mX11_edge Q (49, [some (.ref 0), some (.int (scI s)), none, some (.int (nI (qN (zA S) - (l + 1))))], r.toList ++ [], m1, 0, 0)) hA h0 hl r2 (r1.fr rfl f2) t2 hs cd1536.1 hm0 (fun I3 J3 f3 j3 t3 => cedge_49 (d := d + 19) ?_)
              · rw [cd1536.2.2] at key
                exact key
              · have ed : edF (zA S) k s (l + 1) = if bA (zA S) k (qC (zA S)) (qO (zA S)) 0 l s 1536 = 0 then edF (zA S) k s l else nI (qN (zA S) - (l + 1)) := rfl
                by_cases q : bA (zA S) k (qC (zA S)) (qO (zA S)) 0 l s 1536 = 0
                · rw [if_pos q] at ed
                  refine br0 (by rw [q]; rfl) ?_
                  rw [nI_1, show qN (zA S) - (l + 1) + 1 = qN (zA S) - l by omega]
                  exact ih I3 J3 (by omega) (f2.trans f3) (j2.trans j3) t3 (by rw [← ed]; exact e)
                · rw [if_neg q] at ed
                  refine br1 (nI_ne0 (by omega) (by omega)) ?_
                  have fin := g I3 J3 ((f1.sub rfl).trans ((f2.trans f3).sub rfl)) ((j1.sub rfl).trans ((j2.trans j3).sub rfl)) (TU.ib' r1 o1 h0 rfl (f2.trans f3) (j2.trans j3) t3) (h.2.2.1.fr (l := [71]) rfl (j1.trans (j2.trans j3)))
                  rw [← e, ed] at fin
                  exact fin
        have l0 := loop (qN (zA S)) I1 J1 (Nat.le_refl _) (Fr.rfl' _ _) (Fj.rfl' _ _) t1 rfl
        rw [Nat.sub_self] at l0
        exact l0
      · refine Ev.intro mX12_edge rfl rfl (medge_0 (d := d + 19) (br1 (ne0 s2) (br1 (ne0 o2) ?_)))
        have loop : ∀ (l : Nat) (I2 : Nat → Nat → Int32) (J2 : Nat → Nat → Int64), l ≤ qN (zA S) → Fr [103, 104, 105, 106, 111] I I2 → Fj [83, 107, 108, 109, 110] J J2 → edF (zA S) k s l = edF (zA S) k s (qN (zA S)) → Go none aM (Ev mt aM (d + 19 + 30)) mX12_edge Q (18, [some (.ref 83), some (.int (scI s)), some (.int (nI k)), some (.int (nI (qN (zA S) - l)))], [], (SH, mkM I2 J2 T), 0, 0) := by
          intro l
          induction l with
          | zero =>
            intro I2 J2 hl f2 j2 e
            have m2 := h.scr (f2.sub rfl)
            have fin := g I2 J2 (f2.sub rfl) (j2.sub rfl) m2
            rw [← e] at fin
            refine medge_18 (d := d + 19) (br0 ?_ fin)
            rw [m2.1.1]
            exact Int32.le_refl _
          | succ l ih =>
            intro I2 J2 hl f2 j2 e
            have m2 := h.scr (f2.sub rfl)
            have ba := bA_lt (zA S) k (qC (zA S)) (qO (zA S)) 0 l s 1536
            have hil : ix (qN (zA S) - (l + 1)) s 1536 < 61440 := ix_lt (by omega) hs (by omega)
            refine medge_18 (d := d + 19) (br1 ?_ ?_)
            · rw [m2.1.1]
              exact nI_ge (by omega) (by omega)
            · refine ev_solves (r := none) (d := d + 39) (o0 := 1536) hA hk (by omega) hA.2.1 (on3 hA) RR.none m2.1 m2.2.1 hl hs cd1536.1 hm0 (fun I3 J3 f3 j3 s3 _ => medge_37 (d := d + 19) ?_)
              have ed : edF (zA S) k s (l + 1) = if bA (zA S) k (qC (zA S)) (qO (zA S)) 0 l s 1536 = 0 then edF (zA S) k s l else nI (qN (zA S) - (l + 1)) := rfl
              rw [show v_X12_placeIn (nI (qN (zA S) - (l + 1))) (scI s) (1536 : Int32) = nI (ix (qN (zA S) - (l + 1)) s 1536) from pl_ix _ _ _, nI_clamp (by omega), s3.2.2 rfl l rfl]
              refine ⟨vp_in_nI hil (by omega), ?_⟩
              by_cases q : bA (zA S) k (qC (zA S)) (qO (zA S)) 0 l s 1536 = 0
              · rw [if_pos q] at ed
                refine br0 (by rw [q]; rfl) ?_
                rw [nI_1, show qN (zA S) - (l + 1) + 1 = qN (zA S) - l by omega]
                exact ih I3 J3 (by omega) (f2.trans f3) (j2.trans j3) (by rw [← ed]; exact e)
              · rw [if_neg q] at ed
                refine br1 (nI_ne0 (by omega) (by omega)) ?_
                have fin := g I3 J3 ((f2.trans f3).sub rfl) ((j2.trans j3).sub rfl) (h.scr ((f2.trans f3).sub rfl))
                rw [← e, ed] at fin
                exact fin
        have l0 := loop (qN (zA S)) I J (Nat.le_refl _) (Fr.rfl' _ _) (Fj.rfl' _ _) rfl
        rw [Nat.sub_self] at l0
        exact l0
    · refine OPR.look hS (.int (-1)) (fun d I J T Q h g => ?_) (fun d I J T Q h g => ?_)
      · exact Ev.intro mX11_edge rfl rfl (cedge_0 (d := d + 19) (br1 (ne0 s1) (br0 o1 g)))
      · exact Ev.intro mX12_edge rfl rfl (medge_0 (d := d + 19) (br1 (ne0 s2) (br0 o2 g)))
  · refine OPR.look hS (.int (-1)) (fun d I J T Q h g => ?_) (fun d I J T Q h g => ?_)
    · exact Ev.intro mX11_edge rfl rfl (cedge_0 (d := d + 19) (br0 s1 g))
    · exact Ev.intro mX12_edge rfl rfl (medge_0 (d := d + 19) (br0 s2 g))
