/-! CALLS: pair, worth; may, after, chance, says; happens; count. -/
theorem op_pair {S : St} (hS : PUR S) (x y z : Int32) : OPR S 125 177 [.int x, .int y, .int z] := by
  have refuse : ∀ (_ : v_X11_isPlayer x = 0 ∨ v_X11_isPlayer y = 0 ∨ x = y ∨ v_X11_isDigit z = 0) (_ : v_X12_in x (0 : Int32) (4 : Int32) = 0 ∨ v_X12_in y (0 : Int32) (4 : Int32) = 0 ∨ x = y ∨ v_X12_in z (0 : Int32) (9 : Int32) = 0), OPR S 125 177 [.int x, .int y, .int z] := by
    intro hc hm
    refine OPR.look hS (.int 0) (fun d I J T Q h g => ?_) (fun d I J T Q h g => ?_)
    · refine Ev.intro mX11_pair rfl rfl (cpair_0 (d := d + 42) ?_)
      by_cases k1 : v_X11_isPlayer x = 0
      · exact br0 k1 g
      refine br1 k1 ?_
      by_cases k2 : v_X11_isPlayer y = 0
      · exact br0 k2 g
      refine br1 k2 ?_
      by_cases k3 : x = y
      · exact br0 k3 g
      refine br1 k3 (br0 ?_ g)
      rcases hc with q | q | q | q
      · exact absurd q k1
      · exact absurd q k2
      · exact absurd q k3
      · exact q
    · have e : v_X12_pair x y z = 0 ∧ w8_X12_pair x y z I = I := by
        unfold v_X12_pair w7_X12_pair w5_X12_pair w3_X12_pair w1_X12_pair w8_X12_pair w6_X12_pair w4_X12_pair w2_X12_pair
        by_cases k1 : v_X12_in x (0 : Int32) (4 : Int32) = 0
        · rw [if_pos k1, if_pos k1]; exact ⟨rfl, rfl⟩
        rw [if_neg k1, if_neg k1]
        by_cases k2 : v_X12_in y (0 : Int32) (4 : Int32) = 0
        · rw [if_pos k2, if_pos k2]; exact ⟨rfl, rfl⟩
        rw [if_neg k2, if_neg k2]
        by_cases k3 : x = y
        · rw [if_pos k3, if_pos k3]; exact ⟨rfl, rfl⟩
        rw [if_neg k3, if_neg k3]
        rcases hm with q | q | q | q
        · exact absurd q k1
        · exact absurd q k2
        · exact absurd q k3
        · rw [if_pos q, if_pos q]; exact ⟨rfl, rfl⟩
      refine ev_X12_pair (d := d + 48) (fun k1 k2 k3 k4 => ?_) ?_
      · rcases hm with q | q | q | q
        · exact absurd q k1
        · exact absurd q k2
        · exact absurd q k3
        · exact absurd q k4
      · rw [e.1, e.2]; exact g
  rcases pl_ar x with ⟨i, hi, rfl, p1, p2⟩ | ⟨p1, p2⟩
  · rcases pl_ar y with ⟨k, hk, rfl, q1, q2⟩ | ⟨q1, q2⟩
    · by_cases hik : (nI i : Int32) = nI k
      · exact refuse (Or.inr (Or.inr (Or.inl hik))) (Or.inr (Or.inr (Or.inl hik)))
      · rcases dg_ar z with ⟨m, hm, rfl, z1, z2⟩ | ⟨z1, z2⟩
        · clear refuse
          have ea : ((5 : Int32) * nI i) + nI k = nI (5 * i + k) := by rw [show (5 : Int32) = nI 5 from rfl, pk_mul, nI_add]
          have eb : ((5 : Int32) * nI k) + nI i = nI (5 * k + i) := by rw [show (5 : Int32) = nI 5 from rfl, pk_mul, nI_add]
          have v1 : vp_in (nI (5 * i + k)) 25 := vp_in_nI (by omega) (by omega)
          have v2 : vp_in (nI (5 * k + i)) 25 := vp_in_nI (by omega) (by omega)
          have c1 : (nI (5 * i + k)).toNatClampNeg = 5 * i + k := nI_clamp (by omega)
          have c2 : (nI (5 * k + i)).toNatClampNeg = 5 * k + i := nI_clamp (by omega)
          have hA := hS.1
          have hA' : BD ((zA S).1, qW (zA S), qG (zA S), qL (zA S), qS (zA S), up1 (up1 (qX (zA S)) (5 * i + k) m) (5 * k + i) m, qP (zA S)) := ⟨hA.1, hA.2.1, hA.2.2.1, hA.2.2.2.1, hA.2.2.2.2.1, hA.2.2.2.2.2.1, hA.2.2.2.2.2.2.1, up1_le hm (up1_le hm hA.2.2.2.2.2.2.2.1), hA.2.2.2.2.2.2.2.2⟩
          refine ⟨.int 1, (((zA S).1, qW (zA S), qG (zA S), qL (zA S), qS (zA S), up1 (up1 (qX (zA S)) (5 * i + k) m) (5 * k + i) m, qP (zA S)), (zX S, zL S, zT S, zF S)), ⟨hA', hS.2.1, hS.2.2⟩, fun d I J T Q h g => ?_, fun d I J T Q h g => ?_⟩
          · refine Ev.intro mX11_pair rfl rfl (cpair_0 (d := d + 42) (br1 (ne0 p1) (br1 (ne0 q1) (br1 hik (br1 (ne0 z1) ?_)))))
            rw [ea, eb, c1, c2]
            refine ⟨v1, v2, ?_⟩
            have fr : Fr [5] I (si (si I 5 (5 * i + k) (nI m)) 5 (5 * k + i) (nI m)) := (Fr.rfl' _ _).to rfl |>.to rfl
            obtain ⟨h1, h2, h3, h4, h5, h6, h7, h8, h9⟩ := h
            refine ev_forgetMatch (d := d + 42) ((zA S).1, qW (zA S), qG (zA S), qL (zA S), qS (zA S), up1 (up1 (qX (zA S)) (5 * i + k) m) (5 * k + i) m, qP (zA S)) (h2.1.fr rfl fr) (fun I1 J1 f1 j1 b1 w1 => cpair_42 (d := d + 42) ?_)
            have f3 : Fr [81] I1 (si I1 81 2 (1 : Int32)) := (Fr.rfl' _ _).to rfl
            have f2 := ((fr.sub (l2 := [5, 69, 81]) rfl).trans (f1.sub rfl)).trans (f3.sub rfl)
            have f13 := (f1.sub (l2 := [69, 81]) rfl).trans (f3.sub rfl)
            refine g _ J1 T (f2.sub rfl) (j1.sub rfl) ⟨⟨?_, ?_, ?_, ?_, ?_, ?_, ?_, ?_, ?_⟩, b1.fr (l := [81]) (lj := []) rfl rfl f3 (Fj.rfl' _ _), w1, h4, Or.inl si_at, ?_, h7.fr rfl f2, h8.fr rfl f2, h9.fr rfl f2⟩
            · rw [f2 1 rfl]; exact h1.1
            · rw [f2 1 rfl]; exact h1.2.1
            · rw [f2 1 rfl]; exact h1.2.2.1
            · rw [f2 1 rfl]; exact h1.2.2.2.1
            · rw [f2 2 rfl]; exact h1.2.2.2.2.1
            · rw [f2 3 rfl]; exact h1.2.2.2.2.2.1
            · rw [f2 4 rfl]; exact h1.2.2.2.2.2.2.1
            · rw [f13 5 rfl]; exact up1_si (up1_si h1.2.2.2.2.2.2.2.1)
            · intro s hs
              refine ⟨(h1.2.2.2.2.2.2.2.2 s hs).1, (h1.2.2.2.2.2.2.2.2 s hs).2.fr (fun k hk => ?_) f2⟩
              have := tx_rng (h1.2.2.2.2.2.2.2.2 s hs).1
              exact nel (by simp; omega)
            · rw [f2 0 rfl]; exact h6
          · refine ev_X12_pair (d := d + 48) (fun _ _ _ _ => by rw [ea, eb]; exact ⟨v1, v2⟩) ?_
            unfold v_X12_pair w7_X12_pair w5_X12_pair w3_X12_pair w1_X12_pair w8_X12_pair w6_X12_pair w4_X12_pair w2_X12_pair
            rw [if_neg (ne0 p2), if_neg (ne0 p2), if_neg (ne0 q2), if_neg (ne0 q2), if_neg hik, if_neg hik, if_neg (ne0 z2), if_neg (ne0 z2), ea, eb, c1, c2]
            have fr : Fr [88] I (si (si I 88 (5 * i + k) (nI m)) 88 (5 * k + i) (nI m)) := (Fr.rfl' _ _).to rfl |>.to rfl
            obtain ⟨⟨a1, a2, a3, a4, a5, a6, a7, a8, a9⟩, h2, h3, h4, h5, h6⟩ := h
            refine g _ J (fr.sub rfl) (Fj.rfl' _ _) ⟨⟨a1, a2, a3, a4, a5, a6, a7, up1_si (up1_si a8), fun s hs => (a9 s hs).fr rfl fr⟩, h2.fr rfl fr, h3, h4.fr rfl fr, h5.fr rfl fr, h6.fr rfl fr⟩
        · exact refuse (Or.inr (Or.inr (Or.inr z1))) (Or.inr (Or.inr (Or.inr z2)))
    · exact refuse (Or.inr (Or.inl q1)) (Or.inr (Or.inl q2))
  · exact refuse (Or.inl p1) (Or.inl p2)
def wF (a b c : Nat) : Nat → Nat := fun j => if j = 0 then a else if j = 1 then b else c
theorem op_worth {S : St} (hS : PUR S) (x y z : Int32) : OPR S 126 178 [.int x, .int y, .int z] := by
  have refuse : ∀ (_ : (x < 0 ∨ nI 1000 < x) ∨ (y < 0 ∨ nI 1000 < y) ∨ (z < 0 ∨ nI 1000 < z)) (_ : v_X12_in x (0 : Int32) (1000 : Int32) = 0 ∨ v_X12_in y (0 : Int32) (1000 : Int32) = 0 ∨ v_X12_in z (0 : Int32) (1000 : Int32) = 0), OPR S 126 178 [.int x, .int y, .int z] := by
    intro hc hm
    refine OPR.look hS (.int 0) (fun d I J T Q h g => ?_) (fun d I J T Q h g => ?_)
    · refine Ev.intro mX11_worth rfl rfl (cworth_0 (d := d + 42) ?_)
      by_cases k1 : x < 0
      · exact br0 k1 g
      refine br1 k1 ?_
      by_cases k2 : (1000 : Int32) < x
      · exact br0 k2 g
      refine br1 k2 ?_
      by_cases k3 : y < 0
      · exact br0 k3 g
      refine br1 k3 ?_
      by_cases k4 : (1000 : Int32) < y
      · exact br0 k4 g
      refine br1 k4 ?_
      by_cases k5 : z < 0
      · exact br0 k5 g
      refine br1 k5 (br1 ?_ g)
      rcases hc with (q | q) | (q | q) | (q | q)
      · exact absurd q k1
      · exact absurd q k2
      · exact absurd q k3
      · exact absurd q k4
      · exact absurd q k5
      · exact nle_of q
    · have e : v_X12_worth x y z = 0 ∧ w6_X12_worth x y z I = I := by
        unfold v_X12_worth w5_X12_worth w3_X12_worth w1_X12_worth w6_X12_worth w4_X12_worth w2_X12_worth
        by_cases k1 : v_X12_in x (0 : Int32) (1000 : Int32) = 0
        · rw [if_pos k1, if_pos k1]; exact ⟨rfl, rfl⟩
        rw [if_neg k1, if_neg k1]
        by_cases k2 : v_X12_in y (0 : Int32) (1000 : Int32) = 0
        · rw [if_pos k2, if_pos k2]; exact ⟨rfl, rfl⟩
        rw [if_neg k2, if_neg k2]
        rcases hm with q | q | q
        · exact absurd q k1
        · exact absurd q k2
        · rw [if_pos q, if_pos q]; exact ⟨rfl, rfl⟩
      refine ev_X12_worth (d := d + 48) ?_
      rw [e.1, e.2]; exact g
  rcases rg_ar x (b := 1000) (by omega) with ⟨a, ha, rfl, x1, x2, x3⟩ | ⟨x1, x3⟩
  · rcases rg_ar y (b := 1000) (by omega) with ⟨b, hb, rfl, y1, y2, y3⟩ | ⟨y1, y3⟩
    · rcases rg_ar z (b := 1000) (by omega) with ⟨c, hc, rfl, z1, z2, z3⟩ | ⟨z1, z3⟩
      · clear refuse
        have zle : nI c ≤ (1000 : Int32) := nI_le (b := 1000) hc (by omega)
        have hA := hS.1
        have hA' : BD ((zA S).1, wF a b c, (zA S).2.2) := ⟨hA.1, hA.2.1, hA.2.2.1, fun j hj => by
          show wF a b c j ≤ 1000
          unfold wF
          repeat' split
          all_goals assumption, hA.2.2.2.2⟩
        refine ⟨.int 1, (((zA S).1, wF a b c, (zA S).2.2), (zX S, zL S, zT S, zF S)), ⟨hA', hS.2.1, hS.2.2⟩, fun d I J T Q h g => ?_, fun d I J T Q h g => ?_⟩
        · refine Ev.intro mX11_worth rfl rfl (cworth_0 (d := d + 42) (br1 x1 (br1 x2 (br1 y1 (br1 y2 (br1 z1 (br0 zle ?_)))))))
          have fr : Fr [1] I (si (si (si I 1 3 (nI a)) 1 4 (nI b)) 1 5 (nI c)) := (Fr.rfl' _ _).to rfl |>.to rfl |>.to rfl
          obtain ⟨h1, h2, h3, h4, h5, h6, h7, h8, h9⟩ := h
          refine ev_forgetMatch (d := d + 42) ((zA S).1, wF a b c, (zA S).2.2) (h2.1.fr rfl fr) (fun I1 J1 f1 j1 b1 w1 => cworth_63 (d := d + 42) ?_)
          have f2 := (fr.sub (l2 := [1, 69]) rfl).trans (f1.sub rfl)
          refine g I1 J1 T (f2.sub rfl) (j1.sub rfl) ⟨⟨?_, ?_, ?_, fun j hj => ?_, ?_, ?_, ?_, ?_, ?_⟩, b1, w1, h4, h5.fr rfl rfl f2 j1, ?_, h7.fr rfl f2, h8.fr rfl f2, h9.fr rfl f2⟩
          · rw [f1 1 rfl, si_ne (by omega), si_ne (by omega), si_ne (by omega)]; exact h1.1
          · rw [f1 1 rfl, si_ne (by omega), si_ne (by omega), si_ne (by omega)]; exact h1.2.1
          · rw [f1 1 rfl, si_ne (by omega), si_ne (by omega), si_ne (by omega)]; exact h1.2.2.1
          · rw [f1 1 rfl]
            rcases (show j = 0 ∨ j = 1 ∨ j = 2 by omega) with rfl | rfl | rfl
            · rw [si_ne (by omega), si_ne (by omega), si_at]; rfl
            · rw [si_ne (by omega), si_at]; rfl
            · rw [si_at]; rfl
          · rw [f2 2 rfl]; exact h1.2.2.2.2.1
          · rw [f2 3 rfl]; exact h1.2.2.2.2.2.1
          · rw [f2 4 rfl]; exact h1.2.2.2.2.2.2.1
          · rw [f2 5 rfl]; exact h1.2.2.2.2.2.2.2.1
          · intro s hs
            refine ⟨(h1.2.2.2.2.2.2.2.2 s hs).1, (h1.2.2.2.2.2.2.2.2 s hs).2.fr (fun k hk => ?_) f2⟩
            have := tx_rng (h1.2.2.2.2.2.2.2.2 s hs).1
            exact nel (by simp; omega)
          · rw [f2 0 rfl]; exact h6
        · have x3' : ¬ v_X12_in (nI a) (0 : Int32) (1000 : Int32) = 0 := ne0 x3
          have y3' : ¬ v_X12_in (nI b) (0 : Int32) (1000 : Int32) = 0 := ne0 y3
          have z3' : ¬ v_X12_in (nI c) (0 : Int32) (1000 : Int32) = 0 := ne0 z3
          refine ev_X12_worth (d := d + 48) ?_
          unfold v_X12_worth w5_X12_worth w3_X12_worth w1_X12_worth w6_X12_worth w4_X12_worth w2_X12_worth
          rw [if_neg x3', if_neg x3', if_neg y3', if_neg y3', if_neg z3', if_neg z3']
          have fr : Fr [84] I (si (si (si I 84 0 (nI a)) 84 1 (nI b)) 84 2 (nI c)) := (Fr.rfl' _ _).to rfl |>.to rfl |>.to rfl
          obtain ⟨⟨a1, a2, a3, a4, a5, a6, a7, a8, a9⟩, h2, h3, h4, h5, h6⟩ := h
          refine g _ J (fr.sub rfl) (Fj.rfl' _ _) ⟨⟨a1, a2, a3, fun j hj => ?_, a5, a6, a7, a8, fun s hs => (a9 s hs).fr rfl fr⟩, h2.fr rfl fr, h3, h4.fr rfl fr, h5.fr rfl fr, h6.fr rfl fr⟩
          rcases (show j = 0 ∨ j = 1 ∨ j = 2 by omega) with rfl | rfl | rfl
          · rw [si_ne (by omega), si_ne (by omega), si_at]; rfl
          · rw [si_ne (by omega), si_at]; rfl
          · rw [si_at]; rfl
      · exact refuse (Or.inr (Or.inr z1)) (Or.inr (Or.inr z3))
    · exact refuse (Or.inr (Or.inl y1)) (Or.inr (Or.inl y3))
  · exact refuse (Or.inl x1) (Or.inl x3)
/-! may, after -/
theorem s0 : (0 : Int32) = scI 2 := by decide
theorem isS_c {S : St} {per c : Int32} {I : Nat → Nat → Int32} {T : Nat → Nat → Nat} (h : RC (zA S) I T) (k : ∀ I : Nat → Nat → Int32, I 1 0 = nI (qN (zA S)) → I 1 1 = nI (qC (zA S)) → v_X11_isState per (0 : Int32) c I = 0 ∧ v_X11_isEnd per (0 : Int32) c I = 0) : v_X11_isState per (0 : Int32) c I = 0 := (k I h.1 h.2.1).1
theorem op_may {S : St} (hS : PUR S) (x y z : Int32) : OPR S 131 230 [.int x, .int y, .int z] := by
  have hA := hS.1
  have refuse : ∀ (_ : ∀ I : Nat → Nat → Int32, I 1 0 = nI (qN (zA S)) → I 1 1 = nI (qC (zA S)) → v_X11_isState x (0 : Int32) y I = 0 ∨ v_X11_isAction z = 0) (_ : ∀ I : Nat → Nat → Int32, I 83 0 = nI (qN (zA S)) → I 83 1 = nI (qC (zA S)) → v_X12_isAhead x I = 0 ∨ v_X12_taken y I = (-1 : Int32) ∨ v_X12_in z (0 : Int32) (48 : Int32) = 0), OPR S 131 230 [.int x, .int y, .int z] := by
    intro hc hm
    refine OPR.look hS (.int (-1)) (fun d I J T Q h g => ?_) (fun d I J T Q h g => ?_)
    · refine Ev.intro mX11_may rfl rfl (cmay_0 (d := d + 42) ?_)
      by_cases k1 : v_X11_isState x (0 : Int32) y I = 0
      · exact br0 k1 g
      refine br1 k1 (br0 ?_ g)
      rcases hc I h.1.1 h.1.2.1 with q | q
      · exact absurd q k1
      · exact q
    · refine Ev.intro mX12_may rfl rfl (mmay_0 (d := d + 41) ?_)
      by_cases k1 : v_X12_isAhead x I = 0
      · exact br0 k1 g
      refine br1 k1 ?_
      by_cases k2 : v_X12_taken y I = (-1 : Int32)
      · exact br0 k2 g
      refine br1 k2 (br0 ?_ g)
      rcases hm I h.1.1 h.1.2.1 with q | q | q
      · exact absurd q k1
      · exact absurd q k2
      · exact q
  rcases st_c x (0 : Int32) y hA with ⟨p, s, o, hp, hs, ho, hmd, rfl, e0, rfl, k1, k2, k3⟩ | ⟨s, o, hs, ho, hmd, rfl, e0, rfl, k1, k2, k3⟩ | ⟨k1, k2⟩
  · rcases ac_c z with ⟨a, ha, rfl, a1, a2⟩ | ⟨a1, a2⟩
    · clear refuse
      refine OPR.look hS (.int (bI (mayF o a (qC (zA S)) (qO (zA S))))) (fun d I J T Q h g => ?_) (fun d I J T Q h g => ?_)
      · refine Ev.intro mX11_may rfl rfl (cmay_0 (d := d + 42) (br1 (ne0 (k1 I h.1.1 h.1.2.1).1) (br1 (ne0 a1) ?_)))
        rw [h.1.2.1, h.1.2.2.1, may_c ho ha hA.2.1 (by have := hA.2.2.1; omega)]
        revert g
        cases mayF o a (qC (zA S)) (qO (zA S)) with
        | true => exact fun g => br1 (by decide) g
        | false => exact fun g => br0 rfl g
      · obtain ⟨t1, t2, _⟩ := k3 I h.1.1 h.1.2.1
        refine Ev.intro mX12_may rfl rfl (mmay_0 (d := d + 41) (br1 (ne0 t2) ?_))
        have ho1 := ho.1
        rw [t1, may_m ho ha hA.2.1 (by have := hA.2.2.1; omega) h.2.1.1 h.2.1.2.1]
        refine br1 (nIm1 (by omega)) (br1 (ne0 a2) ?_)
        revert g
        cases mayF o a (qC (zA S)) (qO (zA S)) with
        | true => exact fun g => br1 (by decide) g
        | false => exact fun g => br0 rfl g
    · exact refuse (fun _ _ _ => Or.inr a1) (fun _ _ _ => Or.inr (Or.inr a2))
  · exact refuse (fun I i1 i2 => Or.inl (k1 I i1 i2).1) (fun I i1 i2 => Or.inl (k3 I i1 i2).2.1)
  · refine refuse (fun I i1 i2 => Or.inl (k1 I i1 i2).1) (fun I i1 i2 => ?_)
    rcases k2 with q | q | q
    · exact Or.inl (q I i1).1
    · exact absurd q (by decide)
    · exact Or.inr (Or.inl (q I i2))
/-- a STATE and an ACTION that may be in it: isLegal, or not -/
theorem leg_c (per sc c ac : Int32) {A : Tm} (hA : BD A) : (∃ p s o a, p < qN A ∧ s < 5 ∧ CD o ∧ mdN o ≤ qC A ∧ a < 49 ∧ mayF o a (qC A) (qO A) = true ∧ per = nI p ∧ sc = scI s ∧ c = dI o ∧ ac = nI a ∧ (∀ (I : Nat → Nat → Int32) (T : Nat → Nat → Nat), RC A I T → v_X11_isLegal per sc c ac I = 1) ∧ v_X12_isScore sc = 1 ∧ v_X12_in ac (0 : Int32) (48 : Int32) = 1 ∧ ∀ I : Nat → Nat → Int32, RM A I → RN (qC A) (qO A) 0 I → v_X12_taken c I = nI o ∧ v_X12_isAhead per I = 1 ∧ v_X12_mayBe (v_X12_taken c I) ac I = 1) ∨ ((∀ (I : Nat → Nat → Int32) (T : Nat → Nat → Nat), RC A I T → v_X11_isLegal per sc c ac I = 0) ∧ ∀ I : Nat → Nat → Int32, RM A I → RN (qC A) (qO A) 0 I → v_X12_isAhead per I = 0 ∨ v_X12_isScore sc = 0 ∨ v_X12_taken c I = (-1 : Int32) ∨ v_X12_in ac (0 : Int32) (48 : Int32) = 0 ∨ v_X12_mayBe (v_X12_taken c I) ac I = 0) := by
  have no : ∀ I : Nat → Nat → Int32, v_X11_isState per sc c I = 0 → v_X11_isLegal per sc c ac I = 0 := fun I h => if_pos h
  rcases st_c per sc c hA with ⟨p, s, o, hp, hs, ho, hmd, e1, e0, e2, k1, k2, k3⟩ | ⟨s, o, hs, ho, hmd, e1, e0, e2, k1, k2, k3⟩ | ⟨k1, k2⟩
  · rcases ac_c ac with ⟨a, ha, rfl, a1, a2⟩ | ⟨a1, a2⟩
    · have ec : ∀ (I : Nat → Nat → Int32) (T : Nat → Nat → Nat), RC A I T → v_X11_isLegal per sc c (nI a) I = bI (mayF o a (qC A) (qO A)) := fun I T h => by
        unfold v_X11_isLegal w3_X11_isLegal w2_X11_isLegal w1_X11_isLegal
        rw [if_neg (ne0 (k1 I h.1 h.2.1).1), if_neg (ne0 a1), h.2.1, h.2.2.1, e2, may_c ho ha hA.2.1 (by have := hA.2.2.1; omega)]
        cases mayF o a (qC A) (qO A) with
        | true => exact if_neg (by decide)
        | false => exact if_pos rfl
      have em : ∀ I : Nat → Nat → Int32, RM A I → RN (qC A) (qO A) 0 I → v_X12_mayBe (v_X12_taken c I) (nI a) I = bI (mayF o a (qC A) (qO A)) := fun I h n => by
        rw [(k3 I h.1 h.2.1).1]
        exact may_m ho ha hA.2.1 (by have := hA.2.2.1; omega) n.1 n.2.1
      cases hm : mayF o a (qC A) (qO A) with
      | true =>
        refine Or.inl ⟨p, s, o, a, hp, hs, ho, hmd, ha, hm, e1, e0, e2, rfl, fun I T h => (ec I T h).trans (by rw [hm]; rfl), k2, a2, fun I h n => ⟨(k3 I h.1 h.2.1).1, (k3 I h.1 h.2.1).2.1, (em I h n).trans (by rw [hm]; rfl)⟩⟩
      | false =>
        exact Or.inr ⟨fun I T h => (ec I T h).trans (by rw [hm]; rfl), fun I h n => Or.inr (Or.inr (Or.inr (Or.inr ((em I h n).trans (by rw [hm]; rfl)))))⟩
    · refine Or.inr ⟨fun I T h => ?_, fun I h n => Or.inr (Or.inr (Or.inr (Or.inl a2)))⟩
      unfold v_X11_isLegal w3_X11_isLegal w2_X11_isLegal
      rw [if_neg (ne0 (k1 I h.1 h.2.1).1), if_pos a1]
  · exact Or.inr ⟨fun I T h => no I (k1 I h.1 h.2.1).1, fun I h n => Or.inl (k3 I h.1 h.2.1).2.1⟩
  · refine Or.inr ⟨fun I T h => no I (k1 I h.1 h.2.1).1, fun I h n => ?_⟩
    rcases k2 with q | q | q
    · exact Or.inl (q I h.1).1
    · exact Or.inr (Or.inl q)
    · exact Or.inr (Or.inr (Or.inl (q I h.2.1)))
theorem op_after {S : St} (hS : PUR S) (x y z : Int32) : OPR S 132 231 [.int x, .int y, .int z] := by
  have hA := hS.1
  rcases leg_c x (0 : Int32) y z hA with ⟨p, s, o, a, hp, hs, ho, hmd, ha, hm, rfl, e0, rfl, rfl, k1, k2, k3, k4⟩ | ⟨k1, k2⟩
  · obtain ⟨p1, p2⟩ := aft_pre ho ha hm
    refine OPR.look hS (.int (dI (aftF (zA S) o a))) (fun d I J T Q h g => ?_) (fun d I J T Q h g => ?_)
    · obtain ⟨_, _, _, c4, _⟩ := aft_all (M := I) ho hA ha hm
      refine Ev.intro mX11_after rfl rfl (cafter_0 (d := d + 42) (br1 (ne0 (k1 I T h.1)) ⟨p1, p2, ?_⟩))
      rw [c4 h.1.2.2.2.2.2.1]
      exact g
    · obtain ⟨t1, t2, t3⟩ := k4 I h.1 h.2.1
      obtain ⟨c1, _, _, _, c5⟩ := aft_all (M := I) ho hA ha hm
      have ho1 := ho.1
      refine Ev.intro mX12_after rfl rfl (mafter_0 (d := d + 41) (br1 (ne0 t2) (br1 (by rw [t1]; exact nIm1 (by omega)) (br1 (ne0 k3) (br1 (ne0 t3) ⟨beh_pre ho ha hm, ?_⟩)))))
      rw [t1, c5 h.1.2.2.2.2.2.1, (dig_all c1.1).2.2.2.2.2.2.2]
      exact g
  · refine OPR.look hS (.int (-1)) (fun d I J T Q h g => ?_) (fun d I J T Q h g => ?_)
    · exact Ev.intro mX11_after rfl rfl (cafter_0 (d := d + 42) (br0 (k1 I T h.1) g))
    · refine Ev.intro mX12_after rfl rfl (mafter_0 (d := d + 41) ?_)
      by_cases c1 : v_X12_isAhead x I = 0
      · exact br0 c1 g
      refine br1 c1 ?_
      by_cases c2 : v_X12_taken y I = (-1 : Int32)
      · exact br0 c2 g
      refine br1 c2 ?_
      by_cases c3 : v_X12_in z (0 : Int32) (48 : Int32) = 0
      · exact br0 c3 g
      refine br1 c3 (br0 ?_ g)
      rcases k2 I h.1 h.2.1 with q | q | q | q | q
      · exact absurd q c1
      · exact absurd q (by decide)
      · exact absurd q c2
      · exact absurd q c3
      · exact q
