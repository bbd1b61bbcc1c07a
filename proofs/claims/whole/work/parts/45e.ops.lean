/-! CALLS: match, player, pair, worth; may, after, chance, says; happens; count. -/
theorem ev_forgetMatch {d : Nat} (A : Tm) {I : Nat → Nat → Int32} {J : Nat → Nat → Int64} {T : Nat → Nat → Nat} {Q : Option Value → Mem → Prop} (hK : RK I) (g : ∀ I' J', Fr [69] I I' → Fj [72, 75] J J' → IB A I' J' → IW A J' → Q none (SH, mkM I' J' T)) : Ev mt aM (d + 7) 164 [.ref 0] (SH, mkM I J T) Q := by
  refine Ev.intro mX11_forgetMatch rfl rfl (fgm_0 (d := d) (ev_bforget (d := d + 1) (A := A) hK (fun I1 J1 f1 j1 b1 => fgm_7 (d := d) (ev_wforget (d := d + 1) (A := A) (fun J2 j2 w2 => fgm_14 (d := d) ?_)))))
  exact g I1 J2 f1 ((j1.sub rfl).trans (j2.sub rfl)) (b1.fr (l := []) (lj := [75]) rfl rfl (Fr.rfl' _ _) j2) w2
theorem rgc {x : Int32} {b : Nat} (hb : b + 1 < 2 ^ 31) (h : x < 0 ∨ nI b < x) : x < 0 ∨ (¬ x < 0 ∧ nI b < x) := by
  by_cases c : x < 0
  · exact Or.inl c
  · rcases h with h | h
    · exact absurd h c
    · exact Or.inr ⟨c, h⟩
theorem nle_of {x : Int32} {b : Nat} (h : nI b < x) : ¬ x ≤ nI b := by
  rw [Int32.lt_iff_toInt_lt] at h
  rw [Int32.le_iff_toInt_le]
  omega
/-- 1 to b, in class and reference -/
theorem r1_ar (x : Int32) {b : Nat} (hb : b + 1 < 2 ^ 31) (hb1 : 1 ≤ b) : (∃ k, 1 ≤ k ∧ k ≤ b ∧ x = nI k ∧ ¬ x < (1 : Int32) ∧ ¬ nI b < x ∧ v_X12_in x (1 : Int32) (nI b) = 1) ∨ ((x < (1 : Int32) ∨ (¬ x < (1 : Int32) ∧ nI b < x)) ∧ v_X12_in x (1 : Int32) (nI b) = 0) := by
  by_cases c : x < (1 : Int32)
  · exact Or.inr ⟨Or.inl c, if_pos c⟩
  · by_cases c2 : nI b < x
    · refine Or.inr ⟨Or.inr ⟨c, c2⟩, ?_⟩
      unfold v_X12_in w1_X12_in
      rw [if_neg c, if_pos c2]
    · have c1 := c
      have c3 := c2
      rw [Int32.lt_iff_toInt_lt, show (1 : Int32).toInt = 1 from rfl] at c1
      rw [Int32.lt_iff_toInt_lt, nI_toInt (by omega)] at c3
      have hx : ¬ x < 0 := by
        rw [Int32.lt_iff_toInt_lt, show (0 : Int32).toInt = 0 from rfl]
        omega
      obtain ⟨k, hk, rfl⟩ := nI_of hx
      rw [nI_toInt hk] at c1 c3
      refine Or.inl ⟨k, by omega, by omega, rfl, c, c2, ?_⟩
      unfold v_X12_in w1_X12_in
      rw [if_neg c, if_neg c2]
theorem op_match {S : St} (hS : PUR S) (x y z : Int32) : OPR S 123 175 [.int x, .int y, .int z] := by
  rcases r1_ar x (b := 5) (by omega) (by omega) with ⟨n, n1, n2, rfl, x1, x2, x3⟩ | ⟨x1, x3⟩
  · rcases rg_ar y (b := 3) (by omega) with ⟨c, hc, rfl, y1, y2, y3⟩ | ⟨y1, y3⟩
    · rcases r1_ar z (b := 2) (by omega) (by omega) with ⟨o, o1, o2, rfl, z1, z2, z3⟩ | ⟨z1, z3⟩
      · have hA : BD ((n, c, o), (zA S).2) := ⟨⟨n1, n2⟩, hc, ⟨o1, o2⟩, hS.1.2.2.2⟩
        have zle : nI o ≤ (2 : Int32) := nI_le (b := 2) o2 (by omega)
        refine ⟨.int 1, (((n, c, o), (zA S).2), zX S, ctL (zL S) 0, zT S, zF S), ⟨hA, ⟨Nat.zero_le _, hS.2.1.2.1, hS.2.1.2.2.1, fun j hj => ?_, fun j hj => absurd hj (Nat.not_lt_zero _)⟩, hS.2.2⟩, fun d I J T Q h g => ?_, fun d I J T Q h g => ?_⟩
        · have hj : j = 0 := Nat.le_zero.mp hj
          subst hj
          show CD (lgO (zL S) 0) ∧ mdN (lgO (zL S) 0) ≤ c ∧ lgS (zL S) 0 < 5
          rw [hS.2.1.2.1, hS.2.1.2.2.1]
          exact ⟨cd1536.1, by rw [cd1536.2.1]; omega, by omega⟩
        · refine Ev.intro mX11_match rfl rfl (cmatch_0 (d := d + 42) (br1 x1 (br1 x2 (br1 y1 (br1 y2 (br1 z1 (br0 zle ?_)))))))
          have f : Fr [1, 76] I (si (si (si (si I 1 0 (nI n)) 1 1 (nI c)) 1 2 (nI o)) 76 0 (0 : Int32)) := (Fr.rfl' _ _).to rfl |>.to rfl |>.to rfl |>.to rfl
          obtain ⟨h1, h2, h3, h4, h5, h6, h7, h8, h9⟩ := h
          refine ev_forgetMatch (d := d + 42) ((n, c, o), (zA S).2) (h2.1.fr rfl f) (fun I1 J1 f1 j1 b1 w1 => cmatch_67 (d := d + 42) ?_)
          have f2 := (f.sub (l2 := [1, 76, 69]) rfl).trans (f1.sub rfl)
          have e1 : ∀ j, j ≠ 0 → j ≠ 1 → j ≠ 2 → I1 1 j = I 1 j := fun j a b e => by rw [f1 1 rfl, si_row (by omega), si_ne e, si_ne b, si_ne a]
          refine g I1 J1 T (f2.sub rfl) (j1.sub rfl) ⟨⟨?_, ?_, ?_, fun j hj => ?_, ?_, ?_, ?_, ?_, ?_⟩, b1, w1, h4, h5.fr rfl rfl f2 j1, ?_, ⟨?_, fun j hj => ?_, fun j hj => absurd hj (Nat.not_lt_zero _)⟩, h8.fr rfl f2, h9.fr rfl f2⟩
          · rw [f1 1 rfl, si_row (by omega), si_ne (by omega), si_ne (by omega), si_at]
          · rw [f1 1 rfl, si_row (by omega), si_ne (by omega), si_at]
          · rw [f1 1 rfl, si_row (by omega), si_at]
          · rw [e1 (3 + j) (by omega) (by omega) (by omega)]; exact h1.2.2.2.1 j hj
          · rw [f2 2 rfl]; exact h1.2.2.2.2.1
          · rw [f2 3 rfl]; exact h1.2.2.2.2.2.1
          · rw [f2 4 rfl]; exact h1.2.2.2.2.2.2.1
          · rw [f2 5 rfl]; exact h1.2.2.2.2.2.2.2.1
          · intro s hs
            refine ⟨(h1.2.2.2.2.2.2.2.2 s hs).1, (h1.2.2.2.2.2.2.2.2 s hs).2.fr (fun k hk => ?_) f2⟩
            have := tx_rng (h1.2.2.2.2.2.2.2.2 s hs).1
            exact nel (by simp; omega)
          · rw [f2 0 rfl]; exact h6
          · rw [f1 76 rfl, si_at]; rfl
          · have hj : j = 0 := Nat.le_zero.mp hj
            subst hj
            rw [f2 77 rfl, f2 78 rfl]
            exact h7.2.1 0 (Nat.zero_le _)
        · have x3' : ¬ v_X12_in (nI n) (1 : Int32) (5 : Int32) = 0 := ne0 x3
          have y3' : ¬ v_X12_in (nI c) (0 : Int32) (3 : Int32) = 0 := ne0 y3
          have z3' : ¬ v_X12_in (nI o) (1 : Int32) (2 : Int32) = 0 := ne0 z3
          refine ev_X12_match (d := d + 48) ?_
          unfold v_X12_match w5_X12_match w3_X12_match w1_X12_match w6_X12_match w4_X12_match w2_X12_match
          rw [if_neg x3', if_neg x3', if_neg y3', if_neg y3', if_neg z3', if_neg z3']
          have f : Fr [83] I (si (si (si (si (si (si I 83 0 (nI n)) 83 1 (nI c)) 83 2 (nI o)) 83 34 (nI c)) 83 35 (nI o)) 83 48 (0 : Int32)) := (Fr.rfl' _ _).to rfl |>.to rfl |>.to rfl |>.to rfl |>.to rfl |>.to rfl
          obtain ⟨⟨a1, a2, a3, a4, a5, a6, a7, a8, a9⟩, h2, h3, h4, h5, h6⟩ := h
          refine g _ J (f.sub rfl) (Fj.rfl' _ _) ⟨⟨?_, ?_, ?_, ?_, ?_, ?_, ?_, ?_, ?_⟩, ⟨?_, ?_, ?_⟩, ?_, ⟨si_at, fun j ha hj => ?_, fun j hj => absurd hj (Nat.not_lt_zero _)⟩, ?_, h6.fr rfl f⟩
          · rw [si_ne (by omega), si_ne (by omega), si_ne (by omega), si_ne (by omega), si_ne (by omega), si_at]
          · rw [si_ne (by omega), si_ne (by omega), si_ne (by omega), si_ne (by omega), si_at]
          · rw [si_ne (by omega), si_ne (by omega), si_ne (by omega), si_at]
          · rw [f 84 rfl]; exact a4
          · rw [f 85 rfl]; exact a5
          · rw [f 86 rfl]; exact a6
          · rw [f 87 rfl]; exact a7
          · rw [f 88 rfl]; exact a8
          · exact fun s hs => (a9 s hs).fr rfl f
          · rw [si_ne (by omega), si_ne (by omega), si_at]
          · rw [si_ne (by omega), si_at]
          · rw [si_ne (by omega), si_ne (by omega), si_ne (by omega), si_ne (by omega), si_ne (by omega), si_ne (by omega)]; exact h2.2.2
          · rw [si_ne (by omega), si_ne (by omega), si_ne (by omega), si_ne (by omega), si_ne (by omega), si_ne (by omega)]; exact h3
          · have hj : j ≤ 0 := hj
            omega
          · unfold MTp
            rw [si_ne (by omega), si_ne (by omega), si_ne (by omega), si_ne (by omega), si_ne (by omega), si_ne (by omega), f 90 rfl]; exact h5
      · refine OPR.look hS (.int 0) (fun d I J T Q h g => ?_) (fun d I J T Q h g => ?_)
        · refine Ev.intro mX11_match rfl rfl (cmatch_0 (d := d + 42) (br1 x1 (br1 x2 (br1 y1 (br1 y2 ?_)))))
          rcases z1 with z1 | ⟨z1, z2⟩
          · exact br0 z1 g
          · exact br1 z1 (br1 (nle_of z2) g)
        · have x3' : ¬ v_X12_in (nI n) (1 : Int32) (5 : Int32) = 0 := ne0 x3
          have y3' : ¬ v_X12_in (nI c) (0 : Int32) (3 : Int32) = 0 := ne0 y3
          have z3' : v_X12_in z (1 : Int32) (2 : Int32) = 0 := z3
          refine ev_X12_match (d := d + 48) ?_
          unfold v_X12_match w5_X12_match w3_X12_match w1_X12_match w6_X12_match w4_X12_match w2_X12_match
          rw [if_neg x3', if_neg x3', if_neg y3', if_neg y3', if_pos z3', if_pos z3']
          exact g
    · refine OPR.look hS (.int 0) (fun d I J T Q h g => ?_) (fun d I J T Q h g => ?_)
      · refine Ev.intro mX11_match rfl rfl (cmatch_0 (d := d + 42) (br1 x1 (br1 x2 ?_)))
        rcases rgc (by omega) y1 with y1 | ⟨y1, y2⟩
        · exact br0 y1 g
        · exact br1 y1 (br0 y2 g)
      · have x3' : ¬ v_X12_in (nI n) (1 : Int32) (5 : Int32) = 0 := ne0 x3
        have y3' : v_X12_in y (0 : Int32) (3 : Int32) = 0 := y3
        refine ev_X12_match (d := d + 48) ?_
        unfold v_X12_match w5_X12_match w3_X12_match w6_X12_match w4_X12_match
        rw [if_neg x3', if_neg x3', if_pos y3', if_pos y3']
        exact g
  · refine OPR.look hS (.int 0) (fun d I J T Q h g => ?_) (fun d I J T Q h g => ?_)
    · refine Ev.intro mX11_match rfl rfl (cmatch_0 (d := d + 42) ?_)
      rcases x1 with x1 | ⟨x1, x2⟩
      · exact br0 x1 g
      · exact br1 x1 (br0 x2 g)
    · have x3' : v_X12_in x (1 : Int32) (5 : Int32) = 0 := x3
      refine ev_X12_match (d := d + 48) ?_
      unfold v_X12_match w5_X12_match w6_X12_match
      rw [if_pos x3', if_pos x3']
      exact g
/-- a number put into a row of them -/
def up1 (f : Nat → Nat) (i x : Nat) : Nat → Nat := fun j => if j = i then x else f j
theorem up1_le {f : Nat → Nat} {i x n M : Nat} (hx : x ≤ M) (h : ∀ j, j < n → f j ≤ M) : ∀ j, j < n → up1 f i x j ≤ M := by
  intro j hj
  unfold up1
  split
  · exact hx
  · exact h j hj
theorem up1_si {f : Nat → Nat} {i x n o : Nat} {I : Nat → Nat → Int32} (h : ∀ j, j < n → I o j = nI (f j)) : ∀ j, j < n → si I o i (nI x) o j = nI (up1 f i x j) := by
  intro j hj
  unfold up1
  by_cases q : j = i
  · rw [q, si_at, if_pos rfl]
  · rw [si_ne q, if_neg q]; exact h j hj
theorem op_player {S : St} (hS : PUR S) (x1 x2 x3 x4 x5 : Int32) : OPR S 124 176 [.int x1, .int x2, .int x3, .int x4, .int x5] := by
  have refuse : ∀ (_ : v_X11_isPlayer x1 = 0 ∨ v_X11_isDigit x2 = 0 ∨ v_X11_isDigit x3 = 0 ∨ (x4 < 0 ∨ nI 2 < x4) ∨ (x5 < 0 ∨ nI 2 < x5)) (_ : v_X12_in x1 (0 : Int32) (4 : Int32) = 0 ∨ v_X12_in x2 (0 : Int32) (9 : Int32) = 0 ∨ v_X12_in x3 (0 : Int32) (9 : Int32) = 0 ∨ v_X12_in x4 (0 : Int32) (2 : Int32) = 0 ∨ v_X12_in x5 (0 : Int32) (2 : Int32) = 0), OPR S 124 176 [.int x1, .int x2, .int x3, .int x4, .int x5] := by
    intro hc hm
    refine OPR.look hS (.int 0) (fun d I J T Q h g => ?_) (fun d I J T Q h g => ?_)
    · refine Ev.intro mX11_player rfl rfl (cplayer_0 (d := d + 42) ?_)
      by_cases k1 : v_X11_isPlayer x1 = 0
      · exact br0 k1 g
      refine br1 k1 ?_
      by_cases k2 : v_X11_isDigit x2 = 0
      · exact br0 k2 g
      refine br1 k2 ?_
      by_cases k3 : v_X11_isDigit x3 = 0
      · exact br0 k3 g
      refine br1 k3 ?_
      by_cases k4 : x4 < 0
      · exact br0 k4 g
      refine br1 k4 ?_
      by_cases k5 : (2 : Int32) < x4
      · exact br0 k5 g
      refine br1 k5 ?_
      by_cases k6 : x5 < 0
      · exact br0 k6 g
      refine br1 k6 (br1 ?_ g)
      rcases hc with q | q | q | (q | q) | (q | q)
      · exact absurd q k1
      · exact absurd q k2
      · exact absurd q k3
      · exact absurd q k4
      · exact absurd q k5
      · exact absurd q k6
      · exact nle_of q
    · have e : v_X12_player x1 x2 x3 x4 x5 = 0 ∧ w10_X12_player x1 x2 x3 x4 x5 I = I := by
        unfold v_X12_player w9_X12_player w7_X12_player w5_X12_player w3_X12_player w1_X12_player w10_X12_player w8_X12_player w6_X12_player w4_X12_player w2_X12_player
        by_cases k1 : v_X12_in x1 (0 : Int32) (4 : Int32) = 0
        · rw [if_pos k1, if_pos k1]; exact ⟨rfl, rfl⟩
        rw [if_neg k1, if_neg k1]
        by_cases k2 : v_X12_in x2 (0 : Int32) (9 : Int32) = 0
        · rw [if_pos k2, if_pos k2]; exact ⟨rfl, rfl⟩
        rw [if_neg k2, if_neg k2]
        by_cases k3 : v_X12_in x3 (0 : Int32) (9 : Int32) = 0
        · rw [if_pos k3, if_pos k3]; exact ⟨rfl, rfl⟩
        rw [if_neg k3, if_neg k3]
        by_cases k4 : v_X12_in x4 (0 : Int32) (2 : Int32) = 0
        · rw [if_pos k4, if_pos k4]; exact ⟨rfl, rfl⟩
        rw [if_neg k4, if_neg k4]
        by_cases k5 : v_X12_in x5 (0 : Int32) (2 : Int32) = 0
        · rw [if_pos k5, if_pos k5]; exact ⟨rfl, rfl⟩
        rcases hm with q | q | q | q | q
        · exact absurd q k1
        · exact absurd q k2
        · exact absurd q k3
        · exact absurd q k4
        · exact absurd q k5
      refine ev_X12_player (d := d + 48) (fun k1 k2 k3 k4 k5 => ?_) ?_
      · rcases hm with q | q | q | q | q
        · exact absurd q k1
        · exact absurd q k2
        · exact absurd q k3
        · exact absurd q k4
        · exact absurd q k5
      · rw [e.1, e.2]; exact g
  rcases pl_ar x1 with ⟨i, hi, rfl, p1, p2⟩ | ⟨p1, p2⟩
  · rcases dg_ar x2 with ⟨b, hb, rfl, b1, b2⟩ | ⟨b1, b2⟩
    · rcases dg_ar x3 with ⟨f, hf, rfl, f1, f2⟩ | ⟨f1, f2⟩
      · rcases rg_ar x4 (b := 2) (by omega) with ⟨l, hl, rfl, l1, l2, l3⟩ | ⟨l1, l3⟩
        · rcases rg_ar x5 (b := 2) (by omega) with ⟨o, ho, rfl, o1, o2, o3⟩ | ⟨o1, o3⟩
          · clear refuse
            have ole : nI o ≤ (2 : Int32) := nI_le (b := 2) ho (by omega)
            have ea : (2 : Int32) * nI i = nI (2 * i) := by rw [show (2 : Int32) = nI 2 from rfl, pk_mul]
            have eb : nI (2 * i) + (1 : Int32) = nI (2 * i + 1) := nI_1 _
            have v1 : vp_in (nI (2 * i)) 10 := vp_in_nI (by omega) (by omega)
            have v2 : vp_in (nI (2 * i + 1)) 10 := vp_in_nI (by omega) (by omega)
            have v3 : vp_in (nI i) 5 := vp_in_nI hi (by omega)
            have c1 : (nI (2 * i)).toNatClampNeg = 2 * i := nI_clamp (by omega)
            have c2 : (nI (2 * i + 1)).toNatClampNeg = 2 * i + 1 := nI_clamp (by omega)
            have c3 : (nI i).toNatClampNeg = i := nI_clamp (by omega)
            have hA := hS.1
            have hA' : BD ((zA S).1, qW (zA S), up1 (up1 (qG (zA S)) (2 * i) b) (2 * i + 1) f, up1 (qL (zA S)) i l, up1 (qS (zA S)) i o, qX (zA S), qP (zA S)) := ⟨hA.1, hA.2.1, hA.2.2.1, hA.2.2.2.1, up1_le hf (up1_le hb hA.2.2.2.2.1), up1_le hl hA.2.2.2.2.2.1, up1_le ho hA.2.2.2.2.2.2.1, hA.2.2.2.2.2.2.2.1, hA.2.2.2.2.2.2.2.2⟩
            refine ⟨.int 1, (((zA S).1, qW (zA S), up1 (up1 (qG (zA S)) (2 * i) b) (2 * i + 1) f, up1 (qL (zA S)) i l, up1 (qS (zA S)) i o, qX (zA S), qP (zA S)), zX S, ctL (zL S) 0, zT S, zF S), ⟨hA', ctL_lv hS.2.1 (Nat.zero_le _) |> fun h => ⟨h.1, h.2.1, h.2.2.1, h.2.2.2.1, fun j hj => absurd hj (Nat.not_lt_zero _)⟩, hS.2.2⟩, fun d I J T Q h g => ?_, fun d I J T Q h g => ?_⟩
            · refine Ev.intro mX11_player rfl rfl (cplayer_0 (d := d + 42) (br1 (ne0 p1) (br1 (ne0 b1) (br1 (ne0 f1) (br1 l1 (br1 l2 (br1 o1 (br0 ole ?_))))))))
              rw [ea, eb, c1, c2, c3]
              refine ⟨v1, v2, v3, v3, ?_⟩
              have fr : Fr [2, 3, 4, 76] I (si (si (si (si (si I 2 (2 * i) (nI b)) 2 (2 * i + 1) (nI f)) 3 i (nI l)) 4 i (nI o)) 76 0 (0 : Int32)) := (Fr.rfl' _ _).to rfl |>.to rfl |>.to rfl |>.to rfl |>.to rfl
              obtain ⟨h1, h2, h3, h4, h5, h6, h7, h8, h9⟩ := h
              refine ev_forgetMatch (d := d + 42) ((zA S).1, qW (zA S), up1 (up1 (qG (zA S)) (2 * i) b) (2 * i + 1) f, up1 (qL (zA S)) i l, up1 (qS (zA S)) i o, qX (zA S), qP (zA S)) (h2.1.fr rfl fr) (fun I1 J1 f1 j1 b1 w1 => cplayer_73 (d := d + 42) ?_)
              have f3 : Fr [81] I1 (si I1 81 2 (1 : Int32)) := (Fr.rfl' _ _).to rfl
              have f2 := ((fr.sub (l2 := [2, 3, 4, 76, 69, 81]) rfl).trans (f1.sub rfl)).trans (f3.sub rfl)
              have f13 := (f1.sub (l2 := [69, 81]) rfl).trans (f3.sub rfl)
              refine g _ J1 T (f2.sub rfl) (j1.sub rfl) ⟨⟨?_, ?_, ?_, ?_, ?_, ?_, ?_, ?_, ?_⟩, b1.fr (l := [81]) (lj := []) rfl rfl f3 (Fj.rfl' _ _), w1, h4, Or.inl si_at, ?_, ⟨?_, fun j hj => ?_, fun j hj => absurd hj (Nat.not_lt_zero _)⟩, h8.fr rfl f2, h9.fr rfl f2⟩
              · rw [f2 1 rfl]; exact h1.1
              · rw [f2 1 rfl]; exact h1.2.1
              · rw [f2 1 rfl]; exact h1.2.2.1
              · rw [f2 1 rfl]; exact h1.2.2.2.1
              · rw [f13 2 rfl, si_row (by omega), si_row (by omega), si_row (by omega)]
                exact up1_si (up1_si h1.2.2.2.2.1)
              · rw [f13 3 rfl, si_row (by omega), si_row (by omega)]
                exact up1_si (fun j hj => by rw [si_row (by omega), si_row (by omega)]; exact h1.2.2.2.2.2.1 j hj)
              · rw [f13 4 rfl, si_row (by omega)]
                exact up1_si (fun j hj => by rw [si_row (by omega), si_row (by omega), si_row (by omega)]; exact h1.2.2.2.2.2.2.1 j hj)
              · rw [f2 5 rfl]; exact h1.2.2.2.2.2.2.2.1
              · intro s hs
                refine ⟨(h1.2.2.2.2.2.2.2.2 s hs).1, (h1.2.2.2.2.2.2.2.2 s hs).2.fr (fun k hk => ?_) f2⟩
                have := tx_rng (h1.2.2.2.2.2.2.2.2 s hs).1
                exact nel (by simp; omega)
              · rw [f2 0 rfl]; exact h6
              · rw [f13 76 rfl, si_at]; rfl
              · have hj : j = 0 := Nat.le_zero.mp hj
                subst hj
                rw [f2 77 rfl, f2 78 rfl]
                exact h7.2.1 0 (Nat.zero_le _)
            · have l3' : ¬ v_X12_in (nI l) (0 : Int32) (2 : Int32) = 0 := ne0 l3
              have o3' : ¬ v_X12_in (nI o) (0 : Int32) (2 : Int32) = 0 := ne0 o3
              refine ev_X12_player (d := d + 48) (fun _ _ _ _ _ => by rw [ea, eb]; exact ⟨v1, v2, v3, v3⟩) ?_
              unfold v_X12_player w9_X12_player w7_X12_player w5_X12_player w3_X12_player w1_X12_player w10_X12_player w8_X12_player w6_X12_player w4_X12_player w2_X12_player
              rw [if_neg (ne0 p2), if_neg (ne0 p2), if_neg (ne0 b2), if_neg (ne0 b2), if_neg (ne0 f2), if_neg (ne0 f2), if_neg l3', if_neg l3', if_neg o3', if_neg o3', ea, eb, c1, c2, c3]
              have fr : Fr [83, 85, 86, 87] I (si (si (si (si (si I 85 (2 * i) (nI b)) 85 (2 * i + 1) (nI f)) 86 i (nI l)) 87 i (nI o)) 83 48 (0 : Int32)) := (Fr.rfl' _ _).to rfl |>.to rfl |>.to rfl |>.to rfl |>.to rfl
              have e83 : ∀ j, j ≠ 48 → (si (si (si (si (si I 85 (2 * i) (nI b)) 85 (2 * i + 1) (nI f)) 86 i (nI l)) 87 i (nI o)) 83 48 (0 : Int32)) 83 j = I 83 j := fun j hj => by rw [si_ne hj, si_row (by omega), si_row (by omega), si_row (by omega), si_row (by omega)]
              obtain ⟨⟨a1, a2, a3, a4, a5, a6, a7, a8, a9⟩, h2, h3, h4, h5, h6⟩ := h
              refine g _ J (fr.sub rfl) (Fj.rfl' _ _) ⟨⟨?_, ?_, ?_, ?_, ?_, ?_, ?_, ?_, ?_⟩, ⟨?_, ?_, ?_⟩, ?_, ⟨si_at, fun j ha hj => ?_, fun j hj => absurd hj (Nat.not_lt_zero _)⟩, ?_, h6.fr rfl fr⟩
              · rw [e83 0 (by omega)]; exact a1
              · rw [e83 1 (by omega)]; exact a2
              · rw [e83 2 (by omega)]; exact a3
              · rw [fr 84 rfl]; exact a4
              · rw [si_row (by omega), si_row (by omega), si_row (by omega)]; exact up1_si (up1_si a5)
              · rw [si_row (by omega), si_row (by omega)]
                exact up1_si (fun j hj => by rw [si_row (by omega), si_row (by omega)]; exact a6 j hj)
              · rw [si_row (by omega)]
                exact up1_si (fun j hj => by rw [si_row (by omega), si_row (by omega), si_row (by omega)]; exact a7 j hj)
              · rw [fr 88 rfl]; exact a8
              · exact fun s hs => (a9 s hs).fr rfl fr
              · rw [e83 34 (by omega)]; exact h2.1
              · rw [e83 35 (by omega)]; exact h2.2.1
              · rw [e83 36 (by omega)]; exact h2.2.2
              · rw [e83 3 (by omega)]; exact h3
              · have hj : j ≤ 0 := hj
                omega
              · unfold MTp
                rw [e83 11 (by omega), fr 90 rfl]; exact h5
          · exact refuse (Or.inr (Or.inr (Or.inr (Or.inr o1)))) (Or.inr (Or.inr (Or.inr (Or.inr o3))))
        · exact refuse (Or.inr (Or.inr (Or.inr (Or.inl l1)))) (Or.inr (Or.inr (Or.inr (Or.inl l3))))
      · exact refuse (Or.inr (Or.inr (Or.inl f1))) (Or.inr (Or.inr (Or.inl f2)))
    · exact refuse (Or.inr (Or.inl b1)) (Or.inr (Or.inl b2))
  · exact refuse (Or.inl p1) (Or.inl p2)
