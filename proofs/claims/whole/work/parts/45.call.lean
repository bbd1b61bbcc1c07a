/-! CALLS, the plain ones: what both come to. -/
theorem br0 {c P R : Prop} (h : c) (p : P) : (c → P) ∧ (¬ c → R) := ⟨fun _ => p, fun n => absurd h n⟩
theorem br1 {c P R : Prop} (h : ¬ c) (r : R) : (c → P) ∧ (¬ c → R) := ⟨fun q => absurd q h, fun _ => r⟩
theorem e10 : ¬ (1 : Int32) = 0 := by decide
theorem ne0 {x : Int32} (h : x = 1) : ¬ x = 0 := by rw [h]; decide
theorem nIm1 {n : Nat} (h : n < 2 ^ 31) : ¬ nI n = (-1 : Int32) := by
  intro q
  have := congrArg Int32.toInt q
  rw [nI_toInt h, show (-1 : Int32).toInt = -1 by decide] at this
  omega
theorem told_c {A : Tm} {I : Nat → Nat → Int32} {T : Nat → Nat → Nat} {s : Nat} (hA : BD A) (hR : RC A I T) (hs : s < 8) : (v_X2_isTold (nI s) I T = 0 ↔ (qP A s).1 = 0) ∧ v_X2_clausesOf (nI s) I T = nI (qP A s).1 ∧ vp_in (nI s) 8 ∧ TX (T 13 (nI s).toNatClampNeg) := by
  have hw := (hA.2.2.2.2.2.2.2.2 s hs).1
  obtain ⟨t1, t2⟩ := hR.2.2.2.2.2.2.2.2 s hs
  have e : v_X2_clausesOf (nI s) I T = nI (qP A s).1 := by
    unfold v_X2_clausesOf
    rw [nI_clamp (by omega)]
    exact t2.1
  refine ⟨?_, e, vp_in_nI hs (by omega), by rw [nI_clamp (by omega)]; exact t1⟩
  unfold v_X2_isTold w1_X2_isTold
  rw [e]
  rcases Nat.eq_zero_or_pos (qP A s).1 with q | q
  · rw [q, if_pos (by decide)]
    exact ⟨fun _ => rfl, fun _ => rfl⟩
  · rw [if_neg (nI_nle q (by omega))]
    exact ⟨fun h => absurd h (by decide), fun h => by omega⟩
theorem mul_c {A : Tm} {I : Nat → Nat → Int32} {k : Nat} (hA : BD A) (hR : RM A I) (hk : k < 4) : (v_X12_isRule (nI k) I = 0 ↔ (qP A (4 + k)).1 = 0) ∧ vp_in ((3 : Int32) + nI k) 8 ∧ I 98 (3 + k) = nI (qP A (4 + k)).1 := by
  have hw := (hA.2.2.2.2.2.2.2.2 (4 + k) (by omega)).1
  have hr := (hR.2.2.2.2.2.2.2.2 (4 + k) (by omega)).1
  have es : mS (4 + k) = 3 + k := by unfold mS; rw [if_neg (by omega)]; omega
  rw [es] at hr
  have e3 : (3 : Int32) + nI k = nI (3 + k) := by rw [show (3 : Int32) = nI 3 from rfl, nI_add]
  refine ⟨?_, by rw [e3]; exact vp_in_nI (by omega) (by omega), hr⟩
  unfold v_X12_isRule w3_X12_isRule w2_X12_isRule w1_X12_isRule
  rw [if_neg (nI_pos (by omega)), if_neg (show ¬ (4 : Int32) ≤ nI k from nI_ge (b := 4) hk (by omega)), e3, nI_clamp (by omega), hr]
  rcases Nat.eq_zero_or_pos (qP A (4 + k)).1 with q | q
  · rw [q, if_pos (by decide)]
    exact ⟨fun _ => rfl, fun _ => rfl⟩
  · rw [if_neg (nI_nle q (by omega))]
    exact ⟨fun h => absurd h (by decide), fun h => by omega⟩
theorem mul_no {x : Int32} {I : Nat → Nat → Int32} (h : x < 0 ∨ (4 : Int32) ≤ x) : v_X12_isRule x I = 0 ∧ ((¬ (x < 0)) → ((¬ ((4 : Int32) ≤ x)) → vp_in ((3 : Int32) + x) 8)) := by
  rcases h with h | h
  · exact ⟨if_pos h, fun q => absurd h q⟩
  · refine ⟨?_, fun _ q => absurd h q⟩
    unfold v_X12_isRule w3_X12_isRule w2_X12_isRule
    rw [if_neg (i0 (n := 4) (by omega) h), if_pos h]
theorem mth_c {A : Tm} {I : Nat → Nat → Int32} {k : Nat} (hA : BD A) (hR : RM A I) (hk : k < 3) : I 98 k = nI (qP A (1 + k)).1 := by
  have hr := (hR.2.2.2.2.2.2.2.2 (1 + k) (by omega)).1
  have es : mS (1 + k) = k := by unfold mS; rw [if_neg (by omega)]; omega
  rw [es] at hr
  exact hr
theorem RM.fr83 {l : List Nat} {A : Tm} {I I' : Nat → Nat → Int32} (hl : (l.elem 97 || l.elem 98 || l.elem 99 || l.elem 100 || l.elem 101 || l.elem 102 || l.elem 84 || l.elem 85 || l.elem 86 || l.elem 87 || l.elem 88) = false) (hf : Fr l I I') (e0 : I' 83 0 = I 83 0) (e1 : I' 83 1 = I 83 1) (e2 : I' 83 2 = I 83 2) (h : RM A I) : RM A I' := by
  simp only [Bool.or_eq_false_iff] at hl
  obtain ⟨⟨⟨⟨⟨⟨⟨⟨⟨⟨h1, h2⟩, h3⟩, h4⟩, h5⟩, h6⟩, h8⟩, h9⟩, h10⟩, h11⟩, h12⟩ := hl
  unfold RM
  rw [e0, e1, e2, hf _ h8, hf _ h9, hf _ h10, hf _ h11, hf _ h12]
  obtain ⟨a1, a2, a3, a4, a5, a6, a7, a8, a9⟩ := h
  exact ⟨a1, a2, a3, a4, a5, a6, a7, a8, fun s hs => (a9 s hs).fr (by simp only [Bool.or_eq_false_iff]; exact ⟨⟨⟨⟨⟨h1, h2⟩, h3⟩, h4⟩, h5⟩, h6⟩) hf⟩
/-- the reference's own fields, but scratch -/
def F83 (I I' : Nat → Nat → Int32) : Prop := I' 83 0 = I 83 0 ∧ I' 83 1 = I 83 1 ∧ I' 83 2 = I 83 2 ∧ I' 83 3 = I 83 3 ∧ I' 83 11 = I 83 11 ∧ I' 83 34 = I 83 34 ∧ I' 83 35 = I 83 35 ∧ I' 83 36 = I 83 36 ∧ I' 83 48 = I 83 48
theorem MINV.mv {S : St} {I I' : Nat → Nat → Int32} (hf : Fr [83, 91, 92, 93, 94, 95, 96, 103, 104, 105, 106, 107, 108, 109, 110, 111, 112, 117] I I') (hs : F83 I I') (h : MINV S I) : MINV S I' := by
  obtain ⟨h1, h2, h3, h4, h5, h6⟩ := h
  obtain ⟨e0, e1, e2, e3, e4, e5, e6, e7, e8⟩ := hs
  refine ⟨h1.fr83 rfl hf e0 e1 e2, ?_, by rw [e3]; exact h3, ?_, ?_, h6.fr rfl hf⟩
  · unfold RN; rw [e5, e6, e7]; exact h2
  · unfold ML; rw [e8, hf 113 rfl, hf 114 rfl, hf 115 rfl, hf 116 rfl]; exact h4
  · unfold MTp; rw [e4, hf 90 rfl]; exact h5
/-- begins: the LOG's own beginning is laid anew -/
theorem MINV.beg {S : St} {I : Nat → Nat → Int32} (h : MINV S I) : MINV S (si (si I 113 0 (1536 : Int32)) 114 0 (0 : Int32)) := by
  have f : Fr [113, 114] I (si (si I 113 0 (1536 : Int32)) 114 0 (0 : Int32)) := (Fr.rfl' _ _).to rfl |>.to rfl
  obtain ⟨h1, h2, h3, h4, h5, h6⟩ := h
  refine ⟨h1.fr rfl f, h2.fr rfl f, h3, ⟨h4.1, fun j hj hj2 => ?_, h4.2.2⟩, h5.fr rfl f, h6.fr rfl f⟩
  rw [si_row (by omega), si_ne (by omega), si_ne (by omega), si_row (by omega)]
  exact h4.2.1 j hj hj2
/-- the LOG, one PERIOD longer -/
def psL (A : Tm) (L : Lg) (a e : Nat) : Lg := (lgN L + 1, (fun j => if j = lgN L + 1 then nxtF A (aftF A (lgO L (lgN L)) a) e 0 else lgO L j), (fun j => if j = lgN L + 1 then scN (lgS L (lgN L)) e else lgS L j), (fun j => if j = lgN L then a else lgA L j), (fun j => if j = lgN L then e else lgE L j))
theorem psL_lv {A : Tm} {L : Lg} {a e : Nat} (hA : BD A) (h : LV A L) (hn : lgN L < qN A) (ha : a < 49) (hm : mayF (lgO L (lgN L)) a (qC A) (qO A) = true) (he : e < 5) : LV A (psL A L a e) := by
  obtain ⟨h1, h2, h3, h4, h5⟩ := h
  obtain ⟨c1, c2, c3⟩ := h4 _ (Nat.le_refl _)
  obtain ⟨n1, n2⟩ := nxt_cd (pace := 0) hA c1 ha hm he (by omega)
  refine ⟨hn, ?_, ?_, fun j hj => ?_, fun j hj => ?_⟩
  · show (if (0 : Nat) = lgN L + 1 then nxtF A (aftF A (lgO L (lgN L)) a) e 0 else lgO L 0) = 1536
    rw [if_neg (by omega)]; exact h2
  · show (if (0 : Nat) = lgN L + 1 then scN (lgS L (lgN L)) e else lgS L 0) = 2
    rw [if_neg (by omega)]; exact h3
  · show CD (if j = lgN L + 1 then _ else _) ∧ mdN (if j = lgN L + 1 then _ else _) ≤ qC A ∧ (if j = lgN L + 1 then _ else _) < 5
    by_cases q : j = lgN L + 1
    · rw [if_pos q, if_pos q]; exact ⟨n1, n2, scN_lt c3⟩
    · rw [if_neg q, if_neg q]
      have hj : j ≤ lgN L + 1 := hj
      exact h4 j (by omega)
  · have hj : j < lgN L + 1 := hj
    show (if j = lgN L then _ else _) < 49 ∧ mayF (if j = lgN L + 1 then _ else _) (if j = lgN L then _ else _) (qC A) (qO A) = true ∧ (if j = lgN L then _ else _) < 5
    rw [if_neg (show ¬ j = lgN L + 1 by omega)]
    by_cases q : j = lgN L
    · rw [if_pos q, if_pos q, q]; exact ⟨ha, hm, he⟩
    · rw [if_neg q, if_neg q]; exact h5 j (by omega)
theorem scI_2 : scI 2 = 0 := by decide
/-- the class tells the LOG a PERIOD -/
theorem tell_yes {A : Tm} {L : Lg} {a e : Nat} {I : Nat → Nat → Int32} {T : Nat → Nat → Nat} (hA : BD A) (hR : RC A I T) (hC : CL L I) (h : LV A L) (hn : lgN L < qN A) (ha : a < 49) (hm : mayF (lgO L (lgN L)) a (qC A) (qO A) = true) (he : e < 5) (hw : 3 ≤ e → wh (aftF A (lgO L (lgN L)) a) (e - 3) ≠ 9) : v_X1_tell (nI a) (nI e) I = 1 ∧ Fr [76, 77, 78, 79, 80] I (w8_X1_tell (nI a) (nI e) I) ∧ CL (psL A L a e) (w8_X1_tell (nI a) (nI e) I) ∧ (w8_X1_tell (nI a) (nI e) I) 76 0 = nI (lgN L + 1) := by
  have h5 := hA.1.2
  obtain ⟨k1, k2, k3⟩ := hC
  obtain ⟨c1, c2, c3⟩ := h.2.2.2.1 _ (Nat.le_refl _)
  obtain ⟨a1, a2, a3, a4, _⟩ := aft_all (M := I) c1 hA ha hm
  have a4 := a4 hR.2.2.2.2.2.1
  have ec : v_X1_codeBehind (I 76 0) I = dI (lgO L (lgN L)) := by
    show I 77 (I 76 0).toNatClampNeg = _
    rw [k1, nI_clamp (by omega)]
    exact (k2 _ (Nat.le_refl _)).1
  have em : v_X7_mayBe (v_X1_codeBehind (I 76 0) I) (nI a) (I 1 1) (I 1 2) = 1 := by
    rw [ec, hR.2.1, hR.2.2.1, may_c c1 ha hA.2.1 (by have := hA.2.2.1; omega), hm]
    rfl
  have en : ¬ I 1 0 ≤ I 76 0 := by
    rw [hR.1, k1]
    exact nI_ge hn (by omega)
  have eb : v_X7_codeAfter (v_X1_codeBehind (I 76 0) I) (nI a) I = dI (aftF A (lgO L (lgN L)) a) := by rw [ec]; exact a4
  have ew : ¬ nI e < (3 : Int32) → 0 ≤ v_X7_whoIsAt (v_X7_codeAfter (v_X1_codeBehind (I 76 0) I) (nI a) I) (nI e - (3 : Int32)) := by
    intro q
    have q3 : 3 ≤ e := by
      rcases Nat.lt_or_ge e 3 with z | z
      · exact absurd (nI_lt (b := 3) z (by omega)) q
      · exact z
    rw [eb, show nI e - (3 : Int32) = nI (e - 3) from pk_sub (b := 3) q3]
    rcases wh_cases a1 (show e - 3 < 2 by omega) with ⟨z, _⟩ | ⟨z1, _, z2, _⟩
    · exact absurd z (hw q3)
    · rw [z2]; exact nI_pos' (by omega)
  have e7 : v_X1_tell (nI a) (nI e) I = w3_X1_tell (nI a) (nI e) I := by
    unfold v_X1_tell w7_X1_tell w5_X1_tell
    rw [if_neg en, if_neg (by rw [em]; decide)]
  have e8 : w8_X1_tell (nI a) (nI e) I = w4_X1_tell (nI a) (nI e) I := by
    unfold w8_X1_tell w6_X1_tell
    rw [if_neg en, if_neg (by rw [em]; decide)]
  have e9 : w4_X1_tell (nI a) (nI e) I = si (si (si (si (si I 79 (lgN L) (nI a)) 80 (lgN L) (nI e)) 77 (lgN L + 1) (dI (nxtF A (aftF A (lgO L (lgN L)) a) e 0))) 78 (lgN L + 1) (scI (scN (lgS L (lgN L)) e))) 76 0 (nI (lgN L + 1)) := by
    obtain ⟨_, _, n3, _⟩ := nxt_all (M := si (si I 79 (lgN L) (nI a)) 80 (lgN L) (nI e)) (e := e) (pace := 0) a1 hA he (by omega)
    have n3 := n3 (fun j hj => by rw [si_row (by omega), si_row (by omega)]; exact hR.2.2.2.2.2.2.1 j hj)
    have e1 : w4_X1_tell (nI a) (nI e) I = si (si (si (si (si I 79 ((I 76 0).toNatClampNeg) (nI a)) 80 ((I 76 0).toNatClampNeg) (nI e)) 77 (((I 76 0) + (1 : Int32)).toNatClampNeg) (v_X7_codeBehind (v_X7_codeAfter (v_X1_codeBehind (I 76 0) I) (nI a) I) (nI e) (0 : Int32) (si (si I 79 ((I 76 0).toNatClampNeg) (nI a)) 80 ((I 76 0).toNatClampNeg) (nI e)))) 78 (((I 76 0) + (1 : Int32)).toNatClampNeg) (v_X7_scoreBehind (v_X1_scoreBehind (I 76 0) (si (si (si I 79 ((I 76 0).toNatClampNeg) (nI a)) 80 ((I 76 0).toNatClampNeg) (nI e)) 77 (((I 76 0) + (1 : Int32)).toNatClampNeg) (v_X7_codeBehind (v_X7_codeAfter (v_X1_codeBehind (I 76 0) I) (nI a) I) (nI e) (0 : Int32) (si (si I 79 ((I 76 0).toNatClampNeg) (nI a)) 80 ((I 76 0).toNatClampNeg) (nI e))))) (nI e))) 76 0 ((I 76 0) + (1 : Int32)) := by
      by_cases q : nI e < (3 : Int32)
      · exact if_pos q
      · unfold w4_X1_tell w2_X1_tell
        rw [if_neg q, if_pos (ew q)]
    rw [e1, eb, k1, nI_1, nI_clamp (by omega), nI_clamp (by omega), show v_X7_codeBehind (dI (aftF A (lgO L (lgN L)) a)) (nI e) (0 : Int32) (si (si I 79 (lgN L) (nI a)) 80 (lgN L) (nI e)) = _ from n3]
    have es : v_X1_scoreBehind (nI (lgN L)) (si (si (si I 79 (lgN L) (nI a)) 80 (lgN L) (nI e)) 77 (lgN L + 1) (dI (nxtF A (aftF A (lgO L (lgN L)) a) e 0))) = scI (lgS L (lgN L)) := by
      show (si (si (si I 79 (lgN L) (nI a)) 80 (lgN L) (nI e)) 77 (lgN L + 1) (dI (nxtF A (aftF A (lgO L (lgN L)) a) e 0))) 78 (nI (lgN L)).toNatClampNeg = _
      rw [nI_clamp (by omega), si_row (by omega), si_row (by omega), si_row (by omega)]
      exact (k2 _ (Nat.le_refl _)).2
    rw [es, (sc_c c3 he).1]
  refine ⟨?_, ?_, ?_, ?_⟩
  · rw [e7]
    by_cases q : nI e < (3 : Int32)
    · exact if_pos q
    · unfold w3_X1_tell w1_X1_tell
      rw [if_neg q, if_pos (ew q)]
  · rw [e8, e9]
    exact (Fr.rfl' _ _).to rfl |>.to rfl |>.to rfl |>.to rfl |>.to rfl
  · rw [e8, e9]
    refine ⟨si_at, fun j hj => ?_, fun j hj => ?_⟩
    · have hj : j ≤ lgN L + 1 := hj
      show _ = dI (if j = lgN L + 1 then _ else _) ∧ _ = scI (if j = lgN L + 1 then _ else _)
      by_cases q : j = lgN L + 1
      · rw [if_pos q, if_pos q, q]
        refine ⟨?_, ?_⟩
        · rw [si_row (by omega), si_row (by omega), si_at]
        · rw [si_row (by omega), si_at]
      · rw [if_neg q, if_neg q]
        refine ⟨?_, ?_⟩
        · rw [si_row (by omega), si_row (by omega), si_ne q, si_row (by omega), si_row (by omega)]; exact (k2 j (by omega)).1
        · rw [si_row (by omega), si_ne q, si_row (by omega), si_row (by omega), si_row (by omega)]; exact (k2 j (by omega)).2
    · have hj : j < lgN L + 1 := hj
      show _ = nI (if j = lgN L then _ else _) ∧ _ = nI (if j = lgN L then _ else _)
      by_cases q : j = lgN L
      · rw [if_pos q, if_pos q, q]
        refine ⟨?_, ?_⟩
        · rw [si_row (by omega), si_row (by omega), si_row (by omega), si_row (by omega), si_at]
        · rw [si_row (by omega), si_row (by omega), si_row (by omega), si_at]
      · rw [if_neg q, if_neg q]
        refine ⟨?_, ?_⟩
        · rw [si_row (by omega), si_row (by omega), si_row (by omega), si_row (by omega), si_ne q]; exact (k3 j (by omega)).1
        · rw [si_row (by omega), si_row (by omega), si_row (by omega), si_ne q, si_row (by omega)]; exact (k3 j (by omega)).2
  · rw [e8, e9]
    exact si_at
/-- the reference's LOG, laid -/
def LB (L : Lg) (I : Nat → Nat → Int32) : Prop := ML L I ∧ I 113 0 = 1536 ∧ I 114 0 = 0
theorem LB.at {A : Tm} {L : Lg} {I : Nat → Nat → Int32} (h : LB L I) (hl : LV A L) {j : Nat} (hj : j ≤ lgN L) : I 113 j = nI (lgO L j) ∧ I 114 j = scI (lgS L j) := by
  rcases Nat.eq_zero_or_pos j with q | q
  · rw [q, hl.2.1, hl.2.2.1, h.2.1, h.2.2]
    exact ⟨rfl, rfl⟩
  · exact h.1.2.1 j q hj
theorem logs_c {A : Tm} {L : Lg} {a e : Nat} {I : Nat → Nat → Int32} (hA : BD A) (hR : RM A I) (hp : I 83 36 = 0) (hB : LB L I) (h : LV A L) (hn : lgN L < qN A) (ha : a < 49) (hm : mayF (lgO L (lgN L)) a (qC A) (qO A) = true) (he : e < 5) (hw : 3 ≤ e → wh (aftF A (lgO L (lgN L)) a) (e - 3) ≠ 9) : i_X12_logs (nI a) (nI e) I = si (si (si (si (si I 113 (lgN L + 1) (nI (nxtF A (aftF A (lgO L (lgN L)) a) e 0))) 114 (lgN L + 1) (scI (scN (lgS L (lgN L)) e))) 83 48 (nI (lgN L + 1))) 115 (lgN L + 1) (nI a)) 116 (lgN L + 1) (nI e) := by
  have h5 := hA.1.2
  obtain ⟨c1, c2, c3⟩ := h.2.2.2.1 _ (Nat.le_refl _)
  obtain ⟨b1, b2⟩ := hB.at h (Nat.le_refl _)
  obtain ⟨a1, a2, a3, _, a4⟩ := aft_all (M := I) c1 hA ha hm
  have a4 := a4 hR.2.2.2.2.2.1
  obtain ⟨_, _, _, n4⟩ := nxt_all (M := I) (e := e) (pace := 0) a1 hA he (by omega)
  have n4 := n4 hR.2.2.2.2.2.2.1 hp hw
  have ek : w1_X12_logs (nI e) = evI e := by
    unfold w1_X12_logs evI
    rcases Nat.eq_zero_or_pos e with q | q
    · rw [q]; rfl
    · rw [if_neg (nI_ne0 q (by omega)), if_neg (by omega)]
      exact pk_sub (b := 1) q
  unfold i_X12_logs
  rw [ek, hB.1.1, nI_1, nI_clamp (by omega), nI_clamp (by omega), b1, b2, a4, (sc_c c3 he).2, show v_X12_codeAfter (nI (aftF A (lgO L (lgN L)) a)) (evI e) I = _ from n4]
theorem logs_lb {A : Tm} {L : Lg} {a e : Nat} {I : Nat → Nat → Int32} (hB : LB L I) : LB (psL A L a e) (si (si (si (si (si I 113 (lgN L + 1) (nI (nxtF A (aftF A (lgO L (lgN L)) a) e 0))) 114 (lgN L + 1) (scI (scN (lgS L (lgN L)) e))) 83 48 (nI (lgN L + 1))) 115 (lgN L + 1) (nI a)) 116 (lgN L + 1) (nI e)) := by
  obtain ⟨⟨k1, k2, k3⟩, k4, k5⟩ := hB
  refine ⟨⟨?_, fun j h1 hj => ?_, fun j hj => ?_⟩, ?_, ?_⟩
  · rw [si_row (by omega), si_row (by omega), si_at]; rfl
  · have hj : j ≤ lgN L + 1 := hj
    show _ = nI (if j = lgN L + 1 then _ else _) ∧ _ = scI (if j = lgN L + 1 then _ else _)
    by_cases q : j = lgN L + 1
    · rw [if_pos q, if_pos q, q]
      refine ⟨?_, ?_⟩
      · rw [si_row (by omega), si_row (by omega), si_row (by omega), si_row (by omega), si_at]
      · rw [si_row (by omega), si_row (by omega), si_row (by omega), si_at]
    · rw [if_neg q, if_neg q]
      refine ⟨?_, ?_⟩
      · rw [si_row (by omega), si_row (by omega), si_row (by omega), si_row (by omega), si_ne q]; exact (k2 j h1 (by omega)).1
      · rw [si_row (by omega), si_row (by omega), si_row (by omega), si_ne q, si_row (by omega)]; exact (k2 j h1 (by omega)).2
  · have hj : j < lgN L + 1 := hj
    show _ = nI (if j = lgN L then _ else _) ∧ _ = nI (if j = lgN L then _ else _)
    by_cases q : j = lgN L
    · rw [if_pos q, if_pos q, q]
      refine ⟨?_, si_at⟩
      rw [si_row (by omega), si_at]
    · rw [if_neg q, if_neg q]
      refine ⟨?_, ?_⟩
      · rw [si_row (by omega), si_ne (by omega), si_row (by omega), si_row (by omega), si_row (by omega)]; exact (k3 j (by omega)).1
      · rw [si_ne (by omega), si_row (by omega), si_row (by omega), si_row (by omega), si_row (by omega)]; exact (k3 j (by omega)).2
  · rw [si_row (by omega), si_row (by omega), si_row (by omega), si_row (by omega), si_ne (by omega)]; exact k4
  · rw [si_row (by omega), si_row (by omega), si_row (by omega), si_ne (by omega), si_row (by omega)]; exact k5
