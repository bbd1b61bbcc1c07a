/-! CALLS: happens; count; season. -/
theorem cl_code {A : Tm} {L : Lg} {I : Nat → Nat → Int32} (hC : CL L I) (h : LV A L) (h5 : qN A ≤ 5) : v_X1_codeBehind (I 76 0) I = dI (lgO L (lgN L)) := by
  have := h.1
  show I 77 (I 76 0).toNatClampNeg = _
  rw [hC.1, nI_clamp (by omega)]
  exact (hC.2.1 _ (Nat.le_refl _)).1
theorem cl_may {A : Tm} {L : Lg} {a : Nat} {I : Nat → Nat → Int32} {T : Nat → Nat → Nat} (hA : BD A) (hR : RC A I T) (hC : CL L I) (h : LV A L) (ha : a < 49) : v_X7_mayBe (v_X1_codeBehind (I 76 0) I) (nI a) (I 1 1) (I 1 2) = bI (mayF (lgO L (lgN L)) a (qC A) (qO A)) := by
  rw [cl_code hC h hA.1.2, hR.2.1, hR.2.2.1]
  exact may_c (h.2.2.2.1 _ (Nat.le_refl _)).1 ha hA.2.1 (by have := hA.2.2.1; omega)
theorem tell_pre {A : Tm} {L : Lg} {a e : Nat} {I : Nat → Nat → Int32} {T : Nat → Nat → Nat} (hA : BD A) (hR : RC A I T) (hC : CL L I) (h : LV A L) (ha : a < 49) : ((¬ (I 1 0 ≤ I 76 0)) → ((¬ (v_X7_mayBe (v_X1_codeBehind (I 76 0) I) (nI a) (I 1 1) (I 1 2) = 0)) → ((0 < (nI a - nI a / (7 : Int32) * (7 : Int32)) → vp_in (v_X7_playerOf (nI a - nI a / (7 : Int32) * (7 : Int32))) 5) ∧ ((0 < (nI a / (7 : Int32)) → vp_in (v_X7_playerOf (nI a / (7 : Int32))) 5) ∧ ((nI e < (3 : Int32) → (vp_in (I 76 0) 5 ∧ (vp_in (I 76 0) 5 ∧ (vp_in ((I 76 0) + (1 : Int32)) 6 ∧ (vp_in (I 76 0) 6 ∧ vp_in ((I 76 0) + (1 : Int32)) 6))))) ∧ ((¬ (nI e < (3 : Int32))) → (0 ≤ v_X7_whoIsAt (v_X7_codeAfter (v_X1_codeBehind (I 76 0) I) (nI a) I) (nI e - (3 : Int32)) → (vp_in (I 76 0) 5 ∧ (vp_in (I 76 0) 5 ∧ (vp_in ((I 76 0) + (1 : Int32)) 6 ∧ (vp_in (I 76 0) 6 ∧ vp_in ((I 76 0) + (1 : Int32)) 6))))))))))) := by
  intro c1 c2
  have h5 := hA.1.2
  rw [hR.1, hC.1] at c1
  have hn : lgN L < qN A := by
    rcases Nat.lt_or_ge (lgN L) (qN A) with q | q
    · exact q
    · exact absurd (nI_le q (by have := h.1; omega)) c1
  rw [cl_may hA hR hC h ha] at c2
  have hm : mayF (lgO L (lgN L)) a (qC A) (qO A) = true := by
    cases hb : mayF (lgO L (lgN L)) a (qC A) (qO A) with
    | true => rfl
    | false => rw [hb] at c2; exact absurd rfl c2
  obtain ⟨p1, p2⟩ := aft_pre (h.2.2.2.1 _ (Nat.le_refl _)).1 ha hm
  have v5 : vp_in (I 76 0) 5 := by rw [hC.1]; exact vp_in_nI (by omega) (by omega)
  have v6 : vp_in (I 76 0) 6 := by rw [hC.1]; exact vp_in_nI (by omega) (by omega)
  have v61 : vp_in ((I 76 0) + (1 : Int32)) 6 := by rw [hC.1, nI_1]; exact vp_in_nI (by omega) (by omega)
  exact ⟨p1, p2, fun _ => ⟨v5, v5, v61, v6, v61⟩, fun _ _ => ⟨v5, v5, v61, v6, v61⟩⟩
theorem tell_no {A : Tm} {L : Lg} {a e : Nat} {I : Nat → Nat → Int32} {T : Nat → Nat → Nat} (hA : BD A) (hR : RC A I T) (hC : CL L I) (h : LV A L) (ha : a < 49) (he : e < 5) (hno : qN A ≤ lgN L ∨ mayF (lgO L (lgN L)) a (qC A) (qO A) = false ∨ (3 ≤ e ∧ wh (aftF A (lgO L (lgN L)) a) (e - 3) = 9)) : v_X1_tell (nI a) (nI e) I = 0 ∧ w8_X1_tell (nI a) (nI e) I = I := by
  have h5 := hA.1.2
  have hl := h.1
  unfold v_X1_tell w7_X1_tell w8_X1_tell
  by_cases c1 : I 1 0 ≤ I 76 0
  · rw [if_pos c1, if_pos c1]; exact ⟨rfl, rfl⟩
  rw [if_neg c1, if_neg c1]
  unfold w5_X1_tell w6_X1_tell
  rw [cl_may hA hR hC h ha]
  cases hm : mayF (lgO L (lgN L)) a (qC A) (qO A) with
  | false => rw [if_pos (show bI false = 0 from rfl), if_pos (show bI false = 0 from rfl)]; exact ⟨rfl, rfl⟩
  | true =>
    rw [if_neg (by decide), if_neg (by decide)]
    rw [hR.1, hC.1] at c1
    rcases hno with q | q | ⟨q1, q2⟩
    · exact absurd (nI_le q (by omega)) c1
    · rw [hm] at q; cases q
    · have e3 : ¬ nI e < (3 : Int32) := nI_nlt (b := 3) q1 (by omega)
      unfold w3_X1_tell w4_X1_tell w1_X1_tell w2_X1_tell
      rw [if_neg e3, if_neg e3]
      obtain ⟨a1, _, _, a4, _⟩ := aft_all (M := I) (h.2.2.2.1 _ (Nat.le_refl _)).1 hA ha hm
      rw [cl_code hC h h5, a4 hR.2.2.2.2.2.1, show nI e - (3 : Int32) = nI (e - 3) from pk_sub (b := 3) q1]
      have hw : v_X7_whoIsAt (dI (aftF A (lgO L (lgN L)) a)) (nI (e - 3)) = -1 := by
        rcases wh_cases a1 (show e - 3 < 2 by omega) with ⟨_, z, _⟩ | ⟨z, _⟩
        · exact z
        · omega
      rw [hw, if_neg neg1', if_neg neg1']
      exact ⟨rfl, rfl⟩
theorem op_happens {S : St} (hS : PUR S) (x y : Int32) : OPR S 143 271 [.int x, .int y] := by
  have hA := hS.1
  have h5 := hA.1.2
  have hL := hS.2.1
  have hl := hL.1
  -- both refuse; the reference has laid the LOG's beginning
  have refuse : (∀ (d : Nat) (I : Nat → Nat → Int32) (J : Nat → Nat → Int64) (T : Nat → Nat → Nat) (Q : Option Value → Mem → Prop), CINV S I J T → Q (some (.int (-1))) (SH, mkM I J T) → Ev mt aM (d + 50) 143 (.ref 0 :: [.int x, .int y]) (SH, mkM I J T) Q) → (∀ (d : Nat) (I : Nat → Nat → Int32) (J : Nat → Nat → Int64) (T : Nat → Nat → Nat) (Q : Option Value → Mem → Prop), MINV S I → LB (zL S) (si (si I 113 0 (1536 : Int32)) 114 0 (0 : Int32)) → Q (some (.int (-1))) (SH, mkM (si (si I 113 0 (1536 : Int32)) 114 0 (0 : Int32)) J T) → Ev mt aM (d + 50) 271 (.ref 83 :: [.int x, .int y]) (SH, mkM I J T) Q) → OPR S 143 271 [.int x, .int y] := fun hc hm =>
    ⟨.int (-1), S, hS, fun d I J T Q h g => hc d I J T Q h (g I J T (Fr.rfl' _ _) (Fj.rfl' _ _) h), fun d I J T Q h g => hm d I J T Q h ⟨h.beg.2.2.2.1, rfl, rfl⟩ (g _ J ((Fr.rfl' _ _).to rfl |>.to rfl) (Fj.rfl' _ _) h.beg)⟩
  have e48 : ∀ I : Nat → Nat → Int32, MINV S I → lgN (zL S) < qN (zA S) → ¬ I 83 48 = I 83 0 := fun I h hn q => by
    rw [h.2.2.2.1.1, h.1.1] at q
    have := (nI_eq (by omega) (by omega)).mp q
    omega
  rcases ac_c x with ⟨a, ha, rfl, a1, a2⟩ | ⟨a1, a2⟩
  · rcases rg_ar y (b := 4) (by omega) with ⟨e, he, rfl, y1, y2, y3⟩ | ⟨y1, y3⟩
    · have yle : nI e ≤ (4 : Int32) := nI_le (b := 4) he (by omega)
      have y3' : ¬ v_X12_in (nI e) (0 : Int32) (4 : Int32) = 0 := ne0 y3
      by_cases hno : qN (zA S) ≤ lgN (zL S) ∨ mayF (lgO (zL S) (lgN (zL S))) a (qC (zA S)) (qO (zA S)) = false ∨ (3 ≤ e ∧ wh (aftF (zA S) (lgO (zL S) (lgN (zL S))) a) (e - 3) = 9)
      · refine refuse (fun d I J T Q h g => ?_) (fun d I J T Q h hB g => ?_)
        · obtain ⟨t1, t2⟩ := tell_no hA h.1 h.2.2.2.2.2.2.1 hL ha (by omega) hno
          refine Ev.intro mX11_happens rfl rfl (chappens_0 (d := d + 42) (br1 (ne0 a1) (br1 y1 (br0 yle ⟨?_, tell_pre hA h.1 h.2.2.2.2.2.2.1 hL ha, br0 t1 ?_⟩))))
          · rw [h.2.2.2.2.2.2.1.1]; exact vp_in_nI (by omega) (by omega)
          · rw [t2]; exact g
        · refine Ev.intro mX12_happens rfl rfl (mhappens_0 (d := d + 42) ?_)
          by_cases c1 : I 83 48 = I 83 0
          · exact br0 c1 g
          have hn : lgN (zL S) < qN (zA S) := by
            rcases Nat.lt_or_ge (lgN (zL S)) (qN (zA S)) with q | q
            · exact q
            · refine absurd ?_ c1
              rw [h.2.2.2.1.1, h.1.1, show lgN (zL S) = qN (zA S) by omega]
          have hk : I 83 48 = nI (lgN (zL S)) := h.2.2.2.1.1
          have vn : vp_in (I 83 48) 6 := by rw [hk]; exact vp_in_nI (by omega) (by omega)
          have eo : (si I 113 0 (1536 : Int32)) 113 ((I 83 48).toNatClampNeg) = nI (lgO (zL S) (lgN (zL S))) := by
            have := (hB.at hL (Nat.le_refl _)).1
            rw [si_row (by omega)] at this
            rw [hk, nI_clamp (by omega)]
            exact this
          have hO := hL.2.2.2.1 _ (Nat.le_refl (lgN (zL S)))
          have rm := h.beg.1
          have rn := h.beg.2.1
          refine br1 c1 (br1 (ne0 a2) (br1 y3' ⟨vn, ?_⟩))
          rw [eo, may_m hO.1 ha hA.2.1 (by have := hA.2.2.1; omega) rn.1 rn.2.1]
          cases hm : mayF (lgO (zL S) (lgN (zL S))) a (qC (zA S)) (qO (zA S)) with
          | false => exact br0 rfl g
          | true =>
            rcases hno with q | q | ⟨q1, q2⟩
            · omega
            · rw [hm] at q; cases q
            · obtain ⟨b1, _, _, _, b5⟩ := aft_all (M := si (si I 113 0 (1536 : Int32)) 114 0 (0 : Int32)) hO.1 hA ha hm
              refine br1 (by decide) (br1 (nI_ge (a := 2) (by omega) (by omega)) ⟨vn, beh_pre hO.1 ha hm, br0 ?_ g⟩)
              rw [b5 rm.2.2.2.2.2.1, show nI e - (3 : Int32) = nI (e - 3) from pk_sub (b := 3) q1]
              rcases mwh b1 (show e - 3 < 2 by omega) with ⟨_, z⟩ | ⟨z, _⟩
              · exact z
              · omega
      · have hn : lgN (zL S) < qN (zA S) := by
          rcases Nat.lt_or_ge (lgN (zL S)) (qN (zA S)) with q | q
          · exact q
          · exact absurd (Or.inl q) hno
        have hm : mayF (lgO (zL S) (lgN (zL S))) a (qC (zA S)) (qO (zA S)) = true := by
          cases hb : mayF (lgO (zL S) (lgN (zL S))) a (qC (zA S)) (qO (zA S)) with
          | true => rfl
          | false => exact absurd (Or.inr (Or.inl hb)) hno
        have hw : 3 ≤ e → wh (aftF (zA S) (lgO (zL S) (lgN (zL S))) a) (e - 3) ≠ 9 := fun q1 q2 => hno (Or.inr (Or.inr ⟨q1, q2⟩))
        have hO := hL.2.2.2.1 _ (Nat.le_refl (lgN (zL S)))
        refine ⟨.int (nI (lgN (zL S) + 1)), (zA S, zX S, psL (zA S) (zL S) a e, zT S, zF S), ⟨hA, psL_lv hA hL hn ha hm (by omega), hS.2.2⟩, fun d I J T Q h g => ?_, fun d I J T Q h g => ?_⟩
        · obtain ⟨t1, t2, t3, t4⟩ := tell_yes hA h.1 h.2.2.2.2.2.2.1 hL hn ha hm (show e < 5 by omega) hw
          refine Ev.intro mX11_happens rfl rfl (chappens_0 (d := d + 42) (br1 (ne0 a1) (br1 y1 (br0 yle ⟨?_, tell_pre hA h.1 h.2.2.2.2.2.2.1 hL ha, br1 (ne0 t1) ?_⟩))))
          · rw [h.2.2.2.2.2.2.1.1]; exact vp_in_nI (by omega) (by omega)
          · rw [t4]
            exact g _ J T (t2.sub rfl) (Fj.rfl' _ _) (h.mv (S := S) (lj := []) rfl rfl rfl rfl rfl rfl rfl t2 (Fj.rfl' _ _) (by rw [t2 0 rfl]; exact h.2.2.2.2.2.1) t3 (h.2.2.2.2.2.2.2.1.fr rfl t2) (h.2.2.2.2.2.2.2.2.fr rfl t2))
        · have hb := h.beg
          have hB : LB (zL S) (si (si I 113 0 (1536 : Int32)) 114 0 (0 : Int32)) := ⟨hb.2.2.2.1, rfl, rfl⟩
          have hk : I 83 48 = nI (lgN (zL S)) := h.2.2.2.1.1
          have vn : vp_in (I 83 48) 6 := by rw [hk]; exact vp_in_nI (by omega) (by omega)
          have vn1 : vp_in (I 83 48 + (1 : Int32)) 6 := by rw [hk, nI_1]; exact vp_in_nI (by omega) (by omega)
          have eo : (si I 113 0 (1536 : Int32)) 113 ((I 83 48).toNatClampNeg) = nI (lgO (zL S) (lgN (zL S))) := by
            have := (hB.at hL (Nat.le_refl _)).1
            rw [si_row (by omega)] at this
            rw [hk, nI_clamp (by omega)]
            exact this
          have e83 : (si (si I 113 0 (1536 : Int32)) 114 0 (0 : Int32)) 83 48 = I 83 48 := rfl
          obtain ⟨b1, _, _, _, b5⟩ := aft_all (M := si (si I 113 0 (1536 : Int32)) 114 0 (0 : Int32)) hO.1 hA ha hm
          have lc := logs_c hA hb.1 hb.2.1.2.2 hB hL hn ha hm (show e < 5 by omega) hw
          have lb := logs_lb (A := zA S) (a := a) (e := e) hB
          have fin : Q (some (.int ((i_X12_logs (nI a) (nI e) (si (si I 113 0 (1536 : Int32)) 114 0 (0 : Int32))) 83 48))) (SH, mkM (i_X12_logs (nI a) (nI e) (si (si I 113 0 (1536 : Int32)) 114 0 (0 : Int32))) J T) := by
            rw [lc]
            have e48 : (si (si (si (si (si (si (si I 113 0 (1536 : Int32)) 114 0 (0 : Int32)) 113 (lgN (zL S) + 1) (nI (nxtF (zA S) (aftF (zA S) (lgO (zL S) (lgN (zL S))) a) e 0))) 114 (lgN (zL S) + 1) (scI (scN (lgS (zL S) (lgN (zL S))) e))) 83 48 (nI (lgN (zL S) + 1))) 115 (lgN (zL S) + 1) (nI a)) 116 (lgN (zL S) + 1) (nI e)) 83 48 = nI (lgN (zL S) + 1) := lb.1.1
            rw [e48]
            have f : Fr [83, 113, 114, 115, 116] I (si (si (si (si (si (si (si I 113 0 (1536 : Int32)) 114 0 (0 : Int32)) 113 (lgN (zL S) + 1) (nI (nxtF (zA S) (aftF (zA S) (lgO (zL S) (lgN (zL S))) a) e 0))) 114 (lgN (zL S) + 1) (scI (scN (lgS (zL S) (lgN (zL S))) e))) 83 48 (nI (lgN (zL S) + 1))) 115 (lgN (zL S) + 1) (nI a)) 116 (lgN (zL S) + 1) (nI e)) := (Fr.rfl' _ _).to rfl |>.to rfl |>.to rfl |>.to rfl |>.to rfl |>.to rfl |>.to rfl
            have e83 : ∀ j, j ≠ 48 → (si (si (si (si (si (si (si I 113 0 (1536 : Int32)) 114 0 (0 : Int32)) 113 (lgN (zL S) + 1) (nI (nxtF (zA S) (aftF (zA S) (lgO (zL S) (lgN (zL S))) a) e 0))) 114 (lgN (zL S) + 1) (scI (scN (lgS (zL S) (lgN (zL S))) e))) 83 48 (nI (lgN (zL S) + 1))) 115 (lgN (zL S) + 1) (nI a)) 116 (lgN (zL S) + 1) (nI e)) 83 j = I 83 j := fun j hj => by
              rw [si_row (by omega), si_row (by omega), si_ne hj, si_row (by omega), si_row (by omega), si_row (by omega), si_row (by omega)]
            refine g _ J (f.sub rfl) (Fj.rfl' _ _) ⟨h.1.fr83 rfl f (e83 0 (by omega)) (e83 1 (by omega)) (e83 2 (by omega)), ?_, ?_, lb.1, ?_, h.2.2.2.2.2.fr rfl f⟩
            · unfold RN
              rw [e83 34 (by omega), e83 35 (by omega), e83 36 (by omega)]; exact h.2.1
            · rw [e83 3 (by omega)]; exact h.2.2.1
            · unfold MTp
              rw [e83 11 (by omega), f 90 rfl]; exact h.2.2.2.2.1
          refine Ev.intro mX12_happens rfl rfl (mhappens_0 (d := d + 42) (br1 (e48 I h hn) (br1 (ne0 a2) (br1 y3' ⟨vn, ?_⟩))))
          rw [eo, may_m hO.1 ha hA.2.1 (by have := hA.2.2.1; omega) hb.2.1.1 hb.2.1.2.1, hm]
          refine br1 (by decide) ?_
          rw [e83]
          by_cases q : nI e ≤ (2 : Int32)
          · exact br0 q ⟨vn, beh_pre hO.1 ha hm, vn1, vn, vn1, vn1, vn1, fin⟩
          · have q3 : 3 ≤ e := by
              rcases Nat.lt_or_ge 2 e with z | z
              · exact z
              · exact absurd (nI_le (b := 2) z (by omega)) q
            refine br1 q ⟨vn, beh_pre hO.1 ha hm, br1 ?_ ⟨vn, beh_pre hO.1 ha hm, vn1, vn, vn1, vn1, vn1, fin⟩⟩
            rw [b5 hb.1.2.2.2.2.2.1, show nI e - (3 : Int32) = nI (e - 3) from pk_sub (b := 3) q3]
            rcases mwh b1 (show e - 3 < 2 by omega) with ⟨z, _⟩ | ⟨z1, z2, _⟩
            · exact absurd z (hw q3)
            · rw [z2]; exact nIm1 (by omega)
    · refine refuse (fun d I J T Q h g => ?_) (fun d I J T Q h hB g => ?_)
      · refine Ev.intro mX11_happens rfl rfl (chappens_0 (d := d + 42) (br1 (ne0 a1) ?_))
        rcases rgc (by omega) y1 with y1 | ⟨y1, y2⟩
        · exact br0 y1 g
        · exact br1 y1 (br1 (nle_of y2) g)
      · refine Ev.intro mX12_happens rfl rfl (mhappens_0 (d := d + 42) ?_)
        by_cases c1 : I 83 48 = I 83 0
        · exact br0 c1 g
        · exact br1 c1 (br1 (ne0 a2) (br0 y3 g))
  · refine refuse (fun d I J T Q h g => ?_) (fun d I J T Q h hB g => ?_)
    · exact Ev.intro mX11_happens rfl rfl (chappens_0 (d := d + 42) (br0 a1 g))
    · refine Ev.intro mX12_happens rfl rfl (mhappens_0 (d := d + 42) ?_)
      by_cases c1 : I 83 48 = I 83 0
      · exact br0 c1 g
      · exact br1 c1 (br0 a2 g)
