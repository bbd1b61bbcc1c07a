/-! FEED: five words onto the tape. -/
def byW (a s : Int32) : Nat := (a >>> (s &&& 31)).toBitVec.toNat % 256
def wrT (t : Nat × (Nat → Nat)) (a : Int32) : Nat × (Nat → Nat) := (t.1 + 4, fun j => if j = t.1 + 3 then byW a 0 else if j = t.1 + 2 then byW a 8 else if j = t.1 + 1 then byW a 16 else if j = t.1 then byW a 24 else t.2 j)
theorem byW_lt (a s : Int32) : byW a s < 256 := Nat.mod_lt _ (by omega)
theorem nar_by (x : Int32) : vp_nar .byte x.toInt8.toInt32 = (nI (x.toBitVec.toNat % 256)).toInt8.toInt32 := by
  have e : x.toInt8 = (nI (x.toBitVec.toNat % 256)).toInt8 := by
    apply Int8.toBitVec_inj.mp
    rw [Int32.toBitVec_toInt8, Int32.toBitVec_toInt8, BitVec.signExtend_eq_setWidth_of_le _ (by decide), BitVec.signExtend_eq_setWidth_of_le _ (by decide)]
    apply BitVec.eq_of_toNat_eq
    rw [BitVec.toNat_setWidth, BitVec.toNat_setWidth, nI_tn]
    omega
  rw [← e]
  unfold vp_nar
  rw [pk_nb]
theorem wrT_by {t : Nat × (Nat → Nat)} {a : Int32} (h : ∀ j, j < t.1 → t.2 j < 256) : ∀ j, j < (wrT t a).1 → (wrT t a).2 j < 256 := fun j hj => by
  have hj : j < t.1 + 4 := hj
  show (if j = t.1 + 3 then byW a 0 else if j = t.1 + 2 then byW a 8 else if j = t.1 + 1 then byW a 16 else if j = t.1 then byW a 24 else t.2 j) < 256
  split
  · exact byW_lt _ _
  split
  · exact byW_lt _ _
  split
  · exact byW_lt _ _
  split
  · exact byW_lt _ _
  exact h j (by omega)
theorem wrT_at {t : Nat × (Nat → Nat)} {a : Int32} {j : Nat} (hj : j < t.1 + 4) : (j = t.1 + 3 ∧ (wrT t a).2 j = byW a 0) ∨ (j = t.1 + 2 ∧ (wrT t a).2 j = byW a 8) ∨ (j = t.1 + 1 ∧ (wrT t a).2 j = byW a 16) ∨ (j = t.1 ∧ (wrT t a).2 j = byW a 24) ∨ (j < t.1 ∧ (wrT t a).2 j = t.2 j) := by
  show (_ ∧ (if j = t.1 + 3 then byW a 0 else if j = t.1 + 2 then byW a 8 else if j = t.1 + 1 then byW a 16 else if j = t.1 then byW a 24 else t.2 j) = _) ∨ (_ ∧ (if j = t.1 + 3 then byW a 0 else if j = t.1 + 2 then byW a 8 else if j = t.1 + 1 then byW a 16 else if j = t.1 then byW a 24 else t.2 j) = _) ∨ (_ ∧ (if j = t.1 + 3 then byW a 0 else if j = t.1 + 2 then byW a 8 else if j = t.1 + 1 then byW a 16 else if j = t.1 then byW a 24 else t.2 j) = _) ∨ (_ ∧ (if j = t.1 + 3 then byW a 0 else if j = t.1 + 2 then byW a 8 else if j = t.1 + 1 then byW a 16 else if j = t.1 then byW a 24 else t.2 j) = _) ∨ (_ ∧ (if j = t.1 + 3 then byW a 0 else if j = t.1 + 2 then byW a 8 else if j = t.1 + 1 then byW a 16 else if j = t.1 then byW a 24 else t.2 j) = _)
  by_cases h3 : j = t.1 + 3
  · exact Or.inl ⟨h3, if_pos h3⟩
  rw [if_neg h3]
  by_cases h2 : j = t.1 + 2
  · exact Or.inr (Or.inl ⟨h2, if_pos h2⟩)
  rw [if_neg h2]
  by_cases h1 : j = t.1 + 1
  · exact Or.inr (Or.inr (Or.inl ⟨h1, if_pos h1⟩))
  rw [if_neg h1]
  by_cases h0 : j = t.1
  · exact Or.inr (Or.inr (Or.inr (Or.inl ⟨h0, if_pos h0⟩)))
  rw [if_neg h0]
  exact Or.inr (Or.inr (Or.inr (Or.inr ⟨by omega, rfl⟩)))
/-- eight places put, one after another -/
def pu8 (I : Nat → Nat → Int32) (o l k n : Nat) (b : Nat → Int32) : Nat → Nat → Int32 := si (si (si (si (si (si (si (si I o n (b 0)) l k (nI (n + 1))) o (n + 1) (b 1)) l k (nI (n + 2))) o (n + 2) (b 2)) l k (nI (n + 3))) o (n + 3) (b 3)) l k (nI (n + 4))
theorem pu8_all {I : Nat → Nat → Int32} {o l k n : Nat} {b : Nat → Int32} (hol : o ≠ l) : (pu8 I o l k n b) l k = nI (n + 4) ∧ (∀ j, j ≠ k → (pu8 I o l k n b) l j = I l j) ∧ (∀ j, j < n → (pu8 I o l k n b) o j = I o j) ∧ ∀ m, m < 4 → (pu8 I o l k n b) o (n + m) = b m := by
  unfold pu8
  refine ⟨si_at, fun j hj => ?_, fun j hj => ?_, fun m hm => ?_⟩
  · rw [si_ne hj, si_row (Ne.symm hol), si_ne hj, si_row (Ne.symm hol), si_ne hj, si_row (Ne.symm hol), si_ne hj, si_row (Ne.symm hol)]
  · rw [si_row hol, si_ne (by omega), si_row hol, si_ne (by omega), si_row hol, si_ne (by omega), si_row hol, si_ne (by omega)]
  · rcases (show m = 0 ∨ m = 1 ∨ m = 2 ∨ m = 3 by omega) with rfl | rfl | rfl | rfl
    · rw [si_row hol, si_ne (by omega), si_row hol, si_ne (by omega), si_row hol, si_ne (by omega), si_row hol, Nat.add_zero, si_at]
    · rw [si_row hol, si_ne (by omega), si_row hol, si_ne (by omega), si_row hol, si_at]
    · rw [si_row hol, si_ne (by omega), si_row hol, si_at]
    · rw [si_row hol, si_at]
theorem pu8_fr {I : Nat → Nat → Int32} {o l k n : Nat} {b : Nat → Int32} {L : List Nat} (ho : L.elem o = true) (hl : L.elem l = true) : Fr L I (pu8 I o l k n b) := (Fr.rfl' _ _).to ho |>.to hl |>.to ho |>.to hl |>.to ho |>.to hl |>.to ho |>.to hl
def cBy (a : Int32) : Nat → Int32
  | 0 => nI (byW a 24)
  | 1 => nI (byW a 16)
  | 2 => nI (byW a 8)
  | _ => nI (byW a 0)
theorem c_wr {t : Nat × (Nat → Nat)} {a : Int32} {I : Nat → Nat → Int32} (h : CTp t I) (ht : t.1 + 4 ≤ 220) : CTp (wrT t a) (i_X8_write a I) ∧ Fr [7, 8] I (i_X8_write a I) ∧ vp_in (I 7 0) 220 ∧ vp_in ((I 7 0) + (1 : Int32)) 220 ∧ vp_in (((I 7 0) + (1 : Int32)) + (1 : Int32)) 220 ∧ vp_in ((((I 7 0) + (1 : Int32)) + (1 : Int32)) + (1 : Int32)) 220 := by
  have e : i_X8_write a I = pu8 I 8 7 0 t.1 (cBy a) := by
    unfold i_X8_write
    rw [h.1, nI_1, nI_1, nI_1, nI_1, nI_clamp (by omega), nI_clamp (by omega), nI_clamp (by omega), nI_clamp (by omega), pk_and _ (m := 255) 8 rfl, pk_and _ (m := 255) 8 rfl, pk_and _ (m := 255) 8 rfl, pk_and _ (m := 255) 8 rfl]
    rfl
  obtain ⟨p1, p2, p3, p4⟩ := pu8_all (I := I) (o := 8) (l := 7) (k := 0) (n := t.1) (b := cBy a) (by omega)
  rw [e, h.1, nI_1, nI_1, nI_1]
  refine ⟨⟨p1, fun j hj => ?_⟩, pu8_fr rfl rfl, vp_in_nI (by omega) (by omega), vp_in_nI (by omega) (by omega), vp_in_nI (by omega) (by omega), vp_in_nI (by omega) (by omega)⟩
  rcases wrT_at (t := t) (a := a) hj with ⟨q, z⟩ | ⟨q, z⟩ | ⟨q, z⟩ | ⟨q, z⟩ | ⟨q, z⟩
  · rw [z, q, p4 3 (by omega)]; rfl
  · rw [z, q, p4 2 (by omega)]; rfl
  · rw [z, q, p4 1 (by omega)]; rfl
  · rw [z, q]; exact p4 0 (by omega)
  · rw [z, p3 j q, h.2 j q]
def mBy (a : Int32) : Nat → Int32
  | 0 => (nI (byW a 24)).toInt8.toInt32
  | 1 => (nI (byW a 16)).toInt8.toInt32
  | 2 => (nI (byW a 8)).toInt8.toInt32
  | _ => (nI (byW a 0)).toInt8.toInt32
theorem m_wr {t : Nat × (Nat → Nat)} {a : Int32} {I : Nat → Nat → Int32} (h : MTp t I) (ht : t.1 + 4 ≤ 220) : MTp (wrT t a) (i_X12_types a I) ∧ Fr [83, 90] I (i_X12_types a I) ∧ (∀ j, j ≠ 11 → (i_X12_types a I) 83 j = I 83 j) ∧ vp_in (I 83 11) 220 ∧ vp_in ((I 83 11) + (1 : Int32)) 220 ∧ vp_in (((I 83 11) + (1 : Int32)) + (1 : Int32)) 220 ∧ vp_in ((((I 83 11) + (1 : Int32)) + (1 : Int32)) + (1 : Int32)) 220 := by
  have e : i_X12_types a I = pu8 I 90 83 11 t.1 (mBy a) := by
    unfold i_X12_types
    rw [h.1, nI_1, nI_1, nI_1, nI_1, nI_clamp (by omega), nI_clamp (by omega), nI_clamp (by omega), nI_clamp (by omega), nar_by, nar_by, nar_by, nar_by]
    rfl
  obtain ⟨p1, p2, p3, p4⟩ := pu8_all (I := I) (o := 90) (l := 83) (k := 11) (n := t.1) (b := mBy a) (by omega)
  rw [e, h.1, nI_1, nI_1, nI_1]
  refine ⟨⟨p1, fun j hj => ?_⟩, pu8_fr rfl rfl, p2, vp_in_nI (by omega) (by omega), vp_in_nI (by omega) (by omega), vp_in_nI (by omega) (by omega), vp_in_nI (by omega) (by omega)⟩
  rcases wrT_at (t := t) (a := a) hj with ⟨q, z⟩ | ⟨q, z⟩ | ⟨q, z⟩ | ⟨q, z⟩ | ⟨q, z⟩
  · rw [z, q, p4 3 (by omega)]; rfl
  · rw [z, q, p4 2 (by omega)]; rfl
  · rw [z, q, p4 1 (by omega)]; rfl
  · rw [z, q]; exact p4 0 (by omega)
  · rw [z, p3 j q, h.2 j q]
theorem op_feed {S : St} (hS : PUR S) (a b c e f : Int32) : OPR S 127 182 [.int a, .int b, .int c, .int e, .int f] := by
  have ht := hS.2.2.2.1
  have e20 : nI (zT S).1 + (20 : Int32) = nI ((zT S).1 + 20) := nI_add _ 20
  by_cases h20 : (zT S).1 + 20 ≤ 220
  · refine ⟨.int (nI ((zT S).1 + 20)), (zA S, zX S, zL S, wrT (wrT (wrT (wrT (wrT (zT S) a) b) c) e) f, zF S), ⟨hS.1, hS.2.1, hS.2.2.1, (show (zT S).1 + 20 ≤ 220 from h20), wrT_by (wrT_by (wrT_by (wrT_by (wrT_by hS.2.2.2.2.1)))), hS.2.2.2.2.2⟩, fun d I J T Q h g => ?_, fun d I J T Q h g => ?_⟩
    · have h8 := h.2.2.2.2.2.2.2.1
      have cc : I 7 0 + (20 : Int32) ≤ (220 : Int32) := by rw [h8.1, e20]; exact nI_le (b := 220) h20 (by omega)
      obtain ⟨a1, a2, a3, a4, a5, a6⟩ := c_wr (a := a) h8 (by omega)
      obtain ⟨b1, b2, b3, b4, b5, b6⟩ := c_wr (a := b) a1 (show (zT S).1 + 4 + 4 ≤ 220 by omega)
      obtain ⟨c1, c2, c3, c4, c5, c6⟩ := c_wr (a := c) b1 (show (zT S).1 + 4 + 4 + 4 ≤ 220 by omega)
      obtain ⟨d1, d2, d3, d4, d5, d6⟩ := c_wr (a := e) c1 (show (zT S).1 + 4 + 4 + 4 + 4 ≤ 220 by omega)
      obtain ⟨f1, f2, f3, f4, f5, f6⟩ := c_wr (a := f) d1 (show (zT S).1 + 4 + 4 + 4 + 4 + 4 ≤ 220 by omega)
      refine ev_X11_feed (d := d + 47) (fun _ => ⟨a3, a4, a5, a6, b3, b4, b5, b6, c3, c4, c5, c6, d3, d4, d5, d6, f3, f4, f5, f6⟩) ?_
      unfold v_X11_feed w1_X11_feed w2_X11_feed
      rw [if_pos cc, if_pos cc, f1.1]
      have fr := (((a2.trans b2).trans c2).trans d2).trans f2
      exact g _ J T (fr.sub rfl) (Fj.rfl' _ _) (h.mv (S := S) (lj := []) rfl rfl rfl rfl rfl rfl rfl fr (Fj.rfl' _ _) (by rw [fr 0 rfl]; exact h.2.2.2.2.2.1) (h.2.2.2.2.2.2.1.fr rfl fr) f1 (h.2.2.2.2.2.2.2.2.fr rfl fr))
    · obtain ⟨h1, h2, h3, h4, h5, h6⟩ := h
      have cc : I 83 11 + (20 : Int32) ≤ (220 : Int32) := by rw [h5.1, e20]; exact nI_le (b := 220) h20 (by omega)
      obtain ⟨a1, a2, a7, a3, a4, a5, a6⟩ := m_wr (a := a) h5 (by omega)
      obtain ⟨b1, b2, b7, b3, b4, b5, b6⟩ := m_wr (a := b) a1 (show (zT S).1 + 4 + 4 ≤ 220 by omega)
      obtain ⟨c1, c2, c7, c3, c4, c5, c6⟩ := m_wr (a := c) b1 (show (zT S).1 + 4 + 4 + 4 ≤ 220 by omega)
      obtain ⟨d1, d2, d7, d3, d4, d5, d6⟩ := m_wr (a := e) c1 (show (zT S).1 + 4 + 4 + 4 + 4 ≤ 220 by omega)
      obtain ⟨f1, f2, f7, f3, f4, f5, f6⟩ := m_wr (a := f) d1 (show (zT S).1 + 4 + 4 + 4 + 4 + 4 ≤ 220 by omega)
      refine ev_X12_feed (d := d + 48) (fun _ => ⟨a3, a4, a5, a6, b3, b4, b5, b6, c3, c4, c5, c6, d3, d4, d5, d6, f3, f4, f5, f6⟩) ?_
      unfold v_X12_feed w1_X12_feed w2_X12_feed
      rw [if_pos cc, if_pos cc, f1.1]
      have fr := (((a2.trans b2).trans c2).trans d2).trans f2
      have k : ∀ j, j ≠ 11 → (i_X12_types f (i_X12_types e (i_X12_types c (i_X12_types b (i_X12_types a I))))) 83 j = I 83 j := fun j hj => by rw [f7 j hj, d7 j hj, c7 j hj, b7 j hj, a7 j hj]
      refine g _ J (fr.sub rfl) (Fj.rfl' _ _) ⟨h1.fr83 rfl fr (k 0 (by omega)) (k 1 (by omega)) (k 2 (by omega)), ?_, ?_, ?_, f1, h6.fr rfl fr⟩
      · unfold RN; rw [k 34 (by omega), k 35 (by omega), k 36 (by omega)]; exact h2
      · rw [k 3 (by omega)]; exact h3
      · unfold ML; rw [k 48 (by omega), fr 113 rfl, fr 114 rfl, fr 115 rfl, fr 116 rfl]; exact h4
  · refine OPR.look hS (.int (-1)) (fun d I J T Q h g => ?_) (fun d I J T Q h g => ?_)
    · have cc : ¬ I 7 0 + (20 : Int32) ≤ (220 : Int32) := by rw [h.2.2.2.2.2.2.2.1.1, e20]; exact nI_ge (a := 220) (by omega) (by omega)
      refine ev_X11_feed (d := d + 47) (fun q => absurd q cc) ?_
      unfold v_X11_feed w1_X11_feed w2_X11_feed
      rw [if_neg cc, if_neg cc]
      exact g
    · have cc : ¬ I 83 11 + (20 : Int32) ≤ (220 : Int32) := by rw [h.2.2.2.2.1.1, e20]; exact nI_ge (a := 220) (by omega) (by omega)
      refine ev_X12_feed (d := d + 48) (fun q => absurd q cc) ?_
      unfold v_X12_feed w1_X12_feed w2_X12_feed
      rw [if_neg cc, if_neg cc]
      exact g
