/-! CALLS: THE SEED, how FRESH, the LOG, what there is. -/
theorem CINV.mv {S : St} {l lj : List Nat} {I I' : Nat → Nat → Int32} {J J' : Nat → Nat → Int64} {T : Nat → Nat → Nat} {S' : St} (hA : zA S' = zA S) (hl : (l.all (fun o => decide (o < 14) || decide (69 ≤ o)) && !(l.elem 1 || l.elem 2 || l.elem 3 || l.elem 4 || l.elem 5)) = true) (hl2 : (l.elem 69 || l.elem 70) = false) (hl3 : l.elem 81 = false) (hlj : (lj.elem 71 || lj.elem 72) = false) (hlj2 : lj.elem 75 = false) (hlj3 : lj.elem 82 = false) (hf : Fr l I I') (hj : Fj lj J J') (h : CINV S I J T) (e0 : I' 0 8 = nI (zX S')) (e1 : CL (zL S') I') (e2 : CTp (zT S') I') (e3 : CF (zF S') I') : CINV S' I' J' T := by
  obtain ⟨h1, h2, h3, h4, h5, h6, h7, h8, h9⟩ := h
  unfold CINV
  rw [hA]
  exact ⟨h1.fr hl hf, h2.fr hl2 hlj hf hj, h3.fr hlj2 hj, h4, h5.fr hl3 hlj3 hf hj, e0, e1, e2, e3⟩
theorem op_seed {S : St} (hS : PUR S) (x : Int32) : OPR S 148 179 [.int x] := by
  have hin : (65535 : Int32) = nI 65535 := rfl
  rcases rg_ar x (b := 65535) (by omega) with ⟨k, hk, rfl, c1, c2, c3⟩ | ⟨c1, c3⟩
  · refine ⟨.int 1, (zA S, k, zL S, zT S, zF S), ⟨hS.1, hS.2.1, by show k < 65536; omega, hS.2.2.2⟩, fun d I J T Q h g => ?_, fun d I J T Q h g => ?_⟩
    · have e : v_X11_seed (nI k) = 1 := by
        unfold v_X11_seed w3_X11_seed w1_X11_seed
        rw [if_neg c1, if_pos (show nI k < (65536 : Int32) from nI_lt (b := 65536) (by omega) (by omega))]
      refine ev_X11_seed (d := d + 49) ?_
      rw [e, if_neg c1, show w2_X11_seed (nI k) I = si I 0 8 (nI k) from if_pos (nI_lt (b := 65536) (by omega) (by omega))]
      have f : Fr [0] I (si I 0 8 (nI k)) := (Fr.rfl' _ _).to rfl
      exact g _ J T (f.sub rfl) (Fj.rfl' _ _) (h.mv (S := S) (lj := []) rfl rfl rfl rfl rfl rfl rfl f (Fj.rfl' _ _) si_at (h.2.2.2.2.2.2.1.fr rfl f) (h.2.2.2.2.2.2.2.1.fr rfl f) (h.2.2.2.2.2.2.2.2.fr rfl f))
    · have e : v_X12_seed (nI k) = 1 := if_neg (ne0 c3)
      refine ev_X12_seed (d := d + 48) ?_
      rw [e, show w2_X12_seed (nI k) I = si I 83 3 (nI k) from if_neg (ne0 c3)]
      have f : Fr [83] I (si I 83 3 (nI k)) := (Fr.rfl' _ _).to rfl
      obtain ⟨h1, h2, h3, h4, h5, h6⟩ := h
      refine g _ J (f.sub rfl) (Fj.rfl' _ _) ⟨h1.fr83 rfl f (si_ne (by omega)) (si_ne (by omega)) (si_ne (by omega)), ?_, si_at, ?_, ?_, h6.fr rfl f⟩
      · unfold RN; rw [si_ne (by omega), si_ne (by omega), si_ne (by omega)]; exact h2
      · unfold ML; rw [si_ne (by omega), si_row (by omega), si_row (by omega), si_row (by omega), si_row (by omega)]; exact h4
      · unfold MTp; rw [si_ne (by omega), si_row (by omega)]; exact h5
  · refine OPR.look hS (.int 0) (fun d I J T Q h g => ?_) (fun d I J T Q h g => ?_)
    · refine ev_X11_seed (d := d + 49) ?_
      unfold v_X11_seed w3_X11_seed w1_X11_seed w2_X11_seed
      by_cases c : x < 0
      · rw [if_pos c, if_pos c]; exact g
      · rcases c1 with c1 | c1
        · exact absurd c1 c
        · have c2 : ¬ x < (65536 : Int32) := by
            rw [Int32.lt_iff_toInt_lt, nI_toInt (by omega)] at c1
            rw [Int32.lt_iff_toInt_lt, show (65536 : Int32).toInt = 65536 from rfl]
            omega
          rw [if_neg c, if_neg c, if_neg c2, if_neg c2]; exact g
    · refine ev_X12_seed (d := d + 48) ?_
      rw [show v_X12_seed x = 0 from if_pos c3, show w2_X12_seed x I = I from if_pos c3]
      exact g
theorem op_fresh {S : St} (hS : PUR S) (x y : Int32) : OPR S 150 180 [.int x, .int y] := by
  rcases pl_ar x with ⟨i, hi, rfl, p1, p2⟩ | ⟨p1, p2⟩
  · rcases rg_ar y (b := 3) (by omega) with ⟨k, hk, rfl, c1, c2, c3⟩ | ⟨c1, c3⟩
    · refine ⟨.int 1, (zA S, zX S, zL S, zT S, fun j => if j = i then k else zF S j), ⟨hS.1, hS.2.1, hS.2.2.1, hS.2.2.2.1, hS.2.2.2.2.1, fun j hj => ?_⟩, fun d I J T Q h g => ?_, fun d I J T Q h g => ?_⟩
      · show (if j = i then k else zF S j) ≤ 3
        split
        · exact hk
        · exact hS.2.2.2.2.2 j hj
      · have c4 : nI k ≤ (3 : Int32) := nI_le (b := 3) hk (by omega)
        refine ev_X11_fresh (d := d + 47) (fun _ _ _ => vp_in_nI hi (by omega)) ?_
        unfold v_X11_fresh w4_X11_fresh w3_X11_fresh w1_X11_fresh w5_X11_fresh w2_X11_fresh
        rw [if_neg (ne0 p1), if_neg (ne0 p1), if_neg c1, if_neg c1, if_pos c4, if_pos c4, nI_clamp (by omega)]
        have f : Fr [6] I (si I 6 i (nI k)) := (Fr.rfl' _ _).to rfl
        refine g _ J T (f.sub rfl) (Fj.rfl' _ _) (h.mv (S := S) (lj := []) rfl rfl rfl rfl rfl rfl rfl f (Fj.rfl' _ _) h.2.2.2.2.2.1 (h.2.2.2.2.2.2.1.fr rfl f) (h.2.2.2.2.2.2.2.1.fr rfl f) (fun j hj => ?_))
        show si I 6 i (nI k) 6 j = nI (if j = i then k else zF S j)
        by_cases q : j = i
        · rw [q, si_at, if_pos rfl]
        · rw [si_ne q, if_neg q]; exact h.2.2.2.2.2.2.2.2 j hj
      · refine ev_X12_fresh (d := d + 48) (fun _ _ => vp_in_nI hi (by omega)) ?_
        have c3' : ¬ v_X12_in (nI k) (0 : Int32) (3 : Int32) = 0 := ne0 c3
        unfold v_X12_fresh w3_X12_fresh w1_X12_fresh w4_X12_fresh w2_X12_fresh
        rw [if_neg (ne0 p2), if_neg (ne0 p2), if_neg c3', if_neg c3', nI_clamp (by omega)]
        have f : Fr [89] I (si I 89 i (nI k)) := (Fr.rfl' _ _).to rfl
        obtain ⟨h1, h2, h3, h4, h5, h6⟩ := h
        refine g _ J (f.sub rfl) (Fj.rfl' _ _) ⟨h1.fr rfl f, h2.fr rfl f, h3, h4.fr rfl f, h5.fr rfl f, fun j hj => ?_⟩
        show si I 89 i (nI k) 89 j = nI (if j = i then k else zF S j)
        by_cases q : j = i
        · rw [q, si_at, if_pos rfl]
        · rw [si_ne q, if_neg q]; exact h6 j hj
    · refine OPR.look hS (.int 0) (fun d I J T Q h g => ?_) (fun d I J T Q h g => ?_)
      · refine ev_X11_fresh (d := d + 47) (fun _ _ _ => vp_in_nI hi (by omega)) ?_
        unfold v_X11_fresh w4_X11_fresh w3_X11_fresh w1_X11_fresh w5_X11_fresh w2_X11_fresh
        rw [if_neg (ne0 p1), if_neg (ne0 p1)]
        by_cases c : y < 0
        · rw [if_pos c, if_pos c]; exact g
        · rcases c1 with c1 | c1
          · exact absurd c1 c
          · have c2 : ¬ y ≤ (3 : Int32) := by
              rw [Int32.lt_iff_toInt_lt, nI_toInt (by omega)] at c1
              rw [Int32.le_iff_toInt_le, show (3 : Int32).toInt = 3 from rfl]
              omega
            rw [if_neg c, if_neg c, if_neg c2, if_neg c2]; exact g
      · have c3' : v_X12_in y (0 : Int32) (3 : Int32) = 0 := c3
        refine ev_X12_fresh (d := d + 48) (fun _ _ => vp_in_nI hi (by omega)) ?_
        unfold v_X12_fresh w3_X12_fresh w1_X12_fresh w4_X12_fresh w2_X12_fresh
        rw [if_neg (ne0 p2), if_neg (ne0 p2), if_pos c3', if_pos c3']
        exact g
  · refine OPR.look hS (.int 0) (fun d I J T Q h g => ?_) (fun d I J T Q h g => ?_)
    · refine ev_X11_fresh (d := d + 47) (fun q => absurd p1 q) ?_
      rw [show v_X11_fresh x y = 0 from if_pos p1, show w5_X11_fresh x y I = I from if_pos p1]
      exact g
    · refine ev_X12_fresh (d := d + 48) (fun q => absurd p2 q) ?_
      rw [show v_X12_fresh x y = 0 from if_pos p2, show w4_X12_fresh x y I = I from if_pos p2]
      exact g
/-- the LOG, cut to n PERIODS -/
def ctL (L : Lg) (n : Nat) : Lg := (n, lgO L, lgS L, lgA L, lgE L)
theorem ctL_lv {A : Tm} {L : Lg} {n : Nat} (h : LV A L) (hn : n ≤ lgN L) : LV A (ctL L n) := ⟨Nat.le_trans hn h.1, h.2.1, h.2.2.1, fun j hj => h.2.2.2.1 j (Nat.le_trans hj hn), fun j hj => h.2.2.2.2 j (Nat.lt_of_lt_of_le hj hn)⟩
theorem op_undo {S : St} (hS : PUR S) : OPR S 144 272 [] := by
  have hq := hS.1.1.2
  have hl := hS.2.1.1
  rcases Nat.eq_zero_or_pos (lgN (zL S)) with z | z
  · refine OPR.look hS (.int (-1)) (fun d I J T Q h g => ?_) (fun d I J T Q h g => ?_)
    · have e : I 76 0 = 0 := by rw [h.2.2.2.2.2.2.1.1, z]; rfl
      refine ev_X11_undo (d := d + 49) ?_
      rw [show v_X11_undo I = -1 from if_pos e, show w2_X11_undo I = I from if_pos e]
      exact g
    · have e : I 83 48 = 0 := by rw [h.2.2.2.1.1, z]; rfl
      refine ev_X12_undo (d := d + 49) ?_
      rw [show v_X12_undo I = -1 from if_pos e, show w2_X12_undo I = I from if_pos e]
      exact g
  · refine ⟨.int (nI (lgN (zL S) - 1)), (zA S, zX S, ctL (zL S) (lgN (zL S) - 1), zT S, zF S), ⟨hS.1, ctL_lv hS.2.1 (Nat.sub_le _ _), hS.2.2⟩, fun d I J T Q h g => ?_, fun d I J T Q h g => ?_⟩
    · obtain ⟨k1, k2, k3⟩ := h.2.2.2.2.2.2.1
      have e : ¬ I 76 0 = 0 := by rw [k1]; exact nI_ne0 z (by omega)
      have e1 : I 76 0 - (1 : Int32) = nI (lgN (zL S) - 1) := by rw [k1]; exact pk_sub (b := 1) z
      refine ev_X11_undo (d := d + 49) ?_
      rw [show v_X11_undo I = I 76 0 - (1 : Int32) from if_neg e, show w2_X11_undo I = si I 76 0 (I 76 0 - (1 : Int32)) from if_neg e, e1]
      have f : Fr [76] I (si I 76 0 (nI (lgN (zL S) - 1))) := (Fr.rfl' _ _).to rfl
      exact g _ J T (f.sub rfl) (Fj.rfl' _ _) (h.mv (S := S) (lj := []) rfl rfl rfl rfl rfl rfl rfl f (Fj.rfl' _ _) h.2.2.2.2.2.1 ⟨si_at, fun j hj => k2 j (by have : j ≤ lgN (zL S) - 1 := hj; omega), fun j hj => k3 j (by have : j < lgN (zL S) - 1 := hj; omega)⟩ (h.2.2.2.2.2.2.2.1.fr rfl f) (h.2.2.2.2.2.2.2.2.fr rfl f))
    · obtain ⟨h1, h2, h3, h4, h5, h6⟩ := h
      obtain ⟨k1, k2, k3⟩ := h4
      have e : ¬ I 83 48 = 0 := by rw [k1]; exact nI_ne0 z (by omega)
      have e1 : I 83 48 - (1 : Int32) = nI (lgN (zL S) - 1) := by rw [k1]; exact pk_sub (b := 1) z
      refine ev_X12_undo (d := d + 49) ?_
      rw [show v_X12_undo I = I 83 48 - (1 : Int32) from if_neg e, show w2_X12_undo I = si I 83 48 (I 83 48 - (1 : Int32)) from if_neg e, e1]
      have f : Fr [83] I (si I 83 48 (nI (lgN (zL S) - 1))) := (Fr.rfl' _ _).to rfl
      refine g _ J (f.sub rfl) (Fj.rfl' _ _) ⟨h1.fr83 rfl f (si_ne (by omega)) (si_ne (by omega)) (si_ne (by omega)), ?_, ?_, ⟨si_at, fun j ha hj => ?_, fun j hj => ?_⟩, ?_, h6.fr rfl f⟩
      · unfold RN; rw [si_ne (by omega), si_ne (by omega), si_ne (by omega)]; exact h2
      · rw [si_ne (by omega)]; exact h3
      · rw [si_row (by omega), si_row (by omega)]; exact k2 j ha (by have : j ≤ lgN (zL S) - 1 := hj; omega)
      · rw [si_row (by omega), si_row (by omega)]; exact k3 j (by have : j < lgN (zL S) - 1 := hj; omega)
      · unfold MTp; rw [si_ne (by omega), si_row (by omega)]; exact h5
theorem c4k {x : Int32} {k : Nat} (hk : k ≤ 3) (hx : x = nI k) : (x = 0 ↔ k = 0) ∧ (x = 1 ↔ k = 1) ∧ (x = 2 ↔ k = 2) := by
  subst hx
  exact ⟨nI_eq (b := 0) (by omega) (by omega), nI_eq (b := 1) (by omega) (by omega), nI_eq (b := 2) (by omega) (by omega)⟩
theorem op_logged {S : St} (hS : PUR S) (x y : Int32) : OPR S 145 273 [.int x, .int y] := by
  have hq := hS.1.1.2
  have hl := hS.2.1.1
  have hb := fun (I : Nat → Nat → Int32) (h : MINV S I) => h.beg
  rcases rg_ar x (b := lgN (zL S)) (by omega) with ⟨i, hi, rfl, p1, p2, p3⟩ | ⟨p1, p3⟩
  · rcases rg_ar y (b := 3) (by omega) with ⟨k, hk, rfl, c1, c2, c3⟩ | ⟨c1, c3⟩
    · obtain ⟨k0, k1, k2⟩ := c4k hk rfl
      have cle : nI k ≤ (3 : Int32) := nI_le (b := 3) hk (by omega)
      have vi : vp_in (nI i) 6 := vp_in_nI (by omega) (by omega)
      have c3' : ¬ v_X12_in (nI k) (0 : Int32) (3 : Int32) = 0 := ne0 c3
      have key : ∀ v : Int32, (∀ (d : Nat) (I : Nat → Nat → Int32) (J : Nat → Nat → Int64) (T : Nat → Nat → Nat) (Q : Option Value → Mem → Prop), CL (zL S) I → Q (some (.int v)) (SH, mkM I J T) → ((nI k = 0 → (vp_in (nI i) 6 ∧ Q (some (.int (v_X1_codeBehind (nI i) I))) (SH, mkM I J T))) ∧ ((nI k = 1 → (vp_in (nI i) 6 ∧ Q (some (.int (v_X1_scoreBehind (nI i) I))) (SH, mkM I J T))) ∧ ((nI k = 2 → ((nI i = 0 → Q (some (.int (-1 : Int32))) (SH, mkM I J T)) ∧ ((¬ (nI i = 0)) → (vp_in (nI i - (1 : Int32)) 5 ∧ Q (some (.int (v_X1_actionIn (nI i - (1 : Int32)) I))) (SH, mkM I J T))))) ∧ (¬ (nI k = 0) → ¬ (nI k = 1) → ¬ (nI k = 2) → ((nI i = 0 → Q (some (.int (-1 : Int32))) (SH, mkM I J T)) ∧ ((¬ (nI i = 0)) → (vp_in (nI i - (1 : Int32)) 5 ∧ Q (some (.int (v_X1_eventIn (nI i - (1 : Int32)) I))) (SH, mkM I J T))))))))) → (∀ (d : Nat) (I : Nat → Nat → Int32) (J : Nat → Nat → Int64) (T : Nat → Nat → Nat) (Q : Option Value → Mem → Prop), LB (zL S) (si (si I 113 0 (1536 : Int32)) 114 0 (0 : Int32)) → Q (some (.int v)) (SH, mkM (si (si I 113 0 (1536 : Int32)) 114 0 (0 : Int32)) J T) → ((nI k = 0 → (vp_in (nI i) 6 ∧ Q (some (.int (v_X12_toldOf ((si I 113 0 (1536 : Int32)) 113 (nI i).toNatClampNeg)))) (SH, mkM (si (si I 113 0 (1536 : Int32)) 114 0 (0 : Int32)) J T))) ∧ ((nI k = 1 → (vp_in (nI i) 6 ∧ Q (some (.int ((si (si I 113 0 (1536 : Int32)) 114 0 (0 : Int32)) 114 (nI i).toNatClampNeg))) (SH, mkM (si (si I 113 0 (1536 : Int32)) 114 0 (0 : Int32)) J T))) ∧ ((nI k = 2 → ((nI i = 0 → Q (some (.int (-1 : Int32))) (SH, mkM (si (si I 113 0 (1536 : Int32)) 114 0 (0 : Int32)) J T)) ∧ ((¬ (nI i = 0)) → (vp_in (nI i) 6 ∧ Q (some (.int (I 115 (nI i).toNatClampNeg))) (SH, mkM (si (si I 113 0 (1536 : Int32)) 114 0 (0 : Int32)) J T))))) ∧ (¬ (nI k = 0) → ¬ (nI k = 1) → ¬ (nI k = 2) → ((nI i = 0 → Q (some (.int (-1 : Int32))) (SH, mkM (si (si I 113 0 (1536 : Int32)) 114 0 (0 : Int32)) J T)) ∧ ((¬ (nI i = 0)) → (vp_in (nI i) 6 ∧ Q (some (.int (I 116 (nI i).toNatClampNeg))) (SH, mkM (si (si I 113 0 (1536 : Int32)) 114 0 (0 : Int32)) J T))))))))) → OPR S 145 273 [.int (nI i), .int (nI k)] := by
        intro v hc hm
        refine ⟨.int v, S, hS, fun d I J T Q h g => ?_, fun d I J T Q h g => ?_⟩
        · refine Ev.intro mX11_logged rfl rfl (clogged_0 (d := d + 42) (br1 p1 (br1 (by rw [h.2.2.2.2.2.2.1.1]; exact p2) (br1 c1 (br0 cle (hc d I J T Q h.2.2.2.2.2.2.1 (g I J T (Fr.rfl' _ _) (Fj.rfl' _ _) h)))))))
        · have e : ¬ v_X12_in (nI i) (0 : Int32) (I 83 48) = 0 := by rw [h.2.2.2.1.1]; exact ne0 p3
          refine Ev.intro mX12_logged rfl rfl (mlogged_0 (d := d + 42) (br1 e (br1 c3' (hm d I J T Q ⟨(hb I h).2.2.2.1, rfl, rfl⟩ (g _ J ((Fr.rfl' _ _).to rfl |>.to rfl) (Fj.rfl' _ _) (hb I h))))))
      have n4 : ∀ {P : Prop}, (k = 0 ∨ k = 1 ∨ k = 2) → ¬ (nI k = 0) → ¬ (nI k = 1) → ¬ (nI k = 2) → P := fun hc a b c => by
        rcases hc with q | q | q
        · exact absurd (k0.mpr q) a
        · exact absurd (k1.mpr q) b
        · exact absurd (k2.mpr q) c
      have lba : ∀ I, LB (zL S) (si (si I 113 0 (1536 : Int32)) 114 0 (0 : Int32)) → (si I 113 0 (1536 : Int32)) 113 (nI i).toNatClampNeg = nI (lgO (zL S) i) ∧ (si (si I 113 0 (1536 : Int32)) 114 0 (0 : Int32)) 114 (nI i).toNatClampNeg = scI (lgS (zL S) i) := fun I hB => by
        obtain ⟨b1, b2⟩ := hB.at hS.2.1 hi
        rw [si_row (by omega)] at b1
        rw [nI_clamp (by omega)]
        exact ⟨b1, b2⟩
      have lb2 : ∀ I, LB (zL S) (si (si I 113 0 (1536 : Int32)) 114 0 (0 : Int32)) → 0 < i → I 115 (nI i).toNatClampNeg = nI (lgA (zL S) (i - 1)) ∧ I 116 (nI i).toNatClampNeg = nI (lgE (zL S) (i - 1)) := fun I hB h0 => by
        have b := hB.1.2.2 (i - 1) (by omega)
        rw [si_row (by omega), si_row (by omega), si_row (by omega), si_row (by omega), show i - 1 + 1 = i by omega] at b
        rw [nI_clamp (by omega)]
        exact b
      have clb : ∀ I, CL (zL S) I → 0 < i → v_X1_actionIn (nI i - (1 : Int32)) I = nI (lgA (zL S) (i - 1)) ∧ v_X1_eventIn (nI i - (1 : Int32)) I = nI (lgE (zL S) (i - 1)) := fun I hC h0 => by
        have b := hC.2.2 (i - 1) (by omega)
        rw [show nI i - (1 : Int32) = nI (i - 1) from pk_sub (b := 1) h0]
        show I 79 (nI (i - 1)).toNatClampNeg = _ ∧ I 80 (nI (i - 1)).toNatClampNeg = _
        rw [nI_clamp (by omega)]
        exact b
      have cla : ∀ I, CL (zL S) I → v_X1_codeBehind (nI i) I = dI (lgO (zL S) i) ∧ v_X1_scoreBehind (nI i) I = scI (lgS (zL S) i) := fun I hC => by
        show I 77 (nI i).toNatClampNeg = _ ∧ I 78 (nI i).toNatClampNeg = _
        rw [nI_clamp (by omega)]
        exact hC.2.1 i hi
      have hO := (hS.2.1.2.2.2.1 i hi).1
      have vi1 : 0 < i → vp_in (nI i - (1 : Int32)) 5 := fun h0 => by
        rw [show nI i - (1 : Int32) = nI (i - 1) from pk_sub (b := 1) h0]
        exact vp_in_nI (by omega) (by omega)
      rcases (show k = 0 ∨ k = 1 ∨ k = 2 ∨ k = 3 by omega) with q | q | q | q
      · refine key (dI (lgO (zL S) i)) (fun d I J T Q hC g => ⟨fun _ => ⟨vi, by rw [(cla I hC).1]; exact g⟩, fun c => absurd (k1.mp c) (by omega), fun c => absurd (k2.mp c) (by omega), n4 (Or.inl q)⟩) (fun d I J T Q hB g => ⟨fun _ => ⟨vi, ?_⟩, fun c => absurd (k1.mp c) (by omega), fun c => absurd (k2.mp c) (by omega), n4 (Or.inl q)⟩)
        rw [(lba I hB).1, (dig_all hO.1).2.2.2.2.2.2.2]
        exact g
      · refine key (scI (lgS (zL S) i)) (fun d I J T Q hC g => ⟨fun c => absurd (k0.mp c) (by omega), fun _ => ⟨vi, by rw [(cla I hC).2]; exact g⟩, fun c => absurd (k2.mp c) (by omega), n4 (Or.inr (Or.inl q))⟩) (fun d I J T Q hB g => ⟨fun c => absurd (k0.mp c) (by omega), fun _ => ⟨vi, ?_⟩, fun c => absurd (k2.mp c) (by omega), n4 (Or.inr (Or.inl q))⟩)
        rw [(lba I hB).2]
        exact g
      · rcases Nat.eq_zero_or_pos i with z | z
        · refine key (-1) (fun d I J T Q hC g => ⟨fun c => absurd (k0.mp c) (by omega), fun c => absurd (k1.mp c) (by omega), fun _ => br0 (by rw [z]; rfl) g, n4 (Or.inr (Or.inr q))⟩) (fun d I J T Q hB g => ⟨fun c => absurd (k0.mp c) (by omega), fun c => absurd (k1.mp c) (by omega), fun _ => br0 (by rw [z]; rfl) g, n4 (Or.inr (Or.inr q))⟩)
        · refine key (nI (lgA (zL S) (i - 1))) (fun d I J T Q hC g => ⟨fun c => absurd (k0.mp c) (by omega), fun c => absurd (k1.mp c) (by omega), fun _ => br1 (nI_ne0 z (by omega)) ⟨vi1 z, by rw [(clb I hC z).1]; exact g⟩, n4 (Or.inr (Or.inr q))⟩) (fun d I J T Q hB g => ⟨fun c => absurd (k0.mp c) (by omega), fun c => absurd (k1.mp c) (by omega), fun _ => br1 (nI_ne0 z (by omega)) ⟨vi, ?_⟩, n4 (Or.inr (Or.inr q))⟩)
          rw [(lb2 I hB z).1]
          exact g
      · rcases Nat.eq_zero_or_pos i with z | z
        · refine key (-1) (fun d I J T Q hC g => ⟨fun c => absurd (k0.mp c) (by omega), fun c => absurd (k1.mp c) (by omega), fun c => absurd (k2.mp c) (by omega), fun _ _ _ => br0 (by rw [z]; rfl) g⟩) (fun d I J T Q hB g => ⟨fun c => absurd (k0.mp c) (by omega), fun c => absurd (k1.mp c) (by omega), fun c => absurd (k2.mp c) (by omega), fun _ _ _ => br0 (by rw [z]; rfl) g⟩)
        · refine key (nI (lgE (zL S) (i - 1))) (fun d I J T Q hC g => ⟨fun c => absurd (k0.mp c) (by omega), fun c => absurd (k1.mp c) (by omega), fun c => absurd (k2.mp c) (by omega), fun _ _ _ => br1 (nI_ne0 z (by omega)) ⟨vi1 z, by rw [(clb I hC z).2]; exact g⟩⟩) (fun d I J T Q hB g => ⟨fun c => absurd (k0.mp c) (by omega), fun c => absurd (k1.mp c) (by omega), fun c => absurd (k2.mp c) (by omega), fun _ _ _ => br1 (nI_ne0 z (by omega)) ⟨vi, ?_⟩⟩)
          rw [(lb2 I hB z).2]
          exact g
    · refine OPR.look hS (.int (-1000)) (fun d I J T Q h g => ?_) (fun d I J T Q h g => ?_)
      · refine Ev.intro mX11_logged rfl rfl (clogged_0 (d := d + 42) (br1 p1 (br1 (by rw [h.2.2.2.2.2.2.1.1]; exact p2) ?_)))
        by_cases c : y < 0
        · exact br0 c g
        · refine br1 c (br1 ?_ g)
          rcases c1 with c1 | c1
          · exact absurd c1 c
          · rw [Int32.lt_iff_toInt_lt, nI_toInt (by omega)] at c1
            rw [Int32.le_iff_toInt_le, show (3 : Int32).toInt = 3 from rfl]
            omega
      · have e : ¬ v_X12_in (nI i) (0 : Int32) (I 83 48) = 0 := by rw [h.2.2.2.1.1]; exact ne0 p3
        exact Ev.intro mX12_logged rfl rfl (mlogged_0 (d := d + 42) (br1 e (br0 c3 g)))
  · refine OPR.look hS (.int (-1000)) (fun d I J T Q h g => ?_) (fun d I J T Q h g => ?_)
    · refine Ev.intro mX11_logged rfl rfl (clogged_0 (d := d + 42) ?_)
      by_cases c : x < 0
      · exact br0 c g
      · refine br1 c (br0 ?_ g)
        rw [h.2.2.2.2.2.2.1.1]
        rcases p1 with p1 | p1
        · exact absurd p1 c
        · exact p1
    · have e : v_X12_in x (0 : Int32) (I 83 48) = 0 := by rw [h.2.2.2.1.1]; exact p3
      exact Ev.intro mX12_logged rfl rfl (mlogged_0 (d := d + 42) (br0 e g))
