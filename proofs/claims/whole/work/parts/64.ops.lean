/-! LAW, OTHER, RULE: both read a text, both keep it. -/
theorem lc_lt {o : Nat} (h : LC.elem o = false) : 83 ≤ o := by
  have q : allB (fun o => LC.elem o) 83 = true := by decide
  rcases Nat.lt_or_ge o 83 with c | c
  · have := allB_get q o c
    rw [this] at h; cases h
  · exact c
theorem FC.lo {t o : Nat} {I I' : Nat → Nat → Int32} (ht : TX t) (ho : o < 14 ∨ 69 ≤ o) (h : FC t I I') : I' o = I o := by
  unfold TX at ht
  exact h o (nel (by simp; omega))
theorem FC.ot {t t' k : Nat} {I I' : Nat → Nat → Int32} (ht : TX t) (ht' : TX t') (hne : t' ≠ t) (hk : k ≤ 5) (h : FC t I I') : I' (t' + k) = I (t' + k) := by
  unfold TX at ht ht'
  exact h (t' + k) (nel (by simp; omega))
theorem RT.rows {t : Nat} {p : Prg} {I I' : Nat → Nat → Int32} (h : ∀ k, k ≤ 5 → I' (t + k) = I (t + k)) (hr : RT I t p) : RT I' t p := by
  have e0 : I' t = I t := h 0 (by omega)
  unfold RT
  rw [e0, h 1 (by omega), h 2 (by omega), h 3 (by omega), h 4 (by omega), h 5 (by omega)]
  exact hr
theorem kd13 (j : Nat) : kd2 13 j = 2 := rfl
theorem go_txA {E : Cal} {f : Mth} {Q : Option Value → Mem → Prop} {pc n kc ks x : Nat} {L : Lo} {st : List Value} {I : Nat → Nat → Int32} {J : Nat → Nat → Int64} {T : Nat → Nat → Nat} {pc' a0 b ix j0 : Nat} {w i : Int32} {z : Int64} (hE : Mono E) (hx : TX x) (hi : vp_in i 8) (he : lkc f.2.2.2.2.2.1 pc = some (pc', .aastore, n, a0, b, ix, j0, w, z)) (g : Go none aM E f Q (pc + n, L, st, (SH, mkM I J (stt T 13 i.toNatClampNeg x)), kc, ks)) : Go none aM E f Q (pc, L, .ref x :: .int i :: .ref 13 :: st, (SH, mkM I J T), kc, ks) := by
  apply Go.of_exec hE
  unfold exec
  rw [out_eq, he]
  show ex1 E _ Q (cellN SH x 8 fun _ => oChk (vp_in i 8) (pc + n, L, st, (SH, up (mkM I J T) 13 i.toNatClampNeg (.ref x)), kc, ks))
  rw [tx_cell hx, mk_st (show kd2 13 i.toNatClampNeg = 2 from kd13 _)]
  exact ⟨hi, g⟩
theorem ev_tell {d s x : Nat} {I : Nat → Nat → Int32} {J : Nat → Nat → Int64} {T : Nat → Nat → Nat} {Q : Option Value → Mem → Prop} (hs : s < 8) (hx : TX x) (g : Q (some (.ref (T 13 s))) (SH, mkM I J (stt T 13 s x))) : Ev mt aM (d + 2) 22 [.ref 9, .int (nI s), .ref x] (SH, mkM I J T) Q := by
  have v8 : vp_in (nI s) 8 := vp_in_nI hs (by omega)
  refine Ev.intro (d := d + 1) mX2_tell rfl rfl (tlt_0 (d := d) ⟨v8, ?_⟩)
  refine go_txA (Ev.mono _) hx v8 rfl ?_
  rw [nI_clamp (by omega)]
  exact tlt_19 (d := d) g
/-- the state behind a reading -/
def rdS (S : St) (s n : Nat) (hd : Nat → Bool) : St := match rdT (zT S).2 n hd with
  | .inl _ => (zA S, zX S, zL S, (0, (zT S).2), zF S)
  | .inr c => (setP (zA S) s (prgC c), zX S, zL S, (0, (zT S).2), zF S)
theorem rdS_pur {S : St} {s n : Nat} {hd : Nat → Bool} (hS : PUR S) (hn : n ≤ 200) (hh : ∀ c, hd c = true → c < 128) : PUR (rdS S s n hd) := by
  obtain ⟨h1, h2, h3, h4, h5, h6⟩ := hS
  unfold rdS
  cases hr : rdT (zT S).2 n hd with
  | inl e => exact ⟨h1, h2, h3, Nat.zero_le _, fun j hj => absurd hj (Nat.not_lt_zero j), h6⟩
  | inr c => exact ⟨setP_bd h1 (wfc_p hn (wfc_rd hn hh hr).1), h2, h3, Nat.zero_le _, fun j hj => absurd hj (Nat.not_lt_zero j), h6⟩
def HH (h : Nat) (hd : Nat → Bool) : Prop := (h = 1001 ∧ hd = hdL) ∨ (h = 1007 ∧ hd = hdO) ∨ (h = 1008 ∧ hd = hdC)
theorem HH.hd {h : Nat} {hd : Nat → Bool} {T : Nat → Nat → Nat} (k : HH h hd) : HD (stt T 62 2 h) hd := by
  have e : (stt T 62 2 h) 62 2 = h := if_pos ⟨rfl, rfl⟩
  unfold HD
  rw [e]
  exact k
theorem ev_rdt {S : St} (hS : PUR S) {s n h d : Nat} {hd : Nat → Bool} (hs : s < 8) (hn : 1 ≤ n ∧ n ≤ 200 ∧ n ≤ (zT S).1) (hh : HH h hd) {I : Nat → Nat → Int32} {J : Nat → Nat → Int64} {T : Nat → Nat → Nat} {Q : Option Value → Mem → Prop} (H : CINV S I J T) (g : ∀ I' J' T', Fr LC I I' → Fj LC J J' → CINV (rdS S s n hd) I' J' T' → Q (some (.int (ansT (rdT (zT S).2 n hd)))) (SH, mkM I' J' T')) : Ev mt aM (d + 45) 165 [.ref 0, .int (nI s), .int (nI n), .ref h] (SH, mkM I J T) Q := by
  obtain ⟨n1, n2, n3⟩ := hn
  obtain ⟨h1, h2, h3, h4, h5, h6, h7, h8, h9⟩ := H
  have ht := h4.1
  have hl := hS.2.2.2.1
  have hN : BN (zT S).2 n := ⟨n2, fun i hi => hS.2.2.2.2.1 i (by omega)⟩
  have h128 := hd_128 (hh.hd (T := T))
  have tne := ht.ne
  refine Ev.intro (d := d + 44) mX11_readText rfl rfl (rdt_0 (d := d) (br1 (show ¬ nI n < (1 : Int32) from nI_nlt (b := 1) n1 (by omega)) (br1 (show ¬ (200 : Int32) < nI n from nI_nlt (a := 200) n2 (by omega)) (br0 (by rw [h8.1]; exact nI_le n3 (by omega)) (ev_read (d := d + 2) hN hh.hd ht (fun i hi => h8.2 i (by omega)) (fun I1 f1 k1 => rdt_34 (d := d) ?_))))))
  have f2 : FC (T 62 0) I I1 := f1
  -- rows but the texts'
  have lo : ∀ o, o < 14 ∨ 69 ≤ o → o ≠ 7 → (si I1 7 0 (0 : Int32)) o = I o := fun o ho h7 => by rw [si_row h7]; exact f2.lo ht ho
  have e70 : (si I1 7 0 (0 : Int32)) 7 0 = nI 0 := si_at
  have fL : Fr LC I (si I1 7 0 (0 : Int32)) := fun o ho => by
    have := lc_lt ho
    exact lo o (by omega) (by omega)
  -- a text that was not written to
  have old : ∀ t', TX t' → t' ≠ T 62 0 → ∀ p, RT I t' p → RT (si I1 7 0 (0 : Int32)) t' p := fun t' ht' hne p hr => hr.rows (fun k hk => by
    rw [si_row (by have := ht'.ne; omega)]
    exact f2.ot ht ht' hne hk)
  unfold rdS at g
  cases hr : rdT (zT S).2 n hd with
  | inl e =>
    rw [hr] at g
    have fp := fp_rdT n2 h128 hr
    refine br0 (ft_le ⟨by omega, fp.2⟩) (g _ J _ fL (Fj.rfl' _ _) ⟨?_, ?_, h3, ?_, ?_, ?_, ?_, ⟨e70, fun j hj => absurd hj (Nat.not_lt_zero j)⟩, ?_⟩)
    · obtain ⟨a1, a2, a3, a4, a5, a6, a7, a8, a9⟩ := h1
      refine ⟨?_, ?_, ?_, ?_, ?_, ?_, ?_, ?_, fun k hk => ⟨?_, ?_⟩⟩
      · rw [lo 1 (by omega) (by omega)]; exact a1
      · rw [lo 1 (by omega) (by omega)]; exact a2
      · rw [lo 1 (by omega) (by omega)]; exact a3
      · rw [lo 1 (by omega) (by omega)]; exact a4
      · rw [lo 2 (by omega) (by omega)]; exact a5
      · rw [lo 3 (by omega) (by omega)]; exact a6
      · rw [lo 4 (by omega) (by omega)]; exact a7
      · rw [lo 5 (by omega) (by omega)]; exact a8
      · exact (a9 k hk).1
      · exact old _ (a9 k hk).1 (h4.2.1 k hk) _ (a9 k hk).2
    · refine h2.fr (l := [7, 62, T 62 0, T 62 0 + 1, T 62 0 + 2, T 62 0 + 3, T 62 0 + 4, T 62 0 + 5]) (lj := []) ?_ rfl (fun o ho => ?_) (Fj.rfl' _ _)
      · rw [nel (by simp; omega), nel (by simp; omega)]; rfl
      · have h7 : o ≠ 7 := fun z => by subst z; rw [List.elem_iff.mpr (by simp)] at ho; cases ho
        rw [si_row h7]
        refine f2 o (nel (fun z => ?_))
        rw [List.elem_iff.mpr (List.mem_cons_of_mem _ z)] at ho
        cases ho
    · exact ⟨ht, fun k hk => h4.2.1 k hk, fun k k' hk hk' => h4.2.2 k k' hk hk'⟩
    · unfold SMI
      rw [lo 81 (by omega) (by omega)]
      exact h5
    · rw [lo 0 (by omega) (by omega)]; exact h6
    · unfold CL
      rw [lo 76 (by omega) (by omega), lo 77 (by omega) (by omega), lo 78 (by omega) (by omega), lo 79 (by omega) (by omega), lo 80 (by omega) (by omega)]
      exact h7
    · unfold CF
      rw [lo 6 (by omega) (by omega)]
      exact h9
  | inr c =>
    rw [hr] at g k1
    have k1 : KC (zT S).2 n (T 62 0) (.inr c) I1 := k1
    obtain ⟨wf, wm⟩ := wfc_rd n2 h128 hr
    have m14 := wf.2.2.2.1
    refine br1 (nI_nle wm (by omega)) (ev_tell (d := d + 42) hs (show TX ((stt T 62 2 h) 62 0) from ht) (rdt_68 (d := d) (ev_wforget (d := d + 39) (A := setP (zA S) s (prgC c)) (fun J2 j2 w2 => rdt_78 (d := d) ?_))))
    have hR : ∀ I' : Nat → Nat → Int32, (∀ o, o < 69 → I' o = (si I1 7 0 (0 : Int32)) o) → RC (setP (zA S) s (prgC c)) I' (stt (stt (stt T 62 2 h) 13 s (T 62 0)) 62 0 (T 13 s)) := by
      intro I' hI
      obtain ⟨a1, a2, a3, a4, a5, a6, a7, a8, a9⟩ := h1
      have lo' : ∀ o, o < 14 → o ≠ 7 → I' o = I o := fun o ho h7 => (hI o (by omega)).trans (lo o (by omega) h7)
      refine ⟨?_, ?_, ?_, ?_, ?_, ?_, ?_, ?_, fun k hk => ?_⟩
      · rw [lo' 1 (by omega) (by omega)]; exact a1
      · rw [lo' 1 (by omega) (by omega)]; exact a2
      · rw [lo' 1 (by omega) (by omega)]; exact a3
      · rw [lo' 1 (by omega) (by omega)]; exact a4
      · rw [lo' 2 (by omega) (by omega)]; exact a5
      · rw [lo' 3 (by omega) (by omega)]; exact a6
      · rw [lo' 4 (by omega) (by omega)]; exact a7
      · rw [lo' 5 (by omega) (by omega)]; exact a8
      · show TX ((stt (stt (stt T 62 2 h) 13 s (T 62 0)) 62 0 (T 13 s)) 13 k) ∧ RT I' ((stt (stt (stt T 62 2 h) 13 s (T 62 0)) 62 0 (T 13 s)) 13 k) (if k = s then prgC c else qP (zA S) k)
        by_cases q : k = s
        · subst q
          have e : (stt (stt (stt T 62 2 h) 13 k (T 62 0)) 62 0 (T 13 k)) 13 k = T 62 0 := by
            show (if 13 = 62 ∧ k = 0 then _ else if 13 = 13 ∧ k = k then _ else _) = _
            rw [if_neg (by omega), if_pos ⟨rfl, rfl⟩]
          rw [e, if_pos rfl]
          refine ⟨ht, RT.rows (I := I1) (fun i hi => ?_) ?_⟩
          · rw [hI _ (by omega), si_row (by omega)]
          · obtain ⟨b1, b2, b3, b4, b5⟩ := k1
            refine ⟨b3, fun j hj => ?_⟩
            obtain ⟨c1, c2, c3, c4⟩ := b5 j hj
            refine ⟨c1, c2, c3, c4, fun i hi => ?_⟩
            have hw := wf.2.2.2.2 j hj
            have hi : i < c.2.2.2.2.2 j := hi
            exact b1.2.2.2.1.2 i (by omega)
        · have e : (stt (stt (stt T 62 2 h) 13 s (T 62 0)) 62 0 (T 13 s)) 13 k = T 13 k := by
            show (if 13 = 62 ∧ k = 0 then _ else if 13 = 13 ∧ k = s then _ else if 13 = 62 ∧ k = 2 then _ else _) = _
            rw [if_neg (by omega), if_neg (by omega), if_neg (by omega)]
          rw [e, if_neg q]
          refine ⟨(a9 k hk).1, RT.rows (I := si I1 7 0 (0 : Int32)) (fun i hi => ?_) (old _ (a9 k hk).1 (h4.2.1 k hk) _ (a9 k hk).2)⟩
          have := (a9 k hk).1.ne
          exact hI _ (by omega)
    have hT : TXD (stt (stt (stt T 62 2 h) 13 s (T 62 0)) 62 0 (T 13 s)) := by
      have e62 : (stt (stt (stt T 62 2 h) 13 s (T 62 0)) 62 0 (T 13 s)) 62 0 = T 13 s := if_pos ⟨rfl, rfl⟩
      have e13 : ∀ k, (stt (stt (stt T 62 2 h) 13 s (T 62 0)) 62 0 (T 13 s)) 13 k = if k = s then T 62 0 else T 13 k := by
        intro k
        show (if 13 = 62 ∧ k = 0 then _ else if 13 = 13 ∧ k = s then _ else if 13 = 62 ∧ k = 2 then _ else _) = _
        rw [if_neg (by omega), if_neg (show ¬ (13 = 62 ∧ k = 2) by omega)]
        by_cases q : k = s
        · rw [if_pos ⟨rfl, q⟩, if_pos q]
        · rw [if_neg (fun z => q z.2), if_neg q]
      refine ⟨by rw [e62]; exact (h1.2.2.2.2.2.2.2.2 s hs).1, fun k hk => ?_, fun k k' hk hk' hkk => ?_⟩
      · rw [e62, e13]
        by_cases q : k = s
        · rw [if_pos q]; exact fun z => h4.2.1 s hs z.symm
        · rw [if_neg q]; exact h4.2.2 k s hk hs q
      · rw [e13, e13]
        by_cases q : k = s
        · rw [if_pos q, if_neg (fun z => hkk (q.trans z.symm))]
          exact fun z => h4.2.1 k' hk' z.symm
        · rw [if_neg q]
          by_cases q' : k' = s
          · rw [if_pos q']; exact h4.2.1 k hk
          · rw [if_neg q']; exact h4.2.2 k k' hk hk' hkk
    -- what both ends share
    have fin : ∀ (I' : Nat → Nat → Int32) (J' : Nat → Nat → Int64), Fr [69] (si I1 7 0 (0 : Int32)) I' → Fj [72, 75] J J' → IB (setP (zA S) s (prgC c)) I' J' → IW (setP (zA S) s (prgC c)) J' → Q (some (.int (ansT (.inr c)))) (SH, mkM I' J' (stt (stt (stt T 62 2 h) 13 s (T 62 0)) 62 0 (T 13 s))) := by
      intro I' J' fi fj hb hw
      have lo2 : ∀ o, o < 14 ∨ 69 < o → o ≠ 7 → I' o = I o := fun o ho h7 => (fi o (nel (by simp; omega))).trans (lo o (by omega) h7)
      refine g I' J' _ (fun o ho => ?_) (fj.sub rfl) ⟨hR I' (fun o ho => fi o (nel (by simp; omega))), hb, hw, hT, ?_, ?_, ?_, ⟨?_, fun j hj => absurd hj (Nat.not_lt_zero j)⟩, ?_⟩
      · have := lc_lt ho
        exact lo2 o (by omega) (by omega)
      · show I' 81 2 = 1 ∨ (I' 81 2 = 0 ∧ SMO (qG (zA S)) (qX (zA S)) J')
        unfold SMO
        rw [lo2 81 (by omega) (by omega), fj 82 rfl]
        exact h5
      · rw [lo2 0 (by omega) (by omega)]; exact h6
      · unfold CL
        rw [lo2 76 (by omega) (by omega), lo2 77 (by omega) (by omega), lo2 78 (by omega) (by omega), lo2 79 (by omega) (by omega), lo2 80 (by omega) (by omega)]
        exact h7
      · rw [fi 7 rfl]; exact e70
      · unfold CF
        rw [lo2 6 (by omega) (by omega)]
        exact h9
    by_cases c4 : s < 4
    · refine br1 (nI_ge (b := 4) c4 (by omega)) (ev_bforget (d := d + 39) (A := setP (zA S) s (prgC c)) ?_ (fun I3 J3 f3 j3 b3 => rdt_90 (d := d) (fin I3 J3 f3 ((j2.sub rfl).trans (j3.sub rfl)) b3 (w2.fr rfl j3))))
      have := h2.1
      unfold RK at this ⊢
      rw [lo 70 (by omega) (by omega)]
      exact this
    · refine br0 (nI_le (a := 4) (by omega) (by omega)) (fin _ J2 (Fr.rfl' _ _) (j2.sub rfl) (sp_ib (by omega) ?_) w2)
      refine h2.fr (l := [7, 62, T 62 0, T 62 0 + 1, T 62 0 + 2, T 62 0 + 3, T 62 0 + 4, T 62 0 + 5]) (lj := [75]) ?_ rfl (fun o ho => ?_) j2
      · rw [nel (by simp; omega), nel (by simp; omega)]; rfl
      · have h7 : o ≠ 7 := fun z => by subst z; rw [List.elem_iff.mpr (by simp)] at ho; cases ho
        rw [si_row h7]
        refine f2 o (nel (fun z => ?_))
        rw [List.elem_iff.mpr (List.mem_cons_of_mem _ z)] at ho
        cases ho
