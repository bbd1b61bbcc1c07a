/-! DRAW: a match by the RULE, the lots drawn by X. -/
def nxX (x : Nat) : Nat := (25173 * x + 13849) % 65536
def drE (h : Nat → Nat) : Nat → Nat → Nat → Nat
  | 0, _, _ => 0
  | f + 1, i, le => if le < h i then i else drE h f (i + 1) (le - h i)
theorem drE_ok (h : Nat → Nat) : ∀ f i le, drE h f i le = 0 ∨ (i ≤ drE h f i le ∧ drE h f i le < i + f ∧ h (drE h f i le) ≠ 0) := by
  intro f
  induction f with
  | zero => intro i le; exact Or.inl rfl
  | succ f ih =>
    intro i le
    unfold drE
    by_cases c : le < h i
    · rw [if_pos c]; exact Or.inr ⟨Nat.le_refl _, by omega, by omega⟩
    · rw [if_neg c]
      rcases ih (i + 1) (le - h i) with q | ⟨q1, q2, q3⟩
      · exact Or.inl q
      · exact Or.inr ⟨by omega, by omega, q3⟩
/-- what is played in the PERIOD to come, and what happens in it -/
def drA (A : Tm) (k oth : Nat) (L : Lg) : Nat := rA A k oth (lgN L) (lgS L (lgN L)) (lgO L (lgN L))
def drH (A : Tm) (k oth : Nat) (L : Lg) (x : Nat) : Nat := drE (shN A oth (qC A) 0 (lgN L) (lgS L (lgN L)) (lgO L (lgN L)) (drA A k oth L)) 4 1 (nxX x % 100)
def drL (A : Tm) (k oth : Nat) (L : Lg) (x : Nat) : Lg := psL A L (drA A k oth L) (drH A k oth L x)
def drN (A : Tm) (k oth : Nat) : Nat → Lg → Nat → Lg × Nat
  | 0, L, x => (L, x)
  | f + 1, L, x => drN A k oth f (drL A k oth L x) (nxX x)
theorem drH_ok {A : Tm} {k oth : Nat} {L : Lg} {x : Nat} : drH A k oth L x < 5 ∧ (3 ≤ drH A k oth L x → wh (aftF A (lgO L (lgN L)) (drA A k oth L)) (drH A k oth L x - 3) ≠ 9) := by
  rcases drE_ok (shN A oth (qC A) 0 (lgN L) (lgS L (lgN L)) (lgO L (lgN L)) (drA A k oth L)) 4 1 (nxX x % 100) with q | ⟨q1, q2, q3⟩
  · have q : drH A k oth L x = 0 := q
    rw [q]
    exact ⟨by omega, fun c => by omega⟩
  · have q2 : drH A k oth L x < 1 + 4 := q2
    exact ⟨by omega, fun c => sh_who A (lgN L) (scI (lgS L (lgN L))) _ _ _ _ _ _ ⟨c, by omega⟩ q3⟩
theorem drA_ok {A : Tm} {k oth : Nat} {L : Lg} (h : LV A L) : drA A k oth L < 49 ∧ mayF (lgO L (lgN L)) (drA A k oth L) (qC A) (qO A) = true := by
  obtain ⟨c1, c2, c3⟩ := h.2.2.2.1 _ (Nat.le_refl _)
  exact rA_may c1 c2
theorem drL_lv {A : Tm} {k oth : Nat} {L : Lg} {x : Nat} (hA : BD A) (h : LV A L) (hn : lgN L < qN A) : LV A (drL A k oth L x) := psL_lv hA h hn (drA_ok h).1 (drA_ok h).2 drH_ok.1
theorem drN_ok {A : Tm} {k oth : Nat} (hA : BD A) : ∀ f (L : Lg) x, LV A L → lgN L + f = qN A → x < 65536 → LV A (drN A k oth f L x).1 ∧ lgN (drN A k oth f L x).1 = qN A ∧ (drN A k oth f L x).2 < 65536 := by
  intro f
  induction f with
  | zero => intro L x h hn hx; exact ⟨h, (show lgN L = qN A by omega), hx⟩
  | succ f ih =>
    intro L x h hn hx
    exact ih _ _ (drL_lv hA h (by omega)) (show lgN L + 1 + f = qN A by omega) (Nat.mod_lt _ (by omega))
theorem x_nx {x : Nat} (hx : x < 65536) : (((25173 : Int32) * nI x) + (13849 : Int32)) - (((25173 : Int32) * nI x) + (13849 : Int32)) / (65536 : Int32) * (65536 : Int32) = nI (nxX x) ∧ nI (nxX x) - nI (nxX x) / (100 : Int32) * (100 : Int32) = nI (nxX x % 100) := by
  have hm : nxX x < 65536 := Nat.mod_lt _ (by omega)
  refine ⟨?_, ?_⟩
  · rw [show (25173 : Int32) = nI 25173 from rfl, show (13849 : Int32) = nI 13849 from rfl, show (65536 : Int32) = nI 65536 from rfl, pk_mul, nI_add, pk_rem (by omega) (by omega) (by omega)]
    rfl
  · rw [show (100 : Int32) = nI 100 from rfl, pk_rem (by omega) (by omega) (by omega)]
theorem dpe_end {d a : Nat} {sh le : Int32} {e i : Nat} {I : Nat → Nat → Int32} {J : Nat → Nat → Int64} {T : Nat → Nat → Nat} {P : (Nat → Nat → Int32) → Prop} {Q : Option Value → Mem → Prop} (he : 1 ≤ e ∧ e < 100) (hi : i ≤ 5) (H : ∀ Q' : Option Value → Mem → Prop, (∀ I' v, P I' → Q' (some (.int v)) (SH, mkM I' J T)) → Ev mt aM (d + 7) 14 [.ref 76, .int (nI a), .int (nI e)] (SH, mkM I J T) Q') (g : ∀ I', P I' → Q none (SH, mkM I' J T)) : Go none aM (Ev mt aM (d + 7)) mX11_drawPeriod Q (126, [some (.ref 0), none, none, none, none, none, none, some (.int (nI a)), none, some (.int sh), some (.int le), some (.int (nI e)), some (.int (nI i)), none], [], (SH, mkM I J T), 0, 0) := by
  refine dpe_126 ?_
  by_cases c : 4 < i
  · exact br0 (nI_lt (a := 4) c (by omega)) (H _ (fun I' v p => dpe_181 (g I' p)))
  · exact br1 (nI_nlt (a := 4) (by omega) (by omega)) (br1 (nI_ne0 he.1 (by omega)) (H _ (fun I' v p => dpe_181 (g I' p))))
theorem dpe_loop {d a : Nat} {sh : Int32} {h : Nat → Nat} {I : Nat → Nat → Int32} {J : Nat → Nat → Int64} {T : Nat → Nat → Nat} {P : (Nat → Nat → Int32) → Prop} {Q : Option Value → Mem → Prop} (hs : ∀ e, e < 5 → v_X2_shareOf sh (nI e) = nI (h e) ∧ h e ≤ 100) (g : ∀ I', P I' → Q none (SH, mkM I' J T)) : ∀ f i le, f + i = 5 → 1 ≤ i → le < 100 → (∀ Q' : Option Value → Mem → Prop, (∀ I' v, P I' → Q' (some (.int v)) (SH, mkM I' J T)) → Ev mt aM (d + 7) 14 [.ref 76, .int (nI a), .int (nI (drE h f i le))] (SH, mkM I J T) Q') → Go none aM (Ev mt aM (d + 7)) mX11_drawPeriod Q (126, [some (.ref 0), none, none, none, none, none, none, some (.int (nI a)), none, some (.int sh), some (.int (nI le)), some (.int 0), some (.int (nI i)), none], [], (SH, mkM I J T), 0, 0) := by
  intro f
  induction f with
  | zero =>
    intro i le hf hi hle H
    exact dpe_126 (br0 (nI_lt (a := 4) (by omega) (by omega)) (H _ (fun I' v p => dpe_181 (g I' p))))
  | succ f ih =>
    intro i le hf hi hle H
    unfold drE at H
    refine dpe_126 (br1 (nI_nlt (a := 4) (by omega) (by omega)) (br0 rfl ?_))
    obtain ⟨s1, s2⟩ := hs i (by omega)
    rw [s1, nI_1]
    by_cases c : le < h i
    · rw [if_pos c] at H
      exact br1 (nI_ge c (by omega)) (dpe_end ⟨hi, by omega⟩ (by omega) H g)
    · rw [if_neg c] at H
      refine br0 (nI_le (by omega) (by omega)) ?_
      rw [pk_sub (by omega)]
      exact ih (i + 1) (le - h i) (by omega) (by omega) (by omega) H
theorem ev_dper {A : Tm} {k oth x : Nat} {L : Lg} (hA : BD A) (hk : k < 4) (ho : oth < 3) (hL : LV A L) (hn : lgN L < qN A) (hx : x < 65536) {d : Nat} {I : Nat → Nat → Int32} {J : Nat → Nat → Int64} {T : Nat → Nat → Nat} {Q : Option Value → Mem → Prop} (hR : RC A I T) (hC : CL L I) (h8 : I 0 8 = nI x) (g : ∀ I', Fr [0, 10, 11, 12, 76, 77, 78, 79, 80] I I' → CL (drL A k oth L x) I' → I' 0 8 = nI (nxX x) → Q none (SH, mkM I' J T)) : Ev mt aM (d + 8) 172 [.ref 0, .int (nI k), .int (nI oth), .int (nI (lgN L))] (SH, mkM I J T) Q := by
  have h5 := hA.1.2
  obtain ⟨co, cm, cs⟩ := hL.2.2.2.1 _ (Nat.le_refl (lgN L))
  obtain ⟨ra, rm⟩ := drA_ok (k := k) (oth := oth) hL
  obtain ⟨he, hw⟩ := drH_ok (A := A) (k := k) (oth := oth) (L := L) (x := x)
  obtain ⟨p1, p2⟩ := aft_pre co ra rm
  have v6 : vp_in (nI (lgN L)) 6 := vp_in_nI (by omega) (by omega)
  have e1 : v_X1_scoreBehind (nI (lgN L)) I = scI (lgS L (lgN L)) := by
    show I 78 (nI (lgN L)).toNatClampNeg = _
    rw [nI_clamp (by omega)]
    exact (hC.2.1 _ (Nat.le_refl _)).2
  have e2 : v_X1_codeBehind (nI (lgN L)) I = dI (lgO L (lgN L)) := by
    show I 77 (nI (lgN L)).toNatClampNeg = _
    rw [nI_clamp (by omega)]
    exact (hC.2.1 _ (Nat.le_refl _)).1
  refine Ev.intro mX11_drawPeriod rfl rfl (dpe_0 (d := d) ⟨v6, v6, ?_⟩)
  rw [e1, e2]
  refine ev_strongOf (d := d + 2) (A := A) hA hR ho (fun I1 f1 => dpe_31 (d := d) ?_)
  refine ev_ruleAction (d := d + 2) (A := A) hA (hR.fr rfl f1) hk (by omega) co (fun I2 f2 => dpe_48 (d := d) ?_)
  have f12 := f1.trans f2
  have r2 := hR.fr rfl f12
  obtain ⟨c1, _, _, c4, _⟩ := aft_all (M := I2) co hA ra rm
  have c4 := c4 r2.2.2.2.2.2.1
  refine ⟨p1, p2, ?_⟩
  rw [show ruF A k (lgN L) (scI (lgS L (lgN L))) (lgO L (lgN L)) (stF A oth (lgN L) (scI (lgS L (lgN L)))) = drA A k oth L from rfl, c4, ch_c ra, r2.2.1]
  refine ev_shares (d := d + 2) (A := A) (x := chN (drA A k oth L)) (st := stF A oth (lgN L) (scI (lgS L (lgN L)))) (most := qC A) (pace := 0) (sc := scI (lgS L (lgN L))) hA r2 (by omega) (by omega) c1 (fun I3 f3 => dpe_90 (d := d) ?_)
  have f13 : Fr [10, 11, 12] I I3 := f12.trans f3
  obtain ⟨x1, x2⟩ := x_nx hx
  rw [show I3 0 8 = nI x by rw [f13 0 rfl]; exact h8, x1, x2]
  have f4 : Fr [0, 10, 11, 12] I (si I3 0 8 (nI (nxX x))) := (f13.sub rfl).to rfl
  have r4 : RC A (si I3 0 8 (nI (nxX x))) T := hR.fr rfl f4
  have k4 : CL L (si I3 0 8 (nI (nxX x))) := hC.fr rfl f4
  refine dpe_loop (P := fun I' => Fr [0, 10, 11, 12, 76, 77, 78, 79, 80] I I' ∧ CL (drL A k oth L x) I' ∧ I' 0 8 = nI (nxX x)) (h := shN A oth (qC A) 0 (lgN L) (lgS L (lgN L)) (lgO L (lgN L)) (drA A k oth L)) (fun e he => ⟨shOf_c A oth (qC A) 0 (lgN L) (lgS L (lgN L)) (lgO L (lgN L)) (drA A k oth L) e he, shN_le A oth (qC A) 0 (lgN L) (lgS L (lgN L)) (lgO L (lgN L)) (drA A k oth L) e he⟩) (fun I' p => g I' p.1 p.2.1 p.2.2) 4 1 (nxX x % 100) (by omega) (by omega) (Nat.mod_lt _ (by omega)) (fun Q' q => ?_)
  show Ev mt aM (d + 7) 14 [.ref 76, .int (nI (drA A k oth L)), .int (nI (drH A k oth L x))] (SH, mkM (si I3 0 8 (nI (nxX x))) J T) Q'
  obtain ⟨t1, t2, t3, t4⟩ := tell_yes hA r4 k4 hL hn ra rm he hw
  refine ev_X1_tell (d := d + 2) ⟨?_, tell_pre hA r4 k4 hL ra⟩ (q _ _ ⟨(f4.sub rfl).trans (t2.sub rfl), t3, ?_⟩)
  · rw [k4.1]; exact v6
  · rw [t2 0 rfl]; exact si_at
theorem drw_go {A : Tm} {k oth : Nat} (hA : BD A) (hk : k < 4) (ho : oth < 3) {d : Nat} {I0 : Nat → Nat → Int32} {J : Nat → Nat → Int64} {T : Nat → Nat → Nat} {Q : Option Value → Mem → Prop} (hR : RC A I0 T) : ∀ (f : Nat) (L : Lg) (x : Nat) (I : Nat → Nat → Int32), LV A L → lgN L + f = qN A → x < 65536 → Fr [0, 10, 11, 12, 76, 77, 78, 79, 80] I0 I → CL L I → I 0 8 = nI x → (∀ I', Fr [0, 10, 11, 12, 76, 77, 78, 79, 80] I0 I' → CL (drN A k oth f L x).1 I' → I' 0 8 = nI (drN A k oth f L x).2 → Q (some (.int (scI (lgS (drN A k oth f L x).1 (qN A))))) (SH, mkM I' J T)) → Go none aM (Ev mt aM (d + 8)) mX11_draw Q (41, [some (.ref 0), some (.int (nI k)), some (.int (nI oth)), some (.int (nI (lgN L)))], [], (SH, mkM I J T), 0, 0) := by
  have h5 := hA.1.2
  intro f
  induction f with
  | zero =>
    intro L x I hL hn hx hf hC h8 g
    have r := hR.fr rfl hf
    have en : lgN L = qN A := by omega
    refine drw_41 (d := d) (br0 ?_ ⟨?_, ?_⟩)
    · rw [r.1, en]; exact nI_le (Nat.le_refl _) (by omega)
    · rw [hC.1]; exact vp_in_nI (by omega) (by omega)
    · have e1 : v_X1_scoreBehind (I 76 0) I = scI (lgS L (qN A)) := by
        show I 78 (I 76 0).toNatClampNeg = _
        rw [hC.1, nI_clamp (by omega), ← en]
        exact (hC.2.1 _ (Nat.le_refl _)).2
      rw [e1]
      exact g I hf hC h8
  | succ f ih =>
    intro L x I hL hn hx hf hC h8 g
    have r := hR.fr rfl hf
    refine drw_41 (d := d) (br1 ?_ (ev_dper hA hk ho hL (by omega) hx r hC h8 (fun I' f' c' x' => drw_59 (d := d) ?_)))
    · rw [r.1]; exact nI_ge (by omega) (by omega)
    · rw [nI_1]
      exact ih (drL A k oth L x) (nxX x) I' (drL_lv hA hL (by omega)) (show lgN L + 1 + f = qN A by omega) (Nat.mod_lt _ (by omega)) (hf.trans f') c' x' g
/-- the reference's state while it draws -/
def MD (A : Tm) (L : Lg) (x : Nat) (I0 I : Nat → Nat → Int32) : Prop := RM A I ∧ RN (qC A) (qO A) 0 I ∧ I 83 3 = nI x ∧ LB L I ∧ I 83 11 = I0 83 11 ∧ Fr [83, 103, 104, 105, 113, 114, 115, 116] I0 I
theorem MD.fr {A : Tm} {L : Lg} {x : Nat} {I0 I I' : Nat → Nat → Int32} (h : MD A L x I0 I) (f : Fr [103, 104, 105] I I') : MD A L x I0 I' := by
  obtain ⟨h1, h2, h3, h4, h5, h6⟩ := h
  refine ⟨h1.fr rfl f, h2.fr rfl f, by rw [f 83 rfl]; exact h3, ⟨h4.1.fr rfl f, by rw [f 113 rfl]; exact h4.2.1, by rw [f 114 rfl]; exact h4.2.2⟩, by rw [f 83 rfl]; exact h5, h6.trans (f.sub rfl)⟩
theorem mdr_log {A : Tm} {k oth x : Nat} {L : Lg} {I0 I : Nat → Nat → Int32} {a e : Nat} (hA : BD A) (hL : LV A L) (hn : lgN L < qN A) (ra : a < 49) (rm : mayF (lgO L (lgN L)) a (qC A) (qO A) = true) (he : e < 5) (hw : 3 ≤ e → wh (aftF A (lgO L (lgN L)) a) (e - 3) ≠ 9) (h : MD A L x I0 I) : MD A (psL A L a e) x I0 (i_X12_logs (nI a) (nI e) I) ∧ vp_in (I 83 48) 6 ∧ vp_in (I 83 48 + (1 : Int32)) 6 ∧ ((¬ (nI a = 0)) → (vp_in (v_X12_playerOf (v_X12_firstOf (nI a))) 5 ∧ ((7 : Int32) ≤ nI a → vp_in (v_X12_playerOf (v_X12_secondOf (nI a))) 5))) := by
  have h5 := hA.1.2
  obtain ⟨co, cm, cs⟩ := hL.2.2.2.1 _ (Nat.le_refl (lgN L))
  obtain ⟨h1, h2, h3, h4, h5', h6⟩ := h
  have lc := logs_c hA h1 h2.2.2 h4 hL hn ra rm he hw
  have lb := logs_lb (A := A) (a := a) (e := e) h4
  have hk : I 83 48 = nI (lgN L) := h4.1.1
  refine ⟨?_, by rw [hk]; exact vp_in_nI (by omega) (by omega), by rw [hk, nI_1]; exact vp_in_nI (by omega) (by omega), beh_pre co ra rm⟩
  rw [lc]
  have f : Fr [83, 113, 114, 115, 116] I (si (si (si (si (si I 113 (lgN L + 1) (nI (nxtF A (aftF A (lgO L (lgN L)) a) e 0))) 114 (lgN L + 1) (scI (scN (lgS L (lgN L)) e))) 83 48 (nI (lgN L + 1))) 115 (lgN L + 1) (nI a)) 116 (lgN L + 1) (nI e)) := (Fr.rfl' _ _).to rfl |>.to rfl |>.to rfl |>.to rfl |>.to rfl
  have e83 : ∀ j, j ≠ 48 → (si (si (si (si (si I 113 (lgN L + 1) (nI (nxtF A (aftF A (lgO L (lgN L)) a) e 0))) 114 (lgN L + 1) (scI (scN (lgS L (lgN L)) e))) 83 48 (nI (lgN L + 1))) 115 (lgN L + 1) (nI a)) 116 (lgN L + 1) (nI e)) 83 j = I 83 j := fun j hj => by
    rw [si_row (by omega), si_row (by omega), si_ne hj, si_row (by omega), si_row (by omega)]
  refine ⟨h1.fr83 rfl f (e83 0 (by omega)) (e83 1 (by omega)) (e83 2 (by omega)), ?_, by rw [e83 3 (by omega)]; exact h3, lb, by rw [e83 11 (by omega)]; exact h5', h6.trans (f.sub rfl)⟩
  unfold RN
  rw [e83 34 (by omega), e83 35 (by omega), e83 36 (by omega)]; exact h2
theorem mdr_go {A : Tm} {k oth : Nat} (hA : BD A) (hk : k < 4) (ho : oth < 3) {d : Nat} {I0 : Nat → Nat → Int32} {J : Nat → Nat → Int64} {T : Nat → Nat → Nat} {Q : Option Value → Mem → Prop} : ∀ (f : Nat) (L : Lg) (x : Nat) (I : Nat → Nat → Int32), LV A L → lgN L + f = qN A → x < 65536 → MD A L x I0 I → (∀ I', MD A (drN A k oth f L x).1 (drN A k oth f L x).2 I0 I' → Q (some (.int (scI (lgS (drN A k oth f L x).1 (qN A))))) (SH, mkM I' J T)) → Go none aM (Ev mt aM (d + 8)) mX12_draw Q (28, [some (.ref 83), some (.int (nI k)), some (.int (nI oth)), none, none, none], [], (SH, mkM I J T), 0, 0) := by
  have h5 := hA.1.2
  intro f
  induction f with
  | zero =>
    intro L x I hL hn hx h g
    have en : lgN L = qN A := by omega
    refine mdr_28 (d := d) (br0 ?_ ⟨?_, ?_⟩)
    · rw [h.1.1, h.2.2.2.1.1.1, en]; exact nI_le (Nat.le_refl _) (by omega)
    · rw [h.1.1]; exact vp_in_nI (by omega) (by omega)
    · rw [h.1.1, nI_clamp (by omega), (h.2.2.2.1.at hL (show qN A ≤ lgN L by omega)).2]
      exact g I h
  | succ f ih =>
    intro L x I hL hn hx h g
    obtain ⟨co, cm, cs⟩ := hL.2.2.2.1 _ (Nat.le_refl (lgN L))
    obtain ⟨ra, rm⟩ := drA_ok (k := k) (oth := oth) hL
    obtain ⟨he, hw⟩ := drH_ok (A := A) (k := k) (oth := oth) (L := L) (x := x)
    have hk8 : ∀ I, MD A L x I0 I → I 83 48 = nI (lgN L) := fun I h => h.2.2.2.1.1.1
    have v6 : vp_in (nI (lgN L)) 6 := vp_in_nI (by omega) (by omega)
    obtain ⟨b1, b2⟩ := h.2.2.2.1.at hL (Nat.le_refl _)
    refine mdr_28 (d := d) (br1 ?_ ?_)
    · rw [h.1.1, hk8 I h]; exact nI_ge (by omega) (by omega)
    rw [hk8 I h, nI_clamp (by omega), b1, b2]
    refine ⟨v6, v6, ev_ruled (d := d + 1) (A := A) hA h.1 h.2.1 hk ho (by omega) co (fun I1 f1 => mdr_67 (d := d) ?_)⟩
    have h1 := h.fr (f1.sub rfl)
    obtain ⟨b1, b2⟩ := h1.2.2.2.1.at hL (Nat.le_refl _)
    obtain ⟨c1, _, _, _, c5⟩ := aft_all (M := I1) co hA ra rm
    rw [hk8 I1 h1, nI_clamp (by omega), b1, b2, show ruF A k (lgN L) (scI (lgS L (lgN L))) (lgO L (lgN L)) (stF A oth (lgN L) (scI (lgS L (lgN L)))) = drA A k oth L from rfl, c5 h1.1.2.2.2.2.2.1, act_may co ra rm]
    refine ⟨v6, v6, beh_pre co ra rm, ev_lots (d := d + 1) (A := A) hA h1.1 h1.2.1 ho (by omega) (by omega) c1 (fun I2 f2 m2 => mdr_104 (d := d) ?_)⟩
    have h2 := h1.fr (f2.sub rfl)
    obtain ⟨x1, x2⟩ := x_nx hx
    rw [h2.2.2.1, x1, x2]
    have f3 : Fr [83] I2 (si I2 83 3 (nI (nxX x))) := (Fr.rfl' _ _).to rfl
    have h3 : MD A L (nxX x) I0 (si I2 83 3 (nI (nxX x))) := by
      obtain ⟨g1, g2, g3, g4, g5, g6⟩ := h2
      refine ⟨g1.fr83 rfl f3 (si_ne (by omega)) (si_ne (by omega)) (si_ne (by omega)), ?_, si_at, ⟨?_, by rw [f3 113 rfl]; exact g4.2.1, by rw [f3 114 rfl]; exact g4.2.2⟩, by rw [si_ne (by omega)]; exact g5, g6.trans (f3.sub rfl)⟩
      · unfold RN; rw [si_ne (by omega), si_ne (by omega), si_ne (by omega)]; exact g2
      · unfold ML; rw [si_ne (by omega), si_row (by omega), si_row (by omega), si_row (by omega), si_row (by omega)]; exact g4.1
    have m3 : ∀ w, w < 4 → (si I2 83 3 (nI (nxX x))) 105 w = nI (shN A oth (qC A) 0 (lgN L) (lgS L (lgN L)) (lgO L (lgN L)) (drA A k oth L) (w + 1)) := fun w hw4 => by
      rw [si_row (by omega), m2 w (by omega), show evC w = w + 1 from if_neg (by omega)]
      rfl
    have fin : ∀ e, e = drH A k oth L x → Go none aM (Ev mt aM (d + 8)) mX12_draw Q (28, [some (.ref 83), some (.int (nI k)), some (.int (nI oth)), none, none, none], [], (SH, mkM (i_X12_logs (nI (drA A k oth L)) (nI e) (si I2 83 3 (nI (nxX x)))) J T), 0, 0) := fun e q => by
      subst q
      exact ih (drL A k oth L x) (nxX x) _ (drL_lv hA hL (by omega)) (show lgN L + 1 + f = qN A by omega) (Nat.mod_lt _ (by omega)) (mdr_log (k := k) (oth := oth) hA hL (by omega) ra rm he hw h3).1 g
    obtain ⟨_, y1, y2, y3⟩ := mdr_log (k := k) (oth := oth) hA hL (by omega) ra rm he hw h3
    have loop : ∀ (n w le : Nat), n + w = 4 → le < 100 → drE (shN A oth (qC A) 0 (lgN L) (lgS L (lgN L)) (lgO L (lgN L)) (drA A k oth L)) n (w + 1) le = drH A k oth L x → Go none aM (Ev mt aM (d + 8)) mX12_draw Q (136, [some (.ref 83), some (.int (nI k)), some (.int (nI oth)), some (.int (nI (drA A k oth L))), some (.int (nI le)), some (.int (nI w))], [], (SH, mkM (si I2 83 3 (nI (nxX x))) J T), 0, 0) := by
      intro n
      induction n with
      | zero =>
        intro w le hn4 hle q
        have hw4 : w = 4 := by omega
        subst hw4
        exact mdr_136 (d := d) (br0 (nI_le (a := 4) (by omega) (by omega)) (br0 rfl ⟨y1, y3, y2, y1, y2, y2, y2, fin 0 q⟩))
      | succ n ihn =>
        intro w le hn4 hle q
        have sle := shN_le A oth (qC A) 0 (lgN L) (lgS L (lgN L)) (lgO L (lgN L)) (drA A k oth L) (w + 1) (by omega)
        unfold drE at q
        refine mdr_136 (d := d) (br1 (nI_ge (b := 4) (by omega) (by omega)) ⟨vp_in_nI (by omega) (by omega), ?_⟩)
        rw [nI_clamp (by omega), m3 w (by omega), nI_1]
        by_cases c : le < shN A oth (qC A) 0 (lgN L) (lgS L (lgN L)) (lgO L (lgN L)) (drA A k oth L) (w + 1)
        · rw [if_pos c] at q
          exact br0 (nI_lt c (by omega)) (br1 (fun z => by have := (nI_eq (b := 4) (by omega) (by omega)).mp z; omega) ⟨y1, y3, y2, y1, y2, y2, y2, fin (w + 1) q⟩)
        · rw [if_neg c] at q
          refine br1 (nI_nlt (by omega) (by omega)) ⟨vp_in_nI (by omega) (by omega), ?_⟩
          rw [pk_sub (by omega)]
          exact ihn (w + 1) _ (by omega) (by omega) q
    exact loop 4 0 (nxX x % 100) (by omega) (Nat.mod_lt _ (by omega)) rfl
theorem op_draw {S : St} (hS : PUR S) (x1 x2 : Int32) : OPR S 149 277 [.int x1, .int x2] := by
  have hA := hS.1
  have h5 := hA.1.2
  have refuse : ∀ (_ : ∀ (I : Nat → Nat → Int32) (T : Nat → Nat → Nat), RC (zA S) I T → v_X11_isRule x1 = 0 ∨ (¬ v_X11_isRule x1 = 0 ∧ vp_in ((4 : Int32) + x1) 8 ∧ TX (T 13 ((4 : Int32) + x1).toNatClampNeg) ∧ (v_X2_isTold ((4 : Int32) + x1) I T = 0 ∨ v_X11_isOther x2 = 0))) (_ : ∀ I : Nat → Nat → Int32, RM (zA S) I → ((¬ (x1 < 0)) → ((¬ ((4 : Int32) ≤ x1)) → vp_in ((3 : Int32) + x1) 8)) ∧ (v_X12_isRule x1 I = 0 ∨ v_X12_isOther x2 = 0)), OPR S 149 277 [.int x1, .int x2] := by
    intro hc hm
    refine OPR.look hS (.int (-1000)) (fun d I J T Q h g => ?_) (fun d I J T Q h g => ?_)
    · refine Ev.intro mX11_draw rfl rfl (drw_0 (d := d + 41) ?_)
      rcases hc I T h.1 with q | ⟨q, v, t, q2⟩
      · exact br0 q g
      refine br1 q ⟨v, t, ?_⟩
      by_cases k1 : v_X2_isTold ((4 : Int32) + x1) I T = 0
      · exact br0 k1 g
      refine br1 k1 (br0 ?_ g)
      rcases q2 with q2 | q2
      · exact absurd q2 k1
      · exact q2
    · obtain ⟨v, q⟩ := hm I h.1
      refine Ev.intro mX12_draw rfl rfl (mdr_0 (d := d + 41) ⟨v, ?_⟩)
      by_cases k1 : v_X12_isRule x1 I = 0
      · exact br0 k1 g
      refine br1 k1 (br0 ?_ g)
      rcases q with q | q
      · exact absurd q k1
      · exact q
  rcases rt_c x1 hA with ⟨k, hk, rfl, r1, r2, r3, r4⟩ | ⟨r1, r2⟩
  · rcases oth_c x2 with ⟨b, hb, rfl, o1, o2⟩ | ⟨o1, o2⟩
    · clear refuse
      have hL0 : LV (zA S) (ctL (zL S) 0) := ctL_lv hS.2.1 (Nat.zero_le _)
      obtain ⟨z1, z2, z3⟩ := drN_ok (k := k) (oth := b) hA (qN (zA S)) (ctL (zL S) 0) (zX S) hL0 (show 0 + qN (zA S) = qN (zA S) by omega) hS.2.2.1
      refine ⟨.int (scI (lgS (drN (zA S) k b (qN (zA S)) (ctL (zL S) 0) (zX S)).1 (qN (zA S)))), (zA S, (drN (zA S) k b (qN (zA S)) (ctL (zL S) 0) (zX S)).2, (drN (zA S) k b (qN (zA S)) (ctL (zL S) 0) (zX S)).1, zT S, zF S), ⟨hA, z1, z3, hS.2.2.2⟩, fun d I J T Q h g => ?_, fun d I J T Q h g => ?_⟩
      · obtain ⟨t1, t2, t3⟩ := r3 I T h.1
        have f0 : Fr [76] I (si I 76 0 (0 : Int32)) := (Fr.rfl' _ _).to rfl
        obtain ⟨k1, k2, k3⟩ := h.2.2.2.2.2.2.1
        refine Ev.intro mX11_draw rfl rfl (drw_0 (d := d + 41) (br1 (ne0 r1) ⟨t2, t3, br1 t1 (br1 (ne0 o1) ?_)⟩))
        refine drw_go (d := d + 41) (I0 := I) hA hk hb h.1 (qN (zA S)) (ctL (zL S) 0) (zX S) _ hL0 (show 0 + qN (zA S) = qN (zA S) by omega) hS.2.2.1 (f0.sub rfl) ⟨si_at, fun j hj => k2 j (by have : j ≤ 0 := hj; omega), fun j hj => absurd hj (Nat.not_lt_zero j)⟩ (by rw [si_row (by omega)]; exact h.2.2.2.2.2.1) (fun I' f' c' x' => ?_)
        exact g I' J T (f'.sub rfl) (Fj.rfl' _ _) (h.mv (S := S) (lj := []) rfl rfl rfl rfl rfl rfl rfl f' (Fj.rfl' _ _) x' c' (h.2.2.2.2.2.2.2.1.fr rfl f') (h.2.2.2.2.2.2.2.2.fr rfl f'))
      · obtain ⟨u1, u2⟩ := r4 I h.1
        have hb' := h.beg
        refine Ev.intro mX12_draw rfl rfl (mdr_0 (d := d + 41) ⟨fun _ _ => u2, br1 u1 (br1 (ne0 o2) ?_)⟩)
        have f0 : Fr [83] (si (si I 113 0 (1536 : Int32)) 114 0 (0 : Int32)) (si (si (si I 113 0 (1536 : Int32)) 114 0 (0 : Int32)) 83 48 (0 : Int32)) := (Fr.rfl' _ _).to rfl
        have fb : Fr [113, 114] I (si (si I 113 0 (1536 : Int32)) 114 0 (0 : Int32)) := (Fr.rfl' _ _).to rfl |>.to rfl
        have hM : MD (zA S) (ctL (zL S) 0) (zX S) I (si (si (si I 113 0 (1536 : Int32)) 114 0 (0 : Int32)) 83 48 (0 : Int32)) := by
          refine ⟨hb'.1.fr83 rfl f0 (si_ne (by omega)) (si_ne (by omega)) (si_ne (by omega)), ?_, ?_, ⟨⟨si_at, fun j h1 hj => ?_, fun j hj => absurd hj (Nat.not_lt_zero j)⟩, rfl, rfl⟩, rfl, (fb.sub rfl).trans (f0.sub rfl)⟩
          · unfold RN; rw [si_ne (by omega), si_ne (by omega), si_ne (by omega)]; exact hb'.2.1
          · rw [si_ne (by omega)]; exact hb'.2.2.1
          · have : j ≤ 0 := hj
            omega
        refine mdr_go (d := d + 41) (I0 := I) hA hk hb (qN (zA S)) (ctL (zL S) 0) (zX S) _ hL0 (show 0 + qN (zA S) = qN (zA S) by omega) hS.2.2.1 hM (fun I' m' => ?_)
        obtain ⟨m1, m2, m3, m4, m5, m6⟩ := m'
        refine g I' J (m6.sub rfl) (Fj.rfl' _ _) ⟨m1, m2, m3, m4.1, ?_, h.2.2.2.2.2.fr rfl m6⟩
        unfold MTp
        rw [m5, m6 90 rfl]
        exact h.2.2.2.2.1
    · exact refuse (fun I T h => Or.inr ⟨ne0 r1, (r3 I T h).2.1, (r3 I T h).2.2, Or.inr o1⟩) (fun I h => ⟨fun _ _ => (r4 I h).2, Or.inr o2⟩)
  · refine refuse (fun I T h => ?_) (fun I h => ⟨(r2 I h).2, Or.inl (r2 I h).1⟩)
    rcases r1 I T h with q | ⟨q1, q2, q3, q4⟩
    · exact Or.inl q
    · exact Or.inr ⟨q1, q3, q4, Or.inl q2⟩
