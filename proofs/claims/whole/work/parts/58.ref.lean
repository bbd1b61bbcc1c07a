/-! THE REFERENCE READS: sums. -/
section RES
variable {b : Nat → Nat} {n : Nat}
def ckM (c : Nat) : Bool := eqI (v_X12_factOf (nI c)) (if Nat.blt (letF c) 16 = true then nI (letF c) else -1) && eqI (v_X12_sumSign (nI c)) (if Nat.beq (mulK c) 0 = true then (if Nat.beq (addK c) 0 = true then -1 else nI (addK c)) else nI (mulK c))
theorem all_m : allB ckM 256 = true := by decide +kernel
theorem sg_m {c : Nat} (h : SG c) : v_X12_factOf (sgI c) = (if letF c < 16 then nI (letF c) else -1) ∧ v_X12_sumSign (sgI c) = (if mulK c = 0 then (if addK c = 0 then -1 else nI (addK c)) else nI (mulK c)) := by
  rcases h with h | h
  · have q := allB_get all_m c h
    unfold ckM at q
    simp only [Bool.and_eq_true] at q
    rw [show sgI c = nI c from if_neg (by omega), eqI_eq q.1, eqI_eq q.2]
    refine ⟨?_, ?_⟩
    · by_cases z : letF c < 16
      · rw [if_pos z, if_pos (show Nat.blt (letF c) 16 = true from Nat.ble_eq_true_of_le z)]
      · rw [if_neg z, if_neg (show ¬ Nat.blt (letF c) 16 = true from fun y => z (Nat.le_of_ble_eq_true y))]
    · by_cases z : mulK c = 0
      · rw [if_pos z, if_pos (by rw [z]; rfl)]
        by_cases y : addK c = 0
        · rw [if_pos y, if_pos (by rw [y]; rfl)]
        · rw [if_neg y, if_neg (fun w => y (Nat.eq_of_beq_eq_true w))]
      · rw [if_neg z, if_neg (fun w => z (Nat.eq_of_beq_eq_true w))]
  · subst h
    exact ⟨by decide, by decide⟩
/-- after an atom -/
theorem atm_c (hN : BN b n) {d : Nat} {s : RdS} {st : List Nat} {I I0 : Nat → Nat → Int32} {J : Nat → Nat → Int64} {T : Nat → Nat → Nat} {Q : Option Value → Mem → Prop} (f0 : FM I0 I) (h : RRz b n s st I) (hs : ¬ sgn b n (uP s) = 91) (g0 : ∀ e, atS b n s = .inl e → ∀ I', FM I0 I' → FBz e I' → Q (some (.int 0)) (SH, mkM I' J T)) (g1 : ∀ s', atS b n s = .inr s' → ∀ I', FM I0 I' → RRz b n s' st I' → Q (some (.int 1)) (SH, mkM I' J T)) : Go none aM (Ev mt aM (d + 3)) mX12_readsFactor Q (0, [some (.ref 83), none], [], (SH, mkM I J T), 0, 0) := by
  have hn := hN.1
  obtain ⟨y1, y2⟩ := here_c hN h
  have hsg := sgn_sg (b := b) (n := n) (p := uP s) hN.2
  have hd := isdg_c hN y1
  obtain ⟨m1, m2⟩ := sg_m hsg
  have nn := h.nN
  refine mfa_0 ⟨y2, ?_⟩
  rw [y1]
  refine br1 (fun z => hs ((sgI_eq (x := 91) hsg (by omega)).mp z)) ⟨y2, fun _ => y2, ?_⟩
  rw [hd]
  unfold atS at g0 g1
  by_cases c : isDg (sgn b n (uP s)) = true
  · rw [if_pos c] at g0 g1
    rw [c]
    obtain ⟨l1, _, _⟩ := dg_lt c
    refine br1 (by decide) (Ev.intro (d := d + 2) mX12_readsNumber rfl rfl (mnu_0 (d := d) ?_))
    have h1 : RRz b n (uP s, uO s, uN s, uW s) st (si I 83 19 (0 : Int32)) := by
      obtain ⟨⟨a1, a2, a3, a4, a5⟩, h2, h3, h4, h5, h6, h7, h8, h9⟩ := h
      refine ⟨⟨?_, ?_, ?_, ?_, ?_⟩, fun i hi => ?_, ?_, fun i hi => ?_, h5, h6, h7, h8, h9⟩
      · rw [si_ne (by omega)]; exact a1
      · rw [si_ne (by omega)]; exact a2
      · rw [si_ne (by omega)]; exact a3
      · rw [si_ne (by omega)]; exact a4
      · rw [si_ne (by omega)]; exact a5
      · rw [si_row (by omega)]; exact h2 i hi
      · exact SK.fr (fun j _ => by rw [si_row (by omega)]) h3
      · rw [si_row (by omega)]; exact h4 i hi
    rw [h.1.1]
    refine num_c (I0 := I0) (d := d) hN 5 0 (uP s) _ (by omega) (by decide) (by omega) nn.2.2 (f0.s83 (by omega)) h1 si_at (fun e he I1 f1 k1 => ?_) (fun q hq I1 f1 k1 k19 => ?_)
    · refine mfa_31 (br0 rfl (g0 e ?_ I1 f1 k1))
      rw [he]
    · obtain ⟨z1, z2, z3, z4⟩ := dgF_ok 5 0 (uP s) q nn.2.2 hq
      have z4 := z4 c (by omega)
      have z3 : q.1 + 1 ≤ 100000 := z3
      have w0 : uN s + wtL st ≤ uP s := h.2.2.2.2.2.1
      have n1 : I1 83 16 = nI (uN s) := k1.1.2.2.2.1
      refine mfa_31 (br1 (by decide) ⟨by rw [n1]; exact vp_in_nI (by omega) (by omega), ?_⟩)
      rw [n1, nI_clamp (by omega), nI_1, k19, show (1048576 : Int32) * (0 : Int32) + nI q.1 = nI (enW (16 * q.1)) by
        rw [show (1048576 : Int32) * (0 : Int32) = nI 0 by decide, nI_add]
        unfold enW
        rw [show 0 + q.1 = 1048576 * (16 * q.1 % 16) + 16 * q.1 / 16 by omega]]
      refine g1 _ (by rw [hq]) _ ((f1.s91).s83 (by omega)) ?_
      obtain ⟨⟨a1, a2, a3, a4, a5⟩, h2, h3, h4, h5, h6, h7, h8, h9⟩ := k1
      refine ⟨⟨?_, ?_, ?_, si_at, ?_⟩, fun i hi => ?_, ?_, fun i hi => ?_, h5, show uN s + 1 + wtL st ≤ q.2 by omega, h7, h8, fun i hi => ?_⟩
      · rw [si_ne (by omega), si_row (by omega)]; exact a1
      · rw [si_ne (by omega), si_row (by omega)]; exact a2
      · rw [si_ne (by omega), si_row (by omega)]; exact a3
      · rw [si_ne (by omega), si_row (by omega)]; exact a5
      · have hi : i < uN s + 1 := hi
        rw [si_row (by omega)]
        show _ = nI (enW (unF (uW s) (uN s) (16 * q.1) i))
        by_cases z : i = uN s
        · rw [z, unF_at]; exact si_at
        · rw [unF_ne z, si_ne z]; exact h2 i (show i < uN s by omega)
      · exact SK.fr (fun j _ => by rw [si_row (by omega), si_row (by omega)]) (h3.up (show uN s ≤ uN s + 1 by omega))
      · rw [si_row (by omega), si_row (by omega)]; exact h4 i hi
      · have hi : i < uN s + 1 := hi
        show unF (uW s) (uN s) (16 * q.1) i < 2 ^ 24
        by_cases z : i = uN s
        · rw [z, unF_at]; omega
        · rw [unF_ne z]; exact h9 i (show i < uN s by omega)
  · rw [if_neg c] at g0 g1
    rw [show isDg (sgn b n (uP s)) = false by simpa using c]
    refine br0 rfl ⟨y2, ?_⟩
    rw [m1]
    by_cases c2 : letF (sgn b n (uP s)) < 16
    · rw [if_pos c2] at g1
      have hlt := letF_lt c2
      have w0 : uN s + wtL st ≤ uP s := h.2.2.2.2.2.1
      rw [if_pos c2]
      refine br1 (nIm1 (by omega)) ⟨by rw [nn.1]; exact vp_in_nI (by omega) (by omega), ?_⟩
      rw [nn.1, nI_clamp (by omega), nI_1, h.1.1, nI_1, show (1048576 : Int32) * (1 : Int32) + nI (letF (sgn b n (uP s))) = nI (enW (1 + 16 * letF (sgn b n (uP s)))) by
        rw [show (1048576 : Int32) * (1 : Int32) = nI 1048576 by decide, nI_add]
        unfold enW
        rw [show 1048576 + letF (sgn b n (uP s)) = 1048576 * ((1 + 16 * letF (sgn b n (uP s))) % 16) + (1 + 16 * letF (sgn b n (uP s))) / 16 by omega]]
      refine g1 _ rfl _ (((f0.s91).s83 (by omega)).s83 (by omega)) ?_
      obtain ⟨⟨a1, a2, a3, a4, a5⟩, h2, h3, h4, h5, h6, h7, h8, h9⟩ := h
      refine ⟨⟨si_at, ?_, ?_, ?_, ?_⟩, fun i hi => ?_, ?_, fun i hi => ?_, show uP s + 1 ≤ n by omega, show uN s + 1 + wtL st ≤ uP s + 1 by omega, show st.length ≤ uP s + 1 by omega, h8, fun i hi => ?_⟩
      · rw [si_ne (by omega), si_ne (by omega), si_row (by omega)]; exact a2
      · rw [si_ne (by omega), si_ne (by omega), si_row (by omega)]; exact a3
      · rw [si_ne (by omega)]; exact si_at
      · rw [si_ne (by omega), si_ne (by omega), si_row (by omega)]; exact a5
      · have hi : i < uN s + 1 := hi
        rw [si_row (by omega), si_row (by omega)]
        show _ = nI (enW (unF (uW s) (uN s) (1 + 16 * letF (sgn b n (uP s))) i))
        by_cases z : i = uN s
        · rw [z, unF_at]; exact si_at
        · rw [unF_ne z, si_ne z]; exact h2 i (by omega)
      · exact SK.fr (fun j _ => by rw [si_row (by omega), si_row (by omega), si_row (by omega)]) (h3.up (show uN s ≤ uN s + 1 by omega))
      · rw [si_row (by omega), si_row (by omega), si_row (by omega)]; exact h4 i hi
      · have hi : i < uN s + 1 := hi
        show unF (uW s) (uN s) (1 + 16 * letF (sgn b n (uP s))) i < 2 ^ 24
        by_cases z : i = uN s
        · rw [z, unF_at]; omega
        · rw [unF_ne z]; exact h9 i (by omega)
    · rw [if_neg c2] at g0
      rw [if_neg c2]
      refine br0 rfl (g0 _ rfl _ (f0.s83 (by omega)) ?_)
      show (si I 83 14 _) 83 14 = _
      rw [si_at, h.1.1]; rfl
end RES
/-! one reading of a sum: base is how much waited at its beginning; I0 the ints then -/
section RSU
variable {b : Nat → Nat} {n base d : Nat} {I0 : Nat → Nat → Int32} {J : Nat → Nat → Int64} {T : Nat → Nat → Nat} {Q : Option Value → Mem → Prop}
def FG (I0 : Nat → Nat → Int32) (J : Nat → Nat → Int64) (T : Nat → Nat → Nat) (Q : Option Value → Mem → Prop) (e : Nat × Nat) : Prop := ∀ I, FM I0 I → FBz e I → Q (some (.int 0)) (SH, mkM I J T)
def OG (b : Nat → Nat) (n : Nat) (I0 : Nat → Nat → Int32) (J : Nat → Nat → Int64) (T : Nat → Nat → Nat) (Q : Option Value → Mem → Prop) (s : RdS) (st : List Nat) : Prop := ∀ I, FM I0 I → RRz b n s st I → Q (some (.int 1)) (SH, mkM I J T)
def LG (b : Nat → Nat) (n base d : Nat) (I0 : Nat → Nat → Int32) (J : Nat → Nat → Int64) (T : Nat → Nat → Nat) (Q : Option Value → Mem → Prop) (s : RdS) (st : List Nat) : Prop := ∀ I, FM I0 I → RRz b n s st I → Go none aM (Ev mt aM (d + 4)) mX12_readsSum Q (14, [some (.ref 83), some (.int (nI base)), none], [], (SH, mkM I J T), 0, 0)
def A41 (b : Nat → Nat) (n base d : Nat) (I0 : Nat → Nat → Int32) (J : Nat → Nat → Int64) (T : Nat → Nat → Nat) (Q : Option Value → Mem → Prop) (k : Nat) (c : List Nat × RdS) : Prop := ∀ I, FM I0 I → RRz b n c.2 c.1 I → Go none aM (Ev mt aM (d + 4)) mX12_readsSum Q (41, [some (.ref 83), some (.int (nI base)), some (.int (nI k))], [], (SH, mkM I J T), 0, 0)
def A105 (b : Nat → Nat) (n base d : Nat) (I0 : Nat → Nat → Int32) (J : Nat → Nat → Int64) (T : Nat → Nat → Nat) (Q : Option Value → Mem → Prop) (c : List Nat × RdS) : Prop := ∀ I x, FM I0 I → RRz b n c.2 c.1 I → Go none aM (Ev mt aM (d + 4)) mX12_readsSum Q (105, [some (.ref 83), some (.int (nI base)), some (.int x)], [], (SH, mkM I J T), 0, 0)
/-- what is wanted of a place behind a factor -/
def LN (b : Nat → Nat) (n base d : Nat) (I0 : Nat → Nat → Int32) (J : Nat → Nat → Int64) (T : Nat → Nat → Nat) (Q : Option Value → Mem → Prop) (s : RdS) (st : List Nat) : Prop :=
  if mulK (sgn b n (uP s)) ≠ 0 then A41 b n base d I0 J T Q (mulK (sgn b n (uP s))) (csF false st s)
  else if addK (sgn b n (uP s)) ≠ 0 then A41 b n base d I0 J T Q (addK (sgn b n (uP s))) (csF true st s)
  else if hoF base st = true then (if sgn b n (uP s) = 93 then A105 b n base d I0 J T Q (csF true st s) else FG I0 J T Q (1, uP s))
  else OG b n I0 J T Q (csF true st s).2 (csF true st s).1
theorem ln_mul {x : Nat} {s : RdS} {l : List Nat} (hb : base ≤ l.length) (hx : 4 ≤ x / 1048576 ∧ x / 1048576 ≤ 6) (h : LN b n base d I0 J T Q (adS (x / 1048576) s) l) : LN b n base d I0 J T Q s (x :: l) := by
  have e : ∀ a, csF a (x :: l) s = csF a l (adS (x / 1048576) s) := fun a => if_pos (Or.inl hx)
  have e2 : hoF base (x :: l) = hoF base l := by
    rw [hoF_cons hb]
    have : Nat.beq (x / 1048576) 14 = false := by
      cases hh : Nat.beq (x / 1048576) 14 with
      | false => rfl
      | true => have := Nat.eq_of_beq_eq_true hh; omega
    rw [this, Bool.or_false]
  unfold LN
  rw [e, e, e2]
  exact h
theorem ln_add {x : Nat} {s : RdS} {l : List Nat} (hb : base ≤ l.length) (hm : mulK (sgn b n (uP s)) = 0) (hx : x / 1048576 = 2 ∨ x / 1048576 = 3) (h : LN b n base d I0 J T Q (adS (x / 1048576) s) l) : LN b n base d I0 J T Q s (x :: l) := by
  have e : csF true (x :: l) s = csF true l (adS (x / 1048576) s) := if_pos (Or.inr ⟨rfl, hx⟩)
  have e2 : hoF base (x :: l) = hoF base l := by
    rw [hoF_cons hb]
    have : Nat.beq (x / 1048576) 14 = false := by
      cases hh : Nat.beq (x / 1048576) 14 with
      | false => rfl
      | true => have := Nat.eq_of_beq_eq_true hh; omega
    rw [this, Bool.or_false]
  unfold LN at h ⊢
  rw [if_neg (fun z => z hm), e, e2]
  rw [if_neg (fun z => z (show mulK (sgn b n (uP (adS (x / 1048576) s))) = 0 from hm))] at h
  exact h
theorem lg_ln (hN : BN b n) {s : RdS} {st : List Nat} (hb : base ≤ st.length) (h : LN b n base d I0 J T Q s st) : LG b n base d I0 J T Q s st := by
  intro I f0 hr
  obtain ⟨y1, y2⟩ := here_c hN hr
  have hsg := sgn_sg (b := b) (n := n) (p := uP s) hN.2
  obtain ⟨_, m2⟩ := sg_m hsg
  have q93 := sgI_eq (x := 93) hsg (by omega)
  refine msu_14 ⟨y2, ?_⟩
  rw [y1, m2]
  unfold LN at h
  by_cases c : mulK (sgn b n (uP s)) = 0
  · rw [if_neg (fun z => z c)] at h
    rw [if_pos c]
    by_cases c2 : addK (sgn b n (uP s)) = 0
    · rw [if_neg (fun z => z c2)] at h
      rw [if_pos c2]
      refine br0 rfl ⟨y2, ?_⟩
      -- where a bracket ends, or the sum
      have fin : ∀ x : Int32, (¬ (hoF base st = true ∧ sgn b n (uP s) = 93)) → Ev mt aM (d + 4) 195 [.ref 83, .int (nI base)] (SH, mkM I J T) (fun r m1 => Go none aM (Ev mt aM (d + 4)) mX12_readsSum Q (143, [some (.ref 83), some (.int (nI base)), some (.int x)], r.toList ++ [], m1, 0, 0)) := by
        intro x hc
        refine ev_ho (d := d + 1) (base := base) hN hb hr (msu_143 ?_)
        by_cases c3 : hoF base st = true
        · rw [if_pos c3, if_neg (fun z => hc ⟨c3, z⟩)] at h
          rw [c3]
          refine br1 (by decide) (h _ (f0.s83 (by omega)) ?_)
          show (si I 83 14 _) 83 14 = _
          rw [si_at, hr.1.1]; rfl
        · rw [if_neg c3] at h
          rw [show hoF base st = false by simpa using c3]
          refine br0 rfl (ev_cs (a := true) (d := d + 1) hN rfl hr (fun I1 f1 k1 => msu_161 (h I1 (f0.trans f1) k1)))
      by_cases c4 : sgn b n (uP s) = 93
      · refine br0 (q93.mpr c4) (ev_ho (d := d + 1) (base := base) hN hb hr (msu_97 ?_))
        by_cases c3 : hoF base st = true
        · rw [if_pos c3, if_pos c4] at h
          rw [c3]
          exact br1 (by decide) (ev_cs (a := true) (d := d + 1) hN rfl hr (fun I1 f1 k1 => h I1 _ (f0.trans f1) k1))
        · rw [show hoF base st = false by simpa using c3]
          exact br0 rfl (fin _ (fun z => c3 z.1))
      · exact br1 (fun z => c4 (q93.mp z)) (fin _ (fun z => c4 z.2))
    · rw [if_pos c2] at h
      rw [if_neg c2]
      have := addK_rg c2
      refine br1 (nIm1 (by omega)) (br1 (nI_ge (b := 4) (by omega) (by omega)) (ev_cs (a := true) (d := d + 1) hN rfl hr (fun I1 f1 k1 => h I1 (f0.trans f1) k1)))
  · rw [if_pos c] at h
    rw [if_neg c]
    have := mulK_rg c
    refine br1 (nIm1 (by omega)) (br0 (nI_le (a := 4) (by omega) (by omega)) (ev_cs (a := false) (d := d + 1) hN rfl hr (fun I1 f1 k1 => h I1 (f0.trans f1) k1)))
/-- who asks for a factor -/
def QF (base d : Nat) (J : Nat → Nat → Int64) (T : Nat → Nat → Nat) (Q Qf : Option Value → Mem → Prop) : Prop := (∀ I, Q (some (.int 0)) (SH, mkM I J T) → Qf (some (.int 0)) (SH, mkM I J T)) ∧ ∀ I, Go none aM (Ev mt aM (d + 4)) mX12_readsSum Q (14, [some (.ref 83), some (.int (nI base)), none], [], (SH, mkM I J T), 0, 0) → Qf (some (.int 1)) (SH, mkM I J T)
def BF (b : Nat → Nat) (n d : Nat) (I0 : Nat → Nat → Int32) (J : Nat → Nat → Int64) (T : Nat → Nat → Nat) (Qf : Option Value → Mem → Prop) (s : RdS) (st : List Nat) : Prop := ∀ I, FM I0 I → RRz b n s st I → Go none aM (Ev mt aM (d + 3)) mX12_readsFactor Qf (0, [some (.ref 83), none], [], (SH, mkM I J T), 0, 0)
def AF (b : Nat → Nat) (n base d : Nat) (I0 : Nat → Nat → Int32) (J : Nat → Nat → Int64) (T : Nat → Nat → Nat) (Q : Option Value → Mem → Prop) (F : RdS → RdR) (C : RdS → Prop) : Prop := ∀ (s : RdS) (st : List Nat) (Qf : Option Value → Mem → Prop), QF base d J T Q Qf → base ≤ st.length → uP s ≤ n → C s → (∀ e, F s = .inl e → FG I0 J T Q e) → (∀ s', F s = .inr s' → LN b n base d I0 J T Q s' st) → BF b n d I0 J T Qf s st
/-- a sign and a factor more -/
theorem a41_go (hN : BN b n) {k : Nat} {s : RdS} {st : List Nat} (hk : 2 ≤ k ∧ k ≤ 6) (hp : uP s < n) (h : ∀ Qf, QF base d J T Q Qf → BF b n d I0 J T Qf (mvS s) (1048576 * k :: st)) : A41 b n base d I0 J T Q k (st, s) := by
  have hn := hN.1
  intro I f0 hr
  have e1 : 1048576 * k / 1048576 = k := by omega
  obtain ⟨⟨a1, a2, a3, a4, a5⟩, h2, h3, h4, h5, h6, h7, h8, h9⟩ := hr
  have a1 : I 83 12 = nI (uP s) := a1
  have a5 : I 83 17 = nI st.length := a5
  have h6 : uN s + wtL st ≤ uP s := h6
  have h7 : st.length ≤ uP s := h7
  refine msu_41 ⟨by rw [a5]; exact vp_in_nI (by omega) (by omega), ?_⟩
  rw [a5, a1, nI_clamp (by omega), nI_1, nI_1, show (1048576 : Int32) = nI 1048576 from rfl, pk_mul]
  refine Ev.intro (d := d + 3) mX12_readsFactor rfl rfl (h _ ⟨fun I q => msu_78 (br0 rfl q), fun I q => msu_78 (br1 (by decide) q)⟩ _ ((f0.s92.s83 (by omega)).s83 (by omega)) ?_)
  refine ⟨⟨si_at, ?_, ?_, ?_, ?_⟩, fun i hi => ?_, ⟨⟨?_, by omega, fun z => by rw [e1] at z; omega⟩, ?_⟩, fun i hi => ?_, show uP s + 1 ≤ n by omega, ?_, show st.length + 1 ≤ uP s + 1 by omega, ⟨h8.1, ?_⟩, h9⟩
  · rw [si_ne (by omega), si_ne (by omega), si_row (by omega)]; exact a2
  · rw [si_ne (by omega), si_ne (by omega), si_row (by omega)]; exact a3
  · rw [si_ne (by omega), si_ne (by omega), si_row (by omega)]; exact a4
  · rw [si_ne (by omega)]; exact si_at
  · rw [si_row (by omega), si_row (by omega), si_row (by omega)]; exact h2 i hi
  · rw [si_row (by omega), si_row (by omega)]; exact si_at
  · refine SK.fr (fun j hj => ?_) h3
    rw [si_row (by omega), si_row (by omega), si_ne (by omega)]
  · rw [si_row (by omega), si_row (by omega), si_row (by omega)]; exact h4 i hi
  · show uN s + ((if 1048576 * k / 1048576 = 11 ∨ 1048576 * k / 1048576 = 12 then 0 else 1) + wtL st) ≤ uP s + 1
    rw [if_neg (by rw [e1]; omega)]
    omega
  · show (if 1048576 * k / 1048576 = 10 ∨ 1048576 * k / 1048576 = 13 ∨ 1048576 * k / 1048576 = 14 then 1 else 0) + opL st ≤ uO s
    rw [if_neg (by rw [e1]; omega), Nat.zero_add]
    exact h8.2
/-- a stack that closing leaves as it is -/
def CLN (st : List Nat) : Prop := ∀ x l, st = x :: l → 7 ≤ x / 1048576
theorem cs_cln {a : Bool} {s : RdS} {st : List Nat} (h : CLN st) : csF a st s = (st, s) := by
  cases st with
  | nil => rfl
  | cons x l =>
    have := h x l rfl
    exact if_neg (by omega)
theorem cs_nomul {s : RdS} {st : List Nat} (h : ∀ x l, st = x :: l → ¬ (4 ≤ x / 1048576 ∧ x / 1048576 ≤ 6)) : csF false st s = (st, s) := by
  cases st with
  | nil => rfl
  | cons x l => exact if_neg (fun z => z.elim (h x l rfl) (fun z => absurd z.1 (by decide)))
theorem tl_go (hN : BN b n) {F : RdS → RdR} {C : RdS → Prop} (cr : ∀ s s2, uO s2 = uO s → C s → C s2) (gF : GRF n F) (hF : AF b n base d I0 J T Q F C) : ∀ (k : Nat) (s : RdS) (st : List Nat), n ≤ k + uP s → uP s ≤ n → base ≤ st.length → C s → (∀ x l, st = x :: l → ¬ (4 ≤ x / 1048576 ∧ x / 1048576 ≤ 6)) → (∀ e, lpT b n F k s = .inl e → FG I0 J T Q e) → (∀ s', lpT b n F k s = .inr s' → mulK (sgn b n (uP s')) = 0 → LN b n base d I0 J T Q s' st) → LN b n base d I0 J T Q s st := by
  intro k
  induction k with
  | zero =>
    intro s st hk hp hb hc hs g0 g1
    refine g1 s rfl ?_
    have : ¬ uP s < n := by omega
    unfold sgn
    rw [if_neg this]
    decide
  | succ k ih =>
    intro s st hk hp hb hc hs g0 g1
    by_cases c : mulK (sgn b n (uP s)) = 0
    · exact g1 s (if_pos c) c
    · have e : lpT b n F (k + 1) s = bnd (F (mvS s)) (fun s2 => lpT b n F k (adS (mulK (sgn b n (uP s))) s2)) := if_neg c
      rw [e] at g0 g1
      have hr := mulK_rg c
      have hlt := mulK_lt c
      unfold LN
      rw [if_pos c, cs_nomul hs]
      have e1 : 1048576 * mulK (sgn b n (uP s)) / 1048576 = mulK (sgn b n (uP s)) := by omega
      refine a41_go hN (by omega) hlt (fun Qf hQ => hF (mvS s) _ Qf hQ (show base ≤ st.length + 1 by omega) (show uP s + 1 ≤ n by omega) (cr s _ rfl hc) (fun e he => g0 e (by rw [he]; rfl)) (fun s2 hs2 => ln_mul hb (by rw [e1]; exact hr) ?_))
      rw [e1]
      have g := gF _ _ (show uP s + 1 ≤ n by omega) hs2
      have p1 : uP s + 1 ≤ uP s2 := g.1
      exact ih (adS (mulK (sgn b n (uP s))) s2) st (show n ≤ k + uP s2 by omega) g.2.1 hb (cr s _ g.2.2.2.1 hc) hs (fun e he => g0 e (by rw [hs2]; exact he)) (fun s' he => g1 s' (by rw [hs2]; exact he))
theorem tf_go (hN : BN b n) {F : RdS → RdR} {C : RdS → Prop} (cr : ∀ s s2, uO s2 = uO s → C s → C s2) (gF : GRF n F) (hF : AF b n base d I0 J T Q F C) {s : RdS} {st : List Nat} {Qf : Option Value → Mem → Prop} (hQ : QF base d J T Q Qf) (hb : base ≤ st.length) (hp : uP s ≤ n) (hc : C s) (hs : ∀ x l, st = x :: l → ¬ (4 ≤ x / 1048576 ∧ x / 1048576 ≤ 6)) (g0 : ∀ e, pT b n F s = .inl e → FG I0 J T Q e) (g1 : ∀ s', pT b n F s = .inr s' → mulK (sgn b n (uP s')) = 0 → LN b n base d I0 J T Q s' st) : BF b n d I0 J T Qf s st := by
  refine hF s st Qf hQ hb hp hc (fun e he => g0 e ?_) (fun s1 hs1 => ?_)
  · show bnd (F s) _ = _
    rw [he]; rfl
  · have g := gF _ _ hp hs1
    have e1 : pT b n F s = lpT b n F n s1 := by
      show bnd (F s) _ = _
      rw [hs1]; rfl
    rw [e1] at g0 g1
    exact tl_go hN cr gF hF n s1 st (by omega) g.2.1 hb (cr s s1 g.2.2.2.1 hc) hs g0 g1
theorem sl_go (hN : BN b n) {F : RdS → RdR} {C : RdS → Prop} (cr : ∀ s s2, uO s2 = uO s → C s → C s2) (gF : GRF n F) (hF : AF b n base d I0 J T Q F C) : ∀ (k : Nat) (s : RdS) (st : List Nat), n ≤ k + uP s → uP s ≤ n → base ≤ st.length → C s → CLN st → mulK (sgn b n (uP s)) = 0 → (∀ e, lpS b n F k s = .inl e → FG I0 J T Q e) → (∀ s', lpS b n F k s = .inr s' → mulK (sgn b n (uP s')) = 0 → addK (sgn b n (uP s')) = 0 → LN b n base d I0 J T Q s' st) → LN b n base d I0 J T Q s st := by
  intro k
  induction k with
  | zero =>
    intro s st hk hp hb hc hs hm g0 g1
    refine g1 s rfl hm ?_
    have : ¬ uP s < n := by omega
    unfold sgn
    rw [if_neg this]
    decide
  | succ k ih =>
    intro s st hk hp hb hc hs hm g0 g1
    by_cases c : addK (sgn b n (uP s)) = 0
    · exact g1 s (if_pos c) hm c
    · have e : lpS b n F (k + 1) s = bnd (pT b n F (mvS s)) (fun s2 => lpS b n F k (adS (addK (sgn b n (uP s))) s2)) := if_neg c
      rw [e] at g0 g1
      have hr := addK_rg c
      have hlt := addK_lt c
      unfold LN
      rw [if_neg (fun z => z hm), if_pos c, cs_cln hs]
      have e1 : 1048576 * addK (sgn b n (uP s)) / 1048576 = addK (sgn b n (uP s)) := by omega
      refine a41_go hN (by omega) hlt (fun Qf hQ => tf_go hN cr gF hF hQ (show base ≤ st.length + 1 by omega) (show uP s + 1 ≤ n by omega) (cr s _ rfl hc) (fun x l hx => by cases hx; rw [e1]; omega) (fun e he => g0 e (by rw [he]; rfl)) (fun s2 hs2 hm2 => ln_add hb hm2 (by rw [e1]; omega) ?_))
      rw [e1]
      have g := gr_pT gF _ _ (show uP s + 1 ≤ n by omega) hs2
      have p1 : uP s + 1 ≤ uP s2 := g.1
      exact ih (adS (addK (sgn b n (uP s))) s2) st (show n ≤ k + uP s2 by omega) g.2.1 hb (cr s _ g.2.2.2.1 hc) hs hm2 (fun e he => g0 e (by rw [hs2]; exact he)) (fun s' he => g1 s' (by rw [hs2]; exact he))
theorem sf_go (hN : BN b n) {F : RdS → RdR} {C : RdS → Prop} (cr : ∀ s s2, uO s2 = uO s → C s → C s2) (gF : GRF n F) (hF : AF b n base d I0 J T Q F C) {s : RdS} {st : List Nat} {Qf : Option Value → Mem → Prop} (hQ : QF base d J T Q Qf) (hb : base ≤ st.length) (hp : uP s ≤ n) (hc : C s) (hs : CLN st) (g0 : ∀ e, pS b n F s = .inl e → FG I0 J T Q e) (g1 : ∀ s', pS b n F s = .inr s' → mulK (sgn b n (uP s')) = 0 → addK (sgn b n (uP s')) = 0 → LN b n base d I0 J T Q s' st) : BF b n d I0 J T Qf s st := by
  refine tf_go hN cr gF hF hQ hb hp hc (fun x l hx => by have := hs x l hx; omega) (fun e he => g0 e ?_) (fun s1 hs1 hm => ?_)
  · show bnd (pT b n F s) _ = _
    rw [he]; rfl
  · have g := gr_pT gF _ _ hp hs1
    have e1 : pS b n F s = lpS b n F n s1 := by
      show bnd (pT b n F s) _ = _
      rw [hs1]; rfl
    rw [e1] at g0 g1
    exact sl_go hN cr gF hF n s1 st (by omega) g.2.1 hb (cr s s1 g.2.2.2.1 hc) hs hm g0 g1
def CO (D : Nat) (s : RdS) : Prop := 6 ≤ uO s + D
theorem co_cr {D : Nat} : ∀ s s2 : RdS, uO s2 = uO s → CO D s → CO D s2 := by
  intro s s2 h h1
  unfold CO at h1 ⊢
  rw [h]
  exact h1
/-- a factor, its brackets too -/
theorem af_go (hN : BN b n) : ∀ D, AF b n base d I0 J T Q (pF b n D) (CO D) := by
  intro D
  have hn := hN.1
  -- ahead of what stands in a bracket
  have br : ∀ (s : RdS) (st : List Nat) (Qf : Option Value → Mem → Prop), QF base d J T Q Qf → sgn b n (uP s) = 91 → (uO s = 6 → FG I0 J T Q (5, uP s)) → (uO s ≠ 6 → BF b n d I0 J T Qf (uP s + 1, uO s + 1, uN s, uW s) (1048576 * 14 :: st)) → BF b n d I0 J T Qf s st := by
    intro s st Qf hQ hs g0 g1 I f0 hr
    obtain ⟨y1, y2⟩ := here_c hN hr
    refine mfa_0 ⟨y2, ?_⟩
    rw [y1, hs]
    refine br0 rfl (ev_op (d := d) (w := 14) hN (by omega) (sgn_lt (by decide) hs) hr (fun h6 I1 f1 k1 => mfa_15 (br0 rfl (hQ.1 _ (g0 h6 I1 (f0.trans f1) k1)))) (fun h6 I1 f1 k1 => mfa_15 (br1 (by decide) (g1 h6 I1 (f0.trans f1) k1))))
  have at0 : ∀ (s : RdS) (st : List Nat) (Qf : Option Value → Mem → Prop), QF base d J T Q Qf → base ≤ st.length → ¬ sgn b n (uP s) = 91 → (∀ e, atS b n s = .inl e → FG I0 J T Q e) → (∀ s', atS b n s = .inr s' → LN b n base d I0 J T Q s' st) → BF b n d I0 J T Qf s st := by
    intro s st Qf hQ hb hs g0 g1 I f0 hr
    exact atm_c hN f0 hr hs (fun e he I1 f1 k1 => hQ.1 _ (g0 e he I1 f1 k1)) (fun s' hs' I1 f1 k1 => hQ.2 _ (lg_ln hN hb (g1 s' hs') I1 f1 k1))
  induction D with
  | zero =>
    intro s st Qf hQ hb hp hc g0 g1
    by_cases c : sgn b n (uP s) = 91
    · have e : pF b n 0 s = .inl (5, uP s) := if_pos c
      refine br s st Qf hQ c (fun _ => g0 _ e) (fun h6 I f0 hr => ?_)
      have : uO s + 1 ≤ 6 := hr.2.2.2.2.2.2.2.1.1
      have hc : 6 ≤ uO s + 0 := hc
      omega
    · have e : pF b n 0 s = atS b n s := if_neg c
      rw [e] at g0 g1
      exact at0 s st Qf hQ hb c g0 g1
  | succ D ih =>
    intro s st Qf hQ hb hp hc g0 g1
    by_cases c : sgn b n (uP s) = 91
    · have e : pF b n (D + 1) s = bnd (entS s) (fun s1 => bnd (pS b n (pF b n D) s1) (fun s2 => bnd (expS b n 93 s2) (fun s3 => .inr (outS s3)))) := if_pos c
      rw [e] at g0 g1
      have hlt : uP s < n := sgn_lt (by decide) c
      have e14 : 1048576 * 14 / 1048576 = 14 := by decide
      refine br s st Qf hQ c (fun h6 => g0 _ ?_) (fun h6 => ?_)
      · rw [show entS s = .inl (5, uP s) from if_pos h6]; rfl
      · have e2 : entS s = .inr (uP s + 1, uO s + 1, uN s, uW s) := if_neg h6
        rw [e2] at g0 g1
        refine sf_go hN co_cr (gr_pF D) ih hQ (show base ≤ st.length + 1 by omega) (show uP s + 1 ≤ n by omega) (show 6 ≤ uO s + 1 + D by have hc : 6 ≤ uO s + (D + 1) := hc; omega) (fun x l hx => by cases hx; rw [e14]; omega) (fun e he => g0 e ?_) (fun s2 hs2 hm ha => ?_)
        · show bnd (pS b n (pF b n D) (uP s + 1, uO s + 1, uN s, uW s)) _ = _
          rw [he]; rfl
        · have g0 : ∀ e, bnd (expS b n 93 s2) (fun s3 => .inr (outS s3)) = .inl e → FG I0 J T Q e := fun e he => g0 e (by
            show bnd (pS b n (pF b n D) (uP s + 1, uO s + 1, uN s, uW s)) _ = _
            rw [hs2]; exact he)
          have g1 : ∀ s', bnd (expS b n 93 s2) (fun s3 => .inr (outS s3)) = .inr s' → LN b n base d I0 J T Q s' st := fun s' he => g1 s' (by
            show bnd (pS b n (pF b n D) (uP s + 1, uO s + 1, uN s, uW s)) _ = _
            rw [hs2]; exact he)
          have hcs : CLN (1048576 * 14 :: st) := fun x l hx => by cases hx; rw [e14]; omega
          have ho : hoF base (1048576 * 14 :: st) = true := by
            rw [hoF_cons hb, e14]
            cases hoF base st <;> rfl
          unfold LN
          rw [if_neg (fun z => z hm), if_neg (fun z => z ha), if_pos ho, cs_cln hcs]
          by_cases c3 : sgn b n (uP s2) = 93
          · rw [if_pos c3]
            have e3 : expS b n 93 s2 = .inr (mvS s2) := if_pos c3
            rw [e3] at g1
            have g1 := lg_ln hN hb (g1 _ rfl)
            have hlt2 : uP s2 < n := sgn_lt (by decide) c3
            intro I x f0 hr
            refine msu_105 (g1 _ (((f0.s83 (by omega)).s83 (by omega)).s83 (by omega)) ?_)
            obtain ⟨⟨a1, a2, a3, a4, a5⟩, h2, h3, h4, h5, h6', h7, h8, h9⟩ := hr
            have a1 : I 83 12 = nI (uP s2) := a1
            have a3 : I 83 15 = nI (uO s2) := a3
            have a5 : I 83 17 = nI (st.length + 1) := a5
            have h6' : uN s2 + ((if 1048576 * 14 / 1048576 = 11 ∨ 1048576 * 14 / 1048576 = 12 then 0 else 1) + wtL st) ≤ uP s2 := h6'
            rw [e14, if_neg (by omega)] at h6'
            have h7 : st.length + 1 ≤ uP s2 := h7
            have h8' : (if 1048576 * 14 / 1048576 = 10 ∨ 1048576 * 14 / 1048576 = 13 ∨ 1048576 * 14 / 1048576 = 14 then 1 else 0) + opL st ≤ uO s2 := h8.2
            rw [e14, if_pos (by omega)] at h8'
            have h86 : uO s2 ≤ 6 := h8.1
            rw [a5, a3, a1, nI_pred, nI_1, show (1 : Int32) = nI 1 from rfl, pk_sub (by omega)]
            refine ⟨⟨si_at, ?_, ?_, ?_, ?_⟩, fun i hi => ?_, ?_, fun i hi => ?_, show uP s2 + 1 ≤ n by omega, show uN s2 + wtL st ≤ uP s2 + 1 by omega, show st.length ≤ uP s2 + 1 by omega, ⟨show uO s2 - 1 ≤ 6 by omega, show opL st ≤ uO s2 - 1 by omega⟩, h9⟩
            · rw [si_ne (by omega), si_ne (by omega), si_ne (by omega)]; exact a2
            · rw [si_ne (by omega)]; exact si_at
            · rw [si_ne (by omega), si_ne (by omega), si_ne (by omega)]; exact a4
            · rw [si_ne (by omega), si_ne (by omega)]; exact si_at
            · rw [si_row (by omega), si_row (by omega), si_row (by omega)]; exact h2 i hi
            · exact SK.fr (fun j _ => by rw [si_row (by omega), si_row (by omega), si_row (by omega)]) h3.2
            · rw [si_row (by omega), si_row (by omega), si_row (by omega)]; exact h4 i hi
          · rw [if_neg c3]
            exact g0 _ (by rw [show expS b n 93 s2 = .inl (1, uP s2) from if_neg c3]; rfl)
    · have e : pF b n (D + 1) s = atS b n s := if_neg c
      rw [e] at g0 g1
      exact at0 s st Qf hQ hb c g0 g1
end RSU
/-- a sum is read -/
theorem ev_rsum {b : Nat → Nat} {n D d : Nat} (hN : BN b n) {s : RdS} {st : List Nat} {I : Nat → Nat → Int32} {J : Nat → Nat → Int64} {T : Nat → Nat → Nat} {Q : Option Value → Mem → Prop} (hc : CO D s) (hs : CLN st) (h : RRz b n s st I) (g0 : ∀ e, pS b n (pF b n D) s = .inl e → ∀ I', FM I I' → FBz e I' → Q (some (.int 0)) (SH, mkM I' J T)) (g1 : ∀ s', pS b n (pF b n D) s = .inr s' → ∀ I', FM I I' → RRz b n s' st I' → Q (some (.int 1)) (SH, mkM I' J T)) : Ev mt aM (d + 5) 196 [.ref 83] (SH, mkM I J T) Q := by
  refine Ev.intro (d := d + 4) mX12_readsSum rfl rfl (msu_0 (d := d) ?_)
  have h17 : I 83 17 = nI st.length := h.1.2.2.2.2
  rw [h17]
  refine Ev.intro (d := d + 3) mX12_readsFactor rfl rfl ?_
  refine sf_go (base := st.length) (d := d) (I0 := I) (Q := Q) hN co_cr (gr_pF D) (af_go hN D) ⟨fun I1 q => msu_9 (br0 rfl q), fun I1 q => msu_9 (br1 (by decide) q)⟩ (Nat.le_refl _) h.2.2.2.2.1 hc hs (fun e he I1 f1 k1 => g0 e he I1 f1 k1) (fun s' hs' hm ha => ?_) I (FM.rfl' I) h
  unfold LN
  rw [if_neg (fun z => z hm), if_neg (fun z => z ha), if_neg (by rw [hoF_nil rfl]; decide), cs_cln hs]
  exact fun I1 f1 k1 => g1 s' hs' I1 f1 k1
