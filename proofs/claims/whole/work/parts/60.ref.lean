/-! THE REFERENCE READS: conditions. -/
section REC
variable {b : Nat → Nat} {n : Nat}
/-- a word more, nothing off the stack -/
theorem word_c (hN : BN b n) {s : RdS} {st : List Nat} {I : Nat → Nat → Int32} {v : Nat} (hv : v < 2 ^ 24) (h1 : uN s + wtL st + 1 ≤ uP s) (h : RRz b n s st I) : RRz b n (adS v s) st (si (si I 91 (uN s) (nI (enW v))) 83 16 (nI (uN s + 1))) ∧ FM I (si (si I 91 (uN s) (nI (enW v))) 83 16 (nI (uN s + 1))) ∧ vp_in (nI (uN s)) 220 := by
  have hn := hN.1
  obtain ⟨⟨a1, a2, a3, a4, a5⟩, h2, h3, h4, h5, h6, h7, h8, h9⟩ := h
  refine ⟨⟨⟨?_, ?_, ?_, si_at, ?_⟩, fun i hi => ?_, ?_, fun i hi => ?_, h5, show uN s + 1 + wtL st ≤ uP s by omega, h7, h8, fun i hi => ?_⟩, ((FM.rfl' I).s91).s83 (by omega), vp_in_nI (by omega) (by omega)⟩
  · rw [si_ne (by omega), si_row (by omega)]; exact a1
  · rw [si_ne (by omega), si_row (by omega)]; exact a2
  · rw [si_ne (by omega), si_row (by omega)]; exact a3
  · rw [si_ne (by omega), si_row (by omega)]; exact a5
  · have hi : i < uN s + 1 := hi
    rw [si_row (by omega)]
    show _ = nI (enW (unF (uW s) (uN s) v i))
    by_cases q : i = uN s
    · rw [q, unF_at]; exact si_at
    · rw [unF_ne q, si_ne q]; exact h2 i (by omega)
  · exact SK.fr (fun j _ => by rw [si_row (by omega), si_row (by omega)]) (h3.up (show uN s ≤ uN s + 1 by omega))
  · rw [si_row (by omega), si_row (by omega)]; exact h4 i hi
  · have hi : i < uN s + 1 := hi
    show unF (uW s) (uN s) v i < 2 ^ 24
    by_cases q : i = uN s
    · rw [q, unF_at]; exact hv
    · rw [unF_ne q]; exact h9 i (by omega)
/-- a place further -/
theorem mv_c {s : RdS} {st : List Nat} {I : Nat → Nat → Int32} (hp : uP s < n) (h : RRz b n s st I) : RRz b n (mvS s) st (si I 83 12 (nI (uP s + 1))) ∧ FM I (si I 83 12 (nI (uP s + 1))) := by
  obtain ⟨⟨a1, a2, a3, a4, a5⟩, h2, h3, h4, h5, h6, h7, h8, h9⟩ := h
  refine ⟨⟨⟨si_at, ?_, ?_, ?_, ?_⟩, fun i hi => ?_, ?_, fun i hi => ?_, show uP s + 1 ≤ n by omega, show uN s + wtL st ≤ uP s + 1 by omega, show st.length ≤ uP s + 1 by omega, h8, h9⟩, (FM.rfl' I).s83 (by omega)⟩
  · rw [si_ne (by omega)]; exact a2
  · rw [si_ne (by omega)]; exact a3
  · rw [si_ne (by omega)]; exact a4
  · rw [si_ne (by omega)]; exact a5
  · rw [si_row (by omega)]; exact h2 i hi
  · exact SK.fr (fun j _ => by rw [si_row (by omega)]) h3
  · rw [si_row (by omega)]; exact h4 i hi
theorem w_mcp {c : Nat} {I : Nat → Nat → Int32} (h : SG c) (h5 : v_X12_here I = sgI c) : w3_mcp_4 I = (if cmpK c = 0 then -1 else nI (cmpK c)) := by
  have e1 : v_X12_here I = (60 : Int32) ↔ c = 60 := by rw [h5]; exact sgI_eq (x := 60) h (by omega)
  have e2 : v_X12_here I = (62 : Int32) ↔ c = 62 := by rw [h5]; exact sgI_eq (x := 62) h (by omega)
  have e3 : v_X12_here I = (61 : Int32) ↔ c = 61 := by rw [h5]; exact sgI_eq (x := 61) h (by omega)
  unfold w3_mcp_4 w2_mcp_4 w1_mcp_4 cmpK
  by_cases c1 : c = 60
  · rw [if_pos (e1.mpr c1), if_pos c1]; rfl
  · rw [if_neg (fun q => c1 (e1.mp q)), if_neg c1]
    by_cases c2 : c = 62
    · rw [if_pos (e2.mpr c2), if_pos c2]; rfl
    · rw [if_neg (fun q => c2 (e2.mp q)), if_neg c2]
      by_cases c3 : c = 61
      · rw [if_pos (e3.mpr c3), if_pos c3]; rfl
      · rw [if_neg (fun q => c3 (e3.mp q)), if_neg c3]; rfl
theorem fb_c {k p : Nat} {I : Nat → Nat → Int32} {x : Int32} (hx : x = nI p) : FBz (k, p) (si I 83 14 (((-1000 : Int32) * nI k) - x)) := by
  unfold FBz
  rw [si_at, hx]
theorem ev_rcmp (hN : BN b n) {D d : Nat} {s : RdS} {st : List Nat} {I : Nat → Nat → Int32} {J : Nat → Nat → Int64} {T : Nat → Nat → Nat} {Q : Option Value → Mem → Prop} (hc : CO D s) (hs : CLN st) (h : RRz b n s st I) (g0 : ∀ e, cmF b n (pF b n D) s = .inl e → ∀ I', FM I I' → FBz e I' → Q (some (.int 0)) (SH, mkM I' J T)) (g1 : ∀ s', cmF b n (pF b n D) s = .inr s' → ∀ I', FM I I' → RRz b n (epF st s').2 (epF st s').1 I' → Q (some (.int 1)) (SH, mkM I' J T)) : Ev mt aM (d + 6) 200 [.ref 83] (SH, mkM I J T) Q := by
  have hp := h.2.2.2.2.1
  refine Ev.intro (d := d + 5) mX12_readsCompared rfl rfl (mcp_0 (d := d) (ev_rsum (D := D) (d := d) hN hc hs h (fun e he I1 f1 k1 => mcp_4 (br0 rfl (g0 e ?_ I1 f1 k1))) (fun s1 hs1 I1 f1 k1 => mcp_4 (br1 (by decide) ?_))))
  · show bnd (pS b n (pF b n D) s) _ = _
    rw [he]; rfl
  · have q1 : cmF b n (pF b n D) s = cmR b n (pF b n D) s1 := by
      show bnd (pS b n (pF b n D) s) _ = _
      rw [hs1]; rfl
    rw [q1] at g0 g1
    have gr1 := gr_pS (gr_pF D) _ _ hp hs1
    obtain ⟨y1, y2⟩ := here_c hN k1
    have hsg := sgn_sg (b := b) (n := n) (p := uP s1) hN.2
    refine ⟨y2, fun _ => ⟨y2, fun _ => y2⟩, ?_⟩
    rw [w_mcp hsg y1]
    unfold cmR at g0 g1
    by_cases c : cmpK (sgn b n (uP s1)) = 0
    · rw [if_pos c] at g0
      rw [if_pos c]
      exact br0 rfl (g0 _ rfl _ (f1.s83 (by omega)) (fb_c (k := 1) k1.1.1))
    · rw [if_neg c] at g0 g1
      rw [if_neg c]
      have hr := cmpK_rg c
      have hlt := cmpK_lt c
      obtain ⟨m1, m2⟩ := mv_c hlt k1
      have w1 : uN s1 + wtL st ≤ uP s1 := k1.2.2.2.2.2.1
      rw [k1.1.1, nI_1]
      refine br1 (nIm1 (by omega)) (ev_rsum (s := mvS s1) (D := D) (d := d) hN (co_cr s _ gr1.2.2.2.1 hc) hs m1 (fun e he I2 f2 k2 => mcp_82 (br0 rfl (g0 e (by rw [he]; rfl) I2 ((f1.trans m2).trans f2) k2))) (fun s2 hs2 I2 f2 k2 => mcp_82 (br1 (by decide) ?_)))
      have gr2 := gr_pS (gr_pF D) _ _ (show uP s1 + 1 ≤ n by omega) hs2
      have p3 : uN s2 + (uP s1 + 1) ≤ uN s1 + uP s2 := gr2.2.2.1
      obtain ⟨e1, e2, e3⟩ := word_c hN (v := cmpK (sgn b n (uP s1))) (by omega) (by omega) k2
      have nn := k2.nN
      have hn := hN.1
      rw [nn.1, nI_clamp (by omega), nI_1, u_mul, ← en_k (k := cmpK (sgn b n (uP s1))) (by omega)]
      exact ⟨e3, ev_ep (d := d + 2) hN e1 (fun I3 f3 k3 => mcp_97 (g1 _ (by rw [hs2]; rfl) I3 ((((f1.trans m2).trans f2).trans e2).trans f3) k3))⟩
end REC
section RET
variable {b : Nat → Nat} {n d : Nat} {I0 : Nat → Nat → Int32} {J : Nat → Nat → Int64} {T : Nat → Nat → Nat} {Q : Option Value → Mem → Prop}
/-- ahead of a piece, behind one -/
def BPc (b : Nat → Nat) (n d : Nat) (I0 : Nat → Nat → Int32) (J : Nat → Nat → Int64) (T : Nat → Nat → Nat) (Q : Option Value → Mem → Prop) (s : RdS) (st : List Nat) : Prop := ∀ I, FM I0 I → RRz b n s st I → Go none aM (Ev mt aM (d + 6)) mX12_readsCondition Q (40, [some (.ref 83)], [], (SH, mkM I J T), 0, 0)
def APc (b : Nat → Nat) (n d : Nat) (I0 : Nat → Nat → Int32) (J : Nat → Nat → Int64) (T : Nat → Nat → Nat) (Q : Option Value → Mem → Prop) (pc : Nat) (c : List Nat × RdS) : Prop := ∀ I, FM I0 I → RRz b n c.2 c.1 I → Go none aM (Ev mt aM (d + 6)) mX12_readsCondition Q (pc, [some (.ref 83)], [], (SH, mkM I J T), 0, 0)
def LAc (b : Nat → Nat) (n d : Nat) (I0 : Nat → Nat → Int32) (J : Nat → Nat → Int64) (T : Nat → Nat → Nat) (Q : Option Value → Mem → Prop) (s : RdS) (st : List Nat) : Prop :=
  if sgn b n (uP s) = 41 then APc b n d I0 J T Q 106 (ldF true st s)
  else if sgn b n (uP s) = 38 then APc b n d I0 J T Q 198 (ldF false st s)
  else if sgn b n (uP s) = 124 then APc b n d I0 J T Q 198 (ldF true st s)
  else FG I0 J T Q (1, uP s)
theorem ap_la (hN : BN b n) {s : RdS} {st : List Nat} (h : LAc b n d I0 J T Q s st) : APc b n d I0 J T Q 92 (st, s) := by
  intro I f0 hr
  have hr : RRz b n s st I := hr
  obtain ⟨y1, y2⟩ := here_c hN hr
  have hsg := sgn_sg (b := b) (n := n) (p := uP s) hN.2
  have q41 := sgI_eq (x := 41) hsg (by omega)
  have q38 := sgI_eq (x := 38) hsg (by omega)
  have q124 := sgI_eq (x := 124) hsg (by omega)
  refine mcn_92 ⟨y2, ?_⟩
  rw [y1]
  unfold LAc at h
  by_cases c1 : sgn b n (uP s) = 41
  · rw [if_pos c1] at h
    exact br0 (q41.mpr c1) (ev_ld (a := true) (d := d + 3) hN rfl hr (fun I1 f1 k1 => h I1 (f0.trans f1) k1))
  rw [if_neg c1] at h
  refine br1 (fun z => c1 (q41.mp z)) ⟨y2, ?_⟩
  by_cases c2 : sgn b n (uP s) = 38
  · rw [if_pos c2] at h
    refine br0 (q38.mpr c2) ⟨y2, br1 (fun z => ?_) (ev_ld (a := false) (d := d + 3) hN rfl hr (fun I1 f1 k1 => h I1 (f0.trans f1) k1))⟩
    have := q124.mp z
    omega
  rw [if_neg c2] at h
  refine br1 (fun z => c2 (q38.mp z)) ⟨y2, ?_⟩
  by_cases c3 : sgn b n (uP s) = 124
  · rw [if_pos c3] at h
    exact br0 (q124.mpr c3) ⟨y2, br0 (q124.mpr c3) (ev_ld (a := true) (d := d + 3) hN rfl hr (fun I1 f1 k1 => h I1 (f0.trans f1) k1))⟩
  · rw [if_neg c3] at h
    exact br1 (fun z => c3 (q124.mp z)) (h _ (f0.s83 (by omega)) (fb_c (k := 1) hr.1.1))
/-- what is wanted behind a piece -/
def PNc (b : Nat → Nat) (n d : Nat) (I0 : Nat → Nat → Int32) (J : Nat → Nat → Int64) (T : Nat → Nat → Nat) (Q : Option Value → Mem → Prop) (s : RdS) (st : List Nat) : Prop := LAc b n d I0 J T Q (epF st s).2 (epF st s).1
theorem ep_no {s : RdS} {st : List Nat} (h : ∀ x l, st = x :: l → ¬ x / 1048576 = 10) : epF st s = (st, s) := by
  cases st with
  | nil => rfl
  | cons x l => exact if_neg (h x l rfl)
theorem pn_no {s : RdS} {st : List Nat} (h : ∀ x l, st = x :: l → ¬ x / 1048576 = 10) (g : LAc b n d I0 J T Q s st) : PNc b n d I0 J T Q s st := by
  unfold PNc
  rw [ep_no h]
  exact g
/-- what a reader of pieces does -/
def PQc (b : Nat → Nat) (n d : Nat) (I0 : Nat → Nat → Int32) (J : Nat → Nat → Int64) (T : Nat → Nat → Nat) (Q : Option Value → Mem → Prop) (P : RdS → RdR) (C : RdS → Prop) : Prop := ∀ (s : RdS) (st : List Nat), st ≠ [] → CLN st → uP s ≤ n → uN s ≤ uP s → C s → (∀ e, P s = .inl e → FG I0 J T Q e) → (∀ s', P s = .inr s' → PNc b n d I0 J T Q s' st) → BPc b n d I0 J T Q s st
theorem la_11 {x : Nat} {s : RdS} {l : List Nat} (hx : x / 1048576 = 11) (h : LAc b n d I0 J T Q (lnS (x % 1048576) s) l) : LAc b n d I0 J T Q s (x :: l) := by
  have e : ∀ a, ldF a (x :: l) s = ldF a l (lnS (x % 1048576) s) := fun a => if_pos (Or.inl hx)
  unfold LAc
  rw [e, e]
  exact h
theorem la_12 {x : Nat} {s : RdS} {l : List Nat} (hx : x / 1048576 = 12) (hs : sgn b n (uP s) ≠ 38) (h : LAc b n d I0 J T Q (lnS (x % 1048576) s) l) : LAc b n d I0 J T Q s (x :: l) := by
  have e : ldF true (x :: l) s = ldF true l (lnS (x % 1048576) s) := if_pos (Or.inr ⟨rfl, hx⟩)
  unfold LAc at h ⊢
  rw [e, if_neg hs]
  rw [if_neg (show ¬ sgn b n (uP (lnS (x % 1048576) s)) = 38 from hs)] at h
  exact h
/-- a leap begins -/
theorem a198_go (hN : BN b n) {k : Nat} {s : RdS} {st : List Nat} (hk : (k = 11 ∧ sgn b n (uP s) = 38) ∨ (k = 12 ∧ sgn b n (uP s) = 124)) (h : BPc b n d I0 J T Q (adS k (mvS s)) ((1048576 * k + uN s) :: st)) : APc b n d I0 J T Q 198 (st, s) := by
  have hn := hN.1
  intro I f0 hr
  have hr : RRz b n s st I := hr
  obtain ⟨y1, y2⟩ := here_c hN hr
  have hsg := sgn_sg (b := b) (n := n) (p := uP s) hN.2
  have q38 := sgI_eq (x := 38) hsg (by omega)
  have hlt : uP s < n := by
    rcases hk with hk | hk
    · exact sgn_lt (by omega) hk.2
    · exact sgn_lt (by omega) hk.2
  have hN2 : uN s ≤ 200 := by have := hr.nN; omega
  have e1 : (1048576 * k + uN s) / 1048576 = k := by omega
  have e2 : (1048576 * k + uN s) % 1048576 = uN s := by omega
  obtain ⟨⟨a1, a2, a3, a4, a5⟩, h2, h3, h4, h5, h6, h7, h8, h9⟩ := hr
  -- the ints behind the leap
  have key : vp_in (I 83 17) 220 ∧ vp_in ((si (si I 92 ((I 83 17).toNatClampNeg) (((1048576 : Int32) * nI k) + (I 83 16))) 83 17 ((I 83 17) + (1 : Int32))) 83 16) 220 ∧ Go none aM (Ev mt aM (d + 6)) mX12_readsCondition Q (40, [some (.ref 83)], [], (SH, mkM (i_X12_jumps (nI k) I) J T), 0, 0) := by
    have q0 : (si (si I 92 ((I 83 17).toNatClampNeg) (((1048576 : Int32) * nI k) + (I 83 16))) 83 17 ((I 83 17) + (1 : Int32))) 83 16 = nI (uN s) := by rw [si_ne (by omega), si_row (by omega)]; exact a4
    refine ⟨by rw [a5]; exact vp_in_nI (by omega) (by omega), by rw [q0]; exact vp_in_nI (by omega) (by omega), ?_⟩
    unfold i_X12_jumps
    rw [q0, a5, a4, a1, nI_clamp (by omega), nI_clamp (by omega), nI_1, nI_1, nI_1, u_mul, show (1048576 : Int32) * nI k + nI (uN s) = nI (1048576 * k + uN s) by rw [show (1048576 : Int32) = nI 1048576 from rfl, pk_mul, nI_add]]
    refine h _ ((((f0.s92.s83 (by omega)).s91).s83 (by omega)).s83 (by omega)) ?_
    refine ⟨⟨si_at, ?_, ?_, ?_, ?_⟩, fun i hi => ?_, ⟨⟨?_, by omega, fun _ => by rw [e2]; show uN s < uN s + 1; omega⟩, ?_⟩, fun i hi => ?_, show uP s + 1 ≤ n by omega, ?_, show st.length + 1 ≤ uP s + 1 by omega, ⟨h8.1, ?_⟩, fun i hi => ?_⟩
    · rw [si_ne (by omega), si_ne (by omega), si_row (by omega), si_ne (by omega), si_row (by omega)]; exact a2
    · rw [si_ne (by omega), si_ne (by omega), si_row (by omega), si_ne (by omega), si_row (by omega)]; exact a3
    · rw [si_ne (by omega)]; exact si_at
    · rw [si_ne (by omega), si_ne (by omega), si_row (by omega)]; exact si_at
    · have hi : i < uN s + 1 := hi
      rw [si_row (by omega), si_row (by omega)]
      show _ = nI (enW (unF (uW s) (uN s) k i))
      by_cases q : i = uN s
      · rw [q, unF_at, en_k (by omega)]; exact si_at
      · rw [unF_ne q, si_ne q, si_row (by omega), si_row (by omega)]; exact h2 i (by omega)
    · rw [si_row (by omega), si_row (by omega), si_row (by omega), si_row (by omega)]; exact si_at
    · refine SK.fr (fun j hj => ?_) (h3.up (show uN s ≤ uN s + 1 by omega))
      rw [si_row (by omega), si_row (by omega), si_row (by omega), si_row (by omega), si_ne (by omega)]
    · rw [si_row (by omega), si_row (by omega), si_row (by omega), si_row (by omega), si_row (by omega)]; exact h4 i hi
    · show uN s + 1 + ((if (1048576 * k + uN s) / 1048576 = 11 ∨ (1048576 * k + uN s) / 1048576 = 12 then 0 else 1) + wtL st) ≤ uP s + 1
      rw [e1, if_pos (by omega)]
      omega
    · show (if (1048576 * k + uN s) / 1048576 = 10 ∨ (1048576 * k + uN s) / 1048576 = 13 ∨ (1048576 * k + uN s) / 1048576 = 14 then 1 else 0) + opL st ≤ uO s
      rw [e1, if_neg (by omega), Nat.zero_add]
      exact h8.2
    · have hi : i < uN s + 1 := hi
      show unF (uW s) (uN s) k i < 2 ^ 24
      by_cases q : i = uN s
      · rw [q, unF_at]; omega
      · rw [unF_ne q]; exact h9 i (by omega)
  refine mcn_198 ⟨y2, ?_⟩
  rw [y1]
  rcases hk with ⟨k1, k2⟩ | ⟨k1, k2⟩
  · subst k1
    exact br0 (q38.mpr k2) key
  · subst k1
    exact br1 (fun z => by have := q38.mp z; omega) key
theorem la_go (hN : BN b n) {P : RdS → RdR} {C : RdS → Prop} (cr : ∀ s s2, uO s2 = uO s → C s → C s2) (gP : GRF n P) (hP : PQc b n d I0 J T Q P C) : ∀ (k : Nat) (s : RdS) (st : List Nat), n ≤ k + uP s → uP s ≤ n → uN s ≤ uP s → C s → CLN st → (∀ x l, st = x :: l → ¬ x / 1048576 = 11) → (∀ e, lpA b n P k s = .inl e → FG I0 J T Q e) → (∀ s', lpA b n P k s = .inr s' → sgn b n (uP s') ≠ 38 → LAc b n d I0 J T Q s' st) → LAc b n d I0 J T Q s st := by
  have hn := hN.1
  intro k
  induction k with
  | zero =>
    intro s st hk hp hl hc hs h11 g0 g1
    refine g1 s rfl ?_
    have : ¬ uP s < n := by omega
    unfold sgn
    rw [if_neg this]
    decide
  | succ k ih =>
    intro s st hk hp hl hc hs h11 g0 g1
    by_cases c : sgn b n (uP s) = 38
    · have e : lpA b n P (k + 1) s = bnd (P (adS 11 (mvS s))) (fun s2 => lpA b n P k (lnS (uN s) s2)) := if_pos c
      rw [e] at g0 g1
      have hlt : uP s < n := sgn_lt (by omega) c
      have e1 : (1048576 * 11 + uN s) / 1048576 = 11 := by omega
      have e2 : (1048576 * 11 + uN s) % 1048576 = uN s := by omega
      have e3 : ldF false st s = (st, s) := by
        cases st with
        | nil => rfl
        | cons x l => exact if_neg (fun z => z.elim (h11 x l rfl) (fun z => absurd z.1 (by decide)))
      unfold LAc
      rw [if_neg (by omega), if_pos c, e3]
      refine a198_go hN (Or.inl ⟨rfl, c⟩) (hP (adS 11 (mvS s)) _ (by intro z; cases z) (fun x l hx => by cases hx; omega) (show uP s + 1 ≤ n by omega) (show uN s + 1 ≤ uP s + 1 by omega) (cr s _ rfl hc) (fun e he => g0 e (by rw [he]; rfl)) (fun s2 hs2 => pn_no (fun x l hx => by cases hx; omega) (la_11 e1 ?_)))
      rw [e2]
      have g := gP _ _ (show uP s + 1 ≤ n by omega) hs2
      have p1 : uP s + 1 ≤ uP s2 := g.1
      have p3 : uN s2 + (uP s + 1) ≤ uN s + 1 + uP s2 := g.2.2.1
      exact ih (lnS (uN s) s2) st (show n ≤ k + uP s2 by omega) g.2.1 (show uN s2 ≤ uP s2 by omega) (cr s _ g.2.2.2.1 hc) hs h11 (fun e he => g0 e (by rw [hs2]; exact he)) (fun s' he => g1 s' (by rw [hs2]; exact he))
    · exact g1 s (if_neg c) c
theorem pa_go (hN : BN b n) {P : RdS → RdR} {C : RdS → Prop} (cr : ∀ s s2, uO s2 = uO s → C s → C s2) (gP : GRF n P) (hP : PQc b n d I0 J T Q P C) {s : RdS} {st : List Nat} (hst : st ≠ []) (hp : uP s ≤ n) (hl : uN s ≤ uP s) (hc : C s) (hs : CLN st) (h11 : ∀ x l, st = x :: l → 12 ≤ x / 1048576) (g0 : ∀ e, pA b n P s = .inl e → FG I0 J T Q e) (g1 : ∀ s', pA b n P s = .inr s' → sgn b n (uP s') ≠ 38 → LAc b n d I0 J T Q s' st) : BPc b n d I0 J T Q s st := by
  refine hP s st hst hs hp hl hc (fun e he => g0 e ?_) (fun s1 hs1 => ?_)
  · show bnd (P s) _ = _
    rw [he]; rfl
  · have g := gP _ _ hp hs1
    have e1 : pA b n P s = lpA b n P n s1 := by
      show bnd (P s) _ = _
      rw [hs1]; rfl
    rw [e1] at g0 g1
    have := g.2.2.1
    exact pn_no (fun x l hx => by have := h11 x l hx; omega) (la_go hN cr gP hP n s1 st (by omega) g.2.1 (by omega) (cr s s1 g.2.2.2.1 hc) hs (fun x l hx => by have := h11 x l hx; omega) g0 g1)
theorem lo_go (hN : BN b n) {P : RdS → RdR} {C : RdS → Prop} (cr : ∀ s s2, uO s2 = uO s → C s → C s2) (gP : GRF n P) (hP : PQc b n d I0 J T Q P C) : ∀ (k : Nat) (s : RdS) (st : List Nat), n ≤ k + uP s → uP s ≤ n → uN s ≤ uP s → C s → CLN st → (∀ x l, st = x :: l → 13 ≤ x / 1048576) → sgn b n (uP s) ≠ 38 → (∀ e, lpO b n P k s = .inl e → FG I0 J T Q e) → (∀ s', lpO b n P k s = .inr s' → sgn b n (uP s') ≠ 38 → sgn b n (uP s') ≠ 124 → LAc b n d I0 J T Q s' st) → LAc b n d I0 J T Q s st := by
  have hn := hN.1
  intro k
  induction k with
  | zero =>
    intro s st hk hp hl hc hs h13 h38 g0 g1
    refine g1 s rfl h38 ?_
    have : ¬ uP s < n := by omega
    unfold sgn
    rw [if_neg this]
    decide
  | succ k ih =>
    intro s st hk hp hl hc hs h13 h38 g0 g1
    by_cases c : sgn b n (uP s) = 124
    · have e : lpO b n P (k + 1) s = bnd (pA b n P (adS 12 (mvS s))) (fun s2 => lpO b n P k (lnS (uN s) s2)) := if_pos c
      rw [e] at g0 g1
      have hlt : uP s < n := sgn_lt (by omega) c
      have e1 : (1048576 * 12 + uN s) / 1048576 = 12 := by omega
      have e2 : (1048576 * 12 + uN s) % 1048576 = uN s := by omega
      have e3 : ldF true st s = (st, s) := by
        cases st with
        | nil => rfl
        | cons x l =>
          have := h13 x l rfl
          exact if_neg (fun z => z.elim (by omega) (fun z => by omega))
      unfold LAc
      rw [if_neg (by omega), if_neg h38, if_pos c, e3]
      refine a198_go hN (Or.inr ⟨rfl, c⟩) (pa_go hN cr gP hP (by intro z; cases z) (show uP s + 1 ≤ n by omega) (show uN s + 1 ≤ uP s + 1 by omega) (cr s _ rfl hc) (fun x l hx => by cases hx; omega) (fun x l hx => by cases hx; omega) (fun e he => g0 e (by rw [he]; rfl)) (fun s2 hs2 h2 => la_12 e1 h2 ?_))
      rw [e2]
      have g := gr_pA gP _ _ (show uP s + 1 ≤ n by omega) hs2
      have p1 : uP s + 1 ≤ uP s2 := g.1
      have p3 : uN s2 + (uP s + 1) ≤ uN s + 1 + uP s2 := g.2.2.1
      exact ih (lnS (uN s) s2) st (show n ≤ k + uP s2 by omega) g.2.1 (show uN s2 ≤ uP s2 by omega) (cr s _ g.2.2.2.1 hc) hs h13 h2 (fun e he => g0 e (by rw [hs2]; exact he)) (fun s' he => g1 s' (by rw [hs2]; exact he))
    · exact g1 s (if_neg c) h38 c
theorem po_go (hN : BN b n) {P : RdS → RdR} {C : RdS → Prop} (cr : ∀ s s2, uO s2 = uO s → C s → C s2) (gP : GRF n P) (hP : PQc b n d I0 J T Q P C) {s : RdS} {st : List Nat} (hst : st ≠ []) (hp : uP s ≤ n) (hl : uN s ≤ uP s) (hc : C s) (hs : CLN st) (h13 : ∀ x l, st = x :: l → 13 ≤ x / 1048576) (g0 : ∀ e, pO b n P s = .inl e → FG I0 J T Q e) (g1 : ∀ s', pO b n P s = .inr s' → sgn b n (uP s') ≠ 38 → sgn b n (uP s') ≠ 124 → LAc b n d I0 J T Q s' st) : BPc b n d I0 J T Q s st := by
  refine pa_go hN cr gP hP hst hp hl hc hs (fun x l hx => by have := h13 x l hx; omega) (fun e he => g0 e ?_) (fun s1 hs1 h38 => ?_)
  · show bnd (pA b n P s) _ = _
    rw [he]; rfl
  · have g := gr_pA gP _ _ hp hs1
    have e1 : pO b n P s = lpO b n P n s1 := by
      show bnd (pA b n P s) _ = _
      rw [hs1]; rfl
    rw [e1] at g0 g1
    have := g.2.2.1
    exact lo_go hN cr gP hP n s1 st (by omega) g.2.1 (by omega) (cr s s1 g.2.2.2.1 hc) hs h13 h38 g0 g1
/-- a ) that closes -/
theorem a106_c (hN : BN b n) {s : RdS} {l : List Nat} {I : Nat → Nat → Int32} (hp : uP s < n) (h : RRz b n s (1048576 * 13 :: l) I) : RRz b n (outS (mvS s)) l (si (si (si I 83 17 ((I 83 17) - (1 : Int32))) 83 15 ((I 83 15) - (1 : Int32))) 83 12 ((I 83 12) + (1 : Int32))) ∧ I 83 17 - (1 : Int32) = nI l.length := by
  have e13 : 1048576 * 13 / 1048576 = 13 := by decide
  obtain ⟨⟨a1, a2, a3, a4, a5⟩, h2, h3, h4, h5, h6, h7, h8, h9⟩ := h
  have a5 : I 83 17 = nI (l.length + 1) := a5
  have h6 : uN s + ((if 1048576 * 13 / 1048576 = 11 ∨ 1048576 * 13 / 1048576 = 12 then 0 else 1) + wtL l) ≤ uP s := h6
  rw [e13, if_neg (by omega)] at h6
  have h7 : l.length + 1 ≤ uP s := h7
  have h8' : (if 1048576 * 13 / 1048576 = 10 ∨ 1048576 * 13 / 1048576 = 13 ∨ 1048576 * 13 / 1048576 = 14 then 1 else 0) + opL l ≤ uO s := h8.2
  rw [e13, if_pos (by omega)] at h8'
  have h86 : uO s ≤ 6 := h8.1
  rw [a5, a3, a1, nI_pred, nI_1, show (1 : Int32) = nI 1 from rfl, pk_sub (by omega)]
  refine ⟨⟨⟨si_at, ?_, ?_, ?_, ?_⟩, fun i hi => ?_, ?_, fun i hi => ?_, show uP s + 1 ≤ n by omega, show uN s + wtL l ≤ uP s + 1 by omega, show l.length ≤ uP s + 1 by omega, ⟨show uO s - 1 ≤ 6 by omega, show opL l ≤ uO s - 1 by omega⟩, h9⟩, rfl⟩
  · rw [si_ne (by omega), si_ne (by omega), si_ne (by omega)]; exact a2
  · rw [si_ne (by omega)]; exact si_at
  · rw [si_ne (by omega), si_ne (by omega), si_ne (by omega)]; exact a4
  · rw [si_ne (by omega), si_ne (by omega)]; exact si_at
  · rw [si_row (by omega), si_row (by omega), si_row (by omega)]; exact h2 i hi
  · exact SK.fr (fun j _ => by rw [si_row (by omega), si_row (by omega), si_row (by omega)]) h3.2
  · rw [si_row (by omega), si_row (by omega), si_row (by omega)]; exact h4 i hi
/-- what a ( ) leaves, its end at hand -/
theorem rnd_end (hN : BN b n) {s2 : RdS} {l : List Nat} (h38 : sgn b n (uP s2) ≠ 38) (h124 : sgn b n (uP s2) ≠ 124) (g0 : ∀ e, bnd (expS b n 41 s2) (fun s3 => .inr (outS s3)) = .inl e → FG I0 J T Q e) (g1 : uP s2 < n → expS b n 41 s2 = .inr (mvS s2) → APc b n d I0 J T Q 106 (1048576 * 13 :: l, s2)) : LAc b n d I0 J T Q s2 (1048576 * 13 :: l) := by
  have e13 : 1048576 * 13 / 1048576 = 13 := by decide
  have e3 : ldF true (1048576 * 13 :: l) s2 = (1048576 * 13 :: l, s2) := if_neg (by rw [e13]; exact fun z => z.elim (by decide) (fun z => absurd z.2 (by decide)))
  unfold LAc
  by_cases c : sgn b n (uP s2) = 41
  · rw [if_pos c, e3]
    exact g1 (sgn_lt (by omega) c) (if_pos c)
  · rw [if_neg c, if_neg h38, if_neg h124]
    exact g0 _ (by rw [show expS b n 41 s2 = .inl (1, uP s2) from if_neg c]; rfl)
theorem bp_open (hN : BN b n) {w : Nat} {s : RdS} {st : List Nat} (hw : (w = 10 ∧ sgn b n (uP s) = 33) ∨ (w = 13 ∧ sgn b n (uP s) = 40)) (g0 : uO s = 6 → FG I0 J T Q (5, uP s)) (g1 : uO s ≠ 6 → BPc b n d I0 J T Q (uP s + 1, uO s + 1, uN s, uW s) (1048576 * w :: st)) : BPc b n d I0 J T Q s st := by
  intro I f0 hr
  obtain ⟨y1, y2⟩ := here_c hN hr
  have hsg := sgn_sg (b := b) (n := n) (p := uP s) hN.2
  have q33 := sgI_eq (x := 33) hsg (by omega)
  have q40 := sgI_eq (x := 40) hsg (by omega)
  have hlt : uP s < n := by
    rcases hw with hw | hw
    · exact sgn_lt (by omega) hw.2
    · exact sgn_lt (by omega) hw.2
  have key : Ev mt aM (d + 6) 189 [.ref 83, .int (nI w)] (SH, mkM I J T) (fun r m1 => Go none aM (Ev mt aM (d + 6)) mX12_readsCondition Q (78, [some (.ref 83)], r.toList ++ [], m1, 0, 0)) :=
    ev_op (d := d + 3) (w := w) hN (by omega) hlt hr (fun h6 I1 f1 k1 => mcn_78 (br0 rfl (g0 h6 I1 (f0.trans f1) k1))) (fun h6 I1 f1 k1 => mcn_78 (br1 (by decide) (g1 h6 I1 (f0.trans f1) k1)))
  refine mcn_40 ⟨y2, ?_⟩
  rw [y1]
  rcases hw with ⟨w1, w2⟩ | ⟨w1, w2⟩
  · subst w1
    exact br0 (q33.mpr w2) ⟨y2, br0 (q33.mpr w2) key⟩
  · subst w1
    have n33 : ¬ sgI (sgn b n (uP s)) = (33 : Int32) := fun z => by have := q33.mp z; omega
    exact br1 n33 ⟨y2, br0 (q40.mpr w2) ⟨y2, br1 n33 key⟩⟩
theorem bp_cm (hN : BN b n) {D : Nat} {s : RdS} {st : List Nat} (hs : CLN st) (hc : CO D s) (h33 : sgn b n (uP s) ≠ 33) (h40 : sgn b n (uP s) ≠ 40) (g0 : ∀ e, cmF b n (pF b n D) s = .inl e → FG I0 J T Q e) (g1 : ∀ s', cmF b n (pF b n D) s = .inr s' → PNc b n d I0 J T Q s' st) : BPc b n d I0 J T Q s st := by
  intro I f0 hr
  obtain ⟨y1, y2⟩ := here_c hN hr
  have hsg := sgn_sg (b := b) (n := n) (p := uP s) hN.2
  have q33 := sgI_eq (x := 33) hsg (by omega)
  have q40 := sgI_eq (x := 40) hsg (by omega)
  refine mcn_40 ⟨y2, ?_⟩
  rw [y1]
  refine br1 (fun z => h33 (q33.mp z)) ⟨y2, br1 (fun z => h40 (q40.mp z)) (ev_rcmp (D := D) (d := d) hN hc hs hr (fun e he I1 f1 k1 => mcn_87 (br0 rfl (g0 e he I1 (f0.trans f1) k1))) (fun s' hs' I1 f1 k1 => mcn_87 (br1 (by decide) (ap_la hN (g1 s' hs') I1 (f0.trans f1) k1))))⟩
theorem pq_go (hN : BN b n) : ∀ D, PQc b n d I0 J T Q (pP b n D) (CO D) := by
  intro D
  have hn := hN.1
  induction D with
  | zero =>
    intro s st hst hs hp hl hc g0 g1
    have h6 : ∀ I, RRz b n s st I → uO s = 6 := fun I hr => by
      have h1 := hr.2.2.2.2.2.2.2.1.1
      have h2 : 6 ≤ uO s + 0 := hc
      omega
    by_cases c : sgn b n (uP s) = 40 ∨ sgn b n (uP s) = 33
    · have e : pP b n 0 s = .inl (5, uP s) := if_pos c
      rcases c with c | c
      · exact fun I f0 hr => bp_open hN (w := 13) (Or.inr ⟨rfl, c⟩) (fun _ => g0 _ e) (fun z => absurd (h6 I hr) z) I f0 hr
      · exact fun I f0 hr => bp_open hN (w := 10) (Or.inl ⟨rfl, c⟩) (fun _ => g0 _ e) (fun z => absurd (h6 I hr) z) I f0 hr
    · have e : pP b n 0 s = cmF b n (pF b n 0) s := if_neg c
      rw [e] at g0 g1
      exact bp_cm hN hs hc (fun z => c (Or.inr z)) (fun z => c (Or.inl z)) g0 g1
  | succ D ih =>
    intro s st hst hs hp hl hc g0 g1
    have hc' : CO D (uP s + 1, uO s + 1, uN s, uW s) := by
      have hc : 6 ≤ uO s + (D + 1) := hc
      show 6 ≤ uO s + 1 + D
      omega
    by_cases c : sgn b n (uP s) = 40
    · have e : pP b n (D + 1) s = bnd (entS s) (fun s1 => bnd (pO b n (pP b n D) s1) (fun s2 => bnd (expS b n 41 s2) (fun s3 => .inr (outS s3)))) := by
        show (if sgn b n (uP s) = 40 then rdF b n (pP b n D) s else _) = _
        rw [if_pos c]
        exact if_pos c
      rw [e] at g0 g1
      have hlt : uP s < n := sgn_lt (by omega) c
      have e13 : 1048576 * 13 / 1048576 = 13 := by decide
      refine bp_open hN (w := 13) (Or.inr ⟨rfl, c⟩) (fun h6 => g0 _ ?_) (fun h6 => ?_)
      · rw [show entS s = .inl (5, uP s) from if_pos h6]; rfl
      · have e2 : entS s = .inr (uP s + 1, uO s + 1, uN s, uW s) := if_neg h6
        rw [e2] at g0 g1
        refine po_go hN co_cr (gr_pP D) ih (by intro z; cases z) (show uP s + 1 ≤ n by omega) (show uN s ≤ uP s + 1 by omega) hc' (fun x l hx => by cases hx; rw [e13]; omega) (fun x l hx => by cases hx; rw [e13]; omega) (fun e he => g0 e ?_) (fun s2 hs2 h38 h124 => ?_)
        · show bnd (pO b n (pP b n D) (uP s + 1, uO s + 1, uN s, uW s)) _ = _
          rw [he]; rfl
        · refine rnd_end hN h38 h124 (fun e he => g0 e ?_) (fun hlt2 e3 => ?_)
          · show bnd (pO b n (pP b n D) (uP s + 1, uO s + 1, uN s, uW s)) _ = _
            rw [hs2]; exact he
          · have g1 := g1 (outS (mvS s2)) (by
              show bnd (pO b n (pP b n D) (uP s + 1, uO s + 1, uN s, uW s)) _ = _
              rw [hs2]
              show bnd (expS b n 41 s2) _ = _
              rw [e3]; rfl)
            intro I f0 hr
            have hr : RRz b n s2 (1048576 * 13 :: st) I := hr
            obtain ⟨k1, k2⟩ := a106_c hN hlt2 hr
            have f1 : FM I0 (si (si (si I 83 17 ((I 83 17) - (1 : Int32))) 83 15 ((I 83 15) - (1 : Int32))) 83 12 ((I 83 12) + (1 : Int32))) := ((f0.s83 (by omega)).s83 (by omega)).s83 (by omega)
            have hl0 : st.length + 1 ≤ uP s2 := hr.2.2.2.2.2.2.1
            refine mcn_106 ?_
            have hz : st.length ≠ 0 := by
              cases st with
              | nil => exact absurd rfl hst
              | cons x l => intro z; cases z
            refine br1 (by rw [k2]; exact nI_ne0 (by omega) (by omega)) (ev_ep (d := d + 3) hN k1 (fun I2 f2 r2 => mcn_149 (ap_la hN g1 I2 (f1.trans f2) r2)))
    · by_cases c2 : sgn b n (uP s) = 33
      · have e : pP b n (D + 1) s = bnd (entS s) (fun s1 => bnd (pP b n D s1) (fun s2 => .inr (outS (adS 10 s2)))) := by
          show (if sgn b n (uP s) = 40 then _ else if sgn b n (uP s) = 33 then _ else _) = _
          rw [if_neg c, if_pos c2]
        rw [e] at g0 g1
        have hlt : uP s < n := sgn_lt (by omega) c2
        have e10 : 1048576 * 10 / 1048576 = 10 := by decide
        refine bp_open hN (w := 10) (Or.inl ⟨rfl, c2⟩) (fun h6 => g0 _ ?_) (fun h6 => ?_)
        · rw [show entS s = .inl (5, uP s) from if_pos h6]; rfl
        · have e2 : entS s = .inr (uP s + 1, uO s + 1, uN s, uW s) := if_neg h6
          rw [e2] at g0 g1
          refine ih _ _ (by intro z; cases z) (fun x l hx => by cases hx; rw [e10]; omega) (show uP s + 1 ≤ n by omega) (show uN s ≤ uP s + 1 by omega) hc' (fun e he => g0 e ?_) (fun s2 hs2 => ?_)
          · show bnd (pP b n D (uP s + 1, uO s + 1, uN s, uW s)) _ = _
            rw [he]; rfl
          · have g1 := g1 (outS (adS 10 s2)) (by
              show bnd (pP b n D (uP s + 1, uO s + 1, uN s, uW s)) _ = _
              rw [hs2]; rfl)
            have e4 : epF (1048576 * 10 :: st) s2 = epF st (outS (adS 10 s2)) := if_pos e10
            unfold PNc at g1 ⊢
            rw [e4]
            exact g1
      · have e : pP b n (D + 1) s = cmF b n (pF b n (D + 1)) s := by
          show (if sgn b n (uP s) = 40 then _ else if sgn b n (uP s) = 33 then _ else _) = _
          rw [if_neg c, if_neg c2]
        rw [e] at g0 g1
        exact bp_cm hN hs hc c2 c g0 g1
end RET
