/-! LAW, OTHER, RULE: both alike. -/
def ckByt (c : Nat) : Bool := eqI ((nI c).toInt8.toInt32 &&& 255) (nI c)
theorem all_byt : allB ckByt 256 = true := by decide +kernel
theorem mS_lt {s : Nat} (h : s < 8) : mS s < 8 := by
  unfold mS
  split <;> omega
theorem mS_inj {k s : Nat} (hk : k < 8) (hs : s < 8) (h : mS k = mS s) : k = s := by
  unfold mS at h
  split at h <;> split at h <;> omega
theorem ev_rdtM {S : St} (hS : PUR S) {s n d : Nat} {hd : Nat → Bool} (hs : s < 8) (hn : 1 ≤ n ∧ n ≤ 200 ∧ n ≤ (zT S).1) (hh : hdX (mS s) = hd) {I : Nat → Nat → Int32} {J : Nat → Nat → Int64} {T : Nat → Nat → Nat} {Q : Option Value → Mem → Prop} (H : MINV S I) (g : ∀ I', Fr LM I I' → MINV (rdS S s n hd) I' → Q (some (.int (ansT (rdT (zT S).2 n hd)))) (SH, mkM I' J T)) : Ev mt aM (d + 9) 204 [.ref 83, .int (nI (mS s)), .int (nI n)] (SH, mkM I J T) Q := by
  subst hh
  obtain ⟨n1, n2, n3⟩ := hn
  obtain ⟨h1, h2, h3, h4, h5, h6⟩ := H
  have hl := hS.2.2.2.1
  have hN : BN (zT S).2 n := ⟨n2, fun i hi => hS.2.2.2.2.1 i (by omega)⟩
  -- what any reading leaves of the rest
  have rest : ∀ I' : Nat → Nat → Int32, Fr [83, 91, 92, 93, 94, 95, 96, 97, 98, 99, 100, 101, 102] I I' → F83r I I' → I' 83 11 = 0 → ∀ A : Tm, A.1 = (zA S).1 → qW A = qW (zA S) → qG A = qG (zA S) → qL A = qL (zA S) → qS A = qS (zA S) → qX A = qX (zA S) → (∀ k, k < 8 → RTM I' (mS k) (qP A k)) → MINV (A, zX S, zL S, (0, (zT S).2), zF S) I' := by
    intro I' f f8 e11 A q1 q2 q3 q4 q5 q6 q7
    obtain ⟨a1, a2, a3, a4, a5, a6, a7, a8, a9⟩ := h1
    obtain ⟨r1, r2, r3⟩ := h2
    obtain ⟨l1, l2, l3⟩ := h4
    have q1' : qN A = qN (zA S) ∧ qC A = qC (zA S) ∧ qO A = qO (zA S) := by
      refine ⟨?_, ?_, ?_⟩
      · show A.1.1 = _; rw [q1]
      · show A.1.2.1 = _; rw [q1]
      · show A.1.2.2 = _; rw [q1]
    refine ⟨⟨?_, ?_, ?_, ?_, ?_, ?_, ?_, ?_, q7⟩, ⟨?_, ?_, ?_⟩, ?_, ⟨?_, ?_, ?_⟩, ⟨e11, fun j hj => absurd hj (Nat.not_lt_zero j)⟩, ?_⟩
    · rw [f8 0 (by omega), q1'.1]; exact a1
    · rw [f8 1 (by omega), q1'.2.1]; exact a2
    · rw [f8 2 (by omega), q1'.2.2]; exact a3
    · rw [f 84 rfl, q2]; exact a4
    · rw [f 85 rfl, q3]; exact a5
    · rw [f 86 rfl, q4]; exact a6
    · rw [f 87 rfl, q5]; exact a7
    · rw [f 88 rfl, q6]; exact a8
    · rw [f8 34 (by omega)]; exact r1.trans (by rw [← q1'.2.1])
    · rw [f8 35 (by omega)]; exact r2.trans (by rw [← q1'.2.2])
    · rw [f8 36 (by omega)]; exact r3
    · rw [f8 3 (by omega)]; exact h3
    · rw [f8 48 (by omega)]; exact l1
    · rw [f 113 rfl, f 114 rfl]; exact l2
    · rw [f 115 rfl, f 116 rfl]; exact l3
    · unfold MF
      rw [f 89 rfl]
      exact h6
  have hrt := h1.2.2.2.2.2.2.2.2
  unfold rdS at g
  refine ev_reads (x := mS s) (t := (zT S).1) hN n1 (mS_lt hs) ⟨n3, hl⟩ h5.1 (fun i hi => ?_) (fun e he I' f f8 e11 => ?_) (fun c hc I' f f8 e11 r1 r2 => ?_)
  · rw [h5.2 i (by omega)]
    exact eqI_eq (allB_get all_byt _ (hS.2.2.2.2.1 i (by omega)))
  · rw [he] at g
    exact g I' (f.sub rfl) (rest I' (f.sub rfl) f8 e11 (zA S) rfl rfl rfl rfl rfl rfl (fun k hk => (hrt k hk).fr rfl f))
  · rw [hc] at g
    refine g I' (f.sub rfl) (rest I' f f8 e11 (setP (zA S) s (prgC c)) rfl rfl rfl rfl rfl rfl (fun k hk => ?_))
    show RTM I' (mS k) (if k = s then prgC c else qP (zA S) k)
    by_cases q : k = s
    · rw [q, if_pos rfl]; exact r1
    · rw [if_neg q]
      exact r2 (mS k) _ (fun z => q (mS_inj hk hs z)) (hS.1.2.2.2.2.2.2.2.2 k hk) (hrt k hk)
theorem rdt_no {d : Nat} {s n : Int32} {h : Nat} {I : Nat → Nat → Int32} {J : Nat → Nat → Int64} {T : Nat → Nat → Nat} {Q : Option Value → Mem → Prop} (hn : n < 1 ∨ 200 < n ∨ ¬ n ≤ I 7 0) (g : Q (some (.int (-1))) (SH, mkM I J T)) : Ev mt aM (d + 45) 165 [.ref 0, .int s, .int n, .ref h] (SH, mkM I J T) Q := by
  refine Ev.intro (d := d + 44) mX11_readText rfl rfl (rdt_0 (d := d) ?_)
  by_cases c1 : n < 1
  · exact br0 c1 g
  refine br1 c1 ?_
  by_cases c2 : 200 < n
  · exact br0 c2 g
  refine br1 c2 (br1 ?_ g)
  rcases hn with q | q | q
  · exact absurd q c1
  · exact absurd q c2
  · exact q
theorem mrd_no {d : Nat} {x n : Int32} {I : Nat → Nat → Int32} {J : Nat → Nat → Int64} {T : Nat → Nat → Nat} {Q : Option Value → Mem → Prop} (hn : n < 1 ∨ 200 < n ∨ ¬ n ≤ I 83 11) (g : Q (some (.int (-1))) (SH, mkM I J T)) : Ev mt aM (d + 9) 204 [.ref 83, .int x, .int n] (SH, mkM I J T) Q := by
  refine Ev.intro (d := d + 8) mX12_reads rfl rfl (mrd_0 (d := d) ?_)
  by_cases c0 : v_X12_in n (1 : Int32) (200 : Int32) = 0
  · exact br0 c0 g
  refine br1 c0 (br1 ?_ g)
  rcases hn with q | q | q
  · exact absurd (by unfold v_X12_in w1_X12_in; exact if_pos q) c0
  · refine absurd ?_ c0
    unfold v_X12_in w1_X12_in
    by_cases c1 : n < 1
    · exact if_pos c1
    · rw [if_neg c1]; exact if_pos q
  · exact q
/-- how many bytes are asked for -/
theorem nb_ar (x : Int32) : (∃ n, 1 ≤ n ∧ n ≤ 200 ∧ x = nI n) ∨ x < 1 ∨ 200 < x := by
  rcases rg_ar x (b := 200) (by omega) with ⟨k, k1, k2, _⟩ | ⟨q, _⟩
  · by_cases c : k = 0
    · subst c
      subst k2
      exact Or.inr (Or.inl (by decide))
    · exact Or.inl ⟨k, by omega, k1, k2⟩
  · rcases q with q | q
    · refine Or.inr (Or.inl ?_)
      rw [Int32.lt_iff_toInt_lt] at q ⊢
      have e0 : (0 : Int32).toInt = 0 := by decide
      have e1 : (1 : Int32).toInt = 1 := by decide
      omega
    · exact Or.inr (Or.inr q)
theorem op_txt {S : St} (hS : PUR S) {s h : Nat} {hd : Nat → Bool} (hs : s < 8) (n : Int32) (hh : HH h hd) (hx : hdX (mS s) = hd) : ∃ (v : Int32) (S' : St), PUR S' ∧ (∀ (d : Nat) (I : Nat → Nat → Int32) (J : Nat → Nat → Int64) (T : Nat → Nat → Nat) (Q : Option Value → Mem → Prop), CINV S I J T → (∀ I' J' T', Fr LC I I' → Fj LC J J' → CINV S' I' J' T' → Q (some (.int v)) (SH, mkM I' J' T')) → Ev mt aM (d + 45) 165 [.ref 0, .int (nI s), .int n, .ref h] (SH, mkM I J T) Q) ∧ (∀ (d : Nat) (I : Nat → Nat → Int32) (J : Nat → Nat → Int64) (T : Nat → Nat → Nat) (Q : Option Value → Mem → Prop), MINV S I → (∀ I' J', Fr LM I I' → Fj LM J J' → MINV S' I' → Q (some (.int v)) (SH, mkM I' J' T)) → Ev mt aM (d + 9) 204 [.ref 83, .int (nI (mS s)), .int n] (SH, mkM I J T) Q) := by
  have hl := hS.2.2.2.1
  have no : (∀ t, t = (zT S).1 → n < 1 ∨ 200 < n ∨ ¬ n ≤ nI t) → ∃ (v : Int32) (S' : St), PUR S' ∧ (∀ (d : Nat) (I : Nat → Nat → Int32) (J : Nat → Nat → Int64) (T : Nat → Nat → Nat) (Q : Option Value → Mem → Prop), CINV S I J T → (∀ I' J' T', Fr LC I I' → Fj LC J J' → CINV S' I' J' T' → Q (some (.int v)) (SH, mkM I' J' T')) → Ev mt aM (d + 45) 165 [.ref 0, .int (nI s), .int n, .ref h] (SH, mkM I J T) Q) ∧ (∀ (d : Nat) (I : Nat → Nat → Int32) (J : Nat → Nat → Int64) (T : Nat → Nat → Nat) (Q : Option Value → Mem → Prop), MINV S I → (∀ I' J', Fr LM I I' → Fj LM J J' → MINV S' I' → Q (some (.int v)) (SH, mkM I' J' T)) → Ev mt aM (d + 9) 204 [.ref 83, .int (nI (mS s)), .int n] (SH, mkM I J T) Q) := by
    intro q
    refine ⟨-1, S, hS, fun d I J T Q H g => rdt_no ?_ (g I J T (Fr.rfl' _ _) (Fj.rfl' _ _) H), fun d I J T Q H g => mrd_no ?_ (g I J (Fr.rfl' _ _) (Fj.rfl' _ _) H)⟩
    · rw [H.2.2.2.2.2.2.2.1.1]; exact q _ rfl
    · rw [H.2.2.2.2.1.1]; exact q _ rfl
  rcases nb_ar n with ⟨m, m1, m2, rfl⟩ | q
  · by_cases c : m ≤ (zT S).1
    · refine ⟨ansT (rdT (zT S).2 m hd), rdS S s m hd, rdS_pur hS m2 (hd_128 (hh.hd (T := fun _ _ => 0))), fun d I J T Q H g => ev_rdt hS hs ⟨m1, m2, c⟩ hh H g, fun d I J T Q H g => ev_rdtM hS hs ⟨m1, m2, c⟩ hx H (fun I' f H' => g I' J f (Fj.rfl' _ _) H')⟩
    · exact no (fun t ht => Or.inr (Or.inr (by rw [ht]; exact nI_ge (by omega) (by omega))))
  · exact no (fun t _ => q.elim Or.inl (fun z => Or.inr (Or.inl z)))
theorem oin_no {x : Int32} (h : v_X11_isOther x = 0) : v_X12_in x (0 : Int32) (2 : Int32) = 0 := by
  refine in_no (b := 2) (by omega) ?_
  unfold v_X11_isOther w2_X11_isOther w1_X11_isOther at h
  by_cases c1 : x < 0
  · exact Or.inl c1
  · rw [if_neg c1] at h
    by_cases c2 : (3 : Int32) ≤ x
    · exact Or.inr c2
    · rw [if_neg c2] at h; exact absurd h (by decide)
theorem op_law {S : St} (hS : PUR S) (n : Int32) : OPR S 128 205 [.int n] := by
  obtain ⟨v, S', p, hc, hm⟩ := op_txt hS (s := 0) (h := 1001) (hd := hdL) (by omega) n (Or.inl ⟨rfl, rfl⟩) rfl
  exact ⟨.int v, S', p, fun d I J T Q H g => Ev.intro mX11_law rfl rfl (claw_0 (d := d + 4) (hc (d + 4) I J T _ H (fun I' J' T' f j H' => claw_8 (d := d + 4) (g I' J' T' f j H')))), fun d I J T Q H g => Ev.intro mX12_law rfl rfl (mlaw_0 (d := d + 40) (hm (d + 40) I J T _ H (fun I' J' f j H' => mlaw_7 (d := d + 40) (g I' J' f j H'))))⟩
theorem op_other {S : St} (hS : PUR S) (k n : Int32) : OPR S 129 206 [.int k, .int n] := by
  rcases oth_c k with ⟨b, hb, rfl, o1, o2⟩ | ⟨o1, o2⟩
  · have e1 : (1 : Int32) + nI b = nI (1 + b) := by rw [show (1 : Int32) = nI 1 from rfl, nI_add]
    have eS : mS (1 + b) = b := by unfold mS; rw [if_neg (by omega)]; omega
    have hx : hdX (mS (1 + b)) = hdO := by rw [eS]; unfold hdX; rw [if_neg (by omega), if_pos hb]
    obtain ⟨v, S', p, hc, hm⟩ := op_txt hS (s := 1 + b) (h := 1007) (hd := hdO) (by omega) n (Or.inr (Or.inl ⟨rfl, rfl⟩)) hx
    rw [← e1] at hc
    rw [eS] at hm
    have i1 : ¬ v_X12_in (nI b) (0 : Int32) (2 : Int32) = 0 := ne0 (in_yes (b := 2) (by omega) (by omega))
    exact ⟨.int v, S', p, fun d I J T Q H g => Ev.intro mX11_other rfl rfl (cother_0 (d := d + 4) (br1 (ne0 o1) (hc (d + 4) I J T _ H (fun I' J' T' f j H' => cother_17 (d := d + 4) (g I' J' T' f j H'))))), fun d I J T Q H g => Ev.intro mX12_other rfl rfl (mother_0 (d := d + 40) (br1 i1 (hm (d + 40) I J T _ H (fun I' J' f j H' => mother_15 (d := d + 40) (g I' J' f j H')))))⟩
  · have i0 : v_X12_in k (0 : Int32) (2 : Int32) = 0 := oin_no o1
    exact OPR.look hS (.int (-1)) (fun d I J T Q h g => Ev.intro mX11_other rfl rfl (cother_0 (d := d + 4) (br0 o1 g))) (fun d I J T Q h g => Ev.intro mX12_other rfl rfl (mother_0 (d := d + 40) (br0 i0 g)))
theorem op_rule {S : St} (hS : PUR S) (k n : Int32) : OPR S 130 207 [.int k, .int n] := by
  rcases rul_c k with ⟨b, hb, rfl, o1⟩ | ⟨o1, o2⟩
  · have e1 : (4 : Int32) + nI b = nI (4 + b) := by rw [show (4 : Int32) = nI 4 from rfl, nI_add]
    have e3 : (3 : Int32) + nI b = nI (3 + b) := by rw [show (3 : Int32) = nI 3 from rfl, nI_add]
    have eS : mS (4 + b) = 3 + b := by unfold mS; rw [if_neg (by omega)]; omega
    have hx : hdX (mS (4 + b)) = hdC := by rw [eS]; unfold hdX; rw [if_neg (by omega), if_neg (by omega)]
    obtain ⟨v, S', p, hc, hm⟩ := op_txt hS (s := 4 + b) (h := 1008) (hd := hdC) (by omega) n (Or.inr (Or.inr ⟨rfl, rfl⟩)) hx
    rw [← e1] at hc
    rw [eS, ← e3] at hm
    have i1 : ¬ v_X12_in (nI b) (0 : Int32) (3 : Int32) = 0 := ne0 (in_yes (b := 3) (by omega) (by omega))
    exact ⟨.int v, S', p, fun d I J T Q H g => Ev.intro mX11_rule rfl rfl (crule_0 (d := d + 4) (br1 (ne0 o1) (hc (d + 4) I J T _ H (fun I' J' T' f j H' => crule_17 (d := d + 4) (g I' J' T' f j H'))))), fun d I J T Q H g => Ev.intro mX12_rule rfl rfl (mrule_0 (d := d + 40) (br1 i1 (hm (d + 40) I J T _ H (fun I' J' f j H' => mrule_17 (d := d + 40) (g I' J' f j H')))))⟩
  · have i0 : v_X12_in k (0 : Int32) (3 : Int32) = 0 := in_no (b := 3) (by omega) o2
    exact OPR.look hS (.int (-1)) (fun d I J T Q h g => Ev.intro mX11_rule rfl rfl (crule_0 (d := d + 4) (br0 o1 g))) (fun d I J T Q h g => Ev.intro mX12_rule rfl rfl (mrule_0 (d := d + 40) (br0 i0 g)))
