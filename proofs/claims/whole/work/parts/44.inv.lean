/-! THE STATE OF BOTH OBJECTS, and what each holds of it. -/
/-- how many PERIODS; codes, scores behind them; ACTIONS, what happened in them -/
abbrev Lg : Type := Nat × (Nat → Nat) × (Nat → Nat) × (Nat → Nat) × (Nat → Nat)
abbrev lgN (L : Lg) : Nat := L.1
abbrev lgO (L : Lg) : Nat → Nat := L.2.1
abbrev lgS (L : Lg) : Nat → Nat := L.2.2.1
abbrev lgA (L : Lg) : Nat → Nat := L.2.2.2.1
abbrev lgE (L : Lg) : Nat → Nat := L.2.2.2.2
/-- terms, X, LOG, tape, how FRESH -/
abbrev St : Type := Tm × Nat × Lg × (Nat × (Nat → Nat)) × (Nat → Nat)
abbrev zA (S : St) : Tm := S.1
abbrev zX (S : St) : Nat := S.2.1
abbrev zL (S : St) : Lg := S.2.2.1
abbrev zT (S : St) : Nat × (Nat → Nat) := S.2.2.2.1
abbrev zF (S : St) : Nat → Nat := S.2.2.2.2
def LV (A : Tm) (L : Lg) : Prop := lgN L ≤ qN A ∧ lgO L 0 = 1536 ∧ lgS L 0 = 2 ∧ (∀ j, j ≤ lgN L → CD (lgO L j) ∧ mdN (lgO L j) ≤ qC A ∧ lgS L j < 5) ∧ ∀ j, j < lgN L → lgA L j < 49 ∧ mayF (lgO L j) (lgA L j) (qC A) (qO A) = true ∧ lgE L j < 5
def PUR (S : St) : Prop := BD (zA S) ∧ LV (zA S) (zL S) ∧ zX S < 65536 ∧ (zT S).1 ≤ 220 ∧ (∀ j, j < (zT S).1 → (zT S).2 j < 256) ∧ ∀ j, j < 5 → zF S j ≤ 3
def LC : List Nat := [0, 1, 2, 3, 4, 5, 6, 7, 8, 9, 10, 11, 12, 13, 14, 15, 16, 17, 18, 19, 20, 21, 22, 23, 24, 25, 26, 27, 28, 29, 30, 31, 32, 33, 34, 35, 36, 37, 38, 39, 40, 41, 42, 43, 44, 45, 46, 47, 48, 49, 50, 51, 52, 53, 54, 55, 56, 57, 58, 59, 60, 61, 62, 63, 64, 65, 66, 67, 68, 69, 70, 71, 72, 73, 74, 75, 76, 77, 78, 79, 80, 81, 82]
def LM : List Nat := [83, 84, 85, 86, 87, 88, 89, 90, 91, 92, 93, 94, 95, 96, 97, 98, 99, 100, 101, 102, 103, 104, 105, 106, 107, 108, 109, 110, 111, 112, 113, 114, 115, 116, 117]
/-- the class's LOG, tape; the reference's -/
def CL (L : Lg) (I : Nat → Nat → Int32) : Prop := I 76 0 = nI (lgN L) ∧ (∀ j, j ≤ lgN L → I 77 j = dI (lgO L j) ∧ I 78 j = scI (lgS L j)) ∧ ∀ j, j < lgN L → I 79 j = nI (lgA L j) ∧ I 80 j = nI (lgE L j)
def CTp (t : Nat × (Nat → Nat)) (I : Nat → Nat → Int32) : Prop := I 7 0 = nI t.1 ∧ ∀ j, j < t.1 → I 8 j = nI (t.2 j)
def ML (L : Lg) (I : Nat → Nat → Int32) : Prop := I 83 48 = nI (lgN L) ∧ (∀ j, 1 ≤ j → j ≤ lgN L → I 113 j = nI (lgO L j) ∧ I 114 j = scI (lgS L j)) ∧ ∀ j, j < lgN L → I 115 (j + 1) = nI (lgA L j) ∧ I 116 (j + 1) = nI (lgE L j)
def MTp (t : Nat × (Nat → Nat)) (I : Nat → Nat → Int32) : Prop := I 83 11 = nI t.1 ∧ ∀ j, j < t.1 → I 90 j = (nI (t.2 j)).toInt8.toInt32
/-- the texts' cells are different ones, the spare too -/
def TXD (T : Nat → Nat → Nat) : Prop := TX (T 62 0) ∧ (∀ s, s < 8 → T 13 s ≠ T 62 0) ∧ ∀ s s', s < 8 → s' < 8 → s ≠ s' → T 13 s ≠ T 13 s'
def CINV (S : St) (I : Nat → Nat → Int32) (J : Nat → Nat → Int64) (T : Nat → Nat → Nat) : Prop := RC (zA S) I T ∧ IB (zA S) I J ∧ IW (zA S) J ∧ TXD T ∧ SMI (zA S) I J ∧ I 0 8 = nI (zX S) ∧ CL (zL S) I ∧ CTp (zT S) I ∧ CF (zF S) I
def MINV (S : St) (I : Nat → Nat → Int32) : Prop := RM (zA S) I ∧ RN (qC (zA S)) (qO (zA S)) 0 I ∧ I 83 3 = nI (zX S) ∧ ML (zL S) I ∧ MTp (zT S) I ∧ MF (zF S) I
theorem CL.fr {l : List Nat} {L : Lg} {I I' : Nat → Nat → Int32} (hl : (l.elem 76 || l.elem 77 || l.elem 78 || l.elem 79 || l.elem 80) = false) (hf : Fr l I I') (h : CL L I) : CL L I' := by
  simp only [Bool.or_eq_false_iff] at hl
  unfold CL
  rw [hf _ hl.1.1.1.1, hf _ hl.1.1.1.2, hf _ hl.1.1.2, hf _ hl.1.2, hf _ hl.2]
  exact h
theorem CTp.fr {l : List Nat} {t : Nat × (Nat → Nat)} {I I' : Nat → Nat → Int32} (hl : (l.elem 7 || l.elem 8) = false) (hf : Fr l I I') (h : CTp t I) : CTp t I' := by
  simp only [Bool.or_eq_false_iff] at hl
  unfold CTp
  rw [hf _ hl.1, hf _ hl.2]
  exact h
theorem CF.fr {l : List Nat} {f : Nat → Nat} {I I' : Nat → Nat → Int32} (hl : l.elem 6 = false) (hf : Fr l I I') (h : CF f I) : CF f I' := by
  unfold CF
  rw [hf _ hl]
  exact h
theorem ML.fr {l : List Nat} {L : Lg} {I I' : Nat → Nat → Int32} (hl : (l.elem 83 || l.elem 113 || l.elem 114 || l.elem 115 || l.elem 116) = false) (hf : Fr l I I') (h : ML L I) : ML L I' := by
  simp only [Bool.or_eq_false_iff] at hl
  unfold ML
  rw [hf _ hl.1.1.1.1, hf _ hl.1.1.1.2, hf _ hl.1.1.2, hf _ hl.1.2, hf _ hl.2]
  exact h
theorem MTp.fr {l : List Nat} {t : Nat × (Nat → Nat)} {I I' : Nat → Nat → Int32} (hl : (l.elem 83 || l.elem 90) = false) (hf : Fr l I I') (h : MTp t I) : MTp t I' := by
  simp only [Bool.or_eq_false_iff] at hl
  unfold MTp
  rw [hf _ hl.1, hf _ hl.2]
  exact h
theorem MF.fr {l : List Nat} {f : Nat → Nat} {I I' : Nat → Nat → Int32} (hl : l.elem 89 = false) (hf : Fr l I I') (h : MF f I) : MF f I' := by
  unfold MF
  rw [hf _ hl]
  exact h
theorem SMI.fr {l lj : List Nat} {A : Tm} {I I' : Nat → Nat → Int32} {J J' : Nat → Nat → Int64} (hl : l.elem 81 = false) (hlj : lj.elem 82 = false) (hf : Fr l I I') (hj : Fj lj J J') (h : SMI A I J) : SMI A I' J' := by
  unfold SMI SMO
  rw [hf _ hl, hj _ hlj]
  exact h
theorem CINV.fr {S : St} {I I' : Nat → Nat → Int32} {J J' : Nat → Nat → Int64} {T : Nat → Nat → Nat} (hf : Fr LM I I') (hj : Fj LM J J') (h : CINV S I J T) : CINV S I' J' T := by
  obtain ⟨h1, h2, h3, h4, h5, h6, h7, h8, h9⟩ := h
  refine ⟨h1.fr rfl hf, h2.fr rfl rfl hf hj, h3.fr rfl hj, h4, h5.fr rfl rfl hf hj, ?_, h7.fr rfl hf, h8.fr rfl hf, h9.fr rfl hf⟩
  rw [hf 0 rfl]
  exact h6
theorem MINV.fr {S : St} {I I' : Nat → Nat → Int32} (hf : Fr LC I I') (h : MINV S I) : MINV S I' := by
  obtain ⟨h1, h2, h3, h4, h5, h6⟩ := h
  refine ⟨h1.fr rfl hf, h2.fr rfl hf, ?_, h4.fr rfl hf, h5.fr rfl hf, h6.fr rfl hf⟩
  rw [hf 83 rfl]
  exact h3
/-- scratch in the class: letters, BEST's memo, the walk's ends .. -/
theorem CINV.scr {S : St} {I I' : Nat → Nat → Int32} {J J' : Nat → Nat → Int64} {T : Nat → Nat → Nat} (hf : Fr [10, 11, 12, 69, 70] I I') (hj : Fj [71, 72, 74, 75] J J') (hB : IB (zA S) I' J') (hW : IW (zA S) J') (h : CINV S I J T) : CINV S I' J' T := by
  obtain ⟨h1, h2, h3, h4, h5, h6, h7, h8, h9⟩ := h
  refine ⟨h1.fr rfl hf, hB, hW, h4, h5.fr rfl rfl hf hj, ?_, h7.fr rfl hf, h8.fr rfl hf, h9.fr rfl hf⟩
  rw [hf 0 rfl]
  exact h6
theorem MINV.scr {S : St} {I I' : Nat → Nat → Int32} (hf : Fr [91, 92, 93, 94, 95, 96, 103, 104, 105, 106, 107, 108, 109, 110, 111, 112, 117] I I') (h : MINV S I) : MINV S I' := by
  obtain ⟨h1, h2, h3, h4, h5, h6⟩ := h
  refine ⟨h1.fr rfl hf, h2.fr rfl hf, ?_, h4.fr rfl hf, h5.fr rfl hf, h6.fr rfl hf⟩
  rw [hf 83 rfl]
  exact h3
/-- class and reference answer alike, and stay alike -/
def OPR (S : St) (gc gm : Nat) (as : List Value) : Prop := ∃ (v : Value) (S' : St), PUR S' ∧ (∀ (d : Nat) (I : Nat → Nat → Int32) (J : Nat → Nat → Int64) (T : Nat → Nat → Nat) (Q : Option Value → Mem → Prop), CINV S I J T → (∀ I' J' T', Fr LC I I' → Fj LC J J' → CINV S' I' J' T' → Q (some v) (SH, mkM I' J' T')) → Ev mt aM (d + 50) gc (.ref 0 :: as) (SH, mkM I J T) Q) ∧ (∀ (d : Nat) (I : Nat → Nat → Int32) (J : Nat → Nat → Int64) (T : Nat → Nat → Nat) (Q : Option Value → Mem → Prop), MINV S I → (∀ I' J', Fr LM I I' → Fj LM J J' → MINV S' I' → Q (some v) (SH, mkM I' J' T)) → Ev mt aM (d + 50) gm (.ref 83 :: as) (SH, mkM I J T) Q)
/-- both only look -/
theorem OPR.look {S : St} (hS : PUR S) {gc gm : Nat} {as : List Value} (v : Value) (hc : ∀ (d : Nat) (I : Nat → Nat → Int32) (J : Nat → Nat → Int64) (T : Nat → Nat → Nat) (Q : Option Value → Mem → Prop), CINV S I J T → Q (some v) (SH, mkM I J T) → Ev mt aM (d + 50) gc (.ref 0 :: as) (SH, mkM I J T) Q) (hm : ∀ (d : Nat) (I : Nat → Nat → Int32) (J : Nat → Nat → Int64) (T : Nat → Nat → Nat) (Q : Option Value → Mem → Prop), MINV S I → Q (some v) (SH, mkM I J T) → Ev mt aM (d + 50) gm (.ref 83 :: as) (SH, mkM I J T) Q) : OPR S gc gm as := ⟨v, S, hS, fun d I J T Q h g => hc d I J T Q h (g I J T (Fr.rfl' _ _) (Fj.rfl' _ _) h), fun d I J T Q h g => hm d I J T Q h (g I J (Fr.rfl' _ _) (Fj.rfl' _ _) h)⟩
/-- both look, and leave scratch -/
theorem OPR.scratch {S : St} (hS : PUR S) {gc gm : Nat} {as : List Value} (v : Value) (hc : ∀ (d : Nat) (I : Nat → Nat → Int32) (J : Nat → Nat → Int64) (T : Nat → Nat → Nat) (Q : Option Value → Mem → Prop), CINV S I J T → (∀ I' J', Fr [10, 11, 12, 69, 70] I I' → Fj [71, 72, 74, 75] J J' → IB (zA S) I' J' → IW (zA S) J' → Q (some v) (SH, mkM I' J' T)) → Ev mt aM (d + 50) gc (.ref 0 :: as) (SH, mkM I J T) Q) (hm : ∀ (d : Nat) (I : Nat → Nat → Int32) (J : Nat → Nat → Int64) (T : Nat → Nat → Nat) (Q : Option Value → Mem → Prop), MINV S I → (∀ I' J', Fr LM I I' → Fj LM J J' → MINV S I' → Q (some v) (SH, mkM I' J' T)) → Ev mt aM (d + 50) gm (.ref 83 :: as) (SH, mkM I J T) Q) : OPR S gc gm as :=
  ⟨v, S, hS, fun d I J T Q h g => hc d I J T Q h (fun I' J' f1 j1 b w => g I' J' T (f1.sub rfl) (j1.sub rfl) (h.scr f1 j1 b w)), hm⟩
