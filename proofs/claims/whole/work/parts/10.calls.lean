/-! CALLS: a callee's contract, as the plain machine tells it. -/
theorem popN_inv {E : Cal} {P : Cfg → Prop} {Q : Option Value → Mem → Prop} : ∀ (n : Nat) (acc st : List Value) (K : List Value → List Value → Out), ex1 E P Q (popN n acc st K) → ∃ l r, st = l ++ r ∧ l.length = n ∧ ex1 E P Q (K (l.reverse ++ acc) r) := by
  intro n
  induction n with
  | zero => intro acc st K h; exact ⟨[], st, rfl, rfl, h⟩
  | succ n ih =>
    intro acc st K h
    cases st with
    | nil => exact False.elim h
    | cons v st =>
      obtain ⟨l, r, h1, h2, h3⟩ := ih (v :: acc) st K h
      refine ⟨v :: l, r, by rw [h1]; rfl, by simp [h2], ?_⟩
      simpa using h3
theorem ocat_map (ad : Nat → Nat) (st : List Value) : ((st.map (vr ad)).map fun v => v.category).sum = ocat st := by
  induction st with
  | nil => rfl
  | cons v st ih => simp only [List.map_cons, List.sum_cons, ih, vr_cat, ocat]
def vQ (base : Nat) (ext : Nat → Nat) (D : va_G) (cA : Nat → ClassId) (K : Option Value → Mem → Prop) (n : Nat) : Array Value → State → Outcome → State → Prop := fun _ st oc t =>
  (∃ (v : Option Value) (m1 : Mem), oc = .returned (v.map (vr (adr base ext))) ∧ K v m1 ∧ Holds base ext D cA n m1 t.heap) ∧ va_F (At0 base) st t
def Bp (base : Nat) (ext : Nat → Nat) (D : va_G) (cA : Nat → ClassId) (mm : Mem) : State → Prop := fun U => U.heap.size = base + mm.1.length ∧ Holds base ext D cA mm.1.length mm U.heap ∧ Out0 base ext D cA U U.heap
def rmM (d g : Nat) : Room := { frames := d + 1, cells := (mt g).2.2.2.2.1.1, slots := (mt g).2.2.2.2.1.2, locals := 60 * (d + 1) }
def wsM (g : Nat) : List Cond := .code (mt g).1 (mt g).2.1 (mt g).2.2.1 (mt g).2.2.2.1 :: Tb
/-- the contract of a method of the table, at depth d -/
def CalM (l : Launch) (base : Nat) (ext : Nat → Nat) (D : va_G) (cA : Nat → ClassId) (d g : Nat) (as : List Value) (mm : Mem) (K : Option Value → Mem → Prop) : Prop :=
  Met l (mt g).1 (wsM g) (rmM d g) (va_Pc (as.map (vr (adr base ext))) (Bp base ext D cA mm)) (vQ base ext D cA K (mm.1.length + (mt g).2.2.2.2.1.1)) (mt g).2.2.2.2.1.1 (mt g).2.2.2.2.1.2 (At0 base)
def mOk (f : Mth) : Prop := (Cond.code f.1 f.2.1 f.2.2.1 f.2.2.2.1 ∈ Tb ∧ Cond.initialized f.1.cls ∈ Tb) ∧ (f.2.2.2.2.2.2.2.2 = 0 → Cond.static f.1 ∈ Tb) ∧ (f.2.2.2.2.2.2.2.2 = 1 → Cond.instanceMethod f.1 ∈ Tb ∧ Cond.selects f.1.cls f.1 f.1 ∈ Tb) ∧ (f.2.2.2.2.2.2.2.2 = 2 → Cond.instanceMethod f.1 ∈ Tb ∧ f.1.name = "<init>" ∧ f.2.2.2.1 = none)
  ∧ f.2.2.1 ≤ 40 ∧ (f.1.cls ≠ "java/lang/invoke/MethodHandle" ∧ f.1.cls ≠ "java/lang/invoke/VarHandle") ∧ plainName f.1.cls = true ∧ (parseMethodDescriptor f.1.desc).map (fun d => d.parameters.length) = some f.2.2.2.2.2.2.2.1
theorem mOk_of {f : Mth} (h : okM sg f = true) (hk : f.2.2.2.2.2.2.2.2 < 3) : mOk f := by
  simp only [okM, Bool.and_eq_true, Bool.or_eq_true, decide_eq_true_eq] at h
  obtain ⟨-, h⟩ := h
  rcases h with h | ⟨⟨⟨⟨⟨⟨h1, h2⟩, h3⟩, h4⟩, h5⟩, h6⟩, h7⟩
  · omega
  · refine ⟨⟨wd_in h1, wd_in h2⟩, fun e => ?_, fun e => ?_, fun e => ?_, h4, h5, h6, h7⟩
    · rw [e] at h3; exact wd_in h3
    · rw [e] at h3
      simp only [Bool.and_eq_true] at h3
      exact ⟨wd_in h3.1, wd_in h3.2⟩
    · rw [e] at h3
      simp only [Bool.and_eq_true, decide_eq_true_eq] at h3
      exact ⟨wd_in h3.1.1, h3.1.2, h3.2⟩
section VCALL
variable {p : Program} {l : Launch} {e : Env} {R : Room} {s : State} {m : MethodId} {args : Array Value} {below : List Frame} {meth : Method} {c : Code} {Z : State → Prop} {base : Nat} {ext : Nat → Nat} {D : va_G} {cA : Nat → ClassId} {sc : Scr} {y : MethodName} {cc : ByteArray} {nL len0 : Nat}
theorem vm_call {H : Heap} {locs : List Loc} {cells slots mc ms pc n : Nat} {ls : Array Slot} {st0 rest : List Value} {K : Option Value → Mem → Prop} {a : Array Value} (hr : va_Run p l e R s m args below meth c H locs cells slots mc ms (F0 m pc ls st0) rest (vQ base ext D cA K n a) (At0 base)) (hS : va_S (At0 base) s.heap H locs)
    (kk : ∀ (v : Option Value) (m1 : Mem) (H1 : Heap) (locs1 : List Loc), K v m1 → Holds base ext D cA n m1 H1 → va_S (At0 base) s.heap H1 locs1 → W p l e R s m args below meth c H1 locs1 (cells + mc) (slots + ms) Z (F0 m (pc + 3) ls ((v.map (vr (adr base ext))).toList ++ rest))) : W p l e R s m args below meth c H locs cells slots Z (F0 m pc ls st0) := by
  intro T hT X
  obtain ⟨v, st₀, t, T', L, h0, X', hL, e1, e2, ⟨⟨v', m1, hv, hK, hH⟩, hz, hk⟩, st⟩ := hr T hT X
  cases hv
  rw [h0] at hz hk
  obtain ⟨t2, a1, b1⟩ := kk v' m1 T'.heap (locs ++ L) hK (by rw [e1]; exact hH)
    ⟨Nat.le_trans hS.1 (by rw [e1]; exact hz), fun q h1 h2 => by rw [e1, hk q (Nat.lt_of_lt_of_le h1 hS.1) h2]; exact hS.2.1 q h1 h2, fun q hq => by
      rcases List.mem_append.mp hq with h | h
      · exact hS.2.2 q h
      · exact hL q h⟩ T' rfl X'
  exact ⟨t2, st t2 a1, b1⟩
theorem pre_blind {as : List Value} {mm : Mem} : FrameBlind (va_Pc (as.map (vr (adr base ext))) (Bp base ext D cA mm)) := fun a U g mk q => ⟨q.1, q.2.1, q.2.2.1, Out0.same (u := U) rfl q.2.2.2⟩
theorem pre_at {as : List Value} {mm : Mem} {H : Heap} {locs : List Loc} {k : Nat} (hO : Out0 base ext D cA s s.heap) (hS : va_S (At0 base) s.heap H locs) (hH : Holds base ext D cA k mm H) (hz : H.size = base + mm.1.length) (U : State) (hU : U.heap = H) (hW : s.WarmedH U.vm) : va_Pc (as.map (vr (adr base ext))) (Bp base ext D cA mm) (as.map (vr (adr base ext))).toArray U := by
  refine ⟨rfl, by rw [hU]; exact hz, ?_, ?_⟩
  · rw [hU]; exact ⟨rfl, hH.2⟩
  · rw [hU]; exact (hO.kept hS.2.1).warm hW
theorem back_st {v : Option Value} {r : List Value} : (v.map (vr (adr base ext))).toList ++ r.map (vr (adr base ext)) = (v.toList ++ r).map (vr (adr base ext)) := by cases v <;> rfl
theorem st_invokevirtual (X : Cx p R s m args meth c base ext D cA sc y cc nL len0) {E : Cal} {Q : Option Value → Mem → Prop} {al : Nat × Nat} {n a b c0 : Nat} {w : Int32} {z : Int64} {pc : Nat} {L : Lo} {st : List Value} {mm : Mem} {kc ks : Nat} {i : Nat} (hd : decode cc pc = .ok (.invokevirtual i, n)) (hn : n = 3) {d : Nat} (hE : ∀ g as mm K, (mt g).2.2.2.2.2.2.2.2 < 3 → E g as mm K → CalM l base ext D cA d g as mm K) (hR : d + 2 ≤ R.frames ∧ 60 * (d + 2) ≤ R.locals) (hal : al.1 ≤ R.cells ∧ al.2 ≤ R.slots) (hk : (mt a).2.2.2.2.2.2.2.2 = 1) (hm : mOk (mt a)) (ha0 : (mt a).2.2.2.2.1 = (0, 0)) (hb0 : (mt a).2.2.2.2.2.2.2.1 = b) (hw : Cond.methodLink y.cls i (mt a).1 ∈ Tb) (hrc : (c0 = 99 ∧ (mt a).1.cls = "java/lang/String") ∨ (c0 < 12 ∧ (clA c0).1 = (mt a).1.cls)) (h : ex1 E (Sim p l e R s m args below meth c Z base ext D cA nL len0) Q (out1 sc aM al (.invokevirtual i) n a b c0 w z pc L st mm kc ks)) : Sim p l e R s m args below meth c Z base ext D cA nL len0 (pc, L, st, mm, kc, ks) := by
  obtain ⟨hx, hb, hml, hown, hts, hO, hbase, hscr, hfr, hlo, hin⟩ := X
  subst hn
  obtain ⟨lst, r, rfl, hlen, hh⟩ := popN_inv _ _ _ _ h
  clear h
  have h := hh
  clear hh
  obtain ⟨o, r0, rfl, hh⟩ := xR_inv h
  clear h
  have h := hh
  clear hh
  rw [List.append_nil] at h
  have hrv : (c0 = 99 ∧ (1000 ≤ o ∧ o < 1009) ∨ c0 < 12 ∧ ∃ len, mm.1[o]? = some (c0, len)) ∧ ex1 E (Sim p l e R s m args below meth c Z base ext D cA nL len0) Q (oCall (ocat r0 ≤ 8) a (.ref o :: lst.reverse) mm (fun r m1 => (pc + 3, L, r.toList ++ r0, m1, kc, ks))) := by
    rcases bR_inv h with ⟨g, h⟩ | ⟨g, h⟩
    · obtain ⟨g2, h⟩ := bR_only h
      obtain ⟨b1, b2⟩ := Bool.and_eq_true_iff.mp g2
      exact ⟨Or.inl ⟨Nat.eq_of_beq_eq_true g, Nat.le_of_ble_eq_true b1, Nat.le_of_ble_eq_true b2⟩, h⟩
    · obtain ⟨len, ho, h⟩ := cellN_inv h
      refine ⟨Or.inr ⟨?_, len, ho⟩, h⟩
      rcases hrc with ⟨q, -⟩ | ⟨q, -⟩
      · rw [q] at g; cases g
      · exact q
  obtain ⟨hrv, ⟨hcat, h⟩⟩ := hrv
  obtain ⟨⟨w1, w2⟩, -, w3, -, w4, w5, w6, w7⟩ := hm
  obtain ⟨w31, w32⟩ := w3 hk
  intro H locs ls hH hS hL h1 h2 T hT X
  have hz : H.size = base + mm.1.length := heap_end X hT hbase hH hS
  have hcell : ∃ cellB : Cell, H[adr base ext o]? = some cellB ∧ cellB.vm.isStatics = false ∧ s.vm.findClass (mt a).1.cls = some cellB.cls := by
    rcases hrv with ⟨e1, b1, b2⟩ | ⟨e1, len, ho⟩
    · rcases hrc with ⟨-, e2⟩ | ⟨q, -⟩
      · have hv := vk_recv (i := o - 1000) hO.2.2.2.2.2.1 (by omega) hS
        rw [show 1000 + (o - 1000) = o by omega] at hv
        rw [ad_lt (by omega), e2]
        exact hv
      · omega
    · rcases hrc with ⟨q, -⟩ | ⟨q, e2⟩
      · omega
      · rw [← e2]
        have hg := wld_get (cA := cA) (ad := adr base ext) ho
        rw [cel_obj e1] at hg
        exact va_recv hO.1 hH.2.2.2 (cl_ok c0 e1).1 hg
  have hM := hE _ _ _ _ (by rw [hk]; decide) h
  unfold CalM at hM
  rw [ha0] at hM
  have hst : (lst ++ .ref o :: r0).map (vr (adr base ext)) = (lst.reverse.map (vr (adr base ext))).reverse ++ .ref (adr base ext o) :: r0.map (vr (adr base ext)) := by simp [vr]
  have hG : GoodIn Tb (wsV y.cls i (mt a).1.cls (mt a).1 (wsM a)) := goodIn_Tb (by
    intro q hq
    unfold wsV wsM at hq
    simp only [List.cons_append, List.nil_append, List.mem_cons] at hq
    rcases hq with e | e | e | e | e | e
    · rw [e]; exact hw
    · rw [e]; exact w31
    · rw [e]; exact w32
    · rw [e]; exact w2
    · rw [e]; exact w1
    · exact e)
  have hRm : (rmM d a).frames + 1 ≤ R.frames ∧ 8 + ((mt a).2.2.1 + 11) + (rmM d a).locals ≤ R.locals := by
    unfold rmM
    refine ⟨by show d + 1 + 1 ≤ R.frames; exact hR.1, ?_⟩
    have := hR.2
    show 8 + ((mt a).2.2.1 + 11) + 60 * (d + 1) ≤ R.locals
    omega
  have hrm1 : (rmM d a).cells = 0 := by unfold rmM; rw [ha0]
  have hrm2 : (rmM d a).slots = 0 := by unfold rmM; rw [ha0]
  have cw := cwV (R := R) (args := args) (own := y.cls) (index := i) (n := b) hts hG (wsM.eq_def a) hrm1 hrm2 ⟨rfl, w5.1, w5.2, w7.trans (by rw [hb0])⟩ hRm
  refine (vm_call (va_runV (As := lst.reverse.map (vr (adr base ext))) (rest := r0.map (vr (adr base ext))) (b := adr base ext o) ⟨hx, hb, hml, hown, hts⟩ hM cw ⟨pre_blind, hcell, fun U hU hW => pre_at hO hS hH hz U hU hW⟩ rfl (by simp [hlen]) hL.size hst (lv_room (by rw [ocat_map]; exact hcat)) hd ⟨h1, h2⟩) hS (fun v m1 H1 locs1 hK1 hH1 hS1 => ?_) : W p l e R s m args below meth c H locs kc ks Z (F0 m pc ls ((lst ++ .ref o :: r0).map (vr (adr base ext))))) T hT X
  have k := hK1 H1 locs1 ls (by have := hH.1; exact ⟨hH1.1.trans this, hH1.2⟩) hS1 hL h1 h2
  rw [back_st]
  exact k
theorem st_invokestatic (X : Cx p R s m args meth c base ext D cA sc y cc nL len0) {E : Cal} {Q : Option Value → Mem → Prop} {al : Nat × Nat} {n a b c0 : Nat} {w : Int32} {z : Int64} {pc : Nat} {L : Lo} {st : List Value} {mm : Mem} {kc ks : Nat} {i : Nat} (hd : decode cc pc = .ok (.invokestatic i, n)) (hn : n = 3) {d : Nat} (hE : ∀ g as mm K, (mt g).2.2.2.2.2.2.2.2 < 3 → E g as mm K → CalM l base ext D cA d g as mm K) (hR : d + 2 ≤ R.frames ∧ 60 * (d + 2) ≤ R.locals) (hal : al.1 ≤ R.cells ∧ al.2 ≤ R.slots) (hc : c0 = 0) (hk : (mt a).2.2.2.2.2.2.2.2 = 0) (hm : mOk (mt a)) (ha0 : (mt a).2.2.2.2.1 = (0, 0)) (hb0 : (mt a).2.2.2.2.2.2.2.1 = b) (hw : Cond.methodLink y.cls i (mt a).1 ∈ Tb) (h : ex1 E (Sim p l e R s m args below meth c Z base ext D cA nL len0) Q (out1 sc aM al (.invokestatic i) n a b c0 w z pc L st mm kc ks)) : Sim p l e R s m args below meth c Z base ext D cA nL len0 (pc, L, st, mm, kc, ks) := by
  obtain ⟨hx, hb, hml, hown, hts, hO, hbase, hscr, hfr, hlo, hin⟩ := X
  subst hn
  subst hc
  obtain ⟨lst, r0, rfl, hlen, hh⟩ := popN_inv _ _ _ _ h
  clear h
  have h := hh
  clear hh
  rw [List.append_nil] at h
  obtain ⟨hcat, h⟩ := h
  obtain ⟨⟨w1, w2⟩, w3, -, -, w4, w5, w6, w7⟩ := hm
  have w31 := w3 hk
  intro H locs ls hH hS hL h1 h2 T hT X
  have hz : H.size = base + mm.1.length := heap_end X hT hbase hH hS
  have hM := hE _ _ _ _ (by rw [hk]; decide) h
  unfold CalM at hM
  rw [ha0] at hM
  have hst : (lst ++ r0).map (vr (adr base ext)) = (lst.reverse.map (vr (adr base ext))).reverse ++ r0.map (vr (adr base ext)) := by simp
  have hG : GoodIn Tb (va_wsS y.cls i (mt a).1 (wsM a)) := goodIn_Tb (by
    intro q hq
    unfold va_wsS wsM at hq
    simp only [List.cons_append, List.nil_append, List.mem_cons] at hq
    rcases hq with e | e | e | e | e
    · rw [e]; exact hw
    · rw [e]; exact w31
    · rw [e]; exact w2
    · rw [e]; exact w1
    · exact e)
  have hRm : (rmM d a).frames + 1 ≤ R.frames ∧ 8 + ((mt a).2.2.1 + 11) + (rmM d a).locals ≤ R.locals := by
    unfold rmM
    refine ⟨by show d + 1 + 1 ≤ R.frames; exact hR.1, ?_⟩
    have := hR.2
    show 8 + ((mt a).2.2.1 + 11) + 60 * (d + 1) ≤ R.locals
    omega
  have hrm1 : (rmM d a).cells = 0 := by unfold rmM; rw [ha0]
  have hrm2 : (rmM d a).slots = 0 := by unfold rmM; rw [ha0]
  have cw := va_cwS (R := R) (args := args) (own := y.cls) (index := i) (n := b) hts hG (wsM.eq_def a) hrm1 hrm2 ⟨w5.1, w5.2, w7.trans (by rw [hb0])⟩ hRm
  refine (vm_call (va_runS (As := lst.reverse.map (vr (adr base ext))) (rest := r0.map (vr (adr base ext))) ⟨hx, hb, hml, hown, hts⟩ hM cw ⟨pre_blind, fun U hU hW => pre_at hO hS hH hz U hU hW⟩ rfl (by simp [hlen]) hL.size hst (lv_room (by rw [ocat_map]; exact hcat)) hd ⟨h1, h2⟩) hS (fun v m1 H1 locs1 hK1 hH1 hS1 => ?_) : W p l e R s m args below meth c H locs kc ks Z (F0 m pc ls ((lst ++ r0).map (vr (adr base ext))))) T hT X
  have k := hK1 H1 locs1 ls (by have := hH.1; exact ⟨hH1.1.trans this, hH1.2⟩) hS1 hL h1 h2
  rw [back_st]
  exact k
theorem st_invokespecial (X : Cx p R s m args meth c base ext D cA sc y cc nL len0) {E : Cal} {Q : Option Value → Mem → Prop} {al : Nat × Nat} {n a b c0 : Nat} {w : Int32} {z : Int64} {pc : Nat} {L : Lo} {st : List Value} {mm : Mem} {kc ks : Nat} {i : Nat} (hd : decode cc pc = .ok (.invokespecial i, n)) (hn : n = 3) {d : Nat} (hE : ∀ g as mm K, (mt g).2.2.2.2.2.2.2.2 < 3 → E g as mm K → CalM l base ext D cA d g as mm K) (hR : d + 2 ≤ R.frames ∧ 60 * (d + 2) ≤ R.locals) (hal : al.1 ≤ R.cells ∧ al.2 ≤ R.slots) (hc : c0 = 1) (hk : (mt a).2.2.2.2.2.2.2.2 = 2) (hm : mOk (mt a)) (haM : aM a = (mt a).2.2.2.2.1) (hb0 : (mt a).2.2.2.2.2.2.2.1 = b) (hw : Cond.methodLink y.cls i (mt a).1 ∈ Tb) (h : ex1 E (Sim p l e R s m args below meth c Z base ext D cA nL len0) Q (out1 sc aM al (.invokespecial i) n a b c0 w z pc L st mm kc ks)) : Sim p l e R s m args below meth c Z base ext D cA nL len0 (pc, L, st, mm, kc, ks) := by
  obtain ⟨hx, hb, hml, hown, hts, hO, hbase, hscr, hfr, hlo, hin⟩ := X
  subst hn
  subst hc
  obtain ⟨lst, r, rfl, hlen, hh⟩ := popN_inv _ _ _ _ h
  clear h
  have h := hh
  clear hh
  obtain ⟨o, r0, rfl, hh⟩ := xR_inv h
  clear h
  have h := hh
  clear hh
  rw [List.append_nil] at h
  obtain ⟨⟨hcat, hc1, hc2⟩, h⟩ := h
  rw [haM] at hc1 hc2 h
  obtain ⟨⟨w1, w2⟩, -, -, w3, w4, w5, w6, w7⟩ := hm
  obtain ⟨w31, w32, w33⟩ := w3 hk
  intro H locs ls hH hS hL h1 h2 T hT X
  have hz : H.size = base + mm.1.length := heap_end X hT hbase hH hS
  have hM := hE _ _ _ _ (by rw [hk]; decide) h
  unfold CalM at hM
  have hst : (lst ++ .ref o :: r0).map (vr (adr base ext)) = (lst.reverse.map (vr (adr base ext))).reverse ++ .ref (adr base ext o) :: r0.map (vr (adr base ext)) := by simp [vr]
  have hG : GoodIn Tb (wsM a) := goodIn_Tb (by
    intro q hq
    unfold wsM at hq
    rcases List.mem_cons.mp hq with e | e
    · rw [e]; exact w1
    · exact e)
  have hRm : (rmM d a).frames + 1 ≤ R.frames ∧ 8 + ((mt a).2.2.1 + 11) + (rmM d a).locals ≤ R.locals := by
    unfold rmM
    refine ⟨by show d + 1 + 1 ≤ R.frames; exact hR.1, ?_⟩
    have := hR.2
    show 8 + ((mt a).2.2.1 + 11) + 60 * (d + 1) ≤ R.locals
    omega
  have hwsn : wsM a = Cond.code (mt a).1 (mt a).2.1 (mt a).2.2.1 none :: Tb := by unfold wsM; rw [w33]
  have cw := cwI (R := R) (args := args) (own := y.cls) (index := i) (mc := (mt a).2.2.2.2.1.1) (ms := (mt a).2.2.2.2.1.2) (n := b) hts hG hwsn (rm := rmM d a) rfl rfl (hts _ w2) (hts _ hw) (hts _ w31) w32 ⟨w5.1, w5.2, w7.trans (by rw [hb0])⟩ hRm
  refine (vm_call (va_runI (As := lst.reverse.map (vr (adr base ext))) (rest := r0.map (vr (adr base ext))) (b := adr base ext o) ⟨hx, hb, hml, hown, hts⟩ hM cw ⟨pre_blind, fun U hU hW => pre_at (as := .ref o :: lst.reverse) hO hS hH hz U hU hW⟩ rfl (by simp [hlen]) hL.size hst (lv_room (by rw [ocat_map]; exact hcat)) hd ⟨Nat.le_trans hc1 hal.1, Nat.le_trans hc2 hal.2⟩) hS (fun v m1 H1 locs1 hK1 hH1 hS1 => ?_) : W p l e R s m args below meth c H locs kc ks Z (F0 m pc ls ((lst ++ .ref o :: r0).map (vr (adr base ext))))) T hT X
  have k := hK1 H1 locs1 ls (by have h5 : mm.1.length = len0 + kc := hH.1; have h6 : m1.1.length = mm.1.length + (mt a).2.2.2.2.1.1 := hH1.1; exact ⟨h6.trans (by rw [h5, Nat.add_assoc]), hH1.2⟩) hS1 hL (Nat.le_trans hc1 hal.1) (Nat.le_trans hc2 hal.2)
  rw [back_st]
  exact k
theorem st_objInit (X : Cx p R s m args meth c base ext D cA sc y cc nL len0) {E : Cal} {Q : Option Value → Mem → Prop} {al : Nat × Nat} {n a b c0 : Nat} {w : Int32} {z : Int64} {pc : Nat} {L : Lo} {st : List Value} {mm : Mem} {kc ks : Nat} {i : Nat} (hd : decode cc pc = .ok (.invokespecial i, n)) (hn : n = 3) (hc : c0 = 0) (hw : Cond.methodLink y.cls i Lib.objectInit ∈ Tb) (h : ex1 E (Sim p l e R s m args below meth c Z base ext D cA nL len0) Q (out1 sc aM al (.invokespecial i) n a b c0 w z pc L st mm kc ks)) : Sim p l e R s m args below meth c Z base ext D cA nL len0 (pc, L, st, mm, kc, ks) := by
  obtain ⟨hx, hb, hml, hown, hts, hO, hbase, hscr, hfr, hlo, hin⟩ := X
  subst hn
  subst hc
  obtain ⟨o, r0, rfl, hh⟩ := xR_inv h
  clear h
  have h := hh
  clear hh
  obtain ⟨hcat, h⟩ := h
  intro H locs ls hH hS hL h1 h2
  exact W.objInit hx hb hown (hts _ hw) (hts _ (wd_in (j := 126) (by decide +kernel))) (hts _ (wd_in (j := 127) (by decide +kernel))) rfl (hL.size.trans hml.symm) rfl hd hfr (by
    rw [ocat_map]
    show 2 * 0 + ocat r0 + 12 ≤ R.locals
    omega) (h H locs ls hH hS hL h1 h2)
theorem st_mmax (X : Cx p R s m args meth c base ext D cA sc y cc nL len0) {E : Cal} {Q : Option Value → Mem → Prop} {al : Nat × Nat} {n a b c0 : Nat} {w : Int32} {z : Int64} {pc : Nat} {L : Lo} {st : List Value} {mm : Mem} {kc ks : Nat} {i : Nat} (hd : decode cc pc = .ok (.invokestatic i, n)) (hn : n = 3) (hc : c0 = 1) (hw : Cond.methodLink y.cls i Lib.Math.max.name ∈ Tb) (h : ex1 E (Sim p l e R s m args below meth c Z base ext D cA nL len0) Q (out1 sc aM al (.invokestatic i) n a b c0 w z pc L st mm kc ks)) : Sim p l e R s m args below meth c Z base ext D cA nL len0 (pc, L, st, mm, kc, ks) := by
  obtain ⟨hx, hb, hml, hown, hts, hO, hbase, hscr, hfr, hlo, hin⟩ := X
  subst hn
  subst hc
  obtain ⟨x0, r0, rfl, hh⟩ := xI_inv h
  clear h
  have h := hh
  clear hh
  obtain ⟨x1, r1, rfl, hh⟩ := xI_inv h
  clear h
  have h := hh
  clear hh
  obtain ⟨hcat, h⟩ := h
  intro H locs ls hH hS hL h1 h2
  exact va_mmax hx hb (hml.trans hL.size.symm) hown (hts _ hw) (hts _ (wd_in (j := 567) (by decide +kernel))) (hts _ (wd_in (j := 116) (by decide +kernel))) (hts _ (wd_in (j := 568) (by decide +kernel))) hfr (by
    rw [ocat_map]
    omega) h1 h2 hd (h H locs ls hH hS hL h1 h2)
theorem st_mmin (X : Cx p R s m args meth c base ext D cA sc y cc nL len0) {E : Cal} {Q : Option Value → Mem → Prop} {al : Nat × Nat} {n a b c0 : Nat} {w : Int32} {z : Int64} {pc : Nat} {L : Lo} {st : List Value} {mm : Mem} {kc ks : Nat} {i : Nat} (hd : decode cc pc = .ok (.invokestatic i, n)) (hn : n = 3) (hc : c0 = 2) (hw : Cond.methodLink y.cls i Lib.Math.min.name ∈ Tb) (h : ex1 E (Sim p l e R s m args below meth c Z base ext D cA nL len0) Q (out1 sc aM al (.invokestatic i) n a b c0 w z pc L st mm kc ks)) : Sim p l e R s m args below meth c Z base ext D cA nL len0 (pc, L, st, mm, kc, ks) := by
  obtain ⟨hx, hb, hml, hown, hts, hO, hbase, hscr, hfr, hlo, hin⟩ := X
  subst hn
  subst hc
  obtain ⟨x0, r0, rfl, hh⟩ := xI_inv h
  clear h
  have h := hh
  clear hh
  obtain ⟨x1, r1, rfl, hh⟩ := xI_inv h
  clear h
  have h := hh
  clear hh
  obtain ⟨hcat, h⟩ := h
  intro H locs ls hH hS hL h1 h2
  exact va_mmin hx hb (hml.trans hL.size.symm) hown (hts _ hw) (hts _ (wd_in (j := 570) (by decide +kernel))) (hts _ (wd_in (j := 116) (by decide +kernel))) (hts _ (wd_in (j := 571) (by decide +kernel))) hfr (by
    rw [ocat_map]
    omega) h1 h2 hd (h H locs ls hH hS hL h1 h2)
theorem st_mmaxl (X : Cx p R s m args meth c base ext D cA sc y cc nL len0) {E : Cal} {Q : Option Value → Mem → Prop} {al : Nat × Nat} {n a b c0 : Nat} {w : Int32} {z : Int64} {pc : Nat} {L : Lo} {st : List Value} {mm : Mem} {kc ks : Nat} {i : Nat} (hd : decode cc pc = .ok (.invokestatic i, n)) (hn : n = 3) (hc : c0 = 3) (hw : Cond.methodLink y.cls i Lib.MathLoose.max_long.x ∈ Tb) (h : ex1 E (Sim p l e R s m args below meth c Z base ext D cA nL len0) Q (out1 sc aM al (.invokestatic i) n a b c0 w z pc L st mm kc ks)) : Sim p l e R s m args below meth c Z base ext D cA nL len0 (pc, L, st, mm, kc, ks) := by
  obtain ⟨hx, hb, hml, hown, hts, hO, hbase, hscr, hfr, hlo, hin⟩ := X
  subst hn
  subst hc
  obtain ⟨x0, r0, rfl, hh⟩ := xJ_inv h
  clear h
  have h := hh
  clear hh
  obtain ⟨x1, r1, rfl, hh⟩ := xJ_inv h
  clear h
  have h := hh
  clear hh
  obtain ⟨hcat, h⟩ := h
  intro H locs ls hH hS hL h1 h2
  exact va_mmax_long hx hb (hml.trans hL.size.symm) hown (hts _ hw) (hts _ (wd_in (j := 1041) (by decide +kernel))) (hts _ (wd_in (j := 116) (by decide +kernel))) (hts _ (wd_in (j := 1042) (by decide +kernel))) hfr (by
    rw [ocat_map]
    omega) h1 h2 hd (h H locs ls hH hS hL h1 h2)
theorem st_mminl (X : Cx p R s m args meth c base ext D cA sc y cc nL len0) {E : Cal} {Q : Option Value → Mem → Prop} {al : Nat × Nat} {n a b c0 : Nat} {w : Int32} {z : Int64} {pc : Nat} {L : Lo} {st : List Value} {mm : Mem} {kc ks : Nat} {i : Nat} (hd : decode cc pc = .ok (.invokestatic i, n)) (hn : n = 3) (hc : c0 = 4) (hw : Cond.methodLink y.cls i Lib.MathLoose.min_long.x ∈ Tb) (h : ex1 E (Sim p l e R s m args below meth c Z base ext D cA nL len0) Q (out1 sc aM al (.invokestatic i) n a b c0 w z pc L st mm kc ks)) : Sim p l e R s m args below meth c Z base ext D cA nL len0 (pc, L, st, mm, kc, ks) := by
  obtain ⟨hx, hb, hml, hown, hts, hO, hbase, hscr, hfr, hlo, hin⟩ := X
  subst hn
  subst hc
  obtain ⟨x0, r0, rfl, hh⟩ := xJ_inv h
  clear h
  have h := hh
  clear hh
  obtain ⟨x1, r1, rfl, hh⟩ := xJ_inv h
  clear h
  have h := hh
  clear hh
  obtain ⟨hcat, h⟩ := h
  intro H locs ls hH hS hL h1 h2
  exact va_mmin_long hx hb (hml.trans hL.size.symm) hown (hts _ hw) (hts _ (wd_in (j := 1055) (by decide +kernel))) (hts _ (wd_in (j := 116) (by decide +kernel))) (hts _ (wd_in (j := 1056) (by decide +kernel))) hfr (by
    rw [ocat_map]
    omega) h1 h2 hd (h H locs ls hH hS hL h1 h2)
theorem st_mabsl (X : Cx p R s m args meth c base ext D cA sc y cc nL len0) {E : Cal} {Q : Option Value → Mem → Prop} {al : Nat × Nat} {n a b c0 : Nat} {w : Int32} {z : Int64} {pc : Nat} {L : Lo} {st : List Value} {mm : Mem} {kc ks : Nat} {i : Nat} (hd : decode cc pc = .ok (.invokestatic i, n)) (hn : n = 3) (hc : c0 = 5) (hw : Cond.methodLink y.cls i Lib.MathLoose.abs_long.x ∈ Tb) (h : ex1 E (Sim p l e R s m args below meth c Z base ext D cA nL len0) Q (out1 sc aM al (.invokestatic i) n a b c0 w z pc L st mm kc ks)) : Sim p l e R s m args below meth c Z base ext D cA nL len0 (pc, L, st, mm, kc, ks) := by
  obtain ⟨hx, hb, hml, hown, hts, hO, hbase, hscr, hfr, hlo, hin⟩ := X
  subst hn
  subst hc
  obtain ⟨x0, r0, rfl, hh⟩ := xJ_inv h
  clear h
  have h := hh
  clear hh
  obtain ⟨hcat, h⟩ := h
  intro H locs ls hH hS hL h1 h2
  exact va_mabs_long hx hb (hml.trans hL.size.symm) hown (hts _ hw) (hts _ (wd_in (j := 1060) (by decide +kernel))) (hts _ (wd_in (j := 116) (by decide +kernel))) (hts _ (wd_in (j := 1061) (by decide +kernel))) hfr (by
    rw [ocat_map]
    omega) h1 h2 hd (h H locs ls hH hS hL h1 h2)
end VCALL
