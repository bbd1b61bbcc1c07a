/-! EVERY STEP of the plain machine is the machine's own. -/
theorem lk_spec {pc : Nat} {e : Ent} : ∀ (l : List Ent), lk pc l = some e → e ∈ l ∧ e.1 = pc := by
  intro l
  induction l with
  | nil => intro h; cases h
  | cons x l ih =>
    intro h
    unfold lk at h
    split at h
    · next hb =>
      cases h
      exact ⟨List.mem_cons_self, Nat.eq_of_beq_eq_true hb⟩
    · obtain ⟨h1, h2⟩ := ih h
      exact ⟨List.mem_cons_of_mem _ h1, h2⟩
theorem rowAt_mem : ∀ (t : List (List Ent)) (k : Nat) (e : Ent), e ∈ rowAt t k → ∃ r ∈ t, e ∈ r := by
  intro t
  induction t with
  | nil => intro k e h; exact absurd h List.not_mem_nil
  | cons r t ih =>
    intro k e h
    cases k with
    | zero => exact ⟨r, List.mem_cons_self, h⟩
    | succ k =>
      obtain ⟨r', h1, h2⟩ := ih k e h
      exact ⟨r', List.mem_cons_of_mem _ h1, h2⟩
theorem lkc_spec {t : List (List Ent)} {pc : Nat} {e : Ent} {P : Ent → Bool} (hP : t.all (fun r => r.all P) = true) (h : lkc t pc = some e) : P e = true ∧ e.1 = pc := by
  obtain ⟨h1, h2⟩ := lk_spec _ h
  obtain ⟨r, h3, h4⟩ := rowAt_mem _ _ _ h1
  exact ⟨List.all_eq_true.mp (List.all_eq_true.mp hP r h3) e h4, h2⟩
theorem sg_of {a b k : Nat} (hokm : ∀ g, okM sg (mt g) = true) (h : (sg a).2.2.2 = k) (hk : k < 3) (hb : (sg a).2.2.1 = b) : (mt a).2.2.2.2.2.2.2.2 = k ∧ mOk (mt a) ∧ aM a = (mt a).2.2.2.2.1 ∧ (mt a).2.2.2.2.2.2.2.1 = b ∧ (sg a).1 = (mt a).1 := by
  rcases sg_mt a with e | e
  · have e4 : (sg a).2.2.2 = (mt a).2.2.2.2.2.2.2.2 := by rw [e]
    have e3 : (sg a).2.2.1 = (mt a).2.2.2.2.2.2.2.1 := by rw [e]
    refine ⟨e4.symm.trans h, mOk_of (hokm a) (by rw [← e4, h]; exact hk), ?_, e3.symm.trans hb, by rw [e]⟩
    unfold aM
    rw [e]
  · omega
section VSIM
variable {p : Program} {l : Launch} {e : Env} {R : Room} {s : State} {m : MethodId} {args : Array Value} {below : List Frame} {meth : Method} {c : Code} {Z : State → Prop} {base : Nat} {ext : Nat → Nat} {D : va_G} {cA : Nat → ClassId} {sc : Scr} {y : MethodName} {cc : ByteArray} {nL len0 : Nat}
theorem sim_step (X : Cx p R s m args meth c base ext D cA sc y cc nL len0) {E : Cal} {Q : Option Value → Mem → Prop} {al : Nat × Nat} {d : Nat} {ret : Option FieldType} (hokm : ∀ g, okM sg (mt g) = true) (hE : ∀ g as mm K, (mt g).2.2.2.2.2.2.2.2 < 3 → E g as mm K → CalM l base ext D cA d g as mm K) (hR : d + 2 ≤ R.frames ∧ 60 * (d + 2) ≤ R.locals) (hal : al.1 ≤ R.cells ∧ al.2 ≤ R.slots)
    (rI : ∀ pc L x mm ks, decode cc pc = .ok (.ireturn, 1) → (ret = some .int ∨ ((ret = some .boolean ∨ ret = some .byte) ∧ (x = 0 ∨ x = 1))) → Q (some (.int x)) mm → Sim p l e R s m args below meth c Z base ext D cA nL len0 (pc, L, [.int x], mm, al.1, ks))
    (rJ : ∀ pc L x mm ks, decode cc pc = .ok (.lreturn, 1) → ret = some .long → Q (some (.long x)) mm → Sim p l e R s m args below meth c Z base ext D cA nL len0 (pc, L, [.long x], mm, al.1, ks))
    (rA : ∀ pc L v mm ks, decode cc pc = .ok (.areturn, 1) → (∃ nm, ret = some (.object nm)) → (v = .null ∨ ∃ o, v = .ref o) → Q (some v) mm → Sim p l e R s m args below meth c Z base ext D cA nL len0 (pc, L, [v], mm, al.1, ks))
    (rV : ∀ pc L mm ks, decode cc pc = .ok (.return_, 1) → ret = none → Q none mm → Sim p l e R s m args below meth c Z base ext D cA nL len0 (pc, L, [], mm, al.1, ks))
    {pc : Nat} {ins : Instr} {n a b c0 j : Nat} {w : Int32} {z : Int64} {L : Lo} {st : List Value} {mm : Mem} {kc ks : Nat} (hok : okE sg y nL ret cc (pc, ins, n, a, b, c0, j, w, z) = true) (h : ex1 E (Sim p l e R s m args below meth c Z base ext D cA nL len0) Q (out1 sc aM al ins n a b c0 w z pc L st mm kc ks)) : Sim p l e R s m args below meth c Z base ext D cA nL len0 (pc, L, st, mm, kc, ks) := by
  cases ins with
  | iconst k =>
    simp only [okE, Bool.and_eq_true, decide_eq_true_eq] at hok
    exact st_iconst X hok.1 hok.2.2 hok.2.1 h
  | bipush k =>
    simp only [okE, Bool.and_eq_true, decide_eq_true_eq] at hok
    exact st_bipush X hok.1 hok.2.2 hok.2.1 h
  | sipush k =>
    simp only [okE, Bool.and_eq_true, decide_eq_true_eq] at hok
    exact st_sipush X hok.1 hok.2.2 hok.2.1 h
  | lconst k =>
    simp only [okE, Bool.and_eq_true, decide_eq_true_eq] at hok
    exact st_lconst X hok.1 hok.2.2 hok.2.1 h
  | ldc i =>
    simp only [okE, Bool.and_eq_true, decide_eq_true_eq] at hok
    refine st_ldc X hok.1 hok.2.1 ⟨fun e => ?_, fun e => ?_⟩ h
    · subst e; exact wd_in hok.2.2
    · cases a with
      | zero => exact absurd rfl e
      | succ a =>
        have q := hok.2.2
        simp only [Bool.and_eq_true, decide_eq_true_eq] at q
        exact ⟨Nat.le_of_ble_eq_true q.1.1.1, Nat.le_of_ble_eq_true q.1.1.2, q.1.2, q.2⟩
  | ldc_w i =>
    simp only [okE, Bool.and_eq_true, decide_eq_true_eq] at hok
    exact st_ldcw X hok.1 hok.2.1 (wd_in hok.2.2) h
  | ldc2_w i =>
    simp only [okE, Bool.and_eq_true, decide_eq_true_eq] at hok
    exact st_ldc2 X hok.1 hok.2.1 (wd_in hok.2.2) h
  | aconst_null =>
    simp only [okE, Bool.and_eq_true, decide_eq_true_eq] at hok
    exact st_null X hok.1 hok.2 h
  | iload k =>
    simp only [okE, Bool.and_eq_true, decide_eq_true_eq] at hok
    exact st_iload X hok.1 hok.2.2 hok.2.1 h
  | lload k =>
    simp only [okE, Bool.and_eq_true, decide_eq_true_eq] at hok
    exact st_lload X hok.1 hok.2.2 hok.2.1 h
  | aload k =>
    simp only [okE, Bool.and_eq_true, decide_eq_true_eq] at hok
    exact st_aload X hok.1 hok.2.2 hok.2.1 h
  | iload_n k =>
    simp only [okE, Bool.and_eq_true, decide_eq_true_eq] at hok
    exact st_iload_n X hok.1 hok.2.2 hok.2.1 h
  | lload_n k =>
    simp only [okE, Bool.and_eq_true, decide_eq_true_eq] at hok
    exact st_lload_n X hok.1 hok.2.2 hok.2.1 h
  | aload_n k =>
    simp only [okE, Bool.and_eq_true, decide_eq_true_eq] at hok
    exact st_aload_n X hok.1 hok.2.2 hok.2.1 h
  | istore k =>
    simp only [okE, Bool.and_eq_true, decide_eq_true_eq] at hok
    exact st_istore X hok.1 hok.2.1.2 hok.2.1.1 hok.2.2 h
  | astore k =>
    simp only [okE, Bool.and_eq_true, decide_eq_true_eq] at hok
    exact st_astore X hok.1 hok.2.1.2 hok.2.1.1 hok.2.2 h
  | lstore k =>
    simp only [okE, Bool.and_eq_true, decide_eq_true_eq] at hok
    exact st_lstore X hok.1 hok.2.1.2 hok.2.1.1 hok.2.2 h
  | istore_n k =>
    simp only [okE, Bool.and_eq_true, decide_eq_true_eq] at hok
    exact st_istore_n X hok.1 hok.2.1.2 hok.2.1.1 hok.2.2 h
  | astore_n k =>
    simp only [okE, Bool.and_eq_true, decide_eq_true_eq] at hok
    exact st_astore_n X hok.1 hok.2.1.2 hok.2.1.1 hok.2.2 h
  | lstore_n k =>
    simp only [okE, Bool.and_eq_true, decide_eq_true_eq] at hok
    exact st_lstore_n X hok.1 hok.2.1.2 hok.2.1.1 hok.2.2 h
  | iinc k d =>
    simp only [okE, Bool.and_eq_true, decide_eq_true_eq] at hok
    exact st_iinc X hok.1 hok.2.1.1.2 hok.2.1.1.1 hok.2.1.2 hok.2.2 h
  | goto q =>
    simp only [okE, jmp, Bool.and_eq_true, decide_eq_true_eq] at hok
    exact st_goto X hok.1 hok.2.2 hok.2.1 h
  | ifnull q =>
    simp only [okE, jmp, Bool.and_eq_true, decide_eq_true_eq] at hok
    exact st_ifnull X hok.1 hok.2.2 hok.2.1 h
  | ifnonnull q =>
    simp only [okE, jmp, Bool.and_eq_true, decide_eq_true_eq] at hok
    exact st_ifnonnull X hok.1 hok.2.2 hok.2.1 h
  | ifCond q o =>
    simp only [okE, jmp, Bool.and_eq_true, decide_eq_true_eq] at hok
    cases q with
    | eq => exact st_if_eq X hok.1 hok.2.2 hok.2.1 h
    | ne => exact st_if_ne X hok.1 hok.2.2 hok.2.1 h
    | lt => exact st_if_lt X hok.1 hok.2.2 hok.2.1 h
    | ge => exact st_if_ge X hok.1 hok.2.2 hok.2.1 h
    | gt => exact st_if_gt X hok.1 hok.2.2 hok.2.1 h
    | le => exact st_if_le X hok.1 hok.2.2 hok.2.1 h
  | if_icmp q o =>
    simp only [okE, jmp, Bool.and_eq_true, decide_eq_true_eq] at hok
    cases q with
    | eq => exact st_icmp_eq X hok.1 hok.2.2 hok.2.1 h
    | ne => exact st_icmp_ne X hok.1 hok.2.2 hok.2.1 h
    | lt => exact st_icmp_lt X hok.1 hok.2.2 hok.2.1 h
    | ge => exact st_icmp_ge X hok.1 hok.2.2 hok.2.1 h
    | gt => exact st_icmp_gt X hok.1 hok.2.2 hok.2.1 h
    | le => exact st_icmp_le X hok.1 hok.2.2 hok.2.1 h
  | tableswitch d lo hi offs =>
    simp only [okE, Bool.and_eq_true, decide_eq_true_eq] at hok
    exact st_tableswitch X hok.1 hok.2.1.1 hok.2.1.2 hok.2.2 h
  | iadd =>
    simp only [okE, Bool.and_eq_true, decide_eq_true_eq] at hok
    exact st_iadd X hok.1 hok.2 h
  | isub =>
    simp only [okE, Bool.and_eq_true, decide_eq_true_eq] at hok
    exact st_isub X hok.1 hok.2 h
  | imul =>
    simp only [okE, Bool.and_eq_true, decide_eq_true_eq] at hok
    exact st_imul X hok.1 hok.2 h
  | iand =>
    simp only [okE, Bool.and_eq_true, decide_eq_true_eq] at hok
    exact st_iand X hok.1 hok.2 h
  | ior =>
    simp only [okE, Bool.and_eq_true, decide_eq_true_eq] at hok
    exact st_ior X hok.1 hok.2 h
  | ixor =>
    simp only [okE, Bool.and_eq_true, decide_eq_true_eq] at hok
    exact st_ixor X hok.1 hok.2 h
  | ishl =>
    simp only [okE, Bool.and_eq_true, decide_eq_true_eq] at hok
    exact st_ishl X hok.1 hok.2 h
  | ishr =>
    simp only [okE, Bool.and_eq_true, decide_eq_true_eq] at hok
    exact st_ishr X hok.1 hok.2 h
  | ladd =>
    simp only [okE, Bool.and_eq_true, decide_eq_true_eq] at hok
    exact st_ladd X hok.1 hok.2 h
  | lsub =>
    simp only [okE, Bool.and_eq_true, decide_eq_true_eq] at hok
    exact st_lsub X hok.1 hok.2 h
  | lmul =>
    simp only [okE, Bool.and_eq_true, decide_eq_true_eq] at hok
    exact st_lmul X hok.1 hok.2 h
  | land =>
    simp only [okE, Bool.and_eq_true, decide_eq_true_eq] at hok
    exact st_land X hok.1 hok.2 h
  | lor =>
    simp only [okE, Bool.and_eq_true, decide_eq_true_eq] at hok
    exact st_lor X hok.1 hok.2 h
  | ineg =>
    simp only [okE, Bool.and_eq_true, decide_eq_true_eq] at hok
    exact st_ineg X hok.1 hok.2 h
  | lneg =>
    simp only [okE, Bool.and_eq_true, decide_eq_true_eq] at hok
    exact st_lneg X hok.1 hok.2 h
  | lcmp =>
    simp only [okE, Bool.and_eq_true, decide_eq_true_eq] at hok
    exact st_lcmp X hok.1 hok.2 h
  | i2l =>
    simp only [okE, Bool.and_eq_true, decide_eq_true_eq] at hok
    exact st_i2l X hok.1 hok.2 h
  | l2i =>
    simp only [okE, Bool.and_eq_true, decide_eq_true_eq] at hok
    exact st_l2i X hok.1 hok.2 h
  | i2b =>
    simp only [okE, Bool.and_eq_true, decide_eq_true_eq] at hok
    exact st_i2b X hok.1 hok.2 h
  | i2c =>
    simp only [okE, Bool.and_eq_true, decide_eq_true_eq] at hok
    exact st_i2c X hok.1 hok.2 h
  | lshl =>
    simp only [okE, Bool.and_eq_true, decide_eq_true_eq] at hok
    exact st_lshl X hok.1 hok.2 h
  | lshr =>
    simp only [okE, Bool.and_eq_true, decide_eq_true_eq] at hok
    exact st_lshr X hok.1 hok.2 h
  | idiv =>
    simp only [okE, Bool.and_eq_true, decide_eq_true_eq] at hok
    exact st_idiv X hok.1 hok.2 h
  | irem =>
    simp only [okE, Bool.and_eq_true, decide_eq_true_eq] at hok
    exact st_irem X hok.1 hok.2 h
  | ldiv =>
    simp only [okE, Bool.and_eq_true, decide_eq_true_eq] at hok
    exact st_ldiv X hok.1 hok.2 h
  | lrem =>
    simp only [okE, Bool.and_eq_true, decide_eq_true_eq] at hok
    exact st_lrem X hok.1 hok.2 h
  | pop2 =>
    simp only [okE, Bool.and_eq_true, decide_eq_true_eq] at hok
    exact st_pop2 X hok.1 hok.2 h
  | dup =>
    simp only [okE, Bool.and_eq_true, decide_eq_true_eq] at hok
    exact st_dup X hok.1 hok.2 h
  | pop =>
    simp only [okE, Bool.and_eq_true, decide_eq_true_eq] at hok
    exact st_pop X hok.1 hok.2 h
  | iaload =>
    simp only [okE, Bool.and_eq_true, decide_eq_true_eq] at hok
    exact st_iaload X hok.1 hok.2 h
  | baload =>
    simp only [okE, Bool.and_eq_true, decide_eq_true_eq] at hok
    exact st_baload X hok.1 hok.2 h
  | laload =>
    simp only [okE, Bool.and_eq_true, decide_eq_true_eq] at hok
    exact st_laload X hok.1 hok.2 h
  | aaload =>
    simp only [okE, Bool.and_eq_true, decide_eq_true_eq] at hok
    exact st_aaload X hok.1 hok.2 h
  | iastore =>
    simp only [okE, Bool.and_eq_true, decide_eq_true_eq] at hok
    exact st_iastore X hok.1 hok.2 h
  | bastore =>
    simp only [okE, Bool.and_eq_true, decide_eq_true_eq] at hok
    exact st_bastore X hok.1 hok.2 h
  | lastore =>
    simp only [okE, Bool.and_eq_true, decide_eq_true_eq] at hok
    exact st_lastore X hok.1 hok.2 h
  | aastore =>
    simp only [okE, Bool.and_eq_true, decide_eq_true_eq] at hok
    exact st_aastore X hok.1 hok.2 h
  | arraylength =>
    simp only [okE, Bool.and_eq_true, decide_eq_true_eq] at hok
    exact st_arraylength X hok.1 hok.2 h
  | getfield i =>
    simp only [okE, Bool.and_eq_true, decide_eq_true_eq] at hok
    by_cases e8 : c0 = 8
    · subst e8
      exact st_getfieldS X hok.1 hok.2.1 (Or.inl rfl) ⟨fun _ => wd_in hok.2.2, fun q => by omega⟩ h
    · by_cases e9 : c0 = 9
      · subst e9
        exact st_getfieldS X hok.1 hok.2.1 (Or.inr rfl) ⟨fun q => by omega, fun _ => wd_in hok.2.2⟩ h
      · have hf : fldOk y.cls i a b c0 j false y.name = true := by
          have q := hok.2.2
          split at q
          · exact absurd rfl e8
          · exact absurd rfl e9
          · exact q
        have hc : c0 < 8 := by
          have q := hf
          simp only [fldOk, Bool.and_eq_true, decide_eq_true_eq] at q
          have := q.1.1.1.2
          omega
        exact st_getfield X hok.1 hok.2.1 hc hf h
  | putfield i =>
    simp only [okE, Bool.and_eq_true, decide_eq_true_eq] at hok
    exact st_putfield X hok.1 hok.2.1 hok.2.2 h
  | getstatic i =>
    simp only [okE, Bool.and_eq_true, decide_eq_true_eq] at hok
    refine st_getstatic X hok.1 hok.2.1 ⟨fun e => ?_, fun e => ?_⟩ h
    · subst e; exact wd_in hok.2.2
    · cases a with
      | zero => exact absurd rfl e
      | succ a => exact wd_in hok.2.2
  | new i =>
    simp only [okE, Bool.and_eq_true, decide_eq_true_eq] at hok
    exact st_new X hok.1 hok.2.1.1.1 hok.2.1.1.2 hok.2.1.2 (wd_in hok.2.2) hal h
  | newarray t =>
    cases t with
    | int =>
      simp only [okE, Bool.and_eq_true, decide_eq_true_eq] at hok
      exact st_newarray X hok.1 hok.2.1 (Or.inl ⟨rfl, hok.2.2⟩) hal h
    | long =>
      simp only [okE, Bool.and_eq_true, decide_eq_true_eq] at hok
      exact st_newarray X hok.1 hok.2.1 (Or.inr (Or.inl ⟨rfl, hok.2.2⟩)) hal h
    | byte =>
      simp only [okE, Bool.and_eq_true, decide_eq_true_eq] at hok
      exact st_newarray X hok.1 hok.2.1 (Or.inr (Or.inr (Or.inl ⟨rfl, hok.2.2⟩))) hal h
    | boolean =>
      simp only [okE, Bool.and_eq_true, decide_eq_true_eq] at hok
      exact st_newarray X hok.1 hok.2.1 (Or.inr (Or.inr (Or.inr ⟨rfl, hok.2.2⟩))) hal h
    | _ => exact absurd hok (by simp [okE])
  | anewarray i =>
    simp only [okE, Bool.and_eq_true, decide_eq_true_eq] at hok
    exact st_anewarray X hok.1 hok.2.1 (wd_in hok.2.2) hal h
  | invokevirtual i =>
    simp only [okE, Bool.and_eq_true, decide_eq_true_eq] at hok
    obtain ⟨k1, k2, k3, k4, k5⟩ := sg_of hokm hok.2.1.1.1.2 (by omega) hok.2.1.1.1.1.2
    have ha0 := hok.2.1.1.2
    rw [show (sg a).2.1 = aM a from rfl, k3] at ha0
    refine st_invokevirtual X hok.1 hok.2.1.1.1.1.1 hE hR hal k1 k2 ha0 k4 (by rw [← k5]; exact wd_in hok.2.1.2) ?_ h
    have q := hok.2.2
    rw [k5] at q
    split at q
    · next e => exact Or.inl ⟨e, by simpa using q⟩
    · simp only [Bool.and_eq_true, decide_eq_true_eq] at q
      exact Or.inr q
  | invokestatic i =>
    simp only [okE, Bool.and_eq_true, decide_eq_true_eq] at hok
    rcases (show c0 = 0 ∨ c0 = 1 ∨ c0 = 2 ∨ c0 = 3 ∨ c0 = 4 ∨ c0 = 5 ∨ 6 ≤ c0 by omega) with e | e | e | e | e | e | e
    · subst e
      have q := hok.2.2
      simp only [Bool.and_eq_true, decide_eq_true_eq] at q
      obtain ⟨k1, k2, k3, k4, k5⟩ := sg_of hokm q.1.1.2 (by omega) q.1.1.1
      have ha0 := q.1.2
      rw [show (sg a).2.1 = aM a from rfl, k3] at ha0
      exact st_invokestatic X hok.1 hok.2.1 hE hR hal rfl k1 k2 ha0 k4 (by rw [← k5]; exact wd_in q.2) h
    · subst e; exact st_mmax X hok.1 hok.2.1 rfl (wd_in hok.2.2) h
    · subst e; exact st_mmin X hok.1 hok.2.1 rfl (wd_in hok.2.2) h
    · subst e; exact st_mmaxl X hok.1 hok.2.1 rfl (wd_in hok.2.2) h
    · subst e; exact st_mminl X hok.1 hok.2.1 rfl (wd_in hok.2.2) h
    · subst e; exact st_mabsl X hok.1 hok.2.1 rfl (wd_in hok.2.2) h
    · obtain ⟨q, rfl⟩ : ∃ q, c0 = q + 6 := ⟨c0 - 6, by omega⟩
      exact False.elim h
  | invokespecial i =>
    simp only [okE, Bool.and_eq_true, decide_eq_true_eq] at hok
    cases c0 with
    | zero => exact st_objInit X hok.1 hok.2.1 rfl (wd_in hok.2.2) h
    | succ q =>
      have q1 := hok.2.2
      simp only [Bool.and_eq_true, decide_eq_true_eq] at q1
      obtain ⟨k1, k2, k3, k4, k5⟩ := sg_of hokm q1.1.2 (by omega) q1.1.1
      exact st_invokespecial (c0 := 1) (w := w) (z := z) X hok.1 hok.2.1 hE hR hal rfl k1 k2 k3 k4 (by rw [← k5]; exact wd_in q1.2) h
  | ireturn =>
    simp only [okE, Bool.and_eq_true, decide_eq_true_eq] at hok
    obtain ⟨hd, hn, hr⟩ := hok
    subst hn
    cases st with
    | nil => exact False.elim h
    | cons v st => cases v with
      | int x => cases st with
        | cons v2 st2 => exact False.elim h
        | nil => cases a with
          | zero =>
            obtain ⟨g, hh⟩ := bR_only h
            have g := Nat.eq_of_beq_eq_true g
            subst g
            exact rI pc L x mm ks hd (Or.inl (by simpa using hr)) hh.2
          | succ a =>
            obtain ⟨g, hh⟩ := bR_only h
            have g := Nat.eq_of_beq_eq_true g
            subst g
            exact rI pc L x mm ks hd (Or.inr ⟨by simpa using hr, hh.1⟩) hh.2
      | _ => exact False.elim h
  | lreturn =>
    simp only [okE, Bool.and_eq_true, decide_eq_true_eq] at hok
    obtain ⟨hd, hn, hr⟩ := hok
    subst hn
    cases st with
    | nil => exact False.elim h
    | cons v st => cases v with
      | long x => cases st with
        | cons v2 st2 => exact False.elim h
        | nil =>
          obtain ⟨g, hh⟩ := bR_only h
          have g := Nat.eq_of_beq_eq_true g
          subst g
          exact rJ pc L x mm ks hd hr hh.2
      | _ => exact False.elim h
  | areturn =>
    simp only [okE, Bool.and_eq_true, decide_eq_true_eq] at hok
    obtain ⟨hd, hn, hr⟩ := hok
    subst hn
    have hr : ∃ nm, ret = some (.object nm) := by
      split at hr
      · exact ⟨_, rfl⟩
      · cases hr
    cases st with
    | nil => exact False.elim h
    | cons v st => cases v with
      | ref x => cases st with
        | cons v2 st2 => exact False.elim h
        | nil =>
          obtain ⟨g, hh⟩ := bR_only h
          have g := Nat.eq_of_beq_eq_true g
          subst g
          exact rA pc L _ mm ks hd hr (Or.inr ⟨x, rfl⟩) hh.2
      | null => cases st with
        | cons v2 st2 => exact False.elim h
        | nil =>
          obtain ⟨g, hh⟩ := bR_only h
          have g := Nat.eq_of_beq_eq_true g
          subst g
          exact rA pc L _ mm ks hd hr (Or.inl rfl) hh.2
      | _ => exact False.elim h
  | return_ =>
    simp only [okE, Bool.and_eq_true, decide_eq_true_eq] at hok
    obtain ⟨hd, hn, hr⟩ := hok
    subst hn
    cases st with
    | cons v st => exact False.elim h
    | nil =>
      obtain ⟨g, hh⟩ := bR_only h
      have g := Nat.eq_of_beq_eq_true g
      subst g
      exact rV pc L mm ks hd hr hh.2
  | _ => exact False.elim h
end VSIM
/-- EVERY METHOD of the table: what the plain machine comes to, the machine comes to -/
theorem sound (hokm : ∀ g, okM sg (mt g) = true) (l : Launch) (base : Nat) (ext : Nat → Nat) (D : va_G) (cA : Nat → ClassId) : ∀ (d g : Nat) (as : List Value) (mm : Mem) (K : Option Value → Mem → Prop), (mt g).2.2.2.2.2.2.2.2 < 3 → Ev mt aM d g as mm K → CalM l base ext D cA d g as mm K := by
  intro d
  induction d with
  | zero => intro g as mm K _ h; exact False.elim h
  | succ d ih =>
    intro g as mm K hk h
    obtain ⟨hlen, h⟩ := h
    have hM := mOk_of (hokm g) hk
    have hrows : (mt g).2.2.2.2.2.1.all (fun r => r.all (okE sg (mt g).1 (mt g).2.2.1 (mt g).2.2.2.1 (mt g).2.1)) = true := by
      have q := hokm g
      simp only [okM, Bool.and_eq_true] at q
      exact q.1
    refine Met.ofW (cc := (mt g).2.1) (maxL := (mt g).2.2.1) (ret := (mt g).2.2.2.1) hM.2.2.2.2.2.2.1 rfl ?_
    intro p e s m args below meth c s₁ B hml hv
    obtain ⟨rfl, hsz, hH, hO⟩ := hv
    have hts0 := atoms_spec (ws := wsM g) B.pre
    have X : Cx p (rmM (d + 1) g) s m (as.map (vr (adr base ext))).toArray meth c base ext D cA none (mt g).1 (mt g).2.1 (mt g).2.2.1 mm.1.length :=
      ⟨B.exec, B.bytes, hml, findClass_of_methodNamed B.named, fun w hw => hts0 w (List.mem_cons_of_mem _ hw), hO, hsz, (fun q hq => by cases hq), (by show 1 ≤ d + 1 + 1; omega), (by show 40 ≤ 60 * (d + 1 + 1); omega), fun hn => (name_of_methodNamed B.named B.method).1.trans hn⟩
    have hlocks := B.notSynchronized
    have hr := B.returns
    have key : ∀ q : Cfg, exec none aM (Ev mt aM d) (mt g) (Sim p l e (rmM (d + 1) g) s m (as.map (vr (adr base ext))).toArray below meth c (MQ below (vQ base ext D cA K (mm.1.length + (mt g).2.2.2.2.1.1)) (as.map (vr (adr base ext))).toArray s (mt g).2.2.2.2.1.1 (mt g).2.2.2.2.1.2 (At0 base)) base ext D cA (mt g).2.2.1 mm.1.length) K q → Sim p l e (rmM (d + 1) g) s m (as.map (vr (adr base ext))).toArray below meth c (MQ below (vQ base ext D cA K (mm.1.length + (mt g).2.2.2.2.1.1)) (as.map (vr (adr base ext))).toArray s (mt g).2.2.2.2.1.1 (mt g).2.2.2.2.1.2 (At0 base)) base ext D cA (mt g).2.2.1 mm.1.length q := by
      intro q hq
      obtain ⟨pc, L, st, m2, kc, ks⟩ := q
      unfold exec at hq
      rw [out_eq] at hq
      cases hlk : lkc (mt g).2.2.2.2.2.1 pc with
      | none =>
        rw [hlk] at hq
        exact False.elim hq
      | some e0 =>
        rw [hlk] at hq
        obtain ⟨hok, hpc⟩ := lkc_spec hrows hlk
        obtain ⟨pc', ins, n, a, b, c0, j, w, z⟩ := e0
        have hpc : pc' = pc := hpc
        subst hpc
        refine sim_step (ret := (mt g).2.2.2.1) X hokm (fun g as mm K hg h => ih g as mm K hg h) ⟨by show d + 2 ≤ d + 1 + 1; omega, by show 60 * (d + 2) ≤ 60 * (d + 1 + 1); omega⟩ ⟨Nat.le_refl _, Nat.le_refl _⟩ ?_ ?_ ?_ ?_ hok hq
        · intro pc L x mm2 ks hd hret hq H locs ls hH2 hS hL h1 h2
          refine W.widen (Nat.le_refl _) h2 ?_
          rcases hret with e | ⟨e | e, hx⟩
          · exact W.zret (ty := .int) B.exec B.bytes (hr.trans e) rfl (fun t ht hW => ⟨⟨some (.int x), mm2, rfl, hq, by rw [ht]; exact hH2⟩, hS.F ht⟩) hS.2.2 hd hlocks
          · exact W.zret (ty := .boolean) B.exec B.bytes (hr.trans e) (by rcases hx with rfl | rfl <;> decide) (fun t ht hW => ⟨⟨some (.int x), mm2, rfl, hq, by rw [ht]; exact hH2⟩, hS.F ht⟩) hS.2.2 hd hlocks
          · exact W.zret (ty := .byte) B.exec B.bytes (hr.trans e) (by rcases hx with rfl | rfl <;> decide) (fun t ht hW => ⟨⟨some (.int x), mm2, rfl, hq, by rw [ht]; exact hH2⟩, hS.F ht⟩) hS.2.2 hd hlocks
        · intro pc L x mm2 ks hd hret hq H locs ls hH2 hS hL h1 h2
          refine W.widen (Nat.le_refl _) h2 ?_
          exact W.lret B.exec B.bytes (hr.trans hret) (fun t ht hW => ⟨⟨some (.long x), mm2, rfl, hq, by rw [ht]; exact hH2⟩, hS.F ht⟩) hS.2.2 hd hlocks
        · intro pc L v mm2 ks hd hret hv hq H locs ls hH2 hS hL h1 h2
          refine W.widen (Nat.le_refl _) h2 ?_
          obtain ⟨nm, hret⟩ := hret
          exact W.aret (v := vr (adr base ext) v) B.exec B.bytes (hr.trans hret) (Or.inl ⟨nm, rfl⟩) (hv.elim (fun q => Or.inl (by rw [q]; rfl)) (fun q => q.elim (fun o q => Or.inr ⟨adr base ext o, by rw [q]; rfl⟩))) (fun t ht hW => ⟨⟨some v, mm2, rfl, hq, by rw [ht]; exact hH2⟩, hS.F ht⟩) hS.2.2 hd hlocks
        · intro pc L mm2 ks hd hret hq H locs ls hH2 hS hL h1 h2
          refine W.widen (Nat.le_refl _) h2 ?_
          exact W.vret B.exec B.bytes (hr.trans hret) (fun t ht hW => ⟨⟨none, mm2, rfl, hq, by rw [ht]; exact hH2⟩, hS.F ht⟩) hS.2.2 hd hlocks
    have hS0 := h _ key
    have hl := lv_entry (as.map (vr (adr base ext))) (n := (mt g).2.2.1) (by rw [entA_len]; exact hlen)
    rw [lg_entry_eq]
    exact hS0 s.heap [] _ hH va_S.rf ⟨_, hl, fun i v hi => by have := entA_in (adr base ext) as 0 i v (entP_get _ _ _ _ hi); rw [Nat.zero_add] at this; exact this⟩ (Nat.zero_le _) (Nat.zero_le _)
