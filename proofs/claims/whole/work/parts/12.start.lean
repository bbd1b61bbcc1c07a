/-! THE START: what the Statement gives, as the plain machine wants it. -/
def tmS (i : Nat) : Term := .string (nth txL i ("", 0, "")).1 (nth txL i ("", 0, "")).2.1
def idT : List Nat := [280, 513, 653, 662, 685, 664, 663, 712, 720]
theorem st_srf : ∀ i, i < 9 → lw_tbl[nth idT i 0]? = some (Cond.stringRef (nth txL i ("", 0, "")).1 (nth txL i ("", 0, "")).2.1 (nth txL i ("", 0, "")).2.2) := by decide +kernel
theorem clKn {s : State} {args : Array Value} (hts : ∀ w ∈ Tb, w.before args s = true) : ∃ D : va_G, ∀ (k : Nat) (q : vw_C), vwCl[k]? = some q → u_Kn s q.1 q.2.1 q.2.2 (D.1 k) (D.2 k) := by
  have h : ∀ a : Nat, ∃ z : ClassId × (Nat → Nat), ∀ q : vw_C, vwCl[a]? = some q → u_Kn s q.1 q.2.1 q.2.2 z.1 z.2 := by
    intro a
    by_cases ha : a < 12
    · obtain ⟨q1, q2, ty0, q3, q4, q5, q6, q7, q8⟩ := cl_ok a ha
      obtain ⟨cC, iS, hK⟩ := u_known hts q2 (hts _ q7)
      refine ⟨(cC, iS), fun q hq => ?_⟩
      cases q1.symm.trans hq
      exact hK
    · refine ⟨(0, fun _ => 0), fun q hq => ?_⟩
      have := (List.getElem?_eq_some_iff.mp hq).1
      exact absurd this (by show ¬ a < 12; exact ha)
  obtain ⟨f, hf⟩ := Classical.axiomOfChoice h
  exact ⟨(fun k => (f k).1, fun k => (f k).2), fun k q hq => hf k q hq⟩
theorem arrKn {s : State} {args : Array Value} {ty : FieldType} (h : (Cond.arrayClass ty).before args s = true) : ∃ cI : ClassId, ArrOfT s cI ty ∧ s.vm.findClass ("[" ++ ty.toString) = some cI := by
  obtain ⟨cA, kA, comp, h1, h2, h3⟩ := Cond.arrayClass_spec h
  exact ⟨cA, fun n z => ⟨fun k h => (by cases h), kA, h2, comp, h3⟩, h1⟩
theorem overKn {s : State} {args : Array Value} {C : String} (h : (Cond.arrayOver (.object C)).before args s = true) : ∃ cI : ClassId, ArrOfT s cI (.object C) ∧ va_RA s cI (.object C) := by
  obtain ⟨comp, c, k, h1, -, h3, h4, h5⟩ := Cond.arrayOver_spec h
  exact ⟨c, fun n z => ⟨fun k h => (by cases h), k, h3, comp, h4⟩, k, comp, h3, h4, h1, h5⟩
/-- what lies outside, at the start -/
theorem start_out {s : State} {b : Nat} (hts : ∀ w ∈ lw_tbl, w.before #[Value.ref b] s = true) (hgv : (Jvm.Cond.and given_1 narrow_1).before #[Value.ref b] s = true) : ∃ (ext : Nat → Nat) (D : va_G) (cA : Nat → ClassId), ext 2000 = b ∧ Out0 s.heap.size ext D cA s s.heap := by
  have hT : ∀ w ∈ Tb, w.before #[Value.ref b] s = true := fun w hw => hts w (List.mem_filter.mp hw).1
  have hf := flat_of_before _ hgv
  have hA : ∀ a : Nat, a < s.heap.size → ¬ At0 s.heap.size a := fun a h q => by unfold At0 at q; omega
  obtain ⟨D, hD⟩ := clKn hT
  obtain ⟨cI, i1, i2⟩ := arrKn (hT _ (wd_in (j := 188) (w := .arrayClass .int) (by decide +kernel)))
  obtain ⟨cJ, j1, j2⟩ := arrKn (hT _ (wd_in (j := 357) (w := .arrayClass .long) (by decide +kernel)))
  obtain ⟨cB, b1, b2⟩ := arrKn (hT _ (wd_in (j := 307) (w := .arrayClass .byte) (by decide +kernel)))
  obtain ⟨cZ, z1, z2⟩ := arrKn (hT _ (wd_in (j := 1386) (w := .arrayClass .boolean) (by decide +kernel)))
  have hov : (Cond.arrayOver (.object RX9)).before #[Value.ref b] s = true := hts _ (List.mem_of_getElem? (i := 230) (by decide +kernel))
  obtain ⟨cT, t1, t2⟩ := overKn hov
  obtain ⟨t, g1, g2⟩ := va_Tof (A := At0 s.heap.size) (tm := .static "ThreeToSend$Best" "ACTIONS" "[I") (ty := .int) (N := 13) (f := fun j => .int (actF j)) (by decide) (hf _ (by decide +kernel)) (va_eqt (hf _ (by decide +kernel)))
    (fun j hj => va_eqt (hf _ ((show ∀ j, j < 13 → Cond.eq (.elem (.static "ThreeToSend$Best" "ACTIONS" "[I") (.int (Int32.ofNat j))) (.int (actF j)) ∈ _ by decide +kernel) j hj))) hA
  obtain ⟨adK, adV, k1, k2⟩ := vk_Sof (A := At0 s.heap.size) (N := 9) (tm := tmS) (len := txN) (byt := txB) (by decide +kernel) (fun i hi => hf _ ((show ∀ i, i < 9 → Cond.exactly (tmS i) "java/lang/String" ∈ _ by decide +kernel) i hi)) (fun i hi => hf _ ((show ∀ i, i < 9 → Cond.eq (.field (tmS i) "java/lang/String" "coder" "B") (.int 0) ∈ _ by decide +kernel) i hi))
    (fun i hi => hf _ ((show ∀ i, i < 9 → Cond.arrayOf (.field (tmS i) "java/lang/String" "value" "[B") .byte ∈ _ by decide +kernel) i hi)) (fun i hi => hf _ ((show ∀ i, i < 9 → Cond.eq (.length (.field (tmS i) "java/lang/String" "value" "[B")) (.int (Int32.ofNat (txN.getD i 0))) ∈ _ by decide +kernel) i hi))
    (fun i hi j hj => hf _ ((show ∀ i, i < 9 → ∀ j, j < txN.getD i 0 → Cond.eq (.elem (.field (tmS i) "java/lang/String" "value" "[B") (.int (Int32.ofNat j))) (.int ((txB.getD i []).getD j 0)) ∈ _ by decide +kernel) i hi j hj))
    (fun i j hi hj hij => ((show ∀ i, i < 9 → ∀ j, j < 9 → i ≠ j → Cond.not (Cond.eq (tmS i) (tmS j)) ∈ _ ∨ Cond.not (Cond.eq (tmS j) (tmS i)) ∈ _ by decide +kernel) i hi j hj hij).imp (hf _) (hf _)) hA
  have e2 : ∀ i, i < 9 → (fun i => if i = 2000 then b else if i = 3000 then t else if i < 1100 then adK (i - 1000) else adV (i - 1100)) (1000 + i) = adK i := by
    intro i hi
    show (if 1000 + i = 2000 then b else if 1000 + i = 3000 then t else if 1000 + i < 1100 then adK (1000 + i - 1000) else adV (1000 + i - 1100)) = adK i
    rw [if_neg (by omega), if_neg (by omega), if_pos (by omega), Nat.add_sub_cancel_left]
  have e3 : ∀ i, i < 9 → (fun i => if i = 2000 then b else if i = 3000 then t else if i < 1100 then adK (i - 1000) else adV (i - 1100)) (1100 + i) = adV i := by
    intro i hi
    show (if 1100 + i = 2000 then b else if 1100 + i = 3000 then t else if 1100 + i < 1100 then adK (1100 + i - 1000) else adV (1100 + i - 1100)) = adV i
    rw [if_neg (by omega), if_neg (by omega), if_neg (by omega), Nat.add_sub_cancel_left]
  refine ⟨fun i => if i = 2000 then b else if i = 3000 then t else if i < 1100 then adK (i - 1000) else adV (i - 1100), D, fun k => if k = 20 then cI else if k = 21 then cJ else if k = 22 then cB else if k = 23 then cZ else cT, rfl, ⟨hD, fun k q hk => ?_⟩, va_AO.of hov, ?_, ?_, g2, ?_, fun i hi => ?_⟩
  · match k, hk with
    | 0, hk => cases hk; exact ⟨i1, i2⟩
    | 1, hk => cases hk; exact ⟨j1, j2⟩
    | 2, hk => cases hk; exact ⟨b1, b2⟩
    | 3, hk => cases hk; exact ⟨z1, z2⟩
    | 4, hk => cases hk; exact ⟨t1, t2⟩
    | k + 5, hk => simp [TYS] at hk
  · exact va_Zof (hts _ (List.mem_of_getElem? (i := 551) (by decide +kernel))) (hts _ (List.mem_of_getElem? (i := 114) (by decide +kernel))) (va_eqi (hf _ (by decide +kernel))) hA
  · exact va_Zof (hts _ (List.mem_of_getElem? (i := 924) (by decide +kernel))) (hts _ (List.mem_of_getElem? (i := 108) (by decide +kernel))) g1 hA
  · refine ⟨fun i hi => ?_, fun i j hi hj hij => ?_⟩
    · rw [e2 i hi, e3 i hi]
      exact k1.1 i hi
    · rw [e2 i hi, e2 j hj] at hij
      exact k1.2 i j hi hj hij
  · rw [e2 i hi]
    exact vk_R.of (hts _ (List.mem_of_getElem? (st_srf i hi))) (k2 i hi)
