/-! What is known of each class. -/
def refTy : FieldType → Bool
  | .object _ => true
  | .array _ => true
  | _ => false
theorem refTy_ok {ad : Nat → Nat} {ty : FieldType} {v : Value} (h : refTy ty = true) (hv : (∃ x, v = .ref x) ∨ v = .null) : narrow ty (vr ad v) = vr ad v ∧ fits ty (vr ad v) = true := by
  cases ty with
  | object s => rcases hv with ⟨x, rfl⟩ | rfl <;> exact ⟨rfl, rfl⟩
  | array t => rcases hv with ⟨x, rfl⟩ | rfl <;> exact ⟨rfl, rfl⟩
  | _ => cases h
def clOk (a : Nat) : Prop := vwCl[a]? = some (clA a) ∧ (∀ w ∈ u_ws (clA a).1 (clA a).2.1 (clA a).2.2, w ∈ Tb) ∧ ∃ ty0 : Nat → FieldType, (∀ k, k < (clA a).2.2 → parseFieldDescriptor ((clA a).2.1 k).2.2.1 = some (ty0 k)) ∧ (∀ x, x < (clA a).2.2 → ∀ y, y < (clA a).2.2 → x ≠ y → ((clA a).2.1 x).2.1 ≠ ((clA a).2.1 y).2.1)
  ∧ (∀ j, j < (clA a).2.2 → defaultValue (ty0 j) = fv (kdF a j) .null) ∧ (∀ j, j < (clA a).2.2 → (kdF a j = 0 → ty0 j = .int) ∧ (kdF a j = 1 → ty0 j = .long) ∧ (kdF a j = 3 → ty0 j = .boolean) ∧ (kdF a j = 2 → refTy (ty0 j) = true))
  ∧ Cond.instantiable (clA a).1 (clA a).2.2 ∈ Tb ∧ Cond.initialized (clA a).1 ∈ Tb
theorem clOk_0 : clOk 0 := ⟨rfl, goodIn_inTb inlX0 (by decide +kernel), tyX0, tyX0_ok, nmX0, by decide +kernel, by decide +kernel, wd_in (j := 309) (by decide +kernel), wd_in (j := 108) (by decide +kernel)⟩
theorem clOk_1 : clOk 1 := ⟨rfl, goodIn_inTb inlX1 (by decide +kernel), tyX1, tyX1_ok, nmX1, by decide +kernel, by decide +kernel, wd_in (j := 378) (by decide +kernel), wd_in (j := 110) (by decide +kernel)⟩
theorem clOk_2 : clOk 2 := ⟨rfl, goodIn_inTb inlX2 (by decide +kernel), tyX2, tyX2_ok, nmX2, by decide +kernel, by decide +kernel, wd_in (j := 205) (by decide +kernel), wd_in (j := 104) (by decide +kernel)⟩
theorem clOk_3 : clOk 3 := ⟨rfl, goodIn_inTb inlX3 (by decide +kernel), tyX3, tyX3_ok, nmX3, by decide +kernel, by decide +kernel, wd_in (j := 273) (by decide +kernel), wd_in (j := 107) (by decide +kernel)⟩
theorem clOk_4 : clOk 4 := ⟨rfl, goodIn_inTb inlX4 (by decide +kernel), tyX4, tyX4_ok, nmX4, by decide +kernel, by decide +kernel, wd_in (j := 211) (by decide +kernel), wd_in (j := 105) (by decide +kernel)⟩
theorem clOk_5 : clOk 5 := ⟨rfl, goodIn_inTb inlX6 (by decide +kernel), tyX6, tyX6_ok, nmX6, by decide +kernel, by decide +kernel, wd_in (j := 404) (by decide +kernel), wd_in (j := 111) (by decide +kernel)⟩
theorem clOk_6 : clOk 6 := ⟨rfl, goodIn_inTb inlX7 (by decide +kernel), tyX7, tyX7_ok, nmX7, by decide +kernel, by decide +kernel, wd_in (j := 129) (by decide +kernel), wd_in (j := 102) (by decide +kernel)⟩
theorem clOk_7 : clOk 7 := ⟨rfl, goodIn_inTb inlX8 (by decide +kernel), tyX8, tyX8_ok, nmX8, by decide +kernel, by decide +kernel, wd_in (j := 190) (by decide +kernel), wd_in (j := 103) (by decide +kernel)⟩
theorem clOk_8 : clOk 8 := ⟨rfl, goodIn_inTb inlX9 (by decide +kernel), tyX9, tyX9_ok, nmX9, by decide +kernel, by decide +kernel, wd_in (j := 231) (by decide +kernel), wd_in (j := 106) (by decide +kernel)⟩
theorem clOk_9 : clOk 9 := ⟨rfl, goodIn_inTb inlX10 (by decide +kernel), tyX10, tyX10_ok, nmX10, by decide +kernel, by decide +kernel, wd_in (j := 359) (by decide +kernel), wd_in (j := 109) (by decide +kernel)⟩
theorem clOk_10 : clOk 10 := ⟨rfl, goodIn_inTb inlX11 (by decide +kernel), tyX11, tyX11_ok, nmX11, by decide +kernel, by decide +kernel, wd_in (j := 121) (by decide +kernel), wd_in (j := 101) (by decide +kernel)⟩
theorem clOk_11 : clOk 11 := ⟨rfl, goodIn_inTb inlX12 (by decide +kernel), tyX12, tyX12_ok, nmX12, by decide +kernel, by decide +kernel, wd_in (j := 1217) (by decide +kernel), wd_in (j := 112) (by decide +kernel)⟩
theorem cl_ok (a : Nat) (h : a < 12) : clOk a := by
  rcases (show a = 0 ∨ a = 1 ∨ a = 2 ∨ a = 3 ∨ a = 4 ∨ a = 5 ∨ a = 6 ∨ a = 7 ∨ a = 8 ∨ a = 9 ∨ a = 10 ∨ a = 11 by omega) with rfl | rfl | rfl | rfl | rfl | rfl | rfl | rfl | rfl | rfl | rfl | rfl
  · exact clOk_0
  · exact clOk_1
  · exact clOk_2
  · exact clOk_3
  · exact clOk_4
  · exact clOk_5
  · exact clOk_6
  · exact clOk_7
  · exact clOk_8
  · exact clOk_9
  · exact clOk_10
  · exact clOk_11
