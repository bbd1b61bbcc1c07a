set_option maxRecDepth 100000 in
theorem okL_0 : mL_r0.all (okE sg yL_law 4 (some .boolean) code) = true := by decide +kernel
set_option maxRecDepth 100000 in
theorem okL_1 : mL_r1.all (okE sg yL_law 4 (some .boolean) code) = true := by decide +kernel
set_option maxRecDepth 100000 in
theorem okL_2 : mL_r2.all (okE sg yL_law 4 (some .boolean) code) = true := by decide +kernel
set_option maxRecDepth 100000 in
theorem okL_3 : mL_r3.all (okE sg yL_law 4 (some .boolean) code) = true := by decide +kernel
set_option maxRecDepth 100000 in
theorem okL_4 : mL_r4.all (okE sg yL_law 4 (some .boolean) code) = true := by decide +kernel
set_option maxRecDepth 100000 in
theorem okL_5 : mL_r5.all (okE sg yL_law 4 (some .boolean) code) = true := by decide +kernel
set_option maxRecDepth 100000 in
theorem okL_6 : mL_r6.all (okE sg yL_law 4 (some .boolean) code) = true := by decide +kernel
set_option maxRecDepth 100000 in
theorem okL_7 : mL_r7.all (okE sg yL_law 4 (some .boolean) code) = true := by decide +kernel
set_option maxRecDepth 100000 in
theorem okL_8 : mL_r8.all (okE sg yL_law 4 (some .boolean) code) = true := by decide +kernel
set_option maxRecDepth 100000 in
theorem okL_9 : mL_r9.all (okE sg yL_law 4 (some .boolean) code) = true := by decide +kernel
set_option maxRecDepth 100000 in
theorem okL_10 : mL_r10.all (okE sg yL_law 4 (some .boolean) code) = true := by decide +kernel
set_option maxRecDepth 100000 in
theorem okL_11 : mL_r11.all (okE sg yL_law 4 (some .boolean) code) = true := by decide +kernel
set_option maxRecDepth 100000 in
theorem okL_12 : mL_r12.all (okE sg yL_law 4 (some .boolean) code) = true := by decide +kernel
set_option maxRecDepth 100000 in
theorem okL_13 : mL_r13.all (okE sg yL_law 4 (some .boolean) code) = true := by decide +kernel
set_option maxRecDepth 100000 in
theorem okL_14 : mL_r14.all (okE sg yL_law 4 (some .boolean) code) = true := by decide +kernel
set_option maxRecDepth 100000 in
theorem okL_15 : mL_r15.all (okE sg yL_law 4 (some .boolean) code) = true := by decide +kernel
set_option maxRecDepth 100000 in
theorem okL_16 : mL_r16.all (okE sg yL_law 4 (some .boolean) code) = true := by decide +kernel
set_option maxRecDepth 100000 in
theorem okL_17 : mL_r17.all (okE sg yL_law 4 (some .boolean) code) = true := by decide +kernel
set_option maxRecDepth 100000 in
theorem okL_18 : mL_r18.all (okE sg yL_law 4 (some .boolean) code) = true := by decide +kernel
set_option maxRecDepth 100000 in
theorem okL_19 : mL_r19.all (okE sg yL_law 4 (some .boolean) code) = true := by decide +kernel
set_option maxRecDepth 100000 in
theorem okL_20 : mL_r20.all (okE sg yL_law 4 (some .boolean) code) = true := by decide +kernel
set_option maxRecDepth 100000 in
theorem okL_21 : mL_r21.all (okE sg yL_law 4 (some .boolean) code) = true := by decide +kernel
set_option maxRecDepth 100000 in
theorem okL_22 : mL_r22.all (okE sg yL_law 4 (some .boolean) code) = true := by decide +kernel
set_option maxRecDepth 100000 in
theorem okL_23 : mL_r23.all (okE sg yL_law 4 (some .boolean) code) = true := by decide +kernel
set_option maxRecDepth 100000 in
theorem okL_24 : mL_r24.all (okE sg yL_law 4 (some .boolean) code) = true := by decide +kernel
set_option maxRecDepth 100000 in
theorem okL_25 : mL_r25.all (okE sg yL_law 4 (some .boolean) code) = true := by decide +kernel
set_option maxRecDepth 100000 in
theorem okL_26 : mL_r26.all (okE sg yL_law 4 (some .boolean) code) = true := by decide +kernel
set_option maxRecDepth 100000 in
theorem okL_27 : mL_r27.all (okE sg yL_law 4 (some .boolean) code) = true := by decide +kernel
set_option maxRecDepth 100000 in
theorem okL_28 : mL_r28.all (okE sg yL_law 4 (some .boolean) code) = true := by decide +kernel
set_option maxRecDepth 100000 in
theorem okL_29 : mL_r29.all (okE sg yL_law 4 (some .boolean) code) = true := by decide +kernel
set_option maxRecDepth 100000 in
theorem okL_30 : mL_r30.all (okE sg yL_law 4 (some .boolean) code) = true := by decide +kernel
set_option maxRecDepth 100000 in
theorem okL_31 : mL_r31.all (okE sg yL_law 4 (some .boolean) code) = true := by decide +kernel
set_option maxRecDepth 100000 in
theorem okL_32 : mL_r32.all (okE sg yL_law 4 (some .boolean) code) = true := by decide +kernel
set_option maxRecDepth 100000 in
theorem okL_33 : mL_r33.all (okE sg yL_law 4 (some .boolean) code) = true := by decide +kernel
set_option maxRecDepth 100000 in
theorem okL_34 : mL_r34.all (okE sg yL_law 4 (some .boolean) code) = true := by decide +kernel
set_option maxRecDepth 100000 in
theorem okL_35 : mL_r35.all (okE sg yL_law 4 (some .boolean) code) = true := by decide +kernel
set_option maxRecDepth 100000 in
theorem okL_36 : mL_r36.all (okE sg yL_law 4 (some .boolean) code) = true := by decide +kernel
set_option maxRecDepth 100000 in
theorem okL_37 : mL_r37.all (okE sg yL_law 4 (some .boolean) code) = true := by decide +kernel
set_option maxRecDepth 100000 in
theorem okL_38 : mL_r38.all (okE sg yL_law 4 (some .boolean) code) = true := by decide +kernel
set_option maxRecDepth 100000 in
theorem okL_39 : mL_r39.all (okE sg yL_law 4 (some .boolean) code) = true := by decide +kernel
set_option maxRecDepth 100000 in
theorem okL_40 : mL_r40.all (okE sg yL_law 4 (some .boolean) code) = true := by decide +kernel
set_option maxRecDepth 100000 in
theorem okL_41 : mL_r41.all (okE sg yL_law 4 (some .boolean) code) = true := by decide +kernel
set_option maxRecDepth 100000 in
theorem okL_42 : mL_r42.all (okE sg yL_law 4 (some .boolean) code) = true := by decide +kernel
set_option maxRecDepth 100000 in
theorem okL_43 : mL_r43.all (okE sg yL_law 4 (some .boolean) code) = true := by decide +kernel
set_option maxRecDepth 100000 in
theorem okL_44 : mL_r44.all (okE sg yL_law 4 (some .boolean) code) = true := by decide +kernel
set_option maxRecDepth 100000 in
theorem okL_45 : mL_r45.all (okE sg yL_law 4 (some .boolean) code) = true := by decide +kernel
set_option maxRecDepth 100000 in
theorem okL_46 : mL_r46.all (okE sg yL_law 4 (some .boolean) code) = true := by decide +kernel
set_option maxRecDepth 100000 in
theorem okL_47 : mL_r47.all (okE sg yL_law 4 (some .boolean) code) = true := by decide +kernel
set_option maxRecDepth 100000 in
theorem okL_48 : mL_r48.all (okE sg yL_law 4 (some .boolean) code) = true := by decide +kernel
set_option maxRecDepth 100000 in
theorem okL_49 : mL_r49.all (okE sg yL_law 4 (some .boolean) code) = true := by decide +kernel
set_option maxRecDepth 100000 in
theorem okL_50 : mL_r50.all (okE sg yL_law 4 (some .boolean) code) = true := by decide +kernel
set_option maxRecDepth 100000 in
theorem okL_51 : mL_r51.all (okE sg yL_law 4 (some .boolean) code) = true := by decide +kernel
set_option maxRecDepth 100000 in
theorem okL_52 : mL_r52.all (okE sg yL_law 4 (some .boolean) code) = true := by decide +kernel
set_option maxRecDepth 100000 in
theorem okL_53 : mL_r53.all (okE sg yL_law 4 (some .boolean) code) = true := by decide +kernel
set_option maxRecDepth 100000 in
theorem okL_54 : mL_r54.all (okE sg yL_law 4 (some .boolean) code) = true := by decide +kernel
set_option maxRecDepth 100000 in
theorem okL_55 : mL_r55.all (okE sg yL_law 4 (some .boolean) code) = true := by decide +kernel
set_option maxRecDepth 100000 in
theorem okL_56 : mL_r56.all (okE sg yL_law 4 (some .boolean) code) = true := by decide +kernel
set_option maxRecDepth 100000 in
theorem okL_57 : mL_r57.all (okE sg yL_law 4 (some .boolean) code) = true := by decide +kernel
set_option maxRecDepth 100000 in
theorem okL_58 : mL_r58.all (okE sg yL_law 4 (some .boolean) code) = true := by decide +kernel
set_option maxRecDepth 100000 in
theorem okL_59 : mL_r59.all (okE sg yL_law 4 (some .boolean) code) = true := by decide +kernel
set_option maxRecDepth 100000 in
theorem okL_60 : mL_r60.all (okE sg yL_law 4 (some .boolean) code) = true := by decide +kernel
set_option maxRecDepth 100000 in
theorem okL_61 : mL_r61.all (okE sg yL_law 4 (some .boolean) code) = true := by decide +kernel
set_option maxRecDepth 100000 in
theorem okL_62 : mL_r62.all (okE sg yL_law 4 (some .boolean) code) = true := by decide +kernel
set_option maxRecDepth 100000 in
theorem okL_63 : mL_r63.all (okE sg yL_law 4 (some .boolean) code) = true := by decide +kernel
set_option maxRecDepth 100000 in
theorem okL_64 : mL_r64.all (okE sg yL_law 4 (some .boolean) code) = true := by decide +kernel
set_option maxRecDepth 100000 in
theorem okL_65 : mL_r65.all (okE sg yL_law 4 (some .boolean) code) = true := by decide +kernel
set_option maxRecDepth 100000 in
theorem okL_66 : mL_r66.all (okE sg yL_law 4 (some .boolean) code) = true := by decide +kernel
set_option maxRecDepth 100000 in
theorem okL_67 : mL_r67.all (okE sg yL_law 4 (some .boolean) code) = true := by decide +kernel
set_option maxRecDepth 100000 in
theorem okL_68 : mL_r68.all (okE sg yL_law 4 (some .boolean) code) = true := by decide +kernel
set_option maxRecDepth 100000 in
theorem okL_69 : mL_r69.all (okE sg yL_law 4 (some .boolean) code) = true := by decide +kernel
set_option maxRecDepth 100000 in
theorem okL_70 : mL_r70.all (okE sg yL_law 4 (some .boolean) code) = true := by decide +kernel
set_option maxRecDepth 100000 in
theorem okL_71 : mL_r71.all (okE sg yL_law 4 (some .boolean) code) = true := by decide +kernel
set_option maxRecDepth 100000 in
theorem okL_72 : mL_r72.all (okE sg yL_law 4 (some .boolean) code) = true := by decide +kernel
set_option maxRecDepth 100000 in
theorem okL_73 : mL_r73.all (okE sg yL_law 4 (some .boolean) code) = true := by decide +kernel
set_option maxRecDepth 100000 in
theorem okL_74 : mL_r74.all (okE sg yL_law 4 (some .boolean) code) = true := by decide +kernel
set_option maxRecDepth 100000 in
theorem okL_75 : mL_r75.all (okE sg yL_law 4 (some .boolean) code) = true := by decide +kernel
set_option maxRecDepth 100000 in
theorem okL_76 : mL_r76.all (okE sg yL_law 4 (some .boolean) code) = true := by decide +kernel
set_option maxRecDepth 100000 in
theorem okL_77 : mL_r77.all (okE sg yL_law 4 (some .boolean) code) = true := by decide +kernel
set_option maxRecDepth 100000 in
theorem okL_78 : mL_r78.all (okE sg yL_law 4 (some .boolean) code) = true := by decide +kernel
set_option maxRecDepth 100000 in
theorem okL_79 : mL_r79.all (okE sg yL_law 4 (some .boolean) code) = true := by decide +kernel
set_option maxRecDepth 100000 in
theorem okL_80 : mL_r80.all (okE sg yL_law 4 (some .boolean) code) = true := by decide +kernel
set_option maxRecDepth 100000 in
theorem okL_81 : mL_r81.all (okE sg yL_law 4 (some .boolean) code) = true := by decide +kernel
set_option maxRecDepth 100000 in
theorem okL_82 : mL_r82.all (okE sg yL_law 4 (some .boolean) code) = true := by decide +kernel
set_option maxRecDepth 100000 in
theorem okL_83 : mL_r83.all (okE sg yL_law 4 (some .boolean) code) = true := by decide +kernel
set_option maxRecDepth 100000 in
theorem okL_84 : mL_r84.all (okE sg yL_law 4 (some .boolean) code) = true := by decide +kernel
set_option maxRecDepth 100000 in
theorem okL_85 : mL_r85.all (okE sg yL_law 4 (some .boolean) code) = true := by decide +kernel
set_option maxRecDepth 100000 in
theorem okL_86 : mL_r86.all (okE sg yL_law 4 (some .boolean) code) = true := by decide +kernel
set_option maxRecDepth 100000 in
theorem okL_87 : mL_r87.all (okE sg yL_law 4 (some .boolean) code) = true := by decide +kernel
theorem ok_L_law : okM sg mL_law = true := by
  have h : ∀ r ∈ mL_law.2.2.2.2.2.1, r.all (okE sg yL_law 4 (some .boolean) code) = true := by
    intro r hr
    have hr : r ∈ [mL_r0, mL_r1, mL_r2, mL_r3, mL_r4, mL_r5, mL_r6, mL_r7, mL_r8, mL_r9, mL_r10, mL_r11, mL_r12, mL_r13, mL_r14, mL_r15, mL_r16, mL_r17, mL_r18, mL_r19, mL_r20, mL_r21, mL_r22, mL_r23, mL_r24, mL_r25, mL_r26, mL_r27, mL_r28, mL_r29, mL_r30, mL_r31, mL_r32, mL_r33, mL_r34, mL_r35, mL_r36, mL_r37, mL_r38, mL_r39, mL_r40, mL_r41, mL_r42, mL_r43, mL_r44, mL_r45, mL_r46, mL_r47, mL_r48, mL_r49, mL_r50, mL_r51, mL_r52, mL_r53, mL_r54, mL_r55, mL_r56, mL_r57, mL_r58, mL_r59, mL_r60, mL_r61, mL_r62, mL_r63, mL_r64, mL_r65, mL_r66, mL_r67, mL_r68, mL_r69, mL_r70, mL_r71, mL_r72, mL_r73, mL_r74, mL_r75, mL_r76, mL_r77, mL_r78, mL_r79, mL_r80, mL_r81, mL_r82, mL_r83, mL_r84, mL_r85, mL_r86, mL_r87] := hr
    have h0 : ∀ r ∈ [mL_r0, mL_r1, mL_r2, mL_r3, mL_r4, mL_r5, mL_r6, mL_r7, mL_r8, mL_r9, mL_r10, mL_r11, mL_r12, mL_r13, mL_r14, mL_r15], r.all (okE sg yL_law 4 (some .boolean) code) = true := List.forall_mem_cons.mpr ⟨okL_0, List.forall_mem_cons.mpr ⟨okL_1, List.forall_mem_cons.mpr ⟨okL_2, List.forall_mem_cons.mpr ⟨okL_3, List.forall_mem_cons.mpr ⟨okL_4, List.forall_mem_cons.mpr ⟨okL_5, List.forall_mem_cons.mpr ⟨okL_6, List.forall_mem_cons.mpr ⟨okL_7, List.forall_mem_cons.mpr ⟨okL_8, List.forall_mem_cons.mpr ⟨okL_9, List.forall_mem_cons.mpr ⟨okL_10, List.forall_mem_cons.mpr ⟨okL_11, List.forall_mem_cons.mpr ⟨okL_12, List.forall_mem_cons.mpr ⟨okL_13, List.forall_mem_cons.mpr ⟨okL_14, List.forall_mem_cons.mpr ⟨okL_15, fun _ h => absurd h List.not_mem_nil⟩⟩⟩⟩⟩⟩⟩⟩⟩⟩⟩⟩⟩⟩⟩⟩
    have h1 : ∀ r ∈ [mL_r16, mL_r17, mL_r18, mL_r19, mL_r20, mL_r21, mL_r22, mL_r23, mL_r24, mL_r25, mL_r26, mL_r27, mL_r28, mL_r29, mL_r30, mL_r31], r.all (okE sg yL_law 4 (some .boolean) code) = true := List.forall_mem_cons.mpr ⟨okL_16, List.forall_mem_cons.mpr ⟨okL_17, List.forall_mem_cons.mpr ⟨okL_18, List.forall_mem_cons.mpr ⟨okL_19, List.forall_mem_cons.mpr ⟨okL_20, List.forall_mem_cons.mpr ⟨okL_21, List.forall_mem_cons.mpr ⟨okL_22, List.forall_mem_cons.mpr ⟨okL_23, List.forall_mem_cons.mpr ⟨okL_24, List.forall_mem_cons.mpr ⟨okL_25, List.forall_mem_cons.mpr ⟨okL_26, List.forall_mem_cons.mpr ⟨okL_27, List.forall_mem_cons.mpr ⟨okL_28, List.forall_mem_cons.mpr ⟨okL_29, List.forall_mem_cons.mpr ⟨okL_30, List.forall_mem_cons.mpr ⟨okL_31, fun _ h => absurd h List.not_mem_nil⟩⟩⟩⟩⟩⟩⟩⟩⟩⟩⟩⟩⟩⟩⟩⟩
    have h2 : ∀ r ∈ [mL_r32, mL_r33, mL_r34, mL_r35, mL_r36, mL_r37, mL_r38, mL_r39, mL_r40, mL_r41, mL_r42, mL_r43, mL_r44, mL_r45, mL_r46, mL_r47], r.all (okE sg yL_law 4 (some .boolean) code) = true := List.forall_mem_cons.mpr ⟨okL_32, List.forall_mem_cons.mpr ⟨okL_33, List.forall_mem_cons.mpr ⟨okL_34, List.forall_mem_cons.mpr ⟨okL_35, List.forall_mem_cons.mpr ⟨okL_36, List.forall_mem_cons.mpr ⟨okL_37, List.forall_mem_cons.mpr ⟨okL_38, List.forall_mem_cons.mpr ⟨okL_39, List.forall_mem_cons.mpr ⟨okL_40, List.forall_mem_cons.mpr ⟨okL_41, List.forall_mem_cons.mpr ⟨okL_42, List.forall_mem_cons.mpr ⟨okL_43, List.forall_mem_cons.mpr ⟨okL_44, List.forall_mem_cons.mpr ⟨okL_45, List.forall_mem_cons.mpr ⟨okL_46, List.forall_mem_cons.mpr ⟨okL_47, fun _ h => absurd h List.not_mem_nil⟩⟩⟩⟩⟩⟩⟩⟩⟩⟩⟩⟩⟩⟩⟩⟩
    have h3 : ∀ r ∈ [mL_r48, mL_r49, mL_r50, mL_r51, mL_r52, mL_r53, mL_r54, mL_r55, mL_r56, mL_r57, mL_r58, mL_r59, mL_r60, mL_r61, mL_r62, mL_r63], r.all (okE sg yL_law 4 (some .boolean) code) = true := List.forall_mem_cons.mpr ⟨okL_48, List.forall_mem_cons.mpr ⟨okL_49, List.forall_mem_cons.mpr ⟨okL_50, List.forall_mem_cons.mpr ⟨okL_51, List.forall_mem_cons.mpr ⟨okL_52, List.forall_mem_cons.mpr ⟨okL_53, List.forall_mem_cons.mpr ⟨okL_54, List.forall_mem_cons.mpr ⟨okL_55, List.forall_mem_cons.mpr ⟨okL_56, List.forall_mem_cons.mpr ⟨okL_57, List.forall_mem_cons.mpr ⟨okL_58, List.forall_mem_cons.mpr ⟨okL_59, List.forall_mem_cons.mpr ⟨okL_60, List.forall_mem_cons.mpr ⟨okL_61, List.forall_mem_cons.mpr ⟨okL_62, List.forall_mem_cons.mpr ⟨okL_63, fun _ h => absurd h List.not_mem_nil⟩⟩⟩⟩⟩⟩⟩⟩⟩⟩⟩⟩⟩⟩⟩⟩
    have h4 : ∀ r ∈ [mL_r64, mL_r65, mL_r66, mL_r67, mL_r68, mL_r69, mL_r70, mL_r71, mL_r72, mL_r73, mL_r74, mL_r75, mL_r76, mL_r77, mL_r78, mL_r79], r.all (okE sg yL_law 4 (some .boolean) code) = true := List.forall_mem_cons.mpr ⟨okL_64, List.forall_mem_cons.mpr ⟨okL_65, List.forall_mem_cons.mpr ⟨okL_66, List.forall_mem_cons.mpr ⟨okL_67, List.forall_mem_cons.mpr ⟨okL_68, List.forall_mem_cons.mpr ⟨okL_69, List.forall_mem_cons.mpr ⟨okL_70, List.forall_mem_cons.mpr ⟨okL_71, List.forall_mem_cons.mpr ⟨okL_72, List.forall_mem_cons.mpr ⟨okL_73, List.forall_mem_cons.mpr ⟨okL_74, List.forall_mem_cons.mpr ⟨okL_75, List.forall_mem_cons.mpr ⟨okL_76, List.forall_mem_cons.mpr ⟨okL_77, List.forall_mem_cons.mpr ⟨okL_78, List.forall_mem_cons.mpr ⟨okL_79, fun _ h => absurd h List.not_mem_nil⟩⟩⟩⟩⟩⟩⟩⟩⟩⟩⟩⟩⟩⟩⟩⟩
    have h5 : ∀ r ∈ [mL_r80, mL_r81, mL_r82, mL_r83, mL_r84, mL_r85, mL_r86, mL_r87], r.all (okE sg yL_law 4 (some .boolean) code) = true := List.forall_mem_cons.mpr ⟨okL_80, List.forall_mem_cons.mpr ⟨okL_81, List.forall_mem_cons.mpr ⟨okL_82, List.forall_mem_cons.mpr ⟨okL_83, List.forall_mem_cons.mpr ⟨okL_84, List.forall_mem_cons.mpr ⟨okL_85, List.forall_mem_cons.mpr ⟨okL_86, List.forall_mem_cons.mpr ⟨okL_87, fun _ h => absurd h List.not_mem_nil⟩⟩⟩⟩⟩⟩⟩⟩
    have hh : r ∈ [mL_r0, mL_r1, mL_r2, mL_r3, mL_r4, mL_r5, mL_r6, mL_r7, mL_r8, mL_r9, mL_r10, mL_r11, mL_r12, mL_r13, mL_r14, mL_r15] ++ ([mL_r16, mL_r17, mL_r18, mL_r19, mL_r20, mL_r21, mL_r22, mL_r23, mL_r24, mL_r25, mL_r26, mL_r27, mL_r28, mL_r29, mL_r30, mL_r31] ++ ([mL_r32, mL_r33, mL_r34, mL_r35, mL_r36, mL_r37, mL_r38, mL_r39, mL_r40, mL_r41, mL_r42, mL_r43, mL_r44, mL_r45, mL_r46, mL_r47] ++ ([mL_r48, mL_r49, mL_r50, mL_r51, mL_r52, mL_r53, mL_r54, mL_r55, mL_r56, mL_r57, mL_r58, mL_r59, mL_r60, mL_r61, mL_r62, mL_r63] ++ ([mL_r64, mL_r65, mL_r66, mL_r67, mL_r68, mL_r69, mL_r70, mL_r71, mL_r72, mL_r73, mL_r74, mL_r75, mL_r76, mL_r77, mL_r78, mL_r79] ++ ([mL_r80, mL_r81, mL_r82, mL_r83, mL_r84, mL_r85, mL_r86, mL_r87]))))) := hr
    rcases List.mem_append.mp hh with q | hh
    · exact h0 r q
    rcases List.mem_append.mp hh with q | hh
    · exact h1 r q
    rcases List.mem_append.mp hh with q | hh
    · exact h2 r q
    rcases List.mem_append.mp hh with q | hh
    · exact h3 r q
    rcases List.mem_append.mp hh with q | hh
    · exact h4 r q
    exact h5 r hh
  simp only [okM, Bool.and_eq_true]
  exact ⟨List.all_eq_true.mpr h, rfl⟩
