set_option maxRecDepth 20000 in
theorem tlt_0 {d : Nat} {s : Int32} {t : Nat} {I : Nat → Nat → Int32} {J : Nat → Nat → Int64} {T : Nat → Nat → Nat} {Q : Option Value → Mem → Prop} (hyp : (vp_in s 8 ∧ Go none aM (Ev mt aM (d + 1)) mX2_tell Q (18, [none, none, none, some (.ref (T 13 s.toNatClampNeg))], [.ref t, .int s, .ref 13], (SH, mkM I J T), 0, 0))) : Go none aM (Ev mt aM (d + 1)) mX2_tell Q (0, [some (.ref 9), some (.int s), some (.ref t), none], [], (SH, mkM I J T), 0, 0) := by
  refine Go.of_run (Ev.mono _) 3 _ ?_
  refine ⟨Nat.le_of_ble_eq_true rfl, ev_X2_textAt hyp.1 ?_⟩
  show Go none aM (Ev mt aM (d + 1)) mX2_tell Q (5, [some (.ref 9), some (.int s), some (.ref t), none], [.ref (T 13 s.toNatClampNeg)], (SH, mkM I J T), 0, 0)
  refine Go.of_run (Ev.mono _) 3 _ ?_
  show Go none aM (Ev mt aM (d + 1)) mX2_tell Q (12, [some (.ref 9), some (.int s), some (.ref t), some (.ref (T 13 s.toNatClampNeg))], [], (SH, mkM I J T), 0, 0)
  refine Go.of_run (Ev.mono _) 4 _ ?_
  exact Go.weak (Ev.mono _) (LLe.drop (LLe.drop (LLe.drop (LLe.cons LLe.nil)))) hyp.2
set_option maxRecDepth 20000 in
theorem tlt_19 {d : Nat} {v : Nat} {I : Nat → Nat → Int32} {J : Nat → Nat → Int64} {T : Nat → Nat → Nat} {Q : Option Value → Mem → Prop} (hyp : Q (some (.ref v)) (SH, mkM I J T)) : Go none aM (Ev mt aM (d + 1)) mX2_tell Q (19, [none, none, none, some (.ref v)], [], (SH, mkM I J T), 0, 0) := by
  refine Go.of_run (Ev.mono _) 2 _ ?_
  refine ⟨trivial, ?_⟩
  show Q (some (.ref v)) (SH, mkM I J T)
  exact hyp
set_option maxRecDepth 20000 in
theorem rdt_0 {d : Nat} {s n : Int32} {h : Nat} {I : Nat → Nat → Int32} {J : Nat → Nat → Int64} {T : Nat → Nat → Nat} {Q : Option Value → Mem → Prop} (hyp : ((n < (1 : Int32) → Q (some (.int (-1 : Int32))) (SH, mkM I J T)) ∧ ((¬ (n < (1 : Int32))) → (((200 : Int32) < n → Q (some (.int (-1 : Int32))) (SH, mkM I J T)) ∧ ((¬ ((200 : Int32) < n)) → ((n ≤ I 7 0 → Ev mt aM (d + 44) 33 [.ref 62, .int n, .ref h] (SH, mkM I J T) (fun r m1 => Go none aM (Ev mt aM (d + 44)) mX11_readText Q (34, [some (.ref 0), some (.int s), some (.int n), some (.ref h), none], r.toList ++ [], m1, 0, 0))) ∧ ((¬ (n ≤ I 7 0)) → Q (some (.int (-1 : Int32))) (SH, mkM I J T)))))))) : Go none aM (Ev mt aM (d + 44)) mX11_readText Q (0, [some (.ref 0), some (.int s), some (.int n), some (.ref h), none], [], (SH, mkM I J T), 0, 0) := by
  refine Go.of_run (Ev.mono _) 3 _ ?_
  show Go none aM (Ev mt aM (d + 44)) mX11_readText Q (if n < (1 : Int32) then 23 else 5, [some (.ref 0), some (.int s), some (.int n), some (.ref h), none], [], (SH, mkM I J T), 0, 0)
  rcases Decidable.em (n < (1 : Int32)) with c1 | c1
  · rw [if_pos c1]
    refine Go.of_run (Ev.mono _) 2 _ ?_
    refine ⟨trivial, ?_⟩
    show Q (some (.int (-1 : Int32))) (SH, mkM I J T)
    exact (hyp.1 c1)
  · rw [if_neg c1]
    refine Go.of_run (Ev.mono _) 3 _ ?_
    show Go none aM (Ev mt aM (d + 44)) mX11_readText Q (if (200 : Int32) < n then 23 else 12, [some (.ref 0), some (.int s), some (.int n), some (.ref h), none], [], (SH, mkM I J T), 0, 0)
    rcases Decidable.em ((200 : Int32) < n) with c2 | c2
    · rw [if_pos c2]
      refine Go.of_run (Ev.mono _) 2 _ ?_
      refine ⟨trivial, ?_⟩
      show Q (some (.int (-1 : Int32))) (SH, mkM I J T)
      exact ((hyp.2 c1).1 c2)
    · rw [if_neg c2]
      refine Go.of_run (Ev.mono _) 5 _ ?_
      show Go none aM (Ev mt aM (d + 44)) mX11_readText Q (if n ≤ I 7 0 then 25 else 23, [some (.ref 0), some (.int s), some (.int n), some (.ref h), none], [], (SH, mkM I J T), 0, 0)
      rcases Decidable.em (n ≤ I 7 0) with c3 | c3
      · rw [if_pos c3]
        refine Go.of_run (Ev.mono _) 5 _ ?_
        refine ⟨Nat.le_of_ble_eq_true rfl, (((hyp.2 c1).2 c2).1 c3)⟩
      · rw [if_neg c3]
        refine Go.of_run (Ev.mono _) 2 _ ?_
        refine ⟨trivial, ?_⟩
        show Q (some (.int (-1 : Int32))) (SH, mkM I J T)
        exact (((hyp.2 c1).2 c2).2 c3)
set_option maxRecDepth 20000 in
theorem rdt_34 {d : Nat} {s n v : Int32} {h : Nat} {I : Nat → Nat → Int32} {J : Nat → Nat → Int64} {T : Nat → Nat → Nat} {Q : Option Value → Mem → Prop} (hyp : ((v ≤ 0 → Q (some (.int v)) (SH, mkM (si I 7 0 (0 : Int32)) J T)) ∧ ((¬ (v ≤ 0)) → Ev mt aM (d + 44) 22 [.ref 9, .int s, .ref (T 62 0)] (SH, mkM (si I 7 0 (0 : Int32)) J T) (fun r m1 => Go none aM (Ev mt aM (d + 44)) mX11_readText Q (68, [some (.ref 0), some (.int s), some (.int n), some (.ref h), some (.int v)], r.toList ++ [.ref 62], m1, 0, 0))))) : Go none aM (Ev mt aM (d + 44)) mX11_readText Q (34, [some (.ref 0), some (.int s), some (.int n), some (.ref h), none], [.int v], (SH, mkM I J T), 0, 0) := by
  refine Go.of_run (Ev.mono _) 5 _ ?_
  refine go_si rfl ?_
  show Go none aM (Ev mt aM (d + 44)) mX11_readText Q (44, [some (.ref 0), some (.int s), some (.int n), some (.ref h), some (.int v)], [], (SH, mkM (si I 7 0 (0 : Int32)) J T), 0, 0)
  refine Go.of_run (Ev.mono _) 2 _ ?_
  show Go none aM (Ev mt aM (d + 44)) mX11_readText Q (if v ≤ 0 then 90 else 49, [some (.ref 0), some (.int s), some (.int n), some (.ref h), some (.int v)], [], (SH, mkM (si I 7 0 (0 : Int32)) J T), 0, 0)
  rcases Decidable.em (v ≤ 0) with c1 | c1
  · rw [if_pos c1]
    refine Go.of_run (Ev.mono _) 2 _ ?_
    refine ⟨trivial, ?_⟩
    show Q (some (.int v)) (SH, mkM (si I 7 0 (0 : Int32)) J T)
    exact (hyp.1 c1)
  · rw [if_neg c1]
    refine Go.of_run (Ev.mono _) 9 _ ?_
    refine ⟨Nat.le_of_ble_eq_true rfl, (hyp.2 c1)⟩
set_option maxRecDepth 20000 in
theorem rdt_68 {d : Nat} {s n a : Int32} {h w : Nat} {I : Nat → Nat → Int32} {J : Nat → Nat → Int64} {T : Nat → Nat → Nat} {Q : Option Value → Mem → Prop} (hyp : Ev mt aM (d + 44) 116 [.ref 73] (SH, mkM I J (stt T 62 0 w)) (fun r m1 => Go none aM (Ev mt aM (d + 44)) mX11_readText Q (78, [some (.ref 0), some (.int s), some (.int n), some (.ref h), some (.int a)], r.toList ++ [], m1, 0, 0))) : Go none aM (Ev mt aM (d + 44)) mX11_readText Q (68, [some (.ref 0), some (.int s), some (.int n), some (.ref h), some (.int a)], [.ref w, .ref 62], (SH, mkM I J T), 0, 0) := by
  refine Go.of_run (Ev.mono _) 1 _ ?_
  refine go_st rfl ?_
  show Go none aM (Ev mt aM (d + 44)) mX11_readText Q (71, [some (.ref 0), some (.int s), some (.int n), some (.ref h), some (.int a)], [], (SH, mkM I J (stt T 62 0 w)), 0, 0)
  refine Go.of_run (Ev.mono _) 3 _ ?_
  refine ⟨Nat.le_of_ble_eq_true rfl, hyp⟩
set_option maxRecDepth 20000 in
theorem rdt_78 {d : Nat} {s n a : Int32} {h : Nat} {I : Nat → Nat → Int32} {J : Nat → Nat → Int64} {T : Nat → Nat → Nat} {Q : Option Value → Mem → Prop} (hyp : (((4 : Int32) ≤ s → Q (some (.int a)) (SH, mkM I J T)) ∧ ((¬ ((4 : Int32) ≤ s)) → Ev mt aM (d + 44) 1 [.ref 69] (SH, mkM I J T) (fun r m1 => Go none aM (Ev mt aM (d + 44)) mX11_readText Q (90, [some (.ref 0), some (.int s), some (.int n), some (.ref h), some (.int a)], r.toList ++ [], m1, 0, 0))))) : Go none aM (Ev mt aM (d + 44)) mX11_readText Q (78, [some (.ref 0), some (.int s), some (.int n), some (.ref h), some (.int a)], [], (SH, mkM I J T), 0, 0) := by
  refine Go.of_run (Ev.mono _) 3 _ ?_
  show Go none aM (Ev mt aM (d + 44)) mX11_readText Q (if (4 : Int32) ≤ s then 90 else 83, [some (.ref 0), some (.int s), some (.int n), some (.ref h), some (.int a)], [], (SH, mkM I J T), 0, 0)
  rcases Decidable.em ((4 : Int32) ≤ s) with c1 | c1
  · rw [if_pos c1]
    refine Go.of_run (Ev.mono _) 2 _ ?_
    refine ⟨trivial, ?_⟩
    show Q (some (.int a)) (SH, mkM I J T)
    exact (hyp.1 c1)
  · rw [if_neg c1]
    refine Go.of_run (Ev.mono _) 3 _ ?_
    refine ⟨Nat.le_of_ble_eq_true rfl, (hyp.2 c1)⟩
set_option maxRecDepth 20000 in
theorem rdt_90 {d : Nat} {s n a : Int32} {h : Nat} {I : Nat → Nat → Int32} {J : Nat → Nat → Int64} {T : Nat → Nat → Nat} {Q : Option Value → Mem → Prop} (hyp : Q (some (.int a)) (SH, mkM I J T)) : Go none aM (Ev mt aM (d + 44)) mX11_readText Q (90, [some (.ref 0), some (.int s), some (.int n), some (.ref h), some (.int a)], [], (SH, mkM I J T), 0, 0) := by
  refine Go.of_run (Ev.mono _) 2 _ ?_
  refine ⟨trivial, ?_⟩
  show Q (some (.int a)) (SH, mkM I J T)
  exact hyp
set_option maxRecDepth 20000 in
theorem claw_0 {d : Nat} {n : Int32} {I : Nat → Nat → Int32} {J : Nat → Nat → Int64} {T : Nat → Nat → Nat} {Q : Option Value → Mem → Prop} (hyp : Ev mt aM (d + 45) 165 [.ref 0, .int (0 : Int32), .int n, .ref 1001] (SH, mkM I J T) (fun r m1 => Go none aM (Ev mt aM (d + 45)) mX11_law Q (8, [some (.ref 0), some (.int n)], r.toList ++ [], m1, 0, 0))) : Go none aM (Ev mt aM (d + 45)) mX11_law Q (0, [some (.ref 0), some (.int n)], [], (SH, mkM I J T), 0, 0) := by
  refine Go.of_run (Ev.mono _) 5 _ ?_
  refine ⟨Nat.le_of_ble_eq_true rfl, hyp⟩
set_option maxRecDepth 20000 in
theorem claw_8 {d : Nat} {n v : Int32} {I : Nat → Nat → Int32} {J : Nat → Nat → Int64} {T : Nat → Nat → Nat} {Q : Option Value → Mem → Prop} (hyp : Q (some (.int v)) (SH, mkM I J T)) : Go none aM (Ev mt aM (d + 45)) mX11_law Q (8, [some (.ref 0), some (.int n)], [.int v], (SH, mkM I J T), 0, 0) := by
  refine Go.of_run (Ev.mono _) 1 _ ?_
  refine ⟨trivial, ?_⟩
  show Q (some (.int v)) (SH, mkM I J T)
  exact hyp
set_option maxRecDepth 20000 in
theorem cother_0 {d : Nat} {k n : Int32} {I : Nat → Nat → Int32} {J : Nat → Nat → Int64} {T : Nat → Nat → Nat} {Q : Option Value → Mem → Prop} (hyp : ((v_X11_isOther k = 0 → Q (some (.int (-1 : Int32))) (SH, mkM I J T)) ∧ ((¬ (v_X11_isOther k = 0)) → Ev mt aM (d + 45) 165 [.ref 0, .int ((1 : Int32) + k), .int n, .ref 1007] (SH, mkM I J T) (fun r m1 => Go none aM (Ev mt aM (d + 45)) mX11_other Q (17, [some (.ref 0), some (.int k), some (.int n)], r.toList ++ [], m1, 0, 0))))) : Go none aM (Ev mt aM (d + 45)) mX11_other Q (0, [some (.ref 0), some (.int k), some (.int n)], [], (SH, mkM I J T), 0, 0) := by
  refine Go.of_run (Ev.mono _) 2 _ ?_
  refine ⟨Nat.le_of_ble_eq_true rfl, ev_X11_isOther ?_⟩
  show Go none aM (Ev mt aM (d + 45)) mX11_other Q (4, [some (.ref 0), some (.int k), some (.int n)], [.int (v_X11_isOther k)], (SH, mkM I J T), 0, 0)
  refine Go.of_run (Ev.mono _) 1 _ ?_
  show Go none aM (Ev mt aM (d + 45)) mX11_other Q (if v_X11_isOther k = 0 then 20 else 7, [some (.ref 0), some (.int k), some (.int n)], [], (SH, mkM I J T), 0, 0)
  rcases Decidable.em (v_X11_isOther k = 0) with c1 | c1
  · rw [if_pos c1]
    refine Go.of_run (Ev.mono _) 2 _ ?_
    refine ⟨trivial, ?_⟩
    show Q (some (.int (-1 : Int32))) (SH, mkM I J T)
    exact (hyp.1 c1)
  · rw [if_neg c1]
    refine Go.of_run (Ev.mono _) 7 _ ?_
    refine ⟨Nat.le_of_ble_eq_true rfl, (hyp.2 c1)⟩
set_option maxRecDepth 20000 in
theorem cother_17 {d : Nat} {k n v : Int32} {I : Nat → Nat → Int32} {J : Nat → Nat → Int64} {T : Nat → Nat → Nat} {Q : Option Value → Mem → Prop} (hyp : Q (some (.int v)) (SH, mkM I J T)) : Go none aM (Ev mt aM (d + 45)) mX11_other Q (17, [some (.ref 0), some (.int k), some (.int n)], [.int v], (SH, mkM I J T), 0, 0) := by
  refine Go.of_run (Ev.mono _) 2 _ ?_
  refine ⟨trivial, ?_⟩
  show Q (some (.int v)) (SH, mkM I J T)
  exact hyp
set_option maxRecDepth 20000 in
theorem crule_0 {d : Nat} {k n : Int32} {I : Nat → Nat → Int32} {J : Nat → Nat → Int64} {T : Nat → Nat → Nat} {Q : Option Value → Mem → Prop} (hyp : ((v_X11_isRule k = 0 → Q (some (.int (-1 : Int32))) (SH, mkM I J T)) ∧ ((¬ (v_X11_isRule k = 0)) → Ev mt aM (d + 45) 165 [.ref 0, .int ((4 : Int32) + k), .int n, .ref 1008] (SH, mkM I J T) (fun r m1 => Go none aM (Ev mt aM (d + 45)) mX11_rule Q (17, [some (.ref 0), some (.int k), some (.int n)], r.toList ++ [], m1, 0, 0))))) : Go none aM (Ev mt aM (d + 45)) mX11_rule Q (0, [some (.ref 0), some (.int k), some (.int n)], [], (SH, mkM I J T), 0, 0) := by
  refine Go.of_run (Ev.mono _) 2 _ ?_
  refine ⟨Nat.le_of_ble_eq_true rfl, ev_X11_isRule ?_⟩
  show Go none aM (Ev mt aM (d + 45)) mX11_rule Q (4, [some (.ref 0), some (.int k), some (.int n)], [.int (v_X11_isRule k)], (SH, mkM I J T), 0, 0)
  refine Go.of_run (Ev.mono _) 1 _ ?_
  show Go none aM (Ev mt aM (d + 45)) mX11_rule Q (if v_X11_isRule k = 0 then 20 else 7, [some (.ref 0), some (.int k), some (.int n)], [], (SH, mkM I J T), 0, 0)
  rcases Decidable.em (v_X11_isRule k = 0) with c1 | c1
  · rw [if_pos c1]
    refine Go.of_run (Ev.mono _) 2 _ ?_
    refine ⟨trivial, ?_⟩
    show Q (some (.int (-1 : Int32))) (SH, mkM I J T)
    exact (hyp.1 c1)
  · rw [if_neg c1]
    refine Go.of_run (Ev.mono _) 7 _ ?_
    refine ⟨Nat.le_of_ble_eq_true rfl, (hyp.2 c1)⟩
set_option maxRecDepth 20000 in
theorem crule_17 {d : Nat} {k n v : Int32} {I : Nat → Nat → Int32} {J : Nat → Nat → Int64} {T : Nat → Nat → Nat} {Q : Option Value → Mem → Prop} (hyp : Q (some (.int v)) (SH, mkM I J T)) : Go none aM (Ev mt aM (d + 45)) mX11_rule Q (17, [some (.ref 0), some (.int k), some (.int n)], [.int v], (SH, mkM I J T), 0, 0) := by
  refine Go.of_run (Ev.mono _) 2 _ ?_
  refine ⟨trivial, ?_⟩
  show Q (some (.int v)) (SH, mkM I J T)
  exact hyp
set_option maxRecDepth 20000 in
theorem mlaw_7 {d : Nat} {n v : Int32} {I : Nat → Nat → Int32} {J : Nat → Nat → Int64} {T : Nat → Nat → Nat} {Q : Option Value → Mem → Prop} (hyp : Q (some (.int v)) (SH, mkM I J T)) : Go none aM (Ev mt aM (d + 9)) mX12_law Q (7, [some (.ref 83), some (.int n)], [.int v], (SH, mkM I J T), 0, 0) := by
  refine Go.of_run (Ev.mono _) 1 _ ?_
  refine ⟨trivial, ?_⟩
  show Q (some (.int v)) (SH, mkM I J T)
  exact hyp
set_option maxRecDepth 20000 in
theorem mother_15 {d : Nat} {k n v : Int32} {I : Nat → Nat → Int32} {J : Nat → Nat → Int64} {T : Nat → Nat → Nat} {Q : Option Value → Mem → Prop} (hyp : Q (some (.int v)) (SH, mkM I J T)) : Go none aM (Ev mt aM (d + 9)) mX12_other Q (15, [some (.ref 83), some (.int k), some (.int n)], [.int v], (SH, mkM I J T), 0, 0) := by
  refine Go.of_run (Ev.mono _) 2 _ ?_
  refine ⟨trivial, ?_⟩
  show Q (some (.int v)) (SH, mkM I J T)
  exact hyp
set_option maxRecDepth 20000 in
theorem mrule_17 {d : Nat} {k n v : Int32} {I : Nat → Nat → Int32} {J : Nat → Nat → Int64} {T : Nat → Nat → Nat} {Q : Option Value → Mem → Prop} (hyp : Q (some (.int v)) (SH, mkM I J T)) : Go none aM (Ev mt aM (d + 9)) mX12_rule Q (17, [some (.ref 83), some (.int k), some (.int n)], [.int v], (SH, mkM I J T), 0, 0) := by
  refine Go.of_run (Ev.mono _) 2 _ ?_
  refine ⟨trivial, ?_⟩
  show Q (some (.int v)) (SH, mkM I J T)
  exact hyp
