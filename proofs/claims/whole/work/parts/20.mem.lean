/-! THE MEMORY OF THE TWO OBJECTS: the cells that both constructors make (0 to 82 the class's, 83 to 117 the reference's), their ints, longs and the references that change. -/
def SH : List (Nat × Nat) := [(10, 9), (6, 11), (20, 10), (20, 5), (20, 5), (20, 25), (20, 5), (7, 2), (20, 220), (2, 3), (4, 4), (20, 16), (20, 40), (24, 8), (8, 7), (20, 200), (20, 14), (20, 14), (20, 14), (20, 14), (8, 7), (20, 200), (20, 14), (20, 14), (20, 14), (20, 14), (8, 7), (20, 200), (20, 14), (20, 14), (20, 14), (20, 14), (8, 7), (20, 200), (20, 14), (20, 14), (20, 14), (20, 14), (8, 7), (20, 200), (20, 14), (20, 14), (20, 14), (20, 14), (8, 7), (20, 200), (20, 14), (20, 14), (20, 14), (20, 14), (8, 7), (20, 200), (20, 14), (20, 14), (20, 14), (20, 14), (8, 7), (20, 200), (20, 14), (20, 14), (20, 14), (20, 14), (3, 8), (8, 7), (20, 200), (20, 14), (20, 14), (20, 14), (20, 14), (0, 10), (20, 2048), (21, 7100), (21, 48), (9, 4), (21, 3), (21, 12), (1, 6), (20, 6), (20, 6), (20, 5), (20, 5), (5, 3), (21, 1024), (11, 54), (20, 3), (20, 10), (20, 5), (20, 5), (20, 25), (20, 5), (22, 220), (20, 220), (20, 220), (20, 14), (20, 14), (20, 14), (20, 14), (20, 1760), (20, 8), (20, 112), (20, 112), (20, 112), (20, 112), (20, 220), (20, 16), (20, 5), (23, 61440), (21, 61440), (21, 61440), (21, 61440), (21, 61440), (22, 61440), (21, 12), (20, 6), (20, 6), (20, 6), (20, 6), (20, 9216)]
def KD : List (List (Nat × List Nat)) := [[(0, [11, 17, 19, 72, 79, 83, 86, 91, 0]), (0, [0, 0, 0, 0, 0, 0, 12, 13, 14, 15, 16]), (0, []), (0, []), (0, []), (0, []), (0, []), (0, [0, 18]), (0, []), (0, [11, 20, 23]), (0, [21, 22, 0, 0]), (0, []), (0, []), (2, []), (0, [0, 0, 25, 26, 27, 28, 29]), (0, [])],
  [(0, []), (0, []), (0, []), (0, []), (0, [0, 0, 31, 32, 33, 34, 35]), (0, []), (0, []), (0, []), (0, []), (0, []), (0, [0, 0, 37, 38, 39, 40, 41]), (0, []), (0, []), (0, []), (0, []), (0, [])],
  [(0, [0, 0, 43, 44, 45, 46, 47]), (0, []), (0, []), (0, []), (0, []), (0, []), (0, [0, 0, 49, 50, 51, 52, 53]), (0, []), (0, []), (0, []), (0, []), (0, []), (0, [0, 0, 55, 56, 57, 58, 59]), (0, []), (0, []), (0, [])],
  [(0, []), (0, []), (0, [0, 0, 61, 62, 63, 64, 65]), (0, []), (0, []), (0, []), (0, []), (0, []), (0, [0, 0, 67, 68, 69, 70, 71]), (0, []), (0, []), (0, []), (0, []), (0, []), (0, [2, 18, 2, 0, 0, 0, 0, 0]), (0, [0, 0, 74, 75, 76, 77, 78])],
  [(0, []), (0, []), (0, []), (0, []), (0, []), (0, [11, 19, 80, 81, 82, 0, 0, 0, 0, 0]), (0, []), (1, []), (1, []), (0, [11, 19, 84, 85]), (1, []), (1, []), (0, [0, 11, 87, 88, 89, 90]), (0, []), (0, []), (0, [])],
  [(0, []), (0, [11, 92, 0]), (1, []), (0, [0, 0, 0, 0, 94, 95, 96, 97, 98, 99, 100, 0, 0, 0, 0, 0, 0, 0, 0, 0, 101, 102, 103, 104, 105, 106, 107, 108, 109, 110, 111, 112, 113, 114, 0, 0, 0, 115, 116, 117, 118, 119, 120, 121, 1, 1, 1, 122, 0, 123, 124, 125, 126, 127]), (0, []), (0, []), (0, []), (0, []), (0, []), (0, []), (0, []), (0, []), (0, []), (0, []), (0, []), (0, [])],
  [(0, []), (0, []), (0, []), (0, []), (0, []), (0, []), (0, []), (0, []), (0, []), (0, []), (0, []), (1, []), (1, []), (1, []), (1, []), (0, [])],
  [(1, []), (0, []), (0, []), (0, []), (0, []), (0, [])]]
def kd2 (o b : Nat) : Nat := match nth (nth KD (o / 16) []) (o % 16) (0, []) with
  | (c, []) => c
  | (_, x :: l) => nth (x :: l) b 0
def mkV (c : Nat) (i : Int32) (j : Int64) (t : Nat) : Value := match c with
  | 0 => .int i
  | 1 => .long j
  | 2 => .ref t
  | c + 3 => .ref (c - 7)
/-- the memory of ints I, longs J and references T -/
def mkM (I : Nat → Nat → Int32) (J : Nat → Nat → Int64) (T : Nat → Nat → Nat) : Nat → Nat → Value := fun o b => mkV (kd2 o b) (I o b) (J o b) (T o b)
def si (I : Nat → Nat → Int32) (o b : Nat) (x : Int32) : Nat → Nat → Int32 := fun o' b' => if o' = o ∧ b' = b then x else I o' b'
def sj (J : Nat → Nat → Int64) (o b : Nat) (x : Int64) : Nat → Nat → Int64 := fun o' b' => if o' = o ∧ b' = b then x else J o' b'
def stt (T : Nat → Nat → Nat) (o b : Nat) (x : Nat) : Nat → Nat → Nat := fun o' b' => if o' = o ∧ b' = b then x else T o' b'
theorem mk_si {I : Nat → Nat → Int32} {J : Nat → Nat → Int64} {T : Nat → Nat → Nat} {o b : Nat} {x : Int32} (h : kd2 o b = 0) : up (mkM I J T) o b (.int x) = mkM (si I o b x) J T := by
  funext o' b'
  unfold up mkM si
  by_cases hc : o' = o ∧ b' = b
  · rw [if_pos hc, if_pos hc, hc.1, hc.2, h]; rfl
  · rw [if_neg hc, if_neg hc]
theorem mk_sj {I : Nat → Nat → Int32} {J : Nat → Nat → Int64} {T : Nat → Nat → Nat} {o b : Nat} {x : Int64} (h : kd2 o b = 1) : up (mkM I J T) o b (.long x) = mkM I (sj J o b x) T := by
  funext o' b'
  unfold up mkM sj
  by_cases hc : o' = o ∧ b' = b
  · rw [if_pos hc, if_pos hc, hc.1, hc.2, h]; rfl
  · rw [if_neg hc, if_neg hc]
theorem mk_st {I : Nat → Nat → Int32} {J : Nat → Nat → Int64} {T : Nat → Nat → Nat} {o b x : Nat} (h : kd2 o b = 2) : up (mkM I J T) o b (.ref x) = mkM I J (stt T o b x) := by
  funext o' b'
  unfold up mkM stt
  by_cases hc : o' = o ∧ b' = b
  · rw [if_pos hc, if_pos hc, hc.1, hc.2, h]; rfl
  · rw [if_neg hc, if_neg hc]
section GOM
variable {sc : Scr} {E : Cal} {f : Mth} {Q : Option Value → Mem → Prop} {pc kc ks : Nat} {L : Lo} {st : List Value} {I : Nat → Nat → Int32} {J : Nat → Nat → Int64} {T : Nat → Nat → Nat} {o b : Nat}
theorem go_si {x : Int32} (h : kd2 o b = 0) (g : Go sc aM E f Q (pc, L, st, (SH, mkM (si I o b x) J T), kc, ks)) : Go sc aM E f Q (pc, L, st, (SH, up (mkM I J T) o b (.int x)), kc, ks) := by rw [mk_si h]; exact g
theorem go_sj {x : Int64} (h : kd2 o b = 1) (g : Go sc aM E f Q (pc, L, st, (SH, mkM I (sj J o b x) T), kc, ks)) : Go sc aM E f Q (pc, L, st, (SH, up (mkM I J T) o b (.long x)), kc, ks) := by rw [mk_sj h]; exact g
theorem go_st {x : Nat} (h : kd2 o b = 2) (g : Go sc aM E f Q (pc, L, st, (SH, mkM I J (stt T o b x)), kc, ks)) : Go sc aM E f Q (pc, L, st, (SH, up (mkM I J T) o b (.ref x)), kc, ks) := by rw [mk_st h]; exact g
end GOM
theorem Ev.intro {d g : Nat} {as : List Value} {m : Mem} {Q : Option Value → Mem → Prop} (f : Mth) (hf : mt g = f) (hl : Nat.ble (entA as).length f.2.2.1 = true) (h : Go none aM (Ev mt aM d) f Q (0, entP f.2.2.1 (entA as), [], m, 0, 0)) : Ev mt aM (d + 1) g as m Q := by
  subst hf
  exact ⟨Nat.le_of_ble_eq_true hl, h⟩
