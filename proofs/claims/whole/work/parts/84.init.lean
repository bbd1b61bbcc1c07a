/-! THE FIRST STATE: what the constructors leave. -/
def fitB (k : Nat) (v : Value) : Bool := match k, v with
  | _, .null => true
  | 0, .int _ => true
  | 1, .long _ => true
  | 2, .ref _ => true
  | c + 3, .ref r => Nat.beq r (c - 7)
  | _, _ => false
def FIT (M : Nat → Nat → Value) : Prop := ∀ o b, fitB (kd2 o b) (M o b) = true
theorem fit_null (k : Nat) : fitB k .null = true := by
  unfold fitB
  rcases k with _ | _ | _ | k <;> rfl
theorem FIT.upd {M : Nat → Nat → Value} {o b : Nat} {v : Value} (h : FIT M) (hv : fitB (kd2 o b) v = true) : FIT (up M o b v) := fun o' b' => by
  unfold up
  by_cases c : o' = o ∧ b' = b
  · rw [if_pos c, c.1, c.2]; exact hv
  · rw [if_neg c]; exact h o' b'
theorem FIT.zer {M : Nat → Nat → Value} {o : Nat} (h : FIT M) : FIT (zr M o) := fun o' b' => by
  unfold zr
  by_cases c : o' = o
  · rw [if_pos c]; exact fit_null _
  · rw [if_neg c]; exact h o' b'
theorem FIT.fill {M : Nat → Nat → Value} {i : Nat} (h : FIT M) : FIT (fil M i) := fun o' b' => by
  unfold fil
  by_cases c : o' = 70 ∧ b' < i
  · rw [if_pos c, c.1]; rfl
  · rw [if_neg c]; exact h o' b'

theorem fk_X7_init_0 {M : Nat → Nat → Value} (h : FIT M) : FIT (kd_X7_init_0 M) := by
  unfold kd_X7_init_0
  repeat (first | exact h | refine FIT.upd ?_ rfl | refine FIT.zer ?_ | refine FIT.fill ?_)
theorem fk_X8_init_0 {M : Nat → Nat → Value} (h : FIT M) : FIT (kd_X8_init_0 M) := by
  unfold kd_X8_init_0
  repeat (first | exact h | refine fk_X7_init_0 ?_ | refine FIT.upd ?_ rfl | refine FIT.zer ?_ | refine FIT.fill ?_)
theorem fk_X4_init_0 {M : Nat → Nat → Value} (h : FIT M) : FIT (kd_X4_init_0 M) := by
  unfold kd_X4_init_0
  repeat (first | exact h | refine fk_X7_init_0 ?_ | refine fk_X8_init_0 ?_ | refine FIT.upd ?_ rfl | refine FIT.zer ?_ | refine FIT.fill ?_)
theorem fk_X9_init_0 {M : Nat → Nat → Value} (h : FIT M) : FIT (kd_X9_init_0 M) := by
  unfold kd_X9_init_0
  repeat (first | exact h | refine fk_X7_init_0 ?_ | refine fk_X8_init_0 ?_ | refine fk_X4_init_0 ?_ | refine FIT.upd ?_ rfl | refine FIT.zer ?_ | refine FIT.fill ?_)
theorem fk_X9_init_1 {M : Nat → Nat → Value} (h : FIT M) : FIT (kd_X9_init_1 M) := by
  unfold kd_X9_init_1
  repeat (first | exact h | refine fk_X7_init_0 ?_ | refine fk_X8_init_0 ?_ | refine fk_X4_init_0 ?_ | refine fk_X9_init_0 ?_ | refine FIT.upd ?_ rfl | refine FIT.zer ?_ | refine FIT.fill ?_)
theorem fk_X9_init_2 {M : Nat → Nat → Value} (h : FIT M) : FIT (kd_X9_init_2 M) := by
  unfold kd_X9_init_2
  repeat (first | exact h | refine fk_X7_init_0 ?_ | refine fk_X8_init_0 ?_ | refine fk_X4_init_0 ?_ | refine fk_X9_init_0 ?_ | refine fk_X9_init_1 ?_ | refine FIT.upd ?_ rfl | refine FIT.zer ?_ | refine FIT.fill ?_)
theorem fk_X9_init_3 {M : Nat → Nat → Value} (h : FIT M) : FIT (kd_X9_init_3 M) := by
  unfold kd_X9_init_3
  repeat (first | exact h | refine fk_X7_init_0 ?_ | refine fk_X8_init_0 ?_ | refine fk_X4_init_0 ?_ | refine fk_X9_init_0 ?_ | refine fk_X9_init_1 ?_ | refine fk_X9_init_2 ?_ | refine FIT.upd ?_ rfl | refine FIT.zer ?_ | refine FIT.fill ?_)
theorem fk_X9_init_4 {M : Nat → Nat → Value} (h : FIT M) : FIT (kd_X9_init_4 M) := by
  unfold kd_X9_init_4
  repeat (first | exact h | refine fk_X7_init_0 ?_ | refine fk_X8_init_0 ?_ | refine fk_X4_init_0 ?_ | refine fk_X9_init_0 ?_ | refine fk_X9_init_1 ?_ | refine fk_X9_init_2 ?_ | refine fk_X9_init_3 ?_ | refine FIT.upd ?_ rfl | refine FIT.zer ?_ | refine FIT.fill ?_)
theorem fk_X9_init_5 {M : Nat → Nat → Value} (h : FIT M) : FIT (kd_X9_init_5 M) := by
  unfold kd_X9_init_5
  repeat (first | exact h | refine fk_X7_init_0 ?_ | refine fk_X8_init_0 ?_ | refine fk_X4_init_0 ?_ | refine fk_X9_init_0 ?_ | refine fk_X9_init_1 ?_ | refine fk_X9_init_2 ?_ | refine fk_X9_init_3 ?_ | refine fk_X9_init_4 ?_ | refine FIT.upd ?_ rfl | refine FIT.zer ?_ | refine FIT.fill ?_)
theorem fk_X9_init_6 {M : Nat → Nat → Value} (h : FIT M) : FIT (kd_X9_init_6 M) := by
  unfold kd_X9_init_6
  repeat (first | exact h | refine fk_X7_init_0 ?_ | refine fk_X8_init_0 ?_ | refine fk_X4_init_0 ?_ | refine fk_X9_init_0 ?_ | refine fk_X9_init_1 ?_ | refine fk_X9_init_2 ?_ | refine fk_X9_init_3 ?_ | refine fk_X9_init_4 ?_ | refine fk_X9_init_5 ?_ | refine FIT.upd ?_ rfl | refine FIT.zer ?_ | refine FIT.fill ?_)
theorem fk_X9_init_7 {M : Nat → Nat → Value} (h : FIT M) : FIT (kd_X9_init_7 M) := by
  unfold kd_X9_init_7
  repeat (first | exact h | refine fk_X7_init_0 ?_ | refine fk_X8_init_0 ?_ | refine fk_X4_init_0 ?_ | refine fk_X9_init_0 ?_ | refine fk_X9_init_1 ?_ | refine fk_X9_init_2 ?_ | refine fk_X9_init_3 ?_ | refine fk_X9_init_4 ?_ | refine fk_X9_init_5 ?_ | refine fk_X9_init_6 ?_ | refine FIT.upd ?_ rfl | refine FIT.zer ?_ | refine FIT.fill ?_)
theorem fk_X2_init_0 {M : Nat → Nat → Value} (h : FIT M) : FIT (kd_X2_init_0 M) := by
  unfold kd_X2_init_0
  repeat (first | exact h | refine fk_X7_init_0 ?_ | refine fk_X8_init_0 ?_ | refine fk_X4_init_0 ?_ | refine fk_X9_init_0 ?_ | refine fk_X9_init_1 ?_ | refine fk_X9_init_2 ?_ | refine fk_X9_init_3 ?_ | refine fk_X9_init_4 ?_ | refine fk_X9_init_5 ?_ | refine fk_X9_init_6 ?_ | refine fk_X9_init_7 ?_ | refine FIT.upd ?_ rfl | refine FIT.zer ?_ | refine FIT.fill ?_)
theorem fk_X9_init_8 {M : Nat → Nat → Value} (h : FIT M) : FIT (kd_X9_init_8 M) := by
  unfold kd_X9_init_8
  repeat (first | exact h | refine fk_X7_init_0 ?_ | refine fk_X8_init_0 ?_ | refine fk_X4_init_0 ?_ | refine fk_X9_init_0 ?_ | refine fk_X9_init_1 ?_ | refine fk_X9_init_2 ?_ | refine fk_X9_init_3 ?_ | refine fk_X9_init_4 ?_ | refine fk_X9_init_5 ?_ | refine fk_X9_init_6 ?_ | refine fk_X9_init_7 ?_ | refine fk_X2_init_0 ?_ | refine FIT.upd ?_ rfl | refine FIT.zer ?_ | refine FIT.fill ?_)
theorem fk_X3_init_0 {M : Nat → Nat → Value} (h : FIT M) : FIT (kd_X3_init_0 M) := by
  unfold kd_X3_init_0
  repeat (first | exact h | refine fk_X7_init_0 ?_ | refine fk_X8_init_0 ?_ | refine fk_X4_init_0 ?_ | refine fk_X9_init_0 ?_ | refine fk_X9_init_1 ?_ | refine fk_X9_init_2 ?_ | refine fk_X9_init_3 ?_ | refine fk_X9_init_4 ?_ | refine fk_X9_init_5 ?_ | refine fk_X9_init_6 ?_ | refine fk_X9_init_7 ?_ | refine fk_X2_init_0 ?_ | refine fk_X9_init_8 ?_ | refine FIT.upd ?_ rfl | refine FIT.zer ?_ | refine FIT.fill ?_)
theorem fk_X0_init_0 {M : Nat → Nat → Value} (h : FIT M) : FIT (kd_X0_init_0 M) := by
  unfold kd_X0_init_0
  repeat (first | exact h | refine fk_X7_init_0 ?_ | refine fk_X8_init_0 ?_ | refine fk_X4_init_0 ?_ | refine fk_X9_init_0 ?_ | refine fk_X9_init_1 ?_ | refine fk_X9_init_2 ?_ | refine fk_X9_init_3 ?_ | refine fk_X9_init_4 ?_ | refine fk_X9_init_5 ?_ | refine fk_X9_init_6 ?_ | refine fk_X9_init_7 ?_ | refine fk_X2_init_0 ?_ | refine fk_X9_init_8 ?_ | refine fk_X3_init_0 ?_ | refine FIT.upd ?_ rfl | refine FIT.zer ?_ | refine FIT.fill ?_)
theorem fk_X10_init_0 {M : Nat → Nat → Value} (h : FIT M) : FIT (kd_X10_init_0 M) := by
  unfold kd_X10_init_0
  repeat (first | exact h | refine fk_X7_init_0 ?_ | refine fk_X8_init_0 ?_ | refine fk_X4_init_0 ?_ | refine fk_X9_init_0 ?_ | refine fk_X9_init_1 ?_ | refine fk_X9_init_2 ?_ | refine fk_X9_init_3 ?_ | refine fk_X9_init_4 ?_ | refine fk_X9_init_5 ?_ | refine fk_X9_init_6 ?_ | refine fk_X9_init_7 ?_ | refine fk_X2_init_0 ?_ | refine fk_X9_init_8 ?_ | refine fk_X3_init_0 ?_ | refine fk_X0_init_0 ?_ | refine FIT.upd ?_ rfl | refine FIT.zer ?_ | refine FIT.fill ?_)
theorem fk_X1_init_0 {M : Nat → Nat → Value} (h : FIT M) : FIT (kd_X1_init_0 M) := by
  unfold kd_X1_init_0
  repeat (first | exact h | refine fk_X7_init_0 ?_ | refine fk_X8_init_0 ?_ | refine fk_X4_init_0 ?_ | refine fk_X9_init_0 ?_ | refine fk_X9_init_1 ?_ | refine fk_X9_init_2 ?_ | refine fk_X9_init_3 ?_ | refine fk_X9_init_4 ?_ | refine fk_X9_init_5 ?_ | refine fk_X9_init_6 ?_ | refine fk_X9_init_7 ?_ | refine fk_X2_init_0 ?_ | refine fk_X9_init_8 ?_ | refine fk_X3_init_0 ?_ | refine fk_X0_init_0 ?_ | refine fk_X10_init_0 ?_ | refine FIT.upd ?_ rfl | refine FIT.zer ?_ | refine FIT.fill ?_)
theorem fk_X6_init_0 {M : Nat → Nat → Value} (h : FIT M) : FIT (kd_X6_init_0 M) := by
  unfold kd_X6_init_0
  repeat (first | exact h | refine fk_X7_init_0 ?_ | refine fk_X8_init_0 ?_ | refine fk_X4_init_0 ?_ | refine fk_X9_init_0 ?_ | refine fk_X9_init_1 ?_ | refine fk_X9_init_2 ?_ | refine fk_X9_init_3 ?_ | refine fk_X9_init_4 ?_ | refine fk_X9_init_5 ?_ | refine fk_X9_init_6 ?_ | refine fk_X9_init_7 ?_ | refine fk_X2_init_0 ?_ | refine fk_X9_init_8 ?_ | refine fk_X3_init_0 ?_ | refine fk_X0_init_0 ?_ | refine fk_X10_init_0 ?_ | refine fk_X1_init_0 ?_ | refine FIT.upd ?_ rfl | refine FIT.zer ?_ | refine FIT.fill ?_)
theorem fk_X11_init_0 {M : Nat → Nat → Value} (h : FIT M) : FIT (kd_X11_init_0 M) := by
  unfold kd_X11_init_0
  repeat (first | exact h | refine fk_X7_init_0 ?_ | refine fk_X8_init_0 ?_ | refine fk_X4_init_0 ?_ | refine fk_X9_init_0 ?_ | refine fk_X9_init_1 ?_ | refine fk_X9_init_2 ?_ | refine fk_X9_init_3 ?_ | refine fk_X9_init_4 ?_ | refine fk_X9_init_5 ?_ | refine fk_X9_init_6 ?_ | refine fk_X9_init_7 ?_ | refine fk_X2_init_0 ?_ | refine fk_X9_init_8 ?_ | refine fk_X3_init_0 ?_ | refine fk_X0_init_0 ?_ | refine fk_X10_init_0 ?_ | refine fk_X1_init_0 ?_ | refine fk_X6_init_0 ?_ | refine FIT.upd ?_ rfl | refine FIT.zer ?_ | refine FIT.fill ?_)
theorem fk_X12_init_0 {M : Nat → Nat → Value} (h : FIT M) : FIT (kd_X12_init_0 M) := by
  unfold kd_X12_init_0
  repeat (first | exact h | refine fk_X7_init_0 ?_ | refine fk_X8_init_0 ?_ | refine fk_X4_init_0 ?_ | refine fk_X9_init_0 ?_ | refine fk_X9_init_1 ?_ | refine fk_X9_init_2 ?_ | refine fk_X9_init_3 ?_ | refine fk_X9_init_4 ?_ | refine fk_X9_init_5 ?_ | refine fk_X9_init_6 ?_ | refine fk_X9_init_7 ?_ | refine fk_X2_init_0 ?_ | refine fk_X9_init_8 ?_ | refine fk_X3_init_0 ?_ | refine fk_X0_init_0 ?_ | refine fk_X10_init_0 ?_ | refine fk_X1_init_0 ?_ | refine fk_X6_init_0 ?_ | refine fk_X11_init_0 ?_ | refine FIT.upd ?_ rfl | refine FIT.zer ?_ | refine FIT.fill ?_)
def nulM : Nat → Nat → Value := fun _ _ => .null
def M0 : Nat → Nat → Value := kd_X12_init_0 (zr (kd_X11_init_0 (zr nulM 0)) 83)
theorem M0_fit : FIT M0 := fk_X12_init_0 (FIT.zer (fk_X11_init_0 (FIT.zer (fun _ _ => fit_null _))))
def isR (v : Value) : Bool := match v with
  | .ref _ => true
  | _ => false
theorem M0_cov : allB (fun o => allB (fun b => Nat.blt (kd2 o b) 2 || (Nat.beq o 13 && Nat.ble 8 b) || isR (M0 o b)) 54) 128 = true := by decide +kernel
def rwB (o : Nat) (p : Nat × List Nat) : Bool := Nat.beq o 13 || (match p with
  | (c, []) => Nat.blt c 2
  | (_, l) => Nat.ble l.length 54)
theorem rwB_all : allB (fun o => rwB o (nth (nth KD (o / 16) []) (o % 16) (0, []))) 128 = true := by decide +kernel
theorem nth_ge {α : Type} (d : α) : ∀ (l : List α) (k : Nat), l.length ≤ k → nth l k d = d := by
  intro l
  induction l with
  | nil => intro k _; cases k <;> rfl
  | cons x l ih =>
    intro k h
    cases k with
    | zero => exact absurd h (Nat.not_succ_le_zero _)
    | succ k => exact ih k (Nat.le_of_succ_le_succ h)
theorem kd2_out {o b : Nat} (ho : o ≠ 13) (h : 128 ≤ o ∨ 54 ≤ b) : kd2 o b < 2 := by
  unfold kd2
  rcases Nat.lt_or_ge o 128 with q | q
  · have hb : 54 ≤ b := by omega
    have hr := allB_get rwB_all o q
    generalize nth (nth KD (o / 16) []) (o % 16) (0, []) = p at *
    obtain ⟨c, l⟩ := p
    unfold rwB at hr
    rw [Bool.or_eq_true] at hr
    rcases hr with z | z
    · exact absurd (Nat.eq_of_beq_eq_true z) ho
    cases l with
    | nil =>
      show c < 2
      have z : Nat.blt c 2 = true := z
      rw [Nat.blt_eq] at z
      exact z
    | cons x l =>
      show nth (x :: l) b 0 < 2
      have z : Nat.ble (x :: l).length 54 = true := z
      rw [nth_ge 0 _ _ (Nat.le_trans (Nat.le_of_ble_eq_true z) hb)]
      omega
  · rw [nth_ge [] KD (o / 16) (show 8 ≤ o / 16 by omega)]
    cases o % 16 <;> exact (by decide : 0 < 2)
def I0 (o b : Nat) : Int32 := iv (M0 o b)
def J0 (o b : Nat) : Int64 := jv (M0 o b)
def T0 (o b : Nat) : Nat := (rv (M0 o b)).getD 0
theorem fit_eq {k : Nat} {v : Value} (hf : fitB k v = true) (hc : 2 ≤ k → isR v = true) : iv (mkV k (iv v) (jv v) ((rv v).getD 0)) = iv v ∧ jv (mkV k (iv v) (jv v) ((rv v).getD 0)) = jv v ∧ rv (mkV k (iv v) (jv v) ((rv v).getD 0)) = rv v := by
  rcases k with _ | _ | _ | k
  · cases v with
    | int x => exact ⟨rfl, rfl, rfl⟩
    | null => exact ⟨rfl, rfl, rfl⟩
    | _ => exact absurd (show false = true from hf) (by decide)
  · cases v with
    | long x => exact ⟨rfl, rfl, rfl⟩
    | null => exact ⟨rfl, rfl, rfl⟩
    | _ => exact absurd (show false = true from hf) (by decide)
  · have hc := hc (by omega)
    cases v with
    | ref x => exact ⟨rfl, rfl, rfl⟩
    | _ => exact absurd (show false = true from hc) (by decide)
  · have hc := hc (by omega)
    cases v with
    | ref x =>
      have := Nat.eq_of_beq_eq_true (show Nat.beq x (k - 7) = true from hf)
      subst this
      exact ⟨rfl, rfl, rfl⟩
    | _ => exact absurd (show false = true from hc) (by decide)
theorem M0_wq : WQ SH (mkM I0 J0 T0) M0 := by
  refine ⟨rfl, fun o b hb => fit_eq (M0_fit o b) (fun hk => ?_)⟩
  by_cases ho : o = 13
  · subst ho
    have hb := hb rfl
    have := allB_get (allB_get M0_cov 13 (by omega)) b (by omega)
    rw [Bool.or_eq_true, Bool.or_eq_true, Bool.and_eq_true] at this
    rcases this with (z | z) | z
    · rw [Nat.blt_eq] at z; omega
    · have := Nat.le_of_ble_eq_true z.2; omega
    · exact z
  by_cases h : 128 ≤ o ∨ 54 ≤ b
  · have := kd2_out ho h; omega
  · have := allB_get (allB_get M0_cov o (by omega)) b (by omega)
    rw [Bool.or_eq_true, Bool.or_eq_true, Bool.and_eq_true] at this
    rcases this with (z | z) | z
    · rw [Nat.blt_eq] at z; omega
    · exact absurd (Nat.eq_of_beq_eq_true z.1) ho
    · exact z
def W0 : Nat → Nat := fun j => if j = 0 then 3 else if j = 1 then 1 else 0
def P0 : Prg := (0, fun _ => 0, fun _ => 0, fun _ => 0, fun _ => 0, fun _ => 0)
def A0 : Tm := ((4, 3, 2), W0, fun _ => 0, fun _ => 0, fun _ => 0, fun _ => 0, fun _ => P0)
def S0 : St := (A0, 1, (0, fun _ => 1536, fun _ => 2, fun _ => 0, fun _ => 0), (0, fun _ => 0), fun _ => 3)
theorem W0_le (j : Nat) : W0 j ≤ 1000 := by
  unfold W0
  repeat' split
  all_goals omega
theorem BD0 : BD A0 := ⟨⟨by decide, by decide⟩, by decide, ⟨by decide, by decide⟩, fun j _ => W0_le j, fun _ _ => Nat.zero_le _, fun _ _ => Nat.zero_le _, fun _ _ => Nat.zero_le _, fun _ _ => Nat.zero_le _, fun s _ => ⟨Nat.zero_le _, fun j hj => absurd hj (Nat.not_lt_zero _)⟩⟩
theorem PUR0 : PUR S0 := by
  refine ⟨BD0, ⟨Nat.zero_le _, rfl, rfl, fun j _ => ⟨cd1536.1, ?_, (by decide : 2 < 5)⟩, fun j hj => absurd hj (Nat.not_lt_zero _)⟩, (by decide : 1 < 65536), Nat.zero_le _, fun j hj => absurd hj (Nat.not_lt_zero _), fun _ _ => Nat.le_refl _⟩
  show mdN 1536 ≤ 3
  rw [cd1536.2.1]
  omega
theorem t13 : allB (fun s => Nat.beq (T0 13 s) (14 + 6 * s) && eqI (I0 (14 + 6 * s) 0) (nI 0)) 8 = true := by decide +kernel
theorem t13_c {s : Nat} (h : s < 8) : T0 13 s = 14 + 6 * s ∧ I0 (14 + 6 * s) 0 = nI 0 := by
  have := allB_get t13 s h
  rw [Bool.and_eq_true] at this
  exact ⟨Nat.eq_of_beq_eq_true this.1, eqI_eq this.2⟩
theorem i_1w : allB (fun j => eqI (I0 1 (3 + j)) (nI (W0 j)) && eqI (I0 84 j) (nI (W0 j))) 3 = true := by decide +kernel
theorem i_1 : (eqI (I0 1 0) (nI 4) && eqI (I0 1 1) (nI 3) && eqI (I0 1 2) (nI 2) && eqI (I0 0 8) (nI 1) && eqI (I0 69 5) (-1) && eqI (I0 77 0) (dI 1536) && eqI (I0 78 0) (scI 2)) = true := by decide +kernel
theorem i_83 : (eqI (I0 83 0) (nI 4) && eqI (I0 83 1) (nI 3) && eqI (I0 83 2) (nI 2) && eqI (I0 83 3) (nI 1) && eqI (I0 83 34) (nI 3) && eqI (I0 83 35) (nI 2)) = true := by decide +kernel
theorem i_6 : allB (fun j => eqI (I0 6 j) (nI 3) && eqI (I0 89 j) (nI 3)) 5 = true := by decide +kernel
theorem i_70 (o : Nat) : M0 70 o = if 70 = 70 ∧ o < 2048 then .int (nI (rkN o)) else .null := rfl
set_option maxRecDepth 100000 in
theorem RC0 : RC A0 I0 T0 := by
  have h := i_1
  simp only [Bool.and_eq_true] at h
  refine ⟨eqI_eq h.1.1.1.1.1.1, eqI_eq h.1.1.1.1.1.2, eqI_eq h.1.1.1.1.2, fun j hj => ?_, fun j _ => rfl, fun j _ => rfl, fun j _ => rfl, fun j _ => rfl, fun s hs => ?_⟩
  · have := allB_get i_1w j hj
    rw [Bool.and_eq_true] at this
    exact eqI_eq this.1
  · obtain ⟨e1, e2⟩ := t13_c hs
    rw [e1]
    refine ⟨?_, e2, fun j hj => absurd hj (Nat.not_lt_zero _)⟩
    unfold TX
    omega
set_option maxRecDepth 100000 in
theorem CINV0 : CINV S0 I0 J0 T0 := by
  have h := i_1
  simp only [Bool.and_eq_true] at h
  refine ⟨RC0, ⟨fun o ho => ?_, fun oth all once pace _ => Or.inl rfl, Or.inl (eqI_eq h.1.1.2)⟩, fun k oth _ _ => Or.inl rfl, ⟨?_, fun s hs => ?_, fun s s' hs hs' hn => ?_⟩, Or.inr ⟨rfl, fun st _ => ⟨0, by omega, rfl, fun i _ => Or.inl ?_⟩⟩, eqI_eq h.1.1.1.2, ⟨rfl, fun j hj => ?_, fun j hj => absurd hj (Nat.not_lt_zero _)⟩, ⟨rfl, fun j hj => absurd hj (Nat.not_lt_zero _)⟩, fun j hj => ?_⟩
  · show iv (M0 70 o) = nI (rkN o)
    rw [i_70, if_pos ⟨rfl, ho⟩]
    rfl
  · exact Or.inr (Or.inr (Or.inr (Or.inr (Or.inr (Or.inr (Or.inr (Or.inr rfl)))))))
  · rw [(t13_c hs).1, show T0 62 0 = 63 from rfl]
    omega
  · rw [(t13_c hs).1, (t13_c hs').1]
    omega
  · rw [Nat.zero_div]
  · have : j = 0 := Nat.le_zero.mp hj
    subst this
    exact ⟨eqI_eq h.1.2, eqI_eq h.2⟩
  · have := allB_get i_6 j hj
    rw [Bool.and_eq_true] at this
    exact eqI_eq this.1
set_option maxRecDepth 100000 in
theorem MINV0 : MINV S0 I0 := by
  have h := i_83
  simp only [Bool.and_eq_true] at h
  refine ⟨⟨eqI_eq h.1.1.1.1.1, eqI_eq h.1.1.1.1.2, eqI_eq h.1.1.1.2, fun j hj => ?_, fun j _ => rfl, fun j _ => rfl, fun j _ => rfl, fun j _ => rfl, fun s hs => ⟨rfl, fun j hj => absurd hj (Nat.not_lt_zero _)⟩⟩, ⟨eqI_eq h.1.2, eqI_eq h.2, rfl⟩, eqI_eq h.1.1.2, ⟨rfl, fun j h1 h2 => ?_, fun j hj => absurd hj (Nat.not_lt_zero _)⟩, ⟨rfl, fun j hj => absurd hj (Nat.not_lt_zero _)⟩, fun j hj => ?_⟩
  · have := allB_get i_1w j hj
    rw [Bool.and_eq_true] at this
    exact eqI_eq this.2
  · have h2 : j ≤ 0 := h2
    omega
  · have := allB_get i_6 j hj
    rw [Bool.and_eq_true] at this
    exact eqI_eq this.2
