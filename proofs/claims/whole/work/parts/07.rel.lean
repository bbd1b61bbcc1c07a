/-! WHAT A MEMORY IS IN THE MACHINE: the cells made since the start, at base, base + 1 and on; texts, the script and the table outside. -/
def Tb : List Cond := lw_tbl.filter goodWord
theorem wd_in {j : Nat} {w : Cond} (h : wd j w = true) : w ∈ Tb := by
  simp only [wd, Bool.and_eq_true, decide_eq_true_eq] at h
  exact List.mem_filter.mpr ⟨List.mem_of_getElem? h.1, h.2⟩
theorem Tb_good {w : Cond} (h : w ∈ Tb) : (w.onTables && w.keeps) = true ∨ ∃ ty, w = .arrayClass ty := good_of_word (List.mem_filter.mp h).2
theorem goodIn_Tb {ws : List Cond} (h : ∀ w ∈ ws, w ∈ Tb) : GoodIn Tb ws := fun w hw => ⟨h w hw, Tb_good (h w hw)⟩
theorem goodIn_inTb {ws : List Cond} (h : GoodIn lw_tbl ws) (hg : ws.all goodWord = true) : ∀ w ∈ ws, w ∈ Tb := fun w hw => List.mem_filter.mpr ⟨(h w hw).1, List.all_eq_true.mp hg w hw⟩
def vr (ad : Nat → Nat) : Value → Value
  | .ref a => .ref (ad a)
  | v => v
/-- where a cell lies -/
def adr (base : Nat) (ext : Nat → Nat) (i : Nat) : Nat := if i < 1000 then base + i else ext i
def kdF (k j : Nat) : Nat := kdD (((clA k).2.1 j).2.2.1)
def cel (cA : Nat → ClassId) (ad : Nat → Nat) (k n : Nat) (f : Nat → Value) : va_E :=
  if k < 20 then .inr (k, (List.range n).map (fun j => vr ad (fv (kdF k j) (f j))))
  else if k = 21 then .inl (cA 21, n, .inr (.inl (fun j => jv (f j))))
  else if k = 24 then .inl (cA 24, n, .inr (.inr (.inr (.inr (fun j => (rv (f j)).map ad)))))
  else .inl (cA k, n, .inl (fun j => iv (f j)))
def wld (cA : Nat → ClassId) (ad : Nat → Nat) (m : Mem) : va_W := m.1.mapIdx (fun i kn => (ad i, cel cA ad kn.1 kn.2 (m.2 i)))
theorem wld_get {cA : Nat → ClassId} {ad : Nat → Nat} {m : Mem} {i : Nat} {kn : Nat × Nat} (h : m.1[i]? = some kn) : (wld cA ad m)[i]? = some (ad i, cel cA ad kn.1 kn.2 (m.2 i)) := by
  unfold wld
  rw [List.getElem?_mapIdx, h]
  rfl
theorem wld_inv {cA : Nat → ClassId} {ad : Nat → Nat} {m : Mem} {i : Nat} {q : Nat × va_E} (h : (wld cA ad m)[i]? = some q) : ∃ kn, m.1[i]? = some kn ∧ q = (ad i, cel cA ad kn.1 kn.2 (m.2 i)) := by
  unfold wld at h
  rw [List.getElem?_mapIdx] at h
  cases hk : m.1[i]? with
  | none => rw [hk] at h; cases h
  | some kn => rw [hk] at h; cases h; exact ⟨kn, rfl, rfl⟩
theorem wld_set {cA : Nat → ClassId} {ad : Nat → Nat} {m : Mem} {i : Nat} {kn : Nat × Nat} (h : m.1[i]? = some kn) (M' : Nat → Nat → Value) (hM : ∀ o, o ≠ i → M' o = m.2 o) :
    (wld cA ad m).set i (ad i, cel cA ad kn.1 kn.2 (M' i)) = wld cA ad (m.1, M') := by
  apply List.ext_getElem?
  intro k
  have hl : i < (wld cA ad m).length := (List.getElem?_eq_some_iff.mp (wld_get h)).1
  by_cases hk : k = i
  · subst hk
    rw [List.getElem?_set_self hl]
    exact (wld_get (m := (m.1, M')) h).symm
  · rw [List.getElem?_set_ne (Ne.symm hk)]
    unfold wld
    rw [List.getElem?_mapIdx, List.getElem?_mapIdx]
    show m.1[k]?.map (fun kn => (ad k, cel cA ad kn.1 kn.2 (m.2 k))) = m.1[k]?.map (fun kn => (ad k, cel cA ad kn.1 kn.2 (M' k)))
    rw [hM k hk]
theorem wld_push {cA : Nat → ClassId} {ad : Nat → Nat} {m : Mem} (kn : Nat × Nat) (M' : Nat → Nat → Value) (hM : ∀ o, o < m.1.length → M' o = m.2 o) :
    wld cA ad m ++ [(ad m.1.length, cel cA ad kn.1 kn.2 (M' m.1.length))] = wld cA ad (m.1 ++ [kn], M') := by
  unfold wld
  apply List.ext_getElem?
  intro k
  rw [List.getElem?_mapIdx]
  by_cases hk : k < m.1.length
  · rw [List.getElem?_append_left (by simpa using hk), List.getElem?_mapIdx]
    show m.1[k]?.map (fun q => (ad k, cel cA ad q.1 q.2 (m.2 k))) = (m.1 ++ [kn])[k]?.map (fun q => (ad k, cel cA ad q.1 q.2 (M' k)))
    rw [List.getElem?_append_left hk, hM k hk]
  · rw [List.getElem?_append_right (by simpa using Nat.le_of_not_lt hk)]
    show _ = (m.1 ++ [kn])[k]?.map (fun q => (ad k, cel cA ad q.1 q.2 (M' k)))
    rw [List.getElem?_append_right (Nat.le_of_not_lt hk), List.length_mapIdx]
    by_cases h0 : k = m.1.length
    · subst h0
      rw [Nat.sub_self]
      rfl
    · rw [List.getElem?_eq_none (by simp; omega), List.getElem?_eq_none (by simp; omega)]
      rfl
/-- the cells are of the kinds that there are, objects as large as their classes -/
def WF (m : Mem) : Prop := ∀ (i : Nat) (kn : Nat × Nat), m.1[i]? = some kn → (kn.1 < 12 ∧ kn.2 = (clA kn.1).2.2) ∨ (20 ≤ kn.1 ∧ kn.1 < 25)
theorem WF.push {m : Mem} (h : WF m) {kn : Nat × Nat} (hk : (kn.1 < 12 ∧ kn.2 = (clA kn.1).2.2) ∨ (20 ≤ kn.1 ∧ kn.1 < 25)) (M' : Nat → Nat → Value) : WF (m.1 ++ [kn], M') := by
  intro i q hq
  have hq : (m.1 ++ [kn])[i]? = some q := hq
  by_cases hi : i < m.1.length
  · rw [List.getElem?_append_left hi] at hq
    exact h i q hq
  · rw [List.getElem?_append_right (by omega)] at hq
    have hz : i - m.1.length < 1 := (List.getElem?_eq_some_iff.mp hq).1
    rw [show i - m.1.length = 0 by omega] at hq
    cases hq
    exact hk
def At0 (base : Nat) : Nat → Prop := fun q => base ≤ q
theorem adr_in {base : Nat} {ext : Nat → Nat} {i : Nat} (h : i < 1000) : At0 base (adr base ext i) := by
  unfold adr At0
  rw [if_pos h]
  omega
theorem wld_D {cA : Nat → ClassId} {base : Nat} {ext : Nat → Nat} {m : Mem} (h : m.1.length ≤ 1000) : va_D (At0 base) (wld cA (adr base ext) m) := by
  refine ⟨fun i j p q hi hj hpq => ?_, fun k q hk => ?_⟩
  · obtain ⟨k1, h1, rfl⟩ := wld_inv hi
    obtain ⟨k2, h2, rfl⟩ := wld_inv hj
    have l1 := (List.getElem?_eq_some_iff.mp h1).1
    have l2 := (List.getElem?_eq_some_iff.mp h2).1
    have hpq : adr base ext i = adr base ext j := hpq
    unfold adr at hpq
    rw [if_pos (by omega), if_pos (by omega)] at hpq
    omega
  · obtain ⟨k1, h1, rfl⟩ := wld_inv hk
    have l1 := (List.getElem?_eq_some_iff.mp h1).1
    exact adr_in (by omega)
/-- the heap holds the memory -/
def Holds (base : Nat) (ext : Nat → Nat) (D : va_G) (cA : Nat → ClassId) (k : Nat) (m : Mem) (H : Heap) : Prop := m.1.length = k ∧ m.1.length ≤ 1000 ∧ WF m ∧ va_P D vwCl (wld cA (adr base ext) m) H
def TYS (cA : Nat → ClassId) : List (ClassId × FieldType) := [(cA 20, .int), (cA 21, .long), (cA 22, .byte), (cA 23, .boolean), (cA 24, .object RX9)]
/-- what lies outside and is only read -/
def Out0 (base : Nat) (ext : Nat → Nat) (D : va_G) (cA : Nat → ClassId) (U : State) (H : Heap) : Prop :=
  va_K D vwCl (TYS cA) U ∧ va_AO RX9 U ∧ va_Z "java/lang/String" "COMPACT_STRINGS" "Z" (.int 1) (At0 base) U H ∧ va_Z "ThreeToSend$Best" "ACTIONS" "[I" (.ref (ext 3000)) (At0 base) U H ∧ va_T .int (ext 3000) 13 (fun j => .int (actF j)) (At0 base) U H
  ∧ vk_S 9 txN txB (fun i => ext (1000 + i)) (fun i => ext (1100 + i)) (At0 base) U H
  ∧ ∀ i, i < 9 → vk_R (nth txL i ("", 0, "")).1 (nth txL i ("", 0, "")).2.1 (nth txL i ("", 0, "")).2.2 (ext (1000 + i)) U
theorem Out0.kept {base : Nat} {ext : Nat → Nat} {D : va_G} {cA : Nat → ClassId} {U : State} {H H1 : Heap} (h : Out0 base ext D cA U H) (hq : ∀ a : Nat, a < H.size → ¬ At0 base a → H1[a]? = H[a]?) : Out0 base ext D cA U H1 :=
  ⟨h.1, h.2.1, h.2.2.1.kept hq, h.2.2.2.1.kept hq, h.2.2.2.2.1.kept hq, h.2.2.2.2.2.1.kept hq, h.2.2.2.2.2.2⟩
theorem Out0.warm {base : Nat} {ext : Nat → Nat} {D : va_G} {cA : Nat → ClassId} {s U : State} {H : Heap} (hW : s.WarmedH U.vm) (h : Out0 base ext D cA s H) : Out0 base ext D cA U H :=
  ⟨va_K.moved hW.alike h.1, va_AO.moved hW.alike h.2.1, h.2.2.1.moved hW.alike, h.2.2.2.1.moved hW.alike, h.2.2.2.2.1.moved hW.alike, h.2.2.2.2.2.1.moved hW.alike, fun i hi => (h.2.2.2.2.2.2 i hi).warm hW⟩
theorem Out0.same {base : Nat} {ext : Nat → Nat} {D : va_G} {cA : Nat → ClassId} {u U : State} {H : Heap} (hv : U.vm = u.vm) (h : Out0 base ext D cA u H) : Out0 base ext D cA U H :=
  ⟨va_K.moved (hv ▸ Vm.Alike.refl u.vm) h.1, va_AO.moved (hv ▸ Vm.Alike.refl u.vm) h.2.1, h.2.2.1.moved (hv ▸ Vm.Alike.refl u.vm), h.2.2.2.1.moved (hv ▸ Vm.Alike.refl u.vm), h.2.2.2.2.1.moved (hv ▸ Vm.Alike.refl u.vm), h.2.2.2.2.2.1.moved (hv ▸ Vm.Alike.refl u.vm), fun i hi => (h.2.2.2.2.2.2 i hi).same hv⟩
/-- the locals -/
def LOK (ad : Nat → Nat) (nL : Nat) (ls : Array Slot) (L : Lo) : Prop := ∃ l : List (Nat × Value), lv_has ls nL l ∧ ∀ (i : Nat) (v : Value), lget L i = some v → (i, vr ad v) ∈ l
theorem LOK.at {ad : Nat → Nat} {nL : Nat} {ls : Array Slot} {L : Lo} (h : LOK ad nL ls L) {i : Nat} {v : Value} (hi : lget L i = some v) : ls[i]? = some (.val (vr ad v)) := by
  obtain ⟨l, h1, h2⟩ := h
  exact h1.2.2 _ (h2 i v hi)
theorem LOK.size {ad : Nat → Nat} {nL : Nat} {ls : Array Slot} {L : Lo} (h : LOK ad nL ls L) : ls.size = nL := by
  obtain ⟨l, h1, h2⟩ := h
  exact h1.1
theorem lget_lset (L : Lo) : ∀ (i j : Nat) (v : Option Value), lget (lset L i v) j = if j = i ∧ i < L.length then v else lget L j := by
  induction L with
  | nil => intro i j v; simp [lset, lget]
  | cons x L ih =>
    intro i j v
    cases i with
    | zero => cases j with
      | zero => simp [lset, lget]
      | succ j => simp [lset, lget]
    | succ i => cases j with
      | zero => simp [lset, lget]
      | succ j => simp [lset, lget, ih]
theorem vr_cat (ad : Nat → Nat) (v : Value) : (vr ad v).category = v.category := by cases v <;> rfl
theorem lget_none : ∀ (L : Lo) (k : Nat), ¬ k < L.length → lget L k = none := by
  intro L
  induction L with
  | nil => intro k _; rfl
  | cons x L ih =>
    intro k hk
    cases k with
    | zero => exact absurd (Nat.succ_pos _) hk
    | succ k => exact ih k (fun q => hk (Nat.succ_lt_succ q))
theorem lset_len (L : Lo) : ∀ (i : Nat) (v : Option Value), (lset L i v).length = L.length := by
  induction L with
  | nil => intro i v; rfl
  | cons x L ih =>
    intro i v
    cases i with
    | zero => rfl
    | succ i => exact congrArg (· + 1) (ih i v)
theorem lget_clr {L : Lo} {i j : Nat} {v : Value} (h : lget (lset L i none) j = some v) : lget L j = some v ∧ j ≠ i := by
  rw [lget_lset] at h
  by_cases hj : j = i
  · subst hj
    by_cases hl : j < L.length
    · rw [if_pos ⟨rfl, hl⟩] at h; cases h
    · rw [if_neg (fun q => hl q.2), lget_none L j hl] at h; cases h
  · rw [if_neg (fun q => hj q.1)] at h
    exact ⟨h, hj⟩
theorem lget_kill {L : Lo} {i j : Nat} {v : Value} (h : lget (lkill L i) j = some v) : lget L j = some v ∧ ¬ (j + 1 = i ∧ v.category = 2) := by
  cases i with
  | zero => exact ⟨h, fun q => by omega⟩
  | succ i =>
    have h0 : lget (match lget L i with
      | some (.long _) => lset L i none
      | some (.double _) => lset L i none
      | _ => L) j = some v := h
    by_cases hc : ∃ w : Value, lget L i = some w ∧ w.category = 2
    · obtain ⟨w, hw, hw2⟩ := hc
      rw [hw] at h0
      have h0 : lget (lset L i none) j = some v := by
        cases w <;> first | exact h0 | (simp [Value.category] at hw2)
      obtain ⟨h1, h2⟩ := lget_clr h0
      exact ⟨h1, fun q => h2 (by omega)⟩
    · have e : lget L j = some v := by
        cases hw : lget L i with
        | none => rw [hw] at h0; exact h0
        | some w =>
          rw [hw] at h0
          have hw2 : ¬ w.category = 2 := fun q => hc ⟨w, hw, q⟩
          cases w <;> first | exact h0 | exact absurd rfl hw2
      refine ⟨e, fun q => hc ⟨v, ?_, q.2⟩⟩
      rw [← e, show j = i by omega]
theorem LOK.put1 {ad : Nat → Nat} {nL : Nat} {L : Lo} {l : List (Nat × Value)} {ls' : Array Slot} {i : Nat} {v : Value} (h2 : ∀ (i : Nat) (v : Value), lget L i = some v → (i, vr ad v) ∈ l)
    (h' : lv_has ls' nL ((i, vr ad v) :: l.filter (fun q => !(q.1 == i) && !(q.1 + 1 == i && q.2.category == 2)))) : LOK ad nL ls' (lset1 L i v) := by
  refine ⟨_, h', fun j w hj => ?_⟩
  unfold lset1 at hj
  rw [lget_lset] at hj
  by_cases hji : j = i ∧ i < (lkill L i).length
  · rw [if_pos hji] at hj
    cases hj
    rw [hji.1]
    exact List.mem_cons_self
  · rw [if_neg hji] at hj
    have hne : j ≠ i := by
      intro e
      subst e
      rw [lget_none _ _ (fun q => hji ⟨rfl, q⟩)] at hj
      cases hj
    obtain ⟨h3, h4⟩ := lget_kill hj
    refine List.mem_cons_of_mem _ (List.mem_filter.mpr ⟨h2 j w h3, ?_⟩)
    simp only [vr_cat, Bool.and_eq_true, Bool.not_eq_true', beq_eq_false_iff_ne, Bool.and_eq_false_iff]
    refine ⟨hne, ?_⟩
    by_cases hc : j + 1 = i
    · exact Or.inr (fun q => h4 ⟨hc, q⟩)
    · exact Or.inl hc
theorem LOK.put2 {ad : Nat → Nat} {nL : Nat} {L : Lo} {l : List (Nat × Value)} {ls' : Array Slot} {i : Nat} {v : Value} (h2 : ∀ (i : Nat) (v : Value), lget L i = some v → (i, vr ad v) ∈ l)
    (h' : lv_has ls' nL ((i, vr ad v) :: l.filter (fun q => !(q.1 == i) && (!(q.1 == i + 1) && !(q.1 + 1 == i && q.2.category == 2))))) : LOK ad nL ls' (lset2 L i v) := by
  refine ⟨_, h', fun j w hj => ?_⟩
  unfold lset2 at hj
  obtain ⟨hj, hn1⟩ := lget_clr hj
  rw [lget_lset] at hj
  by_cases hji : j = i ∧ i < (lkill L i).length
  · rw [if_pos hji] at hj
    cases hj
    rw [hji.1]
    exact List.mem_cons_self
  · rw [if_neg hji] at hj
    have hne : j ≠ i := by
      intro e
      subst e
      rw [lget_none _ _ (fun q => hji ⟨rfl, q⟩)] at hj
      cases hj
    obtain ⟨h3, h4⟩ := lget_kill hj
    refine List.mem_cons_of_mem _ (List.mem_filter.mpr ⟨h2 j w h3, ?_⟩)
    simp only [vr_cat, Bool.and_eq_true, Bool.not_eq_true', beq_eq_false_iff_ne, Bool.and_eq_false_iff]
    refine ⟨hne, hn1, ?_⟩
    by_cases hc : j + 1 = i
    · exact Or.inr (fun q => h4 ⟨hc, q⟩)
    · exact Or.inl hc
/-- the locals at the entry -/
theorem entA_in (ad : Nat → Nat) : ∀ (as : List Value) (o i : Nat) (v : Value), lget (entA as) i = some v → (o + i, vr ad v) ∈ lv_args o (as.map (vr ad)) := by
  intro as
  induction as with
  | nil => intro o i v h; simp [entA, lget] at h
  | cons x as ih =>
    intro o i v h
    have one : ∀ (L : Lo), lget (some x :: L) i = some v → (∀ i', lget L i' = some v → (o + (i' + 1), vr ad v) ∈ lv_args (o + 1) (as.map (vr ad))) → x.category = 1 → (o + i, vr ad v) ∈ lv_args o ((x :: as).map (vr ad)) := by
      intro L h1 h2 hc
      have hc2 : ¬ (vr ad x).category = 2 := by rw [vr_cat]; omega
      simp only [List.map_cons, lv_args, if_neg hc2]
      cases i with
      | zero =>
        have h1 : some x = some v := h1
        cases h1
        exact List.mem_cons_self
      | succ i => exact List.mem_cons_of_mem _ (h2 i h1)
    cases x with
    | long z =>
      have h : lget (some (.long z) :: none :: entA as) i = some v := h
      simp only [List.map_cons, lv_args, vr, Value.category, if_true]
      match i, h with
      | 0, h =>
        have h : some (Value.long z) = some v := h
        cases h
        exact List.mem_cons_self
      | 1, h => exact absurd (show (none : Option Value) = some v from h) (by simp)
      | i + 2, h =>
        have h := ih (o + 2) i v h
        rw [show o + (i + 2) = o + 2 + i by omega]
        exact List.mem_cons_of_mem _ h
    | double z =>
      have h : lget (some (.double z) :: none :: entA as) i = some v := h
      simp only [List.map_cons, lv_args, vr, Value.category, if_true]
      match i, h with
      | 0, h =>
        have h : some (Value.double z) = some v := h
        cases h
        exact List.mem_cons_self
      | 1, h => exact absurd (show (none : Option Value) = some v from h) (by simp)
      | i + 2, h =>
        have h := ih (o + 2) i v h
        rw [show o + (i + 2) = o + 2 + i by omega]
        exact List.mem_cons_of_mem _ h
    | _ => exact one (entA as) h (fun i' h' => by have := ih (o + 1) i' v h'; rw [show o + (i' + 1) = o + 1 + i' by omega]; exact this) rfl
theorem entP_get : ∀ (n : Nat) (L : Lo) (i : Nat) (v : Value), lget (entP n L) i = some v → lget L i = some v := by
  intro n
  induction n with
  | zero => intro L i v h; simp [entP, lget] at h
  | succ n ih =>
    intro L i v h
    cases L with
    | nil => cases i with
      | zero => simp [entP, lget] at h
      | succ i =>
        have h := ih [] i v h
        simp [lget] at h
    | cons x L => cases i with
      | zero => exact h
      | succ i => exact ih L i v h
theorem entA_len (ad : Nat → Nat) (as : List Value) : (lg_sl (as.map (vr ad))).length = (entA as).length := by
  induction as with
  | nil => rfl
  | cons x as ih =>
    have e : lg_sl ((x :: as).map (vr ad)) = (if (vr ad x).category = 2 then [.val (vr ad x), .second] else [.val (vr ad x)]) ++ lg_sl (as.map (vr ad)) := rfl
    rw [e, List.length_append, ih]
    cases x <;> simp [vr, Value.category, entA] <;> omega
