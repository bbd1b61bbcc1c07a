/-! THE LAW'S BODY, by the plain machine. -/
theorem law_start (hokm : ∀ g, okM sg (mt g) = true) (hokL : okM sg mL_law = true) {p : Program} {e : Env} {s : State} {m : MethodId} {below : List Frame} {meth : Method} {c : Code} (l : Launch) {b L : Nat} {xs : Nat → Int32} (C0 : lw_At p s m meth c b L xs) {d : Nat} (hd2 : d ≤ 1000)
    (hGo : Go (some (L, xs)) aM (Ev mt aM d) mL_law (fun r _ => r = some (.int 1)) (0, entP 4 (entA [.ref 2000]), [], ([], fun _ _ => .null), 0, 0)) : W p l e room_1 s m #[Value.ref b] below meth c s.heap [] 0 0 (lw_Z below #[Value.ref b] s) (entryFrame m ([Value.ref b] : List Value).toArray 4) := by
  obtain ⟨hx, hb, hr, hml, hown, hts, hX, hbl, hlocks, hgv⟩ := C0
  obtain ⟨ext, D, cA, hext, hO⟩ := start_out hts hgv
  have hrows : mL_law.2.2.2.2.2.1.all (fun r => r.all (okE sg yL_law 4 (some .boolean) code)) = true := by
    have q := hokL
    simp only [okM, Bool.and_eq_true] at q
    exact q.1
  have X : Cx p room_1 s m #[Value.ref b] meth c s.heap.size ext D cA (some (L, xs)) yL_law code 4 0 :=
    ⟨hx, hb, hml, hown, fun w hw => hts w (List.mem_filter.mp hw).1, hO, rfl, (fun q hq => by cases hq; rw [hext]; exact ⟨hX, hbl, fun h => by unfold At0 at h; omega⟩), (by decide), (by decide), fun hn => absurd hn (by decide)⟩
  have key : ∀ q : Cfg, exec (some (L, xs)) aM (Ev mt aM d) mL_law (Sim p l e room_1 s m #[Value.ref b] below meth c (lw_Z below #[Value.ref b] s) s.heap.size ext D cA 4 0) (fun r _ => r = some (.int 1)) q → Sim p l e room_1 s m #[Value.ref b] below meth c (lw_Z below #[Value.ref b] s) s.heap.size ext D cA 4 0 q := by
    intro q hq
    obtain ⟨pc, LL, st, m2, kc, ks⟩ := q
    unfold exec at hq
    rw [out_eq] at hq
    cases hlk : lkc mL_law.2.2.2.2.2.1 pc with
    | none =>
      rw [hlk] at hq
      exact False.elim hq
    | some e0 =>
      rw [hlk] at hq
      obtain ⟨hok, hpc⟩ := lkc_spec hrows hlk
      obtain ⟨pc', ins, n, a, b', c0, j, w, z⟩ := e0
      have hpc : pc' = pc := hpc
      subst hpc
      refine sim_step (ret := some .boolean) X hokm (fun g as mm K hg h => sound hokm l s.heap.size ext D cA d g as mm K hg h) ⟨by show d + 2 ≤ 2048; omega, by show 60 * (d + 2) ≤ 84000; omega⟩ ⟨by show mL_law.2.2.2.2.1.1 ≤ 600000; decide, by show mL_law.2.2.2.2.1.2 ≤ 7302250; decide⟩ ?_ ?_ ?_ ?_ hok hq
      · intro pc L x mm2 ks hd hret hq H locs ls hH2 hS hL h1 h2
        have hq : x = 1 := by cases hq; rfl
        subst hq
        refine W.widen (k := 600000) (n := 7302250) h1 h2 ?_
        refine va_forget hS.2.2 ?_
        exact lw_ret hx hb hr hlocks hd
      · intro pc L x mm2 ks hd hret hq; cases hq
      · intro pc L v mm2 ks hd hret hv hq H locs ls hH2 hS hL h1 h2
        rcases hv with q | ⟨o, q⟩ <;> (rw [q] at hq; cases hq)
      · intro pc L mm2 ks hd hret hq; cases hq
  have hS0 := hGo _ key
  have hl := lv_entry ([Value.ref b]) (n := 4) (Nat.le_of_ble_eq_true rfl)
  rw [lg_entry_eq]
  refine hS0 s.heap [] _ ⟨rfl, by show 0 ≤ 1000; omega, fun i kn h => by simp at h, fun k q h => by simp [wld] at h⟩ va_S.rf ⟨_, hl, fun i v hi => ?_⟩ (Nat.zero_le _) (Nat.zero_le _)
  have h0 := entA_in (adr s.heap.size ext) [.ref 2000] 0 i v (entP_get _ _ _ _ hi)
  rw [Nat.zero_add] at h0
  have he : adr s.heap.size ext 2000 = b := hext
  have hm : ([Value.ref 2000].map (vr (adr s.heap.size ext))) = [Value.ref b] := by
    show [Value.ref (adr s.heap.size ext 2000)] = [Value.ref b]
    rw [he]
  rw [hm] at h0
  exact h0
