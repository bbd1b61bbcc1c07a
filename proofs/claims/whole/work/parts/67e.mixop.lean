/-! MIXED, both alike. -/
def mixV (p q u v w : Nat) : Int64 :=
  if mxFar p q u v ≤ 2000000000 then
    (if w = 0 then lN (mxLo p q u v) else if mxLo p q u v = mxHi p q u v then (if w = 1 then 0 else 1) else if w = 1 then lN (mxNm p q u v) / lN (Nat.gcd (mxNm p q u v) (mxDn p q u v)) else lN (mxDn p q u v) / lN (Nat.gcd (mxNm p q u v) (mxDn p q u v)))
  else -2
theorem gcd_b {a b : Nat} (h0 : 0 < a) (ha : a < 2 ^ 63) : 0 < Nat.gcd a b ∧ Nat.gcd a b < 2 ^ 63 := ⟨Nat.gcd_pos_of_pos_left b h0, Nat.lt_of_le_of_lt (Nat.le_of_dvd h0 (Nat.gcd_dvd_left a b)) ha⟩
section MX
variable {p q u v w d : Nat} {I : Nat → Nat → Int32} {J : Nat → Nat → Int64} {T : Nat → Nat → Nat} {Q : Option Value → Mem → Prop}
theorem ev_mixedOf (hw : w ≤ 2) (hp : p < 2 ^ 63) (hq : q < 2 ^ 63) (hu : u < 2 ^ 63) (hv : v < 2 ^ 63) (g : Q (some (.long (mixV p q u v w))) (SH, mkM I J T)) : Ev mt aM (d + 30) 169 [.long (lN p), .long (lN q), .long (lN u), .long (lN v), .int (nI w)] (SH, mkM I J T) Q := by
  refine Ev.intro (d := d + 29) mX11_mixedOf rfl rfl (mxo_0 (d := d) ?_)
  have far := (@mx_far p q u v).2.2.2.2.1
  rw [lmx (a := p) (b := q) hp hq, lmx (a := u) (b := v) hu hv, lmn (a := p) (b := q) hp hq, lmn (a := u) (b := v) hu hv, lmx (a := p) (b := u) hp hu, lmx (a := q) (b := v) hq hv, lmx (a := mxN p q) (b := mxN u v) (mxN_lt hp hq) (mxN_lt hu hv), lmn (a := mnN p q) (b := mnN u v) (mnN_lt hp hq) (mnN_lt hu hv), lmx (a := mnN p q) (b := mnN u v) (mnN_lt hp hq) (mnN_lt hu hv), lmn (a := mxN p u) (b := mxN q v) (mxN_lt hp hu) (mxN_lt hq hv), lN_sub far]
  have bl : mxLo p q u v < 2 ^ 63 := mxN_lt (mnN_lt hp hq) (mnN_lt hu hv)
  have bh : mxHi p q u v < 2 ^ 63 := mnN_lt (mxN_lt hp hu) (mxN_lt hq hv)
  have bf : mxFar p q u v < 2 ^ 63 := Nat.lt_of_le_of_lt (Nat.sub_le _ _) (mxN_lt (mxN_lt hp hq) (mxN_lt hu hv))
  rw [show mxN (mnN p q) (mnN u v) = mxLo p q u v from rfl, show mnN (mxN p u) (mxN q v) = mxHi p q u v from rfl, show mxN (mxN p q) (mxN u v) - mnN (mnN p q) (mnN u v) = mxFar p q u v from rfl, lg_cmp_le, show (2000000000 : Int64) = lN 2000000000 from rfl, pk_lLE bf (by omega)]
  unfold mixV at g
  by_cases hf : mxFar p q u v ≤ 2000000000
  · rw [if_pos hf] at g
    refine br0 hf (mxo_84 ?_)
    rw [lg_cmp_eq, pk_lEQ bl bh]
    rcases (show w = 0 ∨ w = 1 ∨ w = 2 by omega) with rfl | rfl | rfl
    · exact br0 rfl g
    · refine br1 (by decide) ?_
      have g : Q (some (.long (if mxLo p q u v = mxHi p q u v then (0 : Int64) else lN (mxNm p q u v) / lN (Nat.gcd (mxNm p q u v) (mxDn p q u v))))) (SH, mkM I J T) := g
      by_cases e : mxLo p q u v = mxHi p q u v
      · rw [if_pos e] at g
        exact br0 e (br0 rfl g)
      · rw [if_neg e] at g
        obtain ⟨n0, n1, d0, d1, s⟩ := mx_num e hf
        obtain ⟨g0, g1⟩ := gcd_b (b := mxDn p q u v) n0 n1
        have ge : 0 ≤ lg_cmp (lN (Nat.gcd (mxNm p q u v) (mxDn p q u v))) (1 : Int64) := (lg_cmp_ge _ _).mpr ((pk_lLE (a := 1) (by omega) g1).mpr g0)
        rcases s with ⟨s1, s2⟩ | ⟨s1, s2⟩
        · rw [s1, s2]
          refine br1 e (br1 (fun z => lN_ne0 d0 d1 ((lg_cmp_eq _ _).mp z)) ?_)
          rw [if_pos (lpos n0 n1), if_pos (lpos d0 d1)]
          refine ev_gdv (d := d + 25) n1 d1 (mxo_166 (br0 ge (br0 rfl ⟨lN_ne0 g0 g1, ?_⟩)))
          rw [if_pos (lpos n0 n1)]
          exact g
        · rw [s1, s2]
          refine br1 e (br1 (fun z => lneg_ne d0 d1 ((lg_cmp_eq _ _).mp z)) ?_)
          rw [if_neg (lneg_npos n0 n1), if_neg (lneg_npos d0 d1), Int64.neg_neg, Int64.neg_neg]
          refine ev_gdv (d := d + 25) n1 d1 (mxo_166 (br0 ge (br0 rfl ⟨lN_ne0 g0 g1, ?_⟩)))
          rw [if_neg (lneg_npos n0 n1), Int64.neg_neg]
          exact g
    · refine br1 (by decide) ?_
      have g : Q (some (.long (if mxLo p q u v = mxHi p q u v then (1 : Int64) else lN (mxDn p q u v) / lN (Nat.gcd (mxNm p q u v) (mxDn p q u v))))) (SH, mkM I J T) := g
      by_cases e : mxLo p q u v = mxHi p q u v
      · rw [if_pos e] at g
        exact br0 e (br1 (by decide) g)
      · rw [if_neg e] at g
        obtain ⟨n0, n1, d0, d1, s⟩ := mx_num e hf
        obtain ⟨g0, g1⟩ := gcd_b (b := mxDn p q u v) n0 n1
        have ge : 0 ≤ lg_cmp (lN (Nat.gcd (mxNm p q u v) (mxDn p q u v))) (1 : Int64) := (lg_cmp_ge _ _).mpr ((pk_lLE (a := 1) (by omega) g1).mpr g0)
        rcases s with ⟨s1, s2⟩ | ⟨s1, s2⟩
        · rw [s1, s2]
          refine br1 e (br1 (fun z => lN_ne0 d0 d1 ((lg_cmp_eq _ _).mp z)) ?_)
          rw [if_pos (lpos n0 n1), if_pos (lpos d0 d1)]
          refine ev_gdv (d := d + 25) n1 d1 (mxo_166 (br0 ge (br1 (by decide) ⟨lN_ne0 g0 g1, ?_⟩)))
          rw [if_pos (lpos d0 d1)]
          exact g
        · rw [s1, s2]
          refine br1 e (br1 (fun z => lneg_ne d0 d1 ((lg_cmp_eq _ _).mp z)) ?_)
          rw [if_neg (lneg_npos n0 n1), if_neg (lneg_npos d0 d1), Int64.neg_neg, Int64.neg_neg]
          refine ev_gdv (d := d + 25) n1 d1 (mxo_166 (br0 ge (br1 (by decide) ⟨lN_ne0 g0 g1, ?_⟩)))
          rw [if_neg (lneg_npos d0 d1), Int64.neg_neg]
          exact g
  · rw [if_neg hf] at g
    exact br1 hf g
theorem m_mixed (hw : w ≤ 2) (hp : p < 2 ^ 63) (hq : q < 2 ^ 63) (hu : u < 2 ^ 63) (hv : v < 2 ^ 63) {i j x y : Int32} (g : Q (some (.long (mixV p q u v w))) (SH, mkM I J T)) : Go none aM (Ev mt aM (d + 30)) mX12_mixed Q (110, [some (.ref 83), some (.int i), some (.int j), some (.int x), some (.int y), some (.int (nI w)), some (.long (lN p)), none, some (.long (lN q)), none, some (.long (lN u)), none, none, none, none, none, none, none, none, none, none, none], [.long (lN v)], (SH, mkM I J T), 0, 0) := by
  refine mmx_110 (d := d) ?_
  have far := (@mx_far p q u v).2.2.2.2.1
  rw [rmx hp hq, rmx hu hv, rmn hp hq, rmn hu hv, rmx (mxN_lt hp hq) (mxN_lt hu hv), rmn (mnN_lt hp hq) (mnN_lt hu hv), rmx (mnN_lt hp hq) (mnN_lt hu hv), lN_sub far]
  have bl : mxLo p q u v < 2 ^ 63 := mxN_lt (mnN_lt hp hq) (mnN_lt hu hv)
  have bh : mxHi p q u v < 2 ^ 63 := mnN_lt (mxN_lt hp hu) (mxN_lt hq hv)
  have bf : mxFar p q u v < 2 ^ 63 := Nat.lt_of_le_of_lt (Nat.sub_le _ _) (mxN_lt (mxN_lt hp hq) (mxN_lt hu hv))
  rw [show mxN (mnN p q) (mnN u v) = mxLo p q u v from rfl, show mxN (mxN p q) (mxN u v) - mnN (mnN p q) (mnN u v) = mxFar p q u v from rfl, lg_cmp_le, show (2000000000 : Int64) = lN 2000000000 from rfl, pk_lLE bf (by omega)]
  unfold mixV at g
  by_cases hf : mxFar p q u v ≤ 2000000000
  · rw [if_pos hf] at g
    refine br0 hf (mmx_177 ?_)
    rw [rmx hp hu, rmx hq hv, rmn (mxN_lt hp hu) (mxN_lt hq hv), show mnN (mxN p u) (mxN q v) = mxHi p q u v from rfl, lg_cmp_eq, pk_lEQ bl bh]
    rcases (show w = 0 ∨ w = 1 ∨ w = 2 by omega) with rfl | rfl | rfl
    · exact br0 rfl g
    · refine br1 (by decide) ?_
      have g : Q (some (.long (if mxLo p q u v = mxHi p q u v then (0 : Int64) else lN (mxNm p q u v) / lN (Nat.gcd (mxNm p q u v) (mxDn p q u v))))) (SH, mkM I J T) := g
      by_cases e : mxLo p q u v = mxHi p q u v
      · rw [if_pos e] at g
        exact br0 e (br0 rfl g)
      · rw [if_neg e] at g
        obtain ⟨n0, n1, d0, d1, s⟩ := mx_num e hf
        obtain ⟨g0, g1⟩ := gcd_b (b := mxDn p q u v) n0 n1
        refine br1 e (mmx_227 (mmx_248 (mmx_261 (mmx_274 ?_))))
        rw [mx_less]
        rcases s with ⟨s1, s2⟩ | ⟨s1, s2⟩
        · rw [s1, s2]
          exact ev_gcd (d := d + 26) n1 d1 (mmx_281 (br0 ((lg_cmp_ge _ _).mpr ((pk_lLE (a := 0) (by omega) d1).mpr (Nat.zero_le _))) (br0 rfl ⟨lN_ne0 g0 g1, g⟩)))
        · rw [s1, s2]
          refine ev_gcdn (d := d + 26) n0 d0 n1 d1 (mmx_281 (br1 (lneg_nge d0 d1) (br0 rfl ⟨lneg_ne g0 g1, ?_⟩)))
          rw [lneg_div n1 g1]
          exact g
    · refine br1 (by decide) ?_
      have g : Q (some (.long (if mxLo p q u v = mxHi p q u v then (1 : Int64) else lN (mxDn p q u v) / lN (Nat.gcd (mxNm p q u v) (mxDn p q u v))))) (SH, mkM I J T) := g
      by_cases e : mxLo p q u v = mxHi p q u v
      · rw [if_pos e] at g
        exact br0 e (br1 (by decide) g)
      · rw [if_neg e] at g
        obtain ⟨n0, n1, d0, d1, s⟩ := mx_num e hf
        obtain ⟨g0, g1⟩ := gcd_b (b := mxDn p q u v) n0 n1
        refine br1 e (mmx_227 (mmx_248 (mmx_261 (mmx_274 ?_))))
        rw [mx_less]
        rcases s with ⟨s1, s2⟩ | ⟨s1, s2⟩
        · rw [s1, s2]
          exact ev_gcd (d := d + 26) n1 d1 (mmx_281 (br0 ((lg_cmp_ge _ _).mpr ((pk_lLE (a := 0) (by omega) d1).mpr (Nat.zero_le _))) (br1 (by decide) ⟨lN_ne0 g0 g1, g⟩)))
        · rw [s1, s2]
          refine ev_gcdn (d := d + 26) n0 d0 n1 d1 (mmx_281 (br1 (lneg_nge d0 d1) (br1 (by decide) ⟨lneg_ne g0 g1, ?_⟩)))
          rw [lneg_div d1 g1]
          exact g
  · rw [if_neg hf] at g
    exact br1 hf g
end MX
