/-! the law's loop -/
theorem FrO.rf {w : Wd} : FrO w w := ⟨rfl, rfl, rfl, Nat.le_refl _, Nat.le_succ _⟩
theorem StepL.of {x : Nat} {w : Wd} {T F : Option Out} (hR : Rf T F) (h : StepL x w T) : StepL x w F := by
  obtain ⟨w', m', A', B', fp', h1, h2⟩ := h
  exact ⟨w', m', A', B', fp', h1.tr hR, h2⟩
section LOOP
variable {w : Wd} {A : AC} {m x : Nat} {B : Row} {fp : Int}
theorem L23 (hx : x + 6 ≤ gL w) (hL : gL w ≤ 3072) (h : JV w m A B fp) : StepL x w (s327_23 0 473 514 x w) := by
  refine StepL.of (e327_23 h.1.H l0 l473 l514) ?_
  rw [if_neg (show ¬ wr (((gL w : Nat) : Int) - 6) < (x : Int) by rw [wrd (by omega) (by omega)]; omega), gdi (by omega) (by omega), nn]
  generalize bAnd (gX w x) 63 = c
  by_cases c0 : c = 0
  · rw [if_pos c0]; exact L216 hx hL h
  rw [if_neg c0]
  by_cases c1 : c = 1
  · rw [if_pos c1]; exact L289 hx hL h
  rw [if_neg c1]
  by_cases c2 : c = 2
  · rw [if_pos c2]; exact L345 h
  rw [if_neg c2]
  by_cases c3 : c = 3
  · rw [if_pos c3]; exact L358 hx hL h
  rw [if_neg c3]
  by_cases c4 : c = 4
  · rw [if_pos c4]; exact L414 hx hL h
  rw [if_neg c4]
  by_cases c5 : c = 5
  · rw [if_pos c5]; exact L482 hx hL h
  rw [if_neg c5]
  by_cases c6 : c = 6
  · rw [if_pos c6]; exact L507 hx hL h
  rw [if_neg c6]
  by_cases c7 : c = 7
  · rw [if_pos c7]; exact L575 hx hL h
  rw [if_neg c7]
  by_cases c8 : c = 8
  · rw [if_pos c8]; exact L643 hx hL h
  rw [if_neg c8]
  by_cases c9 : c = 9
  · rw [if_pos c9]; exact L684 hx hL h
  rw [if_neg c9]
  by_cases c10 : c = 10
  · rw [if_pos c10]; exact L775 h
  rw [if_neg c10]
  by_cases c11 : c = 11
  · rw [if_pos c11]; exact L788 hx hL h
  rw [if_neg c11]
  by_cases c12 : c = 12
  · rw [if_pos c12]; exact L868 hx hL h
  rw [if_neg c12]
  by_cases c13 : c = 13
  · rw [if_pos c13]; exact L936 hx hL h
  rw [if_neg c13]
  by_cases c14 : c = 14
  · rw [if_pos c14]; exact L992 hx hL h
  rw [if_neg c14]
  by_cases c15 : c = 15
  · rw [if_pos c15]; exact L1060 hx hL h
  rw [if_neg c15]
  by_cases c16 : c = 16
  · rw [if_pos c16]; exact L1116 hx hL h
  rw [if_neg c16]
  by_cases c17 : c = 17
  · rw [if_pos c17]; exact L1196 hx hL h
  rw [if_neg c17]
  by_cases c18 : c = 18
  · rw [if_pos c18]; exact L1264 hx hL h
  rw [if_neg c18]
  by_cases c19 : c = 19
  · rw [if_pos c19]; exact L1344 hx hL h
  rw [if_neg c19]
  by_cases c20 : c = 20
  · rw [if_pos c20]; exact L1400 hx hL h
  rw [if_neg c20]
  by_cases c21 : c = 21
  · rw [if_pos c21]; exact L1468 hx hL h
  rw [if_neg c21]
  by_cases c22 : c = 22
  · rw [if_pos c22]; exact L1524 hx hL h
  rw [if_neg c22]
  by_cases c23 : c = 23
  · rw [if_pos c23]; exact L1604 hx hL h
  rw [if_neg c23]
  by_cases c24 : c = 24
  · rw [if_pos c24]; exact L1672 hx hL h
  rw [if_neg c24]
  by_cases c25 : c = 25
  · rw [if_pos c25]; exact L1740 hx hL h
  rw [if_neg c25]
  by_cases c26 : c = 26
  · rw [if_pos c26]; exact L1796 hx hL h
  rw [if_neg c26]
  by_cases c27 : c = 27
  · rw [if_pos c27]; exact L1852 hx hL h
  rw [if_neg c27]
  by_cases c28 : c = 28
  · rw [if_pos c28]; exact L1920 hx hL h
  rw [if_neg c28]
  by_cases c29 : c = 29
  · rw [if_pos c29]; exact L1988 h
  rw [if_neg c29]
  by_cases c30 : c = 30
  · rw [if_pos c30]; exact L2001 hx hL h
  rw [if_neg c30]
  by_cases c31 : c = 31
  · rw [if_pos c31]; exact L2057 hx hL h
  rw [if_neg c31]
  by_cases c32 : c = 32
  · rw [if_pos c32]; exact L2137 hx hL h
  rw [if_neg c32]
  by_cases c33 : c = 33
  · rw [if_pos c33]; exact L2193 hx hL h
  rw [if_neg c33]
  by_cases c34 : c = 34
  · rw [if_pos c34]; exact L2249 h
  rw [if_neg c34]
  by_cases c35 : c = 35
  · rw [if_pos c35]; exact L2260 hx hL h
  rw [if_neg c35]
  by_cases c36 : c = 36
  · rw [if_pos c36]; exact L2340 hx hL h
  rw [if_neg c36]
  by_cases c37 : c = 37
  · rw [if_pos c37]; exact L2420 hx hL h
  rw [if_neg c37]
  by_cases c38 : c = 38
  · rw [if_pos c38]; exact L2500 h
  rw [if_neg c38]
  by_cases c39 : c = 39
  · rw [if_pos c39]; exact L2511 h
  rw [if_neg c39]
  exact ⟨w, m, A, B, fp, Rf.refl _, h, FrO.rf⟩
/-- the loop, to its end -/
theorem Lall : ∀ (n x : Nat) (w : Wd) (m : Nat) (A : AC) (B : Row) (fp : Int), JV w m A B fp → gL w ≤ 3072 → gL w < x + 6 * n + 6 → x ≤ 4000 → ∃ w', s327_23 0 473 514 x w = rI 1 w' ∧ gN w' = gN w ∧ gE w' ≤ gE w + n := by
  intro n
  induction n with
  | zero =>
    intro x w m A B fp h hL hn hx
    refine ⟨w, e327_23 h.1.H l0 l473 l514 _ ?_, rfl, Nat.le_refl _⟩
    rw [if_pos (show wr (((gL w : Nat) : Int) - 6) < (x : Int) by rw [wrd (by omega) (by omega)]; omega)]
  | succ n ih =>
    intro x w m A B fp h hL hn hx
    by_cases z : x + 6 ≤ gL w
    · obtain ⟨w', m', A', B', fp', h1, h2, h3⟩ := L23 z hL h
      obtain ⟨f1, f2, f3, f4, f5⟩ := h3
      obtain ⟨w2, g1, g2, g3⟩ := ih (x + 6) w' m' A' B' fp' h2 (by rw [f2]; exact hL) (by rw [f2]; omega) (by omega)
      refine ⟨w2, h1 _ (e327_2524 h2.1.H l0 l473 l514 _ ?_), g2.trans f1, by omega⟩
      have e6 : wr ((x : Int) + 6) = ((x + 6 : Nat) : Int) := (wr5 z hL).2.2.2.2.2
      rw [e6]
      exact g1
    · refine ⟨w, e327_23 h.1.H l0 l473 l514 _ ?_, rfl, Nat.le_add_right _ _⟩
      rw [if_pos (show wr (((gL w : Nat) : Int) - 6) < (x : Int) by rw [wrd (by omega) (by omega)]; omega)]
end LOOP
/-- from where both stand, the law answers 1 -/
theorem Lend {w : Wd} {m : Nat} {A : AC} {B : Row} {fp : Int} (h : JV w m A B fp) (hL : gL w ≤ 3072) : ∃ w', s327_20 0 473 514 0 w = rI 1 w' ∧ gN w' = gN w ∧ gE w' ≤ gE w + 512 := by
  obtain ⟨w', h1, h2, h3⟩ := Lall 512 0 w m A B fp h hL (by omega) (by omega)
  exact ⟨w', e327_20 h.1.H l0 l473 l514 _ h1, h2, h3⟩
