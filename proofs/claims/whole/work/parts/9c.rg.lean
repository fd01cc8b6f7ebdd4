/-! the reference reads a line: what is told once -/
section LNo
variable {T : Row} {n M : Nat} {w : Wd} {y : LZ} {q : QZ}
theorem v202 {k : Int} (H : LR w) (h1 : k ≠ 2) (h4 : k < 4) : s202_22 473 k w = r0 w := by
  refine e202_22 H l473 _ ?_
  rw [if_pos h1]
  exact e202_41 H l473 _ (if_neg (by omega))
/-- corners -/
theorem y202a (hT : TK (KT T n) (VT T n) M) (h : RLm T n M w (y, q)) (z : y.1 = 0) (hk : KT T n y.2 = 100) (h1 : ¬ 0 < vn q) (h2 : ¬ vd q = true) :
    ∃ w', F202 473 1 w = r0 w' ∧ RLm T n M w' (rLn (KT T n) (VT T n) (y, q)) ∧ FrN w w' := by
  have hk0 : KT T n y.2 ≠ 0 := by omega
  obtain ⟨hX, hW, hB, hq⟩ := h
  have hB : BM T n M w y.1 y.2 := hB
  obtain ⟨q1, q2⟩ := hq z
  have q1 : RTq w q := q1
  have hQK := QK_rLn (y := y) (q := q) hT q2 hk0
  unfold rLn at hQK ⊢
  dsimp only at hQK ⊢
  rw [if_neg (fun u => u z), if_pos hk, if_neg h1, if_neg h2] at hQK ⊢
  obtain ⟨w1, a1, a2, a3⟩ := h185 (y := y) hT hX hB z hk0
  have X1 := hX.H5 a3
  obtain ⟨w2, v, b1, b2, b3, b4⟩ := h192 (lo := 2) (hi := 6) (y := (0, y.2 + 1)) hT X1 a2
  have X2 := X1.H5 b3
  have f2 := a3.tr b3
  have fw : FrN w2 (pI w2 477 5 v) := FrN.w (by decide) (by decide) (by decide)
  have fi : FrI (fun c => c = 477) w2 (pI w2 477 5 v) := FrI.p rfl
  rw [lGo_0 z] at hQK ⊢
  refine ⟨pI w2 477 5 v, e202 hX.1 l473 _ ?_, ⟨X2.pw (by decide), (hW.H f2).ext (fun c _ _ => by rw [fi.R]), b2.pw (by decide), fun u => ⟨⟨⟨⟨?_, ?_, ?_⟩, fun p hp => absurd (Nat.lt_of_le_of_lt (Nat.zero_le p) hp) h1, fun p hp => absurd (Nat.lt_of_le_of_lt (Nat.zero_le p) hp) h1, ⟨?_, ?_⟩, ⟨?_, ?_⟩⟩, ?_⟩, hQK u⟩⟩, f2.N.tr fw⟩
  · rw [a1, b0_r X1.1, if_neg (by decide), b1, bI_r X2.1, gdi (by decide) (by decide)]
    exact v202 (fi.LR X2.1) (by decide) (by decide)
  · rw [gI_s, b4 u]; rfl
  · rw [gI_c (by decide), f2.1.g (by decide)]; exact q1.1.1.2.1
  · rw [gI_c (by decide), f2.1.g (by decide)]; exact q1.1.1.2.2
  · rw [gI_c (by decide), f2.1.g (by decide)]; exact q1.1.2.2.2.1.1
  · rw [gI_r (by decide), f2.1.g (by decide)]; exact q1.1.2.2.2.1.2
  · rw [gI_c (by decide), f2.1.g (by decide)]; exact q1.1.2.2.2.2.1
  · rw [gI_r (by decide), f2.1.g (by decide)]; exact q1.1.2.2.2.2.2
  · rw [gI_r (by decide), f2.2 28 (by unfold A5; omega)]; exact q1.2
/-- the clock -/
theorem y202b (hT : TK (KT T n) (VT T n) M) (h : RLm T n M w (y, q)) (z : y.1 = 0) (hk : KT T n y.2 = 103) (h2 : ¬ ve q = true) :
    ∃ w', F202 473 2 w = r0 w' ∧ RLm T n M w' (rLn (KT T n) (VT T n) (y, q)) ∧ FrN w w' := by
  have hk0 : KT T n y.2 ≠ 0 := by omega
  obtain ⟨hX, hW, hB, hq⟩ := h
  have hB : BM T n M w y.1 y.2 := hB
  obtain ⟨q1, q2⟩ := hq z
  have q1 : RTq w q := q1
  have hQK := QK_rLn (y := y) (q := q) hT q2 hk0
  unfold rLn at hQK ⊢
  dsimp only at hQK ⊢
  rw [if_neg (fun u => u z), if_neg (by omega), if_neg (by omega), if_pos hk, if_neg h2] at hQK ⊢
  obtain ⟨w1, a1, a2, a3⟩ := h185 (y := y) hT hX hB z hk0
  have X1 := hX.H5 a3
  obtain ⟨w2, v, b1, b2, b3, b4⟩ := h192 (lo := 0) (hi := 59) (y := (0, y.2 + 1)) hT X1 a2
  have X2 := X1.H5 b3
  have f2 := a3.tr b3
  have fw : FrN w2 (pI w2 477 7 v) := FrN.w (by decide) (by decide) (by decide)
  have fi : FrI (fun c => c = 477) w2 (pI w2 477 7 v) := FrI.p rfl
  rw [lGo_0 z] at hQK ⊢
  refine ⟨pI w2 477 7 v, e202 hX.1 l473 _ ?_, ⟨X2.pw (by decide), (hW.H f2).ext (fun c _ _ => by rw [fi.R]), b2.pw (by decide), fun u => ⟨⟨⟨⟨?_, ?_, ?_⟩, fun p hp => ?_, fun p hp => ?_, ⟨?_, ?_⟩, ⟨?_, ?_⟩⟩, ?_⟩, hQK u⟩⟩, f2.N.tr fw⟩
  · rw [a1, b0_r X1.1, if_pos (by decide)]
    refine e202_22 X1.1 l473 _ ?_
    rw [if_neg (by decide), b1, bI_r X2.1, gdi (by decide) (by decide)]
    exact e202_41 (fi.LR X2.1) l473 _ (if_neg (by decide))
  · rw [gI_c (by decide), f2.1.g (by decide)]; exact q1.1.1.1
  · rw [gI_c (by decide), f2.1.g (by decide)]; exact q1.1.1.2.1
  · rw [gI_s, b4 u]; rfl
  · rw [gI_r (by decide), gI_r (by decide), gI_r (by decide), gI_r (by decide), f2.1.g (show ¬ 478 = 473 by decide), f2.1.g (show ¬ 479 = 473 by decide), f2.1.g (show ¬ 480 = 473 by decide), f2.1.g (show ¬ 481 = 473 by decide)]; exact q1.1.2.1 p hp
  · rw [gI_r (by decide), gI_r (by decide), f2.1.g (show ¬ 482 = 473 by decide), f2.1.g (show ¬ 483 = 473 by decide)]; exact q1.1.2.2.1 p hp
  · rw [gI_c (by decide), f2.1.g (by decide)]; exact q1.1.2.2.2.1.1
  · rw [gI_r (by decide), f2.1.g (by decide)]; exact q1.1.2.2.2.1.2
  · rw [gI_c (by decide), f2.1.g (by decide)]; exact q1.1.2.2.2.2.1
  · rw [gI_r (by decide), f2.1.g (by decide)]; exact q1.1.2.2.2.2.2
  · rw [gI_r (by decide), f2.2 28 (by unfold A5; omega)]; exact q1.2
/-- a rule -/
theorem y202c {S : Bool} (hT : TK (KT T n) (VT T n) M) (h : RLm T n M w (y, q)) (z : y.1 = 0) (hk : KT T n y.2 = (if S then 105 else 104)) (h0 : ¬ 0 < (if S then vs q else va q).1) :
    ∃ w', F202 473 (if S then 8 else 4) w = r0 w' ∧ RLm T n M w' (rLn (KT T n) (VT T n) (y, q)) ∧ FrN w w' := by
  have hkk : KT T n y.2 = 104 ∨ KT T n y.2 = 105 := by cases S; exact Or.inl hk; exact Or.inr hk
  have hk0 : KT T n y.2 ≠ 0 := by omega
  obtain ⟨hX, hW, hB, hq⟩ := h
  have hB : BM T n M w y.1 y.2 := hB
  obtain ⟨q1, q2⟩ := hq z
  have q1 : RTq w q := q1
  have hQK := QK_rLn (y := y) (q := q) hT q2 hk0
  have er : rLn (KT T n) (VT T n) (y, q) = (((lEx (KT T n) (VT T n) S y.2).1, (lEx (KT T n) (VT T n) S y.2).2.1), if S then qSa (lEx (KT T n) (VT T n) S y.2).2.2 q else qAs (lEx (KT T n) (VT T n) S y.2).2.2 q) := by
    unfold rLn
    dsimp only
    cases S
    · have hk : KT T n y.2 = 104 := hk
      rw [if_neg (fun u => u z), if_neg (by omega), if_neg (by omega), if_neg (by omega), if_pos hk, if_neg (show ¬ 0 < (va q).1 from h0)]
      rfl
    · have hk : KT T n y.2 = 105 := hk
      rw [if_neg (fun u => u z), if_neg (by omega), if_neg (by omega), if_neg (by omega), if_neg (by omega), if_pos hk, if_neg (show ¬ 0 < (vs q).1 from h0)]
      rfl
  rw [er] at hQK ⊢
  obtain ⟨w1, a1, a2, a3⟩ := h185 (y := y) hT hX hB z hk0
  have X1 := hX.H5 a3
  -- which rule, which words
  obtain ⟨w2, hw2⟩ : ∃ w2, w2 = pR (pI w1 473 27 (b2i S)) 473 3 (some (vaR S)) := ⟨_, rfl⟩
  have fF : FrN w1 (pI w1 473 27 (b2i S)) := FrN.f (by unfold A8; omega)
  have g2 : gI w2 = gI (pI w1 473 27 (b2i S)) := by rw [hw2]; rfl
  have H2 : LR w2 := by rw [hw2]; exact LRp (w := pI w1 473 27 (b2i S)) X1.1 l473 (by decide)
  have r2 : ∀ c, c ≠ 473 → gR w2 c = gR w1 c := fun c hc => by rw [hw2, gR_r hc]; rfl
  have i2 : ∀ i, i ≠ 27 → gI w2 473 i = gI w1 473 i := fun i hi => by rw [g2, gI_c hi]
  have o2 : ∀ c, c ≠ 473 → gI w2 c = gI w1 c := fun c hc => by rw [g2, gI_r hc]
  have X2 : XT w2 T n := X1.ext H2 (i2 19 (by decide)) (o2 488 (by decide))
  have W2 : WDm w2 := (hW.H a3).ext (fun c c1 c2 => r2 c (by omega))
  have B2 : BM T n M w2 0 (y.2 + 1) := a2.ext (fun i hi => i2 i (by omega))
  have hs := sgR_c S
  have hcnt : gI w2 477 (tix S) = ((0 : Nat) : Int) := by
    rw [o2 477 (by decide), a3.1.g (by decide)]
    cases S
    · have h0 : ¬ 0 < (va q).1 := h0
      have : (va q).1 = 0 := by omega
      rw [show tix false = 8 from rfl, q1.1.2.2.2.1.1, this]
    · have h0 : ¬ 0 < (vs q).1 := h0
      have : (vs q).1 = 0 := by omega
      rw [show tix true = 9 from rfl, q1.1.2.2.2.2.1, this]
  have R2 : RMx T n M S w2 1 (0, y.2 + 1, 0, fun _ => 0) := ⟨X2, W2, ⟨by rw [g2, gI_s], by rw [hw2, gR_s]⟩, B2, fun _ => ⟨by show 0 + 1 ≤ y.2 + 1; omega, hcnt, fun i hi => absurd hi (Nat.not_lt_zero _)⟩⟩
  obtain ⟨w3, b1, b2, b3⟩ := y199 (S := S) hT 6 (Nat.le_refl _) w2 0 _ R2
  have b1 : F199 473 0 w2 = r0 w3 := b1
  have b2 : RMx T n M S w3 1 (lEx (KT T n) (VT T n) S y.2) := b2
  have FN2 : FrN w1 w2 := by
    refine ⟨fun c hc => ?_, fun i hi => ?_, fun c i c1 c2 _ => ?_, r2, ?_, ?_, ?_, ?_, ?_⟩
    · exact o2 c (fun e => hc (Or.inl e))
    · exact i2 i (fun e => hi (by unfold A8; omega))
    · rw [o2 c (by omega)]
    all_goals (rw [hw2]; rfl)
  have e81 : F202 473 (if S then 8 else 4) w = r0 w3 := by
    refine e202 hX.1 l473 _ ?_
    rw [a1, b0_r X1.1]
    have hX1 := X1.1
    obtain ⟨l1, l2, l3⟩ := l474
    cases S
    · rw [if_neg (show ¬ false = true by decide), if_pos (by decide)]
      refine e202_22 hX1 l473 _ ?_
      rw [if_pos (by decide)]
      refine e202_41 hX1 l473 _ ?_
      rw [if_pos (by decide), if_pos (by decide), gI_s, if_pos rfl]
      refine e202_81 (w := pI w1 473 27 0) hX1 l473 l2 l473 _ ?_
      rw [show F199 473 0 (pR (pI w1 473 27 0) 473 3 (some (473 + 2))) = r0 w3 by rw [hw2] at b1; exact b1, b0_r b2.H]
    · rw [if_pos rfl, if_pos (by decide)]
      refine e202_22 hX1 l473 _ ?_
      rw [if_pos (by decide)]
      refine e202_41 hX1 l473 _ ?_
      rw [if_pos (by decide), if_neg (by decide), gI_s, if_neg (by decide)]
      refine e202_81 (w := pI w1 473 27 1) hX1 l473 l3 l473 _ ?_
      rw [show F199 473 0 (pR (pI w1 473 27 1) 473 3 (some (473 + 3))) = r0 w3 by rw [hw2] at b1; exact b1, b0_r b2.H]
  refine ⟨w3, e81, ⟨b2.1, b2.2.1, b2.2.2.2.1, fun u => ⟨?_, hQK u⟩⟩, (a3.N.tr FN2).tr b3.N⟩
  obtain ⟨c1, c2, c3⟩ := b2.2.2.2.2 u
  have G : ∀ c, c ≠ 473 → c ≠ 477 → c ≠ sgR S → gI w3 c = gI w c := fun c x1 x2 x3 => by rw [b3.1.g (by omega), o2 c x1, a3.1.g x1]
  have G7 : ∀ i, i ≠ tix S → gI w3 477 i = gI w 477 i := fun i hi => by rw [b3.2.2.1 i hi, o2 477 (by decide), a3.1.g (by decide)]
  have G28 : gI w3 473 28 = gI w 473 28 := by rw [b3.2.1 28 (by unfold A5; omega), i2 28 (by decide), a3.2 28 (by unfold A5; omega)]
  obtain ⟨⟨p1, p2, p3, p4, p5⟩, p6⟩ := q1
  have P2 : ∀ p, p < vn q → gI w3 478 (8 + p) = b2i (vm q p) ∧ gI w3 479 (8 + p) = vL q p ∧ gI w3 480 (8 + p) = vW q p ∧ gI w3 481 (8 + p) = vM q p := fun p hp => by
    rw [G 478 (by decide) (by decide) (by omega), G 479 (by decide) (by decide) (by omega), G 480 (by decide) (by decide) (by omega), G 481 (by decide) (by decide) (by omega)]; exact p2 p hp
  have P3 : ∀ p, p < vn q → gI w3 482 (8 + p) = vX q p ∧ ∀ i, i < vX q p → gI w3 483 (6 * (8 + p) + i) = vw q p i := fun p hp => by
    rw [G 482 (by decide) (by decide) (by omega), G 483 (by decide) (by decide) (by omega)]; exact p3 p hp
  cases S
  · have t8 : tix false = 8 := rfl
    have s4 : sgR false = 484 := rfl
    rw [t8] at c2 G7
    rw [s4] at c3 G
    refine ⟨⟨⟨?_, ?_, ?_⟩, P2, P3, ⟨c2, c3⟩, ⟨?_, ?_⟩⟩, ?_⟩
    · rw [G7 5 (by decide)]; exact p1.1
    · rw [G7 6 (by decide)]; exact p1.2.1
    · rw [G7 7 (by decide)]; exact p1.2.2
    · rw [G7 9 (by decide)]; exact p5.1
    · rw [G 485 (by decide) (by decide) (by decide)]; exact p5.2
    · rw [G28]; exact p6
  · have t8 : tix true = 9 := rfl
    have s4 : sgR true = 485 := rfl
    rw [t8] at c2 G7
    rw [s4] at c3 G
    refine ⟨⟨⟨?_, ?_, ?_⟩, P2, P3, ⟨?_, ?_⟩, ⟨c2, c3⟩⟩, ?_⟩
    · rw [G7 5 (by decide)]; exact p1.1
    · rw [G7 6 (by decide)]; exact p1.2.1
    · rw [G7 7 (by decide)]; exact p1.2.2
    · rw [G7 8 (by decide)]; exact p4.1
    · rw [G 484 (by decide) (by decide) (by decide)]; exact p4.2
    · rw [G28]; exact p6
end LNo
