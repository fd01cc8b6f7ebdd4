/-! the reference reads a line -/
section LNn
variable {T : Row} {n M : Nat} {w : Wd} {y : LZ} {q : QZ}
theorem lCn_bad {K V : Nat → Int} {crn : Int} {k : Nat} (h : y.1 ≠ 0) : lCn K V crn k y = y := if_pos h
theorem lWk_7 {K V : Nat → Int} {crn : Int} (h : y.1 = 0 ∧ isNu (K y.2) = true) : lWk K V crn 7 0 y = lWk K V crn 6 1 (lCn K V crn 0 y) := if_pos h
theorem y200 {j v0 : Nat} (hT : TK (KT T n) (VT T n) M) (hv0 : v0 = vn q) (hv8 : v0 < 8) (hX : XT w T n) (hB : BM T n M w y.1 y.2) (hp : y.1 = 0 → RWq w (VT T n) q j 0 ∧ y.2 = j) :
    ∃ w' m, F200 473 ((8 + v0 : Nat) : Int) w = rI m w' ∧ XT w' T n ∧ BM T n M w' (lWk (KT T n) (VT T n) (vk q) 6 1 (lCn (KT T n) (VT T n) (vk q) 0 y)).1 (lWk (KT T n) (VT T n) (vk q) 6 1 (lCn (KT T n) (VT T n) (vk q) 0 y)).2 ∧ FrN w w' ∧ gI w' 477 = gI w 477 ∧ (∀ c, 478 ≤ c → c ≤ 482 → gI w' c = gI w c) ∧
      ((lWk (KT T n) (VT T n) (vk q) 6 1 (lCn (KT T n) (VT T n) (vk q) 0 y)).1 = 0 → ∃ mn : Nat, m = mn ∧ (lWk (KT T n) (VT T n) (vk q) 6 1 (lCn (KT T n) (VT T n) (vk q) 0 y)).2 = j + mn ∧ (∀ i, i < mn → gI w' 483 (6 * (8 + vn q) + i) = VT T n (j + i)) ∧ (∀ p i, p < vn q → i < vX q p → gI w' 483 (6 * (8 + p) + i) = gI w 483 (6 * (8 + p) + i)) ∧ gI w' 484 = gI w 484 ∧ gI w' 485 = gI w 485 ∧ gI w' 473 28 = 1) := by
  have hh := e200 (a0 := 473) (x1 := ((8 + v0 : Nat) : Int)) hX.1 l473
  by_cases z : y.1 = 0
  · obtain ⟨g1, g2⟩ := hp z
    obtain ⟨m0, m1, m2, m3, m4, m5⟩ := hB.1 z
    by_cases c : isNu (KT T n y.2) = true
    · have ct := isNu_t.mp c
      obtain ⟨w', m, a1, a2, a3, a4, a5, a6, a7⟩ := y200l (j := j) (v0 := v0) hT hv0 hv8 7 0 w y rfl (by decide) hX hB (fun u => ⟨(hp u).1, (hp u).2⟩)
      rw [lWk_7 ⟨z, c⟩] at a3 a7
      refine ⟨w', m, hh _ ?_, a2, a3, a4, a5, a6, fun u => ?_⟩
      · rw [m0, if_neg (by decide), m4, if_pos ct]
        exact a1
      · obtain ⟨mn, d1, d2, d3, d4, d5, d6, d7, d8⟩ := a7 u
        have h1 := lWk_s _ _ _ u
        have h2 := (lCn_2 h1).2
        have h3 := (lWk_b _ _ _ u).1
        refine ⟨mn, d1, d3, d4, d5, d6, d7, ?_⟩
        rw [d8, if_pos]
        clear d8 d4 d5 a1 a2 a3
        omega
    · have el : lCn (KT T n) (VT T n) (vk q) 0 y = (1, y.2) := by
        have c1 : KT T n y.2 ≠ 1 ∧ KT T n y.2 ≠ 2 := by
          unfold isNu at c
          simpa using c
        unfold lCn
        rw [if_neg (fun u => u z), if_pos c1]
      obtain ⟨w1, a1, a2, a3⟩ := h186 (c := 1) (y := y) hX hB (by decide)
      unfold lFl at a2
      rw [if_pos z] at a2
      have hX1 := hX.H5 a3
      rw [el, lWk_bad (show ((1, y.2) : LZ).1 ≠ 0 by show (1 : Int) ≠ 0; decide)]
      refine ⟨w1, 0, hh _ ?_, hX1, a2, a3.N, a3.1.g (by decide), fun c _ _ => a3.1.g (by omega), fun u => absurd (show (1 : Int) = 0 from u) (by decide)⟩
      rw [m0, if_neg (by decide), m4, if_neg (fun u => c (isNu_t.mpr u)), a1, b0_r hX1.1]
      exact v200 hX1.1 (a2.b1 (show (1 : Int) ≠ 0 by decide))
  · rw [lCn_bad z, lWk_bad z]
    refine ⟨w, 0, hh _ ?_, hX, hB, FrN.rf, rfl, fun _ _ _ => rfl, fun u => absurd u z⟩
    rw [if_pos (hB.b1 z)]
    exact v200 hX.1 (hB.b1 z)
theorem e8v {v : Nat} (h : v < 100) : wr (8 + (v : Int)) = ((8 + v : Nat) : Int) := by rw [wrd (by omega) (by omega)]; omega
/-- rows that hold nothing of where the reader stands -/
theorem XT.pw {c i : Nat} {v : Int} (h : XT w T n) (hc : c ≠ 473 ∧ c ≠ 488) : XT (pI w c i v) T n := h.ext h.1 (by rw [gI_r (fun e => hc.1 e.symm)]) (gI_r (fun e => hc.2 e.symm))
theorem BM.pw {c i : Nat} {v : Int} {f : Int} {j : Nat} (h : BM T n M w f j) (hc : c ≠ 473) : BM T n M (pI w c i v) f j := h.ext (fun k _ => by rw [gI_r (fun e => hc e.symm)])
theorem inb10 {i : Nat} {x : Option Out} (h : i < 10) : gd (inb (i : Int) 10) x = x := gdi (Int.natCast_nonneg _) (Int.ofNat_lt.mpr h)
/-- a person -/
theorem y201 {mi : Bool} (hT : TK (KT T n) (VT T n) M) (h : RLm T n M w (y, q)) (z : y.1 = 0) (hk : KT T n y.2 = 101 ∨ KT T n y.2 = 102) (hmi : mi = decide (KT T n y.2 = 102)) :
    ∃ w', F201 473 (b2i mi) w = r0 w' ∧ RLm T n M w' (rLn (KT T n) (VT T n) (y, q)) ∧ FrN w w' := by
  have hk0 : KT T n y.2 ≠ 0 := by omega
  have hk1 : KT T n y.2 ≠ 100 := by omega
  obtain ⟨hX, hW, hB, hq⟩ := h
  have hB : BM T n M w y.1 y.2 := hB
  obtain ⟨q1, q2⟩ := hq z
  have q1 : RTq w q := q1
  have q2 : QK q := q2
  have hQK := QK_rLn (y := y) (q := q) hT q2 hk0
  have m0 := (hB.1 z).1
  have g6 : gI w 477 6 = vn q := q1.1.1.2.1
  unfold rLn at hQK ⊢
  dsimp only at hQK ⊢
  rw [if_neg (fun u => u z), if_neg hk1, if_pos hk] at hQK ⊢
  by_cases c8 : vn q = 8
  · rw [if_pos c8]
    obtain ⟨w1, a1, a2, a3⟩ := h186 (c := 2) (y := y) hX hB (by decide)
    unfold lFl at a2
    rw [if_pos z] at a2
    have hX1 := hX.H5 a3
    refine ⟨w1, e201 hX.1 l473 _ ?_, ⟨hX1, hW.H a3, a2, fun u => absurd (show (2 : Int) = 0 from u) (by decide)⟩, a3.N⟩
    rw [gdi (by decide) (by decide), show (473 + 4 : Nat) = 477 from rfl, g6, c8, if_neg (by decide), a1, b0_r hX1.1]
    exact e201_17 hX1.1 l473 _ (if_neg (a2.b1 (show (2 : Int) ≠ 0 by decide)))
  · rw [if_neg c8] at hQK ⊢
    have hv8 : vn q < 8 := by have := q2.1; omega
    obtain ⟨P, hP⟩ : ∃ P, P = 8 + vn q := ⟨_, rfl⟩
    have hP16 : P < 16 := by omega
    have gP : ∀ x : Option Out, gd (inb ((P : Nat) : Int) 16) x = x := fun x => gdi (Int.natCast_nonneg _) (Int.ofNat_lt.mpr hP16)
    obtain ⟨w2, a1, a2, a3⟩ := h185 (y := y) hT hX hB z hk0
    have hX2 := hX.H5 a3
    have g6b : gI w2 477 6 = vn q := by rw [a3.1.g (by decide)]; exact g6
    have eP : wr (8 + gI w2 477 6) = (P : Int) := by rw [g6b, e8v (Nat.lt_trans hv8 (by decide)), hP]
    -- what each row becomes
    have X3 := hX2.pw (c := 478) (i := P) (v := b2i mi) (by decide)
    have B3 := a2.pw (c := 478) (i := P) (v := b2i mi) (by decide)
    obtain ⟨w4, L, b1, b2, b3, b4⟩ := h192 (lo := 0) (hi := 999) (y := (0, y.2 + 1)) hT X3 B3
    have X4 := X3.H5 b3
    have X5 := X4.pw (c := 479) (i := P) (v := L) (by decide)
    have B5 := b2.pw (c := 479) (i := P) (v := L) (by decide)
    obtain ⟨w6, W, c1, c2, c3, c4⟩ := h192 (lo := 0) (hi := 59) hT X5 B5
    have X6 := X5.H5 c3
    have X7 := X6.pw (c := 480) (i := P) (v := W) (by decide)
    have B7 := c2.pw (c := 480) (i := P) (v := W) (by decide)
    obtain ⟨w8, Mn, d1, d2, d3, d4⟩ := h192 (lo := 0) (hi := 9) hT X7 B7
    have X8 := X7.H5 d3
    have X9 := X8.pw (c := 481) (i := P) (v := Mn) (by decide)
    have B9 := d2.pw (c := 481) (i := P) (v := Mn) (by decide)
    have el : lGo y = (0, y.2 + 1) := lGo_0 z
    -- the frame up to the walk
    have hu : 8 ≤ P := by omega
    have F3 : FrN w2 (pI w2 478 P (b2i mi)) := FrN.w (by decide) (by decide) hu
    have F5 : FrN w4 (pI w4 479 P L) := FrN.w (by decide) (by decide) hu
    have F7 : FrN w6 (pI w6 480 P W) := FrN.w (by decide) (by decide) hu
    have F9 : FrN w8 (pI w8 481 P Mn) := FrN.w (by decide) (by decide) hu
    have FN : FrN w (pI w8 481 P Mn) := (((((((a3.N).tr F3).tr b3.N).tr F5).tr c3.N).tr F7).tr d3.N).tr F9
    have r478 : gI (pI w8 481 P Mn) 478 = va_up (gI w 478) P (b2i mi) := by
      rw [gI_r (by decide), d3.1.g (by decide), gI_r (by decide), c3.1.g (by decide), gI_r (by decide), b3.1.g (by decide), gI_p, a3.1.g (by decide)]
    have r479 : gI (pI w8 481 P Mn) 479 = va_up (gI w 479) P L := by
      rw [gI_r (by decide), d3.1.g (by decide), gI_r (by decide), c3.1.g (by decide), gI_p, b3.1.g (by decide), gI_r (by decide), a3.1.g (by decide)]
    have r480 : gI (pI w8 481 P Mn) 480 = va_up (gI w 480) P W := by
      rw [gI_r (by decide), d3.1.g (by decide), gI_p, c3.1.g (by decide), gI_r (by decide), b3.1.g (by decide), gI_r (by decide), a3.1.g (by decide)]
    have r481 : gI (pI w8 481 P Mn) 481 = va_up (gI w 481) P Mn := by
      rw [gI_p, d3.1.g (by decide), gI_r (by decide), c3.1.g (by decide), gI_r (by decide), b3.1.g (by decide), gI_r (by decide), a3.1.g (by decide)]
    have ro : ∀ c, c ≠ 473 → (c < 478 ∨ 481 < c) → gI (pI w8 481 P Mn) c = gI w c := fun c x1 x2 => by
      rw [gI_r (by omega), d3.1.g x1, gI_r (by omega), c3.1.g x1, gI_r (by omega), b3.1.g x1, gI_r (by omega), a3.1.g x1]
    obtain ⟨w10, m, f1, f2, f3, f4, f5, f6, f7⟩ := y200 (j := y.2 + 4) (v0 := vn q) (q := q) hT rfl hv8 X9 B9 (fun u => by
      obtain ⟨u1, u2⟩ := lNm_s u
      obtain ⟨u3, u4⟩ := lNm_s u1
      obtain ⟨u5, u6⟩ := lNm_s u3
      refine ⟨⟨q1.1.ext (fun i _ _ => by rw [ro 477 (by decide) (by decide)]) (fun c p x1 x2 hp => ?_) (fun p i _ _ => by rw [ro 483 (by decide) (by decide)]) ⟨ro 484 (by decide) (by decide), ro 485 (by decide) (by decide)⟩, hv8, fun p hp => (q2.2.2.2.2.2.1 p hp).1.2, fun i hi => absurd hi (Nat.not_lt_zero _)⟩, by rw [u2, u4, u6]⟩
      have hne : 8 + p ≠ P := by omega
      have hc : c = 478 ∨ c = 479 ∨ c = 480 ∨ c = 481 ∨ c = 482 := by omega
      rcases hc with rfl | rfl | rfl | rfl | rfl
      · rw [r478, up_c hne]
      · rw [r479, up_c hne]
      · rw [r480, up_c hne]
      · rw [r481, up_c hne]
      · rw [ro 482 (by decide) (by decide)])
    rw [← hP] at f1
    have g6c : gI (pI w10 482 P m) 477 6 = vn q := by rw [gI_r (by decide), f5, ro 477 (by decide) (by decide)]; exact g6
    have F11 : FrN w10 (pI (pI w10 482 P m) 477 6 ((vn q + 1 : Nat) : Int)) := (FrN.w (by decide) (by decide) hu).tr (FrN.w (by decide) (by decide) (by decide))
    have XL := (f2.pw (c := 482) (i := P) (v := m) (by decide)).pw (c := 477) (i := 6) (v := ((vn q + 1 : Nat) : Int)) (by decide)
    have BL := (f3.pw (c := 482) (i := P) (v := m) (by decide)).pw (c := 477) (i := 6) (v := ((vn q + 1 : Nat) : Int)) (by decide)
    have hlp : lPe (KT T n) (VT T n) (vk q) y = lWk (KT T n) (VT T n) (vk q) 6 1 (lCn (KT T n) (VT T n) (vk q) 0 (lNm (KT T n) (VT T n) 0 9 (lNm (KT T n) (VT T n) 0 59 (lNm (KT T n) (VT T n) 0 999 (0, y.2 + 1))))) := by unfold lPe; rw [el]
    have e6 : wr ((vn q : Int) + 1) = ((vn q + 1 : Nat) : Int) := wrs (Nat.lt_trans hv8 (by decide))
    have hs : (lPe (KT T n) (VT T n) (vk q) y).1 = 0 → (L = VT T n (y.2 + 1) ∧ W = VT T n (y.2 + 2) ∧ Mn = VT T n (y.2 + 3)) ∧ ∃ mn : Nat, m = mn ∧ (lPe (KT T n) (VT T n) (vk q) y).2 - (y.2 + 4) = mn ∧ (∀ i, i < mn → gI w10 483 (6 * (8 + vn q) + i) = VT T n (y.2 + 4 + i)) ∧ (∀ p i, p < vn q → i < vX q p → gI w10 483 (6 * (8 + p) + i) = gI w 483 (6 * (8 + p) + i)) ∧ gI w10 484 = gI w 484 ∧ gI w10 485 = gI w 485 ∧ gI w10 473 28 = 1 := by
      intro u
      rw [hlp] at u ⊢
      have u1 := lCn_s (lWk_s _ _ _ u)
      obtain ⟨x1, x2⟩ := lNm_s u1
      obtain ⟨x3, x4⟩ := lNm_s x1
      obtain ⟨x5, x6⟩ := lNm_s x3
      have x6 : (lNm (KT T n) (VT T n) 0 999 (0, y.2 + 1)).2 = y.2 + 1 + 1 := x6
      obtain ⟨mn, k1, k2, k3, k4, k5, k6, k7⟩ := f7 u
      refine ⟨⟨b4 x3, by rw [c4 x1, x6], by rw [d4 u1, x4, x6]⟩, mn, k1, by rw [k2]; exact Nat.add_sub_cancel_left _ _, k3, fun p i p1 p2 => by rw [k4 p i p1 p2, ro 483 (by decide) (by decide)], by rw [k5, ro 484 (by decide) (by decide)], by rw [k6, ro 485 (by decide) (by decide)], k7⟩
    have gx : ∀ c, c ≠ 477 → c ≠ 482 → gI (pI (pI w10 482 P m) 477 6 ((vn q + 1 : Nat) : Int)) c = gI w10 c := fun c x1 x2 => by rw [gI_r x1, gI_r x2]
    refine ⟨pI (pI w10 482 P m) 477 6 ((vn q + 1 : Nat) : Int), e201 hX.1 l473 _ ?_, ⟨XL, ?_, by rw [hlp]; exact BL, fun u => ⟨⟨⟨⟨?_, ?_, ?_⟩, fun p hp => ?_, fun p hp => ?_, ⟨?_, ?_⟩, ⟨?_, ?_⟩⟩, ?_⟩, hQK u⟩⟩, (FN.tr f4).tr F11⟩
    · have hn8 : ¬ (vn q : Int) = 8 := by
        intro hh
        exact c8 (by exact_mod_cast hh)
      rw [gdi (by decide) (by decide), show (473 + 4 : Nat) = 477 from rfl, g6, if_pos hn8]
      refine e201_17 hX.1 l473 _ ?_
      rw [m0, if_pos rfl, a1, b0_r hX2.1, gdi (by decide) (by decide), show (473 + 4 : Nat) = 477 from rfl, eP, gP, nn, show (473 + 5 : Nat) = 478 from rfl, b1, bI_r X4.1, gP, show (473 + 6 : Nat) = 479 from rfl, c1, bI_r X6.1, gP, show (473 + 7 : Nat) = 480 from rfl, d1, bI_r X8.1, gP, show (473 + 8 : Nat) = 481 from rfl, f1, bI_r f2.1, gP, gdi (by decide) (by decide), gdi (by decide) (by decide), show (473 + 9 : Nat) = 482 from rfl, g6c, e6]
    · refine hW.ext (fun c c1 c2 => ?_)
      rw [F11.2.2.2.1 c (by omega), f4.2.2.2.1 c (by omega), FN.2.2.2.1 c (by omega)]
    · rw [gI_c (by decide), gI_r (by decide), f5, ro 477 (by decide) (by decide)]; exact q1.1.1.1
    · rw [gI_s]; rfl
    · rw [gI_c (by decide), gI_r (by decide), f5, ro 477 (by decide) (by decide)]; exact q1.1.1.2.2
    · obtain ⟨⟨eL, eW, eM⟩, -⟩ := hs u
      have hp : p < vn q + 1 := hp
      rw [gx 478 (by decide) (by decide), gx 479 (by decide) (by decide), gx 480 (by decide) (by decide), gx 481 (by decide) (by decide), f6 478 (by decide) (by decide), f6 479 (by decide) (by decide), f6 480 (by decide) (by decide), f6 481 (by decide) (by decide), r478, r479, r480, r481]
      show va_up (gI w 478) P (b2i mi) (8 + p) = b2i (if p = vn q then decide (KT T n y.2 = 102) else vm q p) ∧ va_up (gI w 479) P L (8 + p) = va_up (vL q) (vn q) (VT T n (y.2 + 1)) p ∧ va_up (gI w 480) P W (8 + p) = va_up (vW q) (vn q) (VT T n (y.2 + 2)) p ∧ va_up (gI w 481) P Mn (8 + p) = va_up (vM q) (vn q) (VT T n (y.2 + 3)) p
      by_cases o : p = vn q
      · have e8 : 8 + p = P := by rw [hP, o]
        rw [e8, up_s, up_s, up_s, up_s, if_pos o, o, up_s, up_s, up_s, eL, eW, eM, hmi]
        exact ⟨rfl, rfl, rfl, rfl⟩
      · have hne : 8 + p ≠ P := by omega
        rw [up_c hne, up_c hne, up_c hne, up_c hne, if_neg o, up_c o, up_c o, up_c o]
        exact q1.1.2.1 p (by omega)
    · obtain ⟨-, mn, k1, k2, k3, k4, -, -, -⟩ := hs u
      have hp : p < vn q + 1 := hp
      rw [gx 483 (by decide) (by decide), k2]
      show gI (pI (pI w10 482 P m) 477 6 ((vn q + 1 : Nat) : Int)) 482 (8 + p) = ((va_up (vX q) (vn q) mn p : Nat) : Int) ∧ ∀ i, i < va_up (vX q) (vn q) mn p → gI w10 483 (6 * (8 + p) + i) = va_up (vw q) (vn q) (fun i => VT T n (y.2 + 4 + i)) p i
      rw [gI_r (by decide)]
      by_cases o : p = vn q
      · have e8 : 8 + p = P := by rw [hP, o]
        rw [e8, gI_s, o, up_s, up_s]
        refine ⟨k1, fun i hi => ?_⟩
        rw [hP]
        exact k3 i hi
      · have hne : 8 + p ≠ P := by omega
        rw [gI_c hne, up_c o, up_c o, f6 482 (by decide) (by decide), ro 482 (by decide) (by decide)]
        obtain ⟨x1, x2⟩ := q1.1.2.2.1 p (by omega)
        exact ⟨x1, fun i hi => by rw [k4 p i (by omega) hi]; exact x2 i hi⟩
    · rw [gI_c (by decide), gI_r (by decide), f5, ro 477 (by decide) (by decide)]; exact q1.1.2.2.2.1.1
    · obtain ⟨-, mn, -, -, -, -, k5, -, -⟩ := hs u
      rw [gx 484 (by decide) (by decide), k5]; exact q1.1.2.2.2.1.2
    · rw [gI_c (by decide), gI_r (by decide), f5, ro 477 (by decide) (by decide)]; exact q1.1.2.2.2.2.1
    · obtain ⟨-, mn, -, -, -, -, -, k6, -⟩ := hs u
      rw [gx 485 (by decide) (by decide), k6]; exact q1.1.2.2.2.2.2
    · obtain ⟨-, mn, -, -, -, -, -, -, k7⟩ := hs u
      rw [gx 473 (by decide) (by decide), k7]
      show (1 : Int) = b2i (decide (0 < vn q + 1))
      rw [decide_eq_true (Nat.succ_pos _)]
      rfl
end LNn
