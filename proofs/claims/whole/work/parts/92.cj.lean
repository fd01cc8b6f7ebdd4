/-! the class reads lines; a whole text -/
theorem FrR.L {t : Nat} {S : Bool} {w w' : Wd} (f : FrR t S w w') (ht : tOK t) : FrL t w w' := f.1.L ht (fun c hc => by unfold rho at hc; cases S <;> simp at hc <;> omega)
theorem pR_L {t : Nat} {w : Wd} {r : Option Nat} : FrL t w (pR w 12 2 r) := ⟨fun _ _ _ => rfl, fun c hc => gR_r hc, fun i hi => gR_c hi, rfl, rfl, rfl, rfl, rfl, fun _ _ => ⟨rfl, rfl, rfl⟩⟩
section LO
variable {T : Row} {n M t : Nat} {w : Wd} {y : LZ} {q : QZ}
theorem z63 (H : LR w) {a : Nat} (hl : (lay a).1 = 6) {c : Nat} (h : gI w a 1 = c) : F63 a w = rI (b2i (decide (0 < c))) w := by
  refine e63 H hl _ ?_
  rw [h]
  by_cases z : 0 < c
  · rw [if_neg (by omega), decide_eq_true z]; rfl
  · rw [if_pos (by omega), decide_eq_false z]; rfl
theorem RLz.bad {w' : Wd} {q' : QZ} {y' : LZ} (h : RY T n M t w' y') (hz : y'.1 ≠ 0) : RLz T n M t w' (y', q') := ⟨h, fun z => absurd z hz⟩
theorem RLz.fl {c : Int} (h : RLz T n M t w (y, q)) (ht : tOK t) (z : y.1 = 0) (hc : c ≠ 0) : ∃ w', F41 12 c w = r0 w' ∧ RLz T n M t w' ((c, y.2), q) ∧ FrL t w w' := by
  obtain ⟨w', a1, a2, a3⟩ := z41 (y := y) h.1 hc
  unfold lFl at a2
  rw [if_pos z] at a2
  exact ⟨w', a1, RLz.bad a2 hc, a3.L ht⟩
/-- a rule -/
theorem z52 {S : Bool} (hT : TK (KT T n) (VT T n) M) (ht : tOK t) (h : RLz T n M t w (y, q)) (z : y.1 = 0) (hk : KT T n y.2 ≠ 0) (h0 : (if S then vs q else va q).1 = 0) :
    ∃ w', F52 12 (rho t S) w = r0 w' ∧ RLz T n M t w' (((lEx (KT T n) (VT T n) S y.2).1, (lEx (KT T n) (VT T n) S y.2).2.1), if S then qSa (lEx (KT T n) (VT T n) S y.2).2.2 q else qAs (lEx (KT T n) (VT T n) S y.2).2.2 q) ∧ FrL t w w' := by
  have ht' : t = 2 ∨ t = 17 := ht
  have hl := lrho (S := S) ht
  obtain ⟨hY, hQ⟩ := h
  have hY : RY T n M t w y := hY
  obtain ⟨q1, q2, q3⟩ := hQ z
  have q1 : RQz w t q := q1
  have e0 : gI w (rho t S) 1 = ((0 : Nat) : Int) := by
    unfold rho
    cases S
    · have h0 : (va q).1 = 0 := h0
      rw [if_neg (by decide), q1.2.2.2.1.1, h0]
    · have h0 : (vs q).1 = 0 := h0
      rw [if_pos rfl, q1.2.2.2.2.1.1, h0]
  obtain ⟨s1, s2, s3, s4, s5, s6, s7⟩ := hY
  have HP : LR (pR w 12 2 (some (rho t S))) := LRp s1 l12 (by decide)
  have hY1 : RY T n M t (pR w 12 2 (some (rho t S))) y := ⟨HP, s2, by rw [gR_c (by decide)]; exact s3, s4, s5, s6, s7⟩
  obtain ⟨w1, a1, a2, a3⟩ := z42 hT hY1 (fun _ => hk)
  rw [lGo_0 z] at a2
  obtain ⟨b1, b2, b3, b4, b5, b6, b7⟩ := a2
  have hX : RX T n M t S w1 1 (0, y.2 + 1, 0, fun _ => 0) := ⟨b1, b2, ⟨b3, by rw [a3.1.R, gR_s]⟩, b4, b5, b6, b7, fun _ => ⟨by show 0 + 1 ≤ y.2 + 1; omega, by
    have := rho_b (S := S) ht
    rw [a3.1.g (by omega)]
    exact e0, fun i hi => absurd hi (Nat.not_lt_zero _)⟩⟩
  obtain ⟨w2, c1, c2, c3⟩ := q53 (S := S) hT ht 6 (Nat.le_refl _) w1 0 _ hX
  have FL : FrL t w w2 := (pR_L.tr (a3.L ht)).tr (c3.L ht)
  have e53' : F53 12 0 w1 = r0 w2 := c1
  refine ⟨w2, e52 s1 l12 hl _ ?_, ⟨?_, fun u => ?_⟩, FL⟩
  · rw [z63 s1 hl e0, bI_r s1, if_pos (by decide), a1, b0_r b1, e53', b0_r c2.1]
  · obtain ⟨d1, d2, d3, d4, d5, d6, d7, d8⟩ := c2
    exact ⟨d1, d2, d3.1, d4, d5, d6, d7⟩
  · have u : (lEx (KT T n) (VT T n) S y.2).1 = 0 := u
    obtain ⟨d1, d2, d3, d4, d5, d6, d7, d8⟩ := c2
    have d8 := d8 u
    have g : ∀ c, c ≠ 12 → c ≠ rho t S → c ≠ rho t S + 1 → gI w2 c = gI w c := fun c x1 x2 x3 => by
      rw [c3.1.g (by omega), a3.1.g (by omega), gI_pR]
    have g12 : ∀ i, i = 7 ∨ i = 8 → gI w2 12 i = gI w 12 i := fun i hi => by rw [c3.2 i (by omega) (by omega) (by omega), a3.2 i (by omega) (by omega) (by omega), gI_pR]
    obtain ⟨p1, p2, p3, p4, p5, p6, p7⟩ := q1
    cases S
    · have er : rho t false = t + 6 := rfl
      rw [er] at g d8
      refine ⟨⟨?_, ?_, ?_, ⟨d8.2.1, d8.2.2⟩, ?_, by rw [g12 7 (Or.inl rfl)]; exact p6, by rw [g12 8 (Or.inr rfl)]; exact p7⟩, q2, fun p x1 x2 => by rw [g (t + 4) (by omega) (by omega) (by omega)]; exact q3 p x1 x2⟩
      · rw [g t (by omega) (by omega) (by omega)]; exact p1
      · rw [g (t + 1) (by omega) (by omega) (by omega), g (t + 2) (by omega) (by omega) (by omega), g (t + 3) (by omega) (by omega) (by omega)]; exact p2
      · rw [g (t + 4) (by omega) (by omega) (by omega), g (t + 5) (by omega) (by omega) (by omega)]; exact p3
      · rw [g (t + 8) (by omega) (by omega) (by omega), g (t + 9) (by omega) (by omega) (by omega)]; exact p5
    · have er : rho t true = t + 8 := rfl
      rw [er] at g d8
      refine ⟨⟨?_, ?_, ?_, ?_, ⟨d8.2.1, d8.2.2⟩, by rw [g12 7 (Or.inl rfl)]; exact p6, by rw [g12 8 (Or.inr rfl)]; exact p7⟩, q2, fun p x1 x2 => by rw [g (t + 4) (by omega) (by omega) (by omega)]; exact q3 p x1 x2⟩
      · rw [g t (by omega) (by omega) (by omega)]; exact p1
      · rw [g (t + 1) (by omega) (by omega) (by omega), g (t + 2) (by omega) (by omega) (by omega), g (t + 3) (by omega) (by omega) (by omega)]; exact p2
      · rw [g (t + 4) (by omega) (by omega) (by omega), g (t + 5) (by omega) (by omega) (by omega)]; exact p3
      · rw [g (t + 6) (by omega) (by omega) (by omega), g (t + 7) (by omega) (by omega) (by omega)]; exact p4
theorem z52n {S : Bool} (ht : tOK t) (h : RLz T n M t w (y, q)) (z : y.1 = 0) (h0 : 0 < (if S then vs q else va q).1) :
    ∃ w', F52 12 (rho t S) w = r0 w' ∧ RLz T n M t w' ((5, y.2), q) ∧ FrL t w w' := by
  have hl := lrho (S := S) ht
  have q1 : RQz w t q := (h.2 z).1
  have e0 : gI w (rho t S) 1 = ((if S then vs q else va q).1 : Int) := by
    unfold rho
    cases S
    · rw [if_neg (by decide)]; exact q1.2.2.2.1.1
    · rw [if_pos rfl]; exact q1.2.2.2.2.1.1
  obtain ⟨w', a1, a2, a3⟩ := h.fl (c := 5) ht z (by decide)
  refine ⟨w', e52 h.1.1 l12 hl _ ?_, a2, a3⟩
  rw [z63 h.1.1 hl e0, bI_r h.1.1, decide_eq_true h0, if_neg (by decide), a1, b0_r a2.1.1]
/-- corners -/
theorem z48 (hT : TK (KT T n) (VT T n) M) (ht : tOK t) (h : RLz T n M t w (y, q)) (z : y.1 = 0) (hk : KT T n y.2 = 100) :
    ∃ w', F48 12 w = r0 w' ∧ RLz T n M t w' (rLn (KT T n) (VT T n) (y, q)) ∧ FrL t w w' := by
  have ht' : t = 2 ∨ t = 17 := ht
  have hY : RY T n M t w y := h.1
  obtain ⟨q1, q2, q3⟩ := h.2 z
  have q1 : RQz w t q := q1
  have hh := e48 (a0 := 12) hY.1 l12
  unfold rLn
  dsimp only
  rw [if_neg (fun u => u z), if_pos hk]
  by_cases c1 : 0 < vn q
  · obtain ⟨w', a1, a2, a3⟩ := h.fl (c := 4) ht z (by decide)
    rw [if_pos c1]
    refine ⟨w', hh _ ?_, a2, a3⟩
    rw [hY.2.2.1, gQ_t (lt4 ht), q1.1.2.1, if_neg (by omega), a1, b0_r a2.1.1]
  rw [if_neg c1]
  by_cases c2 : vd q = true
  · obtain ⟨w', a1, a2, a3⟩ := h.fl (c := 5) ht z (by decide)
    rw [if_pos c2]
    refine ⟨w', hh _ ?_, a2, a3⟩
    rw [hY.2.2.1, gQ_t (lt4 ht), q1.1.2.1, if_pos (by omega), q1.2.2.2.2.2.1, c2, if_neg (by decide), a1, b0_r a2.1.1]
  rw [if_neg c2]
  have c2 : vd q = false := by simpa using c2
  obtain ⟨s1, s2, s3, s4, s5, s6, s7⟩ := hY
  have hY1 : RY T n M t (pI w 12 7 1) y := ⟨s1, s2.ext (fun b b1 b2 => gI_r (by omega)), s3, by rw [gI_c (by decide)]; exact s4, by rw [gI_c (by decide)]; exact s5, by rw [gI_c (by decide)]; exact s6, s7⟩
  obtain ⟨w1, a1, a2, a3⟩ := z42 hT hY1 (fun _ => by omega)
  obtain ⟨w2, v, b1, b2, b3, b4⟩ := z46 (lo := 2) (hi := 6) hT a2
  have f2 := a3.tr b3
  have fz : FrI (fun c => c = t) w2 (pI w2 t 0 v) := FrI.p rfl
  obtain ⟨d1, d2, d3, d4, d5, d6, d7⟩ := b2
  have g12 : gI (pI w2 t 0 v) 12 = gI w2 12 := fz.g (by omega)
  have hY2 : RY T n M t (pI w2 t 0 v) (lNm (KT T n) (VT T n) 2 6 (lGo y)) := ⟨d1, d2.ext (fun b b1 b2 => fz.g (by omega)), d3, by rw [g12]; exact d4, by rw [g12]; exact d5, by rw [g12]; exact d6, d7⟩
  have f0 : FrI (fun c => c = 12) w (pI w 12 7 1) := FrI.p rfl
  refine ⟨pI w2 t 0 v, hh _ ?_, ⟨hY2, fun u => ?_⟩, ((f0.L ht (fun c hc => Or.inl hc)).tr (f2.L ht)).tr (fz.L ht (fun c hc => Or.inr (Or.inl hc)))⟩
  · rw [s3, gQ_t (lt4 ht), q1.1.2.1, if_pos (by omega), q1.2.2.2.2.2.1, c2, if_pos (by decide), a1, b0_r a2.1, a2.2.2.1, gQ_t (lt4 ht), b1, bI_r d1]
  · obtain ⟨u1, u2, u3, u4⟩ := b4 u
    have ev : v = VT T n (y.2 + 1) := by rw [u2, lGo_0 z]
    have g : ∀ c, c ≠ 12 → c ≠ t → gI (pI w2 t 0 v) c = gI w c := fun c x1 x2 => by rw [fz.g x2, f2.1.g x1, gI_r x1]
    have gt : ∀ i, i ≠ 0 → gI (pI w2 t 0 v) t i = gI w t i := fun i hi => by rw [gI_c hi, f2.1.g (by omega), gI_r (by omega)]
    obtain ⟨p1, p2, p3, p4, p5, p6, p7⟩ := q1
    refine ⟨⟨⟨by rw [gI_s, ev]; rfl, by rw [gt 1 (by decide)]; exact p1.2.1, by rw [gt 2 (by decide)]; exact p1.2.2.1, by rw [gt 3 (by decide)]; exact p1.2.2.2⟩, ?_, ?_, ?_, ?_, ?_, ?_⟩, q2, fun p x1 x2 => by rw [g (t + 4) (by omega) (by omega)]; exact q3 p x1 x2⟩
    · rw [g (t + 1) (by omega) (by omega), g (t + 2) (by omega) (by omega), g (t + 3) (by omega) (by omega)]; exact p2
    · rw [g (t + 4) (by omega) (by omega), g (t + 5) (by omega) (by omega)]; exact p3
    · rw [g (t + 6) (by omega) (by omega), g (t + 7) (by omega) (by omega)]; exact p4
    · rw [g (t + 8) (by omega) (by omega), g (t + 9) (by omega) (by omega)]; exact p5
    · rw [g12, f2.2 7 (by decide) (by decide) (by decide), gI_s]; rfl
    · rw [g12, f2.2 8 (by decide) (by decide) (by decide), gI_c (by decide)]; exact p7
/-- the clock -/
theorem z49 (hT : TK (KT T n) (VT T n) M) (ht : tOK t) (h : RLz T n M t w (y, q)) (z : y.1 = 0) (hk : KT T n y.2 = 103) :
    ∃ w', F49 12 w = r0 w' ∧ RLz T n M t w' (rLn (KT T n) (VT T n) (y, q)) ∧ FrL t w w' := by
  have ht' : t = 2 ∨ t = 17 := ht
  have hY : RY T n M t w y := h.1
  obtain ⟨q1, q2, q3⟩ := h.2 z
  have q1 : RQz w t q := q1
  have hh := e49 (a0 := 12) hY.1 l12
  unfold rLn
  dsimp only
  rw [if_neg (fun u => u z), if_neg (by omega), if_neg (by omega), if_pos hk]
  by_cases c2 : ve q = true
  · obtain ⟨w', a1, a2, a3⟩ := h.fl (c := 5) ht z (by decide)
    rw [if_pos c2]
    refine ⟨w', hh _ ?_, a2, a3⟩
    rw [q1.2.2.2.2.2.2, c2, if_neg (by decide), a1, b0_r a2.1.1]
  rw [if_neg c2]
  have c2 : ve q = false := by simpa using c2
  obtain ⟨s1, s2, s3, s4, s5, s6, s7⟩ := hY
  have hY1 : RY T n M t (pI w 12 8 1) y := ⟨s1, s2.ext (fun b b1 b2 => gI_r (by omega)), s3, by rw [gI_c (by decide)]; exact s4, by rw [gI_c (by decide)]; exact s5, by rw [gI_c (by decide)]; exact s6, s7⟩
  obtain ⟨w1, a1, a2, a3⟩ := z42 hT hY1 (fun _ => by omega)
  obtain ⟨w2, v, b1, b2, b3, b4⟩ := z46 (lo := 0) (hi := 59) hT a2
  have f2 := a3.tr b3
  have fz : FrI (fun c => c = t) w2 (pI w2 t 2 v) := FrI.p rfl
  obtain ⟨d1, d2, d3, d4, d5, d6, d7⟩ := b2
  have g12 : gI (pI w2 t 2 v) 12 = gI w2 12 := fz.g (by omega)
  have hY2 : RY T n M t (pI w2 t 2 v) (lNm (KT T n) (VT T n) 0 59 (lGo y)) := ⟨d1, d2.ext (fun b b1 b2 => fz.g (by omega)), d3, by rw [g12]; exact d4, by rw [g12]; exact d5, by rw [g12]; exact d6, d7⟩
  have f0 : FrI (fun c => c = 12) w (pI w 12 8 1) := FrI.p rfl
  refine ⟨pI w2 t 2 v, hh _ ?_, ⟨hY2, fun u => ?_⟩, ((f0.L ht (fun c hc => Or.inl hc)).tr (f2.L ht)).tr (fz.L ht (fun c hc => Or.inr (Or.inl hc)))⟩
  · rw [q1.2.2.2.2.2.2, c2, if_pos (by decide), a1, b0_r a2.1, a2.2.2.1, gQ_t (lt4 ht), b1, bI_r d1]
  · obtain ⟨u1, u2, u3, u4⟩ := b4 u
    have ev : v = VT T n (y.2 + 1) := by rw [u2, lGo_0 z]
    have g : ∀ c, c ≠ 12 → c ≠ t → gI (pI w2 t 2 v) c = gI w c := fun c x1 x2 => by rw [fz.g x2, f2.1.g x1, gI_r x1]
    have gt : ∀ i, i ≠ 2 → gI (pI w2 t 2 v) t i = gI w t i := fun i hi => by rw [gI_c hi, f2.1.g (by omega), gI_r (by omega)]
    obtain ⟨p1, p2, p3, p4, p5, p6, p7⟩ := q1
    refine ⟨⟨⟨by rw [gt 0 (by decide)]; exact p1.1, by rw [gt 1 (by decide)]; exact p1.2.1, by rw [gI_s, ev]; rfl, by rw [gt 3 (by decide)]; exact p1.2.2.2⟩, ?_, ?_, ?_, ?_, ?_, ?_⟩, q2, fun p x1 x2 => by rw [g (t + 4) (by omega) (by omega)]; exact q3 p x1 x2⟩
    · rw [g (t + 1) (by omega) (by omega), g (t + 2) (by omega) (by omega), g (t + 3) (by omega) (by omega)]; exact p2
    · rw [g (t + 4) (by omega) (by omega), g (t + 5) (by omega) (by omega)]; exact p3
    · rw [g (t + 6) (by omega) (by omega), g (t + 7) (by omega) (by omega)]; exact p4
    · rw [g (t + 8) (by omega) (by omega), g (t + 9) (by omega) (by omega)]; exact p5
    · rw [g12, f2.2 7 (by decide) (by decide) (by decide), gI_c (by decide)]; exact p6
    · rw [g12, f2.2 8 (by decide) (by decide) (by decide), gI_s]; rfl
theorem z47 (hT : TK (KT T n) (VT T n) M) (ht : tOK t) (h : RLz T n M t w (y, q)) (z : y.1 = 0) :
    ∃ w', F47 12 w = r0 w' ∧ RLz T n M t w' (rLn (KT T n) (VT T n) (y, q)) ∧ FrL t w w' := by
  have hY : RY T n M t w y := h.1
  obtain ⟨q1, q2, q3⟩ := h.2 z
  have q1 : RQz w t q := q1
  have q2 : QOz q := q2
  have ek : gI w 12 4 = KT T n y.2 := by rw [hY.k, ld_0 z]
  have hh := e47 (a0 := 12) hY.1 l12
  rw [ek] at hh
  by_cases c100 : KT T n y.2 = 100
  · obtain ⟨w', a1, a2, a3⟩ := z48 hT ht h z c100
    exact ⟨w', hh _ (by rw [if_pos c100, a1, b0_r a2.1.1]), a2, a3⟩
  by_cases c103 : KT T n y.2 = 103
  · obtain ⟨w', a1, a2, a3⟩ := z49 hT ht h z c103
    exact ⟨w', hh _ (by rw [if_neg c100, if_neg (by omega), if_neg (by omega), if_pos c103, a1, b0_r a2.1.1]), a2, a3⟩
  unfold rLn
  dsimp only
  rw [if_neg (fun u => u z), if_neg c100]
  by_cases c1 : KT T n y.2 = 101 ∨ KT T n y.2 = 102
  · rw [if_pos c1]
    have key : ∀ w', F50 12 (b2i (decide (KT T n y.2 = 102))) w = r0 w' → LR w' → F47 12 w = r0 w' := by
      intro w' h1 h2
      refine hh _ ?_
      rw [if_neg c100]
      by_cases u : KT T n y.2 = 101
      · rw [decide_eq_false (by omega)] at h1
        rw [if_pos u, show F50 12 0 w = r0 w' from h1, b0_r h2]
      · rw [decide_eq_true (by omega)] at h1
        rw [if_neg u, if_pos (by omega), show F50 12 1 w = r0 w' from h1, b0_r h2]
    by_cases c8 : vn q = 8
    · obtain ⟨w', a1, a2, a3⟩ := h.fl (c := 2) ht z (by decide)
      rw [if_pos c8]
      refine ⟨w', key w' (e50 hY.1 l12 _ ?_) a2.1.1, a2, a3⟩
      rw [hY.2.2.1, gQ_t (lt4 ht), z31 hY.1 ht q1.1.2.1, bI_r hY.1, decide_eq_false (by omega), if_neg (by decide), a1, b0_r a2.1.1]
    · obtain ⟨w', a1, a2, a3⟩ := z50 (mi := decide (KT T n y.2 = 102)) hT ht h z (by omega) c8
      rw [if_neg c8]
      exact ⟨w', key w' a1 a2.1.1, a2, a3⟩
  rw [if_neg c1, if_neg c103]
  have c101 : KT T n y.2 ≠ 101 := fun u => c1 (Or.inl u)
  have c102 : KT T n y.2 ≠ 102 := fun u => c1 (Or.inr u)
  by_cases c104 : KT T n y.2 = 104
  · rw [if_pos c104]
    have key : ∀ w', F52 12 (rho t false) w = r0 w' → LR w' → F47 12 w = r0 w' := by
      intro w' h1 h2
      refine hh _ ?_
      rw [if_neg c100, if_neg c101, if_neg c102, if_neg c103, if_pos c104, hY.2.2.1, gQ_t (lt4 ht), show F52 12 (t + 6) w = r0 w' from h1, b0_r h2]
    by_cases u : 0 < (va q).1
    · rw [if_pos u]
      obtain ⟨w', a1, a2, a3⟩ := z52n (S := false) ht h z u
      exact ⟨w', key w' a1 a2.1.1, a2, a3⟩
    · rw [if_neg u]
      obtain ⟨w', a1, a2, a3⟩ := z52 (S := false) hT ht h z (by omega) (by show (va q).1 = 0; omega)
      exact ⟨w', key w' a1 a2.1.1, a2, a3⟩
  rw [if_neg c104]
  by_cases c105 : KT T n y.2 = 105
  · rw [if_pos c105]
    have key : ∀ w', F52 12 (rho t true) w = r0 w' → LR w' → F47 12 w = r0 w' := by
      intro w' h1 h2
      refine hh _ ?_
      rw [if_neg c100, if_neg c101, if_neg c102, if_neg c103, if_neg c104, if_pos c105, hY.2.2.1, gQ_t (lt4 ht), show F52 12 (t + 8) w = r0 w' from h1, b0_r h2]
    by_cases u : 0 < (vs q).1
    · rw [if_pos u]
      obtain ⟨w', a1, a2, a3⟩ := z52n (S := true) ht h z u
      exact ⟨w', key w' a1 a2.1.1, a2, a3⟩
    · rw [if_neg u]
      obtain ⟨w', a1, a2, a3⟩ := z52 (S := true) hT ht h z (by omega) (by show (vs q).1 = 0; omega)
      exact ⟨w', key w' a1 a2.1.1, a2, a3⟩
  rw [if_neg c105]
  obtain ⟨w', a1, a2, a3⟩ := h.fl (c := 1) ht z (by decide)
  exact ⟨w', hh _ (by rw [if_neg c100, if_neg c101, if_neg c102, if_neg c103, if_neg c104, if_neg c105, a1, b0_r a2.1.1]), a2, a3⟩
theorem RLz.Y {w' : Wd} {y' : LZ} (h : RLz T n M t w (y, q)) (h' : RY T n M t w' y') (f : FrY w w') (ht : tOK t) (hy : y'.1 = 0 → y.1 = 0) : RLz T n M t w' (y', q) := by
  have ht' : t = 2 ∨ t = 17 := ht
  refine ⟨h', fun z => ?_⟩
  obtain ⟨q1, q2, q3⟩ := h.2 (hy z)
  exact ⟨RQz.Y q1 f ht, q2, fun p p1 p2 => by rw [f.1.g (by omega)]; exact q3 p p1 p2⟩
theorem lSg_s {K : Nat → Int} {c : Int} (h : (lSg K c y).1 = 0) : y.1 = 0 := by
  unfold lSg at h
  by_cases z : y.1 = 0
  · exact z
  · rw [if_neg z] at h; exact h
theorem zli (hT : TK (KT T n) (VT T n) M) (ht : tOK t) {a : LZ × QZ} (h : RLz T n M t w a) (z : a.1.1 = 0) :
    ∃ w1 w2, F47 12 w = r0 w1 ∧ LR w1 ∧ F45 12 59 w1 = r0 w2 ∧ RLz T n M t w2 (rLi (KT T n) (VT T n) a) ∧ FrL t w w2 := by
  obtain ⟨y, q⟩ := a
  obtain ⟨w1, a1, a2, a3⟩ := z47 hT ht h z
  rcases hb : rLn (KT T n) (VT T n) (y, q) with ⟨y', q'⟩
  rw [hb] at a2
  obtain ⟨w2, b1, b2, b3⟩ := z45 (c := 59) hT a2.1 (by decide)
  refine ⟨w1, w2, a1, a2.1.1, b1, ?_, a3.tr (b3.L ht)⟩
  unfold rLi
  rw [hb]
  exact a2.Y b2 b3 ht lSg_s
theorem zal (hT : TK (KT T n) (VT T n) M) (ht : tOK t) {x2 : Int} : ∀ (f k : Nat) (w : Wd) (a : LZ × QZ), k + f = 700 → RLz T n M t w a → ∃ w' k', Rf (s40_87 12 1 x2 k' w') (s40_50 12 1 x2 k w) ∧ RLz T n M t w' (rAl (KT T n) (VT T n) f a) ∧ FrL t w w' := by
  intro f
  induction f with
  | zero =>
    intro k w a hk h
    exact ⟨w, (k : Int), fun o ho => e40_50 h.1.1 l12 l1B _ (by rw [if_pos (by omega)]; exact ho), h, FrL.rf⟩
  | succ f ih =>
    intro k w a hk h
    unfold rAl
    have ek := h.1.k
    by_cases z : a.1.1 = 0 ∧ KT T n a.1.2 ≠ 0
    · rw [if_pos z]
      obtain ⟨w1, w2, a1, a2, a3, a4, a5⟩ := zli hT ht h z.1
      obtain ⟨w3, k3, b1, b2, b3⟩ := ih (k + 1) w2 _ (by omega) a4
      refine ⟨w3, k3, fun o ho => e40_50 h.1.1 l12 l1B _ ?_, b2, a5.tr b3⟩
      rw [ld_0 z.1] at ek
      rw [if_neg (by omega), ek, if_neg z.2, h.1.2.2.2.1, z.1, if_neg (by decide), a1, b0_r a2, a3, b0_r a4.1.1, wrs (by omega)]
      exact b1 o ho
    · rw [if_neg z]
      refine ⟨w, (k : Int), fun o ho => e40_50 h.1.1 l12 l1B _ ?_, h, FrL.rf⟩
      rw [if_neg (by omega), ek, h.1.2.2.2.1]
      by_cases u : a.1.1 = 0
      · rw [ld_0 u]
        have : KT T n a.1.2 = 0 := Classical.byContradiction (fun v => z ⟨u, v⟩)
        rw [if_pos this]; exact ho
      · rw [ld_n u, if_neg (by decide), if_pos u]; exact ho
end LO
