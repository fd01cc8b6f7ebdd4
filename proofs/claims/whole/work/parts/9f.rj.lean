/-! the reference's quay -/
theorem RMQ.N {w w' : Wd} {Q : QT} (h : RMQ w Q) (hQ : GQ Q) (f : FrN w w') : RMQ w' Q := by
  obtain ⟨h1, h2, h3, h4, h5, h6, h7, h8, h9⟩ := h
  obtain ⟨q1, q2, q3, q4, q5, q6⟩ := hQ
  have g := f.2.2.1
  have g7 : ∀ i, i < 5 → gI w' 477 i = gI w 477 i := fun i hi => g 477 i (by decide) (by decide) hi
  refine ⟨(g7 0 (by decide)).trans h1, (g7 1 (by decide)).trans h2, (g7 3 (by decide)).trans h3, (g7 4 (by decide)).trans h4, fun p hp => ?_, fun p hp => ?_, fun i hi => ?_, fun i hi => ?_, h9⟩
  · exact (g 478 p (by decide) (by decide) (show p < 8 by omega)).trans (h5 p hp)
  · obtain ⟨m, m1, m2, m3, m4⟩ := h6 p hp
    refine ⟨m, m1, m2, (g 482 p (by decide) (by decide) (show p < 8 by omega)).trans m3, fun t => ?_⟩
    have := Nat.mod_lt t (show m > 0 by omega)
    exact (g 483 _ (by decide) (by decide) (show 6 * p + t % m < 48 by omega)).trans (m4 t)
  · have : (za Q).1 ≤ 700 := q3.1
    rw [g 484 i (by decide) (by decide) (show i < 700 by omega)]
    exact h7 i hi
  · have : (zs Q).1 ≤ 700 := q4.1
    rw [g 485 i (by decide) (by decide) (show i < 700 by omega)]
    exact h8 i hi
theorem MY.N {w w' : Wd} {A : AC} (h : MY w A) (f : FrN w w') (H' : LR w') : MY w' A := by
  have g : ∀ b, b ≠ 473 → ¬ (477 ≤ b ∧ b ≤ 485) → gI w' b = gI w b := fun b b1 b2 => f.1 b (by omega)
  have f0 : ∀ i, 33 ≤ i → gI w' 473 i = gI w 473 i := fun i hi => f.2.1 i (by unfold A8 A5; omega)
  have hq := h.1
  refine ⟨⟨⟨hq.1.1.N hq.1.g f, ?_, H', hq.1.2.2.2.1, hq.1.2.2.2.2.1, hq.1.2.2.2.2.2.1, by rw [f0 44 (by decide)]; exact hq.1.2.2.2.2.2.2⟩, by rw [f0 44 (by decide)]; exact hq.2⟩, h.2.1.ext (f0 37 (by decide)) (g 492 (by decide) (by decide)), ?_, fun i hi => by rw [g 486 (by decide) (by decide)]; exact h.2.2.2.1 i hi, h.2.2.2.2.ext (fun i i1 i2 => f0 i (by omega)) (fun b b1 b2 => g b (by omega) (by omega))⟩
  · have hr := hq.1.2.1
    unfold RMS at hr
    show RMS w' (oS A)
    unfold RMS
    rw [g 489 (by decide) (by decide), g 490 (by decide) (by decide), g 491 (by decide) (by decide), g 487 (by decide) (by decide), f0 33 (by decide), f0 34 (by decide), f0 35 (by decide), f0 36 (by decide)]
    exact hr
  · have hN : RNm w (oN A) := h.2.2.1
    unfold RNm at hN
    show RNm w' (oN A)
    unfold RNm
    rw [f0 38 (by decide), g 501 (by decide) (by decide), g 502 (by decide) (by decide), g 503 (by decide) (by decide)]
    exact hN
/-- the frame of a quay in the reference -/
def FrV (w w' : Wd) : Prop := (∀ c, ¬ (473 ≤ c ∧ c ≤ 513) → gI w' c = gI w c) ∧ (∀ c, c ≠ 473 → gR w' c = gR w c) ∧ gJ w' = gJ w ∧ gN w' = gN w ∧ gL w' = gL w ∧ gX w' = gX w ∧ gE w' = gE w
theorem FrV.rf {w : Wd} : FrV w w := ⟨fun _ _ => rfl, fun _ _ => rfl, rfl, rfl, rfl, rfl, rfl⟩
theorem FrV.tr {a b c : Wd} (h : FrV a b) (h' : FrV b c) : FrV a c :=
  ⟨fun x q => (h'.1 x q).trans (h.1 x q), fun x q => (h'.2.1 x q).trans (h.2.1 x q), h'.2.2.1.trans h.2.2.1, h'.2.2.2.1.trans h.2.2.2.1, h'.2.2.2.2.1.trans h.2.2.2.2.1, h'.2.2.2.2.2.1.trans h.2.2.2.2.2.1, h'.2.2.2.2.2.2.trans h.2.2.2.2.2.2⟩
theorem FrI.V {A : Nat → Prop} {w w' : Wd} (h : FrI A w w') (hA : ∀ c, A c → 473 ≤ c ∧ c ≤ 513) : FrV w w' := by
  have e := h.2
  refine ⟨fun c q => h.g (fun z => q (hA c z)), fun c _ => by rw [h.R], ?_, ?_, ?_, ?_, ?_⟩ <;> (first | unfold gJ | unfold gN | unfold gL | unfold gX | unfold gE) <;> rw [e]
theorem FrX.V {w w' : Wd} (h : FrX w w') : FrV w w' := FrI.V h (fun c hc => hc)
theorem FrN.V {w w' : Wd} (h : FrN w w') : FrV w w' := ⟨fun c hc => h.1 c (by omega), h.2.2.2⟩
theorem WDm.V {w w' : Wd} (h : WDm w) (f : FrV w w') : WDm w' := h.ext (fun c c1 c2 => f.2.1 c (by omega))
theorem LR.V {w w' : Wd} (h : LR w) (f : FrX w w') : LR w' := FrI.LR f h
/-- nothing but the count of refusals: a text's fault -/
theorem t204n {w : Wd} {A : AC} {m : Nat} {B : Row} {fp x : Int} (h : MY w A) (hT : RTm w m B fp) (hx : ¬ okQ m x) : ∃ w', F204 473 x w = rI 0 w' ∧ gI w' 473 4 = 1 ∧ MY w' A ∧ RTm w' m B fp ∧ FrZ w w' := by
  have H := h.H
  obtain ⟨a1, a2, a3⟩ := stY h
  obtain ⟨t1, t2, t3⟩ := hT
  have g17 : gI (pI w 473 4 0) 473 17 = m := by rw [gI_c (by decide)]; exact t1
  have h1 : MY (pI (pI w 473 4 0) 473 4 1) A := a1.pf (by unfold ZF; omega)
  have s17 : s204_17 473 x (pI w 473 4 0) = rI 0 (pI (pI w 473 4 0) 473 4 1) := by
    refine e204_17 a1.H l473 _ ?_
    rw [y172 a1.H, bI_r h1.H]
  have f : FrZ w (pI (pI w 473 4 0) 473 4 1) := a2.tr (FrZ.p (by omega))
  refine ⟨_, e204 H l473 _ ?_, gI_s, h1, ⟨by rw [f.2 17 (by omega)]; exact t1, by rw [f.2 26 (by omega)]; exact t2, fun i hi => by rw [f.1.g (by decide)]; exact t3 i hi⟩, f⟩
  unfold okQ at hx
  by_cases z : x < 0
  · rw [if_pos z]; exact s17
  · rw [if_neg z, g17, if_neg (by omega)]; exact s17
theorem t204 {w : Wd} {A : AC} {m M : Nat} {B : Row} {fp x : Int} (h : MY w A) (hT : RTm w m B fp) (hm : m ≤ 700) (hW : WDm w) (hG : Z9 (oS A)) (hx : okQ m x) (hTK : TK (KT (tTx B x.toNat) x.toNat) (VT (tTx B x.toNat) x.toNat) M) :
    ∃ w', F204 473 x w = rI (rB B x).1.1 w' ∧ gI w' 473 4 = 0 ∧ FrV w w' ∧ WDm w' ∧ ((rB B x).1.1 = 0 → MY w' (nwA A (rB B x).2) ∧ RTm w' 0 B (-1)) ∧ ((rB B x).1.1 ≠ 0 → MY w' (rfS A 0) ∧ RTm w' 0 B (sT (tTx B x.toNat) x.toNat (rB B x).1.2)) := by
  have H := h.H
  unfold okQ at hx
  obtain ⟨n, rfl⟩ : ∃ n : Nat, x = n := ⟨x.toNat, by omega⟩
  have eB : rB B (n : Int) = rTx (tTx B n) n := rfl
  rw [eB]
  have hTK : TK (KT (tTx B n) n) (VT (tTx B n) n) M := hTK
  show ∃ w', F204 473 (n : Int) w = rI (rTx (tTx B n) n).1.1 w' ∧ gI w' 473 4 = 0 ∧ FrV w w' ∧ WDm w' ∧ ((rTx (tTx B n) n).1.1 = 0 → MY w' (nwA A (rTx (tTx B n) n).2) ∧ RTm w' 0 B (-1)) ∧ ((rTx (tTx B n) n).1.1 ≠ 0 → MY w' (rfS A 0) ∧ RTm w' 0 B (sT (tTx B n) n (rTx (tTx B n) n).1.2))
  obtain ⟨t1, t2, t3⟩ := hT
  have g17 : gI (pI w 473 4 0) 473 17 = m := by rw [gI_c (by decide)]; exact t1
  obtain ⟨w1, hw1⟩ : ∃ w1, w1 = pI (pI (pI (pI (pI (pI (pI w 473 4 0) 473 17 0) 473 19 (n : Int)) 473 18 0) 473 24 0) 473 28 0) 473 26 (-1) := ⟨_, rfl⟩
  have f1 : FrI (fun c => c = 473) w w1 := by rw [hw1]; exact ((((((FrI.p (A := fun c => c = 473) rfl).pp rfl).pp rfl).pp rfl).pp rfl).pp rfl).pp rfl
  have H1 := f1.LR H
  have p4 : gI w1 473 4 = 0 := by rw [hw1, gI_c (by decide), gI_c (by decide), gI_c (by decide), gI_c (by decide), gI_c (by decide), gI_c (by decide), gI_s]
  have p17 : gI w1 473 17 = 0 := by rw [hw1, gI_c (by decide), gI_c (by decide), gI_c (by decide), gI_c (by decide), gI_c (by decide), gI_s]
  have p19 : gI w1 473 19 = n := by rw [hw1, gI_c (by decide), gI_c (by decide), gI_c (by decide), gI_c (by decide), gI_s]
  have p18 : gI w1 473 18 = 0 := by rw [hw1, gI_c (by decide), gI_c (by decide), gI_c (by decide), gI_s]
  have p24 : gI w1 473 24 = 0 := by rw [hw1, gI_c (by decide), gI_c (by decide), gI_s]
  have p28 : gI w1 473 28 = 0 := by rw [hw1, gI_c (by decide), gI_s]
  have p26 : gI w1 473 26 = -1 := by rw [hw1, gI_s]
  have po : ∀ i, (i ≠ 4 ∧ i ≠ 17 ∧ (i < 18 ∨ 28 < i)) → gI w1 473 i = gI w 473 i := fun i hi => by
    rw [hw1, gI_c (by omega), gI_c (by omega), gI_c (by omega), gI_c (by omega), gI_c (by omega), gI_c (by omega), gI_c (by omega)]
  have h1 : MY w1 A := h.tp (f1.wk (fun c hc => Or.inl hc)) po
  obtain ⟨w2, hw2⟩ : ∃ w2, w2 = pI (pI (pI (pI (pI w1 477 5 3) 477 6 0) 477 7 0) 477 8 0) 477 9 0 := ⟨_, rfl⟩
  have f2 : FrI (fun c => c = 477) w1 w2 := by rw [hw2]; exact ((((FrI.p (A := fun c => c = 477) rfl).pp rfl).pp rfl).pp rfl).pp rfl
  have H2 := f2.LR H1
  have n2 : FrN w1 w2 := by
    rw [hw2]
    exact ((((FrN.w (c := 477) (by decide) (by decide) (by decide)).tr (FrN.w (by decide) (by decide) (by decide))).tr (FrN.w (by decide) (by decide) (by decide))).tr (FrN.w (by decide) (by decide) (by decide))).tr (FrN.w (by decide) (by decide) (by decide))
  have hX : XT w2 (tTx B n) n := by
    refine ⟨H2, by rw [f2.g (by decide)]; exact p19, by omega, fun i hi => ?_, fun i => ?_⟩
    · rw [f2.g (by decide), f1.g (by decide), t3 i (by omega)]
      unfold tTx
      rw [if_pos hi]
    · unfold tTx
      by_cases z : i < n
      · rw [if_pos z]; exact bAnd255
      · rw [if_neg z]; decide
  have q18 : gI w2 473 18 = ((0 : Nat) : Int) := by rw [f2.g (by decide)]; exact p18
  obtain ⟨w3, a1, a2, a3⟩ := y185 (j := 0) hX q18 (Nat.zero_le _) rfl
  have H3 := a3.1.LR H2
  have n3 : FrN w2 w3 := (Fr5.H a3).N
  have q24 : gI w3 473 24 = 0 := by rw [a3.2 24 (by unfold A5; omega), f2.g (by decide)]; exact p24
  have q28 : gI w3 473 28 = 0 := by rw [a3.2 28 (by unfold A5; omega), f2.g (by decide)]; exact p28
  have hX3 : XT w3 (tTx B n) n := hX.H5 (Fr5.H a3)
  have hW3 : WDm w3 := ((hW.V (f1.V (fun c hc => by have hc : c = 473 := hc; omega))).V n2.V).V n3.V
  have e477 : gI w3 477 = gI w2 477 := a3.1.g (by decide)
  have hRT : RTk w3 q00 := by
    refine ⟨⟨?_, ?_, ?_⟩, fun p hp => absurd hp (Nat.not_lt_zero _), fun p hp => absurd hp (Nat.not_lt_zero _), ⟨?_, fun i hi => absurd hi (Nat.not_lt_zero _)⟩, ?_, fun i hi => absurd hi (Nat.not_lt_zero _)⟩
    · rw [e477, hw2, gI_c (by decide), gI_c (by decide), gI_c (by decide), gI_c (by decide), gI_s]; rfl
    · rw [e477, hw2, gI_c (by decide), gI_c (by decide), gI_c (by decide), gI_s]; rfl
    · rw [e477, hw2, gI_c (by decide), gI_c (by decide), gI_s]; rfl
    · rw [e477, hw2, gI_c (by decide), gI_s]; rfl
    · rw [e477, hw2, gI_s]; rfl
  have hRL : RLm (tTx B n) n M w3 ((0, 0), q00) := ⟨hX3, hW3, ⟨fun _ => ⟨q24, a2⟩, fun u => absurd rfl u, Nat.zero_le _⟩, fun _ => ⟨⟨hRT, q28⟩, QK_00⟩⟩
  obtain ⟨w4, d, b1, b2, b3⟩ := yal (x1 := (n : Int)) hTK 700 w3 ((0, 0), q00) 0 hRL (fun _ => rfl) (rAl_end hTK 700 _ (by have := hTK.1; show M ≤ 0 + 700; omega))
  have e55 : ∀ o, s204_112 473 (n : Int) d w4 = some o → F204 473 (n : Int) w = some o := by
    intro o ho
    refine e204 H l473 _ ?_
    rw [if_neg (by omega), g17, if_pos (by omega), ← hw1]
    refine e204_55 H1 l473 _ ?_
    rw [if_neg (by decide), if_neg (by decide), show wr (5 + 0) = 5 by decide, gdi (by decide) (by decide), show wr (0 + 1) = 1 by decide]
    refine e204_55 (LRIi H1) l473 _ ?_
    rw [if_neg (by decide), if_pos (by decide), show wr (5 + 1) = 6 by decide, gdi (by decide) (by decide), show wr (1 + 1) = 2 by decide]
    refine e204_55 (LRIi (LRIi H1)) l473 _ ?_
    rw [if_neg (by decide), if_pos (by decide), show wr (5 + 2) = 7 by decide, gdi (by decide) (by decide), show wr (2 + 1) = 3 by decide]
    refine e204_55 (LRIi (LRIi (LRIi H1))) l473 _ ?_
    rw [if_neg (by decide), if_pos (by decide), show wr (5 + 3) = 8 by decide, gdi (by decide) (by decide), show wr (3 + 1) = 4 by decide]
    refine e204_55 (LRIi (LRIi (LRIi (LRIi H1)))) l473 _ ?_
    rw [if_neg (by decide), if_pos (by decide), show wr (5 + 4) = 9 by decide, gdi (by decide) (by decide), show wr (4 + 1) = 5 by decide]
    refine e204_55 (LRIi (LRIi (LRIi (LRIi (LRIi H1))))) l473 _ ?_
    rw [if_pos (by decide)]
    show b0 (F185 473 (pI (pI (pI (pI (pI w1 477 5 3) 477 6 0) 477 7 0) 477 8 0) 477 9 0)) _ = _
    rw [← hw2, a1, b0_r H3]
    exact b1 o ho
  have n4 : FrN w1 w4 := (n2.tr n3).tr b3
  have eC : rAl (KT (tTx B n) n) (VT (tTx B n) n) 700 ((0, 0), q00) = rTx (tTx B n) n := rfl
  rw [eC] at b2
  have hQK : (rTx (tTx B n) n).1.1 = 0 → QK (rTx (tTx B n) n).2 := fun z => QK_rAl hTK 700 _ QK_00 z
  revert b2 hQK
  generalize rTx (tTx B n) n = a
  intro b2 hQK
  obtain ⟨c1, c2, c3, c4⟩ := b2
  have h4 : MY w4 A := h1.N n4 c1.1
  have v4 : FrV w w4 := (f1.V (fun c hc => by have hc : c = 473 := hc; omega)).tr n4.V
  have o4 : ∀ i, ¬ A8 i → gI w4 473 i = gI w1 473 i := n4.2.1
  by_cases z : a.1.1 = 0
  · obtain ⟨x1, x2⟩ := c4 z
    obtain ⟨w5, d1, d2, d3⟩ := y206 h4 x2 x1.1 hG
    have o5 : ∀ i, i = 4 ∨ i = 17 ∨ i = 26 → gI w5 473 i = gI w1 473 i := fun i hi => by rw [d3.2 i (by omega) (by omega), o4 i (by unfold A8 A5; omega)]
    have v5 : FrV w4 w5 := d3.1.V (fun c hc => by omega)
    refine ⟨w5, e55 _ (e204_112 c1.1 l473 _ ?_), by rw [o5 4 (by omega)]; exact p4, v4.tr v5, c2.V v5, fun _ => ⟨d2, by rw [o5 17 (by omega)]; exact p17, by rw [o5 26 (by omega)]; exact p26, fun i hi => absurd hi (Nat.not_lt_zero _)⟩, fun u => absurd z u⟩
    rw [(c3.1 z).1, if_pos rfl, d1, b0_r d2.H, z]
  · obtain ⟨x1, x2⟩ := c3.2.1 z
    obtain ⟨w5, hw5⟩ : ∃ w5, w5 = pI w4 473 26 (gI w4 473 25) := ⟨_, rfl⟩
    have f5 : FrI (fun c => c = 473) w4 w5 := by rw [hw5]; exact FrI.p rfl
    have h5 : MY w5 A := h4.tp (f5.wk (fun c hc => Or.inl hc)) (fun i hi => by rw [hw5, gI_c (by omega)])
    obtain ⟨d1, d2⟩ := h5.rf (k := 0) (by decide)
    have f6 : FrI (fun c => c = 486) w5 (pI w5 486 0 (wr (gI w5 486 0 + 1))) := FrI.p rfl
    have o5 : ∀ i, i ≠ 26 → gI (pI w5 486 0 (wr (gI w5 486 0 + 1))) 473 i = gI w4 473 i := fun i hi => by rw [f6.g (by decide), hw5, gI_c hi]
    have v5 : FrV w4 (pI w5 486 0 (wr (gI w5 486 0 + 1))) := (f5.V (fun c hc => by have hc : c = 473 := hc; omega)).tr (f6.V (fun c hc => by have hc : c = 486 := hc; omega))
    refine ⟨_, e55 _ (e204_112 c1.1 l473 _ ?_), by rw [o5 4 (by decide), o4 4 (by unfold A8 A5; omega)]; exact p4, v4.tr v5, c2.V v5, fun u => absurd u z, fun _ => ⟨d1, by rw [o5 17 (by decide), o4 17 (by unfold A8 A5; omega)]; exact p17, ?_, fun i hi => absurd hi (Nat.not_lt_zero _)⟩⟩
    · rw [x1, if_neg z, gdi (by decide) (by decide), gdi (by decide) (by decide), ← hw5]
      show rI (gI (pI w5 486 0 (wr (gI w5 486 0 + 1))) 473 24) (pI w5 486 0 (wr (gI w5 486 0 + 1))) = _
      rw [o5 24 (by decide), x1]
    · rw [f6.g (by decide), hw5, gI_s]; exact x2
