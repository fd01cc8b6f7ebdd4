/-! the reference: the image; count, person -/
theorem y274 {w : Wd} {a b n m : Nat} (H : LR w) (ha : lay a = (21, n)) (hb : lay b = (21, m)) (hnm : n ≤ m) (hn : n ≤ 2000) (hne : b ≠ a) : ∃ w', F274 a b w = r0 w' ∧ FrI (fun x => x = a) w w' ∧ ∀ i, i < n → gI w' a i = gI w b i := by
  obtain ⟨v, hv, i1, i2⟩ := lpR (F := fun k v => s274_2 a b k v) (I := fun k v => FrI (fun x => x = a) w v ∧ ∀ i, i < k → gI v a i = gI w b i) n (fun k v hk e => by
    obtain ⟨ef, e1⟩ := e
    refine ⟨pI v a k (gI w b k), fun o ho => e274_2 (ef.LR H) ha hb _ ?_, ef.pp rfl, fun i hi => ?_⟩
    · rw [if_neg (by omega), gdi (by omega) (by omega), gdi (by omega) (by omega), nn, ef.g hne, wrs (by omega)]
      exact ho
    · by_cases z : i = k
      · subst z; rw [gI_s]
      · rw [gI_c z]; exact e1 i (by omega)) w ⟨FrI.rf, fun i hi => absurd hi (Nat.not_lt_zero _)⟩
  exact ⟨v, e274 H ha hb _ (hv _ (e274_2 (i1.LR H) ha hb _ (if_pos (Int.le_refl _)))), i1, i2⟩
theorem l508 : lay 508 = (21, 28) := by decide +kernel
theorem l509 : lay 509 = (21, 1120) := by decide +kernel
theorem l510 : lay 510 = (21, 8) ∧ lay 511 = (21, 8) ∧ lay 512 = (21, 8) ∧ lay 513 = (21, 3) ∧ lay 501 = (21, 8) ∧ lay 502 = (21, 8) ∧ lay 503 = (21, 8) ∧ lay 486 = (21, 3) := by decide +kernel
theorem MY.im {w w' : Wd} {A : AC} {M : Option (ST × List ST × NT × Row)} (h : MY w A) (f : FrI (fun b => b = 473 ∨ (508 ≤ b ∧ b ≤ 513)) w w') (f0 : ∀ i, i ≠ 4 → (i < 58 ∨ 60 < i) → gI w' 473 i = gI w 473 i) (hI : RIm w' M) : MY w' (oQ A, oS A, oL A, oN A, oT A, M) := by
  have g : ∀ b, b ≠ 473 → b < 508 → gI w' b = gI w b := fun b b1 b2 => f.g (by omega)
  have hq := h.1
  refine ⟨⟨⟨?_, ?_, f.LR h.H, hq.1.2.2.2.1, hq.1.2.2.2.2.1, hq.1.2.2.2.2.2.1, by rw [f0 44 (by decide) (by decide)]; exact hq.1.2.2.2.2.2.2⟩, by rw [f0 44 (by decide) (by decide)]; exact hq.2⟩, h.2.1.ext (f0 37 (by decide) (by decide)) (g 492 (by decide) (by decide)), ?_, fun i hi => by rw [g 486 (by decide) (by decide)]; exact h.2.2.2.1 i hi, hI⟩
  · exact hq.1.1.fr f (fun b b1 b2 z => by omega)
  · have hr := hq.1.2.1
    unfold RMS at hr
    show RMS w' (oS A)
    unfold RMS
    rw [g 489 (by decide) (by decide), g 490 (by decide) (by decide), g 491 (by decide) (by decide), g 487 (by decide) (by decide), f0 33 (by decide) (by decide), f0 34 (by decide) (by decide), f0 35 (by decide) (by decide), f0 36 (by decide) (by decide)]
    exact hr
  · have hN : RNm w (oN A) := h.2.2.1
    unfold RNm at hN
    show RNm w' (oN A)
    unfold RNm
    rw [f0 38 (by decide) (by decide), g 501 (by decide) (by decide), g 502 (by decide) (by decide), g 503 (by decide) (by decide)]
    exact hN
theorem t275 {w : Wd} {A : AC} (h : MY w A) (hA : GA A) : ∃ w', F275 473 w = r0 w' ∧ MY w' (sImage A) ∧ FrZ w w' := by
  have H := h.H
  have hN8 := hA.2.2.1.1
  obtain ⟨a1, a2, a3⟩ := h.2.1
  obtain ⟨L1, L2, L3, L4, L5, L6, L7, L8⟩ := l510
  have e37 : gI (pI (pI w 473 4 0) 473 58 1) 473 37 = ((oL A).length : Int) := by rw [gI_c (by decide), gI_c (by decide)]; exact a2
  have e38 : gI (pI (pI (pI w 473 4 0) 473 58 1) 473 59 ((oL A).length : Int)) 473 38 = ((oN A).1 : Int) := by rw [gI_c (by decide), gI_c (by decide), gI_c (by decide)]; exact h.2.2.1.1
  obtain ⟨w0, hw0⟩ : ∃ w0, w0 = pI (pI (pI (pI w 473 4 0) 473 58 1) 473 59 ((oL A).length : Int)) 473 60 ((oN A).1 : Int) := ⟨_, rfl⟩
  have hq0 : MQy w0 (oQ A) (oS A) := by rw [hw0]; exact (((h.1.pf (by omega)).pf (by omega)).pf (by omega)).pf (by omega)
  have f0 : FrI (fun b => b = 473) w w0 := by rw [hw0]; exact (((FrI.p (A := fun b => b = 473) rfl).pp rfl).pp rfl).pp rfl
  have c0 : ∀ i, i ≠ 4 → (i < 58 ∨ 60 < i) → gI w0 473 i = gI w 473 i := fun i i1 i2 => by
    rw [hw0, gI_c (by omega), gI_c (by omega), gI_c (by omega), gI_c i1]
  have c58 : gI w0 473 58 = 1 := by rw [hw0, gI_c (by decide), gI_c (by decide), gI_s]
  have c59 : gI w0 473 59 = ((oL A).length : Int) := by rw [hw0, gI_c (by decide), gI_s]
  have c60 : gI w0 473 60 = ((oN A).1 : Int) := by rw [hw0, gI_s]
  obtain ⟨v1, k1, k2, k3, k4⟩ := y208 (a := 508) (off := 0) (n := 28) hq0.1 l508 (by omega) (by omega) (by decide)
  have H1 := k3.LR hq0.H
  obtain ⟨v2, l1, l2, l3⟩ := y274 H1 l509 l492 (by omega) (by omega) (by decide)
  have H2 := l2.LR H1
  obtain ⟨v3, m1, m2, m3⟩ := y274 H2 L1 L5 (by omega) (by omega) (by decide)
  have H3 := m2.LR H2
  obtain ⟨v4, n1, n2, n3⟩ := y274 H3 L2 L6 (by omega) (by omega) (by decide)
  have H4 := n2.LR H3
  obtain ⟨v5, o1, o2, o3⟩ := y274 H4 L3 L7 (by omega) (by omega) (by decide)
  have H5 := o2.LR H4
  obtain ⟨v6, p1, p2, p3⟩ := y274 H5 L4 L8 (by omega) (by omega) (by decide)
  have H6 := p2.LR H5
  have fb : FrI (fun b => 508 ≤ b ∧ b ≤ 513) w0 v6 := ((((k3.wk (fun b hb => by omega)).tr (l2.wk (fun b hb => by omega))).tr (m2.wk (fun b hb => by omega))).tr (n2.wk (fun b hb => by omega))).tr ((o2.wk (fun b hb => by omega)).tr (p2.wk (fun b hb => by omega)))
  have f : FrI (fun b => b = 473 ∨ (508 ≤ b ∧ b ≤ 513)) w v6 := (f0.wk (fun b hb => Or.inl hb)).tr (fb.wk (fun b hb => Or.inr hb))
  have z73 : gI v6 473 = gI w0 473 := fb.g (by omega)
  have c6 : ∀ i, i ≠ 4 → (i < 58 ∨ 60 < i) → gI v6 473 i = gI w 473 i := fun i i1 i2 => by rw [z73]; exact c0 i i1 i2
  have b1 : ∀ b, b ≠ 473 → b < 508 → gI v1 b = gI w b := fun b x1 x2 => by rw [k3.g (by omega), f0.g x1]
  have b2 : ∀ b, b ≠ 473 → b < 508 → gI v2 b = gI w b := fun b x1 x2 => by rw [l2.g (by omega)]; exact b1 b x1 x2
  have b3 : ∀ b, b ≠ 473 → b < 508 → gI v3 b = gI w b := fun b x1 x2 => by rw [m2.g (by omega)]; exact b2 b x1 x2
  have b4 : ∀ b, b ≠ 473 → b < 508 → gI v4 b = gI w b := fun b x1 x2 => by rw [n2.g (by omega)]; exact b3 b x1 x2
  have b5 : ∀ b, b ≠ 473 → b < 508 → gI v5 b = gI w b := fun b x1 x2 => by rw [o2.g (by omega)]; exact b4 b x1 x2
  have hN := h.2.2.1.2
  refine ⟨v6, e275 H l473 _ ?_, h.im f c6 (M := some (oS A, oL A, oN A, oT A)) ⟨fun e => (by cases e), fun x hx => ?_⟩, f.wk (fun b hb => by omega), fun i hi => c6 i (by omega) (by omega)⟩
  · rw [e37, e38, ← hw0, show F208 473 (473 + 35) 0 w0 = _ from k1, b0_r H1, show (473 + 36 : Nat) = 509 from rfl, show (473 + 19 : Nat) = 492 from rfl, l1, b0_r H2, show (473 + 37 : Nat) = 510 from rfl, show (473 + 28 : Nat) = 501 from rfl, m1, b0_r H3, show (473 + 38 : Nat) = 511 from rfl, show (473 + 29 : Nat) = 502 from rfl, n1, b0_r H4, show (473 + 39 : Nat) = 512 from rfl, show (473 + 30 : Nat) = 503 from rfl, o1, b0_r H5, show (473 + 40 : Nat) = 513 from rfl, show (473 + 13 : Nat) = 486 from rfl, p1, b0_r H6]
  · cases hx
    refine ⟨by rw [z73]; exact c58, ⟨a1, by rw [z73]; exact c59⟩, by rw [z73]; exact c60, k2.ext ?_, fun i hi => (a3 i hi).mv (fun j hj => ?_), fun i hi => ?_, fun i hi => ?_⟩
    · rw [p2.g (by decide), o2.g (by decide), n2.g (by decide), m2.g (by decide), l2.g (by decide)]
    · have hi : i < (oL A).length := hi
      rw [p2.g (by decide), o2.g (by decide), n2.g (by decide), m2.g (by decide), l3 _ (by omega), b1 492 (by decide) (by decide)]
    · have hi : i < (oN A).1 := hi
      rw [p2.g (show ¬ 510 = 513 by decide), o2.g (show ¬ 510 = 512 by decide), n2.g (show ¬ 510 = 511 by decide), m3 i (by omega), b2 501 (by decide) (by decide), p2.g (show ¬ 511 = 513 by decide), o2.g (show ¬ 511 = 512 by decide), n3 i (by omega), b3 502 (by decide) (by decide), p2.g (show ¬ 512 = 513 by decide), o3 i (by omega), b4 503 (by decide) (by decide)]
      exact hN i hi
    · rw [p3 i hi, b5 486 (by decide) (by decide)]
      exact h.2.2.2.1 i hi
theorem t276 {w : Wd} {A : AC} (h : MY w A) (hA : GA A) (hE : GE A) : AnT 2 w (F276 473 w) (sRestore A) := by
  refine AnT.of (e276 h.H l473) ?_
  obtain ⟨h0, f0, z0⟩ := stY h
  revert h0 f0 z0
  generalize pI w 473 4 0 = w0
  intro h0 f0 z0
  unfold sRestore
  cases hm : oM A with
  | none =>
    rw [show gI w0 473 58 = 0 from h0.2.2.2.2.1 hm, if_neg (by decide)]
    exact AnT.v h0 f0 z0
  | some x =>
    obtain ⟨i1, i2, i3, i4, i5, i6, i7⟩ := h0.2.2.2.2.2 x hm
    obtain ⟨j1, j2, j3, j4⟩ := hA.2.2.2.2 x hm
    obtain ⟨e1, e2⟩ := hE.2 x hm
    have hN8 := j3.1
    obtain ⟨L1, L2, L3, L4, L5, L6, L7, L8⟩ := l510
    have e60 : gI (pI w0 473 37 (x.2.1.length : Int)) 473 60 = (x.2.2.1.1 : Int) := by rw [gI_c (by decide)]; exact i3
    rw [i1, if_pos (by decide), i2.2, e60]
    obtain ⟨w1, hw1⟩ : ∃ w1, w1 = pI (pI w0 473 37 (x.2.1.length : Int)) 473 38 (x.2.2.1.1 : Int) := ⟨_, rfl⟩
    rw [← hw1]
    have hq1 : MQy w1 (oQ A) (oS A) := by rw [hw1]; exact (h0.1.pf (by omega)).pf (by omega)
    have f1 : FrI (fun b => b = 473) w0 w1 := by rw [hw1]; exact (FrI.p (A := fun b => b = 473) rfl).pp rfl
    obtain ⟨v1, k1, k2, k3, k4⟩ := y209 (a := 508) (off := 0) (n := 28) (u := x.1) hq1.1 (i4.ext (f1.g (by decide))) l508 (by omega) (by omega) (by decide) e1 j1.1 j1.2.2.2
    rw [pM_self j1.2.2.1] at k2
    have H1 := k2.H
    obtain ⟨v2, l1, l2, l3⟩ := y274 H1 l492 l509 (by omega) (by omega) (by decide)
    have H2 := l2.LR H1
    obtain ⟨v3, m1, m2, m3⟩ := y274 H2 L5 L1 (by omega) (by omega) (by decide)
    have H3 := m2.LR H2
    obtain ⟨v4, n1, n2, n3⟩ := y274 H3 L6 L2 (by omega) (by omega) (by decide)
    have H4 := n2.LR H3
    obtain ⟨v5, o1, o2, o3⟩ := y274 H4 L7 L3 (by omega) (by omega) (by decide)
    have H5 := o2.LR H4
    obtain ⟨v6, p1, p2, p3⟩ := y274 H5 L8 L4 (by omega) (by omega) (by decide)
    have H6 := p2.LR H5
    have fb : FrI (fun b => b = 492 ∨ (501 ≤ b ∧ b ≤ 503) ∨ b = 486) v1 v6 := (((l2.wk (fun b hb => Or.inl hb)).tr (m2.wk (fun b hb => by omega))).tr (n2.wk (fun b hb => by omega))).tr ((o2.wk (fun b hb => by omega)).tr (p2.wk (fun b hb => by omega)))
    have z73 : gI v6 473 = gI v1 473 := fb.g (by omega)
    have c37 : gI v6 473 37 = (x.2.1.length : Int) := by rw [z73, k4 37 (by omega), hw1, gI_c (by decide), gI_s]
    have c38 : gI v6 473 38 = (x.2.2.1.1 : Int) := by rw [z73, k4 38 (by omega), hw1, gI_s]
    have c0 : ∀ i, (i < 33 ∨ 38 < i) → gI v6 473 i = gI w0 473 i := fun i hi => by rw [z73, k4 i (by omega), hw1, gI_c (by omega), gI_c (by omega)]
    have b1 : ∀ b, 492 ≤ b → gI v1 b = gI w0 b := fun b hb => by rw [k3.g (by omega), f1.g (by omega)]
    have hq6 : MQy v6 (oQ A) x.1 := ⟨k2.fr fb (fun b hb => by omega), by rw [c0 44 (by omega)]; exact h0.1.2⟩
    have ft : FrZ w0 v6 := ⟨((f1.wk (fun b hb => by omega)).tr (k3.wk (fun b hb => by omega))).tr (fb.wk (fun b hb => by omega)), fun i hi => c0 i (by omega)⟩
    rw [show F209 473 (473 + 35) 0 w1 = _ from k1, b0_r H1, show (473 + 36 : Nat) = 509 from rfl, show (473 + 19 : Nat) = 492 from rfl, l1, b0_r H2, show (473 + 37 : Nat) = 510 from rfl, show (473 + 28 : Nat) = 501 from rfl, m1, b0_r H3, show (473 + 38 : Nat) = 511 from rfl, show (473 + 29 : Nat) = 502 from rfl, n1, b0_r H4, show (473 + 39 : Nat) = 512 from rfl, show (473 + 30 : Nat) = 503 from rfl, o1, b0_r H5, show (473 + 40 : Nat) = 513 from rfl, show (473 + 13 : Nat) = 486 from rfl, p1, b0_r H6]
    refine AnT.v (c := 2) ⟨hq6, ⟨i2.1, c37, fun i hi => ?_⟩, ⟨c38, fun i hi => ?_⟩, fun i hi => ?_, ?_⟩ (f0.tr ft) (by rw [c0 4 (by omega)]; exact z0)
    · have hi : i < x.2.1.length := hi
      have i21 := i2.1
      refine (i5 i hi).mv (fun j hj => ?_)
      rw [p2.g (by decide), o2.g (by decide), n2.g (by decide), m2.g (by decide), l3 _ (by omega), b1 509 (by decide)]
    · have hi : i < x.2.2.1.1 := hi
      rw [p2.g (show ¬ 501 = 486 by decide), o2.g (show ¬ 501 = 503 by decide), n2.g (show ¬ 501 = 502 by decide), m3 i (by omega), l2.g (show ¬ 510 = 492 by decide), b1 510 (by decide),
        p2.g (show ¬ 502 = 486 by decide), o2.g (show ¬ 502 = 503 by decide), n3 i (by omega), m2.g (show ¬ 511 = 501 by decide), l2.g (show ¬ 511 = 492 by decide), b1 511 (by decide),
        p2.g (show ¬ 503 = 486 by decide), o3 i (by omega), n2.g (show ¬ 512 = 502 by decide), m2.g (show ¬ 512 = 501 by decide), l2.g (show ¬ 512 = 492 by decide), b1 512 (by decide)]
      exact i6 i hi
    · rw [p3 i hi, o2.g (by decide), n2.g (by decide), m2.g (by decide), l2.g (by decide), b1 513 (by decide)]
      exact i7 i hi
    · have hI : RIm w0 (some x) := by rw [← hm]; exact h0.2.2.2.2
      refine RIm.ext hI (fun i x1 x2 => c0 i (by omega)) (fun b x1 x2 => ?_)
      rw [fb.g (by omega), b1 b (by omega)]
theorem y225 {w : Wd} {Q : QT} {s : ST} (h : MQx w Q s) : F225 473 w = rI (cmpN Q s : Nat) w := by
  have ht := h.t
  have hz := h.g.2.2.2.2.2
  have e0 : gI w (473 + 4) 0 = zk Q := h.1.1
  have e7 : gI w 473 33 = (((uT s).toNat : Nat) : Int) := by rw [h.2.1.2.2.2.2.1]; omega
  obtain ⟨v, hv, e⟩ := lpR (F := fun k v => s225_4 473 v k w) (I := fun k v => v = (cn (fun c => decide (2 ≤ cn (atC Q c (uT s).toNat) 8)) k : Nat)) (zk Q) (fun k v hk e => by
    subst e
    refine ⟨_, fun o ho => e225_4 h.H l473 _ ?_, rfl⟩
    have hc := cn_le (P := fun c : Nat => decide (2 ≤ cn (atC Q c (uT s).toNat) 8)) k
    have ec : cn (fun c : Nat => decide (2 ≤ cn (atC Q c (uT s).toNat) 8)) (k + 1) = cn (fun c : Nat => decide (2 ≤ cn (atC Q c (uT s).toNat) 8)) k + (if decide (2 ≤ cn (atC Q k (uT s).toNat) 8) = true then 1 else 0) := rfl
    rw [ec] at ho
    rw [gdi (by omega) (by omega), e0, if_neg (by omega), e7, y211 h (by omega), bI_r h.H, y176 h.H, bI_r h.H, wrs (k := k) (by omega)]
    by_cases z : 2 ≤ cn (atC Q k (uT s).toNat) 8
    · rw [if_neg (by omega), wrs (by omega)]
      rw [if_pos (by simpa using z)] at ho
      exact ho
    · rw [if_pos (by omega), wrd (by omega) (by omega), Int.add_zero]
      rw [if_neg (by simpa using z)] at ho
      exact ho) 0 rfl
  subst e
  exact e225 h.H l473 _ (hv _ (e225_4 h.H l473 _ (by rw [gdi (by omega) (by omega), e0, if_pos (Int.le_refl _)]; rfl)))
/-- the reference's tape -/
def RTm (w : Wd) (m : Nat) (B : Row) (fp : Int) : Prop := gI w 473 17 = m ∧ gI w 473 26 = fp ∧ ∀ i, i < m → gI w 488 i = bAnd (B i) 255
theorem RTm.ext {w w' : Wd} {m : Nat} {B : Row} {fp : Int} (h : RTm w m B fp) (f : FrZ w w') : RTm w' m B fp := by
  unfold RTm
  rw [f.2 17 (Or.inl rfl), f.2 26 (Or.inr rfl), f.1.g (by omega)]
  exact h
theorem r226 {w : Wd} {A : AC} {m : Nat} {B : Row} {fp wh : Int} (h : MY w A) (hT : RTm w m B fp) : AnM (oQ A) (oS A) 2 w (F226 473 wh w) (aCount A m wh) := by
  refine AnM.of (e226 h.H l473) ?_
  obtain ⟨h0, f0, z0⟩ := stY h
  obtain ⟨hq0, fs0, -⟩ := st0 h.1
  have hT0 := hT.ext f0
  revert h0 f0 z0 hT0 hq0 fs0
  generalize pI w 473 4 0 = w0
  intro h0 f0 z0 hq0 fs0 hT0
  obtain ⟨r1, r2, r3, r4, r5, r6, r7, r8⟩ := hq0.1.2.1
  have e0 : gI w0 (473 + 4) 0 = zk (oQ A) := hq0.1.1.1
  have e1 : gI w0 (473 + 4) 1 = zn (oQ A) := hq0.1.n
  unfold aCount gdW
  by_cases c0 : wh = 0
  · subst c0
    rw [if_pos rfl, if_pos (by decide), if_pos rfl, gdi (by decide) (by decide), show (0 : Int).toNat = 0 from rfl, e0]; exact AnM.v hq0 fs0 z0
  rw [if_neg c0]
  by_cases c1 : wh = 1
  · subst c1
    rw [if_pos rfl, if_pos (by decide), if_neg (by decide), if_pos rfl, gdi (by decide) (by decide), show (1 : Int).toNat = 1 from rfl, e1]; exact AnM.v hq0 fs0 z0
  rw [if_neg c1]
  by_cases c2 : wh = 2
  · rw [if_pos c2, if_pos (by omega), if_neg c0, if_neg c1, if_pos c2, r5]; exact AnM.v hq0 fs0 z0
  rw [if_neg c2]
  by_cases c3 : wh = 3
  · rw [if_pos c3, if_pos (by omega), if_neg c0, if_neg c1, if_neg c2, if_pos c3, r6]; exact AnM.v hq0 fs0 z0
  rw [if_neg c3]
  by_cases c4 : wh = 4
  · rw [if_pos c4, if_pos (by omega), if_neg c0, if_neg c1, if_neg c2, if_neg c3, if_pos c4, r7]; exact AnM.v hq0 fs0 z0
  rw [if_neg c4]
  by_cases c5 : wh = 5
  · rw [if_pos c5, if_pos (by omega), if_neg c0, if_neg c1, if_neg c2, if_neg c3, if_neg c4, if_pos c5, y213 hq0.1, bI_r hq0.H]; exact AnM.v hq0 fs0 z0
  rw [if_neg c5]
  by_cases c6 : wh = 6
  · rw [if_pos c6, if_pos (by omega), if_neg c0, if_neg c1, if_neg c2, if_neg c3, if_neg c4, if_neg c5, if_pos c6, r8]; exact AnM.v hq0 fs0 z0
  rw [if_neg c6]
  by_cases c7 : wh = 7
  · rw [if_pos c7, if_pos (by omega), if_neg c0, if_neg c1, if_neg c2, if_neg c3, if_neg c4, if_neg c5, if_neg c6, if_pos c7, y224 hq0.1, bI_r hq0.H]; exact AnM.v hq0 fs0 z0
  rw [if_neg c7]
  by_cases c8 : wh = 8
  · rw [if_pos c8, if_pos (by omega), if_neg c0, if_neg c1, if_neg c2, if_neg c3, if_neg c4, if_neg c5, if_neg c6, if_neg c7, if_pos c8, y225 hq0.1, bI_r hq0.H]; exact AnM.v hq0 fs0 z0
  rw [if_neg c8]
  by_cases c9 : wh = 9
  · rw [if_pos c9, if_pos (by omega), if_neg c0, if_neg c1, if_neg c2, if_neg c3, if_neg c4, if_neg c5, if_neg c6, if_neg c7, if_neg c8, if_pos c9, h0.2.1.2.1]; exact AnM.v hq0 fs0 z0
  rw [if_neg c9]
  by_cases c10 : wh = 10
  · rw [if_pos c10, if_pos (by omega), if_neg c0, if_neg c1, if_neg c2, if_neg c3, if_neg c4, if_neg c5, if_neg c6, if_neg c7, if_neg c8, if_neg c9, if_pos c10, h0.2.2.1.1]; exact AnM.v hq0 fs0 z0
  rw [if_neg c10]
  by_cases c11 : wh = 11
  · rw [if_pos c11, if_pos (by omega), if_neg c0, if_neg c1, if_neg c2, if_neg c3, if_neg c4, if_neg c5, if_neg c6, if_neg c7, if_neg c8, if_neg c9, if_neg c10, if_pos c11, hT0.1]; exact AnM.v hq0 fs0 z0
  rw [if_neg c11]
  have fin : ∀ k : Nat, k < 3 → wh - 12 = k → AnM (oQ A) (oS A) 2 w (gd (inb (wr (wh - 12)) 3) (rI (gI w0 (473 + 13) ((wr (wh - 12) : Int).toNat)) w0)) (if 0 ≤ wh ∧ wh < 15 then .inl (if wh = 0 then (zk (oQ A) : Int) else if wh = 1 then zn (oQ A) else if wh = 2 then uT (oS A) else if wh = 3 then uC (oS A) else if wh = 4 then b2i (uP (oS A)) else if wh = 5 then mk (alv (oS A)) 8 else if wh = 6 then mk (uI (oS A)) 8 else if wh = 7 then sumN (uL (oS A)) 8 else if wh = 8 then (cmpN (oQ A) (oS A) : Nat) else if wh = 9 then ((oL A).length : Nat) else if wh = 10 then ((oN A).1 : Nat) else if wh = 11 then (m : Int) else oT A (wh - 12).toNat) else .inr 0) := by
    intro k hk e
    rw [wrd (by omega) (by omega), e, gdi (by omega) (by omega), nn, show gI w0 (473 + 13) k = oT A k from h0.2.2.2.1 k hk, if_pos (by omega), if_neg c0, if_neg c1, if_neg c2, if_neg c3, if_neg c4, if_neg c5, if_neg c6, if_neg c7, if_neg c8, if_neg c9, if_neg c10, if_neg c11]
    exact AnM.v hq0 fs0 z0
  by_cases c12 : wh = 12
  · rw [if_pos c12]; exact fin 0 (by omega) (by omega)
  rw [if_neg c12]
  by_cases c13 : wh = 13
  · rw [if_pos c13]; exact fin 1 (by omega) (by omega)
  rw [if_neg c13]
  by_cases c14 : wh = 14
  · rw [if_pos c14]; exact fin 2 (by omega) (by omega)
  rw [if_neg c14, if_neg (by omega)]
  exact AnM.f hq0 fs0 rfl
theorem r227 {w : Wd} {Q : QT} {s : ST} {x wh : Int} (h : MQy w Q s) : AnM Q s 2 w (F227 473 x wh w) (aPerson Q s x wh) := by
  refine AnM.of (e227 h.H l473) ?_
  obtain ⟨h0, f0, z0⟩ := st0 h
  revert h0 f0 z0
  generalize pI w 473 4 0 = w0
  intro h0 f0 z0
  refine AnM.P1 h0 (AnM.f h0 f0 rfl) fun x0 x1 => ?_
  have h8 := h0.1.n8
  have ht := h0.1.t
  obtain ⟨p, rfl, hp⟩ := toN x0 x1
  have hp8 : p < 8 := by omega
  have hpn : p < zn Q := by omega
  obtain ⟨r1, r2, r3, r4, r5, r6, r7, r8⟩ := h0.1.2.1
  have e7 : gI w0 473 33 = (((uT s).toNat : Nat) : Int) := by rw [r5]; omega
  rw [nn]
  unfold gdW
  by_cases c0 : wh = 0
  · rw [if_pos c0, if_pos (by omega), if_pos c0, gdi (by omega) (by omega), show gI w0 (473 + 16) p = uL s p by rw [show gI w0 (473 + 16) = uL s from r1]]; exact AnM.v h0 f0 z0
  rw [if_neg c0]
  by_cases c1 : wh = 1
  · rw [if_pos c1, if_pos (by omega), if_neg c0, if_pos c1, gdi (by omega) (by omega), show gI w0 (473 + 18) p = uW s p by rw [show gI w0 (473 + 18) = uW s from r3]]; exact AnM.v h0 f0 z0
  rw [if_neg c1]
  by_cases c2 : wh = 2
  · rw [if_pos c2, if_pos (by omega), if_neg c0, if_neg c1, if_pos c2, y214 h0.1 hp8, bI_r h0.H]; exact AnM.v h0 f0 z0
  rw [if_neg c2]
  by_cases c3 : wh = 3
  · rw [if_pos c3, if_pos (by omega), if_neg c0, if_neg c1, if_neg c2, if_pos c3, gdi (by omega) (by omega), show gI w0 (473 + 14) p = uM s p by rw [show gI w0 (473 + 14) = uM s from r4]]; exact AnM.v h0 f0 z0
  rw [if_neg c3]
  by_cases c4 : wh = 4
  · rw [if_pos c4, if_pos (by omega), if_neg c0, if_neg c1, if_neg c2, if_neg c3, if_pos c4, e7, y210 h0.1 hpn (by omega), bI_r h0.H]; exact AnM.v h0 f0 z0
  rw [if_neg c4]
  by_cases c5 : wh = 5
  · rw [if_pos c5, if_pos (by omega), if_neg c0, if_neg c1, if_neg c2, if_neg c3, if_neg c4, if_pos c5, gdi (by omega) (by omega), show gI w0 (473 + 17) p = uG s p by rw [show gI w0 (473 + 17) = uG s from r2]]; exact AnM.v h0 f0 z0
  rw [if_neg c5]
  by_cases c6 : wh = 6
  · rw [if_pos c6, if_pos (by omega), if_neg c0, if_neg c1, if_neg c2, if_neg c3, if_neg c4, if_neg c5, if_pos c6, gdi (by omega) (by omega), show gI w0 (473 + 5) p = b2i (zm Q p) from h0.1.1.2.2.2.2.1 p hpn]; exact AnM.v h0 f0 z0
  rw [if_neg c6]
  by_cases c7 : wh = 7
  · have e : bAnd (bShr (mk (uI s) 8) p) 1 = b2i (uI s p) := by
      rw [mk_bit (by decide) (by omega)]
      cases uI s p
      · rw [if_neg (by simp)]; rfl
      · rw [if_pos ⟨hp8, rfl⟩]; rfl
    rw [if_pos c7, if_pos (by omega), if_neg c0, if_neg c1, if_neg c2, if_neg c3, if_neg c4, if_neg c5, if_neg c6, if_pos c7, r8, e]; exact AnM.v h0 f0 z0
  rw [if_neg c7]
  by_cases c8 : wh = 8
  · rw [if_pos c8, if_pos (by omega), if_neg c0, if_neg c1, if_neg c2, if_neg c3, if_neg c4, if_neg c5, if_neg c6, if_neg c7, y212 h0.1 hpn, bI_r h0.H]; exact AnM.v h0 f0 z0
  rw [if_neg c8, if_neg (by omega)]
  exact AnM.f h0 f0 rfl
