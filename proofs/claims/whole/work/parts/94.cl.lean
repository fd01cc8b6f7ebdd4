/-! the class reads a whole text, and takes it over -/
theorem TK_of {v : Wd} {T : Row} {n M : Nat} (hn : n ≤ 700) (h : TG v T n M) : TK (KT T n) (VT T n) M := by
  obtain ⟨h1, h2, h3, h4⟩ := h
  refine ⟨?_, fun i hi => ?_, h4, fun i hi => ?_, fun i => ?_⟩
  · apply Classical.byContradiction
    intro u
    exact h4 n (by omega) (KT_700 (Nat.le_refl n))
  · obtain ⟨k, rfl⟩ : ∃ k, i = M + k := ⟨i - M, by omega⟩
    rw [KT_0, sT_e (KT_0.mp h3)]
    exact Nat.le_refl _
  · obtain ⟨d1, d2⟩ := KT_1 hi
    unfold VT
    exact nvD_4 d2 (fun k hk => d1 _ (by omega) (by omega))
  · unfold KT kT
    split
    · decide
    · split
      · split <;> decide
      · split
        · have := wk_b (T := T) (p := sT T n i) (e := eT T n (sT T n i)); omega
        · split
          · rename_i z; have := isSg_in z; omega
          · decide
def Z8 (w : Wd) (t : Nat) : Prop := ∀ p, 8 ≤ p → gI w (t + 1) p = 0 ∧ gI w (t + 2) p = 0 ∧ gI w (t + 3) p = 0
theorem lt8 {t : Nat} (ht : tOK t) : lay (t + 1) = (21, 8) ∧ lay (t + 2) = (21, 8) ∧ lay (t + 3) = (21, 8) ∧ lay (t + 4) = (21, 8) ∧ (lay (t + 6)).1 = 6 ∧ (lay (t + 8)).1 = 6 := by
  rcases ht with rfl | rfl <;> decide +kernel
theorem z62 {w : Wd} {a : Nat} (H : LR w) (h : (lay a).1 = 6) : F62 a w = r0 (pI w a 1 0) := e62 H h _ rfl
theorem z30 {w : Wd} {t : Nat} (H : LR w) (ht : tOK t) (hz : Z8 w t) : ∃ w', F30 t w = r0 w' ∧ (gI w' t 0 = 3 ∧ gI w' t 1 = 0 ∧ gI w' t 2 = 0 ∧ gI w' t 3 = 0) ∧ (gI w' (t + 1) = (fun _ => 0) ∧ gI w' (t + 2) = (fun _ => 0) ∧ gI w' (t + 3) = (fun _ => 0)) ∧
    (∀ p, p < 8 → gI w' (t + 4) p = 0) ∧ gI w' (t + 6) 1 = 0 ∧ gI w' (t + 8) 1 = 0 ∧ FrI (fun c => t ≤ c ∧ c ≤ t + 9) w w' := by
  obtain ⟨L1, L2, L3, L4, L6, L8⟩ := lt8 ht
  have ex : ∀ (v : Wd) (a : Nat), LR v → lay a = (21, 8) → F321 a 0 v = r0 (sI v a (fun i => if i < 8 then 0 else gI v a i)) := fun v a hv hl => q321 hv hl (by decide)
  obtain ⟨w0, hw0⟩ : ∃ w0, w0 = pI (pI (pI (pI w t 0 3) t 1 0) t 2 0) t 3 0 := ⟨_, rfl⟩
  have f0 : FrI (fun c => c = t) w w0 := by rw [hw0]; exact (((FrI.p (A := fun c => c = t) rfl).pp rfl).pp rfl).pp rfl
  have g0 : gI w0 t 0 = 3 ∧ gI w0 t 1 = 0 ∧ gI w0 t 2 = 0 ∧ gI w0 t 3 = 0 := by
    rw [hw0]
    refine ⟨?_, ?_, ?_, gI_s⟩
    · rw [gI_c (by decide), gI_c (by decide), gI_c (by decide), gI_s]
    · rw [gI_c (by decide), gI_c (by decide), gI_s]
    · rw [gI_c (by decide), gI_s]
  have H0 := f0.LR H
  obtain ⟨w1, hw1⟩ : ∃ w1, w1 = sI w0 (t + 1) (fun i => if i < 8 then 0 else gI w0 (t + 1) i) := ⟨_, rfl⟩
  have e1 := ex w0 (t + 1) H0 L1
  rw [← hw1] at e1
  have f1 : FrI (fun c => c = t + 1) w0 w1 := by rw [hw1]; exact FrI.s rfl
  have r1 : gI w1 (t + 1) = fun _ => 0 := by
    rw [hw1, gI_S]
    funext i
    by_cases z : i < 8
    · rw [if_pos z]
    · rw [if_neg z, f0.g (by omega)]; exact (hz i (by omega)).1
  have H1 := f1.LR H0
  obtain ⟨w2, hw2⟩ : ∃ w2, w2 = sI w1 (t + 2) (fun i => if i < 8 then 0 else gI w1 (t + 2) i) := ⟨_, rfl⟩
  have e2 := ex w1 (t + 2) H1 L2
  rw [← hw2] at e2
  have f2 : FrI (fun c => c = t + 2) w1 w2 := by rw [hw2]; exact FrI.s rfl
  have r2 : gI w2 (t + 2) = fun _ => 0 := by
    rw [hw2, gI_S]
    funext i
    by_cases z : i < 8
    · rw [if_pos z]
    · rw [if_neg z, f1.g (by omega), f0.g (by omega)]; exact (hz i (by omega)).2.1
  have H2 := f2.LR H1
  obtain ⟨w3, hw3⟩ : ∃ w3, w3 = sI w2 (t + 3) (fun i => if i < 8 then 0 else gI w2 (t + 3) i) := ⟨_, rfl⟩
  have e3 := ex w2 (t + 3) H2 L3
  rw [← hw3] at e3
  have f3 : FrI (fun c => c = t + 3) w2 w3 := by rw [hw3]; exact FrI.s rfl
  have r3 : gI w3 (t + 3) = fun _ => 0 := by
    rw [hw3, gI_S]
    funext i
    by_cases z : i < 8
    · rw [if_pos z]
    · rw [if_neg z, f2.g (by omega), f1.g (by omega), f0.g (by omega)]; exact (hz i (by omega)).2.2
  have H3 := f3.LR H2
  obtain ⟨w4, hw4⟩ : ∃ w4, w4 = sI w3 (t + 4) (fun i => if i < 8 then 0 else gI w3 (t + 4) i) := ⟨_, rfl⟩
  have e4 := ex w3 (t + 4) H3 L4
  rw [← hw4] at e4
  have f4 : FrI (fun c => c = t + 4) w3 w4 := by rw [hw4]; exact FrI.s rfl
  have r4 : ∀ i, i < 8 → gI w4 (t + 4) i = 0 := fun i hi => by rw [hw4, gI_S]; exact if_pos hi
  have H4 := f4.LR H3
  have f5 : FrI (fun c => c = t + 6) w4 (pI w4 (t + 6) 1 0) := FrI.p rfl
  have H5 := f5.LR H4
  have f6 : FrI (fun c => c = t + 8) (pI w4 (t + 6) 1 0) (pI (pI w4 (t + 6) 1 0) (t + 8) 1 0) := FrI.p rfl
  have H6 := f6.LR H5
  have gt : ∀ c, c ≠ t + 1 → c ≠ t + 2 → c ≠ t + 3 → c ≠ t + 4 → c ≠ t + 6 → c ≠ t + 8 → gI (pI (pI w4 (t + 6) 1 0) (t + 8) 1 0) c = gI w0 c := fun c x1 x2 x3 x4 x6 x8 => by
    rw [f6.g x8, f5.g x6, f4.g x4, f3.g x3, f2.g x2, f1.g x1]
  refine ⟨pI (pI w4 (t + 6) 1 0) (t + 8) 1 0, e30 H (lt4 ht) _ ?_, ?_, ⟨?_, ?_, ?_⟩, fun p hp => ?_, ?_, gI_s, ?_⟩
  · rw [← hw0, e1, b0_r H1, e2, b0_r H2, e3, b0_r H3, e4, b0_r H4, z62 H4 L6, b0_r H5, z62 H5 L8, b0_r H6]
  · rw [gt t (by omega) (by omega) (by omega) (by omega) (by omega) (by omega)]; exact g0
  · rw [f6.g (by omega), f5.g (by omega), f4.g (by omega), f3.g (by omega), f2.g (by omega)]; exact r1
  · rw [f6.g (by omega), f5.g (by omega), f4.g (by omega), f3.g (by omega)]; exact r2
  · rw [f6.g (by omega), f5.g (by omega), f4.g (by omega)]; exact r3
  · rw [f6.g (by omega), f5.g (by omega)]; exact r4 p hp
  · rw [f6.g (by omega), gI_s]
  · exact (((((f0.wk (fun b hb => by omega)).tr (f1.wk (fun b hb => by omega))).tr (f2.wk (fun b hb => by omega))).tr (f3.wk (fun b hb => by omega))).tr (f4.wk (fun b hb => by omega))).tr ((f5.wk (fun b hb => by omega)).tr (f6.wk (fun b hb => by omega)))
def FrM (t : Nat) (w w' : Wd) : Prop := (∀ c, ¬ (12 ≤ c ∧ c ≤ 16) → ¬ (t ≤ c ∧ c ≤ t + 9) → gI w' c = gI w c) ∧ (∀ c, c ≠ 12 → gR w' c = gR w c) ∧ gJ w' = gJ w ∧ gN w' = gN w ∧ gL w' = gL w ∧ gX w' = gX w ∧ gE w' = gE w
theorem FrM.tr {t : Nat} {a b c : Wd} (h : FrM t a b) (h' : FrM t b c) : FrM t a c :=
  ⟨fun x q1 q2 => (h'.1 x q1 q2).trans (h.1 x q1 q2), fun x q => (h'.2.1 x q).trans (h.2.1 x q), h'.2.2.1.trans h.2.2.1, h'.2.2.2.1.trans h.2.2.2.1, h'.2.2.2.2.1.trans h.2.2.2.2.1, h'.2.2.2.2.2.1.trans h.2.2.2.2.2.1, h'.2.2.2.2.2.2.trans h.2.2.2.2.2.2⟩
theorem FrI.M {A : Nat → Prop} {t : Nat} {w w' : Wd} (h : FrI A w w') (hA : ∀ c, A c → (12 ≤ c ∧ c ≤ 16) ∨ (t ≤ c ∧ c ≤ t + 9)) : FrM t w w' := by
  have e := h.2
  refine ⟨fun c q1 q2 => h.g (fun z => by rcases hA c z with y | y; exact q1 y; exact q2 y), fun c _ => by rw [h.R], ?_, ?_, ?_, ?_, ?_⟩ <;> (first | unfold gJ | unfold gN | unfold gL | unfold gX | unfold gE) <;> rw [e]
theorem FrL.M {t : Nat} {w w' : Wd} (h : FrL t w w') : FrM t w w' := ⟨fun c q1 q2 => h.1 c (fun e => q1 (by omega)) q2, h.2.1, h.2.2.2.1, h.2.2.2.2.1, h.2.2.2.2.2.1, h.2.2.2.2.2.2.1, h.2.2.2.2.2.2.2.1⟩
/-- what is read of a text -/
def rTx (T : Row) (n : Nat) : LZ × QZ := rAl (KT T n) (VT T n) 700 ((0, 0), q00)
theorem z40 {w : Wd} {T : Row} {n t : Nat} (H : LR w) (hx : TX w T n) (ht : tOK t) (h1 : gR w 12 1 = some t) (hz : Z8 w t) :
    ∃ w' M, TK (KT T n) (VT T n) M ∧ F40 12 1 n w = rI (rTx T n).1.1 w' ∧ ((rTx T n).1.1 = 0 → RQz w' t (rTx T n).2) ∧ gI w' 12 6 = (if (rTx T n).1.1 = 0 then -1 else (sT T n (rTx T n).1.2 : Int)) ∧ gR w' 12 1 = some t ∧ LR w' ∧ FrM t w w' ∧ Z8 w' t := by
  have ht' : t = 2 ∨ t = 17 := ht
  have hn := hx.1
  obtain ⟨w1, M, a1, a2, a3⟩ := q94 H hx
  have hT := TK_of hn a2
  have hM := hT.1
  have H1 := a3.LR H
  have hz1 : Z8 w1 t := fun p hp => by rw [a3.g (by omega), a3.g (by omega), a3.g (by omega)]; exact hz p hp
  obtain ⟨w2, b1, b2, b3, b4, b5, b6, b7⟩ := z30 H1 ht hz1
  have H2 := b7.LR H1
  have g2 : TG w2 T n M := a2.ext (fun b x1 x2 => b7.g (by omega))
  have fp : FrI (fun c => c = 12) w2 (pI w2 12 3 0) := FrI.p rfl
  have gp : TG (pI w2 12 3 0) T n M := g2.ext (fun b x1 x2 => fp.g (by omega))
  have e103 := q103 (i := 0) (fp.LR H2) gp hM (Nat.zero_le _)
  obtain ⟨w3, hw3⟩ : ∃ w3, w3 = pI (pI (pI (pI (pI w2 12 3 0) 12 4 (KT T n 0)) 12 5 0) 12 7 0) 12 8 0 := ⟨_, rfl⟩
  have f3 : FrI (fun c => c = 12) w2 w3 := by rw [hw3]; exact ((((FrI.p (A := fun c => c = 12) rfl).pp rfl).pp rfl).pp rfl).pp rfl
  have H3 := f3.LR H2
  have c3 : gI w3 12 3 = 0 ∧ gI w3 12 4 = KT T n 0 ∧ gI w3 12 5 = 0 ∧ gI w3 12 7 = 0 ∧ gI w3 12 8 = 0 := by
    rw [hw3]
    refine ⟨?_, ?_, ?_, ?_, gI_s⟩
    · rw [gI_c (by decide), gI_c (by decide), gI_c (by decide), gI_c (by decide), gI_s]
    · rw [gI_c (by decide), gI_c (by decide), gI_c (by decide), gI_s]
    · rw [gI_c (by decide), gI_c (by decide), gI_s]
    · rw [gI_c (by decide), gI_s]
  have h13 : gR w3 12 1 = some t := by rw [f3.R, b7.R, a3.R]; exact h1
  have hRL : RLz T n M t w3 ((0, 0), q00) := by
    refine ⟨⟨H3, g2.ext (fun b x1 x2 => f3.g (by omega)), h13, c3.2.2.1, c3.1, by rw [c3.2.1]; rfl, Nat.zero_le _⟩, fun _ => ⟨⟨?_, ?_, fun p hp => absurd hp (Nat.not_lt_zero _), ⟨?_, fun i hi => absurd hi (Nat.not_lt_zero _)⟩, ⟨?_, fun i hi => absurd hi (Nat.not_lt_zero _)⟩, c3.2.2.2.1, c3.2.2.2.2⟩, ⟨Nat.zero_le _, fun _ _ => rfl, fun p hp => absurd hp (Nat.not_lt_zero _)⟩, fun p _ hp => by rw [f3.g (by omega)]; exact b4 p hp⟩⟩
    · rw [f3.g (by omega)]; exact b2
    · rw [f3.g (by omega), f3.g (by omega), f3.g (by omega)]; exact b3
    · rw [f3.g (by omega)]; exact b5
    · rw [f3.g (by omega)]; exact b6
  obtain ⟨w4, k', d1, d2, d3⟩ := zal (x2 := (n : Int)) hT ht 700 0 w3 _ rfl hRL
  have d2 : RLz T n M t w4 (rTx T n) := d2
  have FM : FrM t w w4 := (((a3.M (fun c hc => Or.inl (by omega))).tr (b7.M (fun c hc => Or.inr hc))).tr (f3.M (fun c hc => Or.inl (by omega)))).tr d3.M
  have hz4 : Z8 w4 t := fun p hp => by
    obtain ⟨x1, x2, x3⟩ := d3.2.2.2.2.2.2.2.2 p hp
    rw [x1, x2, x3, f3.g (by omega), f3.g (by omega), f3.g (by omega), b3.1, b3.2.1, b3.2.2]
    exact ⟨rfl, rfl, rfl⟩
  obtain ⟨⟨y1, y2, y3, y4, y5, y6, y7⟩, y8⟩ := d2
  have key : ∀ v : Int, s40_87 12 1 (n : Int) k' w4 = rI (rTx T n).1.1 (pI w4 12 6 v) → gI (pI w4 12 6 v) 12 6 = (if (rTx T n).1.1 = 0 then -1 else (sT T n (rTx T n).1.2 : Int)) → ∃ w' M, TK (KT T n) (VT T n) M ∧ F40 12 1 n w = rI (rTx T n).1.1 w' ∧ ((rTx T n).1.1 = 0 → RQz w' t (rTx T n).2) ∧ gI w' 12 6 = (if (rTx T n).1.1 = 0 then -1 else (sT T n (rTx T n).1.2 : Int)) ∧ gR w' 12 1 = some t ∧ LR w' ∧ FrM t w w' ∧ Z8 w' t := by
    intro v hv h6
    have fv : FrI (fun c => c = 12) w4 (pI w4 12 6 v) := FrI.p rfl
    refine ⟨pI w4 12 6 v, M, hT, e40 H l12 l1B _ ?_, fun z => ?_, h6, y3, fv.LR y1, FM.tr (fv.M (fun c hc => Or.inl (by omega))), fun p hp => by rw [fv.g (by omega), fv.g (by omega), fv.g (by omega)]; exact hz4 p hp⟩
    · rw [show F94 (12 + 1) 1 (n : Int) w = r0 w1 from a1, b0_r H1, show gR w1 12 1 = some t by rw [a3.R]; exact h1, gQ_t (lt4 ht), b1, b0_r H2, show F103 (12 + 1) 0 (pI w2 12 3 0) = _ from e103, bI_r (fp.LR H2), ← hw3]
      exact d1 _ hv
    · have := (y8 z).1
      exact RQz.ext this (fun c x1 x2 _ _ => fv.g (by omega)) (fun p _ => by rw [fv.g (by omega)]) (fun p i _ _ => by rw [fv.g (by omega)]) (fun i hi => gI_c (by omega))
  by_cases z : (rTx T n).1.1 = 0
  · refine key (-1) (e40_87 y1 l12 l1B _ ?_) (by rw [gI_s, if_pos z])
    rw [y4, if_pos z, gI_c (by decide), y4]
  · refine key (sT T n (rTx T n).1.2) (e40_87 y1 l12 l1B _ ?_) (by rw [gI_s, if_neg z])
    rw [y4, if_neg z, y5, show F104 (12 + 1) ((rTx T n).1.2 : Int) w4 = _ from q104 y1 y2 hM y7, bI_r y1, gI_c (by decide), y4]
