theorem c12 {w : Wd} {n : Nat} {D : Nat → Nat → Int} {T : Row} (H : LR w) (hn : n ≤ 8) (hD : ∀ a b, a < n → b < n → gI w 468 (8 * a + b) = D a b) (hO : ∀ p q, p < 8 → q < 8 → -1 ≤ D p q ∧ D p q ≤ 999) (hT : ∀ i, 0 < i → i < 2 ^ n → gI w 466 i = T i) (hT2 : ∀ i, T i = -1 ∨ ∃ q : Nat, q < 8 ∧ T i = q ∧ i.testBit q = true ∧ fo i < q) :
    ∃ w', F12 464 ((2 ^ n : Nat) - 1 : Nat) w = r0 w' ∧ FrI (fun b => b = 464 ∨ b = 467) w w' ∧ (∀ i, i < 8 → gI w' 467 i = (rrN T D (2 ^ n - 1) 8).2.1 i) ∧ gI w' 464 4 = (rrN T D (2 ^ n - 1) 8).2.2.1 ∧ gI w' 464 5 = (rrN T D (2 ^ n - 1) 8).2.2.2 := by
  have hN : 1 ≤ 2 ^ n ∧ 2 ^ n ≤ 256 := ⟨Nat.one_le_two_pow, Nat.pow_le_pow_right (n := 2) (by omega) hn⟩
  have hin : ∀ m i, m < 2 ^ n → m.testBit i = true → i < n := fun m i hm hi => in_lt hm hi
  generalize 2 ^ n = N at *
  obtain ⟨x1, k1, k2, k3⟩ := q321r (a := 467) (n := 8) (x := -1) H (by rfl) (by omega)
  have H1 := k2.LR H
  have f0 : FrI (fun b => b = 464 ∨ b = 467) w (pI (pI x1 464 4 0) 464 5 0) := ((k2.wk (fun b hb => by omega)).pp (by omega)).pp (by omega)
  have fin : ∀ {u : Wd} {a : Nat × Row × Int × Int}, (∀ i, i < 8 → gI u 467 i = a.2.1 i) ∧ gI u 464 4 = a.2.2.1 ∧ gI u 464 5 = a.2.2.2 → FrI (fun b => b = 464 ∨ b = 467) w u → rrN T D (N - 1) 8 = a → s12_22 464 (N - 1 : Nat) (N - 1 : Nat) 0 (pI (pI x1 464 4 0) 464 5 0) = r0 u → ∃ w', F12 464 (N - 1 : Nat) w = r0 w' ∧ FrI (fun b => b = 464 ∨ b = 467) w w' ∧ (∀ i, i < 8 → gI w' 467 i = (rrN T D (N - 1) 8).2.1 i) ∧ gI w' 464 4 = (rrN T D (N - 1) 8).2.2.1 ∧ gI w' 464 5 = (rrN T D (N - 1) 8).2.2.2 := by
    intro u a h1 h2 h3 h4
    refine ⟨u, e12 H l464 _ ?_, h2, by rw [h3]; exact h1.1, by rw [h3]; exact h1.2.1, by rw [h3]; exact h1.2.2⟩
    rw [show F321 (464 + 3) (-1) w = r0 x1 from k1, b0_r H1]
    exact h4
  have hX := lpX (F := fun k (a : Nat × Wd) => s12_22 464 (N - 1 : Nat) a.1 k a.2) (I := fun k a => a.1 = (rrN T D (N - 1) k).1 ∧ a.1 < N ∧ FrI (fun b => b = 464 ∨ b = 467) w a.2 ∧ (∀ i, i < 8 → gI a.2 467 i = (rrN T D (N - 1) k).2.1 i) ∧ gI a.2 464 4 = (rrN T D (N - 1) k).2.2.1 ∧ gI a.2 464 5 = (rrN T D (N - 1) k).2.2.2 ∧ (0 ≤ gI a.2 464 4 ∧ gI a.2 464 4 ≤ k) ∧ (-1 * k ≤ gI a.2 464 5 ∧ gI a.2 464 5 ≤ 999 * k)) (Q := fun o => ∃ u, o = (.inl none, u) ∧ FrI (fun b => b = 464 ∨ b = 467) w u ∧ ∃ k : Nat, k ≤ 8 ∧ (rrN T D (N - 1) k).1 = 0 ∧ (∀ i, i < 8 → gI u 467 i = (rrN T D (N - 1) k).2.1 i) ∧ gI u 464 4 = (rrN T D (N - 1) k).2.2.1 ∧ gI u 464 5 = (rrN T D (N - 1) k).2.2.2) 8 (fun k a hk e => by
    obtain ⟨m, u⟩ := a
    obtain ⟨i1, i2, i3, i4, i5, i6, i7, i8⟩ := e
    simp only [] at i1 i2 i3 i4 i5 i6 i7 i8
    have HU := i3.LR H
    by_cases z : m = 0
    · refine Or.inr ⟨_, e12_22 HU l464 _ ?_, u, rfl, i3, k, by omega, by rw [← i1]; exact z, i4, i5, i6⟩
      rw [if_neg (by omega), if_pos (by omega)]
    · have hm : m < 256 := by omega
      have hp := fo_b m
      have hpi := fo_in (m := m) (by omega) hm
      have hpn := hin m _ i2 hpi
      have e11 := c11 HU hm
      have hTm : gI u 466 m = T m := by rw [i3.g (by omega)]; exact hT m (by omega) i2
      have es := rrN_s (T := T) (D := D) (m := N - 1) (k := k)
      have fo8 : fo m < 8 := by omega
      have ld := dl_le' hm (show fo m < 8 by omega)
      rcases hT2 m with hq | ⟨q, q1, q2, q3, q4⟩
      · have er : rrS T D (rrN T D (N - 1) k) = (dl m (fo m), (rrN T D (N - 1) k).2) := by
          unfold rrS
          rw [← i1, if_neg z, if_pos (by omega)]
        refine Or.inl ⟨(dl m (fo m), u), fun o ho => e12_22 HU l464 _ ?_, by rw [es, er], by show dl m (fo m) < N; omega, i3, by rw [es, er]; exact i4, by rw [es, er]; exact i5, by rw [es, er]; exact i6, ⟨i7.1, by show gI u 464 4 ≤ ((k + 1 : Nat) : Int); omega⟩, ⟨by show -1 * ((k + 1 : Nat) : Int) ≤ gI u 464 5; omega, by show gI u 464 5 ≤ 999 * ((k + 1 : Nat) : Int); omega⟩⟩
        rw [if_neg (by omega), if_neg (by omega), if_neg (by omega), e11, bI_r HU, gdi (by omega) (by omega), if_neg (by omega), nn, show gI u (464 + 2) m = T m from hTm, hq, if_pos (by decide), dl_eq hm fo8, wrs (Nat.lt_trans hk (by decide))]
        exact ho
      · have hqn := hin m _ i2 q3
        have hDD : gI u 468 (8 * fo m + q) = D (fo m) q := by rw [i3.g (by omega)]; exact hD _ _ hpn hqn
        have hOO := hO (fo m) q (by omega) q1
        have ld2 := dl_le' (m := dl m (fo m)) dl_b q1
        have er : rrS T D (rrN T D (N - 1) k) = (dl (dl m (fo m)) q, va_up (va_up (rrN T D (N - 1) k).2.1 (fo m) q) q (fo m), (rrN T D (N - 1) k).2.2.1 + 1, (rrN T D (N - 1) k).2.2.2 + D (fo m) q) := by
          unfold rrS
          rw [← i1, if_neg z, q2, if_neg (by omega), nn]
        refine Or.inl ⟨(dl (dl m (fo m)) q, pI (pI (pI (pI u 467 (fo m) q) 467 q (fo m)) 464 4 (gI u 464 4 + 1)) 464 5 (gI u 464 5 + D (fo m) q)), fun o ho => e12_22 HU l464 _ ?_, by rw [es, er], by show dl (dl m (fo m)) q < N; omega, (((i3.pp (by omega)).pp (by omega)).pp (by omega)).pp (by omega), fun i hi => ?_, ?_, ?_, ?_, ?_⟩
        · rw [if_neg (by omega), if_neg (by omega), if_neg (by omega), e11, bI_r HU, gdi (by omega) (by omega), if_neg (by omega), nn, show gI u (464 + 2) m = T m from hTm, q2, if_neg (by omega), if_neg (by omega), gdi (by omega) (by omega), gdi (by omega) (by omega), ix8 fo8 q1, gdi (by omega) (by omega), dl_eq hm fo8, dl_eq dl_b q1, nn, nn, nn]
          simp (disch := omega) only [gI_s, gI_c, gI_r]
          rw [show gI u (464 + 4) (8 * fo m + q) = D (fo m) q from hDD, wrs (Nat.lt_trans hk (by decide)), wrd (z := gI u 464 4 + 1) (by omega) (by omega), wrd (by omega) (by omega)]
          exact ho
        · rw [es, er, gI_r (by omega), gI_r (by omega), gI_p, gI_p]
          dsimp only
          unfold va_up
          by_cases y1 : i = q
          · rw [if_pos y1, if_pos y1]
          · rw [if_neg y1, if_neg y1]
            by_cases y2 : i = fo m
            · rw [if_pos y2, if_pos y2]
            · rw [if_neg y2, if_neg y2]; exact i4 i hi
        · rw [es, er, gI_c (by omega), gI_s, i5]
        · rw [es, er, gI_s, i6]
        · dsimp only
          rw [gI_c (by omega), gI_s]; omega
        · dsimp only
          rw [gI_s]; omega) (N - 1, pI (pI x1 464 4 0) 464 5 0) ⟨rfl, by show N - 1 < N; omega, f0, fun i hi => by rw [gI_r (by omega), gI_r (by omega)]; exact k3 i hi, by rw [gI_c (by omega), gI_s]; rfl, by rw [gI_s]; rfl, by rw [gI_c (by omega), gI_s]; omega, by rw [gI_s]; omega⟩
  rcases hX with ⟨⟨m, u⟩, hu, i1, i2, i3, i4, i5, i6, -, -⟩ | ⟨o, ho, u, hw, i3, k, hk, hz, i4, i5, i6⟩
  · exact fin ⟨i4, i5, i6⟩ i3 rfl (hu _ (e12_22 (i3.LR H) l464 _ (if_pos (by omega))))
  · have e8 := rrN_st hz (8 - k)
    rw [show k + (8 - k) = 8 by omega] at e8
    rw [hw] at ho
    exact fin ⟨i4, i5, i6⟩ i3 e8 ho
