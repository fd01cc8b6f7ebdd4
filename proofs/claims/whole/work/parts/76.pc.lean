/-! couples: the row read off by both -/
section CPL
variable {D : Nat → Nat → Int} {W T L : Row} {N : Nat}
theorem rrS_n {m : Nat} {r : Row} {c d : Int} (h0 : m ≠ 0) (h : T m = -1) : rrS T D (m, r, c, d) = (dl m (fo m), r, c, d) := by
  unfold rrS
  dsimp only
  rw [if_neg h0, if_pos (by omega)]
theorem rrS_q {m q : Nat} {r : Row} {c d : Int} (h0 : m ≠ 0) (h : T m = (q : Int)) : rrS T D (m, r, c, d) = (dl (dl m (fo m)) q, va_up (va_up r (fo m) (q : Int)) q (fo m : Int), c + 1, d + D (fo m) q) := by
  unfold rrS
  dsimp only
  rw [if_neg h0, h, if_neg (by omega), nn]
theorem rr_inv (hD : ∀ p q, p < 8 → q < 8 → -1 ≤ D p q ∧ D p q ≤ 999) (hN : N < 256) (hN8 : tbN N ≤ 8) (hW : WT D W T (N + 1)) (hL : LTb D L (N + 1)) : ∀ k : Nat,
    (rrN T D N k).1 ≤ N ∧ ((rrN T D N k).1 = 0 ∨ tbN (rrN T D N k).1 + k ≤ 8) ∧ 0 ≤ (rrN T D N k).2.2.1 ∧ (rrN T D N k).2.2.1 ≤ k ∧ 0 ≤ (rrN T D N k).2.2.2 ∧ (rrN T D N k).2.2.2 ≤ 999 * (rrN T D N k).2.2.1 ∧
    W (rrN T D N k).1 + 10000 * (rrN T D N k).2.2.1 - (rrN T D N k).2.2.2 = W N ∧ ∀ i, (rrN T D N k).1.testBit i = true → (rrN T D N k).2.1 i = -1 := by
  intro k
  induction k with
  | zero =>
    refine ⟨Nat.le_refl _, Or.inr hN8, Int.le_refl _, Int.le_refl _, Int.le_refl _, Int.le_refl _, ?_, fun _ _ => rfl⟩
    show W N + 10000 * 0 - 0 = W N
    omega
  | succ k ih =>
    rw [rrN_s]
    rcases ha : rrN T D N k with ⟨m, r, c, d⟩
    rw [ha] at ih
    obtain ⟨i1, i2, i3, i4, i5, i6, i7, i8⟩ := ih
    have i1 : m ≤ N := i1
    have i2 : m = 0 ∨ tbN m + k ≤ 8 := i2
    have i3 : 0 ≤ c := i3
    have i4 : c ≤ k := i4
    have i5 : 0 ≤ d := i5
    have i6 : d ≤ 999 * c := i6
    have i7 : W m + 10000 * c - d = W N := i7
    have i8 : ∀ i, m.testBit i = true → r i = -1 := i8
    by_cases z : m = 0
    · rw [rr_0 (show (m, r, c, d).1 = 0 from z)]
      exact ⟨i1, Or.inl z, i3, by show c ≤ ((k + 1 : Nat) : Int); omega, i5, i6, i7, i8⟩
    · have hm8 : m < 256 := by omega
      have hf := fo_b m
      have hfi := fo_in (show 0 < m by omega) hm8
      have hdl := dl_lt m hm8 (fo m) (by omega) hfi
      have htb := tb_dl m hm8 (fo m) (by omega) hfi
      rcases take_L hD (show N + 1 ≤ 256 by omega) hW hL (show 0 < m by omega) (show m < N + 1 by omega) with ⟨t1, t2, -⟩ | ⟨q, t1, t2, t3, t4, t5, t6, -⟩
      · rw [rrS_n z t1]
        refine ⟨by show dl m (fo m) ≤ N; omega, Or.inr (by show tbN (dl m (fo m)) + (k + 1) ≤ 8; omega), i3, by show c ≤ ((k + 1 : Nat) : Int); omega, i5, i6, by show W (dl m (fo m)) + 10000 * c - d = W N; omega, fun i hi => i8 i (dl_in hi).1⟩
      · have h2 := dl2_lt hm8 (show fo m < 8 by omega) t3 hfi t4 (by omega)
        have hq := hD (fo m) q (by omega) t3
        rw [rrS_q z t1]
        refine ⟨by show dl (dl m (fo m)) q ≤ N; omega, Or.inr (by show tbN (dl (dl m (fo m)) q) + (k + 1) ≤ 8; omega), by show 0 ≤ c + 1; omega, by show c + 1 ≤ ((k + 1 : Nat) : Int); omega, by show 0 ≤ d + D (fo m) q; omega, by show d + D (fo m) q ≤ 999 * (c + 1); omega, by show W (dl (dl m (fo m)) q) + 10000 * (c + 1) - (d + D (fo m) q) = W N; omega, fun i hi => ?_⟩
        obtain ⟨a1, a2⟩ := dl_in hi
        obtain ⟨a3, a4⟩ := dl_in a1
        show va_up (va_up r (fo m) (q : Int)) q (fo m : Int) i = -1
        rw [up_c a2, up_c a4]
        exact i8 i a3
theorem rr_late (hD : ∀ p q, p < 8 → q < 8 → -1 ≤ D p q ∧ D p q ≤ 999) (hN : N < 256) (hN8 : tbN N ≤ 8) (hW : WT D W T (N + 1)) (hL : LTb D L (N + 1)) {k i : Nat} (h : (rrN T D N k).1.testBit i = false) : ∀ j : Nat,
    (rrN T D N (k + j)).2.1 i = (rrN T D N k).2.1 i ∧ (rrN T D N (k + j)).1.testBit i = false := by
  intro j
  induction j with
  | zero => exact ⟨rfl, h⟩
  | succ j ih =>
    have inv := rr_inv hD hN hN8 hW hL (k + j)
    rw [← Nat.add_assoc, rrN_s]
    rcases ha : rrN T D N (k + j) with ⟨m, r, c, d⟩
    rw [ha] at ih inv
    obtain ⟨j1, j2⟩ := ih
    have j2 : m.testBit i = false := j2
    have i1 : m ≤ N := inv.1
    by_cases z : m = 0
    · rw [rr_0 (show (m, r, c, d).1 = 0 from z)]
      exact ⟨j1, j2⟩
    · have hm8 : m < 256 := by omega
      have hfi := fo_in (show 0 < m by omega) hm8
      have hd1 : (dl m (fo m)).testBit i = false := by
        cases y : (dl m (fo m)).testBit i
        · rfl
        · rw [(dl_in y).1] at j2; exact j2
      rcases take_L hD (show N + 1 ≤ 256 by omega) hW hL (show 0 < m by omega) (show m < N + 1 by omega) with ⟨t1, -, -⟩ | ⟨q, t1, t2, t3, t4, -, -, -⟩
      · rw [rrS_n z t1]
        exact ⟨j1, hd1⟩
      · rw [rrS_q z t1]
        refine ⟨?_, ?_⟩
        · show va_up (va_up r (fo m) (q : Int)) q (fo m : Int) i = _
          rw [up_c (fun e => by rw [e, t4] at j2; cases j2), up_c (fun e => by rw [e, hfi] at j2; cases j2)]
          exact j1
        · show (dl (dl m (fo m)) q).testBit i = false
          cases y : (dl (dl m (fo m)) q).testBit i
          · rfl
          · rw [(dl_in y).1] at hd1; exact hd1
end CPL
theorem tb_al8 : ∀ n : Nat, n ≤ 8 → tbN (2 ^ n - 1) = n := by decide +kernel
theorem cpl_PF {Q : QT} {s : ST} {L : Row} (h : GS (zn Q) s) (h8 : zn Q ≤ 8) (hL : LTb (df Q s) L (2 ^ zn Q)) :
    L (2 ^ zn Q - 1) = 100000 * zn Q - 200000 * (cpl Q s).2.2.1 + (cpl Q s).2.2.2 ∧ 0 ≤ (cpl Q s).2.2.1 ∧ 2 * (cpl Q s).2.2.1 ≤ zn Q ∧ 0 ≤ (cpl Q s).2.2.2 ∧ (cpl Q s).2.2.2 ≤ 999 * (cpl Q s).2.2.1 := by
  have hN1 : 1 ≤ 2 ^ zn Q := Nat.one_le_two_pow
  have hN2 : 2 ^ zn Q ≤ 256 := Nat.pow_le_pow_right (n := 2) (by decide) h8
  have hC : cpl Q s = rrN (Tn (df Q s) (2 ^ zn Q - 1)).2 (df Q s) (2 ^ zn Q - 1) 8 := rfl
  have hT := tb_al8 (zn Q) h8
  rw [hC]
  generalize hNn : 2 ^ zn Q - 1 = N at *
  have hL' : LTb (df Q s) L (N + 1) := by rw [show N + 1 = 2 ^ zn Q by omega]; exact hL
  have hD : ∀ a b, a < 8 → b < 8 → -1 ≤ df Q s a b ∧ df Q s a b ≤ 999 := fun a b _ _ => df_b h a b
  have hW := WT_Tn (D := df Q s) (N := N) (by omega)
  obtain ⟨a1, a2, a3, a4, a5, a6, a7, -⟩ := rr_inv hD (by omega) (tb_8 N) hW hL' 8
  obtain ⟨P, F, b1, b2, b3, b4, b5, b6⟩ := Lk_all hD (by omega) hW hL' N (by omega)
  rw [hT] at b2 b6
  generalize hA : rrN (Tn (df Q s) N).2 (df Q s) N 8 = A at *
  have hz : A.1 = 0 := by
    rcases a2 with z | z
    · exact z
    · exact tb_0 A.1 (by omega) (by omega)
  rw [hz, hW.1] at a7
  omega
theorem y260s {v : Wd} {Q : QT} {s : ST} {m x : Nat} {T : Row} {W : Row} (h : MQx v Q s) (h0 : 0 < m) (hm : m < 2 ^ zn Q) (hW : WT (df Q s) W T (2 ^ zn Q)) (hL : LTb (df Q s) (gI v 500) (2 ^ zn Q)) :
    Rf (s260_83 473 x m (fo m) (dl m (fo m)) (mk (fun i => (dl m (fo m)).testBit i && oth Q (uT s).toNat (fo m) i) 8) (T m) (fo m) v) (s260_83 473 x m (fo m) (dl m (fo m)) (mk (fun i => (dl m (fo m)).testBit i && oth Q (uT s).toNat (fo m) i) 8) (-1) ((zn Q : Int) - 1) v) := by
  have h8 := h.n8
  have hN2 : 2 ^ zn Q ≤ 256 := Nat.pow_le_pow_right (n := 2) (by decide) h8
  have hm8 : m < 256 := by omega
  have hf := fo_b m
  have hfi := fo_in h0 hm8
  have hfn : fo m < zn Q := in_lt hm hfi
  have hD : ∀ a b, a < 8 → b < 8 → -1 ≤ df Q s a b ∧ df Q s a b ≤ 999 := fun a b _ _ => df_b h.s a b
  have hLk := Lk_all hD hN2 hW hL
  have hLb : ∀ i, i ≤ m → 0 ≤ gI v 500 i ∧ gI v 500 i ≤ 900000 := fun i hi => by
    have := Lk.b (tb_8 i) (hLk i (by omega))
    omega
  have hd := dl_lt m hm8 (fo m) (by omega) hfi
  have ex : ∀ k, k < zn Q → (zn Q : Int) - 1 - ((k : Nat) : Int) = ((zn Q - 1 - k : Nat) : Int) := fun k hk => by omega
  have ey : ∀ k, k < zn Q → wr (((zn Q - 1 - k : Nat) : Int) + -1) = (zn Q : Int) - 1 - ((k + 1 : Nat) : Int) := fun k hk => by rw [wrd (by omega) (by omega)]; omega
  have goOn : ∀ (k : Nat) (wi : Int), k < zn Q - 1 - fo m → ((wi = -1 ∧ ∀ r, zn Q - k ≤ r → r < zn Q → ¬ (m.testBit r = true ∧ df Q s (fo m) r ≠ -1 ∧ df Q s (fo m) r + gI v 500 (dl (dl m (fo m)) r) = gI v 500 m)) ∨
      ∃ q : Nat, wi = q ∧ zn Q - k ≤ q ∧ q < zn Q ∧ (m.testBit q = true ∧ df Q s (fo m) q ≠ -1 ∧ df Q s (fo m) q + gI v 500 (dl (dl m (fo m)) q) = gI v 500 m) ∧ ∀ r, zn Q - k ≤ r → r < q → ¬ (m.testBit r = true ∧ df Q s (fo m) r ≠ -1 ∧ df Q s (fo m) r + gI v 500 (dl (dl m (fo m)) r) = gI v 500 m)) →
      ∃ wj, Rf (s260_83 473 x m (fo m) (dl m (fo m)) (mk (fun i => (dl m (fo m)).testBit i && oth Q (uT s).toNat (fo m) i) 8) wj ((zn Q : Int) - 1 - ((k + 1 : Nat) : Int)) v) (s260_83 473 x m (fo m) (dl m (fo m)) (mk (fun i => (dl m (fo m)).testBit i && oth Q (uT s).toNat (fo m) i) 8) wi ((zn Q : Int) - 1 - (k : Int)) v) ∧
      ((wj = -1 ∧ ∀ r, zn Q - (k + 1) ≤ r → r < zn Q → ¬ (m.testBit r = true ∧ df Q s (fo m) r ≠ -1 ∧ df Q s (fo m) r + gI v 500 (dl (dl m (fo m)) r) = gI v 500 m)) ∨
      ∃ q : Nat, wj = q ∧ zn Q - (k + 1) ≤ q ∧ q < zn Q ∧ (m.testBit q = true ∧ df Q s (fo m) q ≠ -1 ∧ df Q s (fo m) q + gI v 500 (dl (dl m (fo m)) q) = gI v 500 m) ∧ ∀ r, zn Q - (k + 1) ≤ r → r < q → ¬ (m.testBit r = true ∧ df Q s (fo m) r ≠ -1 ∧ df Q s (fo m) r + gI v 500 (dl (dl m (fo m)) r) = gI v 500 m)) := by
    intro k wi hk e
    have hk2 : k < zn Q := by omega
    obtain ⟨o, ho⟩ : ∃ o, o = zn Q - 1 - k := ⟨_, rfl⟩
    have ho8 : o < 8 := by omega
    have hon : o < zn Q := by omega
    have hop : fo m < o := by omega
    have eR : F175 (mk (fun i => (dl m (fo m)).testBit i && oth Q (uT s).toNat (fo m) i) 8) (o : Int) v = rI (b2i (decide (m.testBit o = true ∧ df Q s (fo m) o ≠ -1))) v := by
      rw [y175 h.H ho8]
      show rI (b2i (_ && _)) v = _
      rw [someT h8 hon hop]
    rw [ex k hk2, ← ho]
    have ey := ey k hk2
    rw [← ho] at ey
    have keep : ¬ (m.testBit o = true ∧ df Q s (fo m) o ≠ -1 ∧ df Q s (fo m) o + gI v 500 (dl (dl m (fo m)) o) = gI v 500 m) → ((wi = -1 ∧ ∀ r, zn Q - (k + 1) ≤ r → r < zn Q → ¬ (m.testBit r = true ∧ df Q s (fo m) r ≠ -1 ∧ df Q s (fo m) r + gI v 500 (dl (dl m (fo m)) r) = gI v 500 m)) ∨
      ∃ q : Nat, wi = q ∧ zn Q - (k + 1) ≤ q ∧ q < zn Q ∧ (m.testBit q = true ∧ df Q s (fo m) q ≠ -1 ∧ df Q s (fo m) q + gI v 500 (dl (dl m (fo m)) q) = gI v 500 m) ∧ ∀ r, zn Q - (k + 1) ≤ r → r < q → ¬ (m.testBit r = true ∧ df Q s (fo m) r ≠ -1 ∧ df Q s (fo m) r + gI v 500 (dl (dl m (fo m)) r) = gI v 500 m)) := by
      intro hn
      rcases e with ⟨e1, e2⟩ | ⟨q, e1, e2, e3, e4, e5⟩
      · refine Or.inl ⟨e1, fun r r1 r2 => ?_⟩
        by_cases y : r = o
        · rw [y]; exact hn
        · exact e2 r (by omega) r2
      · refine Or.inr ⟨q, e1, by omega, e3, e4, fun r r1 r2 => ?_⟩
        by_cases y : r = o
        · rw [y]; exact hn
        · exact e5 r (by omega) r2
    by_cases c : m.testBit o = true ∧ df Q s (fo m) o ≠ -1
    · have hd2 := dl_le (dl m (fo m)) dl_b o ho8
      have hdb := dl_b (m := dl m (fo m)) (p := o)
      have h1 := hLb (dl (dl m (fo m)) o) (by omega)
      have h2 := df_b (Q := Q) h.s (fo m) o
      by_cases c2 : df Q s (fo m) o + gI v 500 (dl (dl m (fo m)) o) = gI v 500 m
      · refine ⟨(o : Int), fun oo hoo => e260_83 h.H l473 _ ?_, Or.inr ⟨o, rfl, by omega, hon, ⟨c.1, c.2, c2⟩, fun r r1 r2 => absurd r2 (by omega)⟩⟩
        rw [if_neg (by omega), eR, bI_r h.H, decide_eq_true c, if_neg (by decide), y257 h (by omega) ho8, bI_r h.H, ← df_adf c.2, dl_eq dl_b ho8, gdi (by omega) (by omega), gdi (by omega) (by omega), nn, nn, show (473 + 27 : Nat) = 500 from rfl, wrd (z := df Q s (fo m) o + gI v 500 (dl (dl m (fo m)) o)) (by omega) (by omega), if_neg (fun y => y c2), ey]
        exact hoo
      · refine ⟨wi, fun oo hoo => e260_83 h.H l473 _ ?_, keep (fun y => c2 y.2.2)⟩
        rw [if_neg (by omega), eR, bI_r h.H, decide_eq_true c, if_neg (by decide), y257 h (by omega) ho8, bI_r h.H, ← df_adf c.2, dl_eq dl_b ho8, gdi (by omega) (by omega), gdi (by omega) (by omega), nn, nn, show (473 + 27 : Nat) = 500 from rfl, wrd (z := df Q s (fo m) o + gI v 500 (dl (dl m (fo m)) o)) (by omega) (by omega), if_pos c2, ey]
        exact hoo
    · refine ⟨wi, fun oo hoo => e260_83 h.H l473 _ ?_, keep (fun y => c ⟨y.1, y.2.1⟩)⟩
      rw [if_neg (by omega), eR, bI_r h.H, decide_eq_false c, if_pos (by decide), ey]
      exact hoo
  obtain ⟨wi, hu, e⟩ := lpR (F := fun k wi => s260_83 473 x m (fo m) (dl m (fo m)) (mk (fun i => (dl m (fo m)).testBit i && oth Q (uT s).toNat (fo m) i) 8) wi ((zn Q : Int) - 1 - k) v) (I := fun k wi => ((wi = -1 ∧ ∀ r, zn Q - k ≤ r → r < zn Q → ¬ (m.testBit r = true ∧ df Q s (fo m) r ≠ -1 ∧ df Q s (fo m) r + gI v 500 (dl (dl m (fo m)) r) = gI v 500 m)) ∨
      ∃ q : Nat, wi = q ∧ zn Q - k ≤ q ∧ q < zn Q ∧ (m.testBit q = true ∧ df Q s (fo m) q ≠ -1 ∧ df Q s (fo m) q + gI v 500 (dl (dl m (fo m)) q) = gI v 500 m) ∧ ∀ r, zn Q - k ≤ r → r < q → ¬ (m.testBit r = true ∧ df Q s (fo m) r ≠ -1 ∧ df Q s (fo m) r + gI v 500 (dl (dl m (fo m)) r) = gI v 500 m))) (zn Q - 1 - fo m) goOn (-1) (Or.inl ⟨rfl, fun r r1 r2 => absurd r2 (by omega)⟩)
  have ew : wi = T m := by
    rcases take_L hD hN2 hW hL h0 hm with ⟨t1, -, t2⟩ | ⟨q, t1, t2, t3, t4, t5, -, t6, t7⟩
    · rcases e with ⟨e1, -⟩ | ⟨q, e1, e2, e3, e4, -⟩
      · rw [e1, t1]
      · exact absurd e4.2.2 (t2 q (by omega) (by omega) e4.1 e4.2.1)
    · have hqn := in_lt hm t4
      rcases e with ⟨e1, e2⟩ | ⟨q', e1, e2, e3, e4, e5⟩
      · exact absurd ⟨t4, t5, t6⟩ (e2 q (by omega) hqn)
      · have hqq : q' = q := by
          rcases Nat.lt_trichotomy q' q with y | y | y
          · exact absurd e4.2.2 (t7 q' (by omega) y e4.1 e4.2.1)
          · exact y
          · exact absurd ⟨t4, t5, t6⟩ (e5 q (by omega) y)
        rw [e1, t1, hqq]
  subst ew
  have e9 : (zn Q : Int) - 1 - ((zn Q - 1 - fo m : Nat) : Int) = (fo m : Int) := by omega
  intro o ho
  have hu := hu o
  rw [e9] at hu
  have := hu ho
  rw [Int.sub_zero] at this
  exact this
