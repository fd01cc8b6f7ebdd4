/-! couples: the tables are filled, the row is read off -/
theorem ix8 {a b : Nat} (ha : a < 8) (hb : b < 8) : wr (wr ((a : Int) * 8) + (b : Int)) = ((8 * a + b : Nat) : Int) := by rw [wrd (z := (a : Int) * 8) (by omega) (by omega), wrd (by omega) (by omega)]; omega
theorem wrs {k : Nat} (h : k < 2000000000) : wr ((k : Int) + 1) = ((k + 1 : Nat) : Int) := by rw [wrd (by omega) (by omega)]; omega
theorem l464 : (lay 464).1 = 1 := by rfl
theorem df_b {Q : QT} {s : ST} {n : Nat} (h : GS n s) (p q : Nat) : -1 ≤ df Q s p q ∧ df Q s p q ≤ 999 := by
  have h1 := h.1 p
  have h2 := h.1 q
  unfold df
  split
  · split <;> omega
  · omega
def adf (x y : Int) : Int := if y ≤ x then x - y else y - x
theorem q323a {x y : Int} {w : Wd} (H : LR w) (hx : 0 ≤ x ∧ x ≤ 999) (hy : 0 ≤ y ∧ y ≤ 999) : F323 (wr (x - y)) w = rI (adf x y) w := by
  rw [wrd (by omega) (by omega), q323 H (by omega) (by omega)]
  unfold adf
  by_cases z : y ≤ x
  · rw [if_pos z, if_pos (by omega)]
  · rw [if_neg z, if_neg (by omega), show -(x - y) = y - x by omega]
theorem df_1 {Q : QT} {s : ST} {a b : Nat} (z : zc Q a (uT s).toNat = zc Q b (uT s).toNat) : df Q s a b = adf (uL s a) (uL s b) := if_pos z
theorem df_0 {Q : QT} {s : ST} {a b : Nat} (z : ¬ zc Q a (uT s).toNat = zc Q b (uT s).toNat) : df Q s a b = -1 := if_neg z
theorem c9 {w : Wd} {q : Nat} {Q : QT} {s : ST} (h : CQ w q Q s) : ∃ w', F9 464 q 34 (zn Q) w = r0 w' ∧ FrI (fun b => b = 468) w w' ∧ ∀ a b, a < zn Q → b < zn Q → gI w' 468 (8 * a + b) = df Q s a b := by
  have h8 := h.n8
  have ht := h.t
  have hl := lq h.1
  obtain ⟨v, hv, e1, e2⟩ := lpR (F := fun a v => s9_3 464 q 34 (zn Q) a v) (I := fun a v => FrI (fun b => b = 468) w v ∧ ∀ a' b, a' < a → b < zn Q → gI v 468 (8 * a' + b) = df Q s a' b) (zn Q) (fun a v ha e => by
    obtain ⟨e1, e2⟩ := e
    obtain ⟨y, hy, i1, i2, i3⟩ := lpR (F := fun b y => s9_12 464 q 34 (zn Q) a b y) (I := fun b y => FrI (fun b => b = 468) w y ∧ (∀ a' b', a' < a → b' < zn Q → gI y 468 (8 * a' + b') = df Q s a' b') ∧ ∀ b', b' < b → gI y 468 (8 * a + b') = df Q s a b') (zn Q) (fun b y hb e => by
      obtain ⟨i1, i2, i3⟩ := e
      have fy : FrC w y := i1.C (fun b hb => by unfold SC; omega)
      have hy := h.fr fy
      have HY := hy.H
      have e7 : gI y 34 7 = (((uT s).toNat : Nat) : Int) := by rw [hy.2.2.2.1.2.2.2.2.2.2.2]; omega
      have c1 := q35 (t := (uT s).toNat) HY hl h.g hy.2.2.1 ha (by omega)
      have c2 := q35 (t := (uT s).toNat) HY hl h.g hy.2.2.1 hb (by omega)
      have l1 := q75 (p := a) HY l34 (by omega)
      have l2 := q75 (p := b) HY l34 (by omega)
      rw [show gI y (34 + 1) = uL s from hy.2.2.2.1.1] at l1 l2
      have b1 := h.s.1 a
      have b2 := h.s.1 b
      have a8 : a < 8 := by omega
      have b8 : b < 8 := by omega
      have i64' : ((8 * a + b : Nat) : Int) < ((64 : Nat) : Int) := by omega
      have i0' : 0 ≤ ((8 * a + b : Nat) : Int) := by omega
      have e323 := q323a HY b1 b2
      refine ⟨pI y 468 (8 * a + b) (df Q s a b), fun o ho => e9_12 HY l464 hl l34 _ ?_, i1.pp rfl, fun a' b' h1 h2 => ?_, fun b' h1 => ?_⟩
      · rw [if_neg (by omega), e7, c1, bI_r HY, e7, c2, bI_r HY]
        by_cases z : zc Q a (uT s).toNat = zc Q b (uT s).toNat
        · rw [if_neg (by omega)]
          refine e9_46 HY l464 hl l34 _ ?_
          rw [l1, bI_r HY, l2, bI_r HY, e323, bI_r HY, if_neg (show ¬ (1 : Int) = 0 by decide), ix8 a8 b8, gdi i0' i64', nn, wrs (Nat.lt_trans b8 (by decide)), ← df_1 z]
          exact ho
        · rw [if_pos z]
          refine e9_46 HY l464 hl l34 _ ?_
          rw [l1, bI_r HY, l2, bI_r HY, e323, bI_r HY, if_pos rfl, ix8 a8 b8, gdi i0' i64', nn, wrs (Nat.lt_trans b8 (by decide)), ← df_0 z]
          exact ho
      · rw [gI_c (by omega)]; exact i2 a' b' h1 h2
      · by_cases z : b' = b
        · rw [z, gI_s]
        · rw [gI_c (by omega)]; exact i3 b' (by omega)) v ⟨e1, e2, fun b' hb => absurd hb (Nat.not_lt_zero _)⟩
    refine ⟨y, fun o ho => e9_3 (e1.LR h.H) l464 hl l34 _ ?_, i1, fun a' b h1 h2 => ?_⟩
    · rw [if_neg (by omega)]
      refine hy _ (e9_12 (i1.LR h.H) l464 hl l34 _ ?_)
      rw [if_pos (Int.le_refl _), wrd (by omega) (by omega)]
      exact ho
    · by_cases z : a' = a
      · rw [z]; exact i3 b h2
      · exact i2 a' b (by omega) h2) w ⟨FrI.rf, fun a' b h1 _ => absurd h1 (Nat.not_lt_zero _)⟩
  exact ⟨v, e9 h.H l464 hl l34 _ (hv _ (e9_3 (e1.LR h.H) l464 hl l34 _ (if_pos (Int.le_refl _)))), e1, e2⟩
