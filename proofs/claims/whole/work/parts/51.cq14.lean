/-- couples, as the tables tell them -/
def cpl (Q : QT) (s : ST) : Nat × Row × Int × Int := rrN (Tn (df Q s) (2 ^ zn Q - 1)).2 (df Q s) (2 ^ zn Q - 1) 8
theorem pw1 {N : Nat} (h : 1 ≤ N) (h' : N ≤ 256) : wr ((N : Int) - 1) = ((N - 1 : Nat) : Int) := by rw [wrd (by omega) (by omega)]; omega
theorem mm8 {n : Nat} (h : n ≤ 8) : max 0 (min (n : Int) 8) = (n : Int) := by omega
theorem gd256 {x : Option Out} : gd (inb 0 256) x = x := gdi (by omega) (by omega)

theorem zq_c8s {w x1 x2 x3 : Wd} {q n N : Nat} (H : LR w) (hl : (lay q).1 = 4) (hn : gI w q 1 = n) (hn8 : n ≤ 8) (hN : 1 ≤ N) (hN2 : N ≤ 256) (hb : bShl 1 (n : Int) = (N : Int)) (a1 : F9 464 q 34 n w = r0 x1) (H1 : LR x1) (a2 : Rf (s8_36 464 q 34 n (N : Int) (N : Int) x2) (s8_36 464 q 34 n (N : Int) 1 (pI x1 465 0 0))) (H3 : LR x2) (a3 : F12 464 ((N - 1 : Nat) : Int) x2 = r0 x3) (H4 : LR x3) : F8 464 q 34 w = r0 x3 := by
  refine e8 H l464 hl l34 _ ?_
  rw [hn, q326 H, bI_r H, q325 H, bI_r H, mm8 hn8, a1, b0_r H1, gd256, hb]
  refine a2 _ (e8_36 H3 l464 hl l34 _ ?_)
  rw [if_pos (Int.le_refl _)]
  refine e8_65 H3 l464 hl l34 _ ?_
  rw [pw1 hN hN2, a3, b0_r H4]

theorem sc468 (b : Nat) (h : b = 468) : SC b := by unfold SC; omega
theorem sc465 : SC 465 := by unfold SC; omega
theorem sc466 (b : Nat) (h : b = 465 ∨ b = 466) : SC b := by unfold SC; omega
theorem sc467 (b : Nat) (h : b = 464 ∨ b = 467) : SC b := by unfold SC; omega
theorem n465 {b : Nat} (h : b = 464 ∨ b = 467 ∨ b = 468) : ¬ (b = 465 ∨ b = 466) := by omega
theorem zq_c8 {w : Wd} {q : Nat} {Q : QT} {s : ST} (h : CQ w q Q s) : ∃ w', F8 464 q 34 w = r0 w' ∧ FrC w w' ∧ (∀ i, i < 8 → gI w' 467 i = (cpl Q s).2.1 i) ∧ gI w' 464 4 = (cpl Q s).2.2.1 ∧ gI w' 464 5 = (cpl Q s).2.2.2 := by
  have h8 := h.n8
  have hl := lq h.1
  have hO : ∀ a b, a < 8 → b < 8 → -1 ≤ df Q s a b ∧ df Q s a b ≤ 999 := fun a b _ _ => df_b h.s a b
  obtain ⟨x1, k1, k2, k3⟩ := c9 h
  have H1 := k2.LR h.H
  have hD2 : ∀ a b, a < zn Q → b < zn Q → gI (pI x1 465 0 0) 468 (8 * a + b) = df Q s a b := fun a b ha hb => (congrFun (gI_r (by decide)) _).trans (k3 a b ha hb)
  obtain ⟨x2, k4, k5, k6, k7⟩ := c8t (K := (zn Q : Int)) (q := q) (w := pI x1 465 0 0) H1 h8 hD2 hO gI_s hl
  have H3 : LR x2 := k5.LR (w := pI x1 465 0 0) H1
  have hN1 : 1 ≤ 2 ^ zn Q := Nat.one_le_two_pow
  have hN2 : 2 ^ zn Q ≤ 256 := Nat.pow_le_pow_right (n := 2) (by decide) h8
  obtain ⟨x3, k8, k9, m1, m2, m3⟩ := c12 (n := zn Q) (D := df Q s) (T := (Tn (df Q s) (2 ^ zn Q - 1)).2) H3 h8 (fun a b ha hb => (congrFun (k5.g (n465 (Or.inr (Or.inr rfl)))) _).trans (hD2 a b ha hb)) hO k7 (Tn_2 _ (Nat.lt_of_lt_of_le (Nat.sub_lt hN1 (by decide)) hN2))
  have f : FrC w x3 := ((k2.C sc468).tr (FrC.p (w := x1) (a := 465) (i := 0) (x := 0) sc465)).tr ((k5.C sc466).tr (k9.C sc467))
  have hC : cpl Q s = rrN (Tn (df Q s) (2 ^ zn Q - 1)).2 (df Q s) (2 ^ zn Q - 1) 8 := rfl
  refine ⟨x3, zq_c8s h.H hl h.n h8 hN1 hN2 (bShl_1 (zn Q) (Nat.lt_of_le_of_lt h8 (by decide))) k1 H1 k4 H3 k8 (f.LR h.H), f, ?_⟩
  rw [hC]
  exact ⟨m1, m2, m3⟩
def aPairs (Q : QT) (s : ST) (wh : Int) : An := gdW 2 wh (.inl (if wh = 0 then (cpl Q s).2.2.1 else (cpl Q s).2.2.2))
def aPair (Q : QT) (s : ST) (x : Int) : An := gdP (zn Q) x (.inl ((cpl Q s).2.1 x.toNat))
theorem c148 {w : Wd} {q : Nat} {Q : QT} {s : ST} {wh : Int} (h : CQ w q Q s) : AnC w (F148 0 wh w) (aPairs Q s wh) := by
  refine AnC.of (e148 h.H l0) (AnC.W h.H fun w0 w1 => ?_)
  obtain ⟨w', k1, k2, k3, k4, k5⟩ := zq_c8 h
  rw [h.q, show F8 (0 + 464) q (0 + 34) w = r0 w' from k1, b0_r (k2.LR h.H)]
  by_cases z : wh = 0
  · rw [if_neg (fun y => y z), if_pos z, ← k4]; exact AnC.v k2
  · rw [if_pos z, if_neg z, ← k5]; exact AnC.v k2
theorem c13g {w : Wd} {p : Nat} (H : LR w) (hp : p < 8) : F13 464 p w = rI (gI w 467 p) w := by
  refine e13 H l464 _ ?_
  rw [if_neg (by omega), if_neg (by omega), gdi (by omega) (by omega), nn]
theorem c149 {w : Wd} {q : Nat} {Q : QT} {s : ST} {x : Int} (h : CQ w q Q s) : AnC w (F149 0 x w) (aPair Q s x) := by
  refine AnC.of (e149 h.H l0) (AnC.P h fun x0 x1 => ?_)
  have h8 := h.n8
  obtain ⟨p, rfl, hp⟩ := toN x0 x1
  have p8x : p < 8 := by omega
  obtain ⟨w', k1, k2, k3, k4, k5⟩ := zq_c8 h
  have p8 : p < 8 := p8x
  have e := c13g (k2.LR h.H) p8
  rw [k3 p p8] at e
  rw [h.q, show F8 (0 + 464) q (0 + 34) w = r0 w' from k1, b0_r (k2.LR h.H), show F13 (0 + 464) p w' = _ from e, bI_r (k2.LR h.H)]
  exact AnC.v k2
