/-! the reference: what is seen, further -/
theorem wr100 {p k : Nat} (hp : p < 8) (hk : k < 60) : wr (wr (100 * (p : Int)) + (k : Int)) = ((100 * p + k : Nat) : Int) := by rw [wrd (z := 100 * (p : Int)) (by omega) (by omega), wrd (by omega) (by omega)]; omega
theorem y263i {w : Wd} {Q : QT} {s : ST} {N : NT} {p : Nat} (h : MQy w Q s) (hN : RNm w N) (hg : GN (zn Q) N) (ht : uT s ≤ 50000) (hp : p < zn Q) (hR : RFt w Q N s (60 * p)) :
    ∃ w', Rf (s263_7 473 ((p + 1 : Nat) : Int) w') (s263_7 473 p w) ∧ MQy w' Q s ∧ FrI (fun b => b = 473 ∨ (489 ≤ b ∧ b ≤ 491) ∨ (493 ≤ b ∧ b ≤ 496) ∨ b = 504 ∨ b = 505) w w' ∧ (∀ i, (i < 33 ∨ 36 < i) → i ≠ 43 → i ≠ 55 → gI w' 473 i = gI w 473 i) ∧ RFt w' Q N s (60 * (p + 1)) := by
  have h8 := h.1.n8
  have hw := h.1.s.2.2.1 p
  obtain ⟨v, hv, ⟨y, hy, i1⟩, i2, i3, i4⟩ := lpR (F := fun k v => s263_26 473 p (uW s p) k v) (I := fun k v => (∃ y, (0 ≤ y ∧ y < 60) ∧ MQy v Q (sW s p y)) ∧ FrI (fun b => b = 473 ∨ (489 ≤ b ∧ b ≤ 491) ∨ (493 ≤ b ∧ b ≤ 496) ∨ b = 504 ∨ b = 505) w v ∧ (∀ i, (i < 33 ∨ 36 < i) → i ≠ 43 → i ≠ 55 → gI v 473 i = gI w 473 i) ∧ RFt v Q N s (60 * p + k)) 60 (fun k v hk e => by
    obtain ⟨⟨y, hy, e1⟩, ef, e2, e3⟩ := e
    have h1 := e1.sW (p := p) (y := (k : Int)) (by omega)
    rw [sW_sW] at h1
    have hft : ftE Q N s (60 * p + k) = (!decide (uW s p = (k : Int)) && asS Q N (sW s p (k : Int))) := by
      unfold ftE ft
      rw [show (60 * p + k) / 60 = p by omega, show (60 * p + k) % 60 = k by omega]
    have f1 : FrI (fun b => b = 473 ∨ (489 ≤ b ∧ b ≤ 491) ∨ (493 ≤ b ∧ b ≤ 496) ∨ b = 504 ∨ b = 505) w (pI v 491 p (k : Int)) := ef.pp (by omega)
    have no : ∀ {v' : Wd}, ftE Q N s (60 * p + k) = false → gI v' 473 55 = gI v 473 55 → gI v' 505 = gI v 505 → RFt v' Q N s (60 * p + (k + 1)) := by
      intro v' hz g1 g2
      unfold RFt
      rw [g1, g2, show 60 * p + (k + 1) = 60 * p + k + 1 by omega, cn_s, if_neg (by rw [hz]; decide), Nat.add_zero]
      refine ⟨e3.1, fun x hx hfx => ?_⟩
      by_cases q : x = 60 * p + k
      · subst q; rw [hz] at hfx; cases hfx
      · exact e3.2 x (by omega) hfx
    by_cases z : (k : Int) = uW s p
    · have hz : ftE Q N s (60 * p + k) = false := by rw [hft, decide_eq_true z.symm]; rfl
      refine ⟨pI v 491 p (k : Int), fun o ho => e263_26 e1.H l473 _ ?_, ⟨k, by omega, h1⟩, f1, fun i h1 h2 h3 => by rw [gI_r (by decide)]; exact e2 i h1 h2 h3, no hz (by rw [gI_r (by decide)]) (gI_r (by decide))⟩
      rw [if_neg (by omega), gdi (by omega) (by omega), if_pos z, nn, wrs (by omega)]
      exact ho
    · have hT' : uT (sW s p (k : Int)) = uT s := rfl
      have hN1 : RNm (pI v 491 p (k : Int)) N := by
        unfold RNm
        rw [gI_r (b := 473) (by decide), gI_r (b := 501) (by decide), gI_r (b := 502) (by decide), gI_r (b := 503) (by decide), e2 38 (by omega) (by omega) (by omega), ef.g (by omega), ef.g (by omega), ef.g (by omega)]
        exact hN
      obtain ⟨v', l1, l2, l3⟩ := y262 h1 hN1 hg (by omega)
      have ff := f1.tr (l3.1.wk (fun b hb => by omega))
      have g5 : gI v' 473 55 = gI v 473 55 := by rw [l3.2 55 (by omega) (by omega), gI_r (by decide)]
      have g6 : gI v' 505 = gI v 505 := by rw [l3.1.g (by omega), gI_r (by decide)]
      have e2' : ∀ i, (i < 33 ∨ 36 < i) → i ≠ 43 → i ≠ 55 → gI v' 473 i = gI w 473 i := fun i h1 h2 h3 => by rw [l3.2 i h1 h2, gI_r (by decide)]; exact e2 i h1 h2 h3
      cases za : asS Q N (sW s p (k : Int))
      · have hz : ftE Q N s (60 * p + k) = false := by rw [hft, za]; simp
        refine ⟨v', fun o ho => e263_26 e1.H l473 _ ?_, ⟨k, by omega, l2⟩, ff, e2', no hz g5 g6⟩
        rw [if_neg (by omega), gdi (by omega) (by omega), if_neg z, nn, show (473 + 18 : Nat) = 491 from rfl, l1, bI_r l2.H, za, if_neg (by decide), wrs (by omega)]
        exact ho
      · have hz : ftE Q N s (60 * p + k) = true := by rw [hft, za, decide_eq_false (fun q => z q.symm)]; rfl
        have hc := cn_le (P := ftE Q N s) (60 * p + k)
        have g7 : gI v' 473 55 = ((cn (ftE Q N s) (60 * p + k) : Nat) : Int) := by rw [g5]; exact e3.1
        generalize hC : cn (ftE Q N s) (60 * p + k) = C at *
        have h5 : MQy (pI (pI v' 505 C ((100 * p + k : Nat) : Int)) 473 55 ((C + 1 : Nat) : Int)) Q (sW s p (k : Int)) := (l2.fr (A := fun b => b = 505) (FrI.p rfl) (fun b hb => by omega)).pf (by omega)
        refine ⟨pI (pI v' 505 C ((100 * p + k : Nat) : Int)) 473 55 ((C + 1 : Nat) : Int), fun o ho => e263_26 e1.H l473 _ ?_, ⟨k, by omega, h5⟩, (ff.pp (by omega)).pp (by omega), fun i h1 h2 h3 => by rw [gI_c h3, gI_r (by decide)]; exact e2' i h1 h2 h3, ?_⟩
        · rw [if_neg (by omega), gdi (by omega) (by omega), if_neg z, nn, show (473 + 18 : Nat) = 491 from rfl, l1, bI_r l2.H, za, if_pos (by decide), g7, gdi (by omega) (by omega), nn, wr100 (show p < 8 by omega) hk, show (473 + 32 : Nat) = 505 from rfl, gI_r (by decide), g7, wrs (by omega), wrs (by omega)]
          exact ho
        · unfold RFt
          rw [gI_s, show 60 * p + (k + 1) = 60 * p + k + 1 by omega, cn_s, if_pos hz, hC]
          refine ⟨rfl, fun x hx hfx => ?_⟩
          rw [gI_r (by decide)]
          by_cases q : x = 60 * p + k
          · subst q
            rw [hC, gI_s, show (60 * p + k) / 60 = p by omega, show (60 * p + k) % 60 = k by omega]
          · have hl := cn_lt (P := ftE Q N s) (show x < 60 * p + k by omega) hfx
            rw [gI_c (by omega), g6]
            exact e3.2 x (by omega) hfx) w ⟨⟨uW s p, hw, by rw [sW_self]; exact h⟩, FrI.rf, fun _ _ _ _ => rfl, hR⟩
  have h1 := i1.sW (p := p) (y := uW s p) hw
  rw [sW_sW, sW_self] at h1
  refine ⟨pI v 491 p (uW s p), fun o ho => e263_7 h.H l473 _ ?_, h1, i2.pp (by omega), fun i h1 h2 h3 => by rw [gI_r (by decide)]; exact i3 i h1 h2 h3, ?_⟩
  · rw [gdi (by omega) (by omega), show gI w (473 + 4) 1 = zn Q from h.1.n, if_neg (by omega), gdi (by omega) (by omega), nn, show gI w (473 + 18) p = uW s p by rw [show gI w (473 + 18) = uW s from h.1.2.1.2.2.1]]
    refine hv _ (e263_26 i1.H l473 _ ?_)
    rw [if_pos (by omega), gdi (by omega) (by omega), nn, wrs (by omega)]
    exact ho
  · unfold RFt
    rw [gI_r (b := 473) (by decide), gI_r (b := 505) (by decide)]
    exact i4
