/-! the reference: a step, further -/
theorem y222a {w : Wd} {Q : QT} {s : ST} (h : MQx w Q s) (hf : gI w 473 44 = 0) (h0 : gI w 473 43 = 0) (hz : ∀ i, i < 64 → gI w 496 i = 0) :
    ∃ w', Rf (s222_61 473 0 w') (s222_31 473 0 w) ∧ MQx w' Q (sg Q s (zn Q)) ∧ FrJ w w' ∧ (∀ i, i < zn Q → gI w' 495 i = WH Q s i) ∧ gI w' 473 43 = PS Q s (zn Q) ∧ ∀ a i, a < 8 → i < 8 → gI w' 496 (8 * a + i) = HD Q s (zn Q) a i := by
  have h8 := h.n8
  obtain ⟨v, hv, i1, i2, i3, i4, i5⟩ := lpR (F := fun k v => s222_31 473 k v) (I := fun k v => MQx v Q (sg Q s k) ∧ FrJ w v ∧ (∀ i, i < k → gI v 495 i = WH Q s i) ∧ gI v 473 43 = PS Q s k ∧ ∀ a i, a < 8 → i < 8 → gI v 496 (8 * a + i) = HD Q s k a i) (zn Q) (fun k v hk e => by
    obtain ⟨e1, ef, e2, e3, e4⟩ := e
    have f0 : FrI (fun b => b = 495) v (pI v 495 k (-1)) := FrI.p rfl
    have h1 := e1.fr f0 (fun b hb => by omega)
    have g44 : gI (pI v 495 k (-1)) 473 44 = 0 := by rw [gI_r (by decide), ef.2 44 (by omega) (by omega)]; exact hf
    obtain ⟨v', l1, l2, l3, l4, l5, l6, l7⟩ := y221 h1 g44 hk
    have b1 := PSk_b h.g h.s k (by omega)
    have b2 := PSk_b h.g h.s (k + 1) (by omega)
    have eP : PS Q s (k + 1) = PS Q s k + dP Q (sg Q s k) k := rfl
    refine ⟨v', fun o ho => e222_31 e1.H l473 _ ?_, l2, (ef.tr (FrJ.of f0 (fun b hb => by omega))).tr ⟨l3, l5⟩, fun i hi => ?_, ?_, fun a i ha hi => ?_⟩
    · rw [gdi (by omega) (by omega), show gI v (473 + 4) 1 = zn Q from e1.n, if_neg (by omega), gdi (by omega) (by omega), nn, show (473 + 22 : Nat) = 495 from rfl, l1, b0_r l2.H, wrs (by omega)]
      exact ho
    · rw [l4]
      unfold WH
      by_cases z : i = k
      · subst z
        by_cases y : asks Q (sg Q s i) i = true
        · rw [if_pos y, if_pos y, up_s]
        · rw [if_neg y, if_neg y, gI_s]
      · have e5 := e2 i (by omega)
        unfold WH at e5
        by_cases y : asks Q (sg Q s k) k = true
        · rw [if_pos y, up_c z, gI_c z]; exact e5
        · rw [if_neg y, gI_c z]; exact e5
    · have g43 : gI (pI v 495 k (-1)) 473 43 = PS Q s k := by rw [gI_r (by decide)]; exact e3
      rw [l6 (by rw [g43]; unfold okI; omega), g43, eP, wrd (by omega) (by omega)]
    · have c1 := HDk_b h.g h.s k a i (by omega)
      have c2 := HDk_b h.g h.s (k + 1) a i (by omega)
      have eH : HD Q s (k + 1) a i = HD Q s k a i + dH Q (sg Q s k) k a i := rfl
      have g96 : gI (pI v 495 k (-1)) 496 (8 * a + i) = HD Q s k a i := by rw [gI_r (by decide)]; exact e4 a i ha hi
      rw [l7 a i ha hi (by rw [g96]; unfold okI; omega), g96, eH, wrd (by omega) (by omega)]) w ⟨h, FrJ.rf, fun i hi => absurd hi (Nat.not_lt_zero _), h0, fun a i ha hi => hz _ (by omega)⟩
  exact ⟨v, fun o ho => hv _ (e222_31 i1.H l473 _ (by rw [gdi (by omega) (by omega), show gI v (473 + 4) 1 = zn Q from i1.n, if_pos (Int.le_refl _)]; exact ho)), i1, i2, i3, i4, i5⟩
