/-! the reference: a step, further -/
theorem y222 {w : Wd} {Q : QT} {s : ST} (h : MQx w Q s) (hf : gI w 473 44 = 0) (ht : uT s < 100000) :
    ∃ w', F222 473 w = r0 w' ∧ MQx w' Q (stq Q s) ∧ FrJ w w' ∧ (∀ i, i < zn Q → gI w' 495 i = WH Q s i) ∧ gI w' 473 43 = PS Q s (zn Q) ∧ ∀ a i, a < 8 → i < 8 → gI w' 496 (8 * a + i) = HD Q s (zn Q) a i := by
  have h0 : MQx (pI w 473 43 0) Q s := h.pf (by omega)
  obtain ⟨w1, k1, k2, k3⟩ := y222z h0.H
  have h1 := h0.fr k2 (fun b hb => by omega)
  have g1 : gI w1 473 = va_up (gI w 473) 43 0 := by rw [k2.g (by decide), gI_p]
  obtain ⟨w2, k4, k5, k6, k7, k8, k9⟩ := y222a h1 (by rw [g1, up_c (by decide)]; exact hf) (by rw [g1, up_s]) k3
  obtain ⟨w3, m1, m2, m3, m4⟩ := y222d k5 (by rw [(sg_same (zn Q)).2.2.2.2.2]; exact ht)
  refine ⟨w3, e222 h.H l473 _ (k1 _ (k4 _ m1)), m2, (FrJ.p (by omega)).tr ((FrJ.of k2 (fun b hb => by omega)).tr (k6.tr ⟨m3.wk (fun b hb => by unfold AMr; omega), fun i h1 _ => m4 i h1⟩)), fun i hi => by rw [m3.g (by decide)]; exact k7 i hi, by rw [m4 43 (by omega)]; exact k8, fun a i ha hi => by rw [m3.g (by decide)]; exact k9 a i ha hi⟩
