/-! the reference: a step, further -/
theorem y223 {w : Wd} {Q : QT} {s : ST} {K : Nat} (h : MQx w Q s) (hf : gI w 473 44 = 0) (hK : uT s + K ≤ 100000) :
    ∃ w', F223 473 K w = r0 w' ∧ MQx w' Q (goN Q s K) ∧ FrJ w w' ∧ (0 < K → ∀ i, i < zn Q → gI w' 495 i = WH Q (goN Q s (K - 1)) i) := by
  have hT0 := h.t
  obtain ⟨v, hv, i1, i2, i3⟩ := lpR (F := fun k v => s223_2 473 K k v) (I := fun k v => MQx v Q (goN Q s k) ∧ FrJ w v ∧ (0 < k → ∀ i, i < zn Q → gI v 495 i = WH Q (goN Q s (k - 1)) i)) K (fun k v hk e => by
    obtain ⟨e1, ef, e2⟩ := e
    have hT := goN_T (Q := Q) (s := s) k
    obtain ⟨v', l1, l2, l3, l4, -, -⟩ := y222 e1 (by rw [ef.2 44 (by omega) (by omega)]; exact hf) (by omega)
    refine ⟨v', fun o ho => e223_2 e1.H l473 _ ?_, l2, ef.tr l3, fun _ i hi => l4 i hi⟩
    rw [if_neg (by omega), l1, b0_r l2.H, wrs (by omega)]
    exact ho) w ⟨h, FrJ.rf, fun z => absurd z (Nat.lt_irrefl _)⟩
  exact ⟨v, e223 h.H l473 _ (hv _ (e223_2 i1.H l473 _ (if_pos (Int.le_refl _)))), i1, i2, i3⟩
