/-! the reference: what is seen, further -/
theorem y263 {w : Wd} {Q : QT} {s : ST} {N : NT} (h : MQy w Q s) (hN : RNm w N) (hg : GN (zn Q) N) (ht : uT s ≤ 50000) :
    ∃ w', F263 473 w = r0 w' ∧ MQy w' Q s ∧ FrS w w' ∧ gI w' 473 4 = gI w 473 4 ∧ RFt w' Q N s (60 * zn Q) := by
  have h8 := h.1.n8
  have h0 : MQy (pI w 473 55 0) Q s := h.pf (by omega)
  have f0 : FrS w (pI w 473 55 0) := FrS.p (by unfold ZF; omega)
  obtain ⟨v, hv, i1, i2, i3, i4⟩ := lpR (F := fun p v => s263_7 473 p v) (I := fun p v => MQy v Q s ∧ FrS w v ∧ gI v 473 4 = gI w 473 4 ∧ RFt v Q N s (60 * p)) (zn Q) (fun p v hp e => by
    obtain ⟨e1, e2, e3, e4⟩ := e
    obtain ⟨v', l1, l2, l3, l4, l5⟩ := y263i e1 (hN.S e2) hg ht hp e4
    refine ⟨v', l1, l2, e2.tr ⟨l3.wk (fun b hb => by unfold ZS; omega), fun i hi => l4 i (by unfold ZF at hi; omega) (by unfold ZF at hi; omega) (by unfold ZF at hi; omega)⟩, by rw [l4 4 (by omega) (by omega) (by omega)]; exact e3, l5⟩) (pI w 473 55 0) ⟨h0, f0, gI_c (by decide), gI_s, fun x hx => absurd hx (Nat.not_lt_zero _)⟩
  refine ⟨v, e263 h.H l473 _ (hv _ (e263_7 i1.H l473 _ ?_)), i1, i2, i3, i4⟩
  rw [gdi (by omega) (by omega), show gI v (473 + 4) 1 = zn Q from i1.1.n, if_pos (Int.le_refl _)]
theorem cn_none {P : Nat → Bool} : ∀ n, (cn P n = 0 ↔ ∀ i, i < n → P i = false) := by
  intro n
  induction n with
  | zero => exact ⟨fun _ i hi => absurd hi (Nat.not_lt_zero _), fun _ => rfl⟩
  | succ n ih =>
    rw [cn_s]
    constructor
    · intro e i hi
      cases z : P n
      · by_cases q : i = n
        · rw [q]; exact z
        · exact ih.mp (by omega) i (by omega)
      · rw [z] at e; simp at e
    · intro e
      rw [if_neg (by rw [e n (by omega)]; decide), ih.mpr (fun i hi => e i (by omega))]
theorem r264 {w : Wd} {Q : QT} {s : ST} {N : NT} {wh : Int} (h : MQy w Q s) (hN : RNm w N) (hg : GN (zn Q) N) (ht : uT s ≤ 999) : AnM Q s 2 w (F264 473 wh w) (aFast Q s N wh) := by
  refine AnM.of (e264 h.H l473) ?_
  obtain ⟨h0, f0, z0⟩ := st0 h
  revert h0 f0 z0
  generalize pI w 473 4 0 = w0
  intro h0 f0 z0
  refine AnM.W1 rfl h0 (AnM.f h0 f0 rfl) fun q0 q1 => ?_
  have h8 := h.1.n8
  by_cases z2 : wh = 2
  · obtain ⟨w', a1, a2, a3⟩ := y262 h0 (hN.S f0) hg (by omega)
    have z4 : gI w' 473 4 = 0 := by rw [a3.2 4 (by omega) (by omega)]; exact z0
    rw [if_neg (by omega), if_pos z2, a1, bI_r a2.H]
    cases asS Q N s
    · rw [if_pos (show b2i false = 0 from rfl)]; exact AnM.v a2 (f0.tr a3.S) z4
    · rw [if_neg (show ¬ b2i true = 0 by decide)]; exact AnM.v a2 (f0.tr a3.S) z4
  · obtain ⟨w', a1, a2, a3, a4, a5, a6⟩ := y263 h0 (hN.S f0) hg (by omega)
    rw [if_pos z2, if_neg z2, a1, b0_r a2.H, a5]
    by_cases y0 : wh = 0
    · rw [if_neg (by omega), if_pos y0]
      exact AnM.v a2 (f0.tr a3) (a4.trans z0)
    · rw [if_pos y0, if_neg y0]
      rcases frs_b (P := ftE Q N s) (60 * zn Q) with e | ⟨k, k1, k2, k3, k4⟩
      · have hc : cn (ftE Q N s) (60 * zn Q) = 0 := (cn_none _).mpr (fun i hi => by
          cases q : ftE Q N s i
          · rfl
          · exfalso
            have hm : ∀ j, j ≤ 60 * zn Q → frs (ftE Q N s) j = -1 := by
              intro j hj
              rcases Classical.em (frs (ftE Q N s) j = -1) with r | r
              · exact r
              · have := frs_m (P := ftE Q N s) (60 * zn Q) hj r
                rw [e] at this; exact this.symm
            have h1 := hm (i + 1) (by omega)
            have h2 := hm i (by omega)
            have h3 : frs (ftE Q N s) (i + 1) = if frs (ftE Q N s) i = -1 ∧ ftE Q N s i = true then (i : Int) else frs (ftE Q N s) i := rfl
            rw [if_pos ⟨h2, q⟩] at h3
            omega)
        rw [hc, if_neg (by omega), if_pos e]
        exact AnM.v a2 (f0.tr a3) (a4.trans z0)
      · have hc : cn (ftE Q N s) k = 0 := (cn_none _).mpr k4
        have hp := cn_lt (P := ftE Q N s) k1 k3
        have e5 := a6 k k1 k3
        rw [hc] at e5
        rw [if_pos (by omega), gdi (by omega) (by omega), show gI w' (473 + 32) 0 = _ from e5, k2, if_neg (by omega), show ((100 * (k / 60) + k % 60 : Nat) : Int) = 100 * ((k : Int) / 60) + (k : Int) % 60 by omega]
        exact AnM.v a2 (f0.tr a3) (a4.trans z0)
