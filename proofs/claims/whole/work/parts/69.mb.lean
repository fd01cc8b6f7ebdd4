/-! the reference: what is seen, further -/
/-- the turn over what is seen, and the step behind it -/
theorem y262i {u : Wd} {Q : QT} {s0 : ST} {N : NT} {n : Nat} {x : Int} (h : MQx u Q s0) (hN : RNm u N) (hg : GN (zn Q) N) (hf : gI u 473 44 = 0) (ht : uT s0 < 100000) (hn : n ≤ 100) :
    ∃ u', Rf (s262_42 473 x (b2i (sok N n s0 N.1)) ((n + 1 : Nat) : Int) u') (s262_54 473 x 1 n 0 u) ∧ MQx u' Q (stq Q s0) ∧ FrJ u u' := by
  have h8 := h.n8
  have hL : ∀ j, gI u (473 + 16) j = uL s0 j := fun j => by rw [show gI u (473 + 16) = uL s0 from h.2.1.1]
  obtain ⟨b, hv, e⟩ := lpR (F := fun k b => s262_54 473 x b n k u) (I := fun k b => b = b2i (sok N n s0 k)) N.1 (fun k b hk e => by
    subst e
    obtain ⟨g1, g2, g3⟩ := hN.2 k hk
    obtain ⟨b1, b2, b3⟩ := hg.2 k hk
    have b8 := hg.1
    have es : sok N n s0 (k + 1) = (sok N n s0 k && (!decide (N.2.2.1 k = n) || decide (uL s0 (N.2.1 k) = N.2.2.2 k))) := rfl
    refine ⟨_, fun o ho => e262_54 h.H l473 _ ?_, rfl⟩
    rw [es] at ho
    rw [hN.1, if_neg (by omega), wrs (by omega)]
    cases z1 : sok N n s0 k
    · rw [if_pos (by decide)]
      rw [z1] at ho
      exact ho
    · rw [z1] at ho
      rw [if_neg (by decide), gdi (by omega) (by omega), nn, show gI u (473 + 29) k = N.2.2.1 k from g2]
      by_cases z2 : N.2.2.1 k = n
      · rw [decide_eq_true z2] at ho
        rw [if_neg (fun q => q z2), gdi (by omega) (by omega), show gI u (473 + 28) k = ((N.2.1 k : Nat) : Int) from g1, gdi (by omega) (by omega), gdi (by omega) (by omega), nn, hL, show gI u (473 + 30) k = N.2.2.2 k from g3]
        by_cases z3 : uL s0 (N.2.1 k) = N.2.2.2 k
        · rw [decide_eq_true z3] at ho
          rw [if_neg (fun q => q z3)]
          exact ho
        · rw [decide_eq_false z3] at ho
          rw [if_pos z3]
          exact ho
      · rw [decide_eq_false z2] at ho
        rw [if_pos z2]
        exact ho) 1 rfl
  subst e
  obtain ⟨u', l1, l2, l3, -⟩ := y222 h hf ht
  refine ⟨u', fun o ho => hv _ (e262_54 h.H l473 _ ?_), l2, l3⟩
  rw [hN.1, if_pos (Int.le_refl _), l1, b0_r l2.H, wrs (by omega)]
  exact ho
