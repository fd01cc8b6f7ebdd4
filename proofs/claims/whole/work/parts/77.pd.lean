/-! couples: what the reference answers -/
theorem y260l {v : Wd} {Q : QT} {s : ST} {x : Nat} (h : MQx v Q s) (hL : LTb (df Q s) (gI v 500) (2 ^ zn Q)) (hx : x < zn Q) : ∀ (j p k m : Nat), zn Q = p + j → (rrN (Tn (df Q s) (2 ^ zn Q - 1)).2 (df Q s) (2 ^ zn Q - 1) k).1 = m → (∀ i, i < p → m.testBit i = false) → m.testBit x = true →
    s260_30 473 x m p v = rI ((cpl Q s).2.1 x) v := by
  have h8 := h.n8
  have hN1 : 1 ≤ 2 ^ zn Q := Nat.one_le_two_pow
  have hN2 : 2 ^ zn Q ≤ 256 := Nat.pow_le_pow_right (n := 2) (by decide) h8
  have hC : cpl Q s = rrN (Tn (df Q s) (2 ^ zn Q - 1)).2 (df Q s) (2 ^ zn Q - 1) 8 := rfl
  rw [hC]
  generalize hNn : 2 ^ zn Q - 1 = N at *
  have hK : 2 ^ zn Q = N + 1 := by omega
  have hL' : LTb (df Q s) (gI v 500) (N + 1) := by rw [← hK]; exact hL
  have hD : ∀ a b, a < 8 → b < 8 → -1 ≤ df Q s a b ∧ df Q s a b ≤ 999 := fun a b _ _ => df_b h.s a b
  have hW := WT_Tn (D := df Q s) (N := N) (by omega)
  generalize (Tn (df Q s) N).2 = T at *
  generalize (Tn (df Q s) N).1 = W at *
  intro j
  induction j with
  | zero =>
    intro p k m hp hk hz hxm
    rw [hz x (by omega)] at hxm
    cases hxm
  | succ j ih =>
    intro p k m hp hk hz hxm
    have inv := rr_inv hD (show N < 256 by omega) (tb_8 N) hW hL' k
    have hp8 : p < 8 := by omega
    have hmN : m ≤ N := by rw [← hk]; exact inv.1
    have hm8 : m < 256 := by omega
    refine e260_30 h.H l473 _ ?_
    rw [gdi (by omega) (by omega), show gI v (473 + 4) 1 = zn Q from h.n, if_neg (by omega), y175n h.H hm8 hp8, bI_r h.H]
    cases hb : m.testBit p
    · rw [if_neg (by decide), wrs (by omega)]
      refine ih (p + 1) k m (by omega) hk (fun i hi => ?_) hxm
      by_cases y : i = p
      · rw [y]; exact hb
      · exact hz i (by omega)
    · have hm0 : m ≠ 0 := fun e => by rw [e] at hb; simp at hb
      have hfi := fo_in (show 0 < m by omega) hm8
      have hf := fo_b m
      have hfp : fo m = p := by
        rcases Nat.lt_trichotomy (fo m) p with y | y | y
        · rw [hz _ y] at hfi; cases hfi
        · exact y
        · rw [fo_out m hm8 p hp8 y] at hb; cases hb
      have hpn : p < zn Q := by omega
      rw [if_pos (by decide), y212 h hpn, bI_r h.H, gdi (by omega) (by omega), show gI v (473 + 4) 1 = zn Q from h.n, dl_eq hm8 hp8, someR, wrd (z := (zn Q : Int) - 1) (by omega) (by omega)]
      rw [← hfp]
      refine y260s (W := W) (T := T) h (by omega) (by omega) (by rw [hK]; exact hW) hL _ (e260_83 h.H l473 _ ?_)
      rw [if_pos (Int.le_refl _), hfp]
      have hdl := dl_lt m hm8 p hp8 hb
      have htb := tb_dl m hm8 p hp8 hb
      have hk8 : k + 1 ≤ 8 := by
        have := inv.2.1
        rw [hk] at this
        omega
      obtain ⟨j8, hj8⟩ : ∃ j8, 8 = k + 1 + j8 := ⟨8 - (k + 1), by omega⟩
      rcases ha : rrN T (df Q s) N k with ⟨m', r, c, d⟩
      rw [ha] at hk inv
      have hk : m' = m := hk
      subst hk
      have hr : ∀ i, m'.testBit i = true → r i = -1 := inv.2.2.2.2.2.2.2
      rcases take_L hD (show N + 1 ≤ 256 by omega) hW hL' (show 0 < m' by omega) (show m' < N + 1 by omega) with ⟨t1, -, -⟩ | ⟨q, t1, t2, t3, t4, -, -, -⟩
      · have es : rrN T (df Q s) N (k + 1) = (dl m' p, r, c, d) := by rw [rrN_s, ha, rrS_n hm0 t1, hfp]
        rw [t1]
        by_cases z1 : p = x
        · rw [if_neg (fun y => y (by omega))]
          have hl := (rr_late hD (show N < 256 by omega) (tb_8 N) hW hL' (k := k + 1) (i := x) (by rw [es]; show (dl m' p).testBit x = false; rw [dl_test, z1]; simp) j8).1
          rw [← hj8, es] at hl
          rw [hl]
          show _ = rI (r x) v
          rw [hr x hxm]
        · rw [if_pos (by omega), if_pos (by omega), if_neg (by decide), wrs (by omega)]
          refine ih (p + 1) (k + 1) (dl m' p) (by omega) (by rw [es]) (fun i hi => ?_) ?_
          · rw [dl_test]
            by_cases y : i = p
            · rw [y]; simp
            · rw [hz i (by omega)]; simp
          · rw [dl_test, hxm]
            simp [show x < 8 by omega, show ¬ x = p from fun e => z1 e.symm]
      · have es : rrN T (df Q s) N (k + 1) = (dl (dl m' p) q, va_up (va_up r p (q : Int)) q (p : Int), c + 1, d + df Q s p q) := by rw [rrN_s, ha, rrS_q hm0 t1, hfp]
        rw [hfp] at t2
        rw [t1]
        by_cases z1 : p = x
        · rw [if_neg (fun y => y (by omega))]
          have hl := (rr_late hD (show N < 256 by omega) (tb_8 N) hW hL' (k := k + 1) (i := x) (by rw [es]; show (dl (dl m' p) q).testBit x = false; rw [dl_test, dl_test, z1]; simp) j8).1
          rw [← hj8, es] at hl
          rw [hl]
          show _ = rI (va_up (va_up r p (q : Int)) q (p : Int) x) v
          rw [← z1, up_c (by omega), up_s]
        · rw [if_pos (by omega)]
          by_cases z2 : q = x
          · rw [if_neg (fun y => y (by omega))]
            have hl := (rr_late hD (show N < 256 by omega) (tb_8 N) hW hL' (k := k + 1) (i := x) (by rw [es]; show (dl (dl m' p) q).testBit x = false; rw [dl_test, z2]; simp) j8).1
            rw [← hj8, es] at hl
            rw [hl]
            show _ = rI (va_up (va_up r p (q : Int)) q (p : Int) x) v
            rw [← z2, up_s]
          · rw [if_pos (by omega), if_pos (by omega), dl_eq dl_b t3, wrs (by omega)]
            refine ih (p + 1) (k + 1) (dl (dl m' p) q) (by omega) (by rw [es]) (fun i hi => ?_) ?_
            · rw [dl_test, dl_test]
              by_cases y : i = p
              · rw [y]; simp
              · rw [hz i (by omega)]; simp
            · rw [dl_test, dl_test, hxm]
              simp [show x < 8 by omega, show ¬ x = p from fun e => z1 e.symm, show ¬ x = q from fun e => z2 e.symm]
theorem r259 {w : Wd} {Q : QT} {s : ST} {x : Int} (h : MQy w Q s) : AnM Q s 2 w (F259 473 x w) (aPairs Q s x) := by
  have h8 := h.1.n8
  obtain ⟨h0, f0, z0⟩ := st0 h
  have hN1 : 1 ≤ 2 ^ zn Q := Nat.one_le_two_pow
  have hN2 : 2 ^ zn Q ≤ 256 := Nat.pow_le_pow_right (n := 2) (by decide) h8
  refine AnM.of (e259 h.H l473) (AnM.W3 (AnM.of (e259_14 h0.H l473) (AnM.f h0 f0 rfl)) fun x0 x1 => ?_)
  obtain ⟨w', k1, k2, k3⟩ := y258 h0.1
  have h1 : MQy w' Q s := h0.fr k2 (fun b hb => by omega)
  have f1 : FrS w w' := f0.tr (FrS.of k2 (fun b hb => by unfold ZS; omega))
  have z1 : gI w' 473 4 = 0 := by rw [k2.g (by omega)]; exact z0
  obtain ⟨c1, c2, c3, c4, c5⟩ := cpl_PF h.1.s h8 k3
  rw [k1, b0_r h1.H, y179 h1.1, bI_r h1.H, gdi (by omega) (by omega), nn, show (473 + 27 : Nat) = 500 from rfl, c1, show gI w' (473 + 4) 1 = zn Q from h1.1.n]
  generalize (cpl Q s).2.2.1 = P at *
  generalize (cpl Q s).2.2.2 = F at *
  have hp : 0 ≤ 100000 * (zn Q : Int) - 200000 * P + F := by omega
  by_cases z : x = 0
  · rw [if_neg (fun y => y z), if_pos z, gdi (by omega) (by omega), Int.tdiv_eq_ediv_of_nonneg hp]
    have e1 : (100000 * (zn Q : Int) - 200000 * P + F) / 100000 = zn Q - 2 * P := by omega
    rw [e1, wrd (z := (zn Q : Int) - 2 * P) (by omega) (by omega), wrd (z := (zn Q : Int) - (zn Q - 2 * P)) (by omega) (by omega), Int.tdiv_eq_ediv_of_nonneg (by omega), show ((zn Q : Int) - (zn Q - 2 * P)) / 2 = P by omega, wrd (by omega) (by omega)]
    exact AnM.v h1 f1 z1
  · rw [if_pos z, if_neg z, Int.tmod_eq_emod_of_nonneg hp, show (100000 * (zn Q : Int) - 200000 * P + F) % 100000 = F by omega]
    exact AnM.v h1 f1 z1
theorem r260 {w : Wd} {Q : QT} {s : ST} {x : Int} (h : MQy w Q s) : AnM Q s 2 w (F260 473 x w) (aPair Q s x) := by
  have h8 := h.1.n8
  obtain ⟨h0, f0, z0⟩ := st0 h
  refine AnM.of (e260 h.H l473) (AnM.P1 h0 (AnM.f h0 f0 rfl) fun x0 x1 => ?_)
  obtain ⟨p, rfl, hp⟩ := toN x0 x1
  obtain ⟨w', k1, k2, k3⟩ := y258 h0.1
  have h1 : MQy w' Q s := h0.fr k2 (fun b hb => by omega)
  have f1 : FrS w w' := f0.tr (FrS.of k2 (fun b hb => by unfold ZS; omega))
  have z1 : gI w' 473 4 = 0 := by rw [k2.g (by omega)]; exact z0
  have hpn : p < zn Q := by omega
  rw [k1, b0_r h1.H, y179 h1.1, bI_r h1.H, show s260_30 473 (p : Int) ((2 ^ zn Q - 1 : Nat) : Int) 0 w' = _ from y260l h1.1 k3 hpn (zn Q) 0 0 (2 ^ zn Q - 1) (by omega) rfl (fun i hi => absurd hi (Nat.not_lt_zero _)) (by rw [Nat.testBit_two_pow_sub_one]; simpa using hpn), nn]
  exact AnM.v h1 f1 z1
