/-! the reference's questions: fog -/
theorem y221f {w : Wd} {Q : QT} {s : ST} {p : Nat} (h : MQx w Q s) (hf : gI w 473 44 ≠ 0) (hp : p < zn Q) : F221 473 p w = r0 w := by
  refine e221 h.H l473 _ ?_
  rw [y212 h hp, bI_r h.H, y213 h, bI_r h.H, if_pos hf]
theorem y222g {w : Wd} {Q : QT} {s : ST} (h : MQx w Q s) (hf : gI w 473 44 ≠ 0) (ht : uT s < 100000) : ∃ w', F222 473 w = r0 w' ∧ MQx w' Q (endS s) ∧ FrJ w w' := by
  have h8 := h.n8
  have h0 : MQx (pI w 473 43 0) Q s := h.pf (by omega)
  obtain ⟨w1, k1, k2, k3⟩ := y222z h0.H
  have h1 := h0.fr k2 (fun b hb => by omega)
  have g1 : gI w1 473 44 ≠ 0 := by rw [k2.g (by decide), gI_c (by decide)]; exact hf
  obtain ⟨v, hv, i1⟩ := lpR (F := fun k v => s222_31 473 k v) (I := fun k v => FrI (fun b => b = 495) w1 v) (zn Q) (fun k v hk ef => by
    have hV := h1.fr ef (fun b hb => by omega)
    have hV2 := h1.fr (ef.pp (i := k) (x := -1) rfl) (fun b hb => by omega)
    refine ⟨pI v 495 k (-1), fun o ho => e222_31 hV.H l473 _ ?_, ef.pp rfl⟩
    rw [gdi (by omega) (by omega), show gI v (473 + 4) 1 = zn Q from hV.n, if_neg (by omega), gdi (by omega) (by omega), nn, show (473 + 22 : Nat) = 495 from rfl, y221f hV2 (by rw [gI_r (by decide), ef.g (by decide)]; exact g1) hk, b0_r hV2.H, wrs (by omega)]
    exact ho) w1 FrI.rf
  have hV := h1.fr i1 (fun b hb => by omega)
  obtain ⟨w3, m1, m2, m3, m4⟩ := y222d hV ht
  refine ⟨w3, e222 h.H l473 _ (k1 _ (hv _ (e222_31 hV.H l473 _ ?_))), m2, (FrJ.p (by omega)).tr ((FrJ.of k2 (fun b hb => by omega)).tr ((FrJ.of i1 (fun b hb => by omega)).tr ⟨m3.wk (fun b hb => by unfold AMr; omega), fun i h1 _ => m4 i h1⟩))⟩
  rw [gdi (by omega) (by omega), show gI v (473 + 4) 1 = zn Q from hV.n, if_pos (Int.le_refl _)]
  exact m1
theorem MQx.fg {w : Wd} {Q : QT} {s : ST} {b : Bool} (h : MQx w Q s) : MQx (pI w 473 44 (b2i b)) Q s := by
  have f : FrI (fun b => b = 473) w (pI w 473 44 (b2i b)) := FrI.p rfl
  have hr := h.2.1
  unfold RMS at hr
  refine h.to f (fun b b1 b2 z => by omega) ?_ h.s h.I (by rw [gI_s]; exact b2i_or b)
  unfold RMS
  rw [f.g (show ¬ 489 = 473 by decide), f.g (show ¬ 490 = 473 by decide), f.g (show ¬ 487 = 473 by decide), f.g (show ¬ 491 = 473 by decide), gI_c (by decide), gI_c (by decide), gI_c (by decide), gI_c (by decide)]
  exact hr
/-- in the middle of a question, foggy or not -/
def Rq (w : Wd) (s : ST) (v : Wd) : Prop := PK v 497 0 s ∧ FrS w v ∧ gI v 473 4 = gI w 473 4
theorem Rq.J {w v u : Wd} {s : ST} (h : Rq w s v) (f : FrJ v u) : Rq w s u := ⟨h.1.fr f.1 (by unfold AMr; omega), h.2.1.tr f.S, by rw [f.2 4 (by omega) (by omega)]; exact h.2.2⟩
theorem Rq.p {w v : Wd} {s : ST} {i : Nat} {x : Int} (h : Rq w s v) (hi : ZF i) (h4 : i ≠ 4) : Rq w s (pI v 473 i x) := ⟨h.1.ext (gI_r (by decide)), h.2.1.tr (FrS.p hi), by rw [gI_c (fun e => h4 e.symm)]; exact h.2.2⟩
theorem Rq.I {A : Nat → Prop} {w v u : Wd} {s : ST} (h : Rq w s v) (f : FrI A v u) (hA : ∀ b, A b → ZS b ∧ b ≠ 473 ∧ b ≠ 497) : Rq w s u := ⟨h.1.fr f (fun z => (hA _ z).2.2 rfl), h.2.1.tr (FrS.of f (fun b hb => ⟨(hA b hb).1, (hA b hb).2.1⟩)), by rw [f.g (fun z => (hA _ z).2.1 rfl)]; exact h.2.2⟩
theorem unq0 {w v : Wd} {Q : QT} {s u : ST} (hs : MQy w Q s) (hv : MQx v Q u) (hR : Rq w s v) (h8 : E8 u s) :
    ∃ w', F209 473 497 0 v = r0 w' ∧ MQx w' Q (pM s (uM u)) ∧ Rq w s w' ∧ (∀ i, (i < 33 ∨ 36 < i) → gI w' 473 i = gI v 473 i) ∧ ∀ b, b ≠ 473 → (b < 489 ∨ 491 < b) → gI w' b = gI v b := by
  obtain ⟨hp, f, h4⟩ := hR
  obtain ⟨w', k1, k2, k3, k4⟩ := y209 (a := 497) (off := 0) (n := 28) hv hp l497 (by omega) (by omega) (by omega) h8 hs.1.s hs.1.I
  exact ⟨w', k1, k2, ⟨hp.fr k3 (by omega), f.tr ⟨k3.wk (fun b hb => by unfold ZS; omega), fun i hi => k4 i (by unfold ZF at hi; omega)⟩, by rw [k4 4 (by omega)]; exact h4⟩, k4, fun b b1 b2 => k3.g (by omega)⟩
theorem fgN_E {Q : QT} {s : ST} {m : Nat} (hs : GS (zn Q) s) (h8 : zn Q ≤ 8) : ∀ k : Nat, uT s + k ≤ 100000 → E8 (fgN Q s m k) s ∧ uM (fgN Q s m k) = uM s := by
  intro k
  induction k with
  | zero => intro _; exact ⟨E8.rf, rfl⟩
  | succ k ih =>
    intro hk
    obtain ⟨h1, h2⟩ := ih (by omega)
    obtain ⟨g1, g2⟩ := fgN_G (m := m) hs k (by omega)
    rw [fgN_s]
    cases m.testBit k
    · rw [if_neg (by decide)]
      exact ⟨(E8_goN g1 h8 1 (by omega)).tr h1, (uM_goN (Q := Q) 1).trans h2⟩
    · rw [if_pos rfl]
      exact ⟨E8_end.tr h1, h2⟩
theorem p10 : ∀ j : Nat, j ≤ 5 → (10 : Int) ^ j ≤ 100000 := by decide
theorem y268i {w0 u : Wd} {Q : QT} {s : ST} {p K m : Nat} {t x : Int} (h0 : MQy w0 Q s) (hu : MQx u Q s) (hR : Rq w0 s u) (hp : p < zn Q) (hK : K ≤ 5) (hm : m < 2 ^ K) (ht : 0 ≤ t ∧ t ≤ 10) (hx : 0 ≤ x ∧ x ≤ 10000000) (hT : uT s ≤ 999) :
    ∃ u', Rf (s268_64 473 p K t (x + fgV Q s p K t m) ((m + 1 : Nat) : Int) u') (s268_78 473 p K t x m 1 0 u) ∧ MQx u' Q s ∧ Rq w0 s u' := by
  have h8 := hu.n8
  have hT0 := hu.t
  have hm8 : m < 256 := Nat.lt_of_lt_of_le hm (Nat.pow_le_pow_right (n := 2) (by omega) (show K ≤ 8 by omega))
  obtain ⟨v, hv, i1, i2⟩ := lpR (F := fun k v => s268_78 473 p K t x m (wgN t m k.toNat) k v) (I := fun k v => MQx v Q (fgN Q s m k) ∧ Rq w0 s v) K (fun k v hk e => by
    obtain ⟨e1, e2⟩ := e
    obtain ⟨g1, g2⟩ := fgN_G (m := m) h0.1.s k (by omega)
    have hw1 := wgN_b (m := m) ht k
    have hw2 := wgN_b (m := m) ht (k + 1)
    have hp1 := p10 k (by omega)
    have hp2 := p10 (k + 1) (by omega)
    have e44 : gI (pI v 473 44 (b2i (m.testBit k))) 473 44 = b2i (m.testBit k) := gI_s
    have hF := e1.fg (b := m.testBit k)
    have hR2 := e2.p (i := 44) (x := b2i (m.testBit k)) (by unfold ZF; omega) (by decide)
    have eW : wgN t m (k + 1) = wgN t m k * (if m.testBit k then t else 10 - t) := wgN_s
    have eF : fgN Q s m (k + 1) = if m.testBit k then endS (fgN Q s m k) else stq Q (fgN Q s m k) := fgN_s
    have hd : ∀ {o : Out}, (if b2i (m.testBit k) = 0 then s268_112 473 p K t x m (wgN t m k) k (wr (10 - t)) (wgN t m k) (pI v 473 44 (b2i (m.testBit k))) else s268_112 473 p K t x m (wgN t m k) k t (wgN t m k) (pI v 473 44 (b2i (m.testBit k)))) = some o → s268_78 473 p K t x m (wgN t m k) k v = some o := by
      intro o ho
      refine e268_78 e1.H l473 _ ?_
      rw [if_neg (by omega), y175n e1.H hm8 (by omega), bI_r e1.H, gP_t (b2i_or _), e44]
      exact ho
    cases z : m.testBit k
    · rw [z] at hd e44 hF hR2
      rw [z, if_neg (by decide)] at eW eF
      obtain ⟨u', l1, l2, l3, -⟩ := y222 hF e44 (by omega)
      refine ⟨u', fun o ho => ?_, by rw [eF]; exact l2, hR2.J l3⟩
      simp only [nn] at ho ⊢
      refine hd ?_
      rw [if_pos (show b2i false = 0 from rfl)]
      refine e268_112 hF.H l473 _ ?_
      rw [l1, b0_r l2.H, wrd (z := 10 - t) (by omega) (by omega), ← eW, wrd (by omega) (by omega), wrs (by omega)]
      exact ho
    · rw [z] at hd e44 hF hR2
      rw [z, if_pos rfl] at eW eF
      obtain ⟨u', l1, l2, l3⟩ := y222g hF (by rw [e44]; decide) (by omega)
      refine ⟨u', fun o ho => ?_, by rw [eF]; exact l2, hR2.J l3⟩
      simp only [nn] at ho ⊢
      refine hd ?_
      rw [if_neg (show ¬ b2i true = 0 by decide)]
      refine e268_112 hF.H l473 _ ?_
      rw [l1, b0_r l2.H, ← eW, wrd (by omega) (by omega), wrs (by omega)]
      exact ho) u ⟨hu, hR⟩
  obtain ⟨f1, f2⟩ := fgN_E (m := m) h0.1.s h8 K (by omega)
  obtain ⟨w', c1, c2, c3, -⟩ := unq0 h0 i1 i2 f1
  rw [pM_self f2.symm] at c2
  have hw1 := wgN_b (m := m) ht K
  have hp1 := p10 K hK
  have fin : ∀ y, 0 ≤ y → y ≤ 100000 → ∀ a b, Rf (s268_64 473 p K t (x + y) ((m + 1 : Nat) : Int) w') (s268_142 473 p K t a m b K y x v) := by
    intro y y0 y1 a b o ho
    refine e268_142 i1.H l473 _ ?_
    rw [show (473 + 24 : Nat) = 497 from rfl, c1, b0_r c2.H, wrd (z := x + y) (by omega) (by omega), wrs (by omega)]
    exact ho
  refine ⟨w', fun o ho => hv _ (e268_78 i1.H l473 _ ?_), c2, c3⟩
  simp only [nn]
  rw [if_pos (Int.le_refl _), gdi (by omega) (by omega), show gI v (473 + 16) p = uL (fgN Q s m K) p by rw [show gI v (473 + 16) = uL (fgN Q s m K) from i1.2.1.1]]
  unfold fgV at ho
  by_cases z : uL (fgN Q s m K) p = 0
  · rw [if_neg (by omega)]
    rw [if_pos z] at ho
    exact fin _ (by omega) (by omega) _ _ _ ho
  · rw [if_pos z]
    rw [if_neg z] at ho
    exact fin _ (by omega) (by omega) _ _ _ ho
theorem fgV_b {Q : QT} {s : ST} {p K m : Nat} {t : Int} (ht : 0 ≤ t ∧ t ≤ 10) (hK : K ≤ 5) : 0 ≤ fgV Q s p K t m ∧ fgV Q s p K t m ≤ 100000 := by
  have hw1 := wgN_b (m := m) ht K
  have hp1 := p10 K hK
  unfold fgV
  split <;> omega
theorem r268 {w : Wd} {Q : QT} {s : ST} {x k t : Int} (h : MQy w Q s) (hT : uT s ≤ 999) : AnM Q s 2 w (F268 473 x k t w) (aFog Q s x k t) := by
  refine AnM.of (e268 h.H l473) ?_
  obtain ⟨h0, f0, z0⟩ := st0 h
  revert h0 f0 z0
  generalize pI w 473 4 0 = w0
  intro h0 f0 z0
  have hE : AnM Q s 2 w (s268_43 473 x k t w0) (.inr 1) := AnM.of (e268_43 h0.H l473) (AnM.f h0 f0 rfl)
  refine AnM.P1 h0 (AnM.f h0 f0 rfl) fun x0 x1 => AnM.B2 h0 hE fun k0 k1 => AnM.B1 h0 hE fun t0 t1 => ?_
  clear hE
  have h8 := h.1.n8
  obtain ⟨p, rfl, hp⟩ := toN x0 x1
  obtain ⟨K, rfl, hK⟩ := toN (show 0 ≤ k by omega) (show k < 6 by omega)
  have hp2 : 2 ^ K ≤ 32 := Nat.pow_le_pow_right (n := 2) (by omega) (show K ≤ 5 by omega)
  obtain ⟨v, a1, a2, a3, a4, a5⟩ := pk0 h0
  rw [show (473 + 24 : Nat) = 497 from rfl, a1, b0_r a2, nn, nn]
  obtain ⟨u, hu, i1, i2⟩ := lpR (F := fun m u => s268_64 473 p K t (sumN (fgV Q s p K t) m.toNat) m u) (I := fun m u => MQx u Q s ∧ Rq w0 s u) (2 ^ K) (fun m u hm e => by
    obtain ⟨e1, e2⟩ := e
    have hb := sumN_bn (f := fgV Q s p K t) (M := 100000) m (fun i _ => fgV_b ⟨t0, t1⟩ (by omega))
    obtain ⟨u', l1, l2⟩ := y268i (p := p) (K := K) (m := m) (x := sumN (fgV Q s p K t) m) h0 e1 e2 (by omega) (show K ≤ 5 by omega) hm ⟨t0, t1⟩ (by omega) hT
    refine ⟨u', fun o ho => ?_, l2⟩
    simp only [nn] at ho ⊢
    refine e268_64 e1.H l473 _ ?_
    rw [bShl_1 K (by omega), if_neg (by omega)]
    exact l1 _ ho) v ⟨a3, ⟨a4.1, a4.2.1, a4.2.2.2⟩⟩
  refine AnM.of hu (AnM.of (e268_64 i1.H l473) ?_)
  simp only [nn]
  rw [bShl_1 K (by omega), if_pos (Int.le_refl _)]
  have hF : MQx (pI u 473 44 0) Q s := i1.fg (b := false)
  exact AnM.v ⟨hF, gI_s⟩ ((f0.tr i2.2.1).tr (FrS.p (by unfold ZF; omega))) (by rw [gI_c (by decide), i2.2.2]; exact z0)
