/-! the reference: a step, further -/
theorem y222d {w : Wd} {Q : QT} {s : ST} (h : MQx w Q s) (ht : uT s < 100000) : ∃ w', s222_61 473 0 w = r0 w' ∧ MQx w' Q (endS s) ∧ FrI (fun b => b = 473 ∨ b = 489) w w' ∧ ∀ i, (i < 33 ∨ 36 < i) → gI w' 473 i = gI w 473 i := by
  have h8 := h.n8
  have hT := h.t
  have hC := h.s.2.2.2.2.2.1
  obtain ⟨v, hv, i1, i2⟩ := lpR (F := fun k v => s222_61 473 k v) (I := fun k v => FrI (fun b => b = 489) w v ∧ gI v 489 = it dec1 k (uL s)) (zn Q) (fun k v hk e => by
    obtain ⟨ef, e1⟩ := e
    have HV := ef.LR h.H
    have hb := h.s.1 k
    have e2 : it dec1 k (uL s) k = uL s k := by rw [dec_at, if_neg (by omega)]
    have e3 : gI v 489 k = uL s k := by rw [e1, e2]
    refine ⟨pI v 489 k (max 0 (uL s k - 1)), fun o ho => e222_61 HV l473 _ ?_, ef.pp rfl, ?_⟩
    · rw [gdi (by omega) (by omega), show gI v (473 + 4) 1 = zn Q by rw [ef.g (by decide)]; exact h.n, if_neg (by omega), gdi (by omega) (by omega), nn, show gI v (473 + 16) k = uL s k from e3, wrd (by omega) (by omega), q325 HV, bI_r HV, gdi (by omega) (by omega), wrs (by omega)]
      exact ho
    · rw [gI_p, e1, it_s, ← e2]
      exact dec_max (by omega)) w ⟨FrI.rf, h.2.1.1⟩
  have HV := i1.LR h.H
  have g1 : gI v 477 1 = zn Q := by rw [i1.g (by decide)]; exact h.n
  have gf : gI v 473 = gI w 473 := i1.g (by decide)
  have eT : gI v 473 33 = uT s := by rw [gf]; exact h.2.1.2.2.2.2.1
  have eC : gI v 473 34 = uC s := by rw [gf]; exact h.2.1.2.2.2.2.2.1
  have eP : gI v 473 35 = b2i (uP s) := by rw [gf]; exact h.2.1.2.2.2.2.2.2.1
  have fin : ∀ w', w' = pI (pI v 473 33 (uT s + 1)) 473 34 (if uP s then uC s else (uC s + 5) % 60) → MQx w' Q (endS s) ∧ FrI (fun b => b = 473 ∨ b = 489) w w' ∧ ∀ i, (i < 33 ∨ 36 < i) → gI w' 473 i = gI w 473 i := by
    intro w' e
    have f : FrI (fun b => b = 473 ∨ b = 489) w w' := by rw [e]; exact ((i1.wk (B := fun b => b = 473 ∨ b = 489) (fun b hb => Or.inr hb)).pp (Or.inl rfl)).pp (Or.inl rfl)
    have g3 : ∀ i, (i < 33 ∨ 36 < i) → gI w' 473 i = gI w 473 i := fun i hi => by rw [e, gI_c (by omega), gI_c (by omega), gf]
    have hr := h.2.1
    unfold RMS at hr
    refine ⟨h.to f (fun b b1 b2 z => by omega) ?_ (GS_end h.s ht) h.I (by rw [g3 44 (by omega)]; exact h.F), f, g3⟩
    unfold RMS
    refine ⟨?_, by rw [f.g (by decide)]; exact hr.2.1, by rw [f.g (by decide)]; exact hr.2.2.1, by rw [f.g (by decide)]; exact hr.2.2.2.1, ?_, ?_, ?_, ?_⟩
    · rw [e, gI_r (by decide), gI_r (by decide), i2, dec_n h8 h.s.2.1]; rfl
    · rw [e, gI_c (by decide), gI_s]; rfl
    · rw [e, gI_s]; rfl
    · rw [e, gI_c (by decide), gI_c (by decide), eP]; rfl
    · rw [e, gI_c (by decide), gI_c (by decide), gf]; exact hr.2.2.2.2.2.2.2
  refine ⟨_, hv _ (e222_61 HV l473 _ ?_), fin _ rfl⟩
  rw [gdi (by omega) (by omega), show gI v (473 + 4) 1 = zn Q from g1, if_pos (Int.le_refl _), eT, wrd (by omega) (by omega), gI_c (by decide), eP, gI_c (by decide), eC]
  have H' : LR (pI v 473 33 (uT s + 1)) := HV
  cases uP s
  · rw [if_pos (show b2i false ≠ 1 by decide), wrd (by omega) (by omega), y177 H' (by omega), bI_r H']
    rfl
  · rw [if_neg (show ¬ b2i true ≠ 1 by decide)]
    rfl
