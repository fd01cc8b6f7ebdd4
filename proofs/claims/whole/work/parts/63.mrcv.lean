/-! the reference: the three rows that giving and getting write -/
theorem MQx.rcv {w : Wd} {Q : QT} {s : ST} {q p : Nat} {m : Int} (h : MQx w Q s) (hG : GS (zn Q) (rcv (hnd1 s q m) p m)) :
    MQx (pI (pI (pI w 489 q (uL s q - m)) 490 q (min (uG s q + m) 9999)) 489 p (min (uL (hnd1 s q m) p + m) 999)) Q (rcv (hnd1 s q m) p m) := by
  obtain ⟨h1, h2, h3, h4, h5, h6, h7⟩ := h
  refine ⟨h1.fr (A := fun b => b = 489 ∨ b = 490) (((FrI.p (Or.inl rfl)).pp (Or.inr rfl)).pp (Or.inl rfl)) (fun b x1 x2 x3 => by rcases x3 with x3 | x3 <;> subst x3 <;> exact absurd x2 (by decide)), ?_, h3, h4, hG, h6, by rw [gI_r (by decide), gI_r (by decide), gI_r (by decide)]; exact h7⟩
  unfold RMS at h2 ⊢
  rw [gI_r (b := 491) (by decide), gI_r (b := 491) (by decide), gI_r (b := 491) (by decide), gI_r (b := 487) (by decide), gI_r (b := 487) (by decide), gI_r (b := 487) (by decide), gI_r (b := 473) (by decide), gI_r (b := 473) (by decide), gI_r (b := 473) (by decide)]
  refine ⟨?_, ?_, h2.2.2⟩
  · rw [gI_p, gI_r (by decide), gI_p, h2.1]; rfl
  · rw [gI_r (by decide), gI_p, gI_r (by decide), h2.2.1]; rfl
