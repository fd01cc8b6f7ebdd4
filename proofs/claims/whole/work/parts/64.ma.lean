/-! the reference: a step; many; a row kept, and read again -/
def FrJ (w w' : Wd) : Prop := FrI AMr w w' ∧ ∀ i, (i < 33 ∨ 36 < i) → i ≠ 43 → gI w' 473 i = gI w 473 i
theorem FrJ.rf {w : Wd} : FrJ w w := ⟨FrI.rf, fun _ _ _ => rfl⟩
theorem FrJ.tr {a b c : Wd} (h : FrJ a b) (h' : FrJ b c) : FrJ a c := ⟨h.1.tr h'.1, fun i h1 h2 => (h'.2 i h1 h2).trans (h.2 i h1 h2)⟩
theorem FrJ.of {A : Nat → Prop} {w w' : Wd} (f : FrI A w w') (hA : ∀ b, A b → b = 489 ∨ b = 490 ∨ (493 ≤ b ∧ b ≤ 496)) : FrJ w w' :=
  ⟨f.wk (fun b hb => by have := hA b hb; unfold AMr; omega), fun i _ _ => by rw [f.g (fun z => by have := hA _ z; omega)]⟩
theorem FrJ.p {w : Wd} {i : Nat} {x : Int} (hi : (33 ≤ i ∧ i ≤ 36) ∨ i = 43) : FrJ w (pI w 473 i x) := ⟨FrI.p (Or.inl rfl), fun j h1 h2 => gI_c (by omega)⟩
theorem MQx.to {A : Nat → Prop} {w w' : Wd} {Q : QT} {s u : ST} (h : MQx w Q s) (f : FrI A w w') (hA : ∀ b, 477 ≤ b → b ≤ 485 → ¬ A b) (hr : RMS w' u) (hG : GS (zn Q) u) (hI : ∀ p, zn Q ≤ p → uI u p = false) (h44 : gI w' 473 44 = 0 ∨ gI w' 473 44 = 1) : MQx w' Q u :=
  ⟨h.1.fr f hA, hr, f.LR h.H, h.g, hG, hI, h44⟩
theorem MQx.I {w : Wd} {Q : QT} {s : ST} (h : MQx w Q s) : ∀ p, zn Q ≤ p → uI s p = false := h.2.2.2.2.2.1
theorem MQx.F {w : Wd} {Q : QT} {s : ST} (h : MQx w Q s) : gI w 473 44 = 0 ∨ gI w 473 44 = 1 := h.2.2.2.2.2.2
theorem up_self {f : Row} {k : Nat} {x : Int} (h : f k = x) : va_up f k x = f := by
  funext i
  unfold va_up
  split
  · rename_i e; rw [e, h]
  · rfl
theorem HDk_b {Q : QT} {s : ST} (hg : GQ Q) (h : GS (zn Q) s) (k q i : Nat) (hk : k ≤ zn Q) : 0 ≤ HD Q s k q i ∧ HD Q s k q i ≤ 7992 := by
  have h1 := sumN_bn (f := fun p => dH Q (sg Q s p) p q i) (M := 999) k (fun p hp => dH_b p q i (GS_sg h p (by omega)))
  have := hg.1
  unfold HD; omega
theorem PSk_b {Q : QT} {s : ST} (hg : GQ Q) (h : GS (zn Q) s) (k : Nat) (hk : k ≤ zn Q) : 0 ≤ PS Q s k ∧ PS Q s k ≤ 7992 := by
  have h1 := sumN_bn (f := fun p => dP Q (sg Q s p) p) (M := 999) k (fun p hp => dP_b p (GS_sg h p (by omega)))
  have := hg.1
  unfold PS; omega
