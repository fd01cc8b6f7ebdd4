/-! the law's quay and stay -/
section OPQ
variable {w : Wd} {A : AC} {m x : Nat} {B : Row} {fp : Int}
/-- behind a caught call that both have answered alike -/
theorem L289e {y c : Int} {m' : Nat} {A' : AC} {B' : Row} {fp' : Int} {a : An} (hx : x + 6 ≤ gL w) (hL : gL w ≤ 3072) (H : LR w) (hc : c ≠ 0) (hy : gX w (x + 1) = y)
    (h : ∃ w2 w5, F277 0 y 514 w = rI (ac c a) w2 ∧ F204 473 y w2 = rI (av a) w5 ∧ LR w2 ∧ LR w5 ∧ gL w2 = gL w ∧ gX w2 = gX w ∧ gI w5 473 4 = ac c a ∧ (∀ v, a = .inl v → gJ w5 514 0 = v) ∧ JV w5 m' A' B' fp' ∧ FrO w w5) : StepL x w (s327_289 0 473 514 x w) := by
  obtain ⟨x1, -, -, -, -, -⟩ := wr5 hx hL
  obtain ⟨w2, w5, k1, k2, H2, H5, k3, k4, k5, k6, k7, k8⟩ := h
  refine ⟨w5, _, _, _, _, fun o ho => e327_289 H l0 l473 l514 _ ?_, k7, k8⟩
  simp only [x1, nn]
  rw [gdi (by omega) (by omega), hy, k1, bI_r H2, k3, k4, gdi (by omega) (by omega), hy, k2, bI_r H5]
  exact (tailW (N := fun w8 => s327_2524 0 473 514 x w8) H5 hc k5 k6).trans ho
theorem L289 (hx : x + 6 ≤ gL w) (hL : gL w ≤ 3072) (h : JV w m A B fp) : StepL x w (s327_289 0 473 514 x w) := by
  have H := h.1.H
  have hj := h
  obtain ⟨hK, hM, hT, hW, hI⟩ := h
  have hK' := hK
  obtain ⟨q, hC, hB⟩ := hK
  obtain ⟨y, hy⟩ : ∃ y, y = gX w (x + 1) := ⟨_, rfl⟩
  have hm := hB.2.1
  by_cases ok : okQ m y
  · obtain ⟨w', q', e1, f1, ⟨M, hTK⟩, g0, g1⟩ := d114 hC hB (fun p hp => (hI.2.1 p hp).2.1) ok
    by_cases z : (rB B y).1.1 = 0
    · obtain ⟨r1, r2⟩ := g0 z
      have hQ : QK (rB B y).2 := QK_B hTK z
      have hX : ClA w (F114 0 y w) (.inl (rB B y).1.1, nwA A (rB B y).2) 0 B (-1) := ⟨w', e1, ⟨q', r1, r2⟩, f1⟩
      exact L289e (c := 1) hx hL H (by decide) hy.symm (opW (c := 1) hj hX (e277 H l0 l514) Cd.v (hI.nw hQ) (fun w2 g1 g2 g3 => by
        obtain ⟨w5, b1, b2, b3, b4, b5, b6⟩ := t204 (x := y) g1 g2 hm g3 hI.2.1 ok hTK
        exact ⟨w5, b1, b2, (b5 z).1, (b5 z).2, b3⟩))
    · obtain ⟨r1, r2⟩ := g1 z
      have hX : ClA w (F114 0 y w) (.inl (rB B y).1.1, rfS A 0) 0 B (sT (tTx B y.toNat) y.toNat (rB B y).1.2) := ⟨w', e1, ⟨q', r1, r2⟩, f1⟩
      exact L289e (c := 1) hx hL H (by decide) hy.symm (opW (c := 1) hj hX (e277 H l0 l514) Cd.v hI.rf (fun w2 g1 g2 g3 => by
        obtain ⟨w5, b1, b2, b3, b4, b5, b6⟩ := t204 (x := y) g1 g2 hm g3 hI.2.1 ok hTK
        exact ⟨w5, b1, b2, (b6 z).1, (b6 z).2, b3⟩))
  · have hX : ClA w (F114 0 y w) (.inr 1, A) m B fp := ⟨d114n H hB.1 ok, hK'⟩
    exact L289e (c := 1) hx hL H (by decide) hy.symm (opW (c := 1) hj hX (e277 H l0 l514) (Cd.i (Or.inr ⟨rfl, fun _ => rfl⟩)) hI (fun w2 g1 g2 g3 => by
        obtain ⟨w5, b1, b2, b3, b4, b5⟩ := t204n (x := y) g1 g2 ok
        exact ⟨w5, b1, b2, b3, b4, b5.X.V⟩))
theorem stay01 {y : Int} {b : Bool} : ∀ v, (sStay A y b).1 = .inl v → v = 0 ∨ v = 1 := by
  unfold sStay gdPA
  intro v hv
  split at hv
  · split at hv
    · cases hv; exact Or.inr rfl
    · cases hv; exact Or.inl rfl
  · cases hv
theorem L684 (hx : x + 6 ≤ gL w) (hL : gL w ≤ 3072) (h : JV w m A B fp) : StepL x w (s327_684 0 473 514 x w) := by
  have H := h.1.H
  have hj := h
  obtain ⟨⟨q, hC, hB⟩, hM, hT, hW, hI⟩ := h
  obtain ⟨x1, x2, -, -, -, -⟩ := wr5 hx hL
  obtain ⟨b, hb⟩ : ∃ b, b = decide (gX w (x + 2) ≠ 0) := ⟨_, rfl⟩
  obtain ⟨y, hy⟩ : ∃ y, y = gX w (x + 1) := ⟨_, rfl⟩
  have hX : ClA w (F124 0 y (b2i b) w) (sStay A y b) m B fp := AnZ.Cl hC hB (d124z (x := y) (b := b) hC) hsStay
  have h01 := stay01 (A := A) (y := y) (b := b)
  have hW2 : Rf (bHI (F124 0 y (b2i b) w) (fun n1 w2 => gd (inb 0 1) (rI 0 (pJ w2 514 0 n1))) (fun w4 => rI 1 w4) (fun w4 => none)) (F282 0 y (b2i b) 514 w) := fun o ho => by
    refine e282 H l0 l514 _ ?_
    have hX := hX
    unfold ClA at hX
    revert hX h01
    cases e : (sStay A y b).1 with
    | inl v =>
      intro h01 hX
      obtain ⟨w', e1, k1, k2⟩ := hX
      rw [e1, bHI_r k1.H] at ho ⊢
      rcases h01 v rfl with u | u
      · rw [if_pos u]; rw [u] at ho; exact ho
      · rw [if_neg (by rw [u]; decide)]; rw [u] at ho; exact ho
    | inr e' =>
      intro h01 hX
      obtain ⟨e1, k1⟩ := hX
      have e0 : e' = 0 := cdStay (P := fun e => e = 0) (A := A) (x := y) (b := b) rfl e' e
      subst e0
      rw [e1, bHI_x0 (LR_tW.mpr H)] at ho ⊢
      exact ho
  obtain ⟨w2, w5, k1, k2, H2, H5, k3, k4, k5, k6, k7, k8⟩ := opW (c := 2) hj hX hW2 (cdStay (Or.inl ⟨rfl, fun _ => rfl⟩)) (GI.stay hI) (fun w2 g1 g2 g3 => AnT.Rf g2 (t235 (x := y) (b := b) g1))
  have key : ∀ o, s327_705 0 473 514 x (b2i b) y 0 w = some o → s327_684 0 473 514 x w = some o := fun o ho => by
    refine e327_684 H l0 l473 l514 _ ?_
    simp only [x1, x2, nn]
    rw [hb, b2i_d, hy] at ho
    rw [gdi (by omega) (by omega), gdi (by omega) (by omega)]
    by_cases z : gX w (x + 2) = 0
    · rw [if_pos z] at ho ⊢; exact ho
    · rw [if_neg z] at ho ⊢; exact ho
  have key2 : ∀ o v, s327_732 0 473 514 x v (b2i b) y 473 w2 = some o → (if gX w2 (x + 2) = 0 then s327_732 0 473 514 x v 0 (gX w2 (x + 1)) 473 w2 else s327_732 0 473 514 x v 1 (gX w2 (x + 1)) 473 w2) = some o := fun o v ho => by
    rw [hb, b2i_d, hy] at ho
    rw [k4]
    by_cases z : gX w (x + 2) = 0
    · rw [if_pos z] at ho ⊢; exact ho
    · rw [if_neg z] at ho ⊢; exact ho
  refine ⟨w5, _, _, _, _, fun o ho => key _ (e327_705 H l0 l473 l514 l0 _ ?_), k7, k8⟩
  simp only [x1, x2, nn]
  rw [k1, bI_r H2, k3, gdi (by omega) (by omega), gdi (by omega) (by omega)]
  refine key2 _ _ (e327_732 H2 l0 l473 l514 l473 _ ?_)
  rw [k2, bI_r H5, y171 H5, bI_r H5, k5, if_pos rfl]
  revert k6
  cases e : (sStay A y b).1 with
  | inl v =>
    intro k6
    rw [if_neg (fun u => u rfl), gdi (by decide) (by decide), k6 v rfl, show av (.inl v) = v from rfl]
    rcases h01 v e with u | u
    · rw [if_pos u, u, lCmp_s, if_pos rfl]; exact ho
    · rw [if_neg (by rw [u]; decide), u, lCmp_s, if_pos rfl]; exact ho
  | inr e' =>
    intro k6
    have e0 : e' = 0 := cdStay (P := fun e => e = 0) (A := A) (x := y) (b := b) rfl e' e
    subst e0
    rw [if_pos (show ac 2 (.inr 0) ≠ 0 by decide)]
    exact ho
end OPQ
