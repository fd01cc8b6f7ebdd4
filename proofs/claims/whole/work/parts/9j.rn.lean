/-! the law's calls that are caught -/
/-- a step of the law: both stand together behind it -/
def StepL (x : Nat) (w : Wd) (F : Option Out) : Prop := ∃ w' m' A' B' fp', Rf (s327_2524 0 473 514 x w') F ∧ JV w' m' A' B' fp' ∧ FrO w w'
theorem wr6k {x L k : Nat} (hx : x + 6 ≤ L) (hL : L ≤ 3072) (hk : k ≤ 6) : wr ((x : Int) + (k : Int)) = ((x + k : Nat) : Int) := by rw [wrd (by omega) (by omega)]; omega
theorem wr5 {x L : Nat} (hx : x + 6 ≤ L) (hL : L ≤ 3072) : wr ((x : Int) + 1) = ((x + 1 : Nat) : Int) ∧ wr ((x : Int) + 2) = ((x + 2 : Nat) : Int) ∧ wr ((x : Int) + 3) = ((x + 3 : Nat) : Int) ∧ wr ((x : Int) + 4) = ((x + 4 : Nat) : Int) ∧ wr ((x : Int) + 5) = ((x + 5 : Nat) : Int) ∧ wr ((x : Int) + 6) = ((x + 6 : Nat) : Int) := ⟨wr6k (k := 1) hx hL (by decide), wr6k (k := 2) hx hL (by decide), wr6k (k := 3) hx hL (by decide), wr6k (k := 4) hx hL (by decide), wr6k (k := 5) hx hL (by decide), wr6k (k := 6) hx hL (by decide)⟩
section CD
variable {P : Nat → Prop} {A : AC} {x n m : Int}
theorem cdSet (h : P 0) : Cd P (sSet A x n).1 := by unfold sSet gdPA; split; split <;> exact Cd.v; exact Cd.i h
theorem hsSet : ∀ e, (sSet A x n).1 = .inr e → (sSet A x n).2 = A := by
  unfold sSet gdPA
  intro e h
  split at h
  · split at h <;> cases h
  · rename_i z; rw [if_neg z]
theorem cdGive (h : P 0) : Cd P (sGive A x n).1 := by unfold sGive gdPA; split; split <;> exact Cd.v; exact Cd.i h
theorem hsGive : ∀ e, (sGive A x n).1 = .inr e → (sGive A x n).2 = A := by
  unfold sGive gdPA
  intro e h
  split at h
  · split at h <;> cases h
  · rename_i z; rw [if_neg z]
theorem cdSee (h : P 0) : Cd P (sSee A x n m).1 := by unfold sSee gdPA; split; split <;> exact Cd.v; exact Cd.i h
theorem hsSee : ∀ e, (sSee A x n m).1 = .inr e → (sSee A x n m).2 = A := by
  unfold sSee gdPA
  intro e h
  split at h
  · split at h <;> cases h
  · rename_i z; rw [if_neg z]
theorem cdStay {b : Bool} (h : P 0) : Cd P (sStay A x b).1 := by unfold sStay gdPA; split; split <;> exact Cd.v; exact Cd.i h
theorem hsStay {b : Bool} : ∀ e, (sStay A x b).1 = .inr e → (sStay A x b).2 = A := by
  unfold sStay gdPA
  intro e h
  split at h
  · split at h <;> cases h
  · rename_i z; rw [if_neg z]
end CD
theorem cdI {P : Nat → Prop} {p : Prop} [Decidable p] {v : Int} (h : P 1) : Cd P (if p then .inr 1 else .inl v) := by split; exact Cd.i h; exact Cd.v
section OPS
variable {w : Wd} {A : AC} {m x : Nat} {B : Row} {fp : Int}
theorem L358 (hx : x + 6 ≤ gL w) (hL : gL w ≤ 3072) (h : JV w m A B fp) : StepL x w (s327_358 0 473 514 x w) := by
  have H := h.1.H
  have hj := h
  obtain ⟨⟨q, hC, hB⟩, hM, hT, hW, hI⟩ := h
  have n8 : zn (oQ A) ≤ 8 := hC.1.n8
  have ht : uT (oS A) ≤ 999 := hI.1.1.2.1
  obtain ⟨x1, x2, x3, -, -, -⟩ := wr5 hx hL
  obtain ⟨w2, w5, k1, k2, H2, H5, k3, k4, k5, k6, k7, k8⟩ := opW (c := 2) (a := (aCount A m (gX w (x + 1)), A)) hj (AnC.Cl ⟨q, hC, hB⟩ (c116 (wh := (gX w (x + 1))) hC hB.1)) (e278 H l0 l514) (Cd.W (Or.inl ⟨rfl, fun _ => rfl⟩) Cd.v) hI (fun w2 g1 g2 g3 => AnM.Rf g1 g2 (r226 (wh := (gX w (x + 1))) g1 g2))
  refine ⟨w5, _, _, _, _, fun o ho => e327_358 H l0 l473 l514 _ ?_, k7, k8⟩
  simp only [x1, nn]
  rw [gdi (by omega) (by omega), k1, bI_r H2, k3, k4, gdi (by omega) (by omega), k2, bI_r H5]
  exact (tailW (N := fun w8 => s327_2524 0 473 514 x w8) H5 (by decide) k5 k6).trans ho
theorem L414 (hx : x + 6 ≤ gL w) (hL : gL w ≤ 3072) (h : JV w m A B fp) : StepL x w (s327_414 0 473 514 x w) := by
  have H := h.1.H
  have hj := h
  obtain ⟨⟨q, hC, hB⟩, hM, hT, hW, hI⟩ := h
  have n8 : zn (oQ A) ≤ 8 := hC.1.n8
  have ht : uT (oS A) ≤ 999 := hI.1.1.2.1
  obtain ⟨x1, x2, x3, -, -, -⟩ := wr5 hx hL
  obtain ⟨w2, w5, k1, k2, H2, H5, k3, k4, k5, k6, k7, k8⟩ := opW (c := 2) (a := (aPerson (oQ A) (oS A) (gX w (x + 1)) (gX w (x + 2)), A)) hj (AnC.Cl ⟨q, hC, hB⟩ (c119 (x := (gX w (x + 1))) (wh := (gX w (x + 2))) hC.1)) (e279 H l0 l514) (Cd.P (Or.inl ⟨rfl, fun _ => rfl⟩) (Cd.W (Or.inl ⟨rfl, fun _ => rfl⟩) Cd.v)) hI (fun w2 g1 g2 g3 => AnM.Rf g1 g2 (r227 (x := (gX w (x + 1))) (wh := (gX w (x + 2))) g1.1))
  refine ⟨w5, _, _, _, _, fun o ho => e327_414 H l0 l473 l514 _ ?_, k7, k8⟩
  simp only [x1, x2, nn]
  rw [gdi (by omega) (by omega), gdi (by omega) (by omega), k1, bI_r H2, k3, k4, gdi (by omega) (by omega), gdi (by omega) (by omega), k2, bI_r H5]
  exact (tailW (N := fun w8 => s327_2524 0 473 514 x w8) H5 (by decide) k5 k6).trans ho
theorem L507 (hx : x + 6 ≤ gL w) (hL : gL w ≤ 3072) (h : JV w m A B fp) : StepL x w (s327_507 0 473 514 x w) := by
  have H := h.1.H
  have hj := h
  obtain ⟨⟨q, hC, hB⟩, hM, hT, hW, hI⟩ := h
  have n8 : zn (oQ A) ≤ 8 := hC.1.n8
  have ht : uT (oS A) ≤ 999 := hI.1.1.2.1
  obtain ⟨x1, x2, x3, -, -, -⟩ := wr5 hx hL
  obtain ⟨w2, w5, k1, k2, H2, H5, k3, k4, k5, k6, k7, k8⟩ := opW (c := 2) (a := sSet A (gX w (x + 1)) (gX w (x + 2))) hj (AnZ.Cl hC hB (d121z (x := (gX w (x + 1))) (v := (gX w (x + 2))) hC) hsSet) (e280 H l0 l514) (cdSet (Or.inl ⟨rfl, fun _ => rfl⟩)) (GI.set hI n8) (fun w2 g1 g2 g3 => AnT.Rf g2 (t232 (x := (gX w (x + 1))) (y := (gX w (x + 2))) g1))
  refine ⟨w5, _, _, _, _, fun o ho => e327_507 H l0 l473 l514 _ ?_, k7, k8⟩
  simp only [x1, x2, nn]
  rw [gdi (by omega) (by omega), gdi (by omega) (by omega), k1, bI_r H2, k3, k4, gdi (by omega) (by omega), gdi (by omega) (by omega), k2, bI_r H5]
  exact (tailW (N := fun w8 => s327_2524 0 473 514 x w8) H5 (by decide) k5 k6).trans ho
theorem L575 (hx : x + 6 ≤ gL w) (hL : gL w ≤ 3072) (h : JV w m A B fp) : StepL x w (s327_575 0 473 514 x w) := by
  have H := h.1.H
  have hj := h
  obtain ⟨⟨q, hC, hB⟩, hM, hT, hW, hI⟩ := h
  have n8 : zn (oQ A) ≤ 8 := hC.1.n8
  have ht : uT (oS A) ≤ 999 := hI.1.1.2.1
  obtain ⟨x1, x2, x3, -, -, -⟩ := wr5 hx hL
  obtain ⟨w2, w5, k1, k2, H2, H5, k3, k4, k5, k6, k7, k8⟩ := opW (c := 2) (a := sGive A (gX w (x + 1)) (gX w (x + 2))) hj (AnZ.Cl hC hB (d122z (x := (gX w (x + 1))) (m := (gX w (x + 2))) hC) hsGive) (e281 H l0 l514) (cdGive (Or.inl ⟨rfl, fun _ => rfl⟩)) (GI.give hI n8) (fun w2 g1 g2 g3 => AnT.Rf g2 (t233 (x := (gX w (x + 1))) (m := (gX w (x + 2))) g1))
  refine ⟨w5, _, _, _, _, fun o ho => e327_575 H l0 l473 l514 _ ?_, k7, k8⟩
  simp only [x1, x2, nn]
  rw [gdi (by omega) (by omega), gdi (by omega) (by omega), k1, bI_r H2, k3, k4, gdi (by omega) (by omega), gdi (by omega) (by omega), k2, bI_r H5]
  exact (tailW (N := fun w8 => s327_2524 0 473 514 x w8) H5 (by decide) k5 k6).trans ho
theorem L788 (hx : x + 6 ≤ gL w) (hL : gL w ≤ 3072) (h : JV w m A B fp) : StepL x w (s327_788 0 473 514 x w) := by
  have H := h.1.H
  have hj := h
  obtain ⟨⟨q, hC, hB⟩, hM, hT, hW, hI⟩ := h
  have n8 : zn (oQ A) ≤ 8 := hC.1.n8
  have ht : uT (oS A) ≤ 999 := hI.1.1.2.1
  obtain ⟨x1, x2, x3, -, -, -⟩ := wr5 hx hL
  obtain ⟨w2, w5, k1, k2, H2, H5, k3, k4, k5, k6, k7, k8⟩ := opW (c := 2) (a := (aThen (oQ A) (oS A) (gX w (x + 1)) (gX w (x + 2)) (gX w (x + 3)), A)) hj (AnC.Cl ⟨q, hC, hB⟩ (c126 (x := (gX w (x + 1))) (k := (gX w (x + 2))) (wh := (gX w (x + 3))) hC.1)) (e283 H l0 l514) (Cd.P (Or.inl ⟨rfl, fun _ => rfl⟩) (Cd.W (Or.inl ⟨rfl, fun _ => rfl⟩) (Cd.B (Or.inr ⟨rfl, fun _ => rfl⟩) Cd.v))) hI (fun w2 g1 g2 g3 => AnM.Rf g1 g2 (r238 (x := (gX w (x + 1))) (k := (gX w (x + 2))) (wh := (gX w (x + 3))) g1.1 ht))
  refine ⟨w5, _, _, _, _, fun o ho => e327_788 H l0 l473 l514 _ ?_, k7, k8⟩
  simp only [x1, x2, x3, nn]
  rw [gdi (by omega) (by omega), gdi (by omega) (by omega), gdi (by omega) (by omega), k1, bI_r H2, k3, k4, gdi (by omega) (by omega), gdi (by omega) (by omega), gdi (by omega) (by omega), k2, bI_r H5]
  exact (tailW (N := fun w8 => s327_2524 0 473 514 x w8) H5 (by decide) k5 k6).trans ho
theorem L868 (hx : x + 6 ≤ gL w) (hL : gL w ≤ 3072) (h : JV w m A B fp) : StepL x w (s327_868 0 473 514 x w) := by
  have H := h.1.H
  have hj := h
  obtain ⟨⟨q, hC, hB⟩, hM, hT, hW, hI⟩ := h
  have n8 : zn (oQ A) ≤ 8 := hC.1.n8
  have ht : uT (oS A) ≤ 999 := hI.1.1.2.1
  obtain ⟨x1, x2, x3, -, -, -⟩ := wr5 hx hL
  obtain ⟨w2, w5, k1, k2, H2, H5, k3, k4, k5, k6, k7, k8⟩ := opW (c := 2) (a := (aAsked (oQ A) (oS A) (gX w (x + 1)) (gX w (x + 2)), A)) hj (AnC.Cl ⟨q, hC, hB⟩ (c127 (x := (gX w (x + 1))) (k := (gX w (x + 2))) hC.1)) (e284 H l0 l514) (Cd.P (Or.inl ⟨rfl, fun _ => rfl⟩) (Cd.B (Or.inr ⟨rfl, fun _ => rfl⟩) Cd.v)) hI (fun w2 g1 g2 g3 => AnM.Rf g1 g2 (r240 (x := (gX w (x + 1))) (k := (gX w (x + 2))) g1.1 ht))
  refine ⟨w5, _, _, _, _, fun o ho => e327_868 H l0 l473 l514 _ ?_, k7, k8⟩
  simp only [x1, x2, nn]
  rw [gdi (by omega) (by omega), gdi (by omega) (by omega), k1, bI_r H2, k3, k4, gdi (by omega) (by omega), gdi (by omega) (by omega), k2, bI_r H5]
  exact (tailW (N := fun w8 => s327_2524 0 473 514 x w8) H5 (by decide) k5 k6).trans ho
theorem L936 (hx : x + 6 ≤ gL w) (hL : gL w ≤ 3072) (h : JV w m A B fp) : StepL x w (s327_936 0 473 514 x w) := by
  have H := h.1.H
  have hj := h
  obtain ⟨⟨q, hC, hB⟩, hM, hT, hW, hI⟩ := h
  have n8 : zn (oQ A) ≤ 8 := hC.1.n8
  have ht : uT (oS A) ≤ 999 := hI.1.1.2.1
  obtain ⟨x1, x2, x3, -, -, -⟩ := wr5 hx hL
  obtain ⟨w2, w5, k1, k2, H2, H5, k3, k4, k5, k6, k7, k8⟩ := opW (c := 2) (a := (aSpent (oQ A) (oS A) (gX w (x + 1)), A)) hj (AnC.Cl ⟨q, hC, hB⟩ (c128 (x := (gX w (x + 1))) hC.1)) (e285 H l0 l514) (Cd.P (Or.inl ⟨rfl, fun _ => rfl⟩) Cd.v) hI (fun w2 g1 g2 g3 => AnM.Rf g1 g2 (r241 (x := (gX w (x + 1))) g1.1 ht))
  refine ⟨w5, _, _, _, _, fun o ho => e327_936 H l0 l473 l514 _ ?_, k7, k8⟩
  simp only [x1, nn]
  rw [gdi (by omega) (by omega), k1, bI_r H2, k3, k4, gdi (by omega) (by omega), k2, bI_r H5]
  exact (tailW (N := fun w8 => s327_2524 0 473 514 x w8) H5 (by decide) k5 k6).trans ho
theorem L992 (hx : x + 6 ≤ gL w) (hL : gL w ≤ 3072) (h : JV w m A B fp) : StepL x w (s327_992 0 473 514 x w) := by
  have H := h.1.H
  have hj := h
  obtain ⟨⟨q, hC, hB⟩, hM, hT, hW, hI⟩ := h
  have n8 : zn (oQ A) ≤ 8 := hC.1.n8
  have ht : uT (oS A) ≤ 999 := hI.1.1.2.1
  obtain ⟨x1, x2, x3, -, -, -⟩ := wr5 hx hL
  obtain ⟨w2, w5, k1, k2, H2, H5, k3, k4, k5, k6, k7, k8⟩ := opW (c := 2) (a := (aLater (oQ A) (oS A) (gX w (x + 1)) (gX w (x + 2)), A)) hj (AnC.Cl ⟨q, hC, hB⟩ (c129 (k := (gX w (x + 1))) (wh := (gX w (x + 2))) hC.1)) (e286 H l0 l514) (Cd.W (Or.inl ⟨rfl, fun _ => rfl⟩) (Cd.B (Or.inr ⟨rfl, fun _ => rfl⟩) Cd.v)) hI (fun w2 g1 g2 g3 => AnM.Rf g1 g2 (r243 (k := (gX w (x + 1))) (wh := (gX w (x + 2))) g1.1 ht))
  refine ⟨w5, _, _, _, _, fun o ho => e327_992 H l0 l473 l514 _ ?_, k7, k8⟩
  simp only [x1, x2, nn]
  rw [gdi (by omega) (by omega), gdi (by omega) (by omega), k1, bI_r H2, k3, k4, gdi (by omega) (by omega), gdi (by omega) (by omega), k2, bI_r H5]
  exact (tailW (N := fun w8 => s327_2524 0 473 514 x w8) H5 (by decide) k5 k6).trans ho
theorem L1060 (hx : x + 6 ≤ gL w) (hL : gL w ≤ 3072) (h : JV w m A B fp) : StepL x w (s327_1060 0 473 514 x w) := by
  have H := h.1.H
  have hj := h
  obtain ⟨⟨q, hC, hB⟩, hM, hT, hW, hI⟩ := h
  have n8 : zn (oQ A) ≤ 8 := hC.1.n8
  have ht : uT (oS A) ≤ 999 := hI.1.1.2.1
  obtain ⟨x1, x2, x3, -, -, -⟩ := wr5 hx hL
  obtain ⟨w2, w5, k1, k2, H2, H5, k3, k4, k5, k6, k7, k8⟩ := opW (c := 1) (a := (aBusiest (oQ A) (oS A) (gX w (x + 1)), A)) hj (AnC.Cl ⟨q, hC, hB⟩ (c130 (k := (gX w (x + 1))) hC.1)) (e287 H l0 l514) (Cd.B (Or.inr ⟨rfl, fun _ => rfl⟩) Cd.v) hI (fun w2 g1 g2 g3 => AnM.Rf g1 g2 (r244 (k := (gX w (x + 1))) g1.1 ht))
  refine ⟨w5, _, _, _, _, fun o ho => e327_1060 H l0 l473 l514 _ ?_, k7, k8⟩
  simp only [x1, nn]
  rw [gdi (by omega) (by omega), k1, bI_r H2, k3, k4, gdi (by omega) (by omega), k2, bI_r H5]
  exact (tailW (N := fun w8 => s327_2524 0 473 514 x w8) H5 (by decide) k5 k6).trans ho
theorem L1116 (hx : x + 6 ≤ gL w) (hL : gL w ≤ 3072) (h : JV w m A B fp) : StepL x w (s327_1116 0 473 514 x w) := by
  have H := h.1.H
  have hj := h
  obtain ⟨⟨q, hC, hB⟩, hM, hT, hW, hI⟩ := h
  have n8 : zn (oQ A) ≤ 8 := hC.1.n8
  have ht : uT (oS A) ≤ 999 := hI.1.1.2.1
  obtain ⟨x1, x2, x3, -, -, -⟩ := wr5 hx hL
  obtain ⟨w2, w5, k1, k2, H2, H5, k3, k4, k5, k6, k7, k8⟩ := opW (c := 2) (a := (aRobbed (oQ A) (oS A) (gX w (x + 1)) (gX w (x + 2)) (gX w (x + 3)), A)) hj (AnC.Cl ⟨q, hC, hB⟩ (c131 (x := (gX w (x + 1))) (o := (gX w (x + 2))) (k := (gX w (x + 3))) hC.1)) (e288 H l0 l514) (Cd.P (Or.inl ⟨rfl, fun _ => rfl⟩) (Cd.P (Or.inl ⟨rfl, fun _ => rfl⟩) (Cd.B (Or.inr ⟨rfl, fun _ => rfl⟩) Cd.v))) hI (fun w2 g1 g2 g3 => AnM.Rf g1 g2 (r245 (x := (gX w (x + 1))) (o := (gX w (x + 2))) (k := (gX w (x + 3))) g1.1 ht))
  refine ⟨w5, _, _, _, _, fun o ho => e327_1116 H l0 l473 l514 _ ?_, k7, k8⟩
  simp only [x1, x2, x3, nn]
  rw [gdi (by omega) (by omega), gdi (by omega) (by omega), gdi (by omega) (by omega), k1, bI_r H2, k3, k4, gdi (by omega) (by omega), gdi (by omega) (by omega), gdi (by omega) (by omega), k2, bI_r H5]
  exact (tailW (N := fun w8 => s327_2524 0 473 514 x w8) H5 (by decide) k5 k6).trans ho
theorem L1196 (hx : x + 6 ≤ gL w) (hL : gL w ≤ 3072) (h : JV w m A B fp) : StepL x w (s327_1196 0 473 514 x w) := by
  have H := h.1.H
  have hj := h
  obtain ⟨⟨q, hC, hB⟩, hM, hT, hW, hI⟩ := h
  have n8 : zn (oQ A) ≤ 8 := hC.1.n8
  have ht : uT (oS A) ≤ 999 := hI.1.1.2.1
  obtain ⟨x1, x2, x3, -, -, -⟩ := wr5 hx hL
  obtain ⟨w2, w5, k1, k2, H2, H5, k3, k4, k5, k6, k7, k8⟩ := opW (c := 2) (a := (aMeet (oQ A) (oS A) (gX w (x + 1)) (gX w (x + 2)), A)) hj (AnC.Cl ⟨q, hC, hB⟩ (c136 (x := (gX w (x + 1))) (o := (gX w (x + 2))) hC.1)) (e289 H l0 l514) (Cd.P (Or.inl ⟨rfl, fun _ => rfl⟩) (Cd.P (Or.inl ⟨rfl, fun _ => rfl⟩) Cd.v)) hI (fun w2 g1 g2 g3 => AnM.Rf g1 g2 (r247 (x := (gX w (x + 1))) (o := (gX w (x + 2))) g1.1))
  refine ⟨w5, _, _, _, _, fun o ho => e327_1196 H l0 l473 l514 _ ?_, k7, k8⟩
  simp only [x1, x2, nn]
  rw [gdi (by omega) (by omega), gdi (by omega) (by omega), k1, bI_r H2, k3, k4, gdi (by omega) (by omega), gdi (by omega) (by omega), k2, bI_r H5]
  exact (tailW (N := fun w8 => s327_2524 0 473 514 x w8) H5 (by decide) k5 k6).trans ho
theorem L1264 (hx : x + 6 ≤ gL w) (hL : gL w ≤ 3072) (h : JV w m A B fp) : StepL x w (s327_1264 0 473 514 x w) := by
  have H := h.1.H
  have hj := h
  obtain ⟨⟨q, hC, hB⟩, hM, hT, hW, hI⟩ := h
  have n8 : zn (oQ A) ≤ 8 := hC.1.n8
  have ht : uT (oS A) ≤ 999 := hI.1.1.2.1
  obtain ⟨x1, x2, x3, -, -, -⟩ := wr5 hx hL
  obtain ⟨w2, w5, k1, k2, H2, H5, k3, k4, k5, k6, k7, k8⟩ := opW (c := 2) (a := (aOften (oQ A) (oS A) (gX w (x + 1)) (gX w (x + 2)) (gX w (x + 3)), A)) hj (AnC.Cl ⟨q, hC, hB⟩ (c137 (x := (gX w (x + 1))) (o := (gX w (x + 2))) (k := (gX w (x + 3))) hC.1)) (e290 H l0 l514) (Cd.P (Or.inl ⟨rfl, fun _ => rfl⟩) (Cd.P (Or.inl ⟨rfl, fun _ => rfl⟩) (Cd.B (Or.inr ⟨rfl, fun _ => rfl⟩) Cd.v))) hI (fun w2 g1 g2 g3 => AnM.Rf g1 g2 (r248 (x := (gX w (x + 1))) (o := (gX w (x + 2))) (k := (gX w (x + 3))) g1.1))
  refine ⟨w5, _, _, _, _, fun o ho => e327_1264 H l0 l473 l514 _ ?_, k7, k8⟩
  simp only [x1, x2, x3, nn]
  rw [gdi (by omega) (by omega), gdi (by omega) (by omega), gdi (by omega) (by omega), k1, bI_r H2, k3, k4, gdi (by omega) (by omega), gdi (by omega) (by omega), gdi (by omega) (by omega), k2, bI_r H5]
  exact (tailW (N := fun w8 => s327_2524 0 473 514 x w8) H5 (by decide) k5 k6).trans ho
theorem L1344 (hx : x + 6 ≤ gL w) (hL : gL w ≤ 3072) (h : JV w m A B fp) : StepL x w (s327_1344 0 473 514 x w) := by
  have H := h.1.H
  have hj := h
  obtain ⟨⟨q, hC, hB⟩, hM, hT, hW, hI⟩ := h
  have n8 : zn (oQ A) ≤ 8 := hC.1.n8
  have ht : uT (oS A) ≤ 999 := hI.1.1.2.1
  obtain ⟨x1, x2, x3, -, -, -⟩ := wr5 hx hL
  obtain ⟨w2, w5, k1, k2, H2, H5, k3, k4, k5, k6, k7, k8⟩ := opW (c := 1) (a := (aCrowd (oQ A) (oS A) (gX w (x + 1)), A)) hj (AnC.Cl ⟨q, hC, hB⟩ (c140 (k := (gX w (x + 1))) hC.1)) (e291 H l0 l514) (Cd.B (Or.inr ⟨rfl, fun _ => rfl⟩) Cd.v) hI (fun w2 g1 g2 g3 => AnM.Rf g1 g2 (r249 (k := (gX w (x + 1))) g1.1))
  refine ⟨w5, _, _, _, _, fun o ho => e327_1344 H l0 l473 l514 _ ?_, k7, k8⟩
  simp only [x1, nn]
  rw [gdi (by omega) (by omega), k1, bI_r H2, k3, k4, gdi (by omega) (by omega), k2, bI_r H5]
  exact (tailW (N := fun w8 => s327_2524 0 473 514 x w8) H5 (by decide) k5 k6).trans ho
theorem L1400 (hx : x + 6 ≤ gL w) (hL : gL w ≤ 3072) (h : JV w m A B fp) : StepL x w (s327_1400 0 473 514 x w) := by
  have H := h.1.H
  have hj := h
  obtain ⟨⟨q, hC, hB⟩, hM, hT, hW, hI⟩ := h
  have n8 : zn (oQ A) ≤ 8 := hC.1.n8
  have ht : uT (oS A) ≤ 999 := hI.1.1.2.1
  obtain ⟨x1, x2, x3, -, -, -⟩ := wr5 hx hL
  obtain ⟨w2, w5, k1, k2, H2, H5, k3, k4, k5, k6, k7, k8⟩ := opW (c := 2) (a := (aWhere (oQ A) (oS A) (gX w (x + 1)) (gX w (x + 2)), A)) hj (AnC.Cl ⟨q, hC, hB⟩ (c141 (x := (gX w (x + 1))) (k := (gX w (x + 2))) hC.1)) (e292 H l0 l514) (Cd.P (Or.inl ⟨rfl, fun _ => rfl⟩) (Cd.B (Or.inr ⟨rfl, fun _ => rfl⟩) Cd.v)) hI (fun w2 g1 g2 g3 => AnM.Rf g1 g2 (r250 (x := (gX w (x + 1))) (k := (gX w (x + 2))) g1.1))
  refine ⟨w5, _, _, _, _, fun o ho => e327_1400 H l0 l473 l514 _ ?_, k7, k8⟩
  simp only [x1, x2, nn]
  rw [gdi (by omega) (by omega), gdi (by omega) (by omega), k1, bI_r H2, k3, k4, gdi (by omega) (by omega), gdi (by omega) (by omega), k2, bI_r H5]
  exact (tailW (N := fun w8 => s327_2524 0 473 514 x w8) H5 (by decide) k5 k6).trans ho
theorem L1468 (hx : x + 6 ≤ gL w) (hL : gL w ≤ 3072) (h : JV w m A B fp) : StepL x w (s327_1468 0 473 514 x w) := by
  have H := h.1.H
  have hj := h
  obtain ⟨⟨q, hC, hB⟩, hM, hT, hW, hI⟩ := h
  have n8 : zn (oQ A) ≤ 8 := hC.1.n8
  have ht : uT (oS A) ≤ 999 := hI.1.1.2.1
  obtain ⟨x1, x2, x3, -, -, -⟩ := wr5 hx hL
  obtain ⟨w2, w5, k1, k2, H2, H5, k3, k4, k5, k6, k7, k8⟩ := opW (c := 1) (a := (aWatch (oQ A) (oS A) (gX w (x + 1)), A)) hj (AnC.Cl ⟨q, hC, hB⟩ (c142 (k := (gX w (x + 1))) hC.1)) (e293 H l0 l514) (Cd.B (Or.inr ⟨rfl, fun _ => rfl⟩) Cd.v) hI (fun w2 g1 g2 g3 => AnM.Rf g1 g2 (r251 (k := (gX w (x + 1))) g1.1))
  refine ⟨w5, _, _, _, _, fun o ho => e327_1468 H l0 l473 l514 _ ?_, k7, k8⟩
  simp only [x1, nn]
  rw [gdi (by omega) (by omega), k1, bI_r H2, k3, k4, gdi (by omega) (by omega), k2, bI_r H5]
  exact (tailW (N := fun w8 => s327_2524 0 473 514 x w8) H5 (by decide) k5 k6).trans ho
theorem L1524 (hx : x + 6 ≤ gL w) (hL : gL w ≤ 3072) (h : JV w m A B fp) : StepL x w (s327_1524 0 473 514 x w) := by
  have H := h.1.H
  have hj := h
  obtain ⟨⟨q, hC, hB⟩, hM, hT, hW, hI⟩ := h
  have n8 : zn (oQ A) ≤ 8 := hC.1.n8
  have ht : uT (oS A) ≤ 999 := hI.1.1.2.1
  obtain ⟨x1, x2, x3, -, -, -⟩ := wr5 hx hL
  obtain ⟨w2, w5, k1, k2, H2, H5, k3, k4, k5, k6, k7, k8⟩ := opW (c := 2) (a := (aToSet (oQ A) (oS A) (gX w (x + 1)) (gX w (x + 2)) (gX w (x + 3)), A)) hj (AnC.Cl ⟨q, hC, hB⟩ (c144 (x := (gX w (x + 1))) (k := (gX w (x + 2))) (wh := (gX w (x + 3))) hC.1)) (e294 H l0 l514) (Cd.P (Or.inl ⟨rfl, fun _ => rfl⟩) (Cd.W (Or.inl ⟨rfl, fun _ => rfl⟩) (Cd.B (Or.inr ⟨rfl, fun _ => rfl⟩) Cd.v))) hI (fun w2 g1 g2 g3 => AnM.Rf g1 g2 (r254 (x := (gX w (x + 1))) (k := (gX w (x + 2))) (wh := (gX w (x + 3))) g1.1 ht))
  refine ⟨w5, _, _, _, _, fun o ho => e327_1524 H l0 l473 l514 _ ?_, k7, k8⟩
  simp only [x1, x2, x3, nn]
  rw [gdi (by omega) (by omega), gdi (by omega) (by omega), gdi (by omega) (by omega), k1, bI_r H2, k3, k4, gdi (by omega) (by omega), gdi (by omega) (by omega), gdi (by omega) (by omega), k2, bI_r H5]
  exact (tailW (N := fun w8 => s327_2524 0 473 514 x w8) H5 (by decide) k5 k6).trans ho
theorem L1604 (hx : x + 6 ≤ gL w) (hL : gL w ≤ 3072) (h : JV w m A B fp) : StepL x w (s327_1604 0 473 514 x w) := by
  have H := h.1.H
  have hj := h
  obtain ⟨⟨q, hC, hB⟩, hM, hT, hW, hI⟩ := h
  have n8 : zn (oQ A) ≤ 8 := hC.1.n8
  have ht : uT (oS A) ≤ 999 := hI.1.1.2.1
  obtain ⟨x1, x2, x3, -, -, -⟩ := wr5 hx hL
  obtain ⟨w2, w5, k1, k2, H2, H5, k3, k4, k5, k6, k7, k8⟩ := opW (c := 2) (a := (aToStay (oQ A) (oS A) (gX w (x + 1)) (gX w (x + 2)), A)) hj (AnC.Cl ⟨q, hC, hB⟩ (c145 (x := (gX w (x + 1))) (k := (gX w (x + 2))) hC.1)) (e295 H l0 l514) (Cd.P (Or.inl ⟨rfl, fun _ => rfl⟩) (Cd.B (Or.inr ⟨rfl, fun _ => rfl⟩) Cd.v)) hI (fun w2 g1 g2 g3 => AnM.Rf g1 g2 (r255 (x := (gX w (x + 1))) (k := (gX w (x + 2))) g1.1 ht))
  refine ⟨w5, _, _, _, _, fun o ho => e327_1604 H l0 l473 l514 _ ?_, k7, k8⟩
  simp only [x1, x2, nn]
  rw [gdi (by omega) (by omega), gdi (by omega) (by omega), k1, bI_r H2, k3, k4, gdi (by omega) (by omega), gdi (by omega) (by omega), k2, bI_r H5]
  exact (tailW (N := fun w8 => s327_2524 0 473 514 x w8) H5 (by decide) k5 k6).trans ho
theorem L1672 (hx : x + 6 ≤ gL w) (hL : gL w ≤ 3072) (h : JV w m A B fp) : StepL x w (s327_1672 0 473 514 x w) := by
  have H := h.1.H
  have hj := h
  obtain ⟨⟨q, hC, hB⟩, hM, hT, hW, hI⟩ := h
  have n8 : zn (oQ A) ≤ 8 := hC.1.n8
  have ht : uT (oS A) ≤ 999 := hI.1.1.2.1
  obtain ⟨x1, x2, x3, -, -, -⟩ := wr5 hx hL
  obtain ⟨w2, w5, k1, k2, H2, H5, k3, k4, k5, k6, k7, k8⟩ := opW (c := 2) (a := (aToLast (oQ A) (oS A) (gX w (x + 1)) (gX w (x + 2)), A)) hj (AnC.Cl ⟨q, hC, hB⟩ (c146 (x := (gX w (x + 1))) (k := (gX w (x + 2))) hC.1)) (e296 H l0 l514) (Cd.P (Or.inl ⟨rfl, fun _ => rfl⟩) (Cd.B (Or.inr ⟨rfl, fun _ => rfl⟩) Cd.v)) hI (fun w2 g1 g2 g3 => AnM.Rf g1 g2 (r256 (x := (gX w (x + 1))) (k := (gX w (x + 2))) g1.1 ht))
  refine ⟨w5, _, _, _, _, fun o ho => e327_1672 H l0 l473 l514 _ ?_, k7, k8⟩
  simp only [x1, x2, nn]
  rw [gdi (by omega) (by omega), gdi (by omega) (by omega), k1, bI_r H2, k3, k4, gdi (by omega) (by omega), gdi (by omega) (by omega), k2, bI_r H5]
  exact (tailW (N := fun w8 => s327_2524 0 473 514 x w8) H5 (by decide) k5 k6).trans ho
theorem L1740 (hx : x + 6 ≤ gL w) (hL : gL w ≤ 3072) (h : JV w m A B fp) : StepL x w (s327_1740 0 473 514 x w) := by
  have H := h.1.H
  have hj := h
  obtain ⟨⟨q, hC, hB⟩, hM, hT, hW, hI⟩ := h
  have n8 : zn (oQ A) ≤ 8 := hC.1.n8
  have ht : uT (oS A) ≤ 999 := hI.1.1.2.1
  obtain ⟨x1, x2, x3, -, -, -⟩ := wr5 hx hL
  obtain ⟨w2, w5, k1, k2, H2, H5, k3, k4, k5, k6, k7, k8⟩ := opW (c := 2) (a := (aPairs (oQ A) (oS A) (gX w (x + 1)), A)) hj (AnC.Cl ⟨q, hC, hB⟩ (c148 (wh := (gX w (x + 1))) hC.1)) (e297 H l0 l514) (Cd.W (Or.inl ⟨rfl, fun _ => rfl⟩) Cd.v) hI (fun w2 g1 g2 g3 => AnM.Rf g1 g2 (r259 (x := (gX w (x + 1))) g1.1))
  refine ⟨w5, _, _, _, _, fun o ho => e327_1740 H l0 l473 l514 _ ?_, k7, k8⟩
  simp only [x1, nn]
  rw [gdi (by omega) (by omega), k1, bI_r H2, k3, k4, gdi (by omega) (by omega), k2, bI_r H5]
  exact (tailW (N := fun w8 => s327_2524 0 473 514 x w8) H5 (by decide) k5 k6).trans ho
theorem L1796 (hx : x + 6 ≤ gL w) (hL : gL w ≤ 3072) (h : JV w m A B fp) : StepL x w (s327_1796 0 473 514 x w) := by
  have H := h.1.H
  have hj := h
  obtain ⟨⟨q, hC, hB⟩, hM, hT, hW, hI⟩ := h
  have n8 : zn (oQ A) ≤ 8 := hC.1.n8
  have ht : uT (oS A) ≤ 999 := hI.1.1.2.1
  obtain ⟨x1, x2, x3, -, -, -⟩ := wr5 hx hL
  obtain ⟨w2, w5, k1, k2, H2, H5, k3, k4, k5, k6, k7, k8⟩ := opW (c := 2) (a := (aPair (oQ A) (oS A) (gX w (x + 1)), A)) hj (AnC.Cl ⟨q, hC, hB⟩ (c149 (x := (gX w (x + 1))) hC.1)) (e298 H l0 l514) (Cd.P (Or.inl ⟨rfl, fun _ => rfl⟩) Cd.v) hI (fun w2 g1 g2 g3 => AnM.Rf g1 g2 (r260 (x := (gX w (x + 1))) g1.1))
  refine ⟨w5, _, _, _, _, fun o ho => e327_1796 H l0 l473 l514 _ ?_, k7, k8⟩
  simp only [x1, nn]
  rw [gdi (by omega) (by omega), k1, bI_r H2, k3, k4, gdi (by omega) (by omega), k2, bI_r H5]
  exact (tailW (N := fun w8 => s327_2524 0 473 514 x w8) H5 (by decide) k5 k6).trans ho
theorem L1852 (hx : x + 6 ≤ gL w) (hL : gL w ≤ 3072) (h : JV w m A B fp) : StepL x w (s327_1852 0 473 514 x w) := by
  have H := h.1.H
  have hj := h
  obtain ⟨⟨q, hC, hB⟩, hM, hT, hW, hI⟩ := h
  have n8 : zn (oQ A) ≤ 8 := hC.1.n8
  have ht : uT (oS A) ≤ 999 := hI.1.1.2.1
  obtain ⟨x1, x2, x3, -, -, -⟩ := wr5 hx hL
  obtain ⟨w2, w5, k1, k2, H2, H5, k3, k4, k5, k6, k7, k8⟩ := opW (c := 2) (a := (aGained (oQ A) (oS A) (gX w (x + 1)) (gX w (x + 2)), A)) hj (AnC.Cl ⟨q, hC, hB⟩ (c132 (x := (gX w (x + 1))) (k := (gX w (x + 2))) hC.1)) (e299 H l0 l514) (Cd.P (Or.inl ⟨rfl, fun _ => rfl⟩) (Cd.B (Or.inr ⟨rfl, fun _ => rfl⟩) Cd.v)) hI (fun w2 g1 g2 g3 => AnM.Rf g1 g2 (r239 (x := (gX w (x + 1))) (k := (gX w (x + 2))) g1.1 ht))
  refine ⟨w5, _, _, _, _, fun o ho => e327_1852 H l0 l473 l514 _ ?_, k7, k8⟩
  simp only [x1, x2, nn]
  rw [gdi (by omega) (by omega), gdi (by omega) (by omega), k1, bI_r H2, k3, k4, gdi (by omega) (by omega), gdi (by omega) (by omega), k2, bI_r H5]
  exact (tailW (N := fun w8 => s327_2524 0 473 514 x w8) H5 (by decide) k5 k6).trans ho
theorem L1920 (hx : x + 6 ≤ gL w) (hL : gL w ≤ 3072) (h : JV w m A B fp) : StepL x w (s327_1920 0 473 514 x w) := by
  have H := h.1.H
  have hj := h
  obtain ⟨⟨q, hC, hB⟩, hM, hT, hW, hI⟩ := h
  have n8 : zn (oQ A) ≤ 8 := hC.1.n8
  have ht : uT (oS A) ≤ 999 := hI.1.1.2.1
  obtain ⟨x1, x2, x3, -, -, -⟩ := wr5 hx hL
  obtain ⟨w2, w5, k1, k2, H2, H5, k3, k4, k5, k6, k7, k8⟩ := opW (c := 2) (a := (aShows (oQ A) (oS A) (gX w (x + 1)) (gX w (x + 2)), A)) hj (AnC.Cl ⟨q, hC, hB⟩ (c133 (x := (gX w (x + 1))) (k := (gX w (x + 2))) hC.1)) (e300 H l0 l514) (Cd.P (Or.inl ⟨rfl, fun _ => rfl⟩) (Cd.B (Or.inr ⟨rfl, fun _ => rfl⟩) Cd.v)) hI (fun w2 g1 g2 g3 => AnM.Rf g1 g2 (r252 (x := (gX w (x + 1))) (k := (gX w (x + 2))) g1.1))
  refine ⟨w5, _, _, _, _, fun o ho => e327_1920 H l0 l473 l514 _ ?_, k7, k8⟩
  simp only [x1, x2, nn]
  rw [gdi (by omega) (by omega), gdi (by omega) (by omega), k1, bI_r H2, k3, k4, gdi (by omega) (by omega), gdi (by omega) (by omega), k2, bI_r H5]
  exact (tailW (N := fun w8 => s327_2524 0 473 514 x w8) H5 (by decide) k5 k6).trans ho
theorem L2001 (hx : x + 6 ≤ gL w) (hL : gL w ≤ 3072) (h : JV w m A B fp) : StepL x w (s327_2001 0 473 514 x w) := by
  have H := h.1.H
  have hj := h
  obtain ⟨⟨q, hC, hB⟩, hM, hT, hW, hI⟩ := h
  have n8 : zn (oQ A) ≤ 8 := hC.1.n8
  have ht : uT (oS A) ≤ 999 := hI.1.1.2.1
  obtain ⟨x1, x2, x3, -, -, -⟩ := wr5 hx hL
  obtain ⟨w2, w5, k1, k2, H2, H5, k3, k4, k5, k6, k7, k8⟩ := opW (c := 1) (a := (aSilent (oQ A) (oS A) (gX w (x + 1)), A)) hj (AnC.Cl ⟨q, hC, hB⟩ (c135 (k := (gX w (x + 1))) hC.1)) (e301 H l0 l514) (Cd.B (Or.inr ⟨rfl, fun _ => rfl⟩) Cd.v) hI (fun w2 g1 g2 g3 => AnM.Rf g1 g2 (r246 (k := (gX w (x + 1))) g1.1 ht))
  refine ⟨w5, _, _, _, _, fun o ho => e327_2001 H l0 l473 l514 _ ?_, k7, k8⟩
  simp only [x1, nn]
  rw [gdi (by omega) (by omega), k1, bI_r H2, k3, k4, gdi (by omega) (by omega), k2, bI_r H5]
  exact (tailW (N := fun w8 => s327_2524 0 473 514 x w8) H5 (by decide) k5 k6).trans ho
theorem L2057 (hx : x + 6 ≤ gL w) (hL : gL w ≤ 3072) (h : JV w m A B fp) : StepL x w (s327_2057 0 473 514 x w) := by
  have H := h.1.H
  have hj := h
  obtain ⟨⟨q, hC, hB⟩, hM, hT, hW, hI⟩ := h
  have n8 : zn (oQ A) ≤ 8 := hC.1.n8
  have ht : uT (oS A) ≤ 999 := hI.1.1.2.1
  obtain ⟨x1, x2, x3, -, -, -⟩ := wr5 hx hL
  obtain ⟨w2, w5, k1, k2, H2, H5, k3, k4, k5, k6, k7, k8⟩ := opW (c := 2) (a := sSee A (gX w (x + 1)) (gX w (x + 2)) (gX w (x + 3))) hj (AnZ.Cl hC hB (d150z (x := (gX w (x + 1))) (n := (gX w (x + 2))) (m := (gX w (x + 3))) hC hI.1) hsSee) (e302 H l0 l514) (cdSee (Or.inl ⟨rfl, fun _ => rfl⟩)) (GI.see hI) (fun w2 g1 g2 g3 => AnT.Rf g2 (t261 (x := (gX w (x + 1))) (n := (gX w (x + 2))) (m := (gX w (x + 3))) g1 hI.1))
  refine ⟨w5, _, _, _, _, fun o ho => e327_2057 H l0 l473 l514 _ ?_, k7, k8⟩
  simp only [x1, x2, x3, nn]
  rw [gdi (by omega) (by omega), gdi (by omega) (by omega), gdi (by omega) (by omega), k1, bI_r H2, k3, k4, gdi (by omega) (by omega), gdi (by omega) (by omega), gdi (by omega) (by omega), k2, bI_r H5]
  exact (tailW (N := fun w8 => s327_2524 0 473 514 x w8) H5 (by decide) k5 k6).trans ho
theorem L2137 (hx : x + 6 ≤ gL w) (hL : gL w ≤ 3072) (h : JV w m A B fp) : StepL x w (s327_2137 0 473 514 x w) := by
  have H := h.1.H
  have hj := h
  obtain ⟨⟨q, hC, hB⟩, hM, hT, hW, hI⟩ := h
  have n8 : zn (oQ A) ≤ 8 := hC.1.n8
  have ht : uT (oS A) ≤ 999 := hI.1.1.2.1
  obtain ⟨x1, x2, x3, -, -, -⟩ := wr5 hx hL
  obtain ⟨w2, w5, k1, k2, H2, H5, k3, k4, k5, k6, k7, k8⟩ := opW (c := 2) (a := (aFast (oQ A) (oS A) (oN A) (gX w (x + 1)), A)) hj (AnC.Cl ⟨q, hC, hB⟩ (c151 (wh := (gX w (x + 1))) hC.1 hC.2.2.1 hI.1.2.2.1)) (e303 H l0 l514) (Cd.W (Or.inl ⟨rfl, fun _ => rfl⟩) Cd.v) hI (fun w2 g1 g2 g3 => AnM.Rf g1 g2 (r264 (wh := (gX w (x + 1))) g1.1 g1.2.2.1 hI.1.2.2.1 ht))
  refine ⟨w5, _, _, _, _, fun o ho => e327_2137 H l0 l473 l514 _ ?_, k7, k8⟩
  simp only [x1, nn]
  rw [gdi (by omega) (by omega), k1, bI_r H2, k3, k4, gdi (by omega) (by omega), k2, bI_r H5]
  exact (tailW (N := fun w8 => s327_2524 0 473 514 x w8) H5 (by decide) k5 k6).trans ho
theorem L2193 (hx : x + 6 ≤ gL w) (hL : gL w ≤ 3072) (h : JV w m A B fp) : StepL x w (s327_2193 0 473 514 x w) := by
  have H := h.1.H
  have hj := h
  obtain ⟨⟨q, hC, hB⟩, hM, hT, hW, hI⟩ := h
  have n8 : zn (oQ A) ≤ 8 := hC.1.n8
  have ht : uT (oS A) ≤ 999 := hI.1.1.2.1
  obtain ⟨x1, x2, x3, -, -, -⟩ := wr5 hx hL
  obtain ⟨w2, w5, k1, k2, H2, H5, k3, k4, k5, k6, k7, k8⟩ := opW (c := 2) (a := (aLook (oQ A) (oS A) (oN A) (gX w (x + 1)), A)) hj (AnC.Cl ⟨q, hC, hB⟩ (c153 (wh := (gX w (x + 1))) hC.1 hC.2.2.1 hI.1.2.2.1)) (e304 H l0 l514) (Cd.W (Or.inl ⟨rfl, fun _ => rfl⟩) Cd.v) hI (fun w2 g1 g2 g3 => AnM.Rf g1 g2 (r266 (wh := (gX w (x + 1))) g1.1 g1.2.2.1 hI.1.2.2.1 ht))
  refine ⟨w5, _, _, _, _, fun o ho => e327_2193 H l0 l473 l514 _ ?_, k7, k8⟩
  simp only [x1, nn]
  rw [gdi (by omega) (by omega), k1, bI_r H2, k3, k4, gdi (by omega) (by omega), k2, bI_r H5]
  exact (tailW (N := fun w8 => s327_2524 0 473 514 x w8) H5 (by decide) k5 k6).trans ho
theorem L2260 (hx : x + 6 ≤ gL w) (hL : gL w ≤ 3072) (h : JV w m A B fp) : StepL x w (s327_2260 0 473 514 x w) := by
  have H := h.1.H
  have hj := h
  obtain ⟨⟨q, hC, hB⟩, hM, hT, hW, hI⟩ := h
  have n8 : zn (oQ A) ≤ 8 := hC.1.n8
  have ht : uT (oS A) ≤ 999 := hI.1.1.2.1
  obtain ⟨x1, x2, x3, -, -, -⟩ := wr5 hx hL
  obtain ⟨w2, w5, k1, k2, H2, H5, k3, k4, k5, k6, k7, k8⟩ := opW (c := 2) (a := (aFog (oQ A) (oS A) (gX w (x + 1)) (gX w (x + 2)) (gX w (x + 3)), A)) hj (AnC.Cl ⟨q, hC, hB⟩ (c155 (x := (gX w (x + 1))) (k := (gX w (x + 2))) (t := (gX w (x + 3))) hC.1)) (e305 H l0 l514) (Cd.P (Or.inl ⟨rfl, fun _ => rfl⟩) (Cd.B (Or.inr ⟨rfl, fun _ => rfl⟩) (Cd.B (Or.inr ⟨rfl, fun _ => rfl⟩) Cd.v))) hI (fun w2 g1 g2 g3 => AnM.Rf g1 g2 (r268 (x := (gX w (x + 1))) (k := (gX w (x + 2))) (t := (gX w (x + 3))) g1.1 ht))
  refine ⟨w5, _, _, _, _, fun o ho => e327_2260 H l0 l473 l514 _ ?_, k7, k8⟩
  simp only [x1, x2, x3, nn]
  rw [gdi (by omega) (by omega), gdi (by omega) (by omega), gdi (by omega) (by omega), k1, bI_r H2, k3, k4, gdi (by omega) (by omega), gdi (by omega) (by omega), gdi (by omega) (by omega), k2, bI_r H5]
  exact (tailW (N := fun w8 => s327_2524 0 473 514 x w8) H5 (by decide) k5 k6).trans ho
theorem L2340 (hx : x + 6 ≤ gL w) (hL : gL w ≤ 3072) (h : JV w m A B fp) : StepL x w (s327_2340 0 473 514 x w) := by
  have H := h.1.H
  have hj := h
  obtain ⟨⟨q, hC, hB⟩, hM, hT, hW, hI⟩ := h
  have n8 : zn (oQ A) ≤ 8 := hC.1.n8
  have ht : uT (oS A) ≤ 999 := hI.1.1.2.1
  obtain ⟨x1, x2, x3, -, -, -⟩ := wr5 hx hL
  obtain ⟨w2, w5, k1, k2, H2, H5, k3, k4, k5, k6, k7, k8⟩ := opW (c := 2) (a := (aGame (oQ A) (oS A) (gX w (x + 1)) (gX w (x + 2)) (gX w (x + 3)), A)) hj (AnC.Cl ⟨q, hC, hB⟩ (c156 (x := (gX w (x + 1))) (o := (gX w (x + 2))) (wh := (gX w (x + 3))) hC.1)) (e306 H l0 l514) (Cd.P (Or.inl ⟨rfl, fun _ => rfl⟩) (Cd.P (Or.inl ⟨rfl, fun _ => rfl⟩) (Cd.W (Or.inl ⟨rfl, fun _ => rfl⟩) (cdI (Or.inr ⟨rfl, fun _ => rfl⟩))))) hI (fun w2 g1 g2 g3 => AnM.Rf g1 g2 (r270 (x := (gX w (x + 1))) (o := (gX w (x + 2))) (wh := (gX w (x + 3))) g1.1 ht))
  refine ⟨w5, _, _, _, _, fun o ho => e327_2340 H l0 l473 l514 _ ?_, k7, k8⟩
  simp only [x1, x2, x3, nn]
  rw [gdi (by omega) (by omega), gdi (by omega) (by omega), gdi (by omega) (by omega), k1, bI_r H2, k3, k4, gdi (by omega) (by omega), gdi (by omega) (by omega), gdi (by omega) (by omega), k2, bI_r H5]
  exact (tailW (N := fun w8 => s327_2524 0 473 514 x w8) H5 (by decide) k5 k6).trans ho
theorem L2420 (hx : x + 6 ≤ gL w) (hL : gL w ≤ 3072) (h : JV w m A B fp) : StepL x w (s327_2420 0 473 514 x w) := by
  have H := h.1.H
  have hj := h
  obtain ⟨⟨q, hC, hB⟩, hM, hT, hW, hI⟩ := h
  have n8 : zn (oQ A) ≤ 8 := hC.1.n8
  have ht : uT (oS A) ≤ 999 := hI.1.1.2.1
  obtain ⟨x1, x2, x3, -, -, -⟩ := wr5 hx hL
  obtain ⟨w2, w5, k1, k2, H2, H5, k3, k4, k5, k6, k7, k8⟩ := opW (c := 2) (a := (aYears (oQ A) (oS A) (gX w (x + 1)) (gX w (x + 2)) (gX w (x + 3)), A)) hj (AnC.Cl ⟨q, hC, hB⟩ (c160 (sd := (gX w (x + 1))) (k := (gX w (x + 2))) (wh := (gX w (x + 3))) hC.1)) (e307 H l0 l514) (Cd.W (Or.inl ⟨rfl, fun _ => rfl⟩) (Cd.B (Or.inr ⟨rfl, fun _ => rfl⟩) Cd.v)) hI (fun w2 g1 g2 g3 => AnM.Rf g1 g2 (r273 (sd := (gX w (x + 1))) (k := (gX w (x + 2))) (wh := (gX w (x + 3))) g1.1 ht))
  refine ⟨w5, _, _, _, _, fun o ho => e327_2420 H l0 l473 l514 _ ?_, k7, k8⟩
  simp only [x1, x2, x3, nn]
  rw [gdi (by omega) (by omega), gdi (by omega) (by omega), gdi (by omega) (by omega), k1, bI_r H2, k3, k4, gdi (by omega) (by omega), gdi (by omega) (by omega), gdi (by omega) (by omega), k2, bI_r H5]
  exact (tailW (N := fun w8 => s327_2524 0 473 514 x w8) H5 (by decide) k5 k6).trans ho
end OPS
