/-! the law's other calls -/
theorem d112z {w : Wd} {q m : Nat} {A : AC} {B : Row} {fp a b c d e : Int} (h : RC w q A) (hT : RT w m B fp) (hm : m ≤ 700) : ∃ w', F112 0 a b c d e w = rI (fdA m) w' ∧ RC w' q A ∧ RT w' (fdm m) (fdR B m a b c d e) fp ∧ FrK w w' ∧ FrB w w' := by
  have H := h.1.H
  unfold fdA fdm fdR
  by_cases z : m + 20 ≤ 700
  · rw [if_pos z, if_pos z, if_pos z]
    obtain ⟨w1, k1, k2, k3, k4, k5, k6⟩ := q113 (x := a) H hT.1 (by omega)
    have H1 := k5.LR H
    obtain ⟨w2, l1, l2, l3, l4, l5, l6⟩ := q113 (x := b) H1 k2 (by omega)
    have H2 := l5.LR H1
    obtain ⟨w3, m1, m2, m3, m4, m5, m6⟩ := q113 (x := c) H2 l2 (by omega)
    have H3 := m5.LR H2
    obtain ⟨w4, n1, n2, n3, n4, n5, n6⟩ := q113 (x := d) H3 m2 (by omega)
    have H4 := n5.LR H3
    obtain ⟨w5, o1, o2, o3, o4, o5, o6⟩ := q113 (x := e) H4 n2 (by omega)
    have H5 := o5.LR H4
    have f := (((k5.tr l5).tr m5).tr n5).tr o5
    refine ⟨w5, e112 H l0 _ ?_, h.gt (fun b b1 b2 => f.g (by omega)) f.R, ⟨?_, ?_, fun i hi => ?_⟩, f.K (fun x hx => by omega), f.B (fun x hx => by omega)⟩
    · rw [hT.1, wrd (by omega) (by omega), if_pos (by omega), k1, b0_r H1, l1, b0_r H2, m1, b0_r H3, n1, b0_r H4, o1, b0_r H5, o2]
    · exact o2
    · rw [o6 2 (by decide), n6 2 (by decide), m6 2 (by decide), l6 2 (by decide), k6 2 (by decide)]; exact hT.2.1
    · unfold fdB sel5
      by_cases c0 : i < m
      · rw [if_pos c0, o3 i (by omega), n3 i (by omega), m3 i (by omega), l3 i (by omega), k3 i c0]; exact hT.2.2 i c0
      rw [if_neg c0]
      obtain ⟨j, rfl⟩ : ∃ j, i = m + j := ⟨i - m, by omega⟩
      rw [show m + j - m = j by omega]
      by_cases c1 : j < 4
      · rw [if_pos c1, o3 _ (by omega), n3 _ (by omega), m3 _ (by omega), l3 _ (by omega), k4 j c1, show j % 4 = j by omega]
      rw [if_neg c1]
      by_cases c2 : j < 8
      · have := l4 (j - 4) (by omega)
        rw [if_pos c2, o3 _ (by omega), n3 _ (by omega), m3 _ (by omega), show m + j = m + 4 + (j - 4) by omega, this, show j % 4 = j - 4 by omega]
      rw [if_neg c2]
      by_cases c3 : j < 12
      · have := m4 (j - 8) (by omega)
        rw [if_pos c3, o3 _ (by omega), n3 _ (by omega), show m + j = m + 4 + 4 + (j - 8) by omega, this, show j % 4 = j - 8 by omega]
      rw [if_neg c3]
      by_cases c4 : j < 16
      · have := n4 (j - 12) (by omega)
        rw [if_pos c4, o3 _ (by omega), show m + j = m + 4 + 4 + 4 + (j - 12) by omega, this, show j % 4 = j - 12 by omega]
      · have := o4 (j - 16) (by omega)
        rw [if_neg c4, show m + j = m + 4 + 4 + 4 + 4 + (j - 16) by omega, this, show j % 4 = j - 16 by omega]
  · rw [if_neg z, if_neg z, if_neg z]
    refine ⟨w, e112 H l0 _ ?_, h, hT, FrC.rf.K, FrB.rf⟩
    rw [hT.1, wrd (by omega) (by omega), if_neg (by omega)]
theorem JVend {w w2 w5 : Wd} {A' : AC} {m' : Nat} {B' : Row} {fp' : Int} (hW : WDm w) (k : KC w2 A' m' B' fp') (f : FrD w w2) (hM : MY w5 A') (hT : RTm w5 m' B' fp') (v : FrV w2 w5) (hI : GI A') : JV w5 m' A' B' fp' ∧ FrO w w5 := ⟨⟨k.V v hM.H, hM, hT, (hW.D f).V v, hI⟩, f.O v⟩
theorem opP {w : Wd} {A : AC} {m m' : Nat} {B B' : Row} {fp fp' c : Int} {a : An × AC} {X : Option Out} {Y : Wd → Option Out} (h : JV w m A B fp) (hX : ClA w X a m' B' fp') (hn : Cd (fun _ => False) a.1) (hI : GI a.2) (hY : ∀ w2, MY w2 A → RTm w2 m B fp → WDm w2 → RfA c w2 (Y w2) a m' B' fp') :
    ∃ w2 w5, X = rI (av a.1) w2 ∧ Y w2 = rI (av a.1) w5 ∧ LR w2 ∧ LR w5 ∧ gL w2 = gL w ∧ gX w2 = gX w ∧ JV w5 m' a.2 B' fp' ∧ FrO w w5 := by
  obtain ⟨a1, A'⟩ := a
  cases a1 with
  | inl v =>
    obtain ⟨j1, j2, j3, j4, j5⟩ := h
    obtain ⟨w2, e1, k1, f1⟩ := hX
    have f1 := f1.D
    have H2 := k1.H
    obtain ⟨w5, l1, l2, l3, l4, l5⟩ := hY w2 (j2.D f1 H2) (j3.D f1) (j4.D f1)
    exact ⟨w2, w5, e1, l1, H2, l3.H, f1.2.2.1, f1.2.2.2.1, JVend j4 k1 f1 l3 l4 l5 hI⟩
  | inr e => exact (hn e rfl).elim
theorem tailP {x v : Int} {w5 : Wd} {N : Wd → Option Out} (h : x = v) : (if x = v then N w5 else rI 0 w5) = N w5 := if_pos h
section CDP
variable {A : AC} {x : Int} {b : Bool}
theorem cdSteps : Cd (fun _ => False) (sSteps A x).1 := by unfold sSteps; split <;> exact Cd.v
theorem cdStop : Cd (fun _ => False) (sStop A b).1 := by unfold sStop; split <;> exact Cd.v
theorem cdUndo : Cd (fun _ => False) (sUndo A).1 := by unfold sUndo; split <;> exact Cd.v
theorem cdRest : Cd (fun _ => False) (sRestore A).1 := by unfold sRestore; split <;> exact Cd.v
theorem hsOf {a : An × AC} (h : Cd (fun _ => False) a.1) : ∀ e, a.1 = .inr e → a.2 = A := fun e he => (h e he).elim
end CDP
section OPP
variable {w : Wd} {A : AC} {m x : Nat} {B : Row} {fp : Int}
theorem L216 (hx : x + 6 ≤ gL w) (hL : gL w ≤ 3072) (h : JV w m A B fp) : StepL x w (s327_216 0 473 514 x w) := by
  have H := h.1.H
  obtain ⟨⟨q, hC, hB⟩, hM, hT, hW, hI⟩ := h
  obtain ⟨x1, x2, x3, x4, x5, -⟩ := wr5 hx hL
  have hm := hB.2.1
  obtain ⟨w2, k1, k2, k3, k4, k5⟩ := d112z (a := gX w (x + 1)) (b := gX w (x + 2)) (c := gX w (x + 3)) (d := gX w (x + 4)) (e := gX w (x + 5)) hC hB.1 hm
  have H2 := k2.1.H
  have f := k4.D
  obtain ⟨w5, l1, l2, l3, l4⟩ := r180 (a := gX w (x + 1)) (b := gX w (x + 2)) (c := gX w (x + 3)) (d := gX w (x + 4)) (e := gX w (x + 5)) (hM.D f H2) (hT.D f) hm
  have hm' : fdm m ≤ 700 := by unfold fdm; split <;> omega
  have hK : KC w2 A (fdm m) (fdR B m (gX w (x + 1)) (gX w (x + 2)) (gX w (x + 3)) (gX w (x + 4)) (gX w (x + 5))) fp := by
    refine ⟨q, k2, k3, hm', by rw [k5.2.2]; exact hB.2.2.1, fun p hp => ?_, fun p hp => ?_⟩
    · rw [k5.1 3 (by decide) (by decide), k5.1 4 (by decide) (by decide), k5.1 5 (by decide) (by decide)]; exact hB.2.2.2.1 p hp
    · rw [k5.1 18 (by decide) (by decide), k5.1 19 (by decide) (by decide), k5.1 20 (by decide) (by decide)]; exact hB.2.2.2.2 p hp
  have eL : gL w2 = gL w := f.2.2.1
  have eX : gX w2 = gX w := f.2.2.2.1
  obtain ⟨z1, z2⟩ := JVend hW hK f l2 l3 (l4.V) hI
  refine ⟨w5, _, _, _, _, fun o ho => e327_216 H l0 l473 l514 _ ?_, z1, z2⟩
  simp only [x1, x2, x3, x4, x5, nn]
  rw [gdi (by omega) (by omega), gdi (by omega) (by omega), gdi (by omega) (by omega), gdi (by omega) (by omega), gdi (by omega) (by omega), k1, bI_r H2, eL, eX, gdi (by omega) (by omega), gdi (by omega) (by omega), gdi (by omega) (by omega), gdi (by omega) (by omega), gdi (by omega) (by omega), l1, bI_r l2.H, if_pos rfl]
  exact ho
theorem L345 (h : JV w m A B fp) : StepL x w (s327_345 0 473 514 x w) := by
  have H := h.1.H
  obtain ⟨hK, hM, hT, hW, hI⟩ := h
  have hK' := hK
  obtain ⟨q, hC, hB⟩ := hK
  obtain ⟨a1, a2, a3⟩ := stY hM
  have e1 : F115 0 w = rI fp w := by
    refine e115 H l0 _ ?_
    rw [hB.1.2.1]
  have e2 : F207 473 w = rI fp (pI w 473 4 0) := by
    refine e207 H l473 _ ?_
    rw [gI_c (by decide), hT.2.1]
  have hT' : RTm (pI w 473 4 0) m B fp := ⟨by rw [a2.2 17 (by omega)]; exact hT.1, by rw [a2.2 26 (by omega)]; exact hT.2.1, fun i hi => by rw [a2.1.g (by decide)]; exact hT.2.2 i hi⟩
  obtain ⟨z1, z2⟩ := JVend hW hK' (FrC.rf (w := w)).K.D a1 hT' a2.X.V hI
  refine ⟨_, _, _, _, _, fun o ho => e327_345 H l0 l473 l514 _ ?_, z1, z2⟩
  rw [e1, bI_r H, e2, bI_r a1.H, if_pos rfl]
  exact ho
theorem L482 (hx : x + 6 ≤ gL w) (hL : gL w ≤ 3072) (h : JV w m A B fp) : StepL x w (s327_482 0 473 514 x w) := by
  have H := h.1.H
  have hj := h
  obtain ⟨⟨q, hC, hB⟩, hM, hT, hW, hI⟩ := h
  obtain ⟨x1, -, -, -, -, -⟩ := wr5 hx hL
  obtain ⟨w2, w5, k1, k2, H2, H5, k3, k4, k7, k8⟩ := opP (c := 2) (a := sSteps A (gX w (x + 1))) hj (AnZ.Cl hC hB (d120z (k := gX w (x + 1)) hC) (hsOf cdSteps)) cdSteps (GI.steps hI hC.1.n8) (fun w2 g1 g2 g3 => AnT.Rf g2 (t231 (k := gX w (x + 1)) g1 hI.1.1.2.1))
  refine ⟨w5, _, _, _, _, fun o ho => e327_482 H l0 l473 l514 _ ?_, k7, k8⟩
  simp only [x1, nn]
  rw [gdi (by omega) (by omega), k1, bI_r H2, k3, k4, gdi (by omega) (by omega), k2, bI_r H5, if_pos rfl]
  exact ho
theorem b2i_d {y : Int} : b2i (decide (y ≠ 0)) = if y = 0 then 0 else 1 := by
  by_cases z : y = 0
  · rw [if_pos z, decide_eq_false (fun u => u z)]; rfl
  · rw [if_neg z, decide_eq_true z]; rfl
theorem L643 (hx : x + 6 ≤ gL w) (hL : gL w ≤ 3072) (h : JV w m A B fp) : StepL x w (s327_643 0 473 514 x w) := by
  have H := h.1.H
  have hj := h
  obtain ⟨⟨q, hC, hB⟩, hM, hT, hW, hI⟩ := h
  obtain ⟨x1, -, -, -, -, -⟩ := wr5 hx hL
  obtain ⟨b, hb⟩ : ∃ b, b = decide (gX w (x + 1) ≠ 0) := ⟨_, rfl⟩
  obtain ⟨w2, w5, k1, k2, H2, H5, k3, k4, k7, k8⟩ := opP (c := 2) (a := sStop A b) hj (AnZ.Cl hC hB (d123z (b := b) hC) (hsOf cdStop)) cdStop (GI.stop hI) (fun w2 g1 g2 g3 => AnT.Rf g2 (t234 (b := b) g1))
  have key : ∀ o, s327_658 0 473 514 x (b2i b) 0 w = some o → s327_643 0 473 514 x w = some o := fun o ho => by
    refine e327_643 H l0 l473 l514 _ ?_
    simp only [x1, nn]
    rw [hb, b2i_d] at ho
    rw [gdi (by omega) (by omega)]
    by_cases z : gX w (x + 1) = 0
    · rw [if_pos z] at ho ⊢; exact ho
    · rw [if_neg z] at ho ⊢; exact ho
  have key2 : ∀ o v, s327_676 0 473 514 x (b2i b) 473 v w2 = some o → (if gX w2 (x + 1) = 0 then s327_676 0 473 514 x 0 473 v w2 else s327_676 0 473 514 x 1 473 v w2) = some o := fun o v ho => by
    rw [hb, b2i_d] at ho
    rw [k4]
    by_cases z : gX w (x + 1) = 0
    · rw [if_pos z] at ho ⊢; exact ho
    · rw [if_neg z] at ho ⊢; exact ho
  refine ⟨w5, _, _, _, _, fun o ho => key _ (e327_658 H l0 l473 l514 l0 _ ?_), k7, k8⟩
  simp only [x1, nn]
  rw [k1, bI_r H2, k3, gdi (by omega) (by omega)]
  refine key2 _ _ (e327_676 H2 l0 l473 l514 l473 _ ?_)
  rw [k2, bI_r H5, if_pos rfl]
  exact ho
theorem L775 (h : JV w m A B fp) : StepL x w (s327_775 0 473 514 x w) := by
  have H := h.1.H
  have hj := h
  obtain ⟨⟨q, hC, hB⟩, hM, hT, hW, hI⟩ := h
  obtain ⟨w2, w5, k1, k2, H2, H5, k3, k4, k7, k8⟩ := opP (c := 2) (a := sUndo A) hj (AnZ.Cl hC hB (d125z hC hI.1) (hsOf cdUndo)) cdUndo (GI.undo hI) (fun w2 g1 g2 g3 => AnT.Rf g2 (t236 g1 hI.1 hI.E))
  refine ⟨w5, _, _, _, _, fun o ho => e327_775 H l0 l473 l514 _ ?_, k7, k8⟩
  rw [k1, bI_r H2, k2, bI_r H5, if_pos rfl]
  exact ho
theorem L2511 (h : JV w m A B fp) : StepL x w (s327_2511 0 473 514 x w) := by
  have H := h.1.H
  have hj := h
  obtain ⟨⟨q, hC, hB⟩, hM, hT, hW, hI⟩ := h
  obtain ⟨w2, w5, k1, k2, H2, H5, k3, k4, k7, k8⟩ := opP (c := 2) (a := sRestore A) hj (AnZ.Cl hC hB (d164z hC hI.1) (hsOf cdRest)) cdRest (GI.restore hI) (fun w2 g1 g2 g3 => AnT.Rf g2 (t276 g1 hI.1 hI.E))
  refine ⟨w5, _, _, _, _, fun o ho => e327_2511 H l0 l473 l514 _ ?_, k7, k8⟩
  rw [k1, bI_r H2, k2, bI_r H5, if_pos rfl]
  exact ho
theorem L1988 (h : JV w m A B fp) : StepL x w (s327_1988 0 473 514 x w) := by
  have H := h.1.H
  have hj := h
  obtain ⟨⟨q, hC, hB⟩, hM, hT, hW, hI⟩ := h
  obtain ⟨w2, w5, k1, k2, H2, H5, k3, k4, k7, k8⟩ := opP (c := 2) (a := (aAlike (oQ A) (oS A), A)) hj (AnC.Cl ⟨q, hC, hB⟩ (c134 hC.1)) Cd.v hI (fun w2 g1 g2 g3 => AnM.Rf g1 g2 (r253 g1.1))
  refine ⟨w5, _, _, _, _, fun o ho => e327_1988 H l0 l473 l514 _ ?_, k7, k8⟩
  rw [k1, bI_r H2, k2, bI_r H5, if_pos rfl]
  exact ho
theorem L2249 (h : JV w m A B fp) : StepL x w (s327_2249 0 473 514 x w) := by
  have H := h.1.H
  obtain ⟨⟨q, hC, hB⟩, hM, hT, hW, hI⟩ := h
  obtain ⟨w2, k1, k2, k3⟩ := d154 hC
  have f := (k3.K (fun x hx => by omega)).D
  have H2 := k2.1.H
  obtain ⟨w5, l1, l2, l3⟩ := t267 (hM.D f H2)
  have hK : KC w2 (sForget A) m B fp := ⟨q, k2, hB.ext (fun i _ => by rw [k3.g (by omega)]) (k3.g (by omega)) (k3.B (fun x hx => by omega))⟩
  have hT2 := hT.D f
  have hT' : RTm w5 m B fp := ⟨by rw [l3.2 17 (by omega)]; exact hT2.1, by rw [l3.2 26 (by omega)]; exact hT2.2.1, fun i hi => by rw [l3.1.g (by decide)]; exact hT2.2.2 i hi⟩
  obtain ⟨z1, z2⟩ := JVend hW hK f l2 hT' l3.X.V hI.forget
  refine ⟨w5, _, _, _, _, fun o ho => e327_2249 H l0 l473 l514 _ ?_, z1, z2⟩
  rw [k1, b0_r H2, l1, b0_r l2.H]
  exact ho
theorem L2500 (h : JV w m A B fp) : StepL x w (s327_2500 0 473 514 x w) := by
  have H := h.1.H
  obtain ⟨⟨q, hC, hB⟩, hM, hT, hW, hI⟩ := h
  obtain ⟨w2, k1, k2, k3⟩ := d163 hC
  have f := (k3.K (fun x hx => by unfold AI at hx; omega) (fun x hx => by omega)).D
  have H2 := k2.1.H
  obtain ⟨w5, l1, l2, l3⟩ := t275 (hM.D f H2) hI.1
  have hK : KC w2 (sImage A) m B fp := ⟨q, k2, hB.ext (fun i _ => by rw [k3.1 0 (by unfold AI; omega)]) (k3.1 1 (by unfold AI; omega)) (k3.B (fun x hx => by unfold AI at hx; omega) (fun x hx => by omega))⟩
  have hT2 := hT.D f
  have hT' : RTm w5 m B fp := ⟨by rw [l3.2 17 (by omega)]; exact hT2.1, by rw [l3.2 26 (by omega)]; exact hT2.2.1, fun i hi => by rw [l3.1.g (by decide)]; exact hT2.2.2 i hi⟩
  obtain ⟨z1, z2⟩ := JVend hW hK f l2 hT' l3.X.V hI.image
  refine ⟨w5, _, _, _, _, fun o ho => e327_2500 H l0 l473 l514 _ ?_, z1, z2⟩
  rw [k1, b0_r H2, l1, b0_r l2.H]
  exact ho
end OPP
