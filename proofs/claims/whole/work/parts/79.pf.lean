/-! the reference's acts -/
theorem MQy.pP {w : Wd} {Q : QT} {s : ST} {b : Bool} (h : MQy w Q s) : MQy (pI w 473 35 (b2i b)) Q (pP s b) := by
  have fr : FrI (fun b => b = 473) w (pI w 473 35 (b2i b)) := FrI.p rfl
  have hr := h.1.2.1
  unfold RMS at hr
  refine ⟨h.1.to fr (fun b b1 b2 z => by omega) ?_ h.1.s h.1.I (by rw [gI_c (by decide)]; exact h.1.F), by rw [gI_c (by decide)]; exact h.2⟩
  unfold RMS
  rw [fr.g (show ¬ 489 = 473 by decide), fr.g (show ¬ 490 = 473 by decide), fr.g (show ¬ 487 = 473 by decide), fr.g (show ¬ 491 = 473 by decide), gI_c (show (33 : Nat) ≠ 35 by decide), gI_c (show (34 : Nat) ≠ 35 by decide), gI_s, gI_c (show (36 : Nat) ≠ 35 by decide)]
  exact ⟨hr.1, hr.2.1, hr.2.2.1, hr.2.2.2.1, hr.2.2.2.2.1, hr.2.2.2.2.2.1, rfl, hr.2.2.2.2.2.2.2⟩
theorem t231 {w : Wd} {A : AC} {k : Int} (h : MY w A) (ht : uT (oS A) ≤ 999) : AnT 2 w (F231 473 k w) (sSteps A k) := by
  refine AnT.of (e231 h.H l473) ?_
  obtain ⟨h0, f0, z0⟩ := stY h
  revert h0 f0 z0
  generalize pI w 473 4 0 = w0
  intro h0 f0 z0
  have hT := h0.1.1.t
  have hE : AnT 2 w (s231_29 473 k w0) (.inl (-1), rfS A 1) := AnT.of (e231_29 h0.H l473) (AnT.rf 1 h0 f0 z0 rfl (by decide))
  have e33 : gI w0 473 33 = uT (oS A) := h0.1.1.2.1.2.2.2.2.1
  rw [y174 h0.H, bI_r h0.H]
  unfold sSteps
  by_cases z1 : 1 ≤ k ∧ k ≤ 20
  · rw [decide_eq_true z1, if_neg (by decide), e33, wrd (by omega) (by omega)]
    by_cases z2 : uT (oS A) + k ≤ 999
    · rw [if_pos z2, if_pos ⟨z1.1, z1.2, z2⟩]
      obtain ⟨K, rfl⟩ : ∃ K : Nat, k = K := ⟨k.toNat, by omega⟩
      obtain ⟨v, k1, k2, k3, k4⟩ := y230 h0
      obtain ⟨v', l1, l2, l3, -⟩ := y223 (K := K) k2.1.1 k2.1.2 (by show uT (oS A) + _ ≤ _; omega)
      have hT2 := goN_T (Q := oQ A) (s := oS A) K
      have e3 : gI v' 473 33 = uT (oS A) + K := by rw [← hT2]; exact l2.2.1.2.2.2.2.1
      rw [k1, b0_r k2.H, l1, b0_r l2.H, e3, nn]
      refine AnT.v (k2.nw (u := goN (oQ A) (oS A) K) ⟨l2, by rw [l3.2 44 (by omega) (by omega)]; exact k2.1.2⟩ l3.S) ((f0.tr k3).tr l3.S.Z) ?_
      rw [l3.2 4 (by omega) (by omega), k4 4 (by omega)]; exact z0
    · rw [if_neg z2, if_neg (fun y => z2 y.2.2)]; exact hE
  · rw [decide_eq_false z1, if_pos (by decide), if_neg (fun y => z1 ⟨y.1, y.2.1⟩)]; exact hE
theorem t232 {w : Wd} {A : AC} {x y : Int} (h : MY w A) : AnT 2 w (F232 473 x y w) (sSet A x y) := by
  refine AnT.of (e232 h.H l473) ?_
  obtain ⟨h0, f0, z0⟩ := stY h
  revert h0 f0 z0
  generalize pI w 473 4 0 = w0
  intro h0 f0 z0
  refine AnT.P1 h0 (AnT.f h0 f0 rfl) fun x0 x1 => ?_
  have h8 := h0.1.1.n8
  obtain ⟨p, rfl, hp⟩ := toN x0 x1
  have hE : AnT 2 w (s232_43 473 p y (uW (oS A) p) w0) (.inl (-1), rfS A 1) := AnT.of (e232_43 h0.H l473) (AnT.rf 1 h0 f0 z0 rfl (by decide))
  rw [gdi (by omega) (by omega), nn, show gI w0 (473 + 18) p = uW (oS A) p by rw [show gI w0 (473 + 18) = uW (oS A) from h0.1.1.2.1.2.2.1], y174 h0.H, bI_r h0.H]
  by_cases z1 : 0 ≤ y ∧ y ≤ 59
  · rw [decide_eq_true z1, if_neg (by decide)]
    by_cases z2 : y ≠ uW (oS A) p
    · rw [if_pos z2, if_pos ⟨z1.1, by omega, z2⟩]
      obtain ⟨v, k1, k2, k3, k4⟩ := y230 h0
      have hq : MQy (pI v 491 p y) (oQ A) (sW (oS A) p y) := MQy.sW (s := oS A) k2.1 ⟨z1.1, by omega⟩
      have fs : FrS v (pI v 491 p y) := FrS.r (by unfold ZS; omega) (by decide)
      rw [k1, b0_r k2.H, gdi (by omega) (by omega)]
      exact AnT.v (k2.nw hq fs) ((f0.tr k3).tr fs.Z) (by rw [gI_r (by decide), k4 4 (by decide)]; exact z0)
    · rw [if_neg z2, if_neg (fun q => z2 q.2.2)]; exact hE
  · rw [decide_eq_false z1, if_pos (by decide), if_neg (by omega)]; exact hE
theorem t233 {w : Wd} {A : AC} {x m : Int} (h : MY w A) : AnT 2 w (F233 473 x m w) (sGive A x m) := by
  refine AnT.of (e233 h.H l473) ?_
  obtain ⟨h0, f0, z0⟩ := stY h
  revert h0 f0 z0
  generalize pI w 473 4 0 = w0
  intro h0 f0 z0
  refine AnT.P1 h0 (AnT.f h0 f0 rfl) fun x0 x1 => ?_
  have h8 := h0.1.1.n8
  obtain ⟨p, rfl, hp⟩ := toN x0 x1
  have hb := h0.1.1.s.1 p
  rw [y174 h0.H, bI_r h0.H, nn]
  by_cases z1 : 1 ≤ m ∧ m ≤ 100
  · rw [decide_eq_true z1, if_pos (by decide), if_pos z1]
    obtain ⟨v, k1, k2, k3, k4⟩ := y230 h0
    have hq : MQy (pI v 489 p (min (uL (oS A) p + m) 999)) (oQ A) (sL (oS A) p (min (uL (oS A) p + m) 999)) := MQy.sL (s := oS A) k2.1 (by show p < zn (oQ A); omega) ⟨by omega, by omega⟩
    have fs : FrS v (pI v 489 p (min (uL (oS A) p + m) 999)) := FrS.r (by unfold ZS; omega) (by decide)
    have er : rcv (oS A) p m = sL (oS A) p (min (uL (oS A) p + m) 999) := rfl
    rw [k1, b0_r k2.H, gdi (by omega) (by omega), show gI v (473 + 16) p = uL (oS A) p by rw [show gI v (473 + 16) = uL (oS A) from k2.1.1.2.1.1], wrd (by omega) (by omega), q326 k2.H, bI_r k2.H, gdi (by omega) (by omega), gdi (by omega) (by omega), show min 999 (uL (oS A) p + m) = min (uL (oS A) p + m) 999 by omega, show (473 + 16 : Nat) = 489 from rfl, gI_s, er]
    exact AnT.v (k2.nw hq fs) ((f0.tr k3).tr fs.Z) (by rw [gI_r (by decide), k4 4 (by decide)]; exact z0)
  · rw [decide_eq_false z1, if_neg (by decide), if_neg z1]
    exact AnT.rf 1 h0 f0 z0 rfl (by decide)
theorem t234 {w : Wd} {A : AC} {b : Bool} (h : MY w A) : AnT 2 w (F234 473 (b2i b) w) (sStop A b) := by
  refine AnT.of (e234 h.H l473) ?_
  obtain ⟨h0, f0, z0⟩ := stY h
  revert h0 f0 z0
  generalize pI w 473 4 0 = w0
  intro h0 f0 z0
  have key : AnT 2 w (s234_18 473 (b2i b) (b2i (uP (oS A))) w0) (sStop A b) := by
    refine AnT.of (e234_18 h0.H l473) ?_
    unfold sStop
    by_cases z : uP (oS A) = b
    · rw [if_neg (by rw [z]; simp), if_neg (by rw [z]; simp)]
      exact AnT.rg h0 f0 z0
    · rw [if_pos (by intro y; apply z; revert y; cases uP (oS A) <;> cases b <;> decide), if_pos z]
      obtain ⟨v, k1, k2, k3, k4⟩ := y230 h0
      have hq : MQy (pI v 473 35 (b2i b)) (oQ A) (pP (oS A) b) := MQy.pP (s := oS A) k2.1
      have fs : FrS v (pI v 473 35 (b2i b)) := FrS.p (by unfold ZF; omega)
      rw [k1, b0_r k2.H]
      have fin : AnT 2 w (rI 1 (pI v 473 35 (b2i b))) (.inl 1, nowA A (pP (oS A) b)) := AnT.v (k2.nw hq fs) ((f0.tr k3).tr fs.Z) (by rw [gI_c (by decide), k4 4 (by decide)]; exact z0)
      cases b
      · rw [if_pos (show b2i false = 0 from rfl)]; exact fin
      · rw [if_neg (by decide)]; exact fin
  rw [show gI w0 473 35 = b2i (uP (oS A)) from h0.1.1.2.1.2.2.2.2.2.2.1]
  cases hu : uP (oS A)
  · rw [hu] at key
    rw [if_pos (by decide)]; exact key
  · rw [hu] at key
    rw [if_neg (by decide)]; exact key
theorem t235 {w : Wd} {A : AC} {x : Int} {b : Bool} (h : MY w A) : AnT 2 w (F235 473 x (b2i b) w) (sStay A x b) := by
  refine AnT.of (e235 h.H l473) ?_
  obtain ⟨h0, f0, z0⟩ := stY h
  revert h0 f0 z0
  generalize pI w 473 4 0 = w0
  intro h0 f0 z0
  have hE : AnT 2 w (bI (F173 473 1 w0) (fun n14 w15 => gP (n14 = 0 ∨ n14 = 1) (rI n14 w15))) (.inr 0, A) := by
    have h1 : MY (pI w0 473 4 1) A := h0.pf (by unfold ZF; omega)
    refine ⟨pI w0 473 4 1, ?_, by rw [gI_s]; rfl, h1, f0.tr (FrZ.p (by omega))⟩
    rw [show F173 473 1 w0 = rI 0 (pI w0 473 4 1) from e173 h0.H l473 _ rfl, bI_r h1.H, gP_t (by decide)]
    rfl
  refine AnT.P1 h0 hE fun x0 x1 => ?_
  have h8 := h0.1.1.n8
  obtain ⟨p, rfl, hp⟩ := toN x0 x1
  rw [show gI w0 473 36 = mk (uI (oS A)) 8 from h0.1.1.2.1.2.2.2.2.2.2.2, y175 h0.H (by omega), bI_r h0.H, nn]
  by_cases z : uI (oS A) p = b
  · rw [if_neg (by rw [z]; simp), if_neg (by rw [z]; simp)]
    exact AnT.rg h0 f0 z0
  · rw [if_pos (by intro y; apply z; revert y; cases uI (oS A) p <;> cases b <;> decide), if_pos z]
    obtain ⟨v, k1, k2, k3, k4⟩ := y230 h0
    have ex : bXor (mk (uI (oS A)) 8) (bShl 1 p) = mk (fun i => if i = p then b else uI (oS A) i) 8 := by
      rw [mk_one (show p < 8 by omega) (by decide), mk_xor (by decide)]
      refine mk_congr (fun i hi => ?_)
      by_cases y : i = p
      · subst y
        rw [if_pos rfl]
        revert z
        cases uI (oS A) i <;> cases b <;> simp
      · have e : (i == p) = false := by simpa using y
        show (uI (oS A) i ^^ (i == p)) = (if i = p then b else uI (oS A) i)
        rw [if_neg y, e]
        simp
    have hq : MQy (pI v 473 36 (mk (fun i => if i = p then b else uI (oS A) i) 8)) (oQ A) (sS (oS A) p b) := MQy.pS (s := oS A) k2.1 (fun i hi => by
      have hi : zn (oQ A) ≤ i := hi
      rw [if_neg (by omega)]; exact h0.1.1.I i hi)
    have fs : FrS v (pI v 473 36 (mk (fun i => if i = p then b else uI (oS A) i) 8)) := FrS.p (by unfold ZF; omega)
    rw [k1, b0_r k2.H, show gI v 473 36 = mk (uI (oS A)) 8 from k2.1.1.2.1.2.2.2.2.2.2.2, ex]
    exact AnT.v (k2.nw hq fs) ((f0.tr k3).tr fs.Z) (by rw [gI_c (by decide), k4 4 (by decide)]; exact z0)
/-- rows behind the eighth are all alike -/
def GE (A : AC) : Prop := (∀ u ∈ oL A, E8 (oS A) u) ∧ ∀ x, oM A = some x → E8 (oS A) x.1 ∧ ∀ u ∈ x.2.1, E8 (oS A) u
theorem t236 {w : Wd} {A : AC} (h : MY w A) (hA : GA A) (hE : GE A) : AnT 2 w (F236 473 w) (sUndo A) := by
  refine AnT.of (e236 h.H l473) ?_
  obtain ⟨h0, f0, z0⟩ := stY h
  revert h0 f0 z0
  generalize pI w 473 4 0 = w0
  intro h0 f0 z0
  obtain ⟨a1, a2, a3⟩ := h0.2.1
  unfold sUndo
  by_cases z : oL A = []
  · rw [a2, z, if_neg (by decide)]
    exact AnT.v h0 f0 z0
  · have hlen : 0 < (oL A).length := List.length_pos_iff.mpr z
    obtain ⟨n, hn⟩ : ∃ n, n = (oL A).length - 1 := ⟨_, rfl⟩
    have hnl : n < (oL A).length := by omega
    have eg : (oL A).getLast? = some ((oL A)[n]'hnl) := by
      rw [List.getLast?_eq_getElem?, ← hn, List.getElem?_eq_getElem hnl]
    have hm := List.getElem_mem (l := oL A) (n := n) hnl
    have hu := hA.2.1 _ hm
    have h8u := hE.1 _ hm
    have hp := a3 n hnl
    rw [eg]
    have ew : wr (((oL A).length : Int) - 1) = (n : Int) := by rw [wrd (by omega) (by omega)]; omega
    rw [a2, if_pos (by omega), ew, gI_s]
    show AnT 2 w _ (.inl (((oL A).length - 1 : Nat) : Int), (oQ A, (oL A)[n]'hnl, (oL A).dropLast, oN A, oT A, oM A))
    rw [← hn]
    have hq1 : MQy (pI w0 473 37 (n : Int)) (oQ A) (oS A) := h0.1.pf (by omega)
    have e28 : wr (28 * (n : Int)) = ((28 * n : Nat) : Int) := by rw [wrd (by omega) (by omega)]; omega
    obtain ⟨v, k1, k2, k3, k4⟩ := y209 (a := 492) (off := 28 * n) (n := 1120) (w := pI w0 473 37 (n : Int)) hq1.1 (hp.ext (gI_r (by decide))) l492 (by omega) (by omega) (by decide) h8u hu.1 hu.2.2.2
    have em : pM ((oL A)[n]'hnl) (uM (oS A)) = (oL A)[n]'hnl := pM_self hu.2.2.1
    rw [em] at k2
    rw [e28, show (473 + 19 : Nat) = 492 from rfl, k1, b0_r k2.H, k4 37 (by omega), gI_s]
    have g : ∀ b, b ≠ 473 → (b < 489 ∨ 491 < b) → gI v b = gI w0 b := fun b b1 b2 => by
      rw [k3.g (by omega), gI_r b1]
    have g0 : ∀ i, (i < 33 ∨ 36 < i) → i ≠ 37 → gI v 473 i = gI w0 473 i := fun i hi h37 => by rw [k4 i hi, gI_c h37]
    have hRK : RKm v (oL A).dropLast := by
      refine ⟨by rw [List.length_dropLast]; omega, by rw [k4 37 (by omega), gI_s, List.length_dropLast, hn], fun i hi => ?_⟩
      have hi2 := hi
      rw [List.length_dropLast] at hi2
      rw [List.getElem_dropLast]
      exact (a3 i (by omega)).ext (g 492 (by decide) (by decide))
    have hRN : RNm v (oN A) := by
      have hN : RNm w0 (oN A) := h0.2.2.1
      unfold RNm at hN ⊢
      rw [g0 38 (by omega) (by omega), g 501 (by decide) (by omega), g 502 (by decide) (by omega), g 503 (by decide) (by omega)]
      exact hN
    refine AnT.v ⟨⟨k2, by rw [g0 44 (by omega) (by omega)]; exact h0.1.2⟩, hRK, hRN, fun i hi => by rw [g 486 (by decide) (by decide)]; exact h0.2.2.2.1 i hi, h0.2.2.2.2.ext (fun i i1 i2 => g0 i (by omega) (by omega)) (fun b b1 b2 => g b (by omega) (by omega))⟩ (f0.tr ⟨?_, fun i hi => g0 i (by omega) (by omega)⟩) (by rw [g0 4 (by omega) (by omega)]; exact z0)
    exact (FrI.p (A := fun b => 473 ≤ b ∧ b ≤ 513 ∧ b ≠ 488) (by omega)).tr (k3.wk (fun b hb => by omega))
theorem MY.sn {w w' : Wd} {A : AC} {N : NT} (h : MY w A) (f : FrI (fun b => b = 473 ∨ (501 ≤ b ∧ b ≤ 503)) w w') (f0 : ∀ i, i ≠ 38 → gI w' 473 i = gI w 473 i) (hN : RNm w' N) : MY w' (oQ A, oS A, oL A, N, oT A, oM A) := by
  have g : ∀ b, b ≠ 473 → (b < 501 ∨ 503 < b) → gI w' b = gI w b := fun b b1 b2 => f.g (by omega)
  have hq := h.1
  refine ⟨⟨⟨?_, ?_, f.LR h.H, hq.1.2.2.2.1, hq.1.2.2.2.2.1, hq.1.2.2.2.2.2.1, by rw [f0 44 (by decide)]; exact hq.1.2.2.2.2.2.2⟩, by rw [f0 44 (by decide)]; exact hq.2⟩, h.2.1.ext (f0 37 (by decide)) (g 492 (by decide) (by decide)), hN, fun i hi => by rw [g 486 (by decide) (by decide)]; exact h.2.2.2.1 i hi, h.2.2.2.2.ext (fun i i1 i2 => f0 i (by omega)) (fun b b1 b2 => g b (by omega) (by omega))⟩
  · exact hq.1.1.fr f (fun b b1 b2 z => by omega)
  · have hr := hq.1.2.1
    unfold RMS at hr
    show RMS w' (oS A)
    unfold RMS
    rw [g 489 (by decide) (by decide), g 490 (by decide) (by decide), g 491 (by decide) (by decide), g 487 (by decide) (by decide), f0 33 (by decide), f0 34 (by decide), f0 35 (by decide), f0 36 (by decide)]
    exact hr
theorem t267 {w : Wd} {A : AC} (h : MY w A) : ∃ w', F267 473 w = r0 w' ∧ MY w' (sForget A) ∧ FrZ w w' := by
  obtain ⟨h0, f0, z0⟩ := stY h
  have f : FrI (fun b => b = 473 ∨ (501 ≤ b ∧ b ≤ 503)) (pI w 473 4 0) (pI (pI w 473 4 0) 473 38 0) := FrI.p (Or.inl rfl)
  refine ⟨pI (pI w 473 4 0) 473 38 0, e267 h.H l473 _ rfl, h0.sn f (fun i hi => gI_c hi) ⟨gI_s, fun i hi => absurd hi (Nat.not_lt_zero _)⟩, f0.tr (FrZ.p (by omega))⟩
theorem t261 {w : Wd} {A : AC} {x n m : Int} (h : MY w A) (hA : GA A) : AnT 2 w (F261 473 x n m w) (sSee A x n m) := by
  refine AnT.of (e261 h.H l473) ?_
  obtain ⟨h0, f0, z0⟩ := stY h
  revert h0 f0 z0
  generalize pI w 473 4 0 = w0
  intro h0 f0 z0
  refine AnT.P1 h0 (AnT.f h0 f0 rfl) fun x0 x1 => ?_
  obtain ⟨p, rfl, hp⟩ := toN x0 x1
  have hN := h0.2.2.1
  have hN8 := hA.2.2.1.1
  have hE : AnT 2 w (s261_52 473 p n m w0) (.inl (-1), rfS A 2) := AnT.of (e261_52 h0.H l473) (AnT.rf 2 h0 f0 z0 rfl (by decide))
  rw [hN.1, nn]
  by_cases z8 : (oN A).1 = 8
  · rw [if_pos (by omega), if_neg (fun y => by omega)]; exact hE
  rw [if_neg (by omega), y174 h0.H, bI_r h0.H]
  by_cases z1 : 0 ≤ n ∧ n ≤ 20
  · rw [decide_eq_true z1, if_neg (by decide), y174 h0.H, bI_r h0.H]
    by_cases z2 : 0 ≤ m ∧ m ≤ 999
    · rw [decide_eq_true z2, if_pos (by decide), if_pos ⟨by omega, z1.1, z1.2, z2.1, z2.2⟩]
      have e38 : gI w0 473 38 = ((oN A).1 : Int) := hN.1
      have q1 : gI (pI w0 501 (oN A).1 (p : Int)) 473 38 = ((oN A).1 : Int) := by rw [gI_r (by decide)]; exact e38
      have q2 : gI (pI (pI w0 501 (oN A).1 (p : Int)) 502 (oN A).1 n) 473 38 = ((oN A).1 : Int) := by rw [gI_r (by decide)]; exact q1
      have q3 : gI (pI (pI (pI w0 501 (oN A).1 (p : Int)) 502 (oN A).1 n) 503 (oN A).1 m) 473 38 = ((oN A).1 : Int) := by rw [gI_r (by decide)]; exact q2
      simp only [show (473 + 28 : Nat) = 501 from rfl, show (473 + 29 : Nat) = 502 from rfl, show (473 + 30 : Nat) = 503 from rfl]
      rw [e38, nn, q1, nn, q2, nn, q3, gI_s, wrs (by omega), gdi (by omega) (by omega), gdi (by omega) (by omega), gdi (by omega) (by omega)]
      have f : FrI (fun b => b = 473 ∨ (501 ≤ b ∧ b ≤ 503)) w0 (pI (pI (pI (pI w0 501 (oN A).1 (p : Int)) 502 (oN A).1 n) 503 (oN A).1 m) 473 38 (((oN A).1 + 1 : Nat) : Int)) := (((FrI.p (by omega)).pp (by omega)).pp (by omega)).pp (by omega)
      have fr0 : ∀ i, i ≠ 38 → gI (pI (pI (pI (pI w0 501 (oN A).1 (p : Int)) 502 (oN A).1 n) 503 (oN A).1 m) 473 38 (((oN A).1 + 1 : Nat) : Int)) 473 i = gI w0 473 i := fun i hi => by
        rw [gI_c hi, gI_r (by decide), gI_r (by decide), gI_r (by decide)]
      refine AnT.v (h0.sn f fr0 (N := seeN (oN A) p n m) ⟨gI_s, fun i hi => ?_⟩) (f0.tr ⟨f.wk (fun b hb => by omega), fun i hi => fr0 i (by omega)⟩) (by rw [fr0 4 (by decide)]; exact z0)
      show gI _ 501 i = ((va_up (oN A).2.1 (oN A).1 p i : Nat) : Int) ∧ gI _ 502 i = va_up (oN A).2.2.1 (oN A).1 n i ∧ gI _ 503 i = va_up (oN A).2.2.2 (oN A).1 m i
      have hi : i < (oN A).1 + 1 := hi
      rw [gI_r (b := 501) (by decide), gI_r (b := 501) (by decide), gI_r (b := 501) (by decide), gI_r (b := 502) (by decide), gI_r (b := 502) (by decide), gI_r (b := 503) (by decide)]
      by_cases z : i = (oN A).1
      · subst z
        rw [gI_s, gI_s, gI_s, up_s, up_s, up_s]
        exact ⟨rfl, rfl, rfl⟩
      · rw [gI_c z, gI_c z, gI_c z, gI_r (b := 502) (by decide), gI_r (b := 503) (by decide), gI_r (b := 503) (by decide), up_c z, up_c z, up_c z]
        exact hN.2 i (by omega)
    · rw [decide_eq_false z2, if_neg (by decide), if_neg (fun y => z2 ⟨y.2.2.2.1, y.2.2.2.2⟩)]; exact hE
  · rw [decide_eq_false z1, if_pos (by decide), if_neg (fun y => z1 ⟨y.2.1, y.2.2.1⟩)]; exact hE
