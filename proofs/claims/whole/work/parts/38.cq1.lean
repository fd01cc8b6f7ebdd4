/-! the class's answers: steps that go by -/
theorem CQ.H {w : Wd} {q : Nat} {Q : QT} {s : ST} (h : CQ w q Q s) : LR w := h.2.2.2.2.1
theorem CQ.g {w : Wd} {q : Nat} {Q : QT} {s : ST} (h : CQ w q Q s) : GQ Q := h.2.2.2.2.2.1
theorem CQ.s {w : Wd} {q : Nat} {Q : QT} {s : ST} (h : CQ w q Q s) : GS (zn Q) s := h.2.2.2.2.2.2.1
theorem CQ.t {w : Wd} {q : Nat} {Q : QT} {s : ST} (h : CQ w q Q s) : 0 ≤ uT s ∧ uT s ≤ 999 := ⟨h.s.2.2.2.2.2.2.1, h.2.2.2.2.2.2.2⟩
theorem CQ.n8 {w : Wd} {q : Nat} {Q : QT} {s : ST} (h : CQ w q Q s) : zn Q ≤ 8 := h.g.1
/-- what stands behind a rewinding and so many steps -/
theorem rgo {w : Wd} {q : Nat} {Q : QT} {s : ST} (K : Nat) (h : CQ w q Q s) (hK : K ≤ 60) : ∃ v v', F169 0 w = r0 v ∧ LR v ∧ (∀ k : Nat → Option Out, gQ (gR v 0 3) 4 k = k q) ∧ F17 27 q 39 K v = r0 v' ∧ FrC w v' ∧ RS v' 39 (goN Q s K) ∧ (∀ i, i < 8 → gI v' 30 i = if K = 0 then -1 else if i < zn Q then WH Q (goN Q s (K - 1)) i else -1) ∧
    (∀ i, i < 8 → gI v' 31 i = TMs Q s K i) ∧ (∀ a i, a < 8 → i < 8 → gI v' 32 (8 * a + i) = HDs Q s K a i) ∧ gI v' 27 6 = PSs Q s K ∧ gI v' 27 7 = SLs Q s K := by
  have ht := h.t
  obtain ⟨v, k1, ⟨c1, c2, c3, c4, c5, c6⟩, k2⟩ := q169 h
  obtain ⟨v', l1, l2, l3, l4, ⟨l5, l6, l7⟩, l8⟩ := qgo (K := K) h k2 c1 h.s (by omega)
  have hz : okI 0 := by unfold okI; omega
  refine ⟨v, v', k1, k2.LR h.H, fun k => (h.fr k2).q, l1, l3, l2, fun i hi => by rw [l4 i hi, c2 i hi], fun i hi => ?_, fun a i ha hi => ?_, ?_, ?_⟩
  · have b := TMs_b (s := s) h.g K i (by omega)
    rw [l5 i hi (by rw [c3 i hi]; exact hz), c3 i hi, wrd (by omega) (by omega)]; omega
  · have b := HDs_b h.g h.s K a i (by omega) (by omega)
    have e := c4 (8 * a + i) (by omega)
    rw [l6 a i ha hi (by rw [e]; exact hz), e, wrd (by omega) (by omega)]; omega
  · have b := PSs_b h.g h.s K (by omega) (by omega)
    rw [l7 (by rw [c5]; exact hz), c5, wrd (by omega) (by omega)]; omega
  · have b := SLs_b (Q := Q) (s := s) K (by omega)
    rw [l8 (by rw [c6]; exact hz), c6, wrd (by omega) (by omega)]; omega
theorem c126 {w : Wd} {q : Nat} {Q : QT} {s : ST} {x k wh : Int} (h : CQ w q Q s) : AnC w (F126 0 x k wh w) (aThen Q s x k wh) := by
  refine AnC.of (e126 h.H l0) (AnC.P h fun x0 x1 => AnC.W h.H fun w0 w1 => AnC.B h.H fun k0 k1 => ?_)
  have h8 := h.n8
  obtain ⟨p, rfl, hp⟩ := toN x0 x1
  obtain ⟨K, rfl, hK⟩ := toN k0 (show k < 61 by omega)
  obtain ⟨v, v', a1, a2, a3, a4, a5, a6, -⟩ := rgo K h (by omega)
  rw [a1, b0_r a2, a3, a4, b0_r (a5.LR h.H)]
  by_cases z : wh = 0
  · rw [if_neg (by omega), q75 (a5.LR h.H) l39 (by omega), bI_r (a5.LR h.H), if_pos z, a6.1]
    exact AnC.v a5
  · rw [if_pos z, q78 (a5.LR h.H) l39 (by omega), bI_r (a5.LR h.H), if_neg z, a6.2.2.2.1]
    exact AnC.v a5
theorem c127 {w : Wd} {q : Nat} {Q : QT} {s : ST} {x k : Int} (h : CQ w q Q s) : AnC w (F127 0 x k w) (aAsked Q s x k) := by
  refine AnC.of (e127 h.H l0) (AnC.P h fun x0 x1 => AnC.B h.H fun k0 k1 => ?_)
  have h8 := h.n8
  obtain ⟨p, rfl, hp⟩ := toN x0 x1
  obtain ⟨K, rfl, hK⟩ := toN (show 0 ≤ k by omega) (show k < 61 by omega)
  obtain ⟨v, v', a1, a2, a3, a4, a5, a6, a7, -⟩ := rgo K h (by omega)
  have H' := a5.LR h.H
  have e : F26 27 (p : Int) v' = rI (WH Q (goN Q s (K - 1)) p) v' := by
    refine e26 H' l27 _ ?_
    rw [if_neg (by omega), if_neg (by omega), gdi (by omega) (by omega), nn, show gI v' (27 + 3) p = gI v' 30 p from rfl, a7 p (by omega), if_neg (by omega), if_pos (by omega)]
  rw [a1, b0_r a2, a3, a4, b0_r H', e, bI_r H']
  exact AnC.v a5
theorem c129 {w : Wd} {q : Nat} {Q : QT} {s : ST} {k wh : Int} (h : CQ w q Q s) : AnC w (F129 0 k wh w) (aLater Q s k wh) := by
  refine AnC.of (e129 h.H l0) (AnC.W h.H fun w0 w1 => AnC.B h.H fun k0 k1 => ?_)
  have ht := h.t
  obtain ⟨K, rfl, hK⟩ := toN k0 (show k < 61 by omega)
  obtain ⟨v, v', a1, a2, a3, a4, a5, a6, -, -, -, a9, -⟩ := rgo K h (by omega)
  have H' := a5.LR h.H
  rw [a1, b0_r a2, a3, a4, b0_r H', nn]
  by_cases z0 : wh = 0
  · rw [if_pos z0, if_pos z0, q82 H' l39 a6, bI_r H']; exact AnC.v a5
  rw [if_neg z0, if_neg z0]
  by_cases z1 : wh = 1
  · rw [if_pos z1, if_pos z1, q82 H' l39 a6, bI_r H', q84 H' l39 a6, bI_r H']; exact AnC.v a5
  rw [if_neg z1, if_neg z1]
  by_cases z2 : wh = 2
  · rw [if_pos z2, if_pos z2, q82 H' l39 a6, bI_r H', q85 H' l39 a6, bI_r H']; exact AnC.v a5
  rw [if_neg z2, if_neg z2]
  by_cases z3 : wh = 3
  · rw [if_pos z3, if_pos z3, q83 H' l39 a6 (GS_goN h.s K (by omega)), bI_r H']; exact AnC.v a5
  rw [if_neg z3, if_neg z3, show gI v' (0 + 27) 6 = PSs Q s K from a9]
  exact AnC.v a5
theorem c131 {w : Wd} {q : Nat} {Q : QT} {s : ST} {x o k : Int} (h : CQ w q Q s) : AnC w (F131 0 x o k w) (aRobbed Q s x o k) := by
  refine AnC.of (e131 h.H l0) (AnC.P h fun x0 x1 => AnC.P h fun o0 o1 => AnC.B h.H fun k0 k1 => ?_)
  have h8 := h.n8
  obtain ⟨p, rfl, hp⟩ := toN x0 x1
  obtain ⟨r, rfl, hr⟩ := toN o0 o1
  obtain ⟨K, rfl, hK⟩ := toN k0 (show k < 61 by omega)
  obtain ⟨v, v', a1, a2, a3, a4, a5, a6, -, -, a8, -, -⟩ := rgo K h (by omega)
  have H' := a5.LR h.H
  have e1 : wr (wr ((p : Int) * 8) + r) = ((8 * p + r : Nat) : Int) := by rw [wrd (z := (p : Int) * 8) (by omega) (by omega), wrd (by omega) (by omega)]; omega
  have e : F28 27 (p : Int) (r : Int) v' = rI (HDs Q s K p r) v' := by
    refine e28 H' l27 _ ?_
    rw [e1, if_neg (by omega), if_neg (by omega), gdi (by omega) (by omega), nn, show gI v' (27 + 5) (8 * p + r) = gI v' 32 (8 * p + r) from rfl, a8 p r (by omega) (by omega)]
  rw [a1, b0_r a2, a3, a4, b0_r H', e, bI_r H']
  exact AnC.v a5
theorem c132 {w : Wd} {q : Nat} {Q : QT} {s : ST} {x k : Int} (h : CQ w q Q s) : AnC w (F132 0 x k w) (aGained Q s x k) := by
  refine AnC.of (e132 h.H l0) (AnC.P h fun x0 x1 => AnC.B h.H fun k0 k1 => ?_)
  have h8 := h.n8
  have ht := h.t
  obtain ⟨p, rfl, hp⟩ := toN x0 x1
  obtain ⟨K, rfl, hK⟩ := toN k0 (show k < 61 by omega)
  obtain ⟨v, v', a1, a2, a3, a4, a5, a6, -⟩ := rgo K h (by omega)
  have H' := a5.LR h.H
  have b1 := (GS_goN h.s K (by omega)).1 p
  have b2 := h.s.1 p
  have e2 : gI v' 35 = uL s := (h.fr a5).2.2.2.1.1
  rw [a1, b0_r a2, a3, a4, b0_r H', q75 H' l39 (by omega), bI_r H', q75 (s := 34) H' l34 (by omega), bI_r H', a6.1, show gI v' (34 + 1) = uL s from e2, wrd (by omega) (by omega)]
  exact AnC.v a5
theorem c133 {w : Wd} {q : Nat} {Q : QT} {s : ST} {x k : Int} (h : CQ w q Q s) : AnC w (F133 0 x k w) (aShows Q s x k) := by
  refine AnC.of (e133 h.H l0) (AnC.P h fun x0 x1 => AnC.B h.H fun k0 k1 => ?_)
  have h8 := h.n8
  obtain ⟨p, rfl, hp⟩ := toN x0 x1
  obtain ⟨K, rfl, hK⟩ := toN (show 0 ≤ k by omega) (show k < 61 by omega)
  have hb := shw_b s p
  have e : ∀ d : Nat, d < 300 → s133_32 0 (p : Int) (K : Int) (d : Int) w = rI ((shw s p + d) % 60) w := by
    intro d hd
    refine e133_32 h.H l0 _ ?_
    obtain ⟨m, hm⟩ : ∃ m : Nat, shw s p = m := ⟨(shw s p).toNat, by omega⟩
    rw [q79 h.H l34 (by omega) h.2.2.2.1 h.s, bI_r h.H, hm, show wr ((m : Int) + (d : Int)) = ((m + d : Nat) : Int) by rw [wrd (by omega) (by omega)]; omega]
    have := q324 (x := m + d) (y := 60) h.H (by omega) (by omega) (by omega)
    rw [show ((60 : Nat) : Int) = 60 from rfl] at this
    rw [this, bI_r h.H]
    congr 3
  have e5 : gI w (0 + 34) 5 = b2i (uP s) := h.2.2.2.1.2.2.2.2.2.1
  rw [e5, nn]
  cases z : uP s
  · rw [if_pos (show b2i false = 0 from rfl), wrd (z := (K : Int) - 1) (by omega) (by omega), wrd (by omega) (by omega)]
    obtain ⟨d, hd⟩ : ∃ d : Nat, 5 * ((K : Int) - 1) = d := ⟨(5 * ((K : Int) - 1)).toNat, by omega⟩
    rw [hd, e d (by omega), if_neg (by simp)]
    exact AnC.v FrC.rf
  · rw [if_neg (by decide), if_pos rfl]
    have := e 0 (by omega)
    rw [show ((0 : Nat) : Int) = 0 from rfl] at this
    rw [this]
    exact AnC.v FrC.rf
theorem c135 {w : Wd} {q : Nat} {Q : QT} {s : ST} {k : Int} (h : CQ w q Q s) : AnC w (F135 0 k w) (aSilent Q s k) := by
  refine AnC.of (e135 h.H l0) (AnC.B h.H fun k0 k1 => ?_)
  obtain ⟨K, rfl, hK⟩ := toN (show 0 ≤ k by omega) (show k < 61 by omega)
  obtain ⟨v, v', a1, a2, a3, a4, a5, a6, -, -, -, -, a10⟩ := rgo K h (by omega)
  rw [a1, b0_r a2, a3, a4, b0_r (a5.LR h.H), show gI v' (0 + 27) 7 = SLs Q s K from a10]
  exact AnC.v a5
theorem c130 {w : Wd} {q : Nat} {Q : QT} {s : ST} {k : Int} (h : CQ w q Q s) : AnC w (F130 0 k w) (aBusiest Q s k) := by
  refine AnC.of (e130 h.H l0) (AnC.B h.H fun k0 k1 => ?_)
  have h8 := h.n8
  obtain ⟨K, rfl, hK⟩ := toN (show 0 ≤ k by omega) (show k < 61 by omega)
  obtain ⟨v, v', a1, a2, a3, a4, a5, a6, -, a7, -⟩ := rgo K h (by omega)
  have H' := a5.LR h.H
  have h' := h.fr a5
  have e27 : ∀ i : Nat, i < 8 → F27 27 (i : Int) v' = rI (TMs Q s K i) v' := fun i hi => by
    refine e27 H' l27 _ ?_
    rw [if_neg (by omega), if_neg (by omega), gdi (by omega) (by omega), nn, show gI v' (27 + 4) i = gI v' 31 i from rfl, a7 i hi]
  rw [a1, b0_r a2, a3, a4, b0_r H', nn]
  obtain ⟨u, hu, e⟩ := lpR (F := fun i u => s130_35 0 K u.1 u.2 i v') (I := fun i u => u = rich (TMs Q s K) (fun _ => true) i) (zn Q) (fun i u hi e => by
    subst e
    refine ⟨_, fun o ho => e130_35 H' l0 _ ?_, rfl⟩
    rw [h'.q, h'.n, if_neg (by omega), e27 i (by omega), bI_r H', wrd (by omega) (by omega)]
    have e2 : rich (TMs Q s K) (fun _ => true) (i + 1) = richS (TMs Q s K) (fun _ => true) i (rich (TMs Q s K) (fun _ => true) i) := rfl
    rw [e2] at ho
    unfold richS at ho
    by_cases z : (rich (TMs Q s K) (fun _ => true) i).2 < TMs Q s K i
    · rw [if_neg (by omega), e27 i (by omega), bI_r H']; rw [if_pos ⟨rfl, z⟩] at ho; exact ho
    · rw [if_pos (by omega)]; rw [if_neg (fun y => z y.2)] at ho; exact ho) (-1, -1) rfl
  subst e
  have : s130_35 0 K (-1) (-1) 0 v' = rI (rich (TMs Q s K) (fun _ => true) (zn Q)).1 v' := hu _ (e130_35 H' l0 _ (by rw [h'.q, h'.n, if_pos (Int.le_refl _)]))
  rw [this]
  exact AnC.v a5
theorem c128 {w : Wd} {q : Nat} {Q : QT} {s : ST} {x : Int} (h : CQ w q Q s) : AnC w (F128 0 x w) (aSpent Q s x) := by
  refine AnC.of (e128 h.H l0) (AnC.P h fun x0 x1 => ?_)
  have h8 := h.n8
  have ht := h.t
  obtain ⟨p, rfl, hp⟩ := toN x0 x1
  obtain ⟨v, k1, ⟨c1, -⟩, k2⟩ := q169 h
  rw [k1, b0_r (k2.LR h.H), nn]
  have hL : ∀ k : Nat, k ≤ 60 → 0 ≤ uL (goN Q s k) p := fun k hk => ((GS_goN h.s k (by omega)).1 p).1
  have hX := lpX (F := fun k u => s128_11 0 (p : Int) k u) (I := fun k u => FrC w u ∧ RS u 39 (goN Q s k) ∧ ∀ i, i < k → uL (goN Q s i) p ≠ 0) (Q := fun o => ∃ w', o = (.inl (some (.inl (frs (fun k => decide (uL (goN Q s k) p = 0)) 61))), w') ∧ FrC w w') 60 (fun k u hk e => by
    obtain ⟨e1, e2, e3⟩ := e
    have hU := e1.LR h.H
    have e80 := q80 (p := p) hU l39 (by omega) e2
    have hl := hL k (by omega)
    by_cases z : uL (goN Q s k) p = 0
    · refine Or.inr ⟨_, e128_11 hU l0 _ ?_, u, rfl, e1⟩
      rw [if_neg (by omega), e80, bI_r hU, if_neg (by rw [if_neg (by omega)]; omega), frs_yes (k := k) (by simpa using z) (fun i hi => by simpa using e3 i hi) 61 (by omega)]
    · obtain ⟨u', l1, l2, l3, -⟩ := qgo (K := 1) h e1 e2 (GS_goN h.s k (by omega)) (by rw [goN_T]; omega)
      refine Or.inl ⟨u', fun o ho => e128_11 hU l0 _ ?_, l3, l2, fun i hi => ?_⟩
      · rw [if_neg (by omega), e80, bI_r hU, if_pos (by rw [if_pos (by omega)]), (h.fr e1).q, show F17 (0 + 27) q (0 + 39) 1 u = r0 u' from l1, b0_r (l3.LR h.H), wrd (by omega) (by omega)]
        exact ho
      · by_cases y : i = k
        · rw [y]; exact z
        · exact e3 i (by omega)) v ⟨k2, c1, fun i hi => absurd hi (Nat.not_lt_zero _)⟩
  rcases hX with ⟨u, hu, e1, e2, e3⟩ | ⟨o, ho, w', hw, hf⟩
  · have hU := e1.LR h.H
    have e80 := q80 (p := p) hU l39 (by omega) e2
    have hl := hL 60 (by omega)
    have : s128_11 0 (p : Int) 0 v = rI (frs (fun k => decide (uL (goN Q s k) p = 0)) 61) u := by
      refine hu _ (e128_11 hU l0 _ ?_)
      rw [if_pos (by omega), e80, bI_r hU]
      by_cases z : uL (goN Q s 60) p = 0
      · rw [if_neg (by rw [if_neg (by omega)]; omega), frs_yes (k := 60) (by simpa using z) (fun i hi => by simpa using e3 i hi) 61 (by omega)]
        rfl
      · rw [if_pos (by rw [if_pos (by omega)]), frs_no 61 (fun i hi => by
          by_cases y : i = 60
          · rw [y]; simpa using z
          · simpa using e3 i (by omega))]
    rw [this]
    exact AnC.v e1
  · refine ⟨w', ?_, hf⟩
    rw [hw] at ho; exact ho
