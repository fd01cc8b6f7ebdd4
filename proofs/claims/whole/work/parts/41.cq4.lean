/-! the class's answers: what would be best -/
/-- what one has left behind so many steps, was the state so -/
def lf (Q : QT) (s : ST) (p K : Nat) : Int := uL (goN Q s K) p
/-- a rewinding, a change of the trial, so many steps -/
theorem rgo2 {w v v1 : Wd} {q K : Nat} {Q : QT} {s u : ST} (h : CQ w q Q s) (f : FrC w v) (f1 : FrI (AS 39) v v1) (hu : RS v1 39 u) (hG : GS (zn Q) u) (hK : uT u + K < 2000) :
    ∃ v', F17 27 q 39 K v1 = r0 v' ∧ LR v1 ∧ (∀ k : Nat → Option Out, gQ (gR v1 0 3) 4 k = k q) ∧ FrC w v' ∧ RS v' 39 (goN Q u K) := by
  have f2 : FrC w v1 := f.tr (f1.C (fun b hb => by unfold AS at hb; unfold SC; omega))
  obtain ⟨v', l1, l2, l3, -⟩ := qgo (K := K) h f2 hu hG hK
  exact ⟨v', l1, f2.LR h.H, fun k => (h.fr f2).q, l3, l2⟩
theorem GS_W {n p : Nat} {s : ST} {x : Int} (h : GS n s) (hx : 0 ≤ x ∧ x < 60) : GS n (pW s (va_up (uW s) p x)) := by
  obtain ⟨g1, g2, g3, g4⟩ := h
  refine ⟨g1, g2, fun i => ?_, g4⟩
  show 0 ≤ va_up (uW s) p x i ∧ va_up (uW s) p x i < 60
  have := g3 i
  unfold va_up
  split <;> omega
theorem GS_L {n p : Nat} {s : ST} {x : Int} (h : GS n s) (hp : p < n) (hx : 0 ≤ x ∧ x ≤ 999) : GS n (pL s (va_up (uL s) p x)) := by
  obtain ⟨g1, g2, g3, g4⟩ := h
  refine ⟨fun i => ?_, fun i hi => ?_, g3, g4⟩
  · show 0 ≤ va_up (uL s) p x i ∧ va_up (uL s) p x i ≤ 999
    have := g1 i
    unfold va_up
    split <;> omega
  · show va_up (uL s) p x i = 0
    rw [up_c (by omega)]; exact g2 i hi
theorem GS_S {n : Nat} {s : ST} {f : Nat → Bool} (h : GS n s) : GS n (pS s f) := h
theorem lf_b {Q : QT} {s : ST} {p K : Nat} (hs : GS (zn Q) s) (hK : uT s + K ≤ 100000) : 0 ≤ lf Q s p K ∧ lf Q s p K ≤ 999 := (GS_goN hs K hK).1 p
/-- the state with another watch, another who stays in, other minutes -/
def sW (s : ST) (p : Nat) (x : Int) : ST := pW s (va_up (uW s) p x)
def sS (s : ST) (p : Nat) (b : Bool) : ST := pS s (fun i => if i = p then b else uI s i)
def sL (s : ST) (p : Nat) (x : Int) : ST := pL s (va_up (uL s) p x)
def aToSet (Q : QT) (s : ST) (x k wh : Int) : An := gdP (zn Q) x (gdW 2 wh (gdB 1 60 k (.inl (if wh = 0 then (rich (fun v => lf Q (sW s x.toNat v) x.toNat k.toNat) (fun _ => true) 60).1 else (rich (fun v => lf Q (sW s x.toNat v) x.toNat k.toNat) (fun _ => true) 60).2))))
def aToStay (Q : QT) (s : ST) (x k : Int) : An := gdP (zn Q) x (gdB 1 60 k (.inl (it (richS (fun p => lf Q (sS s p true) x.toNat k.toNat) (fun p => !uI s p)) (zn Q) (-1, lf Q s x.toNat k.toNat)).1))
def aToLast (Q : QT) (s : ST) (x k : Int) : An := gdP (zn Q) x (gdB 1 60 k (.inl (frs (fun v => decide (0 < lf Q (sL s x.toNat v) x.toNat k.toNat)) 1000)))
/-- begun at 0 or at -1: from the first one on it is the same -/
theorem rich_0 {f : Row} (hf : 0 ≤ f 0) (n : Nat) : it (richS f (fun _ => true)) (n + 1) (0, -1) = rich f (fun _ => true) (n + 1) := by
  induction n with
  | zero =>
    show richS f (fun _ => true) 0 (0, -1) = richS f (fun _ => true) 0 (-1, -1)
    unfold richS
    rw [if_pos ⟨rfl, by show (-1 : Int) < f 0; omega⟩, if_pos ⟨rfl, by show (-1 : Int) < f 0; omega⟩]
  | succ n ih =>
    rw [it_s, ih]; rfl
theorem c144 {w : Wd} {q : Nat} {Q : QT} {s : ST} {x k wh : Int} (h : CQ w q Q s) : AnC w (F144 0 x k wh w) (aToSet Q s x k wh) := by
  refine AnC.of (e144 h.H l0) (AnC.P h fun x0 x1 => AnC.W h.H fun w0 w1 => AnC.B h.H fun k0 k1 => ?_)
  have h8 := h.n8
  have ht := h.t
  obtain ⟨p, rfl, hp⟩ := toN x0 x1
  obtain ⟨K, rfl, hK⟩ := toN (show 0 ≤ k by omega) (show k < 61 by omega)
  rw [nn, nn]
  obtain ⟨⟨a, u⟩, hu, e1, e2⟩ := lpR (F := fun j (a : (Int × Int) × Wd) => s144_28 0 p K wh a.1.1 a.1.2 j a.2) (I := fun j a => a.1 = it (richS (fun v => lf Q (sW s p v) p K) (fun _ => true)) j (0, -1) ∧ FrC w a.2) 60 (fun j a hj e => by
    obtain ⟨a, u⟩ := a
    obtain ⟨e1, e2⟩ := e
    simp only [] at e1 e2
    have hu := h.fr e2
    obtain ⟨v, k1, ⟨c1, -⟩, k2⟩ := q169 hu
    have hV := k2.LR hu.H
    have r1 : RS (pI v 41 p j) 39 (sW s p j) := by rw [pI_eq (w := v) (a := 41) c1.2.1]; exact RS_W c1
    obtain ⟨v', l1, l2, l3, l4, l5⟩ := rgo2 (K := K) (v1 := pI v 41 p j) h (e2.tr k2) (FrI.p ⟨by omega, by omega⟩) r1 (GS_W h.s ⟨by omega, by omega⟩) (by show uT s + K < 2000; omega)
    have H' := l4.LR h.H
    have e75 : F75 39 p v' = rI (lf Q (sW s p j) p K) v' := by rw [q75 H' l39 (by omega), l5.1]; rfl
    refine ⟨(it (richS (fun v => lf Q (sW s p v) p K) (fun _ => true)) (j + 1) (0, -1), v'), fun o ho => e144_28 hu.H l0 _ ?_, rfl, l4⟩
    dsimp only at ho ⊢
    have e9 : it (richS (fun v => lf Q (sW s p v) p K) (fun _ => true)) (j + 1) (0, -1) = richS (fun v => lf Q (sW s p v) p K) (fun _ => true) j a := by rw [e1]; rfl
    rw [e9] at ho
    unfold richS at ho
    rw [if_neg (by omega), k1, b0_r hV, q87 (a := 39) (p := p) hV l39 (by omega)]
    show b0 (r0 (pI v 41 p j)) _ = _
    rw [b0_r l2, l3, l1, b0_r H', e75, bI_r H', wrd (by omega) (by omega)]
    by_cases z : a.2 < lf Q (sW s p j) p K
    · rw [if_neg (by omega), e75, bI_r H']
      rw [if_pos ⟨rfl, z⟩] at ho
      exact ho
    · rw [if_pos (by omega)]
      rw [if_neg (fun y => z y.2)] at ho
      exact ho) ((0, -1), w) ⟨rfl, FrC.rf⟩
  simp only [] at hu e1 e2
  have e3 := rich_0 (f := fun v => lf Q (sW s p v) p K) (lf_b (s := sW s p ((0 : Nat) : Int)) (GS_W h.s ⟨by omega, by omega⟩) (by show uT s + K ≤ 100000; omega)).1 59
  rw [show 59 + 1 = 60 from rfl] at e3
  rw [e3] at e1
  have H' := e2.LR h.H
  have : s144_28 0 p K wh 0 (-1) 0 w = rI (if wh = 0 then a.1 else a.2) u := by
    refine hu _ (e144_28 H' l0 _ ?_)
    rw [if_pos (by omega)]
    by_cases z : wh = 0
    · rw [if_neg (by omega), if_pos z]
    · rw [if_pos z, if_neg z]
  rw [this, e1]
  exact AnC.v e2
theorem c145 {w : Wd} {q : Nat} {Q : QT} {s : ST} {x k : Int} (h : CQ w q Q s) : AnC w (F145 0 x k w) (aToStay Q s x k) := by
  refine AnC.of (e145 h.H l0) (AnC.P h fun x0 x1 => AnC.B h.H fun k0 k1 => ?_)
  have h8 := h.n8
  have ht := h.t
  obtain ⟨p, rfl, hp⟩ := toN x0 x1
  obtain ⟨K, rfl, hK⟩ := toN (show 0 ≤ k by omega) (show k < 61 by omega)
  obtain ⟨v0, v1, a1, a2, a3, a4, a5, a6, -⟩ := rgo K h (by omega)
  have H1 := a5.LR h.H
  rw [nn, nn, a1, b0_r a2, a3, a4, b0_r H1, q75 (s := 39) H1 l39 (by omega), bI_r H1, show gI v1 (39 + 1) p = lf Q s p K by rw [a6.1]; rfl]
  obtain ⟨⟨a, u⟩, hu, e1, e2⟩ := lpR (F := fun j (a : (Int × Int) × Wd) => s145_48 0 p K a.1.1 a.1.2 j a.2) (I := fun j a => a.1 = it (richS (fun r => lf Q (sS s r true) p K) (fun r => !uI s r)) j (-1, lf Q s p K) ∧ FrC w a.2) (zn Q) (fun j a hj e => by
    obtain ⟨a, u⟩ := a
    obtain ⟨e1, e2⟩ := e
    simp only [] at e1 e2
    have hu := h.fr e2
    have hs34 := hu.2.2.2.1
    have e9 : it (richS (fun r => lf Q (sS s r true) p K) (fun r => !uI s r)) (j + 1) (-1, lf Q s p K) = richS (fun r => lf Q (sS s r true) p K) (fun r => !uI s r) j a := by rw [e1]; rfl
    cases z1 : uI s j
    · obtain ⟨v, k1, ⟨c1, -⟩, k2⟩ := q169 hu
      have hV := k2.LR hu.H
      have r1 : RS (pI v 39 4 (mk (fun i => if i = j then true else uI s i) 8)) 39 (sS s j true) := RS_I c1
      obtain ⟨v', l1, l2, l3, l4, l5⟩ := rgo2 (K := K) (v1 := pI v 39 4 (mk (fun i => if i = j then true else uI s i) 8)) h (e2.tr k2) (FrI.p ⟨by omega, by omega⟩) r1 (GS_S h.s) (by show uT s + K < 2000; omega)
      have H' := l4.LR h.H
      have e75 : F75 39 p v' = rI (lf Q (sS s j true) p K) v' := by rw [q75 H' l39 (by omega), l5.1]; rfl
      have e88 := q88 (a := 39) (p := j) (b := true) hV l39 (by omega) c1
      refine ⟨(it (richS (fun r => lf Q (sS s r true) p K) (fun r => !uI s r)) (j + 1) (-1, lf Q s p K), v'), fun o ho => e145_48 hu.H l0 _ ?_, rfl, l4⟩
      dsimp only at ho ⊢
      rw [e9] at ho
      unfold richS at ho
      rw [hu.q, hu.n, if_neg (by omega), q81 hu.H l34 (by omega) hs34, bI_r hu.H, z1, if_pos (show b2i false = 0 from rfl), k1, b0_r hV]
      have e88' : F88 (0 + 39) j 1 v = r0 (pI v 39 4 (mk (fun i => if i = j then true else uI s i) 8)) := e88
      rw [e88', b0_r l2, l3, l1, b0_r H', e75, bI_r H', wrd (by omega) (by omega)]
      by_cases z : a.2 < lf Q (sS s j true) p K
      · rw [if_neg (by omega), e75, bI_r H']
        rw [if_pos ⟨by show (!uI s j) = true; rw [z1]; rfl, z⟩] at ho
        exact ho
      · rw [if_pos (by omega)]
        rw [if_neg (fun y => z y.2)] at ho
        exact ho
    · refine ⟨(it (richS (fun r => lf Q (sS s r true) p K) (fun r => !uI s r)) (j + 1) (-1, lf Q s p K), u), fun o ho => e145_48 hu.H l0 _ ?_, rfl, e2⟩
      dsimp only at ho ⊢
      rw [e9] at ho
      unfold richS at ho
      rw [if_neg (fun y => by have y1 : (!uI s j) = true := y.1; rw [z1] at y1; cases y1)] at ho
      rw [hu.q, hu.n, if_neg (by omega), q81 hu.H l34 (by omega) hs34, bI_r hu.H, z1, if_neg (by decide), wrd (by omega) (by omega)]
      exact ho) ((-1, lf Q s p K), v1) ⟨rfl, a5⟩
  simp only [] at hu e1 e2
  have hu2 := h.fr e2
  have : s145_48 0 p K (-1) (lf Q s p K) 0 v1 = rI a.1 u := hu _ (e145_48 hu2.H l0 _ (by rw [hu2.q, hu2.n, if_pos (Int.le_refl _)]))
  rw [this, e1]
  exact AnC.v e2
theorem c147 {w u : Wd} {q p K m : Nat} {Q : QT} {s : ST} (h : CQ w q Q s) (f : FrC w u) (hp : p < zn Q) (hm : m ≤ 999) (hK : K ≤ 60) : ∃ u', F147 0 p m K u = rI (b2i (decide (0 < lf Q (sL s p m) p K))) u' ∧ FrC w u' := by
  have h8 := h.n8
  have ht := h.t
  have hu := h.fr f
  obtain ⟨v, k1, ⟨c1, -⟩, k2⟩ := q169 hu
  have hV := k2.LR hu.H
  have hG : GS (zn Q) (sL s p m) := GS_L h.s hp ⟨by omega, by omega⟩
  have hT : uT (sL s p m) = uT s := rfl
  have r1 : RS (pI v 40 p m) 39 (sL s p m) := by rw [pI_eq (w := v) (a := 40) c1.1]; exact RS_L c1
  have f1 : FrC w (pI v 40 p m) := (f.tr k2).tr (FrI.C (A := AS 39) (FrI.p ⟨by omega, by omega⟩) (fun b hb => by unfold AS at hb; unfold SC; omega))
  have hst : ∀ {o : Out}, s147_16 0 p m K 0 (pI v 40 p m) = some o → F147 0 p m K u = some o := by
    intro o ho
    refine e147 hu.H l0 _ ?_
    rw [k1, b0_r hV, q86 (a := 39) (p := p) hV l39 (by omega)]
    show b0 (r0 (pI v 40 p m)) _ = _
    rw [b0_r (f1.LR h.H)]
    exact ho
  have hX := lpX (F := fun j u => s147_16 0 p m K j u) (I := fun j u => FrC w u ∧ RS u 39 (goN Q (sL s p m) j)) (Q := fun o => ∃ u', o = (.inl (some (.inl 0)), u') ∧ FrC w u' ∧ lf Q (sL s p m) p K = 0) K (fun j u hj e => by
    obtain ⟨e1, e2⟩ := e
    have hU := e1.LR h.H
    have e80 := q80 (p := p) hU l39 (by omega) e2
    have hl := ((GS_goN hG j (by omega)).1 p).1
    by_cases z : uL (goN Q (sL s p m) j) p = 0
    · refine Or.inr ⟨_, e147_16 hU l0 _ ?_, u, rfl, e1, ?_⟩
      · rw [if_neg (by omega), e80, bI_r hU, if_neg (by rw [if_neg (by omega)]; omega)]
      · unfold lf
        have := goN_add (Q := Q) (s := sL s p m) j (K - j)
        rw [show j + (K - j) = K by omega] at this
        rw [this]
        exact spent_goN (GS_goN hG j (by omega)) z (K - j) (by rw [goN_T]; omega)
    · obtain ⟨u', l1, l2, l3, -⟩ := qgo (K := 1) h e1 e2 (GS_goN hG j (by omega)) (by rw [goN_T]; omega)
      refine Or.inl ⟨u', fun o ho => e147_16 hU l0 _ ?_, l3, l2⟩
      rw [if_neg (by omega), e80, bI_r hU, if_pos (by rw [if_pos (by omega)]), (h.fr e1).q, show F17 (0 + 27) q (0 + 39) 1 u = r0 u' from l1, b0_r (l3.LR h.H), wrd (by omega) (by omega)]
      exact ho) (pI v 40 p m) ⟨f1, r1⟩
  rcases hX with ⟨u', hu', e1, e2⟩ | ⟨o, ho, u', hw, e1, hz⟩
  · have hU := e1.LR h.H
    have e80 := q80 (p := p) hU l39 (by omega) e2
    refine ⟨u', hst (hu' _ (e147_16 hU l0 _ ?_)), e1⟩
    rw [if_pos (Int.le_refl _), e80, bI_r hU]
    by_cases z : 0 < uL (goN Q (sL s p m) K) p
    · rw [if_neg (by rw [if_pos z]; omega)]
      have : decide (0 < lf Q (sL s p m) p K) = true := decide_eq_true z
      rw [this]; rfl
    · rw [if_pos (by rw [if_neg z]; omega)]
      have : decide (0 < lf Q (sL s p m) p K) = false := decide_eq_false z
      rw [this]; rfl
  · refine ⟨u', hst ?_, e1⟩
    rw [hw] at ho
    rw [hz]
    exact ho
theorem c146 {w : Wd} {q : Nat} {Q : QT} {s : ST} {x k : Int} (h : CQ w q Q s) : AnC w (F146 0 x k w) (aToLast Q s x k) := by
  refine AnC.of (e146 h.H l0) (AnC.P h fun x0 x1 => AnC.B h.H fun k0 k1 => ?_)
  obtain ⟨p, rfl, hp⟩ := toN x0 x1
  obtain ⟨K, rfl, hK⟩ := toN (show 0 ≤ k by omega) (show k < 61 by omega)
  rw [nn, nn]
  have hX := lpX (F := fun m u => s146_15 0 p K m u) (I := fun m u => FrC w u ∧ ∀ i, i < m → decide (0 < lf Q (sL s p i) p K) = false) (Q := fun o => ∃ (j : Nat) (u' : Wd), j < 1000 ∧ o = (.inl (some (.inl (j : Int))), u') ∧ FrC w u' ∧ decide (0 < lf Q (sL s p j) p K) = true ∧ ∀ i, i < j → decide (0 < lf Q (sL s p i) p K) = false) 1000 (fun m u hm e => by
    obtain ⟨e1, e2⟩ := e
    obtain ⟨u', l1, l2⟩ := c147 (p := p) (m := m) (K := K) h e1 (by omega) (by omega) (by omega)
    cases z : decide (0 < lf Q (sL s p m) p K)
    · refine Or.inl ⟨u', fun o ho => e146_15 (e1.LR h.H) l0 _ ?_, l2, fun i hi => ?_⟩
      · rw [if_neg (by omega), l1, bI_r (l2.LR h.H), z, if_pos (show b2i false = 0 from rfl), wrd (by omega) (by omega)]
        exact ho
      · by_cases y : i = m
        · rw [y]; exact z
        · exact e2 i (by omega)
    · refine Or.inr ⟨_, e146_15 (e1.LR h.H) l0 _ ?_, m, u', hm, rfl, l2, z, e2⟩
      rw [if_neg (by omega), l1, bI_r (l2.LR h.H), z, if_neg (by decide)]) w ⟨FrC.rf, fun i hi => absurd hi (Nat.not_lt_zero _)⟩
  rcases hX with ⟨u, hu, e1, e2⟩ | ⟨o, ho, j, u', hj, hw, e1, hz, e2⟩
  · have : s146_15 0 p K 0 w = rI (-1) u := hu _ (e146_15 (e1.LR h.H) l0 _ (if_pos (by omega)))
    rw [this, frs_no 1000 e2]
    exact AnC.v e1
  · rw [hw] at ho
    rw [ho, frs_yes hz e2 1000 hj]
    exact AnC.v e1
