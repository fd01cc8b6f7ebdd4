/-! the reference's questions: what would be best -/
theorem up_up {f : Row} {k : Nat} {x y : Int} : va_up (va_up f k x) k y = va_up f k y := by
  funext i
  unfold va_up
  split <;> rfl
theorem sW_sW {s : ST} {p : Nat} {x y : Int} : sW (sW s p x) p y = sW s p y := by
  show pW (pW s _) (va_up (va_up (uW s) p x) p y) = _
  rw [up_up]; rfl
theorem sW_self {s : ST} {p : Nat} : sW s p (uW s p) = s := by
  unfold sW
  rw [up_self rfl]; rfl
theorem sL_sL {s : ST} {p : Nat} {x y : Int} : sL (sL s p x) p y = sL s p y := by
  show pL (pL s _) (va_up (va_up (uL s) p x) p y) = _
  rw [up_up]; rfl
theorem sL_self {s : ST} {p : Nat} : sL s p (uL s p) = s := by
  unfold sL
  rw [up_self rfl]; rfl
theorem MQy.sW {w : Wd} {Q : QT} {s : ST} {p : Nat} {y : Int} (h : MQy w Q s) (hy : 0 ≤ y ∧ y < 60) : MQy (pI w 491 p y) Q (sW s p y) := by
  have f : FrI (fun b => b = 491) w (pI w 491 p y) := FrI.p rfl
  have hr := h.1.2.1
  unfold RMS at hr
  refine ⟨h.1.to f (fun b b1 b2 z => by omega) ?_ (GS_W h.1.s hy) h.1.I (by rw [f.g (by decide)]; exact h.1.F), by rw [f.g (by decide)]; exact h.2⟩
  unfold RMS
  rw [f.g (show ¬ 489 = 491 by decide), f.g (show ¬ 490 = 491 by decide), f.g (show ¬ 487 = 491 by decide), f.g (show ¬ 473 = 491 by decide), gI_p, hr.2.2.1]
  exact ⟨hr.1, hr.2.1, rfl, hr.2.2.2⟩
theorem MQy.sL {w : Wd} {Q : QT} {s : ST} {p : Nat} {y : Int} (h : MQy w Q s) (hp : p < zn Q) (hy : 0 ≤ y ∧ y ≤ 999) : MQy (pI w 489 p y) Q (sL s p y) := by
  have f : FrI (fun b => b = 489) w (pI w 489 p y) := FrI.p rfl
  have hr := h.1.2.1
  unfold RMS at hr
  refine ⟨h.1.to f (fun b b1 b2 z => by omega) ?_ (GS_L h.1.s hp hy) h.1.I (by rw [f.g (by decide)]; exact h.1.F), by rw [f.g (by decide)]; exact h.2⟩
  unfold RMS
  rw [f.g (show ¬ 491 = 489 by decide), f.g (show ¬ 490 = 489 by decide), f.g (show ¬ 487 = 489 by decide), f.g (show ¬ 473 = 489 by decide), gI_p, hr.1]
  exact ⟨rfl, hr.2⟩
theorem MQy.pS {w : Wd} {Q : QT} {s : ST} {f : Nat → Bool} (h : MQy w Q s) (hf : ∀ p, zn Q ≤ p → f p = false) : MQy (pI w 473 36 (mk f 8)) Q (pS s f) := by
  have fr : FrI (fun b => b = 473) w (pI w 473 36 (mk f 8)) := FrI.p rfl
  have hr := h.1.2.1
  unfold RMS at hr
  refine ⟨h.1.to fr (fun b b1 b2 z => by omega) ?_ (GS_S h.1.s) hf (by rw [gI_c (by decide)]; exact h.1.F), by rw [gI_c (by decide)]; exact h.2⟩
  unfold RMS
  rw [fr.g (show ¬ 489 = 473 by decide), fr.g (show ¬ 490 = 473 by decide), fr.g (show ¬ 487 = 473 by decide), fr.g (show ¬ 491 = 473 by decide), gI_c (by decide), gI_c (by decide), gI_c (by decide), gI_s]
  exact ⟨hr.1, hr.2.1, hr.2.2.1, hr.2.2.2.1, hr.2.2.2.2.1, hr.2.2.2.2.2.1, hr.2.2.2.2.2.2.1, rfl⟩
theorem FrS.r {w : Wd} {a i : Nat} {x : Int} (ha : ZS a) (h : a ≠ 473) : FrS w (pI w a i x) := FrS.of (A := fun b => b = a) (FrI.p rfl) (fun b hb => by subst hb; exact ⟨ha, h⟩)
theorem r254 {w : Wd} {Q : QT} {s : ST} {x k wh : Int} (h : MQy w Q s) (ht : uT s ≤ 999) : AnM Q s 2 w (F254 473 x k wh w) (aToSet Q s x k wh) := by
  refine AnM.of (e254 h.H l473) ?_
  obtain ⟨h0, f0, z0⟩ := st0 h
  revert h0 f0 z0
  generalize pI w 473 4 0 = w0
  intro h0 f0 z0
  have hE : AnM Q s 2 w (s254_22 473 x k wh w0) (.inr 0) := AnM.of (e254_22 h0.H l473) (AnM.f h0 f0 rfl)
  refine AnM.P2 h0 hE fun x0 x1 => AnM.W3 hE fun q0 q1 => AnM.B1 h0 (AnM.f h0 f0 rfl) fun k0 k1 => ?_
  clear hE
  have h8 := h.1.n8
  have hT := h.1.t
  obtain ⟨p, rfl, hp⟩ := toN x0 x1
  obtain ⟨K, rfl, hK⟩ := toN (show 0 ≤ k by omega) (show k < 61 by omega)
  have hw := h.1.s.2.2.1 p
  rw [gdi (by omega) (by omega), nn, nn, show gI w0 (473 + 18) p = uW s p by rw [show gI w0 (473 + 18) = uW s from h0.1.2.1.2.2.1]]
  obtain ⟨u, hu, i1, ⟨y, hy, i2⟩, i3, i4⟩ := lpR (F := fun v (u : (Int × Int) × Wd) => s254_63 473 p K wh (uW s p) u.1.1 u.1.2 v u.2) (I := fun v u => u.1 = rich (fun v => lf Q (sW s p v) p K) (fun _ => true) v ∧ (∃ y, (0 ≤ y ∧ y < 60) ∧ MQy u.2 Q (sW s p y)) ∧ FrS w u.2 ∧ gI u.2 473 4 = 0) 60 (fun v u hv e => by
    obtain ⟨a, u⟩ := u
    obtain ⟨e1, ⟨y, hy, e2⟩, e3, e4⟩ := e
    simp only [] at e1 e2 e3 e4
    subst e1
    have h1 := e2.sW (p := p) (y := (v : Int)) (by omega)
    rw [sW_sW] at h1
    have hT' : uT (sW s p (v : Int)) = uT s := rfl
    obtain ⟨u', l1, l2, l3, l4⟩ := y237 (p := p) (K := K) h1 (by omega) (by omega)
    refine ⟨(rich (fun v => lf Q (sW s p v) p K) (fun _ => true) (v + 1), u'), fun o ho => e254_63 e2.H l473 _ ?_, rfl, ⟨v, by omega, l2⟩, (e3.tr (FrS.r (by unfold ZS; omega) (by decide))).tr l3, by rw [l4, gI_r (by decide)]; exact e4⟩
    have eR : rich (fun v => lf Q (sW s p v) p K) (fun _ => true) (v + 1) = richS (fun v => lf Q (sW s p v) p K) (fun _ => true) v (rich (fun v => lf Q (sW s p v) p K) (fun _ => true) v) := rfl
    rw [eR] at ho
    unfold richS at ho
    rw [if_neg (by omega), gdi (by omega) (by omega), nn, show (473 + 18 : Nat) = 491 from rfl, l1, bI_r l2.H, wrs (by omega)]
    generalize rich (fun v => lf Q (sW s p v) p K) (fun _ => true) v = A at *
    by_cases z : A.2 < lf Q (sW s p (v : Int)) p K
    · rw [if_pos z]
      rw [if_pos ⟨rfl, z⟩] at ho
      exact ho
    · rw [if_neg z]
      rw [if_neg (fun q => z q.2)] at ho
      exact ho) ((-1, -1), w0) ⟨rfl, ⟨uW s p, hw, by rw [sW_self]; exact h0⟩, f0, z0⟩
  obtain ⟨a, u⟩ := u
  simp only [] at hu i1 i2 i3 i4
  subst i1
  have h1 := i2.sW (p := p) (y := uW s p) hw
  rw [sW_sW, sW_self] at h1
  have f1 : FrS w (pI u 491 p (uW s p)) := i3.tr (FrS.r (by unfold ZS; omega) (by decide))
  have z1 : gI (pI u 491 p (uW s p)) 473 4 = 0 := by rw [gI_r (by decide)]; exact i4
  refine AnM.of hu (AnM.of (e254_63 i2.H l473) ?_)
  rw [if_pos (by omega), gdi (by omega) (by omega), nn, show (473 + 18 : Nat) = 491 from rfl]
  by_cases z : wh = 0
  · rw [if_neg (by omega), if_pos z]; exact AnM.v h1 f1 z1
  · rw [if_pos z, if_neg z]; exact AnM.v h1 f1 z1
theorem pS_self {s : ST} {f : Nat → Bool} : pS (pS s f) (uI s) = s := rfl
theorem r255 {w : Wd} {Q : QT} {s : ST} {x k : Int} (h : MQy w Q s) (ht : uT s ≤ 999) : AnM Q s 2 w (F255 473 x k w) (aToStay Q s x k) := by
  refine AnM.of (e255 h.H l473) ?_
  obtain ⟨h0, f0, z0⟩ := st0 h
  revert h0 f0 z0
  generalize pI w 473 4 0 = w0
  intro h0 f0 z0
  refine AnM.P1 h0 (AnM.f h0 f0 rfl) fun x0 x1 => AnM.B1 h0 (AnM.f h0 f0 rfl) fun k0 k1 => ?_
  have h8 := h.1.n8
  have hT := h.1.t
  obtain ⟨p, rfl, hp⟩ := toN x0 x1
  obtain ⟨K, rfl, hK⟩ := toN (show 0 ≤ k by omega) (show k < 61 by omega)
  obtain ⟨w1, b1, b2, b3, b4⟩ := y237 (p := p) (K := K) h0 (by omega) (by omega)
  rw [b1, bI_r b2.H, nn, nn, show gI w0 473 36 = mk (uI s) 8 from h0.1.2.1.2.2.2.2.2.2.2]
  obtain ⟨u, hu, i1, i2, i3, i4⟩ := lpR (F := fun v (u : (Int × Int) × Wd) => s255_56 473 p K (mk (uI s) 8) u.1.1 u.1.2 v u.2) (I := fun v u => u.1 = it (richS (fun q => lf Q (sS s q true) p K) (fun q => !uI s q)) v (-1, lf Q s p K) ∧ MQy u.2 Q s ∧ FrS w u.2 ∧ gI u.2 473 4 = 0) (zn Q) (fun v u hv e => by
    obtain ⟨a, u⟩ := u
    obtain ⟨e1, e2, e3, e4⟩ := e
    simp only [] at e1 e2 e3 e4
    have eR : it (richS (fun q => lf Q (sS s q true) p K) (fun q => !uI s q)) (v + 1) (-1, lf Q s p K) = richS (fun q => lf Q (sS s q true) p K) (fun q => !uI s q) v a := by rw [e1]; rfl
    cases hI : uI s v
    · have h1 := e2.pS (f := fun i => if i = v then true else uI s i) (fun q hq => by rw [if_neg (by omega)]; exact h.1.I q hq)
      have hT' : uT (sS s v true) = uT s := rfl
      obtain ⟨u', l1, l2, l3, l4⟩ := y237 (s := sS s v true) (p := p) (K := K) h1 (by omega) (by omega)
      have h2 := l2.pS (f := uI s) h.1.I
      have h3 : MQy (pI u' 473 36 (mk (uI s) 8)) Q s := h2
      refine ⟨(richS (fun q => lf Q (sS s q true) p K) (fun q => !uI s q) v a, pI u' 473 36 (mk (uI s) 8)), fun o ho => e255_56 e2.H l473 _ ?_, eR.symm, h3, ((e3.tr (FrS.p (by unfold ZF; omega))).tr l3).tr (FrS.p (by unfold ZF; omega)), by rw [gI_c (by decide), l4, gI_c (by decide)]; exact e4⟩
      unfold richS at ho
      rw [gdi (by omega) (by omega), show gI u (473 + 4) 1 = zn Q from e2.1.n, if_neg (by omega), y175 e2.H (by omega), bI_r e2.H, hI, if_pos (by decide), mk_set (by omega), l1, bI_r l2.H, wrs (by omega)]
      by_cases z : a.2 < lf Q (sS s v true) p K
      · rw [if_pos z]
        rw [if_pos ⟨show (!uI s v) = true by rw [hI]; rfl, z⟩] at ho
        exact ho
      · rw [if_neg z]
        rw [if_neg (fun q => z q.2)] at ho
        exact ho
    · refine ⟨(richS (fun q => lf Q (sS s q true) p K) (fun q => !uI s q) v a, u), fun o ho => e255_56 e2.H l473 _ ?_, eR.symm, e2, e3, e4⟩
      unfold richS at ho
      rw [gdi (by omega) (by omega), show gI u (473 + 4) 1 = zn Q from e2.1.n, if_neg (by omega), y175 e2.H (by omega), bI_r e2.H, hI, if_neg (by decide), wrs (by omega)]
      rw [if_neg (fun q => by have q1 : (!uI s v) = true := q.1; rw [hI] at q1; cases q1)] at ho
      exact ho) ((-1, lf Q s p K), w1) ⟨rfl, b2, f0.tr b3, b4.trans z0⟩
  obtain ⟨a, u⟩ := u
  simp only [] at hu i1 i2 i3 i4
  subst i1
  refine AnM.of hu (AnM.of (e255_56 i2.H l473) ?_)
  rw [gdi (by omega) (by omega), show gI u (473 + 4) 1 = zn Q from i2.1.n, if_pos (Int.le_refl _)]
  exact AnM.v i2 i3 i4
theorem r256 {w : Wd} {Q : QT} {s : ST} {x k : Int} (h : MQy w Q s) (ht : uT s ≤ 999) : AnM Q s 2 w (F256 473 x k w) (aToLast Q s x k) := by
  refine AnM.of (e256 h.H l473) ?_
  obtain ⟨h0, f0, z0⟩ := st0 h
  revert h0 f0 z0
  generalize pI w 473 4 0 = w0
  intro h0 f0 z0
  refine AnM.P1 h0 (AnM.f h0 f0 rfl) fun x0 x1 => AnM.B1 h0 (AnM.f h0 f0 rfl) fun k0 k1 => ?_
  have h8 := h.1.n8
  have hT := h.1.t
  obtain ⟨p, rfl, hp⟩ := toN x0 x1
  obtain ⟨K, rfl, hK⟩ := toN (show 0 ≤ k by omega) (show k < 61 by omega)
  have hw := h.1.s.1 p
  rw [gdi (by omega) (by omega), nn, nn, show gI w0 (473 + 16) p = uL s p by rw [show gI w0 (473 + 16) = uL s from h0.1.2.1.1]]
  have fin : ∀ {u : Wd} {y b x5 : Int}, MQy u Q (sL s p y) → FrS w u → gI u 473 4 = 0 → (999 < x5 ∨ b ≠ -1) → b = frs (fun v => decide (0 < lf Q (sL s p v) p K)) 1000 → AnM Q s 2 w (s256_50 473 p K (uL s p) b x5 u) (.inl (frs (fun v => decide (0 < lf Q (sL s p v) p K)) 1000)) := by
    intro u y b x5 hu hf hz hc hb
    have h1 := hu.sL (p := p) (y := uL s p) (by omega) hw
    rw [sL_sL, sL_self] at h1
    refine AnM.of (e256_50 hu.H l473) ?_
    have hv : AnM Q s 2 w (gd (inb (p : Int) 8) (rI b (pI u (473 + 16) (p : Int).toNat (uL s p)))) (.inl (frs (fun v => decide (0 < lf Q (sL s p v) p K)) 1000)) := by
      rw [gdi (by omega) (by omega), nn, hb]
      exact AnM.v h1 (hf.tr (FrS.r (by unfold ZS; omega) (by decide))) (by rw [gI_r (by decide)]; exact hz)
    by_cases z : 999 < x5
    · rw [if_pos z]; exact hv
    · rw [if_neg z, if_pos (by omega)]; exact hv
  rcases lpX (F := fun v u => s256_50 473 p K (uL s p) (-1) v u) (I := fun v u => frs (fun v => decide (0 < lf Q (sL s p v) p K)) v = -1 ∧ (∃ y, MQy u Q (sL s p y)) ∧ FrS w u ∧ gI u 473 4 = 0) (Q := fun o => AnM Q s 2 w (some o) (.inl (frs (fun v => decide (0 < lf Q (sL s p v) p K)) 1000))) 1000 (fun v u hv e => by
    obtain ⟨e1, ⟨y, e2⟩, e3, e4⟩ := e
    have h1 := e2.sL (p := p) (y := (v : Int)) (by omega) (by omega)
    rw [sL_sL] at h1
    have hT' : uT (sL s p (v : Int)) = uT s := rfl
    obtain ⟨u', l1, l2, l3, l4⟩ := y237 (p := p) (K := K) h1 (by omega) (by omega)
    have ef : frs (fun v => decide (0 < lf Q (sL s p v) p K)) (v + 1) = if frs (fun v => decide (0 < lf Q (sL s p v) p K)) v = -1 ∧ decide (0 < lf Q (sL s p (v : Int)) p K) = true then (v : Int) else frs (fun v => decide (0 < lf Q (sL s p v) p K)) v := rfl
    have fu : FrS w u' := (e3.tr (FrS.r (by unfold ZS; omega) (by decide))).tr l3
    have zu : gI u' 473 4 = 0 := by rw [l4, gI_r (by decide)]; exact e4
    by_cases z : 0 < lf Q (sL s p (v : Int)) p K
    · rw [if_pos ⟨e1, decide_eq_true z⟩] at ef
      have e9 := frs_m (P := fun v => decide (0 < lf Q (sL s p v) p K)) (k := v + 1) 1000 (by omega) (by omega)
      obtain ⟨w', t1, t2⟩ := fin (b := (v : Int)) (x5 := ((v + 1 : Nat) : Int)) l2 fu zu (Or.inr (by omega)) (by rw [e9, ef])
      refine Or.inr ⟨_, e256_50 e2.H l473 _ ?_, w', rfl, t2⟩
      rw [if_neg (by omega), if_neg (by omega), gdi (by omega) (by omega), nn, show (473 + 16 : Nat) = 489 from rfl, l1, bI_r l2.H, if_neg (by omega), wrs (by omega)]
      exact t1
    · rw [if_neg (fun q => z (of_decide_eq_true q.2))] at ef
      refine Or.inl ⟨u', fun o ho => e256_50 e2.H l473 _ ?_, by rw [ef]; exact e1, ⟨_, l2⟩, fu, zu⟩
      rw [if_neg (by omega), if_neg (by omega), gdi (by omega) (by omega), nn, show (473 + 16 : Nat) = 489 from rfl, l1, bI_r l2.H, if_pos (by omega), wrs (by omega)]
      exact ho) w0 ⟨rfl, ⟨uL s p, by rw [sL_self]; exact h0⟩, f0, z0⟩ with ⟨u, hu, i1, ⟨y, i2⟩, i3, i4⟩ | ⟨o, ho, hq⟩
  · exact AnM.of hu (fin i2 i3 i4 (Or.inl (by omega)) i1.symm)
  · have ho2 : s256_50 473 p K (uL s p) (-1) 0 w0 = some o := ho
    rw [ho2]; exact hq
