/-! the reference's questions: steps that go by -/
theorem r238 {w : Wd} {Q : QT} {s : ST} {x k wh : Int} (h : MQy w Q s) (ht : uT s ≤ 999) : AnM Q s 2 w (F238 473 x k wh w) (aThen Q s x k wh) := by
  refine AnM.of (e238 h.H l473) ?_
  obtain ⟨h0, f0, z0⟩ := st0 h
  revert h0 f0 z0
  generalize pI w 473 4 0 = w0
  intro h0 f0 z0
  have hE : AnM Q s 2 w (s238_22 473 x k wh w0) (.inr 0) := AnM.of (e238_22 h0.H l473) (AnM.f h0 f0 rfl)
  refine AnM.P2 h0 hE fun x0 x1 => AnM.W3 hE fun w0' w1' => AnM.B1 h0 (AnM.f h0 f0 rfl) fun k0 k1 => ?_
  have h8 := h.1.n8
  obtain ⟨p, rfl, hp⟩ := toN x0 x1
  obtain ⟨K, rfl, hK⟩ := toN k0 (show k < 61 by omega)
  obtain ⟨v, a1, a2, a3, a4, a5⟩ := pk0 h0
  obtain ⟨v', b1, b2, b3, b4⟩ := y223 (K := K) a3 a4.f (by omega)
  rw [show (473 + 24 : Nat) = 497 from rfl, a1, b0_r a2, b1, b0_r b2.H, nn, nn]
  by_cases z : wh = 0
  · rw [if_neg (by omega), gdi (by omega) (by omega), if_pos z, show gI v' (473 + 16) p = uL (goN Q s K) p by rw [show gI v' (473 + 16) = uL (goN Q s K) from b2.2.1.1]]
    exact AnM.of (e238_79 b2.H l473) (AnM.go K h0 f0 z0 b2 (a4.J b3) (by omega))
  · rw [if_pos z, gdi (by omega) (by omega), if_neg z, show gI v' (473 + 17) p = uG (goN Q s K) p by rw [show gI v' (473 + 17) = uG (goN Q s K) from b2.2.1.2.1]]
    exact AnM.of (e238_79 b2.H l473) (AnM.go K h0 f0 z0 b2 (a4.J b3) (by omega))
theorem r239 {w : Wd} {Q : QT} {s : ST} {x k : Int} (h : MQy w Q s) (ht : uT s ≤ 999) : AnM Q s 2 w (F239 473 x k w) (aGained Q s x k) := by
  refine AnM.of (e239 h.H l473) ?_
  obtain ⟨h0, f0, z0⟩ := st0 h
  revert h0 f0 z0
  generalize pI w 473 4 0 = w0
  intro h0 f0 z0
  refine AnM.P1 h0 (AnM.f h0 f0 rfl) fun x0 x1 => AnM.B2 h0 (AnM.f h0 f0 rfl) fun k0 k1 => ?_
  have h8 := h.1.n8
  obtain ⟨p, rfl, hp⟩ := toN x0 x1
  obtain ⟨K, rfl, hK⟩ := toN k0 (show k < 61 by omega)
  obtain ⟨w', a1, a2, a3, a4⟩ := y237 (p := p) (K := K) h0 (by omega) (by omega)
  have b1 := (GS_goN h.1.s K (by omega)).1 p
  have b2 := h.1.s.1 p
  rw [a1, bI_r a2.H, gdi (by omega) (by omega), nn, nn, show gI w' (473 + 16) p = uL s p by rw [show gI w' (473 + 16) = uL s from a2.1.2.1.1], show lf Q s p K = uL (goN Q s K) p from rfl, wrd (by omega) (by omega)]
  exact AnM.v a2 (f0.tr a3) (a4.trans z0)
theorem r240 {w : Wd} {Q : QT} {s : ST} {x k : Int} (h : MQy w Q s) (ht : uT s ≤ 999) : AnM Q s 2 w (F240 473 x k w) (aAsked Q s x k) := by
  refine AnM.of (e240 h.H l473) ?_
  obtain ⟨h0, f0, z0⟩ := st0 h
  revert h0 f0 z0
  generalize pI w 473 4 0 = w0
  intro h0 f0 z0
  refine AnM.P1 h0 (AnM.f h0 f0 rfl) fun x0 x1 => AnM.B1 h0 (AnM.f h0 f0 rfl) fun k0 k1 => ?_
  have h8 := h.1.n8
  obtain ⟨p, rfl, hp⟩ := toN x0 x1
  obtain ⟨K, rfl, hK⟩ := toN (show 0 ≤ k by omega) (show k < 61 by omega)
  obtain ⟨v, v', w', a1, a2, a3, a4, a5, a6, a7, a8, a9, a10⟩ := yrun (K := K) h0 (by omega)
  rw [show (473 + 24 : Nat) = 497 from rfl, a1, b0_r a2, a3, b0_r a4.H, a6, b0_r a7.H, gdi (by omega) (by omega), nn, nn, show gI w' (473 + 22) p = WH Q (goN Q s (K - 1)) p by rw [show gI w' (473 + 22) = gI v' 495 from a10]; exact a5 (by omega) p (by omega)]
  exact AnM.v a7 (f0.tr a8) (a9.trans z0)
theorem frs_m {P : Nat → Bool} {k : Nat} : ∀ n, k ≤ n → frs P k ≠ -1 → frs P n = frs P k := by
  intro n
  induction n with
  | zero => intro h _; rw [show k = 0 by omega]
  | succ n ih =>
    intro h hk
    by_cases e : k = n + 1
    · rw [e]
    · have := ih (by omega) hk
      show (if frs P n = -1 ∧ P n = true then (n : Int) else frs P n) = _
      rw [if_neg (by omega), this]
theorem r241 {w : Wd} {Q : QT} {s : ST} {x : Int} (h : MQy w Q s) (ht : uT s ≤ 999) : AnM Q s 2 w (F241 473 x w) (aSpent Q s x) := by
  refine AnM.of (e241 h.H l473) ?_
  obtain ⟨h0, f0, z0⟩ := st0 h
  revert h0 f0 z0
  generalize pI w 473 4 0 = w0
  intro h0 f0 z0
  refine AnM.P1 h0 (AnM.f h0 f0 rfl) fun x0 x1 => ?_
  have h8 := h.1.n8
  obtain ⟨p, rfl, hp⟩ := toN x0 x1
  rw [nn]
  obtain ⟨v, a1, a2, a3, a4, a5⟩ := pk0 h0
  rw [show (473 + 24 : Nat) = 497 from rfl, a1, b0_r a2]
  have fin : ∀ {u : Wd} {K : Nat} {b : Int} {y : Int}, K ≤ 61 → MQx u Q (goN Q s K) → Rn w0 s u → b = frs (fun k => decide (uL (goN Q s k) p = 0)) 61 → AnM Q s 2 w (s241_64 473 p b y u) (.inl (frs (fun k => decide (uL (goN Q s k) p = 0)) 61)) := by
    intro u K b y hK hu f hb
    refine AnM.of (e241_64 hu.H l473) ?_
    rw [hb]
    exact AnM.go K h0 f0 z0 hu f (by omega)
  rcases lpX (F := fun k u => s241_32 473 p (-1) k u) (I := fun k u => MQx u Q (goN Q s k) ∧ Rn w0 s u ∧ frs (fun k => decide (uL (goN Q s k) p = 0)) k = -1) (Q := fun o => AnM Q s 2 w (some o) (.inl (frs (fun k => decide (uL (goN Q s k) p = 0)) 61))) 61 (fun k u hk e => by
    obtain ⟨e1, ef, e2⟩ := e
    have hT := goN_T (Q := Q) (s := s) k
    obtain ⟨u', l1, l2, l3, -⟩ := y222 e1 ef.f (by omega)
    have eL : gI u (473 + 16) p = uL (goN Q s k) p := by rw [show gI u (473 + 16) = uL (goN Q s k) from e1.2.1.1]
    have nx : ∀ (b : Int) {o : Out}, s241_32 473 p b ((k + 1 : Nat) : Int) u' = some o → s241_54 473 p b k u = some o := by
      intro b o ho
      refine e241_54 e1.H l473 _ ?_
      rw [l1, b0_r l2.H, wrs (by omega)]; exact ho
    by_cases z : uL (goN Q s k) p = 0
    · refine Or.inr ?_
      have hfr : frs (fun k => decide (uL (goN Q s k) p = 0)) (k + 1) = k := by
        show (if frs (fun k => decide (uL (goN Q s k) p = 0)) k = -1 ∧ decide (uL (goN Q s k) p = 0) = true then (k : Int) else _) = _
        rw [if_pos ⟨e2, decide_eq_true z⟩]
      have hb : (k : Int) = frs (fun k => decide (uL (goN Q s k) p = 0)) 61 := by rw [frs_m (k := k + 1) 61 (by omega) (by omega), hfr]
      obtain ⟨w', t1, t2⟩ := fin (y := ((k + 1 : Nat) : Int)) (show k + 1 ≤ 61 by omega) l2 (ef.J l3) hb
      refine ⟨_, e241_32 e1.H l473 _ ?_, w', rfl, t2⟩
      rw [if_neg (by omega), if_neg (by omega), gdi (by omega) (by omega), nn, eL, if_neg (by omega)]
      refine nx _ (e241_32 l2.H l473 _ ?_)
      by_cases y : (60 : Int) < ((k + 1 : Nat) : Int)
      · rw [if_pos y]; exact t1
      · rw [if_neg y, if_pos (by omega)]; exact t1
    · refine Or.inl ⟨u', fun o ho => e241_32 e1.H l473 _ ?_, l2, ef.J l3, ?_⟩
      · rw [if_neg (by omega), if_neg (by omega), gdi (by omega) (by omega), nn, eL, if_pos z]
        exact nx _ ho
      · show (if frs (fun k => decide (uL (goN Q s k) p = 0)) k = -1 ∧ decide (uL (goN Q s k) p = 0) = true then (k : Int) else frs (fun k => decide (uL (goN Q s k) p = 0)) k) = -1
        rw [if_neg (fun q => z (of_decide_eq_true q.2)), e2]) v ⟨a3, a4, rfl⟩ with ⟨u, hu, i1, i2, i3⟩ | ⟨o, ho, hq⟩
  · exact AnM.of (Rf.tr (fun o ho => e241_32 i1.H l473 _ (by rw [if_pos (by omega)]; exact ho)) hu) (fin (Nat.le_refl _) i1 i2 i3.symm)
  · rw [ho]; exact hq
/-- who has least, of so many -/
theorem poor_in {f : Row} {P : Nat → Bool} (hf : ∀ p, f p ≤ 999) : ∀ n, ((poor f P n).1 = -1 ∧ (poor f P n).2 = 1000) ∨ (∃ q : Nat, q < n ∧ (poor f P n).1 = q ∧ (poor f P n).2 = f q) := by
  intro n
  induction n with
  | zero => exact Or.inl ⟨rfl, rfl⟩
  | succ n ih =>
    have e : poor f P (n + 1) = poorS f P n (poor f P n) := rfl
    rw [e]
    unfold poorS
    by_cases h : P n = true ∧ f n < (poor f P n).2
    · rw [if_pos h]
      exact Or.inr ⟨n, by omega, rfl, rfl⟩
    · rw [if_neg h]
      rcases ih with q | ⟨q, h1, h2, h3⟩
      · exact Or.inl q
      · exact Or.inr ⟨q, by omega, h2, h3⟩
theorem poorn {f : Row} {P : Nat → Bool} : ∀ {n m : Nat}, n ≤ m → (∀ i, n ≤ i → P i = false) → poor f P m = poor f P n := by
  intro n m hm hP
  induction m with
  | zero => rw [show n = 0 by omega]
  | succ m ih =>
    by_cases e : n = m + 1
    · rw [e]
    · show poorS f P m (poor f P m) = _
      unfold poorS
      rw [if_neg (fun z => by rw [hP m (by omega)] at z; exact absurd z.1 (by decide)), ih (by omega)]
theorem alv_o {Q : QT} {s : ST} (h : GS (zn Q) s) : ∀ i, zn Q ≤ i → alv s i = false := fun i hi => by unfold alv; rw [h.2.1 i hi]; rfl
theorem y242 {w : Wd} {Q : QT} {s : ST} (h : MQx w Q s) : F242 473 w = rI (poor (uL s) (alv s) 8).1 w := by
  have h8 := h.n8
  have hL : ∀ j, gI w (473 + 16) j = uL s j := fun j => by rw [show gI w (473 + 16) = uL s from h.2.1.1]
  obtain ⟨v, hv, e⟩ := lpR (F := fun k v => s242_4 473 v k w) (I := fun k v => v = (poor (uL s) (alv s) k).1) (zn Q) (fun k v hk e => by
    subst e
    refine ⟨_, fun o ho => e242_4 h.H l473 _ ?_, rfl⟩
    have e2 : poor (uL s) (alv s) (k + 1) = poorS (uL s) (alv s) k (poor (uL s) (alv s) k) := rfl
    rw [e2] at ho
    unfold poorS at ho
    have hb := h.s.1 k
    rw [gdi (by omega) (by omega), show gI w (473 + 4) 1 = zn Q from h.n, if_neg (by omega), gdi (by omega) (by omega), nn, hL, wrs (by omega)]
    by_cases z : uL s k ≤ 0
    · rw [if_pos z]
      rw [if_neg (fun q => by have := of_decide_eq_true (show decide (0 < uL s k) = true from q.1); omega)] at ho
      exact ho
    · rw [if_neg z]
      have ha : alv s k = true := decide_eq_true (by omega)
      rcases poor_in (P := alv s) (fun p => (h.s.1 p).2) k with ⟨h1, h2⟩ | ⟨r, h1, h2, h3⟩
      · rw [if_pos h1]
        rw [if_pos ⟨ha, by omega⟩] at ho
        exact ho
      · rw [h2, if_neg (by omega), gdi (by omega) (by omega), gdi (by omega) (by omega), nn, hL]
        by_cases y : uL s r ≤ uL s k
        · rw [if_pos y]
          rw [if_neg (by rw [h3]; exact fun q => by omega), h2] at ho
          exact ho
        · rw [if_neg y]
          rw [if_pos ⟨ha, by omega⟩] at ho
          exact ho) (-1) rfl
  subst e
  rw [poorn h8 (alv_o h.s)]
  exact e242 h.H l473 _ (hv _ (e242_4 h.H l473 _ (by rw [gdi (by omega) (by omega), show gI w (473 + 4) 1 = zn Q from h.n, if_pos (Int.le_refl _)])))
theorem sumNn {f : Row} : ∀ {n m : Nat}, n ≤ m → (∀ i, n ≤ i → f i = 0) → sumN f m = sumN f n := by
  intro n m hm hP
  induction m with
  | zero => rw [show n = 0 by omega]
  | succ m ih =>
    by_cases e : n = m + 1
    · rw [e]
    · show sumN f m + f m = _
      rw [hP m (by omega), ih (by omega)]; omega
theorem y224 {w : Wd} {Q : QT} {s : ST} (h : MQx w Q s) : F224 473 w = rI (sumN (uL s) 8) w := by
  have h8 := h.n8
  have hL : ∀ j, gI w (473 + 16) j = uL s j := fun j => by rw [show gI w (473 + 16) = uL s from h.2.1.1]
  obtain ⟨v, hv, e⟩ := lpR (F := fun k v => s224_4 473 v k w) (I := fun k v => v = sumN (uL s) k) (zn Q) (fun k v hk e => by
    subst e
    refine ⟨_, fun o ho => e224_4 h.H l473 _ ?_, rfl⟩
    have b1 := h.s.1 k
    have b2 := sumN_b h.s.1 k
    rw [gdi (by omega) (by omega), show gI w (473 + 4) 1 = zn Q from h.n, if_neg (by omega), gdi (by omega) (by omega), nn, hL, wrs (by omega), wrd (by omega) (by omega)]
    exact ho) 0 rfl
  subst e
  rw [sumNn h8 h.s.2.1]
  exact e224 h.H l473 _ (hv _ (e224_4 h.H l473 _ (by rw [gdi (by omega) (by omega), show gI w (473 + 4) 1 = zn Q from h.n, if_pos (Int.le_refl _)])))
theorem PSs_s {Q : QT} {s : ST} {k : Nat} : PSs Q s (k + 1) = PSs Q s k + PS Q (goN Q s k) (zn Q) := rfl
theorem r243 {w : Wd} {Q : QT} {s : ST} {k wh : Int} (h : MQy w Q s) (ht : uT s ≤ 999) : AnM Q s 2 w (F243 473 k wh w) (aLater Q s k wh) := by
  refine AnM.of (e243 h.H l473) ?_
  obtain ⟨h0, f0, z0⟩ := st0 h
  revert h0 f0 z0
  generalize pI w 473 4 0 = w0
  intro h0 f0 z0
  refine AnM.W1 rfl h0 (AnM.f h0 f0 rfl) fun q0 q1 => AnM.B1 h0 (AnM.f h0 f0 rfl) fun k0 k1 => ?_
  have h8 := h.1.n8
  have hT0 := h.1.t
  obtain ⟨K, rfl, hK⟩ := toN k0 (show k < 61 by omega)
  obtain ⟨v, a1, a2, a3, a4, a5⟩ := pk0 h0
  rw [show (473 + 24 : Nat) = 497 from rfl, a1, b0_r a2, nn]
  obtain ⟨u, hu, i1, i2⟩ := lpR (F := fun i u => s243_55 473 K wh (PSs Q s i.toNat) i u) (I := fun i u => MQx u Q (goN Q s i) ∧ Rn w0 s u) K (fun i u hi e => by
    obtain ⟨e1, ef⟩ := e
    have hT := goN_T (Q := Q) (s := s) i
    obtain ⟨u', l1, l2, l3, -, l5, -⟩ := y222 e1 ef.f (by omega)
    have b1 := PSs_b h.1.g h.1.s i (by omega) (by omega)
    have b2 := PS_b (s := goN Q s i) h.1.g e1.s
    refine ⟨u', fun o ho => e243_55 e1.H l473 _ ?_, l2, ef.J l3⟩
    simp only [nn] at ho ⊢
    rw [if_neg (by omega), l1, b0_r l2.H, wrs (by omega), l5, wrd (by omega) (by omega)]
    rw [PSs_s] at ho
    exact ho) v ⟨a3, a4⟩
  have fin : ∀ x : Int, AnM Q s 2 w (s243_130 473 K wh (PSs Q s K) K x u) (.inl x) := fun x => AnM.of (e243_130 i1.H l473) (AnM.go K h0 f0 z0 i1 i2 (by omega))
  refine AnM.of hu (AnM.of (e243_55 i1.H l473) ?_)
  simp only [nn]
  rw [if_pos (Int.le_refl _)]
  by_cases y0 : wh = 0
  · rw [if_neg (by omega), if_pos y0, y213 i1, bI_r i1.H]; exact fin _
  rw [if_pos y0, if_neg y0]
  by_cases y1 : wh = 1
  · rw [if_neg (by omega), if_pos y1, y213 i1, bI_r i1.H, y220 i1 (alv_o i1.s), bI_r i1.H]; exact fin _
  rw [if_pos y1, if_neg y1]
  by_cases y2 : wh = 2
  · rw [if_neg (by omega), if_pos y2, y242 i1, bI_r i1.H]; exact fin _
  rw [if_pos y2, if_neg y2]
  by_cases y3 : wh = 3
  · rw [if_neg (by omega), if_pos y3, y224 i1, bI_r i1.H]; exact fin _
  rw [if_pos y3, if_neg y3]
  exact fin _
theorem TM_s {Q : QT} {s : ST} {k i : Nat} : TM Q s (k + 1) i = TM Q s k i + dT Q (sg Q s k) k i := rfl
theorem TMs_s {Q : QT} {s : ST} {k i : Nat} : TMs Q s (k + 1) i = TMs Q s k i + TM Q (goN Q s k) (zn Q) i := rfl
theorem HDs_s {Q : QT} {s : ST} {k q i : Nat} : HDs Q s (k + 1) q i = HDs Q s k q i + HD Q (goN Q s k) (zn Q) q i := rfl
theorem SLs_s {Q : QT} {s : ST} {k : Nat} : SLs Q s (k + 1) = SLs Q s k + b2i (noA Q (goN Q s k) (zn Q)) := rfl
theorem TMk_b {Q : QT} {s : ST} (k i : Nat) (hk : k ≤ 8) : 0 ≤ TM Q s k i ∧ TM Q s k i ≤ 8 := by
  have h := sumN_bn (f := fun p => dT Q (sg Q s p) p i) (M := 1) k (fun p _ => dT_b Q _ p i)
  unfold TM; omega
theorem y244i {u : Wd} {Q : QT} {s : ST} {K : Nat} {x : Int} (h : MQx u Q (stq Q s)) (hG : GS (zn Q) s) (h5 : ∀ j, j < zn Q → gI u 495 j = WH Q s j) (f : Row) (hf : ∀ j, j < 8 → gI u 498 j = f j) (hb : ∀ j, 0 ≤ f j ∧ f j ≤ 100000) :
    ∃ u', Rf (s244_55 473 K (wr (x + 1)) u') (s244_66 473 K x 0 u) ∧ FrI (fun b => b = 498) u u' ∧ ∀ j, j < 8 → gI u' 498 j = f j + TM Q s (zn Q) j := by
  have h8 := h.n8
  obtain ⟨v, hv, i1, i2⟩ := lpR (F := fun p v => s244_66 473 K x p v) (I := fun p v => FrI (fun b => b = 498) u v ∧ ∀ j, j < 8 → gI v 498 j = f j + TM Q s p j) (zn Q) (fun p v hp e => by
    obtain ⟨ef, e1⟩ := e
    have HV := ef.LR h.H
    have e5 : gI v (473 + 22) p = WH Q s p := by rw [show gI v (473 + 22) = gI u 495 from ef.g (by decide)]; exact h5 p hp
    have en : gI v (473 + 4) 1 = zn Q := by rw [show gI v (473 + 4) = gI u 477 from ef.g (by decide)]; exact h.n
    by_cases z : asks Q (sg Q s p) p = true
    · have eW : WH Q s p = ((whoA Q (sg Q s p) p : Nat) : Int) := by unfold WH; rw [if_pos z]
      obtain ⟨a1, a2, a3, a4⟩ := asks_in z
      obtain ⟨i1, i2, i3⟩ := whoA_ok (GS_sg hG p (by omega)) a3
      generalize hq : whoA Q (sg Q s p) p = q at *
      have b1 := TMk_b (Q := Q) (s := s) p q (by omega)
      have b2 := hb q
      refine ⟨pI v 498 q (f q + TM Q s p q + 1), fun o ho => e244_66 HV l473 _ ?_, ef.pp rfl, fun j hj => ?_⟩
      · rw [gdi (by omega) (by omega), en, if_neg (by omega), gdi (by omega) (by omega), nn, e5, eW, if_neg (by omega), gdi (by omega) (by omega), gdi (by omega) (by omega), gdi (by omega) (by omega), nn, show (473 + 25 : Nat) = 498 from rfl, e1 q i2, wrd (z := f q + TM Q s p q + 1) (by omega) (by omega), wrs (k := p) (by omega)]
        exact ho
      · rw [TM_s]
        unfold dT
        rw [hq]
        by_cases y : j = q
        · subst y; rw [gI_s, if_pos ⟨z, rfl⟩, Int.add_assoc]
        · rw [gI_c y, if_neg (fun w => y w.2.symm), e1 j hj]; omega
    · have eW : WH Q s p = -1 := by unfold WH; rw [if_neg z]
      refine ⟨v, fun o ho => e244_66 HV l473 _ ?_, ef, fun j hj => ?_⟩
      · rw [gdi (by omega) (by omega), en, if_neg (by omega), gdi (by omega) (by omega), nn, e5, eW, if_pos rfl, wrs (by omega)]
        exact ho
      · rw [TM_s]
        unfold dT
        rw [if_neg (fun w => z w.1), e1 j hj]; omega) u ⟨FrI.rf, fun j hj => by rw [hf j hj]; show f j = f j + 0; omega⟩
  have en : gI v (473 + 4) 1 = zn Q := by rw [show gI v (473 + 4) = gI u 477 from i1.g (by decide)]; exact h.n
  exact ⟨v, fun o ho => hv _ (e244_66 (i1.LR h.H) l473 _ (by rw [gdi (by omega) (by omega), en, if_pos (Int.le_refl _)]; exact ho)), i1, i2⟩
theorem y244z {w : Wd} {K : Int} (H : LR w) : ∃ v, Rf (b0 (F208 473 (473 + 24) 0 v) (fun w2 => s244_55 473 K 0 w2)) (s244_25 473 K 0 w) ∧ FrI (fun b => b = 498) w v ∧ ∀ j, j < 8 → gI v 498 j = 0 := by
  obtain ⟨v, hv, i1, i2⟩ := lpR (F := fun i v => s244_25 473 K i v) (I := fun i v => FrI (fun b => b = 498) w v ∧ ∀ j, j < i → gI v 498 j = 0) 8 (fun i v hi e => by
    obtain ⟨ef, e1⟩ := e
    refine ⟨pI v 498 i 0, fun o ho => e244_25 (ef.LR H) l473 _ ?_, ef.pp rfl, fun j hj => ?_⟩
    · rw [if_neg (by omega), gdi (by omega) (by omega), nn, wrs (by omega)]
      exact ho
    · by_cases z : j = i
      · subst z; rw [gI_s]
      · rw [gI_c z]; exact e1 j (by omega)) w ⟨FrI.rf, fun j hj => absurd hj (Nat.not_lt_zero _)⟩
  exact ⟨v, fun o ho => hv _ (e244_25 (i1.LR H) l473 _ (by rw [if_pos (by omega)]; exact ho)), i1, i2⟩
theorem y244s {w : Wd} {Q : QT} {s : ST} {K : Int} {f : Row} (h : MQx w Q s) (hf : ∀ j, j < 8 → gI w 498 j = f j) (hb : ∀ j, 0 ≤ f j) : s244_126 473 K (-1) 0 w = rI (rich f (fun _ => true) (zn Q)).1 w := by
  have h8 := h.n8
  obtain ⟨v, hv, e⟩ := lpR (F := fun k v => s244_126 473 K v k w) (I := fun k v => v = (rich f (fun _ => true) k).1) (zn Q) (fun k v hk e => by
    subst e
    refine ⟨_, fun o ho => e244_126 h.H l473 _ ?_, rfl⟩
    have e2 : rich f (fun _ => true) (k + 1) = richS f (fun _ => true) k (rich f (fun _ => true) k) := rfl
    rw [e2] at ho
    unfold richS at ho
    have hk0 := hb k
    rw [gdi (by omega) (by omega), show gI w (473 + 4) 1 = zn Q from h.n, if_neg (by omega), wrs (by omega)]
    rcases rich_in (P := fun _ => true) hb k with ⟨h1, h2, -⟩ | ⟨r, h1, h2, h3, h4, h5⟩
    · rw [if_pos h1]
      rw [if_pos ⟨rfl, by omega⟩] at ho
      exact ho
    · rw [h2, if_neg (by omega), gdi (by omega) (by omega), gdi (by omega) (by omega), nn, nn, show (473 + 25 : Nat) = 498 from rfl, hf k (by omega), hf r (by omega)]
      by_cases z : f r < f k
      · rw [if_neg (by omega)]
        rw [if_pos ⟨rfl, by omega⟩] at ho
        exact ho
      · rw [if_pos (by omega)]
        rw [if_neg (by rw [h3]; exact fun y => z y.2), h2] at ho
        exact ho) (-1) rfl
  subst e
  exact hv _ (e244_126 h.H l473 _ (by rw [gdi (by omega) (by omega), show gI w (473 + 4) 1 = zn Q from h.n, if_pos (Int.le_refl _)]))
theorem r244 {w : Wd} {Q : QT} {s : ST} {k : Int} (h : MQy w Q s) (ht : uT s ≤ 999) : AnM Q s 1 w (F244 473 k w) (aBusiest Q s k) := by
  refine AnM.of (e244 h.H l473) ?_
  obtain ⟨h0, f0, z0⟩ := st0 h
  revert h0 f0 z0
  generalize pI w 473 4 0 = w0
  intro h0 f0 z0
  refine AnM.B1 h0 (AnM.f h0 f0 rfl) fun k0 k1 => ?_
  have h8 := h.1.n8
  have hT0 := h.1.t
  obtain ⟨K, rfl, hK⟩ := toN (show 0 ≤ k by omega) (show k < 61 by omega)
  obtain ⟨w1, g1, g2, g3⟩ := y244z (K := K) h0.H
  have h1 : MQy w1 Q s := h0.fr g2 (fun b hb => by omega)
  have f1 : FrS w w1 := f0.tr (FrS.of g2 (fun b hb => by unfold ZS; omega))
  have z1 : gI w1 473 4 = 0 := by rw [g2.g (by decide)]; exact z0
  obtain ⟨v, a1, a2, a3, a4, a5⟩ := pk0 h1
  obtain ⟨u, hu, i1, i2, i3⟩ := lpR (F := fun i u => s244_55 473 K i u) (I := fun i u => MQx u Q (goN Q s i) ∧ Rn w1 s u ∧ ∀ j, j < 8 → gI u 498 j = TMs Q s i j) K (fun i u hi e => by
    obtain ⟨e1, ef, e2⟩ := e
    have hT := goN_T (Q := Q) (s := s) i
    obtain ⟨u', l1, l2, l3, l4, -, -⟩ := y222 e1 ef.f (by omega)
    obtain ⟨u2, m1, m2, m3⟩ := y244i (K := K) (x := i) l2 e1.s l4 (TMs Q s i) (fun j hj => by rw [l3.1.g (by unfold AMr; omega)]; exact e2 j hj) (fun j => by have := TMs_b (s := s) h.1.g i j (by omega); omega)
    refine ⟨u2, fun o ho => e244_55 e1.H l473 _ ?_, l2.fr m2 (fun b hb => by omega), (ef.J l3).I m2 (fun b hb => by unfold ZS; omega), fun j hj => by rw [m3 j hj, TMs_s]⟩
    rw [if_neg (by omega), l1, b0_r l2.H]
    refine m1 _ ?_
    rw [wrs (by omega)]; exact ho) v ⟨a3, a4, fun j hj => by rw [a5 498 (by decide), g3 j hj]; rfl⟩
  refine AnM.of g1 ?_
  rw [show (473 + 24 : Nat) = 497 from rfl, a1, b0_r a2, nn]
  refine AnM.of hu (AnM.of (e244_55 i1.H l473) ?_)
  rw [if_pos (Int.le_refl _)]
  obtain ⟨w', c1, c2, c3, c4, c5, c6, c7⟩ := un0 h1 i1 i2 (h.1.E8 K (by omega)) (uM_goN K)
  rw [show (473 + 24 : Nat) = 497 from rfl, c1, b0_r c2, y244s (f := TMs Q s K) c3.1 (fun j hj => by rw [c7 498 (by decide) (by decide)]; exact i3 j hj) (fun j => (TMs_b h.1.g K j (by omega)).1)]
  exact AnM.v c3 (f1.tr c4) (c5.trans z1)
theorem r245 {w : Wd} {Q : QT} {s : ST} {x o k : Int} (h : MQy w Q s) (ht : uT s ≤ 999) : AnM Q s 2 w (F245 473 x o k w) (aRobbed Q s x o k) := by
  refine AnM.of (e245 h.H l473) ?_
  obtain ⟨h0, f0, z0⟩ := st0 h
  revert h0 f0 z0
  generalize pI w 473 4 0 = w0
  intro h0 f0 z0
  have hE : AnM Q s 2 w (s245_21 473 x o k w0) (.inr 0) := AnM.of (e245_21 h0.H l473) (AnM.f h0 f0 rfl)
  refine AnM.P2 h0 hE fun x0 x1 => AnM.P1 h0 hE fun o0 o1 => AnM.B1 h0 (AnM.f h0 f0 rfl) fun k0 k1 => ?_
  clear hE
  have h8 := h.1.n8
  have hT0 := h.1.t
  obtain ⟨p, rfl, hp⟩ := toN x0 x1
  obtain ⟨r, rfl, hr⟩ := toN o0 o1
  obtain ⟨K, rfl, hK⟩ := toN k0 (show k < 61 by omega)
  obtain ⟨v, a1, a2, a3, a4, a5⟩ := pk0 h0
  rw [show (473 + 24 : Nat) = 497 from rfl, a1, b0_r a2, nn, nn, nn]
  have e9 : wr (wr (8 * (p : Int)) + (r : Int)) = ((8 * p + r : Nat) : Int) := by rw [wrd (z := 8 * (p : Int)) (by omega) (by omega), wrd (by omega) (by omega)]; omega
  obtain ⟨u, hu, i1, i2⟩ := lpR (F := fun i u => s245_60 473 p r K (HDs Q s i.toNat p r) i u) (I := fun i u => MQx u Q (goN Q s i) ∧ Rn w0 s u) K (fun i u hi e => by
    obtain ⟨e1, ef⟩ := e
    have hT := goN_T (Q := Q) (s := s) i
    obtain ⟨u', l1, l2, l3, -, -, l6⟩ := y222 e1 ef.f (by omega)
    have b1 := HDs_b h.1.g h.1.s i p r (by omega) (by omega)
    have b2 := HD_b (s := goN Q s i) h.1.g e1.s p r
    refine ⟨u', fun o ho => e245_60 e1.H l473 _ ?_, l2, ef.J l3⟩
    simp only [nn] at ho ⊢
    rw [if_neg (by omega), l1, b0_r l2.H, e9, gdi (by omega) (by omega), wrs (by omega), nn, show (473 + 23 : Nat) = 496 from rfl, l6 p r (by omega) (by omega), wrd (by omega) (by omega)]
    rw [HDs_s] at ho
    exact ho) v ⟨a3, a4⟩
  refine AnM.of hu (AnM.of (e245_60 i1.H l473) ?_)
  simp only [nn]
  rw [if_pos (Int.le_refl _)]
  exact AnM.go K h0 f0 z0 i1 i2 (by omega)
theorem y246i {u : Wd} {Q : QT} {s u0 : ST} {K x i : Int} (h : MQx u Q u0) (h5 : ∀ j, j < zn Q → gI u 495 j = WH Q s j) (hx : 0 ≤ x ∧ x < 1000) :
    Rf (s246_36 473 K (x + b2i (noA Q s (zn Q))) (wr (i + 1)) u) (s246_51 473 K x i 1 0 u) := by
  have h8 := h.n8
  obtain ⟨b, hv, e⟩ := lpR (F := fun p b => s246_51 473 K x i b p u) (I := fun p b => b = b2i (noA Q s p)) (zn Q) (fun p b hp e => by
    subst e
    refine ⟨_, fun o ho => e246_51 h.H l473 _ ?_, rfl⟩
    have e5 : gI u (473 + 22) p = WH Q s p := h5 p hp
    have eN : noA Q s (p + 1) = (noA Q s p && !asks Q (sg Q s p) p) := rfl
    rw [eN] at ho
    rw [gdi (by omega) (by omega), show gI u (473 + 4) 1 = zn Q from h.n, if_neg (by omega), wrs (by omega)]
    cases z1 : noA Q s p
    · rw [if_pos (by decide)]
      rw [z1] at ho
      exact ho
    · rw [if_neg (by decide), gdi (by omega) (by omega), nn, e5]
      rw [z1] at ho
      unfold WH
      cases z2 : asks Q (sg Q s p) p
      · rw [z2] at ho
        rw [if_neg (show ¬ (false = true) by decide), if_neg (by omega)]
        exact ho
      · rw [z2] at ho
        rw [if_pos rfl, if_pos (by omega)]
        exact ho) 1 rfl
  subst e
  refine fun o ho => hv _ (e246_51 h.H l473 _ ?_)
  rw [gdi (by omega) (by omega), show gI u (473 + 4) 1 = zn Q from h.n, if_pos (Int.le_refl _)]
  cases z : noA Q s (zn Q)
  · rw [z] at ho
    rw [if_pos (by decide), wrd (z := x + 0) (by omega) (by omega)]
    exact ho
  · rw [z] at ho
    rw [if_neg (by decide), wrd (z := x + 1) (by omega) (by omega)]
    exact ho
theorem r246 {w : Wd} {Q : QT} {s : ST} {k : Int} (h : MQy w Q s) (ht : uT s ≤ 999) : AnM Q s 1 w (F246 473 k w) (aSilent Q s k) := by
  refine AnM.of (e246 h.H l473) ?_
  obtain ⟨h0, f0, z0⟩ := st0 h
  revert h0 f0 z0
  generalize pI w 473 4 0 = w0
  intro h0 f0 z0
  refine AnM.B1 h0 (AnM.f h0 f0 rfl) fun k0 k1 => ?_
  have h8 := h.1.n8
  have hT0 := h.1.t
  obtain ⟨K, rfl, hK⟩ := toN (show 0 ≤ k by omega) (show k < 61 by omega)
  obtain ⟨v, a1, a2, a3, a4, a5⟩ := pk0 h0
  rw [show (473 + 24 : Nat) = 497 from rfl, a1, b0_r a2, nn]
  obtain ⟨u, hu, i1, i2⟩ := lpR (F := fun i u => s246_36 473 K (SLs Q s i.toNat) i u) (I := fun i u => MQx u Q (goN Q s i) ∧ Rn w0 s u) K (fun i u hi e => by
    obtain ⟨e1, ef⟩ := e
    have hT := goN_T (Q := Q) (s := s) i
    obtain ⟨u', l1, l2, l3, l4, -, -⟩ := y222 e1 ef.f (by omega)
    have b1 := SLs_b (Q := Q) (s := s) i (by omega)
    have b3 := sumN_bn (f := fun j => b2i (noA Q (goN Q s j) (zn Q))) (M := 1) i (fun p _ => by cases noA Q (goN Q s p) (zn Q) <;> simp [b2i])
    have b4 : SLs Q s i ≤ i * 1 := b3.2
    refine ⟨u', fun o ho => e246_36 e1.H l473 _ ?_, l2, ef.J l3⟩
    simp only [nn] at ho ⊢
    rw [if_neg (by omega), l1, b0_r l2.H]
    refine y246i (s := goN Q s i) l2 l4 (by omega) _ ?_
    rw [wrs (by omega)]
    rw [SLs_s] at ho
    exact ho) v ⟨a3, a4⟩
  refine AnM.of hu (AnM.of (e246_36 i1.H l473) ?_)
  simp only [nn]
  rw [if_pos (Int.le_refl _)]
  exact AnM.go K h0 f0 z0 i1 i2 (by omega)
