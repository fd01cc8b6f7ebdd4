/-! the reference's questions: who is where; what watches show -/
theorem y210c {w : Wd} {Q : QT} {s : ST} {p j : Nat} (h : MQx w Q s) (hp : p < zn Q) (hj : j ≤ 100) : F210 473 p (wr (wr (gI w 473 33 + ((j : Int) + 1)) - 1)) w = rI (ca Q s p j) w := by
  have hT := h.t
  have e7 : gI w 473 33 = uT s := h.2.1.2.2.2.2.1
  rw [e7, wrd (z := uT s + ((j : Int) + 1)) (by omega) (by omega), wrd (by omega) (by omega), show uT s + ((j : Int) + 1) - 1 = (((uT s).toNat + j : Nat) : Int) by omega, y210 h hp (by omega)]
  rfl
theorem y210d {w : Wd} {Q : QT} {s : ST} {p j : Nat} (h : MQx w Q s) (hp : p < zn Q) (hj : j ≤ 100) : F210 473 p (wr (gI w 473 33 + (j : Int))) w = rI (ca Q s p j) w := by
  have hT := h.t
  have e7 : gI w 473 33 = uT s := h.2.1.2.2.2.2.1
  rw [e7, wrd (by omega) (by omega), show uT s + (j : Int) = (((uT s).toNat + j : Nat) : Int) by omega, y210 h hp (by omega)]
  rfl
theorem r247 {w : Wd} {Q : QT} {s : ST} {x o : Int} (h : MQy w Q s) : AnM Q s 2 w (F247 473 x o w) (aMeet Q s x o) := by
  refine AnM.of (e247 h.H l473) ?_
  obtain ⟨h0, f0, z0⟩ := st0 h
  revert h0 f0 z0
  generalize pI w 473 4 0 = w0
  intro h0 f0 z0
  have hE : AnM Q s 2 w (s247_21 473 x o w0) (.inr 0) := AnM.of (e247_21 h0.H l473) (AnM.f h0 f0 rfl)
  refine AnM.P2 h0 hE fun x0 x1 => AnM.P1 h0 hE fun o0 o1 => ?_
  clear hE
  have h8 := h.1.n8
  obtain ⟨p, rfl, hp⟩ := toN x0 x1
  obtain ⟨r, rfl, hr⟩ := toN o0 o1
  rw [nn, nn]
  by_cases z : (p : Int) = r
  · rw [if_pos z]
    refine AnM.of (e247_29 h0.H l473) ?_
    rw [if_neg (by omega), if_pos z]
    exact AnM.v h0 f0 z0
  rw [if_neg z]
  rcases lpX (F := fun j (_ : Unit) => s247_29 473 p r (j + 1) w0) (I := fun j _ => frs (fun j => decide (ca Q s p j = ca Q s r j)) j = -1) (Q := fun o => o = (.inl (some (.inl (frs (fun j => decide (ca Q s p j = ca Q s r j)) 60 + 1))), w0) ∧ frs (fun j => decide (ca Q s p j = ca Q s r j)) 60 ≠ -1) 60 (fun j _ hj e => by
    have ef : frs (fun j => decide (ca Q s p j = ca Q s r j)) (j + 1) = if frs (fun j => decide (ca Q s p j = ca Q s r j)) j = -1 ∧ decide (ca Q s p j = ca Q s r j) = true then (j : Int) else frs (fun j => decide (ca Q s p j = ca Q s r j)) j := rfl
    by_cases y : ca Q s p j = ca Q s r j
    · rw [if_pos ⟨e, decide_eq_true y⟩] at ef
      have e9 := frs_m (P := fun j => decide (ca Q s p j = ca Q s r j)) (k := j + 1) 60 (by omega) (by omega)
      refine Or.inr ⟨_, e247_29 h0.H l473 _ ?_, rfl, by omega⟩
      rw [if_neg (by omega), if_neg z, y210c h0.1 (by omega) (by omega), bI_r h0.H, y210c h0.1 (by omega) (by omega), bI_r h0.H, if_neg (fun q => q y), e9, ef]
    · rw [if_neg (fun q => y (of_decide_eq_true q.2))] at ef
      refine Or.inl ⟨(), fun o ho => e247_29 h0.H l473 _ ?_, by rw [ef]; exact e⟩
      rw [if_neg (by omega), if_neg z, y210c h0.1 (by omega) (by omega), bI_r h0.H, y210c h0.1 (by omega) (by omega), bI_r h0.H, if_pos y, wrd (z := (j : Int) + 1 + 1) (by omega) (by omega)]
      exact ho) () rfl with ⟨_, hu, i1⟩ | ⟨o, ho, hq, hq2⟩
  · rw [if_pos i1]
    refine AnM.of hu (AnM.of (e247_29 h0.H l473) ?_)
    rw [if_pos (by omega)]
    exact AnM.v h0 f0 z0
  · rw [if_neg hq2]
    have ho2 : s247_29 473 p r 1 w0 = some o := ho
    rw [ho2, hq]
    exact AnM.v h0 f0 z0
theorem r248 {w : Wd} {Q : QT} {s : ST} {x o k : Int} (h : MQy w Q s) : AnM Q s 2 w (F248 473 x o k w) (aOften Q s x o k) := by
  refine AnM.of (e248 h.H l473) ?_
  obtain ⟨h0, f0, z0⟩ := st0 h
  revert h0 f0 z0
  generalize pI w 473 4 0 = w0
  intro h0 f0 z0
  have hE : AnM Q s 2 w (s248_21 473 x o k w0) (.inr 0) := AnM.of (e248_21 h0.H l473) (AnM.f h0 f0 rfl)
  refine AnM.P2 h0 hE fun x0 x1 => AnM.P1 h0 hE fun o0 o1 => AnM.B1 h0 (AnM.f h0 f0 rfl) fun k0 k1 => ?_
  clear hE
  have h8 := h.1.n8
  obtain ⟨p, rfl, hp⟩ := toN x0 x1
  obtain ⟨r, rfl, hr⟩ := toN o0 o1
  obtain ⟨K, rfl, hK⟩ := toN (show 0 ≤ k by omega) (show k < 61 by omega)
  rw [nn, nn, nn]
  obtain ⟨v, hv, e⟩ := lpR (F := fun j v => s248_51 473 p r K v j w0) (I := fun j v => v = ((cn (fun j => decide (ca Q s p j = ca Q s r j)) j : Nat) : Int)) K (fun j v hj e => by
    subst e
    have hc := cn_le (P := fun j => decide (ca Q s p j = ca Q s r j)) j
    have ec : cn (fun j => decide (ca Q s p j = ca Q s r j)) (j + 1) = cn (fun j => decide (ca Q s p j = ca Q s r j)) j + (if decide (ca Q s p j = ca Q s r j) = true then 1 else 0) := rfl
    refine ⟨_, fun o ho => e248_51 h0.H l473 _ ?_, rfl⟩
    rw [if_neg (by omega), y210d h0.1 (by omega) (by omega), bI_r h0.H, y210d h0.1 (by omega) (by omega), bI_r h0.H, wrs (by omega)]
    by_cases y : ca Q s p j = ca Q s r j
    · rw [if_pos (decide_eq_true y)] at ec
      rw [if_neg (fun q => q y), wrs (by omega)]
      rw [ec] at ho
      exact ho
    · rw [if_neg (by rw [decide_eq_false y]; decide)] at ec
      rw [if_pos y, wrd (by omega) (by omega), Int.add_zero]
      rw [ec, Nat.add_zero] at ho
      exact ho) 0 rfl
  subst e
  refine AnM.of hv (AnM.of (e248_51 h0.H l473) ?_)
  rw [if_pos (Int.le_refl _)]
  exact AnM.v h0 f0 z0
theorem r250 {w : Wd} {Q : QT} {s : ST} {x k : Int} (h : MQy w Q s) : AnM Q s 2 w (F250 473 x k w) (aWhere Q s x k) := by
  refine AnM.of (e250 h.H l473) ?_
  obtain ⟨h0, f0, z0⟩ := st0 h
  revert h0 f0 z0
  generalize pI w 473 4 0 = w0
  intro h0 f0 z0
  refine AnM.P1 h0 (AnM.f h0 f0 rfl) fun x0 x1 => AnM.B2 h0 (AnM.f h0 f0 rfl) fun k0 k1 => ?_
  have h8 := h.1.n8
  obtain ⟨p, rfl, hp⟩ := toN x0 x1
  obtain ⟨K, rfl, hK⟩ := toN (show 0 ≤ k by omega) (show k < 61 by omega)
  obtain ⟨j, rfl⟩ : ∃ j, K = j + 1 := ⟨K - 1, by omega⟩
  rw [nn, nn, show (((j + 1 : Nat) : Int)) = (j : Int) + 1 by omega, y210c h0.1 (by omega) (by omega), bI_r h0.H]
  exact AnM.v h0 f0 z0
theorem r252 {w : Wd} {Q : QT} {s : ST} {x k : Int} (h : MQy w Q s) : AnM Q s 2 w (F252 473 x k w) (aShows Q s x k) := by
  refine AnM.of (e252 h.H l473) ?_
  obtain ⟨h0, f0, z0⟩ := st0 h
  revert h0 f0 z0
  generalize pI w 473 4 0 = w0
  intro h0 f0 z0
  refine AnM.P1 h0 (AnM.f h0 f0 rfl) fun x0 x1 => AnM.B1 h0 (AnM.f h0 f0 rfl) fun k0 k1 => ?_
  have h8 := h.1.n8
  obtain ⟨p, rfl, hp⟩ := toN x0 x1
  have hb := shw_b s p
  rw [nn, y214 h0.1 (by omega), bI_r h0.H, show gI w0 473 35 = b2i (uP s) from h0.1.2.1.2.2.2.2.2.2.1]
  have fin : ∀ y, 0 ≤ y → y ≤ 1000 → AnM Q s 2 w (s252_59 473 p k y (shw s p) w0) (.inl ((shw s p + y) % 60)) := by
    intro y y0 y1
    refine AnM.of (e252_59 h0.H l473) ?_
    rw [wrd (by omega) (by omega), y177 h0.H (by omega), bI_r h0.H]
    exact AnM.v h0 f0 z0
  cases uP s
  · rw [if_pos (show b2i false ≠ 1 by decide), if_neg (show ¬ (false = true) by decide), wrd (z := k - 1) (by omega) (by omega), wrd (by omega) (by omega)]
    exact fin _ (by omega) (by omega)
  · rw [if_neg (show ¬ b2i true ≠ 1 by decide), if_pos rfl]
    exact fin _ (by omega) (by omega)
theorem r253 {w : Wd} {Q : QT} {s : ST} (h : MQy w Q s) : AnM Q s 2 w (F253 473 w) (aAlike Q s) := by
  refine AnM.of (e253 h.H l473) ?_
  obtain ⟨h0, f0, z0⟩ := st0 h
  revert h0 f0 z0
  generalize pI w 473 4 0 = w0
  intro h0 f0 z0
  have h8 := h.1.n8
  have hW : ∀ j, gI w0 (473 + 18) j = uW s j := fun j => by rw [show gI w0 (473 + 18) = uW s from h0.1.2.1.2.2.1]
  obtain ⟨v, hv, e⟩ := lpR (F := fun p v => s253_9 473 v p w0) (I := fun p v => v = sumN (fun p => (cn (fun o => decide (uW s p = uW s o)) p : Nat)) p) (zn Q) (fun p v hp e => by
    have hb := sumN_bn (f := fun p => ((cn (fun o => decide (uW s p = uW s o)) p : Nat) : Int)) (M := 8) p (fun i hi => by have := cn_le (P := fun o => decide (uW s i = uW s o)) i; omega)
    rw [← e] at hb
    obtain ⟨u, hu, e1⟩ := lpR (F := fun j u => s253_21 473 u p j w0) (I := fun j u => u = v + ((cn (fun o => decide (uW s p = uW s o)) j : Nat) : Int)) p (fun j u hj e1 => by
      subst e1
      have hc := cn_le (P := fun o => decide (uW s p = uW s o)) j
      have ec : cn (fun o => decide (uW s p = uW s o)) (j + 1) = cn (fun o => decide (uW s p = uW s o)) j + (if decide (uW s p = uW s j) = true then 1 else 0) := rfl
      refine ⟨_, fun o ho => e253_21 h0.H l473 _ ?_, rfl⟩
      rw [if_neg (by omega), gdi (by omega) (by omega), gdi (by omega) (by omega), nn, nn, hW, hW, wrs (by omega)]
      by_cases y : uW s p = uW s j
      · rw [if_pos (decide_eq_true y)] at ec
        rw [if_neg (fun q => q y), wrd (by omega) (by omega)]
        rw [ec, show v + ((cn (fun o => decide (uW s p = uW s o)) j + 1 : Nat) : Int) = v + ((cn (fun o => decide (uW s p = uW s o)) j : Nat) : Int) + 1 by omega] at ho
        exact ho
      · rw [if_neg (by rw [decide_eq_false y]; decide)] at ec
        rw [if_pos y, wrd (by omega) (by omega), Int.add_zero]
        rw [ec, Nat.add_zero] at ho
        exact ho) v (by show v = v + 0; omega)
    refine ⟨_, fun o ho => e253_9 h0.H l473 _ ?_, rfl⟩
    rw [gdi (by omega) (by omega), show gI w0 (473 + 4) 1 = zn Q from h0.1.n, if_neg (by omega)]
    refine hu _ (e253_21 h0.H l473 _ ?_)
    rw [if_pos (Int.le_refl _), wrs (by omega), e1, e]
    exact ho) 0 rfl
  subst e
  refine AnM.of hv (AnM.of (e253_9 h0.H l473) ?_)
  rw [gdi (by omega) (by omega), show gI w0 (473 + 4) 1 = zn Q from h0.1.n, if_pos (Int.le_refl _)]
  exact AnM.v h0 f0 z0
/-- crowds, begun with nothing -/
theorem cr_1 {Q : QT} {s : ST} : ∀ n, it (crS Q s 0) (n + 1) (-1, -1) = it (crS Q s 0) (n + 1) (1, 0) := by
  intro n
  induction n with
  | zero =>
    show (if (-1 : Int) < (atS Q s 0 0 : Int) then (((0 : Nat) : Int) + 1, (atS Q s 0 0 : Int)) else (-1, -1)) = (if (0 : Int) < (atS Q s 0 0 : Int) then (((0 : Nat) : Int) + 1, (atS Q s 0 0 : Int)) else (1, 0))
    rw [if_pos (by omega)]
    by_cases z : (0 : Int) < (atS Q s 0 0 : Int)
    · rw [if_pos z]
    · rw [if_neg z]
      have : atS Q s 0 0 = 0 := by omega
      rw [this]; rfl
  | succ n ih =>
    show crS Q s 0 (n + 1) (it (crS Q s 0) (n + 1) (-1, -1)) = crS Q s 0 (n + 1) (it (crS Q s 0) (n + 1) (1, 0))
    rw [ih]
theorem cr_2 {Q : QT} {s : ST} (hz : 2 ≤ zk Q) : ∀ k, it (fun j a => it (crS Q s j) (zk Q) a) (k + 1) (-1, -1) = crN Q s (k + 1) := by
  intro k
  induction k with
  | zero =>
    show it (crS Q s 0) (zk Q) (-1, -1) = it (crS Q s 0) (zk Q) (1, 0)
    obtain ⟨n, hn⟩ : ∃ n, zk Q = n + 1 := ⟨zk Q - 1, by omega⟩
    rw [hn]; exact cr_1 n
  | succ k ih =>
    show it (crS Q s (k + 1)) (zk Q) (it (fun j a => it (crS Q s j) (zk Q) a) (k + 1) (-1, -1)) = it (crS Q s (k + 1)) (zk Q) (crN Q s (k + 1))
    rw [ih]
theorem r249 {w : Wd} {Q : QT} {s : ST} {k : Int} (h : MQy w Q s) : AnM Q s 1 w (F249 473 k w) (aCrowd Q s k) := by
  refine AnM.of (e249 h.H l473) ?_
  obtain ⟨h0, f0, z0⟩ := st0 h
  revert h0 f0 z0
  generalize pI w 473 4 0 = w0
  intro h0 f0 z0
  refine AnM.B1 h0 (AnM.f h0 f0 rfl) fun k0 k1 => ?_
  have h8 := h.1.n8
  have hT := h.1.t
  have hz := h.1.g.2.2.2.2
  obtain ⟨K, rfl, hK⟩ := toN (show 0 ≤ k by omega) (show k < 61 by omega)
  have e0 : gI w0 (473 + 4) 0 = zk Q := h0.1.1.1
  have e7 : gI w0 473 33 = uT s := h0.1.2.1.2.2.2.2.1
  obtain ⟨v, hv, e⟩ := lpR (F := fun j (v : Int × Int) => s249_30 473 K v.1 v.2 (j + 1) w0) (I := fun j v => v = it (fun j a => it (crS Q s j) (zk Q) a) j (-1, -1)) K (fun j v hj e => by
    obtain ⟨u, hu, e1⟩ := lpR (F := fun c (u : Int × Int) => s249_39 473 K u.1 u.2 ((j : Int) + 1) c w0) (I := fun c u => u = it (crS Q s j) c v) (zk Q) (fun c u hc e1 => by
      subst e1
      refine ⟨_, fun o ho => e249_39 h0.H l473 _ ?_, rfl⟩
      have e2 : it (crS Q s j) (c + 1) v = if (it (crS Q s j) c v).2 < (atS Q s c j : Int) then ((j : Int) + 1, (atS Q s c j : Int)) else it (crS Q s j) c v := rfl
      rw [e2] at ho
      have nx : ∀ (a b : Int) {o : Out}, s249_39 473 K a (max b (atS Q s c j : Int)) ((j : Int) + 1) (((c + 1 : Nat) : Int)) w0 = some o → s249_79 473 K a b ((j : Int) + 1) c (atS Q s c j : Int) w0 = some o := by
        intro a b o ho
        refine e249_79 h0.H l473 _ ?_
        rw [q325 h0.H, bI_r h0.H, wrs (by omega)]; exact ho
      rw [gdi (by omega) (by omega), e0, if_neg (by omega), e7, wrd (z := uT s + ((j : Int) + 1)) (by omega) (by omega), wrd (by omega) (by omega), show uT s + ((j : Int) + 1) - 1 = (((uT s).toNat + j : Nat) : Int) by omega, y211 h0.1 (by omega), bI_r h0.H, y176 h0.H, bI_r h0.H, show ((cn (atC Q c ((uT s).toNat + j)) 8 : Nat) : Int) = (atS Q s c j : Int) from rfl]
      generalize it (crS Q s j) c v = A at *
      by_cases z : A.2 < (atS Q s c j : Int)
      · rw [if_neg (by omega)]
        rw [if_pos z] at ho
        refine nx _ _ ?_
        rw [show max A.2 (atS Q s c j : Int) = (atS Q s c j : Int) by omega]
        exact ho
      · rw [if_pos (by omega)]
        rw [if_neg z] at ho
        refine nx _ _ ?_
        rw [show max A.2 (atS Q s c j : Int) = A.2 by omega]
        exact ho) v rfl
    refine ⟨_, fun o ho => e249_30 h0.H l473 _ ?_, rfl⟩
    rw [if_neg (by omega)]
    refine hu _ (e249_39 h0.H l473 _ ?_)
    rw [gdi (by omega) (by omega), e0, if_pos (Int.le_refl _), wrd (by omega) (by omega), e1]
    subst e
    exact ho) (-1, -1) rfl
  subst e
  obtain ⟨n, rfl⟩ : ∃ n, K = n + 1 := ⟨K - 1, by omega⟩
  rw [cr_2 hz.1] at hv
  rw [nn]
  refine AnM.of hv (AnM.of (e249_30 h0.H l473) ?_)
  rw [if_pos (by omega)]
  exact AnM.v h0 f0 z0
/-- whom corners of a set see -/
def smC (Q : QT) (s : ST) (K m c p : Nat) : Bool := decide (p < zn Q) && (List.range c).any (fun c => m.testBit c && vis Q s p K c)
theorem smC_s {Q : QT} {s : ST} {K m c p : Nat} : smC Q s K m (c + 1) p = (smC Q s K m c p || (decide (p < zn Q) && (m.testBit c && vis Q s p K c))) := by
  unfold smC
  rw [List.range_succ, List.any_append]
  cases decide (p < zn Q) <;> simp
theorem y179 {w : Wd} {Q : QT} {s : ST} (h : MQx w Q s) : F179 473 w = rI ((2 ^ zn Q - 1 : Nat) : Int) w := by
  have h8 := h.n8
  refine e179 h.H l473 _ ?_
  have hp := Nat.two_pow_pos (zn Q)
  have hp2 : 2 ^ zn Q ≤ 256 := Nat.pow_le_pow_right (n := 2) (by omega) h8
  rw [gdi (by omega) (by omega), show gI w (473 + 4) 1 = zn Q from h.n, bShl_1 _ (by omega), wrd (by omega) (by omega), show ((2 ^ zn Q : Nat) : Int) - 1 = ((2 ^ zn Q - 1 : Nat) : Int) by omega]
theorem mk_all {Q : QT} (h8 : zn Q ≤ 8) : mk (fun p => decide (p < zn Q)) 8 = ((2 ^ zn Q - 1 : Nat) : Int) := by
  unfold mk
  congr 1
  symm
  apply nmk_ext
  intro i
  rw [Nat.testBit_two_pow_sub_one]
  by_cases z : i < zn Q
  · simp [z, show i < 8 by omega]
  · simp [z]
theorem mk_inj {P R : Nat → Bool} {n : Nat} (h : mk P n = mk R n) (i : Nat) (hi : i < n) : P i = R i := by
  have h1 : nmk P n = nmk R n := by unfold mk at h; omega
  have h2 := nmk_test (P := P) (i := i) n
  have h3 := nmk_test (P := R) (i := i) n
  rw [h1] at h2
  rw [h2] at h3
  simpa [hi] using h3
theorem sees_sm {Q : QT} {s : ST} {K m : Nat} (hg : GQ Q) (hm : m < 2 ^ zk Q) : (mk (smC Q s K m (zk Q)) 8 = ((2 ^ zn Q - 1 : Nat) : Int)) ↔ sees Q s K m = true := by
  rw [← mk_all hg.1, sees_iff]
  constructor
  · intro e p hp
    have := mk_inj e p (by have := hg.1; omega)
    unfold smC at this
    simp [hp] at this
    obtain ⟨c, c1, c2, c3⟩ := this
    exact ⟨c, by have := hg.2.2.2.2.2; omega, c2, c3⟩
  · intro e
    apply mk_congr
    intro p hp
    unfold smC
    by_cases z : p < zn Q
    · obtain ⟨c, c1, c2, c3⟩ := e p z
      have hc : c < zk Q := by
        rcases Nat.lt_or_ge c (zk Q) with q | q
        · exact q
        · rw [Nat.testBit_lt_two_pow (Nat.lt_of_lt_of_le hm (Nat.pow_le_pow_right (n := 2) (by omega) q))] at c2
          cases c2
      simp [z]
      exact ⟨c, hc, c2, c3⟩
    · simp [z]
theorem y175n {w : Wd} {m p : Nat} (H : LR w) (hm : m < 256) (hp : p < 8) : F175 m p w = rI (b2i (m.testBit p)) w := by rw [mk_self hm, y175 H hp]
theorem y176n {w : Wd} {m : Nat} (H : LR w) (hm : m < 256) : F176 m w = rI (tbN m : Nat) w := by rw [mk_self hm, y176 H]; rfl
/-- who comes to each corner, in the reference's row -/
theorem y251v {w : Wd} {Q : QT} {s : ST} {K : Nat} (h : MQy w Q s) (hK : K ≤ 60) : ∃ v, Rf (s251_85 473 K (-1) 0 v) (s251_25 473 K 0 w) ∧ FrI (fun b => b = 499) w v ∧ ∀ c, c < zk Q → gI v 499 c = mk (fun p => decide (p < zn Q) && vis Q s p K c) 8 := by
  have hT := h.1.t
  have hz := h.1.g.2.2.2.2
  obtain ⟨v, hv, i1, i2⟩ := lpR (F := fun c v => s251_25 473 K c v) (I := fun c v => FrI (fun b => b = 499) w v ∧ ∀ c', c' < c → gI v 499 c' = mk (fun p => decide (p < zn Q) && vis Q s p K c') 8) (zk Q) (fun c v hc e => by
    obtain ⟨ef, e1⟩ := e
    have hv := h.fr ef (fun b hb => by omega)
    obtain ⟨u, hu, j1, j2, j3⟩ := lpR (F := fun k u => s251_44 473 K c k u) (I := fun k u => FrI (fun b => b = 499) v u ∧ gI u 499 c = mk (fun p => decide (p < zn Q) && vis Q s p k c) 8 ∧ ∀ c', c' < c → gI u 499 c' = gI v 499 c') K (fun k u hk e => by
      obtain ⟨d1, d2, d3⟩ := e
      have hu := hv.fr d1 (fun b hb => by omega)
      have e7 : gI u 473 33 = uT s := hu.1.2.1.2.2.2.2.1
      refine ⟨pI u 499 c (mk (fun p => decide (p < zn Q) && vis Q s p (k + 1) c) 8), fun o ho => e251_44 hu.H l473 _ ?_, d1.pp rfl, gI_s, fun c' hc' => by rw [gI_c (by omega)]; exact d3 c' hc'⟩
      rw [if_neg (by omega), gdi (by omega) (by omega), e7, wrd (z := uT s + (k : Int)) (by omega) (by omega), show uT s + (k : Int) = (((uT s).toNat + k : Nat) : Int) by omega, y211 hu.1 (by omega), bI_r hu.H, gdi (by omega) (by omega), nn, show (473 + 26 : Nat) = 499 from rfl, d2, mk_or (by omega), wrs (by omega)]
      have em : mk (fun p => (decide (p < zn Q) && vis Q s p k c) || atC Q c ((uT s).toNat + k) p) 8 = mk (fun p => decide (p < zn Q) && vis Q s p (k + 1) c) 8 := mk_congr (fun p hp => by
        rw [vis_s]
        unfold atC ca
        cases decide (p < zn Q) <;> simp)
      rw [em]
      exact ho) (pI v 499 c 0) ⟨FrI.p rfl, by rw [gI_s]; exact (mk_eq0.mpr (fun i _ => by simp [vis])).symm, fun c' hc' => by rw [gI_c (by omega)]⟩
    have hu2 := hv.fr j1 (fun b hb => by omega)
    refine ⟨u, fun o ho => e251_25 hv.H l473 _ ?_, ef.tr j1, fun c' hc' => ?_⟩
    · rw [gdi (by omega) (by omega), show gI v (473 + 4) 0 = zk Q from hv.1.1.1, if_neg (by omega), gdi (by omega) (by omega), nn]
      refine hu _ (e251_44 hu2.H l473 _ ?_)
      rw [if_pos (Int.le_refl _), wrs (by omega)]
      exact ho
    · by_cases z : c' = c
      · subst z; exact j2
      · rw [j3 c' (by omega)]; exact e1 c' (by omega)) w ⟨FrI.rf, fun c' hc' => absurd hc' (Nat.not_lt_zero _)⟩
  have hv2 := h.fr i1 (fun b hb => by omega)
  exact ⟨v, fun o ho => hv _ (e251_25 hv2.H l473 _ (by rw [gdi (by omega) (by omega), show gI v (473 + 4) 0 = zk Q from hv2.1.1.1, if_pos (Int.le_refl _)]; exact ho)), i1, i2⟩
theorem y251s {w : Wd} {Q : QT} {s : ST} {K m : Nat} {b x : Int} (h : MQy w Q s) (hm : m < 2 ^ zk Q) (h9 : ∀ c, c < zk Q → gI w 499 c = mk (fun p => decide (p < zn Q) && vis Q s p K c) 8) :
    Rf (s251_85 473 x (if sees Q s K m = true then (m : Int) else b) (wr ((m : Int) + 1)) w) (s251_122 473 x b m 0 0 w) := by
  have hz := h.1.g.2.2.2.2
  have hp2 : 2 ^ zk Q ≤ 64 := Nat.pow_le_pow_right (n := 2) (by omega) hz.2
  obtain ⟨y, hy, e⟩ := lpR (F := fun c y => s251_122 473 x b m y c w) (I := fun c y => y = mk (smC Q s K m c) 8) (zk Q) (fun c y hc e => by
    subst e
    refine ⟨_, fun o ho => e251_122 h.H l473 _ ?_, rfl⟩
    rw [gdi (by omega) (by omega), show gI w (473 + 4) 0 = zk Q from h.1.1.1, if_neg (by omega), y175n h.H (by omega) (by omega), bI_r h.H, wrs (by omega)]
    cases z : m.testBit c
    · have em : mk (smC Q s K m (c + 1)) 8 = mk (smC Q s K m c) 8 := mk_congr (fun p hp => by rw [smC_s, z]; simp)
      have e0 : bOr (mk (smC Q s K m c) 8) 0 = mk (smC Q s K m c) 8 := by
        have := bOr_n (a := nmk (smC Q s K m c) 8) (b := 0) (nmk_b (by omega)) (by omega)
        unfold mk
        simpa using this
      rw [if_pos (show b2i false = 0 from rfl), e0]
      rw [em] at ho
      exact ho
    · have em : mk (smC Q s K m (c + 1)) 8 = mk (fun p => smC Q s K m c p || (decide (p < zn Q) && vis Q s p K c)) 8 := mk_congr (fun p hp => by rw [smC_s, z]; simp)
      rw [if_neg (show ¬ b2i true = 0 by decide), gdi (by omega) (by omega), nn, show (473 + 26 : Nat) = 499 from rfl, h9 c hc, mk_or (by omega)]
      rw [em] at ho
      exact ho) 0 (mk_eq0.mpr (fun i _ => by simp [smC])).symm
  subst e
  refine fun o ho => hy _ (e251_122 h.H l473 _ ?_)
  rw [gdi (by omega) (by omega), show gI w (473 + 4) 0 = zk Q from h.1.1.1, if_pos (Int.le_refl _), y179 h.1, bI_r h.H]
  by_cases z : sees Q s K m = true
  · rw [if_neg (fun q => q ((sees_sm h.1.g hm).mpr z))]
    rw [if_pos z] at ho
    exact ho
  · rw [if_pos (fun q => z ((sees_sm h.1.g hm).mp q))]
    rw [if_neg z] at ho
    exact ho
theorem r251 {w : Wd} {Q : QT} {s : ST} {k : Int} (h : MQy w Q s) : AnM Q s 1 w (F251 473 k w) (aWatch Q s k) := by
  refine AnM.of (e251 h.H l473) ?_
  obtain ⟨h0, f0, z0⟩ := st0 h
  revert h0 f0 z0
  generalize pI w 473 4 0 = w0
  intro h0 f0 z0
  refine AnM.B1 h0 (AnM.f h0 f0 rfl) fun k0 k1 => ?_
  have hz := h.1.g.2.2.2.2
  have hp2 : 2 ^ zk Q ≤ 64 := Nat.pow_le_pow_right (n := 2) (by omega) hz.2
  obtain ⟨K, rfl, hK⟩ := toN (show 0 ≤ k by omega) (show k < 61 by omega)
  rw [nn]
  obtain ⟨v, a1, a2, a3⟩ := y251v (K := K) h0 (by omega)
  have hv := h0.fr a2 (fun b hb => by omega)
  have fv : FrS w v := f0.tr (FrS.of a2 (fun b hb => by unfold ZS; omega))
  have zv : gI v 473 4 = 0 := by rw [a2.g (by decide)]; exact z0
  have e85 : ∀ (x b : Int) {o : Out}, (if ((2 ^ zk Q : Nat) : Int) ≤ x then rI b v else (if b = -1 then s251_122 473 K b x 0 0 v else bI (F176 x v) (fun n1 w2 => bI (F176 b w2) (fun n4 w5 => (if n1 < n4 then s251_122 473 K b x 0 0 w5 else s251_85 473 K b (wr (x + 1)) w5))))) = some o → s251_85 473 K b x v = some o := by
    intro x b o ho
    refine e251_85 hv.H l473 _ ?_
    rw [gdi (by omega) (by omega), show gI v (473 + 4) 0 = zk Q from hv.1.1.1, bShl_1 _ (by omega)]
    exact ho
  obtain ⟨u, hu, e⟩ := lpR (F := fun m b => s251_85 473 K b m v) (I := fun m b => b = wt (sees Q s K) m) (2 ^ zk Q) (fun m b hm e => by
    subst e
    refine ⟨_, fun o ho => e85 _ _ ?_, rfl⟩
    have e2 : wt (sees Q s K) (m + 1) = wtS (sees Q s K) m (wt (sees Q s K) m) := rfl
    rw [e2] at ho
    unfold wtS at ho
    have wo := wt_ok (P := sees Q s K) m
    have nx := y251s (x := K) (b := wt (sees Q s K) m) hv hm a3
    rw [if_neg (by omega)]
    by_cases z1 : wt (sees Q s K) m = -1
    · rw [if_pos z1]
      rw [if_pos (Or.inl z1)] at ho
      refine nx _ ?_
      rw [wrs (by omega)]; exact ho
    · rw [if_neg z1]
      rcases wo with ⟨q, -⟩ | ⟨b, hb, b1, b2, -⟩
      · exact absurd q z1
      · rw [hb] at ho nx ⊢
        rw [y176n hv.H (by omega), bI_r hv.H, y176n hv.H (by omega), bI_r hv.H]
        rw [nn] at ho
        by_cases z2 : tbN m < tbN b
        · rw [if_pos (by omega)]
          rw [if_pos (Or.inr z2)] at ho
          refine nx _ ?_
          rw [wrs (by omega)]; exact ho
        · rw [if_neg (by omega), wrs (by omega)]
          rw [if_neg (fun q => by rcases q with q | q <;> omega)] at ho
          exact ho) (-1) rfl
  subst e
  have hl : Rf (rI (wt (sees Q s K) (2 ^ zk Q)) v) (s251_85 473 K (wt (sees Q s K) (2 ^ zk Q)) ((2 ^ zk Q : Nat) : Int) v) := fun o ho => e85 _ _ (by rw [if_pos (Int.le_refl _)]; exact ho)
  exact AnM.of a1 (AnM.of hu (AnM.of hl (AnM.v hv fv zv)))
