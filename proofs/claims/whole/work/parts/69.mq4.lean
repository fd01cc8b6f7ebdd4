/-! the reference's questions: what is seen -/
def FrW (w w' : Wd) : Prop := FrI (fun b => b = 473 ∨ (489 ≤ b ∧ b ≤ 491) ∨ (493 ≤ b ∧ b ≤ 496) ∨ b = 504) w w' ∧ ∀ i, (i < 33 ∨ 36 < i) → i ≠ 43 → gI w' 473 i = gI w 473 i
theorem FrW.tr {a b c : Wd} (h : FrW a b) (h' : FrW b c) : FrW a c := ⟨h.1.tr h'.1, fun i h1 h2 => (h'.2 i h1 h2).trans (h.2 i h1 h2)⟩
theorem FrW.rf {w : Wd} : FrW w w := ⟨FrI.rf, fun _ _ _ => rfl⟩
theorem FrJ.W {w w' : Wd} (h : FrJ w w') : FrW w w' := ⟨h.1.wk (fun b hb => by unfold AMr at hb; omega), h.2⟩
theorem FrW.S {w w' : Wd} (h : FrW w w') : FrS w w' := ⟨h.1.wk (fun b hb => by unfold ZS; omega), fun i hi => h.2 i (by unfold ZF at hi; omega) (by unfold ZF at hi; omega)⟩
theorem FrW.of {A : Nat → Prop} {w w' : Wd} (f : FrI A w w') (hA : ∀ b, A b → (489 ≤ b ∧ b ≤ 491) ∨ (493 ≤ b ∧ b ≤ 496) ∨ b = 504) : FrW w w' := ⟨f.wk (fun b hb => Or.inr (hA b hb)), fun i _ _ => by rw [f.g (fun z => by have := hA _ z; omega)]⟩
/-- the reference holds what is seen -/
def RNm (w : Wd) (N : NT) : Prop := gI w 473 38 = N.1 ∧ ∀ i, i < N.1 → gI w 501 i = N.2.1 i ∧ gI w 502 i = N.2.2.1 i ∧ gI w 503 i = N.2.2.2 i
theorem RNm.S {w w' : Wd} {N : NT} (h : RNm w N) (f : FrS w w') : RNm w' N := by
  unfold RNm
  rw [f.2 38 (by unfold ZF; omega), f.1.g (by unfold ZS; omega), f.1.g (by unfold ZS; omega), f.1.g (by unfold ZS; omega)]
  exact h
/-- whether all that is seen in step n is so, of the first k -/
def sok (N : NT) (n : Int) (u : ST) : Nat → Bool
  | 0 => true
  | k + 1 => sok N n u k && (!decide (N.2.2.1 k = n) || decide (uL u (N.2.1 k) = N.2.2.2 k))
theorem sok_iff {N : NT} {n : Int} {u : ST} : ∀ k, sok N n u k = true ↔ ∀ j, j < k → N.2.2.1 j = n → uL u (N.2.1 j) = N.2.2.2 j := by
  intro k
  induction k with
  | zero => exact ⟨fun _ j hj => absurd hj (Nat.not_lt_zero _), fun _ => rfl⟩
  | succ k ih =>
    show (sok N n u k && (!decide (N.2.2.1 k = n) || decide (uL u (N.2.1 k) = N.2.2.2 k))) = true ↔ _
    rw [Bool.and_eq_true, ih]
    constructor
    · rintro ⟨h1, h2⟩ j hj hn
      by_cases e : j = k
      · subst e
        simp [hn] at h2
        exact h2
      · exact h1 j (by omega) hn
    · intro h
      refine ⟨fun j hj hn => h j (by omega) hn, ?_⟩
      by_cases e : N.2.2.1 k = n
      · simp [e, h k (by omega) e]
      · simp [e]
theorem asS_iff {Q : QT} {N : NT} {s : ST} : asS Q N s = true ↔ ∀ i, i < N.1 → uL (goN Q s (N.2.2.1 i).toNat) (N.2.1 i) = N.2.2.2 i := by
  unfold asS
  simp [List.all_eq_true]
theorem lsN_s {N : NT} {k : Nat} : lsN N (k + 1) = max (lsN N k) (N.2.2.1 k) := rfl
theorem lsN_ub {N : NT} {n : Nat} (hg : GN n N) : ∀ k, k ≤ N.1 → (0 ≤ lsN N k ∧ lsN N k ≤ 20) ∧ ∀ i, i < k → N.2.2.1 i ≤ lsN N k := by
  intro k
  induction k with
  | zero => intro _; exact ⟨⟨Int.le_refl _, by show (0 : Int) ≤ 20; omega⟩, fun i hi => absurd hi (Nat.not_lt_zero _)⟩
  | succ k ih =>
    intro hk
    obtain ⟨h1, h2⟩ := ih (by omega)
    have h3 := (hg.2 k (by omega)).2.1
    rw [lsN_s]
    refine ⟨by omega, fun i hi => ?_⟩
    by_cases e : i = k
    · subst e; omega
    · have := h2 i (by omega); omega
/-- the turn over what is seen, and the step behind it -/
theorem y262i {u : Wd} {Q : QT} {s0 : ST} {N : NT} {n : Nat} {x : Int} (h : MQx u Q s0) (hN : RNm u N) (hg : GN (zn Q) N) (hf : gI u 473 44 = 0) (ht : uT s0 < 100000) (hn : n ≤ 100) :
    ∃ u', Rf (s262_42 473 x (b2i (sok N n s0 N.1)) ((n + 1 : Nat) : Int) u') (s262_54 473 x 1 n 0 u) ∧ MQx u' Q (stq Q s0) ∧ FrJ u u' := by
  have h8 := h.n8
  have hL : ∀ j, gI u (473 + 16) j = uL s0 j := fun j => by rw [show gI u (473 + 16) = uL s0 from h.2.1.1]
  obtain ⟨b, hv, e⟩ := lpR (F := fun k b => s262_54 473 x b n k u) (I := fun k b => b = b2i (sok N n s0 k)) N.1 (fun k b hk e => by
    subst e
    obtain ⟨g1, g2, g3⟩ := hN.2 k hk
    obtain ⟨b1, b2, b3⟩ := hg.2 k hk
    have b8 := hg.1
    have es : sok N n s0 (k + 1) = (sok N n s0 k && (!decide (N.2.2.1 k = n) || decide (uL s0 (N.2.1 k) = N.2.2.2 k))) := rfl
    refine ⟨_, fun o ho => e262_54 h.H l473 _ ?_, rfl⟩
    rw [es] at ho
    rw [hN.1, if_neg (by omega), wrs (by omega)]
    cases z1 : sok N n s0 k
    · rw [if_pos (by decide)]
      rw [z1] at ho
      exact ho
    · rw [z1] at ho
      rw [if_neg (by decide), gdi (by omega) (by omega), nn, show gI u (473 + 29) k = N.2.2.1 k from g2]
      by_cases z2 : N.2.2.1 k = n
      · rw [decide_eq_true z2] at ho
        rw [if_neg (fun q => q z2), gdi (by omega) (by omega), show gI u (473 + 28) k = ((N.2.1 k : Nat) : Int) from g1, gdi (by omega) (by omega), gdi (by omega) (by omega), nn, hL, show gI u (473 + 30) k = N.2.2.2 k from g3]
        by_cases z3 : uL s0 (N.2.1 k) = N.2.2.2 k
        · rw [decide_eq_true z3] at ho
          rw [if_neg (fun q => q z3)]
          exact ho
        · rw [decide_eq_false z3] at ho
          rw [if_pos z3]
          exact ho
      · rw [decide_eq_false z2] at ho
        rw [if_pos z2]
        exact ho) 1 rfl
  subst e
  obtain ⟨u', l1, l2, l3, -⟩ := y222 h hf ht
  refine ⟨u', fun o ho => hv _ (e262_54 h.H l473 _ ?_), l2, l3⟩
  rw [hN.1, if_pos (Int.le_refl _), l1, b0_r l2.H, wrs (by omega)]
  exact ho
theorem y262 {w : Wd} {Q : QT} {s : ST} {N : NT} (h : MQy w Q s) (hN : RNm w N) (hg : GN (zn Q) N) (ht : uT s ≤ 50000) : ∃ w', F262 473 w = rI (b2i (asS Q N s)) w' ∧ MQy w' Q s ∧ FrW w w' := by
  have h8 := h.1.n8
  have hT0 := h.1.t
  have b8 := hg.1
  obtain ⟨v, k1, k2, k3, -⟩ := y208 (a := 504) (off := 0) (n := 28) h.1 l504 (by omega) (by omega) (by omega)
  have hv : MQy v Q s := h.fr k3 (fun b hb => by omega)
  have fv : FrW w v := FrW.of k3 (fun b hb => by omega)
  have Nv := hN.S fv.S
  obtain ⟨b20, -⟩ := lsN_ub hg N.1 (Nat.le_refl _)
  obtain ⟨_, hub⟩ := lsN_ub hg N.1 (Nat.le_refl _)
  obtain ⟨x, hx, e⟩ := lpR (F := fun k x => s262_13 473 x k v) (I := fun k x => x = lsN N k) N.1 (fun k x hk e => by
    subst e
    refine ⟨_, fun o ho => e262_13 hv.H l473 _ ?_, rfl⟩
    rw [Nv.1, if_neg (by omega), gdi (by omega) (by omega), nn, show gI v (473 + 29) k = N.2.2.1 k from (Nv.2 k hk).2.1, q325 hv.H, bI_r hv.H, wrs (by omega)]
    rw [lsN_s] at ho
    exact ho) 0 rfl
  subst e
  have hx0 : Rf (s262_42 473 (lsN N N.1) 1 0 v) (F262 473 w) := by
    refine fun o ho => e262 h.H l473 _ ?_
    rw [show (473 + 31 : Nat) = 504 from rfl, show F208 473 504 0 w = r0 v from k1, b0_r hv.H]
    refine hx _ (e262_13 hv.H l473 _ ?_)
    rw [Nv.1, if_pos (Int.le_refl _)]
    exact ho
  have fin : ∀ {u : Wd} {k : Nat} {b : Bool} {y : Int}, k ≤ 30 → MQx u Q (goN Q s k) → FrJ v u → b = asS Q N s → ∃ w', s262_122 473 (lsN N N.1) (b2i b) y u = rI (b2i (asS Q N s)) w' ∧ MQy w' Q s ∧ FrW w w' := by
    intro u k b y hk hu hf hb
    obtain ⟨w', c1, c2, c3, c4⟩ := y209 (a := 504) (off := 0) (n := 28) hu (k2.fr hf.1 (by unfold AMr; omega)) l504 (by omega) (by omega) (by omega) (h.1.E8 k (by omega)) h.1.s h.1.I
    rw [pM_self (uM_goN k).symm] at c2
    have c44 : gI w' 473 44 = 0 := by rw [c4 44 (by omega), hf.2 44 (by omega) (by omega)]; exact hv.2
    refine ⟨w', e262_122 hu.H l473 _ ?_, ⟨c2, c44⟩, (fv.tr hf.W).tr ⟨c3.wk (fun b hb => by omega), fun i h1 _ => c4 i h1⟩⟩
    rw [show (473 + 31 : Nat) = 504 from rfl, show F209 473 504 0 u = r0 w' from c1, b0_r c2.H, gP_t (b2i_or _), hb]
  obtain ⟨L, hL, hLe⟩ : ∃ L : Nat, lsN N N.1 = L ∧ L ≤ 20 := ⟨(lsN N N.1).toNat, by omega, by omega⟩
  rw [hL] at hx0 fin hub
  rcases lpX (F := fun k u => s262_42 473 (L : Int) 1 k u) (I := fun k u => MQx u Q (goN Q s k) ∧ FrJ v u ∧ ∀ i, i < N.1 → N.2.2.1 i < (k : Int) → uL (goN Q s (N.2.2.1 i).toNat) (N.2.1 i) = N.2.2.2 i) (Q := fun o => ∃ w', o = (.inl (some (.inl (b2i (asS Q N s)))), w') ∧ MQy w' Q s ∧ FrW w w') (L + 1) (fun k u hk e => by
    obtain ⟨e1, ef, e2⟩ := e
    have hT := goN_T (Q := Q) (s := s) k
    have Nu := Nv.S ef.S
    obtain ⟨u', l1, l2, l3⟩ := y262i (n := k) (x := (L : Int)) e1 Nu hg (by rw [ef.2 44 (by omega) (by omega)]; exact hv.2) (by omega) (by omega)
    have hd : Rf (s262_54 473 (L : Int) 1 k 0 u) (s262_42 473 (L : Int) 1 k u) := fun o ho => e262_42 e1.H l473 _ (by rw [if_neg (by omega), if_neg (by omega)]; exact ho)
    have hs := sok_iff (N := N) (n := (k : Int)) (u := goN Q s k) N.1
    cases z : sok N (k : Int) (goN Q s k) N.1
    · have ha : false = asS Q N s := by
        cases y : asS Q N s
        · rfl
        · rw [z] at hs
          refine absurd (hs.mpr (fun j hj hn => ?_)) (by decide)
          have := asS_iff.mp y j hj
          rw [hn, nn] at this
          exact this
      rw [z] at l1
      obtain ⟨w', t1, t2, t3⟩ := fin (b := false) (y := ((k + 1 : Nat) : Int)) (show k + 1 ≤ 30 by omega) l2 (ef.tr l3) ha
      refine Or.inr ⟨_, hd _ (l1 _ (e262_42 l2.H l473 _ ?_)), w', rfl, t2, t3⟩
      by_cases q : (L : Int) < ((k + 1 : Nat) : Int)
      · rw [if_pos q]; exact t1
      · rw [if_neg q, if_pos (by decide)]; exact t1
    · rw [z] at l1
      refine Or.inl ⟨u', l1.tr hd, l2, ef.tr l3, fun i hi hlt => ?_⟩
      by_cases y : N.2.2.1 i = (k : Int)
      · rw [y, nn]
        exact hs.mp z i hi y
      · exact e2 i hi (by omega)) v ⟨hv.1, FrJ.rf, fun i hi hlt => absurd hlt (by have := (hg.2 i hi).2.1; omega)⟩ with ⟨u, hu, i1, i2, i3⟩ | ⟨o, ho, w', hq, q1, q2⟩
  · have ha : true = asS Q N s := (asS_iff.mpr (fun i hi => i3 i hi (by have := hub i hi; omega))).symm
    obtain ⟨w', t1, t2, t3⟩ := fin (b := true) (y := ((L + 1 : Nat) : Int)) (show L + 1 ≤ 30 by omega) i1 i2 ha
    exact ⟨w', hx0 _ (hu _ (e262_42 i1.H l473 _ (by rw [if_pos (by omega)]; exact t1))), t2, t3⟩
  · exact ⟨w', hx0 _ (by rw [← hq]; exact ho), q1, q2⟩
/-! whose watches fit -/
/-- the reference's row of those that fit, among the first E -/
def RFt (u : Wd) (Q : QT) (N : NT) (s : ST) (E : Nat) : Prop := gI u 473 55 = (cn (ftE Q N s) E : Nat) ∧ ∀ x, x < E → ftE Q N s x = true → gI u 505 (cn (ftE Q N s) x) = ((100 * (x / 60) + x % 60 : Nat) : Int)
theorem cn_s {P : Nat → Bool} {n : Nat} : cn P (n + 1) = cn P n + (if P n = true then 1 else 0) := rfl
theorem cn_mono {P : Nat → Bool} {a : Nat} : ∀ b, a ≤ b → cn P a ≤ cn P b := by
  intro b
  induction b with
  | zero => intro h; rw [show a = 0 by omega]; exact Nat.le_refl _
  | succ b ih =>
    intro h
    by_cases e : a = b + 1
    · rw [e]; exact Nat.le_refl _
    · rw [cn_s]; have := ih (by omega); omega
theorem cn_lt {P : Nat → Bool} {a b : Nat} (h : a < b) (hP : P a = true) : cn P a < cn P b := by
  have := cn_mono (P := P) b (show a + 1 ≤ b by omega)
  rw [cn_s, if_pos hP] at this
  omega
theorem y263i {w : Wd} {Q : QT} {s : ST} {N : NT} {p : Nat} (h : MQy w Q s) (hN : RNm w N) (hg : GN (zn Q) N) (ht : uT s ≤ 50000) (hp : p < zn Q) (hR : RFt w Q N s (60 * p)) :
    ∃ w', Rf (s263_7 473 ((p + 1 : Nat) : Int) w') (s263_7 473 p w) ∧ MQy w' Q s ∧ FrI (fun b => b = 473 ∨ (489 ≤ b ∧ b ≤ 491) ∨ (493 ≤ b ∧ b ≤ 496) ∨ b = 504 ∨ b = 505) w w' ∧ (∀ i, (i < 33 ∨ 36 < i) → i ≠ 43 → i ≠ 55 → gI w' 473 i = gI w 473 i) ∧ RFt w' Q N s (60 * (p + 1)) := by
  have h8 := h.1.n8
  have hw := h.1.s.2.2.1 p
  obtain ⟨v, hv, ⟨y, hy, i1⟩, i2, i3, i4⟩ := lpR (F := fun k v => s263_26 473 p (uW s p) k v) (I := fun k v => (∃ y, (0 ≤ y ∧ y < 60) ∧ MQy v Q (sW s p y)) ∧ FrI (fun b => b = 473 ∨ (489 ≤ b ∧ b ≤ 491) ∨ (493 ≤ b ∧ b ≤ 496) ∨ b = 504 ∨ b = 505) w v ∧ (∀ i, (i < 33 ∨ 36 < i) → i ≠ 43 → i ≠ 55 → gI v 473 i = gI w 473 i) ∧ RFt v Q N s (60 * p + k)) 60 (fun k v hk e => by
    obtain ⟨⟨y, hy, e1⟩, ef, e2, e3⟩ := e
    have h1 := e1.sW (p := p) (y := (k : Int)) (by omega)
    rw [sW_sW] at h1
    have hft : ftE Q N s (60 * p + k) = (!decide (uW s p = (k : Int)) && asS Q N (sW s p (k : Int))) := by
      unfold ftE ft
      rw [show (60 * p + k) / 60 = p by omega, show (60 * p + k) % 60 = k by omega]
    have f1 : FrI (fun b => b = 473 ∨ (489 ≤ b ∧ b ≤ 491) ∨ (493 ≤ b ∧ b ≤ 496) ∨ b = 504 ∨ b = 505) w (pI v 491 p (k : Int)) := ef.pp (by omega)
    have no : ∀ {v' : Wd}, ftE Q N s (60 * p + k) = false → gI v' 473 55 = gI v 473 55 → gI v' 505 = gI v 505 → RFt v' Q N s (60 * p + (k + 1)) := by
      intro v' hz g1 g2
      unfold RFt
      rw [g1, g2, show 60 * p + (k + 1) = 60 * p + k + 1 by omega, cn_s, if_neg (by rw [hz]; decide), Nat.add_zero]
      refine ⟨e3.1, fun x hx hfx => ?_⟩
      by_cases q : x = 60 * p + k
      · subst q; rw [hz] at hfx; cases hfx
      · exact e3.2 x (by omega) hfx
    by_cases z : (k : Int) = uW s p
    · have hz : ftE Q N s (60 * p + k) = false := by rw [hft, decide_eq_true z.symm]; rfl
      refine ⟨pI v 491 p (k : Int), fun o ho => e263_26 e1.H l473 _ ?_, ⟨k, by omega, h1⟩, f1, fun i h1 h2 h3 => by rw [gI_r (by decide)]; exact e2 i h1 h2 h3, no hz (by rw [gI_r (by decide)]) (gI_r (by decide))⟩
      rw [if_neg (by omega), gdi (by omega) (by omega), if_pos z, nn, wrs (by omega)]
      exact ho
    · have hT' : uT (sW s p (k : Int)) = uT s := rfl
      have hN1 : RNm (pI v 491 p (k : Int)) N := by
        unfold RNm
        rw [gI_r (b := 473) (by decide), gI_r (b := 501) (by decide), gI_r (b := 502) (by decide), gI_r (b := 503) (by decide), e2 38 (by omega) (by omega) (by omega), ef.g (by omega), ef.g (by omega), ef.g (by omega)]
        exact hN
      obtain ⟨v', l1, l2, l3⟩ := y262 h1 hN1 hg (by omega)
      have ff := f1.tr (l3.1.wk (fun b hb => by omega))
      have g5 : gI v' 473 55 = gI v 473 55 := by rw [l3.2 55 (by omega) (by omega), gI_r (by decide)]
      have g6 : gI v' 505 = gI v 505 := by rw [l3.1.g (by omega), gI_r (by decide)]
      have e2' : ∀ i, (i < 33 ∨ 36 < i) → i ≠ 43 → i ≠ 55 → gI v' 473 i = gI w 473 i := fun i h1 h2 h3 => by rw [l3.2 i h1 h2, gI_r (by decide)]; exact e2 i h1 h2 h3
      cases za : asS Q N (sW s p (k : Int))
      · have hz : ftE Q N s (60 * p + k) = false := by rw [hft, za]; simp
        refine ⟨v', fun o ho => e263_26 e1.H l473 _ ?_, ⟨k, by omega, l2⟩, ff, e2', no hz g5 g6⟩
        rw [if_neg (by omega), gdi (by omega) (by omega), if_neg z, nn, show (473 + 18 : Nat) = 491 from rfl, l1, bI_r l2.H, za, if_neg (by decide), wrs (by omega)]
        exact ho
      · have hz : ftE Q N s (60 * p + k) = true := by rw [hft, za, decide_eq_false (fun q => z q.symm)]; rfl
        have hc := cn_le (P := ftE Q N s) (60 * p + k)
        have g7 : gI v' 473 55 = ((cn (ftE Q N s) (60 * p + k) : Nat) : Int) := by rw [g5]; exact e3.1
        generalize hC : cn (ftE Q N s) (60 * p + k) = C at *
        have ev : wr (wr (100 * (p : Int)) + (k : Int)) = ((100 * p + k : Nat) : Int) := by rw [wrd (z := 100 * (p : Int)) (by omega) (by omega), wrd (by omega) (by omega)]; omega
        have h5 : MQy (pI (pI v' 505 C ((100 * p + k : Nat) : Int)) 473 55 ((C + 1 : Nat) : Int)) Q (sW s p (k : Int)) := (l2.fr (A := fun b => b = 505) (FrI.p rfl) (fun b hb => by omega)).pf (by omega)
        refine ⟨pI (pI v' 505 C ((100 * p + k : Nat) : Int)) 473 55 ((C + 1 : Nat) : Int), fun o ho => e263_26 e1.H l473 _ ?_, ⟨k, by omega, h5⟩, (ff.pp (by omega)).pp (by omega), fun i h1 h2 h3 => by rw [gI_c h3, gI_r (by decide)]; exact e2' i h1 h2 h3, ?_⟩
        · rw [if_neg (by omega), gdi (by omega) (by omega), if_neg z, nn, show (473 + 18 : Nat) = 491 from rfl, l1, bI_r l2.H, za, if_pos (by decide), g7, gdi (by omega) (by omega), nn, ev, show (473 + 32 : Nat) = 505 from rfl, gI_r (by decide), g7, wrs (by omega), wrs (by omega)]
          exact ho
        · unfold RFt
          rw [gI_s, show 60 * p + (k + 1) = 60 * p + k + 1 by omega, cn_s, if_pos hz, hC]
          refine ⟨rfl, fun x hx hfx => ?_⟩
          rw [gI_r (by decide)]
          by_cases q : x = 60 * p + k
          · subst q
            rw [hC, gI_s, show (60 * p + k) / 60 = p by omega, show (60 * p + k) % 60 = k by omega]
          · have hl := cn_lt (P := ftE Q N s) (show x < 60 * p + k by omega) hfx
            rw [gI_c (by omega), g6]
            exact e3.2 x (by omega) hfx) w ⟨⟨uW s p, hw, by rw [sW_self]; exact h⟩, FrI.rf, fun _ _ _ _ => rfl, hR⟩
  have h1 := i1.sW (p := p) (y := uW s p) hw
  rw [sW_sW, sW_self] at h1
  refine ⟨pI v 491 p (uW s p), fun o ho => e263_7 h.H l473 _ ?_, h1, i2.pp (by omega), fun i h1 h2 h3 => by rw [gI_r (by decide)]; exact i3 i h1 h2 h3, ?_⟩
  · rw [gdi (by omega) (by omega), show gI w (473 + 4) 1 = zn Q from h.1.n, if_neg (by omega), gdi (by omega) (by omega), nn, show gI w (473 + 18) p = uW s p by rw [show gI w (473 + 18) = uW s from h.1.2.1.2.2.1]]
    refine hv _ (e263_26 i1.H l473 _ ?_)
    rw [if_pos (by omega), gdi (by omega) (by omega), nn, wrs (by omega)]
    exact ho
  · unfold RFt
    rw [gI_r (b := 473) (by decide), gI_r (b := 505) (by decide)]
    exact i4
theorem y263 {w : Wd} {Q : QT} {s : ST} {N : NT} (h : MQy w Q s) (hN : RNm w N) (hg : GN (zn Q) N) (ht : uT s ≤ 50000) :
    ∃ w', F263 473 w = r0 w' ∧ MQy w' Q s ∧ FrS w w' ∧ gI w' 473 4 = gI w 473 4 ∧ RFt w' Q N s (60 * zn Q) := by
  have h8 := h.1.n8
  have h0 : MQy (pI w 473 55 0) Q s := h.pf (by omega)
  have f0 : FrS w (pI w 473 55 0) := FrS.p (by unfold ZF; omega)
  obtain ⟨v, hv, i1, i2, i3, i4⟩ := lpR (F := fun p v => s263_7 473 p v) (I := fun p v => MQy v Q s ∧ FrS w v ∧ gI v 473 4 = gI w 473 4 ∧ RFt v Q N s (60 * p)) (zn Q) (fun p v hp e => by
    obtain ⟨e1, e2, e3, e4⟩ := e
    obtain ⟨v', l1, l2, l3, l4, l5⟩ := y263i e1 (hN.S e2) hg ht hp e4
    refine ⟨v', l1, l2, e2.tr ⟨l3.wk (fun b hb => by unfold ZS; omega), fun i hi => l4 i (by unfold ZF at hi; omega) (by unfold ZF at hi; omega) (by unfold ZF at hi; omega)⟩, by rw [l4 4 (by omega) (by omega) (by omega)]; exact e3, l5⟩) (pI w 473 55 0) ⟨h0, f0, gI_c (by decide), gI_s, fun x hx => absurd hx (Nat.not_lt_zero _)⟩
  refine ⟨v, e263 h.H l473 _ (hv _ (e263_7 i1.H l473 _ ?_)), i1, i2, i3, i4⟩
  rw [gdi (by omega) (by omega), show gI v (473 + 4) 1 = zn Q from i1.1.n, if_pos (Int.le_refl _)]
theorem cn_none {P : Nat → Bool} : ∀ n, (cn P n = 0 ↔ ∀ i, i < n → P i = false) := by
  intro n
  induction n with
  | zero => exact ⟨fun _ i hi => absurd hi (Nat.not_lt_zero _), fun _ => rfl⟩
  | succ n ih =>
    rw [cn_s]
    constructor
    · intro e i hi
      cases z : P n
      · by_cases q : i = n
        · rw [q]; exact z
        · exact ih.mp (by omega) i (by omega)
      · rw [z] at e; simp at e
    · intro e
      rw [if_neg (by rw [e n (by omega)]; decide), ih.mpr (fun i hi => e i (by omega))]
theorem r264 {w : Wd} {Q : QT} {s : ST} {N : NT} {wh : Int} (h : MQy w Q s) (hN : RNm w N) (hg : GN (zn Q) N) (ht : uT s ≤ 999) : AnM Q s 2 w (F264 473 wh w) (aFast Q s N wh) := by
  refine AnM.of (e264 h.H l473) ?_
  obtain ⟨h0, f0, z0⟩ := st0 h
  revert h0 f0 z0
  generalize pI w 473 4 0 = w0
  intro h0 f0 z0
  refine AnM.W1 rfl h0 (AnM.f h0 f0 rfl) fun q0 q1 => ?_
  have h8 := h.1.n8
  by_cases z2 : wh = 2
  · obtain ⟨w', a1, a2, a3⟩ := y262 h0 (hN.S f0) hg (by omega)
    have z4 : gI w' 473 4 = 0 := by rw [a3.2 4 (by omega) (by omega)]; exact z0
    rw [if_neg (by omega), if_pos z2, a1, bI_r a2.H]
    cases asS Q N s
    · rw [if_pos (show b2i false = 0 from rfl)]; exact AnM.v a2 (f0.tr a3.S) z4
    · rw [if_neg (show ¬ b2i true = 0 by decide)]; exact AnM.v a2 (f0.tr a3.S) z4
  · obtain ⟨w', a1, a2, a3, a4, a5, a6⟩ := y263 h0 (hN.S f0) hg (by omega)
    rw [if_pos z2, if_neg z2, a1, b0_r a2.H, a5]
    by_cases y0 : wh = 0
    · rw [if_neg (by omega), if_pos y0]
      exact AnM.v a2 (f0.tr a3) (a4.trans z0)
    · rw [if_pos y0, if_neg y0]
      rcases frs_b (P := ftE Q N s) (60 * zn Q) with e | ⟨k, k1, k2, k3, k4⟩
      · have hc : cn (ftE Q N s) (60 * zn Q) = 0 := (cn_none _).mpr (fun i hi => by
          cases q : ftE Q N s i
          · rfl
          · exfalso
            have hm : ∀ j, j ≤ 60 * zn Q → frs (ftE Q N s) j = -1 := by
              intro j hj
              rcases Classical.em (frs (ftE Q N s) j = -1) with r | r
              · exact r
              · have := frs_m (P := ftE Q N s) (60 * zn Q) hj r
                rw [e] at this; exact this.symm
            have h1 := hm (i + 1) (by omega)
            have h2 := hm i (by omega)
            have h3 : frs (ftE Q N s) (i + 1) = if frs (ftE Q N s) i = -1 ∧ ftE Q N s i = true then (i : Int) else frs (ftE Q N s) i := rfl
            rw [if_pos ⟨h2, q⟩] at h3
            omega)
        rw [hc, if_neg (by omega), if_pos e]
        exact AnM.v a2 (f0.tr a3) (a4.trans z0)
      · have hc : cn (ftE Q N s) k = 0 := (cn_none _).mpr k4
        have hp := cn_lt (P := ftE Q N s) k1 k3
        have e5 := a6 k k1 k3
        rw [hc] at e5
        rw [if_pos (by omega), gdi (by omega) (by omega), show gI w' (473 + 32) 0 = _ from e5, k2, if_neg (by omega), show ((100 * (k / 60) + k % 60 : Nat) : Int) = 100 * ((k : Int) / 60) + (k : Int) % 60 by omega]
        exact AnM.v a2 (f0.tr a3) (a4.trans z0)
