/-! the class's answers: fog, a game, years -/
theorem bit_n {m k : Nat} (hm : m < 256) (hk : k < 8) : bAnd (bShr (m : Int) k) 1 = if m.testBit k then 1 else 0 := by
  rw [mk_self hm]
  cases h : m.testBit k
  · rw [mk_bit_f (by omega) (by omega) h]; rfl
  · rw [mk_bit_t (by omega) hk h]; rfl
def fgN (Q : QT) (s : ST) (m k : Nat) : ST := it (fun j u => if m.testBit j then endS u else stq Q u) k s
def wgN (t : Int) (m k : Nat) : Int := it (fun j x => x * (if m.testBit j then t else 10 - t)) k 1
def fgV (Q : QT) (s : ST) (x k : Nat) (t : Int) (m : Nat) : Int := if uL (fgN Q s m k) x = 0 then wgN t m k else 0
def aFog (Q : QT) (s : ST) (x k t : Int) : An := gdP (zn Q) x (gdB 1 5 k (gdB 0 10 t (.inl (sumN (fgV Q s x.toNat k.toNat t) (2 ^ k.toNat)))))
theorem fgN_s {Q : QT} {s : ST} {m k : Nat} : fgN Q s m (k + 1) = if m.testBit k then endS (fgN Q s m k) else stq Q (fgN Q s m k) := rfl
theorem wgN_s {t : Int} {m k : Nat} : wgN t m (k + 1) = wgN t m k * (if m.testBit k then t else 10 - t) := rfl
theorem wgN_b {t : Int} {m : Nat} (ht : 0 ≤ t ∧ t ≤ 10) : ∀ k : Nat, 0 ≤ wgN t m k ∧ wgN t m k ≤ (10 : Int) ^ k := by
  intro k
  induction k with
  | zero => exact ⟨by show (0 : Int) ≤ 1; omega, by show (1 : Int) ≤ 1; omega⟩
  | succ k ih =>
    rw [wgN_s]
    have hx : 0 ≤ (if m.testBit k then t else 10 - t) ∧ (if m.testBit k then t else 10 - t) ≤ 10 := by split <;> omega
    generalize (if m.testBit k then t else 10 - t) = x at *
    refine ⟨Int.mul_nonneg ih.1 hx.1, ?_⟩
    rw [Int.pow_succ]
    exact Int.mul_le_mul ih.2 hx.2 hx.1 (by omega)
theorem fgN_G {Q : QT} {s : ST} {m : Nat} (hs : GS (zn Q) s) : ∀ k : Nat, uT s + k ≤ 100000 → GS (zn Q) (fgN Q s m k) ∧ uT (fgN Q s m k) = uT s + k := by
  intro k
  induction k with
  | zero => intro _; exact ⟨hs, by show uT s = uT s + ((0 : Nat) : Int); omega⟩
  | succ k ih =>
    intro hk
    obtain ⟨h1, h2⟩ := ih (by omega)
    rw [fgN_s]
    split
    · exact ⟨GS_end h1 (by omega), by show uT (fgN Q s m k) + 1 = _; omega⟩
    · exact ⟨GS_stq h1 (by omega), by rw [stq_T]; omega⟩
theorem c155 {w : Wd} {q : Nat} {Q : QT} {s : ST} {x k t : Int} (h : CQ w q Q s) : AnC w (F155 0 x k t w) (aFog Q s x k t) := by
  refine AnC.of (e155 h.H l0) (AnC.P h fun x0 x1 => AnC.B h.H fun k0 k1 => AnC.B h.H fun t0 t1 => ?_)
  have h8 := h.n8
  have hT := h.t
  obtain ⟨p, rfl, hp⟩ := toN x0 x1
  obtain ⟨K, rfl, hK⟩ := toN (show 0 ≤ k by omega) (show k < 6 by omega)
  have hN : 2 ^ K ≤ 32 := Nat.pow_le_pow_right (n := 2) (by omega) (show K ≤ 5 by omega)
  have hX : (10 : Int) ^ K ≤ 100000 := by
    have : K = 1 ∨ K = 2 ∨ K = 3 ∨ K = 4 ∨ K = 5 := by omega
    rcases this with rfl | rfl | rfl | rfl | rfl <;> decide
  rw [nn, nn]
  have hV : ∀ m : Nat, 0 ≤ fgV Q s p K t m ∧ fgV Q s p K t m ≤ 100000 := fun m => by
    have := wgN_b (m := m) ⟨t0, t1⟩ K
    unfold fgV; split <;> omega
  obtain ⟨⟨a, u⟩, hu, e1, e2⟩ := lpR (F := fun m (a : Int × Wd) => s155_26 0 p K t a.1 m a.2) (I := fun m a => a.1 = sumN (fgV Q s p K t) m ∧ FrC w a.2) (2 ^ K) (fun m a hm e => by
    obtain ⟨a, u⟩ := a
    obtain ⟨e1, e2⟩ := e
    simp only [] at e1 e2
    have hu := h.fr e2
    have hb := sumN_b hV m
    have hvm := hV m
    obtain ⟨v, k1', ⟨c1, -⟩, k2⟩ := q169 hu
    have hV' := k2.LR hu.H
    obtain ⟨⟨y, z⟩, hz, i1, i2, i3⟩ := lpR (F := fun j (a' : Int × Wd) => s155_44 0 p K t a m a'.1 j a'.2) (I := fun j a' => a'.1 = wgN t m j ∧ FrC w a'.2 ∧ RS a'.2 39 (fgN Q s m j)) K (fun j a' hj e => by
      obtain ⟨y, z⟩ := a'
      obtain ⟨i1, i2, i3⟩ := e
      simp only [] at i1 i2 i3
      have hz := h.fr i2
      obtain ⟨g1, g2⟩ := fgN_G (Q := Q) (m := m) h.s j (by omega)
      have hw := wgN_b (m := m) ⟨t0, t1⟩ j
      have hw2 : (10 : Int) ^ j ≤ 10000 := by
        have : j = 0 ∨ j = 1 ∨ j = 2 ∨ j = 3 ∨ j = 4 := by omega
        rcases this with rfl | rfl | rfl | rfl | rfl <;> decide
      have hbit := bit_n (m := m) (k := j) (by omega) (by omega)
      have hmul : ∀ x : Int, 0 ≤ x → x ≤ 10 → 0 ≤ wgN t m j * x ∧ wgN t m j * x ≤ 100000 := fun x q1 q2 => ⟨Int.mul_nonneg hw.1 q1, Int.le_trans (Int.mul_le_mul (c := 10000) (d := 10) (by omega) q2 q1 (by omega)) (by omega)⟩
      cases hbj : m.testBit j
      · rw [hbj, if_neg (by simp)] at hbit
        obtain ⟨z', l1, l2, l3, -⟩ := qgo (K := 1) h i2 i3 g1 (by omega)
        have hm2 := hmul (10 - t) (by omega) (by omega)
        refine ⟨(wgN t m (j + 1), z'), fun o ho => e155_44 hz.H l0 _ ?_, rfl, l3, ?_⟩
        · dsimp only at ho ⊢
          rw [wgN_s, hbj, if_neg (by simp)] at ho
          rw [if_neg (by omega), hbit, if_pos (by omega), hz.q, show F17 (0 + 27) q (0 + 39) 1 z = r0 z' from l1, b0_r (l3.LR h.H), i1, wrd (z := 10 - t) (by omega) (by omega), wrd (z := wgN t m j * (10 - t)) (by omega) (by omega), wrd (by omega) (by omega)]
          exact ho
        · rw [fgN_s, hbj, if_neg (by simp)]; exact l2
      · rw [hbj, if_pos rfl] at hbit
        obtain ⟨z', l1, l2, l3⟩ := q92 hz.H l39 i3 g1
        have f3 : FrC w z' := i2.tr (l3.C (fun b hb => by unfold AS at hb; unfold SC; omega))
        have hm2 := hmul t (by omega) (by omega)
        refine ⟨(wgN t m (j + 1), z'), fun o ho => e155_44 hz.H l0 _ ?_, rfl, f3, ?_⟩
        · dsimp only at ho ⊢
          rw [wgN_s, hbj, if_pos rfl] at ho
          rw [if_neg (by omega), hbit, if_neg (by omega), l1, b0_r (f3.LR h.H), i1, wrd (z := wgN t m j * t) (by omega) (by omega), wrd (by omega) (by omega)]
          exact ho
        · rw [fgN_s, hbj, if_pos rfl]; exact l2) (1, v) ⟨rfl, e2.tr k2, c1⟩
    simp only [] at hz i1 i2 i3
    have hz' := h.fr i2
    have e80 := q80 (p := p) hz'.H l39 (by omega) i3
    have hl := ((fgN_G (Q := Q) (m := m) h.s K (by omega)).1.1 p).1
    refine ⟨(sumN (fgV Q s p K t) (m + 1), z), fun o ho => e155_26 hu.H l0 _ ?_, rfl, i2⟩
    dsimp only at ho ⊢
    have e3 : sumN (fgV Q s p K t) (m + 1) = sumN (fgV Q s p K t) m + fgV Q s p K t m := rfl
    rw [e3] at ho
    rw [bShl_1 K (by omega), if_neg (by omega), k1', b0_r hV']
    refine hz _ (e155_44 hz'.H l0 _ ?_)
    rw [if_pos (Int.le_refl _), e80, bI_r hz'.H]
    by_cases y0 : uL (fgN Q s m K) p = 0
    · have e4 : fgV Q s p K t m = wgN t m K := if_pos y0
      rw [if_neg (by rw [if_neg (by omega)]; omega), i1, ← e4, e1, wrd (z := sumN (fgV Q s p K t) m + fgV Q s p K t m) (by omega) (by omega), wrd (by omega) (by omega)]
      exact ho
    · have e4 : fgV Q s p K t m = 0 := if_neg y0
      rw [if_pos (by rw [if_pos (by omega)]), e1, wrd (by omega) (by omega)]
      rw [e4, Int.add_zero] at ho
      exact ho) (0, w) ⟨rfl, FrC.rf⟩
  simp only [] at hu e1 e2
  have : s155_26 0 p K t 0 0 w = rI a u := hu _ (e155_26 (e2.LR h.H) l0 _ (by rw [bShl_1 K (by omega), if_pos (Int.le_refl _)]))
  rw [this, e1]
  exact AnC.v e2
/-! a game -/
def sH (s : ST) (p : Nat) : ST := pS (pM s (va_up (uM s) p 9)) (fun i => if i = p then true else uI s i)
def gmU (Q : QT) (s : ST) (x o c : Nat) : ST := goN Q (if c % 2 = 1 then sH (if c / 2 = 1 then sH s x else s) o else (if c / 2 = 1 then sH s x else s)) 6
def gmG (Q : QT) (s : ST) (x o : Nat) (i : Nat) : Int := if i % 2 = 0 then uL (gmU Q s x o (i / 2)) x / 4 - 2 * ((i / 2 / 2 : Nat) : Int) else uL (gmU Q s x o (i / 2)) o / 4 - 2 * ((i / 2 % 2 : Nat) : Int)
def rst (g : Row) (c : Nat) : Bool := decide (g (2 * (c ^^^ 2)) ≤ g (2 * c)) && decide (g (2 * (c ^^^ 1) + 1) ≤ g (2 * c + 1))
def gmS (g : Row) (c : Nat) (a : Int × Int) : Int × Int := if rst g c then (a.1 + 1, if a.1 = 0 then ((10 * (c / 2) + c % 2 : Nat) : Int) else a.2) else a
def gmN (g : Row) (k : Nat) : Int × Int := it (gmS g) k (0, -1)
def aGame (Q : QT) (s : ST) (x o wh : Int) : An := gdP (zn Q) x (gdP (zn Q) o (gdW 2 wh (if x = o then .inr 1 else .inl (if wh = 0 then (gmN (gmG Q s x.toNat o.toNat) 4).1 else (gmN (gmG Q s x.toNat o.toNat) 4).2))))
theorem GS_H {n p : Nat} {s : ST} (h : GS n s) : GS n (sH s p) := by
  obtain ⟨g1, g2, g3, g4, g5⟩ := h
  refine ⟨g1, g2, g3, fun i => ?_, g5⟩
  show 0 ≤ va_up (uM s) p 9 i ∧ va_up (uM s) p 9 i ≤ 9
  have := g4 i
  unfold va_up
  split <;> omega
theorem RS_H {w : Wd} {a p : Nat} {s : ST} (h : RS w a s) : RS (pI (pI w (a + 3) p 9) a 4 (mk (fun i => if i = p then true else uI s i) 8)) a (sH s p) := by
  rw [pI_eq (w := w) h.2.2.1]
  exact RS_I (RS_M h)
theorem gm_step {w v : Wd} {q : Nat} {Q : QT} {s u : ST} {p : Nat} {b : Bool} (h : CQ w q Q s) (f : FrC w v) (hr : RS v 39 u) (hp : p < zn Q) :
    ∃ v', (b = true → F89 39 p v = r0 v') ∧ (b = false → v' = v) ∧ FrC w v' ∧ RS v' 39 (if b then sH u p else u) := by
  have h8 := h.n8
  cases b
  · exact ⟨v, fun e => (by cases e), fun _ => rfl, f, hr⟩
  · exact ⟨_, fun _ => q89 (f.LR h.H) l39 (by omega) hr, fun e => (by cases e), f.tr (FrI.C (A := AS 39) ((FrI.p ⟨by omega, by omega⟩).pp ⟨by omega, by omega⟩) (fun b hb => by unfold AS at hb; unfold SC; omega)), RS_H hr⟩
theorem c157 {w u : Wd} {q : Nat} {Q : QT} {s : ST} {x o c : Nat} (h : CQ w q Q s) (f : FrC w u) (hx : x < zn Q) (ho : o < zn Q) (hc : c < 4) :
    ∃ u', F157 0 x o c u = r0 u' ∧ FrC w u' ∧ gI u' 472 (2 * c) = gmG Q s x o (2 * c) ∧ gI u' 472 (2 * c + 1) = gmG Q s x o (2 * c + 1) ∧ ∀ i, i ≠ 2 * c → i ≠ 2 * c + 1 → gI u' 472 i = gI u 472 i := by
  have h8 := h.n8
  have hT := h.t
  have hu := h.fr f
  obtain ⟨v, k1, ⟨c1, -⟩, k2⟩ := q169 hu
  have hk472 : gI v 472 = gI u 472 := by
    -- the rewinding keeps the row of gains
    obtain ⟨w1, m1, m2, m3⟩ := q74 (a := 39) (b := 34) hu.H l39 l34 (by omega) hu.2.2.2.1
    obtain ⟨w2, m4, m5, -⟩ := q16 (m3.LR hu.H)
    have : F169 0 u = r0 w2 := e169 hu.H l0 _ (by rw [m1, b0_r (m3.LR hu.H), m4, b0_r (m5.LR (m3.LR hu.H))])
    rw [this] at k1
    cases k1
    rw [m5.g (by omega), m3.g (by unfold AS; omega)]
  have hb1 : bAnd (bShr (c : Int) 1) 1 = ((c / 2 : Nat) : Int) := by
    have : c = 0 ∨ c = 1 ∨ c = 2 ∨ c = 3 := by omega
    rcases this with rfl | rfl | rfl | rfl <;> decide
  have hb0 : bAnd (c : Int) 1 = ((c % 2 : Nat) : Int) := by
    have : c = 0 ∨ c = 1 ∨ c = 2 ∨ c = 3 := by omega
    rcases this with rfl | rfl | rfl | rfl <;> decide
  obtain ⟨v1, a1, a2, a3, a4⟩ := gm_step (b := decide (c / 2 = 1)) h (f.tr k2) c1 hx
  obtain ⟨v2, b1, b2, b3, b4⟩ := gm_step (b := decide (c % 2 = 1)) h a3 a4 ho
  have e472 : gI v1 472 = gI v 472 := by
    by_cases z : c / 2 = 1
    · have := q89 ((f.tr k2).LR h.H) l39 (show x < 8 by omega) c1
      rw [a1 (by simpa using z)] at this
      cases this
      rw [gI_r (by omega), gI_r (by omega)]
    · rw [a2 (by simpa using z)]
  have e472' : gI v2 472 = gI v1 472 := by
    by_cases z : c % 2 = 1
    · have := q89 (a3.LR h.H) l39 (show o < 8 by omega) a4
      rw [b1 (by simpa using z)] at this
      cases this
      rw [gI_r (by omega), gI_r (by omega)]
    · rw [b2 (by simpa using z)]
  have hst : RS v2 39 (if c % 2 = 1 then sH (if c / 2 = 1 then sH s x else s) o else (if c / 2 = 1 then sH s x else s)) := by
    have := b4
    by_cases z1 : c / 2 = 1 <;> by_cases z2 : c % 2 = 1 <;> simpa [z1, z2] using this
  have hG : GS (zn Q) (if c % 2 = 1 then sH (if c / 2 = 1 then sH s x else s) o else (if c / 2 = 1 then sH s x else s)) := by
    split
    · refine GS_H ?_
      split
      · exact GS_H h.s
      · exact h.s
    · split
      · exact GS_H h.s
      · exact h.s
  have hTT : uT (if c % 2 = 1 then sH (if c / 2 = 1 then sH s x else s) o else (if c / 2 = 1 then sH s x else s)) = uT s := by
    split <;> split <;> rfl
  have hq := h.fr b3
  obtain ⟨v3, l1, l2, l3, -⟩ := q17 (K := 6) hq.H l39 (lq h.1) h.g hst hG hq.2.2.1 (Or.inr rfl) h.1 (by rw [hTT]; omega)
  have f3 : FrC w v3 := b3.tr (l3.C (fun b hb => by unfold AG AS at hb; unfold SC; omega))
  have H3 := f3.LR h.H
  have e3 : gI v3 472 = gI u 472 := by rw [l3.g (by unfold AG AS; omega), e472', e472, hk472]
  have hL : ∀ p, gI v3 40 p = uL (gmU Q s x o c) p := fun p => by rw [show gI v3 40 = uL _ from l2.1]; rfl
  have hG6 := GS_goN hG 6 (by rw [hTT]; omega)
  have hLx := hG6.1 x
  have hLo := hG6.1 o
  have hcc : ((c / 2 : Nat) : Int) ≤ 1 ∧ ((c % 2 : Nat) : Int) ≤ 1 := by omega
  refine ⟨pI (pI v3 472 (2 * c) (gmG Q s x o (2 * c))) 472 (2 * c + 1) (gmG Q s x o (2 * c + 1)), e157 hu.H l0 _ ?_, f3.tr (FrI.C (A := fun b => b = 472) (FrI.pp (FrI.p (A := fun b => b = 472) rfl) rfl) (fun b hb => by unfold SC; omega)), by rw [gI_c (by omega), gI_s], by rw [gI_s], fun i i1 i2 => by rw [gI_c i2, gI_c i1, e3]⟩
  rw [k1, b0_r (k2.LR hu.H), hb1, hb0]
  have hfin : s157_44 0 x o c ((c / 2 : Nat) : Int) ((c % 2 : Nat) : Int) v2 = r0 (pI (pI v3 472 (2 * c) (gmG Q s x o (2 * c))) 472 (2 * c + 1) (gmG Q s x o (2 * c + 1))) := by
    refine e157_44 hq.H l0 _ ?_
    have d1 : wr (Int.tdiv (uL (gmU Q s x o c) x) 4) = uL (gmU Q s x o c) x / 4 := by
      have : 0 ≤ uL (gmU Q s x o c) x ∧ uL (gmU Q s x o c) x ≤ 999 := hLx
      rw [Int.tdiv_eq_ediv_of_nonneg this.1, wrd (by omega) (by omega)]
    have d2 : wr (Int.tdiv (uL (gmU Q s x o c) o) 4) = uL (gmU Q s x o c) o / 4 := by
      have : 0 ≤ uL (gmU Q s x o c) o ∧ uL (gmU Q s x o c) o ≤ 999 := hLo
      rw [Int.tdiv_eq_ediv_of_nonneg this.1, wrd (by omega) (by omega)]
    have g1 : gmG Q s x o (2 * c) = uL (gmU Q s x o c) x / 4 - 2 * ((c / 2 : Nat) : Int) := by
      unfold gmG
      rw [if_pos (by omega), show 2 * c / 2 = c by omega]
    have g2 : gmG Q s x o (2 * c + 1) = uL (gmU Q s x o c) o / 4 - 2 * ((c % 2 : Nat) : Int) := by
      unfold gmG
      rw [if_neg (by omega), show (2 * c + 1) / 2 = c by omega]
    have hLx' : 0 ≤ uL (gmU Q s x o c) x ∧ uL (gmU Q s x o c) x ≤ 999 := hLx
    have hLo' : 0 ≤ uL (gmU Q s x o c) o ∧ uL (gmU Q s x o c) o ≤ 999 := hLo
    rw [hq.q, show F17 (0 + 27) q (0 + 39) 6 v2 = r0 v3 from l1, b0_r H3, if_neg (by omega), if_neg (by omega), q75 (s := 39) (p := x) H3 l39 (by omega), bI_r H3, show gI v3 (39 + 1) x = uL (gmU Q s x o c) x from hL x, d1, wrd (z := 2 * ((c / 2 : Nat) : Int)) (by omega) (by omega), wrd (z := uL (gmU Q s x o c) x / 4 - 2 * ((c / 2 : Nat) : Int)) (by omega) (by omega), wrd (z := 2 * (c : Int)) (by omega) (by omega), show 2 * (c : Int) = ((2 * c : Nat) : Int) by omega, gdi (by omega) (by omega), nn, ← g1]
    rw [q75 (s := 39) (p := o) (w := pI v3 472 (2 * c) (gmG Q s x o (2 * c))) H3 l39 (by omega), bI_r (w := pI v3 472 (2 * c) (gmG Q s x o (2 * c))) H3, gI_r (by omega), show gI v3 (39 + 1) o = uL (gmU Q s x o c) o from hL o, d2, wrd (z := 2 * ((c % 2 : Nat) : Int)) (by omega) (by omega), wrd (z := uL (gmU Q s x o c) o / 4 - 2 * ((c % 2 : Nat) : Int)) (by omega) (by omega), ← g2, wrd (z := ((2 * c : Nat) : Int) + 1) (by omega) (by omega), show ((2 * c : Nat) : Int) + 1 = ((2 * c + 1 : Nat) : Int) by omega, gdi (by omega) (by omega), nn]
  have h30 : s157_30 0 x o c ((c / 2 : Nat) : Int) ((c % 2 : Nat) : Int) v1 = r0 (pI (pI v3 472 (2 * c) (gmG Q s x o (2 * c))) 472 (2 * c + 1) (gmG Q s x o (2 * c + 1))) := by
    refine e157_30 (a3.LR h.H) l0 _ ?_
    by_cases z : c % 2 = 1
    · rw [if_neg (by omega), show F89 (0 + 39) o v1 = r0 v2 from b1 (by simpa using z), b0_r hq.H]
      exact hfin
    · rw [if_pos (by omega)]
      rw [b2 (by simpa using z)] at hfin
      exact hfin
  by_cases z : c / 2 = 1
  · rw [if_neg (by omega), show F89 (0 + 39) x v = r0 v1 from a1 (by simpa using z), b0_r (a3.LR h.H)]
    exact h30
  · rw [if_pos (by omega)]
    rw [a2 (by simpa using z)] at h30
    exact h30
theorem c159 {w : Wd} {c j : Nat} (H : LR w) (hc : c < 4) (hj : j < 2) : F159 0 c j w = rI (gI w 472 (2 * c + j)) w := by
  refine e159 H l0 _ ?_
  rw [wrd (z := 2 * (c : Int)) (by omega) (by omega), wrd (by omega) (by omega), show 2 * (c : Int) + j = ((2 * c + j : Nat) : Int) by omega, if_neg (by omega), if_neg (by omega), gdi (by omega) (by omega), nn]
theorem c158 {w : Wd} {c : Nat} {g : Row} (H : LR w) (hc : c < 4) (hg : ∀ i, i < 8 → gI w 472 i = g i) : F158 0 c w = rI (b2i (rst g c)) w := by
  have x2 : bXor (c : Int) 2 = ((c ^^^ 2 : Nat) : Int) := bXor_n (b := 2) (by omega) (by omega)
  have x1 : bXor (c : Int) 1 = ((c ^^^ 1 : Nat) : Int) := bXor_n (b := 1) (by omega) (by omega)
  have hl : c ^^^ 2 < 4 ∧ c ^^^ 1 < 4 := by
    have : c = 0 ∨ c = 1 ∨ c = 2 ∨ c = 3 := by omega
    rcases this with rfl | rfl | rfl | rfl <;> decide
  have f0 := c159 (j := 0) H hc (by omega)
  have f1 := c159 (j := 0) H hl.1 (by omega)
  have f2 := c159 (j := 1) H hc (by omega)
  have f3 := c159 (j := 1) H hl.2 (by omega)
  rw [hg _ (by omega)] at f0 f1 f2 f3
  refine e158 H l0 _ ?_
  rw [x2, x1, show F159 0 (c : Int) 0 w = _ from f0, bI_r H, show F159 0 ((c ^^^ 2 : Nat) : Int) 0 w = _ from f1, bI_r H]
  unfold rst
  by_cases z1 : g (2 * c + 0) < g (2 * (c ^^^ 2) + 0)
  · rw [if_pos z1]
    have : decide (g (2 * (c ^^^ 2)) ≤ g (2 * c)) = false := by simpa using z1
    rw [this]; rfl
  · rw [if_neg z1, show F159 0 (c : Int) 1 w = _ from f2, bI_r H, show F159 0 ((c ^^^ 1 : Nat) : Int) 1 w = _ from f3, bI_r H]
    have t1 : decide (g (2 * (c ^^^ 2)) ≤ g (2 * c)) = true := by simpa using z1
    rw [t1]
    by_cases z2 : g (2 * c + 1) < g (2 * (c ^^^ 1) + 1)
    · rw [if_pos z2]
      have : decide (g (2 * (c ^^^ 1) + 1) ≤ g (2 * c + 1)) = false := by simpa using z2
      rw [this]; rfl
    · rw [if_neg z2]
      have : decide (g (2 * (c ^^^ 1) + 1) ≤ g (2 * c + 1)) = true := by simpa using z2
      rw [this]; rfl
theorem c156 {w : Wd} {q : Nat} {Q : QT} {s : ST} {x o wh : Int} (h : CQ w q Q s) : AnC w (F156 0 x o wh w) (aGame Q s x o wh) := by
  refine AnC.of (e156 h.H l0) (AnC.P h fun x0 x1 => AnC.P h fun o0 o1 => AnC.W h.H fun w0 w1 => ?_)
  obtain ⟨p, rfl, hp⟩ := toN x0 x1
  obtain ⟨r, rfl, hr⟩ := toN o0 o1
  by_cases e : (p : Int) = r
  · rw [if_neg (by omega), if_pos e]; exact AnC.x
  rw [if_pos e, if_neg e, nn, nn]
  obtain ⟨u, hu, e1, e2⟩ := lpR (F := fun c u => s156_35 0 p r wh c u) (I := fun c u => FrC w u ∧ ∀ i, i < 2 * c → gI u 472 i = gmG Q s p r i) 4 (fun c u hc e => by
    obtain ⟨e1, e2⟩ := e
    obtain ⟨u', l1, l2, l3, l4, l5⟩ := c157 (x := p) (o := r) (c := c) h e1 (by omega) (by omega) hc
    refine ⟨u', fun o ho => e156_35 (e1.LR h.H) l0 _ ?_, l2, fun i hi => ?_⟩
    · rw [if_neg (by omega), l1, b0_r (l2.LR h.H), wrd (by omega) (by omega)]
      exact ho
    · by_cases y1 : i = 2 * c
      · rw [y1]; exact l3
      · by_cases y2 : i = 2 * c + 1
        · rw [y2]; exact l4
        · rw [l5 i y1 y2]; exact e2 i (by omega)) w ⟨FrC.rf, fun i hi => absurd hi (by omega)⟩
  have H' := e1.LR h.H
  obtain ⟨a, ha, e3⟩ := lpR (F := fun c a => s156_64 0 p r wh a.1 a.2 c u) (I := fun c a => a = gmN (gmG Q s p r) c ∧ 0 ≤ a.1 ∧ a.1 ≤ c) 4 (fun c a hc e => by
    obtain ⟨e3, e4, e5⟩ := e
    have es : gmN (gmG Q s p r) (c + 1) = gmS (gmG Q s p r) c a := by rw [e3]; rfl
    have hb1 : bShr (c : Int) 1 = ((c / 2 : Nat) : Int) := by
      have : c = 0 ∨ c = 1 ∨ c = 2 ∨ c = 3 := by omega
      rcases this with rfl | rfl | rfl | rfl <;> decide
    have hb0 : bAnd (c : Int) 1 = ((c % 2 : Nat) : Int) := by
      have : c = 0 ∨ c = 1 ∨ c = 2 ∨ c = 3 := by omega
      rcases this with rfl | rfl | rfl | rfl <;> decide
    have ew : wr (wr (10 * ((c / 2 : Nat) : Int)) + ((c % 2 : Nat) : Int)) = ((10 * (c / 2) + c % 2 : Nat) : Int) := by
      rw [wrd (z := 10 * ((c / 2 : Nat) : Int)) (by omega) (by omega), wrd (by omega) (by omega)]; omega
    refine ⟨gmN (gmG Q s p r) (c + 1), fun o ho => e156_64 H' l0 _ ?_, rfl, ?_, ?_⟩
    · rw [es] at ho
      unfold gmS at ho
      rw [if_neg (by omega), c158 H' (by omega) e2, bI_r H', hb1, hb0, ew, wrd (z := (c : Int) + 1) (by omega) (by omega)]
      cases z : rst (gmG Q s p r) c
      · rw [if_pos (show b2i false = 0 from rfl)]
        rw [z, if_neg (by simp)] at ho
        exact ho
      · rw [if_neg (by decide), wrd (by omega) (by omega)]
        rw [z, if_pos rfl] at ho
        by_cases y : a.1 = 0
        · rw [if_neg (by omega)]
          rw [if_pos y] at ho
          exact ho
        · rw [if_pos y]
          rw [if_neg y] at ho
          exact ho
    · rw [es]; unfold gmS; split
      · show 0 ≤ a.1 + 1; omega
      · exact e4
    · rw [es]; unfold gmS; split
      · show a.1 + 1 ≤ _; omega
      · omega) (0, -1) ⟨rfl, Int.le_refl _, Int.le_refl _⟩
  have : s156_35 0 p r wh 0 w = rI (if wh = 0 then a.1 else a.2) u := by
    refine hu _ (e156_35 H' l0 _ ?_)
    rw [if_pos (by omega)]
    refine ha _ (e156_64 H' l0 _ ?_)
    rw [if_pos (by omega)]
    by_cases z : wh = 0
    · rw [if_neg (by omega), if_pos z]
    · rw [if_pos z, if_neg z]
  rw [this, e3.1]
  exact AnC.v e1
