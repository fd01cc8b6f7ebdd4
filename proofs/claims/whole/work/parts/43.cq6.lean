/-! the class's answers: years -/
def dr (sd : Int) : Int := wr (wr (sd * 1103515245) + 12345)
def dv (sd : Int) (n : Nat) : Int := Int.tmod (bAnd (bUshr sd 16) 32767) n
theorem and15 (x : Int) : 0 ≤ bAnd x 32767 ∧ bAnd x 32767 < 32768 := by
  unfold bAnd
  have h : (i32 x &&& i32 32767).toBitVec = (i32 x).toBitVec &&& BitVec.ofNat 32 32767 := by
    rw [Int32.toBitVec_and]; rfl
  have hn : ((i32 x).toBitVec &&& BitVec.ofNat 32 32767).toNat < 32768 := by
    rw [BitVec.toNat_and, BitVec.toNat_ofNat]
    exact Nat.lt_of_le_of_lt Nat.and_le_right (by decide)
  have e : (i32 x &&& i32 32767).toInt = (((i32 x).toBitVec &&& BitVec.ofNat 32 32767).toNat : Int) := by
    rw [← Int32.toInt_toBitVec, h, BitVec.toInt_eq_toNat_of_lt (by omega)]
  rw [e]; omega
theorem dv_b (sd : Int) {n : Nat} (hn : 0 < n) : 0 ≤ dv sd n ∧ dv sd n < n := by
  have h := and15 (bUshr sd 16)
  unfold dv
  rw [Int.tmod_eq_emod_of_nonneg h.1]
  exact ⟨Int.emod_nonneg _ (by omega), Int.emod_lt_of_pos _ (by omega)⟩
/-- what a draw changes ahead of a step: the seed, the state -/
def yrS (Q : QT) (a : Int × ST) : Int × ST :=
  if dv (dr a.1) 6 = 3 then (dr (dr a.1), pC a.2 (dv (dr (dr a.1)) 60))
  else if 2 < dv (dr a.1) 6 ∨ zn Q = 0 then (dr a.1, a.2)
  else if dv (dr a.1) 6 = 0 then (dr (dr (dr a.1)), sW a.2 (dv (dr (dr a.1)) (zn Q)).toNat (dv (dr (dr (dr a.1))) 60))
  else if dv (dr a.1) 6 = 1 then (dr (dr a.1), sS a.2 (dv (dr (dr a.1)) (zn Q)).toNat (!uI a.2 (dv (dr (dr a.1)) (zn Q)).toNat))
  else (dr (dr a.1), rcv a.2 (dv (dr (dr a.1)) (zn Q)).toNat 20)
def yrN (Q : QT) (sd : Int) (s : ST) (k : Nat) : Int × ST := it (fun _ a => ((yrS Q a).1, stq Q (yrS Q a).2)) k (sd, s)
def yrP (Q : QT) (sd : Int) (s : ST) (k : Nat) : Int := sumN (fun j => PS Q (yrS Q (yrN Q sd s j)).2 (zn Q)) k
def aYears (Q : QT) (s : ST) (sd k wh : Int) : An := gdW 3 wh (gdB 0 60 k (.inl (if wh = 0 then yrP Q sd s k.toNat else if wh = 1 then sumN (uL (yrN Q sd s k.toNat).2) 8 else mk (alv (yrN Q sd s k.toNat).2) 8)))
theorem GS_rcv {n p : Nat} {s : ST} {m : Int} (h : GS n s) (hp : p < n) (hm : 0 ≤ m) : GS n (rcv s p m) := by
  obtain ⟨g1, g2, g3⟩ := h
  refine ⟨fun i => ?_, fun i hi => ?_, g3⟩
  · show 0 ≤ va_up (uL s) p (min (uL s p + m) 999) i ∧ va_up (uL s) p (min (uL s p + m) 999) i ≤ 999
    have q1 := g1 p
    have q3 := g1 i
    unfold va_up
    split <;> omega
  · show va_up (uL s) p (min (uL s p + m) 999) i = 0
    rw [up_c (by omega)]; exact g2 i hi
theorem GS_C {n : Nat} {s : ST} {c : Int} (h : GS n s) (hc : 0 ≤ c ∧ c < 60) : GS n (pC s c) := by
  obtain ⟨g1, g2, g3, g4, g5, g6, g7⟩ := h
  exact ⟨g1, g2, g3, g4, g5, hc, g7⟩
theorem yrS_G {Q : QT} {a : Int × ST} (h : GS (zn Q) a.2) : GS (zn Q) (yrS Q a).2 ∧ uT (yrS Q a).2 = uT a.2 := by
  unfold yrS
  split
  · exact ⟨GS_C h (dv_b _ (by omega)), rfl⟩
  · split
    · exact ⟨h, rfl⟩
    · rename_i h1 h2
      have hn : 0 < zn Q := by omega
      have hw := dv_b (dr (dr a.1)) hn
      split
      · exact ⟨GS_W h (dv_b _ (by omega)), rfl⟩
      · split
        · exact ⟨GS_S h, rfl⟩
        · exact ⟨GS_rcv h (by omega) (by omega), rfl⟩
theorem yrN_s {Q : QT} {sd : Int} {s : ST} {k : Nat} : yrN Q sd s (k + 1) = ((yrS Q (yrN Q sd s k)).1, stq Q (yrS Q (yrN Q sd s k)).2) := rfl
theorem yrN_G {Q : QT} {sd : Int} {s : ST} (hs : GS (zn Q) s) : ∀ k : Nat, uT s + k ≤ 100000 → GS (zn Q) (yrN Q sd s k).2 ∧ uT (yrN Q sd s k).2 = uT s + k := by
  intro k
  induction k with
  | zero => intro _; exact ⟨hs, by show uT s = uT s + ((0 : Nat) : Int); omega⟩
  | succ k ih =>
    intro hk
    obtain ⟨h1, h2⟩ := ih (by omega)
    obtain ⟨h3, h4⟩ := yrS_G h1
    rw [yrN_s]
    exact ⟨GS_stq h3 (by omega), by show uT (stq Q _) = _; rw [stq_T]; omega⟩
theorem FrC.seed {w : Wd} {x : Int} : FrC w (pI w 0 15 x) := ⟨fun b hb _ => gI_r hb, fun i hi => gI_c hi, rfl, fun _ _ => rfl, rfl, rfl, rfl, rfl⟩
theorem c162 {w : Wd} {n : Nat} (H : LR w) (hn : 0 < n) : F162 0 n w = rI (dv (dr (gI w 0 15)) n) (pI w 0 15 (dr (gI w 0 15))) := by
  refine e162 H l0 _ ?_
  rw [if_neg (by omega), gP_t (by omega), gI_s]
  rfl
/-- the class's draw -/
theorem c161 {w v : Wd} {q : Nat} {Q : QT} {s : ST} {a : Int × ST} (h : CQ w q Q s) (f : FrC w v) (hr : RS v 39 a.2) (hG : GS (zn Q) a.2) (hsd : gI v 0 15 = a.1) :
    ∃ v', F161 0 v = r0 v' ∧ FrC w v' ∧ RS v' 39 (yrS Q a).2 ∧ gI v' 0 15 = (yrS Q a).1 ∧ gI v' 27 = gI v 27 ∧ gI v' 31 = gI v 31 ∧ gI v' 32 = gI v 32 := by
  have h8 := h.n8
  have HV := f.LR h.H
  obtain ⟨sd, u⟩ := a
  simp only [] at hr hG hsd
  subst hsd
  have d1 := c162 (n := 6) HV (by omega)
  -- the world behind one draw, two, three
  have W1 : FrC w (pI v 0 15 (dr (gI v 0 15))) := f.tr FrC.seed
  have s1 : gI (pI v 0 15 (dr (gI v 0 15))) 0 15 = dr (gI v 0 15) := gI_s
  have R1 : RS (pI v 0 15 (dr (gI v 0 15))) 39 u := hr.ext (fun b _ _ => gI_r (by omega))
  have k1 : ∀ b, b ≠ 0 → gI (pI v 0 15 (dr (gI v 0 15))) b = gI v b := fun b hb => gI_r hb
  generalize pI v 0 15 (dr (gI v 0 15)) = v1 at *
  have H1 := W1.LR h.H
  have q1 := h.fr W1
  have d2 : ∀ n : Nat, 0 < n → F162 0 n v1 = rI (dv (dr (dr (gI v 0 15))) n) (pI v1 0 15 (dr (dr (gI v 0 15)))) := fun n hn => by rw [c162 H1 hn, s1]
  have W2 : FrC w (pI v1 0 15 (dr (dr (gI v 0 15)))) := W1.tr FrC.seed
  have s2 : gI (pI v1 0 15 (dr (dr (gI v 0 15)))) 0 15 = dr (dr (gI v 0 15)) := gI_s
  have R2 : RS (pI v1 0 15 (dr (dr (gI v 0 15)))) 39 u := R1.ext (fun b _ _ => gI_r (by omega))
  have k2 : ∀ b, b ≠ 0 → gI (pI v1 0 15 (dr (dr (gI v 0 15)))) b = gI v b := fun b hb => (gI_r hb).trans (k1 b hb)
  generalize pI v1 0 15 (dr (dr (gI v 0 15))) = v2 at *
  have H2 := W2.LR h.H
  have q2 := h.fr W2
  have hA : ∀ {A : Nat → Prop} {x y : Wd}, FrI A x y → (∀ b, A b → AS 39 b) → FrC x y := fun hf hA => hf.C (fun b hb => by have := hA b hb; unfold AS at this; unfold SC; omega)
  have hd := dv_b (dr (gI v 0 15)) (n := 6) (by omega)
  have start : ∀ {o : Out}, (if dv (dr (gI v 0 15)) 6 ≠ 3 then s161_25 0 (dv (dr (gI v 0 15)) 6) v1 else bI (F162 0 60 v1) (fun n4 w5 => s161_25 0 (dv (dr (gI v 0 15)) 6) (pI w5 (0 + 39) 6 n4))) = some o → F161 0 v = some o := by
    intro o ho
    refine e161 HV l0 _ ?_
    rw [show F162 0 6 v = _ from d1, bI_r H1]
    exact ho
  unfold yrS
  dsimp only
  by_cases z3 : dv (dr (gI v 0 15)) 6 = 3
  · rw [if_pos z3]
    have e2 := d2 60 (by omega)
    refine ⟨pI v2 39 6 (dv (dr (dr (gI v 0 15))) 60), start ?_, W2.tr (hA (A := fun b => b = 39) (FrI.p rfl) (fun b hb => by unfold AS; omega)), RS_C R2, by rw [gI_r (by omega)]; exact s2, by rw [gI_r (by omega)]; exact k2 27 (by omega), by rw [gI_r (by omega)]; exact k2 31 (by omega), by rw [gI_r (by omega)]; exact k2 32 (by omega)⟩
    rw [if_neg (by omega), show F162 0 60 v1 = _ from e2, bI_r H2, z3]
    exact e161_25 (w := pI v2 (0 + 39) 6 (dv (dr (dr (gI v 0 15))) 60)) H2 l0 _ (if_pos (by omega))
  rw [if_neg z3]
  rw [if_pos z3] at start
  by_cases zz : 2 < dv (dr (gI v 0 15)) 6 ∨ zn Q = 0
  · rw [if_pos zz]
    refine ⟨v1, start (e161_25 H1 l0 _ ?_), W1, R1, s1, k1 27 (by omega), k1 31 (by omega), k1 32 (by omega)⟩
    by_cases z2 : 2 < dv (dr (gI v 0 15)) 6
    · rw [if_pos z2]
    · rw [if_neg z2, q1.q, q1.n, if_neg (by omega)]
  rw [if_neg zz]
  have hn : 0 < zn Q := by omega
  have e2 := d2 (zn Q) hn
  have hw := dv_b (dr (dr (gI v 0 15))) hn
  obtain ⟨p, hp⟩ : ∃ p : Nat, dv (dr (dr (gI v 0 15))) (zn Q) = p := ⟨(dv (dr (dr (gI v 0 15))) (zn Q)).toNat, by omega⟩
  rw [hp] at e2 hw ⊢
  rw [nn]
  have hp8 : p < 8 := by omega
  by_cases z0 : dv (dr (gI v 0 15)) 6 = 0
  · rw [if_pos z0]
    have e3 : F162 0 60 v2 = rI (dv (dr (dr (dr (gI v 0 15)))) 60) (pI v2 0 15 (dr (dr (dr (gI v 0 15))))) := by
      have := c162 (n := 60) H2 (by omega)
      rw [s2] at this; exact this
    have R3 : RS (pI v2 0 15 (dr (dr (dr (gI v 0 15))))) 39 u := R2.ext (fun b _ _ => gI_r (by omega))
    have W3 : FrC w (pI v2 0 15 (dr (dr (dr (gI v 0 15))))) := W2.tr FrC.seed
    refine ⟨pI (pI v2 0 15 (dr (dr (dr (gI v 0 15))))) 41 p (dv (dr (dr (dr (gI v 0 15)))) 60), start (e161_25 H1 l0 _ ?_), W3.tr (hA (A := fun b => b = 41) (FrI.p rfl) (fun b hb => by unfold AS; omega)), ?_, by rw [gI_r (by omega), gI_s], by rw [gI_r (by omega), gI_r (by omega)]; exact k2 27 (by omega), by rw [gI_r (by omega), gI_r (by omega)]; exact k2 31 (by omega), by rw [gI_r (by omega), gI_r (by omega)]; exact k2 32 (by omega)⟩
    · rw [if_neg (by omega), q1.q, q1.n, if_pos (by omega), q1.q, q1.n, e2, bI_r H2, if_neg (by omega), e3, bI_r (W3.LR h.H), q87 (a := 39) (p := p) (W3.LR h.H) l39 hp8]
      exact b0_r (W3.LR h.H)
    · rw [pI_eq (a := 41) R3.2.1]; exact RS_W R3
  rw [if_neg z0]
  by_cases z1 : dv (dr (gI v 0 15)) 6 = 1
  · rw [if_pos z1]
    have e81 := q81 (p := p) H2 l39 hp8 R2
    have e88 := q88 (p := p) (b := !uI u p) H2 l39 hp8 R2
    refine ⟨pI v2 39 4 (mk (fun i => if i = p then !uI u p else uI u i) 8), start (e161_25 H1 l0 _ ?_), W2.tr (hA (A := fun b => b = 39) (FrI.p rfl) (fun b hb => by unfold AS; omega)), RS_I R2, by rw [gI_r (by omega)]; exact s2, by rw [gI_r (by omega)]; exact k2 27 (by omega), by rw [gI_r (by omega)]; exact k2 31 (by omega), by rw [gI_r (by omega)]; exact k2 32 (by omega)⟩
    rw [if_neg (by omega), q1.q, q1.n, if_pos (by omega), q1.q, q1.n, e2, bI_r H2, if_pos z0, if_neg (by omega), show F81 (0 + 39) p v2 = _ from e81, bI_r H2]
    cases z : uI u p
    · rw [z] at e88
      rw [if_neg (by decide)]
      refine e161_100 H2 l0 l39 _ ?_
      rw [show F88 39 p 1 v2 = _ from e88]
      exact b0_r H2
    · rw [z] at e88
      rw [if_pos (by decide)]
      refine e161_100 H2 l0 l39 _ ?_
      rw [show F88 39 p 0 v2 = _ from e88]
      exact b0_r H2
  rw [if_neg z1]
  have e90 := q90 (p := p) (m := 20) H2 l39 hp8 R2 hG (by omega)
  refine ⟨pI v2 40 p (min (uL u p + 20) 999), start (e161_25 H1 l0 _ ?_), W2.tr (hA (A := fun b => b = 40) (FrI.p rfl) (fun b hb => by unfold AS; omega)), RS_rcv R2, by rw [gI_r (by omega)]; exact s2, by rw [gI_r (by omega)]; exact k2 27 (by omega), by rw [gI_r (by omega)]; exact k2 31 (by omega), by rw [gI_r (by omega)]; exact k2 32 (by omega)⟩
  rw [if_neg (by omega), q1.q, q1.n, if_pos (by omega), q1.q, q1.n, e2, bI_r H2, if_pos z0, if_pos z1, show F90 (0 + 39) p 20 v2 = _ from e90]
  exact b0_r H2
theorem c160 {w : Wd} {q : Nat} {Q : QT} {s : ST} {sd k wh : Int} (h : CQ w q Q s) : AnC w (F160 0 sd k wh w) (aYears Q s sd k wh) := by
  refine AnC.of (e160 h.H l0) (AnC.W h.H fun w0 w1 => AnC.B h.H fun k0 k1 => ?_)
  have hT := h.t
  obtain ⟨K, rfl, hK⟩ := toN k0 (show k < 61 by omega)
  have f0 : FrC w (pI w 0 15 sd) := FrC.seed
  have q0 := h.fr f0
  have s0 : gI (pI w 0 15 sd) 0 15 = sd := gI_s
  -- the rewinding keeps the seed
  obtain ⟨w1', m1, m2, m3⟩ := q74 (a := 39) (b := 34) q0.H l39 l34 (by omega) q0.2.2.2.1
  obtain ⟨w2', m4, m5, m6⟩ := q16 (m3.LR q0.H)
  have k169 : F169 0 (pI w 0 15 sd) = r0 w2' := e169 q0.H l0 _ (by rw [m1, b0_r (m3.LR q0.H), m4, b0_r (m5.LR (m3.LR q0.H))])
  have fA : FrC w w2' := f0.tr ((m3.C (fun b hb => by unfold AS at hb; unfold SC; omega)).tr (m5.C (fun b hb => by unfold SC; omega)))
  have rA : RS w2' 39 s := m2.fr m5 (by omega) (by omega) (by omega) (by omega) (by omega)
  have sA : gI w2' 0 15 = sd := by rw [m5.g (by omega), m3.g (by unfold AS; omega)]; exact s0
  rw [k169, b0_r (fA.LR h.H), nn]
  obtain ⟨u, hu, e1, e2, e3, e4⟩ := lpR (F := fun j u => s160_26 0 sd K wh j u) (I := fun j u => FrC w u ∧ RS u 39 (yrN Q sd s j).2 ∧ gI u 0 15 = (yrN Q sd s j).1 ∧ gI u 27 6 = yrP Q sd s j) K (fun j u hj e => by
    obtain ⟨e1, e2, e3, e4⟩ := e
    have hu := h.fr e1
    obtain ⟨g1, g2⟩ := yrN_G (Q := Q) (sd := sd) h.s j (by omega)
    obtain ⟨g3, g4⟩ := yrS_G (a := yrN Q sd s j) g1
    obtain ⟨v, l1, l2, l3, l4, l5, -, -⟩ := c161 h e1 e2 g1 e3
    have hv := h.fr l2
    obtain ⟨v', n1, n2, n3, n4, n5, n6⟩ := q17 (K := 1) hv.H l39 (lq h.1) h.g l3 g3 hv.2.2.1 (Or.inr rfl) h.1 (by omega)
    have f' : FrC w v' := l2.tr (n3.C (fun b hb => by unfold AG AS at hb; unfold SC; omega))
    have hp1 := sumN_bn (f := fun j => PS Q (yrS Q (yrN Q sd s j)).2 (zn Q)) (M := 7992) (j + 1) (fun i hi => by
      obtain ⟨g1', g2'⟩ := yrN_G (Q := Q) (sd := sd) h.s i (by omega)
      exact PS_b h.g (yrS_G g1').1)
    have hp2 := sumN_bn (f := fun j => PS Q (yrS Q (yrN Q sd s j)).2 (zn Q)) (M := 7992) j (fun i hi => by
      obtain ⟨g1', g2'⟩ := yrN_G (Q := Q) (sd := sd) h.s i (by omega)
      exact PS_b h.g (yrS_G g1').1)
    refine ⟨v', fun o ho => e160_26 hu.H l0 _ ?_, f', n2, by rw [n3.g (by unfold AG AS; omega), l4]; rfl, ?_⟩
    · rw [if_neg (by omega), l1, b0_r hv.H, hv.q, show F17 (0 + 27) q (0 + 39) 1 v = r0 v' from n1, b0_r (f'.LR h.H), wrd (by omega) (by omega)]
      exact ho
    · have e27 : gI v 27 6 = yrP Q sd s j := by rw [l5, e4]
      have hq : PSs Q (yrS Q (yrN Q sd s j)).2 1 = PS Q (yrS Q (yrN Q sd s j)).2 (zn Q) := by
        show 0 + PS Q (goN Q (yrS Q (yrN Q sd s j)).2 0) (zn Q) = _
        rw [Int.zero_add]; rfl
      have es : yrP Q sd s (j + 1) = yrP Q sd s j + PS Q (yrS Q (yrN Q sd s j)).2 (zn Q) := rfl
      have h1 : yrP Q sd s (j + 1) = sumN (fun j => PS Q (yrS Q (yrN Q sd s j)).2 (zn Q)) (j + 1) := rfl
      have h2 : yrP Q sd s j = sumN (fun j => PS Q (yrS Q (yrN Q sd s j)).2 (zn Q)) j := rfl
      rw [n5.2.2 (by rw [e27]; unfold okI; omega), e27, hq, ← es, wrd (by omega) (by omega)]) w2' ⟨fA, rA, sA, m6.2.2.2.1⟩
  have H' := e1.LR h.H
  have : s160_26 0 sd K wh 0 w2' = rI (if wh = 0 then yrP Q sd s K else if wh = 1 then sumN (uL (yrN Q sd s K).2) 8 else mk (alv (yrN Q sd s K).2) 8) u := by
    refine hu _ (e160_26 H' l0 _ ?_)
    rw [if_pos (Int.le_refl _)]
    by_cases z0 : wh = 0
    · rw [if_pos z0.symm, if_pos z0, show gI u (0 + 27) 6 = _ from e4]
    · rw [if_neg (fun y => z0 y.symm), if_neg z0]
      by_cases z1 : wh = 1
      · rw [if_pos z1.symm, if_pos z1, q83 H' l39 e2 (yrN_G h.s K (by omega)).1, bI_r H']
      · rw [if_neg (fun y => z1 y.symm), if_neg z1, q82 H' l39 e2, bI_r H']
  rw [this]
  exact AnC.v e1
