/-! the class's answers: where to look next -/
theorem gJ_s {w : Wd} {a i : Nat} {x : Int} : gJ (pJ w a i x) a i = x := by simp [pJ, sJ, gJ, va_up]
theorem gJ_c {w : Wd} {a i j : Nat} {x : Int} (h : j ≠ i) : gJ (pJ w a i x) a j = gJ w a j := by simp [pJ, sJ, gJ, va_up, h]
theorem gJ_r {w : Wd} {a b i : Nat} {x : Int} (h : b ≠ a) : gJ (pJ w a i x) b = gJ w b := by simp [pJ, sJ, gJ, va_up, h]
theorem gI_pJ {w : Wd} {a i : Nat} {x : Int} : gI (pJ w a i x) = gI w := rfl
theorem gJ_pI {w : Wd} {a i : Nat} {x : Int} : gJ (pI w a i x) = gJ w := rfl
theorem FrC.J {w : Wd} {i : Nat} {x : Int} : FrC w (pJ w 470 i x) := ⟨fun _ _ _ => rfl, fun _ _ => rfl, rfl, fun b hb => gJ_r hb, rfl, rfl, rfl, rfl⟩
theorem FrC.p {w : Wd} {a i : Nat} {x : Int} (h : SC a) : FrC w (pI w a i x) := FrI.C (A := fun b => b = a) (FrI.p rfl) (fun b hb => by rw [hb]; exact h)
/-- a bit of a long -/
def lb (J : Int) (k : Nat) : Bool := (i64 J).toBitVec.getLsbD k
theorem lsh1 : ∀ k : Nat, k < 64 → (i64 (lShl 1 (k : Int))).toBitVec = BitVec.ofNat 64 (2 ^ k) := by decide +kernel
theorem two_bit {k j : Nat} (hj : j < 64) : (BitVec.ofNat 64 (2 ^ k)).getLsbD j = decide (k = j) := by
  rw [BitVec.getLsbD_ofNat, Nat.testBit_two_pow]; simp [hj]
theorem lb_0 (k : Nat) : lb 0 k = false := by
  unfold lb
  have : (i64 0).toBitVec = 0#64 := rfl
  rw [this]; simp
theorem lAnd_bit {J : Int} {k : Nat} (hk : k < 64) : lAnd J (lShl 1 (k : Int)) = 0 ↔ lb J k = false := by
  have e : (i64 J &&& i64 (lShl 1 (k : Int))).toBitVec = (i64 J).toBitVec &&& BitVec.ofNat 64 (2 ^ k) := by rw [Int64.toBitVec_and, lsh1 k hk]
  have e0 : (lAnd J (lShl 1 (k : Int)) = 0) ↔ (i64 J).toBitVec &&& BitVec.ofNat 64 (2 ^ k) = 0#64 := by
    rw [← e]
    unfold lAnd
    constructor
    · intro h
      have : i64 J &&& i64 (lShl 1 (k : Int)) = 0 := Int64.toInt_inj.mp (by rw [h]; rfl)
      rw [this]; rfl
    · intro h
      have : i64 J &&& i64 (lShl 1 (k : Int)) = 0 := Int64.toBitVec_inj.mp (by rw [h]; rfl)
      rw [this]; rfl
  rw [e0]
  unfold lb
  constructor
  · intro h
    have := congrArg (fun v => BitVec.getLsbD v k) h
    simp only [BitVec.getLsbD_and, two_bit hk] at this
    simpa using this
  · intro h
    apply BitVec.eq_of_getLsbD_eq
    intro i hi
    rw [BitVec.getLsbD_and, two_bit hi]
    by_cases y : k = i
    · subst y; rw [h]; simp
    · simp [y]
theorem lOr_bit {J : Int} {k j : Nat} (hk : k < 64) (hj : j < 64) : lb (lOr J (lShl 1 (k : Int))) j = (lb J j || decide (k = j)) := by
  unfold lb lOr
  rw [i64_t, Int64.toBitVec_or, lsh1 k hk, BitVec.getLsbD_or, two_bit hj]
theorem lCmp_0 {x : Int} : lCmp x 0 ≠ 0 ↔ x ≠ 0 := by
  unfold lCmp
  by_cases h1 : (0 : Int) < x
  · rw [if_pos h1]; omega
  · rw [if_neg h1]
    by_cases h2 : x < 0
    · rw [if_pos h2]; omega
    · rw [if_neg h2]; omega
theorem l469 : (lay 469).1 = 10 := by rfl
theorem q322 {w : Wd} (H : LR w) : ∃ w', F322 470 0 w = r0 w' ∧ FrC w w' ∧ (∀ i, i < 128 → gJ w' 470 i = 0) ∧ gI w' = gI w := by
  obtain ⟨v, hv, e1, e2, e3⟩ := lpR (F := fun k v => s322_6 470 0 k 128 v) (I := fun k v => FrC w v ∧ (∀ i, i < k → gJ v 470 i = 0) ∧ gI v = gI w) 128 (fun k v hk e => by
    obtain ⟨e1, e2, e3⟩ := e
    refine ⟨pJ v 470 k 0, fun o ho => e322_6 (a0 := 470) (n0 := 128) (e1.LR H) (by rfl) _ ?_, e1.tr FrC.J, fun i hi => ?_, e3⟩
    · rw [if_neg (by omega), gdi (by omega) (by omega), wrd (by omega) (by omega)]
      exact ho
    · by_cases y : i = k
      · rw [y, gJ_s]
      · rw [gJ_c y]; exact e2 i (by omega)) w ⟨FrC.rf, fun i hi => absurd hi (Nat.not_lt_zero _), rfl⟩
  exact ⟨v, e322 (a0 := 470) (n0 := 128) H (by rfl) _ (hv _ (e322_6 (a0 := 470) (n0 := 128) (e1.LR H) (by rfl) _ (if_pos (by omega)))), e1, e2, e3⟩
/-- one more is noted of each -/
theorem c108 {w : Wd} {n : Nat} {u : ST} (H : LR w) (hr : RS w 39 u) (hG : GS n u) (hn : n ≤ 8) (hc : ∀ r, r < 8 → 0 ≤ gI w 471 r ∧ gI w 471 r ≤ 1000) :
    ∃ w', F108 469 39 n w = r0 w' ∧ FrC w w' ∧ (∀ r, r < 8 → gI w' 471 r = if r < n ∧ lb (gJ w 470 (16 * r + (uL u r).toNat / 64)) ((uL u r).toNat % 64) = false then gI w 471 r + 1 else gI w 471 r) ∧ (∀ r x, r < 8 → x ≤ 999 → lb (gJ w' 470 (16 * r + x / 64)) (x % 64) = (lb (gJ w 470 (16 * r + x / 64)) (x % 64) || (decide (r < n) && decide (uL u r = x)))) := by
  obtain ⟨v, hv, e1, e2, e3, e4⟩ := lpR (F := fun k v => s108_2 469 39 n k v) (I := fun k v => FrC w v ∧ RS v 39 u ∧ (∀ r, r < 8 → gI v 471 r = if r < k ∧ lb (gJ w 470 (16 * r + (uL u r).toNat / 64)) ((uL u r).toNat % 64) = false then gI w 471 r + 1 else gI w 471 r) ∧ (∀ r x, r < 8 → x ≤ 999 → lb (gJ v 470 (16 * r + x / 64)) (x % 64) = (lb (gJ w 470 (16 * r + x / 64)) (x % 64) || (decide (r < k) && decide (uL u r = x))))) n (fun k v hk e => by
    obtain ⟨e1, e2, e3, e4⟩ := e
    have hV := e1.LR H
    have hL := hG.1 k
    obtain ⟨x, hx⟩ : ∃ x : Nat, uL u k = x := ⟨(uL u k).toNat, by omega⟩
    have e75 := q75 (p := k) hV l39 (by omega)
    rw [e2.1, hx] at e75
    have d1 : wr (Int.tdiv (x : Int) 64) = ((x / 64 : Nat) : Int) := by rw [Int.tdiv_eq_ediv_of_nonneg (by omega), wrd (by omega) (by omega)]; omega
    have d2 : Int.tmod (x : Int) 64 = ((x % 64 : Nat) : Int) := by rw [Int.tmod_eq_emod_of_nonneg (by omega)]; omega
    have d3 : wr (wr ((k : Int) * 16) + ((x / 64 : Nat) : Int)) = ((16 * k + x / 64 : Nat) : Int) := by rw [wrd (z := (k : Int) * 16) (by omega) (by omega), wrd (by omega) (by omega)]; omega
    have hm : x % 64 < 64 := Nat.mod_lt _ (by omega)
    have old := e4 k x (by omega) (by omega)
    rw [show decide (k < k) = false from decide_eq_false (by omega), Bool.false_and, Bool.or_false] at old
    have hcnt := e3 k (by omega)
    rw [if_neg (fun y => by omega)] at hcnt
    have hck := hc k (by omega)
    have pre : ∀ {o : Out}, (if lCmp (lAnd (gJ v 470 (16 * k + x / 64)) (lShl 1 ((x % 64 : Nat) : Int))) 0 ≠ 0 then s108_2 469 39 n ((k : Int) + 1) v else s108_2 469 39 n ((k : Int) + 1) (pI (pJ v 470 (16 * k + x / 64) (lOr (gJ v 470 (16 * k + x / 64)) (lShl 1 ((x % 64 : Nat) : Int)))) 471 k (gI w 471 k + 1))) = some o → s108_2 469 39 n k v = some o := by
      intro o ho
      refine e108_2 hV l469 l39 _ ?_
      rw [if_neg (by omega), if_neg (by omega), e75, bI_r hV, d1, d2, d3, if_neg (by omega), if_neg (by omega), gdi (by omega) (by omega), gdi (by omega) (by omega), gdi (by omega) (by omega), gdi (by omega) (by omega), gdi (by omega) (by omega), nn, nn, wrd (z := (k : Int) + 1) (by omega) (by omega), gI_pJ, show gI v (469 + 2) k = gI w 471 k from hcnt, wrd (z := gI w 471 k + 1) (by omega) (by omega)]
      exact ho
    cases z : lb (gJ v 470 (16 * k + x / 64)) (x % 64)
    · refine ⟨pI (pJ v 470 (16 * k + x / 64) (lOr (gJ v 470 (16 * k + x / 64)) (lShl 1 ((x % 64 : Nat) : Int)))) 471 k (gI w 471 k + 1), fun o ho => pre ?_, (e1.tr FrC.J).tr (FrC.p (by unfold SC; omega)), ?_, fun r hr8 => ?_, fun r y hr8 hy => ?_⟩
      · rw [if_neg (by rw [lCmp_0, Classical.not_not]; exact (lAnd_bit hm).mpr z)]
        exact ho
      · exact e2.ext (fun b _ _ => by rw [gI_r (by omega), gI_pJ])
      · by_cases y : r = k
        · subst y
          rw [gI_s, hx, nn, if_pos ⟨by omega, by rw [← old]; exact z⟩]
        · rw [gI_c y, gI_pJ, e3 r hr8]
          by_cases y2 : r < k ∧ lb (gJ w 470 (16 * r + (uL u r).toNat / 64)) ((uL u r).toNat % 64) = false
          · rw [if_pos y2, if_pos ⟨by omega, y2.2⟩]
          · rw [if_neg y2, if_neg (fun y3 => y2 ⟨by omega, y3.2⟩)]
      · rw [gJ_pI]
        have hy64 := Nat.mod_lt y (show 64 > 0 by omega)
        by_cases y1 : 16 * r + y / 64 = 16 * k + x / 64
        · have hrk : r = k := by omega
          subst hrk
          rw [y1, gJ_s, lOr_bit hm hy64, hx, show decide (r < r + 1) = true from decide_eq_true (by omega), Bool.true_and]
          have := e4 r y hr8 hy
          rw [show decide (r < r) = false from decide_eq_false (by omega), Bool.false_and, Bool.or_false, y1] at this
          have e9 : decide (x % 64 = y % 64) = decide ((x : Int) = (y : Int)) := decide_eq_decide.mpr (by omega)
          rw [this, e9]
        · rw [gJ_c y1, e4 r y hr8 hy]
          by_cases y2 : r = k
          · subst y2
            have : ¬ uL u r = y := by rw [hx]; omega
            simp [this]
          · have : decide (r < k + 1) = decide (r < k) := decide_eq_decide.mpr (by omega)
            rw [this]
    · refine ⟨v, fun o ho => pre ?_, e1, e2, fun r hr8 => ?_, fun r y hr8 hy => ?_⟩
      · rw [if_pos (by rw [lCmp_0]; intro y; rw [(lAnd_bit hm).mp y] at z; cases z)]
        exact ho
      · rw [e3 r hr8]
        by_cases y : r = k
        · subst y
          rw [if_neg (fun y => by omega), if_neg (fun y => by rw [hx, nn, ← old, z] at y; cases y.2)]
        · by_cases y2 : r < k ∧ lb (gJ w 470 (16 * r + (uL u r).toNat / 64)) ((uL u r).toNat % 64) = false
          · rw [if_pos y2, if_pos ⟨by omega, y2.2⟩]
          · rw [if_neg y2, if_neg (fun y3 => y2 ⟨by omega, y3.2⟩)]
      · rw [e4 r y hr8 hy]
        by_cases y2 : r = k
        · subst y2
          rw [show decide (r < r) = false from decide_eq_false (by omega), show decide (r < r + 1) = true from decide_eq_true (by omega), Bool.false_and, Bool.or_false, Bool.true_and]
          by_cases y3 : uL u r = y
          · have : y = x := by omega
            subst this
            rw [← old, z]; rfl
          · simp [y3]
        · have : decide (r < k + 1) = decide (r < k) := decide_eq_decide.mpr (by omega)
          rw [this]) w ⟨FrC.rf, hr, fun r _ => by rw [if_neg (fun y => by omega)], fun r x _ _ => by simp⟩
  refine ⟨v, e108 H l469 l39 _ (hv _ (e108_2 (e1.LR H) l469 l39 _ (if_pos (Int.le_refl _)))), e1, e3, e4⟩
/-- what one has behind five steps, by the e-th change -/
def vE (Q : QT) (s : ST) (e r : Nat) : Int := uL (goN Q (sW s (e / 60) ((e % 60 : Nat) : Int)) 5) r
def anE (Q : QT) (N : NT) (s : ST) (r E : Nat) (x : Int) : Bool := (List.range E).any (fun e => ftE Q N s e && decide (vE Q s e r = x))
def unq (Q : QT) (N : NT) (s : ST) (E r : Nat) : Nat := cn (fun e => ftE Q N s e && !anE Q N s r e (vE Q s e r)) E
theorem anE_s {Q : QT} {N : NT} {s : ST} {r E : Nat} {x : Int} : anE Q N s r (E + 1) x = (anE Q N s r E x || (ftE Q N s E && decide (vE Q s E r = x))) := by
  unfold anE
  rw [List.range_succ, List.any_append]
  simp
theorem unq_s {Q : QT} {N : NT} {s : ST} {r E : Nat} : unq Q N s (E + 1) r = unq Q N s E r + (if (ftE Q N s E && !anE Q N s r E (vE Q s E r)) = true then 1 else 0) := rfl
def lkS (f : Nat → Nat) (k : Nat) (a : Int × Int) : Int × Int := if a.2 < (f k : Int) then ((k : Int), (f k : Int)) else a
def lkN (f : Nat → Nat) (k : Nat) : Int × Int := it (lkS f) k (-1, 0)
def aLook (Q : QT) (s : ST) (N : NT) (wh : Int) : An := gdW 2 wh (.inl (if wh = 0 then (lkN (unq Q N s (60 * zn Q)) (zn Q)).1 else (lkN (unq Q N s (60 * zn Q)) (zn Q)).2))
theorem lkN_in (f : Nat → Nat) : ∀ k, (lkN f k = (-1, 0) ∨ ∃ r : Nat, r < k ∧ lkN f k = ((r : Int), (f r : Int))) ∧ 0 ≤ (lkN f k).2 := by
  intro k
  induction k with
  | zero => exact ⟨Or.inl rfl, Int.le_refl _⟩
  | succ k ih =>
    have e : lkN f (k + 1) = lkS f k (lkN f k) := rfl
    rw [e]
    unfold lkS
    split
    · exact ⟨Or.inr ⟨k, by omega, rfl⟩, by show (0 : Int) ≤ (f k : Int); omega⟩
    · refine ⟨?_, ih.2⟩
      rcases ih.1 with h | ⟨r, h1, h2⟩
      · exact Or.inl h
      · exact Or.inr ⟨r, by omega, h2⟩
theorem lkN_ge {f : Nat → Nat} {n : Nat} : ∀ m, n ≤ m → (∀ i, n ≤ i → i < m → f i = 0) → lkN f m = lkN f n := by
  intro m
  induction m with
  | zero => intro h _; have : n = 0 := by omega
            rw [this]
  | succ m ih =>
    intro h hf
    by_cases e : n = m + 1
    · rw [e]
    · have e2 : lkN f (m + 1) = lkS f m (lkN f m) := rfl
      rw [e2, ih (by omega) (fun i h1 h2 => hf i h1 (by omega))]
      unfold lkS
      have := (lkN_in f n).2
      rw [hf m (by omega) (by omega), if_neg (by omega)]
/-- the class's count so far -/
def UN (Q : QT) (N : NT) (s : ST) (E : Nat) (v : Wd) : Prop := (∀ r, r < 8 → gI v 471 r = if r < zn Q then (unq Q N s E r : Int) else 0) ∧ ∀ r x, r < zn Q → x ≤ 999 → lb (gJ v 470 (16 * r + x / 64)) (x % 64) = anE Q N s r E x
theorem UN.fr {Q : QT} {N : NT} {s : ST} {E : Nat} {v v' : Wd} (h : UN Q N s E v) (h1 : gI v' 471 = gI v 471) (h2 : gJ v' 470 = gJ v 470) : UN Q N s E v' := by
  unfold UN; rw [h1, h2]; exact h
/-! the same in a narrower frame: the trial and the port alone -/
def AT (b : Nat) : Prop := (27 ≤ b ∧ b ≤ 33) ∨ (39 ≤ b ∧ b ≤ 43)
def FrT (w w' : Wd) : Prop := FrI AT w w'
theorem FrT.rf {w : Wd} : FrT w w := FrI.rf
theorem FrT.tr {a b c : Wd} (h : FrT a b) (h' : FrT b c) : FrT a c := FrI.tr h h'
theorem FrT.LR {w w' : Wd} (h : FrT w w') (H : LR w) : LR w' := FrI.LR h H
theorem FrT.C {w w' : Wd} (h : FrT w w') : FrC w w' := FrI.C h (fun b hb => by unfold AT at hb; unfold SC; omega)
theorem FrI.T {A : Nat → Prop} {w w' : Wd} (h : FrI A w w') (hA : ∀ b, A b → AT b) : FrT w w' := h.wk hA
theorem CQ.frT {w w' : Wd} {q : Nat} {Q : QT} {s : ST} (h : CQ w q Q s) (f : FrT w w') : CQ w' q Q s := h.fr f.C
theorem RN.frT {w w' : Wd} {N : NT} (h : RN w 246 N) (f : FrT w w') : RN w' 246 N := h.fr f.C
theorem FrT.J {w w' : Wd} (h : FrT w w') : gJ w' = gJ w := by unfold gJ; rw [h.2]
theorem q169T {w : Wd} {q : Nat} {Q : QT} {s : ST} (h : CQ w q Q s) : ∃ w', F169 0 w = r0 w' ∧ TC w' s ∧ FrT w w' := by
  obtain ⟨h1, h2, h3, h4, h5, h6⟩ := h
  obtain ⟨w1, k1, k2, k3⟩ := q74 (a := 39) (b := 34) h5 l39 l34 (by omega) h4
  obtain ⟨w2, k4, k5, k6⟩ := q16 (k3.LR h5)
  refine ⟨w2, e169 h5 l0 _ ?_, ⟨k2.fr k5 (by omega) (by omega) (by omega) (by omega) (by omega), k6⟩, (k3.T (fun b hb => by unfold AS at hb; unfold AT; omega)).tr (k5.T (fun b hb => by unfold AT; omega))⟩
  rw [k1, b0_r (k3.LR h5), k4, b0_r (k5.LR (k3.LR h5))]
theorem qgoT {w v : Wd} {q K : Nat} {Q : QT} {s u : ST} (h : CQ w q Q s) (f : FrT w v) (hu : RS v 39 u) (hG : GS (zn Q) u) (hK : uT u + K < 2000) :
    ∃ v', F17 27 q 39 K v = r0 v' ∧ RS v' 39 (goN Q u K) ∧ FrT w v' ∧ True := by
  have h' := h.frT f
  obtain ⟨v', k1, k2, k3, k4⟩ := q17 (K := K) h'.2.2.2.2.1 l39 (lq h.1) h.2.2.2.2.2.1 hu hG h'.2.2.1 (Or.inr rfl) h.1 hK
  exact ⟨v', k1, k2, f.tr (k3.T (fun b hb => by unfold AG AS at hb; unfold AT; omega)), trivial⟩
theorem c152bT {w w0 : Wd} {q : Nat} {Q : QT} {s u : ST} {N : NT} {x y : Int} (h : CQ w q Q s) (f : FrT w w0) (hN : RN w 246 N) (hg : GN (zn Q) N) (hG : GS (zn Q) u) (hT : uT u = uT s)
    (hset : ∀ v, LR v → RS v 39 s → ∃ v1, F87 39 x y v = r0 v1 ∧ FrI (AS 39) v v1 ∧ RS v1 39 u) : ∃ w', s152_19 0 x y w0 = rI (b2i (asS Q N u)) w' ∧ FrT w w' := by
  have ht := h.t
  have h0 := h.frT f
  obtain ⟨v, k1, ⟨c1, -⟩, k2⟩ := q169T h0
  have hV := k2.LR h0.H
  obtain ⟨v1, a1, a2, a3⟩ := hset v hV c1
  have f1 : FrT w v1 := (f.tr k2).tr (a2.T (fun b hb => by unfold AS at hb; unfold AT; omega))
  have H1 := f1.LR h.H
  obtain ⟨b1, b2, b3⟩ := lsN_b hg N.1 (Nat.le_refl _)
  obtain ⟨L, hL⟩ : ∃ L : Nat, lsN N N.1 = L := ⟨(lsN N N.1).toNat, by omega⟩
  have start : ∀ {o : Out}, s152_48 0 x y L 0 v1 = some o → s152_19 0 x y w0 = some o := by
    intro o ho
    refine e152_19 h0.H l0 _ ?_
    rw [k1, b0_r hV, show F87 (0 + 39) x y v = r0 v1 from a1, b0_r H1, show F69 (0 + 246) v1 = _ from c69 H1 (hN.frT f1) hg, bI_r H1, q326 H1, bI_r H1, hL, show min (L : Int) 20 = L by omega]
    exact ho
  have hX := lpX (F := fun k v => s152_48 0 x y L k v) (I := fun k v => FrT w v ∧ RS v 39 (goN Q u k) ∧ ∀ j : Nat, j < k → soB N j (goN Q u j) = true) (Q := fun o => ∃ w', o = (.inl (some (.inl 0)), w') ∧ FrT w w' ∧ asS Q N u = false) L (fun k v hk e => by
    obtain ⟨e1, e2, e3⟩ := e
    have hv := h.frT e1
    have e70 := c70 (k := (k : Int)) hv.H (hN.frT e1) hg h.n8 e2
    cases z : soB N k (goN Q u k)
    · refine Or.inr ⟨_, e152_48 hv.H l0 _ ?_, v, rfl, e1, ?_⟩
      · rw [if_neg (by omega), show F70 (0 + 246) k (0 + 39) v = _ from e70, bI_r hv.H, z, if_neg (by decide)]
      · cases hs : asS Q N u
        · rfl
        · have hall := asS_iff.mp hs
          have : soB N k (goN Q u k) = true := soB_iff.mpr (fun i hi hk2 => by
            have := hall i hi
            rw [hk2] at this; exact this)
          rw [this] at z; cases z
    · obtain ⟨v', l1, l2, l3, -⟩ := qgoT (K := 1) h e1 e2 (GS_goN hG k (by omega)) (by rw [goN_T]; omega)
      refine Or.inl ⟨v', fun o ho => e152_48 hv.H l0 _ ?_, l3, l2, fun j hj => ?_⟩
      · rw [if_neg (by omega), show F70 (0 + 246) k (0 + 39) v = _ from e70, bI_r hv.H, z, if_pos (by decide), hv.q, show F17 (0 + 27) q (0 + 39) 1 v = r0 v' from l1, b0_r (l3.LR h.H), wrd (by omega) (by omega)]
        exact ho
      · by_cases y2 : j = k
        · rw [y2]; exact z
        · exact e3 j (by omega)) v1 ⟨f1, a3, fun j hj => absurd hj (Nat.not_lt_zero _)⟩
  rcases hX with ⟨v', hv', e1, e2, e3⟩ | ⟨o, ho, w', hw, e1, hz⟩
  · have hv := h.frT e1
    have e70 := c70 (k := (L : Int)) hv.H (hN.frT e1) hg h.n8 e2
    refine ⟨v', start (hv' _ (e152_48 hv.H l0 _ ?_)), e1⟩
    rw [if_pos (Int.le_refl _), show F70 (0 + 246) L (0 + 39) v' = _ from e70, bI_r hv.H, gP_t (b2i_or _)]
    have : soB N L (goN Q u L) = asS Q N u := by
      apply Bool.eq_iff_iff.mpr
      rw [soB_iff, asS_iff]
      constructor
      · intro hh i hi
        have hgi := hg.2 i hi
        have hle := b3 i hi
        obtain ⟨t, ht2⟩ : ∃ t : Nat, N.2.2.1 i = t := ⟨(N.2.2.1 i).toNat, by omega⟩
        by_cases y2 : t = L
        · have := hh i hi (by rw [ht2, y2])
          rw [ht2, nn, y2]; exact this
        · have := soB_iff.mp (e3 t (by omega)) i hi ht2
          rw [ht2, nn]; exact this
      · intro hh i hi hk2
        have := hh i hi
        rw [hk2, nn] at this; exact this
    rw [this]
  · refine ⟨w', start ?_, e1⟩
    rw [hz]
    rw [hw] at ho
    exact ho
theorem c152T {w w0 : Wd} {q : Nat} {Q : QT} {s : ST} {N : NT} {p v : Nat} (h : CQ w q Q s) (f : FrT w w0) (hN : RN w 246 N) (hg : GN (zn Q) N) (hp : p < zn Q) (hv : v < 60) : ∃ w', F152 0 p v w0 = rI (b2i (ft Q N s p v)) w' ∧ FrT w w' := by
  have h8 := h.n8
  have h0 := h.frT f
  have e76 := q76 (p := p) h0.H l34 (by omega)
  rw [show gI w0 (34 + 2) = uW s from h0.2.2.2.1.2.1] at e76
  unfold ft
  by_cases z : uW s p = v
  · refine ⟨w0, e152 h0.H l0 _ ?_, f⟩
    rw [if_neg (by omega), show F76 (0 + 34) p w0 = _ from e76, bI_r h0.H, if_neg (by omega)]
    simp [z, b2i]
  · obtain ⟨w', k1, k2⟩ := c152bT (u := sW s p v) (x := p) (y := v) h f hN hg (GS_W h.s ⟨by omega, by omega⟩) rfl (fun v1 hv1 hr => ⟨_, q87 (a := 39) (p := p) hv1 l39 (by omega), FrI.p ⟨by omega, by omega⟩, by rw [pI_eq hr.2.1]; exact RS_W hr⟩)
    refine ⟨w', e152 h0.H l0 _ ?_, k2⟩
    rw [if_neg (by omega), show F76 (0 + 34) p w0 = _ from e76, bI_r h0.H, if_pos z, k1]
    simp [z]
theorem c109 {w : Wd} {n : Nat} {f : Nat → Nat} (H : LR w) (hf : ∀ r, r < 8 → gI w 471 r = if r < n then (f r : Int) else 0) (hn : n ≤ 8) : F109 469 w = rI (lkN f n).1 w ∧ (∀ x, x = (lkN f n).1 → F110 469 x w = rI (lkN f n).2 w) := by
  have e8 : lkN (fun r => if r < n then f r else 0) 8 = lkN f n := by
    rw [lkN_ge (n := n) 8 hn (fun i h1 _ => if_neg (by omega))]
    have : ∀ k, k ≤ n → lkN (fun r => if r < n then f r else 0) k = lkN f k := by
      intro k
      induction k with
      | zero => intro _; rfl
      | succ k ih =>
        intro hk
        have e1 : lkN (fun r => if r < n then f r else 0) (k + 1) = lkS (fun r => if r < n then f r else 0) k (lkN (fun r => if r < n then f r else 0) k) := rfl
        have e2 : lkN f (k + 1) = lkS f k (lkN f k) := rfl
        rw [e1, e2, ih (by omega)]
        unfold lkS
        rw [show (fun r => if r < n then f r else 0) k = f k from if_pos (by omega)]
    exact this n (Nat.le_refl _)
  have hf' : ∀ r, r < 8 → gI w 471 r = ((if r < n then f r else 0 : Nat) : Int) := fun r hr => by rw [hf r hr]; split <;> rfl
  refine ⟨?_, fun x hx => ?_⟩
  · obtain ⟨a, ha, e⟩ := lpR (F := fun k a => s109_6 469 a.1 a.2 k w) (I := fun k a => a = lkN (fun r => if r < n then f r else 0) k) 8 (fun k a hk e => by
      subst e
      refine ⟨_, fun o ho => e109_6 H l469 _ ?_, rfl⟩
      have e1 : lkN (fun r => if r < n then f r else 0) (k + 1) = lkS (fun r => if r < n then f r else 0) k (lkN (fun r => if r < n then f r else 0) k) := rfl
      rw [e1] at ho
      unfold lkS at ho
      rw [if_neg (by omega), gdi (by omega) (by omega), gdi (by omega) (by omega), nn, show gI w (469 + 2) k = _ from hf' k hk, wrd (by omega) (by omega)]
      by_cases z : (lkN (fun r => if r < n then f r else 0) k).2 < ((if k < n then f k else 0 : Nat) : Int)
      · rw [if_neg (by omega)]
        rw [if_pos z] at ho
        exact ho
      · rw [if_pos (by omega)]
        rw [if_neg z] at ho
        exact ho) (-1, 0) rfl
    subst e
    rw [← e8]
    exact e109 H l469 _ (ha _ (e109_6 H l469 _ (if_pos (by omega))))
  · subst hx
    rcases (lkN_in f n).1 with h | ⟨r, h1, h2⟩
    · rw [h]
      exact e110 H l469 _ (if_pos (by show (-1 : Int) < 0; omega))
    · rw [h2]
      refine e110 H l469 _ ?_
      show (if (r : Int) < 0 then _ else _) = _
      rw [if_neg (by omega), if_neg (by omega), gdi (by omega) (by omega), nn, show gI w (469 + 2) r = _ from hf r (by omega), if_pos h1]
theorem unq_le {Q : QT} {N : NT} {s : ST} {E r : Nat} : unq Q N s E r ≤ E := cn_le E
theorem c153 {w : Wd} {q : Nat} {Q : QT} {s : ST} {N : NT} {wh : Int} (h : CQ w q Q s) (hN : RN w 246 N) (hg : GN (zn Q) N) : AnC w (F153 0 wh w) (aLook Q s N wh) := by
  refine AnC.of (e153 h.H l0) (AnC.W h.H fun w0 w1 => ?_)
  have h8 := h.n8
  have ht := h.t
  -- all is cleared
  obtain ⟨x1, k1, k2, k3, k4⟩ := q322 h.H
  obtain ⟨x2, k5, k6, k7⟩ := q321r (a := 471) (n := 8) (x := 0) (k2.LR h.H) (by rfl) (by omega)
  have f2 : FrC w x2 := k2.tr (k6.C (fun b hb => by unfold SC; omega))
  have eC : F107 469 w = r0 x2 := e107 h.H l469 _ (by rw [show F322 (469 + 1) 0 w = _ from k1, b0_r (k2.LR h.H), show F321 (469 + 2) 0 x1 = _ from k5, b0_r (f2.LR h.H)])
  have hU0 : UN Q N s 0 x2 := by
    refine ⟨fun r hr => ?_, fun r x hr hx => ?_⟩
    · rw [k7 r hr]; split <;> rfl
    · have : gJ x2 470 (16 * r + x / 64) = 0 := by
        have e : gJ x2 = gJ x1 := by unfold gJ; rw [k6.2]
        rw [e]; exact k3 _ (by omega)
      rw [this, lb_0]; rfl
  rw [show F107 (0 + 469) w = _ from eC, b0_r (f2.LR h.H)]
  obtain ⟨u, hu, e1, e2⟩ := lpR (F := fun p u => s153_15 0 wh p u) (I := fun p u => FrC w u ∧ UN Q N s (60 * p) u) (zn Q) (fun p u hp e => by
    obtain ⟨e1, e2⟩ := e
    have hu := h.fr e1
    obtain ⟨y, hy, i1, i2⟩ := lpR (F := fun v y => s153_28 0 wh p v y) (I := fun v y => FrC w y ∧ UN Q N s (60 * p + v) y) 60 (fun v y hv e => by
      obtain ⟨i1, i2⟩ := e
      have hy := h.fr i1
      obtain ⟨y', a1, a2⟩ := c152T (p := p) (v := v) hy FrT.rf (hN.fr i1) hg hp hv
      have hy' := hy.frT a2
      have eE : ftE Q N s (60 * p + v) = ft Q N s p v := by
        unfold ftE
        rw [show (60 * p + v) / 60 = p by omega, show (60 * p + v) % 60 = v by omega]
      have i2' : UN Q N s (60 * p + v) y' := i2.fr (FrI.g a2 (by unfold AT; omega)) (by rw [a2.J])
      cases z : ft Q N s p v
      · refine ⟨y', fun o ho => e153_28 hy.H l0 _ ?_, i1.tr a2.C, ?_⟩
        · rw [if_neg (by omega), a1, bI_r hy'.H, z, if_pos (show b2i false = 0 from rfl), wrd (by omega) (by omega)]
          exact ho
        · refine ⟨fun r hr => ?_, fun r x hr hx => ?_⟩
          · rw [i2'.1 r hr, show 60 * p + (v + 1) = 60 * p + v + 1 by omega, unq_s, eE, z]; simp
          · rw [i2'.2 r x hr hx, show 60 * p + (v + 1) = 60 * p + v + 1 by omega, anE_s, eE, z]; simp
      · obtain ⟨y1, b1, ⟨b2, -⟩, b3⟩ := q169T hy'
        have H1 := b3.LR hy'.H
        have r1 : RS (pI y1 41 p v) 39 (sW s p v) := by rw [pI_eq (w := y1) (a := 41) b2.2.1]; exact RS_W b2
        have f1 : FrT y' (pI y1 41 p v) := b3.tr (FrI.p (by unfold AT; omega))
        have G1 : GS (zn Q) (sW s p v) := GS_W h.s ⟨by omega, by omega⟩
        obtain ⟨y2, c1, c2, c3, -⟩ := qgoT (K := 5) hy' f1 r1 G1 (by show uT s + ((5 : Nat) : Int) < 2000; omega)
        have hy2 := hy'.frT c3
        have i2'' : UN Q N s (60 * p + v) y2 := i2'.fr (FrI.g c3 (by unfold AT; omega)) (by rw [c3.J])
        have G5 : GS (zn Q) (goN Q (sW s p v) 5) := GS_goN G1 5 (by show uT s + ((5 : Nat) : Int) ≤ 100000; omega)
        obtain ⟨y3, d1, d2, d3, d4⟩ := c108 hy2.H c2 G5 h8 (fun r hr => by
          rw [i2''.1 r hr]
          have := unq_le (Q := Q) (N := N) (s := s) (E := 60 * p + v) (r := r)
          split <;> omega)
        have eV : ∀ r, vE Q s (60 * p + v) r = uL (goN Q (sW s p v) 5) r := fun r => by
          unfold vE
          rw [show (60 * p + v) / 60 = p by omega, show (60 * p + v) % 60 = v by omega]
        have f3 : FrC w y3 := ((i1.tr a2.C).tr c3.C).tr d2
        refine ⟨y3, fun o ho => e153_28 hy.H l0 _ ?_, f3, fun r hr => ?_, fun r x hr hx => ?_⟩
        · rw [if_neg (by omega), a1, bI_r hy'.H, z, if_neg (by decide), b1, b0_r H1, q87 (a := 39) (p := p) H1 l39 (by omega)]
          show b0 (r0 (pI y1 41 p v)) _ = _
          rw [b0_r (f1.LR hy'.H), (hy'.frT f1).q, show F17 (0 + 27) q (0 + 39) 5 (pI y1 41 p v) = r0 y2 from c1, b0_r hy2.H, hy2.q, hy2.n, show F108 (0 + 469) (0 + 39) (zn Q : Int) y2 = _ from d1, b0_r (f3.LR h.H), wrd (by omega) (by omega)]
          exact ho
        · rw [d3 r hr, i2''.1 r hr, show 60 * p + (v + 1) = 60 * p + v + 1 by omega, unq_s, eE, z, eV]
          by_cases y0 : r < zn Q
          · have hb := G5.1 r
            have := i2''.2 r (uL (goN Q (sW s p v) 5) r).toNat y0 (by omega)
            rw [this, show ((uL (goN Q (sW s p v) 5) r).toNat : Int) = uL (goN Q (sW s p v) 5) r by omega]
            cases z2 : anE Q N s r (60 * p + v) (uL (goN Q (sW s p v) 5) r)
            · rw [if_pos ⟨y0, rfl⟩, if_pos y0, if_pos y0]; simp
            · rw [if_neg (fun y3 => by cases y3.2), if_pos y0, if_pos y0]; simp
          · rw [if_neg (fun y3 => y0 y3.1), if_neg y0, if_neg y0]
        · rw [d4 r x (by omega) hx, i2''.2 r x hr hx, show 60 * p + (v + 1) = 60 * p + v + 1 by omega, anE_s, eE, z, eV, decide_eq_true hr]) u ⟨e1, e2⟩
    refine ⟨y, fun o ho => e153_15 hu.H l0 _ ?_, i1, by rw [show 60 * (p + 1) = 60 * p + 60 by omega]; exact i2⟩
    rw [hu.q, hu.n, if_neg (by omega)]
    refine hy _ (e153_28 (i1.LR h.H) l0 _ ?_)
    rw [if_pos (by omega), wrd (by omega) (by omega)]
    exact ho) x2 ⟨f2, hU0⟩
  have hq := h.fr e1
  obtain ⟨g1, g2⟩ := c109 (f := unq Q N s (60 * zn Q)) (n := zn Q) hq.H e2.1 h8
  have : s153_15 0 wh 0 x2 = rI (if wh = 0 then (lkN (unq Q N s (60 * zn Q)) (zn Q)).1 else (lkN (unq Q N s (60 * zn Q)) (zn Q)).2) u := by
    refine hu _ (e153_15 hq.H l0 _ ?_)
    rw [hq.q, hq.n, if_pos (Int.le_refl _), show F109 (0 + 469) u = _ from g1, bI_r hq.H]
    by_cases z : wh = 0
    · rw [if_neg (by omega), if_pos z]
    · rw [if_pos z, show F110 (0 + 469) (lkN (unq Q N s (60 * zn Q)) (zn Q)).1 u = _ from g2 _ rfl, bI_r hq.H, if_neg z]
  rw [this]
  exact AnC.v e1
