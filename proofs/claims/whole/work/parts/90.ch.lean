/-! lines as a function; the class reads them -/
def lCn (K V : Nat → Int) (crn : Int) (k : Nat) (y : LZ) : LZ := if y.1 ≠ 0 then y else if K y.2 ≠ 1 ∧ K y.2 ≠ 2 then (1, y.2) else if K y.2 = 2 ∨ 6 ≤ k then (2, y.2) else if crn ≤ V y.2 then (3, y.2) else (0, y.2 + 1)
def isNu (c : Int) : Bool := decide (c = 1) || decide (c = 2)
def lWk (K V : Nat → Int) (crn : Int) : Nat → Nat → LZ → LZ
  | 0, _, y => y
  | f + 1, k, y => if y.1 = 0 ∧ isNu (K y.2) = true then lWk K V crn f (k + 1) (lCn K V crn k y) else y
def lPe (K V : Nat → Int) (crn : Int) (y : LZ) : LZ := lWk K V crn 6 1 (lCn K V crn 0 (lNm K V 0 9 (lNm K V 0 59 (lNm K V 0 999 (lGo y)))))
/-- one person more: the token of its word, so many corners -/
def qPe (V : Nat → Int) (mi : Bool) (j m : Nat) (q : QZ) : QZ := ((vk q, vn q + 1, vc q, fun i => if i = vn q then mi else vm q i), (va_up (vL q) (vn q) (V (j + 1)), va_up (vW q) (vn q) (V (j + 2)), va_up (vM q) (vn q) (V (j + 3))), (va_up (vX q) (vn q) m, va_up (vw q) (vn q) (fun i => V (j + 4 + i))), q.2.2.2)
def qCo (c : Int) (q : QZ) : QZ := ((c, q.1.2), q.2.1, q.2.2.1, q.2.2.2.1, (true, ve q))
def qCl (c : Int) (q : QZ) : QZ := ((vk q, vn q, c, vm q), q.2.1, q.2.2.1, q.2.2.2.1, (vd q, true))
def qAs (r : Nat × Row) (q : QZ) : QZ := (q.1, q.2.1, q.2.2.1, (r, vs q), q.2.2.2.2)
def qSa (r : Nat × Row) (q : QZ) : QZ := (q.1, q.2.1, q.2.2.1, (va q, r), q.2.2.2.2)
def lEx (K V : Nat → Int) (S : Bool) (j : Nat) : PZ := pE K V S 6 (0, j + 1, 0, fun _ => 0)
def rLn (K V : Nat → Int) (a : LZ × QZ) : LZ × QZ :=
  if a.1.1 ≠ 0 then a
  else if K a.1.2 = 100 then (if 0 < vn a.2 then ((4, a.1.2), a.2) else if vd a.2 = true then ((5, a.1.2), a.2) else (lNm K V 2 6 (lGo a.1), qCo (V (a.1.2 + 1)) a.2))
  else if K a.1.2 = 101 ∨ K a.1.2 = 102 then (if vn a.2 = 8 then ((2, a.1.2), a.2) else (lPe K V (vk a.2) a.1, qPe V (decide (K a.1.2 = 102)) a.1.2 ((lPe K V (vk a.2) a.1).2 - (a.1.2 + 4)) a.2))
  else if K a.1.2 = 103 then (if ve a.2 = true then ((5, a.1.2), a.2) else (lNm K V 0 59 (lGo a.1), qCl (V (a.1.2 + 1)) a.2))
  else if K a.1.2 = 104 then (if 0 < (va a.2).1 then ((5, a.1.2), a.2) else (((lEx K V false a.1.2).1, (lEx K V false a.1.2).2.1), qAs (lEx K V false a.1.2).2.2 a.2))
  else if K a.1.2 = 105 then (if 0 < (vs a.2).1 then ((5, a.1.2), a.2) else (((lEx K V true a.1.2).1, (lEx K V true a.1.2).2.1), qSa (lEx K V true a.1.2).2.2 a.2))
  else ((1, a.1.2), a.2)
def rLi (K V : Nat → Int) (a : LZ × QZ) : LZ × QZ := (lSg K 59 (rLn K V a).1, (rLn K V a).2)
def rAl (K V : Nat → Int) : Nat → LZ × QZ → LZ × QZ
  | 0, a => a
  | f + 1, a => if a.1.1 = 0 ∧ K a.1.2 ≠ 0 then rAl K V f (rLi K V a) else a
/-- the quay that is being told -/
def RQz (w : Wd) (t : Nat) (q : QZ) : Prop := (gI w t 0 = vk q ∧ gI w t 1 = vn q ∧ gI w t 2 = vc q ∧ gI w t 3 = mk (vm q) 8) ∧ (gI w (t + 1) = vL q ∧ gI w (t + 2) = vW q ∧ gI w (t + 3) = vM q) ∧
  (∀ p, p < vn q → gI w (t + 4) p = vX q p ∧ ∀ i, i < vX q p → gI w (t + 5) (6 * p + i) = vw q p i) ∧ (gI w (t + 6) 1 = (va q).1 ∧ ∀ i, i < (va q).1 → gI w (t + 7) i = (va q).2 i) ∧ (gI w (t + 8) 1 = (vs q).1 ∧ ∀ i, i < (vs q).1 → gI w (t + 9) i = (vs q).2 i) ∧
  gI w 12 7 = b2i (vd q) ∧ gI w 12 8 = b2i (ve q)
/-- the frame of a line -/
def FrL (t : Nat) (w w' : Wd) : Prop := (∀ c, c ≠ 12 → ¬ (t ≤ c ∧ c ≤ t + 9) → gI w' c = gI w c) ∧ (∀ c, c ≠ 12 → gR w' c = gR w c) ∧ (∀ i, i ≠ 2 → gR w' 12 i = gR w 12 i) ∧ gJ w' = gJ w ∧ gN w' = gN w ∧ gL w' = gL w ∧ gX w' = gX w ∧ gE w' = gE w ∧ ∀ p, 8 ≤ p → gI w' (t + 1) p = gI w (t + 1) p ∧ gI w' (t + 2) p = gI w (t + 2) p ∧ gI w' (t + 3) p = gI w (t + 3) p
theorem FrL.rf {t : Nat} {w : Wd} : FrL t w w := ⟨fun _ _ _ => rfl, fun _ _ => rfl, fun _ _ => rfl, rfl, rfl, rfl, rfl, rfl, fun _ _ => ⟨rfl, rfl, rfl⟩⟩
theorem FrL.tr {t : Nat} {a b c : Wd} (h : FrL t a b) (h' : FrL t b c) : FrL t a c :=
  ⟨fun x q1 q2 => (h'.1 x q1 q2).trans (h.1 x q1 q2), fun x q => (h'.2.1 x q).trans (h.2.1 x q), fun x q => (h'.2.2.1 x q).trans (h.2.2.1 x q), h'.2.2.2.1.trans h.2.2.2.1, h'.2.2.2.2.1.trans h.2.2.2.2.1, h'.2.2.2.2.2.1.trans h.2.2.2.2.2.1, h'.2.2.2.2.2.2.1.trans h.2.2.2.2.2.2.1, h'.2.2.2.2.2.2.2.1.trans h.2.2.2.2.2.2.2.1, fun p hp => ⟨(h'.2.2.2.2.2.2.2.2 p hp).1.trans (h.2.2.2.2.2.2.2.2 p hp).1, (h'.2.2.2.2.2.2.2.2 p hp).2.1.trans (h.2.2.2.2.2.2.2.2 p hp).2.1, (h'.2.2.2.2.2.2.2.2 p hp).2.2.trans (h.2.2.2.2.2.2.2.2 p hp).2.2⟩⟩
theorem FrI.L {A : Nat → Prop} {t : Nat} {w w' : Wd} (h : FrI A w w') (ht : tOK t) (hA : ∀ c, A c → c = 12 ∨ c = t ∨ (t + 4 ≤ c ∧ c ≤ t + 9)) : FrL t w w' := by
  have e := h.2
  have ht : t = 2 ∨ t = 17 := ht
  refine ⟨fun c q1 q2 => h.g (fun z => by have := hA c z; omega), fun c _ => by rw [h.R], fun i _ => by rw [h.R], ?_, ?_, ?_, ?_, ?_, fun p _ => by
    rw [h.g (fun z => by have := hA _ z; omega), h.g (fun z => by have := hA _ z; omega), h.g (fun z => by have := hA _ z; omega)]; exact ⟨rfl, rfl, rfl⟩⟩ <;> (first | unfold gJ | unfold gN | unfold gL | unfold gX | unfold gE) <;> rw [e]
theorem FrL.pw {t c p : Nat} {v : Int} {w : Wd} (hc : c = t + 1 ∨ c = t + 2 ∨ c = t + 3) (hp : p < 8) : FrL t w (pI w c p v) := by
  have g : ∀ d i, 8 ≤ i → gI (pI w c p v) d i = gI w d i := fun d i hi => by
    by_cases z : d = c
    · rw [z, gI_c (by omega)]
    · rw [gI_r z]
  exact ⟨fun d d1 d2 => gI_r (by omega), fun _ _ => rfl, fun _ _ => rfl, rfl, rfl, rfl, rfl, rfl, fun i hi => ⟨g _ i hi, g _ i hi, g _ i hi⟩⟩
section LN
variable {T : Row} {n M t : Nat} {w : Wd} {y : LZ} {q : QZ}
theorem lt4 (ht : tOK t) : (lay t).1 = 4 := lq ht
theorem z31 (H : LR w) (ht : tOK t) {p : Nat} (h : gI w t 1 = p) : F31 t w = rI (b2i (decide (p < 8))) w := by
  refine e31 H (lt4 ht) _ ?_
  rw [h, if_neg (by omega)]
  by_cases z : p < 8
  · rw [if_neg (by omega), decide_eq_true z]; rfl
  · rw [if_pos (by omega), decide_eq_false z]; rfl
theorem z32 (H : LR w) (ht : tOK t) {p k : Nat} {v : Int} (h : gI w t 1 = p) (hp : p < 8) (hk : gI w (t + 4) p = k) (h6 : k < 6) : F32 t v w = r0 (pI (pI w (t + 5) (6 * p + k) v) (t + 4) p ((k + 1 : Nat) : Int)) := by
  have ew : wr (wr ((p : Int) * 6) + (k : Int)) = ((6 * p + k : Nat) : Int) := by rw [wrd (z := (p : Int) * 6) (by omega) (by omega), wrd (by omega) (by omega)]; omega
  have e1 : gI (pI w (t + 5) (6 * p + k) v) t 1 = p := by rw [gI_r (by omega)]; exact h
  refine e32 H (lt4 ht) _ ?_
  rw [z31 H ht h, bI_r H, decide_eq_true hp, if_pos (by decide), h, gdi (by omega) (by omega), nn, hk, if_neg (by omega), if_neg (by omega), ew, gdi (by omega) (by omega), nn, e1, gdi (by omega) (by omega), nn, wrs (by omega)]
theorem z33 (H : LR w) (ht : tOK t) {p : Nat} {a b c : Int} {mi : Bool} {f : Nat → Bool} (h : gI w t 1 = p) (hp : p < 8) (hm : gI w t 3 = mk f 8) (hf : f p = false) :
    F33 t a b c (b2i mi) w = r0 (pI (pI (pI (pI (pI w (t + 1) p a) (t + 2) p b) (t + 3) p c) t 3 (mk (fun i => if i = p then mi else f i) 8)) t 1 ((p + 1 : Nat) : Int)) := by
  have e1 : gI (pI w (t + 1) p a) t 1 = p := by rw [gI_r (by omega)]; exact h
  have e2 : gI (pI (pI w (t + 1) p a) (t + 2) p b) t 1 = p := by rw [gI_r (by omega)]; exact e1
  have e3 : gI (pI (pI (pI w (t + 1) p a) (t + 2) p b) (t + 3) p c) t 1 = p := by rw [gI_r (by omega)]; exact e2
  have e4 : gI (pI (pI (pI w (t + 1) p a) (t + 2) p b) (t + 3) p c) t 3 = mk f 8 := by rw [gI_r (by omega), gI_r (by omega), gI_r (by omega)]; exact hm
  have e5 : ∀ v, gI (pI (pI (pI (pI w (t + 1) p a) (t + 2) p b) (t + 3) p c) t 3 v) t 1 = p := fun v => by rw [gI_c (by decide)]; exact e3
  refine e33 H (lt4 ht) _ ?_
  rw [z31 H ht h, bI_r H, decide_eq_true hp, if_pos (by decide), h, gdi (by omega) (by omega), nn, e1, gdi (by omega) (by omega), nn, e2, gdi (by omega) (by omega), nn, e3, e4]
  have m0 : bOr (mk f 8) 0 = mk (fun i => if i = p then false else f i) 8 := by
    have h0 : (0 : Int) = mk (fun _ => false) 8 := by decide
    rw [h0, mk_or (by decide)]
    refine mk_congr (fun i hi => ?_)
    by_cases z : i = p
    · rw [if_pos z, z, hf]; rfl
    · rw [if_neg z, Bool.or_false]
  have m1 : bOr (mk f 8) (bShl 1 p) = mk (fun i => if i = p then true else f i) 8 := by
    rw [mk_one hp (by decide), mk_or (by decide)]
    refine mk_congr (fun i hi => ?_)
    by_cases z : i = p
    · rw [if_pos z]; simp [z]
    · rw [if_neg z]; simp [z]
  cases mi
  · rw [if_pos (show b2i false = 0 from rfl), m0, e5, wrs (by omega)]
  · rw [if_neg (show ¬ b2i true = 0 by decide), m1, e5, wrs (by omega)]
/-- a person whose walk is being told: k corners, from the token j on -/
def RWp (w : Wd) (t : Nat) (V : Nat → Int) (q : QZ) (j k : Nat) : Prop := RQz w t q ∧ vn q < 8 ∧ gI w (t + 4) (vn q) = k ∧ (∀ i, i < k → gI w (t + 5) (6 * vn q + i) = V (j + i)) ∧ ∀ p, vn q < p → p < 8 → gI w (t + 4) p = 0
theorem RQz.ext {w' : Wd} (h : RQz w t q) (e : ∀ c, t ≤ c → c ≤ t + 9 → c ≠ t + 4 → c ≠ t + 5 → gI w' c = gI w c) (e4 : ∀ p, p < vn q → gI w' (t + 4) p = gI w (t + 4) p) (e5 : ∀ p i, p < vn q → i < vX q p → gI w' (t + 5) (6 * p + i) = gI w (t + 5) (6 * p + i)) (e12 : ∀ i, i = 7 ∨ i = 8 → gI w' 12 i = gI w 12 i) : RQz w' t q := by
  obtain ⟨h1, h2, h3, h4, h5, h6, h7⟩ := h
  unfold RQz
  rw [e t (by omega) (by omega) (by omega) (by omega), e (t + 1) (by omega) (by omega) (by omega) (by omega), e (t + 2) (by omega) (by omega) (by omega) (by omega), e (t + 3) (by omega) (by omega) (by omega) (by omega), e (t + 6) (by omega) (by omega) (by omega) (by omega), e (t + 7) (by omega) (by omega) (by omega) (by omega), e (t + 8) (by omega) (by omega) (by omega) (by omega), e (t + 9) (by omega) (by omega) (by omega) (by omega), e12 7 (Or.inl rfl), e12 8 (Or.inr rfl)]
  refine ⟨h1, h2, fun p hp => ?_, h4, h5, h6, h7⟩
  obtain ⟨a, b⟩ := h3 p hp
  exact ⟨(e4 p hp).trans a, fun i hi => (e5 p i hp hi).trans (b i hi)⟩
theorem RQz.Y {w' : Wd} (h : RQz w t q) (f : FrY w w') (ht : tOK t) : RQz w' t q := by
  have ht : t = 2 ∨ t = 17 := ht
  exact h.ext (fun c c1 c2 _ _ => f.1.g (by omega)) (fun p _ => by rw [f.1.g (by omega)]) (fun p i _ _ => by rw [f.1.g (by omega)]) (fun i hi => f.2 i (by omega) (by omega) (by omega))
theorem RWp.Y {w' : Wd} {V : Nat → Int} {j k : Nat} (h : RWp w t V q j k) (f : FrY w w') (ht : tOK t) : RWp w' t V q j k := by
  have ht' : t = 2 ∨ t = 17 := ht
  obtain ⟨h1, h2, h3, h4, h5⟩ := h
  unfold RWp
  rw [f.1.g (show ¬ t + 4 = 12 by omega), f.1.g (show ¬ t + 5 = 12 by omega)]
  exact ⟨h1.Y f ht, h2, h3, h4, h5⟩
theorem FrY.L {w' : Wd} (f : FrY w w') (ht : tOK t) : FrL t w w' := f.1.L ht (fun c hc => Or.inl hc)
/-- a corner -/
theorem z51 {j k : Nat} (hT : TK (KT T n) (VT T n) M) (ht : tOK t) (h : RY T n M t w y) (hk : k ≤ 6) (hp : y.1 = 0 → RWp w t (VT T n) q j k ∧ y.2 = j + k ∧ ∀ p, p < vn q → vX q p ≤ 6) :
    ∃ w', F51 12 k w = r0 w' ∧ RY T n M t w' (lCn (KT T n) (VT T n) (vk q) k y) ∧ FrL t w w' ∧ ((lCn (KT T n) (VT T n) (vk q) k y).1 = 0 → RWp w' t (VT T n) q j (k + 1) ∧ (lCn (KT T n) (VT T n) (vk q) k y).2 = j + (k + 1)) := by
  have ht' : t = 2 ∨ t = 17 := ht
  have hM := hT.1
  have h0 := h
  obtain ⟨h1, h2, h3, h4, h5, h6, h7⟩ := h0
  have e0 : F105 (12 + 1) (gI w 12 3) w = rI (gI w 16 y.2) w := by rw [h5]; exact q105 h1 h2 hM h7
  obtain ⟨wa, a1, a2, a3⟩ := z41 (c := 1) h (by decide)
  obtain ⟨wb, b1, b2, b3⟩ := z41 (c := 2) h (by decide)
  obtain ⟨wc, c1, c2, c3⟩ := z41 (c := 3) h (by decide)
  have hb : s51_41 12 k (gI w 16 y.2) w = r0 wb := by
    refine e51_41 h1 l12 _ ?_
    rw [b1, b0_r b2.1]
  have hh := e51 (a0 := 12) (x1 := k) h1 l12
  unfold lCn
  unfold lFl at a2 b2 c2
  by_cases z : y.1 = 0
  · obtain ⟨hp, hj, hx⟩ := hp z
    rw [if_neg (fun y => y z)]
    rw [if_pos z] at a2 b2 c2
    have ek : ld T n y = KT T n y.2 := ld_0 z
    by_cases z1 : KT T n y.2 ≠ 1 ∧ KT T n y.2 ≠ 2
    · rw [if_pos z1]
      refine ⟨wa, hh _ ?_, a2, a3.L ht, fun q => absurd (show (1 : Int) = 0 from q) (by decide)⟩
      rw [e0, bI_r h1, z43 h, ek, decide_eq_false z1.1, decide_eq_false z1.2, bI_r h1, if_neg (by decide), a1, b0_r a2.1]
    · rw [if_neg z1]
      have hq : (decide (KT T n y.2 = 1) || decide (KT T n y.2 = 2)) = true := by
        by_cases u : KT T n y.2 = 1
        · rw [decide_eq_true u]; rfl
        · have : KT T n y.2 = 2 := by omega
          rw [decide_eq_true this, Bool.or_true]
      by_cases z2 : KT T n y.2 = 2 ∨ 6 ≤ k
      · rw [if_pos z2]
        refine ⟨wb, hh _ ?_, b2, b3.L ht, fun q => absurd (show (2 : Int) = 0 from q) (by decide)⟩
        rw [e0, bI_r h1, z43 h, ek, hq, bI_r h1, if_pos (by decide), h.k, ek, hb]
        by_cases u : KT T n y.2 = 2
        · rw [if_pos u]
        · rw [if_neg u, if_neg (by omega)]
      · rw [if_neg z2]
        have hk1 : KT T n y.2 = 1 := by omega
        have hv : gI w 16 y.2 = VT T n y.2 := (h2.2.1 _ (by omega)).2.2 hk1
        by_cases z3 : vk q ≤ VT T n y.2
        · rw [if_pos z3]
          refine ⟨wc, hh _ ?_, c2, c3.L ht, fun q => absurd (show (3 : Int) = 0 from q) (by decide)⟩
          rw [e0, bI_r h1, z43 h, ek, hq, bI_r h1, if_pos (by decide), h.k, ek, if_neg (by omega), if_pos (by omega), h3, gQ_t (lt4 ht), hp.1.1.1, hv, if_neg (by omega), c1, b0_r c2.1]
        · rw [if_neg z3]
          obtain ⟨g1, g2, g3, g4, g5⟩ := hp
          have e32' := z32 (v := VT T n y.2) h1 ht g1.1.2.1 g2 g3 (by omega)
          have fa : FrI (fun c => t + 4 ≤ c ∧ c ≤ t + 9) w (pI (pI w (t + 5) (6 * vn q + k) (VT T n y.2)) (t + 4) (vn q) ((k + 1 : Nat) : Int)) := (FrI.p (A := fun c => t + 4 ≤ c ∧ c ≤ t + 9) (by omega)).pp (by omega)
          have ga : ∀ c, c ≠ t + 4 → c ≠ t + 5 → gI (pI (pI w (t + 5) (6 * vn q + k) (VT T n y.2)) (t + 4) (vn q) ((k + 1 : Nat) : Int)) c = gI w c := fun c x1 x2 => by rw [gI_r x1, gI_r x2]
          have ha4 : ∀ p, gI (pI (pI w (t + 5) (6 * vn q + k) (VT T n y.2)) (t + 4) (vn q) ((k + 1 : Nat) : Int)) (t + 4) p = if p = vn q then ((k + 1 : Nat) : Int) else gI w (t + 4) p := fun p => by
            by_cases u : p = vn q
            · rw [if_pos u, u, gI_s]
            · rw [if_neg u, gI_c u, gI_r (by omega)]
          have ha5 : ∀ i, gI (pI (pI w (t + 5) (6 * vn q + k) (VT T n y.2)) (t + 4) (vn q) ((k + 1 : Nat) : Int)) (t + 5) i = if i = 6 * vn q + k then VT T n y.2 else gI w (t + 5) i := fun i => by
            rw [gI_r (by omega)]
            by_cases u : i = 6 * vn q + k
            · rw [if_pos u, u, gI_s]
            · rw [if_neg u, gI_c u]
          revert e32' fa ga ha4 ha5
          generalize pI (pI w (t + 5) (6 * vn q + k) (VT T n y.2)) (t + 4) (vn q) ((k + 1 : Nat) : Int) = wx
          intro e32' fa ga ha4 ha5
          have hY : RY T n M t wx y := ⟨fa.LR h1, h2.ext (fun b b1 b2 => ga b (by omega) (by omega)), by rw [fa.R]; exact h3, by rw [ga 12 (by omega) (by omega)]; exact h4, by rw [ga 12 (by omega) (by omega)]; exact h5, by rw [ga 12 (by omega) (by omega)]; exact h6, h7⟩
          have hW : RWp wx t (VT T n) q j (k + 1) := by
            refine ⟨g1.ext (fun c c1 c2 c4 c5 => ga c c4 c5) (fun p hp => by rw [ha4, if_neg (by omega)]) (fun p i hp hi => by
              have := hx p hp
              rw [ha5, if_neg (by omega)]) (fun i _ => by rw [ga 12 (by omega) (by omega)]), g2, by rw [ha4, if_pos rfl], fun i hi => ?_, fun p p1 p2 => by rw [ha4, if_neg (by omega)]; exact g5 p p1 p2⟩
            rw [ha5]
            by_cases u : i = k
            · rw [if_pos (by omega), hj, u]
            · rw [if_neg (by omega)]; exact g4 i (by omega)
          obtain ⟨w', d1, d2, d3⟩ := z42 hT hY (fun _ => by omega)
          unfold lGo at d2
          rw [if_pos z] at d2
          refine ⟨w', hh _ ?_, d2, (fa.L ht (fun c hc => Or.inr (Or.inr hc))).tr (d3.L ht), fun _ => ⟨hW.Y d3 ht, by show y.2 + 1 = _; omega⟩⟩
          rw [e0, bI_r h1, z43 h, ek, hq, bI_r h1, if_pos (by decide), h.k, ek, if_neg (by omega), if_pos (by omega), h3, gQ_t (lt4 ht), g1.1.1, hv, if_pos (by omega), gQ_t (lt4 ht), e32', b0_r hY.1, d1, b0_r d2.1]
  · rw [if_pos z]
    rw [if_neg z] at a2
    have ek : ld T n y = -1 := ld_n z
    refine ⟨wa, hh _ ?_, a2, a3.L ht, fun q => absurd q z⟩
    rw [e0, bI_r h1, z43 h, ek, bI_r h1, if_neg (by decide), a1, b0_r a2.1]
end LN
