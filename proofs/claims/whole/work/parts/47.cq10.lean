theorem jQ_s {D : Nat → Nat → Int} {W : Row} {m p i : Nat} {a : Int × Int} : jQ D W m p i a = if m.testBit (p + 1 + i) = true ∧ D p (p + 1 + i) ≠ -1 ∧ a.1 < W (dl (dl m p) (p + 1 + i)) + 10000 - D p (p + 1 + i) then (W (dl (dl m p) (p + 1 + i)) + 10000 - D p (p + 1 + i), ((p + 1 + i : Nat) : Int)) else a := rfl
theorem c10a {w : Wd} {m p : Nat} {D : Nat → Nat → Int} (H : LR w) (hm8 : m < 256) (hp : p < 8) (hpin : m.testBit p = true) (h1 : ∀ q, q < 8 → m.testBit q = true → gI w 468 (8 * p + q) = D p q ∧ -1 ≤ D p q ∧ D p q ≤ 999) (hW : ∀ i, i < m → -100000000 ≤ gI w 465 i ∧ gI w 465 i ≤ 100000000) :
    Rf (s10_15 464 m p (jB D (gI w 465) m p).1 (jB D (gI w 465) m p).2 8 w) (s10_15 464 m p (-1) (-1) ((p : Int) + 1) w) := by
  obtain ⟨a, ha, e⟩ := lpR (F := fun i a => s10_15 464 m p a.1 a.2 ((p : Int) + 1 + i) w) (I := fun i a => a = it (jQ D (gI w 465) m p) i (-1, -1)) (7 - p) (fun i a hi e => by
    refine ⟨jQ D (gI w 465) m p i a, fun o ho => ?_, by rw [e]; rfl⟩
    have e1 : (p : Int) + 1 + (i : Int) = ((p + 1 + i : Nat) : Int) := by omega
    have e2 : (p : Int) + 1 + ((i + 1 : Nat) : Int) = ((p + 1 + i : Nat) : Int) + 1 := by omega
    show s10_15 464 m p a.1 a.2 ((p : Int) + 1 + (i : Int)) w = some o
    rw [e1]
    rw [jQ_s, e2] at ho
    exact c10s H hm8 hp (by omega) (h1 _ (by omega)) hpin hW ho) (-1, -1) rfl
  subst e
  have e3 : (p : Int) + 1 + ((7 - p : Nat) : Int) = 8 := by omega
  have e4 : (p : Int) + 1 + 0 = (p : Int) + 1 := by omega
  rw [e3, e4] at ha
  exact ha
theorem c10 {w : Wd} {m : Nat} {D : Nat → Nat → Int} (H : LR w) (hm0 : 0 < m) (hm8 : m < 256) (h1 : ∀ q, q < 8 → m.testBit q = true → gI w 468 (8 * fo m + q) = D (fo m) q ∧ -1 ≤ D (fo m) q ∧ D (fo m) q ≤ 999) (hW : ∀ i, i < m → -100000000 ≤ gI w 465 i ∧ gI w 465 i ≤ 100000000) :
    ∃ w', F10 464 m w = r0 w' ∧ FrI (fun b => b = 465 ∨ b = 466) w w' ∧ gI w' 465 = (jS D m (gI w 465, gI w 466)).1 ∧ gI w' 466 = (jS D m (gI w 465, gI w 466)).2 := by
  have hp := fo_b m
  have hc := c10a (p := fo m) H hm8 (by omega) (fo_in hm0 hm8) h1 hW
  have e11 := c11 H hm8
  have ej : jS D m (gI w 465, gI w 466) = (va_up (gI w 465) m (max (jB D (gI w 465) m (fo m)).1 (gI w 465 (dl m (fo m)))), va_up (gI w 466) m (if (jB D (gI w 465) m (fo m)).1 < gI w 465 (dl m (fo m)) then -1 else (jB D (gI w 465) m (fo m)).2)) := rfl
  rw [ej]
  generalize fo m = p at *
  generalize jB D (gI w 465) m p = a at *
  have hdl := dl_b (m := m) (p := p)
  have e1 := dl_eq hm8 (show p < 8 by omega)
  refine ⟨pI (pI w 465 m (max a.1 (gI w 465 (dl m p)))) 466 m (if a.1 < gI w 465 (dl m p) then -1 else a.2), e10 H (by rfl) _ ?_, (FrI.p (by omega)).pp (by omega), by rw [gI_r (by omega), gI_p], by rw [gI_p, gI_r (by omega)]⟩
  rw [e11, bI_r H, wrd (z := (p : Int) + 1) (by omega) (by omega)]
  refine hc _ (e10_15 H (by rfl) _ ?_)
  rw [if_pos (by omega), e1, nn, gdi (by omega) (by omega), q325 H, bI_r H, gdi (by omega) (by omega), gdi (by omega) (by omega), gdi (by omega) (by omega), nn]
  show (if gI w 465 (dl m p) ≤ a.1 then _ else _) = _
  by_cases z : a.1 < gI w 465 (dl m p)
  · rw [if_neg (by omega), if_pos z]
  · rw [if_pos (by omega), if_neg z]
/-- the tables: for each set what it is worth, whom its first one takes -/
def jT (D : Nat → Nat → Int) (a : Row × Row) (k : Nat) : Row × Row := it (fun i a => jS D (i + 1) a) k a
theorem jT_s {D : Nat → Nat → Int} {a : Row × Row} {k : Nat} : jT D a (k + 1) = jS D (k + 1) (jT D a k) := rfl
/-- what a row of the tables is made of -/
theorem jB_ag {D : Nat → Nat → Int} {W W' : Row} {m p : Nat} (hm : m < 256) (hp : p < 8) (hpin : m.testBit p = true) (h : ∀ i, i < m → W i = W' i) : ∀ i, i ≤ 7 - p → it (jQ D W m p) i (-1, -1) = it (jQ D W' m p) i (-1, -1) := by
  intro i
  induction i with
  | zero => intro _; rfl
  | succ i ih =>
    intro hi
    rw [it_s, it_s, ih (by omega), jQ_s, jQ_s, h _ (Nat.lt_of_le_of_lt (dl_le _ dl_b _ (by omega)) (dl_lt _ hm _ hp hpin))]
theorem jB_2 {D : Nat → Nat → Int} {W : Row} {m p : Nat} : ∀ i, i ≤ 7 - p → (it (jQ D W m p) i (-1, -1)).2 = -1 ∨ ∃ q : Nat, q < 8 ∧ (it (jQ D W m p) i (-1, -1)).2 = q ∧ m.testBit q = true ∧ p < q := by
  intro i
  induction i with
  | zero => intro _; exact Or.inl rfl
  | succ i ih =>
    intro hi
    rw [it_s, jQ_s]
    by_cases z : m.testBit (p + 1 + i) = true ∧ D p (p + 1 + i) ≠ -1 ∧ (it (jQ D W m p) i (-1, -1)).1 < W (dl (dl m p) (p + 1 + i)) + 10000 - D p (p + 1 + i)
    · rw [if_pos z]
      exact Or.inr ⟨p + 1 + i, by omega, rfl, z.1, by omega⟩
    · rw [if_neg z]; exact ih (by omega)
def z0 : Row × Row := (fun _ => 0, fun _ => -1)
def Tn (D : Nat → Nat → Int) (k : Nat) : Row × Row := jT D z0 k
/-- bounds of what sets are worth -/
theorem jB_b {D : Nat → Nat → Int} {W : Row} {m p : Nat} {M : Int} (hm : m < 256) (hp : p < 8) (hpin : m.testBit p = true) (hM : 0 ≤ M) (hD : ∀ q, q < 8 → m.testBit q = true → -1 ≤ D p q ∧ D p q ≤ 999) (hW : ∀ i, i < m → 0 ≤ W i ∧ W i ≤ M) : ∀ i, i ≤ 7 - p → -1 ≤ (it (jQ D W m p) i (-1, -1)).1 ∧ (it (jQ D W m p) i (-1, -1)).1 ≤ M + 10001 := by
  intro i
  induction i with
  | zero => intro _; exact ⟨Int.le_refl _, by show (-1 : Int) ≤ M + 10001; omega⟩
  | succ i ih =>
    intro hi
    obtain ⟨h1, h2⟩ := ih (by omega)
    rw [it_s, jQ_s]
    by_cases z : m.testBit (p + 1 + i) = true ∧ D p (p + 1 + i) ≠ -1 ∧ (it (jQ D W m p) i (-1, -1)).1 < W (dl (dl m p) (p + 1 + i)) + 10000 - D p (p + 1 + i)
    · rw [if_pos z]
      have hb := hD (p + 1 + i) (by omega) z.1
      have hw := hW _ (Nat.lt_of_le_of_lt (dl_le (dl m p) dl_b (p + 1 + i) (by omega)) (dl_lt _ hm _ hp hpin))
      have z3 := z.2.2
      refine ⟨?_, ?_⟩
      · show (-1 : Int) ≤ W (dl (dl m p) (p + 1 + i)) + 10000 - D p (p + 1 + i); omega
      · show W (dl (dl m p) (p + 1 + i)) + 10000 - D p (p + 1 + i) ≤ M + 10001; omega
    · rw [if_neg z]; exact ⟨h1, h2⟩
theorem jS1 {D : Nat → Nat → Int} {m : Nat} {a : Row × Row} : (jS D m a).1 = va_up a.1 m (max (jB D a.1 m (fo m)).1 (a.1 (dl m (fo m)))) := rfl
theorem jS2 {D : Nat → Nat → Int} {m : Nat} {a : Row × Row} : (jS D m a).2 = va_up a.2 m (if (jB D a.1 m (fo m)).1 < a.1 (dl m (fo m)) then -1 else (jB D a.1 m (fo m)).2) := rfl
/-- the tables up to k: the entries below stay -/
theorem Tn_b {D : Nat → Nat → Int} (hD : ∀ p q, p < 8 → q < 8 → -1 ≤ D p q ∧ D p q ≤ 999) : ∀ k, k < 256 → ∀ i, 0 ≤ (Tn D k).1 i ∧ (Tn D k).1 i ≤ 10001 * k := by
  intro k
  induction k with
  | zero => intro _ i; exact ⟨Int.le_refl _, by show (0 : Int) ≤ 10001 * ((0 : Nat) : Int); omega⟩
  | succ k ih =>
    intro hk i
    have hb := ih (by omega)
    have hp := fo_b (k + 1)
    have e : (Tn D (k + 1)).1 = va_up (Tn D k).1 (k + 1) (max (jB D (Tn D k).1 (k + 1) (fo (k + 1))).1 ((Tn D k).1 (dl (k + 1) (fo (k + 1))))) := rfl
    have h2 := jB_b (D := D) (W := (Tn D k).1) (m := k + 1) (p := fo (k + 1)) (M := 10001 * k) (by omega) (by omega) (fo_in (by omega) (by omega)) (by omega) (fun q hq _ => hD _ q (by omega) hq) (fun i _ => hb i) (7 - fo (k + 1)) (Nat.le_refl _)
    have h3 := hb (dl (k + 1) (fo (k + 1)))
    have h4 : jB D (Tn D k).1 (k + 1) (fo (k + 1)) = it (jQ D (Tn D k).1 (k + 1) (fo (k + 1))) (7 - fo (k + 1)) (-1, -1) := rfl
    have h5 := hb i
    rw [e]
    unfold va_up
    split
    · rw [h4]; omega
    · omega
/-- the row that is read off -/
def rrS (T : Row) (D : Nat → Nat → Int) (a : Nat × Row × Int × Int) : Nat × Row × Int × Int :=
  if a.1 = 0 then a else if T a.1 < 0 then (dl a.1 (fo a.1), a.2) else (dl (dl a.1 (fo a.1)) (T a.1).toNat, va_up (va_up a.2.1 (fo a.1) (T a.1)) (T a.1).toNat (fo a.1), a.2.2.1 + 1, a.2.2.2 + D (fo a.1) (T a.1).toNat)
def rrN (T : Row) (D : Nat → Nat → Int) (m : Nat) (k : Nat) : Nat × Row × Int × Int := it (fun _ a => rrS T D a) k (m, fun _ => -1, 0, 0)
