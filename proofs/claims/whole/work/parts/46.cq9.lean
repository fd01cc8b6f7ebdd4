/-! the class's answers: couples -/
/-- a set without one -/
def dl (m p : Nat) : Nat := nmk (fun i => m.testBit i && !(i == p)) 8
theorem dl_b {m p : Nat} : dl m p < 256 := nmk_256
theorem dl_eq {m p : Nat} (hm : m < 256) (hp : p < 8) : bAnd (m : Int) (bXor (bShl 1 p) (-1)) = (dl m p : Int) := by
  rw [mk_self hm, mk_del (by omega) (by omega)]; rfl
theorem dl_test {m p i : Nat} : (dl m p).testBit i = (decide (i < 8) && (m.testBit i && !(i == p))) := nmk_test 8
/-- the first of a set -/
def fo (m : Nat) : Nat := if frs (fun p => m.testBit p) 7 = -1 then 7 else (frs (fun p => m.testBit p) 7).toNat
theorem frs_b {P : Nat → Bool} : ∀ n, frs P n = -1 ∨ ∃ k : Nat, k < n ∧ frs P n = k ∧ P k = true ∧ ∀ i, i < k → P i = false := by
  intro n
  induction n with
  | zero => exact Or.inl rfl
  | succ n ih =>
    unfold frs
    rcases ih with h | ⟨k, h1, h2, h3, h4⟩
    · by_cases hp : P n = true
      · rw [if_pos ⟨h, hp⟩]
        refine Or.inr ⟨n, by omega, rfl, hp, fun i hi => ?_⟩
        cases hq : P i
        · rfl
        · exfalso
          -- the first one would have been found
          have : ∀ m, i < m → frs P m ≠ -1 := by
            intro m
            induction m with
            | zero => intro q; omega
            | succ m ihm =>
              intro q
              unfold frs
              split
              · omega
              · rename_i hz
                by_cases e : i = m
                · subst e
                  intro y; exact hz ⟨y, hq⟩
                · exact ihm (by omega)
          exact this n hi h
      · rw [if_neg (fun z => hp z.2)]
        exact Or.inl h
    · rw [h2, if_neg (by omega)]
      exact Or.inr ⟨k, by omega, rfl, h3, h4⟩
theorem fo_b (m : Nat) : fo m ≤ 7 := by
  unfold fo
  rcases frs_b (P := fun p => m.testBit p) 7 with h | ⟨k, h1, h2, -, -⟩
  · rw [if_pos h]; omega
  · rw [h2, if_neg (by omega)]; omega
theorem c11 {w : Wd} {m : Nat} (H : LR w) (hm : m < 256) : F11 m w = rI (fo m) w := by
  have hX := lpX (F := fun k (_ : Unit) => s11_2 m k w) (I := fun k _ => ∀ i, i < k → m.testBit i = false) (Q := fun o => ∃ k : Nat, k < 7 ∧ o = (.inl (some (.inl (k : Int))), w) ∧ m.testBit k = true ∧ ∀ i, i < k → m.testBit i = false) 7 (fun k _ hk e => by
    have hb := bit_n (m := m) (k := k) hm (by omega)
    cases z : m.testBit k
    · refine Or.inl ⟨(), fun o ho => e11_2 H _ ?_, fun i hi => ?_⟩
      · rw [if_neg (by omega), hb, z, if_neg (by simp), wrd (by omega) (by omega)]
        exact ho
      · by_cases y : i = k
        · rw [y]; exact z
        · exact e i (by omega)
    · refine Or.inr ⟨_, e11_2 H _ ?_, k, hk, rfl, z, e⟩
      rw [if_neg (by omega), hb, z, if_pos (by simp)]) () (fun i hi => absurd hi (Nat.not_lt_zero _))
  refine e11 H _ ?_
  unfold fo
  rcases hX with ⟨_, hu, e⟩ | ⟨o, ho, k, hk, hw, hz, e⟩
  · rw [if_pos (frs_no 7 e)]
    exact hu _ (e11_2 H _ (if_pos (by omega)))
  · rw [hw] at ho
    rw [frs_yes (P := fun p => m.testBit p) hz e 7 hk, if_neg (by omega), nn]
    exact ho
/-- by how much two who are together differ; -1: they aren't -/
def df (Q : QT) (s : ST) (p q : Nat) : Int := if ca Q s p 0 = ca Q s q 0 then (if uL s q ≤ uL s p then uL s p - uL s q else uL s q - uL s p) else -1
def jQ (D : Nat → Nat → Int) (W : Row) (m p i : Nat) (a : Int × Int) : Int × Int :=
  if m.testBit (p + 1 + i) = true ∧ D p (p + 1 + i) ≠ -1 ∧ a.1 < W (dl (dl m p) (p + 1 + i)) + 10000 - D p (p + 1 + i) then (W (dl (dl m p) (p + 1 + i)) + 10000 - D p (p + 1 + i), ((p + 1 + i : Nat) : Int)) else a
def jB (D : Nat → Nat → Int) (W : Row) (m p : Nat) : Int × Int := it (jQ D W m p) (7 - p) (-1, -1)
/-- the tables' next row: what a set is worth, whom its first one takes -/
def jS (D : Nat → Nat → Int) (m : Nat) (a : Row × Row) : Row × Row :=
  (va_up a.1 m (max (jB D a.1 m (fo m)).1 (a.1 (dl m (fo m)))), va_up a.2 m (if (jB D a.1 m (fo m)).1 < a.1 (dl m (fo m)) then -1 else (jB D a.1 m (fo m)).2))
def WOK (n : Nat) (D : Nat → Nat → Int) : Prop := ∀ p q, p < n → q < n → -1 ≤ D p q ∧ D p q ≤ 999
/-- the first of a set is in it -/
theorem fo_in {m : Nat} (hm0 : 0 < m) (hm8 : m < 256) : m.testBit (fo m) = true := by
  have h : ∀ m : Nat, m < 256 → 0 < m → m.testBit (fo m) = true := by decide +kernel
  exact h m hm8 hm0
theorem in_lt {m n i : Nat} (hm : m < 2 ^ n) (hi : m.testBit i = true) : i < n := by
  apply Classical.byContradiction
  intro h
  rw [Nat.testBit_lt_two_pow (Nat.lt_of_lt_of_le hm (Nat.pow_le_pow_right (n := 2) (by omega) (show n ≤ i by omega)))] at hi
  cases hi
theorem dl_le : ∀ m, m < 256 → ∀ p, p < 8 → dl m p ≤ m := by decide +kernel
theorem dl_lt : ∀ m, m < 256 → ∀ p, p < 8 → m.testBit p = true → dl m p < m := by decide +kernel
/-- one turn of the inner search, at q -/
theorem c10s {w : Wd} {m p q : Nat} {D : Nat → Nat → Int} {a : Int × Int} {o : Out} (H : LR w) (hm8 : m < 256) (hp : p < 8) (hq : q < 8) (h1 : m.testBit q = true → gI w 468 (8 * p + q) = D p q ∧ -1 ≤ D p q ∧ D p q ≤ 999) (hpin : m.testBit p = true) (hW : ∀ i, i < m → -100000000 ≤ gI w 465 i ∧ gI w 465 i ≤ 100000000)
    (ho : s10_15 464 m p (if m.testBit q = true ∧ D p q ≠ -1 ∧ a.1 < gI w 465 (dl (dl m p) q) + 10000 - D p q then (gI w 465 (dl (dl m p) q) + 10000 - D p q, (q : Int)) else a).1 (if m.testBit q = true ∧ D p q ≠ -1 ∧ a.1 < gI w 465 (dl (dl m p) q) + 10000 - D p q then (gI w 465 (dl (dl m p) q) + 10000 - D p q, (q : Int)) else a).2 ((q : Int) + 1) w = some o) : s10_15 464 m p a.1 a.2 (q : Int) w = some o := by
  have hb := bit_n (m := m) (k := q) hm8 hq
  have ex : wr (wr ((p : Int) * 8) + (q : Int)) = ((8 * p + q : Nat) : Int) := by rw [wrd (z := (p : Int) * 8) (by omega) (by omega), wrd (by omega) (by omega)]; omega
  have ew : wr ((q : Int) + 1) = (q : Int) + 1 := wrd (by omega) (by omega)
  have hdl := dl_b (m := dl m p) (p := q)
  have hWW := hW (dl (dl m p) q) (Nat.lt_of_le_of_lt (dl_le _ dl_b _ hq) (dl_lt _ hm8 _ hp hpin))
  have e1 := dl_eq hm8 hp
  have e2 := dl_eq (dl_b (m := m) (p := p)) hq
  refine e10_15 H (by rfl) _ ?_
  rw [if_neg (by omega), ex, gdi (by omega) (by omega), nn, e1, e2, nn, gdi (by omega) (by omega), ew]
  show (if bAnd (bShr (m : Int) (q : Int)) 1 ≠ 1 then _ else if gI w 468 (8 * p + q) = -1 then _ else if wr (wr (gI w 465 (dl (dl m p) q) + 10000) - gI w 468 (8 * p + q)) ≤ a.1 then _ else s10_15 464 m p (wr (wr (gI w 465 (dl (dl m p) q) + 10000) - gI w 468 (8 * p + q))) _ _ w) = _
  by_cases z1 : m.testBit q = true
  · obtain ⟨d1, d2, d3⟩ := h1 z1
    rw [z1, if_pos rfl] at hb
    rw [hb, if_neg (by omega), d1]
    have ev : wr (wr (gI w 465 (dl (dl m p) q) + 10000) - D p q) = gI w 465 (dl (dl m p) q) + 10000 - D p q := by rw [wrd (z := gI w 465 (dl (dl m p) q) + 10000) (by omega) (by omega), wrd (by omega) (by omega)]
    rw [ev]
    by_cases z2 : D p q = -1
    · rw [if_pos z2]
      rw [if_neg (fun y => y.2.1 z2)] at ho
      exact ho
    · rw [if_neg z2]
      by_cases z3 : a.1 < gI w 465 (dl (dl m p) q) + 10000 - D p q
      · rw [if_neg (by omega)]
        rw [if_pos ⟨z1, z2, z3⟩] at ho
        exact ho
      · rw [if_pos (by omega)]
        rw [if_neg (fun y => z3 y.2.2)] at ho
        exact ho
  · rw [if_neg z1] at hb
    rw [hb, if_pos (by omega)]
    rw [if_neg (fun y => z1 y.1)] at ho
    exact ho
