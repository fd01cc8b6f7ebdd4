/-! the class's answers: couples -/
/-- a set without one -/
def dl (m p : Nat) : Nat := nmk (fun i => m.testBit i && !(i == p)) 8
theorem dl_b {m p : Nat} : dl m p < 256 := nmk_256
theorem dl_eq {m p : Nat} (hm : m < 256) (hp : p < 8) : bAnd (m : Int) (bXor (bShl 1 p) (-1)) = (dl m p : Int) := by
  rw [mk_self hm, mk_del (by omega) (by omega)]; rfl
theorem dl_test {m p i : Nat} : (dl m p).testBit i = (decide (i < 8) && (m.testBit i && !(i == p))) := nmk_test 8
/-- the first of a set -/
def fo (m : Nat) : Nat := if frs (fun p => m.testBit p) 7 = -1 then 7 else (frs (fun p => m.testBit p) 7).toNat
theorem frs_b {P : Nat → Bool} : ∀ n, frs P n = -1 ∨ ∃ k : Nat, k < n ∧ frs P n = k ∧ P k = true ∧ ∀ i, i < k → P i = false := by
  intro n
  induction n with
  | zero => exact Or.inl rfl
  | succ n ih =>
    unfold frs
    rcases ih with h | ⟨k, h1, h2, h3, h4⟩
    · by_cases hp : P n = true
      · rw [if_pos ⟨h, hp⟩]
        refine Or.inr ⟨n, by omega, rfl, hp, fun i hi => ?_⟩
        cases hq : P i
        · rfl
        · exfalso
          -- the first one would have been found
          have : ∀ m, i < m → frs P m ≠ -1 := by
            intro m
            induction m with
            | zero => intro q; omega
            | succ m ihm =>
              intro q
              unfold frs
              split
              · omega
              · rename_i hz
                by_cases e : i = m
                · subst e
                  intro y; exact hz ⟨y, hq⟩
                · exact ihm (by omega)
          exact this n hi h
      · rw [if_neg (fun z => hp z.2)]
        exact Or.inl h
    · rw [h2, if_neg (by omega)]
      exact Or.inr ⟨k, by omega, rfl, h3, h4⟩
theorem fo_b (m : Nat) : fo m ≤ 7 := by
  unfold fo
  rcases frs_b (P := fun p => m.testBit p) 7 with h | ⟨k, h1, h2, -, -⟩
  · rw [if_pos h]; omega
  · rw [h2, if_neg (by omega)]; omega
theorem c11 {w : Wd} {m : Nat} (H : LR w) (hm : m < 256) : F11 m w = rI (fo m) w := by
  have hX := lpX (F := fun k (_ : Unit) => s11_2 m k w) (I := fun k _ => ∀ i, i < k → m.testBit i = false) (Q := fun o => ∃ k : Nat, k < 7 ∧ o = (.inl (some (.inl (k : Int))), w) ∧ m.testBit k = true ∧ ∀ i, i < k → m.testBit i = false) 7 (fun k _ hk e => by
    have hb := bit_n (m := m) (k := k) hm (by omega)
    cases z : m.testBit k
    · refine Or.inl ⟨(), fun o ho => e11_2 H _ ?_, fun i hi => ?_⟩
      · rw [if_neg (by omega), hb, z, if_neg (by simp), wrd (by omega) (by omega)]
        exact ho
      · by_cases y : i = k
        · rw [y]; exact z
        · exact e i (by omega)
    · refine Or.inr ⟨_, e11_2 H _ ?_, k, hk, rfl, z, e⟩
      rw [if_neg (by omega), hb, z, if_pos (by simp)]) () (fun i hi => absurd hi (Nat.not_lt_zero _))
  refine e11 H _ ?_
  unfold fo
  rcases hX with ⟨_, hu, e⟩ | ⟨o, ho, k, hk, hw, hz, e⟩
  · rw [if_pos (frs_no 7 e)]
    exact hu _ (e11_2 H _ (if_pos (by omega)))
  · rw [hw] at ho
    rw [frs_yes (P := fun p => m.testBit p) hz e 7 hk, if_neg (by omega), nn]
    exact ho
/-- by how much two who are together differ; -1: they aren't -/
def df (Q : QT) (s : ST) (p q : Nat) : Int := if ca Q s p 0 = ca Q s q 0 then (if uL s q ≤ uL s p then uL s p - uL s q else uL s q - uL s p) else -1
def jQ (D : Nat → Nat → Int) (W : Row) (m p i : Nat) (a : Int × Int) : Int × Int :=
  if m.testBit (p + 1 + i) = true ∧ D p (p + 1 + i) ≠ -1 ∧ a.1 < W (dl (dl m p) (p + 1 + i)) + 10000 - D p (p + 1 + i) then (W (dl (dl m p) (p + 1 + i)) + 10000 - D p (p + 1 + i), ((p + 1 + i : Nat) : Int)) else a
def jB (D : Nat → Nat → Int) (W : Row) (m p : Nat) : Int × Int := it (jQ D W m p) (7 - p) (-1, -1)
/-- the tables' next row: what a set is worth, whom its first one takes -/
def jS (D : Nat → Nat → Int) (m : Nat) (a : Row × Row) : Row × Row :=
  (va_up a.1 m (max (jB D a.1 m (fo m)).1 (a.1 (dl m (fo m)))), va_up a.2 m (if (jB D a.1 m (fo m)).1 < a.1 (dl m (fo m)) then -1 else (jB D a.1 m (fo m)).2))
def WOK (n : Nat) (D : Nat → Nat → Int) : Prop := ∀ p q, p < n → q < n → -1 ≤ D p q ∧ D p q ≤ 999
theorem c10 {w : Wd} {m n : Nat} {D : Nat → Nat → Int} (H : LR w) (hm : 0 < m ∧ m < 2 ^ n) (hn : n ≤ 8) (hD : ∀ p q, p < n → q < n → gI w 468 (8 * p + q) = D p q) (hO : WOK n D) (hW : ∀ i, i < 256 → -1000000 ≤ gI w 465 i ∧ gI w 465 i ≤ 1000000) :
    ∃ w', F10 464 m w = r0 w' ∧ FrI (fun b => b = 465 ∨ b = 466) w w' ∧ gI w' 465 = (jS D m (gI w 465, gI w 466)).1 ∧ gI w' 466 = (jS D m (gI w 465, gI w 466)).2 := by
  have hm8 : m < 256 := Nat.lt_of_lt_of_le hm.2 (Nat.pow_le_pow_right (n := 2) (by omega) hn)
  have hin : ∀ i, m.testBit i = true → i < n := fun i hi => by
    apply Classical.byContradiction
    intro h
    rw [Nat.testBit_lt_two_pow (Nat.lt_of_lt_of_le hm.2 (Nat.pow_le_pow_right (n := 2) (by omega) (show n ≤ i by omega)))] at hi
    cases hi
  have hp := fo_b m
  -- the first one is in the set
  have hpin : m.testBit (fo m) = true := by
    unfold fo
    rcases frs_b (P := fun p => m.testBit p) 7 with h | ⟨k, h1, h2, h3, -⟩
    · rw [if_pos h]
      cases h7 : m.testBit 7
      · exfalso
        have h0 : ∀ i, m.testBit i = false := fun i => by
          by_cases i7 : i < 7
          · cases hi : m.testBit i
            · rfl
            · exfalso
              have : frs (fun p => m.testBit p) 7 ≠ -1 := by
                rcases Nat.lt_or_ge i 7 with q | q
                · intro y
                  have hno := frs_no (P := fun p => m.testBit p)
                  clear hno
                  have : ∀ j, i < j → frs (fun p => m.testBit p) j ≠ -1 := by
                    intro j
                    induction j with
                    | zero => intro q; omega
                    | succ j ihj =>
                      intro q
                      unfold frs
                      split
                      · omega
                      · rename_i hz
                        by_cases e : i = j
                        · subst e
                          intro y; exact hz ⟨y, hi⟩
                        · exact ihj (by omega)
                  exact this 7 q y
                · omega
              exact this h
          · by_cases i8 : i = 7
            · rw [i8]; exact h7
            · exact Nat.testBit_lt_two_pow (Nat.lt_of_lt_of_le hm8 (Nat.pow_le_pow_right (n := 2) (by omega) (show 8 ≤ i by omega)))
        have : m = 0 := Nat.eq_of_testBit_eq (fun i => by rw [h0 i]; simp)
        omega
      · rfl
    · rw [h2, if_neg (by omega), nn]; exact h3
  have hpn := hin _ hpin
  generalize hfo : fo m = p at *
  obtain ⟨a, ha, e⟩ := lpR (F := fun i a => s10_15 464 m p a.1 a.2 (((p + 1 : Nat) : Int) + i) w) (I := fun i a => a = it (jQ D (gI w 465) m p) i (-1, -1) ∧ -1 ≤ a.1 ∧ a.1 ≤ 1100000) (7 - p) (fun i a hi e => by
    obtain ⟨e1, e2, e3⟩ := e
    have es : it (jQ D (gI w 465) m p) (i + 1) (-1, -1) = jQ D (gI w 465) m p i a := by rw [e1]; rfl
    have ec : ((p + 1 : Nat) : Int) + (i : Nat) = ((p + 1 + i : Nat) : Int) := by omega
    have ed : ((p + 1 : Nat) : Int) + ((i + 1 : Nat) : Int) = ((p + 1 + i : Nat) : Int) + 1 := by omega
    have hb := bit_n (m := m) (k := p + 1 + i) hm8 (by omega)
    have ex : wr (wr ((p : Int) * 8) + ((p + 1 + i : Nat) : Int)) = ((8 * p + (p + 1 + i) : Nat) : Int) := by rw [wrd (z := (p : Int) * 8) (by omega) (by omega), wrd (by omega) (by omega)]; omega
    have ew : wr (((p + 1 + i : Nat) : Int) + 1) = ((p + 1 + i : Nat) : Int) + 1 := wrd (by omega) (by omega)
    have hdl := dl_b (m := dl m p) (p := p + 1 + i)
    have pre : ∀ {o : Out}, (if bAnd (bShr (m : Int) ((p + 1 + i : Nat) : Int)) 1 ≠ 1 then s10_15 464 m p a.1 a.2 (((p + 1 + i : Nat) : Int) + 1) w else if gI w 468 (8 * p + (p + 1 + i)) = -1 then s10_15 464 m p a.1 a.2 (((p + 1 + i : Nat) : Int) + 1) w else if wr (wr (gI w 465 (dl (dl m p) (p + 1 + i)) + 10000) - gI w 468 (8 * p + (p + 1 + i))) ≤ a.1 then s10_15 464 m p a.1 a.2 (((p + 1 + i : Nat) : Int) + 1) w else s10_15 464 m p (wr (wr (gI w 465 (dl (dl m p) (p + 1 + i)) + 10000) - gI w 468 (8 * p + (p + 1 + i)))) ((p + 1 + i : Nat) : Int) (((p + 1 + i : Nat) : Int) + 1) w) = some o → s10_15 464 m p a.1 a.2 ((p + 1 + i : Nat) : Int) w = some o := by
      intro o ho
      refine e10_15 H (by rfl) _ ?_
      rw [if_neg (by omega), ex, gdi (by omega) (by omega), nn, dl_eq hm8 (show p < 8 by omega), dl_eq dl_b (show p + 1 + i < 8 by omega), nn, gdi (by omega) (by omega), ew]
      exact ho
    by_cases z1 : m.testBit (p + 1 + i) = true
    · have hq := hin _ z1
      have hDD := hD p (p + 1 + i) hpn hq
      have hOO := hO p (p + 1 + i) hpn hq
      have hWW := hW _ hdl
      rw [z1, if_pos rfl] at hb
      by_cases z2 : D p (p + 1 + i) = -1
      · refine ⟨a, fun o ho => ?_, by rw [es]; unfold jQ; rw [if_neg (fun y => y.2.1 z2)], e2, e3⟩
        show s10_15 464 m p a.1 a.2 (((p + 1 : Nat) : Int) + (i : Nat)) w = some o
        rw [ec]
        refine pre ?_
        rw [hb, if_neg (by omega), hDD, if_pos z2]
        rw [ed] at ho
        exact ho
      · have ev : wr (wr (gI w 465 (dl (dl m p) (p + 1 + i)) + 10000) - D p (p + 1 + i)) = gI w 465 (dl (dl m p) (p + 1 + i)) + 10000 - D p (p + 1 + i) := by rw [wrd (z := gI w 465 (dl (dl m p) (p + 1 + i)) + 10000) (by omega) (by omega), wrd (by omega) (by omega)]
        by_cases z3 : a.1 < gI w 465 (dl (dl m p) (p + 1 + i)) + 10000 - D p (p + 1 + i)
        · refine ⟨(gI w 465 (dl (dl m p) (p + 1 + i)) + 10000 - D p (p + 1 + i), ((p + 1 + i : Nat) : Int)), fun o ho => ?_, by rw [es]; unfold jQ; rw [if_pos ⟨z1, z2, z3⟩], by show (-1 : Int) ≤ gI w 465 (dl (dl m p) (p + 1 + i)) + 10000 - D p (p + 1 + i); omega, by show gI w 465 (dl (dl m p) (p + 1 + i)) + 10000 - D p (p + 1 + i) ≤ 1100000; omega⟩
          show s10_15 464 m p a.1 a.2 (((p + 1 : Nat) : Int) + (i : Nat)) w = some o
          rw [ec]
          refine pre ?_
          rw [hb, if_neg (by omega), hDD, if_neg z2, ev, if_neg (by omega)]
          rw [ed] at ho
          exact ho
        · refine ⟨a, fun o ho => ?_, by rw [es]; unfold jQ; rw [if_neg (fun y => z3 y.2.2)], e2, e3⟩
          show s10_15 464 m p a.1 a.2 (((p + 1 : Nat) : Int) + (i : Nat)) w = some o
          rw [ec]
          refine pre ?_
          rw [hb, if_neg (by omega), hDD, if_neg z2, ev, if_pos (by omega)]
          rw [ed] at ho
          exact ho
    · rw [if_neg z1] at hb
      refine ⟨a, fun o ho => ?_, by rw [es]; unfold jQ; rw [if_neg (fun y => z1 y.1)], e2, e3⟩
      show s10_15 464 m p a.1 a.2 (((p + 1 : Nat) : Int) + (i : Nat)) w = some o
      rw [ec]
      refine pre ?_
      rw [hb, if_pos (by omega)]
      rw [ed] at ho
      exact ho) (-1, -1) ⟨rfl, by show (-1 : Int) ≤ -1; omega, by show (-1 : Int) ≤ 1100000; omega⟩
  obtain ⟨e1, e2, e3⟩ := e
  have eB : jB D (gI w 465) m p = a := e1.symm
  have hdl := dl_b (m := m) (p := p)
  refine ⟨pI (pI w 465 m (max a.1 (gI w 465 (dl m p)))) 466 m (if a.1 < gI w 465 (dl m p) then -1 else a.2), e10 H (by rfl) _ ?_, (FrI.p (by omega)).pp (by omega), ?_, ?_⟩
  · rw [c11 H hm8, bI_r H, hfo, wrd (z := (p : Int) + 1) (by omega) (by omega)]
    have h0 : ((p : Int) + 1) = ((p + 1 : Nat) : Int) + 0 := by omega
    rw [h0]
    refine ha _ (e10_15 H (by rfl) _ ?_)
    rw [if_pos (by omega), dl_eq hm8 (by omega), nn, gdi (by omega) (by omega), q325 H, bI_r H, gdi (by omega) (by omega), gdi (by omega) (by omega), gdi (by omega) (by omega)]
    by_cases z : a.1 < gI w 465 (dl m p)
    · rw [if_neg (by show ¬ gI w (464 + 1) (dl m p) ≤ a.1; show ¬ gI w 465 (dl m p) ≤ a.1; omega), if_pos z]; rfl
    · rw [if_pos (by show gI w 465 (dl m p) ≤ a.1; omega), if_neg z]; rfl
  · rw [gI_r (by omega), gI_p]
    unfold jS
    rw [hfo, eB]
  · rw [gI_p, gI_r (by omega)]
    unfold jS
    rw [hfo, eB]
