/-! couples: the least there is, and the most; the reference's table beside the class's -/
theorem fo_out : ∀ m : Nat, m < 256 → ∀ i, i < 8 → i < fo m → m.testBit i = false := by decide +kernel
theorem tb_dl : ∀ m : Nat, m < 256 → ∀ p, p < 8 → m.testBit p = true → tbN (dl m p) + 1 = tbN m := by decide +kernel
theorem tb_0 : ∀ m : Nat, m < 256 → tbN m = 0 → m = 0 := by decide +kernel
theorem tb_8 (m : Nat) : tbN m ≤ 8 := cn_le 8
/-- so many couples, so much they differ -/
def Lk (c : Nat) (W L : Int) : Prop := ∃ P F : Int, 0 ≤ P ∧ 2 * P ≤ c ∧ 0 ≤ F ∧ F ≤ 999 * P ∧ W = 10000 * P - F ∧ L = 100000 * c - 200000 * P + F
theorem Lk.lt {c : Nat} {W L W' L' : Int} (hc : c ≤ 8) (h : Lk c W L) (h' : Lk c W' L') : W < W' ↔ L' < L := by
  obtain ⟨P, F, h1, h2, h3, h4, h5, h6⟩ := h
  obtain ⟨P', F', g1, g2, g3, g4, g5, g6⟩ := h'
  constructor <;> intro q <;> omega
theorem Lk.b {c : Nat} {W L : Int} (hc : c ≤ 8) (h : Lk c W L) : 0 ≤ W ∧ W ≤ 40000 ∧ 0 ≤ L ∧ L ≤ 810000 := by
  obtain ⟨P, F, h1, h2, h3, h4, h5, h6⟩ := h
  omega
/-- what the reference works out for a set, at its i-th turn -/
def lQ (D : Nat → Nat → Int) (L : Row) (m p i : Nat) (a : Int) : Int := if m.testBit (p + 1 + i) = true ∧ D p (p + 1 + i) ≠ -1 then min a (D p (p + 1 + i) + L (dl (dl m p) (p + 1 + i))) else a
def lB (D : Nat → Nat → Int) (L : Row) (m p k : Nat) : Int := it (lQ D L m p) k (100000 + L (dl m p))
theorem lB_s {D : Nat → Nat → Int} {L : Row} {m p k : Nat} : lB D L m p (k + 1) = if m.testBit (p + 1 + k) = true ∧ D p (p + 1 + k) ≠ -1 then min (lB D L m p k) (D p (p + 1 + k) + L (dl (dl m p) (p + 1 + k))) else lB D L m p k := rfl
theorem jBs {D : Nat → Nat → Int} {W : Row} {m p k : Nat} : it (jQ D W m p) (k + 1) (-1, -1) = if m.testBit (p + 1 + k) = true ∧ D p (p + 1 + k) ≠ -1 ∧ (it (jQ D W m p) k (-1, -1)).1 < W (dl (dl m p) (p + 1 + k)) + 10000 - D p (p + 1 + k) then (W (dl (dl m p) (p + 1 + k)) + 10000 - D p (p + 1 + k), ((p + 1 + k : Nat) : Int)) else it (jQ D W m p) k (-1, -1) := rfl
theorem dl2_lt {m p q : Nat} (hm : m < 256) (hp : p < 8) (hq : q < 8) (hpi : m.testBit p = true) (hqi : m.testBit q = true) (hne : q ≠ p) : dl (dl m p) q < m ∧ tbN (dl (dl m p) q) + 2 = tbN m := by
  have h1 := tb_dl m hm p hp hpi
  have h2 : (dl m p).testBit q = true := by rw [dl_test]; simp [hq, hqi, hne]
  have h3 := tb_dl (dl m p) dl_b q hq h2
  have h4 := dl_lt m hm p hp hpi
  have h5 := dl_le (dl m p) dl_b q hq
  omega
/-- the turns of both searches, beside each other -/
theorem jl_k {D : Nat → Nat → Int} {W L : Row} {m p : Nat} (hD : ∀ q, q < 8 → -1 ≤ D p q ∧ D p q ≤ 999) (hm : m < 256) (hp : p < 8) (hpi : m.testBit p = true) (hL : ∀ i, i < m → Lk (tbN i) (W i) (L i)) :
    ∀ k, k ≤ 7 - p → ((it (jQ D W m p) k (-1, -1) = (-1, -1) ∧ lB D L m p k = 100000 + L (dl m p) ∧ ∀ q, p < q → q < p + 1 + k → m.testBit q = true → D p q = -1) ∨
      ∃ q, p < q ∧ q < p + 1 + k ∧ m.testBit q = true ∧ D p q ≠ -1 ∧ it (jQ D W m p) k (-1, -1) = (W (dl (dl m p) q) + 10000 - D p q, (q : Int)) ∧ Lk (tbN m) (W (dl (dl m p) q) + 10000 - D p q) (D p q + L (dl (dl m p) q)) ∧ lB D L m p k = min (100000 + L (dl m p)) (D p q + L (dl (dl m p) q)) ∧
        ∀ r, p < r → r < p + 1 + k → m.testBit r = true → D p r ≠ -1 → D p q + L (dl (dl m p) q) ≤ D p r + L (dl (dl m p) r) ∧ (r < q → D p q + L (dl (dl m p) q) < D p r + L (dl (dl m p) r))) := by
  intro k
  induction k with
  | zero => intro _; exact Or.inl ⟨rfl, rfl, fun q h1 h2 => absurd h2 (by omega)⟩
  | succ k ih =>
    intro hk
    have h8 := tb_8 m
    have hk8 : p + 1 + k < 8 := by omega
    have hkn : p + 1 + k ≠ p := by omega
    have hdk := hD (p + 1 + k) hk8
    have ih' := ih (by omega)
    by_cases c1 : m.testBit (p + 1 + k) = true ∧ D p (p + 1 + k) ≠ -1
    · obtain ⟨c1, c2⟩ := c1
      obtain ⟨d1, d2⟩ := dl2_lt hm hp hk8 hpi c1 hkn
      have hd := hdk
      have lk := hL _ d1
      have lkn : Lk (tbN m) (W (dl (dl m p) (p + 1 + k)) + 10000 - D p (p + 1 + k)) (D p (p + 1 + k) + L (dl (dl m p) (p + 1 + k))) := by
        obtain ⟨P, F, h1, h2, h3, h4, h5, h6⟩ := lk
        refine ⟨P + 1, F + D p (p + 1 + k), by omega, by omega, by omega, by omega, by omega, by omega⟩
      rcases ih' with ⟨e1, e2, e3⟩ | ⟨q, q1, q2, q3, q4, q5, q6, q7, q8⟩
      · have hb := Lk.b h8 lkn
        refine Or.inr ⟨p + 1 + k, by omega, by omega, c1, c2, ?_, lkn, ?_, fun r r1 r2 r3 r4 => ?_⟩
        · rw [jBs, e1, if_pos ⟨c1, c2, by show (-1 : Int) < _; omega⟩]
        · rw [lB_s, if_pos ⟨c1, c2⟩, e2]
        · by_cases z : r = p + 1 + k
          · subst z; exact ⟨Int.le_refl _, fun y => absurd y (Nat.lt_irrefl _)⟩
          · exact absurd (e3 r r1 (by omega) r3) r4
      · have hc := Lk.lt h8 q6 lkn
        by_cases z : W (dl (dl m p) q) + 10000 - D p q < W (dl (dl m p) (p + 1 + k)) + 10000 - D p (p + 1 + k)
        · have zl := hc.mp z
          refine Or.inr ⟨p + 1 + k, by omega, by omega, c1, c2, ?_, lkn, ?_, fun r r1 r2 r3 r4 => ?_⟩
          · rw [jBs, q5, if_pos ⟨c1, c2, z⟩]
          · rw [lB_s, if_pos ⟨c1, c2⟩, q7]; omega
          · by_cases y : r = p + 1 + k
            · subst y; exact ⟨Int.le_refl _, fun y => absurd y (Nat.lt_irrefl _)⟩
            · have := (q8 r r1 (by omega) r3 r4).1
              exact ⟨by omega, fun _ => by omega⟩
        · have zl : ¬ D p (p + 1 + k) + L (dl (dl m p) (p + 1 + k)) < D p q + L (dl (dl m p) q) := fun y => z (hc.mpr y)
          refine Or.inr ⟨q, q1, by omega, q3, q4, ?_, q6, ?_, fun r r1 r2 r3 r4 => ?_⟩
          · rw [jBs, if_neg (by rw [q5]; exact fun y => z y.2.2), q5]
          · rw [lB_s, if_pos ⟨c1, c2⟩, q7]; omega
          · by_cases y : r = p + 1 + k
            · subst y; exact ⟨by omega, fun _ => by omega⟩
            · exact q8 r r1 (by omega) r3 r4
    · have e1 : it (jQ D W m p) (k + 1) (-1, -1) = it (jQ D W m p) k (-1, -1) := by rw [jBs, if_neg (fun y => c1 ⟨y.1, y.2.1⟩)]
      have e2 : lB D L m p (k + 1) = lB D L m p k := by rw [lB_s, if_neg c1]
      rw [e1, e2]
      rcases ih' with ⟨g1, g2, g3⟩ | ⟨q, q1, q2, q3, q4, q5, q6, q7, q8⟩
      · refine Or.inl ⟨g1, g2, fun q h1 h2 h3 => ?_⟩
        by_cases z : q = p + 1 + k
        · subst z
          apply Classical.byContradiction
          intro hn
          exact c1 ⟨h3, hn⟩
        · exact g3 q h1 (by omega) h3
      · refine Or.inr ⟨q, q1, by omega, q3, q4, q5, q6, q7, fun r r1 r2 r3 r4 => ?_⟩
        by_cases z : r = p + 1 + k
        · subst z; exact absurd ⟨r3, r4⟩ c1
        · exact q8 r r1 (by omega) r3 r4
/-- the class's table, as equations -/
def WT (D : Nat → Nat → Int) (W T : Row) (K : Nat) : Prop := W 0 = 0 ∧ ∀ m, 0 < m → m < K → W m = max (jB D W m (fo m)).1 (W (dl m (fo m))) ∧ T m = if (jB D W m (fo m)).1 < W (dl m (fo m)) then -1 else (jB D W m (fo m)).2
theorem jT_old {D : Nat → Nat → Int} : ∀ (k j : Nat), (Tn D (k + j)).1 k = (Tn D k).1 k ∧ (Tn D (k + j)).2 k = (Tn D k).2 k ∧ ∀ i, i ≤ k → (Tn D (k + j)).1 i = (Tn D k).1 i := by
  intro k j
  induction j with
  | zero => exact ⟨rfl, rfl, fun _ _ => rfl⟩
  | succ j ih =>
    have e1 : (Tn D (k + j + 1)).1 = va_up (Tn D (k + j)).1 (k + j + 1) (max (jB D (Tn D (k + j)).1 (k + j + 1) (fo (k + j + 1))).1 ((Tn D (k + j)).1 (dl (k + j + 1) (fo (k + j + 1))))) := rfl
    have e2 : (Tn D (k + j + 1)).2 = va_up (Tn D (k + j)).2 (k + j + 1) (if (jB D (Tn D (k + j)).1 (k + j + 1) (fo (k + j + 1))).1 < (Tn D (k + j)).1 (dl (k + j + 1) (fo (k + j + 1))) then -1 else (jB D (Tn D (k + j)).1 (k + j + 1) (fo (k + j + 1))).2) := rfl
    rw [← Nat.add_assoc, e1, e2]
    refine ⟨by rw [up_c (by omega)]; exact ih.1, by rw [up_c (by omega)]; exact ih.2.1, fun i hi => by rw [up_c (by omega)]; exact ih.2.2 i hi⟩
theorem WT_Tn {D : Nat → Nat → Int} {N : Nat} (hN : N < 256) : WT D (Tn D N).1 (Tn D N).2 (N + 1) := by
  refine ⟨?_, fun m h0 hm => ?_⟩
  · have := (jT_old (D := D) 0 N).1
    rw [Nat.zero_add] at this
    rw [this]; rfl
  · obtain ⟨j, hj⟩ : ∃ j, N = m + j := ⟨N - m, by omega⟩
    obtain ⟨k, hk⟩ : ∃ k, m = k + 1 := ⟨m - 1, by omega⟩
    have o1 := jT_old (D := D) m j
    have o2 := jT_old (D := D) k 1
    have hf := fo_b m
    have hfi := fo_in h0 (show m < 256 by omega)
    have ag : ∀ i, i < m → (Tn D N).1 i = (Tn D k).1 i := fun i hi => by
      rw [hj, o1.2.2 i (by omega), hk, o2.2.2 i (by omega)]
    have ej : jB D (Tn D N).1 m (fo m) = jB D (Tn D k).1 m (fo m) := jB_ag (by omega) (by omega) hfi ag _ (Nat.le_refl _)
    have ed := ag (dl m (fo m)) (dl_lt m (by omega) (fo m) (by omega) hfi)
    have e1 : (Tn D (k + 1)).1 = va_up (Tn D k).1 (k + 1) (max (jB D (Tn D k).1 (k + 1) (fo (k + 1))).1 ((Tn D k).1 (dl (k + 1) (fo (k + 1))))) := rfl
    have e2 : (Tn D (k + 1)).2 = va_up (Tn D k).2 (k + 1) (if (jB D (Tn D k).1 (k + 1) (fo (k + 1))).1 < (Tn D k).1 (dl (k + 1) (fo (k + 1))) then -1 else (jB D (Tn D k).1 (k + 1) (fo (k + 1))).2) := rfl
    have q1 : (Tn D N).1 m = (Tn D m).1 m := by rw [hj]; exact o1.1
    have q2 : (Tn D N).2 m = (Tn D m).2 m := by rw [hj]; exact o1.2.1
    rw [q1, q2, ej, ed]
    rw [← hk] at e1 e2
    rw [e1, e2, up_s, up_s]
    exact ⟨rfl, rfl⟩
/-- the reference's table, as equations -/
def LTb (D : Nat → Nat → Int) (L : Row) (K : Nat) : Prop := L 0 = 0 ∧ ∀ m, 0 < m → m < K → L m = lB D L m (fo m) (7 - fo m)
theorem Lk_all {D : Nat → Nat → Int} {W T L : Row} {K : Nat} (hD : ∀ p q, p < 8 → q < 8 → -1 ≤ D p q ∧ D p q ≤ 999) (hK : K ≤ 256) (hW : WT D W T K) (hL : LTb D L K) : ∀ m, m < K → Lk (tbN m) (W m) (L m) := by
  intro m
  induction m using Nat.strongRecOn with
  | _ m ih =>
    intro hm
    by_cases z : m = 0
    · subst z
      rw [hW.1, hL.1]
      exact ⟨0, 0, by omega, by omega, by omega, by omega, by omega, by decide⟩
    · have h0 : 0 < m := by omega
      obtain ⟨w1, w2⟩ := hW.2 m h0 hm
      have l1 := hL.2 m h0 hm
      have hf := fo_b m
      have hfi := fo_in h0 (show m < 256 by omega)
      have hd := dl_lt m (by omega) (fo m) (by omega) hfi
      have ht := tb_dl m (by omega) (fo m) (by omega) hfi
      have h8 := tb_8 m
      have lr : Lk (tbN m) (W (dl m (fo m))) (100000 + L (dl m (fo m))) := by
        obtain ⟨P, F, h1, h2, h3, h4, h5, h6⟩ := ih _ hd (by omega)
        exact ⟨P, F, h1, by omega, h3, h4, h5, by omega⟩
      have hb := Lk.b h8 lr
      rw [w1, l1]
      show Lk (tbN m) (max (it (jQ D W m (fo m)) (7 - fo m) (-1, -1)).1 (W (dl m (fo m)))) (lB D L m (fo m) (7 - fo m))
      rcases jl_k (D := D) (W := W) (L := L) (m := m) (p := fo m) (fun q hq => hD _ q (by omega) hq) (by omega) (by omega) hfi (fun i hi => ih i hi (by omega)) (7 - fo m) (Nat.le_refl _) with ⟨e1, e2, e3⟩ | ⟨q, q1, q2, q3, q4, q5, q6, q7, q8⟩
      · rw [e1, e2, show max ((-1, -1) : Int × Int).1 (W (dl m (fo m))) = W (dl m (fo m)) by show max (-1 : Int) _ = _; omega]
        exact lr
      · rw [q5, q7]
        have hc := Lk.lt h8 lr q6
        have hc2 := Lk.lt h8 q6 lr
        show Lk (tbN m) (max (W (dl (dl m (fo m)) q) + 10000 - D (fo m) q) (W (dl m (fo m)))) (min (100000 + L (dl m (fo m))) (D (fo m) q + L (dl (dl m (fo m)) q)))
        by_cases y : W (dl m (fo m)) < W (dl (dl m (fo m)) q) + 10000 - D (fo m) q
        · have yl := hc.mp y
          rw [show max (W (dl (dl m (fo m)) q) + 10000 - D (fo m) q) (W (dl m (fo m))) = W (dl (dl m (fo m)) q) + 10000 - D (fo m) q by omega, show min (100000 + L (dl m (fo m))) (D (fo m) q + L (dl (dl m (fo m)) q)) = D (fo m) q + L (dl (dl m (fo m)) q) by omega]
          exact q6
        · have yl : ¬ D (fo m) q + L (dl (dl m (fo m)) q) < 100000 + L (dl m (fo m)) := fun v => y (hc.mpr v)
          rw [show max (W (dl (dl m (fo m)) q) + 10000 - D (fo m) q) (W (dl m (fo m))) = W (dl m (fo m)) by omega, show min (100000 + L (dl m (fo m))) (D (fo m) q + L (dl (dl m (fo m)) q)) = 100000 + L (dl m (fo m)) by omega]
          exact lr
/-- whom the first of a set takes: the least that makes the least -/
theorem take_L {D : Nat → Nat → Int} {W T L : Row} {K m : Nat} (hD : ∀ p q, p < 8 → q < 8 → -1 ≤ D p q ∧ D p q ≤ 999) (hK : K ≤ 256) (hW : WT D W T K) (hL : LTb D L K) (h0 : 0 < m) (hm : m < K) :
    (T m = -1 ∧ W m = W (dl m (fo m)) ∧ ∀ r, fo m < r → r < 8 → m.testBit r = true → D (fo m) r ≠ -1 → D (fo m) r + L (dl (dl m (fo m)) r) ≠ L m) ∨
    ∃ q : Nat, T m = q ∧ fo m < q ∧ q < 8 ∧ m.testBit q = true ∧ D (fo m) q ≠ -1 ∧ W m = W (dl (dl m (fo m)) q) + 10000 - D (fo m) q ∧ D (fo m) q + L (dl (dl m (fo m)) q) = L m ∧ ∀ r, fo m < r → r < q → m.testBit r = true → D (fo m) r ≠ -1 → D (fo m) r + L (dl (dl m (fo m)) r) ≠ L m := by
  have ih := Lk_all hD hK hW hL
  obtain ⟨w1, w2⟩ := hW.2 m h0 hm
  have l1 := hL.2 m h0 hm
  have hf := fo_b m
  have hfi := fo_in h0 (show m < 256 by omega)
  have hd := dl_lt m (by omega) (fo m) (by omega) hfi
  have ht := tb_dl m (by omega) (fo m) (by omega) hfi
  have h8 := tb_8 m
  have lr : Lk (tbN m) (W (dl m (fo m))) (100000 + L (dl m (fo m))) := by
    obtain ⟨P, F, h1, h2, h3, h4, h5, h6⟩ := ih _ (Nat.lt_trans hd hm)
    exact ⟨P, F, h1, by omega, h3, h4, h5, by omega⟩
  have hb := Lk.b h8 lr
  have ej : jB D W m (fo m) = it (jQ D W m (fo m)) (7 - fo m) (-1, -1) := rfl
  rw [ej] at w1 w2
  rw [l1]
  rcases jl_k (D := D) (W := W) (L := L) (m := m) (p := fo m) (fun q hq => hD _ q (by omega) hq) (by omega) (by omega) hfi (fun i hi => ih i (Nat.lt_trans hi hm)) (7 - fo m) (Nat.le_refl _) with ⟨e1, e2, e3⟩ | ⟨q, q1, q2, q3, q4, q5, q6, q7, q8⟩
  · rw [e1] at w1 w2
    rw [if_pos (show ((-1, -1) : Int × Int).1 < W (dl m (fo m)) by show (-1 : Int) < _; omega)] at w2
    have w1' : W m = max (-1) (W (dl m (fo m))) := w1
    exact Or.inl ⟨w2, by omega, fun r r1 r2 r3 r4 => absurd (e3 r r1 (by omega) r3) r4⟩
  · rw [q5] at w1 w2
    have w1' : W m = max (W (dl (dl m (fo m)) q) + 10000 - D (fo m) q) (W (dl m (fo m))) := w1
    have w2' : T m = if W (dl (dl m (fo m)) q) + 10000 - D (fo m) q < W (dl m (fo m)) then -1 else (q : Int) := w2
    have hc := Lk.lt h8 q6 lr
    by_cases y : W (dl (dl m (fo m)) q) + 10000 - D (fo m) q < W (dl m (fo m))
    · have yl := hc.mp y
      rw [if_pos y] at w2'
      refine Or.inl ⟨w2', by omega, fun r r1 r2 r3 r4 => ?_⟩
      have := (q8 r r1 (by omega) r3 r4).1
      rw [q7]; omega
    · have yl : ¬ 100000 + L (dl m (fo m)) < D (fo m) q + L (dl (dl m (fo m)) q) := fun v => y (hc.mpr v)
      rw [if_neg y] at w2'
      refine Or.inr ⟨q, w2', q1, by omega, q3, q4, by omega, by rw [q7]; omega, fun r r1 r2 r3 r4 => ?_⟩
      have := (q8 r r1 (by omega) r3 r4).2 r2
      rw [q7]; omega
