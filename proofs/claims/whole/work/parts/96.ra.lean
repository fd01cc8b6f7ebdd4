/-! the reference's tokens: one after the other -/
/-- the reference's tape holds the text -/
def XT (w : Wd) (T : Row) (n : Nat) : Prop := LR w ∧ gI w 473 19 = n ∧ n ≤ 700 ∧ (∀ i, i < n → gI w 488 i = T i) ∧ ∀ i, 0 ≤ T i ∧ T i ≤ 255
def A5 (i : Nat) : Prop := i = 18 ∨ (20 ≤ i ∧ i ≤ 23)
/-- only where the reader stands has changed -/
def Fr5 (w w' : Wd) : Prop := FrI (fun b => b = 473) w w' ∧ ∀ i, ¬ A5 i → gI w' 473 i = gI w 473 i
theorem Fr5.rf {w : Wd} : Fr5 w w := ⟨FrI.rf, fun _ _ => rfl⟩
theorem Fr5.tr {a b c : Wd} (h : Fr5 a b) (h' : Fr5 b c) : Fr5 a c := ⟨h.1.tr h'.1, fun i q => (h'.2 i q).trans (h.2 i q)⟩
theorem Fr5.p {w : Wd} {i : Nat} {x : Int} (hi : A5 i) : Fr5 w (pI w 473 i x) := ⟨FrI.p rfl, fun j hj => gI_c (fun e => hj (e ▸ hi))⟩
theorem XT.fr {w w' : Wd} {T : Row} {n : Nat} (h : XT w T n) (f : Fr5 w w') : XT w' T n := ⟨f.1.LR h.1, by rw [f.2 19 (by unfold A5; omega)]; exact h.2.1, h.2.2.1, fun i hi => by rw [f.1.g (by decide)]; exact h.2.2.2.1 i hi, h.2.2.2.2⟩
section LX
variable {w : Wd} {T : Row} {n : Nat}
theorem y181 {k : Nat} (h : XT w T n) : F181 473 k w = rI (if k < n then T k else -1) w := by
  have hn := h.2.2.1
  refine e181 h.1 l473 _ ?_
  rw [h.2.1]
  by_cases z : k < n
  · rw [if_pos z, if_neg (by omega), gdi (by omega) (by omega), nn, show gI w (473 + 15) k = T k from h.2.2.2.1 k z]
  · rw [if_neg z, if_pos (by omega)]
theorem y182 {c : Int} (H : LR w) : F182 c w = rI (b2i (isLt c)) w := by
  refine e182 H _ ?_
  unfold isLt
  by_cases h1 : 97 ≤ c
  · rw [if_neg (by omega)]
    by_cases h2 : c ≤ 122
    · rw [if_neg (by omega), decide_eq_true h1, decide_eq_true h2]; rfl
    · rw [if_pos (by omega), decide_eq_true h1, decide_eq_false h2]; rfl
  · rw [if_pos (by omega), decide_eq_false h1]; rfl
theorem y183 {c : Int} (H : LR w) : F183 c w = rI (b2i (isD c)) w := by
  refine e183 H _ ?_
  unfold isD
  by_cases h1 : 48 ≤ c
  · rw [if_neg (by omega)]
    by_cases h2 : c ≤ 57
    · rw [if_neg (by omega), decide_eq_true h1, decide_eq_true h2]; rfl
    · rw [if_pos (by omega), decide_eq_true h1, decide_eq_false h2]; rfl
  · rw [if_pos (by omega), decide_eq_false h1]; rfl
theorem y184 {c : Int} (H : LR w) : F184 c w = rI (b2i (isSg c)) w := by
  refine e184 H _ ?_
  by_cases h : isSg c = true
  · have hc := isSg_in h
    rw [h]
    rcases hc with e | e | e | e | e | e | e | e | e <;> rw [e] <;> rfl
  · have h0 := h
    unfold isSg at h0
    simp only [Bool.or_eq_true, decide_eq_true_eq] at h0
    rw [if_neg (by omega), if_neg (by omega), if_neg (by omega), if_neg (by omega), if_neg (by omega), if_neg (by omega), if_neg (by omega), if_neg (by omega), if_pos (by omega)]
    have : isSg c = false := by simpa using h
    rw [this]; rfl
theorem nB {k : Nat} (h : ¬ k < n ∨ isBl (T k) = false) (hT : ∀ i, 0 ≤ T i ∧ T i ≤ 255) : (if k < n then T k else -1) ≠ 32 ∧ (if k < n then T k else -1) ≠ 10 := by
  by_cases z : k < n
  · rw [if_pos z]
    rcases h with h | h
    · exact absurd z h
    · unfold isBl at h
      rw [Bool.or_eq_false_iff, decide_eq_false_iff_not, decide_eq_false_iff_not] at h
      exact h
  · rw [if_neg z]; exact ⟨by decide, by decide⟩
/-- blanks -/
theorem y185b : ∀ (k p : Nat) (w : Wd), k = n - p → XT w T n → gI w 473 18 = p → p ≤ n → ∃ w', Rf (s185_0 473 w') (s185_0 473 w) ∧ gI w' 473 18 = rn isBl T n p ∧ Fr5 w w' := by
  intro k
  induction k with
  | zero =>
    intro p w hk h hp hpn
    exact ⟨w, Rf.refl _, by rw [hp, rn_o (by omega)], Fr5.rf⟩
  | succ k ih =>
    intro p w hk h hp hpn
    have hn := h.2.2.1
    have hpl : p < n := by omega
    by_cases b : isBl (T p) = true
    · have e1 : wr (gI w 473 18 + 1) = ((p + 1 : Nat) : Int) := by rw [hp, wrs (by omega)]
      have f1 : Fr5 w (pI w 473 18 ((p + 1 : Nat) : Int)) := Fr5.p (by unfold A5; omega)
      obtain ⟨w', a1, a2, a3⟩ := ih (p + 1) (pI w 473 18 ((p + 1 : Nat) : Int)) (by omega) (h.fr f1) gI_s (by omega)
      refine ⟨w', fun o ho => e185_0 h.1 l473 _ ?_, by rw [a2, ← rn_y hpl b], f1.tr a3⟩
      have hb : T p = 32 ∨ T p = 10 := by
        unfold isBl at b
        simpa using b
      have key := a1 o ho
      rw [hp, y181 h, if_pos hpl, bI_r h.1]
      rcases hb with y | y
      · rw [if_pos y, e1]; exact key
      · rw [if_neg (by rw [y]; decide), hp, y181 h, if_pos hpl, bI_r h.1, if_neg (fun u => u y), e1]; exact key
    · have b : isBl (T p) = false := by simpa using b
      exact ⟨w, Rf.refl _, by rw [hp, rn_n hpl b], Fr5.rf⟩
def tkT (c : Int) : Int := if c = 0 then 0 else if c = 1 ∨ c = 2 then 2 else if 100 ≤ c then 1 else if c = 3 then 4 else 3
/-- the j-th token is the one that is looked at -/
def MK (w : Wd) (T : Row) (n j : Nat) : Prop := gI w 473 22 = sT T n j ∧ gI w 473 23 = ET T n j ∧ gI w 473 18 = ET T n j ∧ gI w 473 20 = tkT (KT T n j) ∧ (KT T n j = 1 → gI w 473 21 = VT T n j)
theorem MK.ext {w' : Wd} {j : Nat} (h : MK w T n j) (e : ∀ i, i = 18 ∨ (20 ≤ i ∧ i ≤ 23) → gI w' 473 i = gI w 473 i) : MK w' T n j := by
  unfold MK
  rw [e 22 (by omega), e 23 (by omega), e 18 (by omega), e 20 (by omega), e 21 (by omega)]
  exact h
/-- a word's letters -/
theorem eT_w {p : Nat} (hp : p < n) (hd : isD (T p) = false) (hl : isLt (T p) = true) : eT T n p = rn isLt T n p := by
  unfold eT
  rw [hd, hl, rn_y hp hl]
  rfl
theorem eT_d {p : Nat} (hp : p < n) (hd : isD (T p) = true) : eT T n p = rn isD T n p := by
  unfold eT
  rw [hd, rn_y hp hd]
  rfl
theorem eT_o {p : Nat} (hd : isD (T p) = false) (hl : isLt (T p) = false) : eT T n p = p + 1 := by
  unfold eT
  rw [hd, hl]
  rfl
theorem y185wl {c : Int} : ∀ (k q : Nat) (w : Wd), k = n - q → XT w T n → gI w 473 18 = q → q ≤ n → ∃ w', s185_76 473 c w = r0 w' ∧ gI w' 473 18 = rn isLt T n q ∧ gI w' 473 23 = rn isLt T n q ∧ gI w' 473 20 = 1 ∧ gI w' 473 22 = gI w 473 22 ∧ Fr5 w w' := by
  intro k
  induction k with
  | zero =>
    intro q w hk h hq hqn
    have e : F181 473 (gI w 473 18) w = rI (-1) w := by rw [hq, y181 h, if_neg (by omega)]
    refine ⟨pI (pI w 473 20 1) 473 23 q, e185_76 h.1 l473 _ ?_, ?_, ?_, ?_, ?_, (Fr5.p (by unfold A5; omega)).tr (Fr5.p (by unfold A5; omega))⟩
    · rw [e, bI_r h.1, y182 h.1, bI_r h.1, if_pos (by decide), gI_c (by decide), hq]
    · rw [gI_c (by decide), gI_c (by decide), hq, rn_o (by omega)]
    · rw [gI_s, rn_o (by omega)]
    · rw [gI_c (by decide), gI_s]
    · rw [gI_c (by decide), gI_c (by decide)]
  | succ k ih =>
    intro q w hk h hq hqn
    have hn := h.2.2.1
    have hql : q < n := by omega
    have e : F181 473 (gI w 473 18) w = rI (T q) w := by rw [hq, y181 h, if_pos hql]
    by_cases b : isLt (T q) = true
    · have f1 : Fr5 w (pI w 473 18 ((q + 1 : Nat) : Int)) := Fr5.p (by unfold A5; omega)
      obtain ⟨w', a1, a2, a3, a4, a5, a6⟩ := ih (q + 1) (pI w 473 18 ((q + 1 : Nat) : Int)) (by omega) (h.fr f1) gI_s (by omega)
      refine ⟨w', e185_76 h.1 l473 _ ?_, by rw [a2, ← rn_y hql b], by rw [a3, ← rn_y hql b], a4, by rw [a5, gI_c (by decide)], f1.tr a6⟩
      rw [e, bI_r h.1, y182 h.1, bI_r h.1, b, if_neg (by decide), hq, wrs (by omega)]
      exact a1
    · have b : isLt (T q) = false := by simpa using b
      refine ⟨pI (pI w 473 20 1) 473 23 q, e185_76 h.1 l473 _ ?_, ?_, ?_, ?_, ?_, (Fr5.p (by unfold A5; omega)).tr (Fr5.p (by unfold A5; omega))⟩
      · rw [e, bI_r h.1, y182 h.1, bI_r h.1, b, if_pos (by decide), gI_c (by decide), hq]
      · rw [gI_c (by decide), gI_c (by decide), hq, rn_n hql b]
      · rw [gI_s, rn_n hql b]
      · rw [gI_c (by decide), gI_s]
      · rw [gI_c (by decide), gI_c (by decide)]
/-- a number's digits, from p on, d of them read -/
theorem y185nl {c : Int} {p : Nat} : ∀ (k d : Nat) (w : Wd), k = n - (p + d) → XT w T n → gI w 473 18 = ((p + d : Nat) : Int) → p + d ≤ n → (∀ i, i < d → isD (T (p + i)) = true) → (0 ≤ gI w 473 21 ∧ gI w 473 21 ≤ 100000) → (d ≤ 4 → gI w 473 21 = nvD T p d) →
    ∃ w', s185_123 473 c w = r0 w' ∧ gI w' 473 18 = rn isD T n (p + d) ∧ gI w' 473 23 = rn isD T n (p + d) ∧ gI w' 473 20 = 2 ∧ gI w' 473 22 = gI w 473 22 ∧ (rn isD T n (p + d) - p ≤ 4 → gI w' 473 21 = nvD T p (rn isD T n (p + d) - p)) ∧ Fr5 w w' := by
  intro k
  induction k with
  | zero =>
    intro d w hk h hq hqn hd hb hv
    have e : F181 473 (gI w 473 18) w = rI (-1) w := by rw [hq, y181 h, if_neg (by omega)]
    refine ⟨pI (pI w 473 20 2) 473 23 ((p + d : Nat) : Int), e185_123 h.1 l473 _ ?_, ?_, ?_, ?_, ?_, ?_, (Fr5.p (by unfold A5; omega)).tr (Fr5.p (by unfold A5; omega))⟩
    · rw [e, bI_r h.1, y183 h.1, bI_r h.1, if_pos (by decide), gI_c (by decide), hq]
    · rw [gI_c (by decide), gI_c (by decide), hq, rn_o (by omega)]
    · rw [gI_s, rn_o (by omega)]
    · rw [gI_c (by decide), gI_s]
    · rw [gI_c (by decide), gI_c (by decide)]
    · rw [rn_o (by omega), gI_c (by decide), gI_c (by decide), show p + d - p = d by omega]; exact hv
  | succ k ih =>
    intro d w hk h hq hqn hd hb hv
    have hn := h.2.2.1
    have hql : p + d < n := by omega
    have e : F181 473 (gI w 473 18) w = rI (T (p + d)) w := by rw [hq, y181 h, if_pos hql]
    have hT := h.2.2.2.2 (p + d)
    by_cases b : isD (T (p + d)) = true
    · have b2 := b
      unfold isD at b2
      rw [Bool.and_eq_true, decide_eq_true_eq, decide_eq_true_eq] at b2
      have ev : wr (wr (wr (10 * gI w 473 21) + T (p + d)) - 48) = 10 * gI w 473 21 + T (p + d) - 48 := by
        rw [wrd (z := 10 * gI w 473 21) (by omega) (by omega), wrd (z := 10 * gI w 473 21 + T (p + d)) (by omega) (by omega), wrd (by omega) (by omega)]
      have f0 : Fr5 w (pI w 473 21 (min 100000 (10 * gI w 473 21 + T (p + d) - 48))) := Fr5.p (by unfold A5; omega)
      have f1 : Fr5 w (pI (pI w 473 21 (min 100000 (10 * gI w 473 21 + T (p + d) - 48))) 473 18 ((p + d + 1 : Nat) : Int)) := f0.tr (Fr5.p (by unfold A5; omega))
      obtain ⟨w', a1, a2, a3, a4, a5, a6, a7⟩ := ih (d + 1) (pI (pI w 473 21 (min 100000 (10 * gI w 473 21 + T (p + d) - 48))) 473 18 ((p + d + 1 : Nat) : Int)) (by omega) (h.fr f1) gI_s (by omega) (fun i hi => by
        by_cases y : i = d
        · rw [y]; exact b
        · exact hd i (by omega)) (by rw [gI_c (by decide), gI_s]; omega) (fun h4 => by
        have hv' := hv (by omega)
        have hb' := nvD_b (T := T) (p := p) d (fun i hi => hd i hi)
        have h3 : (10 : Int) ^ d ≤ 1000 := by
          have : ∀ k : Nat, k ≤ 3 → (10 : Int) ^ k ≤ 1000 := by decide
          exact this d (by omega)
        rw [gI_c (by decide), gI_s, hv']
        show min 100000 (10 * nvD T p d + T (p + d) - 48) = 10 * nvD T p d + T (p + d) - 48
        omega)
      rw [show p + (d + 1) = p + d + 1 by omega, ← rn_y hql b] at a2 a3 a6
      refine ⟨w', e185_123 h.1 l473 _ ?_, a2, a3, a4, by rw [a5, gI_c (by decide), gI_c (by decide)], a6, f1.tr a7⟩
      rw [e, bI_r h.1, y183 h.1, bI_r h.1, b, if_neg (by decide), e, bI_r h.1, ev, q326 h.1, bI_r h.1, gI_c (by decide), hq, wrs (by omega)]
      exact a1
    · have b : isD (T (p + d)) = false := by simpa using b
      refine ⟨pI (pI w 473 20 2) 473 23 ((p + d : Nat) : Int), e185_123 h.1 l473 _ ?_, ?_, ?_, ?_, ?_, ?_, (Fr5.p (by unfold A5; omega)).tr (Fr5.p (by unfold A5; omega))⟩
      · rw [e, bI_r h.1, y183 h.1, bI_r h.1, b, if_pos (by decide), gI_c (by decide), hq]
      · rw [gI_c (by decide), gI_c (by decide), hq, rn_n hql b]
      · rw [gI_s, rn_n hql b]
      · rw [gI_c (by decide), gI_s]
      · rw [gI_c (by decide), gI_c (by decide)]
      · rw [rn_n hql b, gI_c (by decide), gI_c (by decide), show p + d - p = d by omega]; exact hv
theorem tkT_d {p : Nat} (hp : p < n) (hd : isD (T p) = true) : tkT (kT T n p) = 2 ∧ (kT T n p = 1 → eT T n p - p ≤ 4) := by
  unfold kT
  rw [if_neg (by omega), if_pos hd]
  by_cases z : eT T n p - p ≤ 4
  · rw [if_pos z]; exact ⟨rfl, fun _ => z⟩
  · rw [if_neg z]; exact ⟨rfl, fun h => absurd h (by decide)⟩
theorem tkT_l {p : Nat} (hp : p < n) (hd : isD (T p) = false) (hl : isLt (T p) = true) : tkT (kT T n p) = 1 ∧ kT T n p ≠ 1 := by
  unfold kT
  rw [if_neg (by omega), if_neg (by rw [hd]; decide), if_pos hl]
  unfold tkT wk
  rw [if_neg (by omega), if_neg (by omega), if_pos (by omega)]
  exact ⟨rfl, by omega⟩
theorem tkT_s {p : Nat} (hp : p < n) (hd : isD (T p) = false) (hl : isLt (T p) = false) : tkT (kT T n p) = (if isSg (T p) = true then 3 else 4) ∧ kT T n p ≠ 1 := by
  unfold kT
  rw [if_neg (by omega), if_neg (by rw [hd]; decide), if_neg (by rw [hl]; decide)]
  by_cases z : isSg (T p) = true
  · have := isSg_in z
    rw [if_pos z, if_pos z]
    unfold tkT
    rw [if_neg (by omega), if_neg (by omega), if_neg (by omega), if_neg (by omega)]
    exact ⟨rfl, by omega⟩
  · rw [if_neg z, if_neg z]; exact ⟨rfl, by decide⟩
/-- on to the next token -/
theorem y185 {p j : Nat} (h : XT w T n) (hp : gI w 473 18 = p) (hpn : p ≤ n) (hj : rn isBl T n p = sT T n j) : ∃ w', F185 473 w = r0 w' ∧ MK w' T n j ∧ Fr5 w w' := by
  have hn := h.2.2.1
  obtain ⟨w1, a1, a2, a3⟩ := y185b (n - p) p w rfl h hp hpn
  rw [hj] at a2
  have h1 := h.fr a3
  have H1 := h1.1
  obtain ⟨P, hP⟩ : ∃ P, P = sT T n j := ⟨_, rfl⟩
  have hPn : P ≤ n := by rw [hP]; exact sT_n j
  have hPb : P < n → isBl (T P) = false := by rw [hP]; exact sT_nb j
  rw [← hP] at a2
  have e1 : F181 473 (gI w1 473 18) w1 = rI (if P < n then T P else -1) w1 := by rw [a2, y181 h1]
  have f2 : Fr5 w1 (pI w1 473 22 (P : Int)) := Fr5.p (by unfold A5; omega)
  have h2 := h1.fr f2
  have c18 : gI (pI w1 473 22 (P : Int)) 473 18 = P := by rw [gI_c (by decide)]; exact a2
  have e2 : F181 473 (gI (pI w1 473 22 (P : Int)) 473 18) (pI w1 473 22 (P : Int)) = rI (if P < n then T P else -1) (pI w1 473 22 (P : Int)) := by rw [c18, y181 h2]
  have nb := nB (k := P) (n := n) (T := T) (by
    by_cases z : P < n
    · exact Or.inr (hPb z)
    · exact Or.inl z) h.2.2.2.2
  have hk : KT T n j = kT T n P := by unfold KT; rw [hP]
  have hv : VT T n j = nvD T P (eT T n P - P) := by unfold VT; rw [hP]
  have hE : ET T n j = if P < n then eT T n P else P := by unfold ET; rw [hP]
  suffices key : ∃ w', s185_0 473 w1 = r0 w' ∧ MK w' T n j ∧ Fr5 w1 w' by
    obtain ⟨w', b1, b2, b3⟩ := key
    exact ⟨w', e185 h.1 l473 _ (a1 _ b1), b2, a3.tr b3⟩
  have hh := e185_0 (a0 := 473) H1 l473
  by_cases z : P < n
  · rw [if_pos z] at e1 e2 nb hE
    have hT := h.2.2.2.2 P
    have eb := eT_b (T := T) z
    have eq22 : gI (pI w1 473 22 (P : Int)) 473 22 = P := gI_s
    by_cases l : isLt (T P) = true
    · have d : isD (T P) = false := by
        unfold isLt at l
        unfold isD
        rw [Bool.and_eq_true, decide_eq_true_eq, decide_eq_true_eq] at l
        rw [decide_eq_false (show ¬ T P ≤ 57 by omega), Bool.and_false]
      obtain ⟨w', b1, b2, b3, b4, b5, b6⟩ := y185wl (c := T P) (n - P) P (pI w1 473 22 (P : Int)) rfl h2 c18 hPn
      rw [← eT_w z d l] at b2 b3
      obtain ⟨t1, t2⟩ := tkT_l z d l
      refine ⟨w', hh _ ?_, ⟨by rw [b5, eq22, hP], by rw [b3, hE], by rw [b2, hE], by rw [b4, hk, t1], fun y => absurd (by rw [← hk]; exact y) t2⟩, f2.tr b6⟩
      rw [e1, bI_r H1, if_neg nb.1, e1, bI_r H1, if_pos nb.2, a2, e2, bI_r h2.1, if_pos (by omega), y182 h2.1, bI_r h2.1, l, if_neg (by decide)]
      exact b1
    · have l : isLt (T P) = false := by simpa using l
      by_cases d : isD (T P) = true
      · have f3 : Fr5 (pI w1 473 22 (P : Int)) (pI (pI w1 473 22 (P : Int)) 473 21 0) := Fr5.p (by unfold A5; omega)
        obtain ⟨w', b1, b2, b3, b4, b5, b6, b7⟩ := y185nl (c := T P) (p := P) (n - P) 0 (pI (pI w1 473 22 (P : Int)) 473 21 0) rfl (h2.fr f3) (by rw [gI_c (by decide), c18]; rfl) hPn (fun i hi => absurd hi (Nat.not_lt_zero _)) (by rw [gI_s]; decide) (fun _ => gI_s)
        rw [Nat.add_zero, ← eT_d z d] at b2 b3 b6
        obtain ⟨t1, t2⟩ := tkT_d z d
        refine ⟨w', hh _ ?_, ⟨by rw [b5, gI_c (by decide), eq22, hP], by rw [b3, hE], by rw [b2, hE], by rw [b4, hk, t1], fun y => by rw [hv]; exact b6 (t2 (by rw [← hk]; exact y))⟩, (f2.tr f3).tr b7⟩
        rw [e1, bI_r H1, if_neg nb.1, e1, bI_r H1, if_pos nb.2, a2, e2, bI_r h2.1, if_pos (by omega), y182 h2.1, bI_r h2.1, l, if_pos (by decide), y183 h2.1, bI_r h2.1, d, if_neg (by decide)]
        exact b1
      · have d : isD (T P) = false := by simpa using d
        have f3 : Fr5 (pI w1 473 22 (P : Int)) (pI (pI w1 473 22 (P : Int)) 473 18 ((P + 1 : Nat) : Int)) := Fr5.p (by unfold A5; omega)
        have H3 := (h2.fr f3).1
        obtain ⟨t1, t2⟩ := tkT_s z d l
        have eo := eT_o (n := n) d l
        have fin : ∀ v : Int, v = tkT (kT T n P) → MK (pI (pI (pI (pI w1 473 22 (P : Int)) 473 18 ((P + 1 : Nat) : Int)) 473 20 v) 473 23 ((P + 1 : Nat) : Int)) T n j ∧ Fr5 w1 (pI (pI (pI (pI w1 473 22 (P : Int)) 473 18 ((P + 1 : Nat) : Int)) 473 20 v) 473 23 ((P + 1 : Nat) : Int)) := by
          intro v hv2
          refine ⟨⟨?_, ?_, ?_, ?_, fun y => absurd (by rw [← hk]; exact y) t2⟩, (f2.tr f3).tr ((Fr5.p (by unfold A5; omega)).tr (Fr5.p (by unfold A5; omega)))⟩
          · rw [gI_c (by decide), gI_c (by decide), gI_c (by decide), gI_s, hP]
          · rw [gI_s, hE, eo]
          · rw [gI_c (by decide), gI_c (by decide), gI_s, hE, eo]
          · rw [gI_c (by decide), gI_s, hk, hv2]
        have e9 : wr (gI (pI w1 473 22 (P : Int)) 473 18 + 1) = ((P + 1 : Nat) : Int) := by rw [c18, wrs (by omega)]
        have pre : ∀ o, bI (F184 (T P) (pI (pI w1 473 22 (P : Int)) 473 18 ((P + 1 : Nat) : Int))) (fun n16 w17 => (if n16 = 0 then r0 (pI (pI w17 473 20 4) 473 23 (gI (pI w17 473 20 4) 473 18)) else r0 (pI (pI w17 473 20 3) 473 23 (gI (pI w17 473 20 3) 473 18)))) = some o → s185_0 473 w1 = some o := by
          intro o ho
          refine hh _ ?_
          rw [e1, bI_r H1, if_neg nb.1, e1, bI_r H1, if_pos nb.2, a2, e2, bI_r h2.1, if_pos (by omega), y182 h2.1, bI_r h2.1, l, if_pos (by decide), y183 h2.1, bI_r h2.1, d, if_pos (by decide), e9]
          exact ho
        by_cases s : isSg (T P) = true
        · rw [if_pos s] at t1
          obtain ⟨g1, g2⟩ := fin 3 t1.symm
          refine ⟨_, pre _ ?_, g1, g2⟩
          rw [y184 H3, bI_r H3, s, if_neg (by decide), gI_c (by decide), gI_s]
        · rw [if_neg s] at t1
          have s : isSg (T P) = false := by simpa using s
          obtain ⟨g1, g2⟩ := fin 4 t1.symm
          refine ⟨_, pre _ ?_, g1, g2⟩
          rw [y184 H3, bI_r H3, s, if_pos (by decide), gI_c (by decide), gI_s]
  · rw [if_neg z] at e1 e2 nb hE
    have hk0 : kT T n P = 0 := by unfold kT; rw [if_pos (by omega)]
    refine ⟨pI (pI (pI w1 473 22 (P : Int)) 473 20 0) 473 23 (P : Int), hh _ ?_, ⟨?_, ?_, ?_, ?_, fun y => ?_⟩, f2.tr ((Fr5.p (by unfold A5; omega)).tr (Fr5.p (by unfold A5; omega)))⟩
    · rw [e1, bI_r H1, if_neg nb.1, e1, bI_r H1, if_pos nb.2, a2, e2, bI_r h2.1, if_neg (by decide), gI_c (by decide), c18]
    · rw [gI_c (by decide), gI_c (by decide), gI_s, hP]
    · rw [gI_s, hE]
    · rw [gI_c (by decide), gI_c (by decide), c18, hE]
    · rw [gI_c (by decide), gI_s, hk, hk0]; rfl
    · rw [hk, hk0] at y; exact absurd y (by decide)
theorem ET_n {j : Nat} : ET T n j ≤ n := by
  unfold ET
  split
  · rename_i h; exact (eT_b h).2
  · exact sT_n j
/-- from the j-th to the next -/
theorem y185s {j : Nat} (h : XT w T n) (hm : MK w T n j) (hk : KT T n j ≠ 0) : ∃ w', F185 473 w = r0 w' ∧ MK w' T n (j + 1) ∧ Fr5 w w' := by
  have hs : sT T n j < n := by
    apply Classical.byContradiction
    intro y
    exact hk (KT_0.mpr (by omega))
  refine y185 h hm.2.2.1 ET_n ?_
  unfold ET
  rw [if_pos hs, sT_s hs]
end LX
