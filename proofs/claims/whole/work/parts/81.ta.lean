/-! the tape of both -/
def byt (x k : Int) : Int := bI2b (bI2b (bShr x k))
def sel5 (a b c d e : Int) (k : Nat) : Int := if k < 4 then a else if k < 8 then b else if k < 12 then c else if k < 16 then d else e
def fdB (B : Row) (m : Nat) (a b c d e : Int) : Row := fun i => if i < m then B i else byt (sel5 a b c d e (i - m)) ((24 - 8 * ((i - m) % 4) : Nat) : Int)
theorem bI2b_and {z : Int} : bAnd (bI2b z) 255 = bAnd z 255 := by
  unfold bAnd bI2b
  rw [i32_t]
  congr 1
  apply Int32.toBitVec_inj.mp
  rw [Int32.toBitVec_and, Int32.toBitVec_and]
  generalize i32 z = y
  apply BitVec.eq_of_getLsbD_eq
  intro i hi
  rw [BitVec.getLsbD_and, BitVec.getLsbD_and]
  have h255 : (i32 255).toBitVec = BitVec.ofNat 32 (2 ^ 8 - 1) := by decide
  rw [h255, BitVec.getLsbD_ofNat, Nat.testBit_two_pow_sub_one]
  by_cases h : i < 8
  · have e : (Int8.toInt32 (Int32.toInt8 y)).toBitVec.getLsbD i = y.toBitVec.getLsbD i := by
      rw [Int8.toBitVec_toInt32, Int32.toBitVec_toInt8, BitVec.getLsbD_signExtend, if_pos h, BitVec.getLsbD_signExtend]
      simp [h, hi]
    rw [e]
  · simp [h]
theorem byt_and {x k : Int} : bAnd (byt x k) 255 = bAnd (bShr x k) 255 := by unfold byt; rw [bI2b_and, bI2b_and]
theorem bAnd255 {z : Int} : 0 ≤ bAnd z 255 ∧ bAnd z 255 ≤ 255 := by
  have h : ∃ n : Nat, n ≤ 255 ∧ bAnd z 255 = n := by
    unfold bAnd
    rw [← Int32.toInt_toBitVec, Int32.toBitVec_and]
    have h255 : (i32 255).toBitVec = BitVec.ofNat 32 255 := by decide
    rw [h255]
    generalize (i32 z).toBitVec = y
    have e : (y &&& BitVec.ofNat 32 255).toNat ≤ 255 := by
      rw [BitVec.toNat_and]
      exact Nat.le_trans Nat.and_le_right (by decide)
    exact ⟨(y &&& BitVec.ofNat 32 255).toNat, e, BitVec.toInt_eq_toNat_of_lt (by omega)⟩
  obtain ⟨n, h1, h2⟩ := h
  rw [h2]; omega
theorem RC.gt {w w' : Wd} {q : Nat} {A : AC} (h : RC w q A) (hg : ∀ b, 2 ≤ b → b < 473 → gI w' b = gI w b) (hr : gR w' = gR w) : RC w' q A := by
  obtain ⟨h1, h2, h3, h4, ⟨M, h5⟩, h6, h7⟩ := h
  refine ⟨?_, h2.ext (fun x hx => hg x (by unfold AK at hx; omega) (by unfold AK at hx; omega)) (by rw [hr]), h3.ext (fun a _ _ => hg a (by omega) (by omega)), fun i hi => by rw [hg 250 (by decide) (by decide)]; exact h4 i hi, ⟨M, h5.ext (fun x hx => hg x (by unfold AK at hx; omega) (by unfold AK at hx; omega)) (by rw [hr])⟩, fun e => by rw [hg 251 (by decide) (by decide)]; exact h6 e, fun x hx => ?_⟩
  · obtain ⟨c1, c2, c3, c4, c5, c6⟩ := h1
    exact ⟨c1, by rw [hr]; exact c2, c3.ext (fun b _ _ => hg b (by omega) (by omega)), c4.ext (fun b _ _ => hg b (by omega) (by omega)), fun a k o ho => by rw [hr]; exact c5 a k o ho, c6⟩
  · obtain ⟨a1, a2, a3, a4, a5⟩ := h7 x hx
    exact ⟨by rw [hg 251 (by decide) (by decide)]; exact a1, a2.ext (fun c c1 c2 => hg c (by omega) (by omega)), a3.ext (fun x hx => hg x (by unfold AK at hx; omega) (by unfold AK at hx; omega)) (by rw [hr]), a4.ext (fun c c1 c2 => hg c (by omega) (by omega)), fun i hi => by rw [hg 463 (by decide) (by decide)]; exact a5 i hi⟩
theorem q113s {w : Wd} {x x2 : Int} {m : Nat} (H : LR w) (h1 : gI w 0 1 = m) (hm : m < 700) (h2 : 0 ≤ x2 ∧ x2 ≤ 24) : Rf (s113_3 0 x (x2 - 8) (pI (pI w 1 m (byt x x2)) 0 1 ((m + 1 : Nat) : Int))) (s113_3 0 x x2 w) := by
  intro o ho
  refine e113_3 H l0 _ ?_
  have e1 : gI (pI w (0 + 1) m (bI2b (bI2b (bShr x x2)))) 0 1 = m := by rw [gI_r (by decide)]; exact h1
  rw [if_neg (by omega), h1, if_neg (by omega), if_neg (by omega), gdi (by omega) (by omega), nn, e1, wrs (by omega), wrd (z := x2 + -8) (by omega) (by omega)]
  exact ho
theorem q113 {w : Wd} {x : Int} {m : Nat} (H : LR w) (h1 : gI w 0 1 = m) (hm : m + 4 ≤ 700) : ∃ w', F113 0 x w = r0 w' ∧ gI w' 0 1 = ((m + 4 : Nat) : Int) ∧ (∀ i, i < m → gI w' 1 i = gI w 1 i) ∧ (∀ j, j < 4 → gI w' 1 (m + j) = byt x ((24 - 8 * j : Nat) : Int)) ∧ FrI (fun b => b = 0 ∨ b = 1) w w' ∧ ∀ i, i ≠ 1 → gI w' 0 i = gI w 0 i := by
  have r1 := q113s (x := x) (x2 := 24) H h1 (by omega) (by omega)
  have f1 : FrI (fun b => b = 0 ∨ b = 1) w (pI (pI w 1 m (byt x 24)) 0 1 ((m + 1 : Nat) : Int)) := (FrI.p (Or.inr rfl)).pp (Or.inl rfl)
  have a1 : ∀ i, gI (pI (pI w 1 m (byt x 24)) 0 1 ((m + 1 : Nat) : Int)) 1 i = if i = m then byt x 24 else gI w 1 i := fun i => by
    rw [gI_r (by decide)]
    by_cases z : i = m
    · rw [z, gI_s, if_pos rfl]
    · rw [gI_c z, if_neg z]
  have b1 : ∀ i, i ≠ 1 → gI (pI (pI w 1 m (byt x 24)) 0 1 ((m + 1 : Nat) : Int)) 0 i = gI w 0 i := fun i hi => by rw [gI_c hi, gI_r (by decide)]
  have c1 : gI (pI (pI w 1 m (byt x 24)) 0 1 ((m + 1 : Nat) : Int)) 0 1 = ((m + 1 : Nat) : Int) := gI_s
  revert r1 f1 a1 b1 c1
  generalize pI (pI w 1 m (byt x 24)) 0 1 ((m + 1 : Nat) : Int) = w1
  intro r1 f1 a1 b1 c1
  have H1 := f1.LR H
  have r2 := q113s (x := x) (x2 := 24 - 8) H1 c1 (by omega) (by omega)
  have f2 : FrI (fun b => b = 0 ∨ b = 1) w1 (pI (pI w1 1 (m + 1) (byt x (24 - 8))) 0 1 ((m + 1 + 1 : Nat) : Int)) := (FrI.p (Or.inr rfl)).pp (Or.inl rfl)
  have a2 : ∀ i, gI (pI (pI w1 1 (m + 1) (byt x (24 - 8))) 0 1 ((m + 1 + 1 : Nat) : Int)) 1 i = if i = m + 1 then byt x (24 - 8) else gI w1 1 i := fun i => by
    rw [gI_r (by decide)]
    by_cases z : i = m + 1
    · rw [z, gI_s, if_pos rfl]
    · rw [gI_c z, if_neg z]
  have b2 : ∀ i, i ≠ 1 → gI (pI (pI w1 1 (m + 1) (byt x (24 - 8))) 0 1 ((m + 1 + 1 : Nat) : Int)) 0 i = gI w1 0 i := fun i hi => by rw [gI_c hi, gI_r (by decide)]
  have c2 : gI (pI (pI w1 1 (m + 1) (byt x (24 - 8))) 0 1 ((m + 1 + 1 : Nat) : Int)) 0 1 = ((m + 1 + 1 : Nat) : Int) := gI_s
  revert r2 f2 a2 b2 c2
  generalize pI (pI w1 1 (m + 1) (byt x (24 - 8))) 0 1 ((m + 1 + 1 : Nat) : Int) = w2
  intro r2 f2 a2 b2 c2
  have H2 := f2.LR H1
  have r3 := q113s (x := x) (x2 := 24 - 8 - 8) H2 c2 (by omega) (by omega)
  have f3 : FrI (fun b => b = 0 ∨ b = 1) w2 (pI (pI w2 1 (m + 1 + 1) (byt x (24 - 8 - 8))) 0 1 ((m + 1 + 1 + 1 : Nat) : Int)) := (FrI.p (Or.inr rfl)).pp (Or.inl rfl)
  have a3 : ∀ i, gI (pI (pI w2 1 (m + 1 + 1) (byt x (24 - 8 - 8))) 0 1 ((m + 1 + 1 + 1 : Nat) : Int)) 1 i = if i = m + 1 + 1 then byt x (24 - 8 - 8) else gI w2 1 i := fun i => by
    rw [gI_r (by decide)]
    by_cases z : i = m + 1 + 1
    · rw [z, gI_s, if_pos rfl]
    · rw [gI_c z, if_neg z]
  have b3 : ∀ i, i ≠ 1 → gI (pI (pI w2 1 (m + 1 + 1) (byt x (24 - 8 - 8))) 0 1 ((m + 1 + 1 + 1 : Nat) : Int)) 0 i = gI w2 0 i := fun i hi => by rw [gI_c hi, gI_r (by decide)]
  have c3 : gI (pI (pI w2 1 (m + 1 + 1) (byt x (24 - 8 - 8))) 0 1 ((m + 1 + 1 + 1 : Nat) : Int)) 0 1 = ((m + 1 + 1 + 1 : Nat) : Int) := gI_s
  revert r3 f3 a3 b3 c3
  generalize pI (pI w2 1 (m + 1 + 1) (byt x (24 - 8 - 8))) 0 1 ((m + 1 + 1 + 1 : Nat) : Int) = w3
  intro r3 f3 a3 b3 c3
  have H3 := f3.LR H2
  have r4 := q113s (x := x) (x2 := 24 - 8 - 8 - 8) H3 c3 (by omega) (by omega)
  have f4 : FrI (fun b => b = 0 ∨ b = 1) w3 (pI (pI w3 1 (m + 1 + 1 + 1) (byt x (24 - 8 - 8 - 8))) 0 1 ((m + 1 + 1 + 1 + 1 : Nat) : Int)) := (FrI.p (Or.inr rfl)).pp (Or.inl rfl)
  have a4 : ∀ i, gI (pI (pI w3 1 (m + 1 + 1 + 1) (byt x (24 - 8 - 8 - 8))) 0 1 ((m + 1 + 1 + 1 + 1 : Nat) : Int)) 1 i = if i = m + 1 + 1 + 1 then byt x (24 - 8 - 8 - 8) else gI w3 1 i := fun i => by
    rw [gI_r (by decide)]
    by_cases z : i = m + 1 + 1 + 1
    · rw [z, gI_s, if_pos rfl]
    · rw [gI_c z, if_neg z]
  have b4 : ∀ i, i ≠ 1 → gI (pI (pI w3 1 (m + 1 + 1 + 1) (byt x (24 - 8 - 8 - 8))) 0 1 ((m + 1 + 1 + 1 + 1 : Nat) : Int)) 0 i = gI w3 0 i := fun i hi => by rw [gI_c hi, gI_r (by decide)]
  have c4 : gI (pI (pI w3 1 (m + 1 + 1 + 1) (byt x (24 - 8 - 8 - 8))) 0 1 ((m + 1 + 1 + 1 + 1 : Nat) : Int)) 0 1 = ((m + 1 + 1 + 1 + 1 : Nat) : Int) := gI_s
  revert r4 f4 a4 b4 c4
  generalize pI (pI w3 1 (m + 1 + 1 + 1) (byt x (24 - 8 - 8 - 8))) 0 1 ((m + 1 + 1 + 1 + 1 : Nat) : Int) = w4
  intro r4 f4 a4 b4 c4
  have H4 := f4.LR H3
  refine ⟨w4, e113 H l0 _ (r1 _ (r2 _ (r3 _ (r4 _ (e113_3 H4 l0 _ (if_pos (by decide))))))), c4, fun i hi => ?_, fun j hj => ?_, ((f1.tr f2).tr f3).tr f4, fun i hi => by rw [b4 i hi, b3 i hi, b2 i hi, b1 i hi]⟩
  · rw [a4, if_neg (by omega), a3, if_neg (by omega), a2, if_neg (by omega), a1, if_neg (by omega)]
  · have hj : j = 0 ∨ j = 1 ∨ j = 2 ∨ j = 3 := by omega
    rcases hj with rfl | rfl | rfl | rfl
    · rw [a4, if_neg (by omega), a3, if_neg (by omega), a2, if_neg (by omega), a1, if_pos (Nat.add_zero m)]; rfl
    · rw [a4, if_neg (by omega), a3, if_neg (by omega), a2, if_pos rfl]; rfl
    · rw [a4, if_neg (by omega), a3, if_pos rfl]; rfl
    · rw [a4, if_pos rfl]; rfl
def fdm (m : Nat) : Nat := if m + 20 ≤ 700 then m + 20 else m
def fdR (B : Row) (m : Nat) (a b c d e : Int) : Row := if m + 20 ≤ 700 then fdB B m a b c d e else B
def fdA (m : Nat) : Int := if m + 20 ≤ 700 then ((m + 20 : Nat) : Int) else -1
theorem d112 {w : Wd} {q m : Nat} {A : AC} {B : Row} {fp a b c d e : Int} (h : RC w q A) (hT : RT w m B fp) (hm : m ≤ 700) : ∃ w', F112 0 a b c d e w = rI (fdA m) w' ∧ RC w' q A ∧ RT w' (fdm m) (fdR B m a b c d e) fp ∧ FrK w w' := by
  have H := h.1.H
  unfold fdA fdm fdR
  by_cases z : m + 20 ≤ 700
  · rw [if_pos z, if_pos z, if_pos z]
    obtain ⟨w1, k1, k2, k3, k4, k5, k6⟩ := q113 (x := a) H hT.1 (by omega)
    have H1 := k5.LR H
    obtain ⟨w2, l1, l2, l3, l4, l5, l6⟩ := q113 (x := b) H1 k2 (by omega)
    have H2 := l5.LR H1
    obtain ⟨w3, m1, m2, m3, m4, m5, m6⟩ := q113 (x := c) H2 l2 (by omega)
    have H3 := m5.LR H2
    obtain ⟨w4, n1, n2, n3, n4, n5, n6⟩ := q113 (x := d) H3 m2 (by omega)
    have H4 := n5.LR H3
    obtain ⟨w5, o1, o2, o3, o4, o5, o6⟩ := q113 (x := e) H4 n2 (by omega)
    have H5 := o5.LR H4
    have f := (((k5.tr l5).tr m5).tr n5).tr o5
    refine ⟨w5, e112 H l0 _ ?_, h.gt (fun b b1 b2 => f.g (by omega)) f.R, ⟨?_, ?_, fun i hi => ?_⟩, f.K (fun x hx => by omega)⟩
    · rw [hT.1, wrd (by omega) (by omega), if_pos (by omega), k1, b0_r H1, l1, b0_r H2, m1, b0_r H3, n1, b0_r H4, o1, b0_r H5, o2]
    · exact o2
    · rw [o6 2 (by decide), n6 2 (by decide), m6 2 (by decide), l6 2 (by decide), k6 2 (by decide)]; exact hT.2.1
    · unfold fdB sel5
      by_cases c0 : i < m
      · rw [if_pos c0, o3 i (by omega), n3 i (by omega), m3 i (by omega), l3 i (by omega), k3 i c0]; exact hT.2.2 i c0
      rw [if_neg c0]
      obtain ⟨j, rfl⟩ : ∃ j, i = m + j := ⟨i - m, by omega⟩
      rw [show m + j - m = j by omega]
      by_cases c1 : j < 4
      · rw [if_pos c1, o3 _ (by omega), n3 _ (by omega), m3 _ (by omega), l3 _ (by omega), k4 j c1, show j % 4 = j by omega]
      rw [if_neg c1]
      by_cases c2 : j < 8
      · have := l4 (j - 4) (by omega)
        rw [if_pos c2, o3 _ (by omega), n3 _ (by omega), m3 _ (by omega), show m + j = m + 4 + (j - 4) by omega, this, show j % 4 = j - 4 by omega]
      rw [if_neg c2]
      by_cases c3 : j < 12
      · have := m4 (j - 8) (by omega)
        rw [if_pos c3, o3 _ (by omega), n3 _ (by omega), show m + j = m + 4 + 4 + (j - 8) by omega, this, show j % 4 = j - 8 by omega]
      rw [if_neg c3]
      by_cases c4 : j < 16
      · have := n4 (j - 12) (by omega)
        rw [if_pos c4, o3 _ (by omega), show m + j = m + 4 + 4 + 4 + (j - 12) by omega, this, show j % 4 = j - 12 by omega]
      · have := o4 (j - 16) (by omega)
        rw [if_neg c4, show m + j = m + 4 + 4 + 4 + 4 + (j - 16) by omega, this, show j % 4 = j - 16 by omega]
  · rw [if_neg z, if_neg z, if_neg z]
    refine ⟨w, e112 H l0 _ ?_, h, hT, FrC.rf.K⟩
    rw [hT.1, wrd (by omega) (by omega), if_neg (by omega)]
theorem y180s {w : Wd} {a b c d e : Int} {k n : Nat} (H : LR w) (h1 : gI w 473 17 = n) (hn : n < 700) (hk : k < 20) : Rf (s180_23 473 a b c d e ((k + 1 : Nat) : Int) (pI (pI w 488 n (bAnd (bShr (sel5 a b c d e k) ((24 - 8 * (k % 4) : Nat) : Int)) 255)) 473 17 ((n + 1 : Nat) : Int))) (s180_23 473 a b c d e k w) := by
  intro o ho
  have key : s180_76 473 a b c d e k (sel5 a b c d e k) w = some o := by
    refine e180_76 H l473 _ ?_
    have e1 : wr (24 - wr (8 * Int.tmod (k : Int) 4)) = ((24 - 8 * (k % 4) : Nat) : Int) := by
      have e0 : Int.tmod (k : Int) 4 = ((k % 4 : Nat) : Int) := rfl
      have h4 := Nat.mod_lt k (show 4 > 0 by decide)
      rw [e0, wrd (z := 8 * ((k % 4 : Nat) : Int)) (by omega) (by omega), wrd (by omega) (by omega)]
      omega
    have e2 : ∀ v, gI (pI w (473 + 15) n v) 473 17 = n := fun v => by rw [gI_r (by decide)]; exact h1
    rw [h1, gdi (by omega) (by omega), nn, e1, e2, wrs (by omega), wrs (by omega)]
    exact ho
  refine e180_23 H l473 _ ?_
  rw [if_neg (by omega)]
  unfold sel5 at key
  by_cases c1 : k < 4
  · rw [if_neg (by omega)]
    rw [if_pos c1] at key; exact key
  rw [if_pos (by omega)]
  rw [if_neg c1] at key
  by_cases c2 : k < 8
  · rw [if_neg (by omega)]
    rw [if_pos c2] at key; exact key
  rw [if_pos (by omega)]
  rw [if_neg c2] at key
  by_cases c3 : k < 12
  · rw [if_neg (by omega)]
    rw [if_pos c3] at key; exact key
  rw [if_pos (by omega)]
  rw [if_neg c3] at key
  by_cases c4 : k < 16
  · rw [if_neg (by omega)]
    rw [if_pos c4] at key; exact key
  rw [if_pos (by omega)]
  rw [if_neg c4] at key; exact key
theorem MY.tp {w w' : Wd} {A : AC} (h : MY w A) (f : FrI (fun b => b = 473 ∨ b = 488) w w') (f0 : ∀ i, (i ≠ 4 ∧ i ≠ 17 ∧ (i < 18 ∨ 28 < i)) → gI w' 473 i = gI w 473 i) : MY w' A := by
  have g : ∀ b, b ≠ 473 → b ≠ 488 → gI w' b = gI w b := fun b b1 b2 => f.g (by omega)
  have hq := h.1
  refine ⟨⟨⟨?_, ?_, f.LR h.H, hq.1.2.2.2.1, hq.1.2.2.2.2.1, hq.1.2.2.2.2.2.1, by rw [f0 44 (by omega)]; exact hq.1.2.2.2.2.2.2⟩, by rw [f0 44 (by omega)]; exact hq.2⟩, h.2.1.ext (f0 37 (by omega)) (g 492 (by decide) (by decide)), ?_, fun i hi => by rw [g 486 (by decide) (by decide)]; exact h.2.2.2.1 i hi, h.2.2.2.2.ext (fun i i1 i2 => f0 i (by omega)) (fun b b1 b2 => g b (by omega) (by omega))⟩
  · exact hq.1.1.fr f (fun b b1 b2 z => by omega)
  · have hr := hq.1.2.1
    unfold RMS at hr
    show RMS w' (oS A)
    unfold RMS
    rw [g 489 (by decide) (by decide), g 490 (by decide) (by decide), g 491 (by decide) (by decide), g 487 (by decide) (by decide), f0 33 (by omega), f0 34 (by omega), f0 35 (by omega), f0 36 (by omega)]
    exact hr
  · have hN : RNm w (oN A) := h.2.2.1
    unfold RNm at hN
    show RNm w' (oN A)
    unfold RNm
    rw [f0 38 (by omega), g 501 (by decide) (by decide), g 502 (by decide) (by decide), g 503 (by decide) (by decide)]
    exact hN
def FrX (w w' : Wd) : Prop := FrI (fun b => 473 ≤ b ∧ b ≤ 513) w w'
theorem FrZ.X {w w' : Wd} (h : FrZ w w') : FrX w w' := h.1.wk (fun b hb => ⟨hb.1, hb.2.1⟩)
theorem r180 {w : Wd} {m : Nat} {A : AC} {B : Row} {fp a b c d e : Int} (h : MY w A) (hT : RTm w m B fp) (hm : m ≤ 700) : ∃ w', F180 473 a b c d e w = rI (fdA m) w' ∧ MY w' A ∧ RTm w' (fdm m) (fdR B m a b c d e) fp ∧ FrX w w' := by
  have H := h.H
  have h17 : gI (pI w 473 4 0) 473 17 = m := by rw [gI_c (by decide)]; exact hT.1
  have f0 : FrI (fun b => b = 473 ∨ b = 488) w (pI w 473 4 0) := FrI.p (Or.inl rfl)
  unfold fdA fdm fdR
  by_cases z : m + 20 ≤ 700
  · rw [if_pos z, if_pos z, if_pos z]
    obtain ⟨v, hv, i1, i2, i3, i4⟩ := lpR (F := fun k v => s180_23 473 a b c d e k v) (I := fun k v => FrI (fun b => b = 473 ∨ b = 488) w v ∧ (∀ i, i ≠ 4 → i ≠ 17 → gI v 473 i = gI w 473 i) ∧ gI v 473 17 = ((m + k : Nat) : Int) ∧ ∀ i, i < m + k → gI v 488 i = bAnd (fdB B m a b c d e i) 255) 20 (fun k v hk i => by
      obtain ⟨i1, i2, i3, i4⟩ := i
      refine ⟨_, y180s (i1.LR H) i3 (by omega) hk, (i1.pp (Or.inr rfl)).pp (Or.inl rfl), fun i x1 x2 => by rw [gI_c x2, gI_r (by decide)]; exact i2 i x1 x2, by rw [gI_s]; rfl, fun i hi => ?_⟩
      rw [gI_r (by decide)]
      by_cases y : i = m + k
      · subst y
        rw [gI_s]
        unfold fdB
        rw [if_neg (by omega), show m + k - m = k by omega, byt_and]
      · rw [gI_c y]; exact i4 i (by omega)) (pI w 473 4 0) ⟨f0, fun i x1 x2 => gI_c x1, h17, fun i hi => by
        have hi : i < m := by omega
        rw [gI_r (by decide), hT.2.2 i hi]; unfold fdB; rw [if_pos hi]⟩
    refine ⟨v, e180 H l473 _ ?_, h.tp i1 (fun i hi => i2 i hi.1 hi.2.1), ⟨i3, by rw [i2 26 (by decide) (by decide)]; exact hT.2.1, i4⟩, i1.wk (fun b hb => by omega)⟩
    rw [h17, wrd (by omega) (by omega), if_pos (by omega)]
    exact hv _ (e180_23 (i1.LR H) l473 _ (by rw [if_pos (by decide), i3]))
  · rw [if_neg z, if_neg z, if_neg z]
    refine ⟨pI w 473 4 0, e180 H l473 _ ?_, h.tp f0 (fun i hi => gI_c hi.1), ⟨h17, by rw [gI_c (by decide)]; exact hT.2.1, fun i hi => by rw [gI_r (by decide)]; exact hT.2.2 i hi⟩, f0.wk (fun b hb => by omega)⟩
    rw [h17, wrd (by omega) (by omega), if_neg (by omega)]
