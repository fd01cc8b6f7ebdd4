/-! the reference: rules worked out -/
theorem ec_n {x : Int} (h : ec x < 0) : 0 ≤ x ∧ ec x = -1 - x := by
  unfold ec at h ⊢
  by_cases h1 : 0 ≤ x
  · rw [if_pos h1] at h ⊢; exact ⟨h1, rfl⟩
  · exfalso
    rw [if_neg h1] at h
    repeat' split at h
    all_goals omega
theorem ec_v {x : Int} (h : 109 ≤ ec x) : x < 0 ∧ -20 < x ∧ ec x = 108 - x := by
  unfold ec at h ⊢
  by_cases h1 : 0 ≤ x
  · rw [if_pos h1] at h; omega
  · rw [if_neg h1] at h ⊢
    by_cases h2 : -20 < x
    · rw [if_pos h2]; omega
    · exfalso
      rw [if_neg h2] at h
      repeat' split at h
      all_goals omega
theorem ec_o {x c : Int} (e : ec x = c) (hc : c = 106 ∨ c = 107 ∨ c = 108 ∨ c = 60 ∨ c = 61 ∨ c = 43 ∨ c = 45 ∨ c = 42 ∨ c = 47) : (x = -20 ∧ c = 43) ∨ (x = -21 ∧ c = 45) ∨ (x = -22 ∧ c = 42) ∨ (x = -23 ∧ c = 47) ∨ (x = -24 ∧ c = 60) ∨ (x = -25 ∧ c = 61) ∨ (x = -26 ∧ c = 107) ∨ (x = -27 ∧ c = 106) ∨ (x = -28 ∧ c = 108) := by
  unfold ec at e
  repeat' split at e
  all_goals omega
theorem y215 {x a b c : Int} {w : Wd} (H : LR w) (h : (x = -20 ∧ c = 43) ∨ (x = -21 ∧ c = 45) ∨ (x = -22 ∧ c = 42) ∨ (x = -23 ∧ c = 47) ∨ (x = -24 ∧ c = 60) ∨ (x = -25 ∧ c = 61) ∨ (x = -26 ∧ c = 107) ∨ (x = -27 ∧ c = 106)) : F215 x a b w = rI (jn c a b) w := by
  refine e215 H _ ?_
  unfold jn
  rcases h with ⟨h, g⟩ | ⟨h, g⟩ | ⟨h, g⟩ | ⟨h, g⟩ | ⟨h, g⟩ | ⟨h, g⟩ | ⟨h, g⟩ | ⟨h, g⟩ <;> subst h <;> subst g <;> simp (decide := true) only [if_true, if_false, ↓reduceIte]
  · by_cases z : b = 0
    · rw [if_neg (by omega), if_pos z]
    · rw [if_pos (by omega), gP_t (by omega), if_neg z]
  · by_cases z : a < b
    · rw [if_neg (by omega), if_pos z]
    · rw [if_pos (by omega), if_neg z]
  · by_cases z : a = b
    · rw [if_neg (by omega), if_pos z]
    · rw [if_pos (by omega), if_neg z]
  · by_cases z : a = 0
    · rw [if_pos z, if_neg (by omega)]
    · rw [if_neg z]
      by_cases y : b = 0
      · rw [if_pos y, if_neg (by omega)]
      · rw [if_neg y, if_pos (by omega)]
  · by_cases z : a = 0
    · rw [if_neg (by omega)]
      by_cases y : b = 0
      · rw [if_pos y, if_neg (by omega)]
      · rw [if_neg y, if_pos (by omega)]
    · rw [if_pos (by omega), if_pos (by omega)]
theorem y216 {a : Nat} {w : Wd} {R : Nat × Row} {V : Int → Int} (H : LR w) (hl : lay a = (21, 1400)) (ha : a ≠ 494) (hc : ∀ i, i < R.1 → ec (gI w a i) = R.2 i) (hR : okRule R) (h0 : 0 < R.1) (hv : ∀ i, i < R.1 → 109 ≤ R.2 i → gI w 493 (R.2 i - 109).toNat = V (R.2 i)) :
    ∃ w', F216 473 a R.1 w = rI (evR V R) w' ∧ FrI (fun b => b = 494) w w' := by
  obtain ⟨v, hv', i1, i2, i3⟩ := lpR (F := fun k (v : Int × Wd) => s216_5 473 a R.1 v.1 k v.2) (I := fun k v => v.1 = (evN V R.2 k).1 ∧ (∀ j, j < (evN V R.2 k).1 → gI v.2 494 j = (evN V R.2 k).2 j) ∧ FrI (fun b => b = 494) w v.2) R.1 (fun k v hk e => by
    obtain ⟨top, v⟩ := v
    obtain ⟨e1, e2, ef⟩ := e
    simp only [] at e1 e2 ef
    have hV := ef.LR H
    have hk7 : k < 700 := by have := hR.1; omega
    have hc2 : ec (gI v a k) = R.2 k := by rw [ef.g ha]; exact hc k hk
    have hd1 := evN_d (val := V) (codes := R.2) k
    have hd2 := dpN_le hR k (by omega)
    have hok := hR.2.1 k hk
    rw [← hd1] at hok hd2
    have eN : evN V R.2 (k + 1) = ev1 V (R.2 k) (evN V R.2 k) := rfl
    generalize evN V R.2 k = E at *
    obtain ⟨d, S⟩ := E
    simp only [] at e1 e2 hd1 hd2 hok
    subst e1
    rw [eN]
    generalize hx : gI v a k = x at *
    rcases hok with ⟨o1, o2, o3⟩ | ⟨o1, o2, o3⟩ | ⟨o1, o2, o3⟩ | ⟨o1, o2, o3⟩
    · have eE : ev1 V (R.2 k) (d, S) = (d + 1, va_up S d (-1 - R.2 k)) := by unfold ev1; rw [if_pos o2]
      obtain ⟨x1, x2⟩ := ec_n (x := x) (by omega)
      have x3 : -1 - R.2 k = x := by omega
      rw [eE, x3]
      refine ⟨(((d + 1 : Nat) : Int), pI v 494 d x), fun o ho => e216_5 hV l473 hl _ ?_, rfl, ?_, ef.pp rfl⟩
      · rw [if_neg (by omega), gdi (by omega) (by omega), nn, hx, if_neg (by omega), if_neg (by omega), gdi (by omega) (by omega), nn, wrd (z := (d : Int) + 1) (by omega) (by omega), wrd (by omega) (by omega)]
        exact ho
      · intro j hj
        rw [gI_p]
        show va_up (gI v 494) _ _ j = va_up S _ _ j
        by_cases z : j = d
        · rw [z, up_s, up_s]
        · rw [up_c z, up_c z]; exact e2 j (by simp only [] at hj; omega)
    · have eE : ev1 V (R.2 k) (d, S) = (d + 1, va_up S d (V (R.2 k))) := by unfold ev1; rw [if_neg (by omega), if_pos o1]
      obtain ⟨x1, x2, x3⟩ := ec_v (x := x) (by omega)
      have x4 : wr (-1 - x) = (((R.2 k - 109).toNat : Nat) : Int) := by rw [wrd (by omega) (by omega)]; omega
      have x5 : gI v 493 (R.2 k - 109).toNat = V (R.2 k) := by
        rw [ef.g (by omega), hv k hk o1]
      rw [eE]
      refine ⟨(((d + 1 : Nat) : Int), pI v 494 d (V (R.2 k))), fun o ho => e216_5 hV l473 hl _ ?_, rfl, ?_, ef.pp rfl⟩
      · rw [if_neg (by omega), gdi (by omega) (by omega), nn, hx, if_neg (by omega), if_pos (by omega), x4, gdi (by omega) (by omega), gdi (by omega) (by omega), nn, nn, show gI v (473 + 20) (R.2 k - 109).toNat = V (R.2 k) from x5, wrd (z := (d : Int) + 1) (by omega) (by omega), wrd (by omega) (by omega)]
        exact ho
      · intro j hj
        rw [gI_p]
        show va_up (gI v 494) _ _ j = va_up S _ _ j
        by_cases z : j = d
        · rw [z, up_s, up_s]
        · rw [up_c z, up_c z]; exact e2 j (by simp only [] at hj; omega)
    · have eE : ev1 V (R.2 k) (d, S) = (d, va_up S (d - 1) (if S (d - 1) = 0 then 1 else 0)) := by unfold ev1; rw [if_neg (by omega), if_neg (by omega), if_pos o1]
      have x1 : x = -28 := by have := ec_o hc2 (by omega); omega
      rw [eE]
      have e1 : wr ((d : Int) - 1) = ((d - 1 : Nat) : Int) := by rw [wrd (by omega) (by omega)]; omega
      refine ⟨((d : Int), pI v 494 (d - 1) (if S (d - 1) = 0 then 1 else 0)), fun o ho => e216_5 hV l473 hl _ ?_, rfl, ?_, ef.pp rfl⟩
      · generalize hy : (if S (d - 1) = 0 then (1 : Int) else 0) = y at ho
        rw [if_neg (by omega), gdi (by omega) (by omega), nn, hx, if_pos (by omega), if_neg (by omega), e1, gdi (by omega) (by omega), nn, show gI v (473 + 21) (d - 1) = S (d - 1) from e2 (d - 1) (by omega), wrd (by omega) (by omega)]
        by_cases z : S (d - 1) = 0
        · rw [if_pos z] at hy
          rw [if_pos z, gdi (by omega) (by omega)]
          rw [← hy] at ho
          exact ho
        · rw [if_neg z] at hy
          rw [if_neg z, gdi (by omega) (by omega)]
          rw [← hy] at ho
          exact ho
      · intro j hj
        rw [gI_p]
        show va_up (gI v 494) _ _ j = va_up S _ _ j
        by_cases z : j = d - 1
        · rw [z, up_s, up_s]
        · rw [up_c z, up_c z]; exact e2 j (by simp only [] at hj; omega)
    · have eE : ev1 V (R.2 k) (d, S) = (d - 1, va_up S (d - 2) (jn (R.2 k) (S (d - 2)) (S (d - 1)))) := by unfold ev1; rw [if_neg (by omega), if_neg (by omega), if_neg (by omega)]
      have x1 := ec_o hc2 (by omega)
      have x8 : (x = -20 ∧ R.2 k = 43) ∨ (x = -21 ∧ R.2 k = 45) ∨ (x = -22 ∧ R.2 k = 42) ∨ (x = -23 ∧ R.2 k = 47) ∨ (x = -24 ∧ R.2 k = 60) ∨ (x = -25 ∧ R.2 k = 61) ∨ (x = -26 ∧ R.2 k = 107) ∨ (x = -27 ∧ R.2 k = 106) := by omega
      have x9 : x ≤ -20 ∧ x ≠ -28 := by omega
      clear x1 o1
      rw [eE]
      have e1 : wr ((d : Int) + -1) = ((d - 1 : Nat) : Int) := by rw [wrd (by omega) (by omega)]; omega
      have e3 : wr (((d - 1 : Nat) : Int) - 1) = ((d - 2 : Nat) : Int) := by rw [wrd (by omega) (by omega)]; omega
      refine ⟨(((d - 1 : Nat) : Int), pI v 494 (d - 2) (jn (R.2 k) (S (d - 2)) (S (d - 1)))), fun o ho => e216_5 hV l473 hl _ ?_, rfl, ?_, ef.pp rfl⟩
      · rw [if_neg (by omega), gdi (by omega) (by omega), nn, hx, if_pos x9.1, if_pos x9.2, e1, e3, gdi (by omega) (by omega), gdi (by omega) (by omega), nn, nn, show gI v (473 + 21) (d - 1) = S (d - 1) from e2 (d - 1) (by omega), show gI v (473 + 21) (d - 2) = S (d - 2) from e2 (d - 2) (by omega), y215 (c := R.2 k) hV x8, bI_r hV, gdi (by omega) (by omega), wrd (by omega) (by omega)]
        exact ho
      · intro j hj
        rw [gI_p]
        show va_up (gI v 494) _ _ j = va_up S _ _ j
        by_cases z : j = d - 2
        · rw [z, up_s, up_s]
        · rw [up_c z, up_c z]; exact e2 j (by simp only [] at hj; omega)) (0, w) ⟨rfl, fun j hj => absurd hj (Nat.not_lt_zero _), FrI.rf⟩
  obtain ⟨top, v⟩ := v
  simp only [] at i1 i2 i3 hv'
  have hV := i3.LR H
  have hd1 := evN_d (val := V) (codes := R.2) R.1
  have hd2 := hR.2.2 h0
  refine ⟨v, e216 H l473 hl _ (hv' _ (e216_5 hV l473 hl _ ?_)), i3⟩
  rw [if_pos (Int.le_refl _), gdi (by omega) (by omega)]
  have : gI v (473 + 21) 0 = (evN V R.2 R.1).2 0 := i2 0 (by rw [hd1, hd2]; omega)
  rw [this]
  rfl
