/-! the class reads a line -/
section LM
variable {T : Row} {n M t : Nat} {w : Wd} {y : LZ} {q : QZ}
theorem isNu_ld : isNu (ld T n y) = (decide (ld T n y = 1) || decide (ld T n y = 2)) := rfl
/-- the rest of a walk, then the person is added -/
theorem z50w {j : Nat} {L W Mn : Int} {mi : Bool} (hT : TK (KT T n) (VT T n) M) (ht : tOK t) : ∀ (f k : Nat) (w : Wd) (y : LZ), k + f = 7 → 1 ≤ k → RY T n M t w y → (y.1 = 0 → RWp w t (VT T n) q j k ∧ y.2 = j + k ∧ ∀ p, p < vn q → vX q p ≤ 6) →
    ∃ w' k', Rf (s50_80 12 (b2i mi) L W Mn k' w') (s50_54 12 (b2i mi) L W Mn k w) ∧ RY T n M t w' (lWk (KT T n) (VT T n) (vk q) f k y) ∧ FrL t w w' ∧
      ((lWk (KT T n) (VT T n) (vk q) f k y).1 = 0 → ∃ m, RWp w' t (VT T n) q j m ∧ (lWk (KT T n) (VT T n) (vk q) f k y).2 = j + m ∧ k ≤ m) := by
  intro f
  induction f with
  | zero =>
    intro k w y hk hk1 h hp
    refine ⟨w, (k : Int), fun o ho => e50_54 h.1 l12 _ (by rw [if_pos (by omega)]; exact ho), h, FrL.rf, fun z => ⟨k, (hp z).1, (hp z).2.1, Nat.le_refl _⟩⟩
  | succ f ih =>
    intro k w y hk hk1 h hp
    unfold lWk
    by_cases z : y.1 = 0 ∧ isNu (KT T n y.2) = true
    · rw [if_pos z]
      obtain ⟨z1, z2⟩ := z
      obtain ⟨w1, a1, a2, a3, a4⟩ := z51 (k := k) hT ht h (by omega) hp
      obtain ⟨w2, k2, b1, b2, b3, b4⟩ := ih (k + 1) w1 _ (by omega) (by omega) a2 (fun q => ⟨(a4 q).1, (a4 q).2, (hp z1).2.2⟩)
      refine ⟨w2, k2, fun o ho => e50_54 h.1 l12 _ ?_, b2, a3.tr b3, fun q => ?_⟩
      · have e1 : (decide (ld T n y = 1) || decide (ld T n y = 2)) = true := by rw [ld_0 z1]; exact z2
        rw [if_neg (by omega), z43 h, e1, bI_r h.1, if_neg (by decide), a1, b0_r a2.1, wrs (by omega)]
        exact b1 o ho
      · obtain ⟨m, m1, m2, m3⟩ := b4 q
        exact ⟨m, m1, m2, by omega⟩
    · rw [if_neg z]
      refine ⟨w, (k : Int), fun o ho => e50_54 h.1 l12 _ ?_, h, FrL.rf, fun z => ⟨k, (hp z).1, (hp z).2.1, Nat.le_refl _⟩⟩
      have e1 : (decide (ld T n y = 1) || decide (ld T n y = 2)) = false := by
        by_cases z1 : y.1 = 0
        · rw [ld_0 z1]
          cases u : isNu (KT T n y.2)
          · exact u
          · exact absurd ⟨z1, u⟩ z
        · rw [ld_n z1]; rfl
      rw [if_neg (by omega), z43 h, e1, bI_r h.1, if_pos (by decide)]
      exact ho
theorem lNm_s {K V : Nat → Int} {lo hi : Int} (h : (lNm K V lo hi y).1 = 0) : y.1 = 0 ∧ (lNm K V lo hi y).2 = y.2 + 1 := by
  unfold lNm at h ⊢
  by_cases z : y.1 = 0
  · rw [if_neg (fun u => u z)] at h ⊢
    by_cases z1 : K y.2 ≠ 1 ∧ K y.2 ≠ 2
    · rw [if_pos z1] at h; exact absurd (show (1 : Int) = 0 from h) (by decide)
    · rw [if_neg z1] at h ⊢
      by_cases z2 : K y.2 = 1 ∧ lo ≤ V y.2 ∧ V y.2 ≤ hi
      · rw [if_pos z2]; exact ⟨z, rfl⟩
      · rw [if_neg z2] at h; exact absurd (show (2 : Int) = 0 from h) (by decide)
  · rw [if_pos z] at h; exact absurd h z
theorem lCn_s {K V : Nat → Int} {crn : Int} {k : Nat} (h : (lCn K V crn k y).1 = 0) : y.1 = 0 := by
  unfold lCn at h
  by_cases z : y.1 = 0
  · exact z
  · rw [if_pos z] at h; exact h
theorem lWk_s {K V : Nat → Int} {crn : Int} : ∀ (f k : Nat) (y : LZ), (lWk K V crn f k y).1 = 0 → y.1 = 0 := by
  intro f
  induction f with
  | zero => intro k y h; exact h
  | succ f ih =>
    intro k y h
    unfold lWk at h
    by_cases z : y.1 = 0 ∧ isNu (K y.2) = true
    · exact z.1
    · rw [if_neg z] at h; exact h
theorem lCn_2 {K V : Nat → Int} {crn : Int} {k : Nat} (h : (lCn K V crn k y).1 = 0) : k < 6 ∧ (lCn K V crn k y).2 = y.2 + 1 := by
  have z := lCn_s h
  unfold lCn at h ⊢
  rw [if_neg (fun u => u z)] at h ⊢
  by_cases z1 : K y.2 ≠ 1 ∧ K y.2 ≠ 2
  · rw [if_pos z1] at h; exact absurd (show (1 : Int) = 0 from h) (by decide)
  · rw [if_neg z1] at h ⊢
    by_cases z2 : K y.2 = 2 ∨ 6 ≤ k
    · rw [if_pos z2] at h; exact absurd (show (2 : Int) = 0 from h) (by decide)
    · rw [if_neg z2] at h ⊢
      by_cases z3 : crn ≤ V y.2
      · rw [if_pos z3] at h; exact absurd (show (3 : Int) = 0 from h) (by decide)
      · rw [if_neg z3]; exact ⟨by omega, rfl⟩
theorem lWk_b {K V : Nat → Int} {crn : Int} : ∀ (f k : Nat) (y : LZ), (lWk K V crn f k y).1 = 0 → y.2 ≤ (lWk K V crn f k y).2 ∧ (lWk K V crn f k y).2 ≤ y.2 + (6 - k) := by
  intro f
  induction f with
  | zero => intro k y h; exact ⟨Nat.le_refl _, Nat.le_add_right _ _⟩
  | succ f ih =>
    intro k y h
    unfold lWk at h ⊢
    by_cases z : y.1 = 0 ∧ isNu (K y.2) = true
    · rw [if_pos z] at h ⊢
      have h1 := lWk_s _ _ _ h
      obtain ⟨h2, h3⟩ := lCn_2 h1
      obtain ⟨h4, h5⟩ := ih _ _ h
      omega
    · rw [if_neg z]; exact ⟨Nat.le_refl _, Nat.le_add_right _ _⟩
theorem z33x (H : LR w) (ht : tOK t) {a b c d : Int} : ∃ w', F33 t a b c d w = r0 w' ∧ FrI (fun c => t ≤ c ∧ c ≤ t + 9) w w' ∧ FrL t w w' := by
  have hl := lt4 ht
  by_cases h0 : gI w t 1 < 0
  · exact ⟨w, e33 H hl _ (by rw [show F31 t w = rI 0 w from e31 H hl _ (if_pos h0), bI_r H, if_neg (by decide)]), FrI.rf, FrL.rf⟩
  by_cases h8 : 8 ≤ gI w t 1
  · exact ⟨w, e33 H hl _ (by rw [show F31 t w = rI 0 w from e31 H hl _ (by rw [if_neg h0, if_pos h8]), bI_r H, if_neg (by decide)]), FrI.rf, FrL.rf⟩
  obtain ⟨p, hp⟩ : ∃ p : Nat, gI w t 1 = p := ⟨(gI w t 1).toNat, by omega⟩
  have e1 : gI (pI w (t + 1) p a) t 1 = p := by rw [gI_r (by omega)]; exact hp
  have e2 : gI (pI (pI w (t + 1) p a) (t + 2) p b) t 1 = p := by rw [gI_r (by omega)]; exact e1
  have e31' : F31 t w = rI 1 w := e31 H hl _ (by rw [if_neg h0, if_neg h8])
  by_cases hd : d = 0
  · refine ⟨_, e33 H hl _ (by rw [e31', bI_r H, if_pos (by decide), hp, gdi (by omega) (by omega), nn, e1, gdi (by omega) (by omega), nn, e2, gdi (by omega) (by omega), nn, if_pos hd]), ((((FrI.p (A := fun c => t ≤ c ∧ c ≤ t + 9) (by omega)).pp (by omega)).pp (by omega)).pp (by omega)).pp (by omega), ((((FrL.pw (by omega) (by omega)).tr (FrL.pw (by omega) (by omega))).tr (FrL.pw (by omega) (by omega))).tr ((FrI.p (A := fun c => c = t) rfl).L ht (fun c hc => Or.inr (Or.inl hc)))).tr ((FrI.p (A := fun c => c = t) rfl).L ht (fun c hc => Or.inr (Or.inl hc)))⟩
  · refine ⟨_, e33 H hl _ (by rw [e31', bI_r H, if_pos (by decide), hp, gdi (by omega) (by omega), nn, e1, gdi (by omega) (by omega), nn, e2, gdi (by omega) (by omega), nn, if_neg hd]), ((((FrI.p (A := fun c => t ≤ c ∧ c ≤ t + 9) (by omega)).pp (by omega)).pp (by omega)).pp (by omega)).pp (by omega), ((((FrL.pw (by omega) (by omega)).tr (FrL.pw (by omega) (by omega))).tr (FrL.pw (by omega) (by omega))).tr ((FrI.p (A := fun c => c = t) rfl).L ht (fun c hc => Or.inr (Or.inl hc)))).tr ((FrI.p (A := fun c => c = t) rfl).L ht (fun c hc => Or.inr (Or.inl hc)))⟩
theorem lGo_s (h : (lGo y).1 = 0) : y.1 = 0 := by
  unfold lGo at h
  by_cases z : y.1 = 0
  · exact z
  · rw [if_neg z] at h; exact h
theorem lGo_0 (h : y.1 = 0) : lGo y = (0, y.2 + 1) := if_pos h
/-- what the reader holds at a line's start -/
def QOz (q : QZ) : Prop := vn q ≤ 8 ∧ (∀ p, vn q ≤ p → vm q p = false) ∧ ∀ p, p < vn q → vX q p ≤ 6
def RLz (T : Row) (n M t : Nat) (w : Wd) (a : LZ × QZ) : Prop := RY T n M t w a.1 ∧ (a.1.1 = 0 → RQz w t a.2 ∧ QOz a.2 ∧ ∀ p, vn a.2 ≤ p → p < 8 → gI w (t + 4) p = 0)
theorem z50 {mi : Bool} (hT : TK (KT T n) (VT T n) M) (ht : tOK t) (h : RLz T n M t w (y, q)) (z : y.1 = 0) (hk : KT T n y.2 ≠ 0) (h8 : vn q ≠ 8) :
    ∃ w', F50 12 (b2i mi) w = r0 w' ∧ RLz T n M t w' (lPe (KT T n) (VT T n) (vk q) y, qPe (VT T n) mi y.2 ((lPe (KT T n) (VT T n) (vk q) y).2 - (y.2 + 4)) q) ∧ FrL t w w' := by
  have ht' : t = 2 ∨ t = 17 := ht
  obtain ⟨hY, hQ⟩ := h
  have hY : RY T n M t w y := hY
  obtain ⟨q1, q2, q3⟩ := hQ z
  have q1 : RQz w t q := q1
  have q2 : QOz q := q2
  have q3 : ∀ p, vn q ≤ p → p < 8 → gI w (t + 4) p = 0 := q3
  have hv8 : vn q < 8 := by have := q2.1; omega
  have g1 : gI w t 1 = vn q := q1.1.2.1
  obtain ⟨w1, a1, a2, a3⟩ := z42 hT hY (fun _ => hk)
  obtain ⟨w2, L, b1, b2, b3, b4⟩ := z46 (lo := 0) (hi := 999) hT a2
  obtain ⟨w3, W, c1, c2, c3, c4⟩ := z46 (lo := 0) (hi := 59) hT b2
  obtain ⟨w4, Mn, d1, d2, d3, d4⟩ := z46 (lo := 0) (hi := 9) hT c2
  have fr := ((a3.tr b3).tr c3).tr d3
  have hp4 : (lNm (KT T n) (VT T n) 0 9 (lNm (KT T n) (VT T n) 0 59 (lNm (KT T n) (VT T n) 0 999 (lGo y)))).1 = 0 → RWp w4 t (VT T n) q (y.2 + 4) 0 ∧ (lNm (KT T n) (VT T n) 0 9 (lNm (KT T n) (VT T n) 0 59 (lNm (KT T n) (VT T n) 0 999 (lGo y)))).2 = y.2 + 4 + 0 ∧ ∀ p, p < vn q → vX q p ≤ 6 := by
    intro u
    obtain ⟨u1, u2⟩ := lNm_s u
    obtain ⟨u3, u4⟩ := lNm_s u1
    obtain ⟨u5, u6⟩ := lNm_s u3
    rw [lGo_0 z] at u6
    have u6 : (lNm (KT T n) (VT T n) 0 999 (lGo y)).2 = y.2 + 1 + 1 := by rw [lGo_0 z]; exact u6
    refine ⟨⟨q1.Y fr ht, hv8, ?_, fun i hi => absurd hi (Nat.not_lt_zero _), fun p p1 p2 => ?_⟩, by omega, q2.2.2⟩
    · rw [fr.1.g (by omega)]; exact q3 _ (Nat.le_refl _) hv8
    · rw [fr.1.g (by omega)]; exact q3 p (by omega) p2
  obtain ⟨w5, e1, e2, e3, e4⟩ := z51 (k := 0) (j := y.2 + 4) hT ht d2 (by decide) hp4
  obtain ⟨w6, k6, f1, f2, f3, f4⟩ := z50w (L := L) (W := W) (Mn := Mn) (mi := mi) (j := y.2 + 4) (q := q) hT ht 6 1 w5 _ rfl (Nat.le_refl _) e2 (fun u => ⟨(e4 u).1, (e4 u).2, q2.2.2⟩)
  have FL : FrL t w w6 := ((fr.L ht).tr e3).tr f3
  have key : ∀ w7, F33 t L W Mn (b2i mi) w6 = r0 w7 → LR w7 → F50 12 (b2i mi) w = r0 w7 := by
    intro w7 g7 H7
    refine e50 hY.1 l12 _ ?_
    rw [hY.2.2.1, gQ_t (lt4 ht), z31 hY.1 ht g1, bI_r hY.1, decide_eq_true hv8, if_pos (by decide), a1, b0_r a2.1, b1, bI_r b2.1, c1, bI_r c2.1, d1, bI_r d2.1, show F51 12 0 w4 = r0 w5 from e1, b0_r e2.1]
    refine f1 _ (e50_80 f2.1 l12 _ ?_)
    rw [f2.2.2.1, gQ_t (lt4 ht), g7, b0_r H7]
  by_cases u : (lPe (KT T n) (VT T n) (vk q) y).1 = 0
  · obtain ⟨m, m1, m2, m3⟩ := f4 u
    have u1 := lWk_s 6 1 _ u
    have u2 := lCn_s u1
    obtain ⟨v1, v2, v3, v4⟩ := d4 u2
    obtain ⟨v5, v6, v7, v8⟩ := c4 v1
    obtain ⟨v9, va', vb, vc'⟩ := b4 v5
    obtain ⟨x1, x2⟩ := lNm_s u2
    obtain ⟨x3, x4⟩ := lNm_s x1
    obtain ⟨x5, x6⟩ := lNm_s x3
    have y1 : (lGo y).2 = y.2 + 1 := by rw [lGo_0 z]
    have eL : L = VT T n (y.2 + 1) := by rw [va', y1]
    have eW : W = VT T n (y.2 + 2) := by rw [v6, x6, y1]
    have eM : Mn = VT T n (y.2 + 3) := by rw [v2, x4, x6, y1]
    have m6 : m ≤ 6 := by
      have h5 := lWk_b _ _ _ u
      have h6 := (e4 u1).2
      have h7 : (lPe (KT T n) (VT T n) (vk q) y).2 = y.2 + 4 + m := m2
      unfold lPe at h7
      omega
    clear f4 e4 hp4 hQ b4 c4 d4
    obtain ⟨g1', g2', g3', g4', g5'⟩ := m1
    have e33' := z33 (a := L) (b := W) (c := Mn) (mi := mi) f2.1 ht g1'.1.2.1 hv8 g1'.1.2.2.2 (q2.2.1 _ (Nat.le_refl _))
    have em : (lPe (KT T n) (VT T n) (vk q) y).2 - (y.2 + 4) = m := by
      have : (lPe (KT T n) (VT T n) (vk q) y).2 = y.2 + 4 + m := m2
      omega
    rw [em]
    have fz : FrI (fun c => t ≤ c ∧ c ≤ t + 9) w6 (pI (pI (pI (pI (pI w6 (t + 1) (vn q) L) (t + 2) (vn q) W) (t + 3) (vn q) Mn) t 3 (mk (fun i => if i = vn q then mi else vm q i) 8)) t 1 ((vn q + 1 : Nat) : Int)) := ((((FrI.p (A := fun c => t ≤ c ∧ c ≤ t + 9) (by omega)).pp (by omega)).pp (by omega)).pp (by omega)).pp (by omega)
    have fzL : FrL t w6 (pI (pI (pI (pI (pI w6 (t + 1) (vn q) L) (t + 2) (vn q) W) (t + 3) (vn q) Mn) t 3 (mk (fun i => if i = vn q then mi else vm q i) 8)) t 1 ((vn q + 1 : Nat) : Int)) := ((((FrL.pw (by omega) hv8).tr (FrL.pw (by omega) hv8)).tr (FrL.pw (by omega) hv8)).tr ((FrI.p (A := fun c => c = t) rfl).L ht (fun c hc => Or.inr (Or.inl hc)))).tr ((FrI.p (A := fun c => c = t) rfl).L ht (fun c hc => Or.inr (Or.inl hc)))
    have gc : ∀ c, c ≠ t → c ≠ t + 1 → c ≠ t + 2 → c ≠ t + 3 → gI (pI (pI (pI (pI (pI w6 (t + 1) (vn q) L) (t + 2) (vn q) W) (t + 3) (vn q) Mn) t 3 (mk (fun i => if i = vn q then mi else vm q i) 8)) t 1 ((vn q + 1 : Nat) : Int)) c = gI w6 c := fun c x1 x2 x3 x4 => by rw [gI_r x1, gI_r x1, gI_r x4, gI_r x3, gI_r x2]
    have g0 : ∀ i, gI (pI (pI (pI (pI (pI w6 (t + 1) (vn q) L) (t + 2) (vn q) W) (t + 3) (vn q) Mn) t 3 (mk (fun i => if i = vn q then mi else vm q i) 8)) t 1 ((vn q + 1 : Nat) : Int)) t i = if i = 1 then ((vn q + 1 : Nat) : Int) else if i = 3 then mk (fun i => if i = vn q then mi else vm q i) 8 else gI w6 t i := fun i => by
      by_cases o1 : i = 1
      · rw [if_pos o1, o1, gI_s]
      · rw [if_neg o1, gI_c o1]
        by_cases o3 : i = 3
        · rw [if_pos o3, o3, gI_s]
        · rw [if_neg o3, gI_c o3, gI_r (by omega), gI_r (by omega), gI_r (by omega)]
    have r1 : gI (pI (pI (pI (pI (pI w6 (t + 1) (vn q) L) (t + 2) (vn q) W) (t + 3) (vn q) Mn) t 3 (mk (fun i => if i = vn q then mi else vm q i) 8)) t 1 ((vn q + 1 : Nat) : Int)) (t + 1) = va_up (vL q) (vn q) L := by
      rw [gI_r (by omega), gI_r (by omega), gI_r (by omega), gI_r (by omega), gI_p, g1'.2.1.1]
    have r2 : gI (pI (pI (pI (pI (pI w6 (t + 1) (vn q) L) (t + 2) (vn q) W) (t + 3) (vn q) Mn) t 3 (mk (fun i => if i = vn q then mi else vm q i) 8)) t 1 ((vn q + 1 : Nat) : Int)) (t + 2) = va_up (vW q) (vn q) W := by
      rw [gI_r (by omega), gI_r (by omega), gI_r (by omega), gI_p, gI_r (by omega), g1'.2.1.2.1]
    have r3 : gI (pI (pI (pI (pI (pI w6 (t + 1) (vn q) L) (t + 2) (vn q) W) (t + 3) (vn q) Mn) t 3 (mk (fun i => if i = vn q then mi else vm q i) 8)) t 1 ((vn q + 1 : Nat) : Int)) (t + 3) = va_up (vM q) (vn q) Mn := by
      rw [gI_r (by omega), gI_r (by omega), gI_p, gI_r (by omega), gI_r (by omega), g1'.2.1.2.2]
    revert e33' fz fzL gc g0 r1 r2 r3
    generalize pI (pI (pI (pI (pI w6 (t + 1) (vn q) L) (t + 2) (vn q) W) (t + 3) (vn q) Mn) t 3 (mk (fun i => if i = vn q then mi else vm q i) 8)) t 1 ((vn q + 1 : Nat) : Int) = wx
    intro e33' fz fzL gc g0 r1 r2 r3
    have HX := fz.LR f2.1
    have c12 : gI wx 12 = gI w6 12 := gc 12 (by omega) (by omega) (by omega) (by omega)
    obtain ⟨s1, s2, s3, s4, s5, s6, s7⟩ := f2
    refine ⟨wx, key wx e33' HX, ⟨⟨HX, s2.ext (fun b b1 b2 => gc b (by omega) (by omega) (by omega) (by omega)), by rw [fz.R]; exact s3, by rw [c12]; exact s4, by rw [c12]; exact s5, by rw [c12]; exact s6, s7⟩, fun _ => ⟨?_, ?_, fun p p1 p2 => ?_⟩⟩, FL.tr fzL⟩
    · have h6 : ∀ i, gI wx (t + 6) i = gI w6 (t + 6) i := fun i => by rw [gc _ (by omega) (by omega) (by omega) (by omega)]
      refine ⟨⟨?_, ?_, ?_, ?_⟩, ⟨?_, ?_, ?_⟩, fun p hp => ?_, ?_, ?_, ?_, ?_⟩
      · rw [g0, if_neg (by decide), if_neg (by decide)]; exact g1'.1.1
      · rw [g0, if_pos rfl]; rfl
      · rw [g0, if_neg (by decide), if_neg (by decide)]; exact g1'.1.2.2.1
      · rw [g0, if_neg (by decide), if_pos rfl]; rfl
      · rw [r1, eL]; rfl
      · rw [r2, eW]; rfl
      · rw [r3, eM]; rfl
      · have hp : p < vn q + 1 := hp
        rw [gc (t + 4) (by omega) (by omega) (by omega) (by omega), gc (t + 5) (by omega) (by omega) (by omega) (by omega)]
        show gI w6 (t + 4) p = ((va_up (vX q) (vn q) m p : Nat) : Int) ∧ ∀ i, i < va_up (vX q) (vn q) m p → gI w6 (t + 5) (6 * p + i) = va_up (vw q) (vn q) (fun i => VT T n (y.2 + 4 + i)) p i
        by_cases o : p = vn q
        · subst o
          rw [up_s, up_s]
          exact ⟨g3', g4'⟩
        · rw [up_c o, up_c o]
          exact g1'.2.2.1 p (by omega)
      · rw [gc (t + 6) (by omega) (by omega) (by omega) (by omega), gc (t + 7) (by omega) (by omega) (by omega) (by omega)]; exact g1'.2.2.2.1
      · rw [gc (t + 8) (by omega) (by omega) (by omega) (by omega), gc (t + 9) (by omega) (by omega) (by omega) (by omega)]; exact g1'.2.2.2.2.1
      · rw [c12]; exact g1'.2.2.2.2.2.1
      · rw [c12]; exact g1'.2.2.2.2.2.2
    · refine ⟨by show vn q + 1 ≤ 8; omega, fun p hp => ?_, fun p hp => ?_⟩
      · have hp : vn q + 1 ≤ p := hp
        show (if p = vn q then mi else vm q p) = false
        rw [if_neg (by omega)]; exact q2.2.1 p (by omega)
      · have hp : p < vn q + 1 := hp
        show va_up (vX q) (vn q) m p ≤ 6
        by_cases o : p = vn q
        · rw [o, up_s]; exact m6
        · rw [up_c o]; exact q2.2.2 p (by omega)
    · have p1 : vn q + 1 ≤ p := p1
      rw [gc (t + 4) (by omega) (by omega) (by omega) (by omega)]
      exact g5' p (by omega) p2
  · clear f4 e4 hp4 hQ b4 c4 d4
    obtain ⟨wx, x1, x2, x3⟩ := z33x (a := L) (b := W) (c := Mn) (d := b2i mi) f2.1 ht
    have c12 : gI wx 12 = gI w6 12 := x2.g (by omega)
    have HX := x2.LR f2.1
    obtain ⟨s1, s2, s3, s4, s5, s6, s7⟩ := f2
    exact ⟨wx, key wx x1 HX, ⟨⟨HX, s2.ext (fun b b1 b2 => x2.g (by omega)), by rw [x2.R]; exact s3, by rw [c12]; exact s4, by rw [c12]; exact s5, by rw [c12]; exact s6, s7⟩, fun r => absurd r u⟩, FL.tr x3⟩
end LM
