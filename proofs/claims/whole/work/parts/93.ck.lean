/-! what a text tells is a quay -/
def QK (q : QZ) : Prop := vn q ≤ 8 ∧ (2 ≤ vk q ∧ vk q ≤ 6) ∧ (0 ≤ vc q ∧ vc q < 60) ∧ (∀ p, (0 ≤ vL q p ∧ vL q p ≤ 999) ∧ (0 ≤ vW q p ∧ vW q p < 60) ∧ 0 ≤ vM q p ∧ vM q p ≤ 9) ∧ (∀ p, vn q ≤ p → vL q p = 0 ∧ vW q p = 0 ∧ vM q p = 0) ∧
  (∀ p, p < vn q → (1 ≤ vX q p ∧ vX q p ≤ 6) ∧ ∀ i, i < vX q p → 0 ≤ vw q p i ∧ vw q p i < vk q) ∧ (∀ p, vn q ≤ p → vm q p = false) ∧ okRule (va q) ∧ okRule (vs q) ∧ ∀ i, i < (va q).1 → (va q).2 i ≤ 113
section QK
variable {K V : Nat → Int} {M : Nat} {y : LZ} {q : QZ}
theorem lNm_v {lo hi : Int} (h : (lNm K V lo hi y).1 = 0) : K y.2 = 1 ∧ lo ≤ V y.2 ∧ V y.2 ≤ hi := by
  unfold lNm at h
  by_cases z : y.1 = 0
  · rw [if_neg (fun u => u z)] at h
    by_cases z1 : K y.2 ≠ 1 ∧ K y.2 ≠ 2
    · rw [if_pos z1] at h; exact absurd (show (1 : Int) = 0 from h) (by decide)
    · rw [if_neg z1] at h
      by_cases z2 : K y.2 = 1 ∧ lo ≤ V y.2 ∧ V y.2 ≤ hi
      · exact z2
      · rw [if_neg z2] at h; exact absurd (show (2 : Int) = 0 from h) (by decide)
  · rw [if_pos z] at h; exact absurd h z
theorem lCn_v {crn : Int} {k : Nat} (h : (lCn K V crn k y).1 = 0) : K y.2 = 1 ∧ V y.2 < crn := by
  have z := lCn_s h
  unfold lCn at h
  rw [if_neg (fun u => u z)] at h
  by_cases z1 : K y.2 ≠ 1 ∧ K y.2 ≠ 2
  · rw [if_pos z1] at h; exact absurd (show (1 : Int) = 0 from h) (by decide)
  · rw [if_neg z1] at h
    by_cases z2 : K y.2 = 2 ∨ 6 ≤ k
    · rw [if_pos z2] at h; exact absurd (show (2 : Int) = 0 from h) (by decide)
    · rw [if_neg z2] at h
      by_cases z3 : crn ≤ V y.2
      · rw [if_pos z3] at h; exact absurd (show (3 : Int) = 0 from h) (by decide)
      · exact ⟨by omega, by omega⟩
theorem lWk_v {crn : Int} : ∀ (f k : Nat) (y : LZ), (lWk K V crn f k y).1 = 0 → ∀ i, y.2 ≤ i → i < (lWk K V crn f k y).2 → K i = 1 ∧ V i < crn := by
  intro f
  induction f with
  | zero => intro k y h i h1 h2; exact absurd h2 (by show ¬ i < y.2; omega)
  | succ f ih =>
    intro k y h i h1 h2
    unfold lWk at h h2
    by_cases z : y.1 = 0 ∧ isNu (K y.2) = true
    · rw [if_pos z] at h h2
      have h3 := lWk_s _ _ _ h
      have h4 := lCn_v h3
      have h5 := (lCn_2 h3).2
      by_cases u : i = y.2
      · rw [u]; exact h4
      · exact ih _ _ h i (by omega) h2
    · rw [if_neg z] at h2
      exact absurd h2 (by omega)
/-- the tokens of a person's line -/
theorem lPe_v {crn : Int} (z : y.1 = 0) (h : (lPe K V crn y).1 = 0) : (K (y.2 + 1) = 1 ∧ 0 ≤ V (y.2 + 1) ∧ V (y.2 + 1) ≤ 999) ∧ (K (y.2 + 2) = 1 ∧ 0 ≤ V (y.2 + 2) ∧ V (y.2 + 2) ≤ 59) ∧ (K (y.2 + 3) = 1 ∧ 0 ≤ V (y.2 + 3) ∧ V (y.2 + 3) ≤ 9) ∧
    y.2 + 5 ≤ (lPe K V crn y).2 ∧ (lPe K V crn y).2 ≤ y.2 + 10 ∧ ∀ i, y.2 + 4 ≤ i → i < (lPe K V crn y).2 → K i = 1 ∧ V i < crn := by
  unfold lPe at h ⊢
  have h1 := lWk_s _ _ _ h
  have h2 := lCn_s h1
  obtain ⟨x1, x2⟩ := lNm_s h2
  obtain ⟨x3, x4⟩ := lNm_s x1
  obtain ⟨x5, x6⟩ := lNm_s x3
  have v3 := lNm_v h2
  have v2 := lNm_v x1
  have v1 := lNm_v x3
  have eg : (lGo y).2 = y.2 + 1 := by rw [lGo_0 z]
  have c1 := lCn_v h1
  have c2 := (lCn_2 h1).2
  have w1 := lWk_b _ _ _ h
  have w2 := lWk_v _ _ _ h
  rw [eg] at v1 x6
  rw [x6] at v2 x4
  rw [x4] at v3 x2
  rw [x2] at c1 c2
  rw [c2] at w1 w2
  refine ⟨v1, v2, v3, w1.1, by omega, fun i i1 i2 => ?_⟩
  by_cases u : i = y.2 + 4
  · rw [u]; exact c1
  · exact w2 i (by omega) i2
theorem lEx_j {S : Bool} {j : Nat} (hT : TK K V M) : j + 1 ≤ (lEx K V S j).2.1 := (Mo.e (S := S) hT 6 (0, j + 1, 0, fun _ => 0)).2.1
theorem lNm_j {lo hi : Int} : y.2 ≤ (lNm K V lo hi y).2 := by
  unfold lNm
  split
  · exact Nat.le_refl _
  · split
    · exact Nat.le_refl _
    · split
      · exact Nat.le_succ _
      · exact Nat.le_refl _
theorem rLn_j (hT : TK K V M) (h : (rLn K V (y, q)).1.1 = 0) : y.1 = 0 ∧ y.2 + 1 ≤ (rLn K V (y, q)).1.2 := by
  unfold rLn at h ⊢
  dsimp only at h ⊢
  by_cases z : y.1 = 0
  · refine ⟨z, ?_⟩
    rw [if_neg (fun u => u z)] at h ⊢
    by_cases c0 : K y.2 = 100
    · rw [if_pos c0] at h ⊢
      by_cases c1 : 0 < vn q
      · rw [if_pos c1] at h; exact absurd (show (4 : Int) = 0 from h) (by decide)
      · rw [if_neg c1] at h ⊢
        by_cases c2 : vd q = true
        · rw [if_pos c2] at h; exact absurd (show (5 : Int) = 0 from h) (by decide)
        · rw [if_neg c2]
          have := lNm_j (K := K) (V := V) (lo := 2) (hi := 6) (y := lGo y)
          rw [lGo_0 z] at this ⊢
          exact this
    rw [if_neg c0] at h ⊢
    by_cases c1 : K y.2 = 101 ∨ K y.2 = 102
    · rw [if_pos c1] at h ⊢
      by_cases c8 : vn q = 8
      · rw [if_pos c8] at h; exact absurd (show (2 : Int) = 0 from h) (by decide)
      · rw [if_neg c8] at h ⊢
        have := lPe_v z h
        show y.2 + 1 ≤ (lPe K V (vk q) y).2
        omega
    rw [if_neg c1] at h ⊢
    by_cases c2 : K y.2 = 103
    · rw [if_pos c2] at h ⊢
      by_cases c3 : ve q = true
      · rw [if_pos c3] at h; exact absurd (show (5 : Int) = 0 from h) (by decide)
      · rw [if_neg c3]
        have := lNm_j (K := K) (V := V) (lo := 0) (hi := 59) (y := lGo y)
        rw [lGo_0 z] at this ⊢
        exact this
    rw [if_neg c2] at h ⊢
    by_cases c3 : K y.2 = 104
    · rw [if_pos c3] at h ⊢
      by_cases c4 : 0 < (va q).1
      · rw [if_pos c4] at h; exact absurd (show (5 : Int) = 0 from h) (by decide)
      · rw [if_neg c4]; exact lEx_j hT
    rw [if_neg c3] at h ⊢
    by_cases c4 : K y.2 = 105
    · rw [if_pos c4] at h ⊢
      by_cases c5 : 0 < (vs q).1
      · rw [if_pos c5] at h; exact absurd (show (5 : Int) = 0 from h) (by decide)
      · rw [if_neg c5]; exact lEx_j hT
    rw [if_neg c4] at h; exact absurd (show (1 : Int) = 0 from h) (by decide)
  · rw [if_pos z] at h; exact absurd h z
theorem QK_rLn (hT : TK K V M) (hq : QK q) (hk : K y.2 ≠ 0) (h : (rLn K V (y, q)).1.1 = 0) : QK (rLn K V (y, q)).2 := by
  have z := (rLn_j hT h).1
  have hj := hT.lt hk
  obtain ⟨q1, q2, q3, q4, q5, q6, q7, q8, q9, q10⟩ := hq
  unfold rLn at h ⊢
  dsimp only at h ⊢
  rw [if_neg (fun u => u z)] at h ⊢
  by_cases c0 : K y.2 = 100
  · rw [if_pos c0] at h ⊢
    by_cases c1 : 0 < vn q
    · rw [if_pos c1] at h; exact absurd (show (4 : Int) = 0 from h) (by decide)
    · rw [if_neg c1] at h ⊢
      by_cases c2 : vd q = true
      · rw [if_pos c2] at h; exact absurd (show (5 : Int) = 0 from h) (by decide)
      · rw [if_neg c2] at h ⊢
        have hv := lNm_v h
        rw [lGo_0 z] at hv
        exact ⟨q1, ⟨hv.2.1, hv.2.2⟩, q3, q4, q5, fun p hp => absurd hp (by show ¬ p < vn q; omega), q7, q8, q9, q10⟩
  rw [if_neg c0] at h ⊢
  by_cases c1 : K y.2 = 101 ∨ K y.2 = 102
  · rw [if_pos c1] at h ⊢
    by_cases c8 : vn q = 8
    · rw [if_pos c8] at h; exact absurd (show (2 : Int) = 0 from h) (by decide)
    · rw [if_neg c8] at h ⊢
      obtain ⟨p1, p2, p3, p4, p5, p6⟩ := lPe_v z h
      refine ⟨by show vn q + 1 ≤ 8; omega, q2, q3, fun p => ?_, fun p hp => ?_, fun p hp => ?_, fun p hp => ?_, q8, q9, q10⟩
      · show (0 ≤ va_up (vL q) (vn q) (V (y.2 + 1)) p ∧ va_up (vL q) (vn q) (V (y.2 + 1)) p ≤ 999) ∧ (0 ≤ va_up (vW q) (vn q) (V (y.2 + 2)) p ∧ va_up (vW q) (vn q) (V (y.2 + 2)) p < 60) ∧ 0 ≤ va_up (vM q) (vn q) (V (y.2 + 3)) p ∧ va_up (vM q) (vn q) (V (y.2 + 3)) p ≤ 9
        by_cases u : p = vn q
        · rw [u, up_s, up_s, up_s]; omega
        · rw [up_c u, up_c u, up_c u]; exact q4 p
      · have hp : vn q + 1 ≤ p := hp
        show va_up (vL q) (vn q) (V (y.2 + 1)) p = 0 ∧ va_up (vW q) (vn q) (V (y.2 + 2)) p = 0 ∧ va_up (vM q) (vn q) (V (y.2 + 3)) p = 0
        rw [up_c (by omega), up_c (by omega), up_c (by omega)]
        exact q5 p (by omega)
      · have hp : p < vn q + 1 := hp
        show (1 ≤ va_up (vX q) (vn q) ((lPe K V (vk q) y).2 - (y.2 + 4)) p ∧ va_up (vX q) (vn q) ((lPe K V (vk q) y).2 - (y.2 + 4)) p ≤ 6) ∧ ∀ i, i < va_up (vX q) (vn q) ((lPe K V (vk q) y).2 - (y.2 + 4)) p → 0 ≤ va_up (vw q) (vn q) (fun i => V (y.2 + 4 + i)) p i ∧ va_up (vw q) (vn q) (fun i => V (y.2 + 4 + i)) p i < vk q
        by_cases u : p = vn q
        · rw [u, up_s, up_s]
          refine ⟨by omega, fun i hi => ?_⟩
          obtain ⟨k1, k2⟩ := p6 (y.2 + 4 + i) (by omega) (by omega)
          exact ⟨(hT.2.2.2.1 _ k1).1, k2⟩
        · rw [up_c u, up_c u]; exact q6 p (by omega)
      · have hp : vn q + 1 ≤ p := hp
        show (if p = vn q then decide (K y.2 = 102) else vm q p) = false
        rw [if_neg (by omega)]; exact q7 p (by omega)
  rw [if_neg c1] at h ⊢
  by_cases c2 : K y.2 = 103
  · rw [if_pos c2] at h ⊢
    by_cases c3 : ve q = true
    · rw [if_pos c3] at h; exact absurd (show (5 : Int) = 0 from h) (by decide)
    · rw [if_neg c3] at h ⊢
      have hv := lNm_v h
      rw [lGo_0 z] at hv
      have hv2 := hv.2.2
      exact ⟨q1, q2, ⟨hv.2.1, by show V (y.2 + 1) < 60; have : V (y.2 + 1) ≤ 59 := hv2; omega⟩, q4, q5, q6, q7, q8, q9, q10⟩
  rw [if_neg c2] at h ⊢
  by_cases c3 : K y.2 = 104
  · rw [if_pos c3] at h ⊢
    by_cases c4 : 0 < (va q).1
    · rw [if_pos c4] at h; exact absurd (show (5 : Int) = 0 from h) (by decide)
    · rw [if_neg c4] at h ⊢
      obtain ⟨o1, o2, o3⟩ := pE_ok (S := false) (r := fun _ => 0) hT (show 1 ≤ y.2 + 1 by omega) hj h
      exact ⟨q1, q2, q3, q4, q5, q6, q7, o1, q9, o3 rfl⟩
  rw [if_neg c3] at h ⊢
  by_cases c4 : K y.2 = 105
  · rw [if_pos c4] at h ⊢
    by_cases c5 : 0 < (vs q).1
    · rw [if_pos c5] at h; exact absurd (show (5 : Int) = 0 from h) (by decide)
    · rw [if_neg c5] at h ⊢
      obtain ⟨o1, o2, o3⟩ := pE_ok (S := true) (r := fun _ => 0) hT (show 1 ≤ y.2 + 1 by omega) hj h
      exact ⟨q1, q2, q3, q4, q5, q6, q7, q8, o1, q10⟩
  rw [if_neg c4] at h; exact absurd (show (1 : Int) = 0 from h) (by decide)
theorem lSg_2 {c : Int} (h : (lSg K c y).1 = 0) : (lSg K c y).2 = y.2 + 1 := by
  have z := lSg_s h
  unfold lSg at h ⊢
  rw [if_pos z] at h ⊢
  by_cases u : K y.2 = c
  · rw [if_pos u]
  · rw [if_neg u] at h; exact absurd (show (1 : Int) = 0 from h) (by decide)
theorem rLi_j {a : LZ × QZ} (hT : TK K V M) (h : (rLi K V a).1.1 = 0) : a.1.1 = 0 ∧ (rLn K V a).1.1 = 0 ∧ a.1.2 + 1 ≤ (rLi K V a).1.2 := by
  obtain ⟨y, q⟩ := a
  have h1 : (rLn K V (y, q)).1.1 = 0 := lSg_s h
  obtain ⟨h2, h3⟩ := rLn_j hT h1
  have h4 := lSg_2 h
  exact ⟨h2, h1, by show y.2 + 1 ≤ (lSg K 59 (rLn K V (y, q)).1).2; omega⟩
theorem rAl_bad {a : LZ × QZ} (h : a.1.1 ≠ 0) : ∀ f, rAl K V f a = a := by
  intro f
  cases f with
  | zero => rfl
  | succ f => unfold rAl; rw [if_neg (fun u => h u.1)]
/-- a text is read to its end -/
theorem rAl_end (hT : TK K V M) : ∀ (f : Nat) (a : LZ × QZ), M ≤ a.1.2 + f → ¬ ((rAl K V f a).1.1 = 0 ∧ K (rAl K V f a).1.2 ≠ 0) := by
  intro f
  induction f with
  | zero => intro a ha hh; exact hh.2 (hT.2.1 _ (by show M ≤ a.1.2; omega))
  | succ f ih =>
    intro a ha
    unfold rAl
    by_cases z : a.1.1 = 0 ∧ K a.1.2 ≠ 0
    · rw [if_pos z]
      by_cases u : (rLi K V a).1.1 = 0
      · have := (rLi_j hT u).2.2
        exact ih _ (by omega)
      · rw [rAl_bad u]; exact fun hh => u hh.1
    · rw [if_neg z]; exact z
theorem QK_rAl (hT : TK K V M) : ∀ (f : Nat) (a : LZ × QZ), QK a.2 → (rAl K V f a).1.1 = 0 → QK (rAl K V f a).2 := by
  intro f
  induction f with
  | zero => intro a h _; exact h
  | succ f ih =>
    intro a h hs
    unfold rAl at hs ⊢
    by_cases z : a.1.1 = 0 ∧ K a.1.2 ≠ 0
    · rw [if_pos z] at hs ⊢
      by_cases u : (rLi K V a).1.1 = 0
      · obtain ⟨y, q⟩ := a
        refine ih _ (QK_rLn hT h z.2 (rLi_j hT u).2.1) hs
      · rw [rAl_bad u] at hs; exact absurd hs u
    · rw [if_neg z]; exact h
end QK
/-- a new quay -/
def q00 : QZ := ((3, 0, 0, fun _ => false), (fun _ => 0, fun _ => 0, fun _ => 0), (fun _ => 0, fun _ _ => 0), ((0, fun _ => 0), (0, fun _ => 0)), (false, false))
theorem okR0 {r : Row} : okRule (0, r) := ⟨Nat.zero_le _, fun k hk => absurd hk (Nat.not_lt_zero _), fun h => absurd h (Nat.lt_irrefl _)⟩
theorem QK_00 : QK q00 := ⟨Nat.zero_le _, ⟨by decide, by decide⟩, ⟨by decide, by decide⟩, fun _ => (by show ((0 : Int) ≤ 0 ∧ (0 : Int) ≤ 999) ∧ ((0 : Int) ≤ 0 ∧ (0 : Int) < 60) ∧ (0 : Int) ≤ 0 ∧ (0 : Int) ≤ 9; decide), fun _ _ => ⟨rfl, rfl, rfl⟩, fun p hp => absurd hp (Nat.not_lt_zero _), fun _ _ => rfl, okR0, okR0, fun i hi => absurd hi (Nat.not_lt_zero _)⟩
def mkQ (q : QZ) : QT := (vn q, fun p t => if p < vn q then vw q p (t % vX q p) else 0, vm q, va q, vs q, (vk q).toNat)
def mkS (q : QZ) : ST := ((vL q, vW q, vM q, fun _ => 0), fun _ => false, false, vc q, 0)
theorem GQ_mk {q : QZ} (h : QK q) : GQ (mkQ q) := by
  obtain ⟨q1, q2, q3, q4, q5, q6, q7, q8, q9, q10⟩ := h
  refine ⟨q1, fun p t => ?_, q8, q9, by show 2 ≤ (vk q).toNat; omega, by show (vk q).toNat ≤ 6; omega⟩
  show 0 ≤ (if p < vn q then vw q p (t % vX q p) else 0) ∧ (if p < vn q then vw q p (t % vX q p) else 0) < ((vk q).toNat : Int)
  by_cases z : p < vn q
  · obtain ⟨a, b⟩ := q6 p z
    have := b (t % vX q p) (Nat.mod_lt _ (by omega))
    rw [if_pos z]; omega
  · rw [if_neg z]; omega
theorem GS_mk {q : QZ} (h : QK q) : GS (zn (mkQ q)) (mkS q) := by
  obtain ⟨q1, q2, q3, q4, q5, q6, q7, q8, q9, q10⟩ := h
  exact ⟨fun p => (q4 p).1, fun p hp => (q5 p hp).1, fun p => (q4 p).2.1, fun p => (q4 p).2.2, fun p => ⟨Int.le_refl _, by show (0 : Int) ≤ 9999; decide⟩, q3, Int.le_refl _, by show (0 : Int) ≤ 100000; decide⟩
theorem RQ_mk {w : Wd} {t : Nat} {q : QZ} (h : QK q) (hw : RQz w t q) : RQ w t (mkQ q) := by
  obtain ⟨q1, q2, q3, q4, q5, q6, q7, q8, q9, q10⟩ := h
  obtain ⟨w1, w2, w3, w4, w5, w6, w7⟩ := hw
  refine ⟨by rw [w1.1]; show vk q = ((vk q).toNat : Int); omega, w1.2.1, w1.2.2.2, fun p hp => ?_, w4.1, w4.2, w5.1, w5.2⟩
  have hp : p < vn q := hp
  obtain ⟨a, b⟩ := q6 p hp
  obtain ⟨c, d⟩ := w3 p hp
  refine ⟨vX q p, a.1, a.2, c, fun tt => ?_⟩
  show _ = (if p < vn q then vw q p (tt % vX q p) else 0)
  rw [if_pos hp]
  exact d _ (Nat.mod_lt _ (by omega))
