/-! texts of the program; the class's tokens -/
theorem txB_cc : ∀ t, t < 23 → ∀ i, i < (txB t).length → bI2c (bAnd ((txB t).getD i 0) 255) = (txB t).getD i 0 ∧ bI2c ((txB t).getD i 0) = (txB t).getD i 0 := by decide +kernel
theorem txB_len : ∀ t, t < 23 → (txB t).length < 100 := by decide +kernel
theorem hS {t : Nat} (h : t < 23) : STR ≤ STR + t ∧ STR + t < STR + txL.length := ⟨Nat.le_add_right _ _, Nat.add_lt_add_left (by rw [txL_len]; exact h) _⟩
theorem sub_S {t : Nat} : STR + t - STR = t := Nat.add_sub_cancel_left _ _
theorem q310 {t : Nat} {w : Wd} (H : LR w) (ht : t < 23) : F310 (STR + t) w = rI 0 w := e310 H (hS ht) _ (gP_t (by decide))
theorem q311 {t : Nat} {w : Wd} (H : LR w) (ht : t < 23) : F311 (STR + t) w = rI 1 w := e311 H (hS ht) _ rfl
theorem q308 {t : Nat} {w : Wd} (H : LR w) (ht : t < 23) : F308 (STR + t) w = rI ((txB t).length : Nat) w := by
  have hl := txB_len t ht
  refine e308 H (hS ht) _ ?_
  rw [q310 H ht, bI_r H, sub_S]
  have e := bShr_n (a := (txB t).length) (k := 0) (by omega) (by decide)
  rw [show ((0 : Nat) : Int) = 0 from rfl] at e
  rw [e, Nat.shiftRight_zero]
theorem q319 {i n : Nat} {w : Wd} (H : LR w) (h : i < n) : F319 i n w = rI i w := by
  refine e319 H _ ?_
  rw [if_neg (by omega), if_pos (by omega)]
theorem q309 {t i : Nat} {w : Wd} (H : LR w) (ht : t < 23) (hi : i < (txB t).length) : F309 (STR + t) i w = rI ((txB t).getD i 0) w := by
  obtain ⟨h1, h2⟩ := txB_cc t ht i hi
  refine e309 H (hS ht) _ ?_
  rw [q311 H ht, bI_r H, if_neg (by decide)]
  have e : F315 (STR + t) i w = rI ((txB t).getD i 0) w := by
    refine e315 H (hS ht) _ ?_
    have e4 : F314 (i : Int) ((txB t).length : Nat) w = r0 w := by
      refine e314 H _ ?_
      rw [q319 H hi, bI_r H]
    rw [sub_S, e4, b0_r H, gdi (by omega) (by omega), nn, h1, gP_t h2]
  rw [e, bI_r H, gP_t h2]
theorem q97 {c : Int} {w : Wd} (H : LR w) : F97 c w = rI (b2i (isD c)) w := by
  refine e97 H _ ?_
  unfold isD
  by_cases h1 : 48 ≤ c
  · rw [if_neg (by omega)]
    by_cases h2 : c ≤ 57
    · rw [if_neg (by omega), decide_eq_true h1, decide_eq_true h2]; rfl
    · rw [if_pos (by omega), decide_eq_true h1, decide_eq_false h2]; rfl
  · rw [if_pos (by omega), decide_eq_false h1]; rfl
theorem q98 {c : Int} {w : Wd} (H : LR w) : F98 c w = rI (b2i (isLt c)) w := by
  refine e98 H _ ?_
  unfold isLt
  by_cases h1 : 97 ≤ c
  · rw [if_neg (by omega)]
    by_cases h2 : c ≤ 122
    · rw [if_neg (by omega), decide_eq_true h1, decide_eq_true h2]; rfl
    · rw [if_pos (by omega), decide_eq_true h1, decide_eq_false h2]; rfl
  · rw [if_pos (by omega), decide_eq_false h1]; rfl
theorem b2i_0f {b : Bool} : (b2i b = 0) ↔ b = false := by cases b <;> decide
theorem q99 {c d : Int} {w : Wd} (H : LR w) : F99 c d w = rI (b2i (if isD c then isD d else isLt d)) w := by
  refine e99 H _ ?_
  rw [q97 H, bI_r H]
  cases h : isD c
  · rw [if_pos (by decide), q98 H, bI_r H, gP_t (b2i_or _)]; rfl
  · rw [if_neg (by decide), q97 H, bI_r H, gP_t (b2i_or _)]; rfl
theorem l1B : lay 1 = (20, 700) := by decide +kernel
/-- the class's tape holds the text -/
def TX (w : Wd) (T : Row) (n : Nat) : Prop := n ≤ 700 ∧ (∀ i, i < n → bAnd (gI w 1 i) 255 = T i) ∧ ∀ i, 0 ≤ T i ∧ T i ≤ 255
theorem TX.fr {A : Nat → Prop} {w w' : Wd} {T : Row} {n : Nat} (h : TX w T n) (f : FrI A w w') (hA : ¬ A 1) : TX w' T n := ⟨h.1, fun i hi => by rw [f.g hA]; exact h.2.1 i hi, h.2.2⟩
theorem q96 {w : Wd} {T : Row} {n p : Nat} (H : LR w) (h : TX w T n) (hp : p < n) : F96 1 p w = rI (T p) w := by
  have := h.1
  refine e96 H l1B _ ?_
  rw [if_neg (by omega), if_neg (by omega), gdi (by omega) (by omega), nn, h.2.1 p hp]
/-! signs -/
theorem sg_all : ∀ c : Nat, c < 256 → isSg c = (List.range 9).any (fun i => decide ((txB 2).getD i 0 = bI2b c)) ∧ bI2c c = c := by decide +kernel
theorem q312 {c : Int} {w : Wd} (H : LR w) (hc : 0 ≤ c ∧ c ≤ 255) : ∃ r, F312 (STR + 2) (bI2c c) w = rI r w ∧ (0 ≤ r ↔ isSg c = true) := by
  obtain ⟨n, rfl⟩ : ∃ n : Nat, c = n := ⟨c.toNat, by omega⟩
  obtain ⟨s1, s2⟩ := sg_all n (by omega)
  have hl : (txB 2).length = 9 := by decide +kernel
  have hX := lpX (F := fun k (_ : Unit) => s318_7 (STR + 2) n 0 9 (bI2b n) k w) (I := fun k _ => ∀ i, i < k → (txB 2).getD i 0 ≠ bI2b n) (Q := fun o => ∃ k : Nat, k < 9 ∧ o = (.inl (some (.inl (k : Int))), w) ∧ (txB 2).getD k 0 = bI2b n) 9 (fun k _ hk e => by
    by_cases z : (txB 2).getD k 0 = bI2b n
    · refine Or.inr ⟨_, e318_7 H (hS (by decide)) _ ?_, k, hk, rfl, z⟩
      rw [if_neg (by omega), sub_S, hl, gdi (by omega) (by omega), nn, if_neg (fun y => y z)]
    · refine Or.inl ⟨(), fun o ho => e318_7 H (hS (by decide)) _ ?_, fun i hi => ?_⟩
      · rw [if_neg (by omega), sub_S, hl, gdi (by omega) (by omega), nn, if_pos z, wrs (by omega)]
        exact ho
      · by_cases y : i = k
        · rw [y]; exact z
        · exact e i (by omega)) () (fun i hi => absurd hi (Nat.not_lt_zero _))
  have hr : ∃ r, s318_7 (STR + 2) n 0 9 (bI2b n) 0 w = rI r w ∧ (0 ≤ r ↔ isSg n = true) := by
    rcases hX with ⟨_, hu, e⟩ | ⟨o, ho, k, hk, hw, hz⟩
    · refine ⟨-1, hu _ (e318_7 H (hS (by decide)) _ (if_pos (by decide))), ⟨fun y => absurd y (by decide), fun y => ?_⟩⟩
      rw [s1, List.any_eq_true] at y
      obtain ⟨i, i1, i2⟩ := y
      exact absurd (of_decide_eq_true i2) (e i (List.mem_range.mp i1))
    · refine ⟨k, by rw [hw] at ho; exact ho, ⟨fun _ => ?_, fun _ => by omega⟩⟩
      rw [s1, List.any_eq_true]
      exact ⟨k, List.mem_range.mpr hk, decide_eq_true hz⟩
  obtain ⟨r, r1, r2⟩ := hr
  refine ⟨r, ?_, r2⟩
  rw [s2]
  have e318' : F318 (STR + 2) n 0 9 w = rI r w := e318 H (hS (by decide)) _ r1
  have e317' : F317 (STR + 2) n 0 9 w = rI r w := by
    refine e317 H (hS (by decide)) _ ?_
    have e316' : F316 (n : Int) w = rI 1 w := by
      refine e316 H _ ?_
      rw [if_neg (by omega), if_neg (by omega)]
    have e325' : F325 0 0 w = rI 0 w := e325 H _ (by rw [if_neg (by decide)])
    have e326' : F326 9 9 w = rI 9 w := e326 H _ (by rw [if_neg (by decide)])
    rw [e316', bI_r H, if_pos (by decide), e325', bI_r H, sub_S, hl, show ((9 : Nat) : Int) = 9 from rfl, e326', bI_r H, if_pos (by decide), e318', bI_r H]
  refine e312 H (hS (by decide)) _ ?_
  have e313' : F313 (STR + 2) n 0 w = rI r w := by
    refine e313 H (hS (by decide)) _ ?_
    rw [q311 H (by decide), bI_r H, if_neg (by decide), q308 H (by decide), bI_r H, hl, show ((9 : Nat) : Int) = 9 from rfl, e317', bI_r H]
  rw [e313', bI_r H]
/-! words -/
def wS : Nat → Nat × Nat
  | 0 => (0, 0)
  | i + 1 => if (txB 1).getD i 0 = 32 then ((wS i).1 + 1, i + 1) else wS i
theorem wS_s {i : Nat} : wS (i + 1) = if (txB 1).getD i 0 = 32 then ((wS i).1 + 1, i + 1) else wS i := rfl
theorem wS_ok : ∀ i, i < 90 → (wS i).2 ≤ i ∧ (wS i).1 < 16 ∧ ((txB 1).getD i 0 = 32 → (wdL.getD (wS i).1 []).length = i - (wS i).2 ∧ ∀ j, j < i - (wS i).2 → (wdL.getD (wS i).1 []).getD j 0 = (txB 1).getD ((wS i).2 + j) 0) := by decide +kernel
theorem wS_90 : (wS 90).1 = 16 ∧ (txB 1).length = 90 := by decide +kernel
/-- as far as the i-th byte of the row of words, the word is the same -/
def smB (T : Row) (p e i : Nat) : Bool := (List.range (i - (wS i).2)).all (fun j => decide (p + j < e) && decide (T (p + j) = (txB 1).getD ((wS i).2 + j) 0))
theorem smB_iff {T : Row} {p e i : Nat} : smB T p e i = true ↔ ∀ j, j < i - (wS i).2 → p + j < e ∧ T (p + j) = (txB 1).getD ((wS i).2 + j) 0 := by
  unfold smB
  rw [List.all_eq_true]
  constructor
  · intro h j hj
    have := h j (List.mem_range.mpr hj)
    rw [Bool.and_eq_true, decide_eq_true_eq, decide_eq_true_eq] at this
    exact this
  · intro h j hj
    have := h j (List.mem_range.mp hj)
    rw [decide_eq_true this.1, decide_eq_true this.2]; rfl
theorem smB_n {T : Row} {p e i : Nat} (hi : i < 90) (hc : (txB 1).getD i 0 ≠ 32) : smB T p e (i + 1) = (smB T p e i && (decide (p + (i - (wS i).2) < e) && decide (T (p + (i - (wS i).2)) = (txB 1).getD i 0))) := by
  obtain ⟨h1, -, -⟩ := wS_ok i hi
  unfold smB
  rw [wS_s, if_neg hc, show i + 1 - (wS i).2 = (i - (wS i).2) + 1 by omega, List.range_succ, List.all_append]
  simp only [List.all_cons, List.all_nil, Bool.and_true]
  rw [show (wS i).2 + (i - (wS i).2) = i by omega]
theorem smB_w {T : Row} {p e i : Nat} (hi : i < 90) (hp : p < e) (hc : (txB 1).getD i 0 = 32) (h0 : wdL.getD (wS i).1 [] ≠ []) : weq T p e (wdL.getD (wS i).1 []) = (smB T p e i && decide (p + (i - (wS i).2) = e)) := by
  obtain ⟨h1, h2, h3⟩ := wS_ok i hi
  obtain ⟨h4, h5⟩ := h3 hc
  have e1 : weq T p e (wdL.getD (wS i).1 []) = true ↔ (smB T p e i && decide (p + (i - (wS i).2) = e)) = true := by
    rw [weq_iff, Bool.and_eq_true, smB_iff, decide_eq_true_eq, h4]
    constructor
    · rintro ⟨a, b⟩
      refine ⟨fun j hj => ⟨by omega, ?_⟩, by omega⟩
      rw [b j hj, h5 j hj]
    · rintro ⟨a, b⟩
      refine ⟨by omega, fun j hj => ?_⟩
      rw [(a j hj).2, h5 j hj]
  cases h : weq T p e (wdL.getD (wS i).1 [])
  · rw [h] at e1
    cases h' : (smB T p e i && decide (p + (i - (wS i).2) = e))
    · rfl
    · exact absurd (e1.mpr h') (by decide)
  · exact (e1.mp h).symm
theorem wd_ne : ∀ k, k < 16 → wdL.getD k [] ≠ [] := by decide +kernel
theorem wk_no {T : Row} {p e : Nat} (h : ∀ k, k < 16 → weq T p e (wdL.getD k []) = false) : wk T p e = 116 := by
  apply Classical.byContradiction
  intro y
  have hb := wk_b (T := T) (p := p) (e := e)
  have h1 : 100 ≤ wk T p e := by unfold wk; omega
  obtain ⟨k, hk⟩ : ∃ k, wk T p e = 100 + k := ⟨wk T p e - 100, by omega⟩
  have := (wk_iff (T := T) (p := p) (e := e) (k := k) (by omega)).mp hk
  rw [h k (by omega)] at this
  cases this
theorem q101 {w : Wd} {T : Row} {n p e : Nat} (H : LR w) (h : TX w T n) (hp : p < e) (he : e ≤ n) : F101 1 p e w = rI (wk T p e : Nat) w := by
  have hn := h.1
  obtain ⟨w90, wl⟩ := wS_90
  have hX := lpX (F := fun k (a : Int × Int × Int) => s101_12 1 p e a.1 a.2.1 a.2.2 k w) (I := fun k a => a.1 = ((100 + (wS k).1 : Nat) : Int) ∧ a.2.1 = ((p + (k - (wS k).2) : Nat) : Int) ∧ a.2.2 = b2i (smB T p e k) ∧ ∀ j, j < (wS k).1 → weq T p e (wdL.getD j []) = false) (Q := fun o => ∃ k : Nat, k < 16 ∧ o = (.inl (some (.inl ((100 + k : Nat) : Int))), w) ∧ weq T p e (wdL.getD k []) = true) 90 (fun k a hk i => by
    obtain ⟨a1, a2, a3⟩ := a
    obtain ⟨i1, i2, i3, i4⟩ := i
    have i1 : a1 = ((100 + (wS k).1 : Nat) : Int) := i1
    have i2 : a2 = ((p + (k - (wS k).2) : Nat) : Int) := i2
    have i3 : a3 = b2i (smB T p e k) := i3
    subst i1; subst i2; subst i3
    obtain ⟨o1, o2, -⟩ := wS_ok k hk
    have e9 : F309 (STR + 1) k w = rI ((txB 1).getD k 0) w := q309 H (by decide) (by rw [wl]; exact hk)
    by_cases c : (txB 1).getD k 0 = 32
    · have hw := smB_w (T := T) (p := p) (e := e) hk hp c (wd_ne _ o2)
      have es : wS (k + 1) = ((wS k).1 + 1, k + 1) := by rw [wS_s, if_pos c]
      by_cases z : weq T p e (wdL.getD (wS k).1 []) = true
      · refine Or.inr ⟨_, e101_12 H l1B _ ?_, (wS k).1, o2, rfl, z⟩
        rw [z] at hw
        have hw := hw.symm
        rw [Bool.and_eq_true, decide_eq_true_eq] at hw
        dsimp only
        rw [q308 H (by decide), bI_r H, wl, if_neg (by omega), e9, bI_r H, if_pos c, if_neg (fun y => by rw [b2i_0f, hw.1] at y; cases y), if_neg (by omega)]
      · have z : weq T p e (wdL.getD (wS k).1 []) = false := by simpa using z
        rw [z] at hw
        refine Or.inl ⟨(((100 + (wS (k + 1)).1 : Nat) : Int), ((p + (k + 1 - (wS (k + 1)).2) : Nat) : Int), b2i (smB T p e (k + 1))), fun o ho => e101_12 H l1B _ ?_, rfl, rfl, rfl, fun j hj => ?_⟩
        · have e1 : smB T p e (k + 1) = true := by
            rw [smB_iff, es]
            intro j hj
            exact absurd hj (by omega)
          have ho : s101_12 1 p e ((100 + (wS (k + 1)).1 : Nat) : Int) ((p + (k + 1 - (wS (k + 1)).2) : Nat) : Int) (b2i (smB T p e (k + 1))) ((k + 1 : Nat) : Int) w = some o := ho
          rw [e1, es] at ho
          dsimp only
          rw [q308 H (by decide), bI_r H, wl, if_neg (by omega), e9, bI_r H, if_pos c]
          have ho' : s101_12 1 p e (wr (((100 + (wS k).1 : Nat) : Int) + 1)) p 1 (wr ((k : Int) + 1)) w = some o := by
            rw [wrs (by omega), wrs (by omega)]
            rw [show k + 1 - (((wS k).1 + 1, k + 1) : Nat × Nat).2 = 0 by show k + 1 - (k + 1) = 0; omega] at ho
            exact ho
          by_cases y : b2i (smB T p e k) = 0
          · rw [if_pos y]; exact ho'
          · rw [if_neg y]
            have y2 : smB T p e k = true := by
              cases q : smB T p e k
              · rw [q] at y; exact absurd rfl y
              · rfl
            rw [y2] at hw
            have hw := hw.symm
            simp only [Bool.true_and, decide_eq_false_iff_not] at hw
            rw [if_pos (by omega)]; exact ho'
        · rw [es] at hj
          have hj : j < (wS k).1 + 1 := hj
          by_cases y : j = (wS k).1
          · rw [y]; exact z
          · exact i4 j (by omega)
    · have hs := smB_n (T := T) (p := p) (e := e) hk c
      have es : wS (k + 1) = wS k := by rw [wS_s, if_neg c]
      refine Or.inl ⟨(((100 + (wS (k + 1)).1 : Nat) : Int), ((p + (k + 1 - (wS (k + 1)).2) : Nat) : Int), b2i (smB T p e (k + 1))), fun o ho => e101_12 H l1B _ ?_, rfl, rfl, rfl, fun j hj => ?_⟩
      · have ho : s101_12 1 p e ((100 + (wS (k + 1)).1 : Nat) : Int) ((p + (k + 1 - (wS (k + 1)).2) : Nat) : Int) (b2i (smB T p e (k + 1))) ((k + 1 : Nat) : Int) w = some o := ho
        rw [es, show k + 1 - (wS k).2 = (k - (wS k).2) + 1 by omega, ← Nat.add_assoc p] at ho
        dsimp only
        rw [q308 H (by decide), bI_r H, wl, if_neg (by omega), e9, bI_r H, if_neg c, wrs (by omega), wrs (by omega)]
        cases q : smB T p e k
        · rw [if_pos (by decide)]
          rw [hs, q] at ho
          exact ho
        · rw [if_neg (by decide)]
          rw [q, Bool.true_and] at hs
          by_cases y : p + (k - (wS k).2) < e
          · rw [if_neg (by omega), q96 H h (by omega), bI_r H]
            by_cases x : T (p + (k - (wS k).2)) = (txB 1).getD k 0
            · rw [if_neg (fun u => u x)]
              rw [hs, decide_eq_true y, decide_eq_true x] at ho
              exact ho
            · rw [if_pos x]
              rw [hs, decide_eq_false x, Bool.and_false] at ho
              exact ho
          · rw [if_pos (by omega)]
            rw [hs, decide_eq_false y] at ho
            exact ho
      · rw [es] at hj
        exact i4 j hj) (((100 : Nat) : Int), ((p : Nat) : Int), 1) ⟨rfl, rfl, rfl, fun j hj => absurd hj (Nat.not_lt_zero _)⟩
  refine e101 H l1B _ ?_
  rcases hX with ⟨a, hu, -, -, -, e4⟩ | ⟨o, ho, k, hk, hw, hz⟩
  · rw [w90] at e4
    rw [wk_no e4]
    refine hu _ (e101_12 H l1B _ ?_)
    rw [q308 H (by decide), bI_r H, wl, if_pos (by decide)]
    rfl
  · rw [(wk_iff hk).mpr hz]
    rw [hw] at ho
    exact ho
/-! numbers, kinds -/
theorem nvD_b {T : Row} {p : Nat} : ∀ k, (∀ i, i < k → isD (T (p + i)) = true) → 0 ≤ nvD T p k ∧ nvD T p k ≤ 10 ^ k - 1 := by
  intro k
  induction k with
  | zero => intro _; exact ⟨Int.le_refl _, by show (0 : Int) ≤ 10 ^ 0 - 1; decide⟩
  | succ k ih =>
    intro h
    have h1 := ih (fun i hi => h i (by omega))
    have h2 := h k (by omega)
    unfold isD at h2
    rw [Bool.and_eq_true, decide_eq_true_eq, decide_eq_true_eq] at h2
    show 0 ≤ 10 * nvD T p k + T (p + k) - 48 ∧ 10 * nvD T p k + T (p + k) - 48 ≤ 10 ^ (k + 1) - 1
    have e : (10 : Int) ^ (k + 1) = 10 ^ k * 10 := Int.pow_succ 10 k
    rw [e]
    generalize (10 : Int) ^ k = z at *
    omega
theorem nvD_4 {T : Row} {p k : Nat} (hk : k ≤ 4) (h : ∀ i, i < k → isD (T (p + i)) = true) : 0 ≤ nvD T p k ∧ nvD T p k ≤ 9999 := by
  have := nvD_b k h
  have h2 : (10 : Int) ^ k ≤ 10000 := by
    have : ∀ k : Nat, k ≤ 4 → (10 : Int) ^ k ≤ 10000 := by decide
    exact this k hk
  omega
theorem q102 {w : Wd} {T : Row} {n p e : Nat} (H : LR w) (h : TX w T n) (hp : p < e) (he : e ≤ n) : ∃ v, F102 1 p e w = rI v w ∧ ((∀ i, p ≤ i → i < e → isD (T i) = true) → e - p ≤ 4 → v = nvD T p (e - p)) := by
  have hn := h.1
  obtain ⟨v, hv, i1⟩ := lpR (F := fun k v => s102_5 1 p e v ((p : Int) + k) w) (I := fun k v => (∀ i, i < k → isD (T (p + i)) = true) → v = nvD T p k) (min (e - p) 4) (fun k v hk i => by
    have ex : (p : Int) + (k : Int) = ((p + k : Nat) : Int) := by omega
    have ey : (p : Int) + ((k + 1 : Nat) : Int) = ((p + k + 1 : Nat) : Int) := by omega
    have e4 : wr ((p : Int) + 4) = ((p + 4 : Nat) : Int) := by rw [wrd (by omega) (by omega)]; omega
    refine ⟨if isD (T (p + k)) = true then wr (wr (wr (10 * v) + T (p + k)) - 48) else 0, fun o ho => e102_5 H l1B _ ?_, fun hd => ?_⟩
    · rw [ex, if_neg (by omega), e4, if_neg (by omega), q96 H h (by omega), bI_r H, q97 H, bI_r H, wrs (by omega)]
      have ho : s102_5 1 p e (if isD (T (p + k)) = true then wr (wr (wr (10 * v) + T (p + k)) - 48) else 0) ((p : Int) + ((k + 1 : Nat) : Int)) w = some o := ho
      rw [ey] at ho
      cases q : isD (T (p + k))
      · rw [q] at ho
        rw [if_pos (by decide)]; exact ho
      · rw [q] at ho
        rw [if_neg (by decide)]; exact ho
    · have hk1 := hd k (by omega)
      have hv := i (fun i hi => hd i (by omega))
      have hb := nvD_4 (T := T) (p := p) (k := k) (by omega) (fun i hi => hd i (by omega))
      have hT := h.2.2 (p + k)
      rw [if_pos hk1, hv, wrd (z := 10 * nvD T p k) (by omega) (by omega), wrd (z := 10 * nvD T p k + T (p + k)) (by omega) (by omega), wrd (by omega) (by omega)]
      rfl) 0 (fun _ => rfl)
  have e4 : wr ((p : Int) + 4) = ((p + 4 : Nat) : Int) := by rw [wrd (by omega) (by omega)]; omega
  refine ⟨v, e102 H l1B _ ?_, fun hd h4 => ?_⟩
  · have := hv _ (e102_5 H l1B _ (show (if (e : Int) ≤ (p : Int) + ((min (e - p) 4 : Nat) : Int) then rI v w else _) = rI v w by
      by_cases z : (e : Int) ≤ (p : Int) + ((min (e - p) 4 : Nat) : Int)
      · rw [if_pos z]
      · rw [if_neg z, e4, if_pos (by omega)]))
    rw [Int.add_zero] at this
    exact this
  · have e5 : min (e - p) 4 = e - p := by omega
    rw [e5] at i1
    exact i1 (fun i hi => hd (p + i) (by omega) (by omega))
theorem q100 {w : Wd} {T : Row} {n p : Nat} (H : LR w) (h : TX w T n) (hp : p < n) : F100 1 p (eT T n p) w = rI (kT T n p) w := by
  have hn := h.1
  have hb := eT_b (T := T) hp
  have hc := h.2.2 p
  refine e100 H l1B _ ?_
  rw [q96 H h hp, bI_r H, q97 H, bI_r H]
  unfold kT
  rw [if_neg (show ¬ n ≤ p by omega)]
  cases d : isD (T p)
  · rw [if_pos (show b2i false = 0 from rfl), if_neg (show ¬ false = true by decide), q98 H, bI_r H]
    cases l : isLt (T p)
    · obtain ⟨r, r1, r2⟩ := q312 H hc
      rw [if_pos (show b2i false = 0 from rfl), if_neg (show ¬ false = true by decide), r1, bI_r H]
      by_cases z : isSg (T p) = true
      · rw [if_neg (by have := r2.mpr z; omega), if_pos z]
      · rw [if_pos (Int.not_le.mp (fun y => z (r2.mp y))), if_neg z]
    · rw [if_neg (show ¬ b2i true = 0 by decide), if_pos rfl, q101 H h hb.1 hb.2, bI_r H]
  · rw [if_neg (show ¬ b2i true = 0 by decide), if_pos rfl, wrd (by omega) (by omega)]
    by_cases z : eT T n p - p ≤ 4
    · rw [if_pos (by omega), if_pos z]
    · rw [if_neg (by omega), if_neg z]
