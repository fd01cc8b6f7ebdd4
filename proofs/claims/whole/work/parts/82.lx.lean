/-! the text as tokens: what both readers see -/
def isD (c : Int) : Bool := decide (48 ≤ c) && decide (c ≤ 57)
def isLt (c : Int) : Bool := decide (97 ≤ c) && decide (c ≤ 122)
def isBl (c : Int) : Bool := decide (c = 32) || decide (c = 10)
def isSg (c : Int) : Bool := decide (c = 59) || decide (c = 40) || decide (c = 41) || decide (c = 43) || decide (c = 45) || decide (c = 42) || decide (c = 47) || decide (c = 60) || decide (c = 61)
/-- the first place, from p on, where it isn't so -/
def rnF (P : Int → Bool) (T : Row) : Nat → Nat → Nat
  | 0, p => p
  | k + 1, p => if P (T p) then rnF P T k (p + 1) else p
def rn (P : Int → Bool) (T : Row) (n p : Nat) : Nat := rnF P T (n - p) p
section RN
variable {P : Int → Bool} {T : Row} {n p : Nat}
theorem rn_o (h : n ≤ p) : rn P T n p = p := by unfold rn; rw [show n - p = 0 by omega]; rfl
theorem rn_y (h : p < n) (hp : P (T p) = true) : rn P T n p = rn P T n (p + 1) := by
  unfold rn
  rw [show n - p = (n - (p + 1)) + 1 by omega]
  show (if P (T p) then rnF P T (n - (p + 1)) (p + 1) else p) = _
  rw [if_pos hp]
theorem rn_n (h : p < n) (hp : P (T p) = false) : rn P T n p = p := by
  unfold rn
  rw [show n - p = (n - (p + 1)) + 1 by omega]
  show (if P (T p) then rnF P T (n - (p + 1)) (p + 1) else p) = _
  rw [if_neg (by rw [hp]; decide)]
theorem rnF_b : ∀ k p, p ≤ rnF P T k p ∧ rnF P T k p ≤ p + k ∧ (rnF P T k p < p + k → P (T (rnF P T k p)) = false) ∧ ∀ i, p ≤ i → i < rnF P T k p → P (T i) = true := by
  intro k
  induction k with
  | zero => intro p; exact ⟨Nat.le_refl _, Nat.le_refl _, fun h => absurd h (Nat.lt_irrefl _), fun i h1 h2 => absurd h2 (by show ¬ i < p; omega)⟩
  | succ k ih =>
    intro p
    unfold rnF
    by_cases h : P (T p) = true
    · rw [if_pos h]
      obtain ⟨a1, a2, a3, a4⟩ := ih (p + 1)
      refine ⟨by omega, by omega, fun h => a3 (by omega), fun i h1 h2 => ?_⟩
      by_cases z : i = p
      · rw [z]; exact h
      · exact a4 i (by omega) h2
    · rw [if_neg h]
      refine ⟨Nat.le_refl _, by omega, fun _ => by simpa using h, fun i h1 h2 => absurd h2 (by omega)⟩
theorem rn_b (h : p ≤ n) : p ≤ rn P T n p ∧ rn P T n p ≤ n ∧ (rn P T n p < n → P (T (rn P T n p)) = false) ∧ ∀ i, p ≤ i → i < rn P T n p → P (T i) = true := by
  obtain ⟨a1, a2, a3, a4⟩ := rnF_b (P := P) (T := T) (n - p) p
  exact ⟨a1, by show rnF P T (n - p) p ≤ n; omega, fun h => a3 (by show rnF P T (n - p) p < _; have : rnF P T (n - p) p < n := h; omega), a4⟩
end RN
/-- where a token that begins at p ends -/
def eT (T : Row) (n p : Nat) : Nat := if isD (T p) then rn isD T n (p + 1) else if isLt (T p) then rn isLt T n (p + 1) else p + 1
/-- where the j-th token begins -/
def sT (T : Row) (n : Nat) : Nat → Nat
  | 0 => rn isBl T n 0
  | j + 1 => if sT T n j < n then rn isBl T n (eT T n (sT T n j)) else sT T n j
theorem eT_b {T : Row} {n p : Nat} (h : p < n) : p < eT T n p ∧ eT T n p ≤ n := by
  unfold eT
  split
  · have := rn_b (P := isD) (T := T) (show p + 1 ≤ n by omega); omega
  · split
    · have := rn_b (P := isLt) (T := T) (show p + 1 ≤ n by omega); omega
    · omega
theorem sT_n {T : Row} {n : Nat} : ∀ j, sT T n j ≤ n := by
  intro j
  induction j with
  | zero => exact (rn_b (Nat.zero_le _)).2.1
  | succ j ih =>
    unfold sT
    split
    · rename_i h
      exact (rn_b (eT_b h).2).2.1
    · exact ih
theorem sT_nb {T : Row} {n : Nat} : ∀ j, sT T n j < n → isBl (T (sT T n j)) = false := by
  intro j
  induction j with
  | zero => exact (rn_b (Nat.zero_le _)).2.2.1
  | succ j ih =>
    unfold sT
    split
    · rename_i h
      exact (rn_b (eT_b h).2).2.2.1
    · intro h; exact ih h
theorem sT_s {T : Row} {n j : Nat} (h : sT T n j < n) : sT T n (j + 1) = rn isBl T n (eT T n (sT T n j)) := by
  show (if sT T n j < n then _ else _) = _
  rw [if_pos h]
theorem sT_lt {T : Row} {n j : Nat} (h : sT T n j < n) : sT T n j < sT T n (j + 1) := by
  rw [sT_s h]
  have h1 := eT_b (T := T) h
  have h2 := rn_b (P := isBl) (T := T) h1.2
  omega
theorem sT_e {T : Row} {n j : Nat} (h : n ≤ sT T n j) : ∀ k, sT T n (j + k) = n := by
  intro k
  induction k with
  | zero => have := sT_n (T := T) (n := n) j; show sT T n j = n; omega
  | succ k ih =>
    show (if sT T n (j + k) < n then _ else sT T n (j + k)) = n
    rw [ih, if_neg (by omega)]
theorem sT_j {T : Row} {n : Nat} : ∀ j, sT T n j < n → j ≤ sT T n j := by
  intro j
  induction j with
  | zero => intro _; exact Nat.zero_le _
  | succ j ih =>
    intro h
    have hj : sT T n j < n := by
      apply Classical.byContradiction
      intro y
      have := sT_e (T := T) (show n ≤ sT T n j by omega) 1
      omega
    have := sT_lt hj
    have := ih hj
    omega
/-- the words, in their order -/
def wdL : List (List Int) := [txB 16, txB 7, txB 8, txB 17, txB 18, txB 19, txB 22, txB 21, txB 20, txB 9, txB 10, txB 11, txB 12, txB 13, txB 14, txB 15]
/-- a word stands there -/
def weq (T : Row) (p e : Nat) (l : List Int) : Bool := decide (e - p = l.length) && (List.range l.length).all (fun k => decide (T (p + k) = l.getD k 0))
def wk (T : Row) (p e : Nat) : Nat := 100 + wdL.findIdx (weq T p e)
/-- so many digits as a number -/
def nvD (T : Row) (p : Nat) : Nat → Int
  | 0 => 0
  | k + 1 => 10 * nvD T p k + T (p + k) - 48
/-- the kind of the token that begins at p -/
def kT (T : Row) (n p : Nat) : Int := if n ≤ p then 0 else if isD (T p) then (if eT T n p - p ≤ 4 then 1 else 2) else if isLt (T p) then (wk T p (eT T n p) : Nat) else if isSg (T p) then T p else 3
def KT (T : Row) (n j : Nat) : Int := kT T n (sT T n j)
def VT (T : Row) (n j : Nat) : Int := nvD T (sT T n j) (eT T n (sT T n j) - sT T n j)
def ET (T : Row) (n j : Nat) : Nat := if sT T n j < n then eT T n (sT T n j) else sT T n j
theorem isSg_in {c : Int} (h : isSg c = true) : c = 59 ∨ c = 40 ∨ c = 41 ∨ c = 43 ∨ c = 45 ∨ c = 42 ∨ c = 47 ∨ c = 60 ∨ c = 61 := by
  unfold isSg at h
  simp only [Bool.or_eq_true, decide_eq_true_eq] at h
  omega
theorem KT_0 {T : Row} {n j : Nat} : KT T n j = 0 ↔ n ≤ sT T n j := by
  unfold KT kT
  constructor
  · intro h
    apply Classical.byContradiction
    intro y
    rw [if_neg y] at h
    split at h
    · split at h <;> omega
    · split at h
      · unfold wk at h; omega
      · split at h
        · rename_i z; have := isSg_in z; omega
        · omega
  · intro h; rw [if_pos h]
theorem KT_700 {T : Row} {n j : Nat} (hn : n ≤ j) : KT T n j = 0 := by
  rw [KT_0]
  apply Classical.byContradiction
  intro y
  have := sT_j (T := T) (n := n) j (by omega)
  omega
/-- how many tokens ahead of the end -/
theorem MT_ex (T : Row) (n : Nat) : ∃ M, KT T n M = 0 ∧ ∀ i, i < M → KT T n i ≠ 0 := by
  have h : ∀ k, (∀ i, i < k → KT T n i ≠ 0) ∨ ∃ M, KT T n M = 0 ∧ ∀ i, i < M → KT T n i ≠ 0 := by
    intro k
    induction k with
    | zero => exact Or.inl (fun i hi => absurd hi (Nat.not_lt_zero _))
    | succ k ih =>
      rcases ih with h | h
      · by_cases z : KT T n k = 0
        · exact Or.inr ⟨k, z, h⟩
        · refine Or.inl (fun i hi => ?_)
          by_cases y : i = k
          · rw [y]; exact z
          · exact h i (by omega)
      · exact Or.inr h
  rcases h (n + 1) with h | h
  · exact absurd (KT_700 (Nat.le_refl n)) (h n (Nat.lt_succ_self _))
  · exact h
/-- kinds: numbers and words -/
theorem KT_num {T : Row} {n j : Nat} (h : KT T n j = 1 ∨ KT T n j = 2) : sT T n j < n ∧ isD (T (sT T n j)) = true ∧ (KT T n j = 2 ↔ 4 < eT T n (sT T n j) - sT T n j) := by
  unfold KT kT at h ⊢
  by_cases z : n ≤ sT T n j
  · rw [if_pos z] at h; omega
  · rw [if_neg z] at h ⊢
    by_cases y : isD (T (sT T n j)) = true
    · rw [if_pos y] at h ⊢
      refine ⟨by omega, y, ?_⟩
      split <;> omega
    · rw [if_neg y] at h
      exfalso
      split at h
      · unfold wk at h; omega
      · split at h
        · rename_i q; have := isSg_in q; omega
        · omega
theorem wk_b {T : Row} {p e : Nat} : wk T p e ≤ 116 := by
  unfold wk
  have h : wdL.length = 16 := rfl
  have := List.findIdx_le_length (p := weq T p e) (xs := wdL)
  omega
theorem KT_word {T : Row} {n j : Nat} (h : 100 ≤ KT T n j) : sT T n j < n ∧ isD (T (sT T n j)) = false ∧ isLt (T (sT T n j)) = true ∧ KT T n j = (wk T (sT T n j) (eT T n (sT T n j)) : Nat) := by
  unfold KT kT at h ⊢
  by_cases z : n ≤ sT T n j
  · rw [if_pos z] at h; omega
  · rw [if_neg z] at h ⊢
    by_cases y : isD (T (sT T n j)) = true
    · rw [if_pos y] at h; split at h <;> omega
    · rw [if_neg y] at h ⊢
      by_cases x : isLt (T (sT T n j)) = true
      · rw [if_pos x]
        exact ⟨by omega, by simpa using y, x, rfl⟩
      · rw [if_neg x] at h
        exfalso
        split at h
        · rename_i q; have := isSg_in q; omega
        · omega
theorem weq_iff {T : Row} {p e : Nat} {l : List Int} : weq T p e l = true ↔ e - p = l.length ∧ ∀ k, k < l.length → T (p + k) = l.getD k 0 := by
  unfold weq
  rw [Bool.and_eq_true, decide_eq_true_eq, List.all_eq_true]
  constructor
  · rintro ⟨h1, h2⟩
    exact ⟨h1, fun k hk => of_decide_eq_true (h2 k (List.mem_range.mpr hk))⟩
  · rintro ⟨h1, h2⟩
    exact ⟨h1, fun k hk => decide_eq_true (h2 k (List.mem_range.mp hk))⟩
theorem weq_inj {T : Row} {p e : Nat} {l m : List Int} (h1 : weq T p e l = true) (h2 : weq T p e m = true) : l = m := by
  rw [weq_iff] at h1 h2
  refine List.ext_getElem (by omega) (fun i a b => ?_)
  have e1 := h1.2 i a
  have e2 := h2.2 i b
  rw [List.getD_eq_getElem?_getD, List.getElem?_eq_getElem a] at e1
  rw [List.getD_eq_getElem?_getD, List.getElem?_eq_getElem b] at e2
  exact e1.symm.trans e2
theorem wdL_ne0 : ∀ i, i < 16 → ∀ j, j < 16 → wdL.getD i [] = wdL.getD j [] → i = j := by decide +kernel
theorem wdL_ne (i j : Nat) (hi : i < 16) (hj : j < 16) (h : wdL.getD i [] = wdL.getD j []) : i = j := wdL_ne0 i hi j hj h
/-- the k-th word stands there, if its kind is the k-th -/
theorem wk_iff {T : Row} {p e k : Nat} (hk : k < 16) : wk T p e = 100 + k ↔ weq T p e (wdL.getD k []) = true := by
  have hl : wdL.length = 16 := rfl
  have eg : ∀ i, (hi : i < 16) → wdL.getD i [] = wdL[i]'(by rw [hl]; exact hi) := fun i hi => by
    rw [List.getD_eq_getElem?_getD, List.getElem?_eq_getElem (by rw [hl]; exact hi)]; rfl
  unfold wk
  constructor
  · intro h
    have h2 : wdL.findIdx (weq T p e) = k := by omega
    have h3 : wdL.findIdx (weq T p e) < wdL.length := by rw [h2, hl]; exact hk
    have h4 := List.findIdx_getElem (w := h3)
    rw [eg k hk]
    simpa only [h2] using h4
  · intro h
    have h3 : wdL.findIdx (weq T p e) < wdL.length := List.findIdx_lt_length_of_exists ⟨wdL.getD k [], by rw [eg k hk]; exact List.getElem_mem _, h⟩
    have h4 := List.findIdx_getElem (w := h3)
    rw [hl] at h3
    rw [← eg _ h3] at h4
    have := wdL_ne _ _ h3 hk (weq_inj h4 h)
    omega
