/-! the readers of rules, as one function of the tokens -/
/-- the fault, the token, how many codes, the codes -/
abbrev PZ : Type := Int × Nat × Nat × Row
def pFl (c : Int) (x : PZ) : PZ := if x.1 = 0 then (c, x.2) else x
def pGo (x : PZ) : PZ := if x.1 = 0 then (0, x.2.1 + 1, x.2.2) else x
def pAd (c : Int) (x : PZ) : PZ := if x.1 = 0 then (0, x.2.1, x.2.2.1 + 1, va_up x.2.2.2 x.2.2.1 c) else x
def ks (K : Nat → Int) (x : PZ) (c : Int) : Bool := decide (x.1 = 0) && decide (K x.2.1 = c)
def pSg (K : Nat → Int) (c : Int) (x : PZ) : PZ := if ks K x c = true then pGo x else pFl 1 x
def vLim (S : Bool) : Int := if S then 115 else 113
def pPart (K V : Nat → Int) (S : Bool) (E : PZ → PZ) (x : PZ) : PZ :=
  if x.1 ≠ 0 then x else if K x.2.1 = 1 then pAd (-1 - V x.2.1) (pGo x) else if K x.2.1 = 2 then pFl 2 x else if 109 ≤ K x.2.1 ∧ K x.2.1 ≤ vLim S then pGo (pAd (K x.2.1) x)
  else if 100 ≤ K x.2.1 then pFl 3 x else if K x.2.1 = 40 then pSg K 41 (E (pGo x)) else pFl 1 x
def lpP (K : Nat → Int) (t : Int → Bool) (X : PZ → PZ) : Nat → PZ → PZ
  | 0, x => x
  | k + 1, x => if x.1 = 0 ∧ t (K x.2.1) = true then lpP K t X k (pAd (K x.2.1) (X (pGo x))) else x
def is1 (a : Int) (x : Int) : Bool := decide (x = a)
def is2 (a b : Int) (x : Int) : Bool := decide (x = a) || decide (x = b)
def pProd (K V : Nat → Int) (S : Bool) (E : PZ → PZ) (x : PZ) : PZ := lpP K (is2 42 47) (pPart K V S E) 700 (pPart K V S E x)
def pSum (K V : Nat → Int) (S : Bool) (E : PZ → PZ) (x : PZ) : PZ := lpP K (is2 43 45) (pProd K V S E) 700 (pProd K V S E x)
def pTest (K V : Nat → Int) (S : Bool) (E : PZ → PZ) (x : PZ) : PZ := if (pSum K V S E x).1 = 0 ∧ is2 60 61 (K (pSum K V S E x).2.1) = true then pAd (K (pSum K V S E x).2.1) (pSum K V S E (pGo (pSum K V S E x))) else pSum K V S E x
def pN (K : Nat → Int) : Nat → PZ → Nat × PZ
  | 0, x => (0, x)
  | k + 1, x => if ks K x 108 = true then ((pN K k (pGo x)).1 + 1, (pN K k (pGo x)).2) else (0, x)
def pAs : Nat → PZ → PZ
  | 0, x => x
  | n + 1, x => pAs n (pAd 108 x)
def pN7 (K : Nat → Int) (x : PZ) : PZ := if ks K (pN K 6 x).2 108 = true then pFl 2 (pN K 6 x).2 else (pN K 6 x).2
def pNot (K V : Nat → Int) (S : Bool) (E : PZ → PZ) (x : PZ) : PZ := pAs (pN K 6 x).1 (pTest K V S E (pN7 K x))
def pAnd (K V : Nat → Int) (S : Bool) (E : PZ → PZ) (x : PZ) : PZ := lpP K (is1 107) (pNot K V S E) 700 (pNot K V S E x)
def pOr (K V : Nat → Int) (S : Bool) (E : PZ → PZ) (x : PZ) : PZ := lpP K (is1 106) (pAnd K V S E) 700 (pAnd K V S E x)
def isPt (c : Int) : Bool := decide (c = 1) || decide (c = 2) || decide (100 ≤ c) || decide (c = 40)
def pE (K V : Nat → Int) (S : Bool) : Nat → PZ → PZ
  | 0, x => if isPt (K x.2.1) = true then pFl 2 x else pFl 1 x
  | d + 1, x => pOr K V S (pE K V S d) x
/-- what the tokens are -/
def TK (K V : Nat → Int) (M : Nat) : Prop := M ≤ 700 ∧ (∀ i, M ≤ i → K i = 0) ∧ (∀ i, i < M → K i ≠ 0) ∧ (∀ i, K i = 1 → 0 ≤ V i ∧ V i ≤ 9999) ∧ ∀ i, K i ≤ 116
theorem TK.lt {K V : Nat → Int} {M i : Nat} (h : TK K V M) (hk : K i ≠ 0) : i < M := by
  apply Classical.byContradiction
  intro y
  exact hk (h.2.1 i (by omega))
section PZ
variable {K V : Nat → Int} {S : Bool} {M : Nat} {x : PZ}
theorem pFl_0 {c : Int} (h : x.1 = 0) : pFl c x = (c, x.2) := if_pos h
theorem pFl_n {c : Int} (h : x.1 ≠ 0) : pFl c x = x := if_neg h
theorem pGo_0 (h : x.1 = 0) : pGo x = (0, x.2.1 + 1, x.2.2) := if_pos h
theorem pGo_n (h : x.1 ≠ 0) : pGo x = x := if_neg h
theorem pAd_0 {c : Int} (h : x.1 = 0) : pAd c x = (0, x.2.1, x.2.2.1 + 1, va_up x.2.2.2 x.2.2.1 c) := if_pos h
theorem pAd_n {c : Int} (h : x.1 ≠ 0) : pAd c x = x := if_neg h
theorem pGo_f : (pGo x).1 = x.1 := by
  by_cases h : x.1 = 0
  · rw [pGo_0 h, h]
  · rw [pGo_n h]
theorem pAd_f {c : Int} : (pAd c x).1 = x.1 := by
  by_cases h : x.1 = 0
  · rw [pAd_0 h, h]
  · rw [pAd_n h]
theorem pFl_f {c : Int} (hc : c ≠ 0) : (pFl c x).1 ≠ 0 := by
  by_cases h : x.1 = 0
  · rw [pFl_0 h]; exact hc
  · rw [pFl_n h]; exact h
theorem ks_t {c : Int} (h : ks K x c = true) : x.1 = 0 ∧ K x.2.1 = c := by
  unfold ks at h
  simpa only [Bool.and_eq_true, decide_eq_true_eq] using h
theorem ks_y {c : Int} (h1 : x.1 = 0) (h2 : K x.2.1 = c) : ks K x c = true := by
  unfold ks
  simp [h1, h2]
theorem ks_n {c : Int} (h1 : x.1 ≠ 0) : ks K x c = false := by
  unfold ks
  simp [h1]
theorem is1_t {a c : Int} : is1 a c = true ↔ c = a := by unfold is1; exact decide_eq_true_iff
theorem is2_t {a b c : Int} : is2 a b c = true ↔ c = a ∨ c = b := by unfold is2; simp
/-- steps that do nothing behind a fault, and never go back -/
def Mo (M : Nat) (X : PZ → PZ) : Prop := ∀ x : PZ, (x.1 ≠ 0 → X x = x) ∧ x.2.1 ≤ (X x).2.1 ∧ (x.2.1 ≤ M → (X x).2.1 ≤ M)
theorem Mo_pGo {c : Int} (hT : TK K V M) (h : x.1 = 0) (hk : K x.2.1 = c) (hc : c ≠ 0) : x.2.1 + 1 ≤ (pGo x).2.1 ∧ (pGo x).2.1 ≤ M := by
  have := hT.lt (i := x.2.1) (by rw [hk]; exact hc)
  rw [pGo_0 h]
  exact ⟨Nat.le_refl _, this⟩
theorem pAd_j {c : Int} : (pAd c x).2.1 = x.2.1 := by
  by_cases h : x.1 = 0
  · rw [pAd_0 h]
  · rw [pAd_n h]
theorem pFl_j {c : Int} : (pFl c x).2 = x.2 := by
  by_cases h : x.1 = 0
  · rw [pFl_0 h]
  · rw [pFl_n h]
theorem Mo.lp {t : Int → Bool} {X : PZ → PZ} (hT : TK K V M) (ht : t 0 = false) (hX : Mo M X) : ∀ k, Mo M (lpP K t X k) := by
  intro k
  induction k with
  | zero => exact fun x => ⟨fun _ => rfl, Nat.le_refl _, fun h => h⟩
  | succ k ih =>
    intro x
    unfold lpP
    by_cases z : x.1 = 0 ∧ t (K x.2.1) = true
    · rw [if_pos z]
      obtain ⟨g1, g2⟩ := Mo_pGo hT z.1 rfl (fun e => by rw [e, ht] at z; exact absurd z.2 (by decide))
      obtain ⟨-, a2, a3⟩ := hX (pGo x)
      obtain ⟨-, b2, b3⟩ := ih (pAd (K x.2.1) (X (pGo x)))
      rw [pAd_j] at b2 b3
      exact ⟨fun h => absurd z.1 h, by omega, fun _ => b3 (a3 g2)⟩
    · rw [if_neg z]
      exact ⟨fun _ => rfl, Nat.le_refl _, fun h => h⟩
theorem lp_in {t : Int → Bool} {X : PZ → PZ} (h : x.1 ≠ 0) : ∀ k, lpP K t X k x = x := by
  intro k
  cases k with
  | zero => rfl
  | succ k => unfold lpP; rw [if_neg (fun y => h y.1)]
/-- behind its turns no sign of its own stands there -/
theorem lp_end {t : Int → Bool} {X : PZ → PZ} (hT : TK K V M) (ht : t 0 = false) (hX : Mo M X) : ∀ k (x : PZ), M ≤ x.2.1 + k → ¬ ((lpP K t X k x).1 = 0 ∧ t (K (lpP K t X k x).2.1) = true) := by
  intro k
  induction k with
  | zero =>
    intro x hx hh
    have e : K x.2.1 = 0 := hT.2.1 _ (by omega)
    have := hh.2
    rw [show lpP K t X 0 x = x from rfl, e, ht] at this
    cases this
  | succ k ih =>
    intro x hx
    unfold lpP
    by_cases z : x.1 = 0 ∧ t (K x.2.1) = true
    · rw [if_pos z]
      obtain ⟨g1, g2⟩ := Mo_pGo hT z.1 rfl (fun e => by rw [e, ht] at z; exact absurd z.2 (by decide))
      obtain ⟨-, a2, a3⟩ := hX (pGo x)
      exact ih _ (by rw [pAd_j]; omega)
    · rw [if_neg z]; exact z
theorem Mo.part {E : PZ → PZ} (hT : TK K V M) (hE : Mo M E) : Mo M (pPart K V S E) := by
  intro x
  unfold pPart
  by_cases h : x.1 ≠ 0
  · rw [if_pos h]; exact ⟨fun _ => rfl, Nat.le_refl _, fun h => h⟩
  rw [if_neg h]
  have h : x.1 = 0 := Classical.byContradiction h
  refine ⟨fun y => absurd h y, ?_⟩
  by_cases c1 : K x.2.1 = 1
  · have := Mo_pGo hT h c1 (by decide)
    rw [if_pos c1, pAd_j]; omega
  rw [if_neg c1]
  by_cases c2 : K x.2.1 = 2
  · rw [if_pos c2, pFl_j]; exact ⟨Nat.le_refl _, fun h => h⟩
  rw [if_neg c2]
  by_cases c3 : 109 ≤ K x.2.1 ∧ K x.2.1 ≤ vLim S
  · have h2 : (pAd (K x.2.1) x).1 = 0 := by rw [pAd_f]; exact h
    have := Mo_pGo (c := K x.2.1) (x := pAd (K x.2.1) x) hT h2 (by rw [pAd_j]) (by omega)
    rw [pAd_j] at this
    rw [if_pos c3]; omega
  rw [if_neg c3]
  by_cases c4 : 100 ≤ K x.2.1
  · rw [if_pos c4, pFl_j]; exact ⟨Nat.le_refl _, fun h => h⟩
  rw [if_neg c4]
  by_cases c5 : K x.2.1 = 40
  · rw [if_pos c5]
    have := Mo_pGo hT h c5 (by decide)
    obtain ⟨-, a2, a3⟩ := hE (pGo x)
    unfold pSg
    by_cases z : ks K (E (pGo x)) 41 = true
    · rw [if_pos z]
      obtain ⟨z1, z2⟩ := ks_t z
      have := Mo_pGo hT z1 z2 (by decide)
      omega
    · rw [if_neg z, pFl_j]; exact ⟨by omega, fun _ => a3 this.2⟩
  · rw [if_neg c5, pFl_j]; exact ⟨Nat.le_refl _, fun h => h⟩
theorem Mo.cp {X Y : PZ → PZ} (hX : Mo M X) (hY : Mo M Y) : Mo M (fun x => Y (X x)) := by
  intro x
  obtain ⟨a1, a2, a3⟩ := hX x
  obtain ⟨b1, b2, b3⟩ := hY (X x)
  refine ⟨fun h => ?_, Nat.le_trans a2 b2, fun h => b3 (a3 h)⟩
  show Y (X x) = x
  rw [a1 h, (hY x).1 h]
theorem Mo.prod {E : PZ → PZ} (hT : TK K V M) (hE : Mo M E) : Mo M (pProd K V S E) := (Mo.part hT hE).cp ((Mo.part hT hE).lp hT rfl 700)
theorem Mo.sum {E : PZ → PZ} (hT : TK K V M) (hE : Mo M E) : Mo M (pSum K V S E) := (Mo.prod hT hE).cp ((Mo.prod hT hE).lp hT rfl 700)
theorem Mo.test {E : PZ → PZ} (hT : TK K V M) (hE : Mo M E) : Mo M (pTest K V S E) := by
  intro x
  have hS := Mo.sum (S := S) hT hE
  obtain ⟨a1, a2, a3⟩ := hS x
  unfold pTest
  by_cases z : (pSum K V S E x).1 = 0 ∧ is2 60 61 (K (pSum K V S E x).2.1) = true
  · rw [if_pos z]
    obtain ⟨g1, g2⟩ := Mo_pGo hT z.1 rfl (fun e => by rw [e] at z; exact absurd z.2 (by decide))
    obtain ⟨-, b2, b3⟩ := hS (pGo (pSum K V S E x))
    rw [pAd_j]
    exact ⟨fun h => absurd (by rw [← a1 h]; exact z.1) h, by omega, fun _ => b3 g2⟩
  · rw [if_neg z]; exact ⟨a1, a2, a3⟩
theorem pN_m (hT : TK K V M) : ∀ k (x : PZ), (x.1 ≠ 0 → pN K k x = (0, x)) ∧ (pN K k x).2.1 = x.1 ∧ x.2.1 + (pN K k x).1 = (pN K k x).2.2.1 ∧ (pN K k x).2.2.2 = x.2.2 ∧ (x.2.1 ≤ M → (pN K k x).2.2.1 ≤ M) ∧ (pN K k x).1 ≤ k := by
  intro k
  induction k with
  | zero => intro x; exact ⟨fun _ => rfl, rfl, rfl, rfl, fun h => h, Nat.le_refl _⟩
  | succ k ih =>
    intro x
    unfold pN
    by_cases z : ks K x 108 = true
    · rw [if_pos z]
      obtain ⟨z1, z2⟩ := ks_t z
      have g := Mo_pGo hT z1 z2 (by decide)
      obtain ⟨-, a2, a3, a4, a5, a6⟩ := ih (pGo x)
      have e : pGo x = (0, x.2.1 + 1, x.2.2) := pGo_0 z1
      refine ⟨fun h => absurd z1 h, ?_, ?_, ?_, fun _ => a5 g.2, ?_⟩
      · show (pN K k (pGo x)).2.1 = x.1
        rw [a2, pGo_f]
      · show x.2.1 + ((pN K k (pGo x)).1 + 1) = (pN K k (pGo x)).2.2.1
        have e2 : (pGo x).2.1 = x.2.1 + 1 := by rw [e]
        omega
      · show (pN K k (pGo x)).2.2.2 = x.2.2
        rw [a4, e]
      · show (pN K k (pGo x)).1 + 1 ≤ k + 1
        omega
    · rw [if_neg z]
      exact ⟨fun _ => rfl, rfl, rfl, rfl, fun h => h, Nat.zero_le _⟩
theorem pAs_n (h : x.1 ≠ 0) : ∀ n, pAs n x = x := by
  intro n
  induction n with
  | zero => rfl
  | succ n ih => show pAs n (pAd 108 x) = x; rw [pAd_n h]; exact ih
theorem pAs_j : ∀ n (x : PZ), (pAs n x).2.1 = x.2.1 ∧ (pAs n x).1 = x.1 := by
  intro n
  induction n with
  | zero => intro x; exact ⟨rfl, rfl⟩
  | succ n ih =>
    intro x
    obtain ⟨a, b⟩ := ih (pAd 108 x)
    exact ⟨a.trans pAd_j, b.trans pAd_f⟩
theorem pN7_m (hT : TK K V M) : (x.1 ≠ 0 → pN7 K x = x) ∧ x.2.1 ≤ (pN7 K x).2.1 ∧ (x.2.1 ≤ M → (pN7 K x).2.1 ≤ M) := by
  obtain ⟨a1, a2, a3, a4, a5, a6⟩ := pN_m hT 6 x
  unfold pN7
  by_cases z : ks K (pN K 6 x).2 108 = true
  · rw [if_pos z, pFl_j]
    refine ⟨fun h => ?_, by omega, a5⟩
    rw [ks_n (by rw [a2]; exact h)] at z
    cases z
  · rw [if_neg z]
    exact ⟨fun h => by rw [a1 h], by omega, a5⟩
theorem Mo.not {E : PZ → PZ} (hT : TK K V M) (hE : Mo M E) : Mo M (pNot K V S E) := by
  intro x
  obtain ⟨a1, a2, a3⟩ := pN7_m (x := x) hT
  obtain ⟨b1, b2, b3⟩ := Mo.test (S := S) hT hE (pN7 K x)
  unfold pNot
  rw [(pAs_j _ _).1]
  refine ⟨fun h => ?_, by omega, fun h => b3 (a3 h)⟩
  rw [a1 h, (pN_m hT 6 x).1 h, (Mo.test hT hE x).1 h]
  rfl
theorem Mo.and {E : PZ → PZ} (hT : TK K V M) (hE : Mo M E) : Mo M (pAnd K V S E) := (Mo.not hT hE).cp ((Mo.not hT hE).lp hT rfl 700)
theorem Mo.or {E : PZ → PZ} (hT : TK K V M) (hE : Mo M E) : Mo M (pOr K V S E) := (Mo.and hT hE).cp ((Mo.and hT hE).lp hT rfl 700)
theorem Mo.e (hT : TK K V M) : ∀ d, Mo M (pE K V S d) := by
  intro d
  induction d with
  | zero =>
    intro x
    unfold pE
    by_cases z : isPt (K x.2.1) = true
    · rw [if_pos z, pFl_j]; exact ⟨fun h => pFl_n h, Nat.le_refl _, fun h => h⟩
    · rw [if_neg z, pFl_j]; exact ⟨fun h => pFl_n h, Nat.le_refl _, fun h => h⟩
  | succ d ih => exact Mo.or hT ih
/-- where no part can begin, the first fault is 1 -/
theorem pOr_bad {E : PZ → PZ} (hT : TK K V M) (hE : Mo M E) (h : x.1 = 0) (hp : isPt (K x.2.1) = false) : pOr K V S E x = pFl 1 x := by
  unfold isPt at hp
  simp only [Bool.or_eq_false_iff, decide_eq_false_iff_not] at hp
  have e1 : pPart K V S E x = pFl 1 x := by
    unfold pPart
    rw [if_neg (fun y => y h), if_neg hp.1.1.1, if_neg hp.1.1.2, if_neg (fun y => hp.1.2 (by omega)), if_neg hp.1.2, if_neg hp.2]
  have hf : (pFl 1 x).1 ≠ 0 := pFl_f (by decide)
  have e2 : pProd K V S E x = pFl 1 x := by unfold pProd; rw [e1, lp_in hf]
  have e3 : pSum K V S E x = pFl 1 x := by unfold pSum; rw [e2, lp_in hf]
  have e4 : pTest K V S E x = pFl 1 x := by unfold pTest; rw [e3, if_neg (fun y => hf y.1)]
  have hk : ks K x 108 = false := by
    cases z : ks K x 108
    · rfl
    · exact absurd (ks_t z).2 (fun y => hp.1.2 (by omega))
  have e5 : pN K 6 x = (0, x) := by unfold pN; rw [hk]; rfl
  have e6 : pNot K V S E x = pFl 1 x := by
    unfold pNot pN7
    rw [e5, hk]
    show pAs 0 (pTest K V S E x) = _
    rw [e4]; rfl
  unfold pOr pAnd
  rw [e6, lp_in hf, lp_in hf]
/-! what is read is a rule -/
def Wf (S : Bool) (j0 b D : Nat) (x : PZ) : Prop := x.1 = 0 ∧ x.2.2.1 + j0 + b ≤ x.2.1 ∧ dpN x.2.2.2 x.2.2.1 = D ∧ ∀ k, k < x.2.2.1 → okSg (x.2.2.2 k) (dpN x.2.2.2 k) ∧ (S = false → x.2.2.2 k ≤ 113)
theorem dpN_cg {c c' : Row} : ∀ k, (∀ i, i < k → c i = c' i) → dpN c k = dpN c' k := by
  intro k
  induction k with
  | zero => intro _; rfl
  | succ k ih =>
    intro h
    show dp1 (c k) (dpN c k) = dp1 (c' k) (dpN c' k)
    rw [ih (fun i hi => h i (by omega)), h k (by omega)]
theorem Wf.go {j0 b D : Nat} (h : Wf S j0 b D x) : Wf S j0 (b + 1) D (pGo x) := by
  obtain ⟨h1, h2, h3⟩ := h
  rw [pGo_0 h1]
  exact ⟨rfl, by show x.2.2.1 + j0 + (b + 1) ≤ x.2.1 + 1; omega, h3⟩
theorem Wf.ad {j0 b D : Nat} {c : Int} (h : Wf S j0 (b + 1) D x) (hc : okSg c D) (hS : S = false → c ≤ 113) : Wf S j0 b (dp1 c D) (pAd c x) := by
  obtain ⟨h1, h2, h3, h4⟩ := h
  have ag : ∀ k, k ≤ x.2.2.1 → dpN (va_up x.2.2.2 x.2.2.1 c) k = dpN x.2.2.2 k := fun k hk => dpN_cg k (fun i hi => up_c (by omega))
  rw [pAd_0 h1]
  refine ⟨rfl, by show x.2.2.1 + 1 + j0 + b ≤ x.2.1; omega, ?_, fun k hk => ?_⟩
  · show dp1 (va_up x.2.2.2 x.2.2.1 c x.2.2.1) (dpN (va_up x.2.2.2 x.2.2.1 c) x.2.2.1) = _
    rw [up_s, ag _ (Nat.le_refl _), h3]
  · have hk : k < x.2.2.1 + 1 := hk
    show okSg (va_up x.2.2.2 x.2.2.1 c k) (dpN (va_up x.2.2.2 x.2.2.1 c) k) ∧ (S = false → va_up x.2.2.2 x.2.2.1 c k ≤ 113)
    rw [ag k (by omega)]
    by_cases z : k = x.2.2.1
    · subst z
      rw [up_s, h3]; exact ⟨hc, hS⟩
    · rw [up_c z]; exact h4 k (by omega)
def Gd (S : Bool) (X : PZ → PZ) (h : Nat) : Prop := ∀ (x : PZ) (j0 b D : Nat), Wf S j0 b D x → D + h ≤ 40 → (X x).1 = 0 → Wf S j0 b (D + 1) (X x)
theorem Gd.lp {t : Int → Bool} {X : PZ → PZ} {h : Nat} (hm : ∀ x : PZ, x.1 ≠ 0 → X x = x) (hX : Gd S X h) (ht : ∀ c, t c = true → c = 106 ∨ c = 107 ∨ c = 60 ∨ c = 61 ∨ c = 43 ∨ c = 45 ∨ c = 42 ∨ c = 47) : ∀ k (x : PZ) (j0 b D : Nat), Wf S j0 b (D + 1) x → D + 1 + h ≤ 40 → 1 ≤ h → (lpP K t X k x).1 = 0 → Wf S j0 b (D + 1) (lpP K t X k x) := by
  intro k
  induction k with
  | zero => intro x j0 b D hw _ _ _; exact hw
  | succ k ih =>
    intro x j0 b D hw hD h1 hs
    unfold lpP at hs ⊢
    by_cases z : x.1 = 0 ∧ t (K x.2.1) = true
    · rw [if_pos z] at hs ⊢
      have hc := ht _ z.2
      have h0 : (X (pGo x)).1 = 0 := by
        apply Classical.byContradiction
        intro y
        rw [pAd_n y, lp_in y] at hs
        exact y hs
      have w1 := hX _ _ _ _ hw.go (by omega) h0
      have w2 := w1.ad (c := K x.2.1) (by unfold okSg; omega) (fun _ => by omega)
      have e : dp1 (K x.2.1) (D + 1 + 1) = D + 1 := by unfold dp1; rw [if_neg (by omega), if_neg (by omega)]; rfl
      rw [e] at w2
      exact ih _ _ _ _ w2 hD h1 hs
    · rw [if_neg z]; exact hw
theorem dp1_v {c : Int} {D : Nat} (h : c < 0 ∨ 109 ≤ c) : dp1 c D = D + 1 := if_pos h
theorem Gd.part {E : PZ → PZ} {g : Nat} (hT : TK K V M) (hm : ∀ x : PZ, x.1 ≠ 0 → E x = x) (hE : Gd S E g) (h1 : 1 ≤ g) : Gd S (pPart K V S E) g := by
  intro x j0 b D hw hD hs
  have h : x.1 = 0 := hw.1
  unfold pPart at hs ⊢
  rw [if_neg (fun y => y h)] at hs ⊢
  by_cases c1 : K x.2.1 = 1
  · have hv := hT.2.2.2.1 _ c1
    rw [if_pos c1]
    have := hw.go.ad (c := -1 - V x.2.1) (Or.inl ⟨by omega, by omega, by omega⟩) (fun _ => by omega)
    rw [dp1_v (by omega)] at this
    exact this
  rw [if_neg c1] at hs ⊢
  by_cases c2 : K x.2.1 = 2
  · rw [if_pos c2] at hs; exact absurd hs (pFl_f (by decide))
  rw [if_neg c2] at hs ⊢
  by_cases c3 : 109 ≤ K x.2.1 ∧ K x.2.1 ≤ vLim S
  · rw [if_pos c3]
    have hl : K x.2.1 ≤ 115 ∧ (S = false → K x.2.1 ≤ 113) := by
      have := c3.2
      unfold vLim at this
      cases S
      · rw [if_neg (by decide)] at this; exact ⟨by omega, fun _ => this⟩
      · rw [if_pos rfl] at this; exact ⟨this, fun y => by cases y⟩
    have e : pGo (pAd (K x.2.1) x) = pAd (K x.2.1) (pGo x) := by
      rw [pGo_0 (by rw [pAd_f]; exact h), pAd_0 h, pGo_0 h, pAd_0 rfl]
    rw [e]
    have := hw.go.ad (c := K x.2.1) (Or.inr (Or.inl ⟨c3.1, hl.1, by omega⟩)) hl.2
    rw [dp1_v (by omega)] at this
    exact this
  rw [if_neg c3] at hs ⊢
  by_cases c4 : 100 ≤ K x.2.1
  · rw [if_pos c4] at hs; exact absurd hs (pFl_f (by decide))
  rw [if_neg c4] at hs ⊢
  by_cases c5 : K x.2.1 = 40
  · rw [if_pos c5] at hs ⊢
    unfold pSg at hs ⊢
    by_cases z : ks K (E (pGo x)) 41 = true
    · rw [if_pos z]
      have w1 := (hE _ _ _ _ hw.go hD (ks_t z).1).go
      obtain ⟨a1, a2, a3⟩ := w1
      exact ⟨a1, by omega, a3⟩
    · rw [if_neg z] at hs; exact absurd hs (pFl_f (by decide))
  · rw [if_neg c5] at hs; exact absurd hs (pFl_f (by decide))
theorem lp_s {t : Int → Bool} {X : PZ → PZ} {k : Nat} (h : (lpP K t X k x).1 = 0) : x.1 = 0 := by
  apply Classical.byContradiction
  intro y
  rw [lp_in y] at h
  exact y h
theorem Gd.prod {E : PZ → PZ} {g : Nat} (hT : TK K V M) (hm : Mo M E) (hE : Gd S E g) (h1 : 1 ≤ g) : Gd S (pProd K V S E) (g + 1) := by
  intro x j0 b D hw hD hs
  have hP := Gd.part hT (fun x => (hm x).1) hE h1
  have w1 := hP x j0 b D hw (by omega) (lp_s hs)
  exact Gd.lp (fun x => (Mo.part hT hm x).1) hP (fun c hc => by have := is2_t.mp hc; omega) 700 _ _ _ _ w1 (by omega) h1 hs
theorem Gd.sum {E : PZ → PZ} {g : Nat} (hT : TK K V M) (hm : Mo M E) (hE : Gd S E g) (h1 : 1 ≤ g) : Gd S (pSum K V S E) (g + 2) := by
  intro x j0 b D hw hD hs
  have hP := Gd.prod hT hm hE h1
  have w1 := hP x j0 b D hw (by omega) (lp_s hs)
  exact Gd.lp (fun x => (Mo.prod hT hm x).1) hP (fun c hc => by have := is2_t.mp hc; omega) 700 _ _ _ _ w1 (by omega) (by omega) hs
theorem Gd.test {E : PZ → PZ} {g : Nat} (hT : TK K V M) (hm : Mo M E) (hE : Gd S E g) (h1 : 1 ≤ g) : Gd S (pTest K V S E) (g + 3) := by
  intro x j0 b D hw hD hs
  have hP := Gd.sum (S := S) hT hm hE h1
  unfold pTest at hs ⊢
  by_cases z : (pSum K V S E x).1 = 0 ∧ is2 60 61 (K (pSum K V S E x).2.1) = true
  · rw [if_pos z] at hs ⊢
    have w1 := hP x j0 b D hw (by omega) z.1
    have hc := is2_t.mp z.2
    rw [pAd_f] at hs
    have w2 := hP _ j0 (b + 1) (D + 1) w1.go (by omega) hs
    have w3 := w2.ad (c := K (pSum K V S E x).2.1) (by unfold okSg; omega) (fun _ => by omega)
    have e : dp1 (K (pSum K V S E x).2.1) (D + 1 + 1) = D + 1 := by unfold dp1; rw [if_neg (by omega), if_neg (by omega)]; rfl
    rw [e] at w3
    exact w3
  · rw [if_neg z] at hs ⊢
    exact hP x j0 b D hw (by omega) hs
theorem Wf.as {j0 b D : Nat} : ∀ (n : Nat) (x : PZ), Wf S j0 (b + n) (D + 1) x → D + 1 ≤ 40 → Wf S j0 b (D + 1) (pAs n x) := by
  intro n
  induction n with
  | zero => intro x h _; exact h
  | succ n ih =>
    intro x h hD
    have w := Wf.ad (b := b + n) (c := 108) h (Or.inr (Or.inr (Or.inl ⟨rfl, by omega, hD⟩))) (fun _ => by decide)
    have e : dp1 108 (D + 1) = D + 1 := by unfold dp1; rw [if_neg (by decide), if_pos rfl]
    rw [e] at w
    exact ih _ w hD
theorem Wf.n {j0 b D : Nat} : ∀ (k : Nat) (x : PZ), Wf S j0 b D x → Wf S j0 (b + (pN K k x).1) D (pN K k x).2 := by
  intro k
  induction k generalizing b with
  | zero => intro x h; exact h
  | succ k ih =>
    intro x h
    unfold pN
    by_cases z : ks K x 108 = true
    · rw [if_pos z]
      have := ih _ h.go
      show Wf S j0 (b + ((pN K k (pGo x)).1 + 1)) D (pN K k (pGo x)).2
      rw [show b + ((pN K k (pGo x)).1 + 1) = b + 1 + (pN K k (pGo x)).1 by omega]
      exact this
    · rw [if_neg z]; exact h
theorem Gd.not {E : PZ → PZ} {g : Nat} (hT : TK K V M) (hm : Mo M E) (hE : Gd S E g) (h1 : 1 ≤ g) : Gd S (pNot K V S E) (g + 3) := by
  intro x j0 b D hw hD hs
  unfold pNot at hs ⊢
  rw [(pAs_j _ _).2] at hs
  have w1 : Wf S j0 (b + (pN K 6 x).1) D (pN7 K x) := by
    unfold pN7 at hs ⊢
    by_cases z : ks K (pN K 6 x).2 108 = true
    · rw [if_pos z] at hs
      have hf : (pFl 2 (pN K 6 x).2).1 ≠ 0 := pFl_f (by decide)
      rw [(Mo.test hT hm _).1 hf] at hs
      exact absurd hs hf
    · rw [if_neg z]; exact Wf.n 6 x hw
  exact Wf.as _ _ (Gd.test hT hm hE h1 _ _ _ _ w1 hD hs) (by omega)
theorem Gd.and {E : PZ → PZ} {g : Nat} (hT : TK K V M) (hm : Mo M E) (hE : Gd S E g) (h1 : 1 ≤ g) : Gd S (pAnd K V S E) (g + 4) := by
  intro x j0 b D hw hD hs
  have hP := Gd.not hT hm hE h1
  have w1 := hP x j0 b D hw (by omega) (lp_s hs)
  exact Gd.lp (fun x => (Mo.not hT hm x).1) hP (fun c hc => by have := is1_t.mp hc; omega) 700 _ _ _ _ w1 (by omega) (by omega) hs
theorem Gd.or {E : PZ → PZ} {g : Nat} (hT : TK K V M) (hm : Mo M E) (hE : Gd S E g) (h1 : 1 ≤ g) : Gd S (pOr K V S E) (g + 5) := by
  intro x j0 b D hw hD hs
  have hP := Gd.and hT hm hE h1
  have w1 := hP x j0 b D hw (by omega) (lp_s hs)
  exact Gd.lp (fun x => (Mo.and hT hm x).1) hP (fun c hc => by have := is1_t.mp hc; omega) 700 _ _ _ _ w1 (by omega) (by omega) hs
theorem Gd.e (hT : TK K V M) : ∀ d, Gd S (pE K V S d) (5 * d + 1) := by
  intro d
  induction d with
  | zero =>
    intro x j0 b D hw hD hs
    unfold pE at hs
    split at hs <;> exact absurd hs (pFl_f (by decide))
  | succ d ih =>
    have := Gd.or hT (Mo.e (S := S) hT d) ih (by omega)
    rw [show 5 * (d + 1) + 1 = 5 * d + 1 + 5 by omega]
    exact this
/-- a rule that is read through is one -/
theorem pE_ok {j0 : Nat} {r : Row} (hT : TK K V M) (h0 : 1 ≤ j0) (hM : j0 ≤ M) (h : (pE K V S 6 (0, j0, 0, r)).1 = 0) :
    okRule (pE K V S 6 (0, j0, 0, r)).2.2 ∧ 0 < (pE K V S 6 (0, j0, 0, r)).2.2.1 ∧ (S = false → ∀ k, k < (pE K V S 6 (0, j0, 0, r)).2.2.1 → (pE K V S 6 (0, j0, 0, r)).2.2.2 k ≤ 113) := by
  have w := Gd.e (S := S) hT 6 (0, j0, 0, r) j0 0 0 ⟨rfl, by show 0 + j0 + 0 ≤ j0; omega, rfl, fun k hk => absurd hk (Nat.not_lt_zero _)⟩ (by decide) h
  have hj := (Mo.e (S := S) hT 6 (0, j0, 0, r)).2.2 hM
  obtain ⟨a1, a2, a3, a4⟩ := w
  have hM7 := hT.1
  refine ⟨⟨by omega, fun k hk => (a4 k hk).1, fun _ => a3⟩, ?_, fun hS k hk => (a4 k hk).2 hS⟩
  apply Classical.byContradiction
  intro y
  have e : (pE K V S 6 (0, j0, 0, r)).2.2.1 = 0 := by omega
  rw [e] at a3
  cases a3
end PZ
