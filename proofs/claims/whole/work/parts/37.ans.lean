/-! the answers, as functions of the state: what is asked of steps that go by -/
theorem sumN_bn {f : Row} {M : Int} : ∀ n : Nat, (∀ i, i < n → 0 ≤ f i ∧ f i ≤ M) → 0 ≤ sumN f n ∧ sumN f n ≤ n * M := by
  intro n
  induction n with
  | zero => intro _; exact ⟨Int.le_refl _, by simp [sumN]⟩
  | succ n ih =>
    intro hf
    have h1 := hf n (by omega)
    have h2 := ih (fun i hi => hf i (by omega))
    have e : ((n + 1 : Nat) : Int) * M = n * M + M := by rw [Int.natCast_add, Int.add_mul]; simp
    show 0 ≤ sumN f n + f n ∧ sumN f n + f n ≤ _
    rw [e]
    omega
theorem sumN_congr {f g : Row} : ∀ n : Nat, (∀ i, i < n → f i = g i) → sumN f n = sumN g n := by
  intro n
  induction n with
  | zero => intro _; rfl
  | succ n ih => intro h; show sumN f n + f n = sumN g n + g n; rw [ih (fun i hi => h i (by omega)), h n (by omega)]
theorem sumN_add {f g : Row} : ∀ n : Nat, sumN (fun i => f i + g i) n = sumN f n + sumN g n := by
  intro n
  induction n with
  | zero => rfl
  | succ n ih =>
    show sumN (fun i => f i + g i) n + (f n + g n) = (sumN f n + f n) + (sumN g n + g n)
    rw [ih]; omega
theorem dT_b (Q : QT) (s : ST) (p i : Nat) : 0 ≤ dT Q s p i ∧ dT Q s p i ≤ 1 := by unfold dT; split <;> omega
theorem dP_b {Q : QT} {s : ST} {n : Nat} (p : Nat) (h : GS n s) : 0 ≤ dP Q s p ∧ dP Q s p ≤ 999 := by
  have h1 := mch_b (Q := Q) (p := p) h
  have h2 := h.1 (whoA Q s p)
  unfold dP; split <;> omega
theorem dH_b {Q : QT} {s : ST} {n : Nat} (p q i : Nat) (h : GS n s) : 0 ≤ dH Q s p q i ∧ dH Q s p q i ≤ 999 := by
  have h1 := mch_b (Q := Q) (p := p) h
  have h2 := h.1 (whoA Q s p)
  unfold dH; split <;> omega
theorem TM_b {Q : QT} {s : ST} (hg : GQ Q) (i : Nat) : 0 ≤ TM Q s (zn Q) i ∧ TM Q s (zn Q) i ≤ 8 := by
  have h := sumN_bn (f := fun p => dT Q (sg Q s p) p i) (M := 1) (zn Q) (fun p _ => dT_b Q _ p i)
  have := hg.1
  unfold TM; omega
theorem PS_b {Q : QT} {s : ST} (hg : GQ Q) (h : GS (zn Q) s) : 0 ≤ PS Q s (zn Q) ∧ PS Q s (zn Q) ≤ 7992 := by
  have h := sumN_bn (f := fun p => dP Q (sg Q s p) p) (M := 999) (zn Q) (fun p hp => dP_b p (GS_sg h p (by omega)))
  have := hg.1
  unfold PS; omega
theorem HD_b {Q : QT} {s : ST} (hg : GQ Q) (h : GS (zn Q) s) (q i : Nat) : 0 ≤ HD Q s (zn Q) q i ∧ HD Q s (zn Q) q i ≤ 7992 := by
  have h := sumN_bn (f := fun p => dH Q (sg Q s p) p q i) (M := 999) (zn Q) (fun p hp => dH_b p q i (GS_sg h p (by omega)))
  have := hg.1
  unfold HD; omega
theorem TMs_b {Q : QT} {s : ST} (hg : GQ Q) (K i : Nat) (hK : K ≤ 1000) : 0 ≤ TMs Q s K i ∧ TMs Q s K i ≤ 8000 := by
  have h := sumN_bn (f := fun j => TM Q (goN Q s j) (zn Q) i) (M := 8) K (fun p _ => TM_b hg i)
  unfold TMs; omega
theorem PSs_b {Q : QT} {s : ST} (hg : GQ Q) (hs : GS (zn Q) s) (K : Nat) (hK : K ≤ 1000) (hT : uT s ≤ 2000) : 0 ≤ PSs Q s K ∧ PSs Q s K ≤ 7992000 := by
  have h := sumN_bn (f := fun j => PS Q (goN Q s j) (zn Q)) (M := 7992) K (fun p hp => PS_b hg (GS_goN hs p (by omega)))
  unfold PSs; omega
theorem HDs_b {Q : QT} {s : ST} (hg : GQ Q) (hs : GS (zn Q) s) (K q i : Nat) (hK : K ≤ 1000) (hT : uT s ≤ 2000) : 0 ≤ HDs Q s K q i ∧ HDs Q s K q i ≤ 7992000 := by
  have h := sumN_bn (f := fun j => HD Q (goN Q s j) (zn Q) q i) (M := 7992) K (fun p hp => HD_b hg (GS_goN hs p (by omega)) q i)
  unfold HDs; omega
theorem SLs_b {Q : QT} {s : ST} (K : Nat) (hK : K ≤ 1000) : 0 ≤ SLs Q s K ∧ SLs Q s K ≤ 1000 := by
  have h := sumN_bn (f := fun j => b2i (noA Q (goN Q s j) (zn Q))) (M := 1) K (fun p _ => by cases noA Q (goN Q s p) (zn Q) <;> simp [b2i])
  unfold SLs; omega
/-- the first of the first n that holds; -1: none -/
def frs (P : Nat → Bool) : Nat → Int
  | 0 => -1
  | n + 1 => if frs P n = -1 ∧ P n = true then (n : Int) else frs P n
theorem frs_no {P : Nat → Bool} : ∀ n, (∀ i, i < n → P i = false) → frs P n = -1 := by
  intro n
  induction n with
  | zero => intro _; rfl
  | succ n ih =>
    intro h
    unfold frs
    rw [if_neg (fun z => by rw [h n (by omega)] at z; cases z.2)]
    exact ih (fun i hi => h i (by omega))
theorem frs_yes {P : Nat → Bool} {k : Nat} (hk : P k = true) (h : ∀ i, i < k → P i = false) : ∀ n, k < n → frs P n = k := by
  intro n
  induction n with
  | zero => intro q; omega
  | succ n ih =>
    intro hn
    unfold frs
    by_cases e : k = n
    · subst e
      rw [if_pos ⟨frs_no k h, hk⟩]
    · rw [ih (by omega), if_neg (by omega)]
def aThen (Q : QT) (s : ST) (x k wh : Int) : An := gdP (zn Q) x (gdW 2 wh (gdB 0 60 k (.inl (if wh = 0 then uL (goN Q s k.toNat) x.toNat else uG (goN Q s k.toNat) x.toNat))))
def aAsked (Q : QT) (s : ST) (x k : Int) : An := gdP (zn Q) x (gdB 1 60 k (.inl (WH Q (goN Q s (k.toNat - 1)) x.toNat)))
def aSpent (Q : QT) (s : ST) (x : Int) : An := gdP (zn Q) x (.inl (frs (fun k => decide (uL (goN Q s k) x.toNat = 0)) 61))
def aLater (Q : QT) (s : ST) (k wh : Int) : An := gdW 5 wh (gdB 0 60 k (.inl (if wh = 0 then mk (alv (goN Q s k.toNat)) 8 else if wh = 1 then (rich (uL (goN Q s k.toNat)) (alv (goN Q s k.toNat)) 8).1 else if wh = 2 then (poor (uL (goN Q s k.toNat)) (alv (goN Q s k.toNat)) 8).1 else if wh = 3 then sumN (uL (goN Q s k.toNat)) 8 else PSs Q s k.toNat)))
def aBusiest (Q : QT) (s : ST) (k : Int) : An := gdB 1 60 k (.inl (rich (TMs Q s k.toNat) (fun _ => true) (zn Q)).1)
def aRobbed (Q : QT) (s : ST) (x o k : Int) : An := gdP (zn Q) x (gdP (zn Q) o (gdB 0 60 k (.inl (HDs Q s k.toNat x.toNat o.toNat))))
def aGained (Q : QT) (s : ST) (x k : Int) : An := gdP (zn Q) x (gdB 0 60 k (.inl (uL (goN Q s k.toNat) x.toNat - uL s x.toNat)))
def aShows (Q : QT) (s : ST) (x k : Int) : An := gdP (zn Q) x (gdB 1 60 k (.inl ((shw s x.toNat + (if uP s then 0 else 5 * (k - 1))) % 60)))
def aSilent (Q : QT) (s : ST) (k : Int) : An := gdB 1 60 k (.inl (SLs Q s k.toNat))
def aAlike (Q : QT) (s : ST) : An := .inl (sumN (fun p => (cn (fun o => decide (uW s p = uW s o)) p : Nat)) (zn Q))
/-- an int within bounds is a number -/
theorem toN {x : Int} {m : Int} (h : 0 ≤ x) (h' : x < m) : ∃ p : Nat, x = p ∧ (p : Int) < m := ⟨x.toNat, by omega, by omega⟩
