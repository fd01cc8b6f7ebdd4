/-! the class's answers: watches alike, who is where -/
def alM (s : ST) (p o : Nat) : Int := if uW s p = uW s o then 1 else 0
def alG (s : ST) (p n : Nat) : Int := sumN (fun q => if p < q then alM s p q else 0) n
theorem alG_le {s : ST} {p : Nat} : ∀ n, n ≤ p + 1 → alG s p n = 0 := by
  intro n
  induction n with
  | zero => intro _; rfl
  | succ n ih =>
    intro h
    show alG s p n + (if p < n then alM s p n else 0) = 0
    rw [ih (by omega), if_neg (by omega)]; rfl
theorem al_swap {s : ST} : ∀ n, sumN (fun p => alG s p n) n = sumN (fun q => sumN (fun p => alM s p q) q) n := by
  intro n
  induction n with
  | zero => rfl
  | succ n ih =>
    show sumN (fun p => alG s p (n + 1)) n + alG s n (n + 1) = sumN (fun q => sumN (fun p => alM s p q) q) n + sumN (fun p => alM s p n) n
    rw [alG_le (n + 1) (by omega), ← ih, ← sumN_add]
    have : sumN (fun p => alG s p (n + 1)) n = sumN (fun i => alG s i n + alM s i n) n := sumN_congr n (fun i hi => by
      show alG s i n + (if i < n then alM s i n else 0) = _
      rw [if_pos hi])
    rw [this]; omega
theorem al_cn {s : ST} {q : Nat} : ∀ n, sumN (fun p => alM s p q) n = (cn (fun o => decide (uW s q = uW s o)) n : Nat) := by
  intro n
  induction n with
  | zero => rfl
  | succ n ih =>
    show sumN (fun p => alM s p q) n + alM s n q = ((cn (fun o => decide (uW s q = uW s o)) n + (if decide (uW s q = uW s n) = true then 1 else 0) : Nat) : Int)
    rw [ih]
    unfold alM
    by_cases z : uW s n = uW s q
    · rw [if_pos z, if_pos (by simpa using z.symm)]; rfl
    · rw [if_neg z, if_neg (by simpa using fun y => z (Eq.symm y))]; rfl
theorem alM_b (s : ST) (p o : Nat) : 0 ≤ alM s p o ∧ alM s p o ≤ 1 := by unfold alM; split <;> omega
theorem alG_b (s : ST) (p n : Nat) : 0 ≤ alG s p n ∧ alG s p n ≤ n := by
  have h := sumN_bn (f := fun q => if p < q then alM s p q else 0) (M := 1) n (fun i _ => by have := alM_b s p i; split <;> omega)
  unfold alG; omega
theorem shw_eq {s : ST} {n p o : Nat} (h : GS n s) : shw s p = shw s o ↔ uW s p = uW s o := by
  have h1 := h.2.2.1 p
  have h2 := h.2.2.1 o
  have h3 := h.2.2.2.2.2.1
  unfold shw
  constructor <;> intro e <;> omega
theorem c134 {w : Wd} {q : Nat} {Q : QT} {s : ST} (h : CQ w q Q s) : AnC w (F134 0 w) (aAlike Q s) := by
  have h8 := h.n8
  have e79 : ∀ p : Nat, p < 8 → F79 34 p w = rI (shw s p) w := fun p hp => q79 h.H l34 hp h.2.2.2.1 h.s
  obtain ⟨v, hv, e⟩ := lpR (F := fun k v => s134_4 0 v k w) (I := fun k v => v = sumN (fun p => alG s p (zn Q)) k) (zn Q) (fun k v hk e => by
    have hb := sumN_bn (f := fun p => alG s p (zn Q)) (M := 8) k (fun i _ => by have := alG_b s i (zn Q); omega)
    rw [← e] at hb
    obtain ⟨u, hu, e1⟩ := lpR (F := fun j u => s134_19 0 u k (((k + 1 : Nat) : Int) + j) w) (I := fun j u => u = v + alG s k (k + 1 + j)) (zn Q - (k + 1)) (fun j u hj e1 => by
      have hg := alG_b s k (k + 1 + j)
      have hb2 := shw_eq (p := k) (o := k + 1 + j) h.s
      refine ⟨_, fun o ho => e134_19 h.H l0 _ ?_, rfl⟩
      have ec : ((k + 1 : Nat) : Int) + (j : Nat) = ((k + 1 + j : Nat) : Int) := by omega
      have ed : ((k + 1 : Nat) : Int) + ((j + 1 : Nat) : Int) = ((k + 1 + j : Nat) : Int) + 1 := by omega
      have eg : alG s k (k + 1 + (j + 1)) = alG s k (k + 1 + j) + (if k < k + 1 + j then alM s k (k + 1 + j) else 0) := rfl
      rw [ed, eg, if_pos (by omega)] at ho
      rw [h.q, h.n, ec, if_neg (by omega), e79 k (by omega), bI_r h.H, e79 (k + 1 + j) (by omega), bI_r h.H, wrd (z := ((k + 1 + j : Nat) : Int) + 1) (by omega) (by omega)]
      unfold alM at ho
      by_cases z : shw s k = shw s (k + 1 + j)
      · rw [if_neg (by omega), wrd (by omega) (by omega)]
        rw [if_pos (hb2.mp z)] at ho
        rw [e1, show v + alG s k (k + 1 + j) + 1 = v + (alG s k (k + 1 + j) + 1) by omega]; exact ho
      · rw [if_pos z]
        rw [if_neg (fun y => z (hb2.mpr y))] at ho
        rw [e1]
        simpa using ho) v (by rw [alG_le (k + 1 + 0) (by omega)]; omega)
    have ef : ((k + 1 : Nat) : Int) + ((zn Q - (k + 1) : Nat) : Int) = (zn Q : Int) := by omega
    refine ⟨_, fun o ho => e134_4 h.H l0 _ ?_, rfl⟩
    rw [h.q, h.n, if_neg (by omega), wrd (by omega) (by omega)]
    have h1 : ((k : Int) + 1) = ((k + 1 : Nat) : Int) + 0 := by omega
    rw [h1]
    refine hu _ (e134_19 h.H l0 _ ?_)
    rw [h.q, h.n, ef, if_pos (Int.le_refl _), wrd (by omega) (by omega), e1, show k + 1 + (zn Q - (k + 1)) = zn Q by omega, e]
    exact ho) 0 rfl
  refine AnC.of (e134 h.H l0) ?_
  have : s134_4 0 0 0 w = rI v w := hv _ (e134_4 h.H l0 _ (by rw [h.q, h.n, if_pos (Int.le_refl _)]))
  rw [this, e, al_swap, sumN_congr (zn Q) (fun i _ => al_cn i)]
  exact AnC.v FrC.rf
/-- one's corner in the step that is j on -/
def ca (Q : QT) (s : ST) (p j : Nat) : Int := zc Q p ((uT s).toNat + j)
theorem c139 {w : Wd} {q : Nat} {Q : QT} {s : ST} {p j : Nat} (h : CQ w q Q s) (hp : p < zn Q) (hj : j ≤ 60) : F139 0 p ((j : Int) + 1) w = rI (ca Q s p j) w := by
  have ht := h.t
  refine e139 h.H l0 _ ?_
  have e7 : gI w (0 + 34) 7 = uT s := h.2.2.2.1.2.2.2.2.2.2.2
  rw [h.q, e7, wrd (z := uT s + ((j : Int) + 1)) (by omega) (by omega), wrd (by omega) (by omega), show uT s + ((j : Int) + 1) - 1 = (((uT s).toNat + j : Nat) : Int) by omega, q35 h.H (lq h.1) h.g h.2.2.1 hp (by omega), bI_r h.H]
  rfl
theorem c138 {w : Wd} {q : Nat} {Q : QT} {s : ST} {p o j : Nat} (h : CQ w q Q s) (hp : p < zn Q) (ho : o < zn Q) (hj : j ≤ 60) : F138 0 p o ((j : Int) + 1) w = rI (b2i (decide (ca Q s p j = ca Q s o j))) w := by
  refine e138 h.H l0 _ ?_
  rw [c139 h hp hj, bI_r h.H, c139 h ho hj, bI_r h.H]
  by_cases z : ca Q s p j = ca Q s o j
  · rw [if_neg (by omega)]; simp [z, b2i]
  · rw [if_pos z]; simp [z, b2i]
def aMeet (Q : QT) (s : ST) (x o : Int) : An := gdP (zn Q) x (gdP (zn Q) o (.inl (if x = o then -1 else if frs (fun j => decide (ca Q s x.toNat j = ca Q s o.toNat j)) 60 = -1 then -1 else frs (fun j => decide (ca Q s x.toNat j = ca Q s o.toNat j)) 60 + 1)))
def aOften (Q : QT) (s : ST) (x o k : Int) : An := gdP (zn Q) x (gdP (zn Q) o (gdB 1 60 k (.inl (cn (fun j => decide (ca Q s x.toNat j = ca Q s o.toNat j)) k.toNat : Nat))))
def aWhere (Q : QT) (s : ST) (x k : Int) : An := gdP (zn Q) x (gdB 1 60 k (.inl (ca Q s x.toNat (k.toNat - 1))))
theorem c141 {w : Wd} {q : Nat} {Q : QT} {s : ST} {x k : Int} (h : CQ w q Q s) : AnC w (F141 0 x k w) (aWhere Q s x k) := by
  refine AnC.of (e141 h.H l0) (AnC.P h fun x0 x1 => AnC.B h.H fun k0 k1 => ?_)
  obtain ⟨p, rfl, hp⟩ := toN x0 x1
  obtain ⟨K, rfl, hK⟩ := toN (show 0 ≤ k by omega) (show k < 61 by omega)
  have := c139 (j := K - 1) h (show p < zn Q by omega) (by omega)
  rw [show ((K - 1 : Nat) : Int) + 1 = K by omega] at this
  rw [this, bI_r h.H]
  exact AnC.v FrC.rf
theorem c136 {w : Wd} {q : Nat} {Q : QT} {s : ST} {x o : Int} (h : CQ w q Q s) : AnC w (F136 0 x o w) (aMeet Q s x o) := by
  refine AnC.of (e136 h.H l0) (AnC.P h fun x0 x1 => AnC.P h fun o0 o1 => ?_)
  obtain ⟨p, rfl, hp⟩ := toN x0 x1
  obtain ⟨r, rfl, hr⟩ := toN o0 o1
  by_cases e : (p : Int) = r
  · rw [if_neg (by omega), if_pos e]; exact AnC.v FrC.rf
  rw [if_pos e, if_neg e, nn, nn]
  have hX := lpX (F := fun k (_ : Unit) => s136_19 0 (p : Int) (r : Int) (k + 1) w) (I := fun k _ => ∀ i, i < k → ca Q s p i ≠ ca Q s r i) (Q := fun o => ∃ j : Nat, j < 60 ∧ o = (.inl (some (.inl ((j : Int) + 1))), w) ∧ ca Q s p j = ca Q s r j ∧ ∀ i, i < j → ca Q s p i ≠ ca Q s r i) 60 (fun k _ hk e2 => by
    by_cases z : ca Q s p k = ca Q s r k
    · refine Or.inr ⟨_, e136_19 h.H l0 _ ?_, k, hk, rfl, z, e2⟩
      rw [if_neg (by omega), c138 h (by omega) (by omega) (by omega), bI_r h.H, if_neg (by simp [z, b2i])]
    · refine Or.inl ⟨(), fun o ho => e136_19 h.H l0 _ ?_, fun i hi => ?_⟩
      · rw [if_neg (by omega), c138 h (by omega) (by omega) (by omega), bI_r h.H, if_pos (by simp [z, b2i]), wrd (by omega) (by omega)]
        exact ho
      · by_cases y : i = k
        · rw [y]; exact z
        · exact e2 i (by omega)) () (fun i hi => absurd hi (Nat.not_lt_zero _))
  rcases hX with ⟨_, hu, e2⟩ | ⟨o, ho, j, hj, hw, hz, e2⟩
  · have : s136_19 0 (p : Int) (r : Int) (0 + 1) w = rI (-1) w := hu _ (e136_19 h.H l0 _ (if_pos (by omega)))
    rw [show (0 : Int) + 1 = 1 from rfl] at this
    rw [this, if_pos (frs_no 60 (fun i hi => by simpa using e2 i hi))]
    exact AnC.v FrC.rf
  · rw [hw] at ho
    have ho : s136_19 0 (p : Int) (r : Int) 1 w = _ := ho
    rw [ho, frs_yes (k := j) (by simpa using hz) (fun i hi => by simpa using e2 i hi) 60 hj, if_neg (by omega)]
    exact AnC.v FrC.rf
theorem c137 {w : Wd} {q : Nat} {Q : QT} {s : ST} {x o k : Int} (h : CQ w q Q s) : AnC w (F137 0 x o k w) (aOften Q s x o k) := by
  refine AnC.of (e137 h.H l0) (AnC.P h fun x0 x1 => AnC.P h fun o0 o1 => AnC.B h.H fun k0 k1 => ?_)
  obtain ⟨p, rfl, hp⟩ := toN x0 x1
  obtain ⟨r, rfl, hr⟩ := toN o0 o1
  obtain ⟨K, rfl, hK⟩ := toN (show 0 ≤ k by omega) (show k < 61 by omega)
  obtain ⟨v, hv, e⟩ := lpR (F := fun k v => s137_24 0 (p : Int) (r : Int) K v (k + 1) w) (I := fun k v => v = (cn (fun j => decide (ca Q s p j = ca Q s r j)) k : Nat)) K (fun k v hk e => by
    subst e
    refine ⟨_, fun o ho => e137_24 h.H l0 _ ?_, rfl⟩
    have hc := cn_le (P := fun j => decide (ca Q s p j = ca Q s r j)) k
    have ec : cn (fun j => decide (ca Q s p j = ca Q s r j)) (k + 1) = cn (fun j => decide (ca Q s p j = ca Q s r j)) k + (if decide (ca Q s p k = ca Q s r k) = true then 1 else 0) := rfl
    rw [ec] at ho
    rw [if_neg (by omega), c138 h (by omega) (by omega) (by omega), bI_r h.H, wrd (z := (k : Int) + 1 + 1) (by omega) (by omega)]
    by_cases z : ca Q s p k = ca Q s r k
    · rw [if_neg (by simp [z, b2i]), wrd (by omega) (by omega)]
      rw [if_pos (by simpa using z)] at ho
      exact ho
    · rw [if_pos (by simp [z, b2i])]
      rw [if_neg (by simpa using z)] at ho
      exact ho) 0 rfl
  subst e
  have : s137_24 0 (p : Int) (r : Int) K 0 (0 + 1) w = rI (cn (fun j => decide (ca Q s p j = ca Q s r j)) K : Nat) w := hv _ (e137_24 h.H l0 _ (if_pos (by omega)))
  rw [show (0 : Int) + 1 = 1 from rfl] at this
  rw [this, nn, nn, nn]
  exact AnC.v FrC.rf
