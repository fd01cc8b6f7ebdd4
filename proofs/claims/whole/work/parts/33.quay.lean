/-! a quay told; who is where; rules worked out -/
/-- the world holds the quay Q at q -/
def RQ (w : Wd) (q : Nat) (Q : QT) : Prop := gI w q 0 = zk Q ∧ gI w q 1 = zn Q ∧ gI w q 3 = mk (zm Q) 8 ∧ (∀ p, p < zn Q → ∃ m : Nat, 1 ≤ m ∧ m ≤ 6 ∧ gI w (q + 4) p = m ∧ ∀ t : Nat, gI w (q + 5) (6 * p + t % m) = zc Q p t) ∧
  gI w (q + 6) 1 = (za Q).1 ∧ (∀ i, i < (za Q).1 → gI w (q + 7) i = (za Q).2 i) ∧ gI w (q + 8) 1 = (zs Q).1 ∧ (∀ i, i < (zs Q).1 → gI w (q + 9) i = (zs Q).2 i)
theorem RQ.fr {A : Nat → Prop} {w w' : Wd} {q : Nat} {Q : QT} (h : RQ w q Q) (hf : FrI A w w') (hA : ∀ b, q ≤ b → b ≤ q + 9 → ¬ A b) : RQ w' q Q := by
  unfold RQ
  rw [hf.1 q (hA _ (by omega) (by omega)), hf.1 (q + 4) (hA _ (by omega) (by omega)), hf.1 (q + 5) (hA _ (by omega) (by omega)), hf.1 (q + 6) (hA _ (by omega) (by omega)), hf.1 (q + 7) (hA _ (by omega) (by omega)), hf.1 (q + 8) (hA _ (by omega) (by omega)), hf.1 (q + 9) (hA _ (by omega) (by omega))]
  exact h
theorem q34 {q p : Nat} {w : Wd} {Q : QT} (H : LR w) (h : (lay q).1 = 4) (hp : p < 8) (hr : RQ w q Q) : F34 q p w = rI (b2i (zm Q p)) w := by
  refine e34 H h _ ?_
  rw [hr.2.2.1]
  cases hb : zm Q p
  · rw [mk_bit_f (by omega) (by omega) hb, if_pos (by omega)]; rfl
  · rw [mk_bit_t (by omega) hp hb, if_neg (by omega)]; rfl
theorem q35 {q p t : Nat} {w : Wd} {Q : QT} (H : LR w) (h : (lay q).1 = 4) (hg : GQ Q) (hr : RQ w q Q) (hp : p < zn Q) (ht : t < 2147483648) : F35 q p t w = rI (zc Q p t) w := by
  refine e35 H h _ ?_
  have h8 := hg.1
  obtain ⟨m, m1, m2, m3, m4⟩ := hr.2.2.2.1 p hp
  rw [if_neg (by omega), if_neg (by omega), gdi (by omega) (by omega), nn, m3]
  refine e35_23 H h _ ?_
  rw [if_neg (by omega), if_pos (by omega), q324 H ht (by omega) (by omega), bI_r H]
  have hm := Nat.mod_lt t (show m > 0 by omega)
  have e1 : wr ((p : Int) * 6) = ((6 * p : Nat) : Int) := by rw [wrd (by omega) (by omega)]; omega
  have e2 : wr (((6 * p : Nat) : Int) + ((t % m : Nat) : Int)) = ((6 * p + t % m : Nat) : Int) := by rw [wrd (by omega) (by omega)]; omega
  rw [e1, e2, gdi (by omega) (by omega), nn, m4]
/-- who is at a corner -/
def atC (Q : QT) (c : Int) (t r : Nat) : Bool := decide (r < zn Q) && decide (zc Q r t = c)
theorem atC_in {Q : QT} {c : Int} {t r : Nat} (h : r < zn Q) : atC Q c t r = decide (zc Q r t = c) := by unfold atC; simp [h]
theorem atC_out {Q : QT} {c : Int} {t r : Nat} (h : zn Q ≤ r) : atC Q c t r = false := by unfold atC; simp [show ¬ r < zn Q by omega]
theorem q36 {q t : Nat} {c : Int} {w : Wd} {Q : QT} (H : LR w) (h : (lay q).1 = 4) (hg : GQ Q) (hr : RQ w q Q) (ht : t < 2147483648) : F36 q c t w = rI (mk (atC Q c t) 8) w := by
  have h8 := hg.1
  obtain ⟨v, hv, e⟩ := lpR (F := fun k v => s36_5 q c t v k w) (I := fun k v => v = mk (atC Q c t) k) (zn Q) (fun k v hk e => by
    subst e
    refine ⟨_, fun o ho => e36_5 H h _ ?_, rfl⟩
    rw [if_neg (by rw [hr.2.1]; omega), q35 H h hg hr hk ht, bI_r H, wrd (by omega) (by omega)]
    rw [mk_s (by omega), atC_in hk] at ho
    by_cases z : zc Q k t = c
    · rw [if_neg (by omega)]
      rw [if_pos (by simpa using z)] at ho
      exact ho
    · rw [if_pos (by omega)]
      rw [if_neg (by simpa using z)] at ho
      exact ho) 0 rfl
  subst e
  rw [mk_ge h8 (fun i h1 _ => atC_out h1)]
  exact e36 H h _ (hv _ (e36_5 H h _ (if_pos (by rw [hr.2.1]; exact Int.le_refl _))))
/-- bits are counted -/
theorem cn_le {P : Nat → Bool} : ∀ n, cn P n ≤ n := by
  intro n
  induction n with
  | zero => exact Nat.le_refl _
  | succ n ih => show cn P n + _ ≤ _; split <;> omega
theorem cn_congr {P R : Nat → Bool} : ∀ n, (∀ i, i < n → P i = R i) → cn P n = cn R n := by
  intro n
  induction n with
  | zero => intro _; rfl
  | succ n ih => intro h; show cn P n + _ = cn R n + _; rw [ih (fun i hi => h i (by omega)), h n (by omega)]
def tbN (m : Nat) : Nat := cn (fun i => m.testBit i) 8
theorem nmk_self {P : Nat → Bool} : cn P 8 = tbN (nmk P 8) := by
  unfold tbN
  refine cn_congr 8 (fun i hi => ?_)
  rw [nmk_test]; simp [hi]
theorem nmk_256 {P : Nat → Bool} : nmk P 8 < 256 := nmk_lt 8
def bcE (x : Int) : Int := (bAnd (wr ((wr ((bAnd (wr ((wr ((bAnd (wr (x - (bAnd (bUshr x 1) 1431655765))) 858993459) + (bAnd (bUshr (wr (x - (bAnd (bUshr x 1) 1431655765))) 2) 858993459))) + (bUshr (wr ((bAnd (wr (x - (bAnd (bUshr x 1) 1431655765))) 858993459) + (bAnd (bUshr (wr (x - (bAnd (bUshr x 1) 1431655765))) 2) 858993459))) 4))) 252645135) + (bUshr (bAnd (wr ((wr ((bAnd (wr (x - (bAnd (bUshr x 1) 1431655765))) 858993459) + (bAnd (bUshr (wr (x - (bAnd (bUshr x 1) 1431655765))) 2) 858993459))) + (bUshr (wr ((bAnd (wr (x - (bAnd (bUshr x 1) 1431655765))) 858993459) + (bAnd (bUshr (wr (x - (bAnd (bUshr x 1) 1431655765))) 2) 858993459))) 4))) 252645135) 8))) + (bUshr (wr ((bAnd (wr ((wr ((bAnd (wr (x - (bAnd (bUshr x 1) 1431655765))) 858993459) + (bAnd (bUshr (wr (x - (bAnd (bUshr x 1) 1431655765))) 2) 858993459))) + (bUshr (wr ((bAnd (wr (x - (bAnd (bUshr x 1) 1431655765))) 858993459) + (bAnd (bUshr (wr (x - (bAnd (bUshr x 1) 1431655765))) 2) 858993459))) 4))) 252645135) + (bUshr (bAnd (wr ((wr ((bAnd (wr (x - (bAnd (bUshr x 1) 1431655765))) 858993459) + (bAnd (bUshr (wr (x - (bAnd (bUshr x 1) 1431655765))) 2) 858993459))) + (bUshr (wr ((bAnd (wr (x - (bAnd (bUshr x 1) 1431655765))) 858993459) + (bAnd (bUshr (wr (x - (bAnd (bUshr x 1) 1431655765))) 2) 858993459))) 4))) 252645135) 8))) 16))) 63)
theorem bcE_ok : ∀ m : Nat, m < 256 → bcE (m : Int) = (tbN m : Int) := by decide +kernel
theorem q320 {P : Nat → Bool} {w : Wd} (H : LR w) : F320 (mk P 8) w = rI (cn P 8 : Nat) w := by
  refine e320 H _ ?_
  have := bcE_ok (nmk P 8) nmk_256
  rw [← nmk_self] at this
  unfold mk
  rw [← this]
  rfl
theorem q37 {q t : Nat} {c : Int} {w : Wd} {Q : QT} (H : LR w) (h : (lay q).1 = 4) (hg : GQ Q) (hr : RQ w q Q) (ht : t < 2147483648) : F37 q c t w = rI (cn (atC Q c t) 8 : Nat) w := by
  refine e37 H h _ ?_
  rw [q36 H h hg hr ht, bI_r H, q320 H, bI_r H]
/-! rules worked out -/
theorem q63 {a : Nat} {n : Nat} {w : Wd} (H : LR w) (h : (lay a).1 = 6) (hn : gI w a 1 = n) : F63 a w = rI (b2i (decide (0 < n))) w := by
  refine e63 H h _ ?_
  rw [hn]
  by_cases z : 0 < n
  · rw [if_neg (by omega)]; simp [b2i, z]
  · rw [if_pos (by omega)]; simp [b2i, z]
theorem q65 {c x y : Int} {w : Wd} (H : LR w) (hc : c = 106 ∨ c = 107 ∨ c = 60 ∨ c = 61 ∨ c = 43 ∨ c = 45 ∨ c = 42 ∨ c = 47) : F65 c x y w = rI (jn c x y) w := by
  refine e65 H _ ?_
  unfold jn
  rcases hc with rfl | rfl | rfl | rfl | rfl | rfl | rfl | rfl
  · rw [if_neg (by decide), if_neg (by decide), if_neg (by decide), if_neg (by decide), if_neg (by decide), if_pos rfl]
    by_cases z1 : x = 0 <;> by_cases z2 : y = 0 <;> simp [z1, z2]
  · rw [if_neg (by decide), if_neg (by decide), if_neg (by decide), if_neg (by decide), if_neg (by decide), if_neg (by decide), if_pos rfl]
    by_cases z1 : x = 0 <;> by_cases z2 : y = 0 <;> simp [z1, z2]
  · rw [if_neg (by decide), if_neg (by decide), if_neg (by decide), if_pos rfl]
    by_cases z1 : x < y
    · rw [if_neg (by omega)]; simp [z1]
    · rw [if_pos (by omega)]; simp [z1]
  · rw [if_neg (by decide), if_neg (by decide), if_neg (by decide), if_neg (by decide), if_pos rfl]
    by_cases z1 : x = y <;> simp [z1]
  · rw [if_neg (by decide), if_pos rfl]; simp
  · rw [if_neg (by decide), if_neg (by decide), if_pos rfl]; simp
  · rw [if_pos rfl]; simp
  · rw [if_neg (by decide), if_neg (by decide), if_neg (by decide), if_neg (by decide), if_neg (by decide), if_neg (by decide), if_neg (by decide)]
    by_cases z1 : y = 0
    · simp [z1]
    · rw [if_pos (by simpa using z1), gP_t (by simpa using z1)]; simp [z1]
theorem bXor_m1 {x : Int} (h : okI x) : bXor x (-1) = -1 - x := by
  unfold bXor
  have h1 : i32 (-1) = -1 := rfl
  rw [h1, Int32.xor_neg_one, Int32.toInt_not, tI h, show (2 ^ 32 : Nat) = 4294967296 from rfl, ← wr_bmod]
  unfold okI at h
  rw [wrd (by omega) (by omega)]
  omega
