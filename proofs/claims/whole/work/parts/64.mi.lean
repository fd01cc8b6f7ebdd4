/-! the reference: a step, further -/
/-- the row a holds the state from off on -/
def PK (w : Wd) (a off : Nat) (s : ST) : Prop := gI w a off = uT s ∧ gI w a (off + 1) = uC s ∧ gI w a (off + 2) = b2i (uP s) ∧ gI w a (off + 3) = mk (uI s) 8 ∧ ∀ p, p < 8 → gI w a (off + 4 + p) = uL s p ∧ gI w a (off + 12 + p) = uG s p ∧ gI w a (off + 20 + p) = uW s p
theorem PK.ext {w w' : Wd} {a off : Nat} {s : ST} (h : PK w a off s) (e : gI w' a = gI w a) : PK w' a off s := by unfold PK; rw [e]; exact h
theorem wrL {a : Nat} (n : Nat) {z : Int} (hz : z = (n : Int)) (h : a + n < 2000000000) : wr ((a : Int) + z) = ((a + n : Nat) : Int) := by rw [hz, wrd (by omega) (by omega)]; omega
theorem wrN {a k : Nat} (h : a + k < 2000000000) : wr ((a : Int) + (k : Int)) = ((a + k : Nat) : Int) := by rw [wrd (by omega) (by omega)]; omega
theorem y208s {v : Wd} {a off n k : Nat} (H : LR v) (ha : lay a = (21, n)) (hn : off + 28 ≤ n) (hn2 : n ≤ 2000) (hd : 491 < a) (hk : k < 8) :
    Rf (s208_36 473 a off ((k + 1 : Nat) : Int) (pI (pI (pI v a (off + 4 + k) (gI v 489 k)) a (off + 12 + k) (gI v 490 k)) a (off + 20 + k) (gI v 491 k))) (s208_36 473 a off k v) := by
  intro o ho
  refine e208_36 H l473 ha _ ?_
  have n7 : (473 + 17 : Nat) ≠ a := by omega
  have n8 : (473 + 18 : Nat) ≠ a := by omega
  rw [if_neg (by omega), wrL (z := 4) 4 rfl (by omega), wrL (z := 8) 8 rfl (by omega), wrL (z := 16) 16 rfl (by omega), show off + 4 + 8 = off + 12 by omega, show off + 4 + 16 = off + 20 by omega, wrN (by omega), wrN (by omega), wrN (by omega), gdi (by omega) (by omega), gdi (by omega) (by omega), gdi (by omega) (by omega), gdi (by omega) (by omega), gdi (by omega) (by omega), gdi (by omega) (by omega), wrs (by omega), nn, nn, nn, nn, gI_r n7, gI_r n8, gI_r n8]
  exact ho
theorem y208l {w : Wd} {a off n : Nat} {L G W : Row} (H : LR w) (ha : lay a = (21, n)) (hn : off + 28 ≤ n) (hn2 : n ≤ 2000) (hd : 491 < a) (hL : gI w 489 = L) (hG : gI w 490 = G) (hW : gI w 491 = W) :
    ∃ w', s208_36 473 a off 0 w = r0 w' ∧ FrI (fun b => b = a) w w' ∧ (∀ i, i < off + 4 ∨ off + 28 ≤ i → gI w' a i = gI w a i) ∧ ∀ p, p < 8 → gI w' a (off + 4 + p) = L p ∧ gI w' a (off + 12 + p) = G p ∧ gI w' a (off + 20 + p) = W p := by
  obtain ⟨v, hv, i1, i2, i3⟩ := lpR (F := fun k v => s208_36 473 a off k v) (I := fun k v => FrI (fun b => b = a) w v ∧ (∀ i, i < off + 4 ∨ off + 28 ≤ i → gI v a i = gI w a i) ∧ ∀ p, p < k → gI v a (off + 4 + p) = L p ∧ gI v a (off + 12 + p) = G p ∧ gI v a (off + 20 + p) = W p) 8 (fun k v hk e => by
    obtain ⟨ef, e0, e1⟩ := e
    have g1 : gI v 489 k = L k := by rw [ef.g (by omega), hL]
    have g2 : gI v 490 k = G k := by rw [ef.g (by omega), hG]
    have g3 : gI v 491 k = W k := by rw [ef.g (by omega), hW]
    have T := y208s (ef.LR H) ha hn hn2 hd hk
    rw [g1, g2, g3] at T
    refine ⟨_, T, ((ef.pp rfl).pp rfl).pp rfl, fun i hi => ?_, fun p hp => ?_⟩
    · rw [gI_c (by omega), gI_c (by omega), gI_c (by omega)]; exact e0 i hi
    · by_cases z : p = k
      · subst z
        refine ⟨?_, ?_, gI_s⟩
        · rw [gI_c (by omega), gI_c (by omega), gI_s]
        · rw [gI_c (by omega), gI_s]
      · obtain ⟨a1, a2, a3⟩ := e1 p (by omega)
        refine ⟨?_, ?_, ?_⟩
        · rw [gI_c (by omega), gI_c (by omega), gI_c (by omega)]; exact a1
        · rw [gI_c (by omega), gI_c (by omega), gI_c (by omega)]; exact a2
        · rw [gI_c (by omega), gI_c (by omega), gI_c (by omega)]; exact a3) w ⟨FrI.rf, fun _ _ => rfl, fun p hp => absurd hp (Nat.not_lt_zero _)⟩
  exact ⟨v, hv _ (e208_36 (i1.LR H) l473 ha _ (if_pos (by omega))), i1, i2, i3⟩
theorem y208h {w : Wd} {a off n : Nat} (H : LR w) (ha : lay a = (21, n)) (hn : off + 28 ≤ n) (hn2 : n ≤ 2000) (hd : 491 < a) :
    Rf (s208_36 473 a off 0 (pI (pI (pI (pI w a off (gI w 473 33)) a (off + 1) (gI w 473 34)) a (off + 2) (gI w 473 35)) a (off + 3) (gI w 473 36))) (F208 473 a off w) := by
  intro o ho
  refine e208 H l473 ha _ ?_
  have hne : (473 : Nat) ≠ a := by omega
  rw [gdi (by omega) (by omega), wrL (z := 1) 1 rfl (by omega), wrL (z := 2) 2 rfl (by omega), wrL (z := 3) 3 rfl (by omega), gdi (by omega) (by omega), gdi (by omega) (by omega), gdi (by omega) (by omega), nn, nn, nn, nn] 
  simp only [gI_r hne]
  exact ho
theorem y208 {w : Wd} {Q : QT} {s : ST} {a off n : Nat} (h : MQx w Q s) (ha : lay a = (21, n)) (hn : off + 28 ≤ n) (hn2 : n ≤ 2000) (hd : 491 < a) :
    ∃ w', F208 473 a off w = r0 w' ∧ PK w' a off s ∧ FrI (fun b => b = a) w w' ∧ ∀ i, i < off ∨ off + 28 ≤ i → gI w' a i = gI w a i := by
  obtain ⟨r1, r2, r3, r4, r5, r6, r7, r8⟩ := h.2.1
  have T := y208h h.H ha hn hn2 hd
  rw [r5, r6, r7, r8] at T
  have f0 : FrI (fun b => b = a) w (pI (pI (pI (pI w a off (uT s)) a (off + 1) (uC s)) a (off + 2) (b2i (uP s))) a (off + 3) (mk (uI s) 8)) := (((FrI.p (A := fun b => b = a) rfl).pp rfl).pp rfl).pp rfl
  have n1 : off ≠ off + 1 := by omega
  have n2 : off ≠ off + 2 := by omega
  have n3 : off ≠ off + 3 := by omega
  have n4 : off + 1 ≠ off + 2 := by omega
  have n5 : off + 1 ≠ off + 3 := by omega
  have n6 : off + 2 ≠ off + 3 := by omega
  have q1 : ¬ 489 = a := by omega
  have q2 : ¬ 490 = a := by omega
  have q3 : ¬ 491 = a := by omega
  have lo : ∀ j, j < 4 → off + j < off + 4 := fun j hj => by omega
  have ou : ∀ i, i < off ∨ off + 28 ≤ i → i < off + 4 ∨ off + 28 ≤ i := fun i hi => by omega
  have on : ∀ i, i < off ∨ off + 28 ≤ i → i ≠ off ∧ i ≠ off + 1 ∧ i ≠ off + 2 ∧ i ≠ off + 3 := fun i hi => by omega
  obtain ⟨w', k1, k2, k3, k4⟩ := y208l (w := pI (pI (pI (pI w a off (uT s)) a (off + 1) (uC s)) a (off + 2) (b2i (uP s))) a (off + 3) (mk (uI s) 8)) (f0.LR h.H) ha hn hn2 hd ((f0.g q1).trans r1) ((f0.g q2).trans r2) ((f0.g q3).trans r3)
  refine ⟨w', T _ k1, ⟨?_, ?_, ?_, ?_, k4⟩, f0.tr k2, fun i hi => ?_⟩
  · rw [k3 off (Or.inl (lo 0 (by decide))), gI_c n3, gI_c n2, gI_c n1, gI_s]
  · rw [k3 (off + 1) (Or.inl (lo 1 (by decide))), gI_c n5, gI_c n4, gI_s]
  · rw [k3 (off + 2) (Or.inl (lo 2 (by decide))), gI_c n6, gI_s]
  · rw [k3 (off + 3) (Or.inl (lo 3 (by decide))), gI_s]
  · obtain ⟨o1, o2, o3, o4⟩ := on i hi
    rw [k3 i (ou i hi), gI_c o4, gI_c o3, gI_c o2, gI_c o1]
