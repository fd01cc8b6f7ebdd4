/-! the reference: a row read again -/
theorem y209s {v : Wd} {a off n k : Nat} (H : LR v) (ha : lay a = (21, n)) (hn : off + 28 ≤ n) (hn2 : n ≤ 2000) (hd : 491 < a) (hk : k < 8) :
    Rf (s209_36 473 a off ((k + 1 : Nat) : Int) (pI (pI (pI v 489 k (gI v a (off + 4 + k))) 490 k (gI v a (off + 12 + k))) 491 k (gI v a (off + 20 + k)))) (s209_36 473 a off k v) := by
  intro o ho
  refine e209_36 H l473 ha _ ?_
  have n7 : a ≠ 473 + 16 := by omega
  have n8 : a ≠ 473 + 17 := by omega
  rw [if_neg (by omega), wrL (z := 4) 4 rfl (by omega), wrL (z := 8) 8 rfl (by omega), wrL (z := 16) 16 rfl (by omega), show off + 4 + 8 = off + 12 by omega, show off + 4 + 16 = off + 20 by omega, wrN (by omega), wrN (by omega), wrN (by omega), gdi (by omega) (by omega), gdi (by omega) (by omega), gdi (by omega) (by omega), gdi (by omega) (by omega), gdi (by omega) (by omega), gdi (by omega) (by omega), wrs (by omega), nn, nn, nn, nn, gI_r n8, gI_r n7]
  exact ho
theorem y209l {w : Wd} {a off n : Nat} {L G W : Row} (H : LR w) (ha : lay a = (21, n)) (hn : off + 28 ≤ n) (hn2 : n ≤ 2000) (hd : 491 < a) (hp : ∀ p, p < 8 → gI w a (off + 4 + p) = L p ∧ gI w a (off + 12 + p) = G p ∧ gI w a (off + 20 + p) = W p) :
    ∃ w', s209_36 473 a off 0 w = r0 w' ∧ FrI (fun b => 489 ≤ b ∧ b ≤ 491) w w' ∧ ∀ p, gI w' 489 p = (if p < 8 then L p else gI w 489 p) ∧ gI w' 490 p = (if p < 8 then G p else gI w 490 p) ∧ gI w' 491 p = (if p < 8 then W p else gI w 491 p) := by
  obtain ⟨v, hv, i1, i2⟩ := lpR (F := fun k v => s209_36 473 a off k v) (I := fun k v => FrI (fun b => 489 ≤ b ∧ b ≤ 491) w v ∧ ∀ p, gI v 489 p = (if p < k then L p else gI w 489 p) ∧ gI v 490 p = (if p < k then G p else gI w 490 p) ∧ gI v 491 p = (if p < k then W p else gI w 491 p)) 8 (fun k v hk e => by
    obtain ⟨ef, e1⟩ := e
    obtain ⟨g1, g2, g3⟩ := hp k hk
    have ga : gI v a = gI w a := ef.g (by omega)
    have T := y209s (ef.LR H) ha hn hn2 hd hk
    rw [ga, g1, g2, g3] at T
    have up : ∀ (f g h : Row) (p : Nat), (∀ p, g p = if p < k then f p else h p) → va_up g k (f k) p = (if p < k + 1 then f p else h p) := by
      intro f g h p hg
      by_cases z : p = k
      · subst z; rw [up_s, if_pos (Nat.lt_succ_self _)]
      · rw [up_c z, hg p]
        by_cases y : p < k
        · rw [if_pos y, if_pos (Nat.lt_succ_of_lt y)]
        · rw [if_neg y, if_neg (by omega)]
    refine ⟨_, T, ((ef.pp ⟨by decide, by decide⟩).pp ⟨by decide, by decide⟩).pp ⟨by decide, by decide⟩, fun p => ⟨?_, ?_, ?_⟩⟩
    · rw [gI_r (by decide), gI_r (by decide), gI_p]; exact up L _ _ p (fun p => (e1 p).1)
    · rw [gI_r (by decide), gI_p, gI_r (by decide)]; exact up G _ _ p (fun p => (e1 p).2.1)
    · rw [gI_p, gI_r (by decide), gI_r (by decide)]; exact up W _ _ p (fun p => (e1 p).2.2)) w ⟨FrI.rf, fun p => ⟨by rw [if_neg (Nat.not_lt_zero _)], by rw [if_neg (Nat.not_lt_zero _)], by rw [if_neg (Nat.not_lt_zero _)]⟩⟩
  exact ⟨v, hv _ (e209_36 (i1.LR H) l473 ha _ (if_pos (by omega))), i1, i2⟩
theorem y209h {w : Wd} {a off n : Nat} (H : LR w) (ha : lay a = (21, n)) (hn : off + 28 ≤ n) (hn2 : n ≤ 2000) (hd : 491 < a) :
    Rf (s209_36 473 a off 0 (pI (pI (pI (pI w 473 33 (gI w a off)) 473 34 (gI w a (off + 1))) 473 35 (gI w a (off + 2))) 473 36 (gI w a (off + 3)))) (F209 473 a off w) := by
  intro o ho
  refine e209 H l473 ha _ ?_
  have hne : a ≠ 473 := by omega
  rw [gdi (by omega) (by omega), wrL (z := 1) 1 rfl (by omega), wrL (z := 2) 2 rfl (by omega), wrL (z := 3) 3 rfl (by omega), gdi (by omega) (by omega), gdi (by omega) (by omega), gdi (by omega) (by omega), nn, nn, nn, nn] 
  simp only [gI_r hne]
  exact ho
theorem ite8 {f g h : Row} (hf : ∀ p, f p = if p < 8 then g p else h p) (hg : ∀ p, 8 ≤ p → h p = g p) : f = g := by
  funext p
  rw [hf p]
  by_cases z : p < 8
  · rw [if_pos z]
  · rw [if_neg z]; exact hg p (by omega)
theorem y209 {w : Wd} {Q : QT} {s u : ST} {a off n : Nat} (h : MQx w Q s) (hp : PK w a off u) (ha : lay a = (21, n)) (hn : off + 28 ≤ n) (hn2 : n ≤ 2000) (hd : 491 < a) (h8 : E8 s u) (hG : GS (zn Q) u) (hI : ∀ p, zn Q ≤ p → uI u p = false) :
    ∃ w', F209 473 a off w = r0 w' ∧ MQx w' Q (pM u (uM s)) ∧ FrI (fun b => b = 473 ∨ (489 ≤ b ∧ b ≤ 491)) w w' ∧ ∀ i, (i < 33 ∨ 36 < i) → gI w' 473 i = gI w 473 i := by
  obtain ⟨r1, r2, r3, r4, r5, r6, r7, r8⟩ := h.2.1
  obtain ⟨p1, p2, p3, p4, p5⟩ := hp
  have T := y209h h.H ha hn hn2 hd
  rw [p1, p2, p3, p4] at T
  have f0 : FrI (fun b => b = 473) w (pI (pI (pI (pI w 473 33 (uT u)) 473 34 (uC u)) 473 35 (b2i (uP u))) 473 36 (mk (uI u) 8)) := (((FrI.p (A := fun b => b = 473) rfl).pp rfl).pp rfl).pp rfl
  have qa : ¬ a = 473 := by omega
  have on : ∀ i, i < 33 ∨ 36 < i → i ≠ 33 ∧ i ≠ 34 ∧ i ≠ 35 ∧ i ≠ 36 := fun i hi => by omega
  obtain ⟨w', k1, k2, k3⟩ := y209l (L := uL u) (G := uG u) (W := uW u) (w := pI (pI (pI (pI w 473 33 (uT u)) 473 34 (uC u)) 473 35 (b2i (uP u))) 473 36 (mk (uI u) 8)) (f0.LR h.H) ha hn hn2 hd (by rw [f0.g qa]; exact p5)
  have fs : gI w' 473 = gI (pI (pI (pI (pI w 473 33 (uT u)) 473 34 (uC u)) 473 35 (b2i (uP u))) 473 36 (mk (uI u) 8)) 473 := k2.g (by decide)
  have k4 : ∀ i, (i < 33 ∨ 36 < i) → gI w' 473 i = gI w 473 i := fun i hi => by
    obtain ⟨o1, o2, o3, o4⟩ := on i hi
    rw [fs, gI_c o4, gI_c o3, gI_c o2, gI_c o1]
  have ff : FrI (fun b => b = 473 ∨ (489 ≤ b ∧ b ≤ 491)) w w' := (f0.wk (fun b hb => Or.inl hb)).tr (k2.wk (fun b hb => Or.inr hb))
  have hGu : GS (zn Q) (pM u (uM s)) := ⟨hG.1, hG.2.1, hG.2.2.1, h.s.2.2.2.1, hG.2.2.2.2⟩
  refine ⟨w', T _ k1, h.to ff (fun b b1 b2 z => ?_) ⟨?_, ?_, ?_, ?_, ?_, ?_, ?_, ?_⟩ hGu hI (by rw [k4 44 (Or.inr (by decide))]; exact h.F), ff, k4⟩
  · have z : b = 473 ∨ (489 ≤ b ∧ b ≤ 491) := z
    omega
  · exact ite8 (fun p => by rw [(k3 p).1, f0.g (by decide), r1]; rfl) (fun p hp => (h8 p hp).1)
  · exact ite8 (fun p => by rw [(k3 p).2.1, f0.g (by decide), r2]; rfl) (fun p hp => (h8 p hp).2.1)
  · exact ite8 (fun p => by rw [(k3 p).2.2, f0.g (by decide), r3]; rfl) (fun p hp => (h8 p hp).2.2)
  · rw [k2.g (by decide), f0.g (by decide), r4]; rfl
  · rw [fs, gI_c (by decide), gI_c (by decide), gI_c (by decide), gI_s]; rfl
  · rw [fs, gI_c (by decide), gI_c (by decide), gI_s]; rfl
  · rw [fs, gI_c (by decide), gI_s]; rfl
  · rw [fs, gI_s]; rfl
