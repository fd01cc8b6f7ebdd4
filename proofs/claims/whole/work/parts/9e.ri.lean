/-! the reference takes a quay over -/
theorem y205 {w : Wd} {a h : Nat} (H : LR w) (ha : lay a = (21, 2 * h)) (hh : h ≤ 700) : ∃ w', F205 a w = r0 w' ∧ FrI (fun b => b = a) w w' ∧ ∀ i, gI w' a i = if i < h then gI w a (h + i) else gI w a i := by
  have eh : wr (Int.tdiv ((2 * h : Nat) : Int) 2) = (h : Int) := by
    rw [show Int.tdiv ((2 * h : Nat) : Int) 2 = (((2 * h) / 2 : Nat) : Int) from rfl, wrd (by omega) (by omega)]
    omega
  obtain ⟨v, hv, i1, i2⟩ := lpR (F := fun k v => s205_2 a k v) (I := fun k v => FrI (fun b => b = a) w v ∧ ∀ i, gI v a i = if i < k then gI w a (h + i) else gI w a i) h (fun k v hk e => by
    obtain ⟨ef, e1⟩ := e
    refine ⟨pI v a k (gI w a (h + k)), fun o ho => e205_2 (ef.LR H) ha _ ?_, ef.pp rfl, fun i => ?_⟩
    · have e3 : gI v a (h + k) = gI w a (h + k) := by rw [e1, if_neg (by omega)]
      rw [eh, if_neg (by omega), wrd (z := (h : Int) + (k : Int)) (by omega) (by omega), gdi (by omega) (by omega), gdi (by omega) (by omega), nn, show ((h : Int) + (k : Int)).toNat = h + k from rfl, e3, wrs (by omega)]
      exact ho
    · by_cases z : i = k
      · subst z; rw [gI_s, if_pos (by omega)]
      · rw [gI_c z, e1]
        by_cases y : i < k
        · rw [if_pos y, if_pos (by omega)]
        · rw [if_neg y, if_neg (by omega)]) w ⟨FrI.rf, fun i => by rw [if_neg (Nat.not_lt_zero _)]⟩
  refine ⟨v, e205 H ha _ (hv _ (e205_2 (i1.LR H) ha _ ?_)), i1, i2⟩
  rw [eh, if_pos (Int.le_refl _)]
def Hf (k : Nat) (w w' : Wd) : Prop := FrI (fun c => 477 ≤ c ∧ c < 477 + k) w w' ∧ ∀ c, 477 ≤ c → c < 477 + k → ∀ i, gI w' c i = if i < hbR c then gI w c (hbR c + i) else gI w c i
theorem l9 : ∀ k, k < 9 → lay (477 + k) = (21, 2 * hbR (477 + k)) ∧ hbR (477 + k) ≤ 700 := by decide +kernel
theorem Hf.s {k : Nat} {w v : Wd} (H : LR w) (hk : k < 9) (h : Hf k w v) : ∃ v', F205 (477 + k) v = r0 v' ∧ Hf (k + 1) w v' ∧ LR v' := by
  obtain ⟨h1, h2⟩ := h
  obtain ⟨a1, a2⟩ := l9 k hk
  obtain ⟨v', b1, b2, b3⟩ := y205 (h1.LR H) a1 a2
  refine ⟨v', b1, ⟨(h1.wk (fun c hc => ⟨hc.1, by omega⟩)).tr (b2.wk (fun c hc => by have hc : c = 477 + k := hc; omega)), fun c c1 c2 i => ?_⟩, b2.LR (h1.LR H)⟩
  by_cases z : c = 477 + k
  · subst z
    rw [b3 i, h1.g (by omega)]
  · rw [b2.g z]
    exact h2 c c1 (by omega) i
theorem l48a : lay 487 = (21, 8) ∧ lay 489 = (21, 8) ∧ lay 490 = (21, 8) ∧ lay 491 = (21, 8) := by decide +kernel
theorem LRIi {w : Wd} {a i : Nat} {x : Int} (H : LR w) : LR (pI w a i x) := H
/-- the people's numbers -/
theorem y206l {w : Wd} {n : Nat} (H : LR w) (hn : gI w 477 1 = n) (h8 : n ≤ 8) : ∃ v, Rf (r0 (pI (pI (pI v 473 37 0) 473 38 0) 473 58 0)) (s206_90 473 0 w) ∧ FrI (fun b => b = 487 ∨ (489 ≤ b ∧ b ≤ 491)) w v ∧
    ∀ i, gI v 489 i = (if i < 8 then (if i < n then gI w 479 i else 0) else gI w 489 i) ∧ gI v 490 i = (if i < 8 then 0 else gI w 490 i) ∧ gI v 491 i = (if i < 8 then (if i < n then gI w 480 i else 0) else gI w 491 i) ∧ gI v 487 i = (if i < 8 then (if i < n then gI w 481 i else 0) else gI w 487 i) := by
  obtain ⟨v, hv, i1, i2⟩ := lpR (F := fun k v => s206_90 473 k v) (I := fun k v => FrI (fun b => b = 487 ∨ (489 ≤ b ∧ b ≤ 491)) w v ∧
    ∀ i, gI v 489 i = (if i < k then (if i < n then gI w 479 i else 0) else gI w 489 i) ∧ gI v 490 i = (if i < k then 0 else gI w 490 i) ∧ gI v 491 i = (if i < k then (if i < n then gI w 480 i else 0) else gI w 491 i) ∧ gI v 487 i = (if i < k then (if i < n then gI w 481 i else 0) else gI w 487 i)) 8 (fun k v hk e => by
    obtain ⟨ef, e1⟩ := e
    have HV := ef.LR H
    have g : ∀ c, 477 ≤ c → c ≤ 481 → gI v c = gI w c := fun c _ _ => ef.g (by omega)
    obtain ⟨A, hA⟩ : ∃ A : Nat → Int, A = fun c => if k < n then gI w c k else 0 := ⟨_, rfl⟩
    refine ⟨pI (pI (pI (pI v 489 k (A 479)) 490 k 0) 491 k (A 480)) 487 k (A 481), fun o ho => e206_90 HV l473 _ ?_, (((ef.pp (by omega)).pp (by omega)).pp (by omega)).pp (by omega), fun i => ?_⟩
    · rw [if_neg (by omega), gdi (by decide) (by decide), show (473 + 4 : Nat) = 477 from rfl, g 477 (by decide) (by decide), hn]
      by_cases z : k < n
      · have eA : ∀ c, A c = gI w c k := fun c => by rw [hA]; exact if_pos z
        rw [if_neg (by omega), gdi (by omega) (by omega), nn, show (473 + 6 : Nat) = 479 from rfl, g 479 (by decide) (by decide), ← eA 479]
        refine e206_131 HV l473 l48a.2.1 _ ?_
        rw [gdi (by omega) (by omega), gdi (by omega) (by omega), if_neg (by decide), gdi (by omega) (by omega), nn]
        show s206_158 473 k 1 (gI (pI (pI v 489 k (A 479)) 490 k 0) 480 k) k 491 (pI (pI v 489 k (A 479)) 490 k 0) = some o
        rw [gI_r (by decide), gI_r (by decide), g 480 (by decide) (by decide), ← eA 480]
        refine e206_158 (LRIi (LRIi HV)) l473 l48a.2.2.2 _ ?_
        rw [gdi (by omega) (by omega), if_neg (by decide), gdi (by omega) (by omega), gdi (by omega) (by omega), nn]
        show s206_90 473 (wr ((k : Int) + 1)) (pI (pI (pI (pI v 489 k (A 479)) 490 k 0) 491 k (A 480)) 487 k (gI (pI (pI (pI v 489 k (A 479)) 490 k 0) 491 k (A 480)) 481 k)) = some o
        rw [gI_r (by decide), gI_r (by decide), gI_r (by decide), g 481 (by decide) (by decide), ← eA 481, wrs (by omega)]
        exact ho
      · have eA : ∀ c, A c = 0 := fun c => by rw [hA]; exact if_neg z
        rw [eA, eA, eA] at ho
        rw [if_pos (by omega)]
        refine e206_131 HV l473 l48a.2.1 _ ?_
        rw [gdi (by omega) (by omega), gdi (by omega) (by omega), if_pos rfl, nn]
        refine e206_158 (LRIi (LRIi HV)) l473 l48a.2.2.2 _ ?_
        rw [gdi (by omega) (by omega), if_pos rfl, gdi (by omega) (by omega), nn, wrs (by omega)]
        exact ho
    · obtain ⟨x1, x2, x3, x4⟩ := e1 i
      by_cases z : i = k
      · subst z
        have eA : ∀ c, A c = if i < n then gI w c i else 0 := fun c => by rw [hA]
        have i1 : i < i + 1 := Nat.lt_succ_self i
        refine ⟨?_, ?_, ?_, ?_⟩
        · rw [gI_r (by decide), gI_r (by decide), gI_r (by decide), gI_s, eA, if_pos i1]
        · rw [gI_r (by decide), gI_r (by decide), gI_s, if_pos i1]
        · rw [gI_r (by decide), gI_s, eA, if_pos i1]
        · rw [gI_s, eA, if_pos i1]
      · have eq : ∀ (a b : Int), (if i < k + 1 then a else b) = if i < k then a else b := fun a b => by
          by_cases y : i < k
          · rw [if_pos y, if_pos (by omega)]
          · rw [if_neg y, if_neg (by omega)]
        refine ⟨?_, ?_, ?_, ?_⟩
        · rw [gI_r (by decide), gI_r (by decide), gI_r (by decide), gI_c z, eq]; exact x1
        · rw [gI_r (by decide), gI_r (by decide), gI_c z, gI_r (by decide), eq]; exact x2
        · rw [gI_r (by decide), gI_c z, gI_r (by decide), gI_r (by decide), eq]; exact x3
        · rw [gI_c z, gI_r (by decide), gI_r (by decide), gI_r (by decide), eq]; exact x4) w ⟨FrI.rf, fun i => by rw [if_neg (Nat.not_lt_zero _), if_neg (Nat.not_lt_zero _), if_neg (Nat.not_lt_zero _), if_neg (Nat.not_lt_zero _)]; exact ⟨rfl, rfl, rfl, rfl⟩⟩
  refine ⟨v, fun o ho => hv _ (e206_90 (i1.LR H) l473 _ ?_), i1, i2⟩
  rw [if_pos (by decide)]
  exact ho
/-- beyond the people all is 0 -/
def Z9 (s : ST) : Prop := ∀ p, 8 ≤ p → uL s p = 0 ∧ uG s p = 0 ∧ uW s p = 0 ∧ uM s p = 0
def FrQ (w w' : Wd) : Prop := FrI (fun c => c = 473 ∨ (477 ≤ c ∧ c ≤ 485) ∨ c = 487 ∨ (489 ≤ c ∧ c ≤ 491)) w w' ∧ ∀ i, (i < 33 ∨ 38 < i) → i ≠ 58 → gI w' 473 i = gI w 473 i
theorem row8 {f g : Row} {F : Nat → Int} {n : Nat} (h : ∀ i, f i = if i < 8 then (if i < n then F i else 0) else g i) (hg : ∀ p, 8 ≤ p → g p = 0) {r : Row} (h1 : ∀ i, i < n → F i = r i) (h2 : ∀ i, n ≤ i → r i = 0) (h8 : n ≤ 8) : f = r := by
  funext i
  rw [h i]
  by_cases z : i < n
  · rw [if_pos (by omega), if_pos z]; exact h1 i z
  · rw [h2 i (by omega)]
    by_cases y : i < 8
    · rw [if_pos y, if_neg z]
    · rw [if_neg y]; exact hg i (by omega)
theorem y206 {w : Wd} {A : AC} {q : QZ} (h : MY w A) (hK : QK q) (hR : RTk w q) (hG : Z9 (oS A)) : ∃ w', F206 473 w = r0 w' ∧ MY w' (nwA A q) ∧ FrQ w w' := by
  have H := h.H
  have hu := h.1.1.2.1
  have Hf0 : Hf 0 w w := ⟨FrI.rf, fun c c1 c2 => by omega⟩
  obtain ⟨w1, a1, b1, c1⟩ := Hf0.s H (by decide)
  obtain ⟨w2, a2, b2, c2⟩ := b1.s H (by decide)
  obtain ⟨w3, a3, b3, c3⟩ := b2.s H (by decide)
  obtain ⟨w4, a4, b4, c4⟩ := b3.s H (by decide)
  obtain ⟨w5, a5, b5, c5⟩ := b4.s H (by decide)
  obtain ⟨w6, a6, b6, c6⟩ := b5.s H (by decide)
  obtain ⟨w7, a7, b7, c7⟩ := b6.s H (by decide)
  obtain ⟨w8, a8, b8, c8⟩ := b7.s H (by decide)
  obtain ⟨w9, a9, b9, c9⟩ := b8.s H (by decide)
  clear b1 b2 b3 b4 b5 b6 b7 b8
  obtain ⟨f9, g9⟩ := b9
  obtain ⟨u, hu0⟩ : ∃ u, u = pI (pI (pI (pI w9 473 33 0) 473 34 (gI (pI w9 473 33 0) 477 2)) 473 35 0) 473 36 0 := ⟨_, rfl⟩
  have fu : FrI (fun c => c = 473) w9 u := by rw [hu0]; exact (((FrI.p (A := fun c => c = 473) rfl).pp rfl).pp rfl).pp rfl
  have Hu := fu.LR c9
  obtain ⟨r1, r2, r3, r4, r5⟩ := hR
  obtain ⟨k1, k2, k3, k4, k5, k6, k7, k8, k9, k10⟩ := hK
  have gu : ∀ c i, 477 ≤ c → c ≤ 485 → i < hbR c → gI u c i = gI w c (hbR c + i) := fun c i x1 x2 x3 => by rw [fu.g (by omega), g9 c x1 (by omega), if_pos x3]
  have m1 : gI u 477 1 = vn q := (gu 477 1 (by decide) (by decide) (by decide)).trans r1.2.1
  obtain ⟨v, e1, e2, e3⟩ := y206l (n := vn q) Hu m1 k1
  obtain ⟨w', hw'⟩ : ∃ w', w' = pI (pI (pI v 473 37 0) 473 38 0) 473 58 0 := ⟨_, rfl⟩
  rw [← hw'] at e1
  have fw : FrI (fun c => c = 473) v w' := by rw [hw']; exact ((FrI.p (A := fun c => c = 473) rfl).pp rfl).pp rfl
  have ff : FrI (fun c => c = 473 ∨ (477 ≤ c ∧ c ≤ 485) ∨ c = 487 ∨ (489 ≤ c ∧ c ≤ 491)) w w' := (((f9.wk (fun c hc => Or.inr (Or.inl ⟨hc.1, by omega⟩))).tr (fu.wk (fun c hc => Or.inl hc))).tr (e2.wk (fun c hc => Or.inr (Or.inr hc)))).tr (fw.wk (fun c hc => Or.inl hc))
  have H' := ff.LR H
  have gw : ∀ c i, 477 ≤ c → c ≤ 485 → i < hbR c → gI w' c i = gI w c (hbR c + i) := fun c i x1 x2 x3 => by rw [fw.g (by omega), e2.g (by omega), gu c i x1 x2 x3]
  have g7 : ∀ c, c = 487 ∨ (489 ≤ c ∧ c ≤ 491) → gI w' c = gI v c ∧ gI u c = gI w c := fun c hc => ⟨fw.g (by omega), by rw [fu.g (by omega), f9.g (by omega)]⟩
  have g0 : ∀ i, (i < 33 ∨ 38 < i) → i ≠ 58 → gI w' 473 i = gI w 473 i := fun i i1 i2 => by
    rw [hw', gI_c (by omega), gI_c (by omega), gI_c (by omega), e2.g (by omega), hu0, gI_c (by omega), gI_c (by omega), gI_c (by omega), gI_c (by omega), f9.g (by omega)]
  have g3 : ∀ i, i < 37 → gI w' 473 i = gI u 473 i := fun i hi => by rw [hw', gI_c (by omega), gI_c (by omega), gI_c (by omega), e2.g (by omega)]
  have e44 := h.1.2
  refine ⟨w', e206 H l473 _ ?_, ⟨⟨⟨?_, ?_, H', GQ_mk ⟨k1, k2, k3, k4, k5, k6, k7, k8, k9, k10⟩, GS_mk ⟨k1, k2, k3, k4, k5, k6, k7, k8, k9, k10⟩, fun p hp => rfl, Or.inl ?_⟩, ?_⟩, ⟨Nat.zero_le _, ?_, fun i hi => absurd hi (Nat.not_lt_zero _)⟩, ⟨?_, fun i hi => absurd hi (Nat.not_lt_zero _)⟩, fun i hi => ?_, fun _ => ?_, fun x hx => by cases hx⟩, ff, g0⟩
  · show b0 (F205 477 w) _ = _
    rw [show F205 477 w = r0 w1 from a1, b0_r c1]
    show b0 (F205 478 w1) _ = _
    rw [show F205 478 w1 = r0 w2 from a2, b0_r c2]
    show b0 (F205 479 w2) _ = _
    rw [show F205 479 w2 = r0 w3 from a3, b0_r c3]
    show b0 (F205 480 w3) _ = _
    rw [show F205 480 w3 = r0 w4 from a4, b0_r c4]
    show b0 (F205 481 w4) _ = _
    rw [show F205 481 w4 = r0 w5 from a5, b0_r c5]
    show b0 (F205 482 w5) _ = _
    rw [show F205 482 w5 = r0 w6 from a6, b0_r c6]
    show b0 (F205 483 w6) _ = _
    rw [show F205 483 w6 = r0 w7 from a7, b0_r c7]
    show b0 (F205 484 w7) _ = _
    rw [show F205 484 w7 = r0 w8 from a8, b0_r c8]
    show b0 (F205 485 w8) _ = _
    rw [show F205 485 w8 = r0 w9 from a9, b0_r c9, gdi (by decide) (by decide)]
    show s206_90 473 0 (pI (pI (pI (pI w9 473 33 0) 473 34 (gI (pI w9 473 33 0) 477 2)) 473 35 0) 473 36 0) = _
    rw [← hu0]
    exact e1 _ rfl
  · refine ⟨?_, ?_, ?_, ?_, fun p hp => ?_, fun p hp => ?_, fun i hi => ?_, fun i hi => ?_, k10⟩
    · rw [gw 477 0 (by decide) (by decide) (by decide)]
      show gI w 477 5 = ((vk q).toNat : Int)
      rw [r1.1]; omega
    · exact (gw 477 1 (by decide) (by decide) (by decide)).trans r1.2.1
    · exact (gw 477 3 (by decide) (by decide) (by decide)).trans r4.1
    · exact (gw 477 4 (by decide) (by decide) (by decide)).trans r5.1
    · have hp : p < vn q := hp
      have h8 : p < hbR 478 := by show p < 8; omega
      exact (gw 478 p (by decide) (by decide) h8).trans (r2 p hp).1
    · have hp : p < vn q := hp
      have h8 : p < hbR 482 := by show p < 8; omega
      obtain ⟨x1, x2⟩ := k6 p hp
      obtain ⟨y1, y2⟩ := r3 p hp
      refine ⟨vX q p, x1.1, x1.2, (gw 482 p (by decide) (by decide) h8).trans y1, fun t => ?_⟩
      have hm : t % vX q p < vX q p := Nat.mod_lt _ (by omega)
      have h48 : 6 * p + t % vX q p < hbR 483 := by show 6 * p + t % vX q p < 48; omega
      rw [gw 483 _ (by decide) (by decide) h48]
      show gI w 483 (48 + (6 * p + t % vX q p)) = (if p < vn q then vw q p (t % vX q p) else 0)
      rw [if_pos hp, ← y2 _ hm]
      congr 1
      omega
    · have hi : i < (va q).1 := hi
      have : (va q).1 ≤ 700 := k8.1
      rw [gw 484 i (by decide) (by decide) (by show i < 700; omega)]
      exact r4.2 i hi
    · have hi : i < (vs q).1 := hi
      have : (vs q).1 ≤ 700 := k9.1
      rw [gw 485 i (by decide) (by decide) (by show i < 700; omega)]
      exact r5.2 i hi
  · have gz : ∀ c p, 478 ≤ c → c ≤ 482 → p < vn q → gI u c p = gI w c (8 + p) := fun c p x1 x2 x3 => by
      have e8 : hbR c = 8 := by unfold hbR; rw [if_neg (by omega), if_pos x2]
      rw [gu c p (by omega) (by omega) (by omega), e8]
    have z9 : ∀ c, c = 487 ∨ (489 ≤ c ∧ c ≤ 491) → ∀ p, 8 ≤ p → gI u c p = 0 := fun c hc p hp => by
      rw [(g7 c hc).2]
      obtain ⟨x1, x2, x3, x4⟩ := hG p hp
      rcases (show c = 487 ∨ c = 489 ∨ c = 490 ∨ c = 491 by omega) with rfl | rfl | rfl | rfl
      · rw [hu.2.2.2.1]; exact x4
      · rw [hu.1]; exact x1
      · rw [hu.2.1]; exact x2
      · rw [hu.2.2.1]; exact x3
    refine ⟨?_, ?_, ?_, ?_, ?_, ?_, ?_, ?_⟩
    · rw [(g7 489 (by omega)).1]
      exact row8 (fun i => (e3 i).1) (z9 489 (by omega)) (fun i hi => (gz 479 i (by decide) (by decide) hi).trans (r2 i hi).2.1) (fun i hi => (k5 i hi).1) k1
    · rw [(g7 490 (by omega)).1]
      exact row8 (n := 0) (F := fun _ => 0) (fun i => by rw [(e3 i).2.1]; rfl) (z9 490 (by omega)) (fun i hi => absurd hi (Nat.not_lt_zero _)) (fun _ _ => rfl) (Nat.zero_le _)
    · rw [(g7 491 (by omega)).1]
      exact row8 (fun i => (e3 i).2.2.1) (z9 491 (by omega)) (fun i hi => (gz 480 i (by decide) (by decide) hi).trans (r2 i hi).2.2.1) (fun i hi => (k5 i hi).2.1) k1
    · rw [(g7 487 (by omega)).1]
      exact row8 (fun i => (e3 i).2.2.2) (z9 487 (by omega)) (fun i hi => (gz 481 i (by decide) (by decide) hi).trans (r2 i hi).2.2.2) (fun i hi => (k5 i hi).2.2) k1
    · rw [g3 33 (by decide), hu0, gI_c (by decide), gI_c (by decide), gI_c (by decide), gI_s]; rfl
    · rw [g3 34 (by decide), hu0, gI_c (by decide), gI_c (by decide), gI_s, gI_r (by decide), g9 477 (by decide) (by decide), if_pos (by decide)]
      exact r1.2.2
    · rw [g3 35 (by decide), hu0, gI_c (by decide), gI_s]; rfl
    · rw [g3 36 (by decide), hu0, gI_s]; exact (show mk (fun _ => false) 8 = 0 by decide).symm
  · rw [g0 44 (by omega) (by decide)]; exact e44
  · rw [g0 44 (by omega) (by decide)]; exact e44
  · rw [hw', gI_c (by decide), gI_c (by decide), gI_s]; rfl
  · rw [hw', gI_c (by decide), gI_s]; rfl
  · show gI w' 486 i = oT A i
    rw [ff.g (by omega)]; exact h.2.2.2.1 i hi
  · rw [hw', gI_s]
