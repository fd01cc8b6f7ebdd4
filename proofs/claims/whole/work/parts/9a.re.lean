/-! the reference reads lines -/
def hbR (c : Nat) : Nat := if c = 477 then 5 else if c ≤ 482 then 8 else if c = 483 then 48 else 700
def dnv (a b c d : Bool) : Int := (if a then 1 else 0) + (if b then 2 else 0) + (if c then 4 else 0) + (if d then 8 else 0)
def dnq (q : QZ) : Int := dnv (vd q) (ve q) (decide (0 < (va q).1)) (decide (0 < (vs q).1))
/-- the quay that is being told, in the reference -/
def RTk (w : Wd) (q : QZ) : Prop := (gI w 477 5 = vk q ∧ gI w 477 6 = vn q ∧ gI w 477 7 = vc q) ∧ (∀ p, p < vn q → gI w 478 (8 + p) = b2i (vm q p) ∧ gI w 479 (8 + p) = vL q p ∧ gI w 480 (8 + p) = vW q p ∧ gI w 481 (8 + p) = vM q p) ∧
  (∀ p, p < vn q → gI w 482 (8 + p) = vX q p ∧ ∀ i, i < vX q p → gI w 483 (6 * (8 + p) + i) = vw q p i) ∧ (gI w 477 8 = (va q).1 ∧ ∀ i, i < (va q).1 → ec (gI w 484 (700 + i)) = (va q).2 i) ∧ (gI w 477 9 = (vs q).1 ∧ ∀ i, i < (vs q).1 → ec (gI w 485 (700 + i)) = (vs q).2 i)
def RTq (w : Wd) (q : QZ) : Prop := RTk w q ∧ gI w 473 28 = b2i (decide (0 < vn q))
def A8 (i : Nat) : Prop := A5 i ∨ i = 24 ∨ i = 25 ∨ i = 27 ∨ i = 28
/-- the frame of a line -/
def FrN (w w' : Wd) : Prop := (∀ c, ¬ (c = 473 ∨ (477 ≤ c ∧ c ≤ 485)) → gI w' c = gI w c) ∧ (∀ i, ¬ A8 i → gI w' 473 i = gI w 473 i) ∧ (∀ c i, 477 ≤ c → c ≤ 485 → i < hbR c → gI w' c i = gI w c i) ∧ (∀ c, c ≠ 473 → gR w' c = gR w c) ∧ gJ w' = gJ w ∧ gN w' = gN w ∧ gL w' = gL w ∧ gX w' = gX w ∧ gE w' = gE w
theorem FrN.rf {w : Wd} : FrN w w := ⟨fun _ _ => rfl, fun _ _ => rfl, fun _ _ _ _ _ => rfl, fun _ _ => rfl, rfl, rfl, rfl, rfl, rfl⟩
theorem FrN.tr {a b c : Wd} (h : FrN a b) (h' : FrN b c) : FrN a c :=
  ⟨fun x q => (h'.1 x q).trans (h.1 x q), fun i q => (h'.2.1 i q).trans (h.2.1 i q), fun x i q1 q2 q3 => (h'.2.2.1 x i q1 q2 q3).trans (h.2.2.1 x i q1 q2 q3), fun x q => (h'.2.2.2.1 x q).trans (h.2.2.2.1 x q), h'.2.2.2.2.1.trans h.2.2.2.2.1, h'.2.2.2.2.2.1.trans h.2.2.2.2.2.1, h'.2.2.2.2.2.2.1.trans h.2.2.2.2.2.2.1, h'.2.2.2.2.2.2.2.1.trans h.2.2.2.2.2.2.2.1, h'.2.2.2.2.2.2.2.2.trans h.2.2.2.2.2.2.2.2⟩
theorem FrI.N0 {A : Nat → Prop} {w w' : Wd} (h : FrI A w w') (hA : ∀ c, A c → c = 473 ∨ (477 ≤ c ∧ c ≤ 485)) (h1 : ∀ i, ¬ A8 i → gI w' 473 i = gI w 473 i) (h2 : ∀ c i, 477 ≤ c → c ≤ 485 → i < hbR c → gI w' c i = gI w c i) : FrN w w' := by
  have e := h.2
  refine ⟨fun c q => h.g (fun z => q (hA c z)), h1, h2, fun c _ => by rw [h.R], ?_, ?_, ?_, ?_, ?_⟩ <;> (first | unfold gJ | unfold gN | unfold gL | unfold gX | unfold gE) <;> rw [e]
theorem FrH.N {w w' : Wd} (h : FrH w w') : FrN w w' := h.1.N0 (fun c hc => Or.inl hc) (fun i hi => h.2 i (fun z => hi (by unfold A8; rcases z with z | z | z; exact Or.inl z; exact Or.inr (Or.inl z); exact Or.inr (Or.inr (Or.inl z))))) (fun c i c1 c2 _ => by rw [h.1.g (by omega)])
/-- a row's upper half is written -/
theorem FrN.w {w : Wd} {c i : Nat} {v : Int} (h1 : 477 ≤ c) (h2 : c ≤ 485) (hi : hbR c ≤ i) : FrN w (pI w c i v) := (FrI.p (A := fun d => d = c) rfl).N0 (fun d hd => by have hd : d = c := hd; omega) (fun j _ => by rw [gI_r (by omega)]) (fun d j _ _ hj => by
  by_cases z : d = c
  · subst z; exact gI_c (by omega)
  · rw [gI_r z])
theorem FrN.f {w : Wd} {i : Nat} {v : Int} (hi : A8 i) : FrN w (pI w 473 i v) := (FrI.p (A := fun d => d = 473) rfl).N0 (fun d hd => Or.inl hd) (fun j hj => gI_c (fun e => hj (e ▸ hi))) (fun d j d1 d2 _ => by rw [gI_r (by omega)])
theorem FrG.N {S : Bool} {w w' : Wd} (h : FrG S w w') : FrN w w' := by
  have hs := sgR_c S
  refine h.1.N0 (fun c hc => by omega) (fun i hi => h.2.1 i (fun z => hi (by unfold A8; rcases z with z | z | z; exact Or.inl z; exact Or.inr (Or.inl z); exact Or.inr (Or.inr (Or.inl z))))) (fun c i c1 c2 hi => ?_)
  by_cases z : c = 477
  · subst z
    exact h.2.2.1 i (by unfold hbR at hi; rw [if_pos rfl] at hi; cases S; show i ≠ 8; omega; show i ≠ 9; omega)
  · by_cases y : c = sgR S
    · subst y
      exact h.2.2.2 i (by unfold hbR at hi; rw [if_neg z, if_neg (by omega), if_neg (by omega)] at hi; exact hi)
    · rw [h.1.g (by omega)]
/-- the reference's reader of lines stands so -/
def RLm (T : Row) (n M : Nat) (w : Wd) (a : LZ × QZ) : Prop := XT w T n ∧ WDm w ∧ BM T n M w a.1.1 a.1.2 ∧ (a.1.1 = 0 → RTq w a.2 ∧ QK a.2)
section LNm
variable {T : Row} {n M : Nat} {w : Wd} {y : LZ} {q : QZ}
theorem RTk.ext {w' : Wd} (h : RTk w q) (e : ∀ i, 5 ≤ i → i ≤ 9 → gI w' 477 i = gI w 477 i) (e2 : ∀ c p, 478 ≤ c → c ≤ 482 → p < vn q → gI w' c (8 + p) = gI w c (8 + p)) (e3 : ∀ p i, p < vn q → i < vX q p → gI w' 483 (6 * (8 + p) + i) = gI w 483 (6 * (8 + p) + i)) (e4 : gI w' 484 = gI w 484 ∧ gI w' 485 = gI w 485) : RTk w' q := by
  obtain ⟨h1, h2, h3, h4, h5⟩ := h
  unfold RTk
  rw [e 5 (by decide) (by decide), e 6 (by decide) (by decide), e 7 (by decide) (by decide), e 8 (by decide) (by decide), e 9 (by decide) (by decide), e4.1, e4.2]
  refine ⟨h1, fun p hp => ?_, fun p hp => ?_, h4, h5⟩
  · rw [e2 478 p (by decide) (by decide) hp, e2 479 p (by decide) (by decide) hp, e2 480 p (by decide) (by decide) hp, e2 481 p (by decide) (by decide) hp]
    exact h2 p hp
  · obtain ⟨a, b⟩ := h3 p hp
    exact ⟨(e2 482 p (by decide) (by decide) hp).trans a, fun i hi => (e3 p i hp hi).trans (b i hi)⟩
theorem RTk.H {w' : Wd} (h : RTk w q) (f : FrH w w') : RTk w' q := h.ext (fun i _ _ => by rw [f.1.g (by decide)]) (fun c p _ _ _ => by rw [f.1.g (by omega)]) (fun p i _ _ => by rw [f.1.g (by decide)]) ⟨f.1.g (by decide), f.1.g (by decide)⟩
theorem RTq.H {w' : Wd} (h : RTq w q) (f : FrH w w') : RTq w' q := ⟨h.1.H f, by rw [f.2 28 (by unfold A5; omega)]; exact h.2⟩
theorem WDm.H {w' : Wd} (h : WDm w) (f : FrH w w') : WDm w' := h.ext (fun c _ _ => by rw [f.1.R])
/-- a walk being told -/
def RWq (w : Wd) (V : Nat → Int) (q : QZ) (j k : Nat) : Prop := RTk w q ∧ vn q < 8 ∧ (∀ p, p < vn q → vX q p ≤ 6) ∧ ∀ i, i < k → gI w 483 (6 * (8 + vn q) + i) = V (j + i)
theorem lCn_g {K V : Nat → Int} {crn : Int} {k : Nat} (z : y.1 = 0) (hk : k < 6) (h1 : K y.2 = 1) (hv : V y.2 < crn) : lCn K V crn k y = (0, y.2 + 1) := by
  unfold lCn
  rw [if_neg (fun u => u z), if_neg (fun u => u.1 h1), if_neg (by omega), if_neg (by omega)]
theorem ewk {v k : Nat} (h : v < 8) (hk : k < 6) : wr (wr (6 * ((8 + v : Nat) : Int)) + (k : Int)) = ((6 * (8 + v) + k : Nat) : Int) := by rw [wrd (z := 6 * ((8 + v : Nat) : Int)) (by omega) (by omega), wrd (by omega) (by omega)]; omega
theorem lWk_bad {K V : Nat → Int} {crn : Int} (h : y.1 ≠ 0) : ∀ f k, lWk K V crn f k y = y := by
  intro f k
  cases f with
  | zero => rfl
  | succ f => unfold lWk; rw [if_neg (fun u => h u.1)]
theorem BM.b1 {f : Int} {j : Nat} (h : BM T n M w f j) (z : f ≠ 0) : gI w 473 24 ≠ 0 := by rw [(h.2.1 z).1]; exact z
theorem isNu_t {j : Nat} : isNu (KT T n j) = true ↔ tkT (KT T n j) = 2 := by
  rw [KT_n2]
  unfold isNu
  simp
/-- the walk's loop where a fault is -/
theorem v200 {p k : Int} (H : LR w) (hb : gI w 473 24 ≠ 0) : s200_22 473 p k w = rI k w := e200_22 H l473 _ (if_pos hb)
theorem v200b {p k v : Int} (H : LR w) (hb : gI w 473 24 ≠ 0) : s200_79 473 p k v w = rI k w := e200_79 H l473 _ (if_neg hb)
/-- so many corners -/
theorem y200l {j : Nat} {v0 : Nat} (hT : TK (KT T n) (VT T n) M) (hv0 : v0 = vn q) (hv8 : v0 < 8) : ∀ (f k : Nat) (w : Wd) (y : LZ), k + f = 7 → k ≤ 6 → XT w T n → BM T n M w y.1 y.2 → (y.1 = 0 → RWq w (VT T n) q j k ∧ y.2 = j + k) →
    ∃ w' m, s200_22 473 ((8 + v0 : Nat) : Int) k w = rI m w' ∧ XT w' T n ∧ BM T n M w' (lWk (KT T n) (VT T n) (vk q) f k y).1 (lWk (KT T n) (VT T n) (vk q) f k y).2 ∧ FrN w w' ∧ gI w' 477 = gI w 477 ∧ (∀ c, 478 ≤ c → c ≤ 482 → gI w' c = gI w c) ∧
      ((lWk (KT T n) (VT T n) (vk q) f k y).1 = 0 → ∃ mn : Nat, m = mn ∧ k ≤ mn ∧ (lWk (KT T n) (VT T n) (vk q) f k y).2 = j + mn ∧ (∀ i, i < mn → gI w' 483 (6 * (8 + vn q) + i) = VT T n (j + i)) ∧ (∀ p i, p < vn q → i < vX q p → gI w' 483 (6 * (8 + p) + i) = gI w 483 (6 * (8 + p) + i)) ∧ gI w' 484 = gI w 484 ∧ gI w' 485 = gI w 485 ∧ (gI w' 473 28 = if k < mn then 1 else gI w 473 28)) := by
  intro f
  induction f with
  | zero => intro k w y hk h6; omega
  | succ f ih =>
    intro k w y hk h6 hX hB hp
    by_cases z : y.1 = 0
    · obtain ⟨⟨g1, g2, g3, g4⟩, g5⟩ := hp z
      obtain ⟨m0, m1, m2, m3, m4, m5⟩ := hB.1 z
      have hq5 : gI w 477 5 = vk q := g1.1.1
      unfold lWk
      by_cases c : isNu (KT T n y.2) = true
      · have ct := isNu_t.mp c
        have hkk := KT_n2.mp ct
        rw [if_pos ⟨z, c⟩]
        have pre : ∀ o, (if (k : Int) ≠ 6 then s200_48 473 ((8 + v0 : Nat) : Int) k w else b0 (F186 473 2 w) (fun w2 => s200_48 473 ((8 + v0 : Nat) : Int) k w2)) = some o → s200_22 473 ((8 + v0 : Nat) : Int) k w = some o := by
          intro o ho
          refine e200_22 hX.1 l473 _ ?_
          rw [m0, if_neg (by decide), m4, if_neg (fun u => u ct)]
          exact ho
        have failB : ∀ (fc : Int) (w1 : Wd), fc ≠ 0 → lCn (KT T n) (VT T n) (vk q) k y = (fc, y.2) → s200_22 473 ((8 + v0 : Nat) : Int) k w = rI (k : Int) w1 → BM T n M w1 fc y.2 → FrH w w1 → ∃ w' m, s200_22 473 ((8 + v0 : Nat) : Int) k w = rI m w' ∧ XT w' T n ∧ BM T n M w' (lWk (KT T n) (VT T n) (vk q) f (k + 1) (lCn (KT T n) (VT T n) (vk q) k y)).1 (lWk (KT T n) (VT T n) (vk q) f (k + 1) (lCn (KT T n) (VT T n) (vk q) k y)).2 ∧ FrN w w' ∧ gI w' 477 = gI w 477 ∧ (∀ c, 478 ≤ c → c ≤ 482 → gI w' c = gI w c) ∧
            ((lWk (KT T n) (VT T n) (vk q) f (k + 1) (lCn (KT T n) (VT T n) (vk q) k y)).1 = 0 → ∃ mn : Nat, m = mn ∧ k ≤ mn ∧ (lWk (KT T n) (VT T n) (vk q) f (k + 1) (lCn (KT T n) (VT T n) (vk q) k y)).2 = j + mn ∧ (∀ i, i < mn → gI w' 483 (6 * (8 + vn q) + i) = VT T n (j + i)) ∧ (∀ p i, p < vn q → i < vX q p → gI w' 483 (6 * (8 + p) + i) = gI w 483 (6 * (8 + p) + i)) ∧ gI w' 484 = gI w 484 ∧ gI w' 485 = gI w 485 ∧ (gI w' 473 28 = if k < mn then 1 else gI w 473 28)) := by
          intro fc w1 hfc el es hb1 hf
          rw [el, lWk_bad (show ((fc, y.2) : LZ).1 ≠ 0 from hfc)]
          exact ⟨w1, (k : Int), es, hX.H5 hf, hb1, hf.N, hf.1.g (by decide), fun c c1 c2 => hf.1.g (by omega), fun u => absurd u hfc⟩
        by_cases k6 : k = 6
        · have el : lCn (KT T n) (VT T n) (vk q) k y = (2, y.2) := by
            unfold lCn
            rw [if_neg (fun u => u z), if_neg (by omega), if_pos (Or.inr (by omega))]
          obtain ⟨w1, a1, a2, a3⟩ := h186 (c := 2) (y := y) hX hB (by decide)
          unfold lFl at a2
          rw [if_pos z] at a2
          have hX1 := hX.H5 a3
          have hb := a2.b1 (show (2 : Int) ≠ 0 by decide)
          refine failB 2 w1 (by decide) el (pre _ ?_) a2 a3
          rw [if_neg (by omega), a1, b0_r hX1.1]
          refine e200_48 hX1.1 l473 _ ?_
          have e191' : F191 473 0 9999 w1 = rI 0 w1 := e191 hX1.1 l473 _ (if_neg hb)
          rw [e191', bI_r hX1.1, if_pos hb, v200b hX1.1 hb]
        · obtain ⟨w1, v, a1, a2, a3, a4⟩ := h191 (lo := 0) (hi := 9999) (y := y) hT hX hB
          by_cases k1 : KT T n y.2 = 1
          · have hv := hT.2.2.2.1 _ k1
            have en : lNm (KT T n) (VT T n) 0 9999 y = (0, y.2 + 1) := by
              unfold lNm
              rw [if_neg (fun u => u z), if_neg (fun u => u.1 k1), if_pos ⟨k1, hv.1, hv.2⟩]
            rw [en] at a3
            obtain ⟨e1, e2⟩ := a3 rfl
            rw [e1, e2] at a1
            by_cases vc' : VT T n y.2 < vk q
            · have el := lCn_g (K := KT T n) (V := VT T n) (crn := vk q) (k := k) z (by omega) k1 vc'
              rw [el]
              obtain ⟨w2, b1, b2, b3⟩ := h185 (y := y) hT hX hB z (by omega)
              have hX2 := hX.H5 b3
              have fa : FrN w2 (pI (pI w2 483 (6 * (8 + v0) + k) (VT T n y.2)) 473 28 1) := (FrN.w (by decide) (by decide) (by show 48 ≤ 6 * (8 + v0) + k; omega)).tr (FrN.f (by unfold A8; omega))
              have Fa : FrI (fun c => c = 473 ∨ c = 483) w2 (pI (pI w2 483 (6 * (8 + v0) + k) (VT T n y.2)) 473 28 1) := (FrI.p (A := fun c => c = 473 ∨ c = 483) (Or.inr rfl)).pp (Or.inl rfl)
              have r483 : ∀ i, gI (pI (pI w2 483 (6 * (8 + v0) + k) (VT T n y.2)) 473 28 1) 483 i = if i = 6 * (8 + v0) + k then VT T n y.2 else gI w2 483 i := fun i => by
                rw [gI_r (by decide)]
                by_cases u : i = 6 * (8 + v0) + k
                · rw [if_pos u, u, gI_s]
                · rw [if_neg u, gI_c u]
              have r28 : gI (pI (pI w2 483 (6 * (8 + v0) + k) (VT T n y.2)) 473 28 1) 473 28 = 1 := gI_s
              have r73 : ∀ i, i ≠ 28 → gI (pI (pI w2 483 (6 * (8 + v0) + k) (VT T n y.2)) 473 28 1) 473 i = gI w2 473 i := fun i hi => by rw [gI_c hi, gI_r (by decide)]
              have hk5 : k < 6 := Nat.lt_of_le_of_ne h6 k6
              have hk9 : k < 2000000000 := Nat.lt_trans hk5 (by decide)
              have hi0 : (0 : Int) ≤ ((6 * (8 + v0) + k : Nat) : Int) := Int.natCast_nonneg _
              have hi1 : ((6 * (8 + v0) + k : Nat) : Int) < ((96 : Nat) : Int) := by
                clear failB pre a1 a3 a4
                omega
              have key : ∀ o, s200_22 473 ((8 + v0 : Nat) : Int) ((k + 1 : Nat) : Int) (pI (pI w2 483 (6 * (8 + v0) + k) (VT T n y.2)) 473 28 1) = some o → s200_22 473 ((8 + v0 : Nat) : Int) k w = some o := by
                intro o ho
                refine pre o ?_
                rw [if_pos (by omega)]
                refine e200_48 hX.1 l473 _ ?_
                rw [a1, bI_r hX.1, m0, if_neg (by decide), gdi (by decide) (by decide), show (473 + 4 : Nat) = 477 from rfl, hq5, if_pos vc']
                refine e200_79 hX.1 l473 _ ?_
                rw [m0, if_pos rfl, b1, b0_r hX2.1, ewk hv8 hk5, gdi hi0 hi1, nn, wrs hk9]
                exact ho
              revert fa Fa r483 r28 r73 key
              generalize pI (pI w2 483 (6 * (8 + v0) + k) (VT T n y.2)) 473 28 1 = w3
              intro fa Fa r483 r28 r73 key
              have hX3 : XT w3 T n := hX2.ext (Fa.LR hX2.1) (r73 19 (by decide)) (Fa.g (by decide))
              have hB3 : BM T n M w3 0 (y.2 + 1) := b2.ext (fun i hi => r73 i (by omega))
              have g1' : RTk w3 q := (g1.H b3).ext (fun i _ _ => by rw [Fa.g (by decide)]) (fun c p _ _ _ => by rw [Fa.g (by omega)]) (fun p i hp hi => by
                have := g3 p hp
                rw [r483, if_neg (by omega)]) ⟨Fa.g (by decide), Fa.g (by decide)⟩
              obtain ⟨w4, m, c1, c2, c3, c4, c5, c6, c7⟩ := ih (k + 1) w3 (0, y.2 + 1) (by omega) (by omega) hX3 hB3 (fun _ => ⟨⟨g1', g2, g3, fun i hi => by
                rw [r483, hv0]
                by_cases u : i = k
                · rw [if_pos (by omega), u, ← g5]
                · rw [if_neg (by omega), b3.1.g (by decide)]; exact g4 i (by omega)⟩, by show y.2 + 1 = j + (k + 1); omega⟩)
              refine ⟨w4, m, key _ c1, c2, c3, (b3.N.tr fa).tr c4, by rw [c5, Fa.g (by decide), b3.1.g (by decide)], fun c x1 x2 => by rw [c6 c x1 x2, Fa.g (by omega), b3.1.g (by omega)], fun u => ?_⟩
              obtain ⟨mn, d1, d2, d3, d4, d5, d6, d7, d8⟩ := c7 u
              refine ⟨mn, d1, by omega, d3, d4, fun p i p1 p2 => ?_, by rw [d6, Fa.g (by decide), b3.1.g (by decide)], by rw [d7, Fa.g (by decide), b3.1.g (by decide)], ?_⟩
              · have := g3 p p1
                rw [d5 p i p1 p2, r483, if_neg (by omega), b3.1.g (by decide)]
              · rw [d8, if_pos (show k < mn by omega)]
                by_cases v : k + 1 < mn
                · rw [if_pos v]
                · rw [if_neg v]; exact r28
            · have el : lCn (KT T n) (VT T n) (vk q) k y = (3, y.2) := by
                unfold lCn
                rw [if_neg (fun u => u z), if_neg (fun u => u.1 k1), if_neg (by omega), if_pos (by omega)]
              obtain ⟨w3, c1, c2, c3⟩ := h186 (c := 3) (y := y) hX hB (by decide)
              unfold lFl at c2
              rw [if_pos z] at c2
              have hX3 := hX.H5 c3
              refine failB 3 w3 (by decide) el (pre _ ?_) c2 c3
              rw [if_pos (by omega)]
              refine e200_48 hX.1 l473 _ ?_
              rw [a1, bI_r hX.1, m0, if_neg (by decide), gdi (by decide) (by decide), show (473 + 4 : Nat) = 477 from rfl, hq5, if_neg vc', c1, b0_r hX3.1, v200b hX3.1 (c2.b1 (show (3 : Int) ≠ 0 by decide))]
          · have k2 : KT T n y.2 = 2 := by omega
            have en : lNm (KT T n) (VT T n) 0 9999 y = (2, y.2) := by
              unfold lNm
              rw [if_neg (fun u => u z), if_neg (fun u => u.2 k2), if_neg (fun u => k1 u.1)]
            rw [en] at a4
            obtain ⟨d1, -⟩ := a4 (show (2 : Int) ≠ 0 by decide)
            have el : lCn (KT T n) (VT T n) (vk q) k y = (2, y.2) := by
              unfold lCn
              rw [if_neg (fun u => u z), if_neg (fun u => u.2 k2), if_pos (Or.inl k2)]
            have hX1 := hX.H5 a2
            have hb := d1.b1 (show (2 : Int) ≠ 0 by decide)
            refine failB 2 w1 (by decide) el (pre _ ?_) d1 a2
            rw [if_pos (by omega)]
            refine e200_48 hX.1 l473 _ ?_
            rw [a1, bI_r hX1.1, if_pos hb, v200b hX1.1 hb]
      · rw [if_neg (fun u => c u.2)]
        refine ⟨w, (k : Int), e200_22 hX.1 l473 _ ?_, hX, hB, FrN.rf, rfl, fun _ _ _ => rfl, fun _ => ⟨k, rfl, Nat.le_refl _, g5, g4, fun _ _ _ _ => rfl, rfl, rfl, by rw [if_neg (Nat.lt_irrefl _)]⟩⟩
        rw [m0, if_neg (by decide), m4, if_pos (fun u => c (isNu_t.mpr u))]
    · rw [lWk_bad z]
      exact ⟨w, (k : Int), v200 hX.1 (hB.b1 z), hX, hB, FrN.rf, rfl, fun _ _ _ => rfl, fun u => absurd u z⟩
end LNm
