/-! the class's answers: what is seen -/
abbrev NT : Type := Nat × (Nat → Nat) × Row × Row
def RN (w : Wd) (b : Nat) (N : NT) : Prop := gI w b 3 = N.1 ∧ ∀ i, i < N.1 → gI w (b + 1) i = N.2.1 i ∧ gI w (b + 2) i = N.2.2.1 i ∧ gI w (b + 3) i = N.2.2.2 i
def GN (n : Nat) (N : NT) : Prop := N.1 ≤ 8 ∧ ∀ i, i < N.1 → N.2.1 i < n ∧ (0 ≤ N.2.2.1 i ∧ N.2.2.1 i ≤ 20) ∧ (0 ≤ N.2.2.2 i ∧ N.2.2.2 i ≤ 999)
theorem RN.ext {w w' : Wd} {b : Nat} {N : NT} (h : RN w b N) (hA : ∀ a, b ≤ a → a ≤ b + 3 → gI w' a = gI w a) : RN w' b N := by
  unfold RN
  rw [hA b (by omega) (by omega), hA (b + 1) (by omega) (by omega), hA (b + 2) (by omega) (by omega), hA (b + 3) (by omega) (by omega)]
  exact h
theorem RN.fr {w w' : Wd} {N : NT} (h : RN w 246 N) (f : FrC w w') : RN w' 246 N := h.ext (fun a _ _ => f.1 a (by omega) (by unfold SC; omega))
theorem l246 : (lay 246).1 = 7 := by rfl
def lsN (N : NT) (k : Nat) : Int := it (fun i x => max x (N.2.2.1 i)) k 0
theorem lsN_b {N : NT} {n : Nat} (hg : GN n N) : ∀ k, k ≤ N.1 → 0 ≤ lsN N k ∧ lsN N k ≤ 20 ∧ ∀ i, i < k → N.2.2.1 i ≤ lsN N k := by
  intro k
  induction k with
  | zero => intro _; exact ⟨by show (0 : Int) ≤ 0; omega, by show (0 : Int) ≤ 20; omega, fun i h => absurd h (Nat.not_lt_zero _)⟩
  | succ k ih =>
    intro hk
    obtain ⟨h1, h2, h3⟩ := ih (by omega)
    have e : lsN N (k + 1) = max (lsN N k) (N.2.2.1 k) := rfl
    have hb := (hg.2 k (by omega)).2.1
    rw [e]
    refine ⟨by omega, by omega, fun i hi => ?_⟩
    by_cases y : i = k
    · subst y; omega
    · have := h3 i (by omega); omega
theorem c69 {w : Wd} {N : NT} {n : Nat} (H : LR w) (hN : RN w 246 N) (hg : GN n N) : F69 246 w = rI (lsN N N.1) w := by
  obtain ⟨v, hv, e⟩ := lpR (F := fun k v => s69_4 246 v k w) (I := fun k v => v = lsN N k) N.1 (fun k v hk e => by
    subst e
    refine ⟨lsN N (k + 1), fun o ho => e69_4 H l246 _ ?_, rfl⟩
    have h8 := hg.1
    rw [hN.1, if_neg (by omega), if_neg (by omega), gdi (by omega) (by omega), nn, show gI w (246 + 2) k = N.2.2.1 k from (hN.2 k hk).2.1, q325 H, bI_r H, wrd (by omega) (by omega)]
    exact ho) 0 rfl
  subst e
  exact e69 H l246 _ (hv _ (e69_4 H l246 _ (by rw [hN.1, if_pos (Int.le_refl _)])))
def soB (N : NT) (k : Int) (u : ST) : Bool := (List.range N.1).all (fun i => !decide (N.2.2.1 i = k) || decide (uL u (N.2.1 i) = N.2.2.2 i))
theorem soB_iff {N : NT} {k : Int} {u : ST} : soB N k u = true ↔ ∀ i, i < N.1 → N.2.2.1 i = k → uL u (N.2.1 i) = N.2.2.2 i := by
  unfold soB
  simp only [List.all_eq_true, List.mem_range, Bool.or_eq_true, Bool.not_eq_true', decide_eq_false_iff_not, decide_eq_true_eq]
  constructor
  · intro h i hi hk
    rcases h i hi with z | z
    · exact absurd hk z
    · exact z
  · intro h i hi
    by_cases z : N.2.2.1 i = k
    · exact Or.inr (h i hi z)
    · exact Or.inl z
theorem c70 {w : Wd} {N : NT} {n : Nat} {k : Int} {u : ST} (H : LR w) (hN : RN w 246 N) (hg : GN n N) (hn : n ≤ 8) (hr : RS w 39 u) : F70 246 k 39 w = rI (b2i (soB N k u)) w := by
  have h8 := hg.1
  have hX := lpX (F := fun i (_ : Unit) => s70_2 246 k 39 i w) (I := fun i _ => ∀ j, j < i → N.2.2.1 j = k → uL u (N.2.1 j) = N.2.2.2 j) (Q := fun o => o = (.inl (some (.inl 0)), w) ∧ soB N k u = false) N.1 (fun i _ hi e => by
    obtain ⟨r1, r2, r3⟩ := hN.2 i hi
    obtain ⟨g1, g2, g3⟩ := hg.2 i hi
    have e75 := q75 (p := N.2.1 i) H l39 (by omega)
    rw [hr.1] at e75
    by_cases z : N.2.2.1 i = k
    · by_cases y : uL u (N.2.1 i) = N.2.2.2 i
      · refine Or.inl ⟨(), fun o ho => e70_2 H l246 l39 _ ?_, fun j hj hk => ?_⟩
        · rw [hN.1, if_neg (by omega), if_neg (by omega), gdi (by omega) (by omega), nn, r2, if_neg (by omega), gdi (by omega) (by omega), r1, e75, bI_r H, gdi (by omega) (by omega), r3, if_pos y, wrd (by omega) (by omega)]
          exact ho
        · by_cases x : j = i
          · rw [x]; exact y
          · exact e j (by omega) hk
      · refine Or.inr ⟨_, e70_2 H l246 l39 _ ?_, rfl, ?_⟩
        · rw [hN.1, if_neg (by omega), if_neg (by omega), gdi (by omega) (by omega), nn, r2, if_neg (by omega), gdi (by omega) (by omega), r1, e75, bI_r H, gdi (by omega) (by omega), r3, if_neg y]
        · cases hs : soB N k u
          · rfl
          · exact absurd (soB_iff.mp hs i hi z) y
    · refine Or.inl ⟨(), fun o ho => e70_2 H l246 l39 _ ?_, fun j hj hk => ?_⟩
      · rw [hN.1, if_neg (by omega), if_neg (by omega), gdi (by omega) (by omega), nn, r2, if_pos (by omega), wrd (by omega) (by omega)]
        exact ho
      · by_cases x : j = i
        · rw [x] at hk; exact absurd hk z
        · exact e j (by omega) hk) () (fun j h => absurd h (Nat.not_lt_zero _))
  refine e70 H l246 l39 _ ?_
  rcases hX with ⟨_, hu, e⟩ | ⟨o, ho, hw, hs⟩
  · rw [soB_iff.mpr e]
    exact hu _ (e70_2 H l246 l39 _ (by rw [hN.1, if_pos (Int.le_refl _)]; rfl))
  · rw [hs]
    rw [hw] at ho
    exact ho
/-- whether all that is seen would be so -/
def asS (Q : QT) (N : NT) (s : ST) : Bool := (List.range N.1).all (fun i => decide (uL (goN Q s (N.2.2.1 i).toNat) (N.2.1 i) = N.2.2.2 i))
theorem asS_iff {Q : QT} {N : NT} {s : ST} : asS Q N s = true ↔ ∀ i, i < N.1 → uL (goN Q s (N.2.2.1 i).toNat) (N.2.1 i) = N.2.2.2 i := by
  unfold asS
  simp only [List.all_eq_true, List.mem_range, decide_eq_true_eq]
theorem c152b {w w0 : Wd} {q : Nat} {Q : QT} {s u : ST} {N : NT} {x y : Int} (h : CQ w q Q s) (f : FrC w w0) (hN : RN w 246 N) (hg : GN (zn Q) N) (hG : GS (zn Q) u) (hT : uT u = uT s)
    (hset : ∀ v, LR v → RS v 39 s → ∃ v1, F87 39 x y v = r0 v1 ∧ FrI (AS 39) v v1 ∧ RS v1 39 u) : ∃ w', s152_19 0 x y w0 = rI (b2i (asS Q N u)) w' ∧ FrC w w' := by
  have ht := h.t
  have h0 := h.fr f
  obtain ⟨v, k1, ⟨c1, -⟩, k2⟩ := q169 h0
  have hV := k2.LR h0.H
  obtain ⟨v1, a1, a2, a3⟩ := hset v hV c1
  have f1 : FrC w v1 := (f.tr k2).tr (a2.C (fun b hb => by unfold AS at hb; unfold SC; omega))
  have H1 := f1.LR h.H
  obtain ⟨b1, b2, b3⟩ := lsN_b hg N.1 (Nat.le_refl _)
  obtain ⟨L, hL⟩ : ∃ L : Nat, lsN N N.1 = L := ⟨(lsN N N.1).toNat, by omega⟩
  have start : ∀ {o : Out}, s152_48 0 x y L 0 v1 = some o → s152_19 0 x y w0 = some o := by
    intro o ho
    refine e152_19 h0.H l0 _ ?_
    rw [k1, b0_r hV, show F87 (0 + 39) x y v = r0 v1 from a1, b0_r H1, show F69 (0 + 246) v1 = _ from c69 H1 (hN.fr f1) hg, bI_r H1, q326 H1, bI_r H1, hL, show min (L : Int) 20 = L by omega]
    exact ho
  have hX := lpX (F := fun k v => s152_48 0 x y L k v) (I := fun k v => FrC w v ∧ RS v 39 (goN Q u k) ∧ ∀ j : Nat, j < k → soB N j (goN Q u j) = true) (Q := fun o => ∃ w', o = (.inl (some (.inl 0)), w') ∧ FrC w w' ∧ asS Q N u = false) L (fun k v hk e => by
    obtain ⟨e1, e2, e3⟩ := e
    have hv := h.fr e1
    have e70 := c70 (k := (k : Int)) hv.H (hN.fr e1) hg h.n8 e2
    cases z : soB N k (goN Q u k)
    · refine Or.inr ⟨_, e152_48 hv.H l0 _ ?_, v, rfl, e1, ?_⟩
      · rw [if_neg (by omega), show F70 (0 + 246) k (0 + 39) v = _ from e70, bI_r hv.H, z, if_neg (by decide)]
      · cases hs : asS Q N u
        · rfl
        · have hall := asS_iff.mp hs
          have : soB N k (goN Q u k) = true := soB_iff.mpr (fun i hi hk2 => by
            have := hall i hi
            rw [hk2] at this; exact this)
          rw [this] at z; cases z
    · obtain ⟨v', l1, l2, l3, -⟩ := qgo (K := 1) h e1 e2 (GS_goN hG k (by omega)) (by rw [goN_T]; omega)
      refine Or.inl ⟨v', fun o ho => e152_48 hv.H l0 _ ?_, l3, l2, fun j hj => ?_⟩
      · rw [if_neg (by omega), show F70 (0 + 246) k (0 + 39) v = _ from e70, bI_r hv.H, z, if_pos (by decide), hv.q, show F17 (0 + 27) q (0 + 39) 1 v = r0 v' from l1, b0_r (l3.LR h.H), wrd (by omega) (by omega)]
        exact ho
      · by_cases y2 : j = k
        · rw [y2]; exact z
        · exact e3 j (by omega)) v1 ⟨f1, a3, fun j hj => absurd hj (Nat.not_lt_zero _)⟩
  rcases hX with ⟨v', hv', e1, e2, e3⟩ | ⟨o, ho, w', hw, e1, hz⟩
  · have hv := h.fr e1
    have e70 := c70 (k := (L : Int)) hv.H (hN.fr e1) hg h.n8 e2
    refine ⟨v', start (hv' _ (e152_48 hv.H l0 _ ?_)), e1⟩
    rw [if_pos (Int.le_refl _), show F70 (0 + 246) L (0 + 39) v' = _ from e70, bI_r hv.H, gP_t (b2i_or _)]
    have : soB N L (goN Q u L) = asS Q N u := by
      apply Bool.eq_iff_iff.mpr
      rw [soB_iff, asS_iff]
      constructor
      · intro hh i hi
        have hgi := hg.2 i hi
        have hle := b3 i hi
        obtain ⟨t, ht2⟩ : ∃ t : Nat, N.2.2.1 i = t := ⟨(N.2.2.1 i).toNat, by omega⟩
        by_cases y2 : t = L
        · have := hh i hi (by rw [ht2, y2])
          rw [ht2, nn, y2]; exact this
        · have := soB_iff.mp (e3 t (by omega)) i hi ht2
          rw [ht2, nn]; exact this
      · intro hh i hi hk2
        have := hh i hi
        rw [hk2, nn] at this; exact this
    rw [this]
  · refine ⟨w', start ?_, e1⟩
    rw [hz]
    rw [hw] at ho
    exact ho
/-- whether another watch would be so -/
def ft (Q : QT) (N : NT) (s : ST) (p v : Nat) : Bool := !decide (uW s p = v) && asS Q N (sW s p v)
theorem c152 {w w0 : Wd} {q : Nat} {Q : QT} {s : ST} {N : NT} {p v : Nat} (h : CQ w q Q s) (f : FrC w w0) (hN : RN w 246 N) (hg : GN (zn Q) N) (hp : p < zn Q) (hv : v < 60) : ∃ w', F152 0 p v w0 = rI (b2i (ft Q N s p v)) w' ∧ FrC w w' := by
  have h8 := h.n8
  have h0 := h.fr f
  have e76 := q76 (p := p) h0.H l34 (by omega)
  rw [show gI w0 (34 + 2) = uW s from h0.2.2.2.1.2.1] at e76
  unfold ft
  by_cases z : uW s p = v
  · refine ⟨w0, e152 h0.H l0 _ ?_, f⟩
    rw [if_neg (by omega), show F76 (0 + 34) p w0 = _ from e76, bI_r h0.H, if_neg (by omega)]
    simp [z, b2i]
  · obtain ⟨w', k1, k2⟩ := c152b (u := sW s p v) (x := p) (y := v) h f hN hg (GS_W h.s ⟨by omega, by omega⟩) rfl (fun v1 hv1 hr => ⟨_, q87 (a := 39) (p := p) hv1 l39 (by omega), FrI.p ⟨by omega, by omega⟩, by rw [pI_eq hr.2.1]; exact RS_W hr⟩)
    refine ⟨w', e152 h0.H l0 _ ?_, k2⟩
    rw [if_neg (by omega), show F76 (0 + 34) p w0 = _ from e76, bI_r h0.H, if_pos z, k1]
    simp [z]
theorem c152n {w w0 : Wd} {q : Nat} {Q : QT} {s : ST} {N : NT} (h : CQ w q Q s) (f : FrC w w0) (hN : RN w 246 N) (hg : GN (zn Q) N) : ∃ w', F152 0 (-1) (-1) w0 = rI (b2i (asS Q N s)) w' ∧ FrC w w' := by
  obtain ⟨w', k1, k2⟩ := c152b (u := s) (x := -1) (y := -1) h f hN hg h.s rfl (fun v1 hv1 hr => ⟨v1, q87n hv1 l39 (by omega), FrI.rf, hr⟩)
  refine ⟨w', e152 (h.fr f).H l0 _ ?_, k2⟩
  rw [if_pos rfl, k1]
/-- by numbers: 60 of each -/
def ftE (Q : QT) (N : NT) (s : ST) (e : Nat) : Bool := ft Q N s (e / 60) (e % 60)
def aFast (Q : QT) (s : ST) (N : NT) (wh : Int) : An := gdW 3 wh (.inl (if wh = 2 then b2i (asS Q N s) else if wh = 0 then (cn (ftE Q N s) (60 * zn Q) : Nat) else if frs (ftE Q N s) (60 * zn Q) = -1 then -1 else 100 * (frs (ftE Q N s) (60 * zn Q) / 60) + frs (ftE Q N s) (60 * zn Q) % 60))
theorem c151 {w : Wd} {q : Nat} {Q : QT} {s : ST} {N : NT} {wh : Int} (h : CQ w q Q s) (hN : RN w 246 N) (hg : GN (zn Q) N) : AnC w (F151 0 wh w) (aFast Q s N wh) := by
  refine AnC.of (e151 h.H l0) (AnC.W h.H fun w0 w1 => ?_)
  have h8 := h.n8
  by_cases z2 : wh = 2
  · obtain ⟨w', k1, k2⟩ := c152n h FrC.rf hN hg
    rw [if_neg (by omega), if_pos z2, k1, bI_r (k2.LR h.H)]
    cases z : asS Q N s
    · rw [if_pos (show b2i false = 0 from rfl)]; exact AnC.v k2
    · rw [if_neg (by decide)]; exact AnC.v k2
  rw [if_pos z2, if_neg z2]
  -- the search by people, by watches
  have hX := lpX (F := fun p (a : Nat × Wd) => s151_30 0 wh a.1 p a.2) (I := fun p a => FrC w a.2 ∧ a.1 = cn (ftE Q N s) (60 * p) ∧ (wh = 1 → ∀ e, e < 60 * p → ftE Q N s e = false)) (Q := fun o => ∃ (e : Nat) (w' : Wd), e < 60 * zn Q ∧ o = (.inl (some (.inl (100 * ((e : Int) / 60) + (e : Int) % 60))), w') ∧ FrC w w' ∧ wh = 1 ∧ ftE Q N s e = true ∧ ∀ i, i < e → ftE Q N s i = false) (zn Q) (fun p a hp e => by
    obtain ⟨a, u⟩ := a
    obtain ⟨e1, e2, e3⟩ := e
    simp only [] at e1 e2
    have hu := h.fr e1
    have hY := lpX (F := fun v (b : Nat × Wd) => s151_44 0 wh b.1 p v b.2) (I := fun v b => FrC w b.2 ∧ b.1 = cn (ftE Q N s) (60 * p + v) ∧ (wh = 1 → ∀ e, e < 60 * p + v → ftE Q N s e = false)) (Q := fun o => ∃ (e : Nat) (w' : Wd), e < 60 * zn Q ∧ o = (.inl (some (.inl (100 * ((e : Int) / 60) + (e : Int) % 60))), w') ∧ FrC w w' ∧ wh = 1 ∧ ftE Q N s e = true ∧ ∀ i, i < e → ftE Q N s i = false) 60 (fun v b hv e => by
      obtain ⟨b, y⟩ := b
      obtain ⟨i1, i2, i3⟩ := e
      simp only [] at i1 i2
      have hy := h.fr i1
      obtain ⟨y', k1, k2⟩ := c152 (p := p) (v := v) h i1 hN hg hp hv
      have eE : ftE Q N s (60 * p + v) = ft Q N s p v := by
        unfold ftE
        rw [show (60 * p + v) / 60 = p by omega, show (60 * p + v) % 60 = v by omega]
      have eC : cn (ftE Q N s) (60 * p + (v + 1)) = cn (ftE Q N s) (60 * p + v) + (if ftE Q N s (60 * p + v) = true then 1 else 0) := rfl
      have hc := cn_le (P := ftE Q N s) (60 * p + v)
      cases z : ft Q N s p v
      · refine Or.inl ⟨(cn (ftE Q N s) (60 * p + (v + 1)), y'), fun o ho => e151_44 hy.H l0 _ ?_, k2, rfl, fun hw1 e he => ?_⟩
        · dsimp only at ho ⊢
          rw [eC, eE, z, if_neg (by simp)] at ho
          rw [if_neg (by omega), k1, bI_r (k2.LR h.H), z, if_pos (show b2i false = 0 from rfl), wrd (by omega) (by omega), i2]
          exact ho
        · by_cases x : e = 60 * p + v
          · rw [x, eE]; exact z
          · exact i3 hw1 e (by omega)
      · by_cases hw1 : wh = 1
        · refine Or.inr ⟨_, e151_44 hy.H l0 _ ?_, 60 * p + v, y', by omega, rfl, k2, hw1, by rw [eE]; exact z, i3 hw1⟩
          have e9 : 100 * (((60 * p + v : Nat) : Int) / 60) + ((60 * p + v : Nat) : Int) % 60 = 100 * (p : Int) + v := by omega
          dsimp only
          rw [if_neg (by omega), k1, bI_r (k2.LR h.H), z, if_neg (by decide), if_neg (by omega), wrd (z := 100 * (p : Int)) (by omega) (by omega), wrd (by omega) (by omega), e9]
        · refine Or.inl ⟨(cn (ftE Q N s) (60 * p + (v + 1)), y'), fun o ho => e151_44 hy.H l0 _ ?_, k2, rfl, fun hh => absurd hh hw1⟩
          dsimp only at ho ⊢
          rw [eC, eE, z, if_pos rfl] at ho
          rw [if_neg (by omega), k1, bI_r (k2.LR h.H), z, if_neg (by decide), if_pos hw1, wrd (z := (v : Int) + 1) (by omega) (by omega), i2, wrd (by omega) (by omega)]
          exact ho) (a, u) ⟨e1, e2, e3⟩
    rcases hY with ⟨⟨b, y⟩, hb, i1, i2, i3⟩ | ⟨o, ho, hr⟩
    · refine Or.inl ⟨(b, y), fun o ho => e151_30 hu.H l0 _ ?_, i1, by rw [show 60 * (p + 1) = 60 * p + 60 by omega]; exact i2, fun hw1 => by rw [show 60 * (p + 1) = 60 * p + 60 by omega]; exact i3 hw1⟩
      rw [hu.q, hu.n, if_neg (by omega)]
      refine hb _ (e151_44 (i1.LR h.H) l0 _ ?_)
      rw [if_pos (by omega), wrd (by omega) (by omega)]
      exact ho
    · refine Or.inr ⟨o, e151_30 hu.H l0 _ ?_, hr⟩
      rw [hu.q, hu.n, if_neg (by omega)]
      exact ho) (0, w) ⟨FrC.rf, rfl, fun _ e he => absurd he (by omega)⟩
  rcases hX with ⟨⟨a, u⟩, hu, e1, e2, e3⟩ | ⟨o, ho, e, w', he, hw, hf, hw1, hfe, hall⟩
  · simp only [] at e1 e2
    have hq := h.fr e1
    have : s151_30 0 wh 0 0 w = rI (if wh ≠ 0 then -1 else (a : Int)) u := hu _ (e151_30 hq.H l0 _ (by
      rw [hq.q, hq.n, if_pos (Int.le_refl _)]
      by_cases z : wh = 0
      · rw [if_neg (by omega), if_neg (by omega)]
      · rw [if_pos z, if_pos z]))
    rw [this]
    by_cases z : wh = 0
    · rw [if_pos z, if_neg (by omega), e2]; exact AnC.v e1
    · rw [if_neg z, if_pos z, if_pos (frs_no _ (e3 (by omega)))]; exact AnC.v e1
  · have ho : s151_30 0 wh 0 0 w = some o := ho
    rw [hw] at ho
    rw [ho, if_neg (by omega), frs_yes hfe hall _ he, if_neg (by omega)]
    exact AnC.v hf
