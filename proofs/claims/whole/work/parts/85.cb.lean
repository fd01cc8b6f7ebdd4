/-! the class's scanner: all tokens ahead -/
/-- the first c tokens are laid -/
def TL (v : Wd) (T : Row) (n c : Nat) : Prop := ∀ i, i < c → gI v 14 i = KT T n i ∧ gI v 15 i = sT T n i ∧ (KT T n i = 1 → gI v 16 i = VT T n i)
theorem l13 : (lay 13).1 = 9 := by rfl
theorem q95 {w : Wd} {c : Nat} {k p v : Int} (H : LR w) (h3 : gI w 13 3 = c) (hc : c < 701) : ∃ w', F95 13 k p v w = r0 w' ∧ gI w' 13 3 = ((c + 1 : Nat) : Int) ∧ (gI w' 14 c = k ∧ gI w' 15 c = p ∧ gI w' 16 c = v) ∧ (∀ i, i ≠ c → gI w' 14 i = gI w 14 i ∧ gI w' 15 i = gI w 15 i ∧ gI w' 16 i = gI w 16 i) ∧ FrI (fun b => 13 ≤ b ∧ b ≤ 16) w w' := by
  have e1 : gI (pI w (13 + 1) c k) 13 3 = c := by rw [gI_r (by decide)]; exact h3
  have e2 : gI (pI (pI w (13 + 1) c k) (13 + 2) c p) 13 3 = c := by rw [gI_r (by decide)]; exact e1
  have e3 : gI (pI (pI (pI w (13 + 1) c k) (13 + 2) c p) (13 + 3) c v) 13 3 = c := by rw [gI_r (by decide)]; exact e2
  refine ⟨pI (pI (pI (pI w 14 c k) 15 c p) 16 c v) 13 3 ((c + 1 : Nat) : Int), e95 H l13 _ ?_, gI_s, ⟨?_, ?_, ?_⟩, fun i hi => ⟨?_, ?_, ?_⟩, (((FrI.p (A := fun b => 13 ≤ b ∧ b ≤ 16) (by omega)).pp (by omega)).pp (by omega)).pp (by omega)⟩
  · rw [h3, if_neg (by omega), if_neg (by omega), gdi (by omega) (by omega), nn, e1, gdi (by omega) (by omega), nn, e2, gdi (by omega) (by omega), nn, e3, wrs (by omega)]
  · rw [gI_r (by decide), gI_r (by decide), gI_r (by decide), gI_s]
  · rw [gI_r (by decide), gI_r (by decide), gI_s]
  · rw [gI_r (by decide), gI_s]
  · rw [gI_r (by decide), gI_r (by decide), gI_r (by decide), gI_c hi]
  · rw [gI_r (by decide), gI_r (by decide), gI_c hi, gI_r (by decide)]
  · rw [gI_r (by decide), gI_c hi, gI_r (by decide), gI_r (by decide)]
/-- the end of a token -/
theorem q94e {w : Wd} {T : Row} {n p k : Nat} (H : LR w) (h : TX w T n) (hp : p < n) (hk : (if isD (T p) then true else isLt (T p)) = true) : Rf (s94_77 13 1 n p k (T p) (eT T n p) w) (s94_51 13 1 n p k (T p) ((p : Int) + 1) w) := by
  have hn := h.1
  have hP : eT T n p = rn (fun d => if isD (T p) then isD d else isLt d) T n (p + 1) := by
    unfold eT
    cases d : isD (T p)
    · rw [d] at hk
      have hl : isLt (T p) = true := hk
      rw [if_neg (by decide), if_pos hl]
      rfl
    · rw [if_pos rfl]; rfl
  have hb := rn_b (P := fun d => if isD (T p) then isD d else isLt d) (T := T) (show p + 1 ≤ n by omega)
  rw [← hP] at hb
  obtain ⟨b1, b2, b3, b4⟩ := hb
  have ex : ∀ j : Nat, (p : Int) + 1 + (j : Int) = ((p + 1 + j : Nat) : Int) := fun j => by omega
  obtain ⟨_, hu, -⟩ := lpR (F := fun j (_ : Unit) => s94_51 13 1 n p k (T p) ((p : Int) + 1 + j) w) (I := fun _ _ => True) (eT T n p - (p + 1)) (fun j _ hj _ => ⟨(), fun o ho => e94_51 H l13 l1B _ (by
    have hd := b4 (p + 1 + j) (by omega) (by omega)
    have hd : (if isD (T p) then isD (T (p + 1 + j)) else isLt (T (p + 1 + j))) = true := hd
    have ho : s94_51 13 1 n p k (T p) ((p : Int) + 1 + ((j + 1 : Nat) : Int)) w = some o := ho
    rw [ex (j + 1)] at ho
    rw [ex j, if_neg (by omega), q96 H h (by omega), bI_r H, q99 H, bI_r H, hd, if_neg (by decide), wrs (by omega)]
    exact ho), trivial⟩) () trivial
  intro o ho
  have := hu o
  rw [ex, show p + 1 + (eT T n p - (p + 1)) = eT T n p by omega, Int.add_zero] at this
  refine this (e94_51 H l13 l1B _ ?_)
  by_cases z : n ≤ eT T n p
  · rw [if_pos (by omega)]; exact ho
  · have hd := b3 (by omega)
    have hd : (if isD (T p) then isD (T (eT T n p)) else isLt (T (eT T n p))) = false := hd
    rw [if_neg (by omega), q96 H h (by omega), bI_r H, q99 H, bI_r H, hd, if_pos (by decide)]
    exact ho
theorem KT_at {T : Row} {n c : Nat} : kT T n (sT T n c) = KT T n c := rfl
theorem KT_1 {T : Row} {n c : Nat} (h : KT T n c = 1) : (∀ i, sT T n c ≤ i → i < eT T n (sT T n c) → isD (T i) = true) ∧ eT T n (sT T n c) - sT T n c ≤ 4 := by
  obtain ⟨h1, h2, h3⟩ := KT_num (Or.inl h)
  have e : eT T n (sT T n c) = rn isD T n (sT T n c + 1) := by unfold eT; rw [if_pos h2]
  have hb := rn_b (P := isD) (T := T) (show sT T n c + 1 ≤ n by omega)
  rw [← e] at hb
  refine ⟨fun i i1 i2 => ?_, ?_⟩
  · by_cases z : i = sT T n c
    · rw [z]; exact h2
    · exact hb.2.2.2 i (by omega) i2
  · apply Classical.byContradiction
    intro y
    have := h3.mpr (by omega)
    omega
/-- one token more -/
theorem q94t {w : Wd} {T : Row} {n c k : Nat} (H : LR w) (h : TX w T n) (hc : sT T n c < n) (hc7 : c < 701) (h3 : gI w 13 3 = c) (hL : TL w T n c) (hk : k < 700) :
    ∃ w', Rf (s94_10 13 1 n (eT T n (sT T n c)) ((k + 1 : Nat) : Int) w') (s94_10 13 1 n (sT T n c) k w) ∧ gI w' 13 3 = ((c + 1 : Nat) : Int) ∧ TL w' T n (c + 1) ∧ FrI (fun b => 13 ≤ b ∧ b ≤ 16) w w' := by
  have hn := h.1
  obtain ⟨p, hp⟩ : ∃ p, p = sT T n c := ⟨_, rfl⟩
  rw [← hp]
  rw [← hp] at hc
  have hb := eT_b (T := T) hc
  have hbl := sT_nb (T := T) (n := n) c (by rw [← hp]; exact hc)
  rw [← hp] at hbl
  unfold isBl at hbl
  rw [Bool.or_eq_false_iff, decide_eq_false_iff_not, decide_eq_false_iff_not] at hbl
  obtain ⟨v, v1, v2⟩ := q102 H h hb.1 hb.2
  obtain ⟨w', a1, a2, ⟨a3, a4, a5⟩, a6, a7⟩ := q95 (k := kT T n p) (p := p) (v := v) H h3 hc7
  have tail : Rf (s94_10 13 1 n (eT T n p) ((k + 1 : Nat) : Int) w') (s94_77 13 1 n p k (T p) (eT T n p) w) := by
    intro o ho
    refine e94_77 H l13 l1B _ ?_
    rw [if_neg hbl.1, if_neg hbl.2, q100 H h hc, bI_r H, v1, bI_r H, a1, b0_r (a7.LR H), wrs (by omega)]
    exact ho
  refine ⟨w', fun o ho => e94_10 H l13 l1B _ ?_, a2, fun i hi => ?_, a7⟩
  · rw [if_neg (by omega), if_neg (by omega), q96 H h hc, bI_r H, q97 H, bI_r H, wrd (z := (p : Int) + 1) (by omega) (by omega)]
    cases d : isD (T p)
    · rw [if_neg (by decide), q98 H, bI_r H]
      cases l : isLt (T p)
      · rw [if_pos (by decide)]
        have ee : eT T n p = p + 1 := by unfold eT; rw [d, l]; rfl
        have t := tail o ho
        rw [ee] at t
        exact t
      · rw [if_neg (by decide)]
        exact q94e H h hc (by rw [d]; exact l) o (tail o ho)
    · rw [if_pos (by decide)]
      exact q94e H h hc (by rw [d]; rfl) o (tail o ho)
  · by_cases z : i = c
    · subst z
      rw [a3, a4, a5, hp]
      refine ⟨rfl, rfl, fun h1 => ?_⟩
      obtain ⟨d1, d2⟩ := KT_1 h1
      rw [← hp] at d1 d2
      rw [v2 d1 d2]
      unfold VT
      rw [← hp]
    · obtain ⟨x1, x2, x3⟩ := a6 i z
      rw [x1, x2, x3]
      exact hL i (by omega)
theorem rn_bl {T : Row} {n p : Nat} (h : p < n) (hb : isBl (T p) = true) : rn isBl T n (p + 1) = rn isBl T n p := (rn_y h hb).symm
/-- the tokens are laid, so many -/
def TG (v : Wd) (T : Row) (n M : Nat) : Prop := gI v 13 3 = ((M + 1 : Nat) : Int) ∧ TL v T n (M + 1) ∧ KT T n M = 0 ∧ ∀ i, i < M → KT T n i ≠ 0
theorem q94f {v : Wd} {T : Row} {n c k at' : Nat} (H : LR v) (hn : n ≤ 700) (i2 : at' = n) (i3 : rn isBl T n at' = sT T n c) (i4 : gI v 13 3 = c) (i5 : TL v T n c) (i6 : ∀ i, i < c → sT T n i < n) : ∃ w', s94_119 13 1 n at' k v = r0 w' ∧ TG w' T n c ∧ FrI (fun b => 13 ≤ b ∧ b ≤ 16) v w' := by
  subst i2
  rw [rn_o (Nat.le_refl _)] at i3
  have hc : c ≤ 700 := by
    apply Classical.byContradiction
    intro y
    have h1 := i6 700 (by omega)
    have h2 := sT_j (T := T) 700 h1
    omega
  obtain ⟨w', a1, a2, ⟨a3, a4, a5⟩, a6, a7⟩ := q95 (k := 0) (p := at') (v := 0) H i4 (by omega)
  have hk0 : KT T at' c = 0 := by rw [KT_0, ← i3]; exact Nat.le_refl _
  refine ⟨w', e94_119 H l13 l1B _ ?_, ⟨a2, fun i hi => ?_, hk0, fun i hi => ?_⟩, a7⟩
  · rw [a1, b0_r (a7.LR H)]
  · by_cases z : i = c
    · subst z
      rw [a3, a4, hk0, ← i3]
      exact ⟨rfl, rfl, fun h1 => absurd h1 (by decide)⟩
    · obtain ⟨x1, x2, x3⟩ := a6 i z
      rw [x1, x2, x3]
      exact i5 i (by omega)
  · rw [ne_eq, KT_0]
    have := i6 i hi
    omega
theorem q94 {w : Wd} {T : Row} {n : Nat} (H : LR w) (h : TX w T n) : ∃ w' M, F94 13 1 n w = r0 w' ∧ TG w' T n M ∧ FrI (fun b => 13 ≤ b ∧ b ≤ 16) w w' := by
  have hn := h.1
  have f0 : FrI (fun b => 13 ≤ b ∧ b ≤ 16) w (pI w 13 3 0) := FrI.p (by omega)
  have hX := lpX (F := fun k (u : Nat × Wd) => s94_10 13 1 n u.1 k u.2) (I := fun k u => ∃ c, k ≤ u.1 ∧ u.1 ≤ n ∧ rn isBl T n u.1 = sT T n c ∧ gI u.2 13 3 = c ∧ TL u.2 T n c ∧ (∀ i, i < c → sT T n i < n) ∧ FrI (fun b => 13 ≤ b ∧ b ≤ 16) w u.2) (Q := fun o => ∃ w' M, o = (.inl none, w') ∧ TG w' T n M ∧ FrI (fun b => 13 ≤ b ∧ b ≤ 16) w w') 700 (fun k u hk i => by
    obtain ⟨at', v⟩ := u
    obtain ⟨c, i1, i2, i3, i4, i5, i6, i7⟩ := i
    have i1 : k ≤ at' := i1
    have i2 : at' ≤ n := i2
    have i3 : rn isBl T n at' = sT T n c := i3
    have i4 : gI v 13 3 = c := i4
    have HV := i7.LR H
    have hx : TX v T n := h.fr i7 (by omega)
    by_cases z : n ≤ at'
    · obtain ⟨w', j1, j2, j3⟩ := q94f (k := k) HV hn (Nat.le_antisymm i2 z) i3 i4 i5 i6
      refine Or.inr ⟨_, e94_10 HV l13 l1B _ ?_, w', c, rfl, j2, i7.tr j3⟩
      dsimp only
      rw [if_neg (by omega), if_pos (by omega)]
      exact j1
    · have ha : at' < n := by omega
      by_cases b : isBl (T at') = true
      · refine Or.inl ⟨(at' + 1, v), fun o ho => e94_10 HV l13 l1B _ ?_, c, by show k + 1 ≤ at' + 1; omega, by show at' + 1 ≤ n; omega, by show rn isBl T n (at' + 1) = sT T n c; rw [rn_bl ha b]; exact i3, i4, i5, i6, i7⟩
        have ho : s94_10 13 1 n ((at' + 1 : Nat) : Int) ((k + 1 : Nat) : Int) v = some o := ho
        have hb : T at' = 32 ∨ T at' = 10 := by
          unfold isBl at b
          simpa using b
        have hd : isD (T at') = false ∧ isLt (T at') = false := by
          unfold isD isLt
          rcases hb with y | y <;> rw [y] <;> decide
        have key : s94_77 13 1 n at' k (T at') ((at' + 1 : Nat) : Int) v = some o := by
          refine e94_77 HV l13 l1B _ ?_
          rcases hb with y | y
          · rw [if_pos y, wrs (by omega)]; exact ho
          · rw [if_neg (by rw [y]; decide), if_pos y, wrs (by omega)]; exact ho
        dsimp only
        rw [if_neg (by omega), if_neg (by omega), q96 HV hx ha, bI_r HV, q97 HV, bI_r HV, hd.1, if_neg (by decide), q98 HV, bI_r HV, hd.2, if_pos (by decide), wrs (by omega)]
        exact key
      · have b : isBl (T at') = false := by simpa using b
        have e3 : at' = sT T n c := by rw [← i3, rn_n ha b]
        have hc : sT T n c < n := by rw [← e3]; exact ha
        have hcj := sT_j (T := T) c hc
        have hb := eT_b (T := T) hc
        obtain ⟨w', a1, a2, a3, a4⟩ := q94t (k := k) HV hx hc (by omega) i4 i5 hk
        refine Or.inl ⟨(eT T n (sT T n c), w'), ?_, c + 1, by show k + 1 ≤ eT T n (sT T n c); omega, hb.2, (sT_s hc).symm, a2, a3, fun i hi => ?_, i7.tr a4⟩
        · dsimp only
          rw [e3]; exact a1
        · by_cases y : i = c
          · rw [y]; exact hc
          · exact i6 i (by omega)) (0, pI w 13 3 0) ⟨0, Nat.le_refl _, Nat.zero_le _, rfl, gI_s, fun i hi => absurd hi (Nat.not_lt_zero _), fun i hi => absurd hi (Nat.not_lt_zero _), f0⟩
  rcases hX with ⟨⟨at', v⟩, hv, c, i1, i2, i3, i4, i5, i6, i7⟩ | ⟨o, ho, w', M, h1, h2, h3⟩
  · have i1 : 700 ≤ at' := i1
    have i2 : at' ≤ n := i2
    have HV := i7.LR H
    obtain ⟨w', j1, j2, j3⟩ := q94f (k := 700) HV hn (by omega) i3 i4 i5 i6
    refine ⟨w', c, e94 H l13 l1B _ (hv _ (e94_10 HV l13 l1B _ ?_)), j2, i7.tr j3⟩
    rw [if_pos (by decide)]
    exact j1
  · refine ⟨w', M, e94 H l13 l1B _ ?_, h2, h3⟩
    rw [h1] at ho
    exact ho
