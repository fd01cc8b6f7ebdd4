/-! the class's answers: crowds, corners to watch -/
def atS (Q : QT) (s : ST) (c : Nat) (j : Nat) : Nat := cn (atC Q c ((uT s).toNat + j)) 8
def crS (Q : QT) (s : ST) (j : Nat) (c : Nat) (a : Int × Int) : Int × Int := if a.2 < (atS Q s c j : Int) then ((j : Int) + 1, (atS Q s c j : Int)) else a
def crN (Q : QT) (s : ST) (k : Nat) : Int × Int := it (fun j a => it (crS Q s j) (zk Q) a) k (1, 0)
def aCrowd (Q : QT) (s : ST) (k : Int) : An := gdB 1 60 k (.inl (crN Q s k.toNat).1)
theorem c140 {w : Wd} {q : Nat} {Q : QT} {s : ST} {k : Int} (h : CQ w q Q s) : AnC w (F140 0 k w) (aCrowd Q s k) := by
  refine AnC.of (e140 h.H l0) (AnC.B h.H fun k0 k1 => ?_)
  have ht := h.t
  have hz := h.g.2.2.2.2.2
  obtain ⟨K, rfl, hK⟩ := toN (show 0 ≤ k by omega) (show k < 61 by omega)
  have e0 : gI w q 0 = zk Q := h.2.2.1.1
  have e7 : gI w (0 + 34) 7 = uT s := h.2.2.2.1.2.2.2.2.2.2.2
  obtain ⟨v, hv, e⟩ := lpR (F := fun j v => s140_15 0 K v.1 v.2 (j + 1) w) (I := fun j v => v = crN Q s j) K (fun j v hj e => by
    obtain ⟨u, hu, e1⟩ := lpR (F := fun c u => s140_24 0 K u.1 u.2 ((j : Int) + 1) c w) (I := fun c u => u = it (crS Q s j) c v) (zk Q) (fun c u hc e1 => by
      subst e1
      refine ⟨_, fun o ho => e140_24 h.H l0 _ ?_, rfl⟩
      have e2 : it (crS Q s j) (c + 1) v = if (it (crS Q s j) c v).2 < (atS Q s c j : Int) then ((j : Int) + 1, (atS Q s c j : Int)) else it (crS Q s j) c v := rfl
      rw [e2] at ho
      rw [h.q, e0, if_neg (by omega), h.q, e7, wrd (z := uT s + ((j : Int) + 1)) (by omega) (by omega), wrd (z := uT s + ((j : Int) + 1) - 1) (by omega) (by omega), show uT s + ((j : Int) + 1) - 1 = (((uT s).toNat + j : Nat) : Int) by omega, q37 h.H (lq h.1) h.g h.2.2.1 (by omega), bI_r h.H, wrd (z := (c : Int) + 1) (by omega) (by omega)]
      by_cases z : (it (crS Q s j) c v).2 < (atS Q s c j : Int)
      · rw [if_neg (by unfold atS at z; omega)]
        rw [if_pos z] at ho
        exact ho
      · rw [if_pos (by unfold atS at z; omega)]
        rw [if_neg z] at ho
        exact ho) v rfl
    refine ⟨_, fun o ho => e140_15 h.H l0 _ ?_, rfl⟩
    rw [if_neg (by omega)]
    refine hu _ (e140_24 h.H l0 _ ?_)
    rw [h.q, e0, if_pos (Int.le_refl _), wrd (by omega) (by omega), e1]
    subst e
    exact ho) (1, 0) rfl
  subst e
  have : s140_15 0 K 1 0 (0 + 1) w = rI (crN Q s K).1 w := hv _ (e140_15 h.H l0 _ (if_pos (by omega)))
  rw [show (0 : Int) + 1 = 1 from rfl] at this
  rw [this, nn]
  exact AnC.v FrC.rf
/-- the corners that one comes to -/
def vis (Q : QT) (s : ST) (p k c : Nat) : Bool := (List.range k).any (fun j => decide (ca Q s p j = c))
theorem vis_iff {Q : QT} {s : ST} {p k c : Nat} : vis Q s p k c = true ↔ ∃ j, j < k ∧ ca Q s p j = c := by
  unfold vis
  simp [List.any_eq_true]
theorem vis_s {Q : QT} {s : ST} {p k c : Nat} : vis Q s p (k + 1) c = (vis Q s p k c || decide (ca Q s p k = c)) := by
  unfold vis
  rw [List.range_succ, List.any_append]
  simp
/-- a walk begins anew behind its last corner -/
theorem vis_6 {w : Wd} {q : Nat} {Q : QT} {s : ST} {p c : Nat} (hQ : RQ w q Q) (hp : p < zn Q) (K : Nat) : vis Q s p (min K 6) c = vis Q s p K c := by
  obtain ⟨m, m1, m2, m3, m4⟩ := hQ.2.2.2.1 p hp
  apply Bool.eq_iff_iff.mpr
  rw [vis_iff, vis_iff]
  constructor
  · rintro ⟨j, hj, e⟩; exact ⟨j, by omega, e⟩
  · rintro ⟨j, hj, e⟩
    have hm := Nat.mod_lt j (show m > 0 by omega)
    have hle := Nat.mod_le j m
    refine ⟨j % m, by omega, ?_⟩
    rw [← e]
    unfold ca
    rw [← m4, ← m4]
    congr 2
    rw [Nat.add_mod, Nat.mod_mod, ← Nat.add_mod]
theorem q38 {w : Wd} {q : Nat} {Q : QT} {s : ST} {p K : Nat} (h : CQ w q Q s) (hp : p < zn Q) (hK : K ≤ 60) : F38 q p (uT s) K w = rI (mk (vis Q s p K) 8) w := by
  have ht := h.t
  have hg := h.g
  have hl := lq h.1
  obtain ⟨v, hv, e⟩ := lpR (F := fun k v => s38_6 q p (uT s) K v k w) (I := fun k v => v = mk (vis Q s p k) 8) (min K 6) (fun k v hk e => by
    subst e
    refine ⟨_, fun o ho => e38_6 h.H hl _ ?_, rfl⟩
    have hc := hg.2.1 p ((uT s).toNat + k)
    have hz := hg.2.2.2.2.2
    obtain ⟨c, hcc⟩ : ∃ c : Nat, zc Q p ((uT s).toNat + k) = c := ⟨(zc Q p ((uT s).toNat + k)).toNat, by omega⟩
    rw [if_neg (by omega), if_neg (by omega), wrd (z := uT s + (k : Int)) (by omega) (by omega), show uT s + (k : Int) = (((uT s).toNat + k : Nat) : Int) by omega, q35 h.H hl hg h.2.2.1 hp (by omega), bI_r h.H, hcc, mk_set (by omega), wrd (by omega) (by omega)]
    have em : mk (fun i => if i = c then true else vis Q s p k i) 8 = mk (vis Q s p (k + 1)) 8 := mk_congr (fun i hi => by
      rw [vis_s]
      have : ca Q s p k = c := hcc
      rw [this]
      by_cases z : i = c
      · simp [z]
      · rw [if_neg z]
        have : ¬ (c : Int) = i := by omega
        simp [this])
    rw [em]
    exact ho) 0 (by
      have : mk (vis Q s p 0) 8 = 0 := mk_eq0.mpr (fun i _ => rfl)
      exact this.symm)
  subst e
  have e6 : mk (vis Q s p (min K 6)) 8 = mk (vis Q s p K) 8 := mk_congr (fun i _ => vis_6 h.2.2.1 hp K)
  rw [e6] at hv
  refine e38 h.H hl _ (hv _ (e38_6 h.H hl _ ?_))
  by_cases z : K ≤ 6
  · rw [if_pos (by omega)]
  · rw [if_neg (by omega), if_pos (by omega)]
/-- whether a set of corners sees everyone -/
def sees (Q : QT) (s : ST) (K m : Nat) : Bool := (List.range (zn Q)).all (fun p => (List.range 8).any (fun c => m.testBit c && vis Q s p K c))
theorem sees_iff {Q : QT} {s : ST} {K m : Nat} : sees Q s K m = true ↔ ∀ p, p < zn Q → ∃ c, c < 8 ∧ m.testBit c = true ∧ vis Q s p K c = true := by
  unfold sees
  simp [List.all_eq_true, List.any_eq_true]
theorem mk_self {m : Nat} (hm : m < 256) : (m : Int) = mk (fun i => m.testBit i) 8 := by
  unfold mk
  congr 1
  apply nmk_ext
  intro i
  by_cases hi : i < 8
  · simp [hi]
  · rw [Nat.testBit_lt_two_pow (Nat.lt_of_lt_of_le hm (Nat.pow_le_pow_right (n := 2) (by omega) (show 8 ≤ i by omega)))]
    simp [hi]
theorem c143 {w : Wd} {q : Nat} {Q : QT} {s : ST} {m K : Nat} (h : CQ w q Q s) (hm : m < 256) (hK : K ≤ 60) : F143 0 m K w = rI (b2i (sees Q s K m)) w := by
  have h8 := h.n8
  have e7 : gI w (0 + 34) 7 = uT s := h.2.2.2.1.2.2.2.2.2.2.2
  have hX := lpX (F := fun p (_ : Unit) => s143_2 0 m K p w) (I := fun p _ => ∀ i, i < p → ∃ c, c < 8 ∧ m.testBit c = true ∧ vis Q s i K c = true) (Q := fun o => o = (.inl (some (.inl 0)), w) ∧ sees Q s K m = false) (zn Q) (fun p _ hp e => by
    have ea : bAnd (m : Int) (mk (vis Q s p K) 8) = mk (fun c => m.testBit c && vis Q s p K c) 8 := by
      rw [mk_self hm, mk_and (by omega)]
    by_cases z : mk (fun c => m.testBit c && vis Q s p K c) 8 = 0
    · refine Or.inr ⟨_, e143_2 h.H l0 _ ?_, rfl, ?_⟩
      · rw [h.q, h.n, if_neg (by omega), h.q, e7, q38 h hp hK, bI_r h.H, ea, z, if_neg (by omega)]
      · cases hs : sees Q s K m
        · rfl
        · obtain ⟨c, c1, c2, c3⟩ := sees_iff.mp hs p hp
          have := mk_eq0.mp z c c1
          simp [c2, c3] at this
    · refine Or.inl ⟨(), fun o ho => e143_2 h.H l0 _ ?_, fun i hi => ?_⟩
      · rw [h.q, h.n, if_neg (by omega), h.q, e7, q38 h hp hK, bI_r h.H, ea, if_pos z, wrd (by omega) (by omega)]
        exact ho
      · by_cases y : i = p
        · subst y
          apply Classical.byContradiction
          intro hn
          refine z (mk_eq0.mpr (fun c hc => ?_))
          cases h1 : m.testBit c <;> cases h2 : vis Q s i K c <;> simp
          exact hn ⟨c, hc, h1, h2⟩
        · exact e i (by omega)) () (fun i hi => absurd hi (Nat.not_lt_zero _))
  refine e143 h.H l0 _ ?_
  rcases hX with ⟨_, hu, e⟩ | ⟨o, ho, hw, hs⟩
  · rw [sees_iff.mpr e]
    exact hu _ (e143_2 h.H l0 _ (by rw [h.q, h.n, if_pos (Int.le_refl _)]; rfl))
  · rw [hs]
    rw [hw] at ho
    exact ho
/-- the best of the sets lo .. N-1: of as few the least -/
def best (P : Nat → Bool) (N lo b : Nat) : Prop := lo ≤ b ∧ b < N ∧ P b = true ∧ ∀ m, lo ≤ m → m < N → P m = true → tbN b < tbN m ∨ (tbN b = tbN m ∧ b ≤ m)
theorem best_u {P : Nat → Bool} {N b c : Nat} (h : best P N 0 b) (h' : best P N 0 c) : b = c := by
  obtain ⟨h1, h2, h3, h4⟩ := h
  obtain ⟨g1, g2, g3, g4⟩ := h'
  have := h4 c (by omega) g2 g3
  have := g4 b (by omega) h2 h3
  omega
/-- the least corners to watch, as an upward search over the sets -/
def wtS (P : Nat → Bool) (m : Nat) (b : Int) : Int := if b = -1 ∨ tbN m < tbN b.toNat then (if P m then (m : Int) else b) else b
def wt (P : Nat → Bool) (N : Nat) : Int := it (wtS P) N (-1)
theorem wt_ok {P : Nat → Bool} : ∀ N, (wt P N = -1 ∧ ∀ m, m < N → P m = false) ∨ ∃ b : Nat, wt P N = b ∧ best P N 0 b := by
  intro N
  induction N with
  | zero => exact Or.inl ⟨rfl, fun m h => absurd h (Nat.not_lt_zero _)⟩
  | succ N ih =>
    have e : wt P (N + 1) = wtS P N (wt P N) := rfl
    rw [e]
    unfold wtS
    rcases ih with ⟨h1, h2⟩ | ⟨b, h1, h2, h3, h4, h5⟩
    · rw [if_pos (Or.inl h1), h1]
      cases hP : P N
      · exact Or.inl ⟨by simp, fun m hm => by
          by_cases y : m = N
          · rw [y]; exact hP
          · exact h2 m (by omega)⟩
      · refine Or.inr ⟨N, by simp, by omega, by omega, hP, fun m _ hm hPm => ?_⟩
        by_cases y : m = N
        · subst y; exact Or.inr ⟨rfl, Nat.le_refl _⟩
        · rw [h2 m (by omega)] at hPm; cases hPm
    · rw [h1, nn]
      by_cases z : tbN N < tbN b
      · rw [if_pos (Or.inr z)]
        cases hP : P N
        · refine Or.inr ⟨b, by simp, h2, by omega, h4, fun m m0 hm hPm => ?_⟩
          by_cases y : m = N
          · subst y; rw [hP] at hPm; cases hPm
          · exact h5 m m0 (by omega) hPm
        · refine Or.inr ⟨N, by simp, by omega, by omega, hP, fun m m0 hm hPm => ?_⟩
          by_cases y : m = N
          · subst y; exact Or.inr ⟨rfl, Nat.le_refl _⟩
          · rcases h5 m m0 (by omega) hPm with q | q <;> (left; omega)
      · rw [if_neg (by
          intro q
          rcases q with q | q
          · omega
          · exact z q)]
        refine Or.inr ⟨b, rfl, h2, by omega, h4, fun m m0 hm hPm => ?_⟩
        by_cases y : m = N
        · subst y
          by_cases y2 : tbN b = tbN m
          · exact Or.inr ⟨y2, by omega⟩
          · left; omega
        · exact h5 m m0 (by omega) hPm
def aWatch (Q : QT) (s : ST) (k : Int) : An := gdB 1 60 k (.inl (wt (sees Q s k.toNat) (2 ^ zk Q)))
theorem tb_all : ∀ k : Nat, k ≤ 6 → tbN (2 ^ k - 1) = k ∧ ∀ m, m < 2 ^ k → tbN m ≤ k := by decide +kernel
theorem sees_all {Q : QT} {s : ST} {K : Nat} (hg : GQ Q) (hK : 1 ≤ K) : sees Q s K (2 ^ zk Q - 1) = true := by
  rw [sees_iff]
  intro p hp
  have hc := hg.2.1 p ((uT s).toNat + 0)
  have hz := hg.2.2.2.2.2
  obtain ⟨c, hcc⟩ : ∃ c : Nat, zc Q p ((uT s).toNat + 0) = c := ⟨(zc Q p ((uT s).toNat + 0)).toNat, by omega⟩
  refine ⟨c, by omega, ?_, vis_iff.mpr ⟨0, by omega, hcc⟩⟩
  rw [Nat.testBit_two_pow_sub_one]
  exact decide_eq_true (by omega)
theorem q320n {m : Nat} {w : Wd} (H : LR w) (hm : m < 256) : F320 m w = rI (tbN m : Nat) w := by
  rw [mk_self hm, q320 H]; rfl
theorem c142 {w : Wd} {q : Nat} {Q : QT} {s : ST} {k : Int} (h : CQ w q Q s) : AnC w (F142 0 k w) (aWatch Q s k) := by
  refine AnC.of (e142 h.H l0) (AnC.B h.H fun k0 k1 => ?_)
  have hz := h.g.2.2.2.2
  have e0 : gI w q 0 = zk Q := h.2.2.1.1
  obtain ⟨K, rfl, hK⟩ := toN (show 0 ≤ k by omega) (show k < 61 by omega)
  have hN : 4 ≤ 2 ^ zk Q ∧ 2 ^ zk Q ≤ 64 := ⟨Nat.pow_le_pow_right (n := 2) (by omega) hz.1, Nat.pow_le_pow_right (n := 2) (by omega) hz.2⟩
  obtain ⟨t1, t2⟩ := tb_all (zk Q) hz.2
  have hsa := sees_all (s := s) (K := K) h.g (by omega)
  rw [h.q, e0, bShl_1 (zk Q) (by omega), nn]
  generalize hNN : 2 ^ zk Q = N at *
  have ew : wr ((N : Int) - 1) = ((N - 1 : Nat) : Int) := by rw [wrd (by omega) (by omega)]; omega
  have ew2 : wr (((N - 1 : Nat) : Int) - 1) = ((N - 1 : Nat) : Int) - 1 := by rw [wrd (by omega) (by omega)]
  rw [ew, ew2]
  obtain ⟨b, hb, e⟩ := lpR (F := fun j b => s142_24 0 K b (((N - 1 : Nat) : Int) - 1 - j) w) (I := fun j b => ∃ c : Nat, b = c ∧ best (sees Q s K) N (N - 1 - j) c) (N - 1) (fun j b hj e => by
    obtain ⟨c, rfl, c1, c2, c3, c4⟩ := e
    obtain ⟨m, hm⟩ : ∃ m : Nat, ((N - 1 : Nat) : Int) - 1 - (j : Int) = m ∧ m = N - 1 - 1 - j := ⟨N - 1 - 1 - j, by omega, rfl⟩
    have hstep : wr ((m : Int) + -1) = ((N - 1 : Nat) : Int) - 1 - ((j + 1 : Nat) : Int) := by rw [wrd (by omega) (by omega)]; omega
    -- the new best
    by_cases z : tbN m ≤ tbN c ∧ sees Q s K m = true
    · refine ⟨m, fun o ho => e142_24 h.H l0 _ ?_, m, rfl, by omega, by omega, z.2, fun m' l1 l2 l3 => ?_⟩
      · rw [hm.1, if_neg (by omega), q320n h.H (by omega), bI_r h.H, q320n h.H (by omega), bI_r h.H, if_neg (by omega)]
        refine e142_44 h.H l0 _ ?_
        rw [if_neg (by omega), c143 h (by omega) (by omega), bI_r h.H, if_neg (by rw [z.2]; decide), hstep]
        exact ho
      · by_cases y : m' = m
        · subst y; exact Or.inr ⟨rfl, Nat.le_refl _⟩
        · rcases c4 m' (by omega) l2 l3 with q | q
          · left; omega
          · by_cases y2 : tbN m = tbN m'
            · exact Or.inr ⟨y2, by omega⟩
            · left; omega
    · refine ⟨c, fun o ho => e142_24 h.H l0 _ ?_, c, rfl, by omega, c2, c3, fun m' l1 l2 l3 => ?_⟩
      · rw [hm.1, if_neg (by omega), q320n h.H (by omega), bI_r h.H, q320n h.H (by omega), bI_r h.H]
        by_cases y : tbN c < tbN m
        · rw [if_pos (by omega)]
          refine e142_44 h.H l0 _ ?_
          rw [if_pos rfl, hstep]
          exact ho
        · rw [if_neg (by omega)]
          refine e142_44 h.H l0 _ ?_
          have : sees Q s K m = false := by
            cases hs : sees Q s K m
            · rfl
            · exact absurd ⟨by omega, hs⟩ z
          rw [if_neg (by omega), c143 h (by omega) (by omega), bI_r h.H, if_pos (by rw [this]; rfl), hstep]
          exact ho
      · by_cases y : m' = m
        · subst y
          by_cases y2 : tbN c < tbN m'
          · exact Or.inl y2
          · exact absurd ⟨by omega, l3⟩ z
        · exact c4 m' (by omega) l2 l3) ((N - 1 : Nat) : Int) ⟨N - 1, rfl, by omega, by omega, hsa, fun m l1 l2 l3 => Or.inr (by
      have : m = N - 1 := by omega
      rw [this]; exact ⟨rfl, Nat.le_refl _⟩)⟩
  obtain ⟨c, rfl, hc⟩ := e
  rw [show N - 1 - (N - 1) = 0 by omega] at hc
  have ec : wt (sees Q s K) N = c := by
    rcases wt_ok (P := sees Q s K) N with ⟨g1, g2⟩ | ⟨b, g1, g2⟩
    · have hz3 := hc.2.2.1
      rw [g2 c hc.2.1] at hz3; cases hz3
    · rw [g1, best_u g2 hc]
  have : s142_24 0 K ((N - 1 : Nat) : Int) (((N - 1 : Nat) : Int) - 1 - 0) w = rI c w := hb _ (e142_24 h.H l0 _ (if_pos (by omega)))
  rw [Int.sub_zero] at this
  rw [this, ec]
  exact AnC.v FrC.rf
