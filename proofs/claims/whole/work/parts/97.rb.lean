/-! the reference reads rules: what its readers are made of -/
def sgR (S : Bool) : Nat := if S then 485 else 484
def tix (S : Bool) : Nat := if S then 9 else 8
def vaR (S : Bool) : Nat := if S then 476 else 475
theorem l474 : lay 474 = (24, 2) ∧ lay 475 = (24, 5) ∧ lay 476 = (24, 7) := by decide +kernel
/-- the rows of words -/
def WDm (w : Wd) : Prop := (∀ i, i < 2 → gR w 474 i = some (STR + (7 + i))) ∧ (∀ i, i < 5 → gR w 475 i = some (STR + (9 + i))) ∧ ∀ i, i < 7 → gR w 476 i = some (STR + (9 + i))
/-- where the reader stands: the fault, the token -/
def BM (T : Row) (n M : Nat) (w : Wd) (f : Int) (j : Nat) : Prop := (f = 0 → gI w 473 24 = 0 ∧ MK w T n j) ∧ (f ≠ 0 → gI w 473 24 = f ∧ gI w 473 25 = sT T n j) ∧ j ≤ M
theorem BM.ext {T : Row} {n M : Nat} {w w' : Wd} {f : Int} {j : Nat} (h : BM T n M w f j) (e : ∀ i, i = 18 ∨ (20 ≤ i ∧ i ≤ 25) → gI w' 473 i = gI w 473 i) : BM T n M w' f j := by
  obtain ⟨h1, h2, h3⟩ := h
  refine ⟨fun z => ⟨by rw [e 24 (by omega)]; exact (h1 z).1, (h1 z).2.ext (fun i hi => e i (by omega))⟩, fun z => ?_, h3⟩
  rw [e 24 (by omega), e 25 (by omega)]
  exact h2 z
/-- the reference's reader of a rule stands so -/
def RMx (T : Row) (n M : Nat) (S : Bool) (w : Wd) (b : Nat) (x : PZ) : Prop := XT w T n ∧ WDm w ∧ (gI w 473 27 = b2i S ∧ gR w 473 3 = some (vaR S)) ∧ BM T n M w x.1 x.2.1 ∧
  (x.1 = 0 → x.2.2.1 + b ≤ x.2.1 ∧ gI w 477 (tix S) = x.2.2.1 ∧ ∀ i, i < x.2.2.1 → ec (gI w (sgR S) (700 + i)) = x.2.2.2 i)
def FrG (S : Bool) (w w' : Wd) : Prop := FrI (fun c => c = 473 ∨ c = 477 ∨ c = sgR S) w w' ∧ (∀ i, ¬ (A5 i ∨ i = 24 ∨ i = 25) → gI w' 473 i = gI w 473 i) ∧ (∀ i, i ≠ tix S → gI w' 477 i = gI w 477 i) ∧ ∀ i, i < 700 → gI w' (sgR S) i = gI w (sgR S) i
theorem FrG.rf {S : Bool} {w : Wd} : FrG S w w := ⟨FrI.rf, fun _ _ => rfl, fun _ _ => rfl, fun _ _ => rfl⟩
theorem FrG.tr {S : Bool} {a b c : Wd} (h : FrG S a b) (h' : FrG S b c) : FrG S a c := ⟨h.1.tr h'.1, fun i q => (h'.2.1 i q).trans (h.2.1 i q), fun i q => (h'.2.2.1 i q).trans (h.2.2.1 i q), fun i q => (h'.2.2.2 i q).trans (h.2.2.2 i q)⟩
theorem sgR_c (S : Bool) : sgR S = 484 ∨ sgR S = 485 := by cases S; exact Or.inl rfl; exact Or.inr rfl
theorem Fr5.G {S : Bool} {w w' : Wd} (h : Fr5 w w') : FrG S w w' := by
  have := sgR_c S
  exact ⟨h.1.wk (fun c hc => Or.inl hc), fun i hi => h.2 i (fun z => hi (Or.inl z)), fun i _ => by rw [h.1.g (by decide)], fun i _ => by rw [h.1.g (by omega)]⟩
section RB
variable {T : Row} {n M : Nat} {S : Bool} {w : Wd} {b : Nat} {x : PZ}
theorem RMx.wk {c : Nat} (h : RMx T n M S w b x) (hc : c ≤ b) : RMx T n M S w c x := by
  obtain ⟨h1, h2, h3, h4, h5⟩ := h
  exact ⟨h1, h2, h3, h4, fun z => ⟨by have := (h5 z).1; omega, (h5 z).2⟩⟩
theorem RMx.bad {c : Nat} (h : RMx T n M S w b x) (hx : x.1 ≠ 0) : RMx T n M S w c x := by
  obtain ⟨h1, h2, h3, h4, h5⟩ := h
  exact ⟨h1, h2, h3, h4, fun z => absurd z hx⟩
theorem RMx.H (h : RMx T n M S w b x) : LR w := h.1.1
theorem RMx.b0 (h : RMx T n M S w b x) (z : x.1 = 0) : gI w 473 24 = 0 := (h.2.2.2.1.1 z).1
theorem RMx.b1 (h : RMx T n M S w b x) (z : x.1 ≠ 0) : gI w 473 24 ≠ 0 := by rw [(h.2.2.2.1.2.1 z).1]; exact z
theorem RMx.m (h : RMx T n M S w b x) (z : x.1 = 0) : MK w T n x.2.1 := (h.2.2.2.1.1 z).2
theorem XT.ext {w' : Wd} (h : XT w T n) (H : LR w') (e1 : gI w' 473 19 = gI w 473 19) (e2 : gI w' 488 = gI w 488) : XT w' T n := ⟨H, e1.trans h.2.1, h.2.2.1, fun i hi => by rw [e2]; exact h.2.2.2.1 i hi, h.2.2.2.2⟩
theorem WDm.ext {w' : Wd} (h : WDm w) (e : ∀ c, 474 ≤ c → c ≤ 476 → gR w' c = gR w c) : WDm w' := by
  unfold WDm
  rw [e 474 (by decide) (by decide), e 475 (by decide) (by decide), e 476 (by decide) (by decide)]
  exact h
theorem y186 {c : Int} (h : RMx T n M S w b x) (hc : c ≠ 0) : ∃ w', F186 473 c w = r0 w' ∧ RMx T n M S w' b (pFl c x) ∧ FrG S w w' := by
  have h0 := h
  obtain ⟨h1, h2, h3, h4, h5⟩ := h
  have hs := sgR_c S
  by_cases z : x.1 = 0
  · rw [pFl_0 z]
    have e22 : gI (pI w 473 24 c) 473 22 = sT T n x.2.1 := by rw [gI_c (by decide)]; exact (h0.m z).1
    refine ⟨pI (pI w 473 24 c) 473 25 (sT T n x.2.1), e186 h0.H l473 _ (by rw [h0.b0 z, if_pos rfl, e22]), ⟨h1.ext h1.1 (by rw [gI_c (by decide), gI_c (by decide)]) (by rw [gI_r (by decide), gI_r (by decide)]), h2, ⟨by rw [gI_c (by decide), gI_c (by decide)]; exact h3.1, h3.2⟩, ⟨fun y => absurd y hc, fun _ => ⟨by rw [gI_c (by decide), gI_s], gI_s⟩, h4.2.2⟩, fun y => absurd y hc⟩, ?_⟩
    exact ⟨(FrI.p (A := fun c => c = 473 ∨ c = 477 ∨ c = sgR S) (Or.inl rfl)).pp (Or.inl rfl), fun i hi => by rw [gI_c (fun e => hi (Or.inr (Or.inr e))), gI_c (fun e => hi (Or.inr (Or.inl e)))], fun i _ => by rw [gI_r (by decide), gI_r (by decide)], fun i _ => by rw [gI_r (by omega), gI_r (by omega)]⟩
  · rw [pFl_n z]
    exact ⟨w, e186 h0.H l473 _ (if_neg (h0.b1 z)), h0, FrG.rf⟩
theorem y185x (hT : TK (KT T n) (VT T n) M) (h : RMx T n M S w b x) (z : x.1 = 0) (hk : KT T n x.2.1 ≠ 0) : ∃ w', F185 473 w = r0 w' ∧ RMx T n M S w' (b + 1) (pGo x) ∧ FrG S w w' := by
  have h0 := h
  obtain ⟨h1, h2, h3, h4, h5⟩ := h
  have hs := sgR_c S
  have hj := hT.lt hk
  obtain ⟨w', a1, a2, a3⟩ := y185s h1 (h0.m z) hk
  rw [pGo_0 z]
  refine ⟨w', a1, ⟨h1.fr a3, h2.ext (fun c _ _ => by rw [a3.1.R]), ⟨by rw [a3.2 27 (by unfold A5; omega)]; exact h3.1, by rw [a3.1.R]; exact h3.2⟩, ⟨fun _ => ⟨by rw [a3.2 24 (by unfold A5; omega)]; exact h0.b0 z, a2⟩, fun y => absurd rfl y, by show x.2.1 + 1 ≤ M; omega⟩, fun _ => ?_⟩, a3.G⟩
  obtain ⟨c1, c2, c3⟩ := h5 z
  refine ⟨by show x.2.2.1 + (b + 1) ≤ x.2.1 + 1; omega, ?_, fun i hi => ?_⟩
  · rw [a3.1.g (by decide)]; exact c2
  · rw [a3.1.g (by omega)]; exact c3 i hi
theorem y193 {g : Int} (hT : TK (KT T n) (VT T n) M) (h : RMx T n M S w (b + 1) x) : ∃ w', F193 473 g w = r0 w' ∧ RMx T n M S w' b (pAd (ec g) x) ∧ FrG S w w' := by
  have h0 := h
  obtain ⟨h1, h2, h3, h4, h5⟩ := h
  have hM := hT.1
  have hs := sgR_c S
  by_cases z : x.1 = 0
  · rw [pAd_0 z]
    obtain ⟨c1, c2, c3⟩ := h5 z
    have hjM := h4.2.2
    have e8 : wr (5 + 3) = ((8 : Nat) : Int) := by decide
    have e9 : wr (5 + 4) = ((9 : Nat) : Int) := by decide
    have ls : lay (sgR S) = (21, 1400) := by cases S <;> decide +kernel
    have e1 : wr (700 + gI w 477 (tix S)) = ((700 + x.2.2.1 : Nat) : Int) := by rw [c2, wrd (by omega) (by omega)]; omega
    have ht : tix S < 10 := by cases S <;> decide
    have e2 : gI (pI w (sgR S) (700 + x.2.2.1) g) 477 (tix S) = (x.2.2.1 : Int) := by rw [gI_r (by omega)]; exact c2
    have key : s193_41 473 g ((tix S : Nat) : Int) (sgR S) w = r0 (pI (pI w (sgR S) (700 + x.2.2.1) g) 477 (tix S) ((x.2.2.1 + 1 : Nat) : Int)) := by
      refine e193_41 h0.H l473 ls _ ?_
      rw [gdi (by omega) (by omega), nn, show (473 + 4 : Nat) = 477 from rfl, e1, gdi (by omega) (by omega), gdi (by omega) (by omega), gdi (by omega) (by omega), nn, e2, wrs (by omega)]
    refine ⟨pI (pI w (sgR S) (700 + x.2.2.1) g) 477 (tix S) ((x.2.2.1 + 1 : Nat) : Int), e193 h0.H l473 _ ?_, ⟨h1.ext h1.1 (by rw [gI_r (by decide), gI_r (by omega)]) (by rw [gI_r (by decide), gI_r (by omega)]), h2, ⟨by rw [gI_r (by decide), gI_r (by omega)]; exact h3.1, h3.2⟩, h4.ext (fun i _ => by rw [gI_r (by decide), gI_r (by omega)]) |> fun hh => ⟨fun _ => hh.1 z, fun y => absurd rfl y, hh.2.2⟩, fun _ => ⟨by show x.2.2.1 + 1 + b ≤ x.2.1; omega, gI_s, fun i hi => ?_⟩⟩, ?_⟩
    · rw [h0.b0 z, if_pos rfl, h3.1]
      cases S
      · rw [if_pos (show b2i false = 0 from rfl), if_pos (show b2i false = 0 from rfl), e8]
        exact key
      · rw [if_neg (show ¬ b2i true = 0 by decide), if_neg (show ¬ b2i true = 0 by decide), e9]
        exact key
    · have hi : i < x.2.2.1 + 1 := hi
      show ec _ = va_up x.2.2.2 x.2.2.1 (ec g) i
      rw [gI_r (by omega)]
      by_cases y : i = x.2.2.1
      · subst y; rw [gI_s, up_s]
      · rw [gI_c (by omega), up_c y]; exact c3 i (by omega)
    · exact ⟨(FrI.p (A := fun c => c = 473 ∨ c = 477 ∨ c = sgR S) (Or.inr (Or.inr rfl))).pp (Or.inr (Or.inl rfl)), fun i hi => by rw [gI_r (by decide), gI_r (by omega)], fun i hi => by rw [gI_c hi, gI_r (by omega)], fun i hi => by rw [gI_r (by omega), gI_c (by omega)]⟩
  · rw [pAd_n z]
    exact ⟨w, e193 h0.H l473 _ (if_neg (h0.b1 z)), h0.bad z, FrG.rf⟩
/-! signs -/
theorem KT_sg {c : Int} {j : Nat} (hc : isSg c = true) : KT T n j = c ↔ (tkT (KT T n j) = 3 ∧ sT T n j < n ∧ T (sT T n j) = c) := by
  have hc' := isSg_in hc
  unfold KT
  by_cases z : sT T n j < n
  · by_cases d : isD (T (sT T n j)) = true
    · have h1 := tkT_d z d
      constructor
      · intro h
        rw [h] at h1
        have := h1.1
        unfold tkT at this
        rw [if_neg (by omega), if_neg (by omega), if_neg (by omega), if_neg (by omega)] at this
        exact absurd this (by decide)
      · rintro ⟨h2, -, -⟩
        rw [h1.1] at h2; exact absurd h2 (by decide)
    · have d : isD (T (sT T n j)) = false := by simpa using d
      by_cases l : isLt (T (sT T n j)) = true
      · have h1 := tkT_l z d l
        constructor
        · intro h
          rw [h] at h1
          have := h1.1
          unfold tkT at this
          rw [if_neg (by omega), if_neg (by omega), if_neg (by omega), if_neg (by omega)] at this
          exact absurd this (by decide)
        · rintro ⟨h2, -, -⟩
          rw [h1.1] at h2; exact absurd h2 (by decide)
      · have l : isLt (T (sT T n j)) = false := by simpa using l
        have h1 := tkT_s z d l
        have e : kT T n (sT T n j) = if isSg (T (sT T n j)) = true then T (sT T n j) else 3 := by
          unfold kT
          rw [if_neg (by omega), if_neg (by rw [d]; decide), if_neg (by rw [l]; decide)]
        by_cases s : isSg (T (sT T n j)) = true
        · rw [if_pos s] at e h1
          rw [h1.1, e]
          exact ⟨fun h => ⟨rfl, z, h⟩, fun h => h.2.2⟩
        · rw [if_neg s] at e h1
          rw [h1.1, e]
          constructor
          · intro h; omega
          · rintro ⟨h2, -, -⟩; exact absurd h2 (by decide)
  · have e : kT T n (sT T n j) = 0 := by unfold kT; rw [if_pos (by omega)]
    rw [e]
    constructor
    · intro h; omega
    · rintro ⟨-, h2, -⟩; exact absurd h2 z
theorem y189 {c : Int} (h : RMx T n M S w b x) (hc : isSg c = true) : F189 473 c w = rI (b2i (ks (KT T n) x c)) w := by
  have hn := h.1.2.2.1
  refine e189 h.H l473 _ ?_
  unfold ks
  by_cases z : x.1 = 0
  · obtain ⟨m1, m2, m3, m4, m5⟩ := h.m z
    rw [h.b0 z, if_neg (fun u => u rfl), m4, decide_eq_true z, Bool.true_and]
    have hh := KT_sg (T := T) (n := n) (j := x.2.1) hc
    by_cases y : tkT (KT T n x.2.1) = 3
    · have hs : sT T n x.2.1 < n := by
        apply Classical.byContradiction
        intro u
        rw [KT_0.mpr (by omega)] at y
        exact absurd y (by decide)
      rw [if_neg (fun u => u y), m1, gdi (by omega) (by omega), nn, show gI w (473 + 15) (sT T n x.2.1) = T (sT T n x.2.1) from h.1.2.2.2.1 _ hs]
      by_cases v : T (sT T n x.2.1) = c
      · rw [if_neg (fun u => u v), decide_eq_true (hh.mpr ⟨y, hs, v⟩)]; rfl
      · rw [if_pos v, decide_eq_false (fun u => v (hh.mp u).2.2)]; rfl
    · rw [if_pos y, decide_eq_false (fun u => y (hh.mp u).1)]; rfl
  · rw [if_pos (h.b1 z), decide_eq_false z]; rfl
theorem y190 {c : Int} (hT : TK (KT T n) (VT T n) M) (h : RMx T n M S w b x) (hc : isSg c = true) : ∃ w', F190 473 c w = r0 w' ∧ RMx T n M S w' b (pSg (KT T n) c x) ∧ FrG S w w' := by
  have hc' := isSg_in hc
  unfold pSg
  by_cases z : x.1 = 0
  · by_cases y : ks (KT T n) x c = true
    · rw [if_pos y]
      obtain ⟨w', a1, a2, a3⟩ := y185x hT h z (by rw [(ks_t y).2]; omega)
      refine ⟨w', e190 h.H l473 _ ?_, a2.wk (Nat.le_succ _), a3⟩
      rw [h.b0 z, if_neg (fun u => u rfl), y189 h hc, bI_r h.H, y, if_pos (by decide)]
      refine e190_20 h.H l473 _ ?_
      rw [h.b0 z, if_neg (fun u => u rfl), a1, b0_r a2.H]
    · rw [if_neg y]
      obtain ⟨w', a1, a2, a3⟩ := y186 (c := 1) h (by decide)
      refine ⟨w', e190 h.H l473 _ ?_, a2, a3⟩
      have y : ks (KT T n) x c = false := by simpa using y
      rw [h.b0 z, if_neg (fun u => u rfl), y189 h hc, bI_r h.H, y, if_neg (by decide), a1, b0_r a2.H]
      exact e190_20 a2.H l473 _ (if_pos (a2.b1 (pFl_f (by decide))))
  · rw [ks_n z, if_neg (by decide), pFl_n z]
    refine ⟨w, e190 h.H l473 _ ?_, h, FrG.rf⟩
    rw [if_pos (h.b1 z)]
    exact e190_20 h.H l473 _ (if_pos (h.b1 z))
/-! words -/
theorem KT_w {k t : Nat} {j : Nat} (hk : k < 16) (ht : wdL.getD k [] = txB t) : KT T n j = ((100 + k : Nat) : Int) ↔ (tkT (KT T n j) = 1 ∧ weq T (sT T n j) (ET T n j) (txB t) = true) := by
  constructor
  · intro h
    obtain ⟨w1, w2, w3, w4⟩ := KT_word (T := T) (n := n) (j := j) (by omega)
    have e : ET T n j = eT T n (sT T n j) := by unfold ET; rw [if_pos w1]
    refine ⟨by rw [h]; unfold tkT; rw [if_neg (by omega), if_neg (by omega), if_pos (by omega)], ?_⟩
    rw [e, ← ht, ← wk_iff hk]
    omega
  · rintro ⟨h1, h2⟩
    have hw : 100 ≤ KT T n j := by
      apply Classical.byContradiction
      intro u
      unfold tkT at h1
      split at h1
      · exact absurd h1 (by decide)
      · split at h1
        · exact absurd h1 (by decide)
        · split at h1 <;> exact absurd h1 (by decide)
    obtain ⟨w1, w2, w3, w4⟩ := KT_word hw
    have e : ET T n j = eT T n (sT T n j) := by unfold ET; rw [if_pos w1]
    rw [e, ← ht, ← wk_iff hk] at h2
    rw [w4, h2]
theorem y187l {t p e : Nat} (ht : t < 23) (h : XT w T n) (he : e ≤ n) (hp : gI w 473 22 = p) (hl : e - p = (txB t).length) (hpe : p ≤ e) : ∀ (f k : Nat), k + f = (txB t).length → (∀ i, i < k → T (p + i) = (txB t).getD i 0) →
    s187_39 473 (STR + t) 1 k w = rI (b2i (weq T p e (txB t))) w := by
  intro f
  have hn := h.2.2.1
  induction f with
  | zero =>
    intro k hk hi
    have hw : weq T p e (txB t) = true := by
      rw [weq_iff]; exact ⟨hl, fun i h1 => hi i (by omega)⟩
    refine e187_39 h.1 l473 (hS ht) _ ?_
    rw [if_neg (by decide), q308 h.1 ht, bI_r h.1, if_pos (by omega), gP_t (by decide), hw]
    rfl
  | succ f ih =>
    intro k hk hi
    have ew : wr ((p : Int) + (k : Int)) = ((p + k : Nat) : Int) := wrN (by omega)
    refine e187_39 h.1 l473 (hS ht) _ ?_
    rw [if_neg (by decide), q308 h.1 ht, bI_r h.1, if_neg (by omega), q309 h.1 ht (by omega), bI_r h.1, hp, ew, gdi (by omega) (by omega), nn, show gI w (473 + 15) (p + k) = T (p + k) from h.2.2.2.1 _ (by omega), wrs (by omega)]
    by_cases z : (txB t).getD k 0 = T (p + k)
    · rw [if_neg (fun u => u z)]
      exact ih (k + 1) (by omega) (fun i h1 => by
        by_cases y : i = k
        · rw [y]; exact z.symm
        · exact hi i (by omega))
    · have hw : weq T p e (txB t) = false := by
        cases q : weq T p e (txB t)
        · rfl
        · rw [weq_iff] at q
          exact absurd (q.2 k (by omega)).symm z
      rw [if_pos z]
      refine e187_39 h.1 l473 (hS ht) _ ?_
      rw [if_pos rfl, gP_t (by decide), hw]
      rfl
theorem y187g {f : Int} {j t k : Nat} (hk : k < 16) (hw : wdL.getD k [] = txB t) (ht : t < 23) (hX : XT w T n) (hB : BM T n M w f j) : F187 473 (STR + t) w = rI (b2i (decide (f = 0) && decide (KT T n j = ((100 + k : Nat) : Int)))) w := by
  have hn := hX.2.2.1
  have h0 : ∀ k : Int, s187_39 473 (STR + t) 0 k w = rI 0 w := fun k => e187_39 hX.1 l473 (hS ht) _ (by rw [if_pos rfl, gP_t (by decide)])
  refine e187 hX.1 l473 (hS ht) _ ?_
  by_cases z : f = 0
  · obtain ⟨b1, m1, m2, m3, m4, m5⟩ := hB.1 z
    have hh := KT_w (T := T) (n := n) (j := j) hk hw
    rw [b1, if_neg (fun u => u rfl), m4, decide_eq_true z, Bool.true_and]
    by_cases y : tkT (KT T n j) = 1
    · have hs : sT T n j ≤ ET T n j := by
        unfold ET
        split
        · rename_i u; exact Nat.le_of_lt (eT_b u).1
        · exact Nat.le_refl _
      have hE := ET_n (T := T) (n := n) (j := j)
      have e1 : wr (gI w 473 23 - gI w 473 22) = ((ET T n j - sT T n j : Nat) : Int) := by rw [m1, m2, wrd (by omega) (by omega)]; omega
      rw [if_neg (fun u => u y), q308 hX.1 ht, bI_r hX.1, e1]
      by_cases v : ET T n j - sT T n j = (txB t).length
      · have := y187l ht hX hE m1 v hs (txB t).length 0 (by omega) (fun i hi => absurd hi (Nat.not_lt_zero _))
        have eb : decide (KT T n j = ((100 + k : Nat) : Int)) = weq T (sT T n j) (ET T n j) (txB t) := by
          cases q : weq T (sT T n j) (ET T n j) (txB t)
          · exact decide_eq_false (fun u => by rw [(hh.mp u).2] at q; cases q)
          · exact decide_eq_true (hh.mpr ⟨y, q⟩)
        rw [if_neg (by omega), eb]
        exact this
      · have eb : decide (KT T n j = ((100 + k : Nat) : Int)) = false := decide_eq_false (fun u => by
          have := (hh.mp u).2
          rw [weq_iff] at this
          exact v this.1)
        rw [if_pos (by omega), eb]
        exact h0 0
    · have eb : decide (KT T n j = ((100 + k : Nat) : Int)) = false := decide_eq_false (fun u => y (hh.mp u).1)
      rw [if_pos y, eb]
      exact h0 0
  · rw [if_pos (by rw [(hB.2.1 z).1]; exact z), decide_eq_false z]
    exact h0 0
theorem y187 {t k : Nat} (hk : k < 16) (hw : wdL.getD k [] = txB t) (ht : t < 23) (h : RMx T n M S w b x) : F187 473 (STR + t) w = rI (b2i (ks (KT T n) x ((100 + k : Nat) : Int))) w := y187g hk hw ht h.1 h.2.2.2.1
theorem y188g {f : Int} {j a N k0 t0 : Nat} (ha : lay a = (24, N)) (hr : ∀ i, i < N → gR w a i = some (STR + (t0 + i))) (hw : ∀ i, i < N → wdL.getD (k0 + i) [] = txB (t0 + i)) (hk : k0 + N ≤ 16) (ht : t0 + N ≤ 23) (hX : XT w T n) (hB : BM T n M w f j) :
    F188 473 a w = rI (if f = 0 ∧ ((100 + k0 : Nat) : Int) ≤ KT T n j ∧ KT T n j < ((100 + k0 + N : Nat) : Int) then KT T n j - ((100 + k0 : Nat) : Int) else -1) w := by
  have hh : ∀ (g i : Nat), i + g = N → (∀ i', i' < i → ¬ (f = 0 ∧ KT T n j = ((100 + (k0 + i') : Nat) : Int))) → s188_2 473 a i w = rI (if f = 0 ∧ ((100 + k0 : Nat) : Int) ≤ KT T n j ∧ KT T n j < ((100 + k0 + N : Nat) : Int) then KT T n j - ((100 + k0 : Nat) : Int) else -1) w := by
    intro g
    induction g with
    | zero =>
      intro i hi hno
      refine e188_2 hX.1 l473 ha _ ?_
      rw [if_pos (by omega), if_neg (fun u => ?_)]
      exact hno (KT T n j - ((100 + k0 : Nat) : Int)).toNat (by omega) ⟨u.1, by omega⟩
    | succ g ih =>
      intro i hi hno
      refine e188_2 hX.1 l473 ha _ ?_
      have e := y187g (k := k0 + i) (t := t0 + i) (by omega) (hw i (by omega)) (by omega) hX hB
      rw [if_neg (by omega), gdi (by omega) (by omega), nn, hr i (by omega), gT_t (hS (by omega)), e, bI_r hX.1]
      by_cases z : f = 0 ∧ KT T n j = ((100 + (k0 + i) : Nat) : Int)
      · rw [decide_eq_true z.1, decide_eq_true z.2, if_neg (by decide), if_pos ⟨z.1, by omega, by omega⟩]
        congr 3
        congr 1
        omega
      · have eb : (decide (f = 0) && decide (KT T n j = ((100 + (k0 + i) : Nat) : Int))) = false := by
          by_cases y : f = 0
          · rw [decide_eq_true y, decide_eq_false (fun u => z ⟨y, u⟩)]; rfl
          · rw [decide_eq_false y]; rfl
        rw [eb, if_pos (by decide), wrs (by omega)]
        exact ih (i + 1) (by omega) (fun i' h1 => by
          by_cases y : i' = i
          · rw [y]; exact z
          · exact hno i' (by omega))
  exact e188 hX.1 l473 ha _ (hh N 0 (by omega) (fun i' h1 => absurd h1 (Nat.not_lt_zero _)))
theorem wd_v : ∀ i, i < 7 → wdL.getD (9 + i) [] = txB (9 + i) := by decide +kernel
theorem wd_p : ∀ i, i < 2 → wdL.getD (1 + i) [] = txB (7 + i) := by decide +kernel
/-- which value -/
theorem y188 (h : RMx T n M S w b x) (z : x.1 = 0) : F188 473 (vaR S) w = rI (if 109 ≤ KT T n x.2.1 ∧ KT T n x.2.1 ≤ vLim S then KT T n x.2.1 - 109 else -1) w := by
  obtain ⟨l1, l2, l3⟩ := l474
  cases S
  · have := y188g (k0 := 9) (t0 := 9) l2 h.2.1.2.1 (fun i hi => wd_v i (by omega)) (by decide) (by decide) h.1 h.2.2.2.1
    rw [show vaR false = 475 from rfl, this, show vLim false = 113 from rfl]
    by_cases u : 109 ≤ KT T n x.2.1 ∧ KT T n x.2.1 ≤ 113
    · rw [if_pos u, if_pos ⟨z, by omega, by omega⟩]; rfl
    · rw [if_neg u, if_neg (fun v => u ⟨by have := v.2.1; omega, by have := v.2.2; omega⟩)]
  · have := y188g (k0 := 9) (t0 := 9) l3 h.2.1.2.2 (fun i hi => wd_v i (by omega)) (by decide) (by decide) h.1 h.2.2.2.1
    rw [show vaR true = 476 from rfl, this, show vLim true = 115 from rfl]
    by_cases u : 109 ≤ KT T n x.2.1 ∧ KT T n x.2.1 ≤ 115
    · rw [if_pos u, if_pos ⟨z, by omega, by omega⟩]; rfl
    · rw [if_neg u, if_neg (fun v => u ⟨by have := v.2.1; omega, by have := v.2.2; omega⟩)]
/-! numbers -/
theorem KT_n2 {j : Nat} : tkT (KT T n j) = 2 ↔ (KT T n j = 1 ∨ KT T n j = 2) := by
  unfold tkT
  constructor
  · intro h
    split at h
    · exact absurd h (by decide)
    · split at h
      · rename_i u; exact u
      · split at h
        · exact absurd h (by decide)
        · split at h <;> exact absurd h (by decide)
  · intro h
    rw [if_neg (by omega), if_pos h]
theorem KT_n1 {j : Nat} : tkT (KT T n j) = 1 ↔ 100 ≤ KT T n j := by
  unfold tkT
  constructor
  · intro h
    split at h
    · exact absurd h (by decide)
    · split at h
      · exact absurd h (by decide)
      · split at h
        · rename_i u; exact u
        · split at h <;> exact absurd h (by decide)
  · intro h
    rw [if_neg (by omega), if_neg (by omega), if_pos h]
end RB
