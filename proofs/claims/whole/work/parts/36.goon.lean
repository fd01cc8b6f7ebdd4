/-! many steps; a state becomes another; the class's frame -/
def TMs (Q : QT) (s : ST) (K : Nat) (i : Nat) : Int := sumN (fun j => TM Q (goN Q s j) (zn Q) i) K
def HDs (Q : QT) (s : ST) (K : Nat) (q i : Nat) : Int := sumN (fun j => HD Q (goN Q s j) (zn Q) q i) K
def PSs (Q : QT) (s : ST) (K : Nat) : Int := sumN (fun j => PS Q (goN Q s j) (zn Q)) K
def SLs (Q : QT) (s : ST) (K : Nat) : Int := sumN (fun j => b2i (noA Q (goN Q s j) (zn Q))) K
theorem q17 {a q K : Nat} {w : Wd} {Q : QT} {s : ST} (H : LR w) (h : (lay a).1 = 8) (hl : (lay q).1 = 4) (hg : GQ Q) (hs : RS w a s) (hG : GS (zn Q) s) (hQ : RQ w q Q) (hd : a = 34 ∨ a = 39) (hdr : q = 2 ∨ q = 17) (hK : uT s + K < 2000) :
    ∃ w', F17 27 q a K w = r0 w' ∧ RS w' a (goN Q s K) ∧ FrI (AG a) w w' ∧ (∀ i, i < 8 → gI w' 30 i = if K = 0 then gI w 30 i else if i < zn Q then WH Q (goN Q s (K - 1)) i else -1) ∧ LGR w w' (TMs Q s K) (HDs Q s K) (PSs Q s K) ∧ (okI (gI w 27 7) → gI w' 27 7 = wr (gI w 27 7 + SLs Q s K)) := by
  have hT0 := hG.2.2.2.2.2.2.1
  obtain ⟨v, hv, i2, i3, i4, i5, i6⟩ := lpR (F := fun k v => s17_3 27 q a K k v) (I := fun k v => RS v a (goN Q s k) ∧ FrI (AG a) w v ∧ (∀ i, i < 8 → gI v 30 i = if k = 0 then gI w 30 i else if i < zn Q then WH Q (goN Q s (k - 1)) i else -1) ∧ LGR w v (TMs Q s k) (HDs Q s k) (PSs Q s k) ∧ (okI (gI w 27 7) → gI v 27 7 = wr (gI w 27 7 + SLs Q s k))) K (fun k v hk e => by
    obtain ⟨e1, ef, e2, e3, e4⟩ := e
    have hV := ef.LR H
    have hQv : RQ v q Q := hQ.fr ef (fun b _ _ => by unfold AG AS; omega)
    have hT := goN_T (Q := Q) (s := s) k
    obtain ⟨v', l1, l2, l3, l4, l5, l6⟩ := q17s (K := K) (k := k) hV h hl hg e1 (GS_goN hG k (by omega)) hQv hd hdr (by omega)
    refine ⟨v', l1, l2, ef.tr l3, fun i hi => ?_, e3.tr l5, fun ho => ?_⟩
    · rw [l4 i hi, if_neg (show ¬ k + 1 = 0 by omega)]; rfl
    · have e := e4 ho
      rw [l6 (by rw [e]; exact wr_ok _), e, wr_wr, Int.add_assoc]
      rfl) w ⟨hs, FrI.rf, fun i hi => by rw [if_pos rfl], (LGR.rf rfl rfl rfl).cg (fun _ => rfl) (fun _ _ => rfl) rfl, fun ho => wr0 ho⟩
  exact ⟨v, e17 H l27 hl h _ (hv _ (e17_3 (i3.LR H) l27 hl h _ (if_pos (Int.le_refl _)))), i2, i3, i4, i5, i6⟩
theorem cp8 {w : Wd} {a d : Nat} : cpW w a d 0 0 8 8 = sI w d (gI w a) := rfl
theorem q74 {a b : Nat} {w : Wd} {s : ST} (H : LR w) (h : (lay a).1 = 8) (hb : (lay b).1 = 8) (hd : a + 4 < b ∨ b + 4 < a) (hs : RS w b s) : ∃ w', F74 a b w = r0 w' ∧ RS w' a s ∧ FrI (AS a) w w' := by
  obtain ⟨r1, r2, r3, r4, r5, r6, r7, r8⟩ := hs
  refine ⟨pI (pI (pI (pI (sI (sI (sI (sI w (a + 1) (uL s)) (a + 2) (uW s)) (a + 3) (uM s)) (a + 4) (uG s)) a 4 (mk (uI s) 8)) a 5 (b2i (uP s))) a 6 (uC s)) a 7 (uT s), e74 H h hb _ ?_, ?_, ?_⟩
  · simp (disch := omega) only [cp8, gI_s, gI_c, gI_r, gI_S, gI_Sr, r1, r2, r3, r4, r5, r6, r7, r8]
    rw [gP_t (b2i_or _)]
  · unfold RS
    simp (disch := omega) only [gI_s, gI_c, gI_r, gI_S, gI_Sr]
    exact ⟨trivial, trivial, trivial, trivial, trivial, trivial, trivial, trivial⟩
  · refine FrI.pp (FrI.pp (FrI.pp (FrI.pp (FrI.ss (FrI.ss (FrI.ss (FrI.s ?_) ?_) ?_) ?_) ?_) ?_) ?_) ?_ <;> (unfold AS; omega)
theorem q321r {a n : Nat} {x : Int} {w : Wd} (H : LR w) (h : lay a = (21, n)) (hn : n < 100000) : ∃ w', F321 a x w = r0 w' ∧ FrI (fun b => b = a) w w' ∧ ∀ i, i < n → gI w' a i = x :=
  ⟨_, q321 H h hn, FrI.s rfl, fun i hi => by rw [gI_S]; exact if_pos hi⟩
theorem q16 {w : Wd} (H : LR w) : ∃ w', F16 27 w = r0 w' ∧ FrI (fun b => b = 27 ∨ (30 ≤ b ∧ b ≤ 32)) w w' ∧ (∀ i, i < 8 → gI w' 30 i = -1) ∧ (∀ i, i < 8 → gI w' 31 i = 0) ∧ (∀ i, i < 64 → gI w' 32 i = 0) ∧ gI w' 27 6 = 0 ∧ gI w' 27 7 = 0 := by
  obtain ⟨w1, k1, f1, e1⟩ := q321r (a := 30) (n := 8) (x := -1) H (by rfl) (by omega)
  obtain ⟨w2, k2, f2, e2⟩ := q321r (a := 31) (n := 8) (x := 0) (f1.LR H) (by rfl) (by omega)
  obtain ⟨w3, k3, f3, e3⟩ := q321r (a := 32) (n := 64) (x := 0) (f2.LR (f1.LR H)) (by rfl) (by omega)
  refine ⟨pI (pI w3 27 6 0) 27 7 0, e16 H l27 _ ?_, ((((f1.wk (fun b hb => by omega)).tr (f2.wk (fun b hb => by omega))).tr (f3.wk (fun b hb => by omega))).pp (by omega)).pp (by omega), fun i hi => ?_, fun i hi => ?_, fun i hi => ?_, ?_, ?_⟩
  · rw [k1, b0_r (f1.LR H), k2, b0_r (f2.LR (f1.LR H)), k3, b0_r (f3.LR (f2.LR (f1.LR H)))]
  · rw [gI_r (by omega), gI_r (by omega), f3.g (by omega), f2.g (by omega)]; exact e1 i hi
  · rw [gI_r (by omega), gI_r (by omega), f3.g (by omega)]; exact e2 i hi
  · rw [gI_r (by omega), gI_r (by omega)]; exact e3 i hi
  · simp (disch := omega) only [gI_c, gI_s]
  · simp (disch := omega) only [gI_s]
/-- what the class's questions may change -/
def SC (b : Nat) : Prop := (27 ≤ b ∧ b ≤ 33) ∨ (39 ≤ b ∧ b ≤ 43) ∨ (464 ≤ b ∧ b ≤ 472)
def FrC (w w' : Wd) : Prop := (∀ b, b ≠ 0 → ¬ SC b → gI w' b = gI w b) ∧ (∀ i, i ≠ 15 → gI w' 0 i = gI w 0 i) ∧ gR w' = gR w ∧ (∀ b, b ≠ 470 → gJ w' b = gJ w b) ∧ gN w' = gN w ∧ gL w' = gL w ∧ gX w' = gX w ∧ gE w' = gE w
theorem FrC.rf {w : Wd} : FrC w w := ⟨fun _ _ _ => rfl, fun _ _ => rfl, rfl, fun _ _ => rfl, rfl, rfl, rfl, rfl⟩
theorem FrC.tr {a b c : Wd} (h : FrC a b) (h' : FrC b c) : FrC a c :=
  ⟨fun x q1 q2 => (h'.1 x q1 q2).trans (h.1 x q1 q2), fun i q => (h'.2.1 i q).trans (h.2.1 i q), h'.2.2.1.trans h.2.2.1, fun x q => (h'.2.2.2.1 x q).trans (h.2.2.2.1 x q), h'.2.2.2.2.1.trans h.2.2.2.2.1, h'.2.2.2.2.2.1.trans h.2.2.2.2.2.1, h'.2.2.2.2.2.2.1.trans h.2.2.2.2.2.2.1, h'.2.2.2.2.2.2.2.trans h.2.2.2.2.2.2.2⟩
theorem FrI.C {A : Nat → Prop} {w w' : Wd} (h : FrI A w w') (hA : ∀ b, A b → SC b) : FrC w w' := by
  have e := h.2
  refine ⟨fun b _ q => h.1 b (fun z => q (hA b z)), fun i _ => by rw [h.1 0 (fun z => by have := hA 0 z; unfold SC at this; omega)], h.R, fun b _ => ?_, ?_, ?_, ?_, ?_⟩ <;> (first | unfold gJ | unfold gN | unfold gL | unfold gX | unfold gE) <;> rw [e]
theorem FrC.LR {w w' : Wd} (h : FrC w w') (H : LR w) : LR w' := fun a k o q => by rw [h.2.2.1]; exact H a k o q
/-- the class stands so: its quay at q, its state -/
def CQ (w : Wd) (q : Nat) (Q : QT) (s : ST) : Prop := (q = 2 ∨ q = 17) ∧ gR w 0 3 = some q ∧ RQ w q Q ∧ RS w 34 s ∧ LR w ∧ GQ Q ∧ GS (zn Q) s ∧ uT s ≤ 999
theorem lq {q : Nat} (h : q = 2 ∨ q = 17) : (lay q).1 = 4 := by rcases h with rfl | rfl <;> rfl
theorem l0 : (lay 0).1 = 11 := by rfl
theorem l34 : (lay 34).1 = 8 := by rfl
theorem l39 : (lay 39).1 = 8 := by rfl
theorem RQ.ext {w w' : Wd} {q : Nat} {Q : QT} (h : RQ w q Q) (hA : ∀ b, q ≤ b → b ≤ q + 9 → gI w' b = gI w b) : RQ w' q Q := by
  unfold RQ
  rw [hA q (by omega) (by omega), hA (q + 4) (by omega) (by omega), hA (q + 5) (by omega) (by omega), hA (q + 6) (by omega) (by omega), hA (q + 7) (by omega) (by omega), hA (q + 8) (by omega) (by omega), hA (q + 9) (by omega) (by omega)]
  exact h
theorem RS.ext {w w' : Wd} {a : Nat} {s : ST} (h : RS w a s) (hA : ∀ b, a ≤ b → b ≤ a + 4 → gI w' b = gI w b) : RS w' a s := by
  unfold RS
  rw [hA a (by omega) (by omega), hA (a + 1) (by omega) (by omega), hA (a + 2) (by omega) (by omega), hA (a + 3) (by omega) (by omega), hA (a + 4) (by omega) (by omega)]
  exact h
theorem CQ.fr {w w' : Wd} {q : Nat} {Q : QT} {s : ST} (h : CQ w q Q s) (f : FrC w w') : CQ w' q Q s := by
  obtain ⟨h1, h2, h3, h4, h5, h6⟩ := h
  exact ⟨h1, by rw [f.2.2.1]; exact h2, h3.ext (fun b _ _ => f.1 b (by omega) (by unfold SC; omega)), h4.ext (fun b _ _ => f.1 b (by omega) (by unfold SC; omega)), f.LR h5, h6⟩
theorem CQ.q {w : Wd} {q : Nat} {Q : QT} {s : ST} (h : CQ w q Q s) {K : Nat → Option Out} : gQ (gR w 0 3) 4 K = K q := by rw [h.2.1]; exact gQ_t (lq h.1)
theorem CQ.n {w : Wd} {q : Nat} {Q : QT} {s : ST} (h : CQ w q Q s) : gI w q 1 = zn Q := h.2.2.1.2.1
/-! what is asked for first -/
theorem q165 {w : Wd} {q : Nat} {Q : QT} {s : ST} {x : Int} (h : CQ w q Q s) : F165 0 x w = if 0 ≤ x ∧ x < zn Q then r0 w else rX 0 (tW w) := by
  by_cases z : 0 ≤ x ∧ x < zn Q
  · rw [if_pos z]
    refine e165 h.2.2.2.2.1 l0 _ ?_
    rw [if_neg (by omega), h.q, h.n, if_pos (by omega)]
  · rw [if_neg z]
    refine e165 h.2.2.2.2.1 l0 _ ?_
    by_cases y : x < 0
    · rw [if_pos y]
    · rw [if_neg y, h.q, h.n, if_neg (by omega)]
theorem q166 {w : Wd} {x k : Int} (H : LR w) : F166 0 x k w = if 0 ≤ x ∧ x < k then r0 w else rX 0 (tW w) := by
  by_cases z : 0 ≤ x ∧ x < k
  · rw [if_pos z]
    refine e166 H l0 _ ?_
    rw [if_neg (by omega), if_pos (by omega)]
  · rw [if_neg z]
    refine e166 H l0 _ ?_
    by_cases y : x < 0
    · rw [if_pos y]
    · rw [if_neg y, if_neg (by omega)]
theorem q167 {w : Wd} {x lo hi : Int} (H : LR w) : F167 0 x lo hi w = if lo ≤ x ∧ x ≤ hi then r0 w else rX 1 (tW w) := by
  by_cases z : lo ≤ x ∧ x ≤ hi
  · rw [if_pos z]
    refine e167 H l0 _ ?_
    rw [if_neg (by omega), if_pos (by omega)]
  · rw [if_neg z]
    refine e167 H l0 _ ?_
    by_cases y : x < lo
    · rw [if_pos y]
    · rw [if_neg y, if_neg (by omega)]
/-- the trial stands at the state, the port's counts at nothing -/
def TC (w : Wd) (s : ST) : Prop := RS w 39 s ∧ (∀ i, i < 8 → gI w 30 i = -1) ∧ (∀ i, i < 8 → gI w 31 i = 0) ∧ (∀ i, i < 64 → gI w 32 i = 0) ∧ gI w 27 6 = 0 ∧ gI w 27 7 = 0
theorem q169 {w : Wd} {q : Nat} {Q : QT} {s : ST} (h : CQ w q Q s) : ∃ w', F169 0 w = r0 w' ∧ TC w' s ∧ FrC w w' := by
  obtain ⟨h1, h2, h3, h4, h5, h6⟩ := h
  obtain ⟨w1, k1, k2, k3⟩ := q74 (a := 39) (b := 34) h5 l39 l34 (by omega) h4
  obtain ⟨w2, k4, k5, k6⟩ := q16 (k3.LR h5)
  refine ⟨w2, e169 h5 l0 _ ?_, ⟨k2.fr k5 (by omega) (by omega) (by omega) (by omega) (by omega), k6⟩, (k3.C (fun b hb => by unfold AS at hb; unfold SC; omega)).tr (k5.C (fun b hb => by unfold SC; omega))⟩
  rw [k1, b0_r (k3.LR h5), k4, b0_r (k5.LR (k3.LR h5))]
/-- steps go by over the trial -/
theorem qgo {w v : Wd} {q K : Nat} {Q : QT} {s u : ST} (h : CQ w q Q s) (f : FrC w v) (hu : RS v 39 u) (hG : GS (zn Q) u) (hK : uT u + K < 2000) :
    ∃ v', F17 27 q 39 K v = r0 v' ∧ RS v' 39 (goN Q u K) ∧ FrC w v' ∧ (∀ i, i < 8 → gI v' 30 i = if K = 0 then gI v 30 i else if i < zn Q then WH Q (goN Q u (K - 1)) i else -1) ∧ LGR v v' (TMs Q u K) (HDs Q u K) (PSs Q u K) ∧ (okI (gI v 27 7) → gI v' 27 7 = wr (gI v 27 7 + SLs Q u K)) := by
  have h' := h.fr f
  obtain ⟨v', k1, k2, k3, k4⟩ := q17 (K := K) h'.2.2.2.2.1 l39 (lq h.1) h.2.2.2.2.2.1 hu hG h'.2.2.1 (Or.inr rfl) h.1 hK
  exact ⟨v', k1, k2, f.tr (k3.C (fun b hb => by unfold AG AS at hb; unfold SC; omega)), k4⟩
/-- an answer: a number, or what is thrown -/
abbrev An : Type := Int ⊕ Nat
/-- the class answers so, and nothing that matters has changed -/
def AnC (w : Wd) (F : Option Out) (a : An) : Prop := match a with
  | .inl v => ∃ w', F = rI v w' ∧ FrC w w'
  | .inr e => F = rX e (tW w)
theorem AnC.x {w : Wd} {e : Nat} : AnC w (rX e (tW w)) (.inr e) := rfl
theorem AnC.v {w w' : Wd} {x : Int} (h : FrC w w') : AnC w (rI x w') (.inl x) := ⟨w', rfl, h⟩
theorem AnC.of {w : Wd} {T F : Option Out} {a : An} (hR : Rf T F) (h : AnC w T a) : AnC w F a := by
  cases a with
  | inl v =>
    obtain ⟨w', h1, h2⟩ := h
    exact ⟨w', hR _ h1, h2⟩
  | inr e => exact hR _ h
/-- guards of the answers -/
def gdP (n : Nat) (x : Int) (a : An) : An := if 0 ≤ x ∧ x < n then a else .inr 0
def gdW (k x : Int) (a : An) : An := if 0 ≤ x ∧ x < k then a else .inr 0
def gdB (lo hi x : Int) (a : An) : An := if lo ≤ x ∧ x ≤ hi then a else .inr 1
theorem AnC.P {w : Wd} {q : Nat} {Q : QT} {s : ST} {x : Int} {k : Wd → Option Out} {a : An} (h : CQ w q Q s) (hk : 0 ≤ x → x < zn Q → AnC w (k w) a) : AnC w (b0 (F165 0 x w) k) (gdP (zn Q) x a) := by
  rw [q165 h]
  unfold gdP
  by_cases z : 0 ≤ x ∧ x < zn Q
  · rw [if_pos z, if_pos z, b0_r h.2.2.2.2.1]; exact hk z.1 z.2
  · rw [if_neg z, if_neg z, b0_x]; exact AnC.x
theorem AnC.W {w : Wd} {x m : Int} {k : Wd → Option Out} {a : An} (H : LR w) (hk : 0 ≤ x → x < m → AnC w (k w) a) : AnC w (b0 (F166 0 x m w) k) (gdW m x a) := by
  rw [q166 H]
  unfold gdW
  by_cases z : 0 ≤ x ∧ x < m
  · rw [if_pos z, if_pos z, b0_r H]; exact hk z.1 z.2
  · rw [if_neg z, if_neg z, b0_x]; exact AnC.x
theorem AnC.B {w : Wd} {x lo hi : Int} {k : Wd → Option Out} {a : An} (H : LR w) (hk : lo ≤ x → x ≤ hi → AnC w (k w) a) : AnC w (b0 (F167 0 x lo hi w) k) (gdB lo hi x a) := by
  rw [q167 H]
  unfold gdB
  by_cases z : lo ≤ x ∧ x ≤ hi
  · rw [if_pos z, if_pos z, b0_r H]; exact hk z.1 z.2
  · rw [if_neg z, if_neg z, b0_x]; exact AnC.x
