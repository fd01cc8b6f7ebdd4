/-! acts that are kept -/
def FrA (A B : Nat → Prop) (w w' : Wd) : Prop := (∀ b, ¬ A b → gI w' b = gI w b) ∧ (∀ b, ¬ B b → gR w' b = gR w b) ∧ gJ w' = gJ w ∧ gN w' = gN w ∧ gL w' = gL w ∧ gX w' = gX w ∧ gE w' = gE w
theorem FrA.rf {A B : Nat → Prop} {w : Wd} : FrA A B w w := ⟨fun _ _ => rfl, fun _ _ => rfl, rfl, rfl, rfl, rfl, rfl⟩
theorem FrA.tr {A B : Nat → Prop} {a b c : Wd} (h : FrA A B a b) (h' : FrA A B b c) : FrA A B a c :=
  ⟨fun x q => (h'.1 x q).trans (h.1 x q), fun x q => (h'.2.1 x q).trans (h.2.1 x q), h'.2.2.1.trans h.2.2.1, h'.2.2.2.1.trans h.2.2.2.1, h'.2.2.2.2.1.trans h.2.2.2.2.1, h'.2.2.2.2.2.1.trans h.2.2.2.2.2.1, h'.2.2.2.2.2.2.trans h.2.2.2.2.2.2⟩
theorem FrA.wk {A B A' B' : Nat → Prop} {a b : Wd} (h : FrA A B a b) (hA : ∀ x, A x → A' x) (hB : ∀ x, B x → B' x) : FrA A' B' a b := ⟨fun x q => h.1 x (fun z => q (hA x z)), fun x q => h.2.1 x (fun z => q (hB x z)), h.2.2⟩
theorem FrI.A {A : Nat → Prop} {w w' : Wd} (h : FrI A w w') (B : Nat → Prop) : FrA A B w w' := by
  have e := h.2
  refine ⟨h.1, fun b _ => by rw [h.R], ?_, ?_, ?_, ?_, ?_⟩ <;> (first | unfold gJ | unfold gN | unfold gL | unfold gX | unfold gE) <;> rw [e]
theorem gR_s {w : Wd} {a i : Nat} {x : Option Nat} : gR (pR w a i x) a i = x := by simp [pR, sR, gR, va_up]
theorem gR_c {w : Wd} {a i j : Nat} {x : Option Nat} (h : j ≠ i) : gR (pR w a i x) a j = gR w a j := by simp [pR, sR, gR, va_up, h]
theorem gR_r {w : Wd} {a b i : Nat} {x : Option Nat} (h : b ≠ a) : gR (pR w a i x) b = gR w b := by simp [pR, sR, gR, va_up, h]
theorem gI_pR {w : Wd} {a i : Nat} {x : Option Nat} : gI (pR w a i x) = gI w := rfl
theorem FrA.pR {A B : Nat → Prop} {w : Wd} {a i : Nat} {x : Option Nat} (h : B a) : FrA A B w (pR w a i x) := ⟨fun _ _ => rfl, fun b q => gR_r (fun e => q (e ▸ h)), rfl, rfl, rfl, rfl, rfl⟩
/-- where acts lie: the now, the image -/
def aOK (b : Nat) : Prop := b = 44 ∨ b = 257
theorem lA0 {b : Nat} (h : aOK b) : (lay b).1 = 0 := by rcases h with rfl | rfl <;> rfl
theorem lA1 {b : Nat} (h : aOK b) : lay (b + 1) = (23, 40) := by rcases h with rfl | rfl <;> rfl
theorem lA2 : ∀ j, j < 40 → (lay (46 + 5 * j)).1 = 8 ∧ (lay (259 + 5 * j)).1 = 8 := by decide +kernel
theorem lAS {b j : Nat} (h : aOK b) (hj : j < 40) : (lay (b + 2 + 5 * j)).1 = 8 := by
  rcases h with rfl | rfl
  · exact (lA2 j hj).1
  · exact (lA2 j hj).2
theorem FrA.LR {A B : Nat → Prop} {w w' : Wd} (h : FrA A B w w') (hB : ∀ b, B b → (lay b).1 = 23) (H : LR w) : LR w' := by
  intro a k o ho
  by_cases z : B a
  · exfalso
    rw [hB a z] at ho
    have : offO 23 k = none := by
      unfold offO
      rw [List.find?_eq_none.mpr ?_]
      · rfl
      · intro x hx
        have := List.all_eq_true.mp (show offT.all (fun e => !(e.1.1 == 23)) = true by decide) x hx
        intro q2
        have q3 : x.1 = (23, k) := by simpa using q2
        rw [q3] at this
        simp at this
    rw [this] at ho
    cases ho
  · rw [h.2.1 a z]; exact H a k o ho
/-- the rows of the kept states -/
def AK (b x : Nat) : Prop := x = b ∨ (b + 2 ≤ x ∧ x < b + 202)
def RK (w : Wd) (b : Nat) (L : List ST) : Prop := L.length ≤ 40 ∧ gI w b 1 = L.length ∧ ∃ f : Nat → Nat, (∀ i, i < 40 → f i < 40) ∧ (∀ i j, i < 40 → j < 40 → f i = f j → i = j) ∧ (∀ i, i < 40 → gR w (b + 1) i = some (b + 2 + 5 * f i)) ∧ ∀ (i : Nat) (h : i < L.length), RS w (b + 2 + 5 * f i) L[i]
theorem RK.ext {w w' : Wd} {b : Nat} {L : List ST} (h : RK w b L) (hI : ∀ x, AK b x → gI w' x = gI w x) (hR : gR w' (b + 1) = gR w (b + 1)) : RK w' b L := by
  obtain ⟨h1, h2, f, f1, f2, f3, f4⟩ := h
  refine ⟨h1, by rw [hI b (Or.inl rfl)]; exact h2, f, f1, f2, fun i hi => by rw [hR]; exact f3 i hi, fun i hi => (f4 i hi).ext (fun c c1 c2 => hI c (Or.inr ?_))⟩
  have := f1 i (by omega)
  omega
theorem q3 {w : Wd} {b i : Nat} (H : LR w) (hb : aOK b) (hi : i < 40) : F3 b i w = rQ (gR w (b + 1) i) w := by
  refine e3 H (lA0 hb) _ ?_
  rw [if_neg (by omega), if_neg (by omega), gdi (by omega) (by omega), nn]
theorem q3n {w : Wd} {b : Nat} {x : Int} (H : LR w) (hb : aOK b) (hx : x < 0 ∨ 40 ≤ x) : F3 b x w = rQ none w := by
  refine e3 H (lA0 hb) _ ?_
  by_cases z : x < 0
  · rw [if_pos z]
  · rw [if_neg z, if_pos (by omega)]
/-- the oldest is dropped: its state is free behind the others -/
theorem q4 {w : Wd} {b : Nat} {L : List ST} (H : LR w) (hb : aOK b) (h : RK w b L) (hL : L.length = 40) : ∃ w', F4 b w = r0 w' ∧ RK w' b (L.drop 1) ∧ FrA (fun x => x = b) (fun x => x = b + 1) w w' := by
  obtain ⟨h1, h2, f, f1, f2, f3, f4⟩ := h
  have hB : ∀ x, x = b + 1 → (lay x).1 = 23 := fun x e => by rw [e, lA1 hb]
  obtain ⟨v, hv, e1, e2, e3, -⟩ := lpR (F := fun k v => s4_9 b (gR w (b + 1) 0) (k + 1) v) (I := fun k v => FrA (fun x => x = b) (fun x => x = b + 1) w v ∧ (∀ i, i < 40 → gR v (b + 1) i = if i < k then some (b + 2 + 5 * f (i + 1)) else some (b + 2 + 5 * f i)) ∧ gI v = gI w ∧ True) 39 (fun k v hk e => by
    obtain ⟨e1, e2, e3, -⟩ := e
    have HV := e1.LR hB H
    have f9 := f1 (k + 1) (by omega)
    have hl := lAS hb f9
    have ek : gR v (b + 1) (k + 1) = some (b + 2 + 5 * f (k + 1)) := by rw [e2 (k + 1) (by omega), if_neg (by omega)]
    refine ⟨pR v (b + 1) k (some (b + 2 + 5 * f (k + 1))), fun o ho => e4_9 HV (lA0 hb) _ ?_, e1.tr (FrA.pR rfl), fun i hi => ?_, e3, trivial⟩
    · rw [if_neg (by omega), gdi (by omega) (by omega), show ((k : Int) + 1).toNat = k + 1 by omega, ek, gQ_t hl, wrd (z := (k : Int) + 1 - 1) (by omega) (by omega), show (k : Int) + 1 - 1 = (k : Int) by omega, gdi (by omega) (by omega), nn, wrd (by omega) (by omega)]
      exact ho
    · by_cases z : i = k
      · rw [z, gR_s, if_pos (by omega)]
      · rw [gR_c z, e2 i hi]
        by_cases y : i < k
        · rw [if_pos y, if_pos (by omega)]
        · rw [if_neg y, if_neg (by omega)]) w ⟨FrA.rf, fun i hi => by rw [if_neg (by omega)]; exact f3 i hi, rfl, trivial⟩
  have HV := e1.LR hB H
  have hl0 := lAS hb (f1 0 (by omega))
  refine ⟨pR (pI v b 1 39) (b + 1) 39 (some (b + 2 + 5 * f 0)), e4 H (lA0 hb) _ ?_, ?_, (e1.tr ((FrI.p (A := fun x => x = b) rfl).A _)).tr (FrA.pR rfl)⟩
  · rw [gdi (by omega) (by omega)]
    have : s4_9 b (gR w (b + 1) 0) (0 + 1) w = r0 (pR (pI v b 1 39) (b + 1) 39 (some (b + 2 + 5 * f 0))) := by
      refine hv _ (e4_9 HV (lA0 hb) _ ?_)
      rw [if_pos (by omega), f3 0 (by omega), gQ_t hl0, gI_s, show wr (40 - 1) = 39 from rfl, gdi (by omega) (by omega)]
      rfl
    exact this
  · refine ⟨by rw [List.length_drop]; omega, by rw [gI_pR, gI_s, List.length_drop, hL]; rfl, fun i => if i < 39 then f (i + 1) else f 0, fun i hi => ?_, fun i j hi hj e => ?_, fun i hi => ?_, fun i hi => ?_⟩
    · dsimp only
      split
      · exact f1 _ (by omega)
      · exact f1 0 (by omega)
    · dsimp only at e
      by_cases a1 : i < 39
      · by_cases a2 : j < 39
        · rw [if_pos a1, if_pos a2] at e
          have := f2 _ _ (by omega) (by omega) e; omega
        · rw [if_pos a1, if_neg a2] at e
          have := f2 _ _ (by omega) (by omega) e; omega
      · by_cases a2 : j < 39
        · rw [if_neg a1, if_pos a2] at e
          have := f2 _ _ (by omega) (by omega) e; omega
        · omega
    · dsimp only
      by_cases z : i = 39
      · rw [z, gR_s, if_neg (by omega)]
      · rw [gR_c z, if_pos (by omega)]
        show gR v (b + 1) i = _
        rw [e2 i hi, if_pos (by omega)]
    · rw [List.length_drop] at hi
      dsimp only
      rw [if_pos (by omega), List.getElem_drop]
      have := f4 (i + 1) (by omega)
      have f9 := f1 (i + 1) (by omega)
      simp only [Nat.add_comm 1 i]
      exact this.ext (fun c c1 c2 => by rw [gI_pR, gI_r (by omega), e3])
def kpL (L : List ST) (s : ST) : List ST := (if L.length = 40 then L.drop 1 else L) ++ [s]
theorem kpL_len {L : List ST} {s : ST} (h : L.length ≤ 40) : (kpL L s).length ≤ 40 := by
  unfold kpL
  rw [List.length_append]
  split
  · rw [List.length_drop]; simp; omega
  · simp; omega
theorem q2a {w : Wd} {b a : Nat} {L : List ST} {s : ST} (H : LR w) (hb : aOK b) (ha : (lay a).1 = 8) (h : RK w b L) (hL : L.length < 40) (hs : RS w a s) (hd : a + 4 < b ∨ b + 202 ≤ a) : ∃ w', s2_16 b a w = r0 w' ∧ RK w' b (L ++ [s]) ∧ FrI (AK b) w w' := by
  obtain ⟨h1, h2, f, f1, f2, f3, f4⟩ := h
  have f9 := f1 L.length (by omega)
  have hl := lAS hb f9
  obtain ⟨v, k1, k2, k3⟩ := q74 (a := b + 2 + 5 * f L.length) (b := a) H hl ha (by omega) hs
  have fv : FrI (AK b) w v := k3.wk (fun x hx => by unfold AS at hx; exact Or.inr (by omega))
  refine ⟨pI v b 1 (L.length + 1 : Nat), e2_16 H (lA0 hb) ha _ ?_, ?_, fv.pp (Or.inl rfl)⟩
  · rw [h2, q3 H hb (by omega), bQ_r H, f3 _ (by omega), gN_t hl, k1, b0_r (k3.LR H), k3.g (by unfold AS; omega), h2, wrd (by omega) (by omega)]
    rfl
  · refine ⟨by rw [List.length_append]; simp; omega, by rw [gI_s, List.length_append]; rfl, f, f1, f2, fun i hi => by rw [gR_pI, k3.R]; exact f3 i hi, fun i hi => ?_⟩
    rw [List.length_append] at hi
    have hi : i < L.length + 1 := hi
    have fi := f1 i (by omega)
    by_cases z : i = L.length
    · subst z
      have : (L ++ [s])[L.length] = s := by simp
      rw [this]
      exact k2.ext (fun c c1 c2 => gI_r (by omega))
    · have hne : f i ≠ f L.length := fun e => z (f2 _ _ (by omega) (by omega) e)
      rw [List.getElem_append_left (by omega)]
      exact (f4 i (by omega)).ext (fun c c1 c2 => by rw [gI_r (by omega), k3.g (by unfold AS; omega)])
theorem gI_eqA {A B : Nat → Prop} {w w' : Wd} (h : FrA A B w w') {b : Nat} (hb : ¬ A b) : gI w' b = gI w b := h.1 b hb
/-- an act is kept -/
theorem q2 {w : Wd} {b a : Nat} {L : List ST} {s : ST} (H : LR w) (hb : aOK b) (ha : (lay a).1 = 8) (h : RK w b L) (hs : RS w a s) (hd : a + 4 < b ∨ b + 202 ≤ a) : ∃ w', F2 b a w = r0 w' ∧ RK w' b (kpL L s) ∧ FrA (AK b) (fun x => x = b + 1) w w' := by
  have hB : ∀ x, x = b + 1 → (lay x).1 = 23 := fun x e => by rw [e, lA1 hb]
  by_cases z : L.length = 40
  · obtain ⟨v, k1, k2, k3⟩ := q4 H hb h z
    have HV := k3.LR hB H
    have hs' : RS v a s := hs.ext (fun c c1 c2 => k3.1 c (by omega))
    obtain ⟨w', l1, l2, l3⟩ := q2a HV hb ha k2 (by rw [List.length_drop]; omega) hs' hd
    refine ⟨w', e2 H (lA0 hb) ha _ ?_, by unfold kpL; rw [if_pos z]; exact l2, (k3.wk (fun x hx => Or.inl hx) (fun x hx => hx)).tr (l3.A _)⟩
    rw [h.2.1, if_neg (by omega), k1, b0_r HV]
    exact l1
  · have := h.1
    obtain ⟨w', l1, l2, l3⟩ := q2a H hb ha h (by omega) hs hd
    refine ⟨w', e2 H (lA0 hb) ha _ ?_, by unfold kpL; rw [if_neg z]; exact l2, l3.A _⟩
    rw [h.2.1, if_pos (by omega)]
    exact l1
/-- the last one is taken back -/
theorem q5 {w : Wd} {a : Nat} {L : List ST} (H : LR w) (ha : (lay a).1 = 8) (h : RK w 44 L) (hd : a + 4 < 44 ∨ 246 ≤ a) :
    (L = [] → F5 44 a w = rI 0 w) ∧ (∀ (hL : 0 < L.length), ∃ w', F5 44 a w = rI 1 w' ∧ RS w' a (L[L.length - 1]) ∧ RK w' 44 L.dropLast ∧ FrI (fun x => x = 44 ∨ AS a x) w w') := by
  have hb : aOK 44 := Or.inl rfl
  obtain ⟨h1, h2, f, f1, f2, f3, f4⟩ := h
  constructor
  · intro e
    refine e5 H (lA0 hb) ha _ ?_
    rw [h2, e]
    rw [show wr (((([] : List ST).length : Nat) : Int) - 1) = -1 from rfl, q3n H hb (by omega), bQ_r H, gN_n]
  · intro hL
    have f9 := f1 (L.length - 1) (by omega)
    have hl := lAS hb f9
    have hS := f4 (L.length - 1) (by omega)
    obtain ⟨v, k1, k2, k3⟩ := q74 (a := a) (b := 44 + 2 + 5 * f (L.length - 1)) H ha hl (by omega) hS
    have ew : ((L.length : Nat) : Int) - 1 = ((L.length - 1 : Nat) : Int) := by omega
    refine ⟨pI v 44 1 (L.length - 1 : Nat), e5 H (lA0 hb) ha _ ?_, k2.ext (fun c c1 c2 => gI_r (by omega)), ?_, (k3.wk (fun x hx => Or.inr hx)).pp (Or.inl rfl)⟩
    · rw [h2, wrd (z := ((L.length : Nat) : Int) - 1) (by omega) (by omega), ew, q3 H hb (by omega), bQ_r H, f3 _ (by omega), gN_t hl, k1, b0_r (k3.LR H), k3.g (by unfold AS; omega), h2, wrd (z := ((L.length : Nat) : Int) - 1) (by omega) (by omega), ew]
    · refine ⟨by rw [List.length_dropLast]; omega, by rw [gI_s, List.length_dropLast], f, f1, f2, fun i hi => by rw [gR_pI, k3.R]; exact f3 i hi, fun i hi => ?_⟩
      rw [List.length_dropLast] at hi
      have fi := f1 i (by omega)
      rw [List.getElem_dropLast]
      exact (f4 i (by omega)).ext (fun c c1 c2 => by rw [gI_r (by omega), k3.g (by unfold AS; omega)])
