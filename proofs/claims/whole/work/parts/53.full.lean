/-! the class as a whole: its state, its frame; what is kept becomes another's -/
theorem kpL_lt {L : List ST} {s : ST} (h : L.length < 40) : kpL L s = L ++ [s] := by unfold kpL; rw [if_neg (by omega)]
/-- acts become another's -/
theorem q6 {w : Wd} {b c : Nat} {L M : List ST} (H : LR w) (hb : aOK b) (hc : aOK c) (hne : b ≠ c) (h : RK w b M) (hL : RK w c L) : ∃ w', F6 b c w = r0 w' ∧ RK w' b L ∧ FrA (AK b) (fun x => x = b + 1) w w' := by
  have hB : ∀ x, x = b + 1 → (lay x).1 = 23 := fun x e => by rw [e, lA1 hb]
  have hdis : c + 202 ≤ b ∨ b + 202 ≤ c := by rcases hb with rfl | rfl <;> rcases hc with rfl | rfl <;> omega
  have h0 : RK (pI w b 1 0) b [] := by
    obtain ⟨h1, h2, f, f1, f2, f3, f4⟩ := h
    exact ⟨by simp, by rw [gI_s]; rfl, f, f1, f2, f3, fun i hi => absurd hi (Nat.not_lt_zero _)⟩
  obtain ⟨v, hv, e1, e2⟩ := lpR (F := fun k v => s6_7 b c k v) (I := fun k v => RK v b (L.take k) ∧ FrA (AK b) (fun x => x = b + 1) w v) L.length (fun k v hk e => by
    obtain ⟨e1, e2⟩ := e
    have HV := e2.LR hB H
    have hLv : RK v c L := hL.ext (fun x hx => e2.1 x (by unfold AK at hx ⊢; omega)) (e2.2.1 _ (by omega))
    have hlen := hLv.1
    obtain ⟨g1, g2, f, f1, f2, f3, f4⟩ := hLv
    have fk := f1 k (by omega)
    have hl := lAS hc fk
    obtain ⟨v', l1, l2, l3⟩ := q2 HV hb hl e1 (f4 k hk) (by omega)
    refine ⟨v', fun o ho => e6_7 HV (lA0 hb) (lA0 hc) _ ?_, ?_, e2.tr l3⟩
    · rw [g2, if_neg (by omega), q3 HV hc (by omega), bQ_r HV, f3 k (by omega), gN_t hl, l1, b0_r (l3.LR hB HV), wrd (by omega) (by omega)]
      exact ho
    · rw [kpL_lt (by rw [List.length_take]; omega)] at l2
      have e9 : L.take (k + 1) = L.take k ++ [L[k]] := by rw [List.take_succ, List.getElem?_eq_getElem hk]; rfl
      rw [e9]; exact l2) (pI w b 1 0) ⟨by rw [List.take_zero]; exact h0, (FrI.p (A := AK b) (Or.inl rfl)).A _⟩
  rw [List.take_length] at e1
  refine ⟨v, e6 H (lA0 hb) (lA0 hc) _ (hv _ (e6_7 (e2.LR hB H) (lA0 hb) (lA0 hc) _ ?_)), e1, e2⟩
  have hLv : RK v c L := hL.ext (fun x hx => e2.1 x (by unfold AK at hx ⊢; omega)) (e2.2.1 _ (by omega))
  rw [hLv.2.1, if_pos (Int.le_refl _)]
/-- what is seen becomes another's -/
theorem q71 {w : Wd} {b c : Nat} {N : NT} (H : LR w) (hb : (lay b).1 = 7) (hc : (lay c).1 = 7) (hd : b + 3 < c ∨ c + 3 < b) (h : RN w c N) : ∃ w', F71 b c w = r0 w' ∧ RN w' b N ∧ FrI (fun x => b ≤ x ∧ x ≤ b + 3) w w' := by
  refine ⟨pI (sI (sI (sI w (b + 1) (gI w (c + 1))) (b + 2) (gI w (c + 2))) (b + 3) (gI w (c + 3))) b 3 N.1, e71 H hb hc _ ?_, ⟨gI_s, fun i hi => ?_⟩, ((((FrI.s ⟨by omega, by omega⟩).ss ⟨by omega, by omega⟩).ss ⟨by omega, by omega⟩).pp ⟨by omega, by omega⟩)⟩
  · simp (disch := omega) only [cp8, gI_s, gI_c, gI_r, gI_S, gI_Sr, h.1]
  · obtain ⟨h1, h2, h3⟩ := h.2 i hi
    simp (disch := omega) only [gI_r, gI_S, gI_Sr]
    exact ⟨h1, h2, h3⟩
/-- the frame of all that the class does -/
def FrK (w w' : Wd) : Prop := (∀ b, 473 ≤ b → gI w' b = gI w b ∧ gR w' b = gR w b ∧ gJ w' b = gJ w b) ∧ gN w' = gN w ∧ gL w' = gL w ∧ gX w' = gX w ∧ gE w ≤ gE w' ∧ gE w' ≤ gE w + 1
theorem FrC.K {w w' : Wd} (h : FrC w w') : FrK w w' := ⟨fun b hb => ⟨h.1 b (by omega) (by unfold SC; omega), by rw [h.2.2.1], h.2.2.2.1 b (by omega)⟩, h.2.2.2.2.1, h.2.2.2.2.2.1, h.2.2.2.2.2.2.1, by rw [h.2.2.2.2.2.2.2]; exact Nat.le_refl _, by rw [h.2.2.2.2.2.2.2]; exact Nat.le_succ _⟩
theorem FrA.K {A B : Nat → Prop} {w w' : Wd} (h : FrA A B w w') (hA : ∀ x, A x → x < 473) (hB : ∀ x, B x → x < 473) : FrK w w' := ⟨fun b hb => ⟨h.1 b (fun z => by have := hA b z; omega), h.2.1 b (fun z => by have := hB b z; omega), by rw [h.2.2.1]⟩, h.2.2.2.1, h.2.2.2.2.1, h.2.2.2.2.2.1, by rw [h.2.2.2.2.2.2]; exact Nat.le_refl _, by rw [h.2.2.2.2.2.2]; exact Nat.le_succ _⟩
theorem FrK.x {w : Wd} : FrK w (tW w) := ⟨fun _ _ => ⟨rfl, rfl, rfl⟩, rfl, rfl, rfl, Nat.le_succ _, Nat.le_refl _⟩
/-- the state of both: the quay, the state, acts, what is seen, refusals, the image -/
abbrev AC : Type := QT × ST × List ST × NT × Row × Option (ST × List ST × NT × Row)
def oQ (A : AC) : QT := A.1
def oS (A : AC) : ST := A.2.1
def oL (A : AC) : List ST := A.2.2.1
def oN (A : AC) : NT := A.2.2.2.1
def oT (A : AC) : Row := A.2.2.2.2.1
def oM (A : AC) : Option (ST × List ST × NT × Row) := A.2.2.2.2.2
/-- a state that may stand, or be kept -/
def GU (Q : QT) (m : Row) (u : ST) : Prop := GS (zn Q) u ∧ uT u ≤ 999 ∧ uM u = m ∧ ∀ p, zn Q ≤ p → uI u p = false
def GA (A : AC) : Prop := GU (oQ A) (uM (oS A)) (oS A) ∧ (∀ u ∈ oL A, GU (oQ A) (uM (oS A)) u) ∧ GN (zn (oQ A)) (oN A) ∧ (∀ i, okI (oT A i)) ∧
  (∀ x, oM A = some x → GU (oQ A) (uM (oS A)) x.1 ∧ (∀ u ∈ x.2.1, GU (oQ A) (uM (oS A)) u) ∧ GN (zn (oQ A)) x.2.2.1 ∧ ∀ i, okI (x.2.2.2 i))
/-- the class holds it -/
def RC (w : Wd) (q : Nat) (A : AC) : Prop := CQ w q (oQ A) (oS A) ∧ RK w 44 (oL A) ∧ RN w 246 (oN A) ∧ (∀ i, i < 3 → gI w 250 i = oT A i) ∧ (∃ M, RK w 257 M) ∧
  (oM A = none → gI w 251 4 = 0) ∧ (∀ x, oM A = some x → gI w 251 4 = 1 ∧ RS w 252 x.1 ∧ RK w 257 x.2.1 ∧ RN w 459 x.2.2.1 ∧ ∀ i, i < 3 → gI w 463 i = x.2.2.2 i)
theorem RC.CQ {w : Wd} {q : Nat} {A : AC} (h : RC w q A) : CQ w q (oQ A) (oS A) := h.1
theorem RC.fr {w w' : Wd} {q : Nat} {A : AC} (h : RC w q A) (f : FrC w w') : RC w' q A := by
  obtain ⟨h1, h2, h3, h4, ⟨M, h5⟩, h6, h7⟩ := h
  have g : ∀ b, 44 ≤ b → b ≤ 463 → gI w' b = gI w b := fun b b1 b2 => f.1 b (by omega) (by unfold SC; omega)
  refine ⟨h1.fr f, h2.ext (fun x hx => g x (by unfold AK at hx; omega) (by unfold AK at hx; omega)) (by rw [f.2.2.1]), h3.fr f, fun i hi => by rw [g 250 (by omega) (by omega)]; exact h4 i hi, ⟨M, h5.ext (fun x hx => g x (by unfold AK at hx; omega) (by unfold AK at hx; omega)) (by rw [f.2.2.1])⟩, fun e => by rw [g 251 (by omega) (by omega)]; exact h6 e, fun x hx => ?_⟩
  obtain ⟨a1, a2, a3, a4, a5⟩ := h7 x hx
  exact ⟨by rw [g 251 (by omega) (by omega)]; exact a1, a2.ext (fun c c1 c2 => g c (by omega) (by omega)), a3.ext (fun x hx => g x (by unfold AK at hx; omega) (by unfold AK at hx; omega)) (by rw [f.2.2.1]), a4.ext (fun c c1 c2 => g c (by omega) (by omega)), fun i hi => by rw [g 463 (by omega) (by omega)]; exact a5 i hi⟩
/-- the tape: how many bytes, the bytes, the latest fault's place -/
def RT (w : Wd) (m : Nat) (B : Row) (fp : Int) : Prop := gI w 0 1 = m ∧ gI w 0 2 = fp ∧ ∀ i, i < m → gI w 1 i = B i
theorem RT.ext {w w' : Wd} {m : Nat} {B : Row} {fp : Int} (h : RT w m B fp) (h0 : ∀ i, i ≠ 15 → gI w' 0 i = gI w 0 i) (h1 : gI w' 1 = gI w 1) : RT w' m B fp := by
  unfold RT; rw [h0 1 (by omega), h0 2 (by omega), h1]; exact h
/-- a refused call is counted -/
def rfS (A : AC) (k : Nat) : AC := (oQ A, oS A, oL A, oN A, va_up (oT A) k (wr (oT A k + 1)), oM A)
theorem GA_rf {A : AC} {k : Nat} (h : GA A) : GA (rfS A k) := by
  refine ⟨h.1, h.2.1, h.2.2.1, fun i => ?_, h.2.2.2.2⟩
  show okI (va_up (oT A) k (wr (oT A k + 1)) i)
  unfold va_up
  split
  · exact wr_ok _
  · exact h.2.2.2.1 i
def A250 (b : Nat) : Prop := b = 250
theorem q168 {w : Wd} {q k : Nat} {A : AC} (h : RC w q A) (hk : k < 3) : ∃ w', F168 0 k w = rI (-1) w' ∧ RC w' q (rfS A k) ∧ FrI A250 w w' := by
  have H := h.1.H
  obtain ⟨h1, h2, h3, h4, ⟨M, h5⟩, h6, h7⟩ := h
  have g : ∀ b, b ≠ 250 → gI (pI w 250 k (wr (gI w 250 k + 1))) b = gI w b := fun b hb => gI_r hb
  refine ⟨pI w 250 k (wr (gI w 250 k + 1)), e168 H l0 _ ?_, ⟨?_, h2.ext (fun x hx => g x (by unfold AK at hx; omega)) rfl, h3.ext (fun a _ _ => g a (by omega)), fun i hi => ?_, ⟨M, h5.ext (fun x hx => g x (by unfold AK at hx; omega)) rfl⟩, fun e => by rw [g 251 (by omega)]; exact h6 e, fun x hx => ?_⟩, FrI.p rfl⟩
  · rw [if_neg (by omega), if_neg (by omega), gdi (by omega) (by omega), gdi (by omega) (by omega), nn]
  · obtain ⟨c1, c2, c3, c4, c5, c6⟩ := h1
    exact ⟨c1, c2, c3.ext (fun b _ _ => g b (by omega)), c4.ext (fun b _ _ => g b (by omega)), c5, c6⟩
  · show gI _ 250 i = va_up (oT A) k (wr (oT A k + 1)) i
    rw [gI_p]
    unfold va_up
    rw [h4 k hk]
    split
    · rfl
    · exact h4 i hi
  · obtain ⟨a1, a2, a3, a4, a5⟩ := h7 x hx
    exact ⟨by rw [g 251 (by omega)]; exact a1, a2.ext (fun c c1 c2 => g c (by omega)), a3.ext (fun x hx => g x (by unfold AK at hx; omega)) rfl, a4.ext (fun c c1 c2 => g c (by omega)), fun i hi => by rw [g 463 (by omega)]; exact a5 i hi⟩
/-- an act is kept of the now: only the kept rows change -/
theorem qkeep {w : Wd} {q : Nat} {A : AC} (h : RC w q A) : ∃ w', F2 44 34 w = r0 w' ∧ RC w' q (oQ A, oS A, kpL (oL A) (oS A), oN A, oT A, oM A) ∧ FrA (AK 44) (fun x => x = 45) w w' ∧ LR w' := by
  have H := h.1.H
  obtain ⟨h1, h2, h3, h4, ⟨M, h5⟩, h6, h7⟩ := h
  obtain ⟨w', k1, k2, k3⟩ := q2 (a := 34) H (Or.inl rfl) l34 h2 h1.2.2.2.1 (by omega)
  have H' : LR w' := k3.LR (fun b hb => by rw [hb]; rfl) H
  have g : ∀ b, b < 44 ∨ 246 ≤ b → gI w' b = gI w b := fun b hb => k3.1 b (by unfold AK; omega)
  have gr : ∀ b, b ≠ 45 → gR w' b = gR w b := fun b hb => k3.2.1 b (by omega)
  refine ⟨w', k1, ⟨?_, k2, h3.ext (fun a _ _ => g a (by omega)), fun i hi => by rw [g 250 (by omega)]; exact h4 i hi, ⟨M, h5.ext (fun x hx => g x (by unfold AK at hx; omega)) (gr _ (by omega))⟩, fun e => by rw [g 251 (by omega)]; exact h6 e, fun x hx => ?_⟩, k3, H'⟩
  · obtain ⟨c1, c2, c3, c4, c5, c6⟩ := h1
    exact ⟨c1, by rw [gr 0 (by omega)]; exact c2, c3.ext (fun b _ _ => g b (by omega)), c4.ext (fun b _ _ => g b (by omega)), H', c6⟩
  · obtain ⟨a1, a2, a3, a4, a5⟩ := h7 x hx
    exact ⟨by rw [g 251 (by omega)]; exact a1, a2.ext (fun c c1 c2 => g c (by omega)), a3.ext (fun x hx => g x (by unfold AK at hx; omega)) (gr _ (by omega)), a4.ext (fun c c1 c2 => g c (by omega)), fun i hi => by rw [g 463 (by omega)]; exact a5 i hi⟩
/-- the now becomes another state, nothing else changes but the port and the trial -/
theorem RC.now {w w' : Wd} {q : Nat} {A : AC} {u : ST} (h : RC w q A) (f : FrI (fun b => (27 ≤ b ∧ b ≤ 43)) w w') (hs : RS w' 34 u) (hG : GS (zn (oQ A)) u) (hT : uT u ≤ 999) : RC w' q (oQ A, u, oL A, oN A, oT A, oM A) := by
  have H := h.1.H
  obtain ⟨h1, h2, h3, h4, ⟨M, h5⟩, h6, h7⟩ := h
  have g : ∀ b, b < 27 ∨ 44 ≤ b → gI w' b = gI w b := fun b hb => f.g (by omega)
  refine ⟨?_, h2.ext (fun x hx => g x (by unfold AK at hx; omega)) (by rw [f.R]), h3.ext (fun a _ _ => g a (by omega)), fun i hi => by rw [g 250 (by omega)]; exact h4 i hi, ⟨M, h5.ext (fun x hx => g x (by unfold AK at hx; omega)) (by rw [f.R])⟩, fun e => by rw [g 251 (by omega)]; exact h6 e, fun x hx => ?_⟩
  · obtain ⟨c1, c2, c3, c4, c5, c6, c7, c8⟩ := h1
    exact ⟨c1, by rw [f.R]; exact c2, c3.ext (fun b _ _ => g b (by omega)), hs, f.LR H, c6, hG, hT⟩
  · obtain ⟨a1, a2, a3, a4, a5⟩ := h7 x hx
    exact ⟨by rw [g 251 (by omega)]; exact a1, a2.ext (fun c c1 c2 => g c (by omega)), a3.ext (fun x hx => g x (by unfold AK at hx; omega)) (by rw [f.R]), a4.ext (fun c c1 c2 => g c (by omega)), fun i hi => by rw [g 463 (by omega)]; exact a5 i hi⟩
/-- the class answers, and stands so then -/
def AnS (w : Wd) (F : Option Out) (a : An × AC) : Prop := match a.1 with
  | .inl v => ∃ (w' : Wd) (q : Nat), F = rI v w' ∧ RC w' q a.2 ∧ FrK w w' ∧ (∀ i, i ≠ 15 → gI w' 0 i = gI w 0 i) ∧ gI w' 1 = gI w 1
  | .inr e => F = rX e (tW w)
theorem AnS.of {w : Wd} {T F : Option Out} {a : An × AC} (hR : Rf T F) (h : AnS w T a) : AnS w F a := by
  obtain ⟨a, A⟩ := a
  cases a with
  | inl v =>
    obtain ⟨w', q, h1, h2⟩ := h
    exact ⟨w', q, hR _ h1, h2⟩
  | inr e => exact hR _ h
