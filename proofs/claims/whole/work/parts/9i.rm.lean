/-! both stand together; a call that is caught -/
theorem RC.V {w w' : Wd} {q : Nat} {A : AC} (h : RC w q A) (f : FrV w w') (H' : LR w') : RC w' q A := by
  obtain ⟨h1, h2, h3, h4, ⟨M, h5⟩, h6, h7⟩ := h
  have hq : q = 2 ∨ q = 17 := h1.1
  have hg : ∀ b, b < 473 → gI w' b = gI w b := fun b hb => f.1 b (by omega)
  have hr : ∀ c, c < 473 → gR w' c = gR w c := fun c hc => f.2.1 c (by omega)
  refine ⟨?_, h2.ext (fun x hx => by unfold AK at hx; exact hg x (by omega)) (hr 45 (by decide)), h3.ext (fun a _ _ => hg a (by omega)), fun i hi => by rw [hg 250 (by decide)]; exact h4 i hi, ⟨M, h5.ext (fun x hx => by unfold AK at hx; exact hg x (by omega)) (hr 258 (by decide))⟩, fun e => by rw [hg 251 (by decide)]; exact h6 e, fun x hx => ?_⟩
  · obtain ⟨c1, c2, c3, c4, c5, c6⟩ := h1
    exact ⟨c1, by rw [hr 0 (by decide)]; exact c2, c3.ext (fun b _ _ => hg b (by omega)), c4.ext (fun b _ _ => hg b (by omega)), H', c6⟩
  · obtain ⟨a1, a2, a3, a4, a5⟩ := h7 x hx
    exact ⟨by rw [hg 251 (by decide)]; exact a1, a2.ext (fun c c1 c2 => hg c (by omega)), a3.ext (fun x hx => by unfold AK at hx; exact hg x (by omega)) (hr 258 (by decide)), a4.ext (fun c c1 c2 => hg c (by omega)), fun i hi => by rw [hg 463 (by decide)]; exact a5 i hi⟩
/-- the class stands so -/
def KC (w : Wd) (A : AC) (m : Nat) (B : Row) (fp : Int) : Prop := ∃ q, RC w q A ∧ RB w q m B fp
theorem RB.ext {w w' : Wd} {q m : Nat} {B : Row} {fp : Int} (h : RB w q m B fp) (h0 : ∀ i, i ≠ 15 → gI w' 0 i = gI w 0 i) (h1 : gI w' 1 = gI w 1) (f : FrB w w') : RB w' q m B fp := by
  obtain ⟨a1, a2, a3, a4, a5⟩ := h
  refine ⟨a1.ext h0 h1, a2, by rw [f.2.2]; exact a3, fun p hp => ?_, fun p hp => ?_⟩
  · rw [f.1 3 (by decide) (by decide), f.1 4 (by decide) (by decide), f.1 5 (by decide) (by decide)]; exact a4 p hp
  · rw [f.1 18 (by decide) (by decide), f.1 19 (by decide) (by decide), f.1 20 (by decide) (by decide)]; exact a5 p hp
theorem KC.H {w : Wd} {A : AC} {m : Nat} {B : Row} {fp : Int} (h : KC w A m B fp) : LR w := by
  obtain ⟨q, h1, h2⟩ := h
  exact h1.1.H
theorem KC.V {w w' : Wd} {A : AC} {m : Nat} {B : Row} {fp : Int} (h : KC w A m B fp) (f : FrV w w') (H' : LR w') : KC w' A m B fp := by
  obtain ⟨q, h1, h2⟩ := h
  refine ⟨q, h1.V f H', h2.ext (fun i _ => by rw [f.1 0 (by decide)]) (f.1 1 (by decide)) ⟨fun b b1 b2 => f.1 b (by omega), f.2.1 0 (by decide), f.2.1 12 (by decide)⟩⟩
/-- the reference's rows -/
def FrD (w w' : Wd) : Prop := (∀ b, 473 ≤ b → gI w' b = gI w b ∧ gR w' b = gR w b) ∧ gN w' = gN w ∧ gL w' = gL w ∧ gX w' = gX w ∧ gE w ≤ gE w' ∧ gE w' ≤ gE w + 1
theorem FrK.D {w w' : Wd} (h : FrK w w') : FrD w w' := ⟨fun b hb => ⟨(h.1 b hb).1, (h.1 b hb).2.1⟩, h.2⟩
theorem MY.D {w w' : Wd} {A : AC} (h : MY w A) (f : FrD w w') (H' : LR w') : MY w' A := by
  have g : ∀ b, 473 ≤ b → gI w' b = gI w b := fun b hb => (f.1 b hb).1
  have hq := h.1
  refine ⟨⟨⟨?_, ?_, H', hq.1.2.2.2.1, hq.1.2.2.2.2.1, hq.1.2.2.2.2.2.1, by rw [g 473 (by decide)]; exact hq.1.2.2.2.2.2.2⟩, by rw [g 473 (by decide)]; exact hq.2⟩, h.2.1.ext (by rw [g 473 (by decide)]) (g 492 (by decide)), ?_, fun i hi => by rw [g 486 (by decide)]; exact h.2.2.2.1 i hi, h.2.2.2.2.ext (fun i i1 i2 => by rw [g 473 (by decide)]) (fun b b1 b2 => g b (by omega))⟩
  · have hr := hq.1.1
    unfold RMQ at hr
    show RMQ w' (oQ A)
    unfold RMQ
    rw [g 477 (by decide), g 478 (by decide), g 482 (by decide), g 483 (by decide), g 484 (by decide), g 485 (by decide)]
    exact hr
  · have hr := hq.1.2.1
    unfold RMS at hr
    show RMS w' (oS A)
    unfold RMS
    rw [g 489 (by decide), g 490 (by decide), g 491 (by decide), g 487 (by decide), g 473 (by decide)]
    exact hr
  · have hN : RNm w (oN A) := h.2.2.1
    unfold RNm at hN
    show RNm w' (oN A)
    unfold RNm
    rw [g 473 (by decide), g 501 (by decide), g 502 (by decide), g 503 (by decide)]
    exact hN
theorem RTm.D {w w' : Wd} {m : Nat} {B : Row} {fp : Int} (h : RTm w m B fp) (f : FrD w w') : RTm w' m B fp := by
  unfold RTm
  rw [(f.1 473 (by decide)).1, (f.1 488 (by decide)).1]
  exact h
theorem WDm.D {w w' : Wd} (h : WDm w) (f : FrD w w') : WDm w' := h.ext (fun c c1 c2 => (f.1 c (by omega)).2)
/-- both stand so -/
def JV (w : Wd) (m : Nat) (A : AC) (B : Row) (fp : Int) : Prop := KC w A m B fp ∧ MY w A ∧ RTm w m B fp ∧ WDm w ∧ GI A
def FrO (w w' : Wd) : Prop := gN w' = gN w ∧ gL w' = gL w ∧ gX w' = gX w ∧ gE w ≤ gE w' ∧ gE w' ≤ gE w + 1
theorem FrD.O {a b c : Wd} (h : FrD a b) (f : FrV b c) : FrO a c := ⟨f.2.2.2.1.trans h.2.1, f.2.2.2.2.1.trans h.2.2.1, f.2.2.2.2.2.1.trans h.2.2.2.1, by rw [f.2.2.2.2.2.2]; exact h.2.2.2.2.1, by rw [f.2.2.2.2.2.2]; exact h.2.2.2.2.2⟩
/-- the class answers -/
def ClA (w : Wd) (X : Option Out) (a : An × AC) (m : Nat) (B : Row) (fp : Int) : Prop := match a.1 with
  | .inl v => ∃ w', X = rI v w' ∧ KC w' a.2 m B fp ∧ FrK w w'
  | .inr e => X = rX e (tW w) ∧ KC w a.2 m B fp
def RfA (c : Int) (w : Wd) (Y : Option Out) (a : An × AC) (m : Nat) (B : Row) (fp : Int) : Prop := ∃ w', Y = rI (av a.1) w' ∧ gI w' 473 4 = ac c a.1 ∧ MY w' a.2 ∧ RTm w' m B fp ∧ FrV w w'
def Cd (P : Nat → Prop) (a : An) : Prop := ∀ e, a = .inr e → P e
theorem Cd.v {P : Nat → Prop} {v : Int} : Cd P (.inl v) := fun e h => by cases h
theorem Cd.i {P : Nat → Prop} {e : Nat} (h : P e) : Cd P (.inr e) := fun e h' => by cases h'; exact h
theorem Cd.P {P : Nat → Prop} {n : Nat} {x : Int} {a : An} (h : P 0) (ha : Cd P a) : Cd P (gdP n x a) := by unfold gdP; split; exact ha; exact Cd.i h
theorem Cd.W {P : Nat → Prop} {k x : Int} {a : An} (h : P 0) (ha : Cd P a) : Cd P (gdW k x a) := by unfold gdW; split; exact ha; exact Cd.i h
theorem Cd.B {P : Nat → Prop} {lo hi x : Int} {a : An} (h : P 1) (ha : Cd P a) : Cd P (gdB lo hi x a) := by unfold gdB; split; exact ha; exact Cd.i h
theorem wrK {w : Wd} {X : Option Out} {a : An × AC} {m : Nat} {B : Row} {fp c : Int} {h0 h1 : Wd → Option Out} (H : LR w) (hX : ClA w X a m B fp) (hh : Cd (fun e => (e = 0 ∧ ∀ v, h0 v = rI 1 v) ∨ (e = 1 ∧ ∀ v, h1 v = rI c v)) a.1) :
    ∃ w', bHI X (fun n1 w2 => gd (inb 0 1) (rI 0 (pJ w2 514 0 n1))) h0 h1 = rI (ac c a.1) w' ∧ KC w' a.2 m B fp ∧ FrD w w' ∧ ∀ v, a.1 = .inl v → gJ w' 514 0 = v := by
  obtain ⟨a1, A'⟩ := a
  cases a1 with
  | inl v =>
    obtain ⟨w1, e1, k1, f1⟩ := hX
    refine ⟨pJ w1 514 0 v, ?_, k1, f1.D, fun u hu => ?_⟩
    · rw [e1, bHI_r k1.H, gdi (by decide) (by decide)]; rfl
    · cases hu; exact gJ_s
  | inr e =>
    obtain ⟨e1, k1⟩ := hX
    refine ⟨tW w, ?_, k1, FrK.x.D, fun u hu => by cases hu⟩
    rcases hh e rfl with ⟨u1, u2⟩ | ⟨u1, u2⟩
    · subst u1; rw [e1, bHI_x0 (LR_tW.mpr H)]; exact u2 _
    · subst u1; rw [e1, bHI_x1 (LR_tW.mpr H)]; exact u2 _
/-- both are called, both answer -/
theorem opW {w : Wd} {A : AC} {m m' : Nat} {B B' : Row} {fp fp' c : Int} {a : An × AC} {X W : Option Out} {h0 h1 : Wd → Option Out} {Y : Wd → Option Out} (h : JV w m A B fp) (hX : ClA w X a m' B' fp') (hW : Rf (bHI X (fun n1 w2 => gd (inb 0 1) (rI 0 (pJ w2 514 0 n1))) h0 h1) W)
    (hh : Cd (fun e => (e = 0 ∧ ∀ v, h0 v = rI 1 v) ∨ (e = 1 ∧ ∀ v, h1 v = rI c v)) a.1) (hI : GI a.2) (hY : ∀ w2, MY w2 A → RTm w2 m B fp → WDm w2 → RfA c w2 (Y w2) a m' B' fp') :
    ∃ w2 w5, W = rI (ac c a.1) w2 ∧ Y w2 = rI (av a.1) w5 ∧ LR w2 ∧ LR w5 ∧ gL w2 = gL w ∧ gX w2 = gX w ∧ gI w5 473 4 = ac c a.1 ∧ (∀ v, a.1 = .inl v → gJ w5 514 0 = v) ∧ JV w5 m' a.2 B' fp' ∧ FrO w w5 := by
  obtain ⟨j1, j2, j3, j4, j5⟩ := h
  obtain ⟨w2, k1, k2, k3, k4⟩ := wrK j1.H hX hh
  have H2 := k2.H
  obtain ⟨w5, l1, l2, l3, l4, l5⟩ := hY w2 (j2.D k3 H2) (j3.D k3) (j4.D k3)
  exact ⟨w2, w5, hW _ k1, l1, H2, l3.H, k3.2.2.1, k3.2.2.2.1, l2, fun v hv => by rw [l5.2.2.1]; exact k4 v hv, ⟨k2.V l5 l3.H, l3, l4, (j4.D k3).V l5, hI⟩, k3.O l5⟩
theorem lCmp_s {x : Int} : lCmp x x = 0 := by unfold lCmp; rw [if_neg (by omega), if_neg (by omega)]
theorem y171 {w : Wd} (H : LR w) : F171 473 w = rI (gI w 473 4) w := e171 H l473 _ rfl
/-- they are held against each other -/
theorem tailW {w5 : Wd} {a : An} {c : Int} {N : Wd → Option Out} (H : LR w5) (hc : c ≠ 0) (h4 : gI w5 473 4 = ac c a) (hJ : ∀ v, a = .inl v → gJ w5 514 0 = v) :
    bI (F171 473 w5) (fun n7 w8 => (if n7 = ac c a then (if ac c a ≠ 0 then N w8 else gd (inb 0 1) ((if lCmp (gJ w8 514 0) (av a) = 0 then N w8 else rI 0 w8))) else rI 0 w8)) = N w5 := by
  rw [y171 H, bI_r H, h4, if_pos rfl]
  cases a with
  | inl v =>
    rw [if_neg (fun u => u rfl), gdi (by decide) (by decide), hJ v rfl, show av (.inl v) = v from rfl, lCmp_s, if_pos rfl]
  | inr e =>
    rw [if_pos]
    cases e with
    | zero => exact (show (1 : Int) ≠ 0 by decide)
    | succ e => exact hc
theorem l514 : lay 514 = (22, 1) := by decide +kernel
/-- questions: class and reference stand as they stood -/
theorem AnC.Cl {w : Wd} {A : AC} {m : Nat} {B : Row} {fp : Int} {F : Option Out} {a : An} (h : KC w A m B fp) (hF : AnC w F a) : ClA w F (a, A) m B fp := by
  cases a with
  | inl v =>
    obtain ⟨w', e1, f⟩ := hF
    obtain ⟨q, h1, h2⟩ := h
    exact ⟨w', e1, ⟨q, h1.fr f, h2.ext f.2.1 (f.1 1 (by decide) (by unfold SC; omega)) f.B⟩, f.K⟩
  | inr e => exact ⟨hF, h⟩
theorem AnZ.Cl {w : Wd} {A : AC} {m q : Nat} {B : Row} {fp : Int} {F : Option Out} {a : An × AC} (h : RC w q A) (hB : RB w q m B fp) (hF : AnZ w F a) (hs : ∀ e, a.1 = .inr e → a.2 = A) : ClA w F a m B fp := by
  obtain ⟨a, A'⟩ := a
  cases a with
  | inl v =>
    obtain ⟨w', q', e1, f1, f2, f3, f4, f5⟩ := hF
    have x1 : gR w' 0 3 = some q' := f1.1.2.1
    have x2 : gR w 0 3 = some q := h.1.2.1
    rw [f5.2.1, x2] at x1
    cases x1
    exact ⟨w', e1, ⟨q, f1, hB.ext f3 f4 f5⟩, f2⟩
  | inr e =>
    have := hs e rfl
    have this : A' = A := this
    subst this
    exact ⟨hF, ⟨q, h, hB⟩⟩
theorem AnT.Rf {c : Int} {w : Wd} {Y : Option Out} {a : An × AC} {m : Nat} {B : Row} {fp : Int} (hT : RTm w m B fp) (h : AnT c w Y a) : RfA c w Y a m B fp := by
  obtain ⟨w', h1, h2, h3, h4⟩ := h
  exact ⟨w', h1, h2, h3, ⟨by rw [h4.2 17 (by omega)]; exact hT.1, by rw [h4.2 26 (by omega)]; exact hT.2.1, fun i hi => by rw [h4.1.g (by decide)]; exact hT.2.2 i hi⟩, h4.X.V⟩
theorem AnM.Rf {c : Int} {w : Wd} {Y : Option Out} {a : An} {A : AC} {m : Nat} {B : Row} {fp : Int} (h : MY w A) (hT : RTm w m B fp) (hM : AnM (oQ A) (oS A) c w Y a) : RfA c w Y (a, A) m B fp := AnT.Rf hT (hM.T h)
