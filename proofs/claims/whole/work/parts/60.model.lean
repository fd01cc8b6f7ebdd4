/-! the reference: 473; its rows behind it -/
theorem l473 : (lay 473).1 = 12 := by rfl
/-- the reference's codes as the class has them -/
def ec (s : Int) : Int := if 0 ≤ s then -1 - s else if -20 < s then 108 - s else if s = -20 then 43 else if s = -21 then 45 else if s = -22 then 42 else if s = -23 then 47 else if s = -24 then 60 else if s = -25 then 61 else if s = -26 then 107 else if s = -27 then 106 else if s = -28 then 108 else 0
def RMS (w : Wd) (s : ST) : Prop := gI w 489 = uL s ∧ gI w 490 = uG s ∧ gI w 491 = uW s ∧ gI w 487 = uM s ∧ gI w 473 33 = uT s ∧ gI w 473 34 = uC s ∧ gI w 473 35 = b2i (uP s) ∧ gI w 473 36 = mk (uI s) 8
def RMQ (w : Wd) (Q : QT) : Prop := gI w 477 0 = zk Q ∧ gI w 477 1 = zn Q ∧ gI w 477 3 = (za Q).1 ∧ gI w 477 4 = (zs Q).1 ∧ (∀ p, p < zn Q → gI w 478 p = b2i (zm Q p)) ∧ (∀ p, p < zn Q → ∃ m : Nat, 1 ≤ m ∧ m ≤ 6 ∧ gI w 482 p = m ∧ ∀ t : Nat, gI w 483 (6 * p + t % m) = zc Q p t) ∧
  (∀ i, i < (za Q).1 → ec (gI w 484 i) = (za Q).2 i) ∧ (∀ i, i < (zs Q).1 → ec (gI w 485 i) = (zs Q).2 i) ∧ (∀ i, i < (za Q).1 → (za Q).2 i ≤ 113)
theorem RMQ.fr {A : Nat → Prop} {w w' : Wd} {Q : QT} (h : RMQ w Q) (hf : FrI A w w') (hA : ∀ b, 477 ≤ b → b ≤ 485 → ¬ A b) : RMQ w' Q := by
  unfold RMQ
  rw [hf.1 477 (hA _ (by omega) (by omega)), hf.1 478 (hA _ (by omega) (by omega)), hf.1 482 (hA _ (by omega) (by omega)), hf.1 483 (hA _ (by omega) (by omega)), hf.1 484 (hA _ (by omega) (by omega)), hf.1 485 (hA _ (by omega) (by omega))]
  exact h
/-- the reference stands so -/
def MQx (w : Wd) (Q : QT) (s : ST) : Prop := RMQ w Q ∧ RMS w s ∧ LR w ∧ GQ Q ∧ GS (zn Q) s ∧ (∀ p, zn Q ≤ p → uI s p = false) ∧ (gI w 473 44 = 0 ∨ gI w 473 44 = 1)
theorem MQx.H {w : Wd} {Q : QT} {s : ST} (h : MQx w Q s) : LR w := h.2.2.1
theorem MQx.g {w : Wd} {Q : QT} {s : ST} (h : MQx w Q s) : GQ Q := h.2.2.2.1
theorem MQx.s {w : Wd} {Q : QT} {s : ST} (h : MQx w Q s) : GS (zn Q) s := h.2.2.2.2.1
theorem MQx.n {w : Wd} {Q : QT} {s : ST} (h : MQx w Q s) : gI w 477 1 = zn Q := h.1.2.1
theorem MQx.n8 {w : Wd} {Q : QT} {s : ST} (h : MQx w Q s) : zn Q ≤ 8 := h.g.1
theorem MQx.t {w : Wd} {Q : QT} {s : ST} (h : MQx w Q s) : 0 ≤ uT s ∧ uT s ≤ 100000 := ⟨h.s.2.2.2.2.2.2.1, h.s.2.2.2.2.2.2.2⟩
/-- rows that hold no state of the reference: it is the same -/
theorem MQx.fr {A : Nat → Prop} {w w' : Wd} {Q : QT} {s : ST} (h : MQx w Q s) (f : FrI A w w') (hA : ∀ b, A b → b ≠ 473 ∧ b < 477 ∨ 485 < b ∧ b ≠ 487 ∧ b ≠ 489 ∧ b ≠ 490 ∧ b ≠ 491) : MQx w' Q s := by
  obtain ⟨h1, h2, h3, h4, h5, h6, h7⟩ := h
  have g : ∀ b, b = 473 ∨ (477 ≤ b ∧ b ≤ 485) ∨ b = 487 ∨ b = 489 ∨ b = 490 ∨ b = 491 → gI w' b = gI w b := fun b hb => f.g (fun z => by have := hA b z; omega)
  refine ⟨h1.fr f (fun b b1 b2 z => by have := hA b z; omega), ?_, f.LR h3, h4, h5, h6, by rw [g 473 (by omega)]; exact h7⟩
  unfold RMS
  rw [g 489 (by omega), g 490 (by omega), g 491 (by omega), g 487 (by omega), g 473 (by omega)]
  exact h2
theorem y210 {w : Wd} {Q : QT} {s : ST} {p t : Nat} (h : MQx w Q s) (hp : p < zn Q) (ht : t < 2000000) : F210 473 p t w = rI (zc Q p t) w := by
  have h8 := h.n8
  obtain ⟨m, m1, m2, m3, m4⟩ := h.1.2.2.2.2.2.1 p hp
  have hm := Nat.mod_lt t (show m > 0 by omega)
  refine e210 h.H l473 _ ?_
  rw [gdi (by omega) (by omega), nn, show gI w (473 + 9) p = m from m3, gP_t (by omega), show Int.tmod (t : Int) (m : Int) = ((t % m : Nat) : Int) from rfl]
  have e2 : wr (wr (6 * (p : Int)) + ((t % m : Nat) : Int)) = ((6 * p + t % m : Nat) : Int) := by rw [wrd (z := 6 * (p : Int)) (by omega) (by omega), wrd (by omega) (by omega)]; omega
  rw [e2, gdi (by omega) (by omega), nn, show gI w (473 + 10) (6 * p + t % m) = zc Q p t from m4 t]
theorem y211 {w : Wd} {Q : QT} {s : ST} {c : Int} {t : Nat} (h : MQx w Q s) (ht : t < 2000000) : F211 473 c t w = rI (mk (atC Q c t) 8) w := by
  have h8 := h.n8
  obtain ⟨v, hv, e⟩ := lpR (F := fun k v => s211_5 473 c t v k w) (I := fun k v => v = mk (atC Q c t) k) (zn Q) (fun k v hk e => by
    subst e
    refine ⟨_, fun o ho => e211_5 h.H l473 _ ?_, rfl⟩
    rw [gdi (by omega) (by omega), show gI w (473 + 4) 1 = zn Q from h.n, if_neg (by omega), y210 h hk ht, bI_r h.H, wrd (by omega) (by omega)]
    rw [mk_s2 (by omega), atC_in hk] at ho
    by_cases z : zc Q k t = c
    · rw [if_neg (by omega)]
      rw [if_pos (by simpa using z)] at ho
      exact ho
    · rw [if_pos (by omega)]
      rw [if_neg (by simpa using z)] at ho
      exact ho) 0 rfl
  subst e
  rw [mk_ge h8 (fun i h1 _ => atC_out h1)]
  exact e211 h.H l473 _ (hv _ (e211_5 h.H l473 _ (by rw [gdi (by omega) (by omega), show gI w (473 + 4) 1 = zn Q from h.n, if_pos (Int.le_refl _)])))
theorem y212 {w : Wd} {Q : QT} {s : ST} {p : Nat} (h : MQx w Q s) (hp : p < zn Q) : F212 473 p w = rI (mk (oth Q (uT s).toNat p) 8) w := by
  have h8 := h.n8
  have ht := h.t
  have e7 : gI w 473 33 = (((uT s).toNat : Nat) : Int) := by rw [h.2.1.2.2.2.2.1]; omega
  refine e212 h.H l473 _ ?_
  rw [e7, y210 h hp (by omega), bI_r h.H, e7, y211 h (by omega), bI_r h.H, mk_del (by omega) (by omega)]
  rfl
theorem y213 {w : Wd} {Q : QT} {s : ST} (h : MQx w Q s) : F213 473 w = rI (mk (alv s) 8) w := by
  have h8 := h.n8
  obtain ⟨v, hv, e⟩ := lpR (F := fun k v => s213_4 473 v k w) (I := fun k v => v = mk (alv s) k) (zn Q) (fun k v hk e => by
    subst e
    refine ⟨_, fun o ho => e213_4 h.H l473 _ ?_, rfl⟩
    rw [gdi (by omega) (by omega), show gI w (473 + 4) 1 = zn Q from h.n, if_neg (by omega), gdi (by omega) (by omega), nn, show gI w (473 + 16) k = uL s k by rw [show gI w (473 + 16) = uL s from h.2.1.1], wrd (by omega) (by omega)]
    rw [mk_s2 (by omega)] at ho
    by_cases z : 0 < uL s k
    · rw [if_neg (by omega)]
      rw [if_pos (show alv s k = true from decide_eq_true z)] at ho
      exact ho
    · rw [if_pos (by omega)]
      rw [if_neg (show ¬ alv s k = true from fun y => z (of_decide_eq_true y))] at ho
      exact ho) 0 rfl
  subst e
  rw [mk_ge h8 (fun i h1 _ => by unfold alv; rw [h.s.2.1 i h1]; rfl)]
  exact e213 h.H l473 _ (hv _ (e213_4 h.H l473 _ (by rw [gdi (by omega) (by omega), show gI w (473 + 4) 1 = zn Q from h.n, if_pos (Int.le_refl _)])))
theorem y177 {w : Wd} {x : Int} (H : LR w) (hx : -1000000 ≤ x ∧ x ≤ 1000000) : F177 x w = rI (x % 60) w := by
  refine e177 H _ ?_
  have hm := Int.tmod_def x 60
  by_cases z : 0 ≤ x
  · rw [Int.tmod_eq_emod_of_nonneg z, if_pos (by omega)]
  · have e : Int.tmod x 60 = if x % 60 = 0 then 0 else x % 60 - 60 := by
      rw [hm]
      have ht : Int.tdiv x 60 = -((-x) / 60) := by
        have := Int.neg_tdiv (-x) 60
        rw [Int.neg_neg] at this
        rw [this, Int.tdiv_eq_ediv_of_nonneg (by omega)]
      rw [ht]
      split <;> omega
    rw [e]
    by_cases y : x % 60 = 0
    · rw [if_pos y, if_pos (by omega), y]
    · rw [if_neg y, if_neg (by omega), wrd (by omega) (by omega), show x % 60 - 60 + 60 = x % 60 by omega]
theorem y214 {w : Wd} {Q : QT} {s : ST} {p : Nat} (h : MQx w Q s) (hp : p < 8) : F214 473 p w = rI (shw s p) w := by
  have h3 := h.s.2.2.1 p
  have h6 := h.s.2.2.2.2.2.1
  refine e214 h.H l473 _ ?_
  rw [gdi (by omega) (by omega), nn, show gI w 473 34 = uC s from h.2.1.2.2.2.2.2.1, show gI w (473 + 18) p = uW s p by rw [show gI w (473 + 18) = uW s from h.2.1.2.2.1], wrd (z := uC s + uW s p) (by omega) (by omega), wrd (by omega) (by omega), y177 h.H (by omega), bI_r h.H]
  unfold shw
  rw [show (uC s + uW s p - 30) % 60 = (uC s + uW s p + 30) % 60 by omega]
theorem kern : ∀ m : Nat, m < 256 → 0 < m → tbN (m &&& (m - 1)) + 1 = tbN m ∧ m &&& (m - 1) < m := by decide +kernel
theorem y176a {w : Wd} (H : LR w) : ∀ (n m : Nat) (x : Int) (c : Nat), m ≤ n → m < 256 → c + m ≤ 1000 → s176_4 x c m w = rI ((c + tbN m : Nat) : Int) w := by
  intro n
  induction n with
  | zero =>
    intro m x c hm h2 h3
    have : m = 0 := by omega
    subst this
    exact e176_4 H _ (if_pos (show ((0 : Nat) : Int) = 0 from rfl))
  | succ n ih =>
    intro m x c hm h2 h3
    refine e176_4 H _ ?_
    by_cases z : m = 0
    · subst z; exact if_pos (show ((0 : Nat) : Int) = 0 from rfl)
    · obtain ⟨k1, k2⟩ := kern m h2 (by omega)
      have e1 : wr ((m : Int) - 1) = ((m - 1 : Nat) : Int) := by rw [wrd (by omega) (by omega)]; omega
      have e2 : wr ((c : Int) + 1) = ((c + 1 : Nat) : Int) := wrs (by omega)
      rw [if_neg (by omega), e1, e2, bAnd_n (by omega) (by omega)]
      rw [ih _ x (c + 1) (by omega) (by omega) (by omega), show c + 1 + tbN (m &&& (m - 1)) = c + tbN m by omega]
theorem y176 {w : Wd} {P : Nat → Bool} (H : LR w) : F176 (mk P 8) w = rI (cn P 8 : Nat) w := by
  have h := nmk_256 (P := P)
  refine e176 H _ ?_
  have := y176a H (nmk P 8) (nmk P 8) (mk P 8) 0 (Nat.le_refl _) h (by omega)
  rw [Nat.zero_add, ← nmk_self] at this
  exact this
theorem y175 {w : Wd} {P : Nat → Bool} {p : Nat} (H : LR w) (hp : p < 8) : F175 (mk P 8) p w = rI (b2i (P p)) w := by
  refine e175 H _ ?_
  cases hb : P p
  · rw [mk_bit_f (by omega) (by omega) hb, if_pos (by omega)]; rfl
  · rw [mk_bit_t (by omega) hp hb, if_neg (by omega)]; rfl
