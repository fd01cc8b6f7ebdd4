/-! the reference: what one who asks knows; whether one asks; what one says -/
theorem MQx.pf {w : Wd} {Q : QT} {s : ST} {i : Nat} {x : Int} (h : MQx w Q s) (hi : (i < 33 ∨ 36 < i) ∧ i ≠ 44) : MQx (pI w 473 i x) Q s := by
  obtain ⟨h1, h2, h3, h4, h5, h6, h7⟩ := h
  refine ⟨?_, ?_, h3, h4, h5, h6, by rw [gI_c (by omega)]; exact h7⟩
  · unfold RMQ at h1 ⊢
    rw [gI_r (b := 477) (by omega), gI_r (b := 478) (by omega), gI_r (b := 482) (by omega), gI_r (b := 483) (by omega), gI_r (b := 484) (by omega), gI_r (b := 485) (by omega)]
    exact h1
  · unfold RMS at h2 ⊢
    rw [gI_r (b := 489) (by omega), gI_r (b := 490) (by omega), gI_r (b := 491) (by omega), gI_r (b := 487) (by omega), gI_c (by omega), gI_c (by omega), gI_c (by omega), gI_c (by omega)]
    exact h2
theorem y217 {w : Wd} {Q : QT} {s : ST} {p : Nat} (h : MQx w Q s) (hp : p < zn Q) : ∃ w', F217 473 p w = r0 w' ∧ (∀ (to i : Nat), i < 5 → gI w' 493 i = vl Q s p to (109 + i)) ∧ FrI (fun b => b = 493) w w' := by
  have h8 := h.n8
  have f1 : FrI (fun b => b = 493) w (pI w 493 0 (uL s p)) := FrI.p rfl
  have h1 : MQx (pI w 493 0 (uL s p)) Q s := h.fr f1 (fun b e => by omega)
  have g1 : gI (pI w 493 0 (uL s p)) 493 0 = uL s p := gI_s
  have hM : ∀ {w' : Wd}, FrI (fun b => b = 493) w w' → gI w' 487 p = uM s p := fun {w'} f => by rw [f.g (by omega), h.2.1.2.2.2.1]
  have hT : ∀ {w' : Wd}, FrI (fun b => b = 493) w w' → gI w' 473 33 = uT s := fun {w'} f => by rw [f.g (by omega)]; exact h.2.1.2.2.2.2.1
  generalize hw1 : pI w 493 0 (uL s p) = w1 at *
  have f2 : FrI (fun b => b = 493) w (pI (pI w1 493 1 (shw s p)) 493 2 (uM s p)) := (f1.pp rfl).pp rfl
  have h2 : MQx (pI (pI w1 493 1 (shw s p)) 493 2 (uM s p)) Q s := h.fr f2 (fun b e => by omega)
  have g2 : gI (pI (pI w1 493 1 (shw s p)) 493 2 (uM s p)) 493 0 = uL s p ∧ gI (pI (pI w1 493 1 (shw s p)) 493 2 (uM s p)) 493 1 = shw s p ∧ gI (pI (pI w1 493 1 (shw s p)) 493 2 (uM s p)) 493 2 = uM s p := ⟨by rw [gI_c (by omega), gI_c (by omega), g1], by rw [gI_c (by omega), gI_s], gI_s⟩
  generalize hw2 : pI (pI w1 493 1 (shw s p)) 493 2 (uM s p) = w2 at *
  generalize hC : ((cn (fun r => oth Q (uT s).toNat p r && alv s r) 8 : Nat) : Int) = C
  have f3 : FrI (fun b => b = 493) w (pI (pI w2 493 3 C) 493 4 (uT s)) := (f2.pp rfl).pp rfl
  refine ⟨_, e217 h.H l473 _ ?_, ?_, f3⟩
  · rw [gdi (by omega) (by omega), gdi (by omega) (by omega), nn, show gI w (473 + 16) p = uL s p by rw [show gI w (473 + 16) = uL s from h.2.1.1], show (473 + 20 : Nat) = 493 from rfl, hw1, y214 h1 (by omega), bI_r h1.H]
    rw [gdi (by omega) (by omega), gdi (by omega) (by omega), gdi (by omega) (by omega), show gI (pI w1 493 1 (shw s p)) (473 + 14) p = uM s p from hM (f1.pp rfl), hw2, y212 h2 hp, bI_r h2.H, y213 h2, bI_r h2.H, mk_and (by omega), y176 h2.H, bI_r h2.H, hC, gdi (by omega) (by omega), gdi (by omega) (by omega), hT (f2.pp rfl)]
  · intro to i hi
    unfold vl
    have : i = 0 ∨ i = 1 ∨ i = 2 ∨ i = 3 ∨ i = 4 := by omega
    rcases this with e | e | e | e | e <;> subst e
    · rw [gI_c (by omega), gI_c (by omega), g2.1]; rfl
    · rw [gI_c (by omega), gI_c (by omega), g2.2.1]; rfl
    · rw [gI_c (by omega), gI_c (by omega), g2.2.2]; rfl
    · rw [gI_c (by omega), gI_s, ← hC]; rfl
    · rw [gI_s]; rfl
theorem y218 {w : Wd} {Q : QT} {s : ST} {p : Nat} (h : MQx w Q s) (hp : p < zn Q) : ∃ w', F218 473 p w = rI (b2i (wnt Q s p)) w' ∧ FrI (fun b => b = 493 ∨ b = 494) w w' := by
  have h8 := h.n8
  have t3 : gI w (473 + 4) 3 = ((za Q).1 : Int) := h.1.2.2.1
  by_cases z : (za Q).1 = 0
  · refine ⟨w, e218 h.H l473 _ ?_, FrI.rf⟩
    rw [gdi (by omega) (by omega), t3, if_neg (by omega), gdi (by omega) (by omega), nn, show gI w (473 + 16) p = uL s p by rw [show gI w (473 + 16) = uL s from h.2.1.1]]
    unfold wnt
    rw [if_pos z]
    by_cases y : uL s p ≤ 60
    · rw [if_neg (by omega), decide_eq_true y]; rfl
    · rw [if_pos (by omega), decide_eq_false y]; rfl
  · obtain ⟨w1, k1, k2, k3⟩ := y217 h hp
    have h1 := h.fr k3 (fun b e => by omega)
    obtain ⟨w2, k4, k5⟩ := y216 (a := 484) (R := za Q) (V := vl Q s p p) h1.H (by rfl) (by omega) (fun i hi => h1.1.2.2.2.2.2.2.1 i hi) h.g.2.2.1 (by omega) (fun i hi h9 => by
      have hb := h.1.2.2.2.2.2.2.2.2 i hi
      rw [k2 p _ (by omega)]
      congr 1
      omega)
    refine ⟨w2, e218 h.H l473 _ ?_, (k3.wk (fun b e => Or.inl e)).tr (k5.wk (fun b e => Or.inr e))⟩
    rw [gdi (by omega) (by omega), t3, if_pos (by omega), k1, b0_r h1.H, gdi (by omega) (by omega), show gI w1 (473 + 4) 3 = ((za Q).1 : Int) by rw [k3.g (by omega)]; exact t3, show (473 + 11 : Nat) = 484 from rfl, k4, bI_r (k5.LR h1.H)]
    unfold wnt
    rw [if_neg z]
    by_cases y : 0 < evR (vl Q s p p) (za Q)
    · rw [if_neg (by omega), decide_eq_true y]; rfl
    · rw [if_pos (by omega), decide_eq_false y]; rfl
theorem y219a {w : Wd} {a b x : Int} (H : LR w) : s219_86 473 a b x w = rI (max 0 (min 59 x)) w := by
  refine e219_86 H l473 _ ?_
  rw [q326 H, bI_r H, q325 H, bI_r H]
theorem y219 {w : Wd} {Q : QT} {s : ST} {p to : Nat} (h : MQx w Q s) (hp : p < zn Q) (ht : to < 8) : ∃ w', F219 473 p to w = rI (say Q s p to) w' ∧ FrI (fun b => b = 493 ∨ b = 494) w w' := by
  have h8 := h.n8
  have hm := h.s.2.2.2.1 p
  have hsh := shw_b s p
  have t4 : gI w 477 4 = ((zs Q).1 : Int) := h.1.2.2.2.1
  have tm : gI w (473 + 5) p = b2i (zm Q p) := h.1.2.2.2.2.1 p hp
  have hpre : ∀ {o : Out}, (if b2i (zm Q p) ≠ 1 then gd (inb 4 10) (if gI w (473 + 4) 4 ≤ 0 then s219_86 473 p to (shw s p) w else b0 (F217 473 p w) (fun w5 => gd (inb to 8) (gd (inb 5 7) (gd (inb p 8) (gd (inb 6 7) (gd (inb 4 10) (bI (F216 473 (473 + 12) (gI (pI (pI w5 (473 + 20) 5 (gI w5 (473 + 16) (to : Int).toNat)) (473 + 20) 6 (gI (pI w5 (473 + 20) 5 (gI w5 (473 + 16) (to : Int).toNat)) (473 + 17) (p : Int).toNat)) (473 + 4) 4) (pI (pI w5 (473 + 20) 5 (gI w5 (473 + 16) (to : Int).toNat)) (473 + 20) 6 (gI (pI w5 (473 + 20) 5 (gI w5 (473 + 16) (to : Int).toNat)) (473 + 17) (p : Int).toNat))) (fun n7 w8 => s219_86 473 p to n7 w8)))))))) else gd (inb p 8) (bI (F325 0 (wr ((wr (Int.tdiv (shw s p) 15)) - (gI w (473 + 14) (p : Int).toNat))) w) (fun n10 w11 => rI n10 w11))) = some o → F219 473 p to w = some o := by
    intro o ho
    refine e219 h.H l473 _ ?_
    rw [y214 h (by omega), bI_r h.H, gdi (by omega) (by omega), nn, tm]
    exact ho
  unfold say
  cases z : zm Q p
  · rw [if_neg (by simp)]
    by_cases z2 : (zs Q).1 = 0
    · refine ⟨w, hpre ?_, FrI.rf⟩
      rw [z, if_pos (by decide), gdi (by omega) (by omega), show gI w (473 + 4) 4 = _ from t4, if_pos (by omega), if_pos z2, y219a h.H, show max 0 (min 59 (shw s p)) = shw s p by omega]
    · obtain ⟨w1, k1, k2, k3⟩ := y217 h hp
      have h1 := h.fr k3 (fun b e => by omega)
      have f2 : FrI (fun b => b = 493) w (pI (pI w1 493 5 (uL s to)) 493 6 (uG s p)) := (k3.pp rfl).pp rfl
      have h2 := h.fr f2 (fun b e => by omega)
      have eL : gI w1 489 to = uL s to := by rw [h1.2.1.1]
      have eG : gI (pI w1 493 5 (uL s to)) 490 p = uG s p := by rw [gI_r (by omega), h1.2.1.2.1]
      have e4 : gI (pI (pI w1 493 5 (uL s to)) 493 6 (uG s p)) 477 4 = ((zs Q).1 : Int) := by rw [f2.g (by omega)]; exact t4
      have gv : ∀ i : Nat, i < 7 → gI (pI (pI w1 493 5 (uL s to)) 493 6 (uG s p)) 493 i = vl Q s p to (109 + i) := by
        intro i hi
        by_cases e5 : i = 5
        · subst e5; rw [gI_c (by omega), gI_s]; rfl
        by_cases e6 : i = 6
        · subst e6; rw [gI_s]; rfl
        rw [gI_c e6, gI_c e5]
        exact k2 to i (by omega)
      generalize hw2 : pI (pI w1 493 5 (uL s to)) 493 6 (uG s p) = w2 at *
      obtain ⟨w3, k4, k5⟩ := y216 (a := 485) (R := zs Q) (V := vl Q s p to) h2.H (by rfl) (by omega) (fun i hi => h2.1.2.2.2.2.2.2.2.1 i hi) h.g.2.2.2.1 (by omega) (fun i hi h9 => by
        have hb := h.g.2.2.2.1.2.1 i hi
        unfold okSg at hb
        rw [gv _ (by omega)]
        congr 1
        omega)
      refine ⟨w3, hpre ?_, (f2.wk (fun b e => Or.inl e)).tr (k5.wk (fun b e => Or.inr e))⟩
      rw [z, if_pos (by decide), gdi (by omega) (by omega), show gI w (473 + 4) 4 = _ from t4, if_neg (by omega), k1, b0_r h1.H, gdi (by omega) (by omega), gdi (by omega) (by omega), gdi (by omega) (by omega), gdi (by omega) (by omega), gdi (by omega) (by omega), nn, nn, show gI w1 (473 + 16) to = uL s to from eL, show gI (pI w1 (473 + 20) 5 (uL s to)) (473 + 17) p = uG s p from eG, show pI (pI w1 (473 + 20) 5 (uL s to)) (473 + 20) 6 (uG s p) = w2 from hw2, show gI w2 (473 + 4) 4 = _ from e4, show (473 + 12 : Nat) = 485 from rfl, k4, bI_r (k5.LR h2.H), if_neg z2, y219a (k5.LR h2.H), show min 59 (evR (vl Q s p to) (zs Q)) = min (evR (vl Q s p to) (zs Q)) 59 by omega]
  · refine ⟨w, hpre ?_, FrI.rf⟩
    rw [z, if_neg (by decide), gdi (by omega) (by omega), nn, show gI w (473 + 14) p = uM s p by rw [show gI w (473 + 14) = uM s from h.2.1.2.2.2.1], if_pos rfl, show Int.tdiv (shw s p) 15 = shw s p / 15 from Int.tdiv_eq_ediv_of_nonneg (by omega), wrd (z := shw s p / 15) (by omega) (by omega), wrd (by omega) (by omega), q325 h.H, bI_r h.H]
theorem richn {f : Row} {P : Nat → Bool} : ∀ {n m : Nat}, n ≤ m → (∀ i, n ≤ i → P i = false) → rich f P m = rich f P n := by
  intro n m hm hP
  induction m with
  | zero => rw [show n = 0 by omega]
  | succ m ih =>
    by_cases e : n = m + 1
    · rw [e]
    · show richS f P m (rich f P m) = _
      unfold richS
      rw [if_neg (fun z => by rw [hP m (by omega)] at z; exact absurd z.1 (by decide)), ih (by omega)]
theorem y220 {w : Wd} {Q : QT} {s : ST} {P : Nat → Bool} (h : MQx w Q s) (hP : ∀ i, zn Q ≤ i → P i = false) : F220 473 (mk P 8) w = rI (rich (uL s) P 8).1 w := by
  have h8 := h.n8
  obtain ⟨v, hv, e⟩ := lpR (F := fun k v => s220_4 473 (mk P 8) v k w) (I := fun k v => v = (rich (uL s) P k).1) (zn Q) (fun k v hk e => by
    subst e
    refine ⟨_, fun o ho => e220_4 h.H l473 _ ?_, rfl⟩
    have hL : ∀ j, gI w (473 + 16) j = uL s j := fun j => by rw [show gI w (473 + 16) = uL s from h.2.1.1]
    have e2 : rich (uL s) P (k + 1) = richS (uL s) P k (rich (uL s) P k) := rfl
    rw [e2] at ho
    unfold richS at ho
    rw [gdi (by omega) (by omega), show gI w (473 + 4) 1 = zn Q from h.n, if_neg (by omega), y175 h.H (by omega), bI_r h.H, wrd (by omega) (by omega)]
    cases q : P k
    · rw [if_pos (show b2i false = 0 from rfl)]
      rw [if_neg (by rw [q]; exact fun z => absurd z.1 (by decide))] at ho
      exact ho
    · rw [if_neg (show ¬ b2i true = 0 by decide)]
      have hk0 := (h.s.1 k).1
      rcases rich_in (P := P) (fun p => (h.s.1 p).1) k with ⟨h1, h2, -⟩ | ⟨r, h1, h2, h3, h4, h5⟩
      · rw [if_pos h1]
        rw [if_pos ⟨q, by omega⟩] at ho
        exact ho
      · rw [h2, if_neg (by omega), gdi (by omega) (by omega), gdi (by omega) (by omega), nn, nn, hL, hL]
        by_cases z : uL s r < uL s k
        · rw [if_neg (by omega)]
          rw [if_pos ⟨q, by omega⟩] at ho
          exact ho
        · rw [if_pos (by omega)]
          rw [if_neg (by rw [h3]; exact fun y => z y.2), h2] at ho
          exact ho) (-1) rfl
  subst e
  rw [richn h8 hP]
  exact e220 h.H l473 _ (hv _ (e220_4 h.H l473 _ (by rw [gdi (by omega) (by omega), show gI w (473 + 4) 1 = zn Q from h.n, if_pos (Int.le_refl _)])))
