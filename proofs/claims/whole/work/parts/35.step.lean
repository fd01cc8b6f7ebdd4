/-! a step of the class's port -/
theorem l4_6 {q : Nat} (h : (lay q).1 = 4) : (lay (q + 6)).1 = 6 := lyc (ly4_6 h)
theorem l4_8 {q : Nat} (h : (lay q).1 = 4) : (lay (q + 8)).1 = 6 := lyc (ly4_8 h)
theorem RQ.asks {w : Wd} {q : Nat} {Q : QT} (h : RQ w q Q) : WO w (q + 6) (za Q) := ⟨h.2.2.2.2.1, h.2.2.2.2.2.1⟩
theorem RQ.says {w : Wd} {q : Nat} {Q : QT} (h : RQ w q Q) : WO w (q + 8) (zs Q) := ⟨h.2.2.2.2.2.2.1, h.2.2.2.2.2.2.2⟩
theorem b2i_ne {b : Bool} : b2i b ≠ 0 ↔ b = true := by cases b <;> simp [b2i]
theorem b2i_e0 {b : Bool} : b2i b = 0 ↔ b = false := by cases b <;> simp [b2i]
theorem b2i_or (b : Bool) : b2i b = 0 ∨ b2i b = 1 := by cases b <;> simp [b2i]
theorem q22 {a q p t n : Nat} {w : Wd} {Q : QT} {s : ST} (H : LR w) (h : (lay a).1 = 8) (hl : (lay q).1 = 4) (hg : GQ Q) (hp : p < zn Q) (hr : PL w Q t) (ht : t = (uT s).toNat) (hs : RS w a s) (hG : GS n s) (hQ : RQ w q Q) (hd : a = 34 ∨ a = 39) (hdr : q = 2 ∨ q = 17) :
    ∃ w', F22 27 q a p w = rI (b2i (wnt Q s p)) w' ∧ FrI (fun b => b = 33) w w' := by
  have h8 := hg.1
  have e0 := q63 H (l4_6 hl) hQ.asks.1
  by_cases z : (za Q).1 = 0
  · refine ⟨w, e22 H l27 hl h _ ?_, FrI.rf⟩
    rw [e0, bI_r H, if_neg (by rw [b2i_ne]; simp [z]), q75 H h (by omega), bI_r H, hs.1]
    unfold wnt
    rw [if_pos z]
    by_cases y : uL s p ≤ 60
    · rw [if_neg (by omega)]; simp [b2i, y]
    · rw [if_pos (by omega)]; simp [b2i, y]
  · obtain ⟨w', h1, h2⟩ := q24 (to := p) H h (l4_6 hl) hg hp (by omega) hr ht hs hG hQ.asks hg.2.2.1 (by omega) hd (by omega)
    refine ⟨w', e22 H l27 hl h _ ?_, h2⟩
    rw [e0, bI_r H, if_pos (by rw [b2i_ne]; simp; omega), h1, bI_r (h2.LR H)]
    unfold wnt
    rw [if_neg z]
    by_cases y : 0 < evR (vl Q s p p) (za Q)
    · rw [if_neg (by omega)]; simp [b2i, y]
    · rw [if_pos (by omega)]; simp [b2i, y]
theorem q23 {a q p to t n : Nat} {w : Wd} {Q : QT} {s : ST} (H : LR w) (h : (lay a).1 = 8) (hl : (lay q).1 = 4) (hg : GQ Q) (hp : p < zn Q) (hto : to < 8) (hr : PL w Q t) (ht : t = (uT s).toNat) (hs : RS w a s) (hG : GS n s) (hQ : RQ w q Q) (hd : a = 34 ∨ a = 39) (hdr : q = 2 ∨ q = 17) :
    ∃ w', F23 27 q a p to w = rI (say Q s p to) w' ∧ FrI (fun b => b = 33) w w' := by
  have h8 := hg.1
  have e0 := q63 H (l4_8 hl) hQ.says.1
  have hm := hG.2.2.2.1 p
  have hb := shw_b s p
  unfold say
  cases z : zm Q p
  · by_cases y : (zs Q).1 = 0
    · refine ⟨w, e23 H l27 hl h _ ?_, FrI.rf⟩
      rw [q34 H hl (by omega) hQ, bI_r H, if_pos (by rw [b2i_e0]; exact z), e0, bI_r H, if_neg (by rw [b2i_ne]; simp [y]), q79 H h (by omega) hs hG, bI_r H, if_neg (by simp), if_pos y]
    · obtain ⟨w', h1, h2⟩ := q24 (to := to) H h (l4_8 hl) hg hp hto hr ht hs hG hQ.says hg.2.2.2.1 (by omega) hd (by omega)
      have H' := h2.LR H
      refine ⟨w', e23 H l27 hl h _ ?_, h2⟩
      rw [q34 H hl (by omega) hQ, bI_r H, if_pos (by rw [b2i_e0]; exact z), e0, bI_r H, if_pos (by rw [b2i_ne]; simp; omega), h1, bI_r H', q326 H', bI_r H', q325 H', bI_r H', if_neg (by simp), if_neg y]
  · refine ⟨w, e23 H l27 hl h _ ?_, FrI.rf⟩
    rw [q34 H hl (by omega) hQ, bI_r H, if_neg (by rw [b2i_e0]; simp [z]), q79 H h (by omega) hs hG, bI_r H, q77 H h (by omega), bI_r H, hs.2.2.1, Int.tdiv_eq_ediv_of_nonneg hb.1, wrd (z := shw s p / 15) (by omega) (by omega), wrd (by omega) (by omega), q325 H, bI_r H, if_pos rfl, show max (shw s p / 15 - uM s p) 0 = max 0 (shw s p / 15 - uM s p) by omega]
theorem q21 {p q : Nat} {m : Int} {w : Wd} (H : LR w) (hp : p < 8) (hq : q < 8) : ∃ w', F21 27 p q m w = r0 w' ∧ FrI (fun b => b = 27 ∨ b = 30 ∨ b = 31 ∨ b = 32) w w' ∧ gI w' 30 = va_up (gI w 30) p q ∧ gI w' 31 = va_up (gI w 31) q (wr (gI w 31 q + 1)) ∧
    gI w' 32 = va_up (gI w 32) (8 * q + p) (wr (gI w 32 (8 * q + p) + m)) ∧ gI w' 27 6 = wr (gI w 27 6 + m) ∧ gI w' 27 7 = gI w 27 7 := by
  have e1 : wr (wr ((q : Int) * 8) + p) = ((8 * q + p : Nat) : Int) := by rw [wrd (z := (q : Int) * 8) (by omega) (by omega), wrd (by omega) (by omega)]; omega
  refine ⟨pI (pI (pI (pI w 30 p q) 31 q (wr (gI w 31 q + 1))) 32 (8 * q + p) (wr (gI w 32 (8 * q + p) + m))) 27 6 (wr (gI w 27 6 + m)), e21 H l27 _ ?_, ?_⟩
  · rw [if_neg (by omega), if_neg (by omega), if_neg (by omega), if_neg (by omega), e1]
    simp (disch := omega) only [gdi, nn, gI_s, gI_c, gI_r]
  · refine ⟨(((FrI.p (by omega)).pp (by omega)).pp (by omega)).pp (by omega), ?_, ?_, ?_, ?_, ?_⟩
    · simp (disch := omega) only [gI_r, gI_p]
    · simp (disch := omega) only [gI_r, gI_p]
    · simp (disch := omega) only [gI_r, gI_p]
    · simp (disch := omega) only [gI_s]
    · simp (disch := omega) only [gI_r, gI_c]
theorem GS_hnd {n q : Nat} {s : ST} {m : Int} (hs : GS n s) (hm : 0 ≤ m ∧ m ≤ uL s q) : GS n (hnd1 s q m) := by
  obtain ⟨g1, g2, g3, g4, g5, g6, g7⟩ := hs
  refine ⟨fun i => ?_, fun i hi => ?_, g3, g4, fun i => ?_, g6, g7⟩
  · show 0 ≤ va_up (uL s) q (uL s q - m) i ∧ va_up (uL s) q (uL s q - m) i ≤ 999
    have q1 := g1 q
    have q3 := g1 i
    unfold va_up
    split <;> omega
  · show va_up (uL s) q (uL s q - m) i = 0
    have q1 := g2 i hi
    by_cases e : i = q
    · subst e; rw [up_s]; omega
    · rw [up_c e]; exact q1
  · show 0 ≤ va_up (uG s) q (min (uG s q + m) 9999) i ∧ va_up (uG s) q (min (uG s q + m) 9999) i ≤ 9999
    have q1 := g5 q
    have q3 := g5 i
    unfold va_up
    split <;> omega
theorem RS_hnd {w : Wd} {a q : Nat} {s : ST} {m : Int} (h : RS w a s) : RS (pI (pI w (a + 1) q (uL s q - m)) (a + 4) q (min (uG s q + m) 9999)) a (hnd1 s q m) := by
  rw [pI_eq (w := w) h.1]
  have h2 : RS (sI w (a + 1) (va_up (uL s) q (uL s q - m))) a (pL s (va_up (uL s) q (uL s q - m))) := RS_L h
  rw [pI_eq (f := uG s) h2.2.2.2.1]
  exact RS_G h2
theorem RS_rcv {w : Wd} {a p : Nat} {s : ST} {m : Int} (h : RS w a s) : RS (pI w (a + 1) p (min (uL s p + m) 999)) a (rcv s p m) := by
  rw [pI_eq (w := w) h.1]
  exact RS_L h
/-- what one ask adds to the port's counts -/
def dT (Q : QT) (s : ST) (p i : Nat) : Int := if asks Q s p = true ∧ whoA Q s p = i then 1 else 0
def dH (Q : QT) (s : ST) (p q i : Nat) : Int := if asks Q s p = true ∧ i = p ∧ whoA Q s p = q then mch Q s p else 0
def dP (Q : QT) (s : ST) (p : Nat) : Int := if asks Q s p = true then mch Q s p else 0
def AP (a b : Nat) : Prop := AS a b ∨ b = 27 ∨ (30 ≤ b ∧ b ≤ 33)
/-- the counts have grown so -/
def LGR (v v' : Wd) (T : Nat → Int) (Hd : Nat → Nat → Int) (P : Int) : Prop := (∀ i, i < 8 → okI (gI v 31 i) → gI v' 31 i = wr (gI v 31 i + T i)) ∧ (∀ q i, q < 8 → i < 8 → okI (gI v 32 (8 * q + i)) → gI v' 32 (8 * q + i) = wr (gI v 32 (8 * q + i) + Hd q i)) ∧ (okI (gI v 27 6) → gI v' 27 6 = wr (gI v 27 6 + P))
theorem wr0 {x : Int} (h : okI x) : x = wr (x + 0) := by unfold okI at h; rw [wrd (by omega) (by omega)]; omega
theorem wr_wr (x y : Int) : wr (wr x + y) = wr (x + y) := by unfold wr; omega
theorem LGR.rf {v v' : Wd} (h1 : gI v' 31 = gI v 31) (h2 : gI v' 32 = gI v 32) (h3 : gI v' 27 6 = gI v 27 6) : LGR v v' (fun _ => 0) (fun _ _ => 0) 0 := ⟨fun i _ h => by rw [h1]; exact wr0 h, fun q i _ _ h => by rw [h2]; exact wr0 h, fun h => by rw [h3]; exact wr0 h⟩
theorem LGR.tr {a b c : Wd} {T T' : Nat → Int} {Hd Hd' : Nat → Nat → Int} {P P' : Int} (h : LGR a b T Hd P) (h' : LGR b c T' Hd' P') : LGR a c (fun i => T i + T' i) (fun q i => Hd q i + Hd' q i) (P + P') := by
  refine ⟨fun i hi ho => ?_, fun q i hq hi ho => ?_, fun ho => ?_⟩
  · have e := h.1 i hi ho
    rw [h'.1 i hi (by rw [e]; exact wr_ok _), e, wr_wr, Int.add_assoc]
  · have e := h.2.1 q i hq hi ho
    rw [h'.2.1 q i hq hi (by rw [e]; exact wr_ok _), e, wr_wr, Int.add_assoc]
  · have e := h.2.2 ho
    rw [h'.2.2 (by rw [e]; exact wr_ok _), e, wr_wr, Int.add_assoc]
theorem LGR.cg {a b : Wd} {T T' : Nat → Int} {Hd Hd' : Nat → Nat → Int} {P P' : Int} (h : LGR a b T Hd P) (h1 : ∀ i, T i = T' i) (h2 : ∀ q i, Hd q i = Hd' q i) (h3 : P = P') : LGR a b T' Hd' P' := by
  have e1 : T = T' := funext h1
  have e2 : Hd = Hd' := funext fun q => funext fun i => h2 q i
  rw [← e1, ← e2, ← h3]; exact h
theorem q20 {a q p t : Nat} {w : Wd} {Q : QT} {s : ST} (H : LR w) (h : (lay a).1 = 8) (hl : (lay q).1 = 4) (hg : GQ Q) (hp : p < zn Q) (hr : PL w Q t) (ht : t = (uT s).toNat) (hs : RS w a s) (hG : GS (zn Q) s) (hQ : RQ w q Q) (hd : a = 34 ∨ a = 39) (hdr : q = 2 ∨ q = 17) :
    ∃ w', F20 27 q a p w = rI (b2i (asks Q s p)) w' ∧ RS w' a (oneA Q p s) ∧ FrI (AP a) w w' ∧ gI w' 27 7 = gI w 27 7 ∧ gI w' 30 = (if asks Q s p = true then va_up (gI w 30) p (whoA Q s p) else gI w 30) ∧ LGR w w' (dT Q s p) (dH Q s p) (dP Q s p) := by
  have h8 := hg.1
  have hx4 : bAnd (mk (alv s) 8) (bXor (mk (uI s) 8) (-1)) = mk (outs s) 8 := mk_not (by omega)
  have hx5 : bAnd (mk (oth Q t p) 8) (mk (outs s) 8) = mk (cmp Q s p) 8 := by rw [mk_and (by omega), ht]; rfl
  -- who doesn't ask
  have hno : ∀ w', F20 27 q a p w = rI 0 w' → FrI (fun b => b = 33) w w' → asks Q s p = false → ∃ w', F20 27 q a p w = rI (b2i (asks Q s p)) w' ∧ RS w' a (oneA Q p s) ∧ FrI (AP a) w w' ∧ gI w' 27 7 = gI w 27 7 ∧ gI w' 30 = (if asks Q s p = true then va_up (gI w 30) p (whoA Q s p) else gI w 30) ∧ LGR w w' (dT Q s p) (dH Q s p) (dP Q s p) := by
    intro w' h1 h2 h3
    refine ⟨w', by rw [h3]; exact h1, ?_, h2.wk (fun b e => Or.inr (Or.inr (by omega))), by rw [h2.g (by omega)], by rw [h3, if_neg (by simp), h2.g (by omega)], ?_⟩
    · unfold oneA; rw [h3, if_neg (by simp)]
      exact hs.fr h2 (by omega) (by omega) (by omega) (by omega) (by omega)
    · refine (LGR.rf (h2.g (by omega)) (h2.g (by omega)) (by rw [h2.g (by omega)])).cg (fun i => ?_) (fun q i => ?_) ?_
      · unfold dT; rw [h3, if_neg (by simp)]
      · unfold dH; rw [h3, if_neg (by simp)]
      · unfold dP; rw [h3, if_neg (by simp)]
  have hst : ∀ {o : Out}, s20_38 27 q a p (mk (outs s) 8) (mk (cmp Q s p) 8) (b2i (outs s p)) w = some o → F20 27 q a p w = some o := by
    intro o ho
    refine e20 H l27 hl h _ ?_
    rw [q82 H h hs, bI_r H, q19 H hg hp hr, bI_r H, hs.2.2.2.2.1, hx4, hx5]
    cases z : outs s p
    · rw [mk_bit_f (by omega) (by omega) z, if_pos (by omega)]; rw [z] at ho; exact ho
    · rw [mk_bit_t (by omega) (by omega) z, if_neg (by omega)]; rw [z] at ho; exact ho
  cases z1 : outs s p
  · refine hno w (hst ?_) FrI.rf (by unfold asks; rw [z1]; rfl)
    rw [z1]
    exact e20_38 H l27 hl h _ (if_pos rfl)
  by_cases z2 : mk (cmp Q s p) 8 = 0
  · refine hno w (hst ?_) FrI.rf (by unfold asks; rw [z2]; simp)
    rw [z1]
    refine e20_38 H l27 hl h _ ?_
    rw [if_neg (by decide), if_pos z2]
  obtain ⟨w1, k1, k2⟩ := q22 H h hl hg hp hr ht hs hG hQ hd hdr
  have H1 := k2.LR H
  cases z3 : wnt Q s p
  · refine hno w1 (hst ?_) k2 (by unfold asks; rw [z3]; simp)
    rw [z1]
    refine e20_38 H l27 hl h _ ?_
    rw [if_neg (by decide), if_neg z2, k1, bI_r H1, z3, if_neg (by decide)]
  have ha : asks Q s p = true := by unfold asks; rw [z1, z3]; simp [z2]
  have hs1 : RS w1 a s := hs.fr k2 (by omega) (by omega) (by omega) (by omega) (by omega)
  have hr1 : PL w1 Q t := hr.fr k2 (by omega) (by omega)
  have hQ1 : RQ w1 q Q := hQ.fr k2 (fun b _ _ => by omega)
  obtain ⟨i1, i2, i3⟩ := whoA_ok hG z2
  obtain ⟨c1, c2, c3, c4⟩ := cmp_in i3
  obtain ⟨w2, k3, k4⟩ := q23 (to := p) H1 h hl hg c1 (by omega) hr1 ht hs1 hG hQ1 hd hdr
  have H2 := k4.LR H1
  have hs2 : RS w2 a s := hs1.fr k4 (by omega) (by omega) (by omega) (by omega) (by omega)
  have hm := mch_b (Q := Q) (p := p) hG
  have hsay : min (say Q s (whoA Q s p) p) (uL s (whoA Q s p)) = mch Q s p := rfl
  have hL := hG.1 (whoA Q s p)
  have hsb : 0 ≤ say Q s (whoA Q s p) p ∧ say Q s (whoA Q s p) p ≤ 100000 := by
    refine ⟨say_b _ _ _ _, ?_⟩
    unfold say
    have := shw_b s (whoA Q s p)
    have := hG.2.2.2.1 (whoA Q s p)
    split
    · omega
    · split <;> omega
  have k5 := q91 H2 h i2 hs2 hG hsb
  rw [hsay] at k5
  have hs3 : RS (pI (pI w2 (a + 1) (whoA Q s p) (uL s (whoA Q s p) - mch Q s p)) (a + 4) (whoA Q s p) (min (uG s (whoA Q s p) + mch Q s p) 9999)) a (hnd1 s (whoA Q s p) (mch Q s p)) := RS_hnd hs2
  have hG3 := GS_hnd hG hm
  have H3 : LR (pI (pI w2 (a + 1) (whoA Q s p) (uL s (whoA Q s p) - mch Q s p)) (a + 4) (whoA Q s p) (min (uG s (whoA Q s p) + mch Q s p) 9999)) := H2
  have f3 : FrI (AP a) w2 (pI (pI w2 (a + 1) (whoA Q s p) (uL s (whoA Q s p) - mch Q s p)) (a + 4) (whoA Q s p) (min (uG s (whoA Q s p) + mch Q s p) 9999)) := (FrI.p (Or.inl ⟨by omega, by omega⟩)).pp (Or.inl ⟨by omega, by omega⟩)
  have g3 : ∀ b, (27 ≤ b ∧ b ≤ 33) → gI (pI (pI w2 (a + 1) (whoA Q s p) (uL s (whoA Q s p) - mch Q s p)) (a + 4) (whoA Q s p) (min (uG s (whoA Q s p) + mch Q s p) 9999)) b = gI w2 b := fun b hb => by rw [gI_r (by omega), gI_r (by omega)]
  generalize pI (pI w2 (a + 1) (whoA Q s p) (uL s (whoA Q s p) - mch Q s p)) (a + 4) (whoA Q s p) (min (uG s (whoA Q s p) + mch Q s p) 9999) = w3 at *
  have k6 := q90 (p := p) (m := mch Q s p) H3 h (by omega) hs3 hG3 (by omega)
  have hs4 : RS (pI w3 (a + 1) p (min (uL (hnd1 s (whoA Q s p) (mch Q s p)) p + mch Q s p) 999)) a (rcv (hnd1 s (whoA Q s p) (mch Q s p)) p (mch Q s p)) := RS_rcv hs3
  have H4 : LR (pI w3 (a + 1) p (min (uL (hnd1 s (whoA Q s p) (mch Q s p)) p + mch Q s p) 999)) := H3
  have f4 : FrI (AP a) w3 (pI w3 (a + 1) p (min (uL (hnd1 s (whoA Q s p) (mch Q s p)) p + mch Q s p) 999)) := FrI.p (Or.inl ⟨by omega, by omega⟩)
  have g4 : ∀ b, (27 ≤ b ∧ b ≤ 33) → gI (pI w3 (a + 1) p (min (uL (hnd1 s (whoA Q s p) (mch Q s p)) p + mch Q s p) 999)) b = gI w3 b := fun b hb => by rw [gI_r (by omega)]
  generalize pI w3 (a + 1) p (min (uL (hnd1 s (whoA Q s p) (mch Q s p)) p + mch Q s p) 999) = w4 at *
  obtain ⟨w5, k7, k8, n30, n31, n32, n6, n7⟩ := q21 (m := mch Q s p) H4 (show p < 8 by omega) i2
  have H5 := k8.LR H4
  have gg : ∀ b, (27 ≤ b ∧ b ≤ 32) → gI w4 b = gI w b := fun b hb => by rw [g4 b (by omega), g3 b (by omega), k4.g (by omega), k2.g (by omega)]
  refine ⟨w5, hst ?_, ?_, ((k2.wk (fun b e => Or.inr (Or.inr (by omega)))).tr (k4.wk (fun b e => Or.inr (Or.inr (by omega))))).tr ((f3.tr f4).tr (k8.wk (fun b e => Or.inr (by omega)))), by rw [n7, gg 27 (by omega)], by rw [n30, gg 30 (by omega), if_pos ha], ?_⟩
  · rw [z1]
    refine e20_38 H l27 hl h _ ?_
    rw [if_neg (by decide), if_neg z2, k1, bI_r H1, z3, if_pos (by decide), q84 H1 h hs1, bI_r H1, i1, k3, bI_r H2, k5, bI_r H3, k6, b0_r H4, k7, b0_r H5, ha]
    rfl
  · unfold oneA
    rw [if_pos ha]
    exact hs4.fr k8 (by omega) (by omega) (by omega) (by omega) (by omega)
  · refine ⟨fun i hi ho => ?_, fun q' i hq hi ho => ?_, fun ho => ?_⟩
    · rw [n31, gg 31 (by omega)]
      unfold dT
      by_cases e : i = whoA Q s p
      · rw [← e, up_s, if_pos ⟨ha, rfl⟩]
      · rw [up_c e, if_neg (fun z => e z.2.symm)]
        exact wr0 ho
    · rw [n32, gg 32 (by omega)]
      unfold dH
      by_cases e : 8 * q' + i = 8 * whoA Q s p + p
      · rw [e, up_s, if_pos ⟨ha, by omega, by omega⟩]
      · rw [up_c e, if_neg (fun z => e (by omega))]
        exact wr0 ho
    · rw [n6, gg 27 (by omega)]
      unfold dP
      rw [if_pos ha]
/-! a whole step; many -/
theorem q18 {q t : Nat} {w : Wd} {Q : QT} (H : LR w) (hl : (lay q).1 = 4) (hg : GQ Q) (hQ : RQ w q Q) (ht : t < 2147483648) (hdr : q = 2 ∨ q = 17) : ∃ w', F18 27 q t w = r0 w' ∧ PL w' Q t ∧ FrI (fun b => 28 ≤ b ∧ b ≤ 30) w w' ∧ ∀ i, i < 8 → gI w' 30 i = -1 := by
  have h8 := hg.1
  have k1 := q321 (a := 30) (n := 8) (x := -1) H (by rfl) (by omega)
  have H1 : LR (sI w 30 (fun i => if i < 8 then -1 else gI w 30 i)) := H
  have f1 : FrI (fun b => 28 ≤ b ∧ b ≤ 30) w (sI w 30 (fun i => if i < 8 then -1 else gI w 30 i)) := FrI.s ⟨by omega, by omega⟩
  have g1 : ∀ i, i < 8 → gI (sI w 30 (fun i => if i < 8 then -1 else gI w 30 i)) 30 i = -1 := fun i hi => by rw [gI_S]; exact if_pos hi
  generalize sI w 30 (fun i => if i < 8 then -1 else gI w 30 i) = w1 at *
  have k2 := q321 (a := 29) (n := 6) (x := 0) H1 (by rfl) (by omega)
  have H2 : LR (sI w1 29 (fun i => if i < 6 then 0 else gI w1 29 i)) := H1
  have f2 : FrI (fun b => 28 ≤ b ∧ b ≤ 30) w (sI w1 29 (fun i => if i < 6 then 0 else gI w1 29 i)) := f1.ss ⟨by omega, by omega⟩
  have g2 : ∀ i, i < 8 → gI (sI w1 29 (fun i => if i < 6 then 0 else gI w1 29 i)) 30 i = -1 := fun i hi => by rw [gI_Sr (by omega)]; exact g1 i hi
  have g3 : ∀ i, i < 6 → gI (sI w1 29 (fun i => if i < 6 then 0 else gI w1 29 i)) 29 i = 0 := fun i hi => by rw [gI_S]; exact if_pos hi
  generalize sI w1 29 (fun i => if i < 6 then 0 else gI w1 29 i) = w2 at *
  obtain ⟨v, hv, i1, i2, i3, i4⟩ := lpR (F := fun k v => s18_18 27 q t k v) (I := fun k v => FrI (fun b => 28 ≤ b ∧ b ≤ 30) w v ∧ (∀ p, p < k → gI v 28 p = zc Q p t) ∧ (∀ c : Nat, c < 6 → gI v 29 c = mk (atC Q c t) k) ∧ ∀ i, i < 8 → gI v 30 i = -1) (zn Q) (fun k v hk e => by
    obtain ⟨ef, e1, e2, e3⟩ := e
    have hV := ef.LR H
    have hQv : RQ v q Q := hQ.fr ef (fun b _ _ => by omega)
    have hc := hg.2.1 k t
    have hk6 := hg.2.2.2.2.2
    obtain ⟨c, hcc⟩ : ∃ c : Nat, zc Q k t = c := ⟨(zc Q k t).toNat, by omega⟩
    refine ⟨pI (pI v 28 k c) 29 c (bOr (gI v 29 c) (bShl 1 k)), fun o ho => e18_18 hV l27 hl _ ?_, (ef.pp ⟨by omega, by omega⟩).pp ⟨by omega, by omega⟩, fun p hp => ?_, fun c' hc' => ?_, fun i hi => ?_⟩
    · rw [if_neg (by rw [hQv.2.1]; omega), if_neg (by omega), q35 hV hl hg hQv hk ht, bI_r hV, hcc, if_neg (by omega), if_neg (by omega), gdi (by omega) (by omega), gdi (by omega) (by omega), gdi (by omega) (by omega), nn, nn, gI_r (by omega), wrd (by omega) (by omega)]
      exact ho
    · rw [gI_r (by omega)]
      by_cases z : p = k
      · rw [z, gI_s, hcc]
      · rw [gI_c z]; exact e1 p (by omega)
    · rw [mk_s (by omega), atC_in hk, hcc]
      by_cases z : c' = c
      · rw [z, gI_s, if_pos (by simp), e2 c (by omega)]
      · rw [gI_c z, gI_r (by omega), if_neg (by simp; omega)]
        exact e2 c' hc'
    · rw [gI_r (by omega), gI_r (by omega)]; exact e3 i hi) w2 ⟨f2, fun p hp => absurd hp (Nat.not_lt_zero _), fun c hc => by rw [g3 c hc, mk_0], g2⟩
  have hV := i1.LR H
  have hQv : RQ v q Q := hQ.fr i1 (fun b _ _ => by omega)
  refine ⟨v, e18 H l27 hl _ ?_, ⟨i2, fun c hc => ?_⟩, i1, i4⟩
  · rw [k1, b0_r H1, k2, b0_r H2]
    refine hv _ (e18_18 hV l27 hl _ ?_)
    rw [if_pos (by rw [hQv.2.1]; exact Int.le_refl _)]
  · rw [i3 c hc]
    exact (mk_ge h8 (fun i h1 _ => atC_out h1)).symm
/-- whether nobody of the first k asks -/
def noA (Q : QT) (s : ST) : Nat → Bool
  | 0 => true
  | k + 1 => noA Q s k && !asks Q (sg Q s k) k
def TM (Q : QT) (s : ST) (k i : Nat) : Int := sumN (fun p => dT Q (sg Q s p) p i) k
def HD (Q : QT) (s : ST) (k q i : Nat) : Int := sumN (fun p => dH Q (sg Q s p) p q i) k
def PS (Q : QT) (s : ST) (k : Nat) : Int := sumN (fun p => dP Q (sg Q s p) p) k
def AG (a b : Nat) : Prop := AS a b ∨ (27 ≤ b ∧ b ≤ 33)
theorem AP_AG {a b : Nat} (h : AP a b) : AG a b := by
  rcases h with h | h | h
  · exact Or.inl h
  · exact Or.inr (by omega)
  · exact Or.inr (by omega)
theorem q17s {a q : Nat} {K k : Int} {w : Wd} {Q : QT} {s : ST} (H : LR w) (h : (lay a).1 = 8) (hl : (lay q).1 = 4) (hg : GQ Q) (hs : RS w a s) (hG : GS (zn Q) s) (hQ : RQ w q Q) (hd : a = 34 ∨ a = 39) (hdr : q = 2 ∨ q = 17) (hk : 0 ≤ k ∧ k < K ∧ K < 100000) :
    ∃ w', Rf (s17_3 27 q a K (k + 1) w') (s17_3 27 q a K k w) ∧ RS w' a (stq Q s) ∧ FrI (AG a) w w' ∧ (∀ i, i < 8 → gI w' 30 i = if i < zn Q then WH Q s i else -1) ∧ LGR w w' (TM Q s (zn Q)) (HD Q s (zn Q)) (PS Q s (zn Q)) ∧ (okI (gI w 27 7) → gI w' 27 7 = wr (gI w 27 7 + b2i (noA Q s (zn Q)))) := by
  have h8 := hg.1
  have hT := hG.2.2.2.2.2.2.2
  have hT0 := hG.2.2.2.2.2.2.1
  have e7 : gI w a 7 = ((uT s).toNat : Int) := by rw [hs.2.2.2.2.2.2.2]; omega
  obtain ⟨w1, k1, k2, k3, k4⟩ := q18 (t := (uT s).toNat) H hl hg hQ (by omega) hdr
  have H1 := k3.LR H
  have hs1 : RS w1 a s := hs.fr k3 (by omega) (by omega) (by omega) (by omega) (by omega)
  have hLG : LGR w w1 (fun _ => 0) (fun _ _ => 0) 0 := LGR.rf (k3.g (by omega)) (k3.g (by omega)) (by rw [k3.g (by omega)])
  obtain ⟨v, hv, i1, i2, i3, i4, i5, i6⟩ := lpR (F := fun p (v : Int × Wd) => s17_24 27 q a K k v.1 p v.2) (I := fun p v => v.1 = b2i (noA Q s p) ∧ RS v.2 a (sg Q s p) ∧ FrI (AG a) w v.2 ∧ PL v.2 Q (uT s).toNat ∧ (gI v.2 27 7 = gI w 27 7 ∧ ∀ i, i < 8 → gI v.2 30 i = if i < p then WH Q s i else -1) ∧ LGR w v.2 (TM Q s p) (HD Q s p) (PS Q s p)) (zn Q) (fun p v hp e => by
    obtain ⟨b, v⟩ := v
    obtain ⟨e1, e2, ef, e3, e4, e5⟩ := e
    simp only [] at e1 e2 ef e3 e4 e5
    have hV := ef.LR H
    have hQv : RQ v q Q := hQ.fr ef (fun b _ _ => by unfold AG AS; omega)
    obtain ⟨v', l1, l2, l3, l4, l5, l6⟩ := q20 hV h hl hg hp e3 (show (uT s).toNat = (uT (sg Q s p)).toNat by rw [(sg_same p).2.2.2.2.2]) e2 (GS_sg hG p (by omega)) hQv hd hdr
    have hV' := l3.LR hV
    refine ⟨(b2i (noA Q s (p + 1)), v'), fun o ho => e17_24 hV l27 hl h _ ?_, rfl, l2, ef.tr (l3.wk (fun b e => AP_AG e)), e3.fr l3 (by unfold AP AS; omega) (by unfold AP AS; omega), ⟨l4.trans e4.1, fun i hi => ?_⟩, ?_⟩
    · dsimp only at ho ⊢
      rw [if_neg (by rw [hQv.2.1]; omega), l1, bI_r hV', e1]
      have : noA Q s (p + 1) = (noA Q s p && !asks Q (sg Q s p) p) := rfl
      rw [this] at ho
      cases z1 : noA Q s p
      · rw [if_pos (by decide), wrd (by omega) (by omega)]
        rw [z1] at ho
        exact ho
      · rw [if_neg (by decide)]
        rw [z1] at ho
        cases z2 : asks Q (sg Q s p) p
        · rw [if_neg (by decide), wrd (by omega) (by omega)]
          rw [z2] at ho
          exact ho
        · rw [if_pos (by decide), wrd (by omega) (by omega)]
          rw [z2] at ho
          exact ho
    · show gI v' 30 i = _
      rw [l5]
      by_cases z : i = p
      · subst z
        rw [show (if i < i + 1 then WH Q s i else -1) = WH Q s i from if_pos (by omega)]
        unfold WH
        by_cases y : asks Q (sg Q s i) i = true
        · rw [if_pos y, if_pos y, up_s]
        · rw [if_neg y, if_neg y, e4.2 i hi, if_neg (by omega)]
      · have : (if asks Q (sg Q s p) p = true then va_up (gI v 30) p (whoA Q (sg Q s p) p : Int) else gI v 30) i = gI v 30 i := by
          split
          · exact up_c z
          · rfl
        rw [this, e4.2 i hi]
        by_cases y : i < p
        · rw [if_pos y, if_pos (by omega)]
        · rw [if_neg y, if_neg (by omega)]
    · exact e5.tr l6) (1, w1) ⟨rfl, hs1, k3.wk (fun b e => Or.inr (by omega)), k2, ⟨by show gI w1 27 7 = _; rw [k3.g (by omega)], fun i hi => by rw [if_neg (by omega)]; exact k4 i hi⟩, hLG⟩
  obtain ⟨b, v⟩ := v
  simp only [] at hv i1 i2 i3 i4 i5 i6
  have hV := i3.LR H
  have hQv : RQ v q Q := hQ.fr i3 (fun b _ _ => by unfold AG AS; omega)
  have hs2 : RS (pI v 27 7 (wr (gI v 27 7 + b2i (noA Q s (zn Q))))) a (sg Q s (zn Q)) := i2.fr (A := fun b => b = 27) (FrI.p rfl) (by omega) (by omega) (by omega) (by omega) (by omega)
  obtain ⟨v', m1, m2, m3⟩ := q92 (w := pI v 27 7 (wr (gI v 27 7 + b2i (noA Q s (zn Q))))) hV h hs2 (GS_sg hG _ (Nat.le_refl _))
  have f4 : FrI (AG a) v (pI v 27 7 (wr (gI v 27 7 + b2i (noA Q s (zn Q))))) := FrI.p (Or.inr (by omega))
  have hV' : LR v' := m3.LR (w := pI v 27 7 (wr (gI v 27 7 + b2i (noA Q s (zn Q))))) hV
  have g : ∀ b, 27 ≤ b → b ≤ 33 → gI v' b = gI (pI v 27 7 (wr (gI v 27 7 + b2i (noA Q s (zn Q))))) b := fun b h1 h2 => m3.g (by unfold AS; omega)
  refine ⟨v', fun o ho => e17_3 H l27 hl h _ ?_, m2, i3.tr (f4.tr (m3.wk (fun b e => Or.inl e))), fun i hi => ?_, ⟨fun i hi ho => ?_, fun q' i hq hi ho => ?_, fun ho => ?_⟩, fun ho => ?_⟩
  · rw [if_neg (by omega), e7, k1, b0_r H1]
    refine hv _ (e17_24 hV l27 hl h _ ?_)
    rw [if_pos (by rw [hQv.2.1]; exact Int.le_refl _), i1]
    have : wr (k + 1) = k + 1 := wrd (by omega) (by omega)
    rw [← this] at ho
    cases z : noA Q s (zn Q)
    · rw [if_pos (by decide)]
      rw [z] at m1
      refine e17_81 hV l27 hl h l27 _ ?_
      show b0 (F92 a (pI v 27 7 (wr (gI v 27 7 + b2i false)))) _ = _
      rw [m1, b0_r hV']
      exact ho
    · rw [if_neg (by decide)]
      rw [z] at m1
      refine e17_81 hV l27 hl h l27 _ ?_
      show b0 (F92 a (pI v 27 7 (wr (gI v 27 7 + b2i true)))) _ = _
      rw [m1, b0_r hV']
      exact ho
  · rw [g 30 (by omega) (by omega), gI_r (by omega)]; exact i5.2 i hi
  · rw [g 31 (by omega) (by omega), gI_r (by omega)]; exact i6.1 i hi ho
  · rw [g 32 (by omega) (by omega), gI_r (by omega)]; exact i6.2.1 q' i hq hi ho
  · rw [g 27 (by omega) (by omega), gI_c (by omega)]; exact i6.2.2 ho
  · rw [g 27 (by omega) (by omega), gI_s, i5.1]
