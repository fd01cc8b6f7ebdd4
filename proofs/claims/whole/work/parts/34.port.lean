/-! the port of the class: 27; a quay at q (2, 17), a state at s (34, 39) -/
def PL (w : Wd) (Q : QT) (t : Nat) : Prop := (∀ p, p < zn Q → gI w 28 p = zc Q p t) ∧ (∀ c : Nat, c < 6 → gI w 29 c = mk (atC Q c t) 8)
theorem PL.fr {A : Nat → Prop} {w w' : Wd} {Q : QT} {t : Nat} (h : PL w Q t) (hf : FrI A w w') (h0 : ¬ A 28) (h1 : ¬ A 29) : PL w' Q t := by
  unfold PL
  rw [hf.1 _ h0, hf.1 _ h1]
  exact h
theorem l27 : (lay 27).1 = 3 := by rfl
theorem q19 {p t : Nat} {w : Wd} {Q : QT} (H : LR w) (hg : GQ Q) (hp : p < zn Q) (hr : PL w Q t) : F19 27 p w = rI (mk (oth Q t p) 8) w := by
  have h8 := hg.1
  have hc := hg.2.1 p t
  have hk := hg.2.2.2.2.2
  refine e19 H l27 _ ?_
  rw [if_neg (by omega), if_neg (by omega), gdi (by omega) (by omega), nn, hr.1 p hp]
  refine e19_23 H l27 _ ?_
  have e : gI w (27 + 2) (zc Q p t).toNat = mk (atC Q (zc Q p t) t) 8 := by
    have := hr.2 (zc Q p t).toNat (by omega)
    rw [show ((zc Q p t).toNat : Int) = zc Q p t by omega] at this
    exact this
  rw [if_neg (by omega), if_neg (by omega), gdi (by omega) (by omega), e, mk_del (by omega) (by omega)]
  rfl
theorem q25 {a p to t n : Nat} {c : Int} {w : Wd} {Q : QT} {s : ST} (H : LR w) (h : (lay a).1 = 8) (hg : GQ Q) (hp : p < zn Q) (ho : to < 8) (hr : PL w Q t) (ht : t = (uT s).toNat) (hs : RS w a s) (hG : GS n s) (hc : 109 ≤ c ∧ c ≤ 115) : F25 27 c a p to w = rI (vl Q s p to c) w := by
  have h8 := hg.1
  refine e25 H l27 h _ ?_
  unfold vl
  by_cases c1 : c = 109
  · rw [if_pos c1, if_pos c1, q75 H h (by omega), bI_r H, hs.1]
  rw [if_neg c1, if_neg c1]
  by_cases c2 : c = 110
  · rw [if_pos c2, if_pos c2, q79 H h (by omega) hs hG, bI_r H]
  rw [if_neg c2, if_neg c2]
  by_cases c3 : c = 111
  · rw [if_pos c3, if_pos c3, q77 H h (by omega), bI_r H, hs.2.2.1]
  rw [if_neg c3, if_neg c3]
  by_cases c4 : c = 112
  · rw [if_pos c4, if_pos c4, q19 H hg hp hr, bI_r H, q82 H h hs, bI_r H, mk_and (by omega), q320 H, bI_r H, ht]
  rw [if_neg c4, if_neg c4]
  by_cases c5 : c = 113
  · rw [if_pos c5, if_pos c5, hs.2.2.2.2.2.2.2]
  rw [if_neg c5, if_neg c5]
  by_cases c6 : c = 114
  · rw [if_pos c6, if_pos c6, q75 H h ho, bI_r H, hs.1]
  rw [if_neg c6, if_neg c6, q78 H h (by omega), bI_r H, hs.2.2.2.1]
/-- the rule at r (8 or 23 .. its codes behind it) works out to what it gives -/
def WO (w : Wd) (r : Nat) (R : Nat × Row) : Prop := gI w r 1 = R.1 ∧ (∀ i, i < R.1 → gI w (r + 1) i = R.2 i)
theorem dp1_le {c : Int} {d : Nat} (h : okSg c d) : dp1 c d ≤ 40 := by
  unfold okSg at h
  unfold dp1
  split
  · omega
  · split <;> omega
theorem dpN_le {R : Nat × Row} (h : okRule R) : ∀ k, k ≤ R.1 → dpN R.2 k ≤ 40 := by
  intro k
  induction k with
  | zero => intro _; exact Nat.zero_le _
  | succ k ih => intro hk; exact dp1_le (h.2.1 k (by omega))
theorem q24 {a r p to t n : Nat} {w : Wd} {Q : QT} {s : ST} {R : Nat × Row} (H : LR w) (h : (lay a).1 = 8) (hl : (lay r).1 = 6) (hg : GQ Q) (hp : p < zn Q) (hto : to < 8) (hr : PL w Q t) (ht : t = (uT s).toNat) (hs : RS w a s) (hG : GS n s) (hw : WO w r R) (hR : okRule R) (h0 : 0 < R.1) (hd : a = 34 ∨ a = 39) (hdr : r + 1 < 27) :
    ∃ w', F24 27 r a p to w = rI (evR (vl Q s p to) R) w' ∧ FrI (fun b => b = 33) w w' := by
  have h8 := hg.1
  obtain ⟨v, hv, i1, i2, i3⟩ := lpR (F := fun k (v : Int × Wd) => s24_6 27 r a p to v.1 k v.2) (I := fun k v => v.1 = (evN (vl Q s p to) R.2 k).1 ∧ (∀ j, j < (evN (vl Q s p to) R.2 k).1 → gI v.2 33 j = (evN (vl Q s p to) R.2 k).2 j) ∧ FrI (fun b => b = 33) w v.2) R.1 (fun k v hk e => by
    obtain ⟨top, v⟩ := v
    obtain ⟨e1, e2, ef⟩ := e
    simp only [] at e1 e2 ef
    have hV := ef.LR H
    have hk7 : k < 700 := by have := hR.1; omega
    have hc1 : gI v r 1 = R.1 := by rw [ef.g (by omega)]; exact hw.1
    have hc2 : gI v (r + 1) k = R.2 k := by rw [ef.g (by omega)]; exact hw.2 k hk
    have hd1 := evN_d (val := vl Q s p to) (codes := R.2) k
    have hd2 := dpN_le hR k (by omega)
    have hok := hR.2.1 k hk
    rw [← hd1] at hok hd2
    have eN : evN (vl Q s p to) R.2 (k + 1) = ev1 (vl Q s p to) (R.2 k) (evN (vl Q s p to) R.2 k) := rfl
    generalize evN (vl Q s p to) R.2 k = E at *
    obtain ⟨d, S⟩ := E
    simp only [] at e1 e2 hd1 hd2 hok
    subst e1
    have hPL : PL v Q t := hr.fr ef (by omega) (by omega)
    have hRS : RS v a s := hs.fr ef (by omega) (by omega) (by omega) (by omega) (by omega)
    rw [eN]
    have hpre : ∀ {X : Option Out} {o : Out}, X = some o → Rf X (if R.2 k < 0 then s24_46 27 r a p to d k (R.2 k) v else (if R.2 k < 109 then (if R.2 k ≠ 108 then (if (d : Int) < 2 then rI 0 v else (if (d : Int) ≤ 40 then gd (inb (wr ((wr (d + -1)) - 1)) 40) (gd (inb (wr ((d : Int) + -1)) 40) (bI (F65 (R.2 k) (gI v (27 + 6) ((wr ((wr (d + -1)) - 1) : Int).toNat)) (gI v (27 + 6) ((wr (d + -1) : Int).toNat)) v) (fun n1 w2 => gd (inb (wr ((wr (d + -1)) - 1)) 40) (s24_6 27 r a p to (wr (d + -1)) (wr (k + 1)) (pI w2 (27 + 6) ((wr ((wr (d + -1)) - 1) : Int).toNat) n1))))) else rI 0 v)) else (if (d : Int) < 1 then rI 0 v else (if (d : Int) ≤ 40 then gd (inb (wr ((d : Int) - 1)) 40) ((if gI v (27 + 6) ((wr (d - 1) : Int).toNat) ≠ 0 then gd (inb (wr ((d : Int) - 1)) 40) (s24_6 27 r a p to d (wr (k + 1)) (pI v (27 + 6) ((wr (d - 1) : Int).toNat) 0)) else gd (inb (wr ((d : Int) - 1)) 40) (s24_6 27 r a p to d (wr (k + 1)) (pI v (27 + 6) ((wr (d - 1) : Int).toNat) 1)))) else rI 0 v))) else s24_46 27 r a p to d k (R.2 k) v)) → s24_6 27 r a p to d k v = some o := by
      intro X o hX hR2
      refine e24_6 hV l27 hl h _ ?_
      rw [if_neg (by rw [hc1]; omega), if_neg (by omega), gdi (by omega) (by omega), nn, hc2]
      exact hR2 o hX
    rcases hok with ⟨o1, o2, o3⟩ | ⟨o1, o2, o3⟩ | ⟨o1, o2, o3⟩ | ⟨o1, o2, o3⟩
    · have eE : ev1 (vl Q s p to) (R.2 k) (d, S) = (d + 1, va_up S d (-1 - R.2 k)) := by unfold ev1; rw [if_pos o2]
      rw [eE]
      refine ⟨(((d + 1 : Nat) : Int), pI v 33 d (-1 - R.2 k)), fun o ho => hpre ho ?_, rfl, ?_, ef.pp rfl⟩
      · rw [if_pos o2]
        refine Rf.tr (fun o2' h2 => ?_) (Rf.refl _)
        refine e24_46 hV l27 hl h _ ?_
        rw [if_neg (by omega), if_pos (by omega), if_neg (by omega), gdi (by omega) (by omega), wrd (z := (d : Int) + 1) (by omega) (by omega), wrd (by omega) (by omega), bXor_m1 ⟨by omega, by omega⟩]
        exact h2
      · intro j hj
        rw [gI_p]
        show va_up (gI v 33) _ _ j = va_up S _ _ j
        by_cases z : j = d
        · rw [z, up_s, up_s]
        · rw [up_c z, up_c z]; exact e2 j (by simp only [] at hj; omega)
    · have eE : ev1 (vl Q s p to) (R.2 k) (d, S) = (d + 1, va_up S d (vl Q s p to (R.2 k))) := by unfold ev1; rw [if_neg (by omega), if_pos o1]
      rw [eE]
      refine ⟨(((d + 1 : Nat) : Int), pI v 33 d (vl Q s p to (R.2 k))), fun o ho => hpre ho ?_, rfl, ?_, ef.pp rfl⟩
      · rw [if_neg (by omega), if_neg (by omega)]
        refine Rf.tr (fun o2' h2 => ?_) (Rf.refl _)
        refine e24_46 hV l27 hl h _ ?_
        rw [if_neg (by omega), if_pos (by omega), if_pos (by omega), q25 hV h hg hp hto hPL ht hRS hG ⟨o1, o2⟩, bI_r hV, gdi (by omega) (by omega), wrd (z := (d : Int) + 1) (by omega) (by omega), wrd (by omega) (by omega)]
        exact h2
      · intro j hj
        rw [gI_p]
        show va_up (gI v 33) _ _ j = va_up S _ _ j
        by_cases z : j = d
        · rw [z, up_s, up_s]
        · rw [up_c z, up_c z]; exact e2 j (by simp only [] at hj; omega)
    · have eE : ev1 (vl Q s p to) (R.2 k) (d, S) = (d, va_up S (d - 1) (if S (d - 1) = 0 then 1 else 0)) := by unfold ev1; rw [if_neg (by omega), if_neg (by omega), if_pos o1]
      rw [eE]
      have e1 : wr ((d : Int) - 1) = ((d - 1 : Nat) : Int) := by rw [wrd (by omega) (by omega)]; omega
      refine ⟨((d : Int), pI v 33 (d - 1) (if S (d - 1) = 0 then 1 else 0)), fun o ho => hpre ho ?_, rfl, ?_, ef.pp rfl⟩
      · generalize hx : (if S (d - 1) = 0 then (1 : Int) else 0) = x
        rw [if_neg (by omega), if_pos (by omega), if_neg (by omega), if_neg (by omega), if_pos (by omega), e1, gdi (by omega) (by omega), nn, show gI v (27 + 6) (d - 1) = S (d - 1) from e2 (d - 1) (by omega), wrd (by omega) (by omega)]
        by_cases z : S (d - 1) = 0
        · rw [if_pos z] at hx
          rw [if_neg (by omega), gdi (by omega) (by omega), ← hx]
          exact Rf.refl _
        · rw [if_neg z] at hx
          rw [if_pos z, gdi (by omega) (by omega), ← hx]
          exact Rf.refl _
      · intro j hj
        rw [gI_p]
        show va_up (gI v 33) _ _ j = va_up S _ _ j
        by_cases z : j = d - 1
        · rw [z, up_s, up_s]
        · rw [up_c z, up_c z]; exact e2 j (by simp only [] at hj; omega)
    · have eE : ev1 (vl Q s p to) (R.2 k) (d, S) = (d - 1, va_up S (d - 2) (jn (R.2 k) (S (d - 2)) (S (d - 1)))) := by unfold ev1; rw [if_neg (by omega), if_neg (by omega), if_neg (by omega)]
      rw [eE]
      have e1 : wr ((d : Int) + -1) = ((d - 1 : Nat) : Int) := by rw [wrd (by omega) (by omega)]; omega
      have e3 : wr (((d - 1 : Nat) : Int) - 1) = ((d - 2 : Nat) : Int) := by rw [wrd (by omega) (by omega)]; omega
      refine ⟨(((d - 1 : Nat) : Int), pI v 33 (d - 2) (jn (R.2 k) (S (d - 2)) (S (d - 1)))), fun o ho => hpre ho ?_, rfl, ?_, ef.pp rfl⟩
      · rw [if_neg (by omega), if_pos (by omega), if_pos (by omega), if_neg (by omega), if_pos (by omega), e1, e3, gdi (by omega) (by omega), gdi (by omega) (by omega), nn, nn, show gI v (27 + 6) (d - 1) = S (d - 1) from e2 (d - 1) (by omega), show gI v (27 + 6) (d - 2) = S (d - 2) from e2 (d - 2) (by omega), q65 hV o1, bI_r hV, gdi (by omega) (by omega), wrd (by omega) (by omega)]
        exact Rf.refl _
      · intro j hj
        rw [gI_p]
        show va_up (gI v 33) _ _ j = va_up S _ _ j
        by_cases z : j = d - 2
        · rw [z, up_s, up_s]
        · rw [up_c z, up_c z]; exact e2 j (by simp only [] at hj; omega)) (0, w) ⟨rfl, fun j hj => absurd hj (Nat.not_lt_zero _), FrI.rf⟩
  obtain ⟨top, v⟩ := v
  simp only [] at i1 i2 i3 hv
  have hV := i3.LR H
  have hd1 := evN_d (val := vl Q s p to) (codes := R.2) R.1
  have hd2 := hR.2.2 h0
  have ht1 : top = 1 := by rw [i1, hd1, hd2]; rfl
  refine ⟨v, e24 H l27 hl h _ (hv _ (e24_6 hV l27 hl h _ ?_)), i3⟩
  rw [if_pos (by rw [i3.g (by omega), hw.1]; exact Int.le_refl _), if_neg (by omega), gdi (by omega) (by omega)]
  have : gI v (27 + 6) 0 = (evN (vl Q s p to) R.2 R.1).2 0 := i2 0 (by rw [hd1, hd2]; omega)
  rw [this]
  rfl
