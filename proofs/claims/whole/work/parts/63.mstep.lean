/-! the reference: one asks -/
def AMr (b : Nat) : Prop := b = 473 ∨ b = 489 ∨ b = 490 ∨ (493 ≤ b ∧ b ≤ 496)
/-- what the asking of one leaves behind, state aside -/
def RLG (w w' : Wd) (Hd : Nat → Nat → Int) (P : Int) : Prop := (∀ i, (i < 33 ∨ 36 < i) → i ≠ 43 → gI w' 473 i = gI w 473 i) ∧ (okI (gI w 473 43) → gI w' 473 43 = wr (gI w 473 43 + P)) ∧ (∀ q i, q < 8 → i < 8 → okI (gI w 496 (8 * q + i)) → gI w' 496 (8 * q + i) = wr (gI w 496 (8 * q + i) + Hd q i))
theorem RLG.rf {w w' : Wd} (h : FrI (fun b => b = 493 ∨ b = 494) w w') : RLG w w' (fun _ _ => 0) 0 := ⟨fun i _ _ => by rw [h.g (by omega)], fun h0 => by rw [h.g (by omega)]; exact wr0 h0, fun q i _ _ h0 => by rw [h.g (by omega)]; exact wr0 h0⟩
theorem tl221 {v : Wd} {p q : Nat} {m : Int} {f g : Row} (H : LR v) (hp : p < 8) (hq : q < 8) (hpq : p ≠ q) (hf : gI v 489 = f) (hg : gI v 490 = g) (b1 : 0 ≤ m ∧ m ≤ f q) (b2 : f q ≤ 999) (b3 : 0 ≤ f p ∧ f p ≤ 999) (b4 : 0 ≤ g q ∧ g q ≤ 9999) :
    bI (F326 9999 (wr (gI (pI v 489 q (wr (gI v 489 q - m))) 490 q + m)) (pI v 489 q (wr (gI v 489 q - m)))) (fun n22 w23 => gd (inb (q : Int) 8) (gd (inb (p : Int) 8) (bI (F326 999 (wr (gI (pI w23 490 q n22) 489 p + m)) (pI w23 490 q n22)) (fun n25 w26 => gd (inb (p : Int) 8) (r0 (pI w26 489 p n25)))))) = r0 (pI (pI (pI v 489 q (f q - m)) 490 q (min (g q + m) 9999)) 489 p (min (va_up f q (f q - m) p + m) 999)) := by
  have e1 : wr (g q + m) = g q + m := wrd (by omega) (by omega)
  have e2 : wr (f q - m) = f q - m := wrd (by omega) (by omega)
  have e3 : va_up f q (f q - m) p = f p := up_c hpq
  have e4 : wr (f p + m) = f p + m := wrd (by omega) (by omega)
  have P8 : (0 : Int) ≤ (p : Int) ∧ (p : Int) < ((8 : Nat) : Int) := by omega
  have Q8 : (0 : Int) ≤ (q : Int) ∧ (q : Int) < ((8 : Nat) : Int) := by omega
  have m1 : min 9999 (g q + m) = min (g q + m) 9999 := by omega
  have m2 : min 999 (f p + m) = min (f p + m) 999 := by omega
  have g1 : gI (pI v 489 q (f q - m)) 490 = g := by rw [gI_r (by decide), hg]
  have g2 : gI (pI (pI v 489 q (f q - m)) 490 q (min (g q + m) 9999)) 489 p = f p := by rw [gI_r (by decide), gI_p, hf, e3]
  have H1 : LR (pI v 489 q (f q - m)) := H
  have H2 : LR (pI (pI v 489 q (f q - m)) 490 q (min (g q + m) 9999)) := H
  rw [hf, e2, g1, e1, q326 H1, bI_r H1, m1, gdi Q8.1 Q8.2, gdi P8.1 P8.2, g2, e4, q326 H2, bI_r H2, m2, gdi P8.1 P8.2, e3]
theorem y221t {w : Wd} {Q : QT} {s : ST} {p q : Nat} {m : Int} (h : MQx w Q s) (hp : p < 8) (hq : q < 8) (hpq : p ≠ q) (hm : 0 ≤ m ∧ m ≤ uL s q) (hG : GS (zn Q) (rcv (hnd1 s q m) p m)) :
    ∃ w', gd (inb (p : Int) 8) (gd (inb (wr ((wr (8 * (q : Int))) + (p : Int))) 64) (gd (inb (wr ((wr (8 * (q : Int))) + (p : Int))) 64) (gd (inb (q : Int) 8) (gd (inb (q : Int) 8) (gd (inb (q : Int) 8) (bI (F326 9999 (wr ((gI (pI (pI (pI (pI w (473 + 22) (p : Int).toNat (q : Int)) (473 + 23) ((wr ((wr (8 * (q : Int))) + (p : Int)) : Int).toNat) (wr ((gI (pI w (473 + 22) (p : Int).toNat (q : Int)) (473 + 23) ((wr ((wr (8 * (q : Int))) + (p : Int)) : Int).toNat)) + m))) 473 43 (wr ((gI (pI (pI w (473 + 22) (p : Int).toNat (q : Int)) (473 + 23) ((wr ((wr (8 * (q : Int))) + (p : Int)) : Int).toNat) (wr ((gI (pI w (473 + 22) (p : Int).toNat (q : Int)) (473 + 23) ((wr ((wr (8 * (q : Int))) + (p : Int)) : Int).toNat)) + m))) 473 43) + m))) (473 + 16) (q : Int).toNat (wr ((gI (pI (pI (pI w (473 + 22) (p : Int).toNat (q : Int)) (473 + 23) ((wr ((wr (8 * (q : Int))) + (p : Int)) : Int).toNat) (wr ((gI (pI w (473 + 22) (p : Int).toNat (q : Int)) (473 + 23) ((wr ((wr (8 * (q : Int))) + (p : Int)) : Int).toNat)) + m))) 473 43 (wr ((gI (pI (pI w (473 + 22) (p : Int).toNat (q : Int)) (473 + 23) ((wr ((wr (8 * (q : Int))) + (p : Int)) : Int).toNat) (wr ((gI (pI w (473 + 22) (p : Int).toNat (q : Int)) (473 + 23) ((wr ((wr (8 * (q : Int))) + (p : Int)) : Int).toNat)) + m))) 473 43) + m))) (473 + 16) (q : Int).toNat) - m))) (473 + 17) (q : Int).toNat) + m)) (pI (pI (pI (pI w (473 + 22) (p : Int).toNat (q : Int)) (473 + 23) ((wr ((wr (8 * (q : Int))) + (p : Int)) : Int).toNat) (wr ((gI (pI w (473 + 22) (p : Int).toNat (q : Int)) (473 + 23) ((wr ((wr (8 * (q : Int))) + (p : Int)) : Int).toNat)) + m))) 473 43 (wr ((gI (pI (pI w (473 + 22) (p : Int).toNat (q : Int)) (473 + 23) ((wr ((wr (8 * (q : Int))) + (p : Int)) : Int).toNat) (wr ((gI (pI w (473 + 22) (p : Int).toNat (q : Int)) (473 + 23) ((wr ((wr (8 * (q : Int))) + (p : Int)) : Int).toNat)) + m))) 473 43) + m))) (473 + 16) (q : Int).toNat (wr ((gI (pI (pI (pI w (473 + 22) (p : Int).toNat (q : Int)) (473 + 23) ((wr ((wr (8 * (q : Int))) + (p : Int)) : Int).toNat) (wr ((gI (pI w (473 + 22) (p : Int).toNat (q : Int)) (473 + 23) ((wr ((wr (8 * (q : Int))) + (p : Int)) : Int).toNat)) + m))) 473 43 (wr ((gI (pI (pI w (473 + 22) (p : Int).toNat (q : Int)) (473 + 23) ((wr ((wr (8 * (q : Int))) + (p : Int)) : Int).toNat) (wr ((gI (pI w (473 + 22) (p : Int).toNat (q : Int)) (473 + 23) ((wr ((wr (8 * (q : Int))) + (p : Int)) : Int).toNat)) + m))) 473 43) + m))) (473 + 16) (q : Int).toNat) - m)))) (fun n22 w23 => gd (inb (q : Int) 8) (gd (inb (p : Int) 8) (bI (F326 999 (wr ((gI (pI w23 (473 + 17) (q : Int).toNat n22) (473 + 16) (p : Int).toNat) + m)) (pI w23 (473 + 17) (q : Int).toNat n22)) (fun n25 w26 => gd (inb (p : Int) 8) (r0 (pI w26 (473 + 16) (p : Int).toNat n25)))))))))))) = r0 w' ∧ MQx w' Q (rcv (hnd1 s q m) p m) ∧ FrI AMr w w' ∧ gI w' 495 = va_up (gI w 495) p q ∧ (∀ i, i ≠ 43 → gI w' 473 i = gI w 473 i) ∧ gI w' 473 43 = wr (gI w 473 43 + m) ∧ gI w' 496 = va_up (gI w 496) (8 * q + p) (wr (gI w 496 (8 * q + p) + m)) := by
  have P8 : (0 : Int) ≤ (p : Int) ∧ (p : Int) < ((8 : Nat) : Int) := by omega
  have Q8 : (0 : Int) ≤ (q : Int) ∧ (q : Int) < ((8 : Nat) : Int) := by omega
  have R8 : (0 : Int) ≤ ((8 * q + p : Nat) : Int) ∧ ((8 * q + p : Nat) : Int) < ((64 : Nat) : Int) := by omega
  have hlq := h.s.1 q
  have hlp := h.s.1 p
  have hgq := h.s.2.2.2.2.1 q
  have A473 : AMr 473 := Or.inl rfl
  have A489 : AMr 489 := Or.inr (Or.inl rfl)
  have A490 : AMr 490 := Or.inr (Or.inr (Or.inl rfl))
  have A495 : AMr 495 := Or.inr (Or.inr (Or.inr ⟨by decide, by decide⟩))
  have A496 : AMr 496 := Or.inr (Or.inr (Or.inr ⟨by decide, by decide⟩))
  have j0 : wr (wr (8 * (q : Int)) + (p : Int)) = ((8 * q + p : Nat) : Int) := by rw [wrd (z := 8 * (q : Int)) (by omega) (by omega), wrd (by omega) (by omega)]; omega
  have M3 : MQx (pI (pI w 495 p q) 496 (8 * q + p) (wr (gI (pI w 495 p q) 496 (8 * q + p) + m))) Q s := h.fr (A := fun b => b = 495 ∨ b = 496) ((FrI.p (Or.inl rfl)).pp (Or.inr rfl)) (fun b e => by rcases e with e | e <;> subst e <;> decide)
  have M5 := M3.pf (i := 43) (x := wr (gI (pI (pI w 495 p q) 496 (8 * q + p) (wr (gI (pI w 495 p q) 496 (8 * q + p) + m))) 473 43 + m)) (by decide)
  have a5 : gI (pI (pI (pI w 495 p q) 496 (8 * q + p) (wr (gI (pI w 495 p q) 496 (8 * q + p) + m))) 473 43 (wr (gI (pI (pI w 495 p q) 496 (8 * q + p) (wr (gI (pI w 495 p q) 496 (8 * q + p) + m))) 473 43 + m))) 495 = va_up (gI w 495) p q := by rw [gI_r (by decide), gI_r (by decide), gI_p]
  have b5 : gI (pI (pI (pI w 495 p q) 496 (8 * q + p) (wr (gI (pI w 495 p q) 496 (8 * q + p) + m))) 473 43 (wr (gI (pI (pI w 495 p q) 496 (8 * q + p) (wr (gI (pI w 495 p q) 496 (8 * q + p) + m))) 473 43 + m))) 496 = va_up (gI w 496) (8 * q + p) (wr (gI w 496 (8 * q + p) + m)) := by rw [gI_r (by decide), gI_p, gI_r (by decide)]
  have d5 : gI (pI (pI (pI w 495 p q) 496 (8 * q + p) (wr (gI (pI w 495 p q) 496 (8 * q + p) + m))) 473 43 (wr (gI (pI (pI w 495 p q) 496 (8 * q + p) (wr (gI (pI w 495 p q) 496 (8 * q + p) + m))) 473 43 + m))) 473 = va_up (gI w 473) 43 (wr (gI w 473 43 + m)) := by rw [gI_p, gI_r (by decide), gI_r (by decide)]
  have F5 : FrI AMr w (pI (pI (pI w 495 p q) 496 (8 * q + p) (wr (gI (pI w 495 p q) 496 (8 * q + p) + m))) 473 43 (wr (gI (pI (pI w 495 p q) 496 (8 * q + p) (wr (gI (pI w 495 p q) 496 (8 * q + p) + m))) 473 43 + m))) := ((FrI.p A495).pp A496).pp A473
  rw [j0, gdi P8.1 P8.2, gdi R8.1 R8.2, gdi R8.1 R8.2, gdi Q8.1 Q8.2, gdi Q8.1 Q8.2, gdi Q8.1 Q8.2, nn p, nn q, nn (8 * q + p), show (473 + 22 : Nat) = 495 from rfl, show (473 + 23 : Nat) = 496 from rfl, show (473 + 16 : Nat) = 489 from rfl, show (473 + 17 : Nat) = 490 from rfl]
  have T := tl221 (p := p) (q := q) (m := m) M5.H hp hq hpq M5.2.1.1 M5.2.1.2.1 hm hlq.2 hlp hgq
  have R := M5.rcv hG
  refine ⟨_, T, R, ((F5.pp A489).pp A490).pp A489, ?_, fun i hi => ?_, ?_, ?_⟩
  · rw [gI_r (by decide), gI_r (by decide), gI_r (by decide), a5]
  · rw [gI_r (by decide), gI_r (by decide), gI_r (by decide), d5, up_c hi]
  · rw [gI_r (by decide), gI_r (by decide), gI_r (by decide), d5, up_s]
  · rw [gI_r (by decide), gI_r (by decide), gI_r (by decide), b5]
theorem y221 {w : Wd} {Q : QT} {s : ST} {p : Nat} (h : MQx w Q s) (hf : gI w 473 44 = 0) (hp : p < zn Q) :
    ∃ w', F221 473 p w = r0 w' ∧ MQx w' Q (oneA Q p s) ∧ FrI AMr w w' ∧ gI w' 495 = (if asks Q s p = true then va_up (gI w 495) p (whoA Q s p) else gI w 495) ∧ RLG w w' (dH Q s p) (dP Q s p) := by
  have h8 := h.n8
  have hno : ∀ w', F221 473 p w = r0 w' → FrI (fun b => b = 493 ∨ b = 494) w w' → asks Q s p = false → ∃ w', F221 473 p w = r0 w' ∧ MQx w' Q (oneA Q p s) ∧ FrI AMr w w' ∧ gI w' 495 = (if asks Q s p = true then va_up (gI w 495) p (whoA Q s p) else gI w 495) ∧ RLG w w' (dH Q s p) (dP Q s p) := by
    intro w' h1 h2 h3
    refine ⟨w', h1, ?_, h2.wk (fun b e => Or.inr (Or.inr (Or.inr (by omega)))), by rw [h3, if_neg (by simp), h2.g (by omega)], ?_⟩
    · unfold oneA; rw [h3, if_neg (by simp)]
      exact h.fr h2 (fun b e => by omega)
    · have e1 : dH Q s p = fun _ _ => 0 := by funext q i; unfold dH; rw [h3, if_neg (by simp)]
      have e2 : dP Q s p = 0 := by unfold dP; rw [h3, if_neg (by simp)]
      rw [e1, e2]
      exact RLG.rf h2
  have hmask : bAnd (bAnd (mk (oth Q (uT s).toNat p) 8) (mk (alv s) 8)) (bXor (mk (uI s) 8) (-1)) = mk (cmp Q s p) 8 := by
    rw [mk_and (by omega), mk_not (by omega)]
    apply mk_congr
    intro i hi
    show (oth Q (uT s).toNat p i && alv s i && !uI s i) = (oth Q (uT s).toNat p i && (alv s i && !uI s i))
    rw [Bool.and_assoc]
  have eL : ∀ {v : Wd}, MQx v Q s → ∀ j, gI v (473 + 16) j = uL s j := fun {v} h j => by rw [show gI v (473 + 16) = uL s from h.2.1.1]
  have eI : ∀ {v : Wd}, MQx v Q s → gI v 473 36 = mk (uI s) 8 := fun {v} h => h.2.1.2.2.2.2.2.2.2
  cases z1 : outs s p
  · refine hno w (e221 h.H l473 _ ?_) FrI.rf (by unfold asks; rw [z1]; rfl)
    rw [y212 h hp, bI_r h.H, y213 h, bI_r h.H, if_neg (by rw [hf]; decide), gdi (by omega) (by omega), nn, eL h]
    by_cases z : uL s p = 0
    · rw [if_pos z]
    · rw [if_neg z, eI h, y175 h.H (by omega), bI_r h.H]
      have hu := (h.s.1 p).1
      have : uI s p = true := by
        unfold outs alv at z1
        rw [decide_eq_true (by omega)] at z1
        cases q : uI s p
        · rw [q] at z1; exact absurd z1 (by decide)
        · rfl
      rw [this, if_pos (by decide)]
  have hz1 : ¬ uL s p = 0 ∧ uI s p = false := by
    unfold outs alv at z1
    cases q : uI s p
    · refine ⟨fun z => ?_, rfl⟩
      rw [z] at z1; exact absurd z1 (by simp)
    · rw [q] at z1; simp at z1
  have hst : ∀ {o : Out}, (if mk (cmp Q s p) 8 = 0 then r0 w else bI (F218 473 p w) (fun n10 w11 => (if n10 ≠ 0 then bI (F220 473 (mk (cmp Q s p) 8) w11) (fun n13 w14 => gd (inb n13 8) (bI (F219 473 n13 p w14) (fun n16 w17 => bI (F326 (gI w14 (473 + 16) n13.toNat) n16 w17) (fun n19 w20 => gd (inb p 8) (gd (inb (wr ((wr (8 * n13)) + p)) 64) (gd (inb (wr ((wr (8 * n13)) + p)) 64) (gd (inb n13 8) (gd (inb n13 8) (gd (inb n13 8) (bI (F326 9999 (wr ((gI (pI (pI (pI (pI w20 (473 + 22) (p : Int).toNat n13) (473 + 23) ((wr ((wr (8 * n13)) + p) : Int).toNat) (wr ((gI (pI w20 (473 + 22) (p : Int).toNat n13) (473 + 23) ((wr ((wr (8 * n13)) + p) : Int).toNat)) + n19))) 473 43 (wr ((gI (pI (pI w20 (473 + 22) (p : Int).toNat n13) (473 + 23) ((wr ((wr (8 * n13)) + p) : Int).toNat) (wr ((gI (pI w20 (473 + 22) (p : Int).toNat n13) (473 + 23) ((wr ((wr (8 * n13)) + p) : Int).toNat)) + n19))) 473 43) + n19))) (473 + 16) n13.toNat (wr ((gI (pI (pI (pI w20 (473 + 22) (p : Int).toNat n13) (473 + 23) ((wr ((wr (8 * n13)) + p) : Int).toNat) (wr ((gI (pI w20 (473 + 22) (p : Int).toNat n13) (473 + 23) ((wr ((wr (8 * n13)) + p) : Int).toNat)) + n19))) 473 43 (wr ((gI (pI (pI w20 (473 + 22) (p : Int).toNat n13) (473 + 23) ((wr ((wr (8 * n13)) + p) : Int).toNat) (wr ((gI (pI w20 (473 + 22) (p : Int).toNat n13) (473 + 23) ((wr ((wr (8 * n13)) + p) : Int).toNat)) + n19))) 473 43) + n19))) (473 + 16) n13.toNat) - n19))) (473 + 17) n13.toNat) + n19)) (pI (pI (pI (pI w20 (473 + 22) (p : Int).toNat n13) (473 + 23) ((wr ((wr (8 * n13)) + p) : Int).toNat) (wr ((gI (pI w20 (473 + 22) (p : Int).toNat n13) (473 + 23) ((wr ((wr (8 * n13)) + p) : Int).toNat)) + n19))) 473 43 (wr ((gI (pI (pI w20 (473 + 22) (p : Int).toNat n13) (473 + 23) ((wr ((wr (8 * n13)) + p) : Int).toNat) (wr ((gI (pI w20 (473 + 22) (p : Int).toNat n13) (473 + 23) ((wr ((wr (8 * n13)) + p) : Int).toNat)) + n19))) 473 43) + n19))) (473 + 16) n13.toNat (wr ((gI (pI (pI (pI w20 (473 + 22) (p : Int).toNat n13) (473 + 23) ((wr ((wr (8 * n13)) + p) : Int).toNat) (wr ((gI (pI w20 (473 + 22) (p : Int).toNat n13) (473 + 23) ((wr ((wr (8 * n13)) + p) : Int).toNat)) + n19))) 473 43 (wr ((gI (pI (pI w20 (473 + 22) (p : Int).toNat n13) (473 + 23) ((wr ((wr (8 * n13)) + p) : Int).toNat) (wr ((gI (pI w20 (473 + 22) (p : Int).toNat n13) (473 + 23) ((wr ((wr (8 * n13)) + p) : Int).toNat)) + n19))) 473 43) + n19))) (473 + 16) n13.toNat) - n19)))) (fun n22 w23 => gd (inb n13 8) (gd (inb p 8) (bI (F326 999 (wr ((gI (pI w23 (473 + 17) n13.toNat n22) (473 + 16) (p : Int).toNat) + n19)) (pI w23 (473 + 17) n13.toNat n22)) (fun n25 w26 => gd (inb p 8) (r0 (pI w26 (473 + 16) (p : Int).toNat n25)))))))))))))))) else r0 w11))) = some o → F221 473 p w = some o := by
    intro o ho
    refine e221 h.H l473 _ ?_
    rw [y212 h hp, bI_r h.H, y213 h, bI_r h.H, if_neg (by rw [hf]; decide), gdi (by omega) (by omega), nn, eL h, if_neg hz1.1, eI h, y175 h.H (by omega), bI_r h.H, hz1.2, if_neg (by decide), hmask]
    exact ho
  by_cases z2 : mk (cmp Q s p) 8 = 0
  · refine hno w (hst ?_) FrI.rf (by unfold asks; rw [z2]; simp)
    rw [if_pos z2]
  obtain ⟨w1, k1, k2⟩ := y218 h hp
  have h1 := h.fr k2 (fun b e => by omega)
  cases z3 : wnt Q s p
  · refine hno w1 (hst ?_) k2 (by unfold asks; rw [z3]; simp)
    rw [if_neg z2, k1, bI_r h1.H, z3, if_neg (by decide)]
  have ha : asks Q s p = true := by unfold asks; rw [z1, z3]; simp [z2]
  obtain ⟨i1, i2, i3⟩ := whoA_ok h.s z2
  obtain ⟨c1, c2, c3, c4⟩ := cmp_in i3
  obtain ⟨w2, k3, k4⟩ := y219 (to := p) h1 c1 (by omega)
  have h2 := h1.fr k4 (fun b e => by omega)
  have f2 := k2.tr k4
  have hm := mch_b (Q := Q) (p := p) h.s
  have hsay : min (uL s (whoA Q s p)) (say Q s (whoA Q s p) p) = mch Q s p := by unfold mch; omega
  have hcmp : ∀ i, zn Q ≤ i → cmp Q s p i = false := fun i hi => by unfold cmp oth; rw [decide_eq_false (by omega)]; rfl
  have hG := GS_one (p := p) hp h.s
  have eo : oneA Q p s = rcv (hnd1 s (whoA Q s p) (mch Q s p)) p (mch Q s p) := by unfold oneA; rw [if_pos ha]
  have hpq : p ≠ whoA Q s p := fun e => c2 e.symm
  rw [eo] at hG
  obtain ⟨w', t1, t2, t3, t4, t5, t6, t7⟩ := y221t h2 (show p < 8 by omega) i2 hpq hm hG
  have t8 := hst (show _ = some _ from (by
    rw [if_neg z2, k1, bI_r h1.H, z3, if_pos (show b2i true ≠ 0 by decide), y220 h1 hcmp, bI_r h1.H, i1, gdi (Int.natCast_nonneg _) (Int.ofNat_lt.mpr i2), k3, bI_r h2.H, nn, eL h1, q326 h2.H, hsay, bI_r h2.H]
    exact t1))
  refine ⟨w', t8, by rw [eo]; exact t2, (f2.wk (fun b e => Or.inr (Or.inr (Or.inr (by omega))))).tr t3, by rw [if_pos ha, t4, f2.g (by decide)], ⟨fun i hi h43 => by rw [t5 i h43, f2.g (by decide)], fun ho => ?_, fun q' i hq' hi ho => ?_⟩⟩
  · rw [t6, f2.g (by decide)]
    unfold dP
    rw [if_pos ha]
  · rw [t7, f2.g (by decide)]
    unfold dH
    by_cases e : 8 * q' + i = 8 * whoA Q s p + p
    · rw [e, up_s, if_pos ⟨ha, by omega, by omega⟩]
    · rw [up_c e, if_neg (fun z => e (by omega))]
      exact wr0 ho
