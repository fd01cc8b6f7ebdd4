/-! the reference's questions: a game -/
def gmB (s : ST) (x o : Nat) (b1 b2 : Bool) : ST := if b2 = true then sH (if b1 = true then sH s x else s) o else (if b1 = true then sH s x else s)
theorem gmB_U {Q : QT} {s : ST} {x o c : Nat} : gmU Q s x o c = goN Q (gmB s x o (decide (c / 2 = 1)) (decide (c % 2 = 1))) 6 := by
  unfold gmU gmB
  simp only [decide_eq_true_eq]
def mnf (s : ST) (x o : Nat) (f : Row) : Prop := ∀ i, i ≠ x → i ≠ o → f i = uM s i
theorem gmB_M {s : ST} {x o : Nat} {b1 b2 : Bool} {f : Row} (hf : mnf s x o f) (hne : x ≠ o) : va_up (va_up f x (if b1 = true then 9 else uM s x)) o (if b2 = true then 9 else uM s o) = uM (gmB s x o b1 b2) := by
  funext i
  have e : uM (gmB s x o b1 b2) i = if i = o then (if b2 = true then 9 else uM s o) else if i = x then (if b1 = true then 9 else uM s x) else uM s i := by
    cases b1 <;> cases b2
    · show uM s i = _
      by_cases z : i = o
      · rw [if_pos z, z]; rfl
      · rw [if_neg z]
        by_cases y : i = x
        · rw [if_pos y, y]; rfl
        · rw [if_neg y]
    · show va_up (uM s) o 9 i = _
      by_cases z : i = o
      · rw [if_pos z, z, up_s]; rfl
      · rw [if_neg z, up_c z]
        by_cases y : i = x
        · rw [if_pos y, y]; rfl
        · rw [if_neg y]
    · show va_up (uM s) x 9 i = _
      by_cases z : i = o
      · rw [if_pos z, z, up_c (fun q => hne q.symm)]; rfl
      · rw [if_neg z]
        by_cases y : i = x
        · rw [if_pos y, y, up_s]; rfl
        · rw [if_neg y, up_c y]
    · show va_up (va_up (uM s) x 9) o 9 i = _
      by_cases z : i = o
      · rw [if_pos z, z, up_s]; rfl
      · rw [if_neg z, up_c z]
        by_cases y : i = x
        · rw [if_pos y, y, up_s]; rfl
        · rw [if_neg y, up_c y]
  rw [e]
  by_cases z : i = o
  · rw [if_pos z, z, up_s]
  · rw [if_neg z, up_c z]
    by_cases y : i = x
    · rw [if_pos y, y, up_s]
    · rw [if_neg y, up_c y, hf i y z]
theorem gmB_I {s : ST} {x o : Nat} {b1 b2 : Bool} (hx : x < 8) (ho : o < 8) : bOr (mk (uI s) 8) (bOr (if b1 = true then bShl 1 x else 0) (if b2 = true then bShl 1 o else 0)) = mk (uI (gmB s x o b1 b2)) 8 := by
  have z0 : (0 : Int) = mk (fun _ => false) 8 := (mk_eq0.mpr (fun _ _ => rfl)).symm
  have e1 : (if b1 = true then bShl 1 x else 0) = mk (fun i => b1 && (i == x)) 8 := by
    cases b1
    · rw [if_neg (by decide)]; exact z0
    · rw [if_pos rfl, mk_one (n := 8) hx (by decide)]; rfl
  have e2 : (if b2 = true then bShl 1 o else 0) = mk (fun i => b2 && (i == o)) 8 := by
    cases b2
    · rw [if_neg (by decide)]; exact z0
    · rw [if_pos rfl, mk_one (n := 8) ho (by decide)]; rfl
  rw [e1, e2, mk_or (by decide), mk_or (by decide)]
  apply mk_congr
  intro i _
  cases b1 <;> cases b2
  · show (uI s i || (false || false)) = uI s i
    cases uI s i <;> rfl
  · show (uI s i || (false || (i == o))) = (if i = o then true else uI s i)
    by_cases z : i = o
    · rw [if_pos z]; simp [z]
    · have e : (i == o) = false := by simpa using z
      rw [if_neg z, e]; cases uI s i <;> rfl
  · show (uI s i || ((i == x) || false)) = (if i = x then true else uI s i)
    by_cases z : i = x
    · rw [if_pos z]; simp [z]
    · have e : (i == x) = false := by simpa using z
      rw [if_neg z, e]; cases uI s i <;> rfl
  · show (uI s i || ((i == x) || (i == o))) = (if i = o then true else if i = x then true else uI s i)
    by_cases z : i = o
    · rw [if_pos z]; simp [z]
    · have e : (i == o) = false := by simpa using z
      rw [if_neg z, e]
      by_cases y : i = x
      · rw [if_pos y]; simp [y]
      · have e3 : (i == x) = false := by simpa using y
        rw [if_neg y, e3]; cases uI s i <;> rfl
theorem gmB_G {Q : QT} {s : ST} {x o : Nat} {b1 b2 : Bool} (h : GS (zn Q) s) (hI : ∀ p, zn Q ≤ p → uI s p = false) (hx : x < zn Q) (ho : o < zn Q) : GS (zn Q) (gmB s x o b1 b2) ∧ ∀ p, zn Q ≤ p → uI (gmB s x o b1 b2) p = false := by
  have key : ∀ {u : ST} {y : Nat}, y < zn Q → GS (zn Q) u ∧ (∀ p, zn Q ≤ p → uI u p = false) → GS (zn Q) (sH u y) ∧ ∀ p, zn Q ≤ p → uI (sH u y) p = false := by
    intro u y hy hu
    refine ⟨GS_H hu.1, fun p hp => ?_⟩
    show (if p = y then true else uI u p) = false
    rw [if_neg (by omega)]; exact hu.2 p hp
  cases b1 <;> cases b2
  · exact ⟨h, hI⟩
  · exact key ho ⟨h, hI⟩
  · exact key hx ⟨h, hI⟩
  · exact key ho (key hx ⟨h, hI⟩)
theorem gmB_r {s : ST} {x o : Nat} {b1 b2 : Bool} : uL (gmB s x o b1 b2) = uL s ∧ uG (gmB s x o b1 b2) = uG s ∧ uW (gmB s x o b1 b2) = uW s ∧ uT (gmB s x o b1 b2) = uT s ∧ uC (gmB s x o b1 b2) = uC s ∧ uP (gmB s x o b1 b2) = uP s := by
  cases b1 <;> cases b2 <;> exact ⟨rfl, rfl, rfl, rfl, rfl, rfl⟩
theorem MQx.gm {u : Wd} {Q : QT} {s : ST} {x o : Nat} {f : Row} {b1 b2 : Bool} (h : MQx u Q (pM s f)) (hG : GS (zn Q) s) (hx : x < zn Q) (ho : o < zn Q) (hne : x ≠ o) (hf : mnf s x o f) :
    MQx (pI (pI (pI u 487 x (if b1 = true then 9 else uM s x)) 487 o (if b2 = true then 9 else uM s o)) 473 36 (mk (uI (gmB s x o b1 b2)) 8)) Q (gmB s x o b1 b2) := by
  have fr : FrI (fun b => b = 487 ∨ b = 473) u (pI (pI (pI u 487 x (if b1 = true then 9 else uM s x)) 487 o (if b2 = true then 9 else uM s o)) 473 36 (mk (uI (gmB s x o b1 b2)) 8)) := ((FrI.p (A := fun b => b = 487 ∨ b = 473) (Or.inl rfl)).pp (Or.inl rfl)).pp (Or.inr rfl)
  obtain ⟨r1, r2, r3, r4, r5, r6, r7, r8⟩ := h.2.1
  obtain ⟨g1, g2⟩ := gmB_G (b1 := b1) (b2 := b2) hG h.I hx ho
  obtain ⟨q1, q2, q3, q4, q5, q6⟩ := gmB_r (s := s) (x := x) (o := o) (b1 := b1) (b2 := b2)
  refine h.to fr (fun b c1 c2 z => ?_) ⟨?_, ?_, ?_, ?_, ?_, ?_, ?_, ?_⟩ g1 g2 (by rw [gI_c (by decide), gI_r (by decide), gI_r (by decide)]; exact h.F)
  · have z : b = 487 ∨ b = 473 := z
    omega
  · rw [fr.g (by decide), r1, q1]; rfl
  · rw [fr.g (by decide), r2, q2]; rfl
  · rw [fr.g (by decide), r3, q3]; rfl
  · rw [gI_r (by decide), gI_p, gI_p, r4]; exact gmB_M hf hne
  · rw [gI_c (by decide), gI_r (by decide), gI_r (by decide), r5, q4]; rfl
  · rw [gI_c (by decide), gI_r (by decide), gI_r (by decide), r6, q5]; rfl
  · rw [gI_c (by decide), gI_r (by decide), gI_r (by decide), r7, q6]; rfl
  · rw [gI_s]
theorem y269d {u : Wd} {x o : Nat} {m1 m2 : Int} {c : Nat} (H : LR u) (hc : c < 4) : Rf (s269_61 473 x o m1 m2 c (b2i (decide (c / 2 = 1))) (b2i (decide (c % 2 = 1))) u) (s269_27 473 x o m1 m2 c u) := by
  intro q hq
  refine e269_27 H l473 _ ?_
  rw [if_neg (by omega)]
  have : c = 0 ∨ c = 1 ∨ c = 2 ∨ c = 3 := by omega
  rcases this with e | e | e | e <;> subst e
  · rw [if_pos (by decide), if_pos (by decide)]; exact hq
  · rw [if_pos (by decide), if_neg (by decide)]; exact hq
  · rw [if_neg (by decide), if_pos (by decide)]; exact hq
  · rw [if_neg (by decide), if_neg (by decide)]; exact hq
theorem l487 : lay 487 = (21, 8) := by decide +kernel
theorem y269e {u : Wd} {x o c : Nat} {m1 m2 : Int} {b1 b2 : Bool} (H : LR u) (hx : x < 8) (ho : o < 8) : Rf (s269_127 473 x o m1 m2 c (b2i b1) (b2i b2) (if b2 = true then bShl 1 o else 0) (if b1 = true then bShl 1 x else 0) (gI u 473 36) 473 (pI (pI u 487 x (if b1 = true then 9 else m1)) 487 o (if b2 = true then 9 else m2))) (s269_61 473 x o m1 m2 c (b2i b1) (b2i b2) u) := by
  intro q hq
  refine e269_61 H l473 _ ?_
  have st : ∀ (y1 y2 : Int) {q : Out}, (if b2i b1 = 0 then (if b2i b2 = 0 then s269_127 473 x o m1 m2 c (b2i b1) (b2i b2) 0 0 (gI u 473 36) 473 (pI (pI u 487 x y1) 487 o y2) else s269_127 473 x o m1 m2 c (b2i b1) (b2i b2) (bShl 1 o) 0 (gI u 473 36) 473 (pI (pI u 487 x y1) 487 o y2)) else (if b2i b2 = 0 then s269_127 473 x o m1 m2 c (b2i b1) (b2i b2) 0 (bShl 1 x) (gI u 473 36) 473 (pI (pI u 487 x y1) 487 o y2) else s269_127 473 x o m1 m2 c (b2i b1) (b2i b2) (bShl 1 o) (bShl 1 x) (gI u 473 36) 473 (pI (pI u 487 x y1) 487 o y2))) = some q → s269_97 473 x o m1 m2 c (b2i b1) (b2i b2) y2 o 487 (pI u 487 x y1) = some q := by
    intro y1 y2 q hq
    refine e269_97 (w := pI u 487 x y1) H l473 l487 _ ?_
    rw [gdi (by omega) (by omega), nn, gI_r (by decide), gI_r (by decide)]
    exact hq
  cases b1 <;> cases b2
  · rw [if_pos (by decide), gdi (by omega) (by omega), if_pos (by decide), nn]
    exact st _ _ (by rw [if_pos (by decide), if_pos (by decide)]; exact hq)
  · rw [if_pos (by decide), gdi (by omega) (by omega), if_neg (by decide), nn]
    exact st _ _ (by rw [if_pos (by decide), if_neg (by decide)]; exact hq)
  · rw [if_neg (by decide), gdi (by omega) (by omega), if_pos (by decide), nn]
    exact st _ _ (by rw [if_neg (by decide), if_pos (by decide)]; exact hq)
  · rw [if_neg (by decide), gdi (by omega) (by omega), if_neg (by decide), nn]
    exact st _ _ (by rw [if_neg (by decide), if_neg (by decide)]; exact hq)
theorem gm0 {c : Nat} (hc : c < 4) : wr (2 * (c : Int)) = ((2 * c : Nat) : Int) ∧ wr (((2 * c : Nat) : Int) + 1) = ((2 * c + 1 : Nat) : Int) ∧ wr (2 * wr (Int.tdiv (c : Int) 2)) = 2 * ((c / 2 : Nat) : Int) ∧ wr (2 * Int.tmod (c : Int) 2) = 2 * ((c % 2 : Nat) : Int) := by
  have : c = 0 ∨ c = 1 ∨ c = 2 ∨ c = 3 := by omega
  rcases this with e | e | e | e <;> subst e <;> decide
theorem gm1 {x y : Int} (h : 0 ≤ x ∧ x ≤ 999) (hy : 0 ≤ y ∧ y ≤ 2) : wr (wr (Int.tdiv x 4) - y) = x / 4 - y := by
  rw [Int.tdiv_eq_ediv_of_nonneg h.1, wrd (z := x / 4) (by omega) (by omega), wrd (by omega) (by omega)]
theorem nA507 : ¬ AMr 507 := by unfold AMr; omega
theorem a507 (b : Nat) (hb : b = 507) : b ≠ 473 ∧ b < 477 ∨ 485 < b ∧ b ≠ 487 ∧ b ≠ 489 ∧ b ≠ 490 ∧ b ≠ 491 := by omega
theorem gm2 {w : Wd} {c : Nat} {g : Row} (hg : ∀ i, i < 2 * c → gI w 507 i = g i) : ∀ i, i < 2 * (c + 1) → gI (pI (pI w 507 (2 * c) (g (2 * c))) 507 (2 * c + 1) (g (2 * c + 1))) 507 i = g i := by
  intro i hi
  by_cases z : i = 2 * c + 1
  · rw [z, gI_s]
  · rw [gI_c z]
    by_cases y : i = 2 * c
    · rw [y, gI_s]
    · rw [gI_c y]; exact hg i (by omega)
theorem y269c {w0 u : Wd} {Q : QT} {s : ST} {x o c : Nat} {f : Row} (h0 : MQy w0 Q s) (hT : uT s ≤ 999) (h : MQx u Q (pM s f)) (hR : Rn w0 s u) (hf : mnf s x o f) (hx : x < zn Q) (ho : o < zn Q) (hne : x ≠ o) (hc : c < 4) (hg : ∀ i, i < 2 * c → gI u 507 i = gmG Q s x o i) :
    ∃ u' f', Rf (s269_27 473 x o (uM s x) (uM s o) ((c + 1 : Nat) : Int) u') (s269_27 473 x o (uM s x) (uM s o) c u) ∧ MQx u' Q (pM s f') ∧ Rn w0 s u' ∧ mnf s x o f' ∧ ∀ i, i < 2 * (c + 1) → gI u' 507 i = gmG Q s x o i := by
  have h8 := h0.1.n8
  have hT0 := h0.1.t
  have hx8 : x < 8 := by omega
  have ho8 : o < 8 := by omega
  have C8 : (0 : Int) ≤ ((2 * c : Nat) : Int) ∧ ((2 * c : Nat) : Int) < ((8 : Nat) : Int) := by omega
  have C9 : (0 : Int) ≤ ((2 * c + 1 : Nat) : Int) ∧ ((2 * c + 1 : Nat) : Int) < ((8 : Nat) : Int) := by omega
  have X8 : (0 : Int) ≤ (x : Int) ∧ (x : Int) < ((8 : Nat) : Int) := by omega
  have O8 : (0 : Int) ≤ (o : Int) ∧ (o : Int) < ((8 : Nat) : Int) := by omega
  have C1 : c < 2000000000 := by omega
  have H0 : LR (pI (pI u 487 x (if decide (c / 2 = 1) = true then 9 else uM s x)) 487 o (if decide (c % 2 = 1) = true then 9 else uM s o)) := h.H
  have hU := gmB_U (Q := Q) (s := s) (x := x) (o := o) (c := c)
  have hM := h.gm (b1 := decide (c / 2 = 1)) (b2 := decide (c % 2 = 1)) h0.1.s hx ho hne hf
  have D := (y269e (c := c) (m1 := uM s x) (m2 := uM s o) (b1 := decide (c / 2 = 1)) (b2 := decide (c % 2 = 1)) h.H hx8 ho8).tr (y269d h.H hc)
  have e36 : gI u 473 36 = mk (uI s) 8 := h.2.1.2.2.2.2.2.2.2
  rw [e36] at D
  have hmask := gmB_I (s := s) (x := x) (o := o) (b1 := decide (c / 2 = 1)) (b2 := decide (c % 2 = 1)) hx8 ho8
  obtain ⟨q1, q2, q3, q4, q5, q6⟩ := gmB_r (s := s) (x := x) (o := o) (b1 := decide (c / 2 = 1)) (b2 := decide (c % 2 = 1))
  have R1 := ((hR.I (A := fun b => b = 487) (FrI.p (i := x) (x := if decide (c / 2 = 1) = true then 9 else uM s x) rfl) (fun b hb => by unfold ZS; omega)).I (A := fun b => b = 487) (FrI.p (i := o) (x := if decide (c % 2 = 1) = true then 9 else uM s o) rfl) (fun b hb => by unfold ZS; omega)).p (i := 36) (x := mk (uI (gmB s x o (decide (c / 2 = 1)) (decide (c % 2 = 1)))) 8) (by unfold ZF; omega) (by decide) (by decide)
  have g5 : gI (pI (pI (pI u 487 x (if decide (c / 2 = 1) = true then 9 else uM s x)) 487 o (if decide (c % 2 = 1) = true then 9 else uM s o)) 473 36 (mk (uI (gmB s x o (decide (c / 2 = 1)) (decide (c % 2 = 1)))) 8)) 507 = gI u 507 := by rw [gI_r (by decide), gI_r (by decide), gI_r (by decide)]
  have e8 : ∀ v, E8 (goN Q v 6) v → E8 v s → E8 (goN Q v 6) s := fun v a b => a.tr b
  have eB : E8 (gmB s x o (decide (c / 2 = 1)) (decide (c % 2 = 1))) s := fun p _ => ⟨by rw [q1], by rw [q2], by rw [q3]⟩
  have mB : mnf s x o (uM (gmB s x o (decide (c / 2 = 1)) (decide (c % 2 = 1)))) := by
    intro i i1 i2
    rw [← gmB_M hf hne, up_c i2, up_c i1]; exact hf i i1 i2
  revert D hM R1 g5 H0
  rw [← hmask]
  generalize pI (pI u 487 x (if decide (c / 2 = 1) = true then 9 else uM s x)) 487 o (if decide (c % 2 = 1) = true then 9 else uM s o) = v0
  generalize (if decide (c % 2 = 1) = true then bShl 1 o else 0) = t2
  generalize (if decide (c / 2 = 1) = true then bShl 1 x else 0) = t1
  generalize b2i (decide (c / 2 = 1)) = y1
  generalize b2i (decide (c % 2 = 1)) = y2
  intro H0 hM D R1 g5
  generalize hB : gmB s x o (decide (c / 2 = 1)) (decide (c % 2 = 1)) = B at *
  generalize hv1 : pI v0 473 36 (bOr (mk (uI s) 8) (bOr t1 t2)) = v1 at *
  obtain ⟨u2, b1, b2, b3, -⟩ := y223 (K := 6) hM R1.f (by rw [q4]; omega)
  have E := e8 B (hM.E8 6 (by rw [q4]; omega)) eB
  have R2 := R1.J b3
  have gl := (b2.s).1
  obtain ⟨w1, w2, w3, w4⟩ := gm0 hc
  have L : gI u2 (473 + 16) = uL (goN Q B 6) := b2.2.1.1
  have e1 : uL (goN Q B 6) x / 4 - 2 * ((c / 2 : Nat) : Int) = gmG Q s x o (2 * c) := by
    unfold gmG
    rw [if_pos (by omega), show 2 * c / 2 = c by omega, hU]
  have e2 : uL (goN Q B 6) o / 4 - 2 * ((c % 2 : Nat) : Int) = gmG Q s x o (2 * c + 1) := by
    unfold gmG
    rw [if_neg (by omega), show (2 * c + 1) / 2 = c by omega, hU]
  have v1' := gm1 (y := 2 * ((c / 2 : Nat) : Int)) (gl x) (by omega)
  have v2' := gm1 (y := 2 * ((c % 2 : Nat) : Int)) (gl o) (by omega)
  rw [e1] at v1'
  rw [e2] at v2'
  have M3 : MQx (pI (pI u2 507 (2 * c) (gmG Q s x o (2 * c))) 507 (2 * c + 1) (gmG Q s x o (2 * c + 1))) Q (goN Q B 6) := b2.fr (A := fun b => b = 507) ((FrI.p (A := fun b => b = 507) rfl).pp rfl) a507
  have R3 := (R2.I (A := fun b => b = 507) (FrI.p (i := 2 * c) (x := gmG Q s x o (2 * c)) rfl) (fun b hb => by unfold ZS; omega)).I (A := fun b => b = 507) (FrI.p (i := 2 * c + 1) (x := gmG Q s x o (2 * c + 1)) rfl) (fun b hb => by unfold ZS; omega)
  obtain ⟨u4, c1, c2, c3, c4, c5⟩ := unq0 h0 M3 ⟨R3.1, R3.2.1, R3.2.2.2⟩ E
  rw [uM_goN] at c2
  have g44 : gI u4 473 44 = 0 := by rw [c4 44 (Or.inr (by decide))]; exact R3.f
  have gL : gI (pI u2 507 (2 * c) (gmG Q s x o (2 * c))) 489 = uL (goN Q B 6) := by rw [gI_r (by decide)]; exact L
  have hfin : Rf (s269_27 473 x o (uM s x) (uM s o) ((c + 1 : Nat) : Int) u4) (s269_127 473 x o (uM s x) (uM s o) c y1 y2 t2 t1 (mk (uI s) 8) 473 v0) := by
    intro q hq
    refine e269_127 H0 l473 l473 _ ?_
    rw [hv1, show F223 473 6 v1 = r0 u2 from b1, b0_r b2.H, gdi X8.1 X8.2, w1, gdi C8.1 C8.2, gdi O8.1 O8.2, w2, gdi C9.1 C9.2, w3, w4, nn, nn, nn, nn, show (473 + 34 : Nat) = 507 from rfl, show (473 + 16 : Nat) = 489 from rfl, show gI u2 489 = uL (goN Q B 6) from L, v1', gL, v2', show (473 + 24 : Nat) = 497 from rfl, c1, b0_r c2.H, wrs C1]
    exact hq
  refine ⟨u4, _, hfin.tr D, c2, ⟨c3.1, c3.2.1, g44, c3.2.2⟩, mB, fun i hi => ?_⟩
  rw [c5 507 (by decide) (Or.inr (by decide))]
  exact gm2 (fun i hi => by rw [b3.1.g nA507, g5]; exact hg i hi) i hi
theorem y269 {w : Wd} {Q : QT} {s : ST} {x o : Nat} (h : MQy w Q s) (hT : uT s ≤ 999) (hx : x < zn Q) (ho : o < zn Q) (hne : x ≠ o) :
    ∃ w', F269 473 x o w = r0 w' ∧ MQy w' Q s ∧ FrS w w' ∧ gI w' 473 4 = gI w 473 4 ∧ ∀ i, i < 8 → gI w' 507 i = gmG Q s x o i := by
  have h8 := h.1.n8
  obtain ⟨v, a1, a2, a3, a4, a5⟩ := pk0 h
  have hs : pM s (uM s) = s := rfl
  obtain ⟨u, hu, f, i1, i2, i3, i4⟩ := lpR (F := fun c u => s269_27 473 x o (uM s x) (uM s o) c u) (I := fun c u => ∃ f, MQx u Q (pM s f) ∧ Rn w s u ∧ mnf s x o f ∧ ∀ i, i < 2 * c → gI u 507 i = gmG Q s x o i) 4 (fun c u hc e => by
    obtain ⟨f, e1, e2, e3, e4⟩ := e
    obtain ⟨u', f', l1, l2, l3, l4, l5⟩ := y269c h hT e1 e2 e3 hx ho hne hc e4
    exact ⟨u', l1, f', l2, l3, l4, l5⟩) v ⟨uM s, by rw [hs]; exact a3, a4, fun _ _ _ => rfl, fun i hi => absurd hi (Nat.not_lt_zero _)⟩
  have fr : FrI (fun b => b = 487) u (pI (pI u 487 x (uM s x)) 487 o (uM s o)) := (FrI.p (A := fun b => b = 487) rfl).pp rfl
  have eM : va_up (va_up f x (uM s x)) o (uM s o) = uM s := by
    funext i
    by_cases z : i = o
    · rw [z, up_s]
    · rw [up_c z]
      by_cases y : i = x
      · rw [y, up_s]
      · rw [up_c y]; exact i3 i y z
  have M : MQx (pI (pI u 487 x (uM s x)) 487 o (uM s o)) Q s := by
    obtain ⟨r1, r2, r3, r4, r5, r6, r7, r8⟩ := i1.2.1
    refine i1.to fr (fun b b1 b2 z => ?_) ⟨?_, ?_, ?_, ?_, ?_, ?_, ?_, ?_⟩ h.1.s h.1.I (by rw [fr.g (by decide)]; exact i1.F)
    · have z : b = 487 := z
      omega
    · rw [fr.g (by decide)]; exact r1
    · rw [fr.g (by decide)]; exact r2
    · rw [fr.g (by decide)]; exact r3
    · rw [gI_p, gI_p, r4]; exact eM
    · rw [fr.g (by decide)]; exact r5
    · rw [fr.g (by decide)]; exact r6
    · rw [fr.g (by decide)]; exact r7
    · rw [fr.g (by decide)]; exact r8
  have R2 := i2.I fr (fun b hb => by unfold ZS; omega)
  have em : ∀ p, gI w (473 + 14) p = uM s p := fun p => by rw [show gI w (473 + 14) = uM s from h.1.2.1.2.2.2.1]
  refine ⟨_, e269 h.H l473 _ ?_, ⟨M, R2.f⟩, R2.2.1, R2.2.2.2, fun i hi => by rw [fr.g (by decide)]; exact i4 i (by omega)⟩
  rw [gdi (by omega) (by omega), gdi (by omega) (by omega), show (473 + 24 : Nat) = 497 from rfl, a1, b0_r a2, nn, nn, em, em]
  refine hu _ (e269_27 i1.H l473 _ ?_)
  rw [if_pos (by omega), gdi (by omega) (by omega), gdi (by omega) (by omega), nn, nn]
theorem gmN_i {g : Row} : ∀ k, ((gmN g k).1 = 0 ∧ (gmN g k).2 = -1) ∨ (0 < (gmN g k).1 ∧ (gmN g k).1 ≤ k ∧ 0 ≤ (gmN g k).2) := by
  intro k
  induction k with
  | zero => exact Or.inl ⟨rfl, rfl⟩
  | succ k ih =>
    have e : gmN g (k + 1) = if rst g k then ((gmN g k).1 + 1, if (gmN g k).1 = 0 then ((10 * (k / 2) + k % 2 : Nat) : Int) else (gmN g k).2) else gmN g k := rfl
    rw [e]
    cases rst g k
    · rw [if_neg (by decide)]
      rcases ih with q | q
      · exact Or.inl q
      · exact Or.inr ⟨q.1, by omega, q.2.2⟩
    · rw [if_pos rfl]
      right
      rcases ih with q | q
      · refine ⟨by show 0 < _ + 1; omega, by show _ + 1 ≤ _; omega, ?_⟩
        show 0 ≤ (if (gmN g k).1 = 0 then ((10 * (k / 2) + k % 2 : Nat) : Int) else (gmN g k).2)
        rw [if_pos q.1]; omega
      · refine ⟨by show 0 < _ + 1; omega, by show _ + 1 ≤ _; omega, ?_⟩
        show 0 ≤ (if (gmN g k).1 = 0 then ((10 * (k / 2) + k % 2 : Nat) : Int) else (gmN g k).2)
        rw [if_neg (by omega)]; exact q.2.2
theorem gm3 {c : Nat} (hc : c < 4) : wr (2 * bXor (c : Int) 2) = ((2 * (c ^^^ 2) : Nat) : Int) ∧ wr (wr (2 * bXor (c : Int) 1) + 1) = ((2 * (c ^^^ 1) + 1 : Nat) : Int) ∧ wr (wr (10 * wr (Int.tdiv (c : Int) 2)) + Int.tmod (c : Int) 2) = ((10 * (c / 2) + c % 2 : Nat) : Int) ∧ c ^^^ 2 < 4 ∧ c ^^^ 1 < 4 := by
  have : c = 0 ∨ c = 1 ∨ c = 2 ∨ c = 3 := by omega
  rcases this with e | e | e | e <;> subst e <;> decide
theorem y270s {u : Wd} {x o wh : Int} {n f : Int} {c : Nat} {g : Row} (H : LR u) (hc : c < 4) (hg : ∀ i, i < 8 → gI u 507 i = g i) (hn : 0 ≤ n ∧ n ≤ 100) (hi : (n = 0 ∧ f = -1) ∨ (0 < n ∧ 0 ≤ f)) :
    Rf (s270_62 473 x o wh (if rst g c = true then n + 1 else n) (if rst g c = true then (if n = 0 then ((10 * (c / 2) + c % 2 : Nat) : Int) else f) else f) ((c + 1 : Nat) : Int) u) (s270_62 473 x o wh n f c u) := by
  intro q hq
  refine e270_62 H l473 _ ?_
  have hn1 : wr (n + 1) = n + 1 := wrd (by omega) (by omega)
  have C4 : ¬ (4 : Int) ≤ (c : Int) := by clear hn1; omega
  have C1 : c < 2000000000 := by clear hn1; omega
  have K1 : ∀ j : Nat, j < 8 → (0 : Int) ≤ (j : Int) ∧ (j : Int) < ((8 : Nat) : Int) := fun j hj => by clear hn1; omega
  have K2 : ∀ d, d < 4 → 2 * d < 8 ∧ 2 * d + 1 < 8 := fun d hd => by clear hn1; omega
  have F1 : ∀ {f : Int}, 0 < n → 0 ≤ f → f ≠ -1 ∧ n ≠ 0 := fun a b => by clear hn1; omega
  obtain ⟨a1, a2, -, -⟩ := gm0 hc
  obtain ⟨b1, b2, b3, b4, b5⟩ := gm3 hc
  have a3 : wr (wr (2 * (c : Int)) + 1) = ((2 * c + 1 : Nat) : Int) := by rw [a1, a2]
  rw [if_neg C4, b1, a3, b2, a1, b3, gdi (K1 _ (K2 _ b4).1).1 (K1 _ (K2 _ b4).1).2, gdi (K1 _ (K2 _ hc).1).1 (K1 _ (K2 _ hc).1).2, nn, nn, nn, nn, show (473 + 34 : Nat) = 507 from rfl, hg _ (K2 _ b4).1, hg _ (K2 _ hc).1, hg _ (K2 _ b5).2, hg _ (K2 _ hc).2, gdi (K1 _ (K2 _ b5).2).1 (K1 _ (K2 _ b5).2).2, gdi (K1 _ (K2 _ hc).2).1 (K1 _ (K2 _ hc).2).2, wrs C1, hn1]
  unfold rst at hq
  by_cases z1 : g (2 * c) < g (2 * (c ^^^ 2))
  · rw [if_pos z1]
    rw [decide_eq_false (show ¬ g (2 * (c ^^^ 2)) ≤ g (2 * c) from Int.not_le.mpr z1)] at hq
    exact hq
  · rw [if_neg z1]
    rw [decide_eq_true (show g (2 * (c ^^^ 2)) ≤ g (2 * c) from Int.not_lt.mp z1)] at hq
    by_cases z2 : g (2 * (c ^^^ 1) + 1) ≤ g (2 * c + 1)
    · rw [if_pos z2]
      rw [decide_eq_true z2, if_pos (show (true && true) = true from rfl), if_pos (show (true && true) = true from rfl)] at hq
      rcases hi with ⟨h1, h2⟩ | ⟨h1, h2⟩
      · rw [if_neg (fun w => w h2)]
        rw [if_pos h1] at hq
        exact hq
      · rw [if_pos (F1 h1 h2).1]
        rw [if_neg (F1 h1 h2).2] at hq
        exact hq
    · rw [if_neg z2]
      rw [decide_eq_false z2] at hq
      exact hq
theorem r270 {w : Wd} {Q : QT} {s : ST} {x o wh : Int} (h : MQy w Q s) (hT : uT s ≤ 999) : AnM Q s 2 w (F270 473 x o wh w) (aGame Q s x o wh) := by
  refine AnM.of (e270 h.H l473) ?_
  obtain ⟨h0, f0, z0⟩ := st0 h
  revert h0 f0 z0
  generalize pI w 473 4 0 = w0
  intro h0 f0 z0
  have hE : AnM Q s 2 w (s270_30 473 x o wh w0) (.inr 0) := AnM.of (e270_30 h0.H l473) (AnM.f h0 f0 rfl)
  refine AnM.P2 h0 hE fun x0 x1 => AnM.P2 h0 hE fun o0 o1 => AnM.W3 hE fun q0 q1 => ?_
  clear hE
  have h8 := h.1.n8
  obtain ⟨p, rfl, hp⟩ := toN x0 x1
  obtain ⟨r, rfl, hr⟩ := toN o0 o1
  rw [nn, nn]
  by_cases z : (p : Int) = r
  · rw [if_pos z, if_neg (fun q => q z)]
    exact AnM.f h0 f0 rfl
  rw [if_neg z, if_pos z]
  obtain ⟨u, a1, a2, a3, a4, a5⟩ := y269 (x := p) (o := r) h0 hT (by omega) (by omega) (by omega)
  rw [a1, b0_r a2.H]
  obtain ⟨a, ha, e⟩ := lpR (F := fun c (a : Int × Int) => s270_62 473 p r wh a.1 a.2 c u) (I := fun c a => a = gmN (gmG Q s p r) c) 4 (fun c a hc e => by
    subst e
    refine ⟨_, ?_, rfl⟩
    have hi := gmN_i (g := gmG Q s p r) c
    have T := y270s (x := p) (o := r) (wh := wh) (n := (gmN (gmG Q s p r) c).1) (f := (gmN (gmG Q s p r) c).2) a2.H hc a5 (by omega) (by omega)
    have e : gmN (gmG Q s p r) (c + 1) = if rst (gmG Q s p r) c then ((gmN (gmG Q s p r) c).1 + 1, if (gmN (gmG Q s p r) c).1 = 0 then ((10 * (c / 2) + c % 2 : Nat) : Int) else (gmN (gmG Q s p r) c).2) else gmN (gmG Q s p r) c := rfl
    rw [e]
    cases y : rst (gmG Q s p r) c
    · rw [y] at T; exact T
    · rw [y] at T; exact T) (0, -1) rfl
  subst e
  refine AnM.of ha (AnM.of (e270_62 a2.H l473) ?_)
  rw [if_pos (by omega)]
  by_cases y : wh = 0
  · rw [if_neg (by omega), if_pos y]; exact AnM.v a2 (f0.tr a3) (a4.trans z0)
  · rw [if_pos y, if_neg y]; exact AnM.v a2 (f0.tr a3) (a4.trans z0)
