/-! the reference's questions: what may change, what is answered -/
def ZS (b : Nat) : Prop := b = 473 ∨ b = 487 ∨ (489 ≤ b ∧ b ≤ 491) ∨ (493 ≤ b ∧ b ≤ 500) ∨ (504 ≤ b ∧ b ≤ 507)
def ZF (i : Nat) : Prop := i = 4 ∨ (33 ≤ i ∧ i ≤ 36) ∨ i = 43 ∨ i = 44 ∨ i = 55 ∨ i = 57
def FrS (w w' : Wd) : Prop := FrI ZS w w' ∧ ∀ i, ¬ ZF i → gI w' 473 i = gI w 473 i
theorem FrS.rf {w : Wd} : FrS w w := ⟨FrI.rf, fun _ _ => rfl⟩
theorem FrS.tr {a b c : Wd} (h : FrS a b) (h' : FrS b c) : FrS a c := ⟨h.1.tr h'.1, fun i q => (h'.2 i q).trans (h.2 i q)⟩
theorem FrS.of {A : Nat → Prop} {w w' : Wd} (f : FrI A w w') (hA : ∀ b, A b → ZS b ∧ b ≠ 473) : FrS w w' := ⟨f.wk (fun b hb => (hA b hb).1), fun i _ => by rw [f.g (fun z => (hA _ z).2 rfl)]⟩
theorem FrS.p {w : Wd} {i : Nat} {x : Int} (hi : ZF i) : FrS w (pI w 473 i x) := ⟨FrI.p (Or.inl rfl), fun j hj => gI_c (fun e => hj (e ▸ hi))⟩
theorem FrJ.S {w w' : Wd} (h : FrJ w w') : FrS w w' := ⟨h.1.wk (fun b hb => by unfold AMr at hb; unfold ZS; omega), fun i hi => h.2 i (by unfold ZF at hi; omega) (by unfold ZF at hi; omega)⟩
theorem FrS.H {w w' : Wd} (h : FrS w w') (H : LR w) : LR w' := h.1.LR H
def MQy (w : Wd) (Q : QT) (s : ST) : Prop := MQx w Q s ∧ gI w 473 44 = 0
theorem MQy.H {w : Wd} {Q : QT} {s : ST} (h : MQy w Q s) : LR w := h.1.H
theorem MQy.fr {A : Nat → Prop} {w w' : Wd} {Q : QT} {s : ST} (h : MQy w Q s) (f : FrI A w w') (hA : ∀ b, A b → b ≠ 473 ∧ b < 477 ∨ 485 < b ∧ b ≠ 487 ∧ b ≠ 489 ∧ b ≠ 490 ∧ b ≠ 491) : MQy w' Q s := ⟨h.1.fr f hA, by rw [f.g (fun z => by have := hA _ z; omega)]; exact h.2⟩
theorem MQy.pf {w : Wd} {Q : QT} {s : ST} {i : Nat} {x : Int} (h : MQy w Q s) (hi : (i < 33 ∨ 36 < i) ∧ i ≠ 44) : MQy (pI w 473 i x) Q s := ⟨h.1.pf hi, by rw [gI_c (fun e => hi.2 e.symm)]; exact h.2⟩
def av : An → Int
  | .inl v => v
  | .inr _ => 0
def ac (c : Int) : An → Int
  | .inl _ => 0
  | .inr 0 => 1
  | .inr (_ + 1) => c
def AnM (Q : QT) (s : ST) (c : Int) (w : Wd) (F : Option Out) (a : An) : Prop := ∃ w', F = rI (av a) w' ∧ gI w' 473 4 = ac c a ∧ MQy w' Q s ∧ FrS w w'
section ANM
variable {Q : QT} {s : ST} {c : Int} {w w1 : Wd} {a : An} {x : Int} {K E : Wd → Option Out}
theorem AnM.of {T F : Option Out} (hR : Rf T F) (h : AnM Q s c w T a) : AnM Q s c w F a := by
  obtain ⟨w', h1, h2⟩ := h
  exact ⟨w', hR _ h1, h2⟩
theorem AnM.v (h : MQy w1 Q s) (f : FrS w w1) (h4 : gI w1 473 4 = 0) : AnM Q s c w (rI x w1) (.inl x) := ⟨w1, rfl, h4, h, f⟩
theorem y172 {k : Int} (H : LR w) : F172 473 k w = rI 0 (pI w 473 4 k) := e172 H l473 _ rfl
theorem AnM.f {k : Int} {e : Nat} (h : MQy w1 Q s) (f : FrS w w1) (hk : k = ac c (.inr e)) : AnM Q s c w (bI (F172 473 k w1) (fun n w2 => rI n w2)) (.inr e) := by
  have h1 : MQy (pI w1 473 4 k) Q s := h.pf (by omega)
  exact ⟨_, by rw [y172 h.H, bI_r h1.H]; rfl, by rw [gI_s]; exact hk, h1, f.tr (FrS.p (Or.inl rfl))⟩
theorem st0 (h : MQy w Q s) : MQy (pI w 473 4 0) Q s ∧ FrS w (pI w 473 4 0) ∧ gI (pI w 473 4 0) 473 4 = 0 := ⟨h.pf (by omega), FrS.p (Or.inl rfl), gI_s⟩
theorem y174 {x lo hi : Int} (H : LR w) : F174 x lo hi w = rI (b2i (decide (lo ≤ x ∧ x ≤ hi))) w := by
  refine e174 H _ ?_
  unfold lCmp
  by_cases z1 : lo ≤ x
  · by_cases z2 : x ≤ hi
    · rw [decide_eq_true ⟨z1, z2⟩]
      by_cases z3 : lo < x
      · rw [if_pos z3, if_neg (by omega)]
        by_cases z4 : x < hi
        · rw [if_neg (show ¬ hi < x by omega), if_pos z4, if_neg (by omega)]; rfl
        · rw [if_neg (show ¬ hi < x by omega), if_neg z4, if_neg (by omega)]; rfl
      · rw [if_neg z3, if_neg (show ¬ x < lo by omega), if_neg (by omega)]
        by_cases z4 : x < hi
        · rw [if_neg (show ¬ hi < x by omega), if_pos z4, if_neg (by omega)]; rfl
        · rw [if_neg (show ¬ hi < x by omega), if_neg z4, if_neg (by omega)]; rfl
    · rw [decide_eq_false (fun q => z2 q.2)]
      rw [if_pos (show hi < x by omega)]
      by_cases z3 : lo < x
      · rw [if_pos z3, if_neg (by omega), if_pos (by omega)]; rfl
      · rw [if_neg z3, if_neg (show ¬ x < lo by omega), if_neg (by omega), if_pos (by omega)]; rfl
  · rw [decide_eq_false (fun q => z1 q.1), if_neg (show ¬ lo < x by omega), if_pos (show x < lo by omega), if_pos (by omega)]; rfl
theorem y178 (h : MQx w Q s) : F178 473 x w = rI (b2i (decide (0 ≤ x ∧ x < zn Q))) w := by
  have h8 := h.n8
  refine e178 h.H l473 _ ?_
  rw [gdi (by omega) (by omega), show gI w (473 + 4) 1 = zn Q from h.n, wrd (by omega) (by omega), y174 h.H, bI_r h.H, gP_t (b2i_or _), show decide (0 ≤ x ∧ x ≤ (zn Q : Int) - 1) = decide (0 ≤ x ∧ x < zn Q) from decide_eq_decide.mpr (by omega)]
theorem AnM.P1 (h : MQy w1 Q s) (hE : AnM Q s c w (E w1) (.inr 0)) (hK : 0 ≤ x → x < zn Q → AnM Q s c w (K w1) a) : AnM Q s c w (bI (F178 473 x w1) (fun n1 w2 => (if n1 ≠ 0 then K w2 else E w2))) (gdP (zn Q) x a) := by
  rw [y178 h.1, bI_r h.H]
  unfold gdP
  by_cases z : 0 ≤ x ∧ x < zn Q
  · rw [if_pos z, decide_eq_true z, if_pos (by decide)]; exact hK z.1 z.2
  · rw [if_neg z, decide_eq_false z, if_neg (by decide)]; exact hE
theorem AnM.P2 (h : MQy w1 Q s) (hE : AnM Q s c w (E w1) (.inr 0)) (hK : 0 ≤ x → x < zn Q → AnM Q s c w (K w1) a) : AnM Q s c w (bI (F178 473 x w1) (fun n1 w2 => (if n1 = 0 then E w2 else K w2))) (gdP (zn Q) x a) := by
  rw [y178 h.1, bI_r h.H]
  unfold gdP
  by_cases z : 0 ≤ x ∧ x < zn Q
  · rw [if_pos z, decide_eq_true z, if_neg (by decide)]; exact hK z.1 z.2
  · rw [if_neg z, decide_eq_false z, if_pos (by decide)]; exact hE
theorem AnM.B1 {lo hi : Int} (h : MQy w1 Q s) (hE : AnM Q s c w (E w1) (.inr 1)) (hK : lo ≤ x → x ≤ hi → AnM Q s c w (K w1) a) : AnM Q s c w (bI (F174 x lo hi w1) (fun n1 w2 => (if n1 ≠ 0 then K w2 else E w2))) (gdB lo hi x a) := by
  rw [y174 h.H, bI_r h.H]
  unfold gdB
  by_cases z : lo ≤ x ∧ x ≤ hi
  · rw [if_pos z, decide_eq_true z, if_pos (by decide)]; exact hK z.1 z.2
  · rw [if_neg z, decide_eq_false z, if_neg (by decide)]; exact hE
theorem AnM.B2 {lo hi : Int} (h : MQy w1 Q s) (hE : AnM Q s c w (E w1) (.inr 1)) (hK : lo ≤ x → x ≤ hi → AnM Q s c w (K w1) a) : AnM Q s c w (bI (F174 x lo hi w1) (fun n1 w2 => (if n1 = 0 then E w2 else K w2))) (gdB lo hi x a) := by
  rw [y174 h.H, bI_r h.H]
  unfold gdB
  by_cases z : lo ≤ x ∧ x ≤ hi
  · rw [if_pos z, decide_eq_true z, if_neg (by decide)]; exact hK z.1 z.2
  · rw [if_neg z, decide_eq_false z, if_pos (by decide)]; exact hE
theorem AnM.W1 {k hi : Int} (hk : k = hi + 1) (h : MQy w1 Q s) (hE : AnM Q s c w (E w1) (.inr 0)) (hK : 0 ≤ x → x < k → AnM Q s c w (K w1) a) : AnM Q s c w (bI (F174 x 0 hi w1) (fun n1 w2 => (if n1 ≠ 0 then K w2 else E w2))) (gdW k x a) := by
  rw [y174 h.H, bI_r h.H]
  unfold gdW
  by_cases z : 0 ≤ x ∧ x < k
  · rw [if_pos z, decide_eq_true (show 0 ≤ x ∧ x ≤ hi by omega), if_pos (by decide)]; exact hK z.1 z.2
  · rw [if_neg z, decide_eq_false (show ¬ (0 ≤ x ∧ x ≤ hi) by omega), if_neg (by decide)]; exact hE
theorem AnM.W3 {A B : Option Out} (hE : AnM Q s c w B (.inr 0)) (hK : 0 ≤ x → x < 2 → AnM Q s c w A a) : AnM Q s c w (if x < 0 then B else (if x ≤ 1 then A else B)) (gdW 2 x a) := by
  unfold gdW
  by_cases z : 0 ≤ x ∧ x < 2
  · rw [if_pos z, if_neg (by omega), if_pos (by omega)]; exact hK z.1 z.2
  · rw [if_neg z]
    by_cases y : x < 0
    · rw [if_pos y]; exact hE
    · rw [if_neg y, if_neg (by omega)]; exact hE
end ANM
/-- in the middle of a question: what was so is kept, nothing else has changed -/
def Rn (w : Wd) (s : ST) (v : Wd) : Prop := PK v 497 0 s ∧ FrS w v ∧ gI v 473 44 = 0 ∧ gI v 473 4 = gI w 473 4
theorem PK.fr {A : Nat → Prop} {w w' : Wd} {a off : Nat} {s : ST} (h : PK w a off s) (f : FrI A w w') (hA : ¬ A a) : PK w' a off s := h.ext (f.g hA)
theorem Rn.J {w v u : Wd} {s : ST} (h : Rn w s v) (f : FrJ v u) : Rn w s u := ⟨h.1.fr f.1 (by unfold AMr; omega), h.2.1.tr f.S, by rw [f.2 44 (by omega) (by omega)]; exact h.2.2.1, by rw [f.2 4 (by omega) (by omega)]; exact h.2.2.2⟩
theorem Rn.I {A : Nat → Prop} {w v u : Wd} {s : ST} (h : Rn w s v) (f : FrI A v u) (hA : ∀ b, A b → ZS b ∧ b ≠ 473 ∧ b ≠ 497) : Rn w s u := ⟨h.1.fr f (fun z => (hA _ z).2.2 rfl), h.2.1.tr (FrS.of f (fun b hb => ⟨(hA b hb).1, (hA b hb).2.1⟩)), by rw [f.g (fun z => (hA _ z).2.1 rfl)]; exact h.2.2.1, by rw [f.g (fun z => (hA _ z).2.1 rfl)]; exact h.2.2.2⟩
theorem Rn.p {w v : Wd} {s : ST} {i : Nat} {x : Int} (h : Rn w s v) (hi : ZF i) (h4 : i ≠ 4) (h44 : i ≠ 44) : Rn w s (pI v 473 i x) := ⟨h.1.ext (gI_r (by decide)), h.2.1.tr (FrS.p hi), by rw [gI_c (fun e => h44 e.symm)]; exact h.2.2.1, by rw [gI_c (fun e => h4 e.symm)]; exact h.2.2.2⟩
theorem Rn.f {w v : Wd} {s : ST} (h : Rn w s v) : gI v 473 44 = 0 := h.2.2.1
theorem l497 : lay 497 = (21, 28) := by decide +kernel
theorem l504 : lay 504 = (21, 28) := by decide +kernel
/-- all that a run of steps needs: kept ahead, read again behind -/
theorem pk0 {w : Wd} {Q : QT} {s : ST} (h : MQy w Q s) : ∃ v, F208 473 497 0 w = r0 v ∧ LR v ∧ MQx v Q s ∧ Rn w s v ∧ ∀ b, b ≠ 497 → gI v b = gI w b := by
  obtain ⟨v, k1, k2, k3, -⟩ := y208 (a := 497) (off := 0) (n := 28) h.1 l497 (by omega) (by omega) (by omega)
  have h2 : MQy v Q s := h.fr k3 (fun b hb => by omega)
  exact ⟨v, k1, k3.LR h.H, h2.1, ⟨k2, FrS.of k3 (fun b hb => by unfold ZS; omega), h2.2, by rw [k3.g (by decide)]⟩, fun b hb => k3.g hb⟩
theorem pM_self {u s : ST} (h : uM u = uM s) : pM u (uM s) = u := by rw [← h]; rfl
theorem un0 {w v : Wd} {Q : QT} {s u : ST} (hs : MQy w Q s) (hv : MQx v Q u) (hR : Rn w s v) (h8 : E8 u s) (hm : uM u = uM s) :
    ∃ w', F209 473 497 0 v = r0 w' ∧ LR w' ∧ MQy w' Q s ∧ FrS w w' ∧ gI w' 473 4 = gI w 473 4 ∧ (∀ i, (i < 33 ∨ 36 < i) → gI w' 473 i = gI v 473 i) ∧ ∀ b, b ≠ 473 → (b < 489 ∨ 491 < b) → gI w' b = gI v b := by
  obtain ⟨hp, f, h44, h4⟩ := hR
  obtain ⟨w', k1, k2, k3, k4⟩ := y209 (a := 497) (off := 0) (n := 28) hv hp l497 (by omega) (by omega) (by omega) h8 hs.1.s hs.1.I
  rw [pM_self hm.symm] at k2
  exact ⟨w', k1, k2.H, ⟨k2, by rw [k4 44 (by omega)]; exact h44⟩, f.tr ⟨k3.wk (fun b hb => by unfold ZS; omega), fun i hi => k4 i (by unfold ZF at hi; omega)⟩, by rw [k4 4 (by omega)]; exact h4, k4, fun b b1 b2 => k3.g (by omega)⟩
theorem MQx.E8 {w : Wd} {Q : QT} {s : ST} (h : MQx w Q s) (k : Nat) (hk : uT s + k ≤ 100000) : E8 (goN Q s k) s := E8_goN h.s h.n8 k hk
theorem uM_goN {Q : QT} {s : ST} (k : Nat) : uM (goN Q s k) = uM s := (goN_same k).2.1
theorem AnM.fin {w w0 v : Wd} {Q : QT} {s u : ST} {c x : Int} (h0 : MQy w0 Q s) (f0 : FrS w w0) (z0 : gI w0 473 4 = 0) (hv : MQx v Q u) (hR : Rn w0 s v) (h8 : E8 u s) (hm : uM u = uM s) : AnM Q s c w (b0 (F209 473 (473 + 24) 0 v) (fun w2 => rI x w2)) (.inl x) := by
  obtain ⟨w', c1, c2, c3, c4, c5, -⟩ := un0 h0 hv hR h8 hm
  rw [show (473 + 24 : Nat) = 497 from rfl, c1, b0_r c2]
  exact AnM.v c3 (f0.tr c4) (c5.trans z0)
theorem AnM.go {w w0 v : Wd} {Q : QT} {s : ST} {c x : Int} (k : Nat) (h0 : MQy w0 Q s) (f0 : FrS w w0) (z0 : gI w0 473 4 = 0) (hv : MQx v Q (goN Q s k)) (hR : Rn w0 s v) (hk : uT s + k ≤ 100000) : AnM Q s c w (b0 (F209 473 (473 + 24) 0 v) (fun w2 => rI x w2)) (.inl x) := AnM.fin h0 f0 z0 hv hR (h0.1.E8 k hk) (uM_goN k)
/-- kept, so many steps, read again -/
theorem yrun {w : Wd} {Q : QT} {s : ST} {K : Nat} (h : MQy w Q s) (hK : uT s + K ≤ 100000) : ∃ v v' w', F208 473 497 0 w = r0 v ∧ LR v ∧ F223 473 K v = r0 v' ∧ MQx v' Q (goN Q s K) ∧ (0 < K → ∀ i, i < zn Q → gI v' 495 i = WH Q (goN Q s (K - 1)) i) ∧ F209 473 497 0 v' = r0 w' ∧ MQy w' Q s ∧ FrS w w' ∧ gI w' 473 4 = gI w 473 4 ∧ gI w' 495 = gI v' 495 := by
  obtain ⟨v, a1, a2, a3, a4, a5⟩ := pk0 h
  obtain ⟨v', b1, b2, b3, b4⟩ := y223 a3 a4.f hK
  obtain ⟨w', c1, c2, c3, c4, c5, c6, c7⟩ := un0 h b2 (a4.J b3) (h.1.E8 K hK) (uM_goN K)
  exact ⟨v, v', w', a1, a2, b1, b2, b4, c1, c3, c4, c5, c7 495 (by omega) (by omega)⟩
theorem y237 {w : Wd} {Q : QT} {s : ST} {p K : Nat} (h : MQy w Q s) (hp : p < 8) (hK : uT s + K ≤ 100000) : ∃ w', F237 473 p K w = rI (lf Q s p K) w' ∧ MQy w' Q s ∧ FrS w w' ∧ gI w' 473 4 = gI w 473 4 := by
  obtain ⟨v, v', w', a1, a2, a3, a4, a5, a6, a7, a8, a9, -⟩ := yrun h hK
  refine ⟨w', e237 h.H l473 _ ?_, a7, a8, a9⟩
  rw [show (473 + 24 : Nat) = 497 from rfl, a1, b0_r a2, a3, b0_r a4.H, gdi (by omega) (by omega), a6, b0_r a7.H, nn, show gI v' (473 + 16) p = lf Q s p K by rw [show gI v' (473 + 16) = uL (goN Q s K) from a4.2.1.1]; rfl]
