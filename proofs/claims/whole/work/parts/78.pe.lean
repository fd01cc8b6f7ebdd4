/-! the reference as a whole: acts that are kept, what is seen, refusals, the image -/
theorem PK.mv {w w' : Wd} {a a' off off' : Nat} {s : ST} (h : PK w a off s) (e : ∀ i, i < 28 → gI w' a' (off' + i) = gI w a (off + i)) : PK w' a' off' s := by
  obtain ⟨h1, h2, h3, h4, h5⟩ := h
  refine ⟨(e 0 (by decide)).trans h1, (e 1 (by decide)).trans h2, (e 2 (by decide)).trans h3, (e 3 (by decide)).trans h4, fun p hp => ?_⟩
  obtain ⟨a1, a2, a3⟩ := h5 p hp
  have b1 := e (4 + p) (by omega)
  have b2 := e (12 + p) (by omega)
  have b3 := e (20 + p) (by omega)
  rw [← Nat.add_assoc, ← Nat.add_assoc] at b1 b2 b3
  exact ⟨b1.trans a1, b2.trans a2, b3.trans a3⟩
def RKm (w : Wd) (L : List ST) : Prop := L.length ≤ 40 ∧ gI w 473 37 = L.length ∧ ∀ (i : Nat) (h : i < L.length), PK w 492 (28 * i) L[i]
def RIm (w : Wd) (M : Option (ST × List ST × NT × Row)) : Prop := (M = none → gI w 473 58 = 0) ∧ ∀ x, M = some x → gI w 473 58 = 1 ∧ (x.2.1.length ≤ 40 ∧ gI w 473 59 = x.2.1.length) ∧ gI w 473 60 = x.2.2.1.1 ∧ PK w 508 0 x.1 ∧ (∀ (i : Nat) (h : i < x.2.1.length), PK w 509 (28 * i) x.2.1[i]) ∧
  (∀ i, i < x.2.2.1.1 → gI w 510 i = x.2.2.1.2.1 i ∧ gI w 511 i = x.2.2.1.2.2.1 i ∧ gI w 512 i = x.2.2.1.2.2.2 i) ∧ ∀ i, i < 3 → gI w 513 i = x.2.2.2 i
def MY (w : Wd) (A : AC) : Prop := MQy w (oQ A) (oS A) ∧ RKm w (oL A) ∧ RNm w (oN A) ∧ (∀ i, i < 3 → gI w 486 i = oT A i) ∧ RIm w (oM A)
theorem MY.H {w : Wd} {A : AC} (h : MY w A) : LR w := h.1.H
theorem RKm.ext {w w' : Wd} {L : List ST} (h : RKm w L) (e1 : gI w' 473 37 = gI w 473 37) (e2 : gI w' 492 = gI w 492) : RKm w' L := ⟨h.1, e1.trans h.2.1, fun i hi => (h.2.2 i hi).ext e2⟩
theorem RIm.ext {w w' : Wd} {M : Option (ST × List ST × NT × Row)} (h : RIm w M) (e1 : ∀ i, 58 ≤ i → i ≤ 60 → gI w' 473 i = gI w 473 i) (e2 : ∀ b, 508 ≤ b → b ≤ 513 → gI w' b = gI w b) : RIm w' M := by
  refine ⟨fun e => (e1 58 (by decide) (by decide)).trans (h.1 e), fun x hx => ?_⟩
  obtain ⟨a1, a2, a3, a4, a5, a6, a7⟩ := h.2 x hx
  refine ⟨(e1 58 (by decide) (by decide)).trans a1, ⟨a2.1, (e1 59 (by decide) (by decide)).trans a2.2⟩, (e1 60 (by decide) (by decide)).trans a3, a4.ext (e2 508 (by decide) (by decide)), fun i hi => (a5 i hi).ext (e2 509 (by decide) (by decide)), fun i hi => ?_, fun i hi => ?_⟩
  · rw [e2 510 (by decide) (by decide), e2 511 (by decide) (by decide), e2 512 (by decide) (by decide)]; exact a6 i hi
  · rw [e2 513 (by decide) (by decide)]; exact a7 i hi
/-- the now becomes another, all that lies beside is as it was -/
theorem MY.nw {w w' : Wd} {A : AC} {u : ST} (h : MY w A) (hq : MQy w' (oQ A) u) (f : FrS w w') : MY w' (oQ A, u, oL A, oN A, oT A, oM A) := by
  have g : ∀ b, (b = 486 ∨ b = 492 ∨ (508 ≤ b ∧ b ≤ 513)) → gI w' b = gI w b := fun b hb => f.1.g (by unfold ZS; omega)
  have g0 : ∀ i, (i = 37 ∨ (58 ≤ i ∧ i ≤ 60)) → gI w' 473 i = gI w 473 i := fun i hi => f.2 i (by unfold ZF; omega)
  exact ⟨hq, h.2.1.ext (g0 37 (by omega)) (g 492 (by omega)), h.2.2.1.S f, fun i hi => by rw [g 486 (by omega)]; exact h.2.2.2.1 i hi, h.2.2.2.2.ext (fun i i1 i2 => g0 i (by omega)) (fun b b1 b2 => g b (by omega))⟩
theorem MY.fr {w w' : Wd} {A : AC} (h : MY w A) (hq : MQy w' (oQ A) (oS A)) (f : FrS w w') : MY w' A := h.nw hq f
/-- the frame of all that the reference does but of its tape's -/
def FrZ (w w' : Wd) : Prop := FrI (fun b => 473 ≤ b ∧ b ≤ 513 ∧ b ≠ 488) w w' ∧ ∀ i, i = 17 ∨ i = 26 → gI w' 473 i = gI w 473 i
theorem FrZ.rf {w : Wd} : FrZ w w := ⟨FrI.rf, fun _ _ => rfl⟩
theorem FrZ.tr {a b c : Wd} (h : FrZ a b) (h' : FrZ b c) : FrZ a c := ⟨h.1.tr h'.1, fun i q => (h'.2 i q).trans (h.2 i q)⟩
theorem FrS.Z {w w' : Wd} (f : FrS w w') : FrZ w w' := ⟨f.1.wk (fun b hb => by unfold ZS at hb; omega), fun i hi => f.2 i (by unfold ZF; omega)⟩
theorem FrZ.of {A : Nat → Prop} {w w' : Wd} (f : FrI A w w') (hA : ∀ b, A b → 473 < b ∧ b ≤ 513 ∧ b ≠ 488) : FrZ w w' := ⟨f.wk (fun b hb => by have := hA b hb; omega), fun i _ => by rw [f.g (fun z => by have := hA _ z; omega)]⟩
theorem FrZ.p {w : Wd} {i : Nat} {x : Int} (hi : i ≠ 17 ∧ i ≠ 26) : FrZ w (pI w 473 i x) := ⟨FrI.p (by omega), fun j hj => gI_c (by omega)⟩
/-- the reference answers, and stands so then -/
def AnT (c : Int) (w : Wd) (F : Option Out) (a : An × AC) : Prop := ∃ w', F = rI (av a.1) w' ∧ gI w' 473 4 = ac c a.1 ∧ MY w' a.2 ∧ FrZ w w'
theorem AnT.of {c : Int} {w : Wd} {T F : Option Out} {a : An × AC} (hR : Rf T F) (h : AnT c w T a) : AnT c w F a := by
  obtain ⟨w', h1, h2⟩ := h
  exact ⟨w', hR _ h1, h2⟩
theorem AnM.T {c : Int} {w : Wd} {F : Option Out} {a : An} {A : AC} (h : MY w A) (hM : AnM (oQ A) (oS A) c w F a) : AnT c w F (a, A) := by
  obtain ⟨w', h1, h2, h3, h4⟩ := hM
  exact ⟨w', h1, h2, h.fr h3 h4, h4.Z⟩
theorem AnT.v {c : Int} {w w' : Wd} {A : AC} {x : Int} (h : MY w' A) (f : FrZ w w') (z : gI w' 473 4 = 0) : AnT c w (rI x w') (.inl x, A) := ⟨w', rfl, z, h, f⟩
theorem stY {w : Wd} {A : AC} (h : MY w A) : MY (pI w 473 4 0) A ∧ FrZ w (pI w 473 4 0) ∧ gI (pI w 473 4 0) 473 4 = 0 := by
  obtain ⟨a, b, c⟩ := st0 h.1
  exact ⟨h.fr a b, b.Z, c⟩
/-- a field of the reference that holds nothing of it -/
theorem MY.pf {w : Wd} {A : AC} {i : Nat} {x : Int} (h : MY w A) (hi : ZF i ∧ ¬ (33 ≤ i ∧ i ≤ 36) ∧ i ≠ 44) : MY (pI w 473 i x) A := h.fr (h.1.pf (by omega)) (FrS.p hi.1)
theorem AnT.f {c : Int} {w w1 : Wd} {A : AC} {k : Int} {e : Nat} (h : MY w1 A) (f : FrZ w w1) (hk : k = ac c (.inr e)) : AnT c w (bI (F172 473 k w1) (fun n w2 => rI n w2)) (.inr e, A) := by
  have h1 : MY (pI w1 473 4 k) A := h.pf (by unfold ZF; omega)
  exact ⟨_, by rw [y172 h.H, bI_r h1.H]; rfl, by rw [gI_s]; exact hk, h1, f.tr (FrZ.p (by omega))⟩
theorem l492 : lay 492 = (21, 1120) := by decide +kernel
/-- the oldest is dropped -/
theorem y230a {w : Wd} (H : LR w) : ∃ v, Rf (s230_52 473 (pI v 473 37 (wr (gI v 473 37 - 1)))) (s230_12 473 28 w) ∧ FrI (fun b => b = 492) w v ∧ ∀ i, i < 1092 → gI v 492 i = gI w 492 (i + 28) := by
  obtain ⟨v, hv, i1, i2⟩ := lpR (F := fun k v => s230_12 473 (k + 28) v) (I := fun k v => FrI (fun b => b = 492) w v ∧ ∀ i, gI v 492 i = if i < k then gI w 492 (i + 28) else gI w 492 i) 1092 (fun k v hk e => by
    obtain ⟨ef, e1⟩ := e
    have ex : (k : Int) + 28 = ((k + 28 : Nat) : Int) := by omega
    refine ⟨pI v 492 k (gI w 492 (k + 28)), fun o ho => e230_12 (ef.LR H) l473 _ ?_, ef.pp rfl, fun i => ?_⟩
    · have e2 : wr (((k + 28 : Nat) : Int) - 28) = (k : Int) := by rw [wrd (by omega) (by omega)]; omega
      have e3 : gI v 492 (k + 28) = gI w 492 (k + 28) := by rw [e1, if_neg (by omega)]
      have e4 : ((k + 28 + 1 : Nat) : Int) = ((k + 1 : Nat) : Int) + 28 := by omega
      rw [ex, if_neg (by omega), e2, gdi (by omega) (by omega), gdi (by omega) (by omega), nn, nn, show (473 + 19 : Nat) = 492 from rfl, e3, wrs (by omega), e4]
      exact ho
    · by_cases z : i = k
      · subst z; rw [gI_s, if_pos (by omega)]
      · rw [gI_c z, e1]
        by_cases y : i < k
        · rw [if_pos y, if_pos (by omega)]
        · rw [if_neg y, if_neg (by omega)]) w ⟨FrI.rf, fun i => by rw [if_neg (Nat.not_lt_zero _)]⟩
  refine ⟨v, fun o ho => hv _ (e230_12 (i1.LR H) l473 _ ?_), i1, fun i hi => by rw [i2, if_pos hi]⟩
  rw [if_pos (by decide)]
  exact ho
theorem y230b {w : Wd} {A : AC} {L : List ST} (hq : MQy w (oQ A) (oS A)) (hL : RKm w L) (hlen : L.length < 40) : ∃ w', s230_52 473 w = r0 w' ∧ MQy w' (oQ A) (oS A) ∧ RKm w' (L ++ [oS A]) ∧ FrI (fun b => b = 473 ∨ b = 492) w w' ∧ ∀ i, i ≠ 37 → gI w' 473 i = gI w 473 i := by
  obtain ⟨a1, a2, a3⟩ := hL
  obtain ⟨v, k1, k2, k3, k4⟩ := y208 (a := 492) (off := 28 * L.length) (n := 1120) hq.1 l492 (by omega) (by omega) (by decide)
  have hv : MQy v (oQ A) (oS A) := hq.fr k3 (fun b hb => by omega)
  have ew : wr (28 * gI w 473 37) = ((28 * L.length : Nat) : Int) := by rw [a2, wrd (by omega) (by omega)]; omega
  have e37 : gI v 473 37 = L.length := by rw [k3.g (by decide)]; exact a2
  refine ⟨pI v 473 37 ((L.length + 1 : Nat) : Int), e230_52 hq.H l473 _ ?_, hv.pf (by omega), ⟨by rw [List.length_append]; simp; omega, by rw [gI_s, List.length_append]; rfl, fun i hi => ?_⟩, (k3.wk (fun b hb => Or.inr hb)).pp (Or.inl rfl), fun i hi => by rw [gI_c hi, k3.g (by decide)]⟩
  · rw [ew, show (473 + 19 : Nat) = 492 from rfl, k1, b0_r hv.H, e37, wrs (by omega)]
  · rw [List.length_append] at hi
    have hi : i < L.length + 1 := hi
    by_cases z : i = L.length
    · subst z
      have : (L ++ [oS A])[L.length] = oS A := by simp
      rw [this]
      exact k2.ext (gI_r (by decide))
    · rw [List.getElem_append_left (by omega)]
      refine (a3 i (by omega)).mv (fun j hj => ?_)
      rw [gI_r (by decide), k4 _ (by omega)]
theorem y230 {w : Wd} {A : AC} (h : MY w A) : ∃ w', F230 473 w = r0 w' ∧ MY w' (oQ A, oS A, kpL (oL A) (oS A), oN A, oT A, oM A) ∧ FrZ w w' ∧ ∀ i, i ≠ 37 → gI w' 473 i = gI w 473 i := by
  have H := h.H
  have fin : ∀ {v w' : Wd} {L : List ST}, FrI (fun b => b = 473 ∨ b = 492) w v → (∀ i, i ≠ 37 → gI v 473 i = gI w 473 i) → MQy w' (oQ A) (oS A) → RKm w' L → FrI (fun b => b = 473 ∨ b = 492) v w' → (∀ i, i ≠ 37 → gI w' 473 i = gI v 473 i) → MY w' (oQ A, oS A, L, oN A, oT A, oM A) ∧ FrZ w w' ∧ ∀ i, i ≠ 37 → gI w' 473 i = gI w 473 i := by
    intro v w' L f1 f2 f3 f4 f5 f6
    have f := f1.tr f5
    have f7 : ∀ i, i ≠ 37 → gI w' 473 i = gI w 473 i := fun i hi => (f6 i hi).trans (f2 i hi)
    have g : ∀ b, b ≠ 473 → b ≠ 492 → gI w' b = gI w b := fun b b1 b2 => f.g (by omega)
    refine ⟨⟨f3, f4, ?_, fun i hi => by rw [g 486 (by decide) (by decide)]; exact h.2.2.2.1 i hi, h.2.2.2.2.ext (fun i i1 i2 => f7 i (by omega)) (fun b b1 b2 => g b (by omega) (by omega))⟩, ⟨f.wk (fun b hb => by omega), fun i hi => f7 i (by omega)⟩, f7⟩
    have hn : RNm w (oN A) := h.2.2.1
    unfold RNm at hn
    show RNm w' (oN A)
    unfold RNm
    rw [f7 38 (by decide), g 501 (by decide) (by decide), g 502 (by decide) (by decide), g 503 (by decide) (by decide)]
    exact hn
  obtain ⟨a1, a2, a3⟩ := h.2.1
  by_cases z : (oL A).length = 40
  · obtain ⟨v, k1, k2, k3⟩ := y230a H
    have hv : MQy v (oQ A) (oS A) := h.1.fr k2 (fun b hb => by omega)
    have e37 : gI v 473 37 = 40 := by rw [k2.g (by decide), a2, z]; rfl
    rw [e37] at k1
    have hv1 : MQy (pI v 473 37 39) (oQ A) (oS A) := hv.pf (by omega)
    have hL : RKm (pI v 473 37 39) ((oL A).drop 1) := by
      refine ⟨by rw [List.length_drop]; omega, by rw [gI_s, List.length_drop, z]; rfl, fun i hi => ?_⟩
      rw [List.length_drop] at hi
      rw [List.getElem_drop]
      have := a3 (1 + i) (by omega)
      refine this.mv (fun j hj => ?_)
      rw [gI_r (by decide), k3 _ (by omega)]
      congr 1
      omega
    obtain ⟨w', l1, l2, l3, l4, l5⟩ := y230b hv1 hL (by rw [List.length_drop]; omega)
    refine ⟨w', e230 H l473 _ ?_, ?_⟩
    · rw [a2, z, if_neg (by decide)]
      exact k1 _ l1
    · unfold kpL
      rw [if_pos z]
      exact fin ((k2.wk (fun b hb => Or.inr hb)).pp (Or.inl rfl)) (fun i hi => by rw [gI_c hi, k2.g (by decide)]) l2 l3 l4 l5
  · obtain ⟨w', l1, l2, l3, l4, l5⟩ := y230b h.1 h.2.1 (by omega)
    refine ⟨w', e230 H l473 _ ?_, ?_⟩
    · rw [a2, if_pos (by omega)]
      exact l1
    · unfold kpL
      rw [if_neg z]
      exact fin FrI.rf (fun _ _ => rfl) l2 l3 l4 l5
/-- refused: counted -/
theorem MY.rf {w : Wd} {A : AC} {k : Nat} (h : MY w A) (hk : k < 3) : MY (pI w 486 k (wr (gI w 486 k + 1))) (rfS A k) ∧ FrZ w (pI w 486 k (wr (gI w 486 k + 1))) := by
  have f : FrI (fun b => b = 486) w (pI w 486 k (wr (gI w 486 k + 1))) := FrI.p rfl
  have g : ∀ b, b ≠ 486 → gI (pI w 486 k (wr (gI w 486 k + 1))) b = gI w b := fun b hb => f.g hb
  refine ⟨⟨h.1.fr f (fun b hb => by omega), h.2.1.ext (by rw [g 473 (by decide)]) (g 492 (by decide)), ?_, fun i hi => ?_, h.2.2.2.2.ext (fun i i1 i2 => by rw [g 473 (by decide)]) (fun b b1 b2 => g b (by omega))⟩, FrZ.of f (fun b hb => by omega)⟩
  · have hn : RNm w (oN A) := h.2.2.1
    unfold RNm at hn
    show RNm _ (oN A)
    unfold RNm
    rw [g 473 (by decide), g 501 (by decide), g 502 (by decide), g 503 (by decide)]
    exact hn
  · show gI _ 486 i = va_up (oT A) k (wr (oT A k + 1)) i
    rw [gI_p, h.2.2.2.1 k hk]
    unfold va_up
    split
    · rfl
    · exact h.2.2.2.1 i hi
theorem AnT.rf {c : Int} {w w1 : Wd} {A : AC} (k : Nat) {kk : Int} (h : MY w1 A) (f : FrZ w w1) (z : gI w1 473 4 = 0) (hkk : kk = (k : Int)) (hk : k < 3) : AnT c w (bI (F228 473 kk w1) (fun n w2 => rI n w2)) (.inl (-1), rfS A k) := by
  subst hkk
  obtain ⟨h1, f1⟩ := h.rf hk
  have e : F228 473 (k : Int) w1 = rI (-1) (pI w1 486 k (wr (gI w1 486 k + 1))) := by
    refine e228 h.H l473 _ ?_
    rw [gdi (by omega) (by omega), gdi (by omega) (by omega), nn]
  rw [e, bI_r h1.H]
  exact AnT.v h1 (f.tr f1) (by rw [gI_r (by decide)]; exact z)
theorem AnT.rg {c : Int} {w w1 : Wd} {A : AC} (h : MY w1 A) (f : FrZ w w1) (z : gI w1 473 4 = 0) : AnT c w (bI (F229 473 w1) (fun n w2 => gP (n = 0 ∨ n = 1) (rI n w2))) (.inl 0, rfS A 1) := by
  obtain ⟨h1, f1⟩ := h.rf (k := 1) (by decide)
  have e : F229 473 w1 = rI 0 (pI w1 486 1 (wr (gI w1 486 1 + 1))) := by
    refine e229 h.H l473 _ ?_
    rw [gdi (by omega) (by omega), gdi (by omega) (by omega)]
  rw [e, bI_r h1.H, gP_t (by decide)]
  exact AnT.v h1 (f.tr f1) (by rw [gI_r (by decide)]; exact z)
section ANT
variable {c : Int} {w w1 : Wd} {A : AC} {a : An × AC} {x : Int} {K E : Wd → Option Out}
theorem AnT.P1 (h : MY w1 A) (hE : AnT c w (E w1) (.inr 0, A)) (hK : 0 ≤ x → x < zn (oQ A) → AnT c w (K w1) a) : AnT c w (bI (F178 473 x w1) (fun n1 w2 => (if n1 ≠ 0 then K w2 else E w2))) (gdPA x A a) := by
  rw [y178 h.1.1, bI_r h.H]
  unfold gdPA
  by_cases z : 0 ≤ x ∧ x < zn (oQ A)
  · rw [if_pos z, decide_eq_true z, if_pos (by decide)]; exact hK z.1 z.2
  · rw [if_neg z, decide_eq_false z, if_neg (by decide)]; exact hE
end ANT
