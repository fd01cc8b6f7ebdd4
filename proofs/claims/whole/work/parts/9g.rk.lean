/-! the class's acts once more, with what they leave as it is -/
/-- the rows of the quay's and its reader's: as they were -/
def FrB (w w' : Wd) : Prop := (∀ b, 2 ≤ b → b ≤ 26 → gI w' b = gI w b) ∧ gR w' 0 = gR w 0 ∧ gR w' 12 = gR w 12
theorem FrB.rf {w : Wd} : FrB w w := ⟨fun _ _ _ => rfl, rfl, rfl⟩
theorem FrB.tr {a b c : Wd} (h : FrB a b) (h' : FrB b c) : FrB a c := ⟨fun x q1 q2 => (h'.1 x q1 q2).trans (h.1 x q1 q2), h'.2.1.trans h.2.1, h'.2.2.trans h.2.2⟩
theorem FrI.B {A : Nat → Prop} {w w' : Wd} (h : FrI A w w') (hA : ∀ x, A x → x < 2 ∨ 26 < x) : FrB w w' := ⟨fun b b1 b2 => h.g (fun z => by have := hA b z; omega), by rw [h.R], by rw [h.R]⟩
theorem FrA.B {A B : Nat → Prop} {w w' : Wd} (h : FrA A B w w') (hA : ∀ x, A x → x < 2 ∨ 26 < x) (hB : ∀ x, B x → x ≠ 0 ∧ x ≠ 12) : FrB w w' := ⟨fun b b1 b2 => h.1 b (fun z => by have := hA b z; omega), h.2.1 0 (fun z => (hB 0 z).1 rfl), h.2.1 12 (fun z => (hB 12 z).2 rfl)⟩
theorem FrC.B {w w' : Wd} (h : FrC w w') : FrB w w' := ⟨fun b b1 b2 => h.1 b (by omega) (by unfold SC; omega), by rw [h.2.2.1], by rw [h.2.2.1]⟩
/-- the class answers, and stands so then -/
def AnZ (w : Wd) (F : Option Out) (a : An × AC) : Prop := match a.1 with
  | .inl v => ∃ (w' : Wd) (q : Nat), F = rI v w' ∧ RC w' q a.2 ∧ FrK w w' ∧ (∀ i, i ≠ 15 → gI w' 0 i = gI w 0 i) ∧ gI w' 1 = gI w 1 ∧ FrB w w'
  | .inr e => F = rX e (tW w)
theorem AnZ.of {w : Wd} {T F : Option Out} {a : An × AC} (hR : Rf T F) (h : AnZ w T a) : AnZ w F a := by
  obtain ⟨a, A⟩ := a
  cases a with
  | inl v =>
    obtain ⟨w', q, h1, h2⟩ := h
    exact ⟨w', q, hR _ h1, h2⟩
  | inr e => exact hR _ h
theorem AnZ.P {w : Wd} {q : Nat} {A : AC} {x : Int} {k : Wd → Option Out} {a : An × AC} (h : RC w q A) (hk : 0 ≤ x → x < zn (oQ A) → AnZ w (k w) a) : AnZ w (b0 (F165 0 x w) k) (gdPA x A a) := by
  rw [q165 h.1]
  unfold gdPA
  by_cases z : 0 ≤ x ∧ x < zn (oQ A)
  · rw [if_pos z, if_pos z, b0_r h.1.H]; exact hk z.1 z.2
  · rw [if_neg z, if_neg z, b0_x]; exact rfl
theorem AnZ.v {w w' : Wd} {q : Nat} {x : Int} {A : AC} (h : RC w' q A) (hK : FrK w w') (h0 : ∀ i, i ≠ 15 → gI w' 0 i = gI w 0 i) (h1 : gI w' 1 = gI w 1) (hZ : FrB w w') : AnZ w (rI x w') (.inl x, A) := ⟨w', q, rfl, h, hK, h0, h1, hZ⟩
theorem AnZ.rf {w : Wd} {q : Nat} (k : Nat) {kk : Int} {A : AC} {x : Int} {K : Int → Wd → Option Out} (h : RC w q A) (hkk : kk = (k : Int)) (hk : k < 3) (hK : ∀ w', K (-1) w' = rI x w') : AnZ w (bI (F168 0 kk w) K) (.inl x, rfS A k) := by
  subst hkk
  obtain ⟨w', k1, k2, k3⟩ := q168 h hk
  rw [k1, bI_r (k3.LR h.1.H), hK]
  exact AnZ.v k2 (k3.K (fun x hx => by unfold A250 at hx; omega)) (fun i _ => by rw [k3.g (by unfold A250; omega)]) (k3.g (by unfold A250; omega)) (k3.B (fun x hx => by unfold A250 at hx; omega))
theorem AnZ.do {w w1 w2 : Wd} {q : Nat} {A : AC} {u : ST} {x : Int} (hk : RC w1 q (oQ A, oS A, kpL (oL A) (oS A), oN A, oT A, oM A)) (f1 : FrA (AK 44) (fun x => x = 45) w w1) (f2 : FrI (fun b => (27 ≤ b ∧ b ≤ 43)) w1 w2) (hs : RS w2 34 u) (hG : GS (zn (oQ A)) u) (hT : uT u ≤ 999) : AnZ w (rI x w2) (.inl x, nowA A u) := by
  have r2 := hk.now f2 hs hG hT
  exact AnZ.v (q := q) r2 ((f1.K (fun x hx => by unfold AK at hx; omega) (fun x hx => by omega)).tr0 (f2.K (fun x hx => by omega)) f1.2.2.2.2.2.2) (fun i _ => by rw [f2.g (by omega), f1.1 0 (by unfold AK; omega)]) (by rw [f2.g (by omega), f1.1 1 (by unfold AK; omega)]) ((f1.B (fun x hx => by unfold AK at hx; omega) (fun x hx => by omega)).tr (f2.B (fun x hx => by omega)))
theorem d120z {w : Wd} {q : Nat} {A : AC} {k : Int} (h : RC w q A) : AnZ w (F120 0 k w) (sSteps A k) := by
  have H := h.1.H
  have ht := h.1.t
  have e7 : gI w (0 + 34) 7 = uT (oS A) := h.1.2.2.2.1.2.2.2.2.2.2.2
  refine AnZ.of (e120 H l0) ?_
  rw [e7]
  unfold sSteps
  have hrf : AnZ w (s120_26 0 k w) (.inl (-1), rfS A 1) := AnZ.of (e120_26 H l0) (AnZ.rf 1 h rfl (by decide) (fun _ => rfl))
  by_cases z1 : k < 1
  · rw [if_pos z1, if_neg (by omega)]; exact hrf
  rw [if_neg z1]
  by_cases z2 : 20 < k
  · rw [if_pos z2, if_neg (by omega)]; exact hrf
  rw [if_neg z2, wrd (by omega) (by omega)]
  by_cases z3 : uT (oS A) + k ≤ 999
  · rw [if_pos z3, if_pos ⟨by omega, by omega, z3⟩]
    obtain ⟨K, rfl⟩ : ∃ K : Nat, k = K := ⟨k.toNat, by omega⟩
    obtain ⟨w1, k1, k2, k3, H1⟩ := qkeep h
    obtain ⟨w2, l1, l2, l3, -⟩ := q17 (K := K) H1 l34 (lq h.1.1) h.1.g k2.1.2.2.2.1 h.1.s k2.1.2.2.1 (Or.inl rfl) h.1.1 (by show uT (oS A) + _ < _; omega)
    have hT := goN_T (Q := oQ A) (s := oS A) K
    have l2' : RS w2 34 (goN (oQ A) (oS A) K) := l2
    rw [show F2 (0 + 44) (0 + 34) w = r0 w1 from k1, b0_r H1, k2.1.q, show F17 (0 + 27) q (0 + 34) (K : Int) w1 = r0 w2 from l1, b0_r (l3.LR H1), show gI w2 (0 + 34) 7 = uT (oS A) + K by rw [show gI w2 (0 + 34) 7 = _ from l2'.2.2.2.2.2.2.2, hT], nn]
    exact AnZ.do k2 k3 (l3.wk (fun b hb => by unfold AG AS at hb; omega)) l2' (GS_goN h.1.s K (by omega)) (by omega)
  · rw [if_neg z3, if_neg (by omega)]; exact hrf
theorem d121z {w : Wd} {q : Nat} {A : AC} {x v : Int} (h : RC w q A) : AnZ w (F121 0 x v w) (sSet A x v) := by
  have H := h.1.H
  refine AnZ.of (e121 H l0) (AnZ.P h fun x0 x1 => ?_)
  have h8 := h.1.n8
  obtain ⟨p, rfl, hp⟩ := toN x0 x1
  have e76 := q76 (p := p) H l34 (by omega)
  rw [show gI w (34 + 2) = uW (oS A) from h.1.2.2.2.1.2.1] at e76
  rw [show F76 (0 + 34) p w = _ from e76, bI_r H, nn]
  have hrf : AnZ w (s121_29 0 p v (uW (oS A) p) w) (.inl (-1), rfS A 1) := AnZ.of (e121_29 H l0) (AnZ.rf 1 h rfl (by decide) (fun _ => rfl))
  by_cases z1 : v < 0
  · rw [if_pos z1, if_neg (by omega)]; exact hrf
  rw [if_neg z1]
  by_cases z2 : 60 ≤ v
  · rw [if_pos z2, if_neg (by omega)]; exact hrf
  rw [if_neg z2]
  by_cases z3 : v ≠ uW (oS A) p
  · rw [if_pos z3, if_pos ⟨by omega, by omega, z3⟩]
    obtain ⟨w1, k1, k2, k3, H1⟩ := qkeep h
    have r1 : RS (pI w1 36 p v) 34 (sW (oS A) p v) := by rw [pI_eq (w := w1) (a := 36) k2.1.2.2.2.1.2.1]; exact RS_W k2.1.2.2.2.1
    rw [show F2 (0 + 44) (0 + 34) w = r0 w1 from k1, b0_r H1, q87 (a := 34) (p := p) H1 l34 (by omega)]
    show AnZ w (b0 (r0 (pI w1 36 p v)) _) _
    rw [b0_r (w := pI w1 36 p v) H1]
    exact AnZ.do k2 k3 (FrI.p (by omega)) r1 (GS_W h.1.s ⟨by omega, by omega⟩) h.1.t.2
  · rw [if_neg z3, if_neg (fun y => z3 y.2.2)]; exact hrf
theorem d122z {w : Wd} {q : Nat} {A : AC} {x m : Int} (h : RC w q A) : AnZ w (F122 0 x m w) (sGive A x m) := by
  have H := h.1.H
  refine AnZ.of (e122 H l0) (AnZ.P h fun x0 x1 => ?_)
  have h8 := h.1.n8
  obtain ⟨p, rfl, hp⟩ := toN x0 x1
  rw [nn]
  have hrf : AnZ w (s122_16 0 p m w) (.inl (-1), rfS A 1) := AnZ.of (e122_16 H l0) (AnZ.rf 1 h rfl (by decide) (fun _ => rfl))
  by_cases z1 : m < 1
  · rw [if_pos z1, if_neg (by omega)]; exact hrf
  rw [if_neg z1]
  by_cases z2 : m ≤ 100
  · rw [if_pos z2, if_pos ⟨by omega, z2⟩]
    obtain ⟨w1, k1, k2, k3, H1⟩ := qkeep h
    have e90 := q90 (p := p) (m := m) H1 l34 (by omega) k2.1.2.2.2.1 k2.1.s (by omega)
    have r1 : RS (pI w1 35 p (min (uL (oS A) p + m) 999)) 34 (rcv (oS A) p m) := RS_rcv (a := 34) k2.1.2.2.2.1
    have e75 : F75 34 p (pI w1 35 p (min (uL (oS A) p + m) 999)) = rI (min (uL (oS A) p + m) 999) (pI w1 35 p (min (uL (oS A) p + m) 999)) := by
      rw [q75 (w := pI w1 35 p (min (uL (oS A) p + m) 999)) H1 l34 (by omega)]
      show rI (gI (pI w1 35 p _) 35 p) _ = _
      rw [gI_s]
    rw [show F2 (0 + 44) (0 + 34) w = r0 w1 from k1, b0_r H1, show F90 (0 + 34) p m w1 = _ from e90]
    show AnZ w (b0 (r0 (pI w1 35 p (min (uL (oS A) p + m) 999))) _) _
    rw [b0_r (w := pI w1 35 p (min (uL (oS A) p + m) 999)) H1, show F75 (0 + 34) p (pI w1 35 p (min (uL (oS A) p + m) 999)) = _ from e75, bI_r (w := pI w1 35 p (min (uL (oS A) p + m) 999)) H1]
    exact AnZ.do k2 k3 (FrI.p (by omega)) r1 (GS_rcv h.1.s (by omega) (by omega)) h.1.t.2
  · rw [if_neg z2, if_neg (by omega)]; exact hrf
theorem d123z {w : Wd} {q : Nat} {A : AC} {b : Bool} (h : RC w q A) : AnZ w (F123 0 (b2i b) w) (sStop A b) := by
  have H := h.1.H
  have e5 : gI w (0 + 34) 5 = b2i (uP (oS A)) := h.1.2.2.2.1.2.2.2.2.2.1
  refine AnZ.of (e123 H l0) ?_
  rw [e5]
  unfold sStop
  by_cases z : uP (oS A) = b
  · rw [if_neg (by rw [z]; simp), if_neg (by rw [z]; simp)]
    exact AnZ.rf 1 h rfl (by decide) (fun _ => rfl)
  · rw [if_pos (by intro y; apply z; revert y; cases uP (oS A) <;> cases b <;> decide), if_pos z]
    obtain ⟨w1, k1, k2, k3, H1⟩ := qkeep h
    rw [show F2 (0 + 44) (0 + 34) w = r0 w1 from k1, b0_r H1, gP_t (b2i_or b)]
    exact AnZ.do k2 k3 (FrI.p (by omega)) (RS_P k2.1.2.2.2.1) h.1.s h.1.t.2
theorem d124z {w : Wd} {q : Nat} {A : AC} {x : Int} {b : Bool} (h : RC w q A) : AnZ w (F124 0 x (b2i b) w) (sStay A x b) := by
  have H := h.1.H
  refine AnZ.of (e124 H l0) (AnZ.P h fun x0 x1 => ?_)
  have h8 := h.1.n8
  obtain ⟨p, rfl, hp⟩ := toN x0 x1
  rw [show F81 (0 + 34) p w = _ from q81 (a := 34) H l34 (by omega) h.1.2.2.2.1, bI_r H, nn]
  by_cases z : uI (oS A) p = b
  · rw [if_neg (by rw [z]; simp), if_neg (by rw [z]; simp)]
    exact AnZ.rf 1 h rfl (by decide) (fun _ => rfl)
  · rw [if_pos (by intro y; apply z; revert y; cases uI (oS A) p <;> cases b <;> decide), if_pos z]
    obtain ⟨w1, k1, k2, k3, H1⟩ := qkeep h
    have e88 : F88 34 p (b2i b) w1 = r0 (pI w1 34 4 (mk (fun i => if i = p then b else uI (oS A) i) 8)) := q88 (a := 34) (p := p) (b := b) H1 l34 (by omega) k2.1.2.2.2.1
    rw [show F2 (0 + 44) (0 + 34) w = r0 w1 from k1, b0_r H1, show F88 (0 + 34) p (b2i b) w1 = _ from e88, b0_r (w := pI w1 34 4 (mk (fun i => if i = p then b else uI (oS A) i) 8)) H1]
    exact AnZ.do k2 k3 (FrI.p (by omega)) (RS_I k2.1.2.2.2.1) h.1.s h.1.t.2

theorem d125z {w : Wd} {q : Nat} {A : AC} (h : RC w q A) (hA : GA A) : AnZ w (F125 0 w) (sUndo A) := by
  have H := h.1.H
  obtain ⟨h5a, h5b⟩ := q5 (a := 34) H l34 h.2.1 (by omega)
  refine AnZ.of (e125 H l0) ?_
  unfold sUndo
  by_cases z : oL A = []
  · rw [z]
    rw [show F5 (0 + 44) (0 + 34) w = _ from h5a z, bI_r H, if_pos rfl]
    exact AnZ.v h FrC.rf.K (fun _ _ => rfl) rfl FrB.rf
  · have hlen : 0 < (oL A).length := List.length_pos_iff.mpr z
    obtain ⟨w', k1, k2, k3, k4⟩ := h5b hlen
    have eg : (oL A).getLast? = some ((oL A)[(oL A).length - 1]) := by
      rw [List.getLast?_eq_getElem?, List.getElem?_eq_getElem (by omega)]
    rw [eg]
    have hu := hA.2.1 _ (List.getElem_mem (l := oL A) (n := (oL A).length - 1) (by omega))
    have H' := k4.LR H
    obtain ⟨h1, h2, h3, h4, ⟨M, h5⟩, h6, h7⟩ := h
    have g : ∀ b, b < 34 ∨ (38 < b ∧ b ≠ 44) → gI w' b = gI w b := fun b hb => k4.g (by unfold AS; omega)
    rw [show F5 (0 + 44) (0 + 34) w = _ from k1, bI_r H', if_neg (by omega), show gI w' (0 + 44) 1 = _ from k3.2.1, List.length_dropLast]
    refine AnZ.v (q := q) ⟨?_, k3, h3.ext (fun a _ _ => g a (by omega)), fun i hi => by rw [g 250 (by omega)]; exact h4 i hi, ⟨M, h5.ext (fun x hx => g x (by unfold AK at hx; omega)) (by rw [k4.R])⟩, fun e => by rw [g 251 (by omega)]; exact h6 e, fun x hx => ?_⟩ (k4.K (fun x hx => by unfold AS at hx; omega)) (fun i _ => by rw [g 0 (by omega)]) (g 1 (by omega)) (k4.B (fun x hx => by unfold AS at hx; omega))
    · obtain ⟨c1, c2, c3, c4, c5, c6, c7, c8⟩ := h1
      exact ⟨c1, by rw [k4.R]; exact c2, c3.ext (fun b _ _ => g b (by omega)), k2, H', c6, hu.1, hu.2.1⟩
    · obtain ⟨a1, a2, a3, a4, a5⟩ := h7 x hx
      exact ⟨by rw [g 251 (by omega)]; exact a1, a2.ext (fun c c1 c2 => g c (by omega)), a3.ext (fun x hx => g x (by unfold AK at hx; omega)) (by rw [k4.R]), a4.ext (fun c c1 c2 => g c (by omega)), fun i hi => by rw [g 463 (by omega)]; exact a5 i hi⟩
theorem d150z {w : Wd} {q : Nat} {A : AC} {x n m : Int} (h : RC w q A) (hA : GA A) : AnZ w (F150 0 x n m w) (sSee A x n m) := by
  have H := h.1.H
  refine AnZ.of (e150 H l0) (AnZ.P h fun x0 x1 => ?_)
  obtain ⟨p, rfl, hp⟩ := toN x0 x1
  rw [nn]
  have hN8 := hA.2.2.1.1
  have hrf : ∀ b, AnZ w (s150_51 0 p n m b w) (.inl (-1), rfS A 2) := fun b => AnZ.of (e150_51 H l0) (AnZ.rf 2 h rfl (by decide) (fun _ => rfl))
  have h0 : ¬ (0 ≤ n ∧ n ≤ 20 ∧ 0 ≤ m ∧ m ≤ 999) → AnZ w (s150_31 0 p n m 0 w) (if (oN A).1 < 8 ∧ 0 ≤ n ∧ n ≤ 20 ∧ 0 ≤ m ∧ m ≤ 999 then (.inl (((oN A).1 + 1 : Nat) : Int), (oQ A, oS A, oL A, seeN (oN A) p n m, oT A, oM A)) else (.inl (-1), rfS A 2)) := by
    intro hz
    rw [if_neg (fun y => hz y.2)]
    refine AnZ.of (e150_31 H l0) ?_
    rw [if_pos rfl]
    exact hrf 0
  by_cases z1 : n < 0
  · rw [if_pos z1]; exact h0 (by omega)
  rw [if_neg z1]
  by_cases z2 : 20 < n
  · rw [if_pos z2]; exact h0 (by omega)
  rw [if_neg z2]
  by_cases z3 : m < 0
  · rw [if_pos z3]; exact h0 (by omega)
  rw [if_neg z3]
  by_cases z4 : 999 < m
  · rw [if_pos z4]; exact h0 (by omega)
  rw [if_neg z4]
  refine AnZ.of (e150_31 H l0) ?_
  rw [if_neg (by omega)]
  by_cases z5 : (oN A).1 < 8
  · rw [if_pos ⟨z5, by omega, by omega, by omega, by omega⟩]
    obtain ⟨w', k1, k2, k3⟩ := q68 (p := p) (n := n) (m := m) H h.2.2.1 z5
    rw [show F68 (0 + 246) p n m w = _ from k1, bI_r (k3.LR H), if_pos (by omega), show gI w' (0 + 246) 3 = _ from k2.1]
    exact AnZ.v (q := q) (h.seen k3 k2) (k3.K (fun x hx => by omega)) (fun i _ => by rw [k3.g (by omega)]) (k3.g (by omega)) (k3.B (fun x hx => by omega))
  · rw [if_neg (fun y => z5 y.1)]
    have e : F68 246 p n m w = rI 0 w := by
      refine e68 H l246 _ ?_
      rw [h.2.2.1.1, if_neg (by omega), if_neg (by omega)]
    rw [show F68 (0 + 246) p n m w = _ from e, bI_r H, if_neg (by omega)]
    exact hrf 1
theorem d164z {w : Wd} {q : Nat} {A : AC} (h : RC w q A) (hA : GA A) : AnZ w (F164 0 w) (sRestore A) := by
  have H := h.1.H
  refine AnZ.of (e164 H l0) ?_
  unfold sRestore
  cases hm : oM A with
  | none =>
    rw [show gI w (0 + 251) 4 = 0 from h.2.2.2.2.2.1 hm, if_neg (by omega)]
    exact AnZ.v h FrC.rf.K (fun _ _ => rfl) rfl FrB.rf
  | some x =>
    obtain ⟨i1, i2, i3, i4, i5⟩ := h.2.2.2.2.2.2 x hm
    obtain ⟨j1, j2, j3, j4⟩ := hA.2.2.2.2 x hm
    rw [show gI w (0 + 251) 4 = 1 from i1, if_pos (by omega)]
    obtain ⟨w1, k1, k2, k3⟩ := q74 (a := 34) (b := 252) H l34 l252 (by omega) i2
    have H1 := k3.LR H
    have g1 : ∀ b, b < 34 ∨ 38 < b → gI w1 b = gI w b := fun b hb => k3.g (by unfold AS; omega)
    obtain ⟨w2, l1, l2, l3⟩ := q6 (b := 44) (c := 257) H1 (Or.inl rfl) (Or.inr rfl) (by omega) (h.2.1.ext (fun x hx => g1 x (by unfold AK at hx; omega)) (by rw [k3.R])) (i3.ext (fun x hx => g1 x (by unfold AK at hx; omega)) (by rw [k3.R]))
    have H2 : LR w2 := l3.LR (fun b hb => by rw [hb]; rfl) H1
    have g2 : ∀ b, b < 44 ∨ 246 ≤ b → gI w2 b = gI w1 b := fun b hb => l3.1 b (by unfold AK; omega)
    obtain ⟨w3, m1, m2, m3⟩ := q71 (b := 246) (c := 459) H2 l246 l459 (by omega) (i4.ext (fun a _ _ => by rw [g2 a (by omega), g1 a (by omega)]))
    have H3 := m3.LR H2
    have g3 : ∀ b, b < 246 ∨ 249 < b → gI w3 b = gI w2 b := fun b hb => m3.g (by omega)
    have H4 : LR (sI w3 250 (gI w3 463)) := H3
    have f : FrA (fun b => 34 ≤ b ∧ b ≤ 250) (fun x => x = 45) w (sI w3 250 (gI w3 463)) := ((k3.A _).wk (fun x hx => by unfold AS at hx; omega) (fun x hx => hx)).tr ((l3.wk (fun x hx => by unfold AK at hx; omega) (fun x hx => hx)).tr (((m3.wk (fun x hx => by omega)).tr (FrI.s (by omega))).A _))
    have gg : ∀ b, b < 34 ∨ 250 < b → gI (sI w3 250 (gI w3 463)) b = gI w b := fun b hb => f.1 b (by omega)
    have gr : ∀ b, b ≠ 45 → gR (sI w3 250 (gI w3 463)) b = gR w b := fun b hb => f.2.1 b hb
    rw [show F74 (0 + 34) (0 + 251 + 1) w = r0 w1 from k1, b0_r H1, show F6 (0 + 44) (0 + 251 + 6) w1 = r0 w2 from l1, b0_r H2, show F71 (0 + 246) (0 + 251 + 208) w2 = r0 w3 from m1, b0_r H3]
    show AnZ w (rI 1 (sI w3 250 (gI w3 463))) _
    refine AnZ.v (q := q) ⟨?_, l2.ext (fun x hx => by unfold AK at hx; rw [gI_Sr (by omega), g3 x (by omega)]) (by rw [gR_sI, m3.R]), m2.ext (fun a a1 a2 => by rw [gI_Sr (by omega)]), fun i hi => ?_, ⟨_, i3.ext (fun x hx => gg x (by unfold AK at hx; omega)) (gr _ (by omega))⟩, fun e => (by have e2 : some x = none := e; cases e2), fun y hy => ?_⟩ (f.K (fun x hx => by omega) (fun x hx => by omega)) (fun i _ => by rw [gg 0 (by omega)]) (gg 1 (by omega)) (f.B (fun x hx => by omega) (fun x hx => by omega))
    · obtain ⟨c1, c2, c3, c4, c5, c6, c7, c8⟩ := h.1
      refine ⟨c1, by rw [gr 0 (by omega)]; exact c2, c3.ext (fun b _ _ => gg b (by omega)), ?_, H4, c6, j1.1, j1.2.1⟩
      exact k2.ext (fun c c1 c2 => by rw [gI_Sr (by omega), g3 c (by omega), g2 c (by omega)])
    · show gI (sI w3 250 (gI w3 463)) 250 i = x.2.2.2 i
      rw [gI_S, g3 463 (by omega), g2 463 (by omega), g1 463 (by omega)]; exact i5 i hi
    · have hy' : some x = some y := hy
      cases hy'
      exact ⟨by rw [gg 251 (by omega)]; exact i1, i2.ext (fun c c1 c2 => gg c (by omega)), i3.ext (fun x hx => gg x (by unfold AK at hx; omega)) (gr _ (by omega)), i4.ext (fun c c1 c2 => gg c (by omega)), fun i hi => by rw [gg 463 (by omega)]; exact i5 i hi⟩
