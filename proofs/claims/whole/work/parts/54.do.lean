/-! what the class's acts answer, and how it stands then -/
def gdPA (x : Int) (A : AC) (a : An × AC) : An × AC := if 0 ≤ x ∧ x < zn (oQ A) then a else (.inr 0, A)
def nowA (A : AC) (u : ST) : AC := (oQ A, u, kpL (oL A) (oS A), oN A, oT A, oM A)
def sSteps (A : AC) (k : Int) : An × AC := if 1 ≤ k ∧ k ≤ 20 ∧ uT (oS A) + k ≤ 999 then (.inl (uT (oS A) + k), nowA A (goN (oQ A) (oS A) k.toNat)) else (.inl (-1), rfS A 1)
def sSet (A : AC) (x v : Int) : An × AC := gdPA x A (if 0 ≤ v ∧ v < 60 ∧ v ≠ uW (oS A) x.toNat then (.inl (uW (oS A) x.toNat), nowA A (sW (oS A) x.toNat v)) else (.inl (-1), rfS A 1))
def sGive (A : AC) (x m : Int) : An × AC := gdPA x A (if 1 ≤ m ∧ m ≤ 100 then (.inl (min (uL (oS A) x.toNat + m) 999), nowA A (rcv (oS A) x.toNat m)) else (.inl (-1), rfS A 1))
def sStop (A : AC) (b : Bool) : An × AC := if uP (oS A) ≠ b then (.inl 1, nowA A (pP (oS A) b)) else (.inl 0, rfS A 1)
def sStay (A : AC) (x : Int) (b : Bool) : An × AC := gdPA x A (if uI (oS A) x.toNat ≠ b then (.inl 1, nowA A (sS (oS A) x.toNat b)) else (.inl 0, rfS A 1))
theorem AnS.P {w : Wd} {q : Nat} {A : AC} {x : Int} {k : Wd → Option Out} {a : An × AC} (h : RC w q A) (hk : 0 ≤ x → x < zn (oQ A) → AnS w (k w) a) : AnS w (b0 (F165 0 x w) k) (gdPA x A a) := by
  rw [q165 h.1]
  unfold gdPA
  by_cases z : 0 ≤ x ∧ x < zn (oQ A)
  · rw [if_pos z, if_pos z, b0_r h.1.H]; exact hk z.1 z.2
  · rw [if_neg z, if_neg z, b0_x]; exact rfl
theorem AnS.v {w w' : Wd} {q : Nat} {x : Int} {A : AC} (h : RC w' q A) (hK : FrK w w') (h0 : ∀ i, i ≠ 15 → gI w' 0 i = gI w 0 i) (h1 : gI w' 1 = gI w 1) : AnS w (rI x w') (.inl x, A) := ⟨w', q, rfl, h, hK, h0, h1⟩
theorem FrI.K {A : Nat → Prop} {w w' : Wd} (h : FrI A w w') (hA : ∀ x, A x → x < 473) : FrK w w' := (h.A (fun _ => False)).K hA (fun _ z => z.elim)
theorem FrK.tr0 {a b c : Wd} (h : FrK a b) (h' : FrK b c) (hE : gE b = gE a) : FrK a c := ⟨fun x hx => ⟨(h'.1 x hx).1.trans (h.1 x hx).1, (h'.1 x hx).2.1.trans (h.1 x hx).2.1, (h'.1 x hx).2.2.trans (h.1 x hx).2.2⟩, h'.2.1.trans h.2.1, h'.2.2.1.trans h.2.2.1, h'.2.2.2.1.trans h.2.2.2.1, by rw [← hE]; exact h'.2.2.2.2.1, by rw [← hE]; exact h'.2.2.2.2.2⟩
/-- refused -/
theorem AnS.rf {w : Wd} {q : Nat} (k : Nat) {kk : Int} {A : AC} {x : Int} {K : Int → Wd → Option Out} (h : RC w q A) (hkk : kk = (k : Int)) (hk : k < 3) (hK : ∀ w', K (-1) w' = rI x w') : AnS w (bI (F168 0 kk w) K) (.inl x, rfS A k) := by
  subst hkk
  obtain ⟨w', k1, k2, k3⟩ := q168 h hk
  rw [k1, bI_r (k3.LR h.1.H), hK]
  exact AnS.v k2 (k3.K (fun x hx => by unfold A250 at hx; omega)) (fun i _ => by rw [k3.g (by unfold A250; omega)]) (k3.g (by unfold A250; omega))
/-- kept, then changed: the now is u -/
theorem AnS.do {w w1 w2 : Wd} {q : Nat} {A : AC} {u : ST} {x : Int} (hk : RC w1 q (oQ A, oS A, kpL (oL A) (oS A), oN A, oT A, oM A)) (f1 : FrA (AK 44) (fun x => x = 45) w w1) (f2 : FrI (fun b => (27 ≤ b ∧ b ≤ 43)) w1 w2) (hs : RS w2 34 u) (hG : GS (zn (oQ A)) u) (hT : uT u ≤ 999) : AnS w (rI x w2) (.inl x, nowA A u) := by
  have r2 := hk.now f2 hs hG hT
  exact AnS.v (q := q) r2 ((f1.K (fun x hx => by unfold AK at hx; omega) (fun x hx => by omega)).tr0 (f2.K (fun x hx => by omega)) f1.2.2.2.2.2.2) (fun i _ => by rw [f2.g (by omega), f1.1 0 (by unfold AK; omega)]) (by rw [f2.g (by omega), f1.1 1 (by unfold AK; omega)])
theorem d120 {w : Wd} {q : Nat} {A : AC} {k : Int} (h : RC w q A) : AnS w (F120 0 k w) (sSteps A k) := by
  have H := h.1.H
  have ht := h.1.t
  have e7 : gI w (0 + 34) 7 = uT (oS A) := h.1.2.2.2.1.2.2.2.2.2.2.2
  refine AnS.of (e120 H l0) ?_
  rw [e7]
  unfold sSteps
  have hrf : AnS w (s120_26 0 k w) (.inl (-1), rfS A 1) := AnS.of (e120_26 H l0) (AnS.rf 1 h rfl (by decide) (fun _ => rfl))
  by_cases z1 : k < 1
  · rw [if_pos z1, if_neg (by omega)]; exact hrf
  rw [if_neg z1]
  by_cases z2 : 20 < k
  · rw [if_pos z2, if_neg (by omega)]; exact hrf
  rw [if_neg z2, wrd (by omega) (by omega)]
  by_cases z3 : uT (oS A) + k ≤ 999
  · rw [if_pos z3, if_pos ⟨by omega, by omega, z3⟩]
    obtain ⟨K, rfl⟩ : ∃ K : Nat, k = K := ⟨k.toNat, by omega⟩
    obtain ⟨w1, k1, k2, k3, H1⟩ := qkeep h
    obtain ⟨w2, l1, l2, l3, -⟩ := q17 (K := K) H1 l34 (lq h.1.1) h.1.g k2.1.2.2.2.1 h.1.s k2.1.2.2.1 (Or.inl rfl) h.1.1 (by show uT (oS A) + _ < _; omega)
    have hT := goN_T (Q := oQ A) (s := oS A) K
    have l2' : RS w2 34 (goN (oQ A) (oS A) K) := l2
    rw [show F2 (0 + 44) (0 + 34) w = r0 w1 from k1, b0_r H1, k2.1.q, show F17 (0 + 27) q (0 + 34) (K : Int) w1 = r0 w2 from l1, b0_r (l3.LR H1), show gI w2 (0 + 34) 7 = uT (oS A) + K by rw [show gI w2 (0 + 34) 7 = _ from l2'.2.2.2.2.2.2.2, hT], nn]
    exact AnS.do k2 k3 (l3.wk (fun b hb => by unfold AG AS at hb; omega)) l2' (GS_goN h.1.s K (by omega)) (by omega)
  · rw [if_neg z3, if_neg (by omega)]; exact hrf
theorem d121 {w : Wd} {q : Nat} {A : AC} {x v : Int} (h : RC w q A) : AnS w (F121 0 x v w) (sSet A x v) := by
  have H := h.1.H
  refine AnS.of (e121 H l0) (AnS.P h fun x0 x1 => ?_)
  have h8 := h.1.n8
  obtain ⟨p, rfl, hp⟩ := toN x0 x1
  have e76 := q76 (p := p) H l34 (by omega)
  rw [show gI w (34 + 2) = uW (oS A) from h.1.2.2.2.1.2.1] at e76
  rw [show F76 (0 + 34) p w = _ from e76, bI_r H, nn]
  have hrf : AnS w (s121_29 0 p v (uW (oS A) p) w) (.inl (-1), rfS A 1) := AnS.of (e121_29 H l0) (AnS.rf 1 h rfl (by decide) (fun _ => rfl))
  by_cases z1 : v < 0
  · rw [if_pos z1, if_neg (by omega)]; exact hrf
  rw [if_neg z1]
  by_cases z2 : 60 ≤ v
  · rw [if_pos z2, if_neg (by omega)]; exact hrf
  rw [if_neg z2]
  by_cases z3 : v ≠ uW (oS A) p
  · rw [if_pos z3, if_pos ⟨by omega, by omega, z3⟩]
    obtain ⟨w1, k1, k2, k3, H1⟩ := qkeep h
    have r1 : RS (pI w1 36 p v) 34 (sW (oS A) p v) := by rw [pI_eq (w := w1) (a := 36) k2.1.2.2.2.1.2.1]; exact RS_W k2.1.2.2.2.1
    rw [show F2 (0 + 44) (0 + 34) w = r0 w1 from k1, b0_r H1, q87 (a := 34) (p := p) H1 l34 (by omega)]
    show AnS w (b0 (r0 (pI w1 36 p v)) _) _
    rw [b0_r (w := pI w1 36 p v) H1]
    exact AnS.do k2 k3 (FrI.p (by omega)) r1 (GS_W h.1.s ⟨by omega, by omega⟩) h.1.t.2
  · rw [if_neg z3, if_neg (fun y => z3 y.2.2)]; exact hrf
theorem d122 {w : Wd} {q : Nat} {A : AC} {x m : Int} (h : RC w q A) : AnS w (F122 0 x m w) (sGive A x m) := by
  have H := h.1.H
  refine AnS.of (e122 H l0) (AnS.P h fun x0 x1 => ?_)
  have h8 := h.1.n8
  obtain ⟨p, rfl, hp⟩ := toN x0 x1
  rw [nn]
  have hrf : AnS w (s122_16 0 p m w) (.inl (-1), rfS A 1) := AnS.of (e122_16 H l0) (AnS.rf 1 h rfl (by decide) (fun _ => rfl))
  by_cases z1 : m < 1
  · rw [if_pos z1, if_neg (by omega)]; exact hrf
  rw [if_neg z1]
  by_cases z2 : m ≤ 100
  · rw [if_pos z2, if_pos ⟨by omega, z2⟩]
    obtain ⟨w1, k1, k2, k3, H1⟩ := qkeep h
    have e90 := q90 (p := p) (m := m) H1 l34 (by omega) k2.1.2.2.2.1 k2.1.s (by omega)
    have r1 : RS (pI w1 35 p (min (uL (oS A) p + m) 999)) 34 (rcv (oS A) p m) := RS_rcv (a := 34) k2.1.2.2.2.1
    have e75 : F75 34 p (pI w1 35 p (min (uL (oS A) p + m) 999)) = rI (min (uL (oS A) p + m) 999) (pI w1 35 p (min (uL (oS A) p + m) 999)) := by
      rw [q75 (w := pI w1 35 p (min (uL (oS A) p + m) 999)) H1 l34 (by omega)]
      show rI (gI (pI w1 35 p _) 35 p) _ = _
      rw [gI_s]
    rw [show F2 (0 + 44) (0 + 34) w = r0 w1 from k1, b0_r H1, show F90 (0 + 34) p m w1 = _ from e90]
    show AnS w (b0 (r0 (pI w1 35 p (min (uL (oS A) p + m) 999))) _) _
    rw [b0_r (w := pI w1 35 p (min (uL (oS A) p + m) 999)) H1, show F75 (0 + 34) p (pI w1 35 p (min (uL (oS A) p + m) 999)) = _ from e75, bI_r (w := pI w1 35 p (min (uL (oS A) p + m) 999)) H1]
    exact AnS.do k2 k3 (FrI.p (by omega)) r1 (GS_rcv h.1.s (by omega) (by omega)) h.1.t.2
  · rw [if_neg z2, if_neg (by omega)]; exact hrf
theorem d123 {w : Wd} {q : Nat} {A : AC} {b : Bool} (h : RC w q A) : AnS w (F123 0 (b2i b) w) (sStop A b) := by
  have H := h.1.H
  have e5 : gI w (0 + 34) 5 = b2i (uP (oS A)) := h.1.2.2.2.1.2.2.2.2.2.1
  refine AnS.of (e123 H l0) ?_
  rw [e5]
  unfold sStop
  by_cases z : uP (oS A) = b
  · rw [if_neg (by rw [z]; simp), if_neg (by rw [z]; simp)]
    exact AnS.rf 1 h rfl (by decide) (fun _ => rfl)
  · rw [if_pos (by intro y; apply z; revert y; cases uP (oS A) <;> cases b <;> decide), if_pos z]
    obtain ⟨w1, k1, k2, k3, H1⟩ := qkeep h
    rw [show F2 (0 + 44) (0 + 34) w = r0 w1 from k1, b0_r H1, gP_t (b2i_or b)]
    exact AnS.do k2 k3 (FrI.p (by omega)) (RS_P k2.1.2.2.2.1) h.1.s h.1.t.2
theorem d124 {w : Wd} {q : Nat} {A : AC} {x : Int} {b : Bool} (h : RC w q A) : AnS w (F124 0 x (b2i b) w) (sStay A x b) := by
  have H := h.1.H
  refine AnS.of (e124 H l0) (AnS.P h fun x0 x1 => ?_)
  have h8 := h.1.n8
  obtain ⟨p, rfl, hp⟩ := toN x0 x1
  rw [show F81 (0 + 34) p w = _ from q81 (a := 34) H l34 (by omega) h.1.2.2.2.1, bI_r H, nn]
  by_cases z : uI (oS A) p = b
  · rw [if_neg (by rw [z]; simp), if_neg (by rw [z]; simp)]
    exact AnS.rf 1 h rfl (by decide) (fun _ => rfl)
  · rw [if_pos (by intro y; apply z; revert y; cases uI (oS A) p <;> cases b <;> decide), if_pos z]
    obtain ⟨w1, k1, k2, k3, H1⟩ := qkeep h
    have e88 : F88 34 p (b2i b) w1 = r0 (pI w1 34 4 (mk (fun i => if i = p then b else uI (oS A) i) 8)) := q88 (a := 34) (p := p) (b := b) H1 l34 (by omega) k2.1.2.2.2.1
    rw [show F2 (0 + 44) (0 + 34) w = r0 w1 from k1, b0_r H1, show F88 (0 + 34) p (b2i b) w1 = _ from e88, b0_r (w := pI w1 34 4 (mk (fun i => if i = p then b else uI (oS A) i) 8)) H1]
    exact AnS.do k2 k3 (FrI.p (by omega)) (RS_I k2.1.2.2.2.1) h.1.s h.1.t.2
