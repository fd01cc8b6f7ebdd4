/-! undone, seen, forgotten; count, person -/
def sUndo (A : AC) : An × AC := match (oL A).getLast? with
  | none => (.inl (-1), A)
  | some u => (.inl ((oL A).length - 1 : Nat), (oQ A, u, (oL A).dropLast, oN A, oT A, oM A))
theorem d125 {w : Wd} {q : Nat} {A : AC} (h : RC w q A) (hA : GA A) : AnS w (F125 0 w) (sUndo A) := by
  have H := h.1.H
  obtain ⟨h5a, h5b⟩ := q5 (a := 34) H l34 h.2.1 (by omega)
  refine AnS.of (e125 H l0) ?_
  unfold sUndo
  by_cases z : oL A = []
  · rw [z]
    rw [show F5 (0 + 44) (0 + 34) w = _ from h5a z, bI_r H, if_pos rfl]
    exact AnS.v h FrC.rf.K (fun _ _ => rfl) rfl
  · have hlen : 0 < (oL A).length := List.length_pos_iff.mpr z
    obtain ⟨w', k1, k2, k3, k4⟩ := h5b hlen
    have eg : (oL A).getLast? = some ((oL A)[(oL A).length - 1]) := by
      rw [List.getLast?_eq_getElem?, List.getElem?_eq_getElem (by omega)]
    rw [eg]
    have hu := hA.2.1 _ (List.getElem_mem (l := oL A) (n := (oL A).length - 1) (by omega))
    have H' := k4.LR H
    obtain ⟨h1, h2, h3, h4, ⟨M, h5⟩, h6, h7⟩ := h
    have g : ∀ b, b < 34 ∨ (38 < b ∧ b ≠ 44) → gI w' b = gI w b := fun b hb => k4.g (by unfold AS; omega)
    rw [show F5 (0 + 44) (0 + 34) w = _ from k1, bI_r H', if_neg (by omega), show gI w' (0 + 44) 1 = _ from k3.2.1, List.length_dropLast]
    refine AnS.v (q := q) ⟨?_, k3, h3.ext (fun a _ _ => g a (by omega)), fun i hi => by rw [g 250 (by omega)]; exact h4 i hi, ⟨M, h5.ext (fun x hx => g x (by unfold AK at hx; omega)) (by rw [k4.R])⟩, fun e => by rw [g 251 (by omega)]; exact h6 e, fun x hx => ?_⟩ (k4.K (fun x hx => by unfold AS at hx; omega)) (fun i _ => by rw [g 0 (by omega)]) (g 1 (by omega))
    · obtain ⟨c1, c2, c3, c4, c5, c6, c7, c8⟩ := h1
      exact ⟨c1, by rw [k4.R]; exact c2, c3.ext (fun b _ _ => g b (by omega)), k2, H', c6, hu.1, hu.2.1⟩
    · obtain ⟨a1, a2, a3, a4, a5⟩ := h7 x hx
      exact ⟨by rw [g 251 (by omega)]; exact a1, a2.ext (fun c c1 c2 => g c (by omega)), a3.ext (fun x hx => g x (by unfold AK at hx; omega)) (by rw [k4.R]), a4.ext (fun c c1 c2 => g c (by omega)), fun i hi => by rw [g 463 (by omega)]; exact a5 i hi⟩
/-- what is seen becomes N: only its rows change -/
theorem RC.seen {w w' : Wd} {q : Nat} {A : AC} {N : NT} (h : RC w q A) (f : FrI (fun b => 246 ≤ b ∧ b ≤ 249) w w') (hN : RN w' 246 N) : RC w' q (oQ A, oS A, oL A, N, oT A, oM A) := by
  have H := h.1.H
  obtain ⟨h1, h2, h3, h4, ⟨M, h5⟩, h6, h7⟩ := h
  have g : ∀ b, b < 246 ∨ 249 < b → gI w' b = gI w b := fun b hb => f.g (by omega)
  refine ⟨?_, h2.ext (fun x hx => g x (by unfold AK at hx; omega)) (by rw [f.R]), hN, fun i hi => by rw [g 250 (by omega)]; exact h4 i hi, ⟨M, h5.ext (fun x hx => g x (by unfold AK at hx; omega)) (by rw [f.R])⟩, fun e => by rw [g 251 (by omega)]; exact h6 e, fun x hx => ?_⟩
  · obtain ⟨c1, c2, c3, c4, c5, c6⟩ := h1
    exact ⟨c1, by rw [f.R]; exact c2, c3.ext (fun b _ _ => g b (by omega)), c4.ext (fun b _ _ => g b (by omega)), f.LR H, c6⟩
  · obtain ⟨a1, a2, a3, a4, a5⟩ := h7 x hx
    exact ⟨by rw [g 251 (by omega)]; exact a1, a2.ext (fun c c1 c2 => g c (by omega)), a3.ext (fun x hx => g x (by unfold AK at hx; omega)) (by rw [f.R]), a4.ext (fun c c1 c2 => g c (by omega)), fun i hi => by rw [g 463 (by omega)]; exact a5 i hi⟩
def seeN (N : NT) (p : Nat) (n m : Int) : NT := (N.1 + 1, va_up N.2.1 N.1 p, va_up N.2.2.1 N.1 n, va_up N.2.2.2 N.1 m)
def sSee (A : AC) (x n m : Int) : An × AC := gdPA x A (if (oN A).1 < 8 ∧ 0 ≤ n ∧ n ≤ 20 ∧ 0 ≤ m ∧ m ≤ 999 then (.inl (((oN A).1 + 1 : Nat) : Int), (oQ A, oS A, oL A, seeN (oN A) x.toNat n m, oT A, oM A)) else (.inl (-1), rfS A 2))
theorem q68 {w : Wd} {N : NT} {p : Nat} {n m : Int} (H : LR w) (hN : RN w 246 N) (h8 : N.1 < 8) : ∃ w', F68 246 p n m w = rI 1 w' ∧ RN w' 246 (seeN N p n m) ∧ FrI (fun b => 246 ≤ b ∧ b ≤ 249) w w' := by
  refine ⟨pI (pI (pI (pI w 247 N.1 p) 248 N.1 n) 249 N.1 m) 246 3 (N.1 + 1 : Nat), e68 H l246 _ ?_, ⟨gI_s, fun i hi => ?_⟩, ((((FrI.p ⟨by omega, by omega⟩).pp ⟨by omega, by omega⟩).pp ⟨by omega, by omega⟩).pp ⟨by omega, by omega⟩)⟩
  · rw [hN.1, if_neg (by omega), if_pos (by omega)]
    simp (disch := omega) only [gI_r, hN.1, nn, gdi]
    rw [wrs (Nat.lt_trans h8 (by decide))]
  · show gI _ 247 i = ((va_up N.2.1 N.1 p i : Nat) : Int) ∧ gI _ 248 i = va_up N.2.2.1 N.1 n i ∧ gI _ 249 i = va_up N.2.2.2 N.1 m i
    have hi : i < N.1 + 1 := hi
    by_cases z : i = N.1
    · subst z
      rw [up_s, up_s, up_s]
      simp (disch := omega) only [gI_s, gI_r]
      exact ⟨trivial, trivial, trivial⟩
    · rw [up_c z, up_c z, up_c z]
      simp (disch := omega) only [gI_c, gI_r]
      exact hN.2 i (by omega)
theorem d150 {w : Wd} {q : Nat} {A : AC} {x n m : Int} (h : RC w q A) (hA : GA A) : AnS w (F150 0 x n m w) (sSee A x n m) := by
  have H := h.1.H
  refine AnS.of (e150 H l0) (AnS.P h fun x0 x1 => ?_)
  obtain ⟨p, rfl, hp⟩ := toN x0 x1
  rw [nn]
  have hN8 := hA.2.2.1.1
  have hrf : ∀ b, AnS w (s150_51 0 p n m b w) (.inl (-1), rfS A 2) := fun b => AnS.of (e150_51 H l0) (AnS.rf 2 h rfl (by decide) (fun _ => rfl))
  have h0 : ¬ (0 ≤ n ∧ n ≤ 20 ∧ 0 ≤ m ∧ m ≤ 999) → AnS w (s150_31 0 p n m 0 w) (if (oN A).1 < 8 ∧ 0 ≤ n ∧ n ≤ 20 ∧ 0 ≤ m ∧ m ≤ 999 then (.inl (((oN A).1 + 1 : Nat) : Int), (oQ A, oS A, oL A, seeN (oN A) p n m, oT A, oM A)) else (.inl (-1), rfS A 2)) := by
    intro hz
    rw [if_neg (fun y => hz y.2)]
    refine AnS.of (e150_31 H l0) ?_
    rw [if_pos rfl]
    exact hrf 0
  by_cases z1 : n < 0
  · rw [if_pos z1]; exact h0 (by omega)
  rw [if_neg z1]
  by_cases z2 : 20 < n
  · rw [if_pos z2]; exact h0 (by omega)
  rw [if_neg z2]
  by_cases z3 : m < 0
  · rw [if_pos z3]; exact h0 (by omega)
  rw [if_neg z3]
  by_cases z4 : 999 < m
  · rw [if_pos z4]; exact h0 (by omega)
  rw [if_neg z4]
  refine AnS.of (e150_31 H l0) ?_
  rw [if_neg (by omega)]
  by_cases z5 : (oN A).1 < 8
  · rw [if_pos ⟨z5, by omega, by omega, by omega, by omega⟩]
    obtain ⟨w', k1, k2, k3⟩ := q68 (p := p) (n := n) (m := m) H h.2.2.1 z5
    rw [show F68 (0 + 246) p n m w = _ from k1, bI_r (k3.LR H), if_pos (by omega), show gI w' (0 + 246) 3 = _ from k2.1]
    exact AnS.v (q := q) (h.seen k3 k2) (k3.K (fun x hx => by omega)) (fun i _ => by rw [k3.g (by omega)]) (k3.g (by omega))
  · rw [if_neg (fun y => z5 y.1)]
    have e : F68 246 p n m w = rI 0 w := by
      refine e68 H l246 _ ?_
      rw [h.2.2.1.1, if_neg (by omega), if_neg (by omega)]
    rw [show F68 (0 + 246) p n m w = _ from e, bI_r H, if_neg (by omega)]
    exact hrf 1
def forN (N : NT) : NT := (0, N.2)
def sForget (A : AC) : AC := (oQ A, oS A, oL A, forN (oN A), oT A, oM A)
theorem d154 {w : Wd} {q : Nat} {A : AC} (h : RC w q A) : ∃ w', F154 0 w = r0 w' ∧ RC w' q (sForget A) ∧ FrI (fun b => 246 ≤ b ∧ b ≤ 249) w w' := by
  have H := h.1.H
  have f : FrI (fun b => 246 ≤ b ∧ b ≤ 249) w (pI w 246 3 0) := FrI.p ⟨by omega, by omega⟩
  refine ⟨pI w 246 3 0, e154 H l0 _ ?_, h.seen f ⟨gI_s, fun i hi => absurd hi (Nat.not_lt_zero _)⟩, f⟩
  rw [show F67 (0 + 246) w = r0 (pI w 246 3 0) from e67 H l246 _ rfl, b0_r (f.LR H)]
/-! count, person -/
def aPerson (Q : QT) (s : ST) (x wh : Int) : An := gdP (zn Q) x (gdW 9 wh (.inl (if wh = 0 then uL s x.toNat else if wh = 1 then uW s x.toNat else if wh = 2 then shw s x.toNat else if wh = 3 then uM s x.toNat else if wh = 4 then zc Q x.toNat (uT s).toNat else if wh = 5 then uG s x.toNat else if wh = 6 then b2i (zm Q x.toNat) else if wh = 7 then b2i (uI s x.toNat) else mk (oth Q (uT s).toNat x.toNat) 8)))
theorem c119 {w : Wd} {q : Nat} {Q : QT} {s : ST} {x wh : Int} (h : CQ w q Q s) : AnC w (F119 0 x wh w) (aPerson Q s x wh) := by
  have H := h.H
  have ht := h.t
  have h8 := h.n8
  refine AnC.of (e119 H l0) (AnC.P h fun x0 x1 => AnC.W H fun w0 w1 => ?_)
  obtain ⟨p, rfl, hp⟩ := toN x0 x1
  have hp8 : p < 8 := by omega
  have hpn : p < zn Q := by omega
  obtain ⟨r1, r2, r3, r4, r5, r6, r7, r8⟩ := h.2.2.2.1
  have e7 : gI w (0 + 34) 7 = (((uT s).toNat : Nat) : Int) := by rw [show gI w (0 + 34) 7 = uT s from r8]; omega
  have c35 := q35 (t := (uT s).toNat) H (lq h.1) h.g h.2.2.1 hpn (by omega)
  rw [nn]
  by_cases z0 : wh = 0
  · rw [if_pos z0, if_pos z0, show F75 (0 + 34) p w = _ from q75 (s := 34) H l34 hp8, bI_r H, r1]; exact AnC.v FrC.rf
  rw [if_neg z0, if_neg z0]
  by_cases z1 : wh = 1
  · rw [if_pos z1, if_pos z1, show F76 (0 + 34) p w = _ from q76 (s := 34) H l34 hp8, bI_r H, r2]; exact AnC.v FrC.rf
  rw [if_neg z1, if_neg z1]
  by_cases z2 : wh = 2
  · rw [if_pos z2, if_pos z2, show F79 (0 + 34) p w = _ from q79 (a := 34) H l34 hp8 h.2.2.2.1 h.s, bI_r H]; exact AnC.v FrC.rf
  rw [if_neg z2, if_neg z2]
  by_cases z3 : wh = 3
  · rw [if_pos z3, if_pos z3, show F77 (0 + 34) p w = _ from q77 (s := 34) H l34 hp8, bI_r H, r3]; exact AnC.v FrC.rf
  rw [if_neg z3, if_neg z3]
  by_cases z4 : wh = 4
  · rw [if_pos z4, if_pos z4, h.q, e7, c35, bI_r H]; exact AnC.v FrC.rf
  rw [if_neg z4, if_neg z4]
  by_cases z5 : wh = 5
  · rw [if_pos z5, if_pos z5, show F78 (0 + 34) p w = _ from q78 (s := 34) H l34 hp8, bI_r H, r4]; exact AnC.v FrC.rf
  rw [if_neg z5, if_neg z5]
  by_cases z6 : wh = 6
  · rw [if_pos z6, if_pos z6, h.q, q34 H (lq h.1) hp8 h.2.2.1, bI_r H]
    cases zm Q p
    · rw [if_pos (show b2i false = 0 from rfl)]; exact AnC.v FrC.rf
    · rw [if_neg (by decide)]; exact AnC.v FrC.rf
  rw [if_neg z6, if_neg z6]
  by_cases z7 : wh = 7
  · rw [if_pos z7, if_pos z7, show F81 (0 + 34) p w = _ from q81 (a := 34) H l34 hp8 h.2.2.2.1, bI_r H]
    cases uI s p
    · rw [if_pos (show b2i false = 0 from rfl)]; exact AnC.v FrC.rf
    · rw [if_neg (by decide)]; exact AnC.v FrC.rf
  rw [if_neg z7, if_neg z7, h.q, h.q, e7, c35, bI_r H, e7, q36 H (lq h.1) h.g h.2.2.1 (by omega), bI_r H, mk_del (by omega) (by omega)]
  exact AnC.v FrC.rf
def cmpN (Q : QT) (s : ST) : Nat := cn (fun c => decide (2 ≤ cn (atC Q c (uT s).toNat) 8)) (zk Q)
theorem c118 {w : Wd} {q : Nat} {Q : QT} {s : ST} (h : CQ w q Q s) : F118 0 w = rI (cmpN Q s : Nat) w := by
  have H := h.H
  have ht := h.t
  have hz := h.g.2.2.2.2.2
  have e0 : gI w q 0 = zk Q := h.2.2.1.1
  have e7 : gI w (0 + 34) 7 = (((uT s).toNat : Nat) : Int) := by rw [show gI w (0 + 34) 7 = uT s from h.2.2.2.1.2.2.2.2.2.2.2]; omega
  obtain ⟨v, hv, e⟩ := lpR (F := fun k v => s118_4 0 v k w) (I := fun k v => v = (cn (fun c => decide (2 ≤ cn (atC Q c (uT s).toNat) 8)) k : Nat)) (zk Q) (fun k v hk e => by
    subst e
    refine ⟨_, fun o ho => e118_4 H l0 _ ?_, rfl⟩
    have hc := cn_le (P := fun c : Nat => decide (2 ≤ cn (atC Q c (uT s).toNat) 8)) k
    have ec : cn (fun c : Nat => decide (2 ≤ cn (atC Q c (uT s).toNat) 8)) (k + 1) = cn (fun c : Nat => decide (2 ≤ cn (atC Q c (uT s).toNat) 8)) k + (if decide (2 ≤ cn (atC Q k (uT s).toNat) 8) = true then 1 else 0) := rfl
    rw [ec] at ho
    rw [h.q, e0, if_neg (by omega), h.q, e7, q37 H (lq h.1) h.g h.2.2.1 (by omega), bI_r H, wrd (z := (k : Int) + 1) (by omega) (by omega)]
    by_cases z : 2 ≤ cn (atC Q k (uT s).toNat) 8
    · rw [if_neg (by omega), wrd (by omega) (by omega)]
      rw [if_pos (by simpa using z)] at ho
      exact ho
    · rw [if_pos (by omega)]
      rw [if_neg (by simpa using z)] at ho
      exact ho) 0 rfl
  subst e
  exact e118 H l0 _ (hv _ (e118_4 H l0 _ (by rw [h.q, e0, if_pos (Int.le_refl _)]; rfl)))
def aCount (A : AC) (m : Nat) (wh : Int) : An := gdW 15 wh (.inl (if wh = 0 then zk (oQ A) else if wh = 1 then zn (oQ A) else if wh = 2 then uT (oS A) else if wh = 3 then uC (oS A) else if wh = 4 then b2i (uP (oS A)) else if wh = 5 then mk (alv (oS A)) 8 else if wh = 6 then mk (uI (oS A)) 8 else if wh = 7 then sumN (uL (oS A)) 8 else if wh = 8 then (cmpN (oQ A) (oS A) : Nat) else if wh = 9 then ((oL A).length : Nat) else if wh = 10 then ((oN A).1 : Nat) else if wh = 11 then (m : Int) else oT A (wh - 12).toNat))
theorem c116 {w : Wd} {q m : Nat} {B : Row} {fp : Int} {A : AC} {wh : Int} (h : RC w q A) (hT : RT w m B fp) : AnC w (F116 0 wh w) (aCount A m wh) := by
  have H := h.1.H
  refine AnC.of (e116 H l0) (AnC.W H fun w0 w1 => ?_)
  obtain ⟨r1, r2, r3, r4, r5, r6, r7, r8⟩ := h.1.2.2.2.1
  by_cases zz : wh < 12
  · rw [if_pos zz]
    by_cases z0 : wh = 0
    · rw [if_pos z0, if_pos z0, h.1.q, show gI w q 0 = _ from h.1.2.2.1.1]; exact AnC.v FrC.rf
    rw [if_neg z0, if_neg z0]
    by_cases z1 : wh = 1
    · rw [if_pos z1, if_pos z1, h.1.q, h.1.n]; exact AnC.v FrC.rf
    rw [if_neg z1, if_neg z1]
    by_cases z2 : wh = 2
    · rw [if_pos z2, if_pos z2, show gI w (0 + 34) 7 = _ from r8]; exact AnC.v FrC.rf
    rw [if_neg z2, if_neg z2]
    by_cases z3 : wh = 3
    · rw [if_pos z3, if_pos z3, show gI w (0 + 34) 6 = _ from r7]; exact AnC.v FrC.rf
    rw [if_neg z3, if_neg z3]
    by_cases z4 : wh = 4
    · rw [if_pos z4, if_pos z4, show gI w (0 + 34) 5 = _ from r6]
      cases uP (oS A)
      · rw [if_pos (show b2i false = 0 from rfl)]; exact AnC.v FrC.rf
      · rw [if_neg (by decide)]; exact AnC.v FrC.rf
    rw [if_neg z4, if_neg z4]
    by_cases z5 : wh = 5
    · rw [if_pos z5, if_pos z5, show F82 (0 + 34) w = _ from q82 (a := 34) H l34 h.1.2.2.2.1, bI_r H]; exact AnC.v FrC.rf
    rw [if_neg z5, if_neg z5]
    by_cases z6 : wh = 6
    · rw [if_pos z6, if_pos z6, show gI w (0 + 34) 4 = _ from r5]; exact AnC.v FrC.rf
    rw [if_neg z6, if_neg z6]
    by_cases z7 : wh = 7
    · rw [if_pos z7, if_pos z7, show F83 (0 + 34) w = _ from q83 (a := 34) H l34 h.1.2.2.2.1 h.1.s, bI_r H]; exact AnC.v FrC.rf
    rw [if_neg z7, if_neg z7]
    by_cases z8 : wh = 8
    · rw [if_pos z8, if_pos z8, c118 h.1, bI_r H]; exact AnC.v FrC.rf
    rw [if_neg z8, if_neg z8]
    by_cases z9 : wh = 9
    · rw [if_pos z9, if_pos z9, show gI w (0 + 44) 1 = _ from h.2.1.2.1]; exact AnC.v FrC.rf
    rw [if_neg z9, if_neg z9]
    by_cases z10 : wh = 10
    · rw [if_pos z10, if_pos z10, show gI w (0 + 246) 3 = _ from h.2.2.1.1]; exact AnC.v FrC.rf
    rw [if_neg z10, if_neg z10, if_pos (by omega), hT.1]; exact AnC.v FrC.rf
  · rw [if_neg zz, if_neg (by omega), if_neg (by omega), if_neg (by omega), if_neg (by omega), if_neg (by omega), if_neg (by omega), if_neg (by omega), if_neg (by omega), if_neg (by omega), if_neg (by omega), if_neg (by omega), if_neg (by omega)]
    obtain ⟨k, hk⟩ : ∃ k : Nat, wh - 12 = k := ⟨(wh - 12).toNat, by omega⟩
    have e : F117 0 (k : Int) w = rI (oT A k) w := by
      refine e117 H l0 _ ?_
      rw [if_neg (by omega), if_neg (by omega), gdi (by omega) (by omega), nn, show gI w (0 + 250) k = _ from h.2.2.2.1 k (by omega)]
    rw [wrd (by omega) (by omega), hk, e, bI_r H, nn]
    exact AnC.v FrC.rf
