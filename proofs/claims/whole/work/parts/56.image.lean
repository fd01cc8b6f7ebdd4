/-! the image -/
theorem cp3 {w : Wd} {a d : Nat} : cpW w a d 0 0 3 3 = sI w d (gI w a) := rfl
def sImage (A : AC) : AC := (oQ A, oS A, oL A, oN A, oT A, some (oS A, oL A, oN A, oT A))
theorem l459 : (lay 459).1 = 7 := by rfl
theorem l252 : (lay 252).1 = 8 := by rfl
theorem l251 : (lay 251).1 = 2 := by rfl
/-- the image's rows -/
def AI (x : Nat) : Prop := 251 ≤ x ∧ x ≤ 463
theorem RC.img {w w' : Wd} {q : Nat} {A : AC} {x : ST × List ST × NT × Row} (h : RC w q A) (f : FrA AI (fun x => x = 258) w w') (H' : LR w') (h1 : gI w' 251 4 = 1) (h2 : RS w' 252 x.1) (h3 : RK w' 257 x.2.1) (h4 : RN w' 459 x.2.2.1) (h5 : ∀ i, i < 3 → gI w' 463 i = x.2.2.2 i) : RC w' q (oQ A, oS A, oL A, oN A, oT A, some x) := by
  obtain ⟨a1, a2, a3, a4, -, -, -⟩ := h
  have g : ∀ b, b < 251 → gI w' b = gI w b := fun b hb => f.1 b (by unfold AI; omega)
  have gr : ∀ b, b ≠ 258 → gR w' b = gR w b := fun b hb => f.2.1 b hb
  refine ⟨?_, a2.ext (fun x hx => g x (by unfold AK at hx; omega)) (gr _ (by omega)), a3.ext (fun a _ _ => g a (by omega)), fun i hi => by rw [g 250 (by omega)]; exact a4 i hi, ⟨_, h3⟩, fun e => (by cases e), fun y hy => ?_⟩
  · obtain ⟨c1, c2, c3, c4, c5, c6⟩ := a1
    exact ⟨c1, by rw [gr 0 (by omega)]; exact c2, c3.ext (fun b _ _ => g b (by omega)), c4.ext (fun b _ _ => g b (by omega)), H', c6⟩
  · cases hy
    exact ⟨h1, h2, h3, h4, h5⟩
theorem d163 {w : Wd} {q : Nat} {A : AC} (h : RC w q A) : ∃ w', F163 0 w = r0 w' ∧ RC w' q (sImage A) ∧ FrA AI (fun x => x = 258) w w' := by
  have H := h.1.H
  obtain ⟨M, hM⟩ := h.2.2.2.2.1
  have hB : ∀ b, b = 258 → (lay b).1 = 23 := fun b hb => by rw [hb]; rfl
  obtain ⟨w1, k1, k2, k3⟩ := q74 (a := 252) (b := 34) H l252 l34 (by omega) h.1.2.2.2.1
  have H1 := k3.LR H
  have g1 : ∀ b, b < 252 ∨ 256 < b → gI w1 b = gI w b := fun b hb => k3.g (by unfold AS; omega)
  obtain ⟨w2, l1, l2, l3⟩ := q6 (b := 257) (c := 44) H1 (Or.inr rfl) (Or.inl rfl) (by omega) (hM.ext (fun x hx => g1 x (by unfold AK at hx; omega)) (by rw [k3.R])) (h.2.1.ext (fun x hx => g1 x (by unfold AK at hx; omega)) (by rw [k3.R]))
  have H2 : LR w2 := l3.LR (fun b hb => by rw [hb]; rfl) H1
  have g2 : ∀ b, b < 257 ∨ 459 ≤ b → gI w2 b = gI w1 b := fun b hb => l3.1 b (by unfold AK; omega)
  obtain ⟨w3, m1, m2, m3⟩ := q71 (b := 459) (c := 246) H2 l459 l246 (by omega) (h.2.2.1.ext (fun a _ _ => by rw [g2 a (by omega), g1 a (by omega)]))
  have H3 := m3.LR H2
  have g3 : ∀ b, b < 459 ∨ 462 < b → gI w3 b = gI w2 b := fun b hb => m3.g (by omega)
  have f : FrA AI (fun x => x = 258) w (pI (sI w3 463 (gI w3 250)) 251 4 1) := ((k3.A _).wk (fun x hx => by unfold AS at hx; unfold AI; omega) (fun x hx => hx)).tr ((l3.wk (fun x hx => by unfold AK at hx; unfold AI; omega) (fun x hx => hx)).tr (((m3.wk (fun x hx => by unfold AI; omega)).tr ((FrI.s (by unfold AI; omega)).pp (by unfold AI; omega))).A _))
  have H4 : LR (pI (sI w3 463 (gI w3 250)) 251 4 1) := H3
  refine ⟨pI (sI w3 463 (gI w3 250)) 251 4 1, e163 H l0 _ ?_, h.img (x := (oS A, oL A, oN A, oT A)) f H4 gI_s ?_ ?_ ?_ (fun i hi => ?_), f⟩
  · rw [show F74 (0 + 251 + 1) (0 + 34) w = r0 w1 from k1, b0_r H1, show F6 (0 + 251 + 6) (0 + 44) w1 = r0 w2 from l1, b0_r H2, show F71 (0 + 251 + 208) (0 + 246) w2 = r0 w3 from m1, b0_r H3]
    rfl
  · exact k2.ext (fun c c1 c2 => by rw [gI_r (by omega), gI_Sr (by omega), g3 c (by omega), g2 c (by omega)])
  · exact l2.ext (fun x hx => by unfold AK at hx; rw [gI_r (by omega), gI_Sr (by omega), g3 x (by omega)]) (by rw [gR_pI, gR_sI, m3.R])
  · exact m2.ext (fun a a1 a2 => by rw [gI_r (by omega), gI_Sr (by omega)])
  · rw [gI_r (by omega), gI_S, g3 250 (by omega), g2 250 (by omega), g1 250 (by omega)]; exact h.2.2.2.1 i hi
def sRestore (A : AC) : An × AC := match oM A with
  | none => (.inl 0, A)
  | some x => (.inl 1, (oQ A, x.1, x.2.1, x.2.2.1, x.2.2.2, oM A))
theorem d164 {w : Wd} {q : Nat} {A : AC} (h : RC w q A) (hA : GA A) : AnS w (F164 0 w) (sRestore A) := by
  have H := h.1.H
  refine AnS.of (e164 H l0) ?_
  unfold sRestore
  cases hm : oM A with
  | none =>
    rw [show gI w (0 + 251) 4 = 0 from h.2.2.2.2.2.1 hm, if_neg (by omega)]
    exact AnS.v h FrC.rf.K (fun _ _ => rfl) rfl
  | some x =>
    obtain ⟨i1, i2, i3, i4, i5⟩ := h.2.2.2.2.2.2 x hm
    obtain ⟨j1, j2, j3, j4⟩ := hA.2.2.2.2 x hm
    rw [show gI w (0 + 251) 4 = 1 from i1, if_pos (by omega)]
    obtain ⟨w1, k1, k2, k3⟩ := q74 (a := 34) (b := 252) H l34 l252 (by omega) i2
    have H1 := k3.LR H
    have g1 : ∀ b, b < 34 ∨ 38 < b → gI w1 b = gI w b := fun b hb => k3.g (by unfold AS; omega)
    obtain ⟨w2, l1, l2, l3⟩ := q6 (b := 44) (c := 257) H1 (Or.inl rfl) (Or.inr rfl) (by omega) (h.2.1.ext (fun x hx => g1 x (by unfold AK at hx; omega)) (by rw [k3.R])) (i3.ext (fun x hx => g1 x (by unfold AK at hx; omega)) (by rw [k3.R]))
    have H2 : LR w2 := l3.LR (fun b hb => by rw [hb]; rfl) H1
    have g2 : ∀ b, b < 44 ∨ 246 ≤ b → gI w2 b = gI w1 b := fun b hb => l3.1 b (by unfold AK; omega)
    obtain ⟨w3, m1, m2, m3⟩ := q71 (b := 246) (c := 459) H2 l246 l459 (by omega) (i4.ext (fun a _ _ => by rw [g2 a (by omega), g1 a (by omega)]))
    have H3 := m3.LR H2
    have g3 : ∀ b, b < 246 ∨ 249 < b → gI w3 b = gI w2 b := fun b hb => m3.g (by omega)
    have H4 : LR (sI w3 250 (gI w3 463)) := H3
    have f : FrA (fun b => 34 ≤ b ∧ b ≤ 250) (fun x => x = 45) w (sI w3 250 (gI w3 463)) := ((k3.A _).wk (fun x hx => by unfold AS at hx; omega) (fun x hx => hx)).tr ((l3.wk (fun x hx => by unfold AK at hx; omega) (fun x hx => hx)).tr (((m3.wk (fun x hx => by omega)).tr (FrI.s (by omega))).A _))
    have gg : ∀ b, b < 34 ∨ 250 < b → gI (sI w3 250 (gI w3 463)) b = gI w b := fun b hb => f.1 b (by omega)
    have gr : ∀ b, b ≠ 45 → gR (sI w3 250 (gI w3 463)) b = gR w b := fun b hb => f.2.1 b hb
    rw [show F74 (0 + 34) (0 + 251 + 1) w = r0 w1 from k1, b0_r H1, show F6 (0 + 44) (0 + 251 + 6) w1 = r0 w2 from l1, b0_r H2, show F71 (0 + 246) (0 + 251 + 208) w2 = r0 w3 from m1, b0_r H3]
    show AnS w (rI 1 (sI w3 250 (gI w3 463))) _
    refine AnS.v (q := q) ⟨?_, l2.ext (fun x hx => by unfold AK at hx; rw [gI_Sr (by omega), g3 x (by omega)]) (by rw [gR_sI, m3.R]), m2.ext (fun a a1 a2 => by rw [gI_Sr (by omega)]), fun i hi => ?_, ⟨_, i3.ext (fun x hx => gg x (by unfold AK at hx; omega)) (gr _ (by omega))⟩, fun e => (by have e2 : some x = none := e; cases e2), fun y hy => ?_⟩ (f.K (fun x hx => by omega) (fun x hx => by omega)) (fun i _ => by rw [gg 0 (by omega)]) (gg 1 (by omega))
    · obtain ⟨c1, c2, c3, c4, c5, c6, c7, c8⟩ := h.1
      refine ⟨c1, by rw [gr 0 (by omega)]; exact c2, c3.ext (fun b _ _ => gg b (by omega)), ?_, H4, c6, j1.1, j1.2.1⟩
      exact k2.ext (fun c c1 c2 => by rw [gI_Sr (by omega), g3 c (by omega), g2 c (by omega)])
    · show gI (sI w3 250 (gI w3 463)) 250 i = x.2.2.2 i
      rw [gI_S, g3 463 (by omega), g2 463 (by omega), g1 463 (by omega)]; exact i5 i hi
    · have hy' : some x = some y := hy
      cases hy'
      exact ⟨by rw [gg 251 (by omega)]; exact i1, i2.ext (fun c c1 c2 => gg c (by omega)), i3.ext (fun x hx => gg x (by unfold AK at hx; omega)) (gr _ (by omega)), i4.ext (fun c c1 c2 => gg c (by omega)), fun i hi => by rw [gg 463 (by omega)]; exact i5 i hi⟩
/-! all stays good -/
theorem GU.st {Q : QT} {m : Row} {u v : ST} (h : GU Q m u) (hG : GS (zn Q) v) (hT : uT v ≤ 999) (hM : uM v = uM u) (hI : ∀ p, zn Q ≤ p → uI v p = false) : GU Q m v := ⟨hG, hT, hM.trans h.2.2.1, hI⟩
theorem kpL_mem {L : List ST} {s u : ST} (h : u ∈ kpL L s) : u ∈ L ∨ u = s := by
  unfold kpL at h
  rcases List.mem_append.mp h with h | h
  · split at h
    · exact Or.inl (List.mem_of_mem_drop h)
    · exact Or.inl h
  · exact Or.inr (by simpa using h)
theorem GA_now {A : AC} {u : ST} (h : GA A) (hu : GU (oQ A) (uM (oS A)) u) : GA (nowA A u) := by
  have e : uM u = uM (oS A) := hu.2.2.1
  obtain ⟨h1, h2, h3, h4, h5⟩ := h
  refine ⟨?_, fun v hv => ?_, h3, h4, fun x hx => ?_⟩
  · show GU (oQ A) (uM u) u; rw [e]; exact hu
  · show GU (oQ A) (uM u) v
    rw [e]
    rcases kpL_mem (show v ∈ kpL (oL A) (oS A) from hv) with q | q
    · exact h2 v q
    · rw [q]; exact h1
  · show GU (oQ A) (uM u) x.1 ∧ (∀ v ∈ x.2.1, GU (oQ A) (uM u) v) ∧ _
    rw [e]; exact h5 x hx
