/-! the reference's questions: when to look next -/
theorem cn_sur {P : Nat → Bool} {i : Nat} : ∀ E, i < cn P E → ∃ x, x < E ∧ P x = true ∧ cn P x = i := by
  intro E
  induction E with
  | zero => intro h; exact absurd h (Nat.not_lt_zero _)
  | succ E ih =>
    intro h
    rw [cn_s] at h
    by_cases q : i < cn P E
    · obtain ⟨x, h1, h2, h3⟩ := ih q
      exact ⟨x, by omega, h2, h3⟩
    · cases z : P E
      · rw [z] at h; simp at h; omega
      · rw [z] at h; simp at h
        exact ⟨E, by omega, z, by omega⟩
/-- whether the i-th is unlike the first k -/
def nws (g : Row) (i : Nat) : Nat → Bool
  | 0 => true
  | k + 1 => nws g i k && !decide (g k = g i)
theorem nws_iff {g : Row} {i : Nat} : ∀ k, nws g i k = true ↔ ∀ j, j < k → g j ≠ g i := by
  intro k
  induction k with
  | zero => exact ⟨fun _ j hj => absurd hj (Nat.not_lt_zero _), fun _ => rfl⟩
  | succ k ih =>
    show (nws g i k && !decide (g k = g i)) = true ↔ _
    rw [Bool.and_eq_true, ih]
    constructor
    · rintro ⟨h1, h2⟩ j hj
      by_cases e : j = k
      · subst e; simpa using h2
      · exact h1 j (by omega)
    · intro h
      exact ⟨fun j hj => h j (by omega), by simpa using h k (by omega)⟩
theorem uq_cn {P : Nat → Bool} {f g : Row} : ∀ E, (∀ x, x < E → P x = true → g (cn P x) = f x) → cn (fun i => nws g i i) (cn P E) = cn (fun e => P e && !(List.range e).any (fun a => P a && decide (f a = f e))) E := by
  intro E
  induction E with
  | zero => intro _; rfl
  | succ E ih =>
    intro h
    have ih' := ih (fun x hx => h x (by omega))
    rw [cn_s, cn_s]
    cases z : P E
    · rw [if_neg (by decide), Nat.add_zero, if_neg (by simp), Nat.add_zero]
      exact ih'
    · rw [if_pos rfl, cn_s, ih']
      congr 1
      have e : nws g (cn P E) (cn P E) = (true && !(List.range E).any (fun a => P a && decide (f a = f E))) := by
        apply Bool.eq_iff_iff.mpr
        rw [nws_iff]
        simp only [Bool.true_and, Bool.not_eq_true', List.any_eq_false, List.mem_range, Bool.and_eq_true, decide_eq_true_eq, not_and]
        constructor
        · intro hk x hx hP he
          have := hk (cn P x) (cn_lt hx hP)
          rw [h x (by omega) hP, h E (by omega) z] at this
          exact this he
        · intro hk j hj
          obtain ⟨x, h1, h2, h3⟩ := cn_sur E hj
          have := hk x h1 h2
          rw [← h3, h x (by omega) h2, h E (by omega) z]
          exact this
      rw [e]
theorem wr8 {a b : Nat} (ha : a < 1000) (hb : b < 8) : wr (wr (8 * (a : Int)) + (b : Int)) = ((8 * a + b : Nat) : Int) := by rw [wrd (z := 8 * (a : Int)) (by omega) (by omega), wrd (by omega) (by omega)]; omega
theorem td100 {x : Nat} (hx : x < 1000) : wr (Int.tdiv ((100 * (x / 60) + x % 60 : Nat) : Int) 100) = ((x / 60 : Nat) : Int) := by
  rw [Int.tdiv_eq_ediv_of_nonneg (by omega), wrd (by omega) (by omega)]; omega
theorem tm100 {x : Nat} : Int.tmod ((100 * (x / 60) + x % 60 : Nat) : Int) 100 = ((x % 60 : Nat) : Int) := by
  rw [Int.tmod_eq_emod_of_nonneg (by omega)]; omega
theorem y265i {u : Wd} {r i C : Nat} {m : Int} {g : Row} {o : Out} (H : LR u) (h6 : ∀ j, j < C → gI u 506 (8 * j + r) = g j) (hr : r < 8) (hi : i < C) (hC : C ≤ 480) (hm : 0 ≤ m ∧ m ≤ 1000)
    (ho : s265_4 473 r (m + (if nws g i i = true then 1 else 0)) ((i + 1 : Nat) : Int) u = some o) : s265_18 473 r m i 1 0 u = some o := by
  rcases lpX (F := fun k (_ : Unit) => s265_18 473 r m i 1 k u) (I := fun k _ => nws g i k = true) (Q := fun o' => o' = o) i (fun k _ hk e => by
    have es : nws g i (k + 1) = (nws g i k && !decide (g k = g i)) := rfl
    have e9 : ∀ {o' : Out}, (if g k = g i then s265_18 473 r m i 0 ((k + 1 : Nat) : Int) u else s265_18 473 r m i 1 ((k + 1 : Nat) : Int) u) = some o' → s265_18 473 r m i 1 k u = some o' := by
      intro o' ho'
      refine e265_18 H l473 _ ?_
      rw [if_neg (by omega), if_neg (by omega), wr8 (a := k) (b := r) (by omega) hr, wr8 (a := i) (b := r) (by omega) hr, gdi (by omega) (by omega), gdi (by omega) (by omega), nn, nn, show (473 + 33 : Nat) = 506 from rfl, h6 k (by omega), h6 i (by omega), wrs (by omega)]
      exact ho'
    by_cases z : g k = g i
    · have hn : ¬ nws g i i = true := fun q => (nws_iff i).mp q k hk z
      rw [if_neg hn] at ho
      refine Or.inr ⟨o, e9 ?_, rfl⟩
      rw [if_pos z]
      refine e265_18 H l473 _ ?_
      by_cases q : (i : Int) ≤ ((k + 1 : Nat) : Int)
      · rw [if_pos q, if_pos rfl, wrd (by omega) (by omega), wrs (by omega)]; exact ho
      · rw [if_neg q, if_pos rfl, if_pos rfl, wrd (by omega) (by omega), wrs (by omega)]; exact ho
    · refine Or.inl ⟨(), fun o' ho' => e9 ?_, by rw [es, e, decide_eq_false z]; rfl⟩
      rw [if_neg z]; exact ho') () rfl with ⟨_, hu, e⟩ | ⟨o', ho', e⟩
  · refine hu _ (e265_18 H l473 _ ?_)
    rw [if_pos e] at ho
    rw [if_pos (Int.le_refl _), if_neg (by omega), wrd (by omega) (by omega), wrs (by omega)]
    exact ho
  · rw [← e]; exact ho'
theorem y265 {u : Wd} {r C : Nat} {g : Row} (H : LR u) (h5 : gI u 473 55 = C) (h6 : ∀ j, j < C → gI u 506 (8 * j + r) = g j) (hr : r < 8) (hC : C ≤ 480) : F265 473 r u = rI (cn (fun i => nws g i i) C : Nat) u := by
  obtain ⟨m, hm, e⟩ := lpR (F := fun i m => s265_4 473 r m i u) (I := fun i m => m = ((cn (fun i => nws g i i) i : Nat) : Int)) C (fun i m hi e => by
    subst e
    have hc := cn_le (P := fun i => nws g i i) i
    refine ⟨_, fun o ho => e265_4 H l473 _ ?_, rfl⟩
    rw [h5, if_neg (by omega)]
    refine y265i H h6 hr hi hC (by omega) ?_
    rw [cn_s] at ho
    by_cases z : nws g i i = true
    · rw [if_pos z] at ho
      rw [if_pos z]
      exact ho
    · rw [if_neg z] at ho
      rw [if_neg z, Int.add_zero]
      exact ho) 0 rfl
  subst e
  refine e265 H l473 _ (hm _ (e265_4 H l473 _ ?_))
  rw [h5, if_pos (Int.le_refl _)]
/-- so many minutes are left with each, by those that fit -/
def RLf (u : Wd) (Q : QT) (N : NT) (s : ST) (i : Nat) : Prop := ∀ x, x < 60 * zn Q → ftE Q N s x = true → cn (ftE Q N s) x < i → ∀ r, r < 8 → gI u 506 (8 * cn (ftE Q N s) x + r) = vE Q s x r
theorem y266i {w1 u : Wd} {Q : QT} {s : ST} {N : NT} {x i : Nat} {wh : Int} (h1 : MQy w1 Q s) (hu : MQy u Q s) (hR : Rn w1 s u) (hF : RFt u Q N s (60 * zn Q)) (hx : x < 60 * zn Q) (hP : ftE Q N s x = true) (hi : cn (ftE Q N s) x = i) (hL : RLf u Q N s i) (ht : uT s ≤ 999) :
    ∃ u', Rf (s266_35 473 wh ((i + 1 : Nat) : Int) u') (s266_35 473 wh i u) ∧ MQy u' Q s ∧ Rn w1 s u' ∧ RFt u' Q N s (60 * zn Q) ∧ RLf u' Q N s (i + 1) := by
  have h8 := hu.1.n8
  have hT := hu.1.t
  have hlt := cn_lt (P := ftE Q N s) hx hP
  have hle := cn_le (P := ftE Q N s) (60 * zn Q)
  have e5 := hF.2 x hx hP
  rw [hi] at e5 hlt
  have hs := hu.sW (p := x / 60) (y := ((x % 60 : Nat) : Int)) (by omega)
  have f1 : FrI (fun b => b = 491) u (pI u 491 (x / 60) ((x % 60 : Nat) : Int)) := FrI.p rfl
  have R1 := hR.I f1 (fun b hb => by unfold ZS; omega)
  have hTs : uT (sW s (x / 60) ((x % 60 : Nat) : Int)) = uT s := rfl
  obtain ⟨u2, b1, b2, b3, -⟩ := y223 (K := 5) hs.1 hs.2 (by omega)
  have R2 := R1.J b3
  obtain ⟨u3, hv, i1, i2⟩ := lpR (F := fun k v => s266_73 473 wh i k v) (I := fun k v => FrI (fun b => b = 506) u2 v ∧ ∀ j, gI v 506 j = if 8 * i ≤ j ∧ j < 8 * i + k then vE Q s x (j - 8 * i) else gI u2 506 j) 8 (fun k v hk e => by
    obtain ⟨ef, e1⟩ := e
    have HV := ef.LR b2.H
    have eL : gI v (473 + 16) k = vE Q s x k := by rw [show gI v (473 + 16) = gI u2 489 from ef.g (by decide), b2.2.1.1]; rfl
    refine ⟨pI v 506 (8 * i + k) (vE Q s x k), fun o ho => e266_73 HV l473 _ ?_, ef.pp rfl, fun j => ?_⟩
    · rw [if_neg (by omega), gdi (by omega) (by omega), wr8 (a := i) (b := k) (by omega) hk, gdi (by omega) (by omega), nn, nn, eL, wrs (by omega)]
      exact ho
    · by_cases z : j = 8 * i + k
      · subst z
        rw [gI_s, if_pos (by omega), show 8 * i + k - 8 * i = k by omega]
      · rw [gI_c z, e1 j]
        by_cases y : 8 * i ≤ j ∧ j < 8 * i + k
        · rw [if_pos y, if_pos (by omega)]
        · rw [if_neg y, if_neg (by omega)]) u2 ⟨FrI.rf, fun j => by rw [if_neg (by omega)]⟩
  have R3 := R2.I i1 (fun b hb => by unfold ZS; omega)
  have b3' := b2.fr i1 (fun b hb => by omega)
  have e8 : E8 (goN Q (sW s (x / 60) ((x % 60 : Nat) : Int)) 5) s := (E8_goN hs.1.s h8 5 (by omega)).tr (fun p hp => ⟨rfl, rfl, up_c (by omega)⟩)
  obtain ⟨u4, c1, c2, c3, c4, c5, c6, c7⟩ := un0 h1 b3' R3 e8 (uM_goN 5)
  have g505 : gI u4 505 = gI u 505 := by rw [c7 505 (by decide) (by decide), i1.g (by decide), b3.1.g (by unfold AMr; omega), gI_r (by decide)]
  have g55 : gI u4 473 55 = gI u 473 55 := by rw [c6 55 (by omega), i1.g (by decide), b3.2 55 (by omega) (by omega), gI_r (by decide)]
  have g506 : ∀ j, gI u4 506 j = if 8 * i ≤ j ∧ j < 8 * i + 8 then vE Q s x (j - 8 * i) else gI u 506 j := fun j => by rw [c7 506 (by decide) (by decide), i2 j, b3.1.g (by unfold AMr; omega), gI_r (by decide)]
  have g497 : gI u4 497 = gI u3 497 := c7 497 (by decide) (by decide)
  refine ⟨u4, fun o ho => e266_35 hu.H l473 _ ?_, c3, ⟨R3.1.ext g497, c4, c3.2, c5⟩, ?_, ?_⟩
  · rw [hF.1, if_neg (by omega), gdi (by omega) (by omega), gdi (by omega) (by omega), nn, show gI u (473 + 32) i = _ from e5, td100 (by omega), tm100, gdi (by omega) (by omega), nn, show (473 + 18 : Nat) = 491 from rfl, show F223 473 5 (pI u 491 (x / 60) ((x % 60 : Nat) : Int)) = r0 u2 from b1, b0_r b2.H]
    refine hv _ (e266_73 b3'.H l473 _ ?_)
    rw [if_pos (by omega), show (473 + 24 : Nat) = 497 from rfl, c1, b0_r c2, wrs (by omega)]
    exact ho
  · unfold RFt
    rw [g505, g55]
    exact hF
  · intro y hy hPy hc r hr
    by_cases z : cn (ftE Q N s) y = i
    · have : y = x := by
        rcases Nat.lt_trichotomy y x with q | q | q
        · have := cn_lt q hPy; omega
        · exact q
        · have := cn_lt q hP; omega
      subst this
      rw [z, g506, if_pos (by omega), show 8 * i + r - 8 * i = r by omega]
    · rw [g506, if_neg (by omega)]
      exact hL y hy hPy (by omega) r hr
theorem r266 {w : Wd} {Q : QT} {s : ST} {N : NT} {wh : Int} (h : MQy w Q s) (hN : RNm w N) (hg : GN (zn Q) N) (ht : uT s ≤ 999) : AnM Q s 2 w (F266 473 wh w) (aLook Q s N wh) := by
  refine AnM.of (e266 h.H l473) ?_
  obtain ⟨h0, f0, z0⟩ := st0 h
  revert h0 f0 z0
  generalize pI w 473 4 0 = w0
  intro h0 f0 z0
  have hE : AnM Q s 2 w (s266_14 473 wh w0) (.inr 0) := AnM.of (e266_14 h0.H l473) (AnM.f h0 f0 rfl)
  refine AnM.W3 hE fun q0 q1 => ?_
  clear hE
  have h8 := h.1.n8
  obtain ⟨w1, a1, a2, a3, a4, a5⟩ := y263 h0 (hN.S f0) hg (by omega)
  obtain ⟨v, b1, b2, b3, b4, b5⟩ := pk0 a2
  have hle := cn_le (P := ftE Q N s) (60 * zn Q)
  have F0 : RFt v Q N s (60 * zn Q) := by
    unfold RFt
    rw [b5 473 (by decide), b5 505 (by decide)]
    exact a5
  rw [a1, b0_r a2.H, show (473 + 24 : Nat) = 497 from rfl, b1, b0_r b2]
  obtain ⟨u, hu, i1, i2, i3, i4⟩ := lpR (F := fun i u => s266_35 473 wh i u) (I := fun i u => MQy u Q s ∧ Rn w1 s u ∧ RFt u Q N s (60 * zn Q) ∧ RLf u Q N s i) (cn (ftE Q N s) (60 * zn Q)) (fun i u hi e => by
    obtain ⟨e1, e2, e3, e4⟩ := e
    obtain ⟨x, x1, x2, x3⟩ := cn_sur _ hi
    obtain ⟨u', l1, l2⟩ := y266i (wh := wh) a2 e1 e2 e3 x1 x2 x3 e4 ht
    exact ⟨u', l1, l2⟩) v ⟨⟨b3, b4.f⟩, b4, F0, fun x hx hP hc => absurd hc (Nat.not_lt_zero _)⟩
  have e65 : ∀ r, r < zn Q → F265 473 r u = rI ((unq Q N s (60 * zn Q) r : Nat) : Int) u := by
    intro r hr
    have e := uq_cn (P := ftE Q N s) (f := fun e => vE Q s e r) (g := fun j => gI u 506 (8 * j + r)) (60 * zn Q) (fun x hx hP => i4 x hx hP (cn_lt hx hP) r (by omega))
    have e2 : unq Q N s (60 * zn Q) r = cn (fun e => ftE Q N s e && !(List.range e).any (fun a => ftE Q N s a && decide (vE Q s a r = vE Q s e r))) (60 * zn Q) := rfl
    rw [e2, ← e]
    exact y265 (g := fun j => gI u 506 (8 * j + r)) i1.H i3.1 (fun j hj => rfl) (by omega) (by omega)
  have fu : FrS w u := (f0.tr a3).tr i2.2.1
  have zu : gI u 473 4 = 0 := i2.2.2.2.trans (a4.trans z0)
  refine AnM.of hu (AnM.of (e266_35 i1.H l473) ?_)
  rw [i3.1, if_pos (Int.le_refl _)]
  obtain ⟨a, ha, e⟩ := lpR (F := fun k (a : Int × Int) => s266_124 473 wh a.1 a.2 k u) (I := fun k a => a = lkN (unq Q N s (60 * zn Q)) k) (zn Q) (fun k a hk e => by
    subst e
    refine ⟨_, fun o ho => e266_124 i1.H l473 _ ?_, rfl⟩
    have eL : lkN (unq Q N s (60 * zn Q)) (k + 1) = lkS (unq Q N s (60 * zn Q)) k (lkN (unq Q N s (60 * zn Q)) k) := rfl
    rw [eL] at ho
    unfold lkS at ho
    rw [gdi (by omega) (by omega), show gI u (473 + 4) 1 = zn Q from i1.1.n, if_neg (by omega), e65 k hk, bI_r i1.H, wrs (by omega)]
    generalize lkN (unq Q N s (60 * zn Q)) k = A at *
    by_cases z : A.2 < ((unq Q N s (60 * zn Q) k : Nat) : Int)
    · rw [if_pos z]
      rw [if_pos z] at ho
      exact ho
    · rw [if_neg z]
      rw [if_neg z] at ho
      exact ho) (-1, 0) rfl
  subst e
  refine AnM.of ha (AnM.of (e266_124 i1.H l473) ?_)
  rw [gdi (by omega) (by omega), show gI u (473 + 4) 1 = zn Q from i1.1.n, if_pos (Int.le_refl _)]
  by_cases z : wh = 0
  · rw [if_neg (by omega), if_pos z]; exact AnM.v i1 fu zu
  · rw [if_pos z, if_neg z]; exact AnM.v i1 fu zu
