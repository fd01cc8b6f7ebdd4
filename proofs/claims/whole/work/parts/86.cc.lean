/-! the class reads rules -/
theorem l12 : (lay 12).1 = 5 := by rfl
def rho (t : Nat) (S : Bool) : Nat := if S then t + 8 else t + 6
def tOK (t : Nat) : Prop := t = 2 ∨ t = 17
theorem lrho {t : Nat} {S : Bool} (h : tOK t) : (lay (rho t S)).1 = 6 := by
  rcases h with rfl | rfl <;> cases S <;> rfl
/-- the reader stands so -/
def RX (T : Row) (n M t : Nat) (S : Bool) (w : Wd) (b : Nat) (x : PZ) : Prop := LR w ∧ TG w T n M ∧ (gR w 12 1 = some t ∧ gR w 12 2 = some (rho t S)) ∧ gI w 12 5 = x.1 ∧ gI w 12 3 = x.2.1 ∧ gI w 12 4 = (if x.1 = 0 then KT T n x.2.1 else -1) ∧ x.2.1 ≤ M ∧
  (x.1 = 0 → x.2.2.1 + b ≤ x.2.1 ∧ gI w (rho t S) 1 = x.2.2.1 ∧ ∀ i, i < x.2.2.1 → gI w (rho t S + 1) i = x.2.2.2 i)
/-- what it may change -/
def FrR (t : Nat) (S : Bool) (w w' : Wd) : Prop := FrI (fun c => c = 12 ∨ c = rho t S ∨ c = rho t S + 1) w w' ∧ ∀ i, i ≠ 3 → i ≠ 4 → i ≠ 5 → gI w' 12 i = gI w 12 i
theorem FrR.rf {t : Nat} {S : Bool} {w : Wd} : FrR t S w w := ⟨FrI.rf, fun _ _ _ _ => rfl⟩
theorem FrR.tr {t : Nat} {S : Bool} {a b c : Wd} (h : FrR t S a b) (h' : FrR t S b c) : FrR t S a c := ⟨h.1.tr h'.1, fun i x y z => (h'.2 i x y z).trans (h.2 i x y z)⟩
section RX
variable {T : Row} {n M t : Nat} {S : Bool} {w : Wd} {b : Nat} {x : PZ}
theorem rho_b (ht : tOK t) : rho t S ≠ 12 ∧ rho t S + 1 ≠ 12 ∧ (rho t S + 1 < 13 ∨ 16 < rho t S) := by
  unfold rho
  rcases ht with rfl | rfl <;> cases S <;> simp
theorem RX.wk {c : Nat} (h : RX T n M t S w b x) (hc : c ≤ b) : RX T n M t S w c x := by
  obtain ⟨h1, h2, h3, h4, h5, h6, h7, h8⟩ := h
  exact ⟨h1, h2, h3, h4, h5, h6, h7, fun z => ⟨by have := (h8 z).1; omega, (h8 z).2⟩⟩
theorem RX.bad {c : Nat} (h : RX T n M t S w b x) (hx : x.1 ≠ 0) : RX T n M t S w c x := by
  obtain ⟨h1, h2, h3, h4, h5, h6, h7, h8⟩ := h
  exact ⟨h1, h2, h3, h4, h5, h6, h7, fun z => absurd z hx⟩
theorem TG.ext {w' : Wd} (h : TG w T n M) (e : ∀ b, 13 ≤ b → b ≤ 16 → gI w' b = gI w b) : TG w' T n M := by
  obtain ⟨h1, h2, h3⟩ := h
  refine ⟨by rw [e 13 (by decide) (by decide)]; exact h1, fun i hi => ?_, h3⟩
  rw [e 14 (by decide) (by decide), e 15 (by decide) (by decide), e 16 (by decide) (by decide)]
  exact h2 i hi
theorem q103 {i : Nat} (H : LR w) (h : TG w T n M) (hM : M ≤ 700) (hi : i ≤ M) : F103 13 i w = rI (KT T n i) w := by
  refine e103 H l13 _ ?_
  rw [if_neg (by omega), h.1, if_neg (by omega), if_neg (by omega), gdi (by omega) (by omega), nn, (h.2.1 i (by omega)).1]
theorem q104 {i : Nat} (H : LR w) (h : TG w T n M) (hM : M ≤ 700) (hi : i ≤ M) : F104 13 i w = rI (sT T n i) w := by
  refine e104 H l13 _ ?_
  rw [if_neg (by omega), h.1, if_neg (by omega), if_neg (by omega), gdi (by omega) (by omega), nn, (h.2.1 i (by omega)).2.1]
theorem q105 {i : Nat} (H : LR w) (h : TG w T n M) (hM : M ≤ 700) (hi : i ≤ M) : F105 13 i w = rI (gI w 16 i) w := by
  refine e105 H l13 _ ?_
  rw [if_neg (by omega), h.1, if_neg (by omega), if_neg (by omega), gdi (by omega) (by omega), nn]
/-- kinds -/
def kd (T : Row) (n : Nat) (x : PZ) : Int := if x.1 = 0 then KT T n x.2.1 else -1
theorem RX.k (h : RX T n M t S w b x) : gI w 12 4 = kd T n x := h.2.2.2.2.2.1
theorem kd_0 (h : x.1 = 0) : kd T n x = KT T n x.2.1 := if_pos h
theorem kd_n (h : x.1 ≠ 0) : kd T n x = -1 := if_neg h
theorem ks_kd {c : Int} (hc : c ≠ -1) : ks (KT T n) x c = true ↔ kd T n x = c := by
  unfold ks kd
  by_cases h : x.1 = 0
  · rw [if_pos h, decide_eq_true h]; simp
  · rw [if_neg h, decide_eq_false h]; simp; omega
theorem q41 {c : Int} (h : RX T n M t S w b x) (hc : c ≠ 0) (ht : tOK t) : ∃ w', F41 12 c w = r0 w' ∧ RX T n M t S w' b (pFl c x) ∧ FrR t S w w' := by
  obtain ⟨h1, h2, h3, h4, h5, h6, h7, h8⟩ := h
  by_cases z : x.1 = 0
  · rw [pFl_0 z]
    refine ⟨pI (pI w 12 5 c) 12 4 (-1), e41 h1 l12 _ (by rw [h4, z, if_neg (by decide)]), ⟨h1, h2.ext (fun b b1 b2 => by rw [gI_r (by omega), gI_r (by omega)]), h3, ?_, ?_, ?_, h7, fun y => absurd y hc⟩, (FrI.p (Or.inl rfl)).pp (Or.inl rfl), fun i i3 i4 i5 => by rw [gI_c i4, gI_c i5]⟩
    · rw [gI_c (by decide), gI_s]
    · rw [gI_c (by decide), gI_c (by decide)]; exact h5
    · rw [gI_s, if_neg (show ¬ ((c, x.2) : PZ).1 = 0 from hc)]
  · rw [pFl_n z]
    exact ⟨w, e41 h1 l12 _ (by rw [h4, if_pos z]), ⟨h1, h2, h3, h4, h5, h6, h7, h8⟩, FrR.rf⟩
theorem q42 (hT : TK (KT T n) (VT T n) M) (h : RX T n M t S w b x) (ht : tOK t) (hk : x.1 = 0 → KT T n x.2.1 ≠ 0) : ∃ w', F42 12 w = r0 w' ∧ RX T n M t S w' (b + 1) (pGo x) ∧ FrR t S w w' := by
  have h0 := h
  obtain ⟨h1, h2, h3, h4, h5, h6, h7, h8⟩ := h
  have hM := hT.1
  by_cases z : x.1 = 0
  · have hj := hT.lt (hk z)
    rw [pGo_0 z]
    have e1 : wr (gI w 12 3 + 1) = ((x.2.1 + 1 : Nat) : Int) := by rw [h5, wrs (by omega)]
    have f1 : FrI (fun b => b = 12) w (pI w 12 3 ((x.2.1 + 1 : Nat) : Int)) := FrI.p rfl
    have t1 : TG (pI w 12 3 ((x.2.1 + 1 : Nat) : Int)) T n M := h2.ext (fun b b1 b2 => gI_r (by omega))
    obtain ⟨r1, r2, r3⟩ := rho_b (S := S) ht
    refine ⟨pI (pI w 12 3 ((x.2.1 + 1 : Nat) : Int)) 12 4 (KT T n (x.2.1 + 1)), e42 h1 l12 _ ?_, ⟨h1, t1.ext (fun b b1 b2 => gI_r (by omega)), h3, ?_, ?_, ?_, by show x.2.1 + 1 ≤ M; omega, fun y => ?_⟩, (FrI.p (Or.inl rfl)).pp (Or.inl rfl), fun i i3 i4 i5 => by rw [gI_c i4, gI_c i3]⟩
    · rw [h4, z, if_neg (by decide), e1, gI_s, show (12 + 1 : Nat) = 13 from rfl, q103 (f1.LR h1) t1 hM (by omega), bI_r (f1.LR h1)]
    · rw [gI_c (by decide), gI_c (by decide), h4, z]
    · rw [gI_c (by decide), gI_s]
    · rw [gI_s, if_pos rfl]
    · obtain ⟨c1, c2, c3⟩ := h8 z
      refine ⟨by show x.2.2.1 + (b + 1) ≤ x.2.1 + 1; omega, ?_, fun i hi => ?_⟩
      · rw [gI_r r1, gI_r r1]; exact c2
      · rw [gI_r r2, gI_r r2]; exact c3 i hi
  · rw [pGo_n z]
    exact ⟨w, e42 h1 l12 _ (by rw [h4, if_pos z]), h0.bad z, FrR.rf⟩
theorem q64 {c : Int} (hT : TK (KT T n) (VT T n) M) (h : RX T n M t S w (b + 1) x) (ht : tOK t) : ∃ w', F64 (rho t S) c w = r0 w' ∧ RX T n M t S w' b (pAd c x) ∧ FrR t S w w' := by
  have h0 := h
  obtain ⟨h1, h2, h3, h4, h5, h6, h7, h8⟩ := h
  have hM := hT.1
  obtain ⟨r1, r2, r3⟩ := rho_b (S := S) ht
  have hl := lrho (S := S) ht
  by_cases z : x.1 = 0
  · rw [pAd_0 z]
    obtain ⟨c1, c2, c3⟩ := h8 z
    have e2 : gI (pI w (rho t S + 1) x.2.2.1 c) (rho t S) 1 = (x.2.2.1 : Int) := by rw [gI_r (by omega)]; exact c2
    refine ⟨pI (pI w (rho t S + 1) x.2.2.1 c) (rho t S) 1 ((x.2.2.1 + 1 : Nat) : Int), e64 h1 hl _ ?_, ⟨h1, h2.ext (fun b b1 b2 => by rw [gI_r (by omega), gI_r (by omega)]), h3, ?_, ?_, ?_, h7, fun _ => ⟨by show x.2.2.1 + 1 + b ≤ x.2.1; omega, gI_s, fun i hi => ?_⟩⟩, (FrI.p (Or.inr (Or.inr rfl))).pp (Or.inr (Or.inl rfl)), fun i i3 i4 i5 => by rw [gI_r (by omega), gI_r (by omega)]⟩
    · rw [c2, if_neg (by omega), if_neg (by omega), gdi (by omega) (by omega), nn, e2, wrs (by omega)]
    · rw [gI_r (by omega), gI_r (by omega), h4, z]
    · rw [gI_r (by omega), gI_r (by omega)]; exact h5
    · rw [gI_r (by omega), gI_r (by omega), h6, if_pos z, if_pos rfl]
    · rw [gI_r (by omega)]
      have hi : i < x.2.2.1 + 1 := hi
      show _ = va_up x.2.2.2 x.2.2.1 c i
      by_cases y : i = x.2.2.1
      · subst y; rw [gI_s, up_s]
      · rw [gI_c y, up_c y]; exact c3 i (by omega)
  · rw [pAd_n z]
    by_cases y1 : gI w (rho t S) 1 < 0
    · exact ⟨w, e64 h1 hl _ (if_pos y1), h0.bad z, FrR.rf⟩
    by_cases y2 : 700 ≤ gI w (rho t S) 1
    · exact ⟨w, e64 h1 hl _ (by rw [if_neg y1, if_pos y2]), h0.bad z, FrR.rf⟩
    · refine ⟨pI (pI w (rho t S + 1) (gI w (rho t S) 1).toNat c) (rho t S) 1 (wr (gI (pI w (rho t S + 1) (gI w (rho t S) 1).toNat c) (rho t S) 1 + 1)), e64 h1 hl _ (by rw [if_neg y1, if_neg y2, gdi (by omega) (by omega)]), ⟨h1, h2.ext (fun b b1 b2 => by rw [gI_r (by omega), gI_r (by omega)]), h3, ?_, ?_, ?_, h7, fun y => absurd y z⟩, (FrI.p (Or.inr (Or.inr rfl))).pp (Or.inr (Or.inl rfl)), fun i i3 i4 i5 => by rw [gI_r (by omega), gI_r (by omega)]⟩
      · rw [gI_r (by omega), gI_r (by omega), h4]
      · rw [gI_r (by omega), gI_r (by omega)]; exact h5
      · rw [gI_r (by omega), gI_r (by omega), h6]
theorem q43 (h : RX T n M t S w b x) : F43 12 w = rI (b2i (decide (kd T n x = 1) || decide (kd T n x = 2))) w := by
  refine e43 h.1 l12 _ ?_
  rw [h.k]
  by_cases z1 : kd T n x = 1
  · rw [if_pos z1, decide_eq_true z1]; rfl
  · rw [if_neg z1, decide_eq_false z1]
    by_cases z2 : kd T n x = 2
    · rw [if_neg (fun y => y z2), decide_eq_true z2]; rfl
    · rw [if_pos z2, decide_eq_false z2]; rfl
theorem q44 (h : RX T n M t S w b x) : F44 12 w = rI (b2i (decide (100 ≤ kd T n x))) w := by
  refine e44 h.1 l12 _ ?_
  rw [h.k]
  by_cases z1 : 100 ≤ kd T n x
  · rw [if_neg (by omega), decide_eq_true z1]; rfl
  · rw [if_pos (by omega), decide_eq_false z1]; rfl
theorem q45 {c : Int} (hT : TK (KT T n) (VT T n) M) (h : RX T n M t S w b x) (ht : tOK t) (hc : c ≠ -1 ∧ c ≠ 0) : ∃ w', F45 12 c w = r0 w' ∧ RX T n M t S w' b (pSg (KT T n) c x) ∧ FrR t S w w' := by
  unfold pSg
  by_cases z : kd T n x = c
  · rw [if_pos ((ks_kd hc.1).mpr z)]
    obtain ⟨w', a1, a2, a3⟩ := q42 hT h ht (fun y => by rw [kd_0 y] at z; omega)
    refine ⟨w', e45 h.1 l12 _ ?_, a2.wk (Nat.le_succ _), a3⟩
    rw [h.k, if_neg (fun y => y z), a1, b0_r a2.1]
  · rw [if_neg (fun y => z ((ks_kd hc.1).mp y))]
    obtain ⟨w', a1, a2, a3⟩ := q41 (c := 1) h (by decide) ht
    refine ⟨w', e45 h.1 l12 _ ?_, a2, a3⟩
    rw [h.k, if_pos z, a1, b0_r a2.1]
/-- a number that must stand there -/
def pNm (K V : Nat → Int) (lo hi : Int) (x : PZ) : PZ × Int := if x.1 ≠ 0 then (x, lo) else if K x.2.1 ≠ 1 ∧ K x.2.1 ≠ 2 then (pFl 1 x, lo) else if K x.2.1 = 1 ∧ lo ≤ V x.2.1 ∧ V x.2.1 ≤ hi then (pGo x, V x.2.1) else (pFl 2 x, lo)
theorem q46 {lo hi : Int} (hT : TK (KT T n) (VT T n) M) (h : RX T n M t S w b x) (ht : tOK t) : ∃ w', F46 12 lo hi w = rI (pNm (KT T n) (VT T n) lo hi x).2 w' ∧ RX T n M t S w' b (pNm (KT T n) (VT T n) lo hi x).1 ∧ FrR t S w w' := by
  have hM := hT.1
  have h0 := h
  obtain ⟨h1, h2, h3, h4, h5, h6, h7, h8⟩ := h0
  have e0 : F105 (12 + 1) (gI w 12 3) w = rI (gI w 16 x.2.1) w := by rw [h5]; exact q105 h1 h2 hM h7
  obtain ⟨wa, a1, a2, a3⟩ := q41 (c := 1) h (by decide) ht
  obtain ⟨wb, b1, b2, b3⟩ := q41 (c := 2) h (by decide) ht
  have hb : s46_44 12 lo hi (gI w 16 x.2.1) w = rI lo wb := by
    refine e46_44 h1 l12 _ ?_
    rw [b1, b0_r b2.1]
  have hh := e46 (a0 := 12) (x1 := lo) (x2 := hi) h1 l12
  unfold pNm
  by_cases z : x.1 = 0
  · rw [if_neg (fun y => y z)]
    have ek : kd T n x = KT T n x.2.1 := kd_0 z
    by_cases z1 : KT T n x.2.1 ≠ 1 ∧ KT T n x.2.1 ≠ 2
    · rw [if_pos z1]
      refine ⟨wa, hh _ ?_, a2, a3⟩
      rw [e0, bI_r h1, q43 h, ek, decide_eq_false z1.1, decide_eq_false z1.2, bI_r h1, if_neg (by decide), a1, b0_r a2.1]
    · rw [if_neg z1]
      have hq : (decide (KT T n x.2.1 = 1) || decide (KT T n x.2.1 = 2)) = true := by
        by_cases y : KT T n x.2.1 = 1
        · rw [decide_eq_true y]; rfl
        · have : KT T n x.2.1 = 2 := by omega
          rw [decide_eq_true this, Bool.or_true]
      by_cases z2 : KT T n x.2.1 = 1
      · have hv : gI w 16 x.2.1 = VT T n x.2.1 := (h2.2.1 _ (by omega)).2.2 z2
        by_cases z3 : lo ≤ VT T n x.2.1 ∧ VT T n x.2.1 ≤ hi
        · rw [if_pos ⟨z2, z3⟩]
          obtain ⟨w', c1, c2, c3⟩ := q42 hT h ht (fun _ => by omega)
          refine ⟨w', hh _ ?_, c2.wk (Nat.le_succ _), c3⟩
          rw [e0, bI_r h1, q43 h, ek, hq, bI_r h1, if_pos (by decide), h.k, ek, if_neg (by omega), hv, if_neg (by omega), if_pos z3.2, c1, b0_r c2.1]
        · rw [if_neg (fun y => z3 y.2)]
          refine ⟨wb, hh _ ?_, b2, b3⟩
          rw [e0, bI_r h1, q43 h, ek, hq, bI_r h1, if_pos (by decide), h.k, ek, if_neg (by omega), hb, hv]
          by_cases y : VT T n x.2.1 < lo
          · rw [if_pos y]
          · rw [if_neg y, if_neg (fun q => z3 ⟨by omega, q⟩)]
      · rw [if_neg (fun y => z2 y.1)]
        refine ⟨wb, hh _ ?_, b2, b3⟩
        rw [e0, bI_r h1, q43 h, ek, hq, bI_r h1, if_pos (by decide), h.k, ek, if_pos (by omega), hb]
  · rw [if_pos z]
    have ek : kd T n x = -1 := kd_n z
    rw [pFl_n z] at a2
    refine ⟨wa, hh _ ?_, a2, a3⟩
    rw [e0, bI_r h1, q43 h, ek, bI_r h1, if_neg (by decide), a1, b0_r a2.1]
theorem q60 (h : RX T n M t S w b x) (ht : tOK t) : F60 12 w = rI (b2i (decide (109 ≤ kd T n x ∧ kd T n x ≤ vLim S))) w := by
  have hl := lrho (S := S) ht
  have hl4 : (lay t).1 = 4 := lq ht
  refine e60 h.1 l12 _ ?_
  rw [h.2.2.1.2, gQ_t hl, h.2.2.1.1, gQ_t hl4, h.k]
  unfold rho vLim
  cases S
  · rw [if_pos (show (if false = true then t + 8 else t + 6) ≠ t + 8 by simp), if_neg (show ¬ false = true by decide)]
    by_cases z : kd T n x < 109
    · rw [if_pos z, decide_eq_false (by omega)]; rfl
    · rw [if_neg z]
      by_cases y : 113 < kd T n x
      · rw [if_pos y, decide_eq_false (by omega)]; rfl
      · rw [if_neg y, decide_eq_true (by omega)]; rfl
  · rw [if_neg (show ¬ (if true = true then t + 8 else t + 6) ≠ t + 8 by simp), if_pos rfl]
    by_cases z : kd T n x < 109
    · rw [if_pos z, decide_eq_false (by omega)]; rfl
    · rw [if_neg z]
      by_cases y : 115 < kd T n x
      · rw [if_pos y, decide_eq_false (by omega)]; rfl
      · rw [if_neg y, decide_eq_true (by omega)]; rfl
end RX
/-! how deep -/
theorem ck41 {a : Nat} {c : Int} : crk 41 [aR (some a), aI c] = 1 := rfl
theorem ck42 {a : Nat} : crk 42 [aR (some a)] = 2 := rfl
theorem ck43 {a : Nat} : crk 43 [aR (some a)] = 1 := rfl
theorem ck44 {a : Nat} : crk 44 [aR (some a)] = 1 := rfl
theorem ck45 {a : Nat} {c : Int} : crk 45 [aR (some a), aI c] = 3 := rfl
theorem ck46 {a : Nat} {c d : Int} : crk 46 [aR (some a), aI c, aI d] = 3 := rfl
theorem ck60 {a : Nat} : crk 60 [aR (some a)] = 1 := rfl
theorem ck64 {a : Nat} {c : Int} : crk 64 [aR (some a), aI c] = 1 := rfl
theorem ck53 {a : Nat} {c : Int} : crk 53 [aR (some a), aI c] = 10 + 8 * (7 - c).toNat := rfl
theorem ck54 {a : Nat} {c : Int} : crk 54 [aR (some a), aI c] = 9 + 8 * (7 - c).toNat := rfl
theorem ck55 {a : Nat} {c : Int} : crk 55 [aR (some a), aI c] = 8 + 8 * (7 - c).toNat := rfl
theorem ck56 {a : Nat} {c : Int} : crk 56 [aR (some a), aI c] = 7 + 8 * (7 - c).toNat := rfl
theorem ck57 {a : Nat} {c : Int} : crk 57 [aR (some a), aI c] = 6 + 8 * (7 - c).toNat := rfl
theorem ck58 {a : Nat} {c : Int} : crk 58 [aR (some a), aI c] = 5 + 8 * (7 - c).toNat := rfl
theorem ck59 {a : Nat} {c : Int} : crk 59 [aR (some a), aI c] = 4 + 8 * (7 - c).toNat := rfl
