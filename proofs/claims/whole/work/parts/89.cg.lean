/-! lines: the state of the reader, and of what is told -/
/-- the fault, the token -/
abbrev LZ : Type := Int × Nat
def lFl (c : Int) (y : LZ) : LZ := if y.1 = 0 then (c, y.2) else y
def lGo (y : LZ) : LZ := if y.1 = 0 then (0, y.2 + 1) else y
def lSg (K : Nat → Int) (c : Int) (y : LZ) : LZ := if y.1 = 0 then (if K y.2 = c then (0, y.2 + 1) else (1, y.2)) else y
/-- a number that must stand there -/
def lNm (K V : Nat → Int) (lo hi : Int) (y : LZ) : LZ := if y.1 ≠ 0 then y else if K y.2 ≠ 1 ∧ K y.2 ≠ 2 then (1, y.2) else if K y.2 = 1 ∧ lo ≤ V y.2 ∧ V y.2 ≤ hi then (0, y.2 + 1) else (2, y.2)
/-- corners, people, the clock, misers; left, watch, mean; walks; the rules; whether corners, the clock are told -/
abbrev QZ : Type := (Int × Nat × Int × (Nat → Bool)) × (Row × Row × Row) × ((Nat → Nat) × (Nat → Nat → Int)) × ((Nat × Row) × (Nat × Row)) × (Bool × Bool)
def vk (q : QZ) : Int := q.1.1
def vn (q : QZ) : Nat := q.1.2.1
def vc (q : QZ) : Int := q.1.2.2.1
def vm (q : QZ) : Nat → Bool := q.1.2.2.2
def vL (q : QZ) : Row := q.2.1.1
def vW (q : QZ) : Row := q.2.1.2.1
def vM (q : QZ) : Row := q.2.1.2.2
def vX (q : QZ) : Nat → Nat := q.2.2.1.1
def vw (q : QZ) : Nat → Nat → Int := q.2.2.1.2
def va (q : QZ) : Nat × Row := q.2.2.2.1.1
def vs (q : QZ) : Nat × Row := q.2.2.2.1.2
def vd (q : QZ) : Bool := q.2.2.2.2.1
def ve (q : QZ) : Bool := q.2.2.2.2.2
/-- the reader stands so between rules -/
def RY (T : Row) (n M t : Nat) (w : Wd) (y : LZ) : Prop := LR w ∧ TG w T n M ∧ gR w 12 1 = some t ∧ gI w 12 5 = y.1 ∧ gI w 12 3 = y.2 ∧ gI w 12 4 = (if y.1 = 0 then KT T n y.2 else -1) ∧ y.2 ≤ M
def FrY (w w' : Wd) : Prop := FrI (fun c => c = 12) w w' ∧ ∀ i, i ≠ 3 → i ≠ 4 → i ≠ 5 → gI w' 12 i = gI w 12 i
theorem FrY.rf {w : Wd} : FrY w w := ⟨FrI.rf, fun _ _ _ _ => rfl⟩
theorem FrY.tr {a b c : Wd} (h : FrY a b) (h' : FrY b c) : FrY a c := ⟨h.1.tr h'.1, fun i x y z => (h'.2 i x y z).trans (h.2 i x y z)⟩
section RY
variable {T : Row} {n M t : Nat} {w : Wd} {y : LZ}
def ld (T : Row) (n : Nat) (y : LZ) : Int := if y.1 = 0 then KT T n y.2 else -1
theorem RY.k (h : RY T n M t w y) : gI w 12 4 = ld T n y := h.2.2.2.2.2.1
theorem ld_0 (h : y.1 = 0) : ld T n y = KT T n y.2 := if_pos h
theorem ld_n (h : y.1 ≠ 0) : ld T n y = -1 := if_neg h
theorem z41 {c : Int} (h : RY T n M t w y) (hc : c ≠ 0) : ∃ w', F41 12 c w = r0 w' ∧ RY T n M t w' (lFl c y) ∧ FrY w w' := by
  obtain ⟨h1, h2, h3, h4, h5, h6, h7⟩ := h
  unfold lFl
  by_cases z : y.1 = 0
  · rw [if_pos z]
    refine ⟨pI (pI w 12 5 c) 12 4 (-1), e41 h1 l12 _ (by rw [h4, z, if_neg (by decide)]), ⟨h1, h2.ext (fun b b1 b2 => by rw [gI_r (by omega), gI_r (by omega)]), h3, ?_, ?_, ?_, h7⟩, (FrI.p (A := fun c => c = 12) rfl).pp rfl, fun i i3 i4 i5 => by rw [gI_c i4, gI_c i5]⟩
    · rw [gI_c (by decide), gI_s]
    · rw [gI_c (by decide), gI_c (by decide)]; exact h5
    · rw [gI_s, if_neg (show ¬ ((c, y.2) : LZ).1 = 0 from hc)]
  · rw [if_neg z]
    exact ⟨w, e41 h1 l12 _ (by rw [h4, if_pos z]), ⟨h1, h2, h3, h4, h5, h6, h7⟩, FrY.rf⟩
theorem z42 (hT : TK (KT T n) (VT T n) M) (h : RY T n M t w y) (hk : y.1 = 0 → KT T n y.2 ≠ 0) : ∃ w', F42 12 w = r0 w' ∧ RY T n M t w' (lGo y) ∧ FrY w w' := by
  obtain ⟨h1, h2, h3, h4, h5, h6, h7⟩ := h
  have hM := hT.1
  unfold lGo
  by_cases z : y.1 = 0
  · have hj := hT.lt (hk z)
    rw [if_pos z]
    have e1 : wr (gI w 12 3 + 1) = ((y.2 + 1 : Nat) : Int) := by rw [h5, wrs (by omega)]
    have f1 : FrI (fun b => b = 12) w (pI w 12 3 ((y.2 + 1 : Nat) : Int)) := FrI.p rfl
    have t1 : TG (pI w 12 3 ((y.2 + 1 : Nat) : Int)) T n M := h2.ext (fun b b1 b2 => gI_r (by omega))
    refine ⟨pI (pI w 12 3 ((y.2 + 1 : Nat) : Int)) 12 4 (KT T n (y.2 + 1)), e42 h1 l12 _ ?_, ⟨h1, t1.ext (fun b b1 b2 => gI_r (by omega)), h3, ?_, ?_, ?_, by show y.2 + 1 ≤ M; omega⟩, f1.pp rfl, fun i i3 i4 i5 => by rw [gI_c i4, gI_c i3]⟩
    · rw [h4, z, if_neg (by decide), e1, gI_s, show (12 + 1 : Nat) = 13 from rfl, q103 (f1.LR h1) t1 hM (by omega), bI_r (f1.LR h1)]
    · rw [gI_c (by decide), gI_c (by decide), h4, z]
    · rw [gI_c (by decide), gI_s]
    · rw [gI_s, if_pos rfl]
  · rw [if_neg z]
    exact ⟨w, e42 h1 l12 _ (by rw [h4, if_pos z]), ⟨h1, h2, h3, h4, h5, h6, h7⟩, FrY.rf⟩
theorem z43 (h : RY T n M t w y) : F43 12 w = rI (b2i (decide (ld T n y = 1) || decide (ld T n y = 2))) w := by
  refine e43 h.1 l12 _ ?_
  rw [h.k]
  by_cases z1 : ld T n y = 1
  · rw [if_pos z1, decide_eq_true z1]; rfl
  · rw [if_neg z1, decide_eq_false z1]
    by_cases z2 : ld T n y = 2
    · rw [if_neg (fun y => y z2), decide_eq_true z2]; rfl
    · rw [if_pos z2, decide_eq_false z2]; rfl
theorem z45 {c : Int} (hT : TK (KT T n) (VT T n) M) (h : RY T n M t w y) (hc : c ≠ -1 ∧ c ≠ 0) : ∃ w', F45 12 c w = r0 w' ∧ RY T n M t w' (lSg (KT T n) c y) ∧ FrY w w' := by
  unfold lSg
  by_cases z0 : y.1 = 0
  · have ek : ld T n y = KT T n y.2 := ld_0 z0
    rw [if_pos z0]
    by_cases z : KT T n y.2 = c
    · obtain ⟨w', a1, a2, a3⟩ := z42 hT h (fun _ => by omega)
      unfold lGo at a2
      rw [if_pos z0] at a2
      rw [if_pos z]
      refine ⟨w', e45 h.1 l12 _ ?_, a2, a3⟩
      rw [h.k, ek, if_neg (fun y => y z), a1, b0_r a2.1]
    · obtain ⟨w', a1, a2, a3⟩ := z41 (c := 1) h (by decide)
      unfold lFl at a2
      rw [if_pos z0] at a2
      rw [if_neg z]
      refine ⟨w', e45 h.1 l12 _ ?_, a2, a3⟩
      rw [h.k, ek, if_pos z, a1, b0_r a2.1]
  · have ek : ld T n y = -1 := ld_n z0
    obtain ⟨w', a1, a2, a3⟩ := z41 (c := 1) h (by decide)
    unfold lFl at a2
    rw [if_neg z0] at a2
    rw [if_neg z0]
    refine ⟨w', e45 h.1 l12 _ ?_, a2, a3⟩
    rw [h.k, ek, if_pos (fun q => hc.1 q.symm), a1, b0_r a2.1]
theorem z46 {lo hi : Int} (hT : TK (KT T n) (VT T n) M) (h : RY T n M t w y) : ∃ w' v, F46 12 lo hi w = rI v w' ∧ RY T n M t w' (lNm (KT T n) (VT T n) lo hi y) ∧ FrY w w' ∧ ((lNm (KT T n) (VT T n) lo hi y).1 = 0 → y.1 = 0 ∧ v = VT T n y.2 ∧ lo ≤ v ∧ v ≤ hi) := by
  have hM := hT.1
  have h0 := h
  obtain ⟨h1, h2, h3, h4, h5, h6, h7⟩ := h0
  have e0 : F105 (12 + 1) (gI w 12 3) w = rI (gI w 16 y.2) w := by rw [h5]; exact q105 h1 h2 hM h7
  obtain ⟨wa, a1, a2, a3⟩ := z41 (c := 1) h (by decide)
  obtain ⟨wb, b1, b2, b3⟩ := z41 (c := 2) h (by decide)
  have hb : s46_44 12 lo hi (gI w 16 y.2) w = rI lo wb := by
    refine e46_44 h1 l12 _ ?_
    rw [b1, b0_r b2.1]
  have hh := e46 (a0 := 12) (x1 := lo) (x2 := hi) h1 l12
  unfold lNm
  unfold lFl at a2 b2
  by_cases z : y.1 = 0
  · rw [if_neg (fun y => y z)]
    rw [if_pos z] at a2 b2
    have ek : ld T n y = KT T n y.2 := ld_0 z
    by_cases z1 : KT T n y.2 ≠ 1 ∧ KT T n y.2 ≠ 2
    · rw [if_pos z1]
      refine ⟨wa, lo, hh _ ?_, a2, a3, fun q => absurd (show (1 : Int) = 0 from q) (by decide)⟩
      rw [e0, bI_r h1, z43 h, ek, decide_eq_false z1.1, decide_eq_false z1.2, bI_r h1, if_neg (by decide), a1, b0_r a2.1]
    · rw [if_neg z1]
      have hq : (decide (KT T n y.2 = 1) || decide (KT T n y.2 = 2)) = true := by
        by_cases u : KT T n y.2 = 1
        · rw [decide_eq_true u]; rfl
        · have : KT T n y.2 = 2 := by omega
          rw [decide_eq_true this, Bool.or_true]
      by_cases z2 : KT T n y.2 = 1
      · have hv : gI w 16 y.2 = VT T n y.2 := (h2.2.1 _ (by omega)).2.2 z2
        by_cases z3 : lo ≤ VT T n y.2 ∧ VT T n y.2 ≤ hi
        · rw [if_pos ⟨z2, z3⟩]
          obtain ⟨w', c1, c2, c3⟩ := z42 hT h (fun _ => by omega)
          unfold lGo at c2
          rw [if_pos z] at c2
          refine ⟨w', VT T n y.2, hh _ ?_, c2, c3, fun _ => ⟨z, rfl, z3⟩⟩
          rw [e0, bI_r h1, z43 h, ek, hq, bI_r h1, if_pos (by decide), h.k, ek, if_neg (by omega), hv, if_neg (by omega), if_pos z3.2, c1, b0_r c2.1]
        · rw [if_neg (fun y => z3 y.2)]
          refine ⟨wb, lo, hh _ ?_, b2, b3, fun q => absurd (show (2 : Int) = 0 from q) (by decide)⟩
          rw [e0, bI_r h1, z43 h, ek, hq, bI_r h1, if_pos (by decide), h.k, ek, if_neg (by omega), hb, hv]
          by_cases u : VT T n y.2 < lo
          · rw [if_pos u]
          · rw [if_neg u, if_neg (fun q => z3 ⟨by omega, q⟩)]
      · rw [if_neg (fun y => z2 y.1)]
        refine ⟨wb, lo, hh _ ?_, b2, b3, fun q => absurd (show (2 : Int) = 0 from q) (by decide)⟩
        rw [e0, bI_r h1, z43 h, ek, hq, bI_r h1, if_pos (by decide), h.k, ek, if_pos (by omega), hb]
  · rw [if_pos z]
    rw [if_neg z] at a2
    have ek : ld T n y = -1 := ld_n z
    refine ⟨wa, lo, hh _ ?_, a2, a3, fun q => absurd q z⟩
    rw [e0, bI_r h1, z43 h, ek, bI_r h1, if_neg (by decide), a1, b0_r a2.1]
end RY
