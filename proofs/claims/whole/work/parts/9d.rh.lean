/-! the reference reads a line, and all of them -/
section LNp
variable {T : Row} {n M : Nat} {w : Wd} {y : LZ} {q : QZ}
theorem h189 {c : Int} (hX : XT w T n) (hB : BM T n M w y.1 y.2) (hc : isSg c = true) : F189 473 c w = rI (b2i (decide (y.1 = 0) && decide (KT T n y.2 = c))) w := by
  refine e189 hX.1 l473 _ ?_
  by_cases z : y.1 = 0
  · obtain ⟨m0, m1, m2, m3, m4, m5⟩ := hB.1 z
    rw [m0, if_neg (fun u => u rfl), m4, decide_eq_true z, Bool.true_and]
    have hh := KT_sg (T := T) (n := n) (j := y.2) hc
    by_cases u : tkT (KT T n y.2) = 3
    · have hs : sT T n y.2 < n := by
        apply Classical.byContradiction
        intro v
        rw [KT_0.mpr (Nat.le_of_not_lt v)] at u
        exact absurd u (by decide)
      have hn := hX.2.2.1
      have hg : gd (inb ((sT T n y.2 : Nat) : Int) 700) (if gI w (473 + 15) (sT T n y.2) ≠ c then rI 0 w else rI 1 w) = (if gI w (473 + 15) (sT T n y.2) ≠ c then rI 0 w else rI 1 w) := gdi (Int.natCast_nonneg _) (Int.ofNat_lt.mpr (Nat.lt_of_lt_of_le hs hn))
      rw [if_neg (fun v => v u), m1, nn, hg, show gI w (473 + 15) (sT T n y.2) = T (sT T n y.2) from hX.2.2.2.1 _ hs]
      by_cases v : T (sT T n y.2) = c
      · rw [if_neg (fun u => u v), decide_eq_true (hh.mpr ⟨u, hs, v⟩)]; rfl
      · rw [if_pos v, decide_eq_false (fun u => v (hh.mp u).2.2)]; rfl
    · rw [if_pos u, decide_eq_false (fun v => u (hh.mp v).1)]; rfl
  · rw [if_pos (hB.b1 z), decide_eq_false z]; rfl
theorem h190 {c : Int} (hT : TK (KT T n) (VT T n) M) (hX : XT w T n) (hB : BM T n M w y.1 y.2) (hc : isSg c = true) (hc0 : c ≠ 0) : ∃ w', F190 473 c w = r0 w' ∧ BM T n M w' (lSg (KT T n) c y).1 (lSg (KT T n) c y).2 ∧ FrH w w' := by
  have e := h189 hX hB hc
  unfold lSg
  by_cases z : y.1 = 0
  · rw [if_pos z]
    have m0 := (hB.1 z).1
    rw [decide_eq_true z, Bool.true_and] at e
    by_cases u : KT T n y.2 = c
    · rw [if_pos u]
      obtain ⟨w', a1, a2, a3⟩ := h185 (y := y) hT hX hB z (by rw [u]; exact hc0)
      refine ⟨w', e190 hX.1 l473 _ ?_, a2, a3⟩
      rw [m0, if_neg (fun v => v rfl), e, bI_r hX.1, decide_eq_true u, if_pos (by decide)]
      refine e190_20 hX.1 l473 _ ?_
      rw [m0, if_neg (fun v => v rfl), a1, b0_r (a3.1.LR hX.1)]
    · rw [if_neg u]
      obtain ⟨w', a1, a2, a3⟩ := h186 (c := 1) (y := y) hX hB (by decide)
      unfold lFl at a2
      rw [if_pos z] at a2
      refine ⟨w', e190 hX.1 l473 _ ?_, a2, a3⟩
      rw [m0, if_neg (fun v => v rfl), e, bI_r hX.1, decide_eq_false u, if_neg (by decide), a1, b0_r (a3.1.LR hX.1)]
      exact e190_20 (a3.1.LR hX.1) l473 _ (if_pos (a2.b1 (show (1 : Int) ≠ 0 by decide)))
  · rw [if_neg z]
    refine ⟨w, e190 hX.1 l473 _ ?_, hB, FrH.rf⟩
    rw [if_pos (hB.b1 z)]
    exact e190_20 hX.1 l473 _ (if_pos (hB.b1 z))
/-- which bits are told -/
theorem dn_and : ∀ a b c d : Bool, (bAnd 1 (dnv a b c d) = 0 ↔ a = false) ∧ (bAnd 2 (dnv a b c d) = 0 ↔ b = false) ∧ (bAnd 4 (dnv a b c d) = 0 ↔ c = false) ∧ (bAnd 8 (dnv a b c d) = 0 ↔ d = false) ∧ bAnd 0 (dnv a b c d) = 0 := by decide +kernel
theorem dn_or : ∀ a b c d : Bool, bOr (dnv a b c d) 1 = dnv true b c d ∧ bOr (dnv a b c d) 2 = dnv a true c d ∧ bOr (dnv a b c d) 4 = dnv a b true d ∧ bOr (dnv a b c d) 8 = dnv a b c true ∧ bOr (dnv a b c d) 0 = dnv a b c d := by decide +kernel
theorem v186 {c : Int} (H : LR w) (hb : gI w 473 24 ≠ 0) : F186 473 c w = r0 w := e186 H l473 _ (if_neg hb)
theorem v190 {c : Int} (H : LR w) (hb : gI w 473 24 ≠ 0) : F190 473 c w = r0 w := e190 H l473 _ (by
  rw [if_pos hb]
  exact e190_20 H l473 _ (if_pos hb))
theorem v203 {d n1 k : Int} (H : LR w) (hb : gI w 473 24 ≠ 0) : s203_133 473 d n1 k w = rI (bOr d k) w := e203_133 H l473 _ (by rw [v190 H hb, b0_r H])
theorem v203b {d k : Int} (H : LR w) (hb : gI w 473 24 ≠ 0) : s203_96 473 d (-1) k w = rI (bOr d k) w := by
  refine e203_96 H l473 _ ?_
  have e115 : s203_115 473 d (-1) k w = rI (bOr d k) w := by
    refine e203_115 H l473 _ ?_
    rw [if_pos rfl, v186 H hb, b0_r H, v203 H hb]
  by_cases u : k ≤ 0
  · rw [if_pos u, e115]
  · rw [if_neg u, if_pos hb, e115]
theorem v203c {d k : Int} (H : LR w) (hb : gI w 473 24 ≠ 0) : s203_85 473 d (-1) k w = rI (bOr d k) w := by
  refine e203_85 H l473 _ ?_
  by_cases u : bAnd k d = 0
  · rw [if_pos u, v203b H hb]
  · rw [if_neg u, v186 H hb, b0_r H, v203b H hb]
theorem wd_o : wdL.getD 0 [] = txB 16 ∧ wdL.getD 3 [] = txB 17 ∧ wdL.getD 4 [] = txB 18 ∧ wdL.getD 5 [] = txB 19 := by decide +kernel
/-- the words that begin a line -/
def kkL (c : Int) : Int := if c = 100 then 1 else if c = 103 then 2 else if c = 104 then 4 else if c = 105 then 8 else 0
def srL (c : Int) : Int := if c = 101 then 0 else if c = 102 then 1 else -1
theorem y203h {d : Int} (h : RLm T n M w (y, q)) (z : y.1 = 0) : Rf (s203_67 473 d (srL (KT T n y.2)) (kkL (KT T n y.2)) w) (F203 473 d w) := by
  intro o ho
  obtain ⟨hX, hW, hB, hq⟩ := h
  have hB : BM T n M w y.1 y.2 := hB
  obtain ⟨l1, l2, l3⟩ := l474
  have es := y188g (k0 := 1) (t0 := 7) l1 hW.1 wd_p (by decide) (by decide) hX hB
  have es' : F188 473 474 w = rI (srL (KT T n y.2)) w := by
    rw [es]
    unfold srL
    by_cases c1 : KT T n y.2 = 101
    · rw [if_pos c1, if_pos ⟨z, by omega, by omega⟩, c1]; rfl
    · by_cases c2 : KT T n y.2 = 102
      · rw [if_neg c1, if_pos c2, if_pos ⟨z, by omega, by omega⟩, c2]; rfl
      · rw [if_neg c1, if_neg c2, if_neg (fun u => by omega)]
  have e0 := y187g (k := 0) (t := 16) (by decide) wd_o.1 (by decide) hX hB
  have e3 := y187g (k := 3) (t := 17) (by decide) wd_o.2.1 (by decide) hX hB
  have e4 := y187g (k := 4) (t := 18) (by decide) wd_o.2.2.1 (by decide) hX hB
  have e5 := y187g (k := 5) (t := 19) (by decide) wd_o.2.2.2 (by decide) hX hB
  rw [decide_eq_true z, Bool.true_and] at e0 e3 e4 e5
  refine e203 hX.1 l473 _ ?_
  rw [show (473 + 1 : Nat) = 474 from rfl, es', bI_r hX.1, e0, bI_r hX.1]
  unfold kkL at ho
  by_cases c0 : KT T n y.2 = 100
  · rw [if_pos c0] at ho
    rw [decide_eq_true (show KT T n y.2 = ((100 + 0 : Nat) : Int) from c0), if_neg (by decide)]
    exact ho
  rw [if_neg c0] at ho
  rw [decide_eq_false (show ¬ KT T n y.2 = ((100 + 0 : Nat) : Int) from c0), if_pos (by decide), e3, bI_r hX.1]
  by_cases c3 : KT T n y.2 = 103
  · rw [if_pos c3] at ho
    rw [decide_eq_true (show KT T n y.2 = ((100 + 3 : Nat) : Int) from c3), if_neg (by decide)]
    exact ho
  rw [if_neg c3] at ho
  rw [decide_eq_false (show ¬ KT T n y.2 = ((100 + 3 : Nat) : Int) from c3), if_pos (by decide), e4, bI_r hX.1]
  by_cases c4 : KT T n y.2 = 104
  · rw [if_pos c4] at ho
    rw [decide_eq_true (show KT T n y.2 = ((100 + 4 : Nat) : Int) from c4), if_neg (by decide)]
    exact ho
  rw [if_neg c4] at ho
  rw [decide_eq_false (show ¬ KT T n y.2 = ((100 + 4 : Nat) : Int) from c4), if_pos (by decide), e5, bI_r hX.1]
  by_cases c5 : KT T n y.2 = 105
  · rw [if_pos c5] at ho
    rw [decide_eq_true (show KT T n y.2 = ((100 + 5 : Nat) : Int) from c5), if_neg (by decide)]
    exact ho
  · rw [if_neg c5] at ho
    rw [decide_eq_false (show ¬ KT T n y.2 = ((100 + 5 : Nat) : Int) from c5), if_pos (by decide)]
    exact ho
theorem srL_n {c : Int} (h : c ≠ 101 ∧ c ≠ 102) : srL c = -1 := by unfold srL; rw [if_neg h.1, if_neg h.2]
/-- behind a line's words: the sign -/
theorem y203t {d n1 k : Int} {a : LZ × QZ} {w' : Wd} (hT : TK (KT T n) (VT T n) M) (h : RLm T n M w' a) (f : FrN w w') : ∃ w2, s203_133 473 d n1 k w' = rI (bOr d k) w2 ∧ RLm T n M w2 (lSg (KT T n) 59 a.1, a.2) ∧ FrN w w2 := by
  obtain ⟨h1, h2, h3, h4⟩ := h
  obtain ⟨w2, a1, a2, a3⟩ := h190 (c := 59) (y := a.1) hT h1 h3 (by decide) (by decide)
  have hX2 := h1.H5 a3
  refine ⟨w2, e203_133 h1.1 l473 _ (by rw [a1, b0_r hX2.1]), ⟨hX2, h2.H a3, a2, fun u => ?_⟩, f.tr a3.N⟩
  obtain ⟨b1, b2⟩ := h4 (lSg_s u)
  exact ⟨b1.H a3, b2⟩
theorem y203f {f : Int} {c : Int} {d : Int} {k : Int} (hT : TK (KT T n) (VT T n) M) (h : RLm T n M w (y, q)) (z : y.1 = 0) (hc : c ≠ 0) (hf : rLn (KT T n) (VT T n) (y, q) = ((c, y.2), q)) (hk : ∀ w1, F186 473 c w = r0 w1 → LR w1 → gI w1 473 24 ≠ 0 → F203 473 d w = rI (bOr d k) w1) :
    ∃ w', F203 473 d w = rI (bOr d k) w' ∧ RLm T n M w' (rLi (KT T n) (VT T n) (y, q)) ∧ FrN w w' ∧ (rLi (KT T n) (VT T n) (y, q)).1.1 ≠ 0 := by
  obtain ⟨hX, hW, hB, hq⟩ := h
  have hB : BM T n M w y.1 y.2 := hB
  obtain ⟨w1, a1, a2, a3⟩ := h186 (c := c) (y := y) hX hB hc
  unfold lFl at a2
  rw [if_pos z] at a2
  have hX1 := hX.H5 a3
  have er : rLi (KT T n) (VT T n) (y, q) = ((c, y.2), q) := by
    unfold rLi
    rw [hf]
    show (lSg (KT T n) 59 (c, y.2), q) = _
    unfold lSg
    rw [if_neg (show ¬ ((c, y.2) : LZ).1 = 0 from hc)]
  rw [er]
  exact ⟨w1, hk w1 a1 hX1.1 (a2.b1 hc), ⟨hX1, hW.H a3, a2, fun u => absurd u hc⟩, a3.N, hc⟩
theorem y203 (hT : TK (KT T n) (VT T n) M) (h : RLm T n M w (y, q)) (z : y.1 = 0) (hk0 : KT T n y.2 ≠ 0) :
    ∃ w' d, F203 473 (dnq q) w = rI d w' ∧ RLm T n M w' (rLi (KT T n) (VT T n) (y, q)) ∧ FrN w w' ∧ ((rLi (KT T n) (VT T n) (y, q)).1.1 = 0 → d = dnq (rLi (KT T n) (VT T n) (y, q)).2) := by
  have hh := y203h (d := dnq q) h z
  have H := h.1.1
  have q1 : RTq w q := (h.2.2.2 z).1
  have m0 : gI w 473 24 = 0 := (h.2.2.1.1 z).1
  have h28 := q1.2
  have eli : rLi (KT T n) (VT T n) (y, q) = (lSg (KT T n) 59 (rLn (KT T n) (VT T n) (y, q)).1, (rLn (KT T n) (VT T n) (y, q)).2) := rfl
  obtain ⟨da, db, dc, dd, -⟩ := dn_and (vd q) (ve q) (decide (0 < (va q).1)) (decide (0 < (vs q).1))
  obtain ⟨oa, ob, oc, od, oe⟩ := dn_or (vd q) (ve q) (decide (0 < (va q).1)) (decide (0 < (vs q).1))
  by_cases c0 : KT T n y.2 = 100
  · rw [c0, show srL 100 = -1 from rfl, show kkL 100 = 1 from rfl] at hh
    by_cases c1 : 0 < vn q
    · have hf : rLn (KT T n) (VT T n) (y, q) = ((4, y.2), q) := by
        unfold rLn; dsimp only; rw [if_neg (fun u => u z), if_pos c0, if_pos c1]
      obtain ⟨w', a1, a2, a3, a4⟩ := y203f (f := 0) (d := dnq q) (k := 1) hT h z (by decide) hf (fun w1 x1 x2 x3 => hh _ (e203_67 H l473 _ (by
        rw [if_neg (by decide), h28, decide_eq_true c1, if_neg (by decide), x1, b0_r x2]
        exact v203c x2 x3)))
      exact ⟨w', _, a1, a2, a3, fun u => absurd u a4⟩
    · have s85 : ∀ o, s203_85 473 (dnq q) (-1) 1 w = some o → F203 473 (dnq q) w = some o := fun o ho => hh o (e203_67 H l473 _ (by
        rw [if_neg (by decide), h28, decide_eq_false c1, if_pos (by decide)]; exact ho))
      by_cases c2 : vd q = true
      · have hf : rLn (KT T n) (VT T n) (y, q) = ((5, y.2), q) := by
          unfold rLn; dsimp only; rw [if_neg (fun u => u z), if_pos c0, if_neg c1, if_pos c2]
        obtain ⟨w', a1, a2, a3, a4⟩ := y203f (f := 0) (d := dnq q) (k := 1) hT h z (by decide) hf (fun w1 x1 x2 x3 => s85 _ (e203_85 H l473 _ (by
          rw [if_neg (fun u => by have := da.mp u; rw [c2] at this; cases this), x1, b0_r x2]
          exact v203b x2 x3)))
        exact ⟨w', _, a1, a2, a3, fun u => absurd u a4⟩
      · obtain ⟨w1, a1, a2, a3⟩ := y202a hT h z c0 c1 c2
        obtain ⟨w2, b1, b2, b3⟩ := y203t (d := dnq q) (n1 := -1) (k := 1) hT a2 a3
        refine ⟨w2, bOr (dnq q) 1, s85 _ (e203_85 H l473 _ ?_), b2, b3, fun u => ?_⟩
        · rw [if_pos (show bAnd 1 (dnq q) = 0 from da.mpr (by simpa using c2))]
          refine e203_96 H l473 _ ?_
          rw [if_neg (by decide), if_neg (by rw [m0]; decide), a1, b0_r a2.1.1]
          exact b1
        · rw [eli]
          have er : (rLn (KT T n) (VT T n) (y, q)).2 = qCo (VT T n (y.2 + 1)) q := by
            unfold rLn; dsimp only; rw [if_neg (fun u => u z), if_pos c0, if_neg c1, if_neg c2]
          show bOr (dnq q) 1 = dnq (rLn (KT T n) (VT T n) (y, q)).2
          rw [er]
          exact oa
  by_cases c3 : KT T n y.2 = 103
  · rw [c3, show srL 103 = -1 from rfl, show kkL 103 = 2 from rfl] at hh
    have s85 : ∀ o, s203_85 473 (dnq q) (-1) 2 w = some o → F203 473 (dnq q) w = some o := fun o ho => hh o (e203_67 H l473 _ (by rw [if_pos (by decide)]; exact ho))
    by_cases c2 : ve q = true
    · have hf : rLn (KT T n) (VT T n) (y, q) = ((5, y.2), q) := by
        unfold rLn; dsimp only; rw [if_neg (fun u => u z), if_neg c0, if_neg (by omega), if_pos c3, if_pos c2]
      obtain ⟨w', a1, a2, a3, a4⟩ := y203f (f := 0) (d := dnq q) (k := 2) hT h z (by decide) hf (fun w1 x1 x2 x3 => s85 _ (e203_85 H l473 _ (by
        rw [if_neg (fun u => by have := db.mp u; rw [c2] at this; cases this), x1, b0_r x2]
        exact v203b x2 x3)))
      exact ⟨w', _, a1, a2, a3, fun u => absurd u a4⟩
    · obtain ⟨w1, a1, a2, a3⟩ := y202b hT h z c3 c2
      obtain ⟨w2, b1, b2, b3⟩ := y203t (d := dnq q) (n1 := -1) (k := 2) hT a2 a3
      refine ⟨w2, bOr (dnq q) 2, s85 _ (e203_85 H l473 _ ?_), b2, b3, fun u => ?_⟩
      · rw [if_pos (show bAnd 2 (dnq q) = 0 from db.mpr (by simpa using c2))]
        refine e203_96 H l473 _ ?_
        rw [if_neg (by decide), if_neg (by rw [m0]; decide), a1, b0_r a2.1.1]
        exact b1
      · have er : (rLn (KT T n) (VT T n) (y, q)).2 = qCl (VT T n (y.2 + 1)) q := by
          unfold rLn; dsimp only; rw [if_neg (fun u => u z), if_neg c0, if_neg (by omega), if_pos c3, if_neg c2]
        show bOr (dnq q) 2 = dnq (rLn (KT T n) (VT T n) (y, q)).2
        rw [er]
        exact ob
  by_cases c4 : KT T n y.2 = 104
  · rw [c4, show srL 104 = -1 from rfl, show kkL 104 = 4 from rfl] at hh
    have s85 : ∀ o, s203_85 473 (dnq q) (-1) 4 w = some o → F203 473 (dnq q) w = some o := fun o ho => hh o (e203_67 H l473 _ (by rw [if_pos (by decide)]; exact ho))
    by_cases c2 : 0 < (va q).1
    · have hf : rLn (KT T n) (VT T n) (y, q) = ((5, y.2), q) := by
        unfold rLn; dsimp only; rw [if_neg (fun u => u z), if_neg c0, if_neg (by omega), if_neg c3, if_pos c4, if_pos c2]
      obtain ⟨w', a1, a2, a3, a4⟩ := y203f (f := 0) (d := dnq q) (k := 4) hT h z (by decide) hf (fun w1 x1 x2 x3 => s85 _ (e203_85 H l473 _ (by
        rw [if_neg (fun u => by have := dc.mp u; rw [decide_eq_true c2] at this; cases this), x1, b0_r x2]
        exact v203b x2 x3)))
      exact ⟨w', _, a1, a2, a3, fun u => absurd u a4⟩
    · obtain ⟨w1, a1, a2, a3⟩ := y202c (S := false) hT h z c4 c2
      obtain ⟨w2, b1, b2, b3⟩ := y203t (d := dnq q) (n1 := -1) (k := 4) hT a2 a3
      refine ⟨w2, bOr (dnq q) 4, s85 _ (e203_85 H l473 _ ?_), b2, b3, fun u => ?_⟩
      · rw [if_pos (show bAnd 4 (dnq q) = 0 from dc.mpr (decide_eq_false c2))]
        refine e203_96 H l473 _ ?_
        rw [if_neg (by decide), if_neg (by rw [m0]; decide), show F202 473 4 w = r0 w1 from a1, b0_r a2.1.1]
        exact b1
      · have er : rLn (KT T n) (VT T n) (y, q) = (((lEx (KT T n) (VT T n) false y.2).1, (lEx (KT T n) (VT T n) false y.2).2.1), qAs (lEx (KT T n) (VT T n) false y.2).2.2 q) := by
          unfold rLn; dsimp only; rw [if_neg (fun u => u z), if_neg c0, if_neg (by omega), if_neg c3, if_pos c4, if_neg c2]
        have u1 : (rLn (KT T n) (VT T n) (y, q)).1.1 = 0 := lSg_s u
        rw [er] at u1
        have ok := (pE_ok (S := false) (r := fun _ => 0) hT (Nat.succ_le_succ (Nat.zero_le y.2)) (hT.lt hk0) u1).2.1
        show bOr (dnq q) 4 = dnq (rLn (KT T n) (VT T n) (y, q)).2
        rw [er]
        show bOr (dnq q) 4 = dnv (vd q) (ve q) (decide (0 < (lEx (KT T n) (VT T n) false y.2).2.2.1)) (decide (0 < (vs q).1))
        rw [decide_eq_true (show 0 < (lEx (KT T n) (VT T n) false y.2).2.2.1 from ok)]
        exact oc
  by_cases c5 : KT T n y.2 = 105
  · rw [c5, show srL 105 = -1 from rfl, show kkL 105 = 8 from rfl] at hh
    have s85 : ∀ o, s203_85 473 (dnq q) (-1) 8 w = some o → F203 473 (dnq q) w = some o := fun o ho => hh o (e203_67 H l473 _ (by rw [if_pos (by decide)]; exact ho))
    by_cases c2 : 0 < (vs q).1
    · have hf : rLn (KT T n) (VT T n) (y, q) = ((5, y.2), q) := by
        unfold rLn; dsimp only; rw [if_neg (fun u => u z), if_neg c0, if_neg (by omega), if_neg c3, if_neg c4, if_pos c5, if_pos c2]
      obtain ⟨w', a1, a2, a3, a4⟩ := y203f (f := 0) (d := dnq q) (k := 8) hT h z (by decide) hf (fun w1 x1 x2 x3 => s85 _ (e203_85 H l473 _ (by
        rw [if_neg (fun u => by have := dd.mp u; rw [decide_eq_true c2] at this; cases this), x1, b0_r x2]
        exact v203b x2 x3)))
      exact ⟨w', _, a1, a2, a3, fun u => absurd u a4⟩
    · obtain ⟨w1, a1, a2, a3⟩ := y202c (S := true) hT h z c5 c2
      obtain ⟨w2, b1, b2, b3⟩ := y203t (d := dnq q) (n1 := -1) (k := 8) hT a2 a3
      refine ⟨w2, bOr (dnq q) 8, s85 _ (e203_85 H l473 _ ?_), b2, b3, fun u => ?_⟩
      · rw [if_pos (show bAnd 8 (dnq q) = 0 from dd.mpr (decide_eq_false c2))]
        refine e203_96 H l473 _ ?_
        rw [if_neg (by decide), if_neg (by rw [m0]; decide), show F202 473 8 w = r0 w1 from a1, b0_r a2.1.1]
        exact b1
      · have er : rLn (KT T n) (VT T n) (y, q) = (((lEx (KT T n) (VT T n) true y.2).1, (lEx (KT T n) (VT T n) true y.2).2.1), qSa (lEx (KT T n) (VT T n) true y.2).2.2 q) := by
          unfold rLn; dsimp only; rw [if_neg (fun u => u z), if_neg c0, if_neg (by omega), if_neg c3, if_neg c4, if_pos c5, if_neg c2]
        have u1 : (rLn (KT T n) (VT T n) (y, q)).1.1 = 0 := lSg_s u
        rw [er] at u1
        have ok := (pE_ok (S := true) (r := fun _ => 0) hT (Nat.succ_le_succ (Nat.zero_le y.2)) (hT.lt hk0) u1).2.1
        show bOr (dnq q) 8 = dnq (rLn (KT T n) (VT T n) (y, q)).2
        rw [er]
        show bOr (dnq q) 8 = dnv (vd q) (ve q) (decide (0 < (va q).1)) (decide (0 < (lEx (KT T n) (VT T n) true y.2).2.2.1))
        rw [decide_eq_true (show 0 < (lEx (KT T n) (VT T n) true y.2).2.2.1 from ok)]
        exact od
  have ek : kkL (KT T n y.2) = 0 := by unfold kkL; rw [if_neg c0, if_neg c3, if_neg c4, if_neg c5]
  rw [ek] at hh
  have s115 : ∀ o, s203_115 473 (dnq q) (srL (KT T n y.2)) 0 w = some o → F203 473 (dnq q) w = some o := fun o ho => hh o (e203_67 H l473 _ (by
    rw [if_pos (by decide)]
    refine e203_85 H l473 _ ?_
    rw [if_pos (show bAnd 0 (dnq q) = 0 from (dn_and (vd q) (ve q) (decide (0 < (va q).1)) (decide (0 < (vs q).1))).2.2.2.2)]
    refine e203_96 H l473 _ ?_
    rw [if_pos (by decide)]
    exact ho))
  by_cases c1 : KT T n y.2 = 101 ∨ KT T n y.2 = 102
  · obtain ⟨w1, a1, a2, a3⟩ := y201 (mi := decide (KT T n y.2 = 102)) hT h z c1 rfl
    obtain ⟨w2, b1, b2, b3⟩ := y203t (d := dnq q) (n1 := srL (KT T n y.2)) (k := 0) hT a2 a3
    have esr : srL (KT T n y.2) = b2i (decide (KT T n y.2 = 102)) := by
      unfold srL
      rcases c1 with u | u <;> rw [u] <;> rfl
    refine ⟨w2, bOr (dnq q) 0, s115 _ (e203_115 H l473 _ ?_), b2, b3, fun u => ?_⟩
    · have hne : srL (KT T n y.2) ≠ -1 := by rw [esr]; cases decide (KT T n y.2 = 102) <;> decide
      rw [if_neg hne, esr, a1, b0_r a2.1.1, ← esr]
      exact b1
    · have er : (rLn (KT T n) (VT T n) (y, q)).2.2.2.2.2 = (vd q, ve q) ∧ va (rLn (KT T n) (VT T n) (y, q)).2 = va q ∧ vs (rLn (KT T n) (VT T n) (y, q)).2 = vs q := by
        unfold rLn; dsimp only; rw [if_neg (fun u => u z), if_neg c0, if_pos c1]
        by_cases c8 : vn q = 8
        · rw [if_pos c8]; exact ⟨rfl, rfl, rfl⟩
        · rw [if_neg c8]; exact ⟨rfl, rfl, rfl⟩
      show bOr (dnq q) 0 = dnq (rLn (KT T n) (VT T n) (y, q)).2
      unfold dnq vd ve
      rw [er.1, er.2.1, er.2.2]
      exact oe
  · have hf : rLn (KT T n) (VT T n) (y, q) = ((1, y.2), q) := by
      unfold rLn; dsimp only; rw [if_neg (fun u => u z), if_neg c0, if_neg c1, if_neg c3, if_neg c4, if_neg c5]
    have esr : srL (KT T n y.2) = -1 := srL_n ⟨fun u => c1 (Or.inl u), fun u => c1 (Or.inr u)⟩
    obtain ⟨w', a1, a2, a3, a4⟩ := y203f (f := 0) (d := dnq q) (k := 0) hT h z (by decide) hf (fun w1 x1 x2 x3 => s115 _ (e203_115 H l473 _ (by
      rw [if_pos esr, x1, b0_r x2]
      exact v203 x2 x3)))
    exact ⟨w', _, a1, a2, a3, fun u => absurd u a4⟩
theorem tk0 {j : Nat} : tkT (KT T n j) = 0 ↔ KT T n j = 0 := by
  unfold tkT
  constructor
  · intro h
    split at h
    · assumption
    · split at h
      · exact absurd h (by decide)
      · split at h
        · exact absurd h (by decide)
        · split at h <;> exact absurd h (by decide)
  · intro h; rw [if_pos h]
/-- all lines -/
theorem yal (hT : TK (KT T n) (VT T n) M) {x1 : Int} : ∀ (f : Nat) (w : Wd) (a : LZ × QZ) (d : Int), RLm T n M w a → (a.1.1 = 0 → d = dnq a.2) → ¬ ((rAl (KT T n) (VT T n) f a).1.1 = 0 ∧ KT T n (rAl (KT T n) (VT T n) f a).1.2 ≠ 0) →
    ∃ w' d', Rf (s204_112 473 x1 d' w') (s204_89 473 x1 d w) ∧ RLm T n M w' (rAl (KT T n) (VT T n) f a) ∧ FrN w w' := by
  have stop : ∀ (w : Wd) (a : LZ × QZ) (d : Int), RLm T n M w a → ¬ (a.1.1 = 0 ∧ KT T n a.1.2 ≠ 0) → Rf (s204_112 473 x1 d w) (s204_89 473 x1 d w) := by
    intro w a d h hz o ho
    refine e204_89 h.1.1 l473 _ ?_
    by_cases z : a.1.1 = 0
    · obtain ⟨m0, m1, m2, m3, m4, m5⟩ := h.2.2.1.1 z
      have hk : KT T n a.1.2 = 0 := Classical.byContradiction (fun u => hz ⟨z, u⟩)
      rw [m0, if_neg (by decide), m4, if_pos (tk0.mpr hk)]
      exact ho
    · rw [if_pos (h.2.2.1.b1 z)]
      exact ho
  intro f
  induction f with
  | zero => intro w a d h hd hz; exact ⟨w, d, stop w a d h hz, h, FrN.rf⟩
  | succ f ih =>
    intro w a d h hd hz
    unfold rAl at hz ⊢
    by_cases z : a.1.1 = 0 ∧ KT T n a.1.2 ≠ 0
    · rw [if_pos z] at hz ⊢
      obtain ⟨y, q⟩ := a
      obtain ⟨w1, d1, a1, a2, a3, a4⟩ := y203 hT h z.1 z.2
      obtain ⟨w2, d2, b1, b2, b3⟩ := ih w1 _ d1 a2 a4 hz
      have hd : d = dnq q := hd z.1
      refine ⟨w2, d2, fun o ho => e204_89 h.1.1 l473 _ ?_, b2, a3.tr b3⟩
      obtain ⟨m0, m1, m2, m3, m4, m5⟩ := h.2.2.1.1 z.1
      have hne : tkT (KT T n y.2) ≠ 0 := fun u => z.2 (tk0.mp u)
      rw [m0, if_neg (by decide), m4, if_neg hne, hd, a1, bI_r a2.1.1]
      exact b1 o ho
    · rw [if_neg z]
      exact ⟨w, d, stop w a d h z, h, FrN.rf⟩
end LNp
