/-! the reference reads rules: guards, then the readers -/
theorem ck185  : crk 185 [aR (some 473)] = 2 := rfl
theorem ck186 {u : Int} : crk 186 [aR (some 473), aI u] = 1 := rfl
theorem ck187 {u : Nat} : crk 187 [aR (some 473), aR (some u)] = 5 := rfl
theorem ck188 {u : Nat} : crk 188 [aR (some 473), aR (some u)] = 6 := rfl
theorem ck189 {u : Int} : crk 189 [aR (some 473), aI u] = 1 := rfl
theorem ck190 {u : Int} : crk 190 [aR (some 473), aI u] = 3 := rfl
theorem ck192 {u v : Int} : crk 192 [aR (some 473), aI u, aI v] = 3 := rfl
theorem ck193 {u : Int} : crk 193 [aR (some 473), aI u] = 1 := rfl
theorem ck194 {z : Int} : crk 194 [aR (some 473), aI z] = 7 + 8 * (7 - z).toNat := rfl
theorem ck195 {z : Int} : crk 195 [aR (some 473), aI z] = 8 + 8 * (7 - z).toNat := rfl
theorem ck196 {z : Int} : crk 196 [aR (some 473), aI z] = 9 + 8 * (7 - z).toNat := rfl
theorem ck197 {z : Int} : crk 197 [aR (some 473), aI z] = 10 + 8 * (7 - z).toNat := rfl
theorem ck198 {z : Int} : crk 198 [aR (some 473), aI z] = 11 + 8 * (7 - z).toNat := rfl
theorem ck199 {z : Int} : crk 199 [aR (some 473), aI z] = 12 + 8 * (7 - z).toNat := rfl
theorem gr194_190 {u z : Int} {x : Option Out} : gP (Nat.blt (crk 190 [aR (some 473), aI u]) (crk 194 [aR (some 473), aI z]) = true) x = x := gP_t (bltT (by rw [ck190, ck194]; omega))
theorem gr194_188 {u : Nat} {z : Int} {x : Option Out} : gP (Nat.blt (crk 188 [aR (some 473), aR (some u)]) (crk 194 [aR (some 473), aI z]) = true) x = x := gP_t (bltT (by rw [ck188, ck194]; omega))
theorem gr194_186 {u z : Int} {x : Option Out} : gP (Nat.blt (crk 186 [aR (some 473), aI u]) (crk 194 [aR (some 473), aI z]) = true) x = x := gP_t (bltT (by rw [ck186, ck194]; omega))
theorem gr194_192 {u v z : Int} {x : Option Out} : gP (Nat.blt (crk 192 [aR (some 473), aI u, aI v]) (crk 194 [aR (some 473), aI z]) = true) x = x := gP_t (bltT (by rw [ck192, ck194]; omega))
theorem gr194_193 {u z : Int} {x : Option Out} : gP (Nat.blt (crk 193 [aR (some 473), aI u]) (crk 194 [aR (some 473), aI z]) = true) x = x := gP_t (bltT (by rw [ck193, ck194]; omega))
theorem gr194_185 {z : Int} {x : Option Out} : gP (Nat.blt (crk 185 [aR (some 473)]) (crk 194 [aR (some 473), aI z]) = true) x = x := gP_t (bltT (by rw [ck185, ck194]; omega))
theorem gr195_194 {z : Int} {x : Option Out} : gP (Nat.blt (crk 194 [aR (some 473), aI z]) (crk 195 [aR (some 473), aI z]) = true) x = x := gP_t (bltT (by rw [ck194, ck195]; omega))
theorem gr195_189 {u z : Int} {x : Option Out} : gP (Nat.blt (crk 189 [aR (some 473), aI u]) (crk 195 [aR (some 473), aI z]) = true) x = x := gP_t (bltT (by rw [ck189, ck195]; omega))
theorem gr195_185 {z : Int} {x : Option Out} : gP (Nat.blt (crk 185 [aR (some 473)]) (crk 195 [aR (some 473), aI z]) = true) x = x := gP_t (bltT (by rw [ck185, ck195]; omega))
theorem gr195_193 {u z : Int} {x : Option Out} : gP (Nat.blt (crk 193 [aR (some 473), aI u]) (crk 195 [aR (some 473), aI z]) = true) x = x := gP_t (bltT (by rw [ck193, ck195]; omega))
theorem gr196_195 {z : Int} {x : Option Out} : gP (Nat.blt (crk 195 [aR (some 473), aI z]) (crk 196 [aR (some 473), aI z]) = true) x = x := gP_t (bltT (by rw [ck195, ck196]; omega))
theorem gr196_189 {u z : Int} {x : Option Out} : gP (Nat.blt (crk 189 [aR (some 473), aI u]) (crk 196 [aR (some 473), aI z]) = true) x = x := gP_t (bltT (by rw [ck189, ck196]; omega))
theorem gr196_185 {z : Int} {x : Option Out} : gP (Nat.blt (crk 185 [aR (some 473)]) (crk 196 [aR (some 473), aI z]) = true) x = x := gP_t (bltT (by rw [ck185, ck196]; omega))
theorem gr196_193 {u z : Int} {x : Option Out} : gP (Nat.blt (crk 193 [aR (some 473), aI u]) (crk 196 [aR (some 473), aI z]) = true) x = x := gP_t (bltT (by rw [ck193, ck196]; omega))
theorem gr197_187 {u : Nat} {z : Int} {x : Option Out} : gP (Nat.blt (crk 187 [aR (some 473), aR (some u)]) (crk 197 [aR (some 473), aI z]) = true) x = x := gP_t (bltT (by rw [ck187, ck197]; omega))
theorem gr197_196 {z : Int} {x : Option Out} : gP (Nat.blt (crk 196 [aR (some 473), aI z]) (crk 197 [aR (some 473), aI z]) = true) x = x := gP_t (bltT (by rw [ck196, ck197]; omega))
theorem gr197_189 {u z : Int} {x : Option Out} : gP (Nat.blt (crk 189 [aR (some 473), aI u]) (crk 197 [aR (some 473), aI z]) = true) x = x := gP_t (bltT (by rw [ck189, ck197]; omega))
theorem gr197_186 {u z : Int} {x : Option Out} : gP (Nat.blt (crk 186 [aR (some 473), aI u]) (crk 197 [aR (some 473), aI z]) = true) x = x := gP_t (bltT (by rw [ck186, ck197]; omega))
theorem gr197_185 {z : Int} {x : Option Out} : gP (Nat.blt (crk 185 [aR (some 473)]) (crk 197 [aR (some 473), aI z]) = true) x = x := gP_t (bltT (by rw [ck185, ck197]; omega))
theorem gr197_193 {u z : Int} {x : Option Out} : gP (Nat.blt (crk 193 [aR (some 473), aI u]) (crk 197 [aR (some 473), aI z]) = true) x = x := gP_t (bltT (by rw [ck193, ck197]; omega))
theorem gr198_197 {z : Int} {x : Option Out} : gP (Nat.blt (crk 197 [aR (some 473), aI z]) (crk 198 [aR (some 473), aI z]) = true) x = x := gP_t (bltT (by rw [ck197, ck198]; omega))
theorem gr198_187 {u : Nat} {z : Int} {x : Option Out} : gP (Nat.blt (crk 187 [aR (some 473), aR (some u)]) (crk 198 [aR (some 473), aI z]) = true) x = x := gP_t (bltT (by rw [ck187, ck198]; omega))
theorem gr198_185 {z : Int} {x : Option Out} : gP (Nat.blt (crk 185 [aR (some 473)]) (crk 198 [aR (some 473), aI z]) = true) x = x := gP_t (bltT (by rw [ck185, ck198]; omega))
theorem gr198_193 {u z : Int} {x : Option Out} : gP (Nat.blt (crk 193 [aR (some 473), aI u]) (crk 198 [aR (some 473), aI z]) = true) x = x := gP_t (bltT (by rw [ck193, ck198]; omega))
theorem gr199_189 {u z : Int} {x : Option Out} : gP (Nat.blt (crk 189 [aR (some 473), aI u]) (crk 199 [aR (some 473), aI z]) = true) x = x := gP_t (bltT (by rw [ck189, ck199]; omega))
theorem gr199_186 {u z : Int} {x : Option Out} : gP (Nat.blt (crk 186 [aR (some 473), aI u]) (crk 199 [aR (some 473), aI z]) = true) x = x := gP_t (bltT (by rw [ck186, ck199]; omega))
theorem gr199_198 {z : Int} {x : Option Out} : gP (Nat.blt (crk 198 [aR (some 473), aI z]) (crk 199 [aR (some 473), aI z]) = true) x = x := gP_t (bltT (by rw [ck198, ck199]; omega))
theorem gr199_187 {u : Nat} {z : Int} {x : Option Out} : gP (Nat.blt (crk 187 [aR (some 473), aR (some u)]) (crk 199 [aR (some 473), aI z]) = true) x = x := gP_t (bltT (by rw [ck187, ck199]; omega))
theorem gr199_185 {z : Int} {x : Option Out} : gP (Nat.blt (crk 185 [aR (some 473)]) (crk 199 [aR (some 473), aI z]) = true) x = x := gP_t (bltT (by rw [ck185, ck199]; omega))
theorem gr199_193 {u z : Int} {x : Option Out} : gP (Nat.blt (crk 193 [aR (some 473), aI u]) (crk 199 [aR (some 473), aI z]) = true) x = x := gP_t (bltT (by rw [ck193, ck199]; omega))
theorem gr194_199 {z : Int} {x : Option Out} (h : z ≤ 5) : gP (Nat.blt (crk 199 [aR (some 473), aI (z + 1)]) (crk 194 [aR (some 473), aI z]) = true) x = x := gP_t (bltT (by rw [ck199, ck194]; omega))
def FrH (w w' : Wd) : Prop := FrI (fun c => c = 473) w w' ∧ ∀ i, ¬ (A5 i ∨ i = 24 ∨ i = 25) → gI w' 473 i = gI w 473 i
theorem FrH.rf {w : Wd} : FrH w w := ⟨FrI.rf, fun _ _ => rfl⟩
theorem FrH.tr {a b c : Wd} (h : FrH a b) (h' : FrH b c) : FrH a c := ⟨h.1.tr h'.1, fun i q => (h'.2 i q).trans (h.2 i q)⟩
theorem Fr5.H {w w' : Wd} (h : Fr5 w w') : FrH w w' := ⟨h.1, fun i hi => h.2 i (fun z => hi (Or.inl z))⟩
theorem FrH.G {S : Bool} {w w' : Wd} (h : FrH w w') : FrG S w w' := by
  have := sgR_c S
  exact ⟨h.1.wk (fun c hc => Or.inl hc), h.2, fun i _ => by rw [h.1.g (by decide)], fun i _ => by rw [h.1.g (by omega)]⟩
section RC
variable {T : Row} {n M : Nat} {S : Bool} {w : Wd} {b : Nat} {x : PZ} {y : LZ}
theorem XT.H5 {w' : Wd} (h : XT w T n) (f : FrH w w') : XT w' T n := h.ext (f.1.LR h.1) (f.2 19 (by unfold A5; omega)) (f.1.g (by decide))
theorem h186 {c : Int} (hX : XT w T n) (hB : BM T n M w y.1 y.2) (hc : c ≠ 0) : ∃ w', F186 473 c w = r0 w' ∧ BM T n M w' (lFl c y).1 (lFl c y).2 ∧ FrH w w' := by
  unfold lFl
  by_cases z : y.1 = 0
  · rw [if_pos z]
    have e22 : gI (pI w 473 24 c) 473 22 = sT T n y.2 := by rw [gI_c (by decide)]; exact (hB.1 z).2.1
    refine ⟨pI (pI w 473 24 c) 473 25 (sT T n y.2), e186 hX.1 l473 _ (by rw [(hB.1 z).1, if_pos rfl, e22]), ⟨fun u => absurd u hc, fun _ => ⟨by rw [gI_c (by decide), gI_s], gI_s⟩, hB.2.2⟩, (FrI.p (A := fun c => c = 473) rfl).pp rfl, fun i hi => by rw [gI_c (fun e => hi (Or.inr (Or.inr e))), gI_c (fun e => hi (Or.inr (Or.inl e)))]⟩
  · rw [if_neg z]
    exact ⟨w, e186 hX.1 l473 _ (if_neg (by rw [(hB.2.1 z).1]; exact z)), hB, FrH.rf⟩
theorem h185 (hT : TK (KT T n) (VT T n) M) (hX : XT w T n) (hB : BM T n M w y.1 y.2) (z : y.1 = 0) (hk : KT T n y.2 ≠ 0) : ∃ w', F185 473 w = r0 w' ∧ BM T n M w' 0 (y.2 + 1) ∧ FrH w w' := by
  have hj := hT.lt hk
  obtain ⟨w', a1, a2, a3⟩ := y185s hX (hB.1 z).2 hk
  exact ⟨w', a1, ⟨fun _ => ⟨by rw [a3.2 24 (by unfold A5; omega)]; exact (hB.1 z).1, a2⟩, fun u => absurd rfl u, hj⟩, a3.H⟩
/-- a number, not gone over -/
theorem h191 {lo hi : Int} (hT : TK (KT T n) (VT T n) M) (hX : XT w T n) (hB : BM T n M w y.1 y.2) : ∃ w' v, F191 473 lo hi w = rI v w' ∧ FrH w w' ∧
    ((lNm (KT T n) (VT T n) lo hi y).1 = 0 → w' = w ∧ v = VT T n y.2) ∧ ((lNm (KT T n) (VT T n) lo hi y).1 ≠ 0 → BM T n M w' (lNm (KT T n) (VT T n) lo hi y).1 y.2 ∧ (lNm (KT T n) (VT T n) lo hi y).2 = y.2) := by
  have hn := hX.2.2.1
  have hh := e191 (a0 := 473) (x1 := lo) (x2 := hi) hX.1 l473
  unfold lNm
  by_cases z : y.1 = 0
  · obtain ⟨m0, m1, m2, m3, m4, m5⟩ := hB.1 z
    have hk2 := KT_n2 (T := T) (n := n) (j := y.2)
    obtain ⟨wb, b1, b2, b3⟩ := h186 (c := 2) hX hB (by decide)
    unfold lFl at b2
    rw [if_pos z] at b2
    have n2 : s191_54 473 lo hi w = rI 0 wb := by
      refine e191_54 hX.1 l473 _ ?_
      rw [b1, b0_r (b3.1.LR hX.1), if_pos (by rw [(b2.2.1 (show (2 : Int) ≠ 0 by decide)).1]; exact (show (2 : Int) ≠ 0 by decide))]
    rw [if_neg (fun u => u z)]
    by_cases z1 : KT T n y.2 ≠ 1 ∧ KT T n y.2 ≠ 2
    · rw [if_pos z1]
      obtain ⟨wa, a1, a2, a3⟩ := h186 (c := 1) hX hB (by decide)
      unfold lFl at a2
      rw [if_pos z] at a2
      refine ⟨wa, 0, hh _ ?_, a3, fun u => absurd (show (1 : Int) = 0 from u) (by decide), fun _ => ⟨a2, rfl⟩⟩
      rw [m0, if_pos rfl, m4, if_neg (fun u => by have := hk2.mp u; omega), a1, b0_r (a3.1.LR hX.1), if_pos (by rw [(a2.2.1 (show (1 : Int) ≠ 0 by decide)).1]; exact (show (1 : Int) ≠ 0 by decide))]
    · rw [if_neg z1]
      have hkk : KT T n y.2 = 1 ∨ KT T n y.2 = 2 := by omega
      obtain ⟨d1, d2, d3⟩ := KT_num hkk
      have hE : ET T n y.2 = eT T n (sT T n y.2) := by unfold ET; rw [if_pos d1]
      have eb := eT_b (T := T) d1
      have e1 : wr (gI w 473 23 - gI w 473 22) = ((eT T n (sT T n y.2) - sT T n y.2 : Nat) : Int) := by rw [m1, m2, hE, wrd (by omega) (by omega)]; omega
      have pre : ∀ o, (if 4 < ((eT T n (sT T n y.2) - sT T n y.2 : Nat) : Int) then s191_54 473 lo hi w else (if gI w 473 21 < lo then s191_54 473 lo hi w else (if gI w 473 21 ≤ hi then (if gI w 473 24 ≠ 0 then rI 0 w else rI (gI w 473 21) w) else s191_54 473 lo hi w))) = some o → F191 473 lo hi w = some o := by
        intro o ho
        refine hh _ ?_
        rw [m0, if_pos rfl, m4, if_pos (hk2.mpr hkk), e1]
        rw [m0] at ho
        exact ho
      by_cases z2 : KT T n y.2 = 1
      · have hv := m5 z2
        have h4 := (KT_1 z2).2
        by_cases z3 : lo ≤ VT T n y.2 ∧ VT T n y.2 ≤ hi
        · rw [if_pos ⟨z2, z3⟩]
          refine ⟨w, VT T n y.2, pre _ ?_, FrH.rf, fun _ => ⟨rfl, rfl⟩, fun u => absurd rfl u⟩
          rw [if_neg (by omega), hv, if_neg (by omega), if_pos z3.2, m0, if_neg (by decide)]
        · rw [if_neg (fun u => z3 u.2)]
          refine ⟨wb, 0, pre _ ?_, b3, fun u => absurd (show (2 : Int) = 0 from u) (by decide), fun _ => ⟨b2, rfl⟩⟩
          rw [if_neg (by omega), hv, n2]
          by_cases u : VT T n y.2 < lo
          · rw [if_pos u]
          · rw [if_neg u, if_neg (fun q => z3 ⟨by omega, q⟩)]
      · have k2 : KT T n y.2 = 2 := by omega
        have h4 := d3.mp k2
        rw [if_neg (fun u => z2 u.1)]
        refine ⟨wb, 0, pre _ ?_, b3, fun u => absurd (show (2 : Int) = 0 from u) (by decide), fun _ => ⟨b2, rfl⟩⟩
        rw [if_pos (by omega), n2]
  · rw [if_pos z]
    refine ⟨w, 0, hh _ (if_neg (by rw [(hB.2.1 z).1]; exact z)), FrH.rf, fun u => absurd u z, fun _ => ⟨hB, rfl⟩⟩
theorem h192 {lo hi : Int} (hT : TK (KT T n) (VT T n) M) (hX : XT w T n) (hB : BM T n M w y.1 y.2) : ∃ w' v, F192 473 lo hi w = rI v w' ∧ BM T n M w' (lNm (KT T n) (VT T n) lo hi y).1 (lNm (KT T n) (VT T n) lo hi y).2 ∧ FrH w w' ∧ ((lNm (KT T n) (VT T n) lo hi y).1 = 0 → v = VT T n y.2) := by
  obtain ⟨w1, v, a1, a2, a3, a4⟩ := h191 (lo := lo) (hi := hi) hT hX hB
  have hX1 := hX.H5 a2
  by_cases z : (lNm (KT T n) (VT T n) lo hi y).1 = 0
  · obtain ⟨e1, e2⟩ := a3 z
    subst e1
    obtain ⟨u1, u2⟩ := lNm_s z
    have hv := lNm_v z
    obtain ⟨w2, b1, b2, b3⟩ := h185 hT hX hB u1 (by rw [hv.1]; decide)
    refine ⟨w2, v, e192 hX.1 l473 _ ?_, by rw [z, u2]; exact b2, b3, fun _ => e2⟩
    rw [a1, bI_r hX.1, (hB.1 u1).1, if_neg (by decide), b1, b0_r (b3.1.LR hX.1)]
  · obtain ⟨e1, e2⟩ := a4 z
    refine ⟨w1, v, e192 hX.1 l473 _ ?_, by rw [e2]; exact e1, a2, fun u => absurd u z⟩
    rw [a1, bI_r hX1.1, if_pos (by rw [(e1.2.1 z).1]; exact z)]
theorem RMx.to {w' : Wd} {f : Int} {j c : Nat} (h : RMx T n M S w b x) (f5 : FrH w w') (hB : BM T n M w' f j) (hc : f = 0 → x.1 = 0 ∧ x.2.2.1 + c ≤ j) : RMx T n M S w' c (f, j, x.2.2) := by
  obtain ⟨h1, h2, h3, h4, h5⟩ := h
  have hs := sgR_c S
  refine ⟨h1.H5 f5, h2.ext (fun c _ _ => by rw [f5.1.R]), ⟨by rw [f5.2 27 (by unfold A5; omega)]; exact h3.1, by rw [f5.1.R]; exact h3.2⟩, hB, fun z => ?_⟩
  obtain ⟨z1, z2⟩ := hc z
  obtain ⟨c1, c2, c3⟩ := h5 z1
  exact ⟨z2, by rw [f5.1.g (by decide)]; exact c2, fun i hi => by rw [f5.1.g (by omega)]; exact c3 i hi⟩
/-- behind a fault nothing is done -/
theorem v189 {c : Int} (H : LR w) (hb : gI w 473 24 ≠ 0) : F189 473 c w = rI 0 w := e189 H l473 _ (if_pos hb)
theorem v187 {t : Nat} (H : LR w) (ht : t < 23) (hb : gI w 473 24 ≠ 0) : F187 473 (STR + t) w = rI 0 w := e187 H l473 (hS ht) _ (by
  rw [if_pos hb]
  exact e187_39 H l473 (hS ht) _ (by rw [if_pos rfl, gP_t (by decide)]))
theorem v194 {c : Int} (H : LR w) (hb : gI w 473 24 ≠ 0) : F194 473 c w = r0 w := e194 H l473 _ (if_neg hb)
theorem v195 {c : Int} (H : LR w) (hb : gI w 473 24 ≠ 0) : F195 473 c w = r0 w := e195 H l473 _ (by
  rw [gr195_194, v194 H hb, b0_r H]
  exact e195_5 H l473 _ (by rw [gr195_189, v189 H hb, bI_r H, if_neg (by decide), gr195_189, v189 H hb, bI_r H, if_pos rfl]))
theorem v196 {c : Int} (H : LR w) (hb : gI w 473 24 ≠ 0) : F196 473 c w = r0 w := e196 H l473 _ (by
  rw [gr196_195, v195 H hb, b0_r H]
  exact e196_5 H l473 _ (by rw [gr196_189, v189 H hb, bI_r H, if_neg (by decide), gr196_189, v189 H hb, bI_r H, if_pos rfl]))
theorem v197 {c : Int} (H : LR w) (hb : gI w 473 24 ≠ 0) : F197 473 c w = r0 w := e197 H l473 _ (e197_2 H l473 _ (by
  rw [gr197_187, v187 H (by decide) hb, bI_r H, if_pos rfl, gr197_196, v196 H hb, b0_r H, gr197_189, v189 H hb, bI_r H, if_neg (by decide), gr197_189, v189 H hb, bI_r H, if_pos rfl]
  exact e197_96 H l473 _ (if_pos (Int.le_refl _))))
theorem v198 {c : Int} (H : LR w) (hb : gI w 473 24 ≠ 0) : F198 473 c w = r0 w := e198 H l473 _ (by
  rw [gr198_197, v197 H hb, b0_r H]
  exact e198_5 H l473 _ (by rw [gr198_187, v187 H (by decide) hb, bI_r H, if_pos rfl]))
theorem v199 {c : Int} (H : LR w) (hb : gI w 473 24 ≠ 0) : F199 473 c w = r0 w := e199 H l473 _ (if_neg hb)
end RC
/-- a reader of the reference does what the function says -/
def CM (T : Row) (n M : Nat) (S : Bool) (X : PZ → PZ) (F : Wd → Option Out) : Prop := ∀ (w : Wd) (b : Nat) (x : PZ), RMx T n M S w (b + 1) x → ∃ w', F w = r0 w' ∧ RMx T n M S w' (b + 1) (X x) ∧ FrG S w w'
section CM
variable {T : Row} {n M : Nat} {S : Bool} {E : PZ → PZ} {c : Int}
theorem pz {x : PZ} (h : x.1 = 0) : x = (0, x.2) := by rw [← h]
theorem ec_nn {v : Int} (h : 0 ≤ v) : ec v = -1 - v := if_pos h
theorem ec_w {k : Int} (h : 109 ≤ k ∧ k ≤ 115) : ec (wr (-1 - (k - 109))) = k := by
  rw [wrd (by omega) (by omega)]
  unfold ec
  rw [if_neg (by omega), if_pos (by omega)]
  omega
theorem y194 (hT : TK (KT T n) (VT T n) M) (hc : 0 ≤ c ∧ c ≤ 5) (hm : Mo M E) (hE : CM T n M S E (F199 473 (c + 1))) : CM T n M S (pPart (KT T n) (VT T n) S E) (F194 473 c) := by
  intro w b x h
  have H := h.H
  have hh := e194 (a0 := 473) (x1 := c) H l473
  unfold pPart
  by_cases z : x.1 = 0
  · rw [if_neg (fun u => u z)]
    obtain ⟨m1, m2, m3, m4, m5⟩ := h.m z
    have hb0 := h.b0 z
    have hn2 := KT_n2 (T := T) (n := n) (j := x.2.1)
    have hn1 := KT_n1 (T := T) (n := n) (j := x.2.1)
    have hcn := (h.2.2.2.2 z).1
    have num : (KT T n x.2.1 = 1 ∨ KT T n x.2.1 = 2) → ∀ o, bI (F192 473 0 9999 w) (fun n25 w26 => b0 (F193 473 n25 w26) (fun w29 => r0 w29)) = some o → F194 473 c w = some o := by
      intro hk o ho
      refine hh _ ?_
      rw [hb0, if_pos rfl, m4, if_neg (fun u => u (hn2.mpr hk)), gr194_192]
      simp only [gr194_193]
      exact ho
    by_cases z1 : KT T n x.2.1 = 1
    · rw [if_pos z1]
      have hv := hT.2.2.2.1 _ z1
      obtain ⟨w1, v, a1, a2, a3, a4⟩ := h192 (lo := 0) (hi := 9999) (y := (x.1, x.2.1)) hT h.1 h.2.2.2.1
      have en : lNm (KT T n) (VT T n) 0 9999 (x.1, x.2.1) = (0, x.2.1 + 1) := by
        unfold lNm
        rw [if_neg (fun u => u z), if_neg (fun u => u.1 z1), if_pos ⟨z1, hv.1, hv.2⟩]
      rw [en] at a2 a4
      have hv' : v = VT T n x.2.1 := a4 rfl
      have r1 : RMx T n M S w1 (b + 1 + 1) (pGo x) := by
        rw [pGo_0 z]
        exact h.to a3 a2 (fun _ => ⟨z, by omega⟩)
      obtain ⟨w2, b1, b2, b3⟩ := y193 (g := VT T n x.2.1) hT r1
      rw [ec_nn hv.1] at b2
      refine ⟨w2, num (Or.inl z1) _ ?_, b2, a3.G.tr b3⟩
      rw [a1, bI_r r1.H, hv', b1, b0_r b2.H]
    rw [if_neg z1]
    by_cases z2 : KT T n x.2.1 = 2
    · rw [if_pos z2]
      obtain ⟨w1, v, a1, a2, a3, a4⟩ := h192 (lo := 0) (hi := 9999) (y := (x.1, x.2.1)) hT h.1 h.2.2.2.1
      have en : lNm (KT T n) (VT T n) 0 9999 (x.1, x.2.1) = (2, x.2.1) := by
        unfold lNm
        rw [if_neg (fun u => u z), if_neg (fun u => u.2 z2), if_neg (fun u => z1 u.1)]
      rw [en] at a2 a4
      have r1 : RMx T n M S w1 (b + 1 + 1) (pFl 2 x) := by
        rw [pFl_0 z]
        exact h.to a3 a2 (fun u => absurd (show (2 : Int) = 0 from u) (by decide))
      obtain ⟨w2, b1, b2, b3⟩ := y193 (g := v) hT r1
      rw [pAd_n (pFl_f (by decide))] at b2
      refine ⟨w2, num (Or.inr z2) _ ?_, b2, a3.G.tr b3⟩
      rw [a1, bI_r r1.H, b1, b0_r b2.H]
    rw [if_neg z2]
    have nn2 : tkT (KT T n x.2.1) ≠ 2 := fun u => by have := hn2.mp u; omega
    have wrdC : 100 ≤ KT T n x.2.1 → ∀ o, bI (F188 473 (vaR S) w) (fun n17 w18 => (if n17 ≠ -1 then s194_56 (crk 194 [aR (some 473), aI c]) 473 c n17 w18 else b0 (F186 473 3 w18) (fun w21 => s194_56 (crk 194 [aR (some 473), aI c]) 473 c n17 w21))) = some o → F194 473 c w = some o := by
      intro hk o ho
      obtain ⟨l1, l2, l3⟩ := l474
      refine hh _ ?_
      rw [hb0, if_pos rfl, m4, if_pos nn2, if_neg (fun u => u (hn1.mpr hk)), h.2.2.1.2]
      cases S
      · rw [show vaR false = 475 from rfl, gA_t l2, gr194_188]
        simp only [gr194_186]
        exact ho
      · rw [show vaR true = 476 from rfl, gA_t l3, gr194_188]
        simp only [gr194_186]
        exact ho
    by_cases z3 : 109 ≤ KT T n x.2.1 ∧ KT T n x.2.1 ≤ vLim S
    · rw [if_pos z3]
      have hl : vLim S ≤ 115 := by cases S <;> decide
      obtain ⟨w1, a1, a2, a3⟩ := y193 (g := wr (-1 - (KT T n x.2.1 - 109))) hT h
      rw [ec_w ⟨z3.1, by omega⟩] at a2
      have p0 : (pAd (KT T n x.2.1) x).1 = 0 := by rw [pAd_f]; exact z
      obtain ⟨w2, b1, b2, b3⟩ := y185x hT a2 p0 (by rw [pAd_j]; omega)
      refine ⟨w2, wrdC (by omega) _ ?_, b2, a3.tr b3⟩
      rw [y188 h z, bI_r H, if_pos z3, if_pos (by omega)]
      refine e194_56 H l473 _ ?_
      rw [gr194_193, a1, b0_r a2.H, a2.b0 p0, if_neg (by decide), gr194_185, b1, b0_r b2.H]
    rw [if_neg z3]
    by_cases z4 : 100 ≤ KT T n x.2.1
    · rw [if_pos z4]
      obtain ⟨w1, a1, a2, a3⟩ := y186 (c := 3) h (by decide)
      have hf : (pFl 3 x).1 ≠ 0 := pFl_f (by decide)
      obtain ⟨w2, b1, b2, b3⟩ := y193 (g := wr (-1 - (-1))) hT (a2.bad (c := b + 1 + 1) hf)
      rw [pAd_n hf] at b2
      refine ⟨w2, wrdC z4 _ ?_, b2, a3.tr b3⟩
      rw [y188 h z, bI_r H, if_neg z3, if_neg (by decide), a1, b0_r a2.H]
      refine e194_56 a2.H l473 _ ?_
      rw [gr194_193, b1, b0_r b2.H, if_pos (b2.b1 hf)]
    rw [if_neg z4]
    obtain ⟨w1, a1, a2, a3⟩ := y190 (c := 40) hT h (by decide)
    obtain ⟨w2, b1, b2, b3⟩ := hE w1 _ _ a2
    obtain ⟨w3, c1, c2, c3⟩ := y190 (c := 41) hT b2 (by decide)
    have ef : F194 473 c w = r0 w3 := by
      refine hh _ ?_
      rw [hb0, if_pos rfl, m4, if_pos nn2, if_pos (fun u => z4 (hn1.mp u)), gr194_190, a1, b0_r a2.H, wrd (by omega) (by omega), gr194_199 hc.2, b1, b0_r b2.H, gr194_190, c1, b0_r c2.H]
    refine ⟨w3, ef, ?_, (a3.tr b3).tr c3⟩
    by_cases z5 : KT T n x.2.1 = 40
    · rw [if_pos z5]
      have e40 : pSg (KT T n) 40 x = pGo x := by unfold pSg; rw [if_pos (ks_y z z5)]
      rw [e40] at c2
      exact c2
    · rw [if_neg z5]
      have e40 : pSg (KT T n) 40 x = pFl 1 x := by
        unfold pSg
        rw [if_neg (fun u => z5 (ks_t u).2)]
      have hf : (pFl 1 x).1 ≠ 0 := pFl_f (by decide)
      have e41 : pSg (KT T n) 41 (pFl 1 x) = pFl 1 x := by
        unfold pSg
        rw [ks_n hf, if_neg (by decide), pFl_n hf]
      rw [e40, (hm _).1 hf, e41] at c2
      exact c2
  · rw [if_pos z]
    exact ⟨w, v194 H (h.b1 z), h, FrG.rf⟩
/-- a loop over signs -/
theorem ylp {G : Wd → Option Out} {sg : Int → Bool} {X : PZ → PZ}
    (hend : ∀ (w : Wd) (b : Nat) (x : PZ), RMx T n M S w (b + 1) x → ¬ (x.1 = 0 ∧ sg (KT T n x.2.1) = true) → G w = r0 w)
    (hturn : ∀ (w : Wd) (b : Nat) (x : PZ), RMx T n M S w (b + 1) x → x.1 = 0 → sg (KT T n x.2.1) = true → ∃ w', Rf (G w') (G w) ∧ RMx T n M S w' (b + 1) (pAd (KT T n x.2.1) (X (pGo x))) ∧ FrG S w w') :
    ∀ (f : Nat) (w : Wd) (b : Nat) (x : PZ), RMx T n M S w (b + 1) x → ¬ ((lpP (KT T n) sg X f x).1 = 0 ∧ sg (KT T n (lpP (KT T n) sg X f x).2.1) = true) → ∃ w', G w = r0 w' ∧ RMx T n M S w' (b + 1) (lpP (KT T n) sg X f x) ∧ FrG S w w' := by
  intro f
  induction f with
  | zero => intro w b x h hz; exact ⟨w, hend w b x h hz, h, FrG.rf⟩
  | succ f ih =>
    intro w b x h hz
    unfold lpP at hz ⊢
    by_cases z : x.1 = 0 ∧ sg (KT T n x.2.1) = true
    · rw [if_pos z] at hz ⊢
      obtain ⟨w1, a1, a2, a3⟩ := hturn w b x h z.1 z.2
      obtain ⟨w2, b1, b2, b3⟩ := ih w1 b _ a2 hz
      exact ⟨w2, a1 _ b1, b2, a3.tr b3⟩
    · rw [if_neg z]
      exact ⟨w, hend w b x h z, h, FrG.rf⟩
theorem yturn {X : PZ → PZ} {F : Wd → Option Out} {w : Wd} {b : Nat} {x : PZ} {g : Int} (hT : TK (KT T n) (VT T n) M) (hX : CM T n M S X F) (h : RMx T n M S w (b + 1) x) (z : x.1 = 0) (hk : KT T n x.2.1 ≠ 0) (hg : ec g = KT T n x.2.1) :
    ∃ w1 w2 w3, F185 473 w = r0 w1 ∧ LR w1 ∧ F w1 = r0 w2 ∧ LR w2 ∧ F193 473 g w2 = r0 w3 ∧ RMx T n M S w3 (b + 1) (pAd (KT T n x.2.1) (X (pGo x))) ∧ FrG S w w3 := by
  obtain ⟨w1, a1, a2, a3⟩ := y185x hT h z hk
  obtain ⟨w2, b1, b2, b3⟩ := hX w1 _ _ a2
  obtain ⟨w3, c1, c2, c3⟩ := y193 (g := g) hT b2
  rw [hg] at c2
  exact ⟨w1, w2, w3, a1, a2.H, b1, b2.H, c1, c2, (a3.tr b3).tr c3⟩
theorem ks_f {c : Int} {x : PZ} (h : ¬ (x.1 = 0 ∧ KT T n x.2.1 = c)) : ks (KT T n) x c = false := by
  cases q : ks (KT T n) x c
  · rfl
  · exact absurd (ks_t q) h
theorem y195 (hT : TK (KT T n) (VT T n) M) (hm : Mo M E) (hP : CM T n M S (pPart (KT T n) (VT T n) S E) (F194 473 c)) : CM T n M S (pProd (KT T n) (VT T n) S E) (F195 473 c) := by
  intro w b x h
  obtain ⟨w1, a1, a2, a3⟩ := hP w b x h
  obtain ⟨w2, b1, b2, b3⟩ := ylp (T := T) (n := n) (M := M) (S := S) (G := fun v => s195_5 (crk 195 [aR (some 473), aI c]) 473 c v) (sg := is2 42 47) (X := pPart (KT T n) (VT T n) S E) (fun w b x h hz => e195_5 h.H l473 _ (by
    rw [gr195_189, y189 h (by decide), bI_r h.H, ks_f (fun u => hz ⟨u.1, is2_t.mpr (Or.inl u.2)⟩), if_neg (by decide), gr195_189, y189 h (by decide), bI_r h.H, ks_f (fun u => hz ⟨u.1, is2_t.mpr (Or.inr u.2)⟩), if_pos (by decide)])) (fun w b x h z1 z2 => by
    have q := is2_t.mp z2
    have hx : ∃ g, ec g = KT T n x.2.1 ∧ ∀ o, s195_39 (crk 195 [aR (some 473), aI c]) 473 c g w = some o → s195_5 (crk 195 [aR (some 473), aI c]) 473 c w = some o := by
      rcases q with q | q
      · refine ⟨-22, by rw [q]; rfl, fun o ho => e195_5 h.H l473 _ ?_⟩
        rw [gr195_189, y189 h (by decide), bI_r h.H, ks_y z1 q, if_pos (by decide)]
        refine e195_23 h.H l473 _ ?_
        rw [gr195_189, y189 h (by decide), bI_r h.H, ks_y z1 q, if_neg (by decide)]
        exact ho
      · refine ⟨-23, by rw [q]; rfl, fun o ho => e195_5 h.H l473 _ ?_⟩
        rw [gr195_189, y189 h (by decide), bI_r h.H, ks_f (fun u => by have := u.2; omega), if_neg (by decide), gr195_189, y189 h (by decide), bI_r h.H, ks_y z1 q, if_neg (by decide)]
        refine e195_23 h.H l473 _ ?_
        rw [gr195_189, y189 h (by decide), bI_r h.H, ks_f (fun u => by have := u.2; omega), if_pos (by decide)]
        exact ho
    obtain ⟨g, hg, key⟩ := hx
    obtain ⟨v1, v2, v3, c1, c2, c3, c4, c5, c6, c7⟩ := yturn hT hP h z1 (by omega) hg
    refine ⟨v3, fun o ho => key o (e195_39 h.H l473 _ ?_), c6, c7⟩
    rw [gr195_185, c1, b0_r c2, gr195_194, c3, b0_r c4, gr195_193, c5, b0_r c6.H]
    exact ho) 700 w1 b _ a2 (lp_end hT rfl (Mo.part hT hm) 700 _ (by have := hT.1; omega))
  refine ⟨w2, e195 h.H l473 _ ?_, b2, a3.tr b3⟩
  rw [gr195_194, a1, b0_r a2.H]
  exact b1
theorem y196 (hT : TK (KT T n) (VT T n) M) (hm : Mo M E) (hP : CM T n M S (pProd (KT T n) (VT T n) S E) (F195 473 c)) : CM T n M S (pSum (KT T n) (VT T n) S E) (F196 473 c) := by
  intro w b x h
  obtain ⟨w1, a1, a2, a3⟩ := hP w b x h
  obtain ⟨w2, b1, b2, b3⟩ := ylp (T := T) (n := n) (M := M) (S := S) (G := fun v => s196_5 (crk 196 [aR (some 473), aI c]) 473 c v) (sg := is2 43 45) (X := pProd (KT T n) (VT T n) S E) (fun w b x h hz => e196_5 h.H l473 _ (by
    rw [gr196_189, y189 h (by decide), bI_r h.H, ks_f (fun u => hz ⟨u.1, is2_t.mpr (Or.inl u.2)⟩), if_neg (by decide), gr196_189, y189 h (by decide), bI_r h.H, ks_f (fun u => hz ⟨u.1, is2_t.mpr (Or.inr u.2)⟩), if_pos (by decide)])) (fun w b x h z1 z2 => by
    have q := is2_t.mp z2
    have hx : ∃ g, ec g = KT T n x.2.1 ∧ ∀ o, s196_39 (crk 196 [aR (some 473), aI c]) 473 c g w = some o → s196_5 (crk 196 [aR (some 473), aI c]) 473 c w = some o := by
      rcases q with q | q
      · refine ⟨-20, by rw [q]; rfl, fun o ho => e196_5 h.H l473 _ ?_⟩
        rw [gr196_189, y189 h (by decide), bI_r h.H, ks_y z1 q, if_pos (by decide)]
        refine e196_23 h.H l473 _ ?_
        rw [gr196_189, y189 h (by decide), bI_r h.H, ks_y z1 q, if_neg (by decide)]
        exact ho
      · refine ⟨-21, by rw [q]; rfl, fun o ho => e196_5 h.H l473 _ ?_⟩
        rw [gr196_189, y189 h (by decide), bI_r h.H, ks_f (fun u => by have := u.2; omega), if_neg (by decide), gr196_189, y189 h (by decide), bI_r h.H, ks_y z1 q, if_neg (by decide)]
        refine e196_23 h.H l473 _ ?_
        rw [gr196_189, y189 h (by decide), bI_r h.H, ks_f (fun u => by have := u.2; omega), if_pos (by decide)]
        exact ho
    obtain ⟨g, hg, key⟩ := hx
    obtain ⟨v1, v2, v3, c1, c2, c3, c4, c5, c6, c7⟩ := yturn hT hP h z1 (by omega) hg
    refine ⟨v3, fun o ho => key o (e196_39 h.H l473 _ ?_), c6, c7⟩
    rw [gr196_185, c1, b0_r c2, gr196_195, c3, b0_r c4, gr196_193, c5, b0_r c6.H]
    exact ho) 700 w1 b _ a2 (lp_end hT rfl (Mo.prod hT hm) 700 _ (by have := hT.1; omega))
  refine ⟨w2, e196 h.H l473 _ ?_, b2, a3.tr b3⟩
  rw [gr196_195, a1, b0_r a2.H]
  exact b1
end CM
