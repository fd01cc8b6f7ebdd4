/-! the reference reads rules, further -/
section CMf
variable {T : Row} {n M : Nat} {S : Bool} {E : PZ → PZ} {c : Int}
theorem wd6 : wdL.getD 6 [] = txB 22 ∧ wdL.getD 7 [] = txB 21 ∧ wdL.getD 8 [] = txB 20 := by decide +kernel
theorem pN_st {K : Nat → Int} : ∀ (k : Nat) (x : PZ), (pN K k x).1 < k → ks K (pN K k x).2 108 = false := by
  intro k
  induction k with
  | zero => intro x h; exact absurd h (Nat.not_lt_zero _)
  | succ k ih =>
    intro x h
    unfold pN at h ⊢
    by_cases z : ks K x 108 = true
    · rw [if_pos z] at h ⊢
      have h : (pN K k (pGo x)).1 + 1 < k + 1 := h
      exact ih _ (by omega)
    · rw [if_neg z]
      simpa using z
theorem y197n (hT : TK (KT T n) (VT T n) M) {r : Nat} (hr : r = crk 197 [aR (some 473), aI c]) : ∀ (f k : Nat) (w : Wd) (b : Nat) (x : PZ), k + f = 6 → RMx T n M S w (b + 1) x → ∃ w', Rf (s197_2 r 473 c ((k + (pN (KT T n) f x).1 : Nat) : Int) w') (s197_2 r 473 c k w) ∧ RMx T n M S w' (b + 1 + (pN (KT T n) f x).1) (pN (KT T n) f x).2 ∧ FrG S w w' := by
  intro f
  induction f with
  | zero =>
    intro k w b x hk h
    exact ⟨w, Rf.refl _, h, FrG.rf⟩
  | succ f ih =>
    intro k w b x hk h
    unfold pN
    by_cases z : ks (KT T n) x 108 = true
    · rw [if_pos z]
      obtain ⟨z1, z2⟩ := ks_t z
      obtain ⟨w1, a1, a2, a3⟩ := y185x hT h z1 (by omega)
      obtain ⟨w2, b1, b2, b3⟩ := ih (k + 1) w1 (b + 1) _ (by omega) a2
      have e := y187 (k := 8) (t := 20) (by decide) wd6.2.2 (by decide) h
      rw [show ((100 + 8 : Nat) : Int) = 108 from rfl, z] at e
      refine ⟨w2, fun o ho => e197_2 h.H l473 _ ?_, ?_, a3.tr b3⟩
      · rw [hr, gr197_187, ← hr, e, bI_r h.H, if_neg (by decide), if_pos (by omega)]
        refine e197_23 h.H l473 _ ?_
        rw [h.b0 z1, if_neg (by decide), hr, gr197_185, ← hr, a1, b0_r a2.H, wrs (by omega)]
        refine b1 o ?_
        have ho : s197_2 r 473 c ((k + ((pN (KT T n) f (pGo x)).1 + 1) : Nat) : Int) w2 = some o := ho
        rw [show k + 1 + (pN (KT T n) f (pGo x)).1 = k + ((pN (KT T n) f (pGo x)).1 + 1) by omega]
        exact ho
      · show RMx T n M S w2 (b + 1 + ((pN (KT T n) f (pGo x)).1 + 1)) (pN (KT T n) f (pGo x)).2
        rw [show b + 1 + ((pN (KT T n) f (pGo x)).1 + 1) = b + 1 + 1 + (pN (KT T n) f (pGo x)).1 by omega]
        exact b2
    · rw [if_neg z]
      exact ⟨w, Rf.refl _, h, FrG.rf⟩
theorem y197a (hT : TK (KT T n) (VT T n) M) {r : Nat} (hr : r = crk 197 [aR (some 473), aI c]) : ∀ (m k : Nat) (w : Wd) (b : Nat) (x : PZ), k + m ≤ 10 → RMx T n M S w (b + 1 + m) x → ∃ w', s197_96 r 473 c ((k + m : Nat) : Int) k w = r0 w' ∧ RMx T n M S w' (b + 1) (pAs m x) ∧ FrG S w w' := by
  intro m
  induction m with
  | zero =>
    intro k w b x hk h
    exact ⟨w, e197_96 h.H l473 _ (if_pos (by omega)), h, FrG.rf⟩
  | succ m ih =>
    intro k w b x hk h
    obtain ⟨w1, a1, a2, a3⟩ := y193 (g := -28) hT (b := b + 1 + m) h
    rw [show ec (-28) = 108 from rfl] at a2
    obtain ⟨w2, b1, b2, b3⟩ := ih (k + 1) w1 b _ (by omega) a2
    refine ⟨w2, e197_96 h.H l473 _ ?_, b2, a3.tr b3⟩
    rw [if_neg (by omega), hr, gr197_193, ← hr, a1, b0_r a2.H, wrs (by omega), show k + (m + 1) = k + 1 + m by omega]
    exact b1
theorem y197 (hT : TK (KT T n) (VT T n) M) (hm : Mo M E) (hP : CM T n M S (pSum (KT T n) (VT T n) S E) (F196 473 c)) : CM T n M S (pNot (KT T n) (VT T n) S E) (F197 473 c) := by
  intro w b x h
  obtain ⟨r, hr⟩ : ∃ r, r = crk 197 [aR (some 473), aI c] := ⟨_, rfl⟩
  obtain ⟨w1, a1, a2, a3⟩ := y197n hT hr 6 0 w b x rfl h
  rw [Nat.zero_add] at a1
  have hm6 := (pN_m hT 6 x).2.2.2.2.2
  have hst := pN_st (K := KT T n) 6 x
  suffices key : ∃ w', s197_2 r 473 c (((pN (KT T n) 6 x).1 : Nat) : Int) w1 = r0 w' ∧ RMx T n M S w' (b + 1) (pNot (KT T n) (VT T n) S E x) ∧ FrG S w1 w' by
    obtain ⟨w', k1, k2, k3⟩ := key
    refine ⟨w', e197 h.H l473 _ ?_, k2, a3.tr k3⟩
    rw [← hr]
    exact a1 _ k1
  unfold pNot pN7
  generalize (pN (KT T n) 6 x).1 = m at *
  generalize (pN (KT T n) 6 x).2 = y at *
  have eN := y187 (k := 8) (t := 20) (by decide) wd6.2.2 (by decide) a2
  rw [show ((100 + 8 : Nat) : Int) = 108 from rfl] at eN
  by_cases z : ks (KT T n) y 108 = true
  · have h6 : m = 6 := by
      apply Classical.byContradiction
      intro u
      rw [hst (by omega)] at z
      cases z
    subst h6
    rw [if_pos z]
    obtain ⟨w2, b1, b2, b3⟩ := y186 (c := 2) a2 (by decide)
    have hf : (pFl 2 y).1 ≠ 0 := pFl_f (by decide)
    have hb := b2.b1 hf
    obtain ⟨w3, c1, c2, c3⟩ := y197a (c := c) hT hr 7 0 w2 b (pFl 2 y) (by decide) (b2.bad hf)
    rw [pAs_n hf] at c2
    rw [(Mo.test hT hm _).1 hf, pAs_n hf]
    refine ⟨w3, e197_2 a2.H l473 _ ?_, c2, b3.tr c3⟩
    rw [hr, gr197_187, ← hr, eN, z, bI_r a2.H, if_neg (by decide), if_neg (by decide), hr, gr197_186, ← hr, b1, b0_r b2.H]
    refine e197_23 b2.H l473 _ ?_
    rw [if_pos hb, wrs (by decide)]
    refine e197_2 b2.H l473 _ ?_
    rw [hr, gr197_187, ← hr, v187 b2.H (by decide) hb, bI_r b2.H, if_pos rfl, hr, gr197_196, ← hr, v196 b2.H hb, b0_r b2.H, hr, gr197_189, ← hr, v189 b2.H hb, bI_r b2.H, if_neg (by decide), hr, gr197_189, ← hr, v189 b2.H hb, bI_r b2.H, if_pos rfl]
    exact c1
  · have z : ks (KT T n) y 108 = false := by simpa using z
    rw [z, if_neg (by decide)]
    rw [show b + 1 + m = b + m + 1 by omega] at a2
    obtain ⟨w2, b1, b2, b3⟩ := hP w1 _ _ a2
    have pre : ∀ o, bI (F189 473 60 w2) (fun n7 w8 => (if n7 ≠ 0 then s197_63 r 473 c m w8 else gP (Nat.blt (crk 189 [aR (some 473), aI 61]) r = true) (bI (F189 473 61 w8) (fun n10 w11 => (if n10 = 0 then s197_96 r 473 c m 0 w11 else s197_63 r 473 c m w11))))) = some o → s197_2 r 473 c (m : Int) w1 = some o := by
      intro o ho
      refine e197_2 a2.H l473 _ ?_
      rw [hr, gr197_187, ← hr, eN, z, bI_r a2.H, if_pos (by decide), hr, gr197_196, ← hr, b1, b0_r b2.H, hr, gr197_189, ← hr]
      exact ho
    unfold pTest
    generalize pSum (KT T n) (VT T n) S E y = u at *
    by_cases q : u.1 = 0 ∧ is2 60 61 (KT T n u.2.1) = true
    · rw [if_pos q]
      have q2 := is2_t.mp q.2
      have hx : ∃ g, ec g = KT T n u.2.1 ∧ ∀ o, s197_79 r 473 c m g w2 = some o → s197_2 r 473 c (m : Int) w1 = some o := by
        rcases q2 with q2 | q2
        · refine ⟨-24, by rw [q2]; rfl, fun o ho => pre o ?_⟩
          rw [y189 b2 (by decide), bI_r b2.H, ks_y q.1 q2, if_pos (by decide)]
          refine e197_63 b2.H l473 _ ?_
          rw [hr, gr197_189, ← hr, y189 b2 (by decide), bI_r b2.H, ks_y q.1 q2, if_neg (by decide)]
          exact ho
        · refine ⟨-25, by rw [q2]; rfl, fun o ho => pre o ?_⟩
          rw [y189 b2 (by decide), bI_r b2.H, ks_f (fun v => by have := v.2; omega), if_neg (by decide), hr, gr197_189, ← hr, y189 b2 (by decide), bI_r b2.H, ks_y q.1 q2, if_neg (by decide)]
          refine e197_63 b2.H l473 _ ?_
          rw [hr, gr197_189, ← hr, y189 b2 (by decide), bI_r b2.H, ks_f (fun v => by have := v.2; omega), if_pos (by decide)]
          exact ho
      obtain ⟨g, hg, key⟩ := hx
      obtain ⟨v1, v2, v3, c1, c2, c3, c4, c5, c6, c7⟩ := yturn hT hP b2 q.1 (by omega) hg
      obtain ⟨w4, d1, d2, d3⟩ := y197a (c := c) hT hr m 0 v3 b _ (by omega) (by rw [show b + 1 + m = b + m + 1 by omega]; exact c6)
      rw [Nat.zero_add] at d1
      refine ⟨w4, key _ (e197_79 b2.H l473 _ ?_), d2, (b3.tr c7).tr d3⟩
      rw [hr, gr197_185, ← hr, c1, b0_r c2, hr, gr197_196, ← hr, c3, b0_r c4, hr, gr197_193, ← hr, c5, b0_r c6.H]
      exact d1
    · rw [if_neg q]
      obtain ⟨w4, d1, d2, d3⟩ := y197a (c := c) hT hr m 0 w2 b u (by omega) (by rw [show b + 1 + m = b + m + 1 by omega]; exact b2)
      rw [Nat.zero_add] at d1
      refine ⟨w4, pre _ ?_, d2, b3.tr d3⟩
      rw [y189 b2 (by decide), bI_r b2.H, ks_f (fun v => q ⟨v.1, is2_t.mpr (Or.inl v.2)⟩), if_neg (by decide), hr, gr197_189, ← hr, y189 b2 (by decide), bI_r b2.H, ks_f (fun v => q ⟨v.1, is2_t.mpr (Or.inr v.2)⟩), if_pos (by decide)]
      exact d1
theorem y198 (hT : TK (KT T n) (VT T n) M) (hm : Mo M E) (hP : CM T n M S (pNot (KT T n) (VT T n) S E) (F197 473 c)) : CM T n M S (pAnd (KT T n) (VT T n) S E) (F198 473 c) := by
  intro w b x h
  obtain ⟨w1, a1, a2, a3⟩ := hP w b x h
  have ew : ∀ (w : Wd) (b : Nat) (x : PZ), RMx T n M S w (b + 1) x → F187 473 (STR + 21) w = rI (b2i (ks (KT T n) x 107)) w := fun w b x h => y187 (k := 7) (t := 21) (by decide) wd6.2.1 (by decide) h
  obtain ⟨w2, b1, b2, b3⟩ := ylp (T := T) (n := n) (M := M) (S := S) (G := fun v => s198_5 (crk 198 [aR (some 473), aI c]) 473 c v) (sg := is1 107) (X := pNot (KT T n) (VT T n) S E) (fun w b x h hz => e198_5 h.H l473 _ (by
    rw [gr198_187, ew w b x h, bI_r h.H, ks_f (fun u => hz ⟨u.1, is1_t.mpr u.2⟩), if_pos (by decide)])) (fun w b x h z1 z2 => by
    have q := is1_t.mp z2
    obtain ⟨v1, v2, v3, c1, c2, c3, c4, c5, c6, c7⟩ := yturn (g := -26) hT hP h z1 (by omega) (by rw [q]; rfl)
    refine ⟨v3, fun o ho => e198_5 h.H l473 _ ?_, c6, c7⟩
    rw [gr198_187, ew w b x h, bI_r h.H, ks_y z1 q, if_neg (by decide), gr198_185, c1, b0_r c2, gr198_197, c3, b0_r c4, gr198_193, c5, b0_r c6.H]
    exact ho) 700 w1 b _ a2 (lp_end hT rfl (Mo.not hT hm) 700 _ (by have := hT.1; omega))
  refine ⟨w2, e198 h.H l473 _ ?_, b2, a3.tr b3⟩
  rw [gr198_197, a1, b0_r a2.H]
  exact b1
theorem y199l (hT : TK (KT T n) (VT T n) M) (hm : Mo M E) {m : Int} (hP : CM T n M S (pAnd (KT T n) (VT T n) S E) (F198 473 c)) : ∀ (w : Wd) (b : Nat) (x : PZ), RMx T n M S w (b + 1) x → ∃ w', s199_62 (crk 199 [aR (some 473), aI c]) 473 c m w = r0 w' ∧ RMx T n M S w' (b + 1) (pOr (KT T n) (VT T n) S E x) ∧ FrG S w w' := by
  intro w b x h
  obtain ⟨w1, a1, a2, a3⟩ := hP w b x h
  have ew : ∀ (w : Wd) (b : Nat) (x : PZ), RMx T n M S w (b + 1) x → F187 473 (STR + 22) w = rI (b2i (ks (KT T n) x 106)) w := fun w b x h => y187 (k := 6) (t := 22) (by decide) wd6.1 (by decide) h
  obtain ⟨w2, b1, b2, b3⟩ := ylp (T := T) (n := n) (M := M) (S := S) (G := fun v => s199_67 (crk 199 [aR (some 473), aI c]) 473 c m v) (sg := is1 106) (X := pAnd (KT T n) (VT T n) S E) (fun w b x h hz => e199_67 h.H l473 _ (by
    rw [gr199_187, ew w b x h, bI_r h.H, ks_f (fun u => hz ⟨u.1, is1_t.mpr u.2⟩), if_pos (by decide)])) (fun w b x h z1 z2 => by
    have q := is1_t.mp z2
    obtain ⟨v1, v2, v3, c1, c2, c3, c4, c5, c6, c7⟩ := yturn (g := -27) hT hP h z1 (by omega) (by rw [q]; rfl)
    refine ⟨v3, fun o ho => e199_67 h.H l473 _ ?_, c6, c7⟩
    rw [gr199_187, ew w b x h, bI_r h.H, ks_y z1 q, if_neg (by decide), gr199_185, c1, b0_r c2, gr199_198, c3, b0_r c4, gr199_193, c5, b0_r c6.H]
    exact ho) 700 w1 b _ a2 (lp_end hT rfl (Mo.and hT hm) 700 _ (by have := hT.1; omega))
  refine ⟨w2, e199_62 h.H l473 _ ?_, b2, a3.tr b3⟩
  rw [gr199_198, a1, b0_r a2.H]
  exact b1
/-- behind a fault the rest of an expression does nothing -/
theorem v199l {w : Wd} {m : Int} (H : LR w) (hb : gI w 473 24 ≠ 0) : s199_62 (crk 199 [aR (some 473), aI c]) 473 c m w = r0 w := e199_62 H l473 _ (by
  rw [gr199_198, v198 H hb, b0_r H]
  exact e199_67 H l473 _ (by rw [gr199_187, v187 H (by decide) hb, bI_r H, if_pos rfl]))
theorem y199p {w : Wd} {b : Nat} {x : PZ} (h : RMx T n M S w b x) (z : x.1 = 0) : Rf (s199_38 (crk 199 [aR (some 473), aI c]) 473 c (b2i (isPt (KT T n x.2.1))) w) (F199 473 c w) := by
  intro o ho
  obtain ⟨m1, m2, m3, m4, m5⟩ := h.m z
  have hn2 := KT_n2 (T := T) (n := n) (j := x.2.1)
  have hn1 := KT_n1 (T := T) (n := n) (j := x.2.1)
  have hp : isPt (KT T n x.2.1) = (decide (KT T n x.2.1 = 1) || decide (KT T n x.2.1 = 2) || decide (100 ≤ KT T n x.2.1) || decide (KT T n x.2.1 = 40)) := rfl
  refine e199 h.H l473 _ ?_
  rw [h.b0 z, if_pos rfl, m4]
  by_cases z1 : KT T n x.2.1 = 1 ∨ KT T n x.2.1 = 2
  · rw [if_pos (hn2.mpr z1)]
    have : isPt (KT T n x.2.1) = true := by
      rw [hp]
      rcases z1 with u | u <;> simp [u]
    rw [this] at ho
    exact ho
  rw [if_neg (fun u => z1 (hn2.mp u))]
  by_cases z2 : 100 ≤ KT T n x.2.1
  · rw [if_pos (hn1.mpr z2)]
    have : isPt (KT T n x.2.1) = true := by rw [hp]; simp [z2]
    rw [this] at ho
    exact ho
  rw [if_neg (fun u => z2 (hn1.mp u)), gr199_189, y189 h (by decide), bI_r h.H]
  have e1 : KT T n x.2.1 ≠ 1 := fun u => z1 (Or.inl u)
  have e2 : KT T n x.2.1 ≠ 2 := fun u => z1 (Or.inr u)
  by_cases z3 : KT T n x.2.1 = 40
  · have : isPt (KT T n x.2.1) = true := by rw [hp]; simp [z3]
    rw [this] at ho
    rw [ks_y z z3, if_neg (by decide)]
    exact ho
  · have : isPt (KT T n x.2.1) = false := by rw [hp]; simp [e1, e2, z3]; omega
    rw [this] at ho
    rw [ks_f (fun u => z3 u.2), if_pos (by decide)]
    exact ho
theorem y199s (hT : TK (KT T n) (VT T n) M) (hm : Mo M E) (hc : c < 6) (hP : CM T n M S (pAnd (KT T n) (VT T n) S E) (F198 473 c)) : CM T n M S (pOr (KT T n) (VT T n) S E) (F199 473 c) := by
  intro w b x h
  by_cases z : x.1 = 0
  · have hp := y199p (c := c) h z
    cases q : isPt (KT T n x.2.1)
    · rw [q] at hp
      rw [pOr_bad hT hm z q]
      obtain ⟨w1, a1, a2, a3⟩ := y186 (c := 1) h (by decide)
      have hb := a2.b1 (pFl_f (by decide))
      refine ⟨w1, hp _ (e199_38 h.H l473 _ ?_), a2, a3⟩
      rw [if_neg (by decide), gr199_186, a1, b0_r a2.H, v199l a2.H hb]
    · rw [q] at hp
      obtain ⟨w1, a1, a2, a3⟩ := y199l (m := b2i true) hT hm hP w b x h
      refine ⟨w1, hp _ (e199_38 h.H l473 _ ?_), a2, a3⟩
      rw [if_pos (by decide), if_pos (by omega)]
      exact a1
  · rw [(Mo.or hT hm x).1 z]
    exact ⟨w, v199 h.H (h.b1 z), h, FrG.rf⟩
theorem y199z : CM T n M S (pE (KT T n) (VT T n) S 0) (F199 473 6) := by
  intro w b x h
  unfold pE
  by_cases z : x.1 = 0
  · have hp := y199p (c := 6) h z
    cases q : isPt (KT T n x.2.1)
    · rw [q] at hp
      rw [if_neg (by decide)]
      obtain ⟨w1, a1, a2, a3⟩ := y186 (c := 1) h (by decide)
      have hb := a2.b1 (pFl_f (by decide))
      refine ⟨w1, hp _ (e199_38 h.H l473 _ ?_), a2, a3⟩
      rw [if_neg (by decide), gr199_186, a1, b0_r a2.H, v199l a2.H hb]
    · rw [q] at hp
      rw [if_pos rfl]
      obtain ⟨w1, a1, a2, a3⟩ := y186 (c := 2) h (by decide)
      have hb := a2.b1 (pFl_f (by decide))
      refine ⟨w1, hp _ (e199_38 h.H l473 _ ?_), a2, a3⟩
      rw [if_pos (by decide), if_neg (by decide), gr199_186, a1, b0_r a2.H, v199l a2.H hb]
  · rw [pFl_n z, pFl_n z, ite_self]
    exact ⟨w, v199 h.H (h.b1 z), h, FrG.rf⟩
theorem y199 (hT : TK (KT T n) (VT T n) M) : ∀ d : Nat, d ≤ 6 → CM T n M S (pE (KT T n) (VT T n) S d) (F199 473 (6 - (d : Int))) := by
  intro d
  induction d with
  | zero => intro _; exact y199z
  | succ d ih =>
    intro hd
    have hE := ih (by omega)
    have hm := Mo.e (S := S) hT d
    rw [show (6 : Int) - (d : Int) = (6 - ((d + 1 : Nat) : Int)) + 1 by omega] at hE
    exact y199s hT hm (by omega) (y198 hT hm (y197 hT hm (y196 hT hm (y195 hT hm (y194 hT (by omega) hm hE)))))
end CMf
