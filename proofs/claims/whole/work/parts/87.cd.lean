/-! the class reads rules: guards, then the readers -/
theorem bltT {a b : Nat} (h : a < b) : Nat.blt a b = true := Nat.ble_eq_true_of_le h
theorem gg59_43 {a : Nat} {z : Int} {x : Option Out} : gP (Nat.blt (crk 43 [aR (some a)]) (crk 59 [aR (some a), aI z]) = true) x = x := gP_t (bltT (by rw [ck43, ck59]; omega))
theorem gg59_60 {a : Nat} {z : Int} {x : Option Out} : gP (Nat.blt (crk 60 [aR (some a)]) (crk 59 [aR (some a), aI z]) = true) x = x := gP_t (bltT (by rw [ck60, ck59]; omega))
theorem gg59_44 {a : Nat} {z : Int} {x : Option Out} : gP (Nat.blt (crk 44 [aR (some a)]) (crk 59 [aR (some a), aI z]) = true) x = x := gP_t (bltT (by rw [ck44, ck59]; omega))
theorem gg59_41 {a : Nat} {u z : Int} {x : Option Out} : gP (Nat.blt (crk 41 [aR (some a), aI u]) (crk 59 [aR (some a), aI z]) = true) x = x := gP_t (bltT (by rw [ck41, ck59]; omega))
theorem gg59_42 {a : Nat} {z : Int} {x : Option Out} : gP (Nat.blt (crk 42 [aR (some a)]) (crk 59 [aR (some a), aI z]) = true) x = x := gP_t (bltT (by rw [ck42, ck59]; omega))
theorem gg59_45 {a : Nat} {u z : Int} {x : Option Out} : gP (Nat.blt (crk 45 [aR (some a), aI u]) (crk 59 [aR (some a), aI z]) = true) x = x := gP_t (bltT (by rw [ck45, ck59]; omega))
theorem gg59_46 {a : Nat} {u v z : Int} {x : Option Out} : gP (Nat.blt (crk 46 [aR (some a), aI u, aI v]) (crk 59 [aR (some a), aI z]) = true) x = x := gP_t (bltT (by rw [ck46, ck59]; omega))
theorem gg59_64 {a a2 : Nat} {u z : Int} {x : Option Out} : gP (Nat.blt (crk 64 [aR (some a2), aI u]) (crk 59 [aR (some a), aI z]) = true) x = x := gP_t (bltT (by rw [ck64, ck59]; omega))
theorem gg58_59 {a : Nat} {z : Int} {x : Option Out} : gP (Nat.blt (crk 59 [aR (some a), aI z]) (crk 58 [aR (some a), aI z]) = true) x = x := gP_t (bltT (by rw [ck59, ck58]; omega))
theorem gg58_42 {a : Nat} {z : Int} {x : Option Out} : gP (Nat.blt (crk 42 [aR (some a)]) (crk 58 [aR (some a), aI z]) = true) x = x := gP_t (bltT (by rw [ck42, ck58]; omega))
theorem gg58_64 {a a2 : Nat} {u z : Int} {x : Option Out} : gP (Nat.blt (crk 64 [aR (some a2), aI u]) (crk 58 [aR (some a), aI z]) = true) x = x := gP_t (bltT (by rw [ck64, ck58]; omega))
theorem gg57_58 {a : Nat} {z : Int} {x : Option Out} : gP (Nat.blt (crk 58 [aR (some a), aI z]) (crk 57 [aR (some a), aI z]) = true) x = x := gP_t (bltT (by rw [ck58, ck57]; omega))
theorem gg57_42 {a : Nat} {z : Int} {x : Option Out} : gP (Nat.blt (crk 42 [aR (some a)]) (crk 57 [aR (some a), aI z]) = true) x = x := gP_t (bltT (by rw [ck42, ck57]; omega))
theorem gg57_64 {a a2 : Nat} {u z : Int} {x : Option Out} : gP (Nat.blt (crk 64 [aR (some a2), aI u]) (crk 57 [aR (some a), aI z]) = true) x = x := gP_t (bltT (by rw [ck64, ck57]; omega))
theorem gg56_57 {a : Nat} {z : Int} {x : Option Out} : gP (Nat.blt (crk 57 [aR (some a), aI z]) (crk 56 [aR (some a), aI z]) = true) x = x := gP_t (bltT (by rw [ck57, ck56]; omega))
theorem gg56_42 {a : Nat} {z : Int} {x : Option Out} : gP (Nat.blt (crk 42 [aR (some a)]) (crk 56 [aR (some a), aI z]) = true) x = x := gP_t (bltT (by rw [ck42, ck56]; omega))
theorem gg56_64 {a a2 : Nat} {u z : Int} {x : Option Out} : gP (Nat.blt (crk 64 [aR (some a2), aI u]) (crk 56 [aR (some a), aI z]) = true) x = x := gP_t (bltT (by rw [ck64, ck56]; omega))
theorem gg55_42 {a : Nat} {z : Int} {x : Option Out} : gP (Nat.blt (crk 42 [aR (some a)]) (crk 55 [aR (some a), aI z]) = true) x = x := gP_t (bltT (by rw [ck42, ck55]; omega))
theorem gg55_41 {a : Nat} {u z : Int} {x : Option Out} : gP (Nat.blt (crk 41 [aR (some a), aI u]) (crk 55 [aR (some a), aI z]) = true) x = x := gP_t (bltT (by rw [ck41, ck55]; omega))
theorem gg55_56 {a : Nat} {z : Int} {x : Option Out} : gP (Nat.blt (crk 56 [aR (some a), aI z]) (crk 55 [aR (some a), aI z]) = true) x = x := gP_t (bltT (by rw [ck56, ck55]; omega))
theorem gg55_64 {a a2 : Nat} {u z : Int} {x : Option Out} : gP (Nat.blt (crk 64 [aR (some a2), aI u]) (crk 55 [aR (some a), aI z]) = true) x = x := gP_t (bltT (by rw [ck64, ck55]; omega))
theorem gg54_55 {a : Nat} {z : Int} {x : Option Out} : gP (Nat.blt (crk 55 [aR (some a), aI z]) (crk 54 [aR (some a), aI z]) = true) x = x := gP_t (bltT (by rw [ck55, ck54]; omega))
theorem gg54_42 {a : Nat} {z : Int} {x : Option Out} : gP (Nat.blt (crk 42 [aR (some a)]) (crk 54 [aR (some a), aI z]) = true) x = x := gP_t (bltT (by rw [ck42, ck54]; omega))
theorem gg54_64 {a a2 : Nat} {u z : Int} {x : Option Out} : gP (Nat.blt (crk 64 [aR (some a2), aI u]) (crk 54 [aR (some a), aI z]) = true) x = x := gP_t (bltT (by rw [ck64, ck54]; omega))
theorem gg53_54 {a : Nat} {z : Int} {x : Option Out} : gP (Nat.blt (crk 54 [aR (some a), aI z]) (crk 53 [aR (some a), aI z]) = true) x = x := gP_t (bltT (by rw [ck54, ck53]; omega))
theorem gg53_42 {a : Nat} {z : Int} {x : Option Out} : gP (Nat.blt (crk 42 [aR (some a)]) (crk 53 [aR (some a), aI z]) = true) x = x := gP_t (bltT (by rw [ck42, ck53]; omega))
theorem gg53_64 {a a2 : Nat} {u z : Int} {x : Option Out} : gP (Nat.blt (crk 64 [aR (some a2), aI u]) (crk 53 [aR (some a), aI z]) = true) x = x := gP_t (bltT (by rw [ck64, ck53]; omega))
theorem gg53_43 {a : Nat} {z : Int} {x : Option Out} : gP (Nat.blt (crk 43 [aR (some a)]) (crk 53 [aR (some a), aI z]) = true) x = x := gP_t (bltT (by rw [ck43, ck53]; omega))
theorem gg53_44 {a : Nat} {z : Int} {x : Option Out} : gP (Nat.blt (crk 44 [aR (some a)]) (crk 53 [aR (some a), aI z]) = true) x = x := gP_t (bltT (by rw [ck44, ck53]; omega))
theorem gg53_41 {a : Nat} {u z : Int} {x : Option Out} : gP (Nat.blt (crk 41 [aR (some a), aI u]) (crk 53 [aR (some a), aI z]) = true) x = x := gP_t (bltT (by rw [ck41, ck53]; omega))
theorem gg59_53 {a : Nat} {z : Int} {x : Option Out} (h : z ≤ 5) : gP (Nat.blt (crk 53 [aR (some a), aI (z + 1)]) (crk 59 [aR (some a), aI z]) = true) x = x := gP_t (bltT (by rw [ck53, ck59]; omega))
theorem RX.go {T : Row} {n M t : Nat} {S : Bool} {w w' : Wd} {b : Nat} {x : PZ} (h : RX T n M t S w b x) (h' : RX T n M t S w' 0 (pGo x)) : RX T n M t S w' (b + 1) (pGo x) := by
  obtain ⟨h1, h2, h3, h4, h5, h6, h7, h8⟩ := h'
  refine ⟨h1, h2, h3, h4, h5, h6, h7, fun z => ⟨?_, (h8 z).2⟩⟩
  have z0 : x.1 = 0 := by rw [← pGo_f]; exact z
  have := (h.2.2.2.2.2.2.2 z0).1
  rw [pGo_0 z0]
  show x.2.2.1 + (b + 1) ≤ x.2.1 + 1
  omega
/-- a reader does what the function says -/
def CX (T : Row) (n M t : Nat) (S : Bool) (X : PZ → PZ) (F : Wd → Option Out) : Prop := ∀ (w : Wd) (b : Nat) (x : PZ), RX T n M t S w (b + 1) x → ∃ w', F w = r0 w' ∧ RX T n M t S w' (b + 1) (X x) ∧ FrR t S w w'
section CXs
variable {T : Row} {n M t : Nat} {S : Bool} {E : PZ → PZ} {c : Int}
theorem bXor_v {v : Int} (h : 0 ≤ v ∧ v ≤ 9999) : bXor v (-1) = -1 - v := bXor_m1 (by unfold okI; omega)
theorem q59 (hT : TK (KT T n) (VT T n) M) (ht : tOK t) (hc : 0 ≤ c ∧ c ≤ 5) (hE : CX T n M t S E (F53 12 (c + 1))) : CX T n M t S (pPart (KT T n) (VT T n) S E) (F59 12 c) := by
  intro w b x h
  have H := h.1
  have hl := lrho (S := S) ht
  have hr := h.2.2.1.2
  have hh := e59 (a0 := 12) (x1 := c) H l12
  have hk := h.k
  unfold pPart
  by_cases z : x.1 = 0
  · rw [if_neg (fun y => y z)]
    have ek : kd T n x = KT T n x.2.1 := kd_0 z
    by_cases z1 : KT T n x.2.1 = 1
    · rw [if_pos z1]
      have hv := hT.2.2.2.1 _ z1
      obtain ⟨w1, a1, a2, a3⟩ := q46 (lo := 0) (hi := 9999) hT h ht
      have en : pNm (KT T n) (VT T n) 0 9999 x = (pGo x, VT T n x.2.1) := by
        unfold pNm
        rw [if_neg (fun y => y z), if_neg (fun y => y.1 z1), if_pos ⟨z1, hv.1, hv.2⟩]
      rw [en] at a1 a2
      have a2' := h.go (a2.wk (Nat.zero_le _))
      obtain ⟨w2, b1, b2, b3⟩ := q64 (c := -1 - VT T n x.2.1) hT a2' ht
      refine ⟨w2, hh _ ?_, b2, a3.tr b3⟩
      rw [gg59_43, q43 h, bI_r H, ek, decide_eq_true z1, Bool.true_or, if_neg (by decide), hr, gQ_t hl, gg59_46, a1, bI_r a2.1, gg59_64, bXor_v hv, b1, b0_r b2.1]
    rw [if_neg z1]
    by_cases z2 : KT T n x.2.1 = 2
    · rw [if_pos z2]
      obtain ⟨w1, a1, a2, a3⟩ := q46 (lo := 0) (hi := 9999) hT h ht
      have en : pNm (KT T n) (VT T n) 0 9999 x = (pFl 2 x, 0) := by
        unfold pNm
        rw [if_neg (fun y => y z), if_neg (fun y => y.2 z2), if_neg (fun y => z1 y.1)]
      rw [en] at a1 a2
      have hf : (pFl 2 x).1 ≠ 0 := pFl_f (by decide)
      obtain ⟨w2, b1, b2, b3⟩ := q64 (c := bXor 0 (-1)) hT (a2.bad (c := b + 1 + 1) hf) ht
      rw [pAd_n hf] at b2
      refine ⟨w2, hh _ ?_, b2, a3.tr b3⟩
      rw [gg59_43, q43 h, bI_r H, ek, decide_eq_true z2, Bool.or_true, if_neg (by decide), hr, gQ_t hl, gg59_46, a1, bI_r a2.1, gg59_64, b1, b0_r b2.1]
    rw [if_neg z2]
    have e43' : F43 12 w = rI 0 w := by rw [q43 h, ek, decide_eq_false z1, decide_eq_false z2]; rfl
    by_cases z3 : 109 ≤ KT T n x.2.1 ∧ KT T n x.2.1 ≤ vLim S
    · rw [if_pos z3]
      obtain ⟨w1, a1, a2, a3⟩ := q64 (c := KT T n x.2.1) hT h ht
      obtain ⟨w2, b1, b2, b3⟩ := q42 hT a2 ht (fun _ => by rw [pAd_j]; omega)
      refine ⟨w2, hh _ ?_, b2, a3.tr b3⟩
      rw [gg59_43, e43', bI_r H, if_pos rfl, gg59_60, q60 h ht, bI_r H, ek, decide_eq_true z3, if_neg (by decide), hr, gQ_t hl, gg59_64, hk, ek, a1, b0_r a2.1, gg59_42, b1, b0_r b2.1]
    rw [if_neg z3]
    have e60' : F60 12 w = rI 0 w := by rw [q60 h ht, ek, decide_eq_false z3]; rfl
    by_cases z4 : 100 ≤ KT T n x.2.1
    · rw [if_pos z4]
      obtain ⟨w1, a1, a2, a3⟩ := q41 (c := 3) h (by decide) ht
      refine ⟨w1, hh _ ?_, a2, a3⟩
      rw [gg59_43, e43', bI_r H, if_pos rfl, gg59_60, e60', bI_r H, if_pos rfl, gg59_44, q44 h, bI_r H, ek, decide_eq_true z4, if_neg (by decide), gg59_41, a1, b0_r a2.1]
    rw [if_neg z4]
    have e44' : F44 12 w = rI 0 w := by rw [q44 h, ek, decide_eq_false z4]; rfl
    by_cases z5 : KT T n x.2.1 = 40
    · rw [if_pos z5]
      obtain ⟨w1, a1, a2, a3⟩ := q42 hT h ht (fun _ => by omega)
      obtain ⟨w2, b1, b2, b3⟩ := hE w1 _ _ a2
      obtain ⟨w3, c1, c2, c3⟩ := q45 (c := 41) hT b2 ht (by decide)
      refine ⟨w3, hh _ ?_, c2.wk (Nat.le_succ _), (a3.tr b3).tr c3⟩
      rw [gg59_43, e43', bI_r H, if_pos rfl, gg59_60, e60', bI_r H, if_pos rfl, gg59_44, e44', bI_r H, if_pos rfl, hk, ek, if_neg (fun y => y z5), gg59_42, a1, b0_r a2.1, wrd (by omega) (by omega), gg59_53 hc.2, b1, b0_r b2.1, gg59_45, c1, b0_r c2.1]
    · rw [if_neg z5]
      obtain ⟨w1, a1, a2, a3⟩ := q41 (c := 1) h (by decide) ht
      refine ⟨w1, hh _ ?_, a2, a3⟩
      rw [gg59_43, e43', bI_r H, if_pos rfl, gg59_60, e60', bI_r H, if_pos rfl, gg59_44, e44', bI_r H, if_pos rfl, hk, ek, if_pos z5, gg59_41, a1, b0_r a2.1]
  · rw [if_pos z]
    have ek : kd T n x = -1 := kd_n z
    obtain ⟨w1, a1, a2, a3⟩ := q41 (c := 1) h (by decide) ht
    rw [pFl_n z] at a2
    have e43' : F43 12 w = rI 0 w := by rw [q43 h, ek]; rfl
    have e60' : F60 12 w = rI 0 w := by rw [q60 h ht, ek, decide_eq_false (by omega)]; rfl
    have e44' : F44 12 w = rI 0 w := by rw [q44 h, ek]; rfl
    refine ⟨w1, hh _ ?_, a2, a3⟩
    rw [gg59_43, e43', bI_r H, if_pos rfl, gg59_60, e60', bI_r H, if_pos rfl, gg59_44, e44', bI_r H, if_pos rfl, hk, ek, if_pos (by decide), gg59_41, a1, b0_r a2.1]
/-- one turn: on, a reader, the sign -/
theorem qturn {X : PZ → PZ} {F : Wd → Option Out} {w : Wd} {b : Nat} {x : PZ} (hT : TK (KT T n) (VT T n) M) (ht : tOK t) (hX : CX T n M t S X F) (h : RX T n M t S w (b + 1) x) (z : x.1 = 0) (hk : KT T n x.2.1 ≠ 0) :
    ∃ w1 w2 w3, F42 12 w = r0 w1 ∧ LR w1 ∧ F w1 = r0 w2 ∧ LR w2 ∧ gR w2 12 2 = some (rho t S) ∧ F64 (rho t S) (KT T n x.2.1) w2 = r0 w3 ∧ RX T n M t S w3 (b + 1) (pAd (KT T n x.2.1) (X (pGo x))) ∧ FrR t S w w3 := by
  obtain ⟨w1, a1, a2, a3⟩ := q42 hT h ht (fun _ => hk)
  obtain ⟨w2, b1, b2, b3⟩ := hX w1 _ _ a2
  obtain ⟨w3, c1, c2, c3⟩ := q64 (c := KT T n x.2.1) hT b2 ht
  exact ⟨w1, w2, w3, a1, a2.1, b1, b2.1, b2.2.2.1.2, c1, c2, (a3.tr b3).tr c3⟩
theorem qlp {G : Int → Wd → Option Out} {sg : Int → Bool} {X : PZ → PZ} (hT : TK (KT T n) (VT T n) M) (h0 : sg 0 = false)
    (hend : ∀ (w : Wd) (b : Nat) (x : PZ) (k : Nat), RX T n M t S w (b + 1) x → (700 ≤ k ∨ ¬ (x.1 = 0 ∧ sg (KT T n x.2.1) = true)) → G k w = r0 w)
    (hturn : ∀ (w : Wd) (b : Nat) (x : PZ) (k : Nat), k < 700 → RX T n M t S w (b + 1) x → x.1 = 0 → sg (KT T n x.2.1) = true → KT T n x.2.1 ≠ 0 → ∃ w', Rf (G ((k + 1 : Nat) : Int) w') (G k w) ∧ RX T n M t S w' (b + 1) (pAd (KT T n x.2.1) (X (pGo x))) ∧ FrR t S w w') :
    ∀ (f k : Nat) (w : Wd) (b : Nat) (x : PZ), k + f = 700 → RX T n M t S w (b + 1) x → ∃ w', G k w = r0 w' ∧ RX T n M t S w' (b + 1) (lpP (KT T n) sg X f x) ∧ FrR t S w w' := by
  intro f
  induction f with
  | zero => intro k w b x hk h; exact ⟨w, hend w b x k h (Or.inl (by omega)), h, FrR.rf⟩
  | succ f ih =>
    intro k w b x hk h
    unfold lpP
    by_cases z : x.1 = 0 ∧ sg (KT T n x.2.1) = true
    · rw [if_pos z]
      obtain ⟨w1, a1, a2, a3⟩ := hturn w b x k (by omega) h z.1 z.2 (fun e => by rw [e, h0] at z; exact absurd z.2 (by decide))
      obtain ⟨w2, b1, b2, b3⟩ := ih (k + 1) w1 b _ (by omega) a2
      exact ⟨w2, a1 _ b1, b2, a3.tr b3⟩
    · rw [if_neg z]
      exact ⟨w, hend w b x k h (Or.inr z), h, FrR.rf⟩
theorem kd_sg {a : Int} {x : PZ} (ha : a ≠ -1) : kd T n x = a ↔ (x.1 = 0 ∧ KT T n x.2.1 = a) := by
  unfold kd
  by_cases h : x.1 = 0
  · rw [if_pos h]; simp [h]
  · rw [if_neg h]; simp [h]; omega
theorem q58 (hT : TK (KT T n) (VT T n) M) (ht : tOK t) (hP : CX T n M t S (pPart (KT T n) (VT T n) S E) (F59 12 c)) : CX T n M t S (pProd (KT T n) (VT T n) S E) (F58 12 c) := by
  intro w b x h
  obtain ⟨w1, a1, a2, a3⟩ := hP w b x h
  obtain ⟨w2, b1, b2, b3⟩ := qlp (G := fun k v => s58_7 (crk 58 [aR (some 12), aI c]) 12 c k v) (sg := is2 42 47) (X := pPart (KT T n) (VT T n) S E) hT rfl (fun w b x k h hz => e58_7 h.1 l12 _ (by
    by_cases y : 700 ≤ (k : Int)
    · rw [if_pos y]
    · have hz : ¬ (x.1 = 0 ∧ is2 42 47 (KT T n x.2.1) = true) := by
        rcases hz with hz | hz
        · omega
        · exact hz
      rw [if_neg y, h.k, if_neg (fun q => ?_), if_pos (fun q => ?_)]
      · have := (kd_sg (by decide)).mp q
        exact hz ⟨this.1, is2_t.mpr (Or.inr this.2)⟩
      · have := (kd_sg (by decide)).mp q
        exact hz ⟨this.1, is2_t.mpr (Or.inl this.2)⟩)) (fun w b x k hk h z1 z2 z3 => by
    obtain ⟨w1, w2, w3, c1, c2, c3, c4, c5, c6, c7, c8⟩ := qturn hT ht hP h z1 z3
    have ek : kd T n x = KT T n x.2.1 := kd_0 z1
    refine ⟨w3, fun o ho => e58_7 h.1 l12 _ ?_, c7, c8⟩
    have key : s58_32 (crk 58 [aR (some 12), aI c]) 12 c k w = some o := by
      refine e58_32 h.1 l12 _ ?_
      rw [gg58_42, c1, b0_r c2, gg58_59, c3, b0_r c4, c5, gQ_t (lrho ht), gg58_64, h.k, ek, c6, b0_r c7.1, wrs (by omega)]
      exact ho
    rw [if_neg (by omega), h.k, ek]
    rcases is2_t.mp z2 with q | q
    · rw [if_pos q]; exact key
    · rw [if_neg (by omega), if_neg (fun y => y q)]; exact key) 700 0 w1 b _ rfl a2
  refine ⟨w2, e58 h.1 l12 _ ?_, b2, a3.tr b3⟩
  rw [gg58_59, a1, b0_r a2.1]
  exact b1
theorem q57 (hT : TK (KT T n) (VT T n) M) (ht : tOK t) (hP : CX T n M t S (pProd (KT T n) (VT T n) S E) (F58 12 c)) : CX T n M t S (pSum (KT T n) (VT T n) S E) (F57 12 c) := by
  intro w b x h
  obtain ⟨w1, a1, a2, a3⟩ := hP w b x h
  obtain ⟨w2, b1, b2, b3⟩ := qlp (G := fun k v => s57_7 (crk 57 [aR (some 12), aI c]) 12 c k v) (sg := is2 43 45) (X := pProd (KT T n) (VT T n) S E) hT rfl (fun w b x k h hz => e57_7 h.1 l12 _ (by
    by_cases y : 700 ≤ (k : Int)
    · rw [if_pos y]
    · have hz : ¬ (x.1 = 0 ∧ is2 43 45 (KT T n x.2.1) = true) := by
        rcases hz with hz | hz
        · omega
        · exact hz
      rw [if_neg y, h.k, if_neg (fun q => ?_), if_pos (fun q => ?_)]
      · have := (kd_sg (by decide)).mp q
        exact hz ⟨this.1, is2_t.mpr (Or.inr this.2)⟩
      · have := (kd_sg (by decide)).mp q
        exact hz ⟨this.1, is2_t.mpr (Or.inl this.2)⟩)) (fun w b x k hk h z1 z2 z3 => by
    obtain ⟨w1, w2, w3, c1, c2, c3, c4, c5, c6, c7, c8⟩ := qturn hT ht hP h z1 z3
    have ek : kd T n x = KT T n x.2.1 := kd_0 z1
    refine ⟨w3, fun o ho => e57_7 h.1 l12 _ ?_, c7, c8⟩
    have key : s57_32 (crk 57 [aR (some 12), aI c]) 12 c k w = some o := by
      refine e57_32 h.1 l12 _ ?_
      rw [gg57_42, c1, b0_r c2, gg57_58, c3, b0_r c4, c5, gQ_t (lrho ht), gg57_64, h.k, ek, c6, b0_r c7.1, wrs (by omega)]
      exact ho
    rw [if_neg (by omega), h.k, ek]
    rcases is2_t.mp z2 with q | q
    · rw [if_pos q]; exact key
    · rw [if_neg (by omega), if_neg (fun y => y q)]; exact key) 700 0 w1 b _ rfl a2
  refine ⟨w2, e57 h.1 l12 _ ?_, b2, a3.tr b3⟩
  rw [gg57_58, a1, b0_r a2.1]
  exact b1
theorem q56 (hT : TK (KT T n) (VT T n) M) (ht : tOK t) (hP : CX T n M t S (pSum (KT T n) (VT T n) S E) (F57 12 c)) : CX T n M t S (pTest (KT T n) (VT T n) S E) (F56 12 c) := by
  intro w b x h
  obtain ⟨w1, a1, a2, a3⟩ := hP w b x h
  unfold pTest
  generalize pSum (KT T n) (VT T n) S E x = y at *
  by_cases z : y.1 = 0 ∧ is2 60 61 (KT T n y.2.1) = true
  · rw [if_pos z]
    have hk := is2_t.mp z.2
    obtain ⟨v1, v2, v3, c1, c2, c3, c4, c5, c6, c7, c8⟩ := qturn hT ht hP a2 z.1 (by omega)
    have ek : kd T n y = KT T n y.2.1 := kd_0 z.1
    have key : s56_23 (crk 56 [aR (some 12), aI c]) 12 c w1 = r0 v3 := by
      refine e56_23 a2.1 l12 _ ?_
      rw [gg56_42, c1, b0_r c2, gg56_57, c3, b0_r c4, c5, gQ_t (lrho ht), gg56_64, a2.k, ek, c6, b0_r c7.1]
    refine ⟨v3, e56 h.1 l12 _ ?_, c7, a3.tr c8⟩
    rw [gg56_57, a1, b0_r a2.1, a2.k, ek]
    rcases hk with q | q
    · rw [if_pos q]; exact key
    · rw [if_neg (by omega), if_neg (fun u => u q)]; exact key
  · rw [if_neg z]
    refine ⟨w1, e56 h.1 l12 _ ?_, a2, a3⟩
    rw [gg56_57, a1, b0_r a2.1, a2.k, if_neg (fun q => ?_), if_pos (fun q => ?_)]
    · have := (kd_sg (by decide)).mp q
      exact z ⟨this.1, is2_t.mpr (Or.inr this.2)⟩
    · have := (kd_sg (by decide)).mp q
      exact z ⟨this.1, is2_t.mpr (Or.inl this.2)⟩
end CXs
