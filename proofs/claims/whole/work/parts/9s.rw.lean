/-! the law's start -/
theorem zn13_8 : nres 13 8 = some (8, 11, 1028, 1029, 1001) := rfl
theorem zn13_111 : nres 13 111 = some (111, 12, 6166, 6167, 1013) := rfl
theorem zc13_110 : ∃ e, cres 13 110 = some (110, 2, 111, 0, e) := ⟨_, rfl⟩
theorem zc13_113 : ∃ e, cres 13 113 = some (113, 2, 170, 0, e) := ⟨_, rfl⟩
/-- at first -/
def A0 : AC := (mkQ q00, mkS q00, [], (0, fun _ => 0, fun _ => 0, fun _ => 0), fun _ => 0, none)
/-- all is made -/
def ST9 (L : Nat) (f : Nat → Int) (w : Wd) : Prop := gN w = 515 ∧ gE w = 0 ∧ gL w = L ∧ gX w = f ∧ (∀ b k, b < 514 → gI w b k = I9 b k) ∧ (∀ b k o, b < 514 → offO (lay b).1 k = some o → gR w b k = some (b + o)) ∧ ∀ b, b < 514 → X9 w b
theorem pro (hz : HZ) (L : Nat) (f : Nat → Int) : ∃ w, val 327 72 (0, entL 327 [.inr (.inl (some SCR))], [], w00 L f) = s327_23 0 473 514 0 w ∧ ST9 L f w := by
  obtain ⟨w1, e1, b1⟩ := i111 (w := w00 L f) hz rfl rfl
  have hN1 : gN w1 = 473 := b1.1
  obtain ⟨w2, e2, b2, b3⟩ := i170 (w := w1) hN1 b1.2.1
  have hN2 : gN w2 = 514 := b2.1
  have hE2 : gE w2 = 0 := b2.2.1
  have l0' : lay 0 = (11, nF 11) := by decide +kernel
  have l473' : lay 473 = (12, nF 12) := by decide +kernel
  obtain ⟨⟨c1, c2⟩, hc⟩ := zc13_110
  obtain ⟨⟨c3, c4⟩, hc'⟩ := zc13_113
  refine ⟨nW w2, ?_, ?_⟩
  · refine (show val 327 72 (0, entL 327 [.inr (.inl (some SCR))], [], w00 L f) = val 327 72 (0, [some (aR (some SCR)), none, none, none, none, none, none], [], w00 L f) from rfl).trans <|
      (v_newO 0 11 3 m327 dL_law_0 rfl rfl zn13_8 rfl rfl l0' (by decide)).trans <| (v_dupR 4 m327 dL_law_3 rfl).trans <| (v_init 111 0 7 [aR (some 0)] m327 dL_law_4 rfl hc rfl rfl (by rw [l0']; rfl) rfl e1).trans <|
      (v_ist [some (aR (some SCR)), some (aR (some 0)), none, none, none, none, none] 8 m327 dL_law_7 rfl rfl).trans <|
      (v_newO 473 12 11 m327 dL_law_8 rfl rfl zn13_111 b1.2.1 hN1 l473' (by decide)).trans <| (v_dupR 12 m327 dL_law_11 rfl).trans <| (v_init 170 473 15 [aR (some 473)] m327 dL_law_12 rfl hc' rfl rfl (by rw [l473']; rfl) rfl e2).trans <|
      (v_ist [some (aR (some SCR)), some (aR (some 0)), some (aR (some 473)), none, none, none, none] 16 m327 dL_law_15 rfl rfl).trans <|
      (v_push (aI 1) 17 m327 dL_law_16 rfl rfl).trans <| (v_newJ 514 1 19 m327 dL_law_17 rfl hE2 hN2 l514).trans <|
      (v_ist [some (aR (some SCR)), some (aR (some 0)), some (aR (some 473)), some (aR (some 514)), none, none, none] 20 m327 dL_law_19 rfl rfl).trans <|
      (v_push (aI 0) 21 m327 dL_law_20 rfl rfl).trans <|
      (v_ist [some (aR (some SCR)), some (aR (some 0)), some (aR (some 473)), some (aR (some 514)), some (aI 0), none, none] 23 m327 dL_law_21 rfl rfl).trans rfl
  · have g : ∀ b, b < 514 → gI (nW w2) b = gI w2 b ∧ gR (nW w2) b = gR w2 b := fun b hb => nW_r (by omega)
    have o1 : ∀ b, b < 473 → O9 w2 b := fun b hb => (b1.2.2.2.2 b (Nat.zero_le _) (by omega)).ext (b2.2.2.2.1 b hb)
    have o2 : ∀ b, b < 514 → O9 w2 b := fun b hb => if z : b < 473 then o1 b z else b2.2.2.2.2 b (by omega) (by omega)
    have sc : w2.2.2.2.2.2 = (L, f) := b2.2.2.1.trans b1.2.2.1
    refine ⟨by show gN w2 + 1 = _; rw [hN2], hE2, by show w2.2.2.2.2.2.1 = L; rw [sc], by show w2.2.2.2.2.2.2 = f; rw [sc], fun b k hb => ?_, fun b k o hb e => ?_, fun b hb => ?_⟩
    · rw [(g b hb).1]
      rcases (o2 b hb).2.1 k with e | e
      · exact e
      · obtain ⟨e4, e5⟩ := e
        subst e4
        exact b3 k
    · rw [(g b hb).2]; exact (o2 b hb).1 k o e
    · exact ((o2 b hb).ext (g b hb)).2.2
theorem lay_hi {a : Nat} (h : 515 ≤ a) : lay a = (99, 0) := by
  unfold lay
  rw [List.getD_eq_getElem?_getD, List.getElem?_eq_none (by have : layL.length = 515 := by decide +kernel
                                                            omega)]
  rfl
theorem ST9.H {L : Nat} {f : Nat → Int} {w : Wd} (h : ST9 L f w) : LR w := by
  obtain ⟨h1, h2, h3, h4, h5, h6, h7⟩ := h
  intro a k o e
  by_cases z : a < 514
  · exact h6 a k o z e
  · by_cases y : a = 514
    · subst y
      rw [oA l514 (by decide) k] at e; cases e
    · rw [oA (lay_hi (show 515 ≤ a by omega)) (by decide) k] at e; cases e
theorem ST9.J {L : Nat} {f : Nat → Int} {w : Wd} (h : ST9 L f w) : JV w 0 A0 (fun _ => 0) (-1) := by
  have H := h.H
  obtain ⟨h1, h2, h3, h4, h5, h6, h7⟩ := h
  have z0 : ∀ b, b < 514 → b ≠ 0 → b ≠ 12 → b ≠ 473 → b ≠ 2 → b ≠ 17 → b ≠ 477 → gI w b = fun _ => 0 := fun b hb n0 n1 n2 n3 n4 n5 => by
    funext k
    rw [h5 b k hb]
    unfold I9
    rw [if_neg (by omega), if_neg (by omega)]
  have z1 : ∀ b k, b < 514 → (b = 0 ∨ b = 12 ∨ b = 473) → (b = 0 → k ≠ 2) → (b = 12 → k ≠ 6) → (b = 473 → k ≠ 26) → gI w b k = 0 := fun b k hb hc c0 c1 c2 => by
    rw [h5 b k hb]
    unfold I9
    rw [if_neg (by omega), if_neg (by omega)]
  have z2 : ∀ b k, b < 514 → (b = 2 ∨ b = 17 ∨ b = 477) → k ≠ 0 → gI w b k = 0 := fun b k hb hc hk => by
    rw [h5 b k hb]
    unfold I9
    rw [if_neg (by omega), if_neg (by omega)]
  have zz : ∀ b k, b < 514 → b ≠ 0 → b ≠ 12 → b ≠ 473 → b ≠ 2 → b ≠ 17 → b ≠ 477 → gI w b k = 0 := fun b k hb n0 n1 n2 n3 n4 n5 => by rw [z0 b hb n0 n1 n2 n3 n4 n5]
  have hrk : ∀ b, b = 44 ∨ b = 257 → RK w b [] := fun b hb => ⟨Nat.zero_le _, zz b 1 (by omega) (by omega) (by omega) (by omega) (by omega) (by omega) (by omega), fun i => i, fun i hi => hi, fun i j _ _ e => e, fun i hi => (h7 (b + 1) (by omega)).2.2.1 (by omega) i hi, fun i hi => absurd hi (Nat.not_lt_zero _)⟩
  have hRQ : RQz w 2 q00 := ⟨⟨h5 2 0 (by decide), z2 2 1 (by decide) (by decide) (by decide), z2 2 2 (by decide) (by decide) (by decide), (z2 2 3 (by decide) (by decide) (by decide)).trans (by decide)⟩, ⟨z0 3 (by decide) (by decide) (by decide) (by decide) (by decide) (by decide) (by decide), z0 4 (by decide) (by decide) (by decide) (by decide) (by decide) (by decide) (by decide), z0 5 (by decide) (by decide) (by decide) (by decide) (by decide) (by decide) (by decide)⟩, fun p hp => absurd hp (Nat.not_lt_zero _), ⟨zz 8 1 (by decide) (by decide) (by decide) (by decide) (by decide) (by decide) (by decide), fun i hi => absurd hi (Nat.not_lt_zero _)⟩, ⟨zz 10 1 (by decide) (by decide) (by decide) (by decide) (by decide) (by decide) (by decide), fun i hi => absurd hi (Nat.not_lt_zero _)⟩, z1 12 7 (by decide) (by decide) (by decide) (by decide) (by decide), z1 12 8 (by decide) (by decide) (by decide) (by decide) (by decide)⟩
  have m0 : mk (fun _ => false) 8 = 0 := by decide
  have gi : GI A0 := ⟨⟨⟨GS_mk QK_00, by show (0 : Int) ≤ 999; decide, rfl, fun _ _ => rfl⟩, fun u hu => (by cases hu), ⟨Nat.zero_le _, fun i hi => absurd hi (Nat.not_lt_zero _)⟩, fun _ => ⟨by show (-2147483648 : Int) ≤ 0; decide, by show (0 : Int) < 2147483648; decide⟩, fun x hx => by cases hx⟩, fun p hp => ⟨rfl, rfl, rfl, rfl⟩, fun u hu => (by cases hu), fun x hx => by cases hx⟩
  have z3 : ∀ k, k ≠ 26 → gI w 473 k = 0 := fun k hk => z1 473 k (by decide) (by decide) (fun e => absurd e (by decide)) (fun e => absurd e (by decide)) (fun _ => hk)
  refine ⟨⟨2, ⟨⟨Or.inl rfl, (h7 0 (by decide)).1 rfl, RQ_mk QK_00 hRQ, ⟨?_, ?_, ?_, ?_, ?_, ?_, ?_, ?_⟩, H, GQ_mk QK_00, GS_mk QK_00, by show (0 : Int) ≤ 999; decide⟩, hrk 44 (Or.inl rfl), ⟨?_, fun i hi => absurd hi (Nat.not_lt_zero _)⟩, fun i hi => ?_, ⟨[], hrk 257 (Or.inr rfl)⟩, fun _ => ?_, fun x hx => by cases hx⟩, ⟨?_, ?_, fun i hi => absurd hi (Nat.not_lt_zero _)⟩, Nat.zero_le _, (h7 12 (by decide)).2.1 rfl, fun p hp => ⟨?_, ?_, ?_⟩, fun p hp => ⟨?_, ?_, ?_⟩⟩, ⟨⟨⟨⟨?_, ?_, ?_, ?_, fun p hp => absurd hp (Nat.not_lt_zero _), fun p hp => absurd hp (Nat.not_lt_zero _), fun i hi => absurd hi (Nat.not_lt_zero _), fun i hi => absurd hi (Nat.not_lt_zero _), fun i hi => absurd hi (Nat.not_lt_zero _)⟩, ⟨?_, ?_, ?_, ?_, ?_, ?_, ?_, ?_⟩, H, GQ_mk QK_00, GS_mk QK_00, fun _ _ => rfl, Or.inl ?_⟩, ?_⟩, ⟨Nat.zero_le _, ?_, fun i hi => absurd hi (Nat.not_lt_zero _)⟩, ⟨?_, fun i hi => absurd hi (Nat.not_lt_zero _)⟩, fun i hi => ?_, fun _ => ?_, fun x hx => by cases hx⟩, ⟨?_, ?_, fun i hi => absurd hi (Nat.not_lt_zero _)⟩, ⟨(h7 474 (by decide)).2.2.2.1 rfl, (h7 475 (by decide)).2.2.2.2.1 rfl, (h7 476 (by decide)).2.2.2.2.2 rfl⟩, gi⟩
  · exact z0 35 (by decide) (by decide) (by decide) (by decide) (by decide) (by decide) (by decide)
  · exact z0 36 (by decide) (by decide) (by decide) (by decide) (by decide) (by decide) (by decide)
  · exact z0 37 (by decide) (by decide) (by decide) (by decide) (by decide) (by decide) (by decide)
  · exact z0 38 (by decide) (by decide) (by decide) (by decide) (by decide) (by decide) (by decide)
  · exact (zz 34 4 (by decide) (by decide) (by decide) (by decide) (by decide) (by decide) (by decide)).trans m0.symm
  · exact zz 34 5 (by decide) (by decide) (by decide) (by decide) (by decide) (by decide) (by decide)
  · exact zz 34 6 (by decide) (by decide) (by decide) (by decide) (by decide) (by decide) (by decide)
  · exact zz 34 7 (by decide) (by decide) (by decide) (by decide) (by decide) (by decide) (by decide)
  · exact zz 246 3 (by decide) (by decide) (by decide) (by decide) (by decide) (by decide) (by decide)
  · exact zz 250 i (by decide) (by decide) (by decide) (by decide) (by decide) (by decide) (by decide)
  · exact zz 251 4 (by decide) (by decide) (by decide) (by decide) (by decide) (by decide) (by decide)
  · exact z1 0 1 (by decide) (by decide) (by decide) (by decide) (by decide)
  · exact h5 0 2 (by decide)
  · exact zz (2 + 1) p (by decide) (by decide) (by decide) (by decide) (by decide) (by decide) (by decide)
  · exact zz (2 + 2) p (by decide) (by decide) (by decide) (by decide) (by decide) (by decide) (by decide)
  · exact zz (2 + 3) p (by decide) (by decide) (by decide) (by decide) (by decide) (by decide) (by decide)
  · exact zz (17 + 1) p (by decide) (by decide) (by decide) (by decide) (by decide) (by decide) (by decide)
  · exact zz (17 + 2) p (by decide) (by decide) (by decide) (by decide) (by decide) (by decide) (by decide)
  · exact zz (17 + 3) p (by decide) (by decide) (by decide) (by decide) (by decide) (by decide) (by decide)
  · exact h5 477 0 (by decide)
  · exact z2 477 1 (by decide) (by decide) (by decide)
  · exact z2 477 3 (by decide) (by decide) (by decide)
  · exact z2 477 4 (by decide) (by decide) (by decide)
  · exact z0 489 (by decide) (by decide) (by decide) (by decide) (by decide) (by decide) (by decide)
  · exact z0 490 (by decide) (by decide) (by decide) (by decide) (by decide) (by decide) (by decide)
  · exact z0 491 (by decide) (by decide) (by decide) (by decide) (by decide) (by decide) (by decide)
  · exact z0 487 (by decide) (by decide) (by decide) (by decide) (by decide) (by decide) (by decide)
  · exact z3 33 (by decide)
  · exact z3 34 (by decide)
  · exact z3 35 (by decide)
  · exact (z3 36 (by decide)).trans m0.symm
  · exact z3 44 (by decide)
  · exact z3 44 (by decide)
  · exact z3 37 (by decide)
  · exact z3 38 (by decide)
  · exact zz 486 i (by decide) (by decide) (by decide) (by decide) (by decide) (by decide) (by decide)
  · exact z3 58 (by decide)
  · exact z3 17 (by decide)
  · exact h5 473 26 (by decide)
/-- the law's value -/
theorem lawOK9 (hz : HZ) : ∀ (L : Nat) (f : Nat → Int), L ≤ 3072 → (∀ i, okI (f i)) → lawVal L f := by
  intro L f hL hf
  obtain ⟨w, e, h⟩ := pro hz L f
  obtain ⟨w', k1, k2, k3⟩ := Lall 512 0 w 0 A0 (fun _ => 0) (-1) h.J (by rw [h.2.2.1]; exact hL) (by rw [h.2.2.1]; omega) (by decide)
  have hN : gN w' = 515 := k2.trans h.1
  have hE : gE w' ≤ 512 := by rw [h.2.1] at k3; omega
  refine ⟨w', e.trans k1, ?_, ?_⟩
  · unfold cnt; rw [hN]; omega
  · unfold slt; rw [hN]
    have : sl 515 + 6 * 512 ≤ 7293034 := by decide +kernel
    omega
