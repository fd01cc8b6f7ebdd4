/-! the class's quay -/
def tTx (B : Row) (n : Nat) : Row := fun i => if i < n then bAnd (B i) 255 else 0
theorem TX_of {w : Wd} {m n : Nat} {B : Row} {fp : Int} (h : RT w m B fp) (hn : n ≤ m) (hm : m ≤ 700) : TX w (tTx B n) n := by
  refine ⟨by omega, fun i hi => ?_, fun i => ?_⟩
  · rw [h.2.2 i (by omega)]
    unfold tTx
    rw [if_pos hi]
  · unfold tTx
    split
    · exact bAnd255
    · exact ⟨by decide, by decide⟩
/-- what a quay makes of all: the answer, the state, the tape's length, the fault's place -/
def rB (B : Row) (x : Int) : LZ × QZ := rTx (tTx B x.toNat) x.toNat
def nwA (A : AC) (q : QZ) : AC := (mkQ q, mkS q, [], forN (oN A), oT A, none)
def okQ (m : Nat) (x : Int) : Prop := 0 ≤ x ∧ x ≤ m
theorem QK_B {B : Row} {x : Int} {M : Nat} (hT : TK (KT (tTx B x.toNat) x.toNat) (VT (tTx B x.toNat) x.toNat) M) (h : (rB B x).1.1 = 0) : QK (rB B x).2 := QK_rAl hT 700 _ QK_00 h
theorem o19 {q : Nat} (h : q = 2 ∨ q = 17) : tOK (19 - q) := by
  rcases h with rfl | rfl
  · exact Or.inr rfl
  · exact Or.inl rfl
theorem d114n {w : Wd} {m : Nat} {B : Row} {fp x : Int} (H : LR w) (hT : RT w m B fp) (h : ¬ okQ m x) : F114 0 x w = rX 1 (tW w) := by
  refine e114 H l0 _ ?_
  unfold okQ at h
  by_cases z : x < 0
  · rw [if_pos z]
  · rw [if_neg z, hT.1, if_neg (by omega)]
/-- what stands beside the class's state: the tape, the other quay -/
def RB (w : Wd) (q m : Nat) (B : Row) (fp : Int) : Prop := RT w m B fp ∧ m ≤ 700 ∧ gR w 12 1 = some (19 - q) ∧ Z8 w 2 ∧ Z8 w 17
theorem z73 {w : Wd} {t : Nat} {g : Row} (H : LR w) (ht : tOK t) (h38 : gI w 38 = g) (h9 : ∀ p, 8 ≤ p → g p = 0) : ∃ w', F73 34 t w = r0 w' ∧ (gI w' 35 = gI w (t + 1) ∧ gI w' 36 = gI w (t + 2) ∧ gI w' 37 = gI w (t + 3) ∧ gI w' 38 = fun _ => 0) ∧ (gI w' 34 4 = 0 ∧ gI w' 34 5 = 0 ∧ gI w' 34 6 = gI w t 2 ∧ gI w' 34 7 = 0) ∧ FrI (fun c => 34 ≤ c ∧ c ≤ 38) w w' := by
  have ht' : t = 2 ∨ t = 17 := ht
  obtain ⟨w3, hw3⟩ : ∃ w3, w3 = sI (sI (sI w 35 (gI w (t + 1))) 36 (gI (sI w 35 (gI w (t + 1))) (t + 2))) 37 (gI (sI (sI w 35 (gI w (t + 1))) 36 (gI (sI w 35 (gI w (t + 1))) (t + 2))) (t + 3)) := ⟨_, rfl⟩
  have f3 : FrI (fun c => 34 ≤ c ∧ c ≤ 38) w w3 := by rw [hw3]; exact ((FrI.s (A := fun c => 34 ≤ c ∧ c ≤ 38) (by omega)).ss (by omega)).ss (by omega)
  have a1 : gI w3 35 = gI w (t + 1) := by rw [hw3, gI_Sr (by decide), gI_Sr (by decide), gI_S]
  have a2 : gI w3 36 = gI w (t + 2) := by rw [hw3, gI_Sr (by decide), gI_S, gI_Sr (by omega)]
  have a3 : gI w3 37 = gI w (t + 3) := by rw [hw3, gI_S, gI_Sr (by omega), gI_Sr (by omega)]
  have a4 : gI w3 38 = g := by rw [hw3, gI_Sr (by decide), gI_Sr (by decide), gI_Sr (by decide)]; exact h38
  have H3 := f3.LR H
  have e321' : F321 38 0 w3 = r0 (sI w3 38 (fun i => if i < 8 then 0 else gI w3 38 i)) := q321 H3 (by decide +kernel) (by decide)
  have hg : (fun i => if i < 8 then (0 : Int) else gI w3 38 i) = fun _ => 0 := by
    funext i
    by_cases z : i < 8
    · rw [if_pos z]
    · rw [if_neg z, a4]; exact h9 i (by omega)
  rw [hg] at e321'
  obtain ⟨w4, hw4⟩ : ∃ w4, w4 = sI w3 38 (fun _ => 0) := ⟨_, rfl⟩
  rw [← hw4] at e321'
  have f4 : FrI (fun c => c = 38) w3 w4 := by rw [hw4]; exact FrI.s rfl
  have H4 := f4.LR H3
  have et : gI (pI (pI w4 34 4 0) 34 5 0) t 2 = gI w t 2 := by rw [gI_r (by omega), gI_r (by omega), f4.g (by omega), f3.g (by omega)]
  have f5 : FrI (fun c => c = 34) w4 (pI (pI (pI (pI w4 34 4 0) 34 5 0) 34 6 (gI w t 2)) 34 7 0) := (((FrI.p (A := fun c => c = 34) rfl).pp rfl).pp rfl).pp rfl
  refine ⟨pI (pI (pI (pI w4 34 4 0) 34 5 0) 34 6 (gI w t 2)) 34 7 0, e73 H l34 (lt4 ht) _ ?_, ⟨?_, ?_, ?_, ?_⟩, ⟨?_, ?_, ?_, gI_s⟩, (f3.tr (f4.wk (fun c hc => by omega))).tr (f5.wk (fun c hc => by omega))⟩
  · simp only [cp8]
    rw [show (34 + 1 : Nat) = 35 from rfl, show (34 + 2 : Nat) = 36 from rfl, show (34 + 3 : Nat) = 37 from rfl, ← hw3, show (34 + 4 : Nat) = 38 from rfl, e321', b0_r H4, et]
  · rw [f5.g (by decide), f4.g (by decide)]; exact a1
  · rw [f5.g (by decide), f4.g (by decide)]; exact a2
  · rw [f5.g (by decide), f4.g (by decide)]; exact a3
  · rw [f5.g (by decide), hw4, gI_S]
  · rw [gI_c (by decide), gI_c (by decide), gI_c (by decide), gI_s]
  · rw [gI_c (by decide), gI_c (by decide), gI_s]
  · rw [gI_c (by decide), gI_s]
theorem RC.hq {w w' : Wd} {q : Nat} {A : AC} (h : RC w q A) (hg : ∀ b, 2 ≤ b → b < 473 → ¬ (12 ≤ b ∧ b ≤ 16) → ¬ (19 - q ≤ b ∧ b ≤ 19 - q + 9) → gI w' b = gI w b) (hr : ∀ c, c ≠ 12 → gR w' c = gR w c) (H' : LR w') : RC w' q A := by
  obtain ⟨h1, h2, h3, h4, ⟨M, h5⟩, h6, h7⟩ := h
  have hq : q = 2 ∨ q = 17 := h1.1
  refine ⟨?_, h2.ext (fun x hx => by unfold AK at hx; exact hg x (by omega) (by omega) (by omega) (by omega)) (hr 45 (by decide)), h3.ext (fun a _ _ => hg a (by omega) (by omega) (by omega) (by omega)), fun i hi => by rw [hg 250 (by decide) (by decide) (by decide) (by omega)]; exact h4 i hi, ⟨M, h5.ext (fun x hx => by unfold AK at hx; exact hg x (by omega) (by omega) (by omega) (by omega)) (hr 258 (by decide))⟩, fun e => by rw [hg 251 (by decide) (by decide) (by decide) (by omega)]; exact h6 e, fun x hx => ?_⟩
  · obtain ⟨c1, c2, c3, c4, c5, c6⟩ := h1
    exact ⟨c1, by rw [hr 0 (by decide)]; exact c2, c3.ext (fun b _ _ => hg b (by omega) (by omega) (by omega) (by omega)), c4.ext (fun b _ _ => hg b (by omega) (by omega) (by omega) (by omega)), H', c6⟩
  · obtain ⟨a1, a2, a3, a4, a5⟩ := h7 x hx
    exact ⟨by rw [hg 251 (by decide) (by decide) (by decide) (by omega)]; exact a1, a2.ext (fun c c1 c2 => hg c (by omega) (by omega) (by omega) (by omega)), a3.ext (fun x hx => by unfold AK at hx; exact hg x (by omega) (by omega) (by omega) (by omega)) (hr 258 (by decide)), a4.ext (fun c c1 c2 => hg c (by omega) (by omega) (by omega) (by omega)), fun i hi => by rw [hg 463 (by decide) (by decide) (by decide) (by omega)]; exact a5 i hi⟩
theorem d114 {w : Wd} {q m : Nat} {A : AC} {B : Row} {fp x : Int} (h : RC w q A) (hB : RB w q m B fp) (h9 : ∀ p, 8 ≤ p → uG (oS A) p = 0) (hx : okQ m x) :
    ∃ w' q', F114 0 x w = rI (rB B x).1.1 w' ∧ FrK w w' ∧ (∃ M, TK (KT (tTx B x.toNat) x.toNat) (VT (tTx B x.toNat) x.toNat) M) ∧
      ((rB B x).1.1 = 0 → RC w' q' (nwA A (rB B x).2) ∧ RB w' q' 0 B (-1)) ∧ ((rB B x).1.1 ≠ 0 → RC w' q' (rfS A 0) ∧ RB w' q' 0 B (sT (tTx B x.toNat) x.toNat (rB B x).1.2)) := by
  obtain ⟨hT, hm, hr, hz2, hz17⟩ := hB
  have H := h.1.H
  have hq := h.1.1
  have ht := o19 hq
  obtain ⟨t, htt⟩ : ∃ t, t = 19 - q := ⟨_, rfl⟩
  rw [← htt] at ht hr
  have ht' : t = 2 ∨ t = 17 := ht
  have htq : q = 19 - t := by omega
  unfold okQ at hx
  obtain ⟨n, rfl⟩ : ∃ n : Nat, x = n := ⟨x.toNat, by omega⟩
  have hzt : Z8 w t := by rcases ht' with e | e <;> rw [e] <;> assumption
  have hX := TX_of (n := n) hT (by omega) hm
  obtain ⟨w2, M, hTK, a1, a2, a3, a4, a5, a6, a7⟩ := z40 H hX ht hr hzt
  have eB : rB B (n : Int) = rTx (tTx B n) n := rfl
  rw [eB]
  have hQK : (rTx (tTx B n) n).1.1 = 0 → QK (rTx (tTx B n) n).2 := fun z => QK_rAl hTK 700 _ QK_00 z
  revert a1 a2 a3 hQK
  generalize rTx (tTx B n) n = a
  intro a1 a2 a3 hQK
  have hh := e114 (a0 := 0) (x1 := (n : Int)) H l0
  have h15 : gI w 0 1 = m := hT.1
  have k12 : ∀ c, c ≠ 12 → gR w2 c = gR w c := a6.2.1
  have gI2 : ∀ c, ¬ (12 ≤ c ∧ c ≤ 16) → ¬ (t ≤ c ∧ c ≤ t + 9) → gI w2 c = gI w c := a6.1
  by_cases z : a.1.1 = 0
  · obtain ⟨w3, hw3⟩ : ∃ w3, w3 = pI (pI w2 0 1 0) 0 2 (-1) := ⟨_, rfl⟩
    have f3 : FrI (fun c => c = 0) w2 w3 := by rw [hw3]; exact (FrI.p (A := fun c => c = 0) rfl).pp rfl
    have H3 := f3.LR a5
    obtain ⟨w4, hw4⟩ : ∃ w4, w4 = pR (pR w3 0 3 (some t)) 12 1 (some q) := ⟨_, rfl⟩
    have H4 : LR w4 := by rw [hw4]; exact LRp (LRp H3 l0 (by decide)) l12 (by decide)
    have g4 : gI w4 = gI w3 := by rw [hw4]; rfl
    have r4 : gR w4 0 3 = some t := by rw [hw4, gR_r (by decide), gR_s]
    have r4b : gR w4 12 1 = some q := by rw [hw4, gR_s]
    have r4c : ∀ c, c ≠ 0 → c ≠ 12 → gR w4 c = gR w2 c := fun c c1 c2 => by rw [hw4, gR_r c2, gR_r c1, f3.R]
    have e38 : gI w4 38 = uG (oS A) := by rw [g4, f3.g (by decide), gI2 38 (by omega) (by omega)]; exact h.1.2.2.2.1.2.2.2.1
    obtain ⟨w5, b1, b2, b3, b4⟩ := z73 (t := t) H4 ht e38 h9
    have H5 := b4.LR H4
    obtain ⟨w6, hw6⟩ : ∃ w6, w6 = pI (pI (pI w5 44 1 0) 246 3 0) 251 4 0 := ⟨_, rfl⟩
    have f6 : FrI (fun c => c = 44 ∨ c = 246 ∨ c = 251) w5 w6 := by rw [hw6]; exact ((FrI.p (A := fun c => c = 44 ∨ c = 246 ∨ c = 251) (Or.inl rfl)).pp (Or.inr (Or.inl rfl))).pp (Or.inr (Or.inr rfl))
    have H6 := f6.LR H5
    have e6 : F114 0 (n : Int) w = rI a.1.1 w6 := by
      refine hh _ ?_
      rw [if_neg (by omega), h15, if_pos (by omega), show F40 (0 + 12) (0 + 1) (n : Int) w = _ from a1, bI_r a5, if_pos z]
      show gQ (gR (pI (pI w2 0 1 0) 0 2 (-1)) 0 3) 4 _ = _
      rw [← hw3, show gR w3 0 3 = some q by rw [f3.R, k12 0 (by decide)]; exact h.1.2.1, gQ_t (lq hq), show gR w3 (0 + 12) 1 = some t by rw [f3.R]; exact a4, gQ_t (lt4 ht)]
      show gQ (gR (pR (pR w3 0 3 (some t)) 12 1 (some q)) 0 3) 4 _ = _
      rw [← hw4, r4, gQ_t (lt4 ht), show F73 (0 + 34) t w4 = r0 w5 from b1, b0_r H5]
      have hF1 : F1 (0 + 44) w5 = r0 (pI w5 44 1 0) := e1 H5 (by rfl) _ rfl
      rw [hF1, b0_r (w := pI w5 44 1 0) H5]
      have hF67 : F67 (0 + 246) (pI w5 44 1 0) = r0 (pI (pI w5 44 1 0) 246 3 0) := e67 (w := pI w5 44 1 0) H5 (by rfl) _ rfl
      rw [hF67, b0_r (w := pI (pI w5 44 1 0) 246 3 0) H5, hw6, z]
    have gg : ∀ c, c ≠ 0 → ¬ (12 ≤ c ∧ c ≤ 16) → ¬ (t ≤ c ∧ c ≤ t + 9) → ¬ (34 ≤ c ∧ c ≤ 38) → c ≠ 44 → c ≠ 246 → c ≠ 251 → gI w6 c = gI w c := fun c x0 x1 x2 x3 x4 x5 x6 => by
      rw [f6.g (by omega), b4.g x3, g4, f3.g x0]; exact gI2 c x1 x2
    have gq : ∀ c, 2 ≤ c → c ≤ 26 → gI w6 c = gI w2 c := fun c x1 x2 => by rw [f6.g (by omega), b4.g (by omega), g4, f3.g (by omega)]
    have gr : ∀ c, c ≠ 0 → c ≠ 12 → gR w6 c = gR w c := fun c c1 c2 => by rw [f6.R, b4.R, r4c c c1 c2, k12 c c2]
    have hqk := hQK z
    have hQz : RQz w6 t a.2 := RQz.ext (a2 z) (fun c c1 c2 _ _ => gq c (by omega) (by omega)) (fun p _ => by rw [gq _ (by omega) (by omega)]) (fun p i _ _ => by rw [gq _ (by omega) (by omega)]) (fun i _ => by rw [gq 12 (by decide) (by decide)])
    have row0 : ∀ i, gI w6 0 i = gI (pI (pI w2 0 1 0) 0 2 (-1)) 0 i := fun i => by rw [f6.g (by decide), b4.g (by decide), g4, hw3]
    refine ⟨w6, t, e6, ?_, ⟨M, hTK⟩, fun _ => ⟨⟨⟨ht, ?_, RQ_mk hqk hQz, ?_, H6, GQ_mk hqk, GS_mk hqk, by show (0 : Int) ≤ 999; decide⟩, ?_, ?_, fun i hi => ?_, ?_, fun _ => ?_, fun y hy => by cases hy⟩, ⟨?_, ?_, fun i hi => absurd hi (Nat.not_lt_zero _)⟩, Nat.zero_le _, ?_, fun p hp => ?_, fun p hp => ?_⟩, fun u => absurd z u⟩
    · -- the frame
      have e2 := a6
      refine ⟨fun b hb => ⟨gg b (by omega) (by omega) (by omega) (by omega) (by omega) (by omega) (by omega), gr b (by omega) (by omega), ?_⟩, ?_, ?_, ?_, ?_, ?_⟩
      · have x1 : gJ w6 = gJ w5 := by have e := f6.2; unfold gJ; rw [e]
        have x2 : gJ w5 = gJ w4 := by have e := b4.2; unfold gJ; rw [e]
        have x3 : gJ w4 = gJ w3 := by rw [hw4]; rfl
        have x4 : gJ w3 = gJ w2 := by have e := f3.2; unfold gJ; rw [e]
        rw [x1, x2, x3, x4, e2.2.2.1]
      · have x1 : gN w6 = gN w5 := by have e := f6.2; unfold gN; rw [e]
        have x2 : gN w5 = gN w4 := by have e := b4.2; unfold gN; rw [e]
        have x3 : gN w4 = gN w3 := by rw [hw4]; rfl
        have x4 : gN w3 = gN w2 := by have e := f3.2; unfold gN; rw [e]
        rw [x1, x2, x3, x4, e2.2.2.2.1]
      · have x1 : gL w6 = gL w5 := by have e := f6.2; unfold gL; rw [e]
        have x2 : gL w5 = gL w4 := by have e := b4.2; unfold gL; rw [e]
        have x3 : gL w4 = gL w3 := by rw [hw4]; rfl
        have x4 : gL w3 = gL w2 := by have e := f3.2; unfold gL; rw [e]
        rw [x1, x2, x3, x4, e2.2.2.2.2.1]
      · have x1 : gX w6 = gX w5 := by have e := f6.2; unfold gX; rw [e]
        have x2 : gX w5 = gX w4 := by have e := b4.2; unfold gX; rw [e]
        have x3 : gX w4 = gX w3 := by rw [hw4]; rfl
        have x4 : gX w3 = gX w2 := by have e := f3.2; unfold gX; rw [e]
        rw [x1, x2, x3, x4, e2.2.2.2.2.2.1]
      · have x1 : gE w6 = gE w5 := by have e := f6.2; unfold gE; rw [e]
        have x2 : gE w5 = gE w4 := by have e := b4.2; unfold gE; rw [e]
        have x3 : gE w4 = gE w3 := by rw [hw4]; rfl
        have x4 : gE w3 = gE w2 := by have e := f3.2; unfold gE; rw [e]
        rw [x1, x2, x3, x4, e2.2.2.2.2.2.2]; exact Nat.le_refl _
      · have x1 : gE w6 = gE w5 := by have e := f6.2; unfold gE; rw [e]
        have x2 : gE w5 = gE w4 := by have e := b4.2; unfold gE; rw [e]
        have x3 : gE w4 = gE w3 := by rw [hw4]; rfl
        have x4 : gE w3 = gE w2 := by have e := f3.2; unfold gE; rw [e]
        rw [x1, x2, x3, x4, e2.2.2.2.2.2.2]; exact Nat.le_succ _
    · rw [f6.R, b4.R]; exact r4
    · refine ⟨?_, ?_, ?_, ?_, ?_, ?_, ?_, ?_⟩
      · rw [f6.g (by decide), b2.1, g4, f3.g (by omega)]; exact (a2 z).2.1.1
      · rw [f6.g (by decide), b2.2.1, g4, f3.g (by omega)]; exact (a2 z).2.1.2.1
      · rw [f6.g (by decide), b2.2.2.1, g4, f3.g (by omega)]; exact (a2 z).2.1.2.2
      · rw [f6.g (by decide), b2.2.2.2]; rfl
      · rw [f6.g (by decide), b3.1]; exact (show mk (fun _ => false) 8 = 0 by decide).symm
      · rw [f6.g (by decide), b3.2.1]; rfl
      · rw [f6.g (by decide), b3.2.2.1, g4, f3.g (by omega)]; exact (a2 z).1.2.2.1
      · rw [f6.g (by decide), b3.2.2.2]; rfl
    · obtain ⟨x1, x2, f, y1, y2, y3, y4⟩ := h.2.1
      refine ⟨by show 0 ≤ 40; decide, ?_, f, y1, y2, fun i hi => by rw [gr 45 (by decide) (by decide)]; exact y3 i hi, fun i hi => absurd hi (Nat.not_lt_zero _)⟩
      rw [hw6, gI_r (by decide), gI_r (by decide), gI_s]; rfl
    · refine ⟨?_, fun i hi => absurd hi (Nat.not_lt_zero _)⟩
      rw [hw6, gI_r (by decide), gI_s]; rfl
    · show gI w6 250 i = oT A i
      rw [gg 250 (by decide) (by decide) (by omega) (by decide) (by decide) (by decide) (by decide)]
      exact h.2.2.2.1 i hi
    · obtain ⟨N, hN⟩ := h.2.2.2.2.1
      exact ⟨N, hN.ext (fun c hc => by unfold AK at hc; exact gg c (by omega) (by omega) (by omega) (by omega) (by omega) (by omega) (by omega)) (gr 258 (by decide) (by decide))⟩
    · rw [hw6, gI_s]
    · rw [row0, gI_c (by decide), gI_s]; rfl
    · rw [row0, gI_s]
    · rw [f6.R, b4.R, r4b, htq]
    · rw [gq 3 (by decide) (by decide), gq 4 (by decide) (by decide), gq 5 (by decide) (by decide)]
      rcases ht' with e | e
      · rw [e] at a7; exact a7 p hp
      · rw [gI2 3 (by omega) (by omega), gI2 4 (by omega) (by omega), gI2 5 (by omega) (by omega)]; exact hz2 p hp
    · rw [gq 18 (by decide) (by decide), gq 19 (by decide) (by decide), gq 20 (by decide) (by decide)]
      rcases ht' with e | e
      · rw [gI2 18 (by omega) (by omega), gI2 19 (by omega) (by omega), gI2 20 (by omega) (by omega)]; exact hz17 p hp
      · rw [e] at a7; exact a7 p hp
  · obtain ⟨w3, hw3⟩ : ∃ w3, w3 = pI (pI w2 0 1 0) 0 2 (gI w2 12 6) := ⟨_, rfl⟩
    have f3 : FrI (fun c => c = 0) w2 w3 := by rw [hw3]; exact (FrI.p (A := fun c => c = 0) rfl).pp rfl
    have H3 := f3.LR a5
    have hRC : RC w3 q A := h.hq (fun b b1 b2 b3 b4 => by rw [f3.g (by omega)]; exact gI2 b b3 (by rw [htt]; exact b4)) (fun c hc => by rw [f3.R, k12 c hc]) H3
    obtain ⟨w4, b1, b2, b3⟩ := q168 (k := 0) hRC (by decide)
    have b3 : FrI (fun c => c = 250) w3 w4 := b3
    have H4 := b3.LR H3
    have row0 : ∀ i, gI w4 0 i = gI (pI (pI w2 0 1 0) 0 2 (gI w2 12 6)) 0 i := fun i => by rw [b3.g (by decide), hw3]
    have gq : ∀ c, 2 ≤ c → c ≤ 26 → gI w4 c = gI w2 c := fun c x1 x2 => by rw [b3.g (by omega), f3.g (by omega)]
    refine ⟨w4, q, hh _ ?_, ⟨fun b hb => ⟨?_, ?_, ?_⟩, ?_, ?_, ?_, ?_, ?_⟩, ⟨M, hTK⟩, fun u => absurd u z, fun _ => ⟨b2, ⟨?_, ?_, fun i hi => absurd hi (Nat.not_lt_zero _)⟩, Nat.zero_le _, ?_, fun p hp => ?_, fun p hp => ?_⟩⟩
    · rw [if_neg (by omega), h15, if_pos (by omega), show F40 (0 + 12) (0 + 1) (n : Int) w = _ from a1, bI_r a5, if_neg z, gI_r (by decide), ← hw3, show F168 0 0 w3 = _ from b1, bI_r H4]
    · rw [b3.g (by omega), f3.g (by omega)]; exact gI2 b (by omega) (by omega)
    · rw [b3.R, f3.R, k12 b (by omega)]
    · have x1 : gJ w4 = gJ w3 := by have e := b3.2; unfold gJ; rw [e]
      have x4 : gJ w3 = gJ w2 := by have e := f3.2; unfold gJ; rw [e]
      rw [x1, x4, a6.2.2.1]
    · have x1 : gN w4 = gN w3 := by have e := b3.2; unfold gN; rw [e]
      have x4 : gN w3 = gN w2 := by have e := f3.2; unfold gN; rw [e]
      rw [x1, x4, a6.2.2.2.1]
    · have x1 : gL w4 = gL w3 := by have e := b3.2; unfold gL; rw [e]
      have x4 : gL w3 = gL w2 := by have e := f3.2; unfold gL; rw [e]
      rw [x1, x4, a6.2.2.2.2.1]
    · have x1 : gX w4 = gX w3 := by have e := b3.2; unfold gX; rw [e]
      have x4 : gX w3 = gX w2 := by have e := f3.2; unfold gX; rw [e]
      rw [x1, x4, a6.2.2.2.2.2.1]
    · have x1 : gE w4 = gE w3 := by have e := b3.2; unfold gE; rw [e]
      have x4 : gE w3 = gE w2 := by have e := f3.2; unfold gE; rw [e]
      rw [x1, x4, a6.2.2.2.2.2.2]; exact Nat.le_refl _
    · have x1 : gE w4 = gE w3 := by have e := b3.2; unfold gE; rw [e]
      have x4 : gE w3 = gE w2 := by have e := f3.2; unfold gE; rw [e]
      rw [x1, x4, a6.2.2.2.2.2.2]; exact Nat.le_succ _
    · rw [row0, gI_c (by decide), gI_s]; rfl
    · rw [row0, gI_s, a3, if_neg z]; rfl
    · rw [b3.R, f3.R, a4, htt]
    · rw [gq 3 (by decide) (by decide), gq 4 (by decide) (by decide), gq 5 (by decide) (by decide)]
      rcases ht' with e | e
      · rw [e] at a7; exact a7 p hp
      · rw [gI2 3 (by omega) (by omega), gI2 4 (by omega) (by omega), gI2 5 (by omega) (by omega)]; exact hz2 p hp
    · rw [gq 18 (by decide) (by decide), gq 19 (by decide) (by decide), gq 20 (by decide) (by decide)]
      rcases ht' with e | e
      · rw [gI2 18 (by omega) (by omega), gI2 19 (by omega) (by omega), gI2 20 (by omega) (by omega)]; exact hz17 p hp
      · rw [e] at a7; exact a7 p hp
