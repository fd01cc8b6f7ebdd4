/-! all steps as one; worlds only grow -/
def wle (w w' : Wd) : Prop := gN w ≤ gN w' ∧ gE w ≤ gE w' ∧ slt w ≤ slt w'
theorem wle_rf {w : Wd} : wle w w := ⟨Nat.le_refl _, Nat.le_refl _, Nat.le_refl _⟩
theorem wle_tr {a b c : Wd} (h : wle a b) (h' : wle b c) : wle a c := ⟨Nat.le_trans h.1 h'.1, Nat.le_trans h.2.1 h'.2.1, Nat.le_trans h.2.2 h'.2.2⟩
theorem wle_nW {w : Wd} : wle w (nW w) := ⟨Nat.le_succ _, Nat.le_refl _, by
  show sl (gN w) + 6 * gE w ≤ sl (gN w + 1) + 6 * gE w
  rw [sl_succ]; omega⟩
theorem wle_tW {w : Wd} : wle w (tW w) := ⟨Nat.le_refl _, Nat.le_succ _, by
  show sl (gN w) + 6 * gE w ≤ sl (gN w) + 6 * (gE w + 1)
  omega⟩
/-- what an act does to the world -/
def AW (w : Wd) : Act → Prop
  | .inl c => wle w c.2.2.2
  | .inr (.inl q) => q.2.2.2.2.2 = w
  | .inr (.inr o) => wle w o.2
theorem AW_exN {len pc : Nat} {L : List (Option AV)} {w : Wd} {o : Option (List AV)} {a : Act} (h : exN len pc L w o = some a) : AW w a := by
  obtain ⟨S, -, rfl⟩ := exN_some h; exact wle_rf
theorem AW_exJ {pc : Nat} {off : Int} {L : List (Option AV)} {S : List AV} {w : Wd} {a : Act} (h : exJ pc off L S w = some a) : AW w a := by
  obtain ⟨t, -, rfl⟩ := exJ_some h; exact wle_rf
theorem AW_exIf {len pc : Nat} {off : Int} {L : List (Option AV)} {S : List AV} {w : Wd} {b : Bool} {a : Act} (h : exIf len pc off L S w b = some a) : AW w a := by
  obtain ⟨t, -, rfl⟩ := exIf_some h; exact wle_rf
theorem AW_exCall {mi ix len pc : Nat} {L : List (Option AV)} {S : List AV} {w : Wd} {ks : List Nat} {a : Act} (h : exCall mi ix len pc L S w ks = some a) : AW w a := by
  unfold exCall at h
  split at h
  · cases h
  · split at h
    · cases h
    · split at h
      · split at h
        · split at h
          · cases h; exact wle_rf
          · cases h
        · cases h
      · split at h
        · split at h
          · split at h
            · cases h; exact wle_rf
            · cases h
          · cases h
        · split at h
          · split at h
            · cases h; rfl
            · cases h
          · split at h
            · have h := (Option.ite_none_right_eq_some.mp h).2
              cases h; rfl
            · cases h
theorem fPut_w {mi ix : Nat} {w w' : Wd} {a : Nat} {v : AV} (h : fPut mi ix w a v = some w') : wle w w' := by
  unfold fPut at h
  split at h
  · cases h
  · split at h
    · split at h
      · split at h
        · cases h; exact wle_rf
        · cases h
      · split at h
        · cases h; exact wle_rf
        · cases h
      · cases h
    · cases h
theorem exAst_w {k : Nat} {w : Wd} {S : List AV} {q : List AV × Wd} (h : exAst k w S = some q) : wle w q.2 := by
  unfold exAst at h
  split at h
  · split at h
    · cases h; exact wle_rf
    · split at h
      · cases h; exact wle_rf
      · cases h
  · split at h
    · cases h; exact wle_rf
    · cases h
  · split at h
    · cases h; exact wle_rf
    · split at h
      · cases h; exact wle_rf
      · cases h
  · cases h
theorem exNewA_w {k : Nat} {w : Wd} {S : List AV} {q : List AV × Wd} (h : exNewA k w S = some q) : wle w q.2 := by
  unfold exNewA at h
  split at h
  · split at h
    · cases h; exact wle_nW
    · cases h
  · cases h
theorem AW_map {len pc : Nat} {L : List (Option AV)} {w : Wd} {x : Option (List AV × Wd)} {a : Act} (hx : ∀ q, x = some q → wle w q.2) (h : x.map (fun q => (Sum.inl (pc + len, L, q.1, q.2) : Act)) = some a) : AW w a := by
  cases x with
  | none => cases h
  | some q => cases h; exact hx q rfl
set_option maxHeartbeats 4000000 in
theorem exec1_w {mi len pc : Nat} {i : Instr} {L : List (Option AV)} {S : List AV} {w : Wd} {a : Act} (h : exec1 mi i len pc L S w = some a) : AW w a := by
  unfold exec1 at h
  split at h
  · rename_i hlen0
    cases i <;> dsimp only [exec0] at h <;> first
      | (cases h; done)
      | exact AW_exN h
      | exact AW_exJ h
      | exact AW_exCall h
      | exact AW_map (fun q hq => exAst_w hq) h
      | exact AW_map (fun q hq => exNewA_w hq) h
      | (split at h <;> first | (cases h; done) | exact AW_exIf h | exact AW_exJ h | (split at h <;> first | (cases h; done) | (cases h; exact wle_rf) | exact AW_exIf h | exact AW_exJ h | exact AW_map (fun q hq => exNewA_w hq) h | (cases h; exact wle_tW) | (split at h <;> first | (cases h; done) | exact AW_exJ h | (cases h; exact wle_rf) | (cases h; exact wle_nW) | (split at h <;> first | (cases h; done) | (cases h; exact wle_nW)))) | (cases h; exact wle_rf) | exact AW_map (fun q hq => exNewA_w hq) h)
      | skip
    case putfield ix =>
      split at h
      · rename_i v a9 S0
        cases hp : fPut mi ix w a9 v with
        | none => rw [hp] at h; cases h
        | some w' => rw [hp] at h; cases h; exact fPut_w hp
      · cases h
  · cases h
theorem run_w : ∀ (n mi r : Nat) (c : Cfg) (o : Out), run n mi r c = some o → wle c.2.2.2 o.2 := by
  intro n
  induction n with
  | zero => intro mi r c o h; cases h
  | succ n ih =>
    intro mi r c o h
    obtain ⟨pc, L, S, w⟩ := c
    rw [run] at h
    cases hd : decode (mB mi) pc with
    | error e => rw [hd] at h; cases h
    | ok q =>
      obtain ⟨i, len⟩ := q
      rw [hd] at h
      simp only [] at h
      cases he : exec1 mi i len pc L S w with
      | none => rw [he] at h; cases h
      | some a =>
        rw [he] at h
        have hw := exec1_w he
        rcases a with c | ⟨mj, as, c⟩ | o'
        · exact wle_tr hw (ih _ _ _ _ h)
        · simp only [] at h
          by_cases hr : crk mj as < r
          · rw [if_pos hr] at h
            cases hc : run n mj (crk mj as) (0, entL mj as, [], w) with
            | none => rw [hc] at h; cases h
            | some q =>
              rw [hc] at h
              have h1 := ih _ _ _ _ hc
              obtain ⟨v | e, w'⟩ := q
              · exact wle_tr h1 (ih _ _ _ _ h)
              · simp only [] at h
                cases hh : hnd mi pc e with
                | none => rw [hh] at h; cases h; exact h1
                | some z =>
                  rw [hh] at h
                  cases z with
                  | none => cases h
                  | some kp =>
                    simp only [] at h
                    by_cases hk : kp.1 < L.length
                    · rw [if_pos hk] at h; exact wle_tr h1 (ih _ _ _ _ h)
                    · rw [if_neg hk] at h; cases h
          · rw [if_neg hr] at h; cases h
        · cases h; exact hw
section STEP5
variable {X : PR} {l : Launch} {mi : Nat} {p : Program} {e : Env} {R : Room} {s : State} {m : MethodId} {args : Array Value} {below : List Frame} {meth : Method} {c : Code} {H : Heap} {locs : List Loc} {cells slots : Nat} {Q : State → Prop} {ls : Array Slot} {pc len : Nat} {L : List (Option AV)} {S : List AV} {w : Wd} {c' : Cfg}
theorem Wtriv {g : JFrame} : W p l e R s m args below meth c H locs cells slots (fun _ => True) g := fun T _ _ => ⟨_, Steps.refl _, trivial⟩
theorem exCall_inl {mi ix len pc : Nat} {ks : List Nat} (h : exCall mi ix len pc L S w ks = some (.inl c')) :
    (∃ mj n i1 i2 i3 a S', cres (mOwn mi) ix = some (ix, 7, mj, n, i1, i2, i3) ∧ ks.contains 7 = true ∧ S = .inr (.inl (some a)) :: S' ∧ wd S' ≤ 8 ∧ a < STR ∧ c' = (pc + len, L, S', w)) ∨
    (∃ mj n i1 i2 i3 a d k dp sp S', cres (mOwn mi) ix = some (ix, 8, mj, n, i1, i2, i3) ∧ ks.contains 8 = true ∧ S = .inl k :: .inl dp :: .inr (.inl (some d)) :: .inl sp :: .inr (.inl (some a)) :: S' ∧
      (wd S' ≤ 8 ∧ (lay a).1 = 21 ∧ (lay d).1 = 21 ∧ 0 ≤ sp ∧ 0 ≤ dp ∧ 0 ≤ k ∧ sp + k ≤ (lay a).2 ∧ dp + k ≤ (lay d).2) ∧ c' = (pc + len, L, S', sI w d (aCpy (gI w a) (gI w d) sp.toNat dp.toNat k.toNat (lay d).2))) := by
  unfold exCall at h
  split at h
  · cases h
  · rename_i ix' kind mj n i1 i2 i3 hcr
    have hix := (cres_some hcr).2
    simp only [] at hix
    subst hix
    split at h
    · cases h
    · rename_i hks
      split at h
      · rename_i hk; subst hk
        split at h
        · split at h
          · rename_i hw
            cases h
            exact Or.inl ⟨_, _, _, _, _, _, _, hcr, by simpa using hks, rfl, hw.1, hw.2, rfl⟩
          · cases h
        · cases h
      · split at h
        · rename_i hk; subst hk
          split at h
          · split at h
            · rename_i hw
              cases h
              exact Or.inr ⟨_, _, _, _, _, _, _, _, _, _, _, hcr, by simpa using hks, rfl, hw, rfl⟩
            · cases h
          · cases h
        · split at h
          · split at h <;> cases h
          · split at h
            · have h := (Option.ite_none_right_eq_some.mp h).2
              cases h
            · cases h
theorem exNewA_some {k len pc : Nat} (he : (exNewA k w S).map (fun q => (Sum.inl (pc + len, L, q.1, q.2) : Act)) = some (.inl c')) : ∃ n S0, S = .inl n :: S0 ∧ gE w = 0 ∧ 0 ≤ n ∧ lay (gN w) = (k, n.toNat) ∧ c' = (pc + len, L, .inr (.inl (some (gN w))) :: S0, nW w) := by
  cases h1 : exNewA k w S with
  | none => rw [h1] at he; cases he
  | some q =>
    rw [h1] at he
    cases he
    unfold exNewA at h1
    split at h1
    · split at h1
      · rename_i hq
        cases h1
        exact ⟨_, _, rfl, hq.1, hq.2.1, hq.2.2, rfl⟩
      · cases h1
    · cases h1
set_option maxHeartbeats 4000000 in
theorem step_next {i : Instr} (hC : Ctx X l mi p s m args meth c) (hd : decode (mB mi) pc = .ok (i, len)) (he : exec1 mi i len pc L S w = some (.inl c')) (hst : St X (mL mi) s H locs ls L S w) (hsz : gE w = 0 → H.size = xB X + gN w) (hR : 1 ≤ R.frames ∧ 40 ≤ R.locals)
    (hc : cells + (gN c'.2.2.2 - gN w) ≤ R.cells) (hs : slots + (sl (gN c'.2.2.2) - sl (gN w)) ≤ R.slots)
    (K : ∀ (H' : Heap) (locs' : List Loc) (cells' slots' : Nat) (ls' : Array Slot), St X (mL mi) s H' locs' ls' c'.2.1 c'.2.2.1 c'.2.2.2 → cells' = cells + (gN c'.2.2.2 - gN w) → slots' = slots + (sl (gN c'.2.2.2) - sl (gN w)) → W p l e R s m args below meth c H' locs' cells' slots' Q (F0 m c'.1 ls' (c'.2.2.1.map (cv X)))) :
    gE c'.2.2.2 = gE w ∧ W p l e R s m args below meth c H locs cells slots Q (F0 m pc ls (S.map (cv X))) := by
  unfold exec1 at he
  split at he
  · rename_i hlen
    have K0 : c'.2.2.2 = w → ∀ ls' : Array Slot, St X (mL mi) s H locs ls' c'.2.1 c'.2.2.1 w → W p l e R s m args below meth c H locs cells slots Q (F0 m c'.1 ls' (c'.2.2.1.map (cv X))) := by
      intro ew ls' h'
      exact K H locs cells slots ls' (by rw [ew]; exact h') (by rw [ew]; omega) (by rw [ew]; omega)
    have K1 : gN c'.2.2.2 = gN w → ∀ (H' : Heap) (locs' : List Loc), St X (mL mi) s H' locs' ls c'.2.1 c'.2.2.1 c'.2.2.2 → W p l e R s m args below meth c H' locs' cells slots Q (F0 m c'.1 ls (c'.2.2.1.map (cv X))) := by
      intro ew H' locs' h'
      exact K H' locs' cells slots ls h' (by rw [ew]; omega) (by rw [ew]; omega)
    cases i
    all_goals first | (dsimp only [exec0] at he; cases he; done) | skip

    case iadd =>
      have e1 := (sx_iadd (l := l) (e := e) (R := R) (below := below) (cells := cells) (slots := slots) (Q := fun _ => True) hC hd hlen he hst (fun _ _ => Wtriv)).1
      exact ⟨by rw [e1], (sx_iadd hC hd hlen he hst (K0 e1)).2⟩
    case isub =>
      have e1 := (sx_isub (l := l) (e := e) (R := R) (below := below) (cells := cells) (slots := slots) (Q := fun _ => True) hC hd hlen he hst (fun _ _ => Wtriv)).1
      exact ⟨by rw [e1], (sx_isub hC hd hlen he hst (K0 e1)).2⟩
    case imul =>
      have e1 := (sx_imul (l := l) (e := e) (R := R) (below := below) (cells := cells) (slots := slots) (Q := fun _ => True) hC hd hlen he hst (fun _ _ => Wtriv)).1
      exact ⟨by rw [e1], (sx_imul hC hd hlen he hst (K0 e1)).2⟩
    case iand =>
      have e1 := (sx_iand (l := l) (e := e) (R := R) (below := below) (cells := cells) (slots := slots) (Q := fun _ => True) hC hd hlen he hst (fun _ _ => Wtriv)).1
      exact ⟨by rw [e1], (sx_iand hC hd hlen he hst (K0 e1)).2⟩
    case ior =>
      have e1 := (sx_ior (l := l) (e := e) (R := R) (below := below) (cells := cells) (slots := slots) (Q := fun _ => True) hC hd hlen he hst (fun _ _ => Wtriv)).1
      exact ⟨by rw [e1], (sx_ior hC hd hlen he hst (K0 e1)).2⟩
    case ixor =>
      have e1 := (sx_ixor (l := l) (e := e) (R := R) (below := below) (cells := cells) (slots := slots) (Q := fun _ => True) hC hd hlen he hst (fun _ _ => Wtriv)).1
      exact ⟨by rw [e1], (sx_ixor hC hd hlen he hst (K0 e1)).2⟩
    case ishl =>
      have e1 := (sx_ishl (l := l) (e := e) (R := R) (below := below) (cells := cells) (slots := slots) (Q := fun _ => True) hC hd hlen he hst (fun _ _ => Wtriv)).1
      exact ⟨by rw [e1], (sx_ishl hC hd hlen he hst (K0 e1)).2⟩
    case ishr =>
      have e1 := (sx_ishr (l := l) (e := e) (R := R) (below := below) (cells := cells) (slots := slots) (Q := fun _ => True) hC hd hlen he hst (fun _ _ => Wtriv)).1
      exact ⟨by rw [e1], (sx_ishr hC hd hlen he hst (K0 e1)).2⟩
    case iushr =>
      have e1 := (sx_iushr (l := l) (e := e) (R := R) (below := below) (cells := cells) (slots := slots) (Q := fun _ => True) hC hd hlen he hst (fun _ _ => Wtriv)).1
      exact ⟨by rw [e1], (sx_iushr hC hd hlen he hst (K0 e1)).2⟩
    case i2b =>
      have e1 := (sx_i2b (l := l) (e := e) (R := R) (below := below) (cells := cells) (slots := slots) (Q := fun _ => True) hC hd hlen he hst (fun _ _ => Wtriv)).1
      exact ⟨by rw [e1], (sx_i2b hC hd hlen he hst (K0 e1)).2⟩
    case i2c =>
      have e1 := (sx_i2c (l := l) (e := e) (R := R) (below := below) (cells := cells) (slots := slots) (Q := fun _ => True) hC hd hlen he hst (fun _ _ => Wtriv)).1
      exact ⟨by rw [e1], (sx_i2c hC hd hlen he hst (K0 e1)).2⟩
    case ineg =>
      have e1 := (sx_ineg (l := l) (e := e) (R := R) (below := below) (cells := cells) (slots := slots) (Q := fun _ => True) hC hd hlen he hst (fun _ _ => Wtriv)).1
      exact ⟨by rw [e1], (sx_ineg hC hd hlen he hst (K0 e1)).2⟩
    case idiv =>
      have e1 := (sx_idiv (l := l) (e := e) (R := R) (below := below) (cells := cells) (slots := slots) (Q := fun _ => True) hC hd hlen he hst (fun _ _ => Wtriv)).1
      exact ⟨by rw [e1], (sx_idiv hC hd hlen he hst (K0 e1)).2⟩
    case irem =>
      have e1 := (sx_irem (l := l) (e := e) (R := R) (below := below) (cells := cells) (slots := slots) (Q := fun _ => True) hC hd hlen he hst (fun _ _ => Wtriv)).1
      exact ⟨by rw [e1], (sx_irem hC hd hlen he hst (K0 e1)).2⟩
    case i2l =>
      have e1 := (sx_i2l (l := l) (e := e) (R := R) (below := below) (cells := cells) (slots := slots) (Q := fun _ => True) hC hd hlen he hst (fun _ _ => Wtriv)).1
      exact ⟨by rw [e1], (sx_i2l hC hd hlen he hst (K0 e1)).2⟩
    case land =>
      have e1 := (sx_land (l := l) (e := e) (R := R) (below := below) (cells := cells) (slots := slots) (Q := fun _ => True) hC hd hlen he hst (fun _ _ => Wtriv)).1
      exact ⟨by rw [e1], (sx_land hC hd hlen he hst (K0 e1)).2⟩
    case lor =>
      have e1 := (sx_lor (l := l) (e := e) (R := R) (below := below) (cells := cells) (slots := slots) (Q := fun _ => True) hC hd hlen he hst (fun _ _ => Wtriv)).1
      exact ⟨by rw [e1], (sx_lor hC hd hlen he hst (K0 e1)).2⟩
    case lshl =>
      have e1 := (sx_lshl (l := l) (e := e) (R := R) (below := below) (cells := cells) (slots := slots) (Q := fun _ => True) hC hd hlen he hst (fun _ _ => Wtriv)).1
      exact ⟨by rw [e1], (sx_lshl hC hd hlen he hst (K0 e1)).2⟩
    case lcmp =>
      have e1 := (sx_lcmp (l := l) (e := e) (R := R) (below := below) (cells := cells) (slots := slots) (Q := fun _ => True) hC hd hlen he hst (fun _ _ => Wtriv)).1
      exact ⟨by rw [e1], (sx_lcmp hC hd hlen he hst (K0 e1)).2⟩
    case aconst_null =>
      have e1 := (sx_aconst_null (l := l) (e := e) (R := R) (below := below) (cells := cells) (slots := slots) (Q := fun _ => True) hC hd hlen he hst (fun _ _ => Wtriv)).1
      exact ⟨by rw [e1], (sx_aconst_null hC hd hlen he hst (K0 e1)).2⟩
    case iconst n =>
      have e1 := (sx_iconst (l := l) (e := e) (R := R) (below := below) (cells := cells) (slots := slots) (Q := fun _ => True) hC hd hlen he hst (fun _ _ => Wtriv)).1
      exact ⟨by rw [e1], (sx_iconst hC hd hlen he hst (K0 e1)).2⟩
    case bipush n =>
      have e1 := (sx_bipush (l := l) (e := e) (R := R) (below := below) (cells := cells) (slots := slots) (Q := fun _ => True) hC hd hlen he hst (fun _ _ => Wtriv)).1
      exact ⟨by rw [e1], (sx_bipush hC hd hlen he hst (K0 e1)).2⟩
    case sipush n =>
      have e1 := (sx_sipush (l := l) (e := e) (R := R) (below := below) (cells := cells) (slots := slots) (Q := fun _ => True) hC hd hlen he hst (fun _ _ => Wtriv)).1
      exact ⟨by rw [e1], (sx_sipush hC hd hlen he hst (K0 e1)).2⟩
    case lconst n =>
      have e1 := (sx_lconst (l := l) (e := e) (R := R) (below := below) (cells := cells) (slots := slots) (Q := fun _ => True) hC hd hlen he hst (fun _ _ => Wtriv)).1
      exact ⟨by rw [e1], (sx_lconst hC hd hlen he hst (K0 e1)).2⟩
    case iload k =>
      have e1 := (sx_iload (l := l) (e := e) (R := R) (below := below) (cells := cells) (slots := slots) (Q := fun _ => True) hC hd hlen he hst (fun _ _ => Wtriv)).1
      exact ⟨by rw [e1], (sx_iload hC hd hlen he hst (K0 e1)).2⟩
    case iload_n k =>
      have e1 := (sx_iload_n (l := l) (e := e) (R := R) (below := below) (cells := cells) (slots := slots) (Q := fun _ => True) hC hd hlen he hst (fun _ _ => Wtriv)).1
      exact ⟨by rw [e1], (sx_iload_n hC hd hlen he hst (K0 e1)).2⟩
    case lload k =>
      have e1 := (sx_lload (l := l) (e := e) (R := R) (below := below) (cells := cells) (slots := slots) (Q := fun _ => True) hC hd hlen he hst (fun _ _ => Wtriv)).1
      exact ⟨by rw [e1], (sx_lload hC hd hlen he hst (K0 e1)).2⟩
    case lload_n k =>
      have e1 := (sx_lload_n (l := l) (e := e) (R := R) (below := below) (cells := cells) (slots := slots) (Q := fun _ => True) hC hd hlen he hst (fun _ _ => Wtriv)).1
      exact ⟨by rw [e1], (sx_lload_n hC hd hlen he hst (K0 e1)).2⟩
    case aload k =>
      have e1 := (sx_aload (l := l) (e := e) (R := R) (below := below) (cells := cells) (slots := slots) (Q := fun _ => True) hC hd hlen he hst (fun _ _ => Wtriv)).1
      exact ⟨by rw [e1], (sx_aload hC hd hlen he hst (K0 e1)).2⟩
    case aload_n k =>
      have e1 := (sx_aload_n (l := l) (e := e) (R := R) (below := below) (cells := cells) (slots := slots) (Q := fun _ => True) hC hd hlen he hst (fun _ _ => Wtriv)).1
      exact ⟨by rw [e1], (sx_aload_n hC hd hlen he hst (K0 e1)).2⟩
    case istore k =>
      have e1 := (sx_istore (l := l) (e := e) (R := R) (below := below) (cells := cells) (slots := slots) (Q := fun _ => True) hC hd hlen he hst (fun _ _ => Wtriv)).1
      exact ⟨by rw [e1], (sx_istore hC hd hlen he hst (K0 e1)).2⟩
    case istore_n k =>
      have e1 := (sx_istore_n (l := l) (e := e) (R := R) (below := below) (cells := cells) (slots := slots) (Q := fun _ => True) hC hd hlen he hst (fun _ _ => Wtriv)).1
      exact ⟨by rw [e1], (sx_istore_n hC hd hlen he hst (K0 e1)).2⟩
    case astore k =>
      have e1 := (sx_astore (l := l) (e := e) (R := R) (below := below) (cells := cells) (slots := slots) (Q := fun _ => True) hC hd hlen he hst (fun _ _ => Wtriv)).1
      exact ⟨by rw [e1], (sx_astore hC hd hlen he hst (K0 e1)).2⟩
    case astore_n k =>
      have e1 := (sx_astore_n (l := l) (e := e) (R := R) (below := below) (cells := cells) (slots := slots) (Q := fun _ => True) hC hd hlen he hst (fun _ _ => Wtriv)).1
      exact ⟨by rw [e1], (sx_astore_n hC hd hlen he hst (K0 e1)).2⟩
    case lstore k =>
      have e1 := (sx_lstore (l := l) (e := e) (R := R) (below := below) (cells := cells) (slots := slots) (Q := fun _ => True) hC hd hlen he hst (fun _ _ => Wtriv)).1
      exact ⟨by rw [e1], (sx_lstore hC hd hlen he hst (K0 e1)).2⟩
    case iinc k n =>
      have e1 := (sx_iinc (l := l) (e := e) (R := R) (below := below) (cells := cells) (slots := slots) (Q := fun _ => True) hC hd hlen he hst (fun _ _ => Wtriv)).1
      exact ⟨by rw [e1], (sx_iinc hC hd hlen he hst (K0 e1)).2⟩
    case dup =>
      have e1 := (sx_dup (l := l) (e := e) (R := R) (below := below) (cells := cells) (slots := slots) (Q := fun _ => True) hC hd hlen he hst (fun _ _ => Wtriv)).1
      exact ⟨by rw [e1], (sx_dup hC hd hlen he hst (K0 e1)).2⟩
    case dup2 =>
      have e1 := (sx_dup2 (l := l) (e := e) (R := R) (below := below) (cells := cells) (slots := slots) (Q := fun _ => True) hC hd hlen he hst (fun _ _ => Wtriv)).1
      exact ⟨by rw [e1], (sx_dup2 hC hd hlen he hst (K0 e1)).2⟩
    case pop =>
      have e1 := (sx_pop (l := l) (e := e) (R := R) (below := below) (cells := cells) (slots := slots) (Q := fun _ => True) hC hd hlen he hst (fun _ _ => Wtriv)).1
      exact ⟨by rw [e1], (sx_pop hC hd hlen he hst (K0 e1)).2⟩
    case goto off =>
      have e1 := (sx_goto (l := l) (e := e) (R := R) (below := below) (cells := cells) (slots := slots) (Q := fun _ => True) hC hd hlen he hst (fun _ _ => Wtriv)).1
      exact ⟨by rw [e1], (sx_goto hC hd hlen he hst (K0 e1)).2⟩
    case if_icmp cd off =>
      have e1 := (sx_if_icmp (l := l) (e := e) (R := R) (below := below) (cells := cells) (slots := slots) (Q := fun _ => True) hC hd hlen he hst (fun _ _ => Wtriv)).1
      exact ⟨by rw [e1], (sx_if_icmp hC hd hlen he hst (K0 e1)).2⟩
    case ifCond cd off =>
      have e1 := (sx_ifCond (l := l) (e := e) (R := R) (below := below) (cells := cells) (slots := slots) (Q := fun _ => True) hC hd hlen he hst (fun _ _ => Wtriv)).1
      exact ⟨by rw [e1], (sx_ifCond hC hd hlen he hst (K0 e1)).2⟩
    case tableswitch df lo hi offs =>
      have e1 := (sx_tableswitch (l := l) (e := e) (R := R) (below := below) (cells := cells) (slots := slots) (Q := fun _ => True) hC hd hlen he hst (fun _ _ => Wtriv)).1
      exact ⟨by rw [e1], (sx_tableswitch hC hd hlen he hst (K0 e1)).2⟩
    case lookupswitch df ps =>
      have e1 := (sx_lookupswitch (l := l) (e := e) (R := R) (below := below) (cells := cells) (slots := slots) (Q := fun _ => True) hC hd hlen he hst (fun _ _ => Wtriv)).1
      exact ⟨by rw [e1], (sx_lookupswitch hC hd hlen he hst (K0 e1)).2⟩
    case if_acmp cd off =>
      have e1 := (sx_if_acmp (l := l) (e := e) (R := R) (below := below) (cells := cells) (slots := slots) (Q := fun _ => True) hC hd hlen he hst (fun _ _ => Wtriv)).1
      exact ⟨by rw [e1], (sx_if_acmp hC hd hlen he hst (K0 e1)).2⟩
    case ifnull off =>
      have e1 := (sx_ifnull (l := l) (e := e) (R := R) (below := below) (cells := cells) (slots := slots) (Q := fun _ => True) hC hd hlen he hst (fun _ _ => Wtriv)).1
      exact ⟨by rw [e1], (sx_ifnull hC hd hlen he hst (K0 e1)).2⟩
    case ifnonnull off =>
      have e1 := (sx_ifnonnull (l := l) (e := e) (R := R) (below := below) (cells := cells) (slots := slots) (Q := fun _ => True) hC hd hlen he hst (fun _ _ => Wtriv)).1
      exact ⟨by rw [e1], (sx_ifnonnull hC hd hlen he hst (K0 e1)).2⟩
    case getfield ix =>
      have e1 := (sx_getfield (l := l) (e := e) (R := R) (below := below) (cells := cells) (slots := slots) (Q := fun _ => True) hC hd hlen he hst (fun _ _ => Wtriv)).1
      exact ⟨by rw [e1], (sx_getfield hC hd hlen he hst (K0 e1)).2⟩
    case getstatic ix =>
      have e1 := (sx_getstatic (l := l) (e := e) (R := R) (below := below) (cells := cells) (slots := slots) (Q := fun _ => True) hC hd hlen he hst (fun _ _ => Wtriv)).1
      exact ⟨by rw [e1], (sx_getstatic hC hd hlen he hst (K0 e1)).2⟩
    case iaload =>
      have e1 := (sx_iaload (l := l) (e := e) (R := R) (below := below) (cells := cells) (slots := slots) (Q := fun _ => True) hC hd hlen he hst (fun _ _ => Wtriv)).1
      exact ⟨by rw [e1], (sx_iaload hC hd hlen he hst (K0 e1)).2⟩
    case laload =>
      have e1 := (sx_laload (l := l) (e := e) (R := R) (below := below) (cells := cells) (slots := slots) (Q := fun _ => True) hC hd hlen he hst (fun _ _ => Wtriv)).1
      exact ⟨by rw [e1], (sx_laload hC hd hlen he hst (K0 e1)).2⟩
    case baload =>
      have e1 := (sx_baload (l := l) (e := e) (R := R) (below := below) (cells := cells) (slots := slots) (Q := fun _ => True) hC hd hlen he hst (fun _ _ => Wtriv)).1
      exact ⟨by rw [e1], (sx_baload hC hd hlen he hst (K0 e1)).2⟩
    case aaload =>
      have e1 := (sx_aaload (l := l) (e := e) (R := R) (below := below) (cells := cells) (slots := slots) (Q := fun _ => True) hC hd hlen he hst (fun _ _ => Wtriv)).1
      exact ⟨by rw [e1], (sx_aaload hC hd hlen he hst (K0 e1)).2⟩
    case arraylength =>
      have e1 := (sx_arraylength (l := l) (e := e) (R := R) (below := below) (cells := cells) (slots := slots) (Q := fun _ => True) hC hd hlen he hst (fun _ _ => Wtriv)).1
      exact ⟨by rw [e1], (sx_arraylength hC hd hlen he hst (K0 e1)).2⟩
    case ldc ix =>
      have e1 := (sx_ldc (l := l) (e := e) (R := R) (below := below) (cells := cells) (slots := slots) (Q := fun _ => True) hC hd hlen he hst (fun _ _ => Wtriv)).1
      exact ⟨by rw [e1], (sx_ldc hC hd hlen he hst (K0 e1)).2⟩
    case ldc_w ix =>
      have e1 := (sx_ldc_w (l := l) (e := e) (R := R) (below := below) (cells := cells) (slots := slots) (Q := fun _ => True) hC hd hlen he hst (fun _ _ => Wtriv)).1
      exact ⟨by rw [e1], (sx_ldc_w hC hd hlen he hst (K0 e1)).2⟩
    case ldc2_w ix =>
      have e1 := (sx_ldc2_w (l := l) (e := e) (R := R) (below := below) (cells := cells) (slots := slots) (Q := fun _ => True) hC hd hlen he hst (fun _ _ => Wtriv)).1
      exact ⟨by rw [e1], (sx_ldc2_w hC hd hlen he hst (K0 e1)).2⟩
    case putfield ix =>
      have e1 := (sx_putfield (l := l) (e := e) (R := R) (below := below) (cells := cells) (slots := slots) (Q := fun _ => True) hC hd hlen he hst (fun _ _ _ => Wtriv)).1
      exact ⟨e1.2, (sx_putfield hC hd hlen he hst (K1 e1.1)).2⟩
    case iastore =>
      have e1 := (sx_iastore (l := l) (e := e) (R := R) (below := below) (cells := cells) (slots := slots) (Q := fun _ => True) hC hd hlen he hst (fun _ _ _ => Wtriv)).1
      exact ⟨e1.2, (sx_iastore hC hd hlen he hst (K1 e1.1)).2⟩
    case bastore =>
      have e1 := (sx_bastore (l := l) (e := e) (R := R) (below := below) (cells := cells) (slots := slots) (Q := fun _ => True) hC hd hlen he hst (fun _ _ _ => Wtriv)).1
      exact ⟨e1.2, (sx_bastore hC hd hlen he hst (K1 e1.1)).2⟩
    case lastore =>
      have e1 := (sx_lastore (l := l) (e := e) (R := R) (below := below) (cells := cells) (slots := slots) (Q := fun _ => True) hC hd hlen he hst (fun _ _ _ => Wtriv)).1
      exact ⟨e1.2, (sx_lastore hC hd hlen he hst (K1 e1.1)).2⟩
    case aastore =>
      have e1 := (sx_aastore (l := l) (e := e) (R := R) (below := below) (cells := cells) (slots := slots) (Q := fun _ => True) hC hd hlen he hst (fun _ _ _ => Wtriv)).1
      exact ⟨e1.2, (sx_aastore hC hd hlen he hst (K1 e1.1)).2⟩
    case new ix =>
      dsimp only [exec0] at he
      obtain rfl : len = 3 := by simpa [okLen] using hlen
      split at he
      · split at he <;> cases he
      · split at he
        · rename_i q1 ci q2 q3 q4 hn
          split at he
          · rename_i hq
            obtain ⟨g0, hlay, hci⟩ := hq
            cases he
            have e1 : gN (nW w) - gN w = 1 := by show gN w + 1 - gN w = 1; omega
            have e2 : sl (gN (nW w)) - sl (gN w) = nF ci := by show sl (gN w + 1) - sl (gN w) = nF ci; rw [sl_succ, hlay]; omega
            rw [e1] at hc; rw [e2] at hs
            refine ⟨rfl, sx_new hC hd hn hlay hci hst (hsz g0) hc hs (fun H' h' => ?_)⟩
            exact K H' locs _ _ ls h' (by rw [e1]) (by rw [e2])
          · cases he
        · cases he
    case newarray t =>
      dsimp only [exec0] at he
      obtain rfl : len = 2 := by simpa [okLen] using hlen
      cases t
      case byte =>
        obtain ⟨n, S0, rfl, g0, hn, hlay, rfl⟩ := exNewA_some (k := 20) he
        have e1 : gN (nW w) - gN w = 1 := by show gN w + 1 - gN w = 1; omega
        have e2 : sl (gN (nW w)) - sl (gN w) = n.toNat := by show sl (gN w + 1) - sl (gN w) = n.toNat; rw [sl_succ, hlay]; omega
        have hc : cells + (gN (nW w) - gN w) ≤ R.cells := hc
        have hs : slots + (sl (gN (nW w)) - sl (gN w)) ≤ R.slots := hs
        rw [e1] at hc; rw [e2] at hs
        exact ⟨rfl, sx_newa20 hC hd hn hlay hst (hsz g0) hc hs (fun H' h' => K H' locs _ _ ls h' (by rw [show gN _ = gN (nW w) from rfl, e1]) (by rw [show gN _ = gN (nW w) from rfl, e2]))⟩
      case int =>
        obtain ⟨n, S0, rfl, g0, hn, hlay, rfl⟩ := exNewA_some (k := 21) he
        have e1 : gN (nW w) - gN w = 1 := by show gN w + 1 - gN w = 1; omega
        have e2 : sl (gN (nW w)) - sl (gN w) = n.toNat := by show sl (gN w + 1) - sl (gN w) = n.toNat; rw [sl_succ, hlay]; omega
        have hc : cells + (gN (nW w) - gN w) ≤ R.cells := hc
        have hs : slots + (sl (gN (nW w)) - sl (gN w)) ≤ R.slots := hs
        rw [e1] at hc; rw [e2] at hs
        exact ⟨rfl, sx_newa21 hC hd hn hlay hst (hsz g0) hc hs (fun H' h' => K H' locs _ _ ls h' (by rw [show gN _ = gN (nW w) from rfl, e1]) (by rw [show gN _ = gN (nW w) from rfl, e2]))⟩
      case long =>
        obtain ⟨n, S0, rfl, g0, hn, hlay, rfl⟩ := exNewA_some (k := 22) he
        have e1 : gN (nW w) - gN w = 1 := by show gN w + 1 - gN w = 1; omega
        have e2 : sl (gN (nW w)) - sl (gN w) = n.toNat := by show sl (gN w + 1) - sl (gN w) = n.toNat; rw [sl_succ, hlay]; omega
        have hc : cells + (gN (nW w) - gN w) ≤ R.cells := hc
        have hs : slots + (sl (gN (nW w)) - sl (gN w)) ≤ R.slots := hs
        rw [e1] at hc; rw [e2] at hs
        exact ⟨rfl, sx_newa22 hC hd hn hlay hst (hsz g0) hc hs (fun H' h' => K H' locs _ _ ls h' (by rw [show gN _ = gN (nW w) from rfl, e1]) (by rw [show gN _ = gN (nW w) from rfl, e2]))⟩
      all_goals
        exfalso
        obtain ⟨n, S0, rfl, g0, hn, hlay, rfl⟩ := exNewA_some (k := 98) he
        have h9 : layL.all (fun q => decide (q.1 ≠ 98)) = true := by decide +kernel
        have h10 : (lay (gN w)).1 = 98 := by rw [hlay]
        have h8 : lay (gN w) ∈ layL := by
          unfold lay
          rw [List.getD_eq_getElem?_getD, List.getElem?_eq_getElem (by rw [layL_len]; exact lay_lt h10 (by omega))]
          exact List.getElem_mem _
        have := List.all_eq_true.mp h9 _ h8
        rw [h10] at this
        simp at this
    case anewarray ix =>
      dsimp only [exec0] at he
      obtain rfl : len = 3 := by simpa [okLen] using hlen
      split at he
      · rename_i q1 k q2 ha
        cases h1 : exNewA k w S with
        | none => rw [h1] at he; cases he
        | some q =>
          rw [h1] at he
          cases he
          unfold exNewA at h1
          split at h1
          · rename_i n S0
            split at h1
            · rename_i hq
              obtain ⟨g0, hn, hlay⟩ := hq
              cases h1
              have e1 : gN (nW w) - gN w = 1 := by show gN w + 1 - gN w = 1; omega
              have e2 : sl (gN (nW w)) - sl (gN w) = n.toNat := by show sl (gN w + 1) - sl (gN w) = n.toNat; rw [sl_succ, hlay]; omega
              have hc : cells + (gN (nW w) - gN w) ≤ R.cells := hc
              have hs : slots + (sl (gN (nW w)) - sl (gN w)) ≤ R.slots := hs
              rw [e1] at hc; rw [e2] at hs
              exact ⟨rfl, sx_newq hC hd ha hn hlay hst (hsz g0) hc hs (fun H' h' => K H' locs _ _ ls h' (by rw [show gN _ = gN (nW w) from rfl, e1]) (by rw [show gN _ = gN (nW w) from rfl, e2]))⟩
            · cases h1
          · cases h1
      · cases he
    case invokespecial ix =>
      dsimp only [exec0] at he
      obtain rfl : len = 3 := by simpa [okLen] using hlen
      rcases exCall_inl he with ⟨mj, n, i1, i2, i3, a, S', hcr, -, rfl, hw, ha, rfl⟩ | ⟨mj, n, i1, i2, i3, a, d, k, dp, sp, S', hcr, hks, -⟩
      · exact ⟨rfl, sx_objInit hC hd hcr hst ha hw ⟨hR.1, by omega⟩ (K0 rfl ls)⟩
      · exact absurd hks (by decide)
    case invokestatic ix =>
      dsimp only [exec0] at he
      obtain rfl : len = 3 := by simpa [okLen] using hlen
      rcases exCall_inl he with ⟨mj, n, i1, i2, i3, a, S', hcr, hks, -⟩ | ⟨mj, n, i1, i2, i3, a, d, k, dp, sp, S', hcr, -, rfl, hq, rfl⟩
      · exact absurd hks (by decide)
      · exact ⟨rfl, sx_copy hC hd hcr hst hq hR (K1 rfl)⟩
    case invokevirtual ix =>
      dsimp only [exec0] at he
      rcases exCall_inl he with ⟨mj, n, i1, i2, i3, a, S', hcr, hks, -⟩ | ⟨mj, n, i1, i2, i3, a, d, k, dp, sp, S', hcr, hks, -⟩
      · exact absurd hks (by decide)
      · exact absurd hks (by decide)
    case ireturn => dsimp only [exec0] at he; split at he <;> first | (cases he; done) | (split at he <;> cases he)
    case areturn => dsimp only [exec0] at he; split at he <;> first | (cases he; done) | (split at he <;> cases he)
    case return_ => dsimp only [exec0] at he; split at he <;> first | (cases he; done) | (split at he <;> cases he)
  · cases he
end STEP5
