/-! making things: rules, and what stands while an object is made -/
section NEW
variable {mi r pc : Nat} {c : ByteArray} {L : List (Option AV)} {S : List AV} {w : Wd}
theorem exNewA_e {k n b : Nat} (hE : gE w = 0) (hN : gN w = b) (hl : lay b = (k, n)) : exNewA k w (.inl (n : Int) :: S) = some (.inr (.inl (some b)) :: S, nW w) := by
  show (if gE w = 0 ∧ 0 ≤ (n : Int) ∧ lay (gN w) = (k, (n : Int).toNat) then some (.inr (.inl (some (gN w))) :: S, nW w) else none) = _
  rw [if_pos ⟨hE, Int.natCast_nonneg n, by rw [hN]; exact hl⟩, hN]
theorem v_newI (b n p : Nat) (hm : mB mi = c) (hd : decode c pc = .ok (.newarray .int, 2)) (hp : pc + 2 = p) (hE : gE w = 0) (hN : gN w = b) (hl : lay b = (21, n)) :
    val mi r (pc, L, aI (n : Int) :: S, w) = val mi r (p, L, aR (some b) :: S, nW w) := v_next hm hd hp (by
  show (exNewA 21 w (.inl (n : Int) :: S)).map _ = _
  rw [exNewA_e hE hN hl]; rfl)
theorem v_newB (b n p : Nat) (hm : mB mi = c) (hd : decode c pc = .ok (.newarray .byte, 2)) (hp : pc + 2 = p) (hE : gE w = 0) (hN : gN w = b) (hl : lay b = (20, n)) :
    val mi r (pc, L, aI (n : Int) :: S, w) = val mi r (p, L, aR (some b) :: S, nW w) := v_next hm hd hp (by
  show (exNewA 20 w (.inl (n : Int) :: S)).map _ = _
  rw [exNewA_e hE hN hl]; rfl)
theorem v_newJ (b n p : Nat) (hm : mB mi = c) (hd : decode c pc = .ok (.newarray .long, 2)) (hp : pc + 2 = p) (hE : gE w = 0) (hN : gN w = b) (hl : lay b = (22, n)) :
    val mi r (pc, L, aI (n : Int) :: S, w) = val mi r (p, L, aR (some b) :: S, nW w) := v_next hm hd hp (by
  show (exNewA 22 w (.inl (n : Int) :: S)).map _ = _
  rw [exNewA_e hE hN hl]; rfl)
theorem v_newR (b n k p : Nat) {ix q1 q2 : Nat} (hm : mB mi = c) (hd : decode c pc = .ok (.anewarray ix, 3)) (hp : pc + 3 = p) (ha : ares (mOwn mi) ix = some (q1, k, q2)) (hE : gE w = 0) (hN : gN w = b) (hl : lay b = (k, n)) :
    val mi r (pc, L, aI (n : Int) :: S, w) = val mi r (p, L, aR (some b) :: S, nW w) := v_next hm hd hp (by
  show (match ares (mOwn mi) ix with | some (_, k, _) => (exNewA k w (.inl (n : Int) :: S)).map (fun (q : List AV × Wd) => (Sum.inl (pc + 3, L, q.1, q.2) : Act)) | none => none) = _
  rw [ha]
  show (exNewA k w (.inl (n : Int) :: S)).map _ = _
  rw [exNewA_e hE hN hl]
  rfl)
theorem v_newO (b ci p : Nat) {ix q1 q2 q3 q4 : Nat} (hm : mB mi = c) (hd : decode c pc = .ok (.new ix, 3)) (hp : pc + 3 = p) (ht : thr mi pc = none) (hn : nres (mOwn mi) ix = some (q1, ci, q2, q3, q4)) (hE : gE w = 0) (hN : gN w = b) (hl : lay b = (ci, nF ci)) (hc : ci < 13) :
    val mi r (pc, L, S, w) = val mi r (p, L, aR (some b) :: S, nW w) := v_next hm hd hp (by
  show (match thr mi pc with
    | some e => if wd S = 0 then some (Sum.inr (Sum.inr (Sum.inr e, tW w)) : Act) else none
    | none => match nres (mOwn mi) ix with
      | some (_, ci, _, _, _) => if gE w = 0 ∧ lay (gN w) = (ci, nF ci) ∧ ci < 13 then some (Sum.inl (pc + 3, L, .inr (.inl (some (gN w))) :: S, nW w)) else none
      | none => none) = _
  rw [ht, hn]
  show (if gE w = 0 ∧ lay (gN w) = (ci, nF ci) ∧ ci < 13 then _ else _) = _
  rw [if_pos ⟨hE, by rw [hN]; exact hl, hc⟩, hN])
theorem v_init (mj b p : Nat) (S' : List AV) {w2 : Wd} {ix kind i1 i2 i3 : Nat} (hm : mB mi = c) (hd : decode c pc = .ok (.invokespecial ix, 3)) (hp : pc + 3 = p) (hc : cres (mOwn mi) ix = some (ix, kind, mj, 0, i1, i2, i3)) (hk : (kind == 2 || kind == 5) = true)
    (hw : Nat.ble (wd S') 8 = true) (hl : (lay b).1 = mOwn mj) (hr : Nat.blt (crk mj [aR (some b)]) r = true) (he : cl mj [aR (some b)] w = some (.inl none, w2)) :
    val mi r (pc, L, aR (some b) :: S', w) = val mi r (p, L, S', w2) := (v_callI mj 0 b p [] S' hm hd hp hc hk rfl rfl hw hl hr).trans (by rw [he]; rfl)
end NEW
/-- what the ints are at first -/
def I9 (b k : Nat) : Int := if (b = 0 ∧ k = 2) ∨ (b = 12 ∧ k = 6) ∨ (b = 473 ∧ k = 26) then -1 else if (b = 2 ∨ b = 17 ∨ b = 477) ∧ k = 0 then 3 else 0
/-- what is no constant field but leads somewhere at first -/
def X9 (w : Wd) (b : Nat) : Prop := (b = 0 → gR w b 3 = some 2) ∧ (b = 12 → gR w b 1 = some 17) ∧ (b = 45 ∨ b = 258 → ∀ k, k < 40 → gR w b k = some (b + 1 + 5 * k)) ∧ (b = 474 → ∀ i, i < 2 → gR w b i = some (STR + (7 + i))) ∧ (b = 475 → ∀ i, i < 5 → gR w b i = some (STR + (9 + i))) ∧ (b = 476 → ∀ i, i < 7 → gR w b i = some (STR + (9 + i)))
def O9 (w : Wd) (b : Nat) : Prop := (∀ k o, offO (lay b).1 k = some o → gR w b k = some (b + o)) ∧ (∀ k, gI w b k = I9 b k ∨ (b = 477 ∧ gI w b k = 0)) ∧ X9 w b
theorem O9.ext {w w' : Wd} {b : Nat} (h : O9 w b) (e : gI w' b = gI w b ∧ gR w' b = gR w b) : O9 w' b := by
  unfold O9 X9
  rw [e.1, e.2]
  exact h
def BL (a s : Nat) (w w' : Wd) : Prop := gN w' = a + s ∧ gE w' = 0 ∧ w'.2.2.2.2.2 = w.2.2.2.2.2 ∧ (∀ b, b < a → gI w' b = gI w b ∧ gR w' b = gR w b) ∧ ∀ b, a ≤ b → b < a + s → O9 w' b
/-- an object is being made -/
def PB (a n : Nat) (q : Nat → Option Nat) (J : Row) (w0 w : Wd) : Prop := gN w = n ∧ gE w = 0 ∧ w.2.2.2.2.2 = w0.2.2.2.2.2 ∧ (∀ b, b < a → gI w b = gI w0 b ∧ gR w b = gR w0 b) ∧ (∀ b, a < b → b < n → O9 w b) ∧ (∀ k, gR w a k = (q k).map (fun o => a + o)) ∧ gI w a = J ∧ a < n
section PBs
variable {a n s : Nat} {q : Nat → Option Nat} {J : Row} {w0 w : Wd}
theorem nW_r {b : Nat} (h : b ≠ gN w) : gI (nW w) b = gI w b ∧ gR (nW w) b = gR w b := ⟨by show va_up w.1 w.2.2.2.1 _ b = w.1 b; exact up_c h, by show va_up w.2.1 w.2.2.2.1 _ b = w.2.1 b; exact up_c h⟩
theorem nW_s : gI (nW w) (gN w) = (fun _ => 0) ∧ gR (nW w) (gN w) = fun _ => none := ⟨by show va_up w.1 w.2.2.2.1 _ w.2.2.2.1 = _; exact up_s, by show va_up w.2.1 w.2.2.2.1 _ w.2.2.2.1 = _; exact up_s⟩
/-- the object is there, nothing of it is set -/
theorem PB.beg (hN : gN w = a) (hE : gE w = 0) : PB a (a + 1) (fun _ => none) (fun _ => 0) w (nW w) := by
  refine ⟨by show gN w + 1 = _; rw [hN], hE, rfl, fun b hb => nW_r (by omega), fun b b1 b2 => by omega, fun k => ?_, ?_, by omega⟩
  · subst hN; rw [nW_s.2]; rfl
  · subst hN; exact nW_s.1
/-- a row is made -/
theorem PB.arr (h : PB a n q J w0 w) (ho : ∀ k, offO (lay n).1 k = none) (hi : ∀ k, I9 n k = 0 ∨ n = 477) (hx : ∀ w', X9 w' n) : PB a (n + 1) q J w0 (nW w) := by
  obtain ⟨h1, h2, h3, h4, h5, h6, h7, h8⟩ := h
  have g : ∀ b, b ≠ n → gI (nW w) b = gI w b ∧ gR (nW w) b = gR w b := fun b hb => nW_r (by omega)
  refine ⟨by show gN w + 1 = _; rw [h1], h2, h3, fun b hb => ⟨(g b (by omega)).1.trans (h4 b hb).1, (g b (by omega)).2.trans (h4 b hb).2⟩, fun b b1 b2 => ?_, fun k => by rw [(g a (by omega)).2]; exact h6 k, (g a (by omega)).1.trans h7, by omega⟩
  by_cases z : b = n
  · subst z
    refine ⟨fun k o e => (by rw [ho k] at e; cases e), fun k => ?_, hx _⟩
    subst h1
    rw [nW_s.1]
    rcases hi k with e | e
    · exact Or.inl e.symm
    · exact Or.inr ⟨e, rfl⟩
  · exact (h5 b b1 (by omega)).ext (g b z)
/-- a field leads to what was made -/
theorem PB.ref (h : PB a n q J w0 w) (k o : Nat) : PB a n (va_up q k (some o)) J w0 (pR w a k (some (a + o))) := by
  obtain ⟨h1, h2, h3, h4, h5, h6, h7, h8⟩ := h
  have g : ∀ b, b ≠ a → gI (pR w a k (some (a + o))) b = gI w b ∧ gR (pR w a k (some (a + o))) b = gR w b := fun b hb => ⟨rfl, by show va_up w.2.1 a _ b = w.2.1 b; exact up_c hb⟩
  refine ⟨h1, h2, h3, fun b hb => ⟨(g b (by omega)).1.trans (h4 b hb).1, (g b (by omega)).2.trans (h4 b hb).2⟩, fun b b1 b2 => (h5 b b1 b2).ext (g b (by omega)), fun j => ?_, h7, h8⟩
  show va_up w.2.1 a (va_up (gR w a) k (some (a + o))) a j = _
  rw [up_s]
  by_cases z : j = k
  · subst z; rw [up_s, up_s]; rfl
  · rw [up_c z, up_c z]; exact h6 j
/-- a number that stands already -/
theorem PB.int (h : PB a n q J w0 w) (k : Nat) (x : Int) : PB a n q (va_up J k x) w0 (pI w a k x) := by
  obtain ⟨h1, h2, h3, h4, h5, h6, h7, h8⟩ := h
  have g : ∀ b, b ≠ a → gI (pI w a k x) b = gI w b ∧ gR (pI w a k x) b = gR w b := fun b hb => ⟨gI_r hb, rfl⟩
  exact ⟨h1, h2, h3, fun b hb => ⟨(g b (by omega)).1.trans (h4 b hb).1, (g b (by omega)).2.trans (h4 b hb).2⟩, fun b b1 b2 => (h5 b b1 b2).ext (g b (by omega)), h6, by rw [gI_p, h7], h8⟩
theorem PB.int0 (h : PB a n q J w0 w) (k : Nat) (hk : J k = 0) : PB a n q J w0 (pI w a k 0) := by
  have e : va_up J k 0 = J := by
    funext i
    by_cases z : i = k
    · subst z; rw [up_s, hk]
    · rw [up_c z]
  have := h.int k 0
  rw [e] at this
  exact this
/-- another object is made within -/
theorem PB.sub {w2 : Wd} (h : PB a n q J w0 w) (hb : BL n s w w2) : PB a (n + s) q J w0 w2 := by
  obtain ⟨h1, h2, h3, h4, h5, h6, h7, h8⟩ := h
  obtain ⟨b1, b2, b3, b4, b5⟩ := hb
  exact ⟨b1, b2, b3.trans h3, fun b hb => ⟨(b4 b (by omega)).1.trans (h4 b hb).1, (b4 b (by omega)).2.trans (h4 b hb).2⟩, fun b c1 c2 => if z : b < n then (h5 b c1 z).ext (b4 b z) else b5 b (by omega) c2, fun k => by rw [(b4 a h8).2]; exact h6 k, (b4 a h8).1.trans h7, by omega⟩
/-- it is made -/
theorem PB.fin {ci : Nat} (h : PB a (a + s) q J w0 w) (hl : (lay a).1 = ci) (ho : ∀ k, k < 70 → offO ci k = none ∨ offO ci k = q k) (hi : ∀ k, J k = I9 a k) (hx : X9 w a) : BL a s w0 w := by
  obtain ⟨h1, h2, h3, h4, h5, h6, h7, h8⟩ := h
  refine ⟨h1, h2, h3, h4, fun b b1 b2 => ?_⟩
  by_cases z : b = a
  · subst z
    refine ⟨fun k o e => ?_, fun k => Or.inl (by rw [h7]; exact hi k), hx⟩
    rw [hl] at e
    have hb : k < 70 := by
      unfold offO at e
      rw [Option.map_eq_some_iff] at e
      obtain ⟨x, x1, x2⟩ := e
      have m1 := List.mem_of_find?_eq_some x1
      have m2 := List.find?_some x1
      have all : ∀ e ∈ offT, e.1.2 < 70 := by decide +kernel
      have m3 := all x m1
      have m4 : x.1 = (ci, k) := by simpa using m2
      rw [m4] at m3
      exact m3
    rcases ho k hb with y | y
    · rw [y] at e; cases e
    · rw [h6 k, ← y, e]; rfl
  · exact h5 b (by omega) b2
theorem lx : lay 0 = (11, 16) ∧ lay 12 = (5, 9) ∧ lay 473 = (12, 67) ∧ lay 2 = (4, 11) ∧ lay 17 = (4, 11) ∧ lay 45 = (23, 40) ∧ lay 258 = (23, 40) ∧ lay 474 = (24, 2) ∧ lay 475 = (24, 5) ∧ lay 476 = (24, 7) := by decide +kernel
theorem oA {b t m : Nat} (h : lay b = (t, m)) (ht : 13 ≤ t) : ∀ k, offO (lay b).1 k = none := by
  intro k
  rw [h]
  unfold offO
  rw [Option.map_eq_none_iff, List.find?_eq_none]
  intro x hx
  have all : ∀ e ∈ offT, e.1.1 < 13 := by decide +kernel
  have := all x hx
  simp
  intro e
  rw [e] at this
  exact absurd this (by show ¬ t < 13; omega)
theorem IA {b t m : Nat} (h : lay b = (t, m)) (ht : t ≠ 11 ∧ t ≠ 4 ∧ t ≠ 5 ∧ t ≠ 12) : ∀ k, I9 b k = 0 ∨ b = 477 := by
  intro k
  obtain ⟨l0, l1, l2, l3, l4, -⟩ := lx
  by_cases z : b = 477
  · exact Or.inr z
  refine Or.inl ?_
  have n0 : b ≠ 0 := fun e => by rw [e, l0] at h; exact ht.1 (congrArg Prod.fst h).symm
  have n1 : b ≠ 12 := fun e => by rw [e, l1] at h; exact ht.2.2.1 (congrArg Prod.fst h).symm
  have n2 : b ≠ 473 := fun e => by rw [e, l2] at h; exact ht.2.2.2 (congrArg Prod.fst h).symm
  have n3 : b ≠ 2 := fun e => by rw [e, l3] at h; exact ht.2.1 (congrArg Prod.fst h).symm
  have n4 : b ≠ 17 := fun e => by rw [e, l4] at h; exact ht.2.1 (congrArg Prod.fst h).symm
  unfold I9
  rw [if_neg (by omega), if_neg (by omega)]
theorem XA {b t m : Nat} (h : lay b = (t, m)) (ht : t ≠ 11 ∧ t ≠ 5 ∧ t ≠ 23 ∧ t ≠ 24) (w' : Wd) : X9 w' b := by
  obtain ⟨l0, l1, l2, l3, l4, l5, l6, l7, l8, l9⟩ := lx
  refine ⟨fun e => ?_, fun e => ?_, fun e => ?_, fun e => ?_, fun e => ?_, fun e => ?_⟩
  · rw [e, l0] at h; exact absurd (congrArg Prod.fst h).symm ht.1
  · rw [e, l1] at h; exact absurd (congrArg Prod.fst h).symm ht.2.1
  · rcases e with e | e
    · rw [e, l5] at h; exact absurd (congrArg Prod.fst h).symm ht.2.2.1
    · rw [e, l6] at h; exact absurd (congrArg Prod.fst h).symm ht.2.2.1
  · rw [e, l7] at h; exact absurd (congrArg Prod.fst h).symm ht.2.2.2
  · rw [e, l8] at h; exact absurd (congrArg Prod.fst h).symm ht.2.2.2
  · rw [e, l9] at h; exact absurd (congrArg Prod.fst h).symm ht.2.2.2
theorem PB.arr' {t m : Nat} (h : PB a n q J w0 w) (hl : lay n = (t, m)) (ht : 20 ≤ t ∧ t ≤ 22) : PB a (n + 1) q J w0 (nW w) := h.arr (oA hl (by omega)) (IA hl (by omega)) (XA hl (by omega))
/-- it is made, and no number of it is set -/
theorem PB.fin0 {ci m : Nat} (h : PB a (a + s) q (fun _ => 0) w0 w) (hl : lay a = (ci, m)) (hc : ci ≠ 11 ∧ ci ≠ 4 ∧ ci ≠ 5 ∧ ci ≠ 12 ∧ ci < 13) (ho : ∀ k, k < 70 → offO ci k = none ∨ offO ci k = q k) : BL a s w0 w :=
  h.fin (by rw [hl]) ho (fun k => by
    rcases IA hl (by omega) k with e | e
    · exact e.symm
    · exfalso
      rw [e] at hl
      have : lay 477 = (21, 10) := by decide +kernel
      rw [this] at hl
      have := congrArg Prod.fst hl
      have : 21 = ci := this
      omega) (XA hl (by omega) w)
end PBs
