/-! rules of the refinement: what the printed equations of the methods are built with -/
theorem val_weak {mi r pc : Nat} {L' L : List (Option AV)} {S : List AV} {w : Wd} {o : Out} (h : leL L' L) (hv : val mi r (pc, L', S, w) = some o) : val mi r (pc, L, S, w) = some o := by
  obtain ⟨n, hn⟩ := val_iff.mp hv
  refine val_iff.mpr ⟨n, ?_⟩
  clear hv
  induction n generalizing pc L' L S w with
  | zero => cases hn
  | succ n ih =>
    rw [run] at hn ⊢
    cases hd : decode (mB mi) pc with
    | error e => rw [hd] at hn; cases hn
    | ok q =>
      obtain ⟨i, len⟩ := q
      rw [hd] at hn
      simp only [] at hn ⊢
      cases he : exec1 mi i len pc L' S w with
      | none => rw [he] at hn; cases hn
      | some a' =>
        obtain ⟨a, ha, hl⟩ := exec1_le h he
        rw [he] at hn
        rw [ha]
        rcases a' with ⟨p', L2', S', w'⟩ | ⟨mj', as', ⟨p', L2', S', w'⟩⟩ | o'
        · rcases a with ⟨p, L2, S2, w2⟩ | q | o2
          · obtain ⟨h1, h2, h3⟩ := hl
            cases h1; cases h3
            exact ih h2 hn
          · exact hl.elim
          · exact hl.elim
        · rcases a with c | ⟨mj, as, ⟨p, L2, S2, w2⟩⟩ | o2
          · exact hl.elim
          · obtain ⟨h1, h2, h3, h4, h5⟩ := hl
            cases h1; cases h2; cases h3; cases h5
            simp only [] at hn ⊢
            by_cases hr : crk mj' as' < r
            · rw [if_pos hr] at hn ⊢
              cases hc : run n mj' (crk mj' as') (0, entL mj' as', [], w) with
              | none => rw [hc] at hn; cases hn
              | some q =>
                rw [hc] at hn
                obtain ⟨v | e, w'⟩ := q
                · simp only [] at hn ⊢; exact ih h4 hn
                · simp only [] at hn ⊢
                  cases hh : hnd mi pc e with
                  | none => rw [hh] at hn; exact hn
                  | some z =>
                    rw [hh] at hn
                    cases z with
                    | none => cases hn
                    | some kp =>
                      obtain ⟨k, p2⟩ := kp
                      simp only [] at hn ⊢
                      by_cases hk : k < L'.length
                      · rw [if_pos hk] at hn
                        rw [if_pos (by rw [← leL_len h]; exact hk)]
                        exact ih (leL_st h) hn
                      · rw [if_neg hk] at hn; cases hn
            · rw [if_neg hr] at hn; cases hn
          · exact hl.elim
        · rcases a with c | q | o2
          · exact hl.elim
          · exact hl.elim
          · cases hl
            exact hn
def Rf (x y : Option Out) : Prop := ∀ o, x = some o → y = some o
theorem Rf.refl (x : Option Out) : Rf x x := fun _ h => h
theorem Rf.tr {x y z : Option Out} (h : Rf x y) (h' : Rf y z) : Rf x z := fun o q => h' o (h o q)
theorem rE {a b T : Option Out} (h : a = b) (r : Rf T b) : Rf T a := h ▸ r
theorem RfO {a b : Option Out} (h : b = a) : Rf a b := h ▸ Rf.refl _
theorem RfV {y : Option Out} : Rf none y := fun _ h => nomatch h
theorem RfW {mi r pc : Nat} {L' L : List (Option AV)} {S : List AV} {w : Wd} (h : leL L' L) : Rf (val mi r (pc, L', S, w)) (val mi r (pc, L, S, w)) := fun _ q => val_weak h q
/-! where things lie beside each other -/
def offT : List ((Nat × Nat) × Nat) := [((0, 0), 1), ((1, 0), 1), ((1, 1), 2), ((1, 2), 3), ((1, 3), 4), ((2, 0), 1), ((2, 1), 6), ((2, 2), 208), ((2, 3), 212), ((3, 0), 1), ((3, 1), 2), ((3, 2), 3), ((3, 3), 4), ((3, 4), 5), ((3, 5), 6), ((4, 4), 1), ((4, 5), 2), ((4, 6), 3), ((4, 7), 4), ((4, 8), 5), ((4, 9), 6), ((4, 10), 8), ((5, 0), 1), ((6, 0), 1), ((7, 0), 1), ((7, 1), 2), ((7, 2), 3), ((8, 0), 1), ((8, 1), 2), ((8, 2), 3), ((8, 3), 4), ((9, 0), 1), ((9, 1), 2), ((9, 2), 3), ((10, 0), 1), ((10, 1), 2), ((11, 0), 1), ((11, 4), 12), ((11, 5), 27), ((11, 6), 34), ((11, 7), 39), ((11, 8), 44), ((11, 9), 246), ((11, 10), 250), ((11, 11), 251), ((11, 12), 464), ((11, 13), 469), ((11, 14), 472), ((12, 0), 1), ((12, 1), 2), ((12, 2), 3), ((12, 5), 4), ((12, 6), 5), ((12, 7), 6), ((12, 8), 7), ((12, 9), 8), ((12, 10), 9), ((12, 11), 10), ((12, 12), 11), ((12, 13), 12), ((12, 14), 13), ((12, 15), 14), ((12, 16), 15), ((12, 29), 16), ((12, 30), 17), ((12, 31), 18), ((12, 32), 19), ((12, 39), 20), ((12, 40), 21), ((12, 41), 22), ((12, 42), 23), ((12, 45), 24), ((12, 46), 25), ((12, 47), 26), ((12, 48), 27), ((12, 49), 28), ((12, 50), 29), ((12, 51), 30), ((12, 52), 31), ((12, 53), 32), ((12, 54), 33), ((12, 56), 34), ((12, 61), 35), ((12, 62), 36), ((12, 63), 37), ((12, 64), 38), ((12, 65), 39), ((12, 66), 40)]
def offO (ci k : Nat) : Option Nat := (offT.find? (fun e => e.1 == (ci, k))).map (·.2)
def LR (w : Wd) : Prop := ∀ a k o : Nat, offO (lay a).1 k = some o → gR w a k = some (a + o)
theorem LR_of {w : Wd} (H : LR w) {a ci k o : Nat} (h : (lay a).1 = ci) (ho : offO ci k = some o) : gR w a k = some (a + o) := H a k o (by rw [h]; exact ho)
theorem LRp {w : Wd} {a ci k : Nat} {q : Option Nat} (H : LR w) (h : (lay a).1 = ci) (ho : offO ci k = none) : LR (pR w a k q) := by
  intro a2 k2 o h2
  have h3 := H a2 k2 o h2
  show va_up w.2.1 a (va_up (gR w a) k q) a2 k2 = some (a2 + o)
  unfold va_up
  by_cases e : a2 = a
  · subst e
    rw [if_pos rfl]
    by_cases e2 : k2 = k
    · subst e2
      rw [h, ho] at h2
      cases h2
    · rw [if_neg e2]; exact h3
  · rw [if_neg e]; exact h3
theorem LRa {w : Wd} {a k n : Nat} {q : Option Nat} (H : LR w) (h : lay a = (23, n)) : LR (pR w a k q) := by
  intro a2 k2 o h2
  have h3 := H a2 k2 o h2
  show va_up w.2.1 a (va_up (gR w a) k q) a2 k2 = some (a2 + o)
  unfold va_up
  by_cases e : a2 = a
  · subst e
    rw [h] at h2
    have : offO 23 k2 = none := by
      unfold offO
      rw [List.find?_eq_none.mpr ?_]
      · rfl
      · intro x hx
        have := List.all_eq_true.mp (show offT.all (fun e => !(e.1.1 == 23)) = true by decide) x hx
        intro q2
        have q3 : x.1 = (23, k2) := by simpa using q2
        rw [q3] at this
        simp at this
    rw [this] at h2
    cases h2
  · rw [if_neg e]; exact h3
theorem LR_I {w : Wd} {a : Nat} {f : Nat → Int} : LR (sI w a f) ↔ LR w := Iff.rfl
theorem LR_pI {w : Wd} {a i : Nat} {x : Int} : LR (pI w a i x) ↔ LR w := Iff.rfl
theorem LR_pJ {w : Wd} {a i : Nat} {x : Int} : LR (pJ w a i x) ↔ LR w := Iff.rfl
theorem LR_tW {w : Wd} : LR (tW w) ↔ LR w := Iff.rfl
theorem LR_R {w w' : Wd} (h : w'.2.1 = w.2.1) (H : LR w) : LR w' := fun a k o q => by
  have := H a k o q
  unfold gR at this ⊢
  rw [h]; exact this
/-! answers; calls that are gone on behind; guards -/
abbrev rI (x : Int) (w : Wd) : Option Out := some (.inl (some (.inl x)), w)
abbrev r0 (w : Wd) : Option Out := some (.inl none, w)
abbrev rQ (q : Option Nat) (w : Wd) : Option Out := some (.inl (some (.inr (.inl q))), w)
abbrev rX (e : Nat) (w : Wd) : Option Out := some (.inr e, w)
noncomputable def gP (p : Prop) (x : Option Out) : Option Out := @ite _ p (Classical.propDecidable _) x none
theorem gP_t {p : Prop} {x : Option Out} (h : p) : gP p x = x := @if_pos _ (Classical.propDecidable _) h _ _ _
theorem RfP {p : Prop} {x y : Option Out} (h : p → Rf x y) : Rf (gP p x) y := fun o q => by
  by_cases hp : p
  · rw [gP_t hp] at q; exact h hp o q
  · have : gP p x = none := @if_neg _ (Classical.propDecidable _) hp _ _ _
    rw [this] at q; cases q
noncomputable def bI (X : Option Out) (k : Int → Wd → Option Out) : Option Out := match X with
  | some (.inl (some (.inl x)), w) => gP (LR w) (k x w)
  | some (.inr e, w) => some (.inr e, w)
  | _ => none
noncomputable def b0 (X : Option Out) (k : Wd → Option Out) : Option Out := match X with
  | some (.inl none, w) => gP (LR w) (k w)
  | some (.inr e, w) => some (.inr e, w)
  | _ => none
noncomputable def bQ (X : Option Out) (k : Option Nat → Wd → Option Out) : Option Out := match X with
  | some (.inl (some (.inr (.inl q))), w) => gP (LR w) (k q w)
  | some (.inr e, w) => some (.inr e, w)
  | _ => none
noncomputable def bHI (X : Option Out) (k : Int → Wd → Option Out) (h0 h1 : Wd → Option Out) : Option Out := match X with
  | some (.inl (some (.inl x)), w) => gP (LR w) (k x w)
  | some (.inr 0, w) => gP (LR w) (h0 w)
  | some (.inr 1, w) => gP (LR w) (h1 w)
  | _ => none
theorem bI_r {x : Int} {w : Wd} {k : Int → Wd → Option Out} (H : LR w) : bI (rI x w) k = k x w := gP_t H
theorem b0_r {w : Wd} {k : Wd → Option Out} (H : LR w) : b0 (r0 w) k = k w := gP_t H
theorem bQ_r {q : Option Nat} {w : Wd} {k : Option Nat → Wd → Option Out} (H : LR w) : bQ (rQ q w) k = k q w := gP_t H
theorem bI_x {e : Nat} {w : Wd} {k : Int → Wd → Option Out} : bI (rX e w) k = rX e w := rfl
theorem b0_x {e : Nat} {w : Wd} {k : Wd → Option Out} : b0 (rX e w) k = rX e w := rfl
theorem bHI_r {x : Int} {w : Wd} {k : Int → Wd → Option Out} {h0 h1 : Wd → Option Out} (H : LR w) : bHI (rI x w) k h0 h1 = k x w := gP_t H
theorem bHI_x0 {w : Wd} {k : Int → Wd → Option Out} {h0 h1 : Wd → Option Out} (H : LR w) : bHI (rX 0 w) k h0 h1 = h0 w := gP_t H
theorem bHI_x1 {w : Wd} {k : Int → Wd → Option Out} {h0 h1 : Wd → Option Out} (H : LR w) : bHI (rX 1 w) k h0 h1 = h1 w := gP_t H
theorem Rgp {p : Prop} {x y : Option Out} {o : Out} (q : gP p x = some o) (h : p → Rf x y) : y = some o := RfP h o q
theorem cBI {mi r pc p : Nat} {L : List (Option AV)} {S' : List AV} {X : Option Out} {T : Int → Wd → Option Out} (hh : mH mi = none) (hk : ∀ n w2, LR w2 → Rf (T n w2) (val mi r (p, L, aI n :: S', w2))) : Rf (bI X T) (cB X (fun v w' => val mi r (p, L, v.toList ++ S', w')) (hC mi r pc L)) := by
  intro o q
  rcases X with _ | ⟨(_ | (x | (r2 | x))) | e, w⟩
  · cases q
  · cases q
  · exact Rgp q (fun H => hk x w H)
  · cases q
  · cases q
  · show hC mi r pc L e w = some o
    unfold hC hnd
    rw [hh]
    exact q
theorem cB0 {mi r pc p : Nat} {L : List (Option AV)} {S' : List AV} {X : Option Out} {T : Wd → Option Out} (hh : mH mi = none) (hk : ∀ w2, LR w2 → Rf (T w2) (val mi r (p, L, S', w2))) : Rf (b0 X T) (cB X (fun v w' => val mi r (p, L, v.toList ++ S', w')) (hC mi r pc L)) := by
  intro o q
  rcases X with _ | ⟨(_ | (x | (r2 | x))) | e, w⟩
  · cases q
  · exact Rgp q (fun H => hk w H)
  · cases q
  · cases q
  · cases q
  · show hC mi r pc L e w = some o
    unfold hC hnd
    rw [hh]
    exact q
theorem cBQ {mi r pc p : Nat} {L : List (Option AV)} {S' : List AV} {X : Option Out} {T : Option Nat → Wd → Option Out} (hh : mH mi = none) (hk : ∀ n w2, LR w2 → Rf (T n w2) (val mi r (p, L, aR n :: S', w2))) : Rf (bQ X T) (cB X (fun v w' => val mi r (p, L, v.toList ++ S', w')) (hC mi r pc L)) := by
  intro o q
  rcases X with _ | ⟨(_ | (x | (r2 | x))) | e, w⟩
  · cases q
  · cases q
  · cases q
  · exact Rgp q (fun H => hk r2 w H)
  · cases q
  · show hC mi r pc L e w = some o
    unfold hC hnd
    rw [hh]
    exact q
theorem cBHI {mi r pc p : Nat} {L : List (Option AV)} {S' : List AV} {X : Option Out} {T : Int → Wd → Option Out} {h0 h1 : Wd → Option Out} (hk : ∀ n w2, LR w2 → Rf (T n w2) (val mi r (p, L, aI n :: S', w2))) (k0 : ∀ w2, LR w2 → Rf (h0 w2) (hC mi r pc L 0 w2)) (k1 : ∀ w2, LR w2 → Rf (h1 w2) (hC mi r pc L 1 w2)) :
    Rf (bHI X T h0 h1) (cB X (fun v w' => val mi r (p, L, v.toList ++ S', w')) (hC mi r pc L)) := by
  intro o q
  rcases X with _ | ⟨(_ | (x | (r2 | x))) | e, w⟩
  · cases q
  · cases q
  · exact Rgp q (fun H => hk x w H)
  · cases q
  · cases q
  · match e, q with
    | 0, q => exact Rgp q (fun H => k0 w H)
    | 1, q => exact Rgp q (fun H => k1 w H)
    | e + 2, q => cases q
def gQ (q : Option Nat) (ci : Nat) (K : Nat → Option Out) : Option Out := match q with
  | some b => if (lay b).1 = ci then K b else none
  | none => none
def gA (q : Option Nat) (k : Nat) (K : Nat → Nat → Option Out) : Option Out := match q with
  | some b => if (lay b).1 = k then K b (lay b).2 else none
  | none => none
def gNl (q : Option Nat) (ci : Nat) (T : Option Out) (K : Nat → Option Out) : Option Out := match q with
  | some b => if (lay b).1 = ci then K b else none
  | none => T
def gT (q : Option Nat) (K : Nat → Option Out) : Option Out := match q with
  | some b => if STR ≤ b ∧ b < STR + txL.length then K b else none
  | none => none
theorem gQ_t {b ci : Nat} {K : Nat → Option Out} (h : (lay b).1 = ci) : gQ (some b) ci K = K b := if_pos h
theorem gN_t {b ci : Nat} {T : Option Out} {K : Nat → Option Out} (h : (lay b).1 = ci) : gNl (some b) ci T K = K b := if_pos h
theorem gN_n {ci : Nat} {T : Option Out} {K : Nat → Option Out} : gNl none ci T K = T := rfl
theorem gA_t {b k n : Nat} {K : Nat → Nat → Option Out} (h : lay b = (k, n)) : gA (some b) k K = K b n := by
  show (if (lay b).1 = k then K b (lay b).2 else none) = _
  rw [h]; exact if_pos rfl
theorem gT_t {b : Nat} {K : Nat → Option Out} (h : STR ≤ b ∧ b < STR + txL.length) : gT (some b) K = K b := if_pos h
theorem RfQ {q : Option Nat} {ci : Nat} {K : Nat → Option Out} {y : Option Nat → Option Out} (h : ∀ b, (lay b).1 = ci → Rf (K b) (y (some b))) : Rf (gQ q ci K) (y q) := by
  intro o e
  cases q with
  | none => cases e
  | some b =>
    have e : (if (lay b).1 = ci then K b else none) = some o := e
    split at e
    · rename_i hb; exact h b hb o e
    · cases e
theorem RfN {q : Option Nat} {ci : Nat} {T : Option Out} {K : Nat → Option Out} {y : Option Nat → Option Out} (h0 : Rf T (y none)) (h : ∀ b, (lay b).1 = ci → Rf (K b) (y (some b))) : Rf (gNl q ci T K) (y q) := by
  intro o e
  cases q with
  | none => exact h0 o e
  | some b =>
    have e : (if (lay b).1 = ci then K b else none) = some o := e
    split at e
    · rename_i hb; exact h b hb o e
    · cases e
theorem RfQ1 {q : Option Nat} {ci : Nat} {K : Nat → Option Out} {y : Option Out} (h : ∀ b, q = some b → (lay b).1 = ci → Rf (K b) y) : Rf (gQ q ci K) y := by
  intro o e
  cases q with
  | none => cases e
  | some b =>
    have e : (if (lay b).1 = ci then K b else none) = some o := e
    split at e
    · rename_i hb; exact h b rfl hb o e
    · cases e
theorem RfA1 {q : Option Nat} {k : Nat} {K : Nat → Nat → Option Out} {y : Option Out} (h : ∀ b n, q = some b → lay b = (k, n) → Rf (K b n) y) : Rf (gA q k K) y := by
  intro o e
  cases q with
  | none => cases e
  | some b =>
    have e : (if (lay b).1 = k then K b (lay b).2 else none) = some o := e
    split at e
    · rename_i hb; exact h b _ rfl (by rw [← hb]) o e
    · cases e
theorem RfT1 {q : Option Nat} {K : Nat → Option Out} {y : Option Nat → Option Out} (h : ∀ b, (STR ≤ b ∧ b < STR + txL.length) → Rf (K b) (y (some b))) : Rf (gT q K) (y q) := by
  intro o e
  cases q with
  | none => cases e
  | some b =>
    have e : (if STR ≤ b ∧ b < STR + txL.length then K b else none) = some o := e
    split at e
    · rename_i hb; exact h b hb o e
    · cases e
theorem RfI {c : Prop} {d : Decidable c} {a b a2 b2 : Option Out} (h1 : Rf a a2) (h2 : Rf b b2) : Rf (@ite _ c d a b) (@ite _ c d a2 b2) := by
  by_cases h : c
  · rw [if_pos h, if_pos h]; exact h1
  · rw [if_neg h, if_neg h]; exact h2
theorem RfT {c : Prop} {d : Decidable c} {a b T : Option Out} (hc : c) (h : Rf T a) : Rf T (@ite _ c d a b) := by rw [if_pos hc]; exact h
theorem RfF {c : Prop} {d : Decidable c} {a b T : Option Out} (hc : ¬ c) (h : Rf T b) : Rf T (@ite _ c d a b) := by rw [if_neg hc]; exact h
theorem RfG {c : Bool} {a b : Option Out} (h : Rf a b) : Rf (gd c a) (gd c b) := by
  cases c with
  | true => rw [gd_t rfl, gd_t rfl]; exact h
  | false => exact fun o e => nomatch e
theorem RfS0 {x lo : Int} {d : Nat} {K : Nat → Option Out} {T : Option Out} (h : Rf T (K d)) : Rf T (swT x lo d K []) := h
theorem RfS1 {x lo lo' : Int} {d t : Nat} {ts : List Nat} {K : Nat → Option Out} {T1 T2 : Option Out} (hl : lo = lo') (h1 : Rf T1 (K t)) (h2 : Rf T2 (swT x (lo + 1) d K ts)) : Rf (if x = lo' then T1 else T2) (swT x lo d K (t :: ts)) := by
  subst hl
  show Rf _ (if x = lo then K t else swT x (lo + 1) d K ts)
  exact RfI h1 h2
/-- a switch over single numbers, as a row of questions -/
def lsT (x dflt : Int) (pc : Nat) (K : Nat → Option Out) : List (Int × Int) → Option Out
  | [] => match jmp pc dflt with | some t => K t | none => none
  | q :: r => if q.1 = x then (match jmp pc q.2 with | some t => K t | none => none) else lsT x dflt pc K r
theorem lsT_eq {x dflt : Int} {pc : Nat} {K : Nat → Option Out} : ∀ (l : List (Int × Int)), lsT x dflt pc K l = (match jmp pc (Op.lookupswitch.offset l dflt x) with | some t => K t | none => none) := by
  intro l
  induction l with
  | nil => rw [Op.lookupswitch.offset_nil]; rfl
  | cons q r ih =>
    obtain ⟨a, o⟩ := q
    rw [Op.lookupswitch.offset_cons]
    show (if a = x then _ else _) = _
    by_cases h : a = x
    · rw [if_pos h, if_pos h]
    · rw [if_neg h, if_neg h]; exact ih
theorem RfL0 {x dflt : Int} {pc t : Nat} {K : Nat → Option Out} {T : Option Out} (hj : jmp pc dflt = some t) (h : Rf T (K t)) : Rf T (lsT x dflt pc K []) := by
  unfold lsT; rw [hj]; exact h
theorem RfL1 {x dflt a o : Int} {pc t : Nat} {r : List (Int × Int)} {K : Nat → Option Out} {T1 T2 : Option Out} (hj : jmp pc o = some t) (h1 : Rf T1 (K t)) (h2 : Rf T2 (lsT x dflt pc K r)) : Rf (if a = x then T1 else T2) (lsT x dflt pc K ((a, o) :: r)) := by
  show Rf _ (if a = x then (match jmp pc o with | some t => K t | none => none) else lsT x dflt pc K r)
  rw [hj]
  exact RfI h1 h2
section RULES3
variable {mi r pc len p t : Nat} {c : ByteArray} {i : Instr} {L L' : List (Option AV)} {S : List AV} {w : Wd} {x y z : Int} {a b k n : Nat} {v u : AV}
theorem v_lsw {dflt : Int} {ps : Array (Int × Int)} (hm : mB mi = c) (hd : decode c pc = .ok (.lookupswitch dflt ps, len)) (hs : (ps.toList.zip (ps.toList.drop 1)).all (fun (a, next) => a.1 < next.1) = true) :
    val mi r (pc, L, aI x :: S, w) = lsT x dflt pc (fun t => val mi r (t, L, S, w)) ps.toList := by
  subst hm
  rw [lsT_eq]
  have hx : exec1 mi (.lookupswitch dflt ps) len pc L (aI x :: S) w = exJ pc (Op.lookupswitch.offset ps.toList dflt x) L S w := by
    show (if (ps.toList.zip (ps.toList.drop 1)).all (fun (a, next) => a.1 < next.1) = true then exJ pc (Op.lookupswitch.offset ps.toList dflt x) L S w else none) = _
    rw [if_pos hs]
  cases hj : jmp pc (Op.lookupswitch.offset ps.toList dflt x) with
  | some t =>
    refine val_next hd ?_
    rw [hx]; unfold exJ; rw [hj]; rfl
  | none =>
    refine v_none rfl hd ?_
    rw [hx]; unfold exJ; rw [hj]; rfl
theorem v_acmp_eq (t p : Nat) {off : Int} (hm : mB mi = c) (hd : decode c pc = .ok (.if_acmp .eq off, 3)) (hj : jmp pc off = some t) (hp : pc + 3 = p) (ha : a < STR) (hb : b < STR) : val mi r (pc, L, aR (some b) :: aR (some a) :: S, w) = if a = b then val mi r (t, L, S, w) else val mi r (p, L, S, w) := by
  subst hm; subst hp
  have h : val mi r (pc, L, aR (some b) :: aR (some a) :: S, w) = val mi r (if decide (a = b) then t else pc + 3, L, S, w) := val_next hd (by
    show (if a < STR ∧ b < STR then exIf 3 pc off L S w (decide (a = b)) else none) = _
    rw [if_pos ⟨ha, hb⟩]
    unfold exIf; rw [hj]; rfl)
  rw [h]
  by_cases q : a = b
  · simp [q]
  · simp [q]
theorem v_acmp_ne (t p : Nat) {off : Int} (hm : mB mi = c) (hd : decode c pc = .ok (.if_acmp .ne off, 3)) (hj : jmp pc off = some t) (hp : pc + 3 = p) (ha : a < STR) (hb : b < STR) : val mi r (pc, L, aR (some b) :: aR (some a) :: S, w) = if a ≠ b then val mi r (t, L, S, w) else val mi r (p, L, S, w) := by
  subst hm; subst hp
  have h : val mi r (pc, L, aR (some b) :: aR (some a) :: S, w) = val mi r (if decide (a ≠ b) then t else pc + 3, L, S, w) := val_next hd (by
    show (if a < STR ∧ b < STR then exIf 3 pc off L S w (decide (a ≠ b)) else none) = _
    rw [if_pos ⟨ha, hb⟩]
    unfold exIf; rw [hj]; rfl)
  rw [h]
  by_cases q : a = b
  · simp [q]
  · simp [q]
theorem v_ifnull0 (t : Nat) {off : Int} (hm : mB mi = c) (hd : decode c pc = .ok (.ifnull off, 3)) (hj : jmp pc off = some t) : val mi r (pc, L, aR none :: S, w) = val mi r (t, L, S, w) := by
  subst hm
  refine val_next hd ?_
  show exJ pc off L S w = _
  unfold exJ; rw [hj]; rfl
theorem v_ifnull1 (p : Nat) {off : Int} (hm : mB mi = c) (hd : decode c pc = .ok (.ifnull off, 3)) (hp : pc + 3 = p) (ha : a < STR) : val mi r (pc, L, aR (some a) :: S, w) = val mi r (p, L, S, w) := v_next hm hd hp (by
  show (if a < STR then _ else none) = _
  rw [if_pos ha])
theorem v_ifnonnull0 (p : Nat) {off : Int} (hm : mB mi = c) (hd : decode c pc = .ok (.ifnonnull off, 3)) (hp : pc + 3 = p) : val mi r (pc, L, aR none :: S, w) = val mi r (p, L, S, w) := v_next hm hd hp rfl
theorem v_ifnonnull1 (t : Nat) {off : Int} (hm : mB mi = c) (hd : decode c pc = .ok (.ifnonnull off, 3)) (hj : jmp pc off = some t) (ha : a < STR) : val mi r (pc, L, aR (some a) :: S, w) = val mi r (t, L, S, w) := by
  subst hm
  refine val_next hd ?_
  show (if a < STR then exJ pc off L S w else none) = _
  rw [if_pos ha]
  unfold exJ; rw [hj]; rfl
theorem v_getV (p : Nat) {ix q1 q2 : Nat} (hm : mB mi = c) (hd : decode c pc = .ok (.getfield ix, 3)) (hp : pc + 3 = p) (hf : fres (mOwn mi) ix = some (ix, 50, 0, q1, q2)) (hl : STR ≤ a ∧ a < STR + txL.length) : val mi r (pc, L, aR (some a) :: S, w) = val mi r (p, L, aR (some (a + 1000000)) :: S, w) := v_next hm hd hp (by
  show (Option.map (· :: S) (fGet mi ix w a)).map _ = _
  unfold fGet
  rw [hf]
  simp only []
  rw [if_pos trivial, if_pos hl, if_pos trivial]
  rfl)
theorem v_getC (p : Nat) {ix q1 q2 : Nat} (hm : mB mi = c) (hd : decode c pc = .ok (.getfield ix, 3)) (hp : pc + 3 = p) (hf : fres (mOwn mi) ix = some (ix, 50, 1, q1, q2)) (hl : STR ≤ a ∧ a < STR + txL.length) : val mi r (pc, L, aR (some a) :: S, w) = val mi r (p, L, aI 0 :: S, w) := v_next hm hd hp (by
  show (Option.map (· :: S) (fGet mi ix w a)).map _ = _
  unfold fGet
  rw [hf]
  simp only []
  rw [if_pos trivial, if_pos hl, if_neg (by decide)]
  rfl)
theorem lay_txt (hl : STR ≤ a ∧ a < STR + txL.length) : (lay (a + 1000000)).1 = 99 := by
  have e : STR = 1000000 := rfl
  have h : lay (a + 1000000) = (99, 0) := by
    unfold lay
    rw [List.getD_eq_getElem?_getD, List.getElem?_eq_none (by rw [layL_len]; omega)]
    rfl
  rw [h]
theorem v_tald0 {b : Nat} (hb : b = a + 1000000) (p : Nat) (hm : mB mi = c) (hd : decode c pc = .ok (.baload, 1)) (hp : pc + 1 = p) (hl : STR ≤ a ∧ a < STR + txL.length) : val mi r (pc, L, aI x :: aR (some b) :: S, w) = gd (inb x (txB (a - STR)).length) (val mi r (p, L, aI ((txB (a - STR)).getD x.toNat 0) :: S, w)) := by
  have h0 : (lay b).1 = 99 := by rw [hb]; exact lay_txt hl
  have e1 : BYT = 2000000 := rfl
  have e3 : STR = 1000000 := rfl
  have e5 : txL.length = 23 := txL_len
  have e2 : b - BYT = a - STR := by omega
  refine gd_of (fun q => v_next hm hd hp ?_) (fun q => v_none hm hd ?_)
  · show (exAld 20 w (.inl x :: .inr (.inl (some b)) :: S)).map _ = _
    unfold exAld
    simp only []
    rw [if_neg (by rw [h0]; simp), if_neg (by simp), if_pos ⟨trivial, by omega, by omega, by rw [e2]; exact q⟩, e2]
    rfl
  · show (exAld 20 w (.inl x :: .inr (.inl (some b)) :: S)).map _ = _
    unfold exAld
    simp only []
    rw [if_neg (by rw [h0]; simp), if_neg (by simp), if_neg (by rw [e2, q]; simp)]
    rfl
theorem v_tlen0 {b : Nat} (hb : b = a + 1000000) (p : Nat) (hm : mB mi = c) (hd : decode c pc = .ok (.arraylength, 1)) (hp : pc + 1 = p) (hl : STR ≤ a ∧ a < STR + txL.length) : val mi r (pc, L, aR (some b) :: S, w) = val mi r (p, L, aI ((txB (a - STR)).length : Int) :: S, w) := v_next hm hd hp (by
  have h0 : (lay b).1 = 99 := by rw [hb]; exact lay_txt hl
  have e1 : BYT = 2000000 := rfl
  have e4 : SCR = 3000000 := rfl
  have e5 : txL.length = 23 := txL_len
  have e3 : STR = 1000000 := rfl
  have e2 : b - BYT = a - STR := by omega
  show (exLen w (.inr (.inl (some b)) :: S)).map _ = _
  unfold exLen
  simp only []
  rw [if_neg (by rw [h0]; simp), if_neg (by omega), if_pos (by omega), e2]
  rfl)
theorem v_tald (p : Nat) (hm : mB mi = c) (hd : decode c pc = .ok (.baload, 1)) (hp : pc + 1 = p) (hl : STR ≤ a ∧ a < STR + txL.length) : val mi r (pc, L, aI x :: aR (some (a + 1000000)) :: S, w) = gd (inb x (txB (a - STR)).length) (val mi r (p, L, aI ((txB (a - STR)).getD x.toNat 0) :: S, w)) := v_tald0 rfl p hm hd hp hl
theorem v_tlen (p : Nat) (hm : mB mi = c) (hd : decode c pc = .ok (.arraylength, 1)) (hp : pc + 1 = p) (hl : STR ≤ a ∧ a < STR + txL.length) : val mi r (pc, L, aR (some (a + 1000000)) :: S, w) = val mi r (p, L, aI ((txB (a - STR)).length : Int) :: S, w) := v_tlen0 rfl p hm hd hp hl
theorem hT {j : Nat} (h : j < txL.length) : STR ≤ STR + j ∧ STR + j < STR + txL.length := ⟨Nat.le_add_right _ _, Nat.add_lt_add_left h _⟩
theorem v_thr {ix e : Nat} (hm : mB mi = c) (hd : decode c pc = .ok (.new ix, 3)) (ht : thr mi pc = some e) : val mi r (pc, L, [], w) = some (.inr e, tW w) := by
  subst hm
  refine val_out hd ?_
  show (match thr mi pc with | some e => _ | none => _) = _
  rw [ht]
  rfl
theorem v_retR {q : Option Nat} (hm : mB mi = c) (hd : decode c pc = .ok (.areturn, 1)) (hk : mRc mi = 5) : val mi r (pc, L, [aR q], w) = some (.inl (some (aR q)), w) := by
  subst hm
  refine val_out hd ?_
  show (if mRc mi = 5 then _ else none) = _
  rw [if_pos hk]
theorem v_retC (hm : mB mi = c) (hd : decode c pc = .ok (.ireturn, 1)) (hk : mRc mi = 3) (hx : bI2c x = x) : val mi r (pc, L, [aI x], w) = some (.inl (some (aI x)), w) := by
  subst hm
  refine val_out hd ?_
  show (if retOk (mRc mi) x = true then _ else none) = _
  rw [hk, if_pos (by simpa [retOk] using hx)]
theorem v_retY (hm : mB mi = c) (hd : decode c pc = .ok (.ireturn, 1)) (hk : mRc mi = 4) (hx : bI2b x = x) : val mi r (pc, L, [aI x], w) = some (.inl (some (aI x)), w) := by
  subst hm
  refine val_out hd ?_
  show (if retOk (mRc mi) x = true then _ else none) = _
  rw [hk, if_pos (by simpa [retOk] using hx)]
end RULES3
def cpW (w : Wd) (a d sp dp n len : Nat) : Wd := sI w d (aCpy (gI w a) (gI w d) sp dp n len)
abbrev lW (w : Wd) (K : Wd → Option Out) : Option Out := K w
