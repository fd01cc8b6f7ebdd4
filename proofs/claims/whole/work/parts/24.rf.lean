/-! a text of the program stands for the evaluator where it answers at least so: refinement; locals may be forgotten -/
def leL : List (Option AV) → List (Option AV) → Prop
  | [], [] => True
  | none :: t', _ :: t => leL t' t
  | some v :: t', u :: t => u = some v ∧ leL t' t
  | _, _ => False
theorem leL_refl : ∀ (L : List (Option AV)), leL L L := by
  intro L
  induction L with
  | nil => trivial
  | cons v t ih =>
    cases v with
    | none => exact ih
    | some v => exact ⟨rfl, ih⟩
theorem leL_len : ∀ {L' L : List (Option AV)}, leL L' L → L'.length = L.length := by
  intro L'
  induction L' with
  | nil =>
    intro L h
    cases L with
    | nil => rfl
    | cons u t => exact h.elim
  | cons v t' ih =>
    intro L h
    cases L with
    | nil => cases v <;> exact h.elim
    | cons u t =>
      cases v with
      | none => simp [ih (show leL t' t from h)]
      | some v => simp [ih (show leL t' t from h.2)]
theorem leL_get : ∀ {L' L : List (Option AV)} {k : Nat} {v : AV}, leL L' L → L'[k]? = some (some v) → L[k]? = some (some v) := by
  intro L'
  induction L' with
  | nil => intro L k v h hk; simp at hk
  | cons a t' ih =>
    intro L k v h hk
    cases L with
    | nil => cases a <;> exact h.elim
    | cons u t =>
      cases k with
      | zero =>
        cases a with
        | none => simp at hk
        | some a =>
          have h1 : u = some a := h.1
          simp at hk ⊢
          rw [h1, hk]
      | succ k =>
        have ht : leL t' t := by
          cases a with
          | none => exact h
          | some a => exact h.2
        simp at hk ⊢
        exact ih ht hk
theorem leL_of : ∀ {L' L : List (Option AV)}, L'.length = L.length → (∀ (k : Nat) (v : AV), L'[k]? = some (some v) → L[k]? = some (some v)) → leL L' L := by
  intro L'
  induction L' with
  | nil =>
    intro L h _
    cases L with
    | nil => trivial
    | cons u t => simp at h
  | cons a t' ih =>
    intro L h hk
    cases L with
    | nil => simp at h
    | cons u t =>
      have ht : leL t' t := ih (by simpa using h) (fun k v q => by simpa using hk (k + 1) v (by simpa using q))
      cases a with
      | none => exact ht
      | some a => exact ⟨by simpa using hk 0 a (by simp), ht⟩
theorem leL_set {L' L : List (Option AV)} {k : Nat} {v : Option AV} (h : leL L' L) : leL (L'.set k v) (L.set k v) := by
  refine leL_of (by simp [leL_len h]) (fun j u hj => ?_)
  rw [List.getElem?_set] at hj ⊢
  split at hj
  · rename_i q
    rw [if_pos q]
    rw [leL_len h] at hj
    exact hj
  · rename_i q
    rw [if_neg q]
    exact leL_get h hj
theorem leL_none {L' L : List (Option AV)} {k : Nat} (h : leL L' L) (hk : ∀ v, L'[k]? ≠ some (some v)) : leL L' (L.set k none) := by
  refine leL_of (by simp [leL_len h]) (fun j u hj => ?_)
  rw [List.getElem?_set]
  split
  · rename_i q
    subst q
    exact absurd hj (hk u)
  · exact leL_get h hj
theorem leL_kill {L' L : List (Option AV)} {k : Nat} (h : leL L' L) : leL (match L'[k]? with | some (some (.inr (.inr _))) => L'.set k none | _ => L') (match L[k]? with | some (some (.inr (.inr _))) => L.set k none | _ => L) := by
  cases h1 : L'[k]? with
  | none =>
    have h2 : L[k]? = none := by
      rw [List.getElem?_eq_none_iff] at h1 ⊢
      rw [← leL_len h]; exact h1
    rw [h2]
    exact h
  | some a =>
    cases a with
    | some v =>
      rw [leL_get h h1]
      rcases v with x | r | x
      · exact h
      · exact h
      · exact leL_set h
    | none =>
      simp only []
      split
      · exact leL_none h (fun v q => by rw [h1] at q; cases q)
      · exact h
theorem leL_st {L' L : List (Option AV)} {i : Nat} {v : Option AV} (h : leL L' L) : leL (stL L' i v) (stL L i v) := by
  unfold stL
  refine leL_set ?_
  cases i with
  | zero => exact h
  | succ j => exact leL_kill h
/-- the same act with other locals, some more known -/
def leA : Act → Act → Prop
  | .inl c', .inl c => c'.1 = c.1 ∧ leL c'.2.1 c.2.1 ∧ c'.2.2 = c.2.2
  | .inr (.inl q'), .inr (.inl q) => q'.1 = q.1 ∧ q'.2.1 = q.2.1 ∧ q'.2.2.1 = q.2.2.1 ∧ leL q'.2.2.2.1 q.2.2.2.1 ∧ q'.2.2.2.2 = q.2.2.2.2
  | .inr (.inr o'), .inr (.inr o) => o' = o
  | _, _ => False
section WEAK
variable {mi ix len pc : Nat} {i : Instr} {L' L : List (Option AV)} {S : List AV} {w : Wd} {a' : Act}
theorem le_exN {o : Option (List AV)} (h : leL L' L) (he : exN len pc L' w o = some a') : ∃ a, exN len pc L w o = some a ∧ leA a' a := by
  cases o with
  | none => cases he
  | some s => cases he; exact ⟨_, rfl, rfl, h, rfl⟩
theorem le_exJ {off : Int} (h : leL L' L) (he : exJ pc off L' S w = some a') : ∃ a, exJ pc off L S w = some a ∧ leA a' a := by
  unfold exJ at he ⊢
  cases hj : jmp pc off with
  | none => rw [hj] at he; cases he
  | some t => rw [hj] at he; cases he; exact ⟨_, rfl, rfl, h, rfl⟩
theorem le_exIf {off : Int} {b : Bool} (h : leL L' L) (he : exIf len pc off L' S w b = some a') : ∃ a, exIf len pc off L S w b = some a ∧ leA a' a := by
  unfold exIf at he ⊢
  cases hj : jmp pc off with
  | none => rw [hj] at he; cases he
  | some t => rw [hj] at he; cases he; exact ⟨_, rfl, rfl, h, rfl⟩
theorem le_map {x : Option (List AV × Wd)} (h : leL L' L) (he : x.map (fun q => (Sum.inl (pc + len, L', q.1, q.2) : Act)) = some a') : ∃ a, x.map (fun q => (Sum.inl (pc + len, L, q.1, q.2) : Act)) = some a ∧ leA a' a := by
  cases x with
  | none => cases he
  | some q => cases he; exact ⟨_, rfl, rfl, h, rfl⟩
theorem le_mapP {x : Option Wd} (h : leL L' L) (he : x.map (fun q => (Sum.inl (pc + len, L', S, q) : Act)) = some a') : ∃ a, x.map (fun q => (Sum.inl (pc + len, L, S, q) : Act)) = some a ∧ leA a' a := by
  cases x with
  | none => cases he
  | some q => cases he; exact ⟨_, rfl, rfl, h, rfl⟩
theorem le_in {p : Nat} (h : leL L' L) (he : some (Sum.inl (p, L', S, w) : Act) = some a') : ∃ a, some (Sum.inl (p, L, S, w) : Act) = some a ∧ leA a' a := by
  cases he; exact ⟨_, rfl, rfl, h, rfl⟩
theorem le_out {o : Out} (he : some (Sum.inr (Sum.inr o) : Act) = some a') : ∃ a, some (Sum.inr (Sum.inr o) : Act) = some a ∧ leA a' a := by
  cases he; exact ⟨_, rfl, rfl⟩
theorem le_ld {p : AV → Bool} {k : Nat} {S' : List AV} (h : leL L' L) (he : (ldV p L' k).map (· :: S) = some S') : (ldV p L k).map (· :: S) = some S' := by
  unfold ldV at he ⊢
  cases hk : L'[k]? with
  | none => rw [hk] at he; cases he
  | some v =>
    cases v with
    | none => rw [hk] at he; cases he
    | some v => rw [leL_get h hk]; rw [hk] at he; exact he
theorem le_load {p : AV → Bool} {k : Nat} (h : leL L' L) (he : exN len pc L' w ((ldV p L' k).map (· :: S)) = some a') : ∃ a, exN len pc L w ((ldV p L k).map (· :: S)) = some a ∧ leA a' a := by
  cases hq : (ldV p L' k).map (· :: S) with
  | none => rw [hq] at he; cases he
  | some s => rw [hq] at he; rw [le_ld h hq]; exact le_exN h he
theorem le_call {ks : List Nat} (h : leL L' L) (he : exCall mi ix len pc L' S w ks = some a') : ∃ a, exCall mi ix len pc L S w ks = some a ∧ leA a' a := by
  unfold exCall at he ⊢
  split at he
  · cases he
  · rename_i q kind mj n i1 i2 i3 hc
    split at he
    · cases he
    · rename_i h0
      rw [if_neg h0]
      split at he
      · rename_i h7
        rw [if_pos h7]
        split at he
        · split at he
          · rename_i hw
            rw [if_pos hw]
            exact le_in h he
          · cases he
        · cases he
      · rename_i h7
        rw [if_neg h7]
        split at he
        · rename_i h8
          rw [if_pos h8]
          split at he
          · split at he
            · rename_i hw
              rw [if_pos hw]
              exact le_in h he
            · cases he
          · cases he
        · rename_i h8
          rw [if_neg h8]
          split at he
          · rename_i h9
            rw [if_pos h9]
            split at he
            · rename_i hw
              rw [if_pos hw]
              cases he
              exact ⟨_, rfl, rfl, rfl, rfl, h, rfl⟩
            · cases he
          · rename_i h9
            rw [if_neg h9]
            split at he
            · rename_i b S2 hd
              obtain ⟨hw, he⟩ := Option.ite_none_right_eq_some.mp he
              rw [if_pos hw]
              cases he
              exact ⟨_, rfl, rfl, rfl, rfl, h, rfl⟩
            · cases he
set_option maxHeartbeats 4000000 in
theorem exec1_le (h : leL L' L) (he : exec1 mi i len pc L' S w = some a') : ∃ a, exec1 mi i len pc L S w = some a ∧ leA a' a := by
  have hlen := leL_len h
  unfold exec1 at he ⊢
  split at he
  · rename_i hl
    rw [if_pos hl]
    cases i <;> dsimp only [exec0] at he ⊢ <;> first
      | (cases he; done)
      | exact le_exN h he
      | exact le_load h he
      | exact le_exJ h he
      | exact le_call h he
      | exact le_map h he
      | skip
    case istore k => (split at he <;> first | (cases he; done) | (split at he <;> first | (cases he; done) | (rename_i hk; rw [if_pos (by omega)]; exact le_in (leL_st h) he)))
    case istore_n k => (split at he <;> first | (cases he; done) | (split at he <;> first | (cases he; done) | (rename_i hk; rw [if_pos (by omega)]; exact le_in (leL_st h) he)))
    case astore k => (split at he <;> first | (cases he; done) | (split at he <;> first | (cases he; done) | (rename_i hk; rw [if_pos (by omega)]; exact le_in (leL_st h) he)))
    case astore_n k => (split at he <;> first | (cases he; done) | (split at he <;> first | (cases he; done) | (rename_i hk; rw [if_pos (by omega)]; exact le_in (leL_st h) he)))
    case lstore k => (split at he <;> first | (cases he; done) | (split at he <;> first | (cases he; done) | (rename_i hk; rw [if_pos (by omega)]; exact le_in (leL_set (leL_st h)) he)))
    case iinc k n =>
      split at he
      · rename_i x hx
        rw [leL_get h hx]
        simp only []
        split at he
        · rename_i hn
          rw [if_pos hn]
          exact le_in (leL_set h) he
        · cases he
      · cases he
    case putfield ix => (split at he <;> first | (cases he; done) | exact le_mapP h he)
    all_goals (split at he <;> first | (cases he; done) | exact le_exIf h he | exact le_exJ h he | exact le_in h he | exact le_map h he | exact le_out he | skip)
    all_goals (split at he <;> first | (cases he; done) | exact le_exJ h he | (rename_i hq; rw [if_pos hq]; first | exact le_exIf h he | exact le_exJ h he | exact le_in h he | exact le_out he) | (rename_i hq; rw [if_neg hq]; exact le_exJ h he) | exact le_map h he | skip)
    · split at he
      · rename_i hq; rw [if_pos hq]; exact le_in h he
      · cases he
    · rename_i hq; rw [if_neg hq]
      split at he
      · exact le_exJ h he
      · cases he
  · cases he
end WEAK
