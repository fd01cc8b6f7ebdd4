/-! the evaluator without fuel, and its rules -/
theorem run_le {n k mi r : Nat} {c : Cfg} {o : Out} (h : n ≤ k) (hr : run n mi r c = some o) : run k mi r c = some o := by
  induction k with
  | zero => have : n = 0 := by omega
            subst this; exact hr
  | succ k ih =>
    rcases Nat.lt_or_ge n (k + 1) with q | q
    · exact run_mono _ _ _ _ _ (ih (by omega))
    · have : n = k + 1 := by omega
      subst this; exact hr
theorem run_det {n k mi r : Nat} {c : Cfg} {o o' : Out} (h : run n mi r c = some o) (h' : run k mi r c = some o') : o = o' := by
  rcases Nat.le_total n k with q | q
  · have h1 := run_le q h; rw [h1] at h'; exact Option.some.inj h'
  · have h1 := run_le q h'; rw [h1] at h; exact (Option.some.inj h).symm
noncomputable def val (mi r : Nat) (c : Cfg) : Option Out :=
  @dite (Option Out) (∃ o n, run n mi r c = some o) (Classical.propDecidable _) (fun h => some (Classical.choose h)) (fun _ => none)
theorem val_iff {mi r : Nat} {c : Cfg} {o : Out} : val mi r c = some o ↔ ∃ n, run n mi r c = some o := by
  unfold val
  constructor
  · intro h
    split at h
    · rename_i hx
      obtain ⟨n, hn⟩ := Classical.choose_spec hx
      rw [Option.some.inj h] at hn
      exact ⟨n, hn⟩
    · cases h
  · rintro ⟨n, hn⟩
    rw [dif_pos ⟨o, n, hn⟩]
    obtain ⟨k, hk⟩ := Classical.choose_spec (⟨o, n, hn⟩ : ∃ o n, run n mi r c = some o)
    exact congrArg some (run_det hk hn)
theorem val_ext {x y : Option Out} (h : ∀ o, x = some o ↔ y = some o) : x = y := by
  cases x with
  | none =>
    cases y with
    | none => rfl
    | some o => exact absurd ((h o).mpr rfl) (by simp)
  | some o => exact ((h o).mp rfl).symm
theorem val_next {mi r pc len : Nat} {i : Instr} {L : List (Option AV)} {S : List AV} {w : Wd} {c : Cfg} (hd : decode (mB mi) pc = .ok (i, len)) (he : exec1 mi i len pc L S w = some (.inl c)) : val mi r (pc, L, S, w) = val mi r c := by
  refine val_ext fun o => ?_
  rw [val_iff, val_iff]
  constructor
  · rintro ⟨n, hn⟩
    cases n with
    | zero => cases hn
    | succ n =>
      rw [run, hd] at hn
      simp only [he] at hn
      exact ⟨n, hn⟩
  · rintro ⟨n, hn⟩
    refine ⟨n + 1, ?_⟩
    rw [run, hd]
    simp only [he]
    exact hn
theorem val_out {mi r pc len : Nat} {i : Instr} {L : List (Option AV)} {S : List AV} {w : Wd} {o : Out} (hd : decode (mB mi) pc = .ok (i, len)) (he : exec1 mi i len pc L S w = some (.inr (.inr o))) : val mi r (pc, L, S, w) = some o := by
  rw [val_iff]
  refine ⟨1, ?_⟩
  rw [run, hd]
  simp only [he]
/-- a call, then what is done with its answer -/
def cB (x : Option Out) (k : Option AV → Wd → Option Out) (h : Nat → Wd → Option Out) : Option Out := match x with
  | none => none
  | some (.inl v, w') => k v w'
  | some (.inr e, w') => h e w'
noncomputable def cl (mj : Nat) (as : List AV) (w : Wd) : Option Out := val mj (crk mj as) (0, entL mj as, [], w)
noncomputable def hC (mi r pc : Nat) (L : List (Option AV)) (e : Nat) (w' : Wd) : Option Out := match hnd mi pc e with
  | none => some (.inr e, w')
  | some none => none
  | some (some (k, p2)) => if k < L.length then val mi r (p2, stL L k none, [], w') else none
theorem val_call {mi r pc len mj : Nat} {i : Instr} {L : List (Option AV)} {S as : List AV} {w : Wd} {c : Cfg} (hd : decode (mB mi) pc = .ok (i, len)) (he : exec1 mi i len pc L S w = some (.inr (.inl (mj, as, c)))) (hr : crk mj as < r) :
    val mi r (pc, L, S, w) = cB (cl mj as w) (fun v w' => val mi r (c.1, c.2.1, v.toList ++ c.2.2.1, w')) (hC mi r pc L) := by
  refine val_ext fun o => ?_
  rw [val_iff]
  constructor
  · rintro ⟨n, hn⟩
    cases n with
    | zero => cases hn
    | succ n =>
      rw [run, hd] at hn
      simp only [he, if_pos hr] at hn
      cases hc : run n mj (crk mj as) (0, entL mj as, [], w) with
      | none => rw [hc] at hn; cases hn
      | some q =>
        rw [hc] at hn
        have hv : cl mj as w = some q := val_iff.mpr ⟨n, hc⟩
        rw [hv]
        obtain ⟨v | e, w'⟩ := q
        · exact val_iff.mpr ⟨n, hn⟩
        · simp only [cB, hC]
          simp only [] at hn
          cases hh : hnd mi pc e with
          | none => rw [hh] at hn; exact hn
          | some z =>
            rw [hh] at hn
            cases z with
            | none => cases hn
            | some kp =>
              obtain ⟨k, p2⟩ := kp
              simp only [] at hn ⊢
              by_cases hk : k < L.length
              · rw [if_pos hk] at hn ⊢; exact val_iff.mpr ⟨n, hn⟩
              · rw [if_neg hk] at hn; cases hn
  · intro h
    cases hc : cl mj as w with
    | none => rw [hc] at h; cases h
    | some q =>
      rw [hc] at h
      obtain ⟨n, hn⟩ := val_iff.mp hc
      obtain ⟨v | e, w'⟩ := q
      · obtain ⟨k, hk⟩ := val_iff.mp h
        refine ⟨n + k + 1, ?_⟩
        rw [run, hd]
        simp only [he, if_pos hr]
        rw [run_le (k := n + k) (by omega) hn]
        exact run_le (by omega) hk
      · simp only [cB, hC] at h
        cases hh : hnd mi pc e with
        | none =>
          rw [hh] at h
          refine ⟨n + 1, ?_⟩
          rw [run, hd]
          simp only [he, if_pos hr]
          rw [hn]
          simp only [hh]
          exact h
        | some z =>
          rw [hh] at h
          cases z with
          | none => cases h
          | some kp =>
            obtain ⟨k, p2⟩ := kp
            simp only [] at h
            by_cases hk : k < L.length
            · rw [if_pos hk] at h
              obtain ⟨k2, hk2⟩ := val_iff.mp h
              refine ⟨n + k2 + 1, ?_⟩
              rw [run, hd]
              simp only [he, if_pos hr]
              rw [run_le (k := n + k2) (by omega) hn]
              simp only [hh, if_pos hk]
              exact run_le (by omega) hk2
            · rw [if_neg hk] at h; cases h
