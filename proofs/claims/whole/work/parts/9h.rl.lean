/-! what holds of all that stands -/
def GZ (A : AC) : Prop := Z9 (oS A) ∧ (∀ u ∈ oL A, Z9 u) ∧ ∀ x, oM A = some x → Z9 x.1 ∧ ∀ u ∈ x.2.1, Z9 u
def GI (A : AC) : Prop := GA A ∧ GZ A
theorem Z9.E8 {s u : ST} (hs : Z9 s) (hu : Z9 u) : E8 s u := by
  intro i hi
  obtain ⟨a1, a2, a3, a4⟩ := hs i hi
  obtain ⟨b1, b2, b3, b4⟩ := hu i hi
  rw [a1, a2, a3, b1, b2, b3]
  exact ⟨rfl, rfl, rfl⟩
theorem GI.E {A : AC} (h : GI A) : GE A := ⟨fun u hu => h.2.1.E8 (h.2.2.1 u hu), fun x hx => ⟨h.2.1.E8 (h.2.2.2 x hx).1, fun u hu => h.2.1.E8 ((h.2.2.2 x hx).2 u hu)⟩⟩
theorem GI.rf {A : AC} {k : Nat} (h : GI A) : GI (rfS A k) := ⟨GA_rf h.1, h.2⟩
theorem GI.now {A : AC} {u : ST} (h : GI A) (hu : GU (oQ A) (uM (oS A)) u) (hz : Z9 u) : GI (nowA A u) := by
  refine ⟨GA_now h.1 hu, hz, fun v hv => ?_, h.2.2.2⟩
  rcases kpL_mem (show v ∈ kpL (oL A) (oS A) from hv) with q | q
  · exact h.2.2.1 v q
  · rw [q]; exact h.2.1
theorem uG_one {Q : QT} {s : ST} {k i : Nat} (hs : GS (zn Q) s) (hi : 8 ≤ i) : uG (oneA Q k s) i = uG s i := by
  unfold oneA
  by_cases ha : asks Q s k = true
  · rw [if_pos ha]
    obtain ⟨a1, a2, a3, a4⟩ := asks_in ha
    obtain ⟨h1, h2, h3⟩ := whoA_ok hs a3
    show va_up (uG s) (whoA Q s k) _ i = _
    rw [up_c (by omega)]
  · rw [if_neg ha]
theorem uG_sg {Q : QT} {s : ST} {i : Nat} (hs : GS (zn Q) s) (hi : 8 ≤ i) : ∀ k, k ≤ zn Q → uG (sg Q s k) i = uG s i := by
  intro k
  induction k with
  | zero => intro _; rfl
  | succ k ih => intro hk; exact (uG_one (GS_sg hs k (by omega)) hi).trans (ih (by omega))
theorem uG_goN {Q : QT} {s : ST} {i : Nat} (hs : GS (zn Q) s) (hi : 8 ≤ i) : ∀ k : Nat, uT s + k ≤ 100000 → uG (goN Q s k) i = uG s i := by
  intro k
  induction k with
  | zero => intro _; rfl
  | succ k ih =>
    intro hk
    exact (uG_sg (Q := Q) (s := goN Q s k) (GS_goN hs k (by omega)) hi _ (Nat.le_refl _)).trans (ih (by omega))
theorem Z9.goN {Q : QT} {s : ST} (h : Z9 s) (hs : GS (zn Q) s) (h8 : zn Q ≤ 8) (k : Nat) (hk : uT s + k ≤ 100000) : Z9 (goN Q s k) := by
  intro p hp
  obtain ⟨a1, a2, a3, a4⟩ := h p hp
  obtain ⟨b1, b2, -, -⟩ := goN_same (Q := Q) (s := s) k
  exact ⟨(GS_goN hs k hk).2.1 p (by omega), (uG_goN hs hp k hk).trans a2, by rw [b1]; exact a3, by rw [b2]; exact a4⟩
theorem gdPA_I {A : AC} {x : Int} {a : An × AC} (h : GI A) (ha : 0 ≤ x → x < zn (oQ A) → GI a.2) : GI (gdPA x A a).2 := by
  unfold gdPA
  by_cases z : 0 ≤ x ∧ x < zn (oQ A)
  · rw [if_pos z]; exact ha z.1 z.2
  · rw [if_neg z]; exact h
section GIa
variable {A : AC}
theorem GI.steps {k : Int} (h : GI A) (h8 : zn (oQ A) ≤ 8) : GI (sSteps A k).2 := by
  unfold sSteps
  by_cases z : 1 ≤ k ∧ k ≤ 20 ∧ uT (oS A) + k ≤ 999
  · rw [if_pos z]
    have hg := h.1.1
    obtain ⟨b1, b2, b3, b4⟩ := goN_same (Q := oQ A) (s := oS A) k.toNat
    have hT := goN_T (Q := oQ A) (s := oS A) k.toNat
    exact h.now ⟨GS_goN hg.1 _ (by omega), by omega, b2.trans hg.2.2.1, fun p hp => by rw [b3]; exact hg.2.2.2 p hp⟩ (h.2.1.goN hg.1 h8 _ (by omega))
  · rw [if_neg z]; exact h.rf
theorem GI.set {x v : Int} (h : GI A) (h8 : zn (oQ A) ≤ 8) : GI (sSet A x v).2 := by
  unfold sSet
  refine gdPA_I h (fun x0 x1 => ?_)
  by_cases z : 0 ≤ v ∧ v < 60 ∧ v ≠ uW (oS A) x.toNat
  · rw [if_pos z]
    have hg := h.1.1
    refine h.now ⟨GS_W hg.1 ⟨z.1, z.2.1⟩, hg.2.1, hg.2.2.1, hg.2.2.2⟩ (fun p hp => ?_)
    obtain ⟨a1, a2, a3, a4⟩ := h.2.1 p hp
    refine ⟨a1, a2, ?_, a4⟩
    show va_up (uW (oS A)) x.toNat v p = 0
    rw [up_c (by omega)]; exact a3
  · rw [if_neg z]; exact h.rf
theorem GI.give {x m : Int} (h : GI A) (h8 : zn (oQ A) ≤ 8) : GI (sGive A x m).2 := by
  unfold sGive
  refine gdPA_I h (fun x0 x1 => ?_)
  by_cases z : 1 ≤ m ∧ m ≤ 100
  · rw [if_pos z]
    have hg := h.1.1
    refine h.now ⟨GS_rcv hg.1 (by omega) (by omega), hg.2.1, hg.2.2.1, hg.2.2.2⟩ (fun p hp => ?_)
    obtain ⟨a1, a2, a3, a4⟩ := h.2.1 p hp
    refine ⟨?_, a2, a3, a4⟩
    show va_up (uL (oS A)) x.toNat _ p = 0
    rw [up_c (by omega)]; exact a1
  · rw [if_neg z]; exact h.rf
theorem GI.stop {b : Bool} (h : GI A) : GI (sStop A b).2 := by
  unfold sStop
  by_cases z : uP (oS A) ≠ b
  · rw [if_pos z]; exact h.now h.1.1 h.2.1
  · rw [if_neg z]; exact h.rf
theorem GI.stay {x : Int} {b : Bool} (h : GI A) : GI (sStay A x b).2 := by
  unfold sStay
  refine gdPA_I h (fun x0 x1 => ?_)
  by_cases z : uI (oS A) x.toNat ≠ b
  · rw [if_pos z]
    have hg := h.1.1
    refine h.now ⟨hg.1, hg.2.1, hg.2.2.1, fun p hp => ?_⟩ h.2.1
    show (if p = x.toNat then b else uI (oS A) p) = false
    rw [if_neg (by omega)]; exact hg.2.2.2 p hp
  · rw [if_neg z]; exact h.rf
theorem GI.undo (h : GI A) : GI (sUndo A).2 := by
  unfold sUndo
  cases e : (oL A).getLast? with
  | none => exact h
  | some u =>
    have hu : u ∈ oL A := List.mem_of_getLast? e
    obtain ⟨⟨h1, h2, h3, h4, h5⟩, h6, h7, h8⟩ := h
    have eu : uM u = uM (oS A) := (h2 u hu).2.2.1
    refine ⟨⟨?_, fun v hv => ?_, h3, h4, fun x hx => ?_⟩, h7 u hu, fun v hv => h7 v ((List.dropLast_sublist (oL A)).subset hv), h8⟩
    · show GU (oQ A) (uM u) u; rw [eu]; exact h2 u hu
    · show GU (oQ A) (uM u) v; rw [eu]; exact h2 v ((List.dropLast_sublist (oL A)).subset hv)
    · show GU (oQ A) (uM u) x.1 ∧ (∀ v ∈ x.2.1, GU (oQ A) (uM u) v) ∧ _
      rw [eu]; exact h5 x hx
theorem GI.see {x n m : Int} (h : GI A) : GI (sSee A x n m).2 := by
  unfold sSee
  refine gdPA_I h (fun x0 x1 => ?_)
  by_cases z : (oN A).1 < 8 ∧ 0 ≤ n ∧ n ≤ 20 ∧ 0 ≤ m ∧ m ≤ 999
  · rw [if_pos z]
    obtain ⟨⟨h1, h2, h3, h4, h5⟩, h6⟩ := h
    refine ⟨⟨h1, h2, ⟨?_, fun i hi => ?_⟩, h4, h5⟩, h6⟩
    · show (oN A).1 + 1 ≤ 8; omega
    · have hi : i < (oN A).1 + 1 := hi
      show va_up (oN A).2.1 (oN A).1 x.toNat i < zn (oQ A) ∧ (0 ≤ va_up (oN A).2.2.1 (oN A).1 n i ∧ va_up (oN A).2.2.1 (oN A).1 n i ≤ 20) ∧ 0 ≤ va_up (oN A).2.2.2 (oN A).1 m i ∧ va_up (oN A).2.2.2 (oN A).1 m i ≤ 999
      by_cases y : i = (oN A).1
      · subst y; rw [up_s, up_s, up_s]; omega
      · rw [up_c y, up_c y, up_c y]; exact h3.2 i (by omega)
  · rw [if_neg z]; exact h.rf
theorem GI.forget (h : GI A) : GI (sForget A) := by
  obtain ⟨⟨h1, h2, h3, h4, h5⟩, h6⟩ := h
  exact ⟨⟨h1, h2, ⟨Nat.zero_le _, fun i hi => absurd hi (Nat.not_lt_zero _)⟩, h4, h5⟩, h6⟩
theorem GI.image (h : GI A) : GI (sImage A) := by
  obtain ⟨⟨h1, h2, h3, h4, h5⟩, h6, h7, h8⟩ := h
  refine ⟨⟨h1, h2, h3, h4, fun x hx => ?_⟩, h6, h7, fun x hx => ?_⟩
  · have hx : some (oS A, oL A, oN A, oT A) = some x := hx
    cases hx
    exact ⟨h1, h2, h3, h4⟩
  · have hx : some (oS A, oL A, oN A, oT A) = some x := hx
    cases hx
    exact ⟨h6, h7⟩
theorem GI.restore (h : GI A) : GI (sRestore A).2 := by
  unfold sRestore
  cases e : oM A with
  | none => exact h
  | some x =>
    obtain ⟨⟨h1, h2, h3, h4, h5⟩, h6, h7, h8⟩ := h
    obtain ⟨a1, a2, a3, a4⟩ := h5 x e
    have eu : uM x.1 = uM (oS A) := a1.2.2.1
    refine ⟨⟨?_, fun v hv => ?_, a3, a4, fun y hy => ?_⟩, (h8 x e).1, (h8 x e).2, fun y hy => ?_⟩
    · show GU (oQ A) (uM x.1) x.1; rw [eu]; exact a1
    · show GU (oQ A) (uM x.1) v; rw [eu]; exact a2 v hv
    · have hy : some x = some y := hy
      cases hy
      show GU (oQ A) (uM x.1) x.1 ∧ (∀ v ∈ x.2.1, GU (oQ A) (uM x.1) v) ∧ _
      rw [eu]; exact ⟨a1, a2, a3, a4⟩
    · have hy : some x = some y := hy
      cases hy
      exact h8 x e
theorem GI.nw {q : QZ} (h : GI A) (hK : QK q) : GI (nwA A q) := by
  have hg := GS_mk hK
  have k5 := hK.2.2.2.2.1
  have k1 := hK.1
  refine ⟨⟨⟨hg, by show (0 : Int) ≤ 999; decide, rfl, fun _ _ => rfl⟩, fun u hu => (by cases hu), ⟨Nat.zero_le _, fun i hi => absurd hi (Nat.not_lt_zero _)⟩, h.1.2.2.2.1, fun x hx => by cases hx⟩, fun p hp => ?_, fun u hu => (by cases hu), fun x hx => by cases hx⟩
  obtain ⟨a1, a2, a3⟩ := k5 p (by omega)
  exact ⟨a1, rfl, a2, a3⟩
end GIa
