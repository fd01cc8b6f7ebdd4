/-! what a world is in the heap; what every method is given of its start -/
abbrev PR : Type := (Nat × Nat × Nat × (Nat → Int)) × ((Nat → Nat) × (Nat → Nat) × Option Nat) × va_G × (Nat → ClassId)
abbrev xB (X : PR) : Nat := X.1.1
abbrev xb (X : PR) : Nat := X.1.2.1
abbrev xL (X : PR) : Nat := X.1.2.2.1
abbrev xS (X : PR) : Nat → Int := X.1.2.2.2
abbrev xK (X : PR) : Nat → Nat := X.2.1.1
abbrev xV (X : PR) : Nat → Nat := X.2.1.2.1
abbrev xF (X : PR) : Option Nat := X.2.1.2.2
abbrev xD (X : PR) : va_G := X.2.2.1
abbrev xY (X : PR) : Nat → ClassId := X.2.2.2
def ad (X : PR) (k : Nat) : Option Nat := if k < STR then some (xB X + k) else if k < BYT then some (xK X (k - STR)) else if k < SCR then some (xV X (k - BYT)) else if k = SCR then some (xb X) else xF X
def cr (X : PR) (r : Option Nat) : Value := va_rf (r.bind (ad X))
def cv (X : PR) : AV → Value
  | .inl x => .int (i32 x)
  | .inr (.inl r) => cr X r
  | .inr (.inr x) => .long (i64 x)
def tysX (X : PR) : List (ClassId × FieldType) := [(xY X 20, .byte), (xY X 21, .int), (xY X 22, .long), (xY X 23, .object "GivenMinutes$State"), (xY X 24, .object "java/lang/String")]
def fV (X : PR) (w : Wd) (a ci j : Nat) : Value := if (fk ci j).1 = 2 then cr X (gR w a j) else .int (i32 (gI w a j))
def ent (X : PR) (w : Wd) (a : Nat) : va_E :=
  if (lay a).1 < 13 then .inr ((lay a).1, (List.range (nF (lay a).1)).map (fV X w a (lay a).1))
  else .inl (xY X (lay a).1, (lay a).2, if (lay a).1 = 22 then .inr (.inl (fun j => i64 (gJ w a j))) else if (lay a).1 = 23 ∨ (lay a).1 = 24 then .inr (.inr (.inr (.inr (fun j => (gR w a j).bind (ad X))))) else .inl (fun j => i32 (gI w a j)))
def wsX (X : PR) (w : Wd) : va_W := (List.range (gN w)).map (fun k => (xB X + k, ent X w k))
abbrev AX (X : PR) : Nat → Prop := fun q => xB X ≤ q
theorem wsX_get {X : PR} {w : Wd} {k : Nat} (h : k < gN w) : (wsX X w)[k]? = some (xB X + k, ent X w k) := by
  simp [wsX, h]
theorem wsX_D {X : PR} {w : Wd} : va_D (AX X) (wsX X w) := by
  refine ⟨fun i j p q hi hj e => ?_, fun k q hk => ?_⟩
  · have h1 : i < gN w := by have := (List.getElem?_eq_some_iff.mp hi).1; simpa [wsX] using this
    have h2 : j < gN w := by have := (List.getElem?_eq_some_iff.mp hj).1; simpa [wsX] using this
    rw [wsX_get h1] at hi; rw [wsX_get h2] at hj
    cases hi; cases hj
    have e2 : xB X + i = xB X + j := e
    omega
  · have h1 : k < gN w := by have := (List.getElem?_eq_some_iff.mp hk).1; simpa [wsX] using this
    rw [wsX_get h1] at hk
    cases hk
    exact Nat.le_add_right _ _
/-- one row changed: the cell at k is another, the others stay -/
theorem wsX_set {X : PR} {w w' : Wd} {k : Nat} (hn : gN w' = gN w) (ho : ∀ j, j ≠ k → ent X w' j = ent X w j) : (wsX X w).set k (xB X + k, ent X w' k) = wsX X w' := by
  refine List.ext_getElem? fun j => ?_
  by_cases hj : j < gN w
  · rw [wsX_get (w := w') (by omega)]
    by_cases e : k = j
    · subst e
      rw [List.getElem?_set_self (by simpa [wsX] using hj)]
    · rw [List.getElem?_set_ne e, wsX_get hj, ho j (fun h => e h.symm)]
  · rw [List.getElem?_eq_none (by simp [wsX]; omega), List.getElem?_eq_none (by simp [wsX]; omega)]
theorem ent_I {X : PR} {w : Wd} {a : Nat} {f : Nat → Int} {j : Nat} (h : j ≠ a) : ent X (sI w a f) j = ent X w j := by
  have e1 : fV X (sI w a f) j = fV X w j := by funext ci k; simp [fV, sI, gI, gR, va_up, h]
  unfold ent
  rw [e1]
  simp [sI, gI, gR, gJ, va_up, h]
theorem ent_R {X : PR} {w : Wd} {a : Nat} {f : Nat → Option Nat} {j : Nat} (h : j ≠ a) : ent X (sR w a f) j = ent X w j := by
  have e1 : fV X (sR w a f) j = fV X w j := by funext ci k; simp [fV, sR, gI, gR, va_up, h]
  unfold ent
  rw [e1]
  simp [sR, gI, gR, gJ, va_up, h]
theorem ent_J {X : PR} {w : Wd} {a : Nat} {f : Nat → Int} {j : Nat} (h : j ≠ a) : ent X (sJ w a f) j = ent X w j := by
  have e1 : fV X (sJ w a f) j = fV X w j := by funext ci k; simp [fV, sJ, gI, gR, va_up, h]
  unfold ent
  rw [e1]
  simp [sJ, gI, gR, gJ, va_up, h]
def okI (x : Int) : Prop := -2147483648 ≤ x ∧ x < 2147483648
def okJ (x : Int) : Prop := -9223372036854775808 ≤ x ∧ x < 9223372036854775808
def okR (w : Wd) (r : Nat) : Prop := r < gN w ∨ STR ≤ r
def okV (w : Wd) : AV → Prop
  | .inl x => okI x
  | .inr (.inl r) => ∀ k, r = some k → okR w k
  | .inr (.inr x) => okJ x
def okW (X : PR) (w : Wd) : Prop := (∀ a i, okI (gI w a i)) ∧ (∀ a i, okJ (gJ w a i)) ∧ (∀ a i k, gR w a i = some k → okR w k) ∧ gN w ≤ layL.length ∧ gL w = xL X ∧ gX w = xS X ∧ (∀ i, okI (xS X i)) ∧ okI ((xL X : Nat) : Int)
/-- the world lies in the heap -/
def Pic (X : PR) (w : Wd) (H : Heap) : Prop := va_P (xD X) vwCl (wsX X w) H ∧ okW X w
def nJ : Nat := 23
def lenJ : List Nat := (List.range nJ).map (fun i => (txB i).length)
def bytJ : List (List Int32) := (List.range nJ).map (fun i => (txB i).map i32)
/-- what every method is given of its start -/
def EnvX (X : PR) (U : State) : Prop :=
  va_K (xD X) vwCl (tysX X) U ∧ (∀ w ∈ lw_tbl, isNW w = true → va_Nw w U) ∧ va_X (xb X) (xL X) (fun j => i32 (xS X j)) U U.heap ∧ vk_S nJ lenJ bytJ (xK X) (xV X) (AX X) U U.heap ∧
  va_Z "java/lang/String" "COMPACT_STRINGS" "Z" (.int 1) (AX X) U U.heap ∧ va_Z "jdk/internal/util/Preconditions" "SIOOBE_FORMATTER" "Ljava/util/function/BiFunction;" (va_rf (xF X)) (AX X) U U.heap ∧
  vx_Zq Bundle.tN "UNASSIGNED_STACK" Bundle.steD (AX X) U U.heap ∧ (vx_Zq Bundle.tN "SUPPRESSED_SENTINEL" Bundle.listD (AX X) U U.heap ∧ va_Nc "java/lang/IllegalArgumentException" "java/util/NoSuchElementException" U) ∧
  (∀ ow e, e ∈ kS.getD ow [] → vk_R (ownN ow) e.1 (txL.getD e.2.1 "") (xK X e.2.1) U) ∧ va_AO "GivenMinutes$State" U ∧ va_AO "java/lang/String" U ∧ xb X < xB X ∧ xb X < U.heap.size
theorem nw_warm {w : Jvm.Cond} (hw : isNW w = true) {s U : State} (hW : s.WarmedH U.vm) (h : va_Nw w s) : va_Nw w U := by
  cases w <;> first | exact va_Nw.warmF hW h | exact va_Nw.warmM hW h | exact va_Nw.warmC hW h | exact va_Nw.warmD hW h | cases hw
theorem nw_same {w : Jvm.Cond} (hw : isNW w = true) {u U : State} (hv : u.vm = U.vm) (h : va_Nw w u) : va_Nw w U := by
  cases w <;> first | exact va_Nw.same rfl hv h | cases hw
theorem EnvX.calling {X : PR} {U : State} {g : JFrame} {mk : MethodId} {a : Array Value} (h : EnvX X U) : EnvX X (U.calling g mk a) := by
  obtain ⟨h1, h2, h3, h4, h5, h6, h7, h8, h9, h10, h11, h12, h13⟩ := h
  have hv : U.vm.Alike (U.calling g mk a).vm := Vm.Alike.refl U.vm
  exact ⟨va_K.moved hv h1, fun w hw hn => nw_same (u := U) hn rfl (h2 w hw hn), va_X.moved hv h3, vk_S.moved hv h4, va_Z.moved hv h5, va_Z.moved hv h6, vx_Zq.moved hv h7, ⟨vx_Zq.moved hv h8.1, va_Nc.moved hv h8.2⟩, fun ow e he => vk_R.same rfl (h9 ow e he), va_AO.moved hv h10, va_AO.moved hv h11, h12, h13⟩
theorem EnvX.step {X : PR} {s U : State} {H : Heap} {locs : List Loc} (h : EnvX X s) (hS : va_S (AX X) s.heap H locs) (hU : U.heap = H) (hW : s.WarmedH U.vm) : EnvX X U := by
  obtain ⟨h1, h2, h3, h4, h5, h6, h7, h8, h9, h10, h11, h12, h13⟩ := h
  have hv : s.vm.Alike U.vm := hW.alike
  subst hU
  exact ⟨va_K.moved hv h1, fun w hw hn => nw_warm hn hW (h2 w hw hn), va_X.moved hv (h3.kept (hS.2.1 _ h13 (Nat.not_le.mpr h12))), vk_S.moved hv (h4.kept hS.2.1), va_Z.moved hv (h5.kept hS.2.1), va_Z.moved hv (h6.kept hS.2.1), vx_Zq.moved hv (h7.kept hS.2.1), ⟨vx_Zq.moved hv (h8.1.kept hS.2.1), va_Nc.moved hv h8.2⟩, fun ow e he => vk_R.warm hW (h9 ow e he), va_AO.moved hv h10, va_AO.moved hv h11, h12, Nat.lt_of_lt_of_le h13 hS.1⟩
/-- the locals of a frame hold what ours say -/
def FR (X : PR) (ls : Array Slot) (nL : Nat) (L : List (Option AV)) : Prop := ls.size = nL ∧ L.length = nL ∧ lv_wf ls ∧ ∀ (i : Nat) (v : AV), L[i]? = some (some v) → ls[i]? = some (Slot.val (cv X v))
def asL (X : PR) (L : List (Option AV)) : List (Nat × Value) := (List.range L.length).filterMap (fun i => match L[i]? with | some (some v) => some (i, cv X v) | _ => none)
theorem asL_mem {X : PR} {L : List (Option AV)} {i : Nat} {u : Value} : (i, u) ∈ asL X L ↔ ∃ v, L[i]? = some (some v) ∧ u = cv X v := by
  simp only [asL, List.mem_filterMap, List.mem_range]
  constructor
  · rintro ⟨j, hj, h⟩
    split at h
    · rename_i v hv
      cases h
      exact ⟨v, hv, rfl⟩
    · cases h
  · rintro ⟨v, hv, rfl⟩
    exact ⟨i, (List.getElem?_eq_some_iff.mp hv).1, by rw [hv]⟩
theorem FR.has {X : PR} {ls : Array Slot} {nL : Nat} {L : List (Option AV)} (h : FR X ls nL L) : lv_has ls nL (asL X L) := by
  refine ⟨h.1, h.2.2.1, fun q hq => ?_⟩
  obtain ⟨i, u⟩ := q
  obtain ⟨v, hv, rfl⟩ := asL_mem.mp hq
  exact h.2.2.2 i v hv
theorem cv_cat {X : PR} (v : AV) : (cv X v).category = if isL v then 2 else 1 := by
  rcases v with x | r | x
  · rfl
  · cases h : r.bind (ad X) <;> simp [cv, cr, va_rf, h, Value.category, isL]
  · rfl
theorem stL_get {L : List (Option AV)} {i j : Nat} {v : Option AV} {u : AV} (h : (stL L i v)[j]? = some (some u)) : (j = i ∧ v = some u) ∨ (j ≠ i ∧ L[j]? = some (some u) ∧ ¬ (j + 1 = i ∧ isL u = true)) := by
  unfold stL at h
  by_cases e : j = i
  · subst e
    refine Or.inl ⟨rfl, ?_⟩
    rw [List.getElem?_set] at h
    simp at h
    exact h.2
  · refine Or.inr ⟨e, ?_⟩
    rw [List.getElem?_set_ne (fun q => e q.symm)] at h
    cases i with
    | zero => exact ⟨h, fun q => by omega⟩
    | succ k =>
      simp only [] at h
      split at h
      · rename_i x hx
        by_cases e2 : j = k
        · subst e2
          rw [List.getElem?_set_self (by have := (List.getElem?_eq_some_iff.mp hx).1; omega)] at h
          cases h
        · rw [List.getElem?_set_ne (fun q => e2 q.symm)] at h
          exact ⟨h, fun q => by omega⟩
      · rename_i hx
        refine ⟨h, fun q => ?_⟩
        have e3 : j = k := by omega
        subst e3
        rcases u with x | r | x
        · cases q.2
        · cases q.2
        · exact hx x h
theorem stL_len {L : List (Option AV)} {i : Nat} {v : Option AV} : (stL L i v).length = L.length := by
  unfold stL
  cases i with
  | zero => simp
  | succ k => simp only []; split <;> simp
/-- behind a store of one slot -/
theorem FR.of1 {X : PR} {ls : Array Slot} {nL : Nat} {L : List (Option AV)} {i : Nat} {v : AV} (hn : L.length = nL) (h : lv_has ls nL ((i, cv X v) :: (asL X L).filter (fun q => !(q.1 == i) && !(q.1 + 1 == i && q.2.category == 2)))) : FR X ls nL (stL L i (some v)) := by
  refine ⟨h.1, by rw [stL_len]; exact hn, h.2.1, fun j u hj => ?_⟩
  rcases stL_get hj with ⟨rfl, e⟩ | ⟨e, h2, h3⟩
  · cases e
    exact h.2.2 (j, cv X v) List.mem_cons_self
  · refine h.2.2 (j, cv X u) (List.mem_cons_of_mem _ (List.mem_filter.mpr ⟨asL_mem.mpr ⟨u, h2, rfl⟩, ?_⟩))
    have e5 : (cv X u).category = if isL u then 2 else 1 := cv_cat u
    cases hu : isL u
    · rw [hu] at e5
      simp [e, e5]
    · have e4 : ¬ j + 1 = i := fun q => h3 ⟨q, hu⟩
      simp [e, e4]
theorem FR.weak {X : PR} {ls : Array Slot} {nL : Nat} {L L' : List (Option AV)} (h : FR X ls nL L) (hl : L'.length = L.length) (hw : ∀ (i : Nat) (v : AV), L'[i]? = some (some v) → L[i]? = some (some v)) : FR X ls nL L' :=
  ⟨h.1, hl.trans h.2.1, h.2.2.1, fun i v hv => h.2.2.2 i v (hw i v hv)⟩
