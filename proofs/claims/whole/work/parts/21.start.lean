/-! the start: what the law is given stands for the evaluator's empty world -/
def fN : List Jvm.Cond := flatC (Jvm.Cond.and given_1 narrow_1)
def tmL : List (Nat × Nat) := [(11, 102), (9, 62), (9, 54), (11, 381), (11, 378), (11, 383), (11, 334), (12, 11), (12, 13), (12, 19), (12, 21), (12, 23), (12, 25), (12, 27), (12, 32), (12, 34), (12, 281), (12, 283), (12, 285), (12, 287), (12, 260), (12, 268), (12, 273)]
def tmT (i : Nat) : Jvm.Term := .string (ownN (tmL.getD i (0, 0)).1) (tmL.getD i (0, 0)).2
def blk (i : Nat) : List Jvm.Cond := [.exactly (tmT i) "java/lang/String", .eq (.field (tmT i) "java/lang/String" "coder" "B") (.int 0), .arrayOf (.field (tmT i) "java/lang/String" "value" "[B") .byte, .eq (.length (.field (tmT i) "java/lang/String" "value" "[B")) (.int (Int32.ofNat (lenJ.getD i 0)))] ++
  ((List.range (lenJ.getD i 0)).map (fun j => Jvm.Cond.eq (.elem (.field (tmT i) "java/lang/String" "value" "[B") (.int (Int32.ofNat j))) (.int ((bytJ.getD i []).getD j 0))) ++ (List.range i).map (fun j => Jvm.Cond.not (Jvm.Cond.eq (tmT j) (tmT i))))
def blks : List Jvm.Cond := (List.range 23).flatMap blk
set_option maxRecDepth 100000 in
theorem fN_blks : fN.drop 39 = blks := by decide +kernel
theorem blk_in {i : Nat} (hi : i < 23) {w : Jvm.Cond} (h : w ∈ blk i) : w ∈ fN := by
  have h1 : w ∈ blks := List.mem_flatMap.mpr ⟨i, List.mem_range.mpr hi, h⟩
  rw [← fN_blks] at h1
  exact List.mem_of_mem_drop h1
theorem lenJ_lt : ∀ i, i < 23 → lenJ.getD i 0 < 2147483648 := by decide +kernel
def kSOK (ow : Nat) (e : Nat × Nat × Nat) : Bool := decide (e.2.1 < 23) && decide (tmL.getD e.2.1 (0, 0) = (ow, e.1)) && decide (Jvm.Cond.stringRef (ownN ow) e.1 (txL.getD e.2.1 "") ∈ lw_tbl)
set_option maxRecDepth 100000 in
theorem kSOK_all : allT kS kSOK = true := by decide +kernel
set_option maxRecDepth 100000 in
theorem instOK : (List.range 13).all (fun ci => decide (Jvm.Cond.instantiable (ownN ci) (nF ci) ∈ lw_tbl)) = true := by decide +kernel
set_option maxRecDepth 100000 in
theorem stW1 : ([Jvm.Cond.arrayClass .byte, .arrayClass .int, .arrayClass .long, .arrayOver (.object "GivenMinutes$State"), .arrayOver (.object "java/lang/String"), .laysStatic "java/lang/String" "COMPACT_STRINGS" "Z", .initialized "java/lang/String", .laysStatic "jdk/internal/util/Preconditions" "SIOOBE_FORMATTER" "Ljava/util/function/BiFunction;", .initialized "jdk/internal/util/Preconditions", .laysStatic Bundle.tN "UNASSIGNED_STACK" Bundle.steD, .laysStatic Bundle.tN "SUPPRESSED_SENTINEL" Bundle.listD, .initialized Bundle.tN] : List Jvm.Cond).all (fun w => decide (w ∈ lw_tbl)) = true := by decide +kernel
set_option maxRecDepth 100000 in
theorem stW2 : ([Jvm.Cond.eq (.static "java/lang/String" "COMPACT_STRINGS" "Z") (.int 1), .isRef (.static "jdk/internal/util/Preconditions" "SIOOBE_FORMATTER" "Ljava/util/function/BiFunction;"), .isRef (.static Bundle.tN "UNASSIGNED_STACK" Bundle.steD), .isRef (.static Bundle.tN "SUPPRESSED_SENTINEL" Bundle.listD), .not (.castable "java/lang/IllegalArgumentException" "java/util/NoSuchElementException")] : List Jvm.Cond).all (fun w => decide (w ∈ fN)) = true := by decide +kernel
/-- the empty world, over a script -/
def w00 (L : Nat) (f : Nat → Int) : Wd := (fun _ _ => 0, fun _ _ => none, fun _ _ => 0, 0, 0, L, f)
def lawVal (L : Nat) (f : Nat → Int) : Prop := ∃ w', val 327 72 (0, entL 327 [.inr (.inl (some SCR))], [], w00 L f) = some (.inl (some (.inl 1)), w') ∧ cnt w' ≤ 601024 ∧ slt w' ≤ 7293034
theorem arrT {s : State} {ty : FieldType} {args : Array Value} (h : (Jvm.Cond.arrayClass ty).before args s = true) : ∃ cA, ArrOfT s cA ty ∧ s.vm.findClass ("[" ++ ty.toString) = some cA := by
  obtain ⟨cA, kA, comp, h1, h2, h3⟩ := Cond.arrayClass_spec h
  exact ⟨cA, fun n z => ⟨fun k h => (by cases h), kA, h2, comp, h3⟩, h1⟩
theorem arrO {s : State} {C : String} {args : Array Value} (h : (Jvm.Cond.arrayOver (.object C)).before args s = true) : ∃ cA, ArrOfT s cA (.object C) ∧ va_RA s cA (.object C) := by
  obtain ⟨comp, cA, kA, h1, h2, h3, h4, h5⟩ := Cond.arrayOver_spec h
  exact ⟨cA, fun n z => ⟨fun k h => (by cases h), kA, h3, comp, h4⟩, kA, comp, h3, h4, h1, h5⟩
set_option maxHeartbeats 4000000 in
theorem env0 {p : Program} {s : State} {m : MethodId} {meth : Method} {c : Code} {b L : Nat} {xs : Nat → Int32} (C0 : lw_At p s m meth c b L xs) :
    ∃ X : PR, xB X = s.heap.size ∧ xb X = b ∧ xL X = L ∧ xS X = (fun j => (xs j).toInt) ∧ EnvX X s := by
  obtain ⟨hx, hcode, hret, hml, hown, hts, hX, hb, hlk, hgv, hmn, htb⟩ := C0
  have hs : ∀ w ∈ fN, w.before #[Value.ref b] s = true := flat_of_before _ hgv
  have w1 : ∀ w ∈ ([Jvm.Cond.arrayClass .byte, .arrayClass .int, .arrayClass .long, .arrayOver (.object "GivenMinutes$State"), .arrayOver (.object "java/lang/String"), .laysStatic "java/lang/String" "COMPACT_STRINGS" "Z", .initialized "java/lang/String", .laysStatic "jdk/internal/util/Preconditions" "SIOOBE_FORMATTER" "Ljava/util/function/BiFunction;", .initialized "jdk/internal/util/Preconditions", .laysStatic Bundle.tN "UNASSIGNED_STACK" Bundle.steD, .laysStatic Bundle.tN "SUPPRESSED_SENTINEL" Bundle.listD, .initialized Bundle.tN] : List Jvm.Cond), w.before #[Value.ref b] s = true := fun w hw => hts w (of_decide_eq_true (List.all_eq_true.mp stW1 w hw))
  have w2 : ∀ w ∈ ([Jvm.Cond.eq (.static "java/lang/String" "COMPACT_STRINGS" "Z") (.int 1), .isRef (.static "jdk/internal/util/Preconditions" "SIOOBE_FORMATTER" "Ljava/util/function/BiFunction;"), .isRef (.static Bundle.tN "UNASSIGNED_STACK" Bundle.steD), .isRef (.static Bundle.tN "SUPPRESSED_SENTINEL" Bundle.listD), .not (.castable "java/lang/IllegalArgumentException" "java/util/NoSuchElementException")] : List Jvm.Cond), w.before #[Value.ref b] s = true := fun w hw => hs w (of_decide_eq_true (List.all_eq_true.mp stW2 w hw))
  have hA : ∀ a : Nat, a < s.heap.size → ¬ (s.heap.size ≤ a) := fun a h q => absurd q (Nat.not_le.mpr h)
  have tk' : ∀ i, i < 23 → Jvm.Cond.exactly (tmT i) "java/lang/String" ∈ fN ∧ Jvm.Cond.eq (.field (tmT i) "java/lang/String" "coder" "B") (.int 0) ∈ fN ∧ Jvm.Cond.arrayOf (.field (tmT i) "java/lang/String" "value" "[B") .byte ∈ fN ∧
      Jvm.Cond.eq (.length (.field (tmT i) "java/lang/String" "value" "[B")) (.int (Int32.ofNat (lenJ.getD i 0))) ∈ fN ∧ (∀ j, j < lenJ.getD i 0 → Jvm.Cond.eq (.elem (.field (tmT i) "java/lang/String" "value" "[B") (.int (Int32.ofNat j))) (.int ((bytJ.getD i []).getD j 0)) ∈ fN) ∧ lenJ.getD i 0 < 2 ^ 31 := by
    intro i hi
    refine ⟨blk_in hi ?_, blk_in hi ?_, blk_in hi ?_, blk_in hi ?_, fun j hj => blk_in hi ?_, lenJ_lt i hi⟩
    · exact List.mem_append_left _ (by simp)
    · exact List.mem_append_left _ (by simp)
    · exact List.mem_append_left _ (by simp)
    · exact List.mem_append_left _ (by simp)
    · exact List.mem_append_right _ (List.mem_append_left _ (List.mem_map.mpr ⟨j, List.mem_range.mpr hj, rfl⟩))
  have tne : ∀ i j, j < i → i < 23 → Jvm.Cond.not (Jvm.Cond.eq (tmT j) (tmT i)) ∈ fN := fun i j hji hi => blk_in hi (List.mem_append_right _ (List.mem_append_right _ (List.mem_map.mpr ⟨j, List.mem_range.mpr hji, rfl⟩)))
  obtain ⟨adK, adV, hVS, hEv⟩ := vk_Sof (args := #[Value.ref b]) (s := s) (N := 23) (tm := tmT) (len := lenJ) (byt := bytJ) (A := fun q => s.heap.size ≤ q) (fun i hi => (tk' i hi).2.2.2.2.2) (fun i hi => hs _ (tk' i hi).1) (fun i hi => hs _ (tk' i hi).2.1) (fun i hi => hs _ (tk' i hi).2.2.1) (fun i hi => hs _ (tk' i hi).2.2.2.1) (fun i hi j hj => hs _ ((tk' i hi).2.2.2.2.1 j hj))
    (fun i j hi hj hne => by
      rcases Nat.lt_or_gt_of_ne hne with q | q
      · exact Or.inl (hs _ (tne j i q hj))
      · exact Or.inr (hs _ (tne i j q hi))) hA
  have hcl : ∀ ci, ∃ q : ClassId × (Nat → Nat), ci < 13 → u_Kn s (ownN ci) (TT ci) (nF ci) q.1 q.2 := by
    intro ci
    by_cases hci : ci < 13
    · obtain ⟨C, T, N, ty, k1, k2, k3, k4, k5, k6, k7, k8⟩ := clsOK ci hci
      obtain ⟨cC, iS, h⟩ := u_known (n := nF ci) hts (fun w hw => (List.mem_filter.mp (k5 w hw)).1) (C := C) (T := T) (N := N) (by rw [k2]; exact hts _ (of_decide_eq_true (List.all_eq_true.mp instOK ci (List.mem_range.mpr hci))))
      rw [k2, k3, k4] at h
      exact ⟨(cC, iS), fun _ => h⟩
    · exact ⟨(0, fun _ => 0), fun q => absurd q hci⟩
  obtain ⟨c20, a20, r20⟩ := arrT (w1 (.arrayClass .byte) (by simp))
  obtain ⟨c21, a21, r21⟩ := arrT (w1 (.arrayClass .int) (by simp))
  obtain ⟨c22, a22, r22⟩ := arrT (w1 (.arrayClass .long) (by simp))
  obtain ⟨c23, a23, r23⟩ := arrO (w1 (.arrayOver (.object "GivenMinutes$State")) (by simp))
  obtain ⟨c24, a24, r24⟩ := arrO (w1 (.arrayOver (.object "java/lang/String")) (by simp))
  obtain ⟨F, hF⟩ : ∃ F : Option Nat, va_Z "jdk/internal/util/Preconditions" "SIOOBE_FORMATTER" "Ljava/util/function/BiFunction;" (va_rf F) (fun q => s.heap.size ≤ q) s s.heap := by
    rcases va_Zqof (A := fun q => s.heap.size ≤ q) (w1 (.laysStatic "jdk/internal/util/Preconditions" "SIOOBE_FORMATTER" "Ljava/util/function/BiFunction;") (by simp)) (w1 (.initialized "jdk/internal/util/Preconditions") (by simp)) (w2 (.isRef (.static "jdk/internal/util/Preconditions" "SIOOBE_FORMATTER" "Ljava/util/function/BiFunction;")) (by simp)) hA with h | ⟨t, h⟩
    · exact ⟨none, h⟩
    · exact ⟨some t, h⟩
  refine ⟨((s.heap.size, b, L, fun j => (xs j).toInt), (adK, adV, F), (fun ci => (Classical.choose (hcl ci)).1, fun ci => (Classical.choose (hcl ci)).2), fun k => if k = 20 then c20 else if k = 21 then c21 else if k = 22 then c22 else if k = 23 then c23 else c24), rfl, rfl, rfl, rfl, ?_⟩
  refine ⟨⟨fun ci q hq => ?_, fun k q hk => ?_⟩, fun w hw hn => va_Nw.of (by cases w <;> first | rfl | cases hn) (hts w hw), ?_, hVS, ?_, hF, vx_Zqof (w1 (.laysStatic Bundle.tN "UNASSIGNED_STACK" Bundle.steD) (by simp)) (w1 (.initialized Bundle.tN) (by simp)) (w2 (.isRef (.static Bundle.tN "UNASSIGNED_STACK" Bundle.steD)) (by simp)) hA, ⟨vx_Zqof (w1 (.laysStatic Bundle.tN "SUPPRESSED_SENTINEL" Bundle.listD) (by simp)) (w1 (.initialized Bundle.tN) (by simp)) (w2 (.isRef (.static Bundle.tN "SUPPRESSED_SENTINEL" Bundle.listD)) (by simp)) hA, va_Nc.of (w2 (.not (.castable "java/lang/IllegalArgumentException" "java/util/NoSuchElementException")) (by simp))⟩, ?_, va_AO.of (w1 (.arrayOver (.object "GivenMinutes$State")) (by simp)), va_AO.of (w1 (.arrayOver (.object "java/lang/String")) (by simp)), hb, hb⟩
  · have hci : ci < 13 := by
      have := (List.getElem?_eq_some_iff.mp hq).1
      have e : vwCl.length = 13 := by decide +kernel
      omega
    obtain ⟨C, T, N, ty, k1, k2, k3, k4, -⟩ := clsOK ci hci
    cases k1.symm.trans hq
    show u_Kn s C T N _ _
    rw [k2, k3, k4]
    exact Classical.choose_spec (hcl ci) hci
  · match k, hk with
    | 0, hk => cases hk; exact ⟨a20, r20⟩
    | 1, hk => cases hk; exact ⟨a21, r21⟩
    | 2, hk => cases hk; exact ⟨a22, r22⟩
    | 3, hk => cases hk; exact ⟨a23, r23⟩
    | 4, hk => cases hk; exact ⟨a24, r24⟩
    | k + 5, hk => cases hk
  · have e : (fun j => i32 ((fun j => (xs j).toInt) j)) = xs := by funext j; exact i32_t _
    show va_X b L (fun j => i32 ((fun j => (xs j).toInt) j)) s s.heap
    rw [e]
    exact hX
  · exact va_Zof (w1 (.laysStatic "java/lang/String" "COMPACT_STRINGS" "Z") (by simp)) (w1 (.initialized "java/lang/String") (by simp)) (va_eqi (w2 (.eq (.static "java/lang/String" "COMPACT_STRINGS" "Z") (.int 1)) (by simp))) hA
  · intro ow e9 he9
    have h := allT_of kSOK_all he9
    simp only [kSOK, Bool.and_eq_true, decide_eq_true_eq] at h
    obtain ⟨⟨h1, h2⟩, h3⟩ := h
    refine vk_R.of (hts _ h3) ?_
    have := hEv e9.2.1 h1
    unfold tmT at this
    rw [h2] at this
    exact this
set_option maxHeartbeats 4000000 in
theorem start_of {p : Program} {e : Env} {s : State} {m : MethodId} {below : List Frame} {meth : Method} {c : Code} (l : Launch) (hflags : l.flags = flags0) {b L : Nat} {xs : Nat → Int32} (hL : L ≤ 3072) (C0 : lw_At p s m meth c b L xs) (hv : lawVal L (fun j => (xs j).toInt)) :
    W p l e room_1 s m #[Value.ref b] below meth c s.heap [] 0 0 (lw_Z below #[Value.ref b] s) (entryFrame m ([Value.ref b] : List Value).toArray 7) := by
  obtain ⟨X, x1, x2, x3, x4, hE⟩ := env0 C0
  obtain ⟨hx, hcode, hret, hml, hown, hts, hX, hb, hlk, hgv, hmn, htb⟩ := C0
  obtain ⟨w', hval, hcn, hsl⟩ := hv
  obtain ⟨n, hn⟩ := val_iff.mp hval
  have hl : l.stackTraces = false := by
    unfold Launch.stackTraces
    rw [hflags]
    decide +kernel
  have e1 : ([.inr (.inl (some SCR))] : List AV).map (cv X) = [Value.ref b] := by
    have : ad X SCR = some b := by
      unfold ad
      rw [if_neg (by decide), if_neg (by decide), if_neg (by decide), if_pos rfl, x2]
    simp [cv, cr, va_rf, this]
  have hSt : St X (mL 327) s s.heap [] ((lg_sl (([.inr (.inl (some SCR))] : List AV).map (cv X)) ++ List.replicate (mL 327 - (lg_sl (([.inr (.inl (some SCR))] : List AV).map (cv X))).length) Slot.unset).toArray) (entL 327 [.inr (.inl (some SCR))]) [] (w00 L (fun j => (xs j).toInt)) := by
    have hok : okS (w00 L (fun j => (xs j).toInt)) [.inr (.inl (some SCR))] := fun v hv => by
      have : v = .inr (.inl (some SCR)) := by simpa using hv
      subst this
      intro k hk
      cases hk
      exact Or.inr (by decide)
    refine ⟨⟨Nat.le_refl _, fun _ _ _ => rfl, fun _ h => nomatch h⟩, ⟨fun k q hk => ?_, ?_⟩, entL_FR (by decide), entL_ok X hok, fun _ h => nomatch h⟩
    · have e2 : wsX X (w00 L (fun j => (xs j).toInt)) = [] := rfl
      rw [e2] at hk
      cases hk
    · refine ⟨fun a i => by show -2147483648 ≤ (0 : Int) ∧ (0 : Int) < 2147483648; omega, fun a i => by show -9223372036854775808 ≤ (0 : Int) ∧ (0 : Int) < 9223372036854775808; omega, fun a i k h => (by cases h), Nat.zero_le _, x3.symm, x4.symm, fun i => ?_, ?_⟩
      · rw [x4]
        exact ⟨Int32.le_toInt _, Int32.toInt_lt _⟩
      · rw [x3]; show -2147483648 ≤ ((L : Nat) : Int) ∧ ((L : Nat) : Int) < 2147483648; omega
  have hC : Ctx X l 327 p s m #[Value.ref b] meth c := ⟨hx, hcode, hml, hret, hown, hlk, hmn, htb, fun w hw => hts w (List.mem_filter.mp hw).1, hE, Nat.le_of_eq x1, hl⟩
  have hW := sound n 327 72 0 (entL 327 [.inr (.inl (some SCR))]) [] (w00 L (fun j => (xs j).toInt)) _ hn (by decide) p e room_1 s m #[Value.ref b] below meth c s.heap [] 0 0 601024 7293034 _ hC hSt (fun _ => by rw [x1]; exact Nat.le_refl _) (by decide) (by decide) (Nat.le_refl _) (Nat.le_refl _) (by show 0 + (cnt w' - 0) ≤ 601024; omega) (by show 0 + (slt w' - slt (w00 L (fun j => (xs j).toInt))) ≤ 7293034; omega)
  rw [lg_entry_eq, ← e1]
  intro T hT X0
  rw [e1] at X0
  obtain ⟨t, st, o, h1, h2, h3⟩ := hW T hT X0
  refine ⟨t, st, o, h1, h2, ?_⟩
  rcases h3 with ⟨⟨v, hv1, hv2, -, -⟩, Ls, ⟨hr, hwm, hsame⟩, hLs⟩ | ⟨q, -, E, ce, Ls, ⟨ex, hex, -⟩, -⟩
  · cases hv1
    refine ⟨hv2, hr, hwm, hsame.weaken (fun y hy hlt => ?_) (Nat.le_refl _) (Nat.le_refl _)⟩
    exfalso
    have := hLs y hy
    rw [← x1] at hlt
    exact absurd this (Nat.not_le.mpr hlt)
  · cases hex
