/-! the evaluator is sound: what it answers, the machine does -/
theorem okV_le {w w' : Wd} (h : gN w ≤ gN w') {v : AV} (hv : okV w v) : okV w' v := by
  rcases v with x | r | x
  · exact hv
  · intro k hk
    rcases hv k hk with q | q
    · exact Or.inl (Nat.lt_of_lt_of_le q h)
    · exact Or.inr q
  · exact hv
theorem hndF_some {e pc : Nat} : ∀ (hh : List (Nat × Nat × Nat × Nat)) (h : Nat), hndF e pc hh = some (some h) →
    ∃ pre x suf, hh = pre ++ x :: suf ∧ (x.1 ≤ pc ∧ pc < x.2.1) ∧ x.2.2.1 = h ∧ x.2.2.2 = (if e = 0 then 18 else 13) ∧ ∀ z ∈ pre, ¬ (z.1 ≤ pc ∧ pc < z.2.1) ∨ (e = 1 ∧ z.2.2.2 = 18) := by
  intro hh
  induction hh with
  | nil => intro h hq; cases hq
  | cons q r ih =>
    intro h hq
    obtain ⟨a, b, hp, ct⟩ := q
    unfold hndF at hq
    by_cases hcv : a ≤ pc ∧ pc < b
    · rw [if_pos hcv] at hq
      by_cases hct : ct = (if e = 0 then 18 else 13)
      · rw [if_pos hct] at hq
        cases hq
        exact ⟨[], _, r, rfl, hcv, rfl, hct, fun z hz => (by cases hz)⟩
      · rw [if_neg hct] at hq
        by_cases he : e = 1 ∧ ct = 18
        · rw [if_pos he] at hq
          obtain ⟨pre, x, suf, h1, h2, h3, h4, h5⟩ := ih h hq
          refine ⟨(a, b, hp, ct) :: pre, x, suf, by rw [h1]; rfl, h2, h3, h4, fun z hz => ?_⟩
          rcases List.mem_cons.mp hz with rfl | hz
          · exact Or.inr he
          · exact h5 z hz
        · rw [if_neg he] at hq; cases hq
    · rw [if_neg hcv] at hq
      obtain ⟨pre, x, suf, h1, h2, h3, h4, h5⟩ := ih h hq
      refine ⟨(a, b, hp, ct) :: pre, x, suf, by rw [h1]; rfl, h2, h3, h4, fun z hz => ?_⟩
      rcases List.mem_cons.mp hz with rfl | hz
      · exact Or.inl hcv
      · exact h5 z hz
theorem hndF_none {e pc : Nat} : ∀ (hh : List (Nat × Nat × Nat × Nat)), hndF e pc hh = none → ∀ z ∈ hh, ¬ (z.1 ≤ pc ∧ pc < z.2.1) ∨ (e = 1 ∧ z.2.2.2 = 18) := by
  intro hh
  induction hh with
  | nil => intro _ z hz; cases hz
  | cons q r ih =>
    intro hq z hz
    obtain ⟨a, b, hp, ct⟩ := q
    unfold hndF at hq
    by_cases hcv : a ≤ pc ∧ pc < b
    · rw [if_pos hcv] at hq
      by_cases hct : ct = (if e = 0 then 18 else 13)
      · rw [if_pos hct] at hq
        cases hq
      · rw [if_neg hct] at hq
        by_cases he : e = 1 ∧ ct = 18
        · rw [if_pos he] at hq
          rcases List.mem_cons.mp hz with rfl | hz
          · exact Or.inr he
          · exact ih hq z hz
        · rw [if_neg he] at hq; cases hq
    · rw [if_neg hcv] at hq
      rcases List.mem_cons.mp hz with rfl | hz
      · exact Or.inl hcv
      · exact ih hq z hz
theorem mH_own {mi : Nat} {hh : List (Nat × Nat × Nat × Nat)} (h : mH mi = some hh) : mOwn mi = 13 := by
  unfold mH at h
  cases hf : hhL.find? (fun e => e.1 == mi) with
  | none => rw [hf] at h; cases h
  | some q =>
    have h1 := List.mem_of_find?_eq_some hf
    have h2 : q.1 = mi := by have := List.find?_some hf; simpa using this
    have h3 : hhL.all (fun e => decide (mOwn e.1 = 13)) = true := by decide +kernel
    have h4 := List.all_eq_true.mp h3 q h1
    rw [h2] at h4
    simpa using h4
theorem inGT (w : Cond) (h : (decide (w ∈ lw_tbl) && goodWord w) = true) : w ∈ GT := by
  simp only [Bool.and_eq_true, decide_eq_true_eq] at h
  exact List.mem_filter.mpr h
set_option maxRecDepth 100000 in
theorem gl18 : Jvm.Cond.classLink (ownN 13) 18 "java/util/NoSuchElementException" ∈ GT := inGT _ (by decide +kernel)
set_option maxRecDepth 100000 in
theorem gl13 : Jvm.Cond.classLink (ownN 13) 13 "java/lang/IllegalArgumentException" ∈ GT := inGT _ (by decide +kernel)
set_option maxRecDepth 100000 in
theorem gcN : Jvm.Cond.castable "java/util/NoSuchElementException" "java/util/NoSuchElementException" ∈ lw_tbl := of_decide_eq_true (by decide +kernel)
set_option maxRecDepth 100000 in
theorem gcI : Jvm.Cond.castable "java/lang/IllegalArgumentException" "java/lang/IllegalArgumentException" ∈ lw_tbl := of_decide_eq_true (by decide +kernel)
/-! the arguments as locals -/
theorem slA_len {X : PR} (as : List AV) : (lg_sl (as.map (cv X))).length = (slA as).length := by
  induction as with
  | nil => rfl
  | cons v t ih =>
    have h1 := cv_cat (X := X) v
    simp only [lg_sl, slA, List.map_cons, List.flatMap_cons, List.length_append] at ih ⊢
    rw [ih, h1]
    cases isL v <;> simp
theorem slA_get {X : PR} (as : List AV) : ∀ (i : Nat) (v : AV), (slA as)[i]? = some (some v) → (lg_sl (as.map (cv X)))[i]? = some (Slot.val (cv X v)) ∧ v ∈ as := by
  induction as with
  | nil => intro i v h; simp [slA] at h
  | cons u t ih =>
    intro i v h
    have h1 := cv_cat (X := X) u
    have e1 : slA (u :: t) = (if isL u then [some u, none] else [some u]) ++ slA t := rfl
    have e2 : lg_sl ((u :: t).map (cv X)) = (if (cv X u).category = 2 then [Slot.val (cv X u), Slot.second] else [Slot.val (cv X u)]) ++ lg_sl (t.map (cv X)) := rfl
    rw [e1] at h
    rw [e2, h1]
    cases hu : isL u
    · rw [hu] at h
      simp only [Bool.false_eq_true, if_false, List.cons_append, List.nil_append] at h ⊢
      rw [if_neg (by decide)]
      cases i with
      | zero => simp at h; subst h; simp
      | succ i =>
        simp only [List.getElem?_cons_succ, List.cons_append, List.nil_append] at h ⊢
        have := ih i v h
        exact ⟨this.1, List.mem_cons_of_mem _ this.2⟩
    · rw [hu] at h
      simp only [if_true, List.cons_append, List.nil_append] at h ⊢
      cases i with
      | zero => simp at h; subst h; simp
      | succ i =>
        cases i with
        | zero => simp at h
        | succ i =>
          simp only [List.getElem?_cons_succ] at h ⊢
          have := ih i v h
          exact ⟨this.1, List.mem_cons_of_mem _ this.2⟩
theorem entL_get {mj : Nat} {as : List AV} {i : Nat} {v : AV} (h : (entL mj as)[i]? = some (some v)) : (slA as)[i]? = some (some v) := by
  unfold entL at h
  by_cases hi : i < (slA as).length
  · rwa [List.getElem?_append_left hi] at h
  · rw [List.getElem?_append_right (by omega)] at h
    rw [List.getElem?_replicate] at h
    split at h
    · cases h
    · cases h
theorem entL_FR {X : PR} {mj : Nat} {as : List AV} (h : (slA as).length ≤ mL mj) : FR X ((lg_sl (as.map (cv X)) ++ List.replicate (mL mj - (lg_sl (as.map (cv X))).length) Slot.unset).toArray) (mL mj) (entL mj as) := by
  have h1 := slA_len (X := X) as
  have h2 := lv_entry (as.map (cv X)) (n := mL mj) (by rw [h1]; exact h)
  refine ⟨h2.1, by simp [entL]; omega, h2.2.1, fun i v hi => ?_⟩
  have h3 := slA_get (X := X) as i v (entL_get hi)
  have h4 : i < (lg_sl (as.map (cv X))).length := (List.getElem?_eq_some_iff.mp h3.1).1
  rw [List.getElem?_toArray, List.getElem?_append_left h4]
  exact h3.1
theorem entL_ok {w : Wd} {mj : Nat} {as : List AV} (X : PR) (h : okS w as) : okL w (entL mj as) := fun i v hi => h v (slA_get (X := X) as i v (entL_get hi)).2
def SND (X : PR) (l : Launch) (n : Nat) : Prop := ∀ (mi r pc : Nat) (L : List (Option AV)) (S : List AV) (w : Wd) (o : Out), run n mi r (pc, L, S, w) = some o → r ≤ 1000 →
  ∀ (p : Program) (e : Env) (R : Room) (s : State) (m : MethodId) (args : Array Value) (below : List Frame) (meth : Method) (c : Code) (H : Heap) (locs : List Loc) (cells slots mc ms : Nat) (ls : Array Slot),
    Ctx X l mi p s m args meth c → St X (mL mi) s H locs ls L S w → (gE w = 0 → s.heap.size + cells ≤ xB X + gN w) → r + 10 ≤ R.frames → 60 * r + 200 ≤ R.locals → mc ≤ R.cells → ms ≤ R.slots → cells + (cnt o.2 - cnt w) ≤ mc → slots + (slt o.2 - slt w) ≤ ms →
    W p l e R s m args below meth c H locs cells slots (vx_MQ below (QO X o) (XO X o) args s mc ms (AX X)) (F0 m pc ls (S.map (cv X)))
def rmq (q : Nat) (w : Wd) (o : Out) : Room := { frames := q + 10, locals := 60 * q + 200, cells := cnt o.2 - cnt w, slots := slt o.2 - slt w }
def PcX (X : PR) (as : List AV) (w : Wd) : Array Value → State → Prop := fun a U => a = (as.map (cv X)).toArray ∧ EnvX X U ∧ Pic X w U.heap ∧ xB X ≤ U.heap.size ∧ (gE w = 0 → U.heap.size ≤ xB X + gN w) ∧ okS w as
theorem PcX_blind {X : PR} {as : List AV} {w : Wd} : FrameBlind (PcX X as w) := fun a U g mk h => ⟨h.1, h.2.1.calling, h.2.2.1, h.2.2.2.1, h.2.2.2.2.1, h.2.2.2.2.2⟩
theorem mOK_of {mj : Nat} (h : mj < 327) : codeW mj ∈ GT ∧ Jvm.Cond.initialized (mY mj).cls ∈ GT ∧ plainFor (mY mj) = true ∧ ((mY mj).cls ≠ "java/lang/invoke/MethodHandle" ∧ (mY mj).cls ≠ "java/lang/invoke/VarHandle") ∧ ownN (mOwn mj) = (mY mj).cls ∧ mL mj ≤ 12 := by
  have := mOK_all mj h
  simp only [mOKb, Bool.and_eq_true, decide_eq_true_eq] at this
  obtain ⟨⟨⟨⟨⟨⟨⟨h1, h2⟩, h3⟩, h4⟩, h5⟩, h6⟩, h7⟩, h8⟩ := this
  exact ⟨gAt_in h1, gAt_in h2, h3, ⟨h4, h5⟩, h6, h7⟩
theorem crk_len {mj r : Nat} {as : List AV} (h : crk mj as < r) (hr : r ≤ 1000) : (slA as).length ≤ mL mj := by
  unfold crk at h
  split at h
  · assumption
  · omega
theorem met_of {X : PR} {l : Launch} {n mj : Nat} {as : List AV} {w : Wd} {o : Out} (hS : SND X l n) (hl : l.stackTraces = false) (hj : mj < 327) (hlen : (slA as).length ≤ mL mj) (hr : crk mj as ≤ 1000) (hrun : run n mj (crk mj as) (0, entL mj as, [], w) = some o) :
    vx_Met l (mY mj) (codeW mj :: GT) (rmq (crk mj as) w o) (PcX X as w) (QO X o) (XO X o) (cnt o.2 - cnt w) (slt o.2 - slt w) (AX X) := by
  obtain ⟨hcg, hini, hpf, hmh, hown, hmL⟩ := mOK_of hj
  unfold vx_Met
  refine MetFree.of_bodySF (code := mB mj) (maxLocals := mL mj) (ret := retT (mRc mj)) hpf ?_ ?_
  · intro args s m h hn
    have hcw : (codeW mj).before args s = true := atoms_spec (ws := codeW mj :: GT) h _ List.mem_cons_self
    unfold codeW at hcw
    split at hcw
    · obtain ⟨meth, c, h1, h2, h3, h4, h5, h6, -, -⟩ := Cond.code_spec hn hcw
      exact ⟨meth, c, h1, h2, h3, h4, h5, h6⟩
    · obtain ⟨m9, meth, c, hn9, h1, h2, h3, h4, -, h5, h6, -⟩ := Cond.codeWith_spec hcw
      cases hn.symm.trans hn9
      exact ⟨meth, c, h1, h2, h3, h4, h5, h6⟩
  · intro p e s m args below meth c s₁ B hml hP _
    obtain ⟨ha, hE, hPic, hB, hsz, hoS⟩ := hP
    subst ha
    have hh0 : s₁.heap = s.heap := by rw [B.state]; rfl
    have hpre : ∀ w9 ∈ codeW mj :: GT, w9.before (as.map (cv X)).toArray s = true := atoms_spec (ws := codeW mj :: GT) B.pre
    have hcw := hpre _ List.mem_cons_self
    have htab : c.exceptionTable.toList = (match mH mj with | none => [] | some hh => tableOf hh) := by
      unfold codeW at hcw
      cases hm : mH mj with
      | none =>
        rw [hm] at hcw
        obtain ⟨meth9, c9, h1, h2, -, -, -, -, h7, -⟩ := Cond.code_spec B.named hcw
        cases Option.some.inj (h1.symm.trans B.method)
        cases Option.some.inj (h2.symm.trans (Stand.of_body B).code)
        rw [Array.isEmpty_iff.mp h7]
      | some hh =>
        rw [hm] at hcw
        exact vx_table (x := mY mj) B hcw
    have hcls : s.vm.findClass (ownN (mOwn mj)) = some m.cls := by rw [hown]; exact findClass_of_methodNamed B.named
    have hC : Ctx X l mj p s m (as.map (cv X)).toArray meth c := ⟨B.exec, B.bytes, hml, B.returns, hcls, B.notSynchronized, (name_of_methodNamed B.named B.method).1, htab, fun w9 h9 => hpre w9 (List.mem_cons_of_mem _ h9), hE, hB, hl⟩
    have hSt : St X (mL mj) s s.heap [] ((lg_sl (as.map (cv X)) ++ List.replicate (mL mj - (lg_sl (as.map (cv X))).length) Slot.unset).toArray) (entL mj as) [] w :=
      ⟨⟨Nat.le_refl _, fun _ _ _ => rfl, fun _ h => nomatch h⟩, hPic, entL_FR hlen, entL_ok X hoS, fun _ h => nomatch h⟩
    have hW : W p l e (headSpec (codeW mj :: GT) (rmq (crk mj as) w o)).room s m (as.map (cv X)).toArray below meth c s.heap [] 0 0 (vx_MQ below (QO X o) (XO X o) (as.map (cv X)).toArray s (cnt o.2 - cnt w) (slt o.2 - slt w) (AX X)) (entryFrame m (as.map (cv X)).toArray (mL mj)) := by
      rw [lg_entry_eq]
      exact hS mj (crk mj as) 0 (entL mj as) [] w o hrun hr p e _ s m _ below meth c s.heap [] 0 0 _ _ _ hC hSt (fun q => by have := hsz q; omega) (Nat.le_refl _) (Nat.le_refl _) (Nat.le_refl _) (Nat.le_refl _) (by omega) (by omega)
    obtain ⟨t, a1, o9, b1, b2, b3⟩ := hW s₁ hh0 (Stand.of_body B)
    exact ⟨t, o9, a1, b1, b2, b3⟩
theorem exCall_call {mi ix len pc mj : Nat} {ks : List Nat} {L : List (Option AV)} {S as : List AV} {w : Wd} {c' : Cfg} (h : exCall mi ix len pc L S w ks = some (.inr (.inl (mj, as, c')))) :
    ∃ kind n i1 i2 i3 S', cres (mOwn mi) ix = some (ix, kind, mj, n, i1, i2, i3) ∧ ks.contains kind = true ∧ kind ≠ 7 ∧ kind ≠ 8 ∧ wd S' ≤ 8 ∧ c' = (pc + len, L, S', w) ∧
      (((kind = 1 ∨ kind = 4 ∨ kind = 6) ∧ S = as.reverse ++ S' ∧ as.length = n) ∨ (¬ (kind = 1 ∨ kind = 4 ∨ kind = 6) ∧ ∃ b as', as = .inr (.inl (some b)) :: as' ∧ S = as'.reverse ++ .inr (.inl (some b)) :: S' ∧ as'.length = n ∧ (if kind = 9 then STR ≤ b ∧ b < STR + txL.length else (lay b).1 = mOwn mj))) := by
  unfold exCall at h
  split at h
  · cases h
  · rename_i ix' kind mj' n i1 i2 i3 hcr
    have hix := (cres_some hcr).2
    simp only [] at hix
    subst hix
    split at h
    · cases h
    · rename_i hks
      split at h
      · split at h
        · split at h <;> cases h
        · cases h
      · rename_i h7
        split at h
        · split at h
          · split at h <;> cases h
          · cases h
        · rename_i h8
          split at h
          · rename_i hk
            split at h
            · rename_i hq
              cases h
              refine ⟨kind, n, i1, i2, i3, _, hcr, by simpa using hks, h7, h8, hq.2, rfl, Or.inl ⟨hk, ?_, ?_⟩⟩
              · rw [List.reverse_reverse, List.take_append_drop]
              · rw [List.length_reverse, List.length_take]; omega
            · cases h
          · rename_i hk
            split at h
            · rename_i b S' hdr
              obtain ⟨hq, h⟩ := Option.ite_none_right_eq_some.mp h
              cases h
              refine ⟨kind, n, i1, i2, i3, _, hcr, by simpa using hks, h7, h8, hq.2.1, rfl, Or.inr ⟨hk, _, _, rfl, ?_, ?_, hq.2.2⟩⟩
              · rw [List.reverse_reverse, ← hdr, List.take_append_drop]
              · rw [List.length_reverse, List.length_take]; omega
            · cases h
theorem exec1_call {mi len pc mj : Nat} {i : Instr} {L : List (Option AV)} {S as : List AV} {w : Wd} {c' : Cfg} (he : exec1 mi i len pc L S w = some (.inr (.inl (mj, as, c')))) :
    len = 3 ∧ ∃ ix, (i = .invokevirtual ix ∧ exCall mi ix 3 pc L S w [0, 3, 9] = some (.inr (.inl (mj, as, c')))) ∨ (i = .invokespecial ix ∧ exCall mi ix 3 pc L S w [2, 5, 7] = some (.inr (.inl (mj, as, c')))) ∨ (i = .invokestatic ix ∧ exCall mi ix 3 pc L S w [1, 4, 6, 8] = some (.inr (.inl (mj, as, c')))) := by
  unfold exec1 at he
  split at he
  · rename_i hlen
    have nN : ∀ {x : Option (List AV)}, exN len pc L w x = some (.inr (.inl (mj, as, c'))) → False := by
      intro x h
      obtain ⟨S9, -, h2⟩ := exN_some h
      cases h2
    have nJ : ∀ {off : Int} {S9 : List AV}, exJ pc off L S9 w = some (.inr (.inl (mj, as, c'))) → False := by
      intro off S9 h
      obtain ⟨t, -, h2⟩ := exJ_some h
      cases h2
    have nI : ∀ {off : Int} {S9 : List AV} {b : Bool}, exIf len pc off L S9 w b = some (.inr (.inl (mj, as, c'))) → False := by
      intro off S9 b h
      obtain ⟨t, -, h2⟩ := exIf_some h
      cases h2
    have nM : ∀ {x : Option (List AV × Wd)}, x.map (fun q => (Sum.inl (pc + len, L, q.1, q.2) : Act)) = some (.inr (.inl (mj, as, c'))) → False := by
      intro x h
      cases x <;> cases h
    have nP : ∀ {x : Option Wd} {S9 : List AV}, x.map (fun w' => (Sum.inl (pc + len, L, S9, w') : Act)) = some (.inr (.inl (mj, as, c'))) → False := by
      intro x S9 h
      cases x <;> cases h
    cases i
    case invokevirtual ix =>
      dsimp only [exec0] at he
      obtain rfl : len = 3 := by simpa [okLen] using hlen
      exact ⟨rfl, ix, Or.inl ⟨rfl, he⟩⟩
    case invokespecial ix =>
      dsimp only [exec0] at he
      obtain rfl : len = 3 := by simpa [okLen] using hlen
      exact ⟨rfl, ix, Or.inr (Or.inl ⟨rfl, he⟩)⟩
    case invokestatic ix =>
      dsimp only [exec0] at he
      obtain rfl : len = 3 := by simpa [okLen] using hlen
      exact ⟨rfl, ix, Or.inr (Or.inr ⟨rfl, he⟩)⟩
    all_goals exfalso; dsimp only [exec0] at he
    all_goals first
      | (cases he; done)
      | exact nN he
      | exact nJ he
      | exact nM he
      | (split at he <;> first | (cases he; done) | exact nI he | exact nJ he | exact nM he | exact nP he | (split at he <;> first | (cases he; done) | exact nJ he | exact nI he | (split at he <;> first | (cases he; done) | exact nJ he | (split at he <;> first | (cases he; done)))))
  · cases he
theorem cOK_of {ow ix kind mj n i1 i2 i3 : Nat} (h : cres ow ix = some (ix, kind, mj, n, i1, i2, i3)) (h7 : kind ≠ 7) (h8 : kind ≠ 8) :
    mj < 327 ∧ (parseMethodDescriptor (mY mj).desc).map (fun d => d.parameters.length) = some n ∧
    ((kind = 3 ∨ kind = 4 ∨ kind = 5) → Jvm.Cond.methodLinkNest (ownN ow) ix (mY mj) "GivenMinutes" ∈ lw_tbl) ∧ (¬ (kind = 3 ∨ kind = 4 ∨ kind = 5) → Jvm.Cond.methodLink (ownN ow) ix (mY mj) ∈ GT) ∧
    ((kind = 1 ∨ kind = 4 ∨ kind = 6) → Jvm.Cond.static (mY mj) ∈ GT) ∧ (¬ (kind = 1 ∨ kind = 4 ∨ kind = 6) → Jvm.Cond.instanceMethod (mY mj) ∈ GT) ∧
    ((kind = 0 ∨ kind = 3 ∨ kind = 9) → Jvm.Cond.selects (mY mj).cls (mY mj) (mY mj) ∈ GT) ∧ ((kind = 2 ∨ kind = 5) → (mY mj).name = "<init>") ∧ (kind = 6 → (mH mj).isSome = true) ∧ (kind ≠ 6 → (mH mj).isNone = true) ∧
    (kind = 9 → (mY mj).cls = "java/lang/String") ∧ ((kind = 0 ∨ kind = 3) → mOwn mj < 13) := by
  have hok := allT_of cOK_all (cres_some h).1
  unfold cOKb at hok
  simp only [] at hok
  rw [if_neg h7, if_neg h8] at hok
  simp only [Bool.and_eq_true, decide_eq_true_eq] at hok
  obtain ⟨⟨⟨⟨⟨⟨⟨⟨a1, a2⟩, a3⟩, a4⟩, a5⟩, a6⟩, a7⟩, a8⟩, a9⟩ := hok
  refine ⟨a1, a2, fun hk => ?_, fun hk => ?_, fun hk => ?_, fun hk => ?_, fun hk => ?_, fun hk => ?_, fun hk => ?_, fun hk => ?_, fun hk => ?_, fun hk => ?_⟩
  · rw [if_pos hk] at a3; exact (nAt_in a3).1
  · rw [if_neg hk] at a3; exact gAt_in a3
  · rw [if_pos hk] at a4; exact gAt_in a4
  · rw [if_neg hk] at a4; exact gAt_in a4
  · rw [if_pos hk] at a5; exact gAt_in a5
  · rw [if_pos hk] at a6; exact of_decide_eq_true a6
  · rw [if_pos hk] at a7; exact a7
  · rw [if_neg hk] at a7; exact a7
  · rw [if_pos hk] at a9; exact of_decide_eq_true a9
  · rw [if_neg (by omega), if_pos hk] at a9; exact of_decide_eq_true a9
theorem mRc_init : ∀ mj, mj < 327 → (mY mj).name = "<init>" → mRc mj = 0 := by
  have h : (List.range 327).all (fun i => decide ((mY i).name ≠ "<init>") || decide (mRc i = 0)) = true := by decide +kernel
  intro mj hj hn
  have := List.all_eq_true.mp h mj (List.mem_range.mpr hj)
  simp only [Bool.or_eq_true, decide_eq_true_eq] at this
  rcases this with q | q
  · exact absurd hn q
  · exact q
theorem mOwn_lt : ∀ mj, mj < 327 → mOwn mj < 20 := by
  intro mj hj
  have := mOK_all mj hj
  simp only [mOKb, Bool.and_eq_true, decide_eq_true_eq] at this
  exact this.2
theorem codeW_none {mj : Nat} (h : (mH mj).isNone = true) : codeW mj = .code (mY mj) (mB mj) (mL mj) (retT (mRc mj)) := by
  unfold codeW
  cases hm : mH mj with
  | none => rfl
  | some hh => rw [hm] at h; cases h
section SCALL
variable {X : PR} {l : Launch} {mi : Nat} {p : Program} {e : Env} {R : Room} {s : State} {m : MethodId} {args : Array Value} {below : List Frame} {meth : Method} {c : Code} {H : Heap} {locs : List Loc} {cells slots mc ms : Nat} {Q : State → Prop} {ls : Array Slot} {pc len : Nat} {L : List (Option AV)} {S : List AV} {w : Wd} {c' : Cfg}
theorem size_of {T : State} (hst : St X (mL mi) s H locs ls L S w) (hB : xB X ≤ s.heap.size) (X0 : Stand p l e R s m args below meth c T locs cells slots) (hT : T.heap = H) (h : s.heap.size + cells ≤ xB X + gN w) : H.size = xB X + gN w := by
  have h1 := X0.heapSize
  rw [hT] at h1
  have h2 : xB X + gN w ≤ H.size := by
    by_cases h0 : gN w = 0
    · have := hst.1.1; omega
    · have h3 := vx_lt hst.2.1.1 (wsX_get (X := X) (w := w) (k := gN w - 1) (by omega))
      have h4 : xB X + (gN w - 1) < H.size := h3
      omega
  omega
theorem sx_call {n r mj : Nat} {i : Instr} {as : List AV} {o1 : Out} (hS : SND X l n) (hC : Ctx X l mi p s m args meth c) (hd : decode (mB mi) pc = .ok (i, len)) (he : exec1 mi i len pc L S w = some (.inr (.inl (mj, as, c')))) (hr : crk mj as < r) (hr9 : r ≤ 1000)
    (hrun : run n mj (crk mj as) (0, entL mj as, [], w) = some o1) (hst : St X (mL mi) s H locs ls L S w) (hsz : gE w = 0 → H.size = xB X + gN w) (hRf : r + 10 ≤ R.frames) (hRl : 60 * r + 200 ≤ R.locals) (hf : cells + (cnt o1.2 - cnt w) ≤ R.cells ∧ slots + (slt o1.2 - slt w) ≤ R.slots) :
    ∃ S', c' = (pc + 3, L, S', w) ∧ okS w S' ∧ vx_Run p l e R s m args below meth c H locs cells slots (cnt o1.2 - cnt w) (slt o1.2 - slt w) (F0 m pc ls (S.map (cv X))) (S'.map (cv X)) (QO X o1 #[]) (XO X o1) (AX X) := by
  obtain ⟨rfl, ix, hcase⟩ := exec1_call he
  obtain ⟨hx, hb, hml, hret, hown, hlk, hnm, htab, hts, hE, hB, hl⟩ := id hC
  obtain ⟨hSS, hP, hFR, hoL, hoS⟩ := id hst
  have hlen := crk_len hr hr9
  have CF : CallFix p m c (mB mi) (mL mi) s args GT (ownN (mOwn mi)) := ⟨hx, hb, hml, hown, hts⟩
  have pre : okS w as → ∀ U : State, U.heap = H → s.WarmedH U.vm → PcX X as w (as.map (cv X)).toArray U := fun hoA U hU hW => by
    refine ⟨rfl, hE.step hSS hU hW, by rw [hU]; exact hP, by rw [hU]; exact Nat.le_trans hB hSS.1, fun g0 => by rw [hU, hsz g0]; exact Nat.le_refl _, hoA⟩
  have dat : ∀ {kind n9 i1 i2 i3 : Nat}, cres (mOwn mi) ix = some (ix, kind, mj, n9, i1, i2, i3) → kind ≠ 7 → kind ≠ 8 → vx_Met l (mY mj) (codeW mj :: GT) (rmq (crk mj as) w o1) (PcX X as w) (QO X o1) (XO X o1) (cnt o1.2 - cnt w) (slt o1.2 - slt w) (AX X) ∧
      ((rmq (crk mj as) w o1).frames + 1 ≤ R.frames ∧ 8 + (mL mj + 11) + (rmq (crk mj as) w o1).locals ≤ R.locals) ∧ (∀ w9 ∈ codeW mj :: GT, ∀ (a' : Array Value) (U : State), s.WarmedH U.vm → w9.before a' U = true) ∧ codeW mj ∈ codeW mj :: GT ∧ (codeW mj).before args s = true ∧ (Cond.initialized (mY mj).cls).before args s = true ∧
      ((mY mj).cls ≠ "java/lang/invoke/MethodHandle" ∧ (mY mj).cls ≠ "java/lang/invoke/VarHandle") ∧ (∀ sig, parseMethodDescriptor (mY mj).desc = some sig → n9 = sig.parameters.length) := by
    intro kind n9 i1 i2 i3 hcr h7 h8
    obtain ⟨hj, hpd, -⟩ := cOK_of hcr h7 h8
    obtain ⟨hcg, hini, hpf, hmh, hownj, hmL⟩ := mOK_of hj
    refine ⟨met_of hS hl hj hlen (by omega) hrun, ⟨?_, ?_⟩, pay_in hts (fun w9 h9 => ?_), List.mem_cons_self, hts _ hcg, hts _ hini, hmh, fun sig h => ?_⟩
    · show crk mj as + 10 + 1 ≤ R.frames; omega
    · show 8 + (mL mj + 11) + (60 * crk mj as + 200) ≤ R.locals; omega
    · have h10 : w9 ∈ GT := (List.mem_cons.mp h9).elim (fun q => q ▸ hcg) id
      exact ⟨h10, GT_good h10⟩
    · rw [h] at hpd
      exact (Option.some.inj hpd).symm
  have hmon : ∀ (st : List Value), (F0 m pc ls st).monitorRoom = 0 := fun _ => rfl
  have obj : ∀ {b : Nat}, mj < 327 → (lay b).1 = mOwn mj → cr X (some b) = .ref (xB X + b) ∧ b < STR := fun {b} hj hb9 => by
    have h1 := mOwn_lt mj hj
    have hlt : b < STR := by have := lay_lt hb9 (by omega); have : STR = 1000000 := rfl; omega
    exact ⟨cr_some (ad_lo hlt), hlt⟩
  rcases hcase with ⟨rfl, hcall⟩ | ⟨rfl, hcall⟩ | ⟨rfl, hcall⟩
  · obtain ⟨kind, n9, i1, i2, i3, S', hcr, hks, h7, h8, hwd, rfl, hk⟩ := exCall_call hcall
    obtain ⟨hM, hRR, hws, hcw, hcode, hini, hmh, hsig⟩ := dat hcr h7 h8
    obtain ⟨hj, hpd, c1, c2, c3, c4, c5, c6, c7, c8, c9, c10⟩ := cOK_of hcr h7 h8
    have hkk : kind = 0 ∨ kind = 3 ∨ kind = 9 := by simpa [or_assoc] using hks
    rcases hk with ⟨hk, -⟩ | ⟨hk, b, as', rfl, rfl, hn9, hb9⟩
    · exfalso; omega
    · rw [codeW_none (c8 (by omega))] at hM hws hcw hcode
      have hoA : okS w (.inr (.inl (some b)) :: as') := fun v hv => hoS v (by
        rcases List.mem_cons.mp hv with rfl | hv
        · simp
        · simp [hv])
      have hoT : okS w S' := fun v hv => hoS v (by simp [hv])
      refine ⟨S', rfl, hoT, ?_⟩
      have hcat : 2 * (F0 m pc ls (((as'.reverse ++ .inr (.inl (some b)) :: S' : List AV)).map (cv X))).monitorRoom + ((S'.map (cv X)).map fun v => v.category).sum ≤ 8 := by rw [hmon, wd_cat]; omega
      have main : ∀ (q : Nat) (C : String), cr X (some b) = .ref q → (mY mj).cls = C → (∃ cellB : Cell, H[q]? = some cellB ∧ cellB.vm.isStatics = false ∧ s.vm.findClass C = some cellB.cls) → vx_Run p l e R s m args below meth c H locs cells slots (cnt o1.2 - cnt w) (slt o1.2 - slt w) (F0 m pc ls ((as'.reverse ++ .inr (.inl (some b)) :: S' : List AV).map (cv X))) (S'.map (cv X)) (QO X o1 #[]) (XO X o1) (AX X) := by
        intro q C hq hcC hrec
        have hPV : PreV s H C q (PcX X (.inr (.inl (some b)) :: as') w) (as'.map (cv X)) := ⟨PcX_blind, hrec, fun U hU hW => by
          have := pre hoA U hU hW
          simp only [List.map_cons, cv, hq] at this
          exact this⟩
        have hstk : (F0 m pc ls ((as'.reverse ++ .inr (.inl (some b)) :: S' : List AV).map (cv X))).stack = (as'.map (cv X)).reverse ++ .ref q :: S'.map (cv X) := by
          show (as'.reverse ++ .inr (.inl (some b)) :: S' : List AV).map (cv X) = _
          simp only [List.map_append, List.map_reverse, List.map_cons, cv, hq]
        subst hcC
        by_cases hk3 : kind = 3
        · exact vx_runVN (Ts := GT) (As := as'.map (cv X)) CF hM ⟨⟨⟨rfl, rfl, hRR.1, hRR.2, hws, hcw⟩, hcode, hini, hmh, hsig, va_Nw.use rfl (hE.2.1 _ (c1 (Or.inl hk3)) rfl)⟩, hts _ (c4 hk), hts _ (c5 (Or.inr (Or.inl hk3)))⟩ hPV rfl (by rw [List.length_map]; exact hn9) (hFR.1) hstk hcat hd hf
        · exact vx_runV (Ts := GT) (As := as'.map (cv X)) CF hM ⟨⟨rfl, rfl, hRR.1, hRR.2, hws, hcw, hcode, hini, hmh, hsig, hts _ (c2 (by omega))⟩, hts _ (c4 hk), hts _ (c5 hkk)⟩ hPV rfl (by rw [List.length_map]; exact hn9) (hFR.1) hstk hcat hd hf
      by_cases hk9 : kind = 9
      · rw [if_pos hk9] at hb9
        have hlen23 : txL.length = 23 := by decide +kernel
        have e1 : STR = 1000000 := rfl
        have e2 : BYT = 2000000 := rfl
        have ead : ad X b = some (xK X (b - STR)) := by
          unfold ad
          rw [if_neg (by omega), if_pos (by omega)]
        exact main _ _ (cr_some ead) (c9 hk9) (vk_recv hE.2.2.2.1 (show b - STR < nJ by show b - STR < 23; omega) hSS)
      · rw [if_neg hk9] at hb9
        obtain ⟨e0, hlt⟩ := obj hj hb9
        have ho13 : mOwn mj < 13 := c10 (by omega)
        have hbn : b < gN w := ref_ok (hoA _ List.mem_cons_self) hb9 (by have := mOwn_lt mj hj; omega)
        obtain ⟨C, T, N, ty, k1, k2, k3, k4, k5, k6, k7, k8⟩ := clsOK (mOwn mj) ho13
        have hws9 : (wsX X w)[b]? = some (xB X + b, .inr (mOwn mj, (List.range (nF (mOwn mj))).map (fV X w b (mOwn mj)))) := by rw [wsX_get hbn, ent_obj hb9 ho13]
        have hrec := va_recv hE.1 hP.1 k1 hws9
        refine main _ _ e0 ?_ hrec
        show (mY mj).cls = C
        rw [k2]
        exact (mOK_of hj).2.2.2.2.1.symm
  · obtain ⟨kind, n9, i1, i2, i3, S', hcr, hks, h7, h8, hwd, rfl, hk⟩ := exCall_call hcall
    obtain ⟨hM, hRR, hws, hcw, hcode, hini, hmh, hsig⟩ := dat hcr h7 h8
    obtain ⟨hj, hpd, c1, c2, c3, c4, c5, c6, c7, c8, c9, c10⟩ := cOK_of hcr h7 h8
    have hkk : kind = 2 ∨ kind = 5 ∨ kind = 7 := by simpa [or_assoc] using hks
    rcases hk with ⟨hk, -⟩ | ⟨hk, b, as', rfl, rfl, hn9, hb9⟩
    · exfalso; omega
    · have hnm9 : (mY mj).name = "<init>" := c6 (by omega)
      have hret0 : retT (mRc mj) = none := by rw [mRc_init mj hj hnm9]; rfl
      rw [codeW_none (c8 (by omega)), hret0] at hM hws hcw hcode
      rw [if_neg (by omega)] at hb9
      obtain ⟨e0, hlt⟩ := obj hj hb9
      have hoA : okS w (.inr (.inl (some b)) :: as') := fun v hv => hoS v (by
        rcases List.mem_cons.mp hv with rfl | hv
        · simp
        · simp [hv])
      have hoT : okS w S' := fun v hv => hoS v (by simp [hv])
      refine ⟨S', rfl, hoT, ?_⟩
      have hcat : 2 * (F0 m pc ls (((as'.reverse ++ .inr (.inl (some b)) :: S' : List AV)).map (cv X))).monitorRoom + ((S'.map (cv X)).map fun v => v.category).sum ≤ 8 := by rw [hmon, wd_cat]; omega
      have hPS : PreS s H (PcX X (.inr (.inl (some b)) :: as') w) (.ref (xB X + b) :: as'.map (cv X)) := ⟨PcX_blind, fun U hU hW => by
        have := pre hoA U hU hW
        simp only [List.map_cons, cv, e0] at this
        exact this⟩
      have hstk : (F0 m pc ls ((as'.reverse ++ .inr (.inl (some b)) :: S' : List AV).map (cv X))).stack = (as'.map (cv X)).reverse ++ .ref (xB X + b) :: S'.map (cv X) := by
        show (as'.reverse ++ .inr (.inl (some b)) :: S' : List AV).map (cv X) = _
        simp only [List.map_append, List.map_reverse, List.map_cons, cv, e0]
      by_cases hk5 : kind = 5
      · exact vx_runIN (Ts := GT) (As := as'.map (cv X)) CF hM ⟨⟨⟨rfl, rfl, hRR.1, hRR.2, hws, hcw⟩, hcode, hini, hmh, hsig, va_Nw.use rfl (hE.2.1 _ (c1 (Or.inr (Or.inr hk5))) rfl)⟩, hnm9, hts _ (c4 hk)⟩ hPS rfl (by rw [List.length_map]; exact hn9) (hFR.1) hstk hcat hd hf
      · exact vx_runI (Ts := GT) (As := as'.map (cv X)) CF hM ⟨⟨rfl, rfl, hRR.1, hRR.2, hws, hcw, hcode, hini, hmh, hsig, hts _ (c2 (by omega))⟩, hnm9, hts _ (c4 hk)⟩ hPS rfl (by rw [List.length_map]; exact hn9) (hFR.1) hstk hcat hd hf
  · obtain ⟨kind, n9, i1, i2, i3, S', hcr, hks, h7, h8, hwd, rfl, hk⟩ := exCall_call hcall
    obtain ⟨hM, hRR, hws, hcw, hcode, hini, hmh, hsig⟩ := dat hcr h7 h8
    obtain ⟨hj, hpd, c1, c2, c3, c4, c5, c6, c7, c8, c9, c10⟩ := cOK_of hcr h7 h8
    have hkk : kind = 1 ∨ kind = 4 ∨ kind = 6 ∨ kind = 8 := by simpa [or_assoc] using hks
    rcases hk with ⟨hk, rfl, hn9⟩ | ⟨hk, -⟩
    · have hoA : okS w as := fun v hv => hoS v (by simp [hv])
      have hoT : okS w S' := fun v hv => hoS v (by simp [hv])
      refine ⟨S', rfl, hoT, ?_⟩
      have hcat : 2 * (F0 m pc ls ((as.reverse ++ S' : List AV).map (cv X))).monitorRoom + ((S'.map (cv X)).map fun v => v.category).sum ≤ 8 := by rw [hmon, wd_cat]; omega
      have hPS : PreS s H (PcX X as w) (as.map (cv X)) := ⟨PcX_blind, fun U hU hW => pre hoA U hU hW⟩
      have hstk : (F0 m pc ls ((as.reverse ++ S' : List AV).map (cv X))).stack = (as.map (cv X)).reverse ++ S'.map (cv X) := by
        show (as.reverse ++ S' : List AV).map (cv X) = _
        simp only [List.map_append, List.map_reverse]
      by_cases hk6 : kind = 6
      · obtain ⟨hh, hmh9⟩ := Option.isSome_iff_exists.mp (c7 hk6)
        have ecw : codeW mj = .codeWith (mY mj) (mB mj) (mL mj) (retT (mRc mj)) hh := by unfold codeW; rw [hmh9]
        rw [ecw] at hM hws hcw hcode
        exact vx_runSX (Ts := GT) (As := as.map (cv X)) CF hM ⟨⟨rfl, rfl, hRR.1, hRR.2, hws, hcw⟩, hcode, hini, hmh, hsig, hts _ (c2 (by omega)), hts _ (c3 hk)⟩ hPS rfl (by rw [List.length_map]; exact hn9) (hFR.1) hstk hcat hd hf
      · rw [codeW_none (c8 hk6)] at hM hws hcw hcode
        by_cases hk4 : kind = 4
        · exact vx_runSN (Ts := GT) (As := as.map (cv X)) CF hM ⟨⟨⟨rfl, rfl, hRR.1, hRR.2, hws, hcw⟩, hcode, hini, hmh, hsig, va_Nw.use rfl (hE.2.1 _ (c1 (Or.inr (Or.inl hk4))) rfl)⟩, hts _ (c3 hk), trivial⟩ hPS rfl (by rw [List.length_map]; exact hn9) (hFR.1) hstk hcat hd hf
        · exact vx_runS (Ts := GT) (As := as.map (cv X)) CF hM ⟨⟨rfl, rfl, hRR.1, hRR.2, hws, hcw, hcode, hini, hmh, hsig, hts _ (c2 (by omega))⟩, hts _ (c3 hk)⟩ hPS rfl (by rw [List.length_map]; exact hn9) (hFR.1) hstk hcat hd hf
    · exfalso; omega
end SCALL
