/-! returns, throws, calls: what the evaluator answers the machine does -/
def xN (e : Nat) : String := if e = 0 then "java/util/NoSuchElementException" else "java/lang/IllegalArgumentException"
def PostW (X : PR) (w' : Wd) (st t : State) : Prop := Pic X w' t.heap ∧ va_F (AX X) st t
def QO (X : PR) (o : Out) : Array Value → State → Outcome → State → Prop := fun _ st oc t => ∃ v : Option AV, o.1 = .inl v ∧ oc = .returned (v.map (cv X)) ∧ (∀ u, v = some u → okV o.2 u) ∧ PostW X o.2 st t
def XO (X : PR) (o : Out) : String → State → State → Prop := fun E st t => ∃ e : Nat, o.1 = .inr e ∧ e < 2 ∧ E = xN e ∧ PostW X o.2 st t
section CALLS
variable {X : PR} {l : Launch} {mi : Nat} {p : Program} {e : Env} {R : Room} {s : State} {m : MethodId} {args : Array Value} {below : List Frame} {meth : Method} {c : Code} {H : Heap} {locs : List Loc} {cells slots mc ms : Nat} {Q : State → Prop} {ls : Array Slot} {pc len : Nat} {L : List (Option AV)} {S : List AV} {w : Wd} {c' : Cfg} {o : Out}
theorem PostW.of {t : State} (hS : va_S (AX X) s.heap H locs) (hP : Pic X w H) (ht : t.heap = H) : PostW X w s t := ⟨by rw [ht]; exact hP, hS.F ht⟩
theorem sx_ret {i : Instr} (hC : Ctx X l mi p s m args meth c) (hd : decode (mB mi) pc = .ok (i, len)) (he : exec1 mi i len pc L S w = some (.inr (.inr o))) (hi : ∀ ix, i ≠ .new ix) (hst : St X (mL mi) s H locs ls L S w) (hc : cells ≤ mc) (hs : slots ≤ ms) :
    W p l e R s m args below meth c H locs cells slots (vx_MQ below (QO X o) (XO X o) args s mc ms (AX X)) (F0 m pc ls (S.map (cv X))) := by
  obtain ⟨hx, hb, hml, hr, hown, hlk, hnm, htab, hts, hE, hB, hl⟩ := hC
  obtain ⟨hS, hP, hF, hoL, hoS⟩ := id hst
  refine vx_ret (W.widen hc hs ?_)
  unfold exec1 at he
  split at he
  · rename_i hlen
    have nc : ∀ {ix : Nat} {ks : List Nat}, exCall mi ix len pc L S w ks = some (.inr (.inr o)) → False := by
      intro ix ks h
      unfold exCall at h
      split at h
      · cases h
      · split at h
        · cases h
        · split at h
          · split at h
            · split at h <;> cases h
            · cases h
          · split at h
            · split at h
              · split at h <;> cases h
              · cases h
            · split at h
              · split at h <;> cases h
              · split at h
                · have h := (Option.ite_none_right_eq_some.mp h).2
                  cases h
                · cases h
    have nN : ∀ {x : Option (List AV)}, exN len pc L w x = some (.inr (.inr o)) → False := by
      intro x h
      obtain ⟨S9, -, h2⟩ := exN_some h
      cases h2
    have nJ : ∀ {off : Int} {S9 : List AV}, exJ pc off L S9 w = some (.inr (.inr o)) → False := by
      intro off S9 h
      obtain ⟨t, -, h2⟩ := exJ_some h
      cases h2
    have nI : ∀ {off : Int} {S9 : List AV} {b : Bool}, exIf len pc off L S9 w b = some (.inr (.inr o)) → False := by
      intro off S9 b h
      obtain ⟨t, -, h2⟩ := exIf_some h
      cases h2
    have nM : ∀ {x : Option (List AV × Wd)}, x.map (fun q => (Sum.inl (pc + len, L, q.1, q.2) : Act)) = some (.inr (.inr o)) → False := by
      intro x h
      cases x <;> cases h
    have nP : ∀ {x : Option Wd} {S9 : List AV}, x.map (fun w' => (Sum.inl (pc + len, L, S9, w') : Act)) = some (.inr (.inr o)) → False := by
      intro x S9 h
      cases x <;> cases h
    cases i
    case ireturn =>
      dsimp only [exec0] at he
      split at he
      · rename_i x
        split at he
        · rename_i hq
          cases he
          obtain rfl : len = 1 := by simpa [okLen] using hlen
          have fin : ∀ (ty : FieldType), meth.sig.returnType = some ty → narrow ty (.int (i32 x)) = .int (i32 x) → W p l e R s m args below meth c H locs mc ms (MQ below (QO X (.inl (some (.inl x)), w)) args s mc ms (AX X)) (F0 m pc ls [.int (i32 x)]) := fun ty h1 h2 =>
            W.zret (v := i32 x) hx hb h1 h2 (fun t ht hW => ⟨some (.inl x), rfl, rfl, fun u hu => by cases hu; exact okS_h hoS, PostW.of hS hP ht⟩) hS.2.2 hd hlk
          generalize hrc : mRc mi = rc at hq hr
          match rc, hq, hr with
          | 1, _, hr => exact fin .int hr rfl
          | 2, hq, hr =>
            simp only [retOk, Bool.or_eq_true, decide_eq_true_eq] at hq
            rcases hq with rfl | rfl
            · exact fin .boolean hr rfl
            · exact fin .boolean hr rfl
          | 3, hq, hr =>
            simp only [retOk, decide_eq_true_eq] at hq
            refine fin .char hr ?_
            have e1 : i32 x = ((i32 x).toUInt32 % 65536).toInt32 := by
              have h1 : i32 (bI2c x) = ((i32 x).toUInt32 % 65536).toInt32 := i32_t _
              have h2 : i32 (bI2c x) = i32 x := congrArg i32 hq
              exact h2.symm.trans h1
            rw [e1]
            exact pk_nc _
          | 4, hq, hr =>
            simp only [retOk, decide_eq_true_eq] at hq
            refine fin .byte hr ?_
            have e1 : i32 x = (i32 x).toInt8.toInt32 := by
              have h1 : i32 (bI2b x) = (i32 x).toInt8.toInt32 := i32_t _
              have h2 : i32 (bI2b x) = i32 x := congrArg i32 hq
              exact h2.symm.trans h1
            rw [e1]
            exact pk_nb _
          | 0, hq, _ => simp [retOk] at hq
          | k + 5, hq, _ => simp [retOk] at hq
        · cases he
      · cases he
    case areturn =>
      dsimp only [exec0] at he
      split at he
      · rename_i r
        split at he
        · rename_i hq
          cases he
          obtain rfl : len = 1 := by simpa [okLen] using hlen
          rw [hq] at hr
          refine W.aret (v := cr X r) (rt := .object "GivenMinutes$State") hx hb hr (Or.inl ⟨_, rfl⟩) (va_rf_or _) (fun t ht hW => ⟨some (.inr (.inl r)), rfl, rfl, fun u hu => by cases hu; exact okS_h hoS, PostW.of hS hP ht⟩) hS.2.2 hd hlk
        · cases he
      · cases he
    case return_ =>
      dsimp only [exec0] at he
      split at he
      · split at he
        · rename_i hq
          cases he
          obtain rfl : len = 1 := by simpa [okLen] using hlen
          rw [hq] at hr
          exact W.vret hx hb hr (fun t ht hW => ⟨none, rfl, rfl, fun u hu => (by cases hu), PostW.of hS hP ht⟩) hS.2.2 hd hlk
        · cases he
      · cases he
    case new ix => exact absurd rfl (hi ix)
    all_goals exfalso; dsimp only [exec0] at he
    all_goals first
      | (cases he; done)
      | exact nN he
      | exact nJ he
      | exact nc he
      | exact nM he
      | (split at he <;> first | (cases he; done) | exact nI he | exact nJ he | exact nM he | exact nP he | (split at he <;> first | (cases he; done) | exact nJ he | exact nI he | (split at he <;> first | (cases he; done) | exact nJ he)))
  · cases he
/-- the words of a throw -/
theorem thr_words {B : List Cond} (hts : ∀ w ∈ GT, w.before args s = true) (hE : EnvX X s) (hq : B.all (fun w => decide (w ∈ lw_tbl) && (goodWord w || isNW w)) = true) : (∀ w ∈ B, w.before args s = true) ∧ ∀ w ∈ B, vx_ot w = true := by
  have key : ∀ w ∈ B, w ∈ lw_tbl ∧ (goodWord w = true ∨ isNW w = true) := by
    intro w hw
    have := List.all_eq_true.mp hq w hw
    simp only [Bool.and_eq_true, Bool.or_eq_true, decide_eq_true_eq] at this
    exact this
  have ot : ∀ w, isNW w = true → w.onTables = true := by
    intro w hw
    cases w <;> first | rfl | cases hw
  refine ⟨fun w hw => ?_, fun w hw => ?_⟩
  · obtain ⟨h1, h2 | h2⟩ := key w hw
    · exact hts w (List.mem_filter.mpr ⟨h1, h2⟩)
    · exact va_Nw.use (ot w h2) (hE.2.1 w h1 h2)
  · obtain ⟨h1, h2 | h2⟩ := key w hw
    · simp [vx_ot, h2]
    · simp [vx_ot, ot w h2]
set_option maxRecDepth 100000 in
theorem wThr_n : nxNo.all (fun w => decide (w ∈ lw_tbl) && (goodWord w || isNW w)) = true := by decide +kernel
set_option maxRecDepth 100000 in
theorem wThr_i : (vx_atS "GivenMinutes" 104 "java/lang/IllegalArgumentException" ["java/lang/RuntimeException", "java/lang/Exception"]).all (fun w => decide (w ∈ lw_tbl) && (goodWord w || isNW w)) = true := by decide +kernel
theorem wThc_n : Jvm.Cond.classLink "GivenMinutes" 376 "java/util/NoSuchElementException" ∈ GT := gAt_in (i := 4218) (by decide +kernel)
theorem wThk_n : Jvm.Cond.initialized "java/util/NoSuchElementException" ∈ GT := gAt_in (i := 1026) (by decide +kernel)
theorem wThc_i : Jvm.Cond.classLink "GivenMinutes" 100 "java/lang/IllegalArgumentException" ∈ GT := gAt_in (i := 3114) (by decide +kernel)
theorem wThk_i : Jvm.Cond.initialized "java/lang/IllegalArgumentException" ∈ GT := gAt_in (i := 1017) (by decide +kernel)
theorem sx_throw_X11_quay (hC : Ctx X l 114 p s m args meth c) (hst : St X (mL 114) s H locs ls L [] w) (hR : 10 ≤ R.frames ∧ 150 ≤ R.locals) (hc : cells + 1 ≤ mc) (hs : slots + 6 ≤ ms) (hRc : mc ≤ R.cells) (hRs : ms ≤ R.slots) :
    W p l e R s m args below meth c H locs cells slots (vx_MQ below (QO X (.inr 1, tW w)) (XO X (.inr 1, tW w)) args s mc ms (AX X)) (F0 m 12 ls []) := by
  obtain ⟨hx, hb, hml, hr, hown, hlk, hnm, htab, hts, hE, hB, hl⟩ := hC
  obtain ⟨hS, hP, hF, hoL, hoS⟩ := id hst
  have hown : s.vm.findClass "GivenMinutes" = some m.cls := hown
  have htab : c.exceptionTable.toList = [] := htab
  obtain ⟨hat, hot⟩ := thr_words (args := args) (s := s) hts hE wThr_i
  refine vx_throwS (cc := mB 114) (ik := 100) (is := 102) (ic := 104) (own := "GivenMinutes") (cls := "java/lang/IllegalArgumentException") (text := "the tape has not so many") (names := ["java/lang/RuntimeException", "java/lang/Exception"]) (A := AX X) hx hb hl hown (by decide +kernel) (by decide +kernel) (hts _ wThc_i) (hts _ wThk_i)
    (hE.2.2.2.2.2.2.2.2.1 11 (102, 0, 3154) (by decide +kernel)) hat (fun w9 hw9 => ?_) hE.2.2.2.2.2.2.1 hE.2.2.2.2.2.2.2.1.1 hS (by rw [hml]; exact hF.1) dX11_quay_12 dX11_quay_15 dX11_quay_16 dX11_quay_18 dX11_quay_21 (by rw [htab]; intro x9 hx9; cases hx9) (by show 2 + 3 < R.frames; omega) (by show 0 + (13 * (2 + 1) + 43) ≤ R.locals; omega) (Nat.le_trans hc hRc) (Nat.le_trans hs hRs) hlk (fun t h1 h2 h3 => ?_) hS.2.2 hc hs
  · rcases List.mem_cons.mp hw9 with rfl | hw9
    · rfl
    · rcases List.mem_cons.mp hw9 with rfl | hw9
      · rfl
      · exact hot _ hw9
  · refine ⟨1, rfl, by omega, rfl, ⟨?_, hP.2⟩, Nat.le_trans hS.1 h2, fun q hq hA => ?_⟩
    · exact hP.1.kept fun k x hk => h3 x.1 ((hP.1 k x hk).lt)
    · rw [h3 q (Nat.lt_of_lt_of_le hq hS.1)]
      exact hS.2.1 q hq hA
theorem sx_throw_X11_game (hC : Ctx X l 156 p s m args meth c) (hst : St X (mL 156) s H locs ls L [] w) (hR : 10 ≤ R.frames ∧ 150 ≤ R.locals) (hc : cells + 1 ≤ mc) (hs : slots + 6 ≤ ms) (hRc : mc ≤ R.cells) (hRs : ms ≤ R.slots) :
    W p l e R s m args below meth c H locs cells slots (vx_MQ below (QO X (.inr 1, tW w)) (XO X (.inr 1, tW w)) args s mc ms (AX X)) (F0 m 21 ls []) := by
  obtain ⟨hx, hb, hml, hr, hown, hlk, hnm, htab, hts, hE, hB, hl⟩ := hC
  obtain ⟨hS, hP, hF, hoL, hoS⟩ := id hst
  have hown : s.vm.findClass "GivenMinutes" = some m.cls := hown
  have htab : c.exceptionTable.toList = [] := htab
  obtain ⟨hat, hot⟩ := thr_words (args := args) (s := s) hts hE wThr_i
  refine vx_throwSW (cc := mB 156) (ik := 100) (is := 334) (ic := 104) (own := "GivenMinutes") (cls := "java/lang/IllegalArgumentException") (text := "both are one") (names := ["java/lang/RuntimeException", "java/lang/Exception"]) (A := AX X) hx hb hl hown (by decide +kernel) (by decide +kernel) (hts _ wThc_i) (hts _ wThk_i)
    (hE.2.2.2.2.2.2.2.2.1 11 (334, 6, 6133) (by decide +kernel)) hat (fun w9 hw9 => ?_) hE.2.2.2.2.2.2.1 hE.2.2.2.2.2.2.2.1.1 hS (by rw [hml]; exact hF.1) dX11_game_21 dX11_game_24 dX11_game_25 dX11_game_28 dX11_game_31 (by rw [htab]; intro x9 hx9; cases hx9) (by show 2 + 3 < R.frames; omega) (by show 0 + (13 * (2 + 1) + 43) ≤ R.locals; omega) (Nat.le_trans hc hRc) (Nat.le_trans hs hRs) hlk (fun t h1 h2 h3 => ?_) hS.2.2 hc hs
  · rcases List.mem_cons.mp hw9 with rfl | hw9
    · rfl
    · rcases List.mem_cons.mp hw9 with rfl | hw9
      · rfl
      · exact hot _ hw9
  · refine ⟨1, rfl, by omega, rfl, ⟨?_, hP.2⟩, Nat.le_trans hS.1 h2, fun q hq hA => ?_⟩
    · exact hP.1.kept fun k x hk => h3 x.1 ((hP.1 k x hk).lt)
    · rw [h3 q (Nat.lt_of_lt_of_le hq hS.1)]
      exact hS.2.1 q hq hA
theorem sx_throw_X11_needPerson (hC : Ctx X l 165 p s m args meth c) (hst : St X (mL 165) s H locs ls L [] w) (hR : 10 ≤ R.frames ∧ 150 ≤ R.locals) (hc : cells + 1 ≤ mc) (hs : slots + 6 ≤ ms) (hRc : mc ≤ R.cells) (hRs : ms ≤ R.slots) :
    W p l e R s m args below meth c H locs cells slots (vx_MQ below (QO X (.inr 0, tW w)) (XO X (.inr 0, tW w)) args s mc ms (AX X)) (F0 m 15 ls []) := by
  obtain ⟨hx, hb, hml, hr, hown, hlk, hnm, htab, hts, hE, hB, hl⟩ := hC
  obtain ⟨hS, hP, hF, hoL, hoS⟩ := id hst
  have hown : s.vm.findClass "GivenMinutes" = some m.cls := hown
  have htab : c.exceptionTable.toList = [] := htab
  obtain ⟨hat, hot⟩ := thr_words (args := args) (s := s) hts hE wThr_n
  refine nx_throw (cc := mB 165) (is := 378) (text := "no such person") (A := AX X) hx hb hl hown (hts _ wThc_n) (hts _ wThk_n)
    (hE.2.2.2.2.2.2.2.2.1 11 (378, 4, 5028) (by decide +kernel)) hat (fun w9 hw9 => ?_) hE.2.2.2.2.2.2.1 hE.2.2.2.2.2.2.2.1.1 hS (by rw [hml]; exact hF.1) dX11_needPerson_15 dX11_needPerson_18 dX11_needPerson_19 dX11_needPerson_22 dX11_needPerson_25 (by rw [htab]; intro x9 hx9; cases hx9) (by omega) (by show 0 + 82 ≤ R.locals; omega) (Nat.le_trans hc hRc) (Nat.le_trans hs hRs) hlk (fun t h1 h2 h3 => ?_) hS.2.2 hc hs
  · rcases List.mem_cons.mp hw9 with rfl | hw9
    · rfl
    · rcases List.mem_cons.mp hw9 with rfl | hw9
      · rfl
      · exact hot _ hw9
  · refine ⟨0, rfl, by omega, rfl, ⟨?_, hP.2⟩, Nat.le_trans hS.1 h2, fun q hq hA => ?_⟩
    · exact hP.1.kept fun k x hk => h3 x.1 ((hP.1 k x hk).lt)
    · rw [h3 q (Nat.lt_of_lt_of_le hq hS.1)]
      exact hS.2.1 q hq hA
theorem sx_throw_X11_needWhat (hC : Ctx X l 166 p s m args meth c) (hst : St X (mL 166) s H locs ls L [] w) (hR : 10 ≤ R.frames ∧ 150 ≤ R.locals) (hc : cells + 1 ≤ mc) (hs : slots + 6 ≤ ms) (hRc : mc ≤ R.cells) (hRs : ms ≤ R.slots) :
    W p l e R s m args below meth c H locs cells slots (vx_MQ below (QO X (.inr 0, tW w)) (XO X (.inr 0, tW w)) args s mc ms (AX X)) (F0 m 9 ls []) := by
  obtain ⟨hx, hb, hml, hr, hown, hlk, hnm, htab, hts, hE, hB, hl⟩ := hC
  obtain ⟨hS, hP, hF, hoL, hoS⟩ := id hst
  have hown : s.vm.findClass "GivenMinutes" = some m.cls := hown
  have htab : c.exceptionTable.toList = [] := htab
  obtain ⟨hat, hot⟩ := thr_words (args := args) (s := s) hts hE wThr_n
  refine nx_throw (cc := mB 166) (is := 381) (text := "no such what") (A := AX X) hx hb hl hown (hts _ wThc_n) (hts _ wThk_n)
    (hE.2.2.2.2.2.2.2.2.1 11 (381, 3, 4227) (by decide +kernel)) hat (fun w9 hw9 => ?_) hE.2.2.2.2.2.2.1 hE.2.2.2.2.2.2.2.1.1 hS (by rw [hml]; exact hF.1) dX11_needWhat_9 dX11_needWhat_12 dX11_needWhat_13 dX11_needWhat_16 dX11_needWhat_19 (by rw [htab]; intro x9 hx9; cases hx9) (by omega) (by show 0 + 82 ≤ R.locals; omega) (Nat.le_trans hc hRc) (Nat.le_trans hs hRs) hlk (fun t h1 h2 h3 => ?_) hS.2.2 hc hs
  · rcases List.mem_cons.mp hw9 with rfl | hw9
    · rfl
    · rcases List.mem_cons.mp hw9 with rfl | hw9
      · rfl
      · exact hot _ hw9
  · refine ⟨0, rfl, by omega, rfl, ⟨?_, hP.2⟩, Nat.le_trans hS.1 h2, fun q hq hA => ?_⟩
    · exact hP.1.kept fun k x hk => h3 x.1 ((hP.1 k x hk).lt)
    · rw [h3 q (Nat.lt_of_lt_of_le hq hS.1)]
      exact hS.2.1 q hq hA
theorem sx_throw_X11_needWithin (hC : Ctx X l 167 p s m args meth c) (hst : St X (mL 167) s H locs ls L [] w) (hR : 10 ≤ R.frames ∧ 150 ≤ R.locals) (hc : cells + 1 ≤ mc) (hs : slots + 6 ≤ ms) (hRc : mc ≤ R.cells) (hRs : ms ≤ R.slots) :
    W p l e R s m args below meth c H locs cells slots (vx_MQ below (QO X (.inr 1, tW w)) (XO X (.inr 1, tW w)) args s mc ms (AX X)) (F0 m 10 ls []) := by
  obtain ⟨hx, hb, hml, hr, hown, hlk, hnm, htab, hts, hE, hB, hl⟩ := hC
  obtain ⟨hS, hP, hF, hoL, hoS⟩ := id hst
  have hown : s.vm.findClass "GivenMinutes" = some m.cls := hown
  have htab : c.exceptionTable.toList = [] := htab
  obtain ⟨hat, hot⟩ := thr_words (args := args) (s := s) hts hE wThr_i
  refine vx_throwSW (cc := mB 167) (ik := 100) (is := 383) (ic := 104) (own := "GivenMinutes") (cls := "java/lang/IllegalArgumentException") (text := "not within its bounds") (names := ["java/lang/RuntimeException", "java/lang/Exception"]) (A := AX X) hx hb hl hown (by decide +kernel) (by decide +kernel) (hts _ wThc_i) (hts _ wThk_i)
    (hE.2.2.2.2.2.2.2.2.1 11 (383, 5, 5084) (by decide +kernel)) hat (fun w9 hw9 => ?_) hE.2.2.2.2.2.2.1 hE.2.2.2.2.2.2.2.1.1 hS (by rw [hml]; exact hF.1) dX11_needWithin_10 dX11_needWithin_13 dX11_needWithin_14 dX11_needWithin_17 dX11_needWithin_20 (by rw [htab]; intro x9 hx9; cases hx9) (by show 2 + 3 < R.frames; omega) (by show 0 + (13 * (2 + 1) + 43) ≤ R.locals; omega) (Nat.le_trans hc hRc) (Nat.le_trans hs hRs) hlk (fun t h1 h2 h3 => ?_) hS.2.2 hc hs
  · rcases List.mem_cons.mp hw9 with rfl | hw9
    · rfl
    · rcases List.mem_cons.mp hw9 with rfl | hw9
      · rfl
      · exact hot _ hw9
  · refine ⟨1, rfl, by omega, rfl, ⟨?_, hP.2⟩, Nat.le_trans hS.1 h2, fun q hq hA => ?_⟩
    · exact hP.1.kept fun k x hk => h3 x.1 ((hP.1 k x hk).lt)
    · rw [h3 q (Nat.lt_of_lt_of_le hq hS.1)]
      exact hS.2.1 q hq hA
end CALLS
