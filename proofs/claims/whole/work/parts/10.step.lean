/-! one step of ours is one of the machine's -/
def sl (n : Nat) : Nat := ((layL.take n).map (·.2)).sum
def cnt (w : Wd) : Nat := gN w + gE w
def slt (w : Wd) : Nat := sl (gN w) + 6 * gE w
def okS (w : Wd) (S : List AV) : Prop := ∀ v ∈ S, okV w v
def okL (w : Wd) (L : List (Option AV)) : Prop := ∀ (i : Nat) (v : AV), L[i]? = some (some v) → okV w v
theorem okS_c {w : Wd} {v : AV} {S : List AV} (h : okV w v) (hS : okS w S) : okS w (v :: S) := fun u hu => (List.mem_cons.mp hu).elim (fun e => e ▸ h) (hS u)
theorem okS_h {w : Wd} {v : AV} {S : List AV} (h : okS w (v :: S)) : okV w v := h v List.mem_cons_self
theorem okS_t {w : Wd} {v : AV} {S : List AV} (h : okS w (v :: S)) : okS w S := fun u hu => h u (List.mem_cons_of_mem _ hu)
def St (X : PR) (nL : Nat) (s : State) (H : Heap) (locs : List Loc) (ls : Array Slot) (L : List (Option AV)) (S : List AV) (w : Wd) : Prop :=
  va_S (AX X) s.heap H locs ∧ Pic X w H ∧ FR X ls nL L ∧ okL w L ∧ okS w S
def Ctx (X : PR) (l : Launch) (mi : Nat) (p : Program) (s : State) (m : MethodId) (args : Array Value) (meth : Method) (c : Code) : Prop :=
  p.tables.exec = Jvm.exec ∧ c.code = mB mi ∧ c.maxLocals = mL mi ∧ meth.sig.returnType = retT (mRc mi) ∧ s.vm.findClass (ownN (mOwn mi)) = some m.cls ∧ meth.locks = false ∧ meth.name = (mY mi).name ∧
  (c.exceptionTable.toList = (match mH mi with | none => [] | some hh => tableOf hh)) ∧ (∀ w ∈ GT, w.before args s = true) ∧ EnvX X s ∧ xB X ≤ s.heap.size ∧ l.stackTraces = false
theorem exN_some {len pc : Nat} {L : List (Option AV)} {w : Wd} {o : Option (List AV)} {c : Act} (h : exN len pc L w o = some c) : ∃ S, o = some S ∧ c = Sum.inl (pc + len, L, S, w) := by
  cases o with
  | none => cases h
  | some S => exact ⟨S, rfl, (Option.some.inj h).symm⟩
theorem jmp_some {pc t : Nat} {off : Int} (h : jmp pc off = some t) : (pc : Int) + off = (t : Int) := by
  unfold jmp at h
  split at h
  · cases h; omega
  · cases h
theorem exJ_some {pc : Nat} {off : Int} {L : List (Option AV)} {S : List AV} {w : Wd} {c : Act} (h : exJ pc off L S w = some c) : ∃ t : Nat, (pc : Int) + off = (t : Int) ∧ c = Sum.inl (t, L, S, w) := by
  unfold exJ at h
  cases hj : jmp pc off with
  | none => rw [hj] at h; cases h
  | some t => rw [hj] at h; exact ⟨t, jmp_some hj, (Option.some.inj h).symm⟩
theorem exIf_some {len pc : Nat} {off : Int} {L : List (Option AV)} {S : List AV} {w : Wd} {b : Bool} {c : Act} (h : exIf len pc off L S w b = some c) : ∃ t : Nat, (pc : Int) + off = (t : Int) ∧ c = Sum.inl (if b then t else pc + len, L, S, w) := by
  unfold exIf at h
  cases hj : jmp pc off with
  | none => rw [hj] at h; cases h
  | some t => rw [hj] at h; exact ⟨t, jmp_some hj, (Option.some.inj h).symm⟩
theorem st1_some {f : Int → Int} {S S' : List AV} (h : st1 f S = some S') : ∃ x S0, S = .inl x :: S0 ∧ S' = .inl (f x) :: S0 := by
  unfold st1 at h
  split at h
  · exact ⟨_, _, rfl, (Option.some.inj h).symm⟩
  · cases h
theorem st2_some {f : Int → Int → Int} {S S' : List AV} (h : st2 f S = some S') : ∃ x y S0, S = .inl y :: .inl x :: S0 ∧ S' = .inl (f x y) :: S0 := by
  unfold st2 at h
  split at h
  · exact ⟨_, _, _, rfl, (Option.some.inj h).symm⟩
  · cases h
theorem st2g_some {f : Int → Int → Int} {S S' : List AV} (h : st2g f S = some S') : ∃ x y S0, S = .inl y :: .inl x :: S0 ∧ S' = .inl (f x y) :: S0 ∧ y ≠ 0 := by
  unfold st2g at h
  split at h
  · split at h
    · cases h
    · rename_i hy
      exact ⟨_, _, _, rfl, (Option.some.inj h).symm, hy⟩
  · cases h
theorem st2L_some {f : Int → Int → Int} {S S' : List AV} (h : st2L f S = some S') : ∃ x y S0, S = .inr (.inr y) :: .inr (.inr x) :: S0 ∧ S' = .inr (.inr (f x y)) :: S0 := by
  unfold st2L at h
  split at h
  · exact ⟨_, _, _, rfl, (Option.some.inj h).symm⟩
  · cases h
theorem ldV_some {p : AV → Bool} {L : List (Option AV)} {k : Nat} {S S' : List AV} (h : (ldV p L k).map (· :: S) = some S') : ∃ v, L[k]? = some (some v) ∧ p v = true ∧ S' = v :: S := by
  unfold ldV at h
  split at h
  · rename_i v hv
    split at h
    · rename_i hp
      exact ⟨v, hv, hp, (Option.some.inj h).symm⟩
    · cases h
  · cases h
theorem fR_ok {w : Wd} {x : Int32} : okV w (.inl x.toInt) := ok_toInt x
section STEP
variable {X : PR} {l : Launch} {mi : Nat} {p : Program} {e : Env} {R : Room} {s : State} {m : MethodId} {args : Array Value} {below : List Frame} {meth : Method} {c : Code} {H : Heap} {locs : List Loc} {cells slots : Nat} {Q : State → Prop} {ls : Array Slot} {pc len : Nat} {L : List (Option AV)} {S : List AV} {w : Wd} {c' : Cfg}

theorem sx_iadd (hC : Ctx X l mi p s m args meth c) (hd : decode (mB mi) pc = .ok (.iadd, len)) (hlen : okLen (.iadd) len = true) (he : exec0 mi (.iadd) len pc L S w = some (.inl c')) (hst : St X (mL mi) s H locs ls L S w)
    (K : ∀ ls' : Array Slot, St X (mL mi) s H locs ls' c'.2.1 c'.2.2.1 w → W p l e R s m args below meth c H locs cells slots Q (F0 m c'.1 ls' (c'.2.2.1.map (cv X)))) : c'.2.2.2 = w ∧ W p l e R s m args below meth c H locs cells slots Q (F0 m pc ls (S.map (cv X))) := by
  obtain ⟨hx, hb, hml, hr, hown, hlk, hnm, htab, hts, hE, hB, hl⟩ := hC
  obtain ⟨hS, hP, hF, hoL, hoS⟩ := id hst
  dsimp only [exec0] at he
  obtain ⟨S1, h1, hc⟩ := exN_some he
  cases hc
  obtain ⟨x, y, S0, rfl, rfl⟩ := st2_some h1
  obtain rfl : len = 1 := by simpa [okLen] using hlen
  refine ⟨rfl, lv_iadd (x := i32 x) (y := i32 y) (rest := S0.map (cv X)) hx hb hd ?_⟩
  rw [← i32_add]
  exact K ls ⟨hS, hP, hF, hoL, okS_c (wr_ok _) (okS_t (okS_t hoS))⟩
theorem sx_isub (hC : Ctx X l mi p s m args meth c) (hd : decode (mB mi) pc = .ok (.isub, len)) (hlen : okLen (.isub) len = true) (he : exec0 mi (.isub) len pc L S w = some (.inl c')) (hst : St X (mL mi) s H locs ls L S w)
    (K : ∀ ls' : Array Slot, St X (mL mi) s H locs ls' c'.2.1 c'.2.2.1 w → W p l e R s m args below meth c H locs cells slots Q (F0 m c'.1 ls' (c'.2.2.1.map (cv X)))) : c'.2.2.2 = w ∧ W p l e R s m args below meth c H locs cells slots Q (F0 m pc ls (S.map (cv X))) := by
  obtain ⟨hx, hb, hml, hr, hown, hlk, hnm, htab, hts, hE, hB, hl⟩ := hC
  obtain ⟨hS, hP, hF, hoL, hoS⟩ := id hst
  dsimp only [exec0] at he
  obtain ⟨S1, h1, hc⟩ := exN_some he
  cases hc
  obtain ⟨x, y, S0, rfl, rfl⟩ := st2_some h1
  obtain rfl : len = 1 := by simpa [okLen] using hlen
  refine ⟨rfl, lv_isub (x := i32 x) (y := i32 y) (rest := S0.map (cv X)) hx hb hd ?_⟩
  rw [← i32_sub]
  exact K ls ⟨hS, hP, hF, hoL, okS_c (wr_ok _) (okS_t (okS_t hoS))⟩
theorem sx_imul (hC : Ctx X l mi p s m args meth c) (hd : decode (mB mi) pc = .ok (.imul, len)) (hlen : okLen (.imul) len = true) (he : exec0 mi (.imul) len pc L S w = some (.inl c')) (hst : St X (mL mi) s H locs ls L S w)
    (K : ∀ ls' : Array Slot, St X (mL mi) s H locs ls' c'.2.1 c'.2.2.1 w → W p l e R s m args below meth c H locs cells slots Q (F0 m c'.1 ls' (c'.2.2.1.map (cv X)))) : c'.2.2.2 = w ∧ W p l e R s m args below meth c H locs cells slots Q (F0 m pc ls (S.map (cv X))) := by
  obtain ⟨hx, hb, hml, hr, hown, hlk, hnm, htab, hts, hE, hB, hl⟩ := hC
  obtain ⟨hS, hP, hF, hoL, hoS⟩ := id hst
  dsimp only [exec0] at he
  obtain ⟨S1, h1, hc⟩ := exN_some he
  cases hc
  obtain ⟨x, y, S0, rfl, rfl⟩ := st2_some h1
  obtain rfl : len = 1 := by simpa [okLen] using hlen
  refine ⟨rfl, lv_imul (x := i32 x) (y := i32 y) (rest := S0.map (cv X)) hx hb hd ?_⟩
  rw [← i32_mul]
  exact K ls ⟨hS, hP, hF, hoL, okS_c (wr_ok _) (okS_t (okS_t hoS))⟩
theorem sx_iand (hC : Ctx X l mi p s m args meth c) (hd : decode (mB mi) pc = .ok (.iand, len)) (hlen : okLen (.iand) len = true) (he : exec0 mi (.iand) len pc L S w = some (.inl c')) (hst : St X (mL mi) s H locs ls L S w)
    (K : ∀ ls' : Array Slot, St X (mL mi) s H locs ls' c'.2.1 c'.2.2.1 w → W p l e R s m args below meth c H locs cells slots Q (F0 m c'.1 ls' (c'.2.2.1.map (cv X)))) : c'.2.2.2 = w ∧ W p l e R s m args below meth c H locs cells slots Q (F0 m pc ls (S.map (cv X))) := by
  obtain ⟨hx, hb, hml, hr, hown, hlk, hnm, htab, hts, hE, hB, hl⟩ := hC
  obtain ⟨hS, hP, hF, hoL, hoS⟩ := id hst
  dsimp only [exec0] at he
  obtain ⟨S1, h1, hc⟩ := exN_some he
  cases hc
  obtain ⟨x, y, S0, rfl, rfl⟩ := st2_some h1
  obtain rfl : len = 1 := by simpa [okLen] using hlen
  refine ⟨rfl, lv_iand (x := i32 x) (y := i32 y) (rest := S0.map (cv X)) hx hb hd ?_⟩
  rw [← i32_t (i32 x &&& i32 y)]
  exact K ls ⟨hS, hP, hF, hoL, okS_c (ok_toInt _) (okS_t (okS_t hoS))⟩
theorem sx_ior (hC : Ctx X l mi p s m args meth c) (hd : decode (mB mi) pc = .ok (.ior, len)) (hlen : okLen (.ior) len = true) (he : exec0 mi (.ior) len pc L S w = some (.inl c')) (hst : St X (mL mi) s H locs ls L S w)
    (K : ∀ ls' : Array Slot, St X (mL mi) s H locs ls' c'.2.1 c'.2.2.1 w → W p l e R s m args below meth c H locs cells slots Q (F0 m c'.1 ls' (c'.2.2.1.map (cv X)))) : c'.2.2.2 = w ∧ W p l e R s m args below meth c H locs cells slots Q (F0 m pc ls (S.map (cv X))) := by
  obtain ⟨hx, hb, hml, hr, hown, hlk, hnm, htab, hts, hE, hB, hl⟩ := hC
  obtain ⟨hS, hP, hF, hoL, hoS⟩ := id hst
  dsimp only [exec0] at he
  obtain ⟨S1, h1, hc⟩ := exN_some he
  cases hc
  obtain ⟨x, y, S0, rfl, rfl⟩ := st2_some h1
  obtain rfl : len = 1 := by simpa [okLen] using hlen
  refine ⟨rfl, lv_ior (x := i32 x) (y := i32 y) (rest := S0.map (cv X)) hx hb hd ?_⟩
  rw [← i32_t (i32 x ||| i32 y)]
  exact K ls ⟨hS, hP, hF, hoL, okS_c (ok_toInt _) (okS_t (okS_t hoS))⟩
theorem sx_ixor (hC : Ctx X l mi p s m args meth c) (hd : decode (mB mi) pc = .ok (.ixor, len)) (hlen : okLen (.ixor) len = true) (he : exec0 mi (.ixor) len pc L S w = some (.inl c')) (hst : St X (mL mi) s H locs ls L S w)
    (K : ∀ ls' : Array Slot, St X (mL mi) s H locs ls' c'.2.1 c'.2.2.1 w → W p l e R s m args below meth c H locs cells slots Q (F0 m c'.1 ls' (c'.2.2.1.map (cv X)))) : c'.2.2.2 = w ∧ W p l e R s m args below meth c H locs cells slots Q (F0 m pc ls (S.map (cv X))) := by
  obtain ⟨hx, hb, hml, hr, hown, hlk, hnm, htab, hts, hE, hB, hl⟩ := hC
  obtain ⟨hS, hP, hF, hoL, hoS⟩ := id hst
  dsimp only [exec0] at he
  obtain ⟨S1, h1, hc⟩ := exN_some he
  cases hc
  obtain ⟨x, y, S0, rfl, rfl⟩ := st2_some h1
  obtain rfl : len = 1 := by simpa [okLen] using hlen
  refine ⟨rfl, lv_ixor (x := i32 x) (y := i32 y) (rest := S0.map (cv X)) hx hb hd ?_⟩
  rw [← i32_t (i32 x ^^^ i32 y)]
  exact K ls ⟨hS, hP, hF, hoL, okS_c (ok_toInt _) (okS_t (okS_t hoS))⟩
theorem sx_ishl (hC : Ctx X l mi p s m args meth c) (hd : decode (mB mi) pc = .ok (.ishl, len)) (hlen : okLen (.ishl) len = true) (he : exec0 mi (.ishl) len pc L S w = some (.inl c')) (hst : St X (mL mi) s H locs ls L S w)
    (K : ∀ ls' : Array Slot, St X (mL mi) s H locs ls' c'.2.1 c'.2.2.1 w → W p l e R s m args below meth c H locs cells slots Q (F0 m c'.1 ls' (c'.2.2.1.map (cv X)))) : c'.2.2.2 = w ∧ W p l e R s m args below meth c H locs cells slots Q (F0 m pc ls (S.map (cv X))) := by
  obtain ⟨hx, hb, hml, hr, hown, hlk, hnm, htab, hts, hE, hB, hl⟩ := hC
  obtain ⟨hS, hP, hF, hoL, hoS⟩ := id hst
  dsimp only [exec0] at he
  obtain ⟨S1, h1, hc⟩ := exN_some he
  cases hc
  obtain ⟨x, y, S0, rfl, rfl⟩ := st2_some h1
  obtain rfl : len = 1 := by simpa [okLen] using hlen
  refine ⟨rfl, lv_ishl (x := i32 x) (y := i32 y) (rest := S0.map (cv X)) hx hb hd ?_⟩
  rw [← i32_t (i32 x <<< (i32 y &&& 31))]
  exact K ls ⟨hS, hP, hF, hoL, okS_c (ok_toInt _) (okS_t (okS_t hoS))⟩
theorem sx_ishr (hC : Ctx X l mi p s m args meth c) (hd : decode (mB mi) pc = .ok (.ishr, len)) (hlen : okLen (.ishr) len = true) (he : exec0 mi (.ishr) len pc L S w = some (.inl c')) (hst : St X (mL mi) s H locs ls L S w)
    (K : ∀ ls' : Array Slot, St X (mL mi) s H locs ls' c'.2.1 c'.2.2.1 w → W p l e R s m args below meth c H locs cells slots Q (F0 m c'.1 ls' (c'.2.2.1.map (cv X)))) : c'.2.2.2 = w ∧ W p l e R s m args below meth c H locs cells slots Q (F0 m pc ls (S.map (cv X))) := by
  obtain ⟨hx, hb, hml, hr, hown, hlk, hnm, htab, hts, hE, hB, hl⟩ := hC
  obtain ⟨hS, hP, hF, hoL, hoS⟩ := id hst
  dsimp only [exec0] at he
  obtain ⟨S1, h1, hc⟩ := exN_some he
  cases hc
  obtain ⟨x, y, S0, rfl, rfl⟩ := st2_some h1
  obtain rfl : len = 1 := by simpa [okLen] using hlen
  refine ⟨rfl, lv_ishr (x := i32 x) (y := i32 y) (rest := S0.map (cv X)) hx hb hd ?_⟩
  rw [← i32_t (i32 x >>> (i32 y &&& 31))]
  exact K ls ⟨hS, hP, hF, hoL, okS_c (ok_toInt _) (okS_t (okS_t hoS))⟩
theorem sx_iushr (hC : Ctx X l mi p s m args meth c) (hd : decode (mB mi) pc = .ok (.iushr, len)) (hlen : okLen (.iushr) len = true) (he : exec0 mi (.iushr) len pc L S w = some (.inl c')) (hst : St X (mL mi) s H locs ls L S w)
    (K : ∀ ls' : Array Slot, St X (mL mi) s H locs ls' c'.2.1 c'.2.2.1 w → W p l e R s m args below meth c H locs cells slots Q (F0 m c'.1 ls' (c'.2.2.1.map (cv X)))) : c'.2.2.2 = w ∧ W p l e R s m args below meth c H locs cells slots Q (F0 m pc ls (S.map (cv X))) := by
  obtain ⟨hx, hb, hml, hr, hown, hlk, hnm, htab, hts, hE, hB, hl⟩ := hC
  obtain ⟨hS, hP, hF, hoL, hoS⟩ := id hst
  dsimp only [exec0] at he
  obtain ⟨S1, h1, hc⟩ := exN_some he
  cases hc
  obtain ⟨x, y, S0, rfl, rfl⟩ := st2_some h1
  obtain rfl : len = 1 := by simpa [okLen] using hlen
  refine ⟨rfl, lv_iushr (x := i32 x) (y := i32 y) (rest := S0.map (cv X)) hx hb hd (i32_t _).symm ?_⟩
  exact K ls ⟨hS, hP, hF, hoL, okS_c (ok_toInt _) (okS_t (okS_t hoS))⟩
theorem sx_i2b (hC : Ctx X l mi p s m args meth c) (hd : decode (mB mi) pc = .ok (.i2b, len)) (hlen : okLen (.i2b) len = true) (he : exec0 mi (.i2b) len pc L S w = some (.inl c')) (hst : St X (mL mi) s H locs ls L S w)
    (K : ∀ ls' : Array Slot, St X (mL mi) s H locs ls' c'.2.1 c'.2.2.1 w → W p l e R s m args below meth c H locs cells slots Q (F0 m c'.1 ls' (c'.2.2.1.map (cv X)))) : c'.2.2.2 = w ∧ W p l e R s m args below meth c H locs cells slots Q (F0 m pc ls (S.map (cv X))) := by
  obtain ⟨hx, hb, hml, hr, hown, hlk, hnm, htab, hts, hE, hB, hl⟩ := hC
  obtain ⟨hS, hP, hF, hoL, hoS⟩ := id hst
  dsimp only [exec0] at he
  obtain ⟨S1, h1, hc⟩ := exN_some he
  cases hc
  obtain ⟨x, S0, rfl, rfl⟩ := st1_some h1
  obtain rfl : len = 1 := by simpa [okLen] using hlen
  refine ⟨rfl, lv_i2b (x := i32 x) (rest := S0.map (cv X)) hx hb hd (i32_t _).symm ?_⟩
  exact K ls ⟨hS, hP, hF, hoL, okS_c (ok_toInt _) (okS_t hoS)⟩
theorem sx_i2c (hC : Ctx X l mi p s m args meth c) (hd : decode (mB mi) pc = .ok (.i2c, len)) (hlen : okLen (.i2c) len = true) (he : exec0 mi (.i2c) len pc L S w = some (.inl c')) (hst : St X (mL mi) s H locs ls L S w)
    (K : ∀ ls' : Array Slot, St X (mL mi) s H locs ls' c'.2.1 c'.2.2.1 w → W p l e R s m args below meth c H locs cells slots Q (F0 m c'.1 ls' (c'.2.2.1.map (cv X)))) : c'.2.2.2 = w ∧ W p l e R s m args below meth c H locs cells slots Q (F0 m pc ls (S.map (cv X))) := by
  obtain ⟨hx, hb, hml, hr, hown, hlk, hnm, htab, hts, hE, hB, hl⟩ := hC
  obtain ⟨hS, hP, hF, hoL, hoS⟩ := id hst
  dsimp only [exec0] at he
  obtain ⟨S1, h1, hc⟩ := exN_some he
  cases hc
  obtain ⟨x, S0, rfl, rfl⟩ := st1_some h1
  obtain rfl : len = 1 := by simpa [okLen] using hlen
  refine ⟨rfl, lv_i2c (x := i32 x) (rest := S0.map (cv X)) hx hb hd (i32_t _).symm ?_⟩
  exact K ls ⟨hS, hP, hF, hoL, okS_c (ok_toInt _) (okS_t hoS)⟩
theorem sx_ineg (hC : Ctx X l mi p s m args meth c) (hd : decode (mB mi) pc = .ok (.ineg, len)) (hlen : okLen (.ineg) len = true) (he : exec0 mi (.ineg) len pc L S w = some (.inl c')) (hst : St X (mL mi) s H locs ls L S w)
    (K : ∀ ls' : Array Slot, St X (mL mi) s H locs ls' c'.2.1 c'.2.2.1 w → W p l e R s m args below meth c H locs cells slots Q (F0 m c'.1 ls' (c'.2.2.1.map (cv X)))) : c'.2.2.2 = w ∧ W p l e R s m args below meth c H locs cells slots Q (F0 m pc ls (S.map (cv X))) := by
  obtain ⟨hx, hb, hml, hr, hown, hlk, hnm, htab, hts, hE, hB, hl⟩ := hC
  obtain ⟨hS, hP, hF, hoL, hoS⟩ := id hst
  dsimp only [exec0] at he
  obtain ⟨S1, h1, hc⟩ := exN_some he
  cases hc
  obtain ⟨x, S0, rfl, rfl⟩ := st1_some h1
  obtain rfl : len = 1 := by simpa [okLen] using hlen
  refine ⟨rfl, lv_ineg (x := i32 x) (rest := S0.map (cv X)) hx hb hd ?_⟩
  rw [← i32_neg]
  exact K ls ⟨hS, hP, hF, hoL, okS_c (wr_ok _) (okS_t hoS)⟩
theorem sx_idiv (hC : Ctx X l mi p s m args meth c) (hd : decode (mB mi) pc = .ok (.idiv, len)) (hlen : okLen (.idiv) len = true) (he : exec0 mi (.idiv) len pc L S w = some (.inl c')) (hst : St X (mL mi) s H locs ls L S w)
    (K : ∀ ls' : Array Slot, St X (mL mi) s H locs ls' c'.2.1 c'.2.2.1 w → W p l e R s m args below meth c H locs cells slots Q (F0 m c'.1 ls' (c'.2.2.1.map (cv X)))) : c'.2.2.2 = w ∧ W p l e R s m args below meth c H locs cells slots Q (F0 m pc ls (S.map (cv X))) := by
  obtain ⟨hx, hb, hml, hr, hown, hlk, hnm, htab, hts, hE, hB, hl⟩ := hC
  obtain ⟨hS, hP, hF, hoL, hoS⟩ := id hst
  dsimp only [exec0] at he
  obtain ⟨S1, h1, hc⟩ := exN_some he
  cases hc
  obtain ⟨x, y, S0, rfl, rfl, hy⟩ := st2g_some h1
  obtain rfl : len = 1 := by simpa [okLen] using hlen
  have oy : okI y := okS_h hoS
  have ox : okI x := okS_h (okS_t hoS)
  refine ⟨rfl, lv_idiv (x := i32 x) (y := i32 y) (rest := S0.map (cv X)) hx hb hd (fun q => hy ((i32_eq0 oy).mp q)) ?_⟩
  rw [← i32_div ox oy]
  exact K ls ⟨hS, hP, hF, hoL, okS_c (wr_ok _) (okS_t (okS_t hoS))⟩
theorem sx_irem (hC : Ctx X l mi p s m args meth c) (hd : decode (mB mi) pc = .ok (.irem, len)) (hlen : okLen (.irem) len = true) (he : exec0 mi (.irem) len pc L S w = some (.inl c')) (hst : St X (mL mi) s H locs ls L S w)
    (K : ∀ ls' : Array Slot, St X (mL mi) s H locs ls' c'.2.1 c'.2.2.1 w → W p l e R s m args below meth c H locs cells slots Q (F0 m c'.1 ls' (c'.2.2.1.map (cv X)))) : c'.2.2.2 = w ∧ W p l e R s m args below meth c H locs cells slots Q (F0 m pc ls (S.map (cv X))) := by
  obtain ⟨hx, hb, hml, hr, hown, hlk, hnm, htab, hts, hE, hB, hl⟩ := hC
  obtain ⟨hS, hP, hF, hoL, hoS⟩ := id hst
  dsimp only [exec0] at he
  obtain ⟨S1, h1, hc⟩ := exN_some he
  cases hc
  obtain ⟨x, y, S0, rfl, rfl, hy⟩ := st2g_some h1
  obtain rfl : len = 1 := by simpa [okLen] using hlen
  have oy : okI y := okS_h hoS
  have ox : okI x := okS_h (okS_t hoS)
  refine ⟨rfl, lv_irem (x := i32 x) (y := i32 y) (rest := S0.map (cv X)) hx hb hd (fun q => hy ((i32_eq0 oy).mp q)) ?_⟩
  rw [← i32_rem ox oy]
  have hm : okI (Int.tmod x y) := by
    have h := ok_toInt (i32 x % i32 y)
    rwa [Int32.toInt_mod, tI ox, tI oy] at h
  exact K ls ⟨hS, hP, hF, hoL, okS_c hm (okS_t (okS_t hoS))⟩
theorem sx_i2l (hC : Ctx X l mi p s m args meth c) (hd : decode (mB mi) pc = .ok (.i2l, len)) (hlen : okLen (.i2l) len = true) (he : exec0 mi (.i2l) len pc L S w = some (.inl c')) (hst : St X (mL mi) s H locs ls L S w)
    (K : ∀ ls' : Array Slot, St X (mL mi) s H locs ls' c'.2.1 c'.2.2.1 w → W p l e R s m args below meth c H locs cells slots Q (F0 m c'.1 ls' (c'.2.2.1.map (cv X)))) : c'.2.2.2 = w ∧ W p l e R s m args below meth c H locs cells slots Q (F0 m pc ls (S.map (cv X))) := by
  obtain ⟨hx, hb, hml, hr, hown, hlk, hnm, htab, hts, hE, hB, hl⟩ := hC
  obtain ⟨hS, hP, hF, hoL, hoS⟩ := id hst
  dsimp only [exec0] at he
  obtain ⟨S1, h1, hc⟩ := exN_some he
  cases hc
  split at h1
  · cases h1
    rename_i x S0
    obtain rfl : len = 1 := by simpa [okLen] using hlen
    have ox : okI x := okS_h hoS
    refine ⟨rfl, lv_i2l (x := i32 x) (rest := S0.map (cv X)) hx hb hd (i32_64 ox) ?_⟩
    exact K ls ⟨hS, hP, hF, hoL, okS_c (ok_IJ ox) (okS_t hoS)⟩
  · cases h1
theorem sx_land (hC : Ctx X l mi p s m args meth c) (hd : decode (mB mi) pc = .ok (.land, len)) (hlen : okLen (.land) len = true) (he : exec0 mi (.land) len pc L S w = some (.inl c')) (hst : St X (mL mi) s H locs ls L S w)
    (K : ∀ ls' : Array Slot, St X (mL mi) s H locs ls' c'.2.1 c'.2.2.1 w → W p l e R s m args below meth c H locs cells slots Q (F0 m c'.1 ls' (c'.2.2.1.map (cv X)))) : c'.2.2.2 = w ∧ W p l e R s m args below meth c H locs cells slots Q (F0 m pc ls (S.map (cv X))) := by
  obtain ⟨hx, hb, hml, hr, hown, hlk, hnm, htab, hts, hE, hB, hl⟩ := hC
  obtain ⟨hS, hP, hF, hoL, hoS⟩ := id hst
  dsimp only [exec0] at he
  obtain ⟨S1, h1, hc⟩ := exN_some he
  cases hc
  obtain ⟨x, y, S0, rfl, rfl⟩ := st2L_some h1
  obtain rfl : len = 1 := by simpa [okLen] using hlen
  refine ⟨rfl, lv_land (x := i64 x) (y := i64 y) (rest := S0.map (cv X)) hx hb hd ?_⟩
  rw [← i64_t (i64 x &&& i64 y)]
  exact K ls ⟨hS, hP, hF, hoL, okS_c (ok_toJ _) (okS_t (okS_t hoS))⟩
theorem sx_lor (hC : Ctx X l mi p s m args meth c) (hd : decode (mB mi) pc = .ok (.lor, len)) (hlen : okLen (.lor) len = true) (he : exec0 mi (.lor) len pc L S w = some (.inl c')) (hst : St X (mL mi) s H locs ls L S w)
    (K : ∀ ls' : Array Slot, St X (mL mi) s H locs ls' c'.2.1 c'.2.2.1 w → W p l e R s m args below meth c H locs cells slots Q (F0 m c'.1 ls' (c'.2.2.1.map (cv X)))) : c'.2.2.2 = w ∧ W p l e R s m args below meth c H locs cells slots Q (F0 m pc ls (S.map (cv X))) := by
  obtain ⟨hx, hb, hml, hr, hown, hlk, hnm, htab, hts, hE, hB, hl⟩ := hC
  obtain ⟨hS, hP, hF, hoL, hoS⟩ := id hst
  dsimp only [exec0] at he
  obtain ⟨S1, h1, hc⟩ := exN_some he
  cases hc
  obtain ⟨x, y, S0, rfl, rfl⟩ := st2L_some h1
  obtain rfl : len = 1 := by simpa [okLen] using hlen
  refine ⟨rfl, lv_lor (x := i64 x) (y := i64 y) (rest := S0.map (cv X)) hx hb hd ?_⟩
  rw [← i64_t (i64 x ||| i64 y)]
  exact K ls ⟨hS, hP, hF, hoL, okS_c (ok_toJ _) (okS_t (okS_t hoS))⟩
theorem sx_lshl (hC : Ctx X l mi p s m args meth c) (hd : decode (mB mi) pc = .ok (.lshl, len)) (hlen : okLen (.lshl) len = true) (he : exec0 mi (.lshl) len pc L S w = some (.inl c')) (hst : St X (mL mi) s H locs ls L S w)
    (K : ∀ ls' : Array Slot, St X (mL mi) s H locs ls' c'.2.1 c'.2.2.1 w → W p l e R s m args below meth c H locs cells slots Q (F0 m c'.1 ls' (c'.2.2.1.map (cv X)))) : c'.2.2.2 = w ∧ W p l e R s m args below meth c H locs cells slots Q (F0 m pc ls (S.map (cv X))) := by
  obtain ⟨hx, hb, hml, hr, hown, hlk, hnm, htab, hts, hE, hB, hl⟩ := hC
  obtain ⟨hS, hP, hF, hoL, hoS⟩ := id hst
  dsimp only [exec0] at he
  obtain ⟨S1, h1, hc⟩ := exN_some he
  cases hc
  split at h1
  · cases h1
    rename_i y x S0
    obtain rfl : len = 1 := by simpa [okLen] using hlen
    refine ⟨rfl, lv_lshl (x := i64 x) (y := i32 y) (rest := S0.map (cv X)) hx hb hd (i64_t _).symm ?_⟩
    exact K ls ⟨hS, hP, hF, hoL, okS_c (ok_toJ _) (okS_t (okS_t hoS))⟩
  · cases h1
theorem sx_lcmp (hC : Ctx X l mi p s m args meth c) (hd : decode (mB mi) pc = .ok (.lcmp, len)) (hlen : okLen (.lcmp) len = true) (he : exec0 mi (.lcmp) len pc L S w = some (.inl c')) (hst : St X (mL mi) s H locs ls L S w)
    (K : ∀ ls' : Array Slot, St X (mL mi) s H locs ls' c'.2.1 c'.2.2.1 w → W p l e R s m args below meth c H locs cells slots Q (F0 m c'.1 ls' (c'.2.2.1.map (cv X)))) : c'.2.2.2 = w ∧ W p l e R s m args below meth c H locs cells slots Q (F0 m pc ls (S.map (cv X))) := by
  obtain ⟨hx, hb, hml, hr, hown, hlk, hnm, htab, hts, hE, hB, hl⟩ := hC
  obtain ⟨hS, hP, hF, hoL, hoS⟩ := id hst
  dsimp only [exec0] at he
  obtain ⟨S1, h1, hc⟩ := exN_some he
  cases hc
  split at h1
  · cases h1
    rename_i y x S0
    obtain rfl : len = 1 := by simpa [okLen] using hlen
    have oy : okJ y := okS_h hoS
    have ox : okJ x := okS_h (okS_t hoS)
    refine ⟨rfl, W.lcmp (x := i64 x) (y := i64 y) (rest := S0.map (cv X)) hx hb hd ?_⟩
    rw [← lcmp_ok ox oy]
    refine K ls ⟨hS, hP, hF, hoL, okS_c ?_ (okS_t (okS_t hoS))⟩
    show okI (lCmp x y)
    unfold lCmp okI
    split
    · omega
    · split <;> omega
  · cases h1
theorem sx_aconst_null (hC : Ctx X l mi p s m args meth c) (hd : decode (mB mi) pc = .ok (.aconst_null, len)) (hlen : okLen (.aconst_null) len = true) (he : exec0 mi (.aconst_null) len pc L S w = some (.inl c')) (hst : St X (mL mi) s H locs ls L S w)
    (K : ∀ ls' : Array Slot, St X (mL mi) s H locs ls' c'.2.1 c'.2.2.1 w → W p l e R s m args below meth c H locs cells slots Q (F0 m c'.1 ls' (c'.2.2.1.map (cv X)))) : c'.2.2.2 = w ∧ W p l e R s m args below meth c H locs cells slots Q (F0 m pc ls (S.map (cv X))) := by
  obtain ⟨hx, hb, hml, hr, hown, hlk, hnm, htab, hts, hE, hB, hl⟩ := hC
  obtain ⟨hS, hP, hF, hoL, hoS⟩ := id hst
  dsimp only [exec0] at he
  obtain ⟨S1, h1, hc⟩ := exN_some he
  cases hc; cases h1
  obtain rfl : len = 1 := by simpa [okLen] using hlen
  refine ⟨rfl, lv_null (rest := S.map (cv X)) hx hb hd ?_⟩
  exact K ls ⟨hS, hP, hF, hoL, okS_c (fun k q => by cases q) hoS⟩
theorem sx_iconst {n : Int} (hC : Ctx X l mi p s m args meth c) (hd : decode (mB mi) pc = .ok (.iconst n, len)) (hlen : okLen (.iconst n) len = true) (he : exec0 mi (.iconst n) len pc L S w = some (.inl c')) (hst : St X (mL mi) s H locs ls L S w)
    (K : ∀ ls' : Array Slot, St X (mL mi) s H locs ls' c'.2.1 c'.2.2.1 w → W p l e R s m args below meth c H locs cells slots Q (F0 m c'.1 ls' (c'.2.2.1.map (cv X)))) : c'.2.2.2 = w ∧ W p l e R s m args below meth c H locs cells slots Q (F0 m pc ls (S.map (cv X))) := by
  obtain ⟨hx, hb, hml, hr, hown, hlk, hnm, htab, hts, hE, hB, hl⟩ := hC
  obtain ⟨hS, hP, hF, hoL, hoS⟩ := id hst
  dsimp only [exec0] at he
  obtain ⟨S1, h1, hc⟩ := exN_some he
  cases hc
  split at h1
  · cases h1
    rename_i hn
    obtain rfl : len = 1 := by simpa [okLen] using hlen
    refine ⟨rfl, lv_iconst (v := i32 n) (rest := S.map (cv X)) hx hb hd rfl ?_⟩
    exact K ls ⟨hS, hP, hF, hoL, okS_c (show okI n by unfold okI; omega) hoS⟩
  · cases h1
theorem sx_bipush {n : Int} (hC : Ctx X l mi p s m args meth c) (hd : decode (mB mi) pc = .ok (.bipush n, len)) (hlen : okLen (.bipush n) len = true) (he : exec0 mi (.bipush n) len pc L S w = some (.inl c')) (hst : St X (mL mi) s H locs ls L S w)
    (K : ∀ ls' : Array Slot, St X (mL mi) s H locs ls' c'.2.1 c'.2.2.1 w → W p l e R s m args below meth c H locs cells slots Q (F0 m c'.1 ls' (c'.2.2.1.map (cv X)))) : c'.2.2.2 = w ∧ W p l e R s m args below meth c H locs cells slots Q (F0 m pc ls (S.map (cv X))) := by
  obtain ⟨hx, hb, hml, hr, hown, hlk, hnm, htab, hts, hE, hB, hl⟩ := hC
  obtain ⟨hS, hP, hF, hoL, hoS⟩ := id hst
  dsimp only [exec0] at he
  obtain ⟨S1, h1, hc⟩ := exN_some he
  cases hc
  split at h1
  · cases h1
    rename_i hn
    obtain rfl : len = 2 := by simpa [okLen] using hlen
    have hv : (Int8.ofInt n).toInt32 = i32 n := by
      apply Int32.toInt_inj.mp
      rw [Int8.toInt_toInt32, Int8.toInt_ofInt_of_le (by omega) (by omega), tI (by unfold okI; omega)]
    refine ⟨rfl, lv_bipush (v := i32 n) (rest := S.map (cv X)) hx hb hd hv ?_⟩
    exact K ls ⟨hS, hP, hF, hoL, okS_c (show okI n by unfold okI; omega) hoS⟩
  · cases h1
theorem sx_sipush {n : Int} (hC : Ctx X l mi p s m args meth c) (hd : decode (mB mi) pc = .ok (.sipush n, len)) (hlen : okLen (.sipush n) len = true) (he : exec0 mi (.sipush n) len pc L S w = some (.inl c')) (hst : St X (mL mi) s H locs ls L S w)
    (K : ∀ ls' : Array Slot, St X (mL mi) s H locs ls' c'.2.1 c'.2.2.1 w → W p l e R s m args below meth c H locs cells slots Q (F0 m c'.1 ls' (c'.2.2.1.map (cv X)))) : c'.2.2.2 = w ∧ W p l e R s m args below meth c H locs cells slots Q (F0 m pc ls (S.map (cv X))) := by
  obtain ⟨hx, hb, hml, hr, hown, hlk, hnm, htab, hts, hE, hB, hl⟩ := hC
  obtain ⟨hS, hP, hF, hoL, hoS⟩ := id hst
  dsimp only [exec0] at he
  obtain ⟨S1, h1, hc⟩ := exN_some he
  cases hc
  split at h1
  · cases h1
    rename_i hn
    obtain rfl : len = 3 := by simpa [okLen] using hlen
    have hv : (Int16.ofInt n).toInt32 = i32 n := by
      apply Int32.toInt_inj.mp
      rw [Int16.toInt_toInt32, Int16.toInt_ofInt_of_le (by omega) (by omega), tI (by unfold okI; omega)]
    refine ⟨rfl, lv_sipush (v := i32 n) (rest := S.map (cv X)) hx hb hd hv ?_⟩
    exact K ls ⟨hS, hP, hF, hoL, okS_c (show okI n by unfold okI; omega) hoS⟩
  · cases h1
theorem sx_lconst {n : Fin 2} (hC : Ctx X l mi p s m args meth c) (hd : decode (mB mi) pc = .ok (.lconst n, len)) (hlen : okLen (.lconst n) len = true) (he : exec0 mi (.lconst n) len pc L S w = some (.inl c')) (hst : St X (mL mi) s H locs ls L S w)
    (K : ∀ ls' : Array Slot, St X (mL mi) s H locs ls' c'.2.1 c'.2.2.1 w → W p l e R s m args below meth c H locs cells slots Q (F0 m c'.1 ls' (c'.2.2.1.map (cv X)))) : c'.2.2.2 = w ∧ W p l e R s m args below meth c H locs cells slots Q (F0 m pc ls (S.map (cv X))) := by
  obtain ⟨hx, hb, hml, hr, hown, hlk, hnm, htab, hts, hE, hB, hl⟩ := hC
  obtain ⟨hS, hP, hF, hoL, hoS⟩ := id hst
  dsimp only [exec0] at he
  obtain ⟨S1, h1, hc⟩ := exN_some he
  cases hc; cases h1
  obtain rfl : len = 1 := by simpa [okLen] using hlen
  refine ⟨rfl, lv_lconst (v := i64 ((n : Nat) : Int)) (rest := S.map (cv X)) hx hb hd (by match n with | 0 => rfl | 1 => rfl) ?_⟩
  exact K ls ⟨hS, hP, hF, hoL, okS_c (show okJ ((n : Nat) : Int) by have := n.isLt; unfold okJ; omega) hoS⟩
theorem sx_iload {k : Nat} (hC : Ctx X l mi p s m args meth c) (hd : decode (mB mi) pc = .ok (.iload k, len)) (hlen : okLen (.iload k) len = true) (he : exec0 mi (.iload k) len pc L S w = some (.inl c')) (hst : St X (mL mi) s H locs ls L S w)
    (K : ∀ ls' : Array Slot, St X (mL mi) s H locs ls' c'.2.1 c'.2.2.1 w → W p l e R s m args below meth c H locs cells slots Q (F0 m c'.1 ls' (c'.2.2.1.map (cv X)))) : c'.2.2.2 = w ∧ W p l e R s m args below meth c H locs cells slots Q (F0 m pc ls (S.map (cv X))) := by
  obtain ⟨hx, hb, hml, hr, hown, hlk, hnm, htab, hts, hE, hB, hl⟩ := hC
  obtain ⟨hS, hP, hF, hoL, hoS⟩ := id hst
  dsimp only [exec0] at he
  obtain ⟨S1, h1, hc⟩ := exN_some he
  cases hc
  obtain ⟨v, hv, hp, rfl⟩ := ldV_some h1
  obtain rfl : len = 2 := by simpa [okLen] using hlen
  rcases v with x | r | x <;> first | (cases hp; done) | skip
  refine ⟨rfl, lv_iload (x := i32 x) (rest := S.map (cv X)) hx hb hd (hF.2.2.2 _ _ hv) ?_⟩
  exact K ls ⟨hS, hP, hF, hoL, okS_c (hoL _ _ hv) hoS⟩
theorem sx_iload_n {k : Fin 4} (hC : Ctx X l mi p s m args meth c) (hd : decode (mB mi) pc = .ok (.iload_n k, len)) (hlen : okLen (.iload_n k) len = true) (he : exec0 mi (.iload_n k) len pc L S w = some (.inl c')) (hst : St X (mL mi) s H locs ls L S w)
    (K : ∀ ls' : Array Slot, St X (mL mi) s H locs ls' c'.2.1 c'.2.2.1 w → W p l e R s m args below meth c H locs cells slots Q (F0 m c'.1 ls' (c'.2.2.1.map (cv X)))) : c'.2.2.2 = w ∧ W p l e R s m args below meth c H locs cells slots Q (F0 m pc ls (S.map (cv X))) := by
  obtain ⟨hx, hb, hml, hr, hown, hlk, hnm, htab, hts, hE, hB, hl⟩ := hC
  obtain ⟨hS, hP, hF, hoL, hoS⟩ := id hst
  dsimp only [exec0] at he
  obtain ⟨S1, h1, hc⟩ := exN_some he
  cases hc
  obtain ⟨v, hv, hp, rfl⟩ := ldV_some h1
  obtain rfl : len = 1 := by simpa [okLen] using hlen
  rcases v with x | r | x <;> first | (cases hp; done) | skip
  refine ⟨rfl, lv_iload_n (x := i32 x) (rest := S.map (cv X)) hx hb hd rfl (hF.2.2.2 _ _ hv) ?_⟩
  exact K ls ⟨hS, hP, hF, hoL, okS_c (hoL _ _ hv) hoS⟩
theorem sx_lload {k : Nat} (hC : Ctx X l mi p s m args meth c) (hd : decode (mB mi) pc = .ok (.lload k, len)) (hlen : okLen (.lload k) len = true) (he : exec0 mi (.lload k) len pc L S w = some (.inl c')) (hst : St X (mL mi) s H locs ls L S w)
    (K : ∀ ls' : Array Slot, St X (mL mi) s H locs ls' c'.2.1 c'.2.2.1 w → W p l e R s m args below meth c H locs cells slots Q (F0 m c'.1 ls' (c'.2.2.1.map (cv X)))) : c'.2.2.2 = w ∧ W p l e R s m args below meth c H locs cells slots Q (F0 m pc ls (S.map (cv X))) := by
  obtain ⟨hx, hb, hml, hr, hown, hlk, hnm, htab, hts, hE, hB, hl⟩ := hC
  obtain ⟨hS, hP, hF, hoL, hoS⟩ := id hst
  dsimp only [exec0] at he
  obtain ⟨S1, h1, hc⟩ := exN_some he
  cases hc
  obtain ⟨v, hv, hp, rfl⟩ := ldV_some h1
  obtain rfl : len = 2 := by simpa [okLen] using hlen
  rcases v with x | r | x <;> first | (cases hp; done) | skip
  refine ⟨rfl, lv_lload (x := i64 x) (rest := S.map (cv X)) hx hb hd (hF.2.2.2 _ _ hv) ?_⟩
  exact K ls ⟨hS, hP, hF, hoL, okS_c (hoL _ _ hv) hoS⟩
theorem sx_lload_n {k : Fin 4} (hC : Ctx X l mi p s m args meth c) (hd : decode (mB mi) pc = .ok (.lload_n k, len)) (hlen : okLen (.lload_n k) len = true) (he : exec0 mi (.lload_n k) len pc L S w = some (.inl c')) (hst : St X (mL mi) s H locs ls L S w)
    (K : ∀ ls' : Array Slot, St X (mL mi) s H locs ls' c'.2.1 c'.2.2.1 w → W p l e R s m args below meth c H locs cells slots Q (F0 m c'.1 ls' (c'.2.2.1.map (cv X)))) : c'.2.2.2 = w ∧ W p l e R s m args below meth c H locs cells slots Q (F0 m pc ls (S.map (cv X))) := by
  obtain ⟨hx, hb, hml, hr, hown, hlk, hnm, htab, hts, hE, hB, hl⟩ := hC
  obtain ⟨hS, hP, hF, hoL, hoS⟩ := id hst
  dsimp only [exec0] at he
  obtain ⟨S1, h1, hc⟩ := exN_some he
  cases hc
  obtain ⟨v, hv, hp, rfl⟩ := ldV_some h1
  obtain rfl : len = 1 := by simpa [okLen] using hlen
  rcases v with x | r | x <;> first | (cases hp; done) | skip
  refine ⟨rfl, lv_lload_n (x := i64 x) (rest := S.map (cv X)) hx hb hd rfl (hF.2.2.2 _ _ hv) ?_⟩
  exact K ls ⟨hS, hP, hF, hoL, okS_c (hoL _ _ hv) hoS⟩
theorem sx_aload {k : Nat} (hC : Ctx X l mi p s m args meth c) (hd : decode (mB mi) pc = .ok (.aload k, len)) (hlen : okLen (.aload k) len = true) (he : exec0 mi (.aload k) len pc L S w = some (.inl c')) (hst : St X (mL mi) s H locs ls L S w)
    (K : ∀ ls' : Array Slot, St X (mL mi) s H locs ls' c'.2.1 c'.2.2.1 w → W p l e R s m args below meth c H locs cells slots Q (F0 m c'.1 ls' (c'.2.2.1.map (cv X)))) : c'.2.2.2 = w ∧ W p l e R s m args below meth c H locs cells slots Q (F0 m pc ls (S.map (cv X))) := by
  obtain ⟨hx, hb, hml, hr, hown, hlk, hnm, htab, hts, hE, hB, hl⟩ := hC
  obtain ⟨hS, hP, hF, hoL, hoS⟩ := id hst
  dsimp only [exec0] at he
  obtain ⟨S1, h1, hc⟩ := exN_some he
  cases hc
  obtain ⟨v, hv, hp, rfl⟩ := ldV_some h1
  obtain rfl : len = 2 := by simpa [okLen] using hlen
  rcases v with x | r | x <;> first | (cases hp; done) | skip
  have hg := hF.2.2.2 _ _ hv
  have KK := K ls ⟨hS, hP, hF, hoL, okS_c (hoL _ _ hv) hoS⟩
  refine ⟨rfl, ?_⟩
  simp only [List.map_cons, cv, cr] at hg KK
  cases hb2 : r.bind (ad X) with
  | none =>
    rw [hb2] at hg KK
    exact lv_aloadN (rest := S.map (cv X)) hx hb hd hg KK
  | some a =>
    rw [hb2] at hg KK
    exact lv_aload (rest := S.map (cv X)) hx hb hd hg KK
theorem sx_aload_n {k : Fin 4} (hC : Ctx X l mi p s m args meth c) (hd : decode (mB mi) pc = .ok (.aload_n k, len)) (hlen : okLen (.aload_n k) len = true) (he : exec0 mi (.aload_n k) len pc L S w = some (.inl c')) (hst : St X (mL mi) s H locs ls L S w)
    (K : ∀ ls' : Array Slot, St X (mL mi) s H locs ls' c'.2.1 c'.2.2.1 w → W p l e R s m args below meth c H locs cells slots Q (F0 m c'.1 ls' (c'.2.2.1.map (cv X)))) : c'.2.2.2 = w ∧ W p l e R s m args below meth c H locs cells slots Q (F0 m pc ls (S.map (cv X))) := by
  obtain ⟨hx, hb, hml, hr, hown, hlk, hnm, htab, hts, hE, hB, hl⟩ := hC
  obtain ⟨hS, hP, hF, hoL, hoS⟩ := id hst
  dsimp only [exec0] at he
  obtain ⟨S1, h1, hc⟩ := exN_some he
  cases hc
  obtain ⟨v, hv, hp, rfl⟩ := ldV_some h1
  obtain rfl : len = 1 := by simpa [okLen] using hlen
  rcases v with x | r | x <;> first | (cases hp; done) | skip
  have hg := hF.2.2.2 _ _ hv
  have KK := K ls ⟨hS, hP, hF, hoL, okS_c (hoL _ _ hv) hoS⟩
  refine ⟨rfl, ?_⟩
  simp only [List.map_cons, cv, cr] at hg KK
  cases hb2 : r.bind (ad X) with
  | none =>
    rw [hb2] at hg KK
    exact lv_aload_nN (rest := S.map (cv X)) hx hb hd rfl hg KK
  | some a =>
    rw [hb2] at hg KK
    exact lv_aload_n (rest := S.map (cv X)) hx hb hd rfl hg KK
theorem sx_istore {k : Nat} (hC : Ctx X l mi p s m args meth c) (hd : decode (mB mi) pc = .ok (.istore k, len)) (hlen : okLen (.istore k) len = true) (he : exec0 mi (.istore k) len pc L S w = some (.inl c')) (hst : St X (mL mi) s H locs ls L S w)
    (K : ∀ ls' : Array Slot, St X (mL mi) s H locs ls' c'.2.1 c'.2.2.1 w → W p l e R s m args below meth c H locs cells slots Q (F0 m c'.1 ls' (c'.2.2.1.map (cv X)))) : c'.2.2.2 = w ∧ W p l e R s m args below meth c H locs cells slots Q (F0 m pc ls (S.map (cv X))) := by
  obtain ⟨hx, hb, hml, hr, hown, hlk, hnm, htab, hts, hE, hB, hl⟩ := hC
  obtain ⟨hS, hP, hF, hoL, hoS⟩ := id hst
  dsimp only [exec0] at he
  split at he
  · split at he
    · cases he
      rename_i x S0 hk
      obtain rfl : len = 2 := by simpa [okLen] using hlen
      refine ⟨rfl, lv_istore (x := i32 x) (rest := S0.map (cv X)) hx hb hd (FR.has hF) (by rw [← hF.2.1]; exact hk) rfl (fun ls' hl' => ?_)⟩
      refine K ls' ⟨hS, hP, FR.of1 (v := .inl x) hF.2.1 hl', fun i v hi => ?_, okS_t hoS⟩
      rcases stL_get hi with ⟨rfl, q⟩ | ⟨-, q, -⟩
      · cases q; exact okS_h hoS
      · exact hoL _ _ q
    · cases he
  · cases he
theorem sx_istore_n {k : Fin 4} (hC : Ctx X l mi p s m args meth c) (hd : decode (mB mi) pc = .ok (.istore_n k, len)) (hlen : okLen (.istore_n k) len = true) (he : exec0 mi (.istore_n k) len pc L S w = some (.inl c')) (hst : St X (mL mi) s H locs ls L S w)
    (K : ∀ ls' : Array Slot, St X (mL mi) s H locs ls' c'.2.1 c'.2.2.1 w → W p l e R s m args below meth c H locs cells slots Q (F0 m c'.1 ls' (c'.2.2.1.map (cv X)))) : c'.2.2.2 = w ∧ W p l e R s m args below meth c H locs cells slots Q (F0 m pc ls (S.map (cv X))) := by
  obtain ⟨hx, hb, hml, hr, hown, hlk, hnm, htab, hts, hE, hB, hl⟩ := hC
  obtain ⟨hS, hP, hF, hoL, hoS⟩ := id hst
  dsimp only [exec0] at he
  split at he
  · split at he
    · cases he
      rename_i x S0 hk
      obtain rfl : len = 1 := by simpa [okLen] using hlen
      refine ⟨rfl, lv_istore_n (x := i32 x) (rest := S0.map (cv X)) hx hb hd rfl (FR.has hF) (by rw [← hF.2.1]; exact hk) rfl (fun ls' hl' => ?_)⟩
      refine K ls' ⟨hS, hP, FR.of1 (v := .inl x) hF.2.1 hl', fun i v hi => ?_, okS_t hoS⟩
      rcases stL_get hi with ⟨rfl, q⟩ | ⟨-, q, -⟩
      · cases q; exact okS_h hoS
      · exact hoL _ _ q
    · cases he
  · cases he
theorem sx_astore {k : Nat} (hC : Ctx X l mi p s m args meth c) (hd : decode (mB mi) pc = .ok (.astore k, len)) (hlen : okLen (.astore k) len = true) (he : exec0 mi (.astore k) len pc L S w = some (.inl c')) (hst : St X (mL mi) s H locs ls L S w)
    (K : ∀ ls' : Array Slot, St X (mL mi) s H locs ls' c'.2.1 c'.2.2.1 w → W p l e R s m args below meth c H locs cells slots Q (F0 m c'.1 ls' (c'.2.2.1.map (cv X)))) : c'.2.2.2 = w ∧ W p l e R s m args below meth c H locs cells slots Q (F0 m pc ls (S.map (cv X))) := by
  obtain ⟨hx, hb, hml, hr, hown, hlk, hnm, htab, hts, hE, hB, hl⟩ := hC
  obtain ⟨hS, hP, hF, hoL, hoS⟩ := id hst
  dsimp only [exec0] at he
  split at he
  · split at he
    · cases he
      rename_i r S0 hk
      obtain rfl : len = 2 := by simpa [okLen] using hlen
      have hk2 : (k : Nat) < mL mi := by rw [← hF.2.1]; exact hk
      have KK : ∀ ls', lv_has ls' (mL mi) (((k : Nat), cv X (.inr (.inl r))) :: (asL X L).filter (fun q => !(q.1 == (k : Nat)) && !(q.1 + 1 == (k : Nat) && q.2.category == 2))) → W p l e R s m args below meth c H locs cells slots Q (F0 m (pc + 2) ls' (S0.map (cv X))) := fun ls' hl' => by
        refine K ls' ⟨hS, hP, FR.of1 (v := .inr (.inl r)) hF.2.1 hl', fun i v hi => ?_, okS_t hoS⟩
        rcases stL_get hi with ⟨rfl, q⟩ | ⟨-, q, -⟩
        · cases q; exact okS_h hoS
        · exact hoL _ _ q
      refine ⟨rfl, ?_⟩
      simp only [List.map_cons, cv, cr] at KK ⊢
      cases hb2 : r.bind (ad X) with
      | none =>
        rw [hb2] at KK
        exact lv_astoreN (rest := S0.map (cv X)) hx hb hd (FR.has hF) hk2 rfl KK
      | some a =>
        rw [hb2] at KK
        exact lv_astore (rest := S0.map (cv X)) hx hb hd (FR.has hF) hk2 rfl KK
    · cases he
  · cases he
theorem sx_astore_n {k : Fin 4} (hC : Ctx X l mi p s m args meth c) (hd : decode (mB mi) pc = .ok (.astore_n k, len)) (hlen : okLen (.astore_n k) len = true) (he : exec0 mi (.astore_n k) len pc L S w = some (.inl c')) (hst : St X (mL mi) s H locs ls L S w)
    (K : ∀ ls' : Array Slot, St X (mL mi) s H locs ls' c'.2.1 c'.2.2.1 w → W p l e R s m args below meth c H locs cells slots Q (F0 m c'.1 ls' (c'.2.2.1.map (cv X)))) : c'.2.2.2 = w ∧ W p l e R s m args below meth c H locs cells slots Q (F0 m pc ls (S.map (cv X))) := by
  obtain ⟨hx, hb, hml, hr, hown, hlk, hnm, htab, hts, hE, hB, hl⟩ := hC
  obtain ⟨hS, hP, hF, hoL, hoS⟩ := id hst
  dsimp only [exec0] at he
  split at he
  · split at he
    · cases he
      rename_i r S0 hk
      obtain rfl : len = 1 := by simpa [okLen] using hlen
      have hk2 : (k : Nat) < mL mi := by rw [← hF.2.1]; exact hk
      have KK : ∀ ls', lv_has ls' (mL mi) (((k : Nat), cv X (.inr (.inl r))) :: (asL X L).filter (fun q => !(q.1 == (k : Nat)) && !(q.1 + 1 == (k : Nat) && q.2.category == 2))) → W p l e R s m args below meth c H locs cells slots Q (F0 m (pc + 1) ls' (S0.map (cv X))) := fun ls' hl' => by
        refine K ls' ⟨hS, hP, FR.of1 (v := .inr (.inl r)) hF.2.1 hl', fun i v hi => ?_, okS_t hoS⟩
        rcases stL_get hi with ⟨rfl, q⟩ | ⟨-, q, -⟩
        · cases q; exact okS_h hoS
        · exact hoL _ _ q
      refine ⟨rfl, ?_⟩
      simp only [List.map_cons, cv, cr] at KK ⊢
      cases hb2 : r.bind (ad X) with
      | none =>
        rw [hb2] at KK
        exact lv_astore_nN (rest := S0.map (cv X)) hx hb hd rfl (FR.has hF) hk2 rfl KK
      | some a =>
        rw [hb2] at KK
        exact lv_astore_n (rest := S0.map (cv X)) hx hb hd rfl (FR.has hF) hk2 rfl KK
    · cases he
  · cases he
theorem sx_lstore {k : Nat} (hC : Ctx X l mi p s m args meth c) (hd : decode (mB mi) pc = .ok (.lstore k, len)) (hlen : okLen (.lstore k) len = true) (he : exec0 mi (.lstore k) len pc L S w = some (.inl c')) (hst : St X (mL mi) s H locs ls L S w)
    (K : ∀ ls' : Array Slot, St X (mL mi) s H locs ls' c'.2.1 c'.2.2.1 w → W p l e R s m args below meth c H locs cells slots Q (F0 m c'.1 ls' (c'.2.2.1.map (cv X)))) : c'.2.2.2 = w ∧ W p l e R s m args below meth c H locs cells slots Q (F0 m pc ls (S.map (cv X))) := by
  obtain ⟨hx, hb, hml, hr, hown, hlk, hnm, htab, hts, hE, hB, hl⟩ := hC
  obtain ⟨hS, hP, hF, hoL, hoS⟩ := id hst
  dsimp only [exec0] at he
  split at he
  · split at he
    · cases he
      rename_i x S0 hk
      obtain rfl : len = 2 := by simpa [okLen] using hlen
      refine ⟨rfl, lv_lstore (x := i64 x) (rest := S0.map (cv X)) hx hb hd (FR.has hF) (by rw [← hF.2.1]; exact hk) rfl (fun ls' hl' => ?_)⟩
      refine K ls' ⟨hS, hP, ⟨hl'.1, by simp [stL_len, hF.2.1], hl'.2.1, fun j u hj => ?_⟩, fun j u hj => ?_, okS_t hoS⟩
      · have e1 : j ≠ k + 1 := by
          intro q; subst q
          rw [List.getElem?_set_self (by rw [stL_len]; exact hk)] at hj
          cases hj
        rw [List.getElem?_set_ne (fun q => e1 q.symm)] at hj
        rcases stL_get hj with ⟨rfl, q⟩ | ⟨q1, q2, q3⟩
        · cases q; exact hl'.2.2 _ List.mem_cons_self
        · refine hl'.2.2 (j, cv X u) (List.mem_cons_of_mem _ (List.mem_filter.mpr ⟨asL_mem.mpr ⟨u, q2, rfl⟩, ?_⟩))
          have e5 : (cv X u).category = if isL u then 2 else 1 := cv_cat u
          cases hu : isL u
          · rw [hu] at e5
            simp [q1, e1, e5]
          · have e4 : ¬ j + 1 = k := fun q => q3 ⟨q, hu⟩
            simp [q1, e1, e4]
      · have e1 : j ≠ k + 1 := by
          intro q; subst q
          rw [List.getElem?_set_self (by rw [stL_len]; exact hk)] at hj
          cases hj
        rw [List.getElem?_set_ne (fun q => e1 q.symm)] at hj
        rcases stL_get hj with ⟨rfl, q⟩ | ⟨-, q, -⟩
        · cases q; exact okS_h hoS
        · exact hoL _ _ q
    · cases he
  · cases he
theorem sx_iinc {k : Nat} {n : Int} (hC : Ctx X l mi p s m args meth c) (hd : decode (mB mi) pc = .ok (.iinc k n, len)) (hlen : okLen (.iinc k n) len = true) (he : exec0 mi (.iinc k n) len pc L S w = some (.inl c')) (hst : St X (mL mi) s H locs ls L S w)
    (K : ∀ ls' : Array Slot, St X (mL mi) s H locs ls' c'.2.1 c'.2.2.1 w → W p l e R s m args below meth c H locs cells slots Q (F0 m c'.1 ls' (c'.2.2.1.map (cv X)))) : c'.2.2.2 = w ∧ W p l e R s m args below meth c H locs cells slots Q (F0 m pc ls (S.map (cv X))) := by
  obtain ⟨hx, hb, hml, hr, hown, hlk, hnm, htab, hts, hE, hB, hl⟩ := hC
  obtain ⟨hS, hP, hF, hoL, hoS⟩ := id hst
  dsimp only [exec0] at he
  split at he
  · split at he
    · cases he
      rename_i x hk hn
      obtain rfl : len = 3 := by simpa [okLen] using hlen
      have hk2 : k < L.length := (List.getElem?_eq_some_iff.mp hk).1
      obtain ⟨q, hq⟩ := List.getElem?_of_mem (asL_mem (X := X).mpr ⟨.inl x, hk, rfl⟩)
      refine ⟨rfl, lv_iinc (k := q) (x := i32 x) (v := i32 (wr (x + n))) (rest := S.map (cv X)) hx hb hd (FR.has hF) hq (by rw [i32_add]) (by rw [← hF.2.1]; exact hk2) rfl (fun ls' hl' => ?_)⟩
      have hf := FR.of1 (v := .inl (wr (x + n))) hF.2.1 hl'
      have hlen2 : (L.set k (some (.inl (wr (x + n))))).length = L.length := by simp
      have hget : ∀ (i : Nat) (v : AV), (L.set k (some (.inl (wr (x + n)))))[i]? = some (some v) → (i = k ∧ v = .inl (wr (x + n))) ∨ (i ≠ k ∧ L[i]? = some (some v)) := by
        intro i v hi
        by_cases e1 : i = k
        · subst e1
          rw [List.getElem?_set_self hk2] at hi
          cases hi
          exact Or.inl ⟨rfl, rfl⟩
        · rw [List.getElem?_set_ne (fun z => e1 z.symm)] at hi
          exact Or.inr ⟨e1, hi⟩
      refine K ls' ⟨hS, hP, ⟨hl'.1, by rw [hlen2]; exact hF.2.1, hl'.2.1, fun i v hi => ?_⟩, fun i v hi => ?_, hoS⟩
      · rcases hget i v hi with ⟨rfl, rfl⟩ | ⟨e1, e2⟩
        · exact hl'.2.2 _ List.mem_cons_self
        · by_cases e3 : i + 1 = k ∧ isL v = true
          · exfalso
            have h5 := hF.2.2.1.1 i (cv X v) (hF.2.2.2 i v e2) (by rw [cv_cat, e3.2]; rfl)
            have h6 := hF.2.2.2 k _ hk
            rw [e3.1] at h5
            rw [h5] at h6
            cases h6
          · refine hl'.2.2 (i, cv X v) (List.mem_cons_of_mem _ (List.mem_filter.mpr ⟨asL_mem.mpr ⟨v, e2, rfl⟩, ?_⟩))
            have e5 : (cv X v).category = if isL v then 2 else 1 := cv_cat v
            cases hu : isL v
            · rw [hu] at e5
              simp [e1, e5]
            · have e4 : ¬ i + 1 = k := fun z => e3 ⟨z, hu⟩
              simp [e1, e4]
      · rcases hget i v hi with ⟨rfl, rfl⟩ | ⟨e1, e2⟩
        · exact wr_ok _
        · exact hoL _ _ e2
    · cases he
  · cases he
theorem sx_dup (hC : Ctx X l mi p s m args meth c) (hd : decode (mB mi) pc = .ok (.dup, len)) (hlen : okLen (.dup) len = true) (he : exec0 mi (.dup) len pc L S w = some (.inl c')) (hst : St X (mL mi) s H locs ls L S w)
    (K : ∀ ls' : Array Slot, St X (mL mi) s H locs ls' c'.2.1 c'.2.2.1 w → W p l e R s m args below meth c H locs cells slots Q (F0 m c'.1 ls' (c'.2.2.1.map (cv X)))) : c'.2.2.2 = w ∧ W p l e R s m args below meth c H locs cells slots Q (F0 m pc ls (S.map (cv X))) := by
  obtain ⟨hx, hb, hml, hr, hown, hlk, hnm, htab, hts, hE, hB, hl⟩ := hC
  obtain ⟨hS, hP, hF, hoL, hoS⟩ := id hst
  dsimp only [exec0] at he
  obtain ⟨S1, h1, hc⟩ := exN_some he
  cases hc
  split at h1
  · split at h1
    · cases h1
    · cases h1
      rename_i v S0 hv
      obtain rfl : len = 1 := by simpa [okLen] using hlen
      refine ⟨rfl, lv_dup (va := cv X v) (rest := S0.map (cv X)) hx hb hd (by rw [cv_cat]; simp [hv]) ?_⟩
      exact K ls ⟨hS, hP, hF, hoL, okS_c (okS_h hoS) hoS⟩
  · cases h1
theorem sx_dup2 (hC : Ctx X l mi p s m args meth c) (hd : decode (mB mi) pc = .ok (.dup2, len)) (hlen : okLen (.dup2) len = true) (he : exec0 mi (.dup2) len pc L S w = some (.inl c')) (hst : St X (mL mi) s H locs ls L S w)
    (K : ∀ ls' : Array Slot, St X (mL mi) s H locs ls' c'.2.1 c'.2.2.1 w → W p l e R s m args below meth c H locs cells slots Q (F0 m c'.1 ls' (c'.2.2.1.map (cv X)))) : c'.2.2.2 = w ∧ W p l e R s m args below meth c H locs cells slots Q (F0 m pc ls (S.map (cv X))) := by
  obtain ⟨hx, hb, hml, hr, hown, hlk, hnm, htab, hts, hE, hB, hl⟩ := hC
  obtain ⟨hS, hP, hF, hoL, hoS⟩ := id hst
  dsimp only [exec0] at he
  obtain ⟨S1, h1, hc⟩ := exN_some he
  cases hc
  split at h1
  · split at h1
    · cases h1
    · cases h1
      rename_i v u S0 hv
      obtain rfl : len = 1 := by simpa [okLen] using hlen
      simp only [Bool.or_eq_true, not_or, Bool.not_eq_true] at hv
      refine ⟨rfl, lv_dup2_11 (va := cv X v) (vb := cv X u) (rest := S0.map (cv X)) hx hb hd (by rw [cv_cat, hv.1]; rfl) (by rw [cv_cat, hv.2]; rfl) ?_⟩
      exact K ls ⟨hS, hP, hF, hoL, okS_c (okS_h hoS) (okS_c (okS_h (okS_t hoS)) hoS)⟩
  · cases h1
theorem sx_pop (hC : Ctx X l mi p s m args meth c) (hd : decode (mB mi) pc = .ok (.pop, len)) (hlen : okLen (.pop) len = true) (he : exec0 mi (.pop) len pc L S w = some (.inl c')) (hst : St X (mL mi) s H locs ls L S w)
    (K : ∀ ls' : Array Slot, St X (mL mi) s H locs ls' c'.2.1 c'.2.2.1 w → W p l e R s m args below meth c H locs cells slots Q (F0 m c'.1 ls' (c'.2.2.1.map (cv X)))) : c'.2.2.2 = w ∧ W p l e R s m args below meth c H locs cells slots Q (F0 m pc ls (S.map (cv X))) := by
  obtain ⟨hx, hb, hml, hr, hown, hlk, hnm, htab, hts, hE, hB, hl⟩ := hC
  obtain ⟨hS, hP, hF, hoL, hoS⟩ := id hst
  dsimp only [exec0] at he
  obtain ⟨S1, h1, hc⟩ := exN_some he
  cases hc
  split at h1
  · split at h1
    · cases h1
    · cases h1
      rename_i v hv
      obtain rfl : len = 1 := by simpa [okLen] using hlen
      refine ⟨rfl, lv_pop (va := cv X v) (rest := S1.map (cv X)) hx hb hd (by rw [cv_cat]; simp [hv]) ?_⟩
      exact K ls ⟨hS, hP, hF, hoL, okS_t hoS⟩
  · cases h1
theorem sx_goto {off : Int} (hC : Ctx X l mi p s m args meth c) (hd : decode (mB mi) pc = .ok (.goto off, len)) (hlen : okLen (.goto off) len = true) (he : exec0 mi (.goto off) len pc L S w = some (.inl c')) (hst : St X (mL mi) s H locs ls L S w)
    (K : ∀ ls' : Array Slot, St X (mL mi) s H locs ls' c'.2.1 c'.2.2.1 w → W p l e R s m args below meth c H locs cells slots Q (F0 m c'.1 ls' (c'.2.2.1.map (cv X)))) : c'.2.2.2 = w ∧ W p l e R s m args below meth c H locs cells slots Q (F0 m pc ls (S.map (cv X))) := by
  obtain ⟨hx, hb, hml, hr, hown, hlk, hnm, htab, hts, hE, hB, hl⟩ := hC
  obtain ⟨hS, hP, hF, hoL, hoS⟩ := id hst
  dsimp only [exec0] at he
  obtain ⟨t, ht, hc⟩ := exJ_some he
  cases hc
  obtain rfl : len = 3 := by simpa [okLen] using hlen
  exact ⟨rfl, lv_goto (tgt := t) hx hb hd ht (K ls ⟨hS, hP, hF, hoL, hoS⟩)⟩
theorem sx_if_icmp {cd : Jvm.ClassFile.Cond} {off : Int} (hC : Ctx X l mi p s m args meth c) (hd : decode (mB mi) pc = .ok (.if_icmp cd off, len)) (hlen : okLen (.if_icmp cd off) len = true) (he : exec0 mi (.if_icmp cd off) len pc L S w = some (.inl c')) (hst : St X (mL mi) s H locs ls L S w)
    (K : ∀ ls' : Array Slot, St X (mL mi) s H locs ls' c'.2.1 c'.2.2.1 w → W p l e R s m args below meth c H locs cells slots Q (F0 m c'.1 ls' (c'.2.2.1.map (cv X)))) : c'.2.2.2 = w ∧ W p l e R s m args below meth c H locs cells slots Q (F0 m pc ls (S.map (cv X))) := by
  obtain ⟨hx, hb, hml, hr, hown, hlk, hnm, htab, hts, hE, hB, hl⟩ := hC
  obtain ⟨hS, hP, hF, hoL, hoS⟩ := id hst
  dsimp only [exec0] at he
  split at he
  · obtain ⟨t, ht, hc⟩ := exIf_some he
    cases hc
    rename_i y x S0
    obtain rfl : len = 3 := by simpa [okLen] using hlen
    have oy : okI y := okS_h hoS
    have ox : okI x := okS_h (okS_t hoS)
    refine ⟨rfl, ?_⟩
    have KK := K ls ⟨hS, hP, hF, hoL, okS_t (okS_t hoS)⟩
    cases cd
    case eq =>
      by_cases hq : x = y
      · rw [if_pos (by simp only [cndB]; exact decide_eq_true hq)] at KK
        exact lv_icmp_eq (tgt := t) hx hb hd ht (fun _ => KK) (fun q => absurd ((i32_inj ox oy).mpr hq) q)
      · rw [if_neg (by simp only [cndB]; rw [decide_eq_false hq]; exact Bool.false_ne_true)] at KK
        exact lv_icmp_eq (tgt := t) hx hb hd ht (fun q => absurd ((i32_inj ox oy).mp q) hq) (fun _ => KK)
    case ne =>
      by_cases hq : x ≠ y
      · rw [if_pos (by simp only [cndB]; exact decide_eq_true hq)] at KK
        exact lv_icmp_ne (tgt := t) hx hb hd ht (fun _ => KK) (fun q => absurd ((i32_inj ox oy).mp q) hq)
      · rw [if_neg (by simp only [cndB]; rw [decide_eq_false hq]; exact Bool.false_ne_true)] at KK
        exact lv_icmp_ne (tgt := t) hx hb hd ht (fun q => absurd ((not_congr (i32_inj ox oy)).mp q) hq) (fun _ => KK)
    case lt =>
      by_cases hq : x < y
      · rw [if_pos (by simp only [cndB]; exact decide_eq_true hq)] at KK
        exact lv_icmp_lt (tgt := t) hx hb hd ht (fun _ => KK) (fun q => absurd ((i32_lt ox oy).mpr hq) q)
      · rw [if_neg (by simp only [cndB]; rw [decide_eq_false hq]; exact Bool.false_ne_true)] at KK
        exact lv_icmp_lt (tgt := t) hx hb hd ht (fun q => absurd ((i32_lt ox oy).mp q) hq) (fun _ => KK)
    case ge =>
      by_cases hq : y ≤ x
      · rw [if_pos (by simp only [cndB]; exact decide_eq_true hq)] at KK
        exact lv_icmp_ge (tgt := t) hx hb hd ht (fun _ => KK) (fun q => absurd ((i32_le oy ox).mpr hq) q)
      · rw [if_neg (by simp only [cndB]; rw [decide_eq_false hq]; exact Bool.false_ne_true)] at KK
        exact lv_icmp_ge (tgt := t) hx hb hd ht (fun q => absurd ((i32_le oy ox).mp q) hq) (fun _ => KK)
    case gt =>
      by_cases hq : y < x
      · rw [if_pos (by simp only [cndB]; exact decide_eq_true hq)] at KK
        exact lv_icmp_gt (tgt := t) hx hb hd ht (fun _ => KK) (fun q => absurd ((i32_lt oy ox).mpr hq) q)
      · rw [if_neg (by simp only [cndB]; rw [decide_eq_false hq]; exact Bool.false_ne_true)] at KK
        exact lv_icmp_gt (tgt := t) hx hb hd ht (fun q => absurd ((i32_lt oy ox).mp q) hq) (fun _ => KK)
    case le =>
      by_cases hq : x ≤ y
      · rw [if_pos (by simp only [cndB]; exact decide_eq_true hq)] at KK
        exact lv_icmp_le (tgt := t) hx hb hd ht (fun _ => KK) (fun q => absurd ((i32_le ox oy).mpr hq) q)
      · rw [if_neg (by simp only [cndB]; rw [decide_eq_false hq]; exact Bool.false_ne_true)] at KK
        exact lv_icmp_le (tgt := t) hx hb hd ht (fun q => absurd ((i32_le ox oy).mp q) hq) (fun _ => KK)
  · cases he
theorem sx_ifCond {cd : Jvm.ClassFile.Cond} {off : Int} (hC : Ctx X l mi p s m args meth c) (hd : decode (mB mi) pc = .ok (.ifCond cd off, len)) (hlen : okLen (.ifCond cd off) len = true) (he : exec0 mi (.ifCond cd off) len pc L S w = some (.inl c')) (hst : St X (mL mi) s H locs ls L S w)
    (K : ∀ ls' : Array Slot, St X (mL mi) s H locs ls' c'.2.1 c'.2.2.1 w → W p l e R s m args below meth c H locs cells slots Q (F0 m c'.1 ls' (c'.2.2.1.map (cv X)))) : c'.2.2.2 = w ∧ W p l e R s m args below meth c H locs cells slots Q (F0 m pc ls (S.map (cv X))) := by
  obtain ⟨hx, hb, hml, hr, hown, hlk, hnm, htab, hts, hE, hB, hl⟩ := hC
  obtain ⟨hS, hP, hF, hoL, hoS⟩ := id hst
  dsimp only [exec0] at he
  split at he
  · obtain ⟨t, ht, hc⟩ := exIf_some he
    cases hc
    rename_i x S0
    obtain rfl : len = 3 := by simpa [okLen] using hlen
    have oy : okI 0 := ok0
    have ox : okI x := okS_h hoS
    refine ⟨rfl, ?_⟩
    have KK := K ls ⟨hS, hP, hF, hoL, okS_t hoS⟩
    cases cd
    case eq =>
      by_cases hq : x = 0
      · rw [if_pos (by simp only [cndB]; exact decide_eq_true hq)] at KK
        exact lv_if_eq (tgt := t) hx hb hd ht (fun _ => KK) (fun q => absurd ((i32_inj ox oy).mpr hq) q)
      · rw [if_neg (by simp only [cndB]; rw [decide_eq_false hq]; exact Bool.false_ne_true)] at KK
        exact lv_if_eq (tgt := t) hx hb hd ht (fun q => absurd ((i32_inj ox oy).mp q) hq) (fun _ => KK)
    case ne =>
      by_cases hq : x ≠ 0
      · rw [if_pos (by simp only [cndB]; exact decide_eq_true hq)] at KK
        exact lv_if_ne (tgt := t) hx hb hd ht (fun _ => KK) (fun q => absurd ((i32_inj ox oy).mp q) hq)
      · rw [if_neg (by simp only [cndB]; rw [decide_eq_false hq]; exact Bool.false_ne_true)] at KK
        exact lv_if_ne (tgt := t) hx hb hd ht (fun q => absurd ((not_congr (i32_inj ox oy)).mp q) hq) (fun _ => KK)
    case lt =>
      by_cases hq : x < 0
      · rw [if_pos (by simp only [cndB]; exact decide_eq_true hq)] at KK
        exact lv_if_lt (tgt := t) hx hb hd ht (fun _ => KK) (fun q => absurd ((i32_lt ox oy).mpr hq) q)
      · rw [if_neg (by simp only [cndB]; rw [decide_eq_false hq]; exact Bool.false_ne_true)] at KK
        exact lv_if_lt (tgt := t) hx hb hd ht (fun q => absurd ((i32_lt ox oy).mp q) hq) (fun _ => KK)
    case ge =>
      by_cases hq : 0 ≤ x
      · rw [if_pos (by simp only [cndB]; exact decide_eq_true hq)] at KK
        exact lv_if_ge (tgt := t) hx hb hd ht (fun _ => KK) (fun q => absurd ((i32_le oy ox).mpr hq) q)
      · rw [if_neg (by simp only [cndB]; rw [decide_eq_false hq]; exact Bool.false_ne_true)] at KK
        exact lv_if_ge (tgt := t) hx hb hd ht (fun q => absurd ((i32_le oy ox).mp q) hq) (fun _ => KK)
    case gt =>
      by_cases hq : 0 < x
      · rw [if_pos (by simp only [cndB]; exact decide_eq_true hq)] at KK
        exact lv_if_gt (tgt := t) hx hb hd ht (fun _ => KK) (fun q => absurd ((i32_lt oy ox).mpr hq) q)
      · rw [if_neg (by simp only [cndB]; rw [decide_eq_false hq]; exact Bool.false_ne_true)] at KK
        exact lv_if_gt (tgt := t) hx hb hd ht (fun q => absurd ((i32_lt oy ox).mp q) hq) (fun _ => KK)
    case le =>
      by_cases hq : x ≤ 0
      · rw [if_pos (by simp only [cndB]; exact decide_eq_true hq)] at KK
        exact lv_if_le (tgt := t) hx hb hd ht (fun _ => KK) (fun q => absurd ((i32_le ox oy).mpr hq) q)
      · rw [if_neg (by simp only [cndB]; rw [decide_eq_false hq]; exact Bool.false_ne_true)] at KK
        exact lv_if_le (tgt := t) hx hb hd ht (fun q => absurd ((i32_le ox oy).mp q) hq) (fun _ => KK)
  · cases he
end STEP
