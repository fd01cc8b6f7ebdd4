/-! the equations of calls, switches, and of the rarer places -/
section RULES2
variable {mi r pc len p t : Nat} {c : ByteArray} {i : Instr} {L L' : List (Option AV)} {S S' : List AV} {w : Wd} {x y z : Int} {a b k n : Nat} {v u : AV}
theorem v_call0 {mj : Nat} {as : List AV} (p : Nat) (hm : mB mi = c) (hd : decode c pc = .ok (i, 3)) (hp : pc + 3 = p) (he : exec1 mi i 3 pc L S w = some (.inr (.inl (mj, as, (pc + 3, L, S', w))))) (hr : Nat.blt (crk mj as) r = true) :
    val mi r (pc, L, S, w) = cB (cl mj as w) (fun v w' => val mi r (p, L, v.toList ++ S', w')) (hC mi r pc L) := by
  subst hm; subst hp
  exact val_call hd he (by simpa [Nat.blt_eq] using hr)
theorem v_callS (mj n p : Nat) (as : List AV) (S' : List AV) {ix kind i1 i2 i3 : Nat} (hm : mB mi = c) (hd : decode c pc = .ok (.invokestatic ix, 3)) (hp : pc + 3 = p) (hc : cres (mOwn mi) ix = some (ix, kind, mj, n, i1, i2, i3)) (hk : (kind == 1 || kind == 4 || kind == 6) = true)
    (hS : as.reverse ++ S' = S) (hn : as.length = n) (hw : Nat.ble (wd S') 8 = true) (hr : Nat.blt (crk mj as) r = true) :
    val mi r (pc, L, S, w) = cB (cl mj as w) (fun v w' => val mi r (p, L, v.toList ++ S', w')) (hC mi r pc L) := by
  refine v_call0 p hm hd hp ?_ hr
  show exCall mi ix 3 pc L S w [1, 4, 6, 8] = _
  subst hS
  have h1 : (as.reverse ++ S').take n = as.reverse := List.take_left' (by rw [List.length_reverse]; exact hn)
  have h2 : (as.reverse ++ S').drop n = S' := List.drop_left' (by rw [List.length_reverse]; exact hn)
  have h3 : n ≤ (as.reverse ++ S').length := by rw [List.length_append, List.length_reverse]; omega
  have h4 : wd S' ≤ 8 := Nat.le_of_ble_eq_true hw
  have hk' : kind = 1 ∨ kind = 4 ∨ kind = 6 := by simpa [or_assoc] using hk
  unfold exCall
  rw [hc]
  simp only [h1, h2, h3, h4, List.reverse_reverse, and_self, if_true]
  rcases hk' with rfl | rfl | rfl <;> rfl
theorem v_callV (mj n b p : Nat) (as : List AV) (S' : List AV) {ix kind i1 i2 i3 : Nat} (hm : mB mi = c) (hd : decode c pc = .ok (.invokevirtual ix, 3)) (hp : pc + 3 = p) (hc : cres (mOwn mi) ix = some (ix, kind, mj, n, i1, i2, i3)) (hk : (kind == 0 || kind == 3) = true)
    (hS : as.reverse ++ aR (some b) :: S' = S) (hn : as.length = n) (hw : Nat.ble (wd S') 8 = true) (hl : (lay b).1 = mOwn mj) (hr : Nat.blt (crk mj (aR (some b) :: as)) r = true) :
    val mi r (pc, L, S, w) = cB (cl mj (aR (some b) :: as) w) (fun v w' => val mi r (p, L, v.toList ++ S', w')) (hC mi r pc L) := by
  refine v_call0 p hm hd hp ?_ hr
  show exCall mi ix 3 pc L S w [0, 3, 9] = _
  subst hS
  have h1 : (as.reverse ++ aR (some b) :: S').take n = as.reverse := List.take_left' (by rw [List.length_reverse]; exact hn)
  have h2 : (as.reverse ++ aR (some b) :: S').drop n = aR (some b) :: S' := List.drop_left' (by rw [List.length_reverse]; exact hn)
  have h3 : n ≤ (as.reverse ++ aR (some b) :: S').length := by rw [List.length_append, List.length_reverse]; omega
  have h4 : wd S' ≤ 8 := Nat.le_of_ble_eq_true hw
  have hk' : kind = 0 ∨ kind = 3 := by simpa using hk
  unfold exCall
  rw [hc]
  simp only [h1, h2, h3, h4, hl, List.reverse_reverse]
  rcases hk' with rfl | rfl <;> simp
theorem v_callI (mj n b p : Nat) (as : List AV) (S' : List AV) {ix kind i1 i2 i3 : Nat} (hm : mB mi = c) (hd : decode c pc = .ok (.invokespecial ix, 3)) (hp : pc + 3 = p) (hc : cres (mOwn mi) ix = some (ix, kind, mj, n, i1, i2, i3)) (hk : (kind == 2 || kind == 5) = true)
    (hS : as.reverse ++ aR (some b) :: S' = S) (hn : as.length = n) (hw : Nat.ble (wd S') 8 = true) (hl : (lay b).1 = mOwn mj) (hr : Nat.blt (crk mj (aR (some b) :: as)) r = true) :
    val mi r (pc, L, S, w) = cB (cl mj (aR (some b) :: as) w) (fun v w' => val mi r (p, L, v.toList ++ S', w')) (hC mi r pc L) := by
  refine v_call0 p hm hd hp ?_ hr
  show exCall mi ix 3 pc L S w [2, 5, 7] = _
  subst hS
  have h1 : (as.reverse ++ aR (some b) :: S').take n = as.reverse := List.take_left' (by rw [List.length_reverse]; exact hn)
  have h2 : (as.reverse ++ aR (some b) :: S').drop n = aR (some b) :: S' := List.drop_left' (by rw [List.length_reverse]; exact hn)
  have h3 : n ≤ (as.reverse ++ aR (some b) :: S').length := by rw [List.length_append, List.length_reverse]; omega
  have h4 : wd S' ≤ 8 := Nat.le_of_ble_eq_true hw
  have hk' : kind = 2 ∨ kind = 5 := by simpa using hk
  unfold exCall
  rw [hc]
  simp only [h1, h2, h3, h4, hl, List.reverse_reverse]
  rcases hk' with rfl | rfl <;> simp
/-- a call of a text's own method -/
theorem v_callT (mj n b p : Nat) (as : List AV) (S' : List AV) {ix i1 i2 i3 : Nat} (hm : mB mi = c) (hd : decode c pc = .ok (.invokevirtual ix, 3)) (hp : pc + 3 = p) (hc : cres (mOwn mi) ix = some (ix, 9, mj, n, i1, i2, i3))
    (hS : as.reverse ++ aR (some b) :: S' = S) (hn : as.length = n) (hw : Nat.ble (wd S') 8 = true) (hl : STR ≤ b ∧ b < STR + txL.length) (hr : Nat.blt (crk mj (aR (some b) :: as)) r = true) :
    val mi r (pc, L, S, w) = cB (cl mj (aR (some b) :: as) w) (fun v w' => val mi r (p, L, v.toList ++ S', w')) (hC mi r pc L) := by
  refine v_call0 p hm hd hp ?_ hr
  show exCall mi ix 3 pc L S w [0, 3, 9] = _
  subst hS
  have h1 : (as.reverse ++ aR (some b) :: S').take n = as.reverse := List.take_left' (by rw [List.length_reverse]; exact hn)
  have h2 : (as.reverse ++ aR (some b) :: S').drop n = aR (some b) :: S' := List.drop_left' (by rw [List.length_reverse]; exact hn)
  have h3 : n ≤ (as.reverse ++ aR (some b) :: S').length := by rw [List.length_append, List.length_reverse]; omega
  have h4 : wd S' ≤ 8 := Nat.le_of_ble_eq_true hw
  unfold exCall
  rw [hc]
  simp [h1, h2, h4, hl]
  omega
/-- a loaded reference of an array -/
theorem v_aald (n p : Nat) (hm : mB mi = c) (hd : decode c pc = .ok (.aaload, 1)) (hp : pc + 1 = p) (hl : lay a = (k, n)) (hk : (k == 23 || k == 24) = true) : val mi r (pc, L, aI x :: aR (some a) :: S, w) = gd (inb x n) (val mi r (p, L, aR (gR w a x.toNat) :: S, w)) := by
  have hk' : k = 23 ∨ k = 24 := by simpa using hk
  refine gd_of (fun q => v_next hm hd hp ?_) (fun q => v_none hm hd ?_)
  · show (exAq w (.inl x :: .inr (.inl (some a)) :: S)).map _ = _
    rcases hk' with rfl | rfl <;> simp [exAq, exAld, hl, q]
  · show (exAq w (.inl x :: .inr (.inl (some a)) :: S)).map _ = _
    rcases hk' with rfl | rfl <;> simp [exAq, exAld, hl, q]
theorem v_aast (n p : Nat) (hm : mB mi = c) (hd : decode c pc = .ok (.aastore, 1)) (hp : pc + 1 = p) (hl : lay a = (23, n)) (hb : (lay b).1 = 8) : val mi r (pc, L, aR (some b) :: aI x :: aR (some a) :: S, w) = gd (inb x n) (val mi r (p, L, S, pR w a x.toNat (some b))) := by
  refine gd_of (fun q => v_next hm hd hp ?_) (fun q => v_none hm hd ?_)
  · show (exAst 23 w (.inr (.inl (some b)) :: .inl x :: .inr (.inl (some a)) :: S)).map _ = _
    simp [exAst, hl, q, hb]
  · show (exAst 23 w (.inr (.inl (some b)) :: .inl x :: .inr (.inl (some a)) :: S)).map _ = _
    simp [exAst, hl, q]
theorem lay_scr : (lay SCR).1 = 99 := by decide +kernel
theorem v_sald (p : Nat) (hm : mB mi = c) (hd : decode c pc = .ok (.iaload, 1)) (hp : pc + 1 = p) (hsc : a = SCR) : val mi r (pc, L, aI x :: aR (some a) :: S, w) = gd (inb x (gL w)) (val mi r (p, L, aI (gX w x.toNat) :: S, w)) := by
  have h0 : (lay a).1 = 99 := by rw [hsc]; exact lay_scr
  have e1 : BYT = 2000000 := rfl
  refine gd_of (fun q => v_next hm hd hp ?_) (fun q => v_none hm hd ?_)
  · show (exAld 21 w (.inl x :: .inr (.inl (some a)) :: S)).map _ = _
    unfold exAld
    simp only []
    rw [if_neg (by rw [h0]; simp), if_pos ⟨trivial, hsc, q⟩]
    rfl
  · show (exAld 21 w (.inl x :: .inr (.inl (some a)) :: S)).map _ = _
    unfold exAld
    simp only []
    rw [if_neg (by rw [h0]; simp), if_neg (by rw [q]; simp), if_neg (by simp)]
    rfl
theorem v_slen (p : Nat) (hm : mB mi = c) (hd : decode c pc = .ok (.arraylength, 1)) (hp : pc + 1 = p) (hsc : a = SCR) : val mi r (pc, L, aR (some a) :: S, w) = val mi r (p, L, aI ((gL w : Nat) : Int) :: S, w) := v_next hm hd hp (by
  have h0 : (lay a).1 = 99 := by rw [hsc]; exact lay_scr
  show (exLen w (.inr (.inl (some a)) :: S)).map _ = _
  unfold exLen
  simp only []
  rw [if_neg (by rw [h0]; simp), if_pos hsc]
  rfl)
theorem v_copy (d n1 n2 p : Nat) {ix mj n i1 i2 i3 : Nat} (hm : mB mi = c) (hd : decode c pc = .ok (.invokestatic ix, 3)) (hp : pc + 3 = p) (hc : cres (mOwn mi) ix = some (ix, 8, mj, n, i1, i2, i3)) (hw : Nat.ble (wd S) 8 = true) (ha : lay a = (21, n1)) (hdl : lay d = (21, n2))
    (hg : 0 ≤ x ∧ 0 ≤ y ∧ 0 ≤ z ∧ x + z ≤ (n1 : Int) ∧ y + z ≤ (n2 : Int)) :
    val mi r (pc, L, aI z :: aI y :: aR (some d) :: aI x :: aR (some a) :: S, w) = val mi r (p, L, S, sI w d (aCpy (gI w a) (gI w d) x.toNat y.toNat z.toNat n2)) := v_next hm hd hp (by
  show exCall mi ix 3 pc L _ w [1, 4, 6, 8] = _
  have h4 : wd S ≤ 8 := Nat.le_of_ble_eq_true hw
  unfold exCall
  rw [hc]
  simp [ha, hdl, hg, h4])
theorem v_objI (p : Nat) {ix mj n i1 i2 i3 : Nat} (hm : mB mi = c) (hd : decode c pc = .ok (.invokespecial ix, 3)) (hp : pc + 3 = p) (hc : cres (mOwn mi) ix = some (ix, 7, mj, n, i1, i2, i3)) (hw : Nat.ble (wd S) 8 = true) (ha : a < STR) :
    val mi r (pc, L, aR (some a) :: S, w) = val mi r (p, L, S, w) := v_next hm hd hp (by
  show exCall mi ix 3 pc L _ w [2, 5, 7] = _
  have h4 : wd S ≤ 8 := Nat.le_of_ble_eq_true hw
  unfold exCall
  rw [hc]
  simp [h4, ha])
/-- a switch over neighbours, as a row of questions -/
def swT (x lo : Int) (d : Nat) (K : Nat → Option Out) : List Nat → Option Out
  | [] => K d
  | t :: ts => if x = lo then K t else swT x (lo + 1) d K ts
theorem swT_out {x : Int} {d : Nat} {K : Nat → Option Out} : ∀ (ts : List Nat) (lo : Int), (x < lo ∨ lo + ts.length ≤ x) → swT x lo d K ts = K d := by
  intro ts
  induction ts with
  | nil => intro lo _; rfl
  | cons t ts ih =>
    intro lo h
    unfold swT
    rw [List.length_cons] at h
    rw [if_neg (by omega)]
    exact ih (lo + 1) (by omega)
theorem swT_in {x : Int} {d : Nat} {K : Nat → Option Out} : ∀ (ts : List Nat) (lo : Int) (j t : Nat), ts[j]? = some t → x = lo + j → swT x lo d K ts = K t := by
  intro ts
  induction ts with
  | nil => intro lo j t h; cases h
  | cons u ts ih =>
    intro lo j t h hx
    unfold swT
    cases j with
    | zero =>
      rw [if_pos (by omega)]
      have : u = t := by simpa using h
      rw [this]
    | succ j =>
      rw [if_neg (by omega)]
      exact ih (lo + 1) j t (by simpa using h) (by omega)
theorem v_tsw (d : Nat) (ts : List Nat) {dflt lo hi : Int} {offs : Array Int} (hm : mB mi = c) (hd : decode c pc = .ok (.tableswitch dflt lo hi offs, len)) (h0 : jmp pc dflt = some d) (h1 : offs.toList.map (jmp pc) = ts.map some) (h2 : hi + 1 = lo + ts.length) :
    val mi r (pc, L, aI x :: S, w) = swT x lo d (fun t => val mi r (t, L, S, w)) ts := by
  subst hm
  by_cases hx : x < lo ∨ hi < x
  · rw [swT_out ts lo (by omega)]
    refine val_next hd ?_
    show (if x < lo ∨ hi < x then exJ pc dflt L S w else _) = _
    rw [if_pos hx]
    unfold exJ; rw [h0]; rfl
  · have hj : (x - lo).toNat < ts.length := by omega
    have ht : ts[(x - lo).toNat]? = some ts[(x - lo).toNat] := List.getElem?_eq_getElem hj
    rw [swT_in ts lo (x - lo).toNat _ ht (by omega)]
    have hlen : offs.toList.length = ts.length := by
      have := congrArg List.length h1
      simpa using this
    have ho : (offs.toList.map (jmp pc))[(x - lo).toNat]? = some (some ts[(x - lo).toNat]) := by
      rw [h1, List.getElem?_map, ht]; rfl
    rw [List.getElem?_map] at ho
    cases hq : offs.toList[(x - lo).toNat]? with
    | none => rw [hq] at ho; cases ho
    | some off =>
      rw [hq] at ho
      have ho : jmp pc off = some ts[(x - lo).toNat] := Option.some.inj ho
      refine val_next hd ?_
      show (if x < lo ∨ hi < x then exJ pc dflt L S w else (match offs[(x - lo).toNat]? with | some off => exJ pc off L S w | none => none)) = _
      rw [if_neg hx]
      rw [Array.getElem?_toList] at hq
      rw [hq]
      show exJ pc off L S w = _
      unfold exJ; rw [ho]; rfl
end RULES2
