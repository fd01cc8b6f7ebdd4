/-! steps that make things, and two calls of the machine's own -/
theorem sl_succ {n : Nat} : sl (n + 1) = sl n + (lay n).2 := by
  unfold sl lay
  rw [List.take_add_one, List.map_append, List.sum_append, List.getD_eq_getElem?_getD]
  cases layL[n]? <;> simp
theorem ent_nW {X : PR} {w : Wd} {j : Nat} (h : j ≠ gN w) : ent X (nW w) j = ent X w j := by
  have h' : ¬ j = w.2.2.2.1 := h
  have e1 : fV X (nW w) j = fV X w j := by funext ci k; simp [fV, nW, gI, gR, va_up, h']
  unfold ent
  rw [e1]
  simp [nW, gI, gR, gJ, va_up, h']
theorem wsX_nW {X : PR} {w : Wd} : wsX X (nW w) = wsX X w ++ [(xB X + gN w, ent X (nW w) (gN w))] := by
  have e : gN (nW w) = gN w + 1 := rfl
  unfold wsX
  rw [e, List.range_succ, List.map_append]
  congr 1
  refine List.map_congr_left fun k hk => ?_
  rw [ent_nW (Nat.ne_of_lt (List.mem_range.mp hk))]
theorem okR_nW {w : Wd} {k : Nat} (h : okR w k) : okR (nW w) k := by
  have e : gN (nW w) = gN w + 1 := rfl
  unfold okR at h ⊢
  omega
theorem okV_nW {w : Wd} {v : AV} (h : okV w v) : okV (nW w) v := by
  rcases v with x | r | x
  · exact h
  · exact fun k hk => okR_nW (h k hk)
  · exact h
theorem okW_nW {X : PR} {w : Wd} (h : okW X w) (hl : gN w < 515) : okW X (nW w) := by
  refine ⟨fun a i => ?_, fun a i => ?_, fun a i k hk => ?_, by rw [layL_len]; exact hl, h.2.2.2.2⟩
  · show okI (va_up w.1 _ _ a i)
    by_cases e1 : a = w.2.2.2.1
    · simp only [va_up, if_pos e1]; exact ok0
    · simp only [va_up, if_neg e1]; exact h.1 a i
  · show okJ (va_up w.2.2.1 _ _ a i)
    by_cases e1 : a = w.2.2.2.1
    · simp only [va_up, if_pos e1]; unfold okJ; omega
    · simp only [va_up, if_neg e1]; exact h.2.1 a i
  · have hk : va_up w.2.1 _ _ a i = some k := hk
    by_cases e1 : a = w.2.2.2.1
    · simp only [va_up, if_pos e1] at hk; cases hk
    · simp only [va_up, if_neg e1] at hk; exact okR_nW (h.2.2.1 a i k hk)
theorem gI_nW {w : Wd} {j : Nat} : gI (nW w) (gN w) j = 0 := by simp [gI, nW, gN, va_up]
theorem gR_nW {w : Wd} {j : Nat} : gR (nW w) (gN w) j = none := by simp [gR, nW, gN, va_up]
theorem gJ_nW {w : Wd} {j : Nat} : gJ (nW w) (gN w) j = 0 := by simp [gJ, nW, gN, va_up]
section STEP4
variable {X : PR} {l : Launch} {mi : Nat} {p : Program} {e : Env} {R : Room} {s : State} {m : MethodId} {args : Array Value} {below : List Frame} {meth : Method} {c : Code} {H : Heap} {locs : List Loc} {cells slots : Nat} {Q : State → Prop} {ls : Array Slot} {pc len : Nat} {L : List (Option AV)} {S : List AV} {w : Wd} {c' : Cfg}
/-- behind a new cell: what stood before stands, the new one is there -/
theorem St_nW {S0 : List AV} {H' : Heap} (hst : St X (mL mi) s H locs ls L S0 w) (hsz : H.size = xB X + gN w) (hl : gN w < 515) (hB : xB X ≤ s.heap.size) (z1 : H'.size = H.size + 1) (o1 : ∀ q, q < H.size → H'[q]? = H[q]?) (hat : va_at (xD X) vwCl (xB X + gN w, ent X (nW w) (gN w)) H') : St X (mL mi) s H' locs ls L (.inr (.inl (some (gN w))) :: S0) (nW w) := by
  obtain ⟨hS, hP, hF, hoL, hoS⟩ := hst
  refine ⟨⟨Nat.le_trans hS.1 (by omega), fun x h1 h2 => (o1 x (Nat.lt_of_lt_of_le h1 hS.1)).trans (hS.2.1 x h1 h2), hS.2.2⟩, ⟨?_, okW_nW hP.2 hl⟩, hF, fun i v hi => okV_nW (hoL i v hi), okS_c (fun k hk => ?_) fun v hv => okV_nW (hoS v hv)⟩
  · rw [wsX_nW]
    have hk : ∀ (k : Nat) (x : Nat × va_E), (wsX X w)[k]? = some x → H'[x.1]? = H[x.1]? := fun k x hx => o1 x.1 ((hP.1 k x hx).lt)
    refine (hP.1.kept hk).app (fun k x hx => ?_)
    have hz : k < 1 := (List.getElem?_eq_some_iff.mp hx).1
    rw [show k = 0 by omega] at hx
    cases hx
    exact hat
  · cases hk
    exact Or.inl (Nat.lt_succ_self _)
theorem sx_new {ix ci : Nat} {q1 q2 q3 q4 : Nat} (hC : Ctx X l mi p s m args meth c) (hd : decode (mB mi) pc = .ok (.new ix, 3)) (hn : nres (mOwn mi) ix = some (q1, ci, q2, q3, q4)) (hlay : lay (gN w) = (ci, nF ci)) (hci : ci < 13) (hst : St X (mL mi) s H locs ls L S w) (hsz : H.size = xB X + gN w) (hc : cells + 1 ≤ R.cells) (hs : slots + nF ci ≤ R.slots)
    (K : ∀ H' : Heap, St X (mL mi) s H' locs ls L (.inr (.inl (some (gN w))) :: S) (nW w) → W p l e R s m args below meth c H' locs (cells + 1) (slots + nF ci) Q (F0 m (pc + 3) ls ((.inr (.inl (some (gN w))) :: S : List AV).map (cv X)))) : W p l e R s m args below meth c H locs cells slots Q (F0 m pc ls (S.map (cv X))) := by
  obtain ⟨hx, hb, hml, hr, hown, hlk, hnm, htab, hts, hE, hB, hl⟩ := hC
  obtain ⟨hmem, hix⟩ := find_k hn
  simp only [] at hix
  subst hix
  have hok := allT_of nOK_all hmem
  simp only [nOKb, Bool.and_eq_true, decide_eq_true_eq] at hok
  obtain ⟨⟨⟨-, w1⟩, w2⟩, w3⟩ := hok
  obtain ⟨C, T, N, ty, k1, k2, k3, k4, k5, k6, k7, k8⟩ := clsOK ci hci
  have hl5 : gN w < 515 := lay_lt (by rw [hlay]) (by omega)
  have hlt : gN w < STR := by have : STR = 1000000 := rfl; omega
  have e0 : cr X (some (gN w)) = .ref (xB X + gN w) := cr_some (ad_lo hlt)
  subst k2; subst k3
  have hKn := hE.1.1 ci _ k1
  refine W.newcK hx hb hown (hts _ (gAt_in w1)) (hts _ (gAt_in w2)) (hts _ (gAt_in w3)) (g := F0 m pc ls (S.map (cv X))) rfl hd hc hs hKn.2.1 hsz fun H1 kC hkC e1 z1 o1 => ?_
  have KK := K H1 (St_nW hst hsz hl5 hB (by omega) (fun q hq => o1 q (by omega)) ?_)
  · simp only [List.map_cons, cv, e0] at KK
    exact KK
  · rw [ent_obj (w := nW w) (by rw [hlay]) hci]
    refine ⟨_, k1, (u_born ty hts k5 hKn hkC e1 k6).to fun j hj => ?_⟩
    obtain ⟨f1, -, -⟩ := k8 j hj
    have e5 : vp_V ((List.range (nF ci)).map (fV X (nW w) (gN w) ci)) j = fV X (nW w) (gN w) ci j := by simp [vp_V, hj]
    rw [e5]
    unfold fV
    rw [gI_nW, gR_nW]
    unfold fkOK at f1
    split at f1
    · rename_i hz
      simp only [decide_eq_true_eq] at f1
      rw [f1, hz]; rfl
    · rename_i hz
      simp only [decide_eq_true_eq] at f1
      rw [f1, hz]; rfl
    · simp only [Bool.and_eq_true, decide_eq_true_eq] at f1
      rw [if_pos f1.1]
      obtain ⟨-, f1⟩ := f1
      split at f1
      · rename_i h5; rw [h5]; rfl
      · rename_i h5; rw [h5]; rfl
      · cases f1

theorem sys_init : Jvm.Cond.initialized "java/lang/System" ∈ GT := gAt_in (i := 1025) (by decide +kernel)
theorem arr_20 : Jvm.Cond.arrayClass (newarray.typeOf .byte) ∈ GT := gAt_in (i := 1057) (by decide +kernel)
theorem sx_newa20 {n : Int} (hC : Ctx X l mi p s m args meth c) (hd : decode (mB mi) pc = .ok (.newarray .byte, 2)) (hn : 0 ≤ n) (hlay : lay (gN w) = (20, n.toNat)) (hst : St X (mL mi) s H locs ls L (.inl n :: S) w) (hsz : H.size = xB X + gN w) (hc : cells + 1 ≤ R.cells) (hs : slots + n.toNat ≤ R.slots)
    (K : ∀ H' : Heap, St X (mL mi) s H' locs ls L (.inr (.inl (some (gN w))) :: S) (nW w) → W p l e R s m args below meth c H' locs (cells + 1) (slots + n.toNat) Q (F0 m (pc + 2) ls ((.inr (.inl (some (gN w))) :: S : List AV).map (cv X)))) : W p l e R s m args below meth c H locs cells slots Q (F0 m pc ls ((.inl n :: S : List AV).map (cv X))) := by
  obtain ⟨hx, hb, hml, hr, hown, hlk, hnm, htab, hts, hE, hB, hl⟩ := hC
  obtain ⟨hS, hP, hF, hoL, hoS⟩ := id hst
  have on : okI n := okS_h hoS
  have hl5 : gN w < 515 := lay_lt (by rw [hlay]) (by omega)
  have hlt : gN w < STR := by have : STR = 1000000 := rfl; omega
  have e0 : cr X (some (gN w)) = .ref (xB X + gN w) := cr_some (ad_lo hlt)
  have hsm : n.toNat < 100000 := by
    have h9 : layL.all (fun q => decide (q.2 < 100000)) = true := by decide +kernel
    have h8 : lay (gN w) ∈ layL := by
      unfold lay
      rw [List.getD_eq_getElem?_getD, List.getElem?_eq_getElem (by rw [layL_len]; exact hl5)]
      exact List.getElem_mem _
    have := List.all_eq_true.mp h9 _ h8
    rw [hlay] at this
    simpa using this
  refine va_newaK (atype := .byte) (n := i32 n) (N := n.toNat) (rest := S.map (cv X)) hx hb (hts _ arr_20) (g := F0 m pc ls (.int (i32 n) :: S.map (cv X))) rfl hd rfl (fun q => absurd ((i32_lt on ok0).mp q) (by omega)) (clN on) ?_ hc hs hsz fun H1 cA e1 z1 o1 hAr hNm => ?_
  · show n.toNat * 1 ≤ 536870912
    omega
  have hcA : cA = xY X 20 := by
    have h5 := (hE.1.2 0 _ rfl).2
    have h6 : s.vm.findClass ("[" ++ (.byte : FieldType).toString) = some (xY X 20) := h5
    exact Option.some.inj (hNm.symm.trans h6)
  have KK := K H1 (St_nW ⟨hS, hP, hF, hoL, okS_t hoS⟩ hsz hl5 hB (by omega) (fun q hq => o1 q (by omega)) ?_)
  · simp only [List.map_cons, cv, e0] at KK
    exact KK
  · rw [ent_20 (by rw [hlay]), hlay]
    show H1[xB X + gN w]? = some (vp_cell _ _)
    rw [e1, hcA]
    simp only [gI_nW]
    rfl
theorem arr_21 : Jvm.Cond.arrayClass (newarray.typeOf .int) ∈ GT := gAt_in (i := 1058) (by decide +kernel)
theorem sx_newa21 {n : Int} (hC : Ctx X l mi p s m args meth c) (hd : decode (mB mi) pc = .ok (.newarray .int, 2)) (hn : 0 ≤ n) (hlay : lay (gN w) = (21, n.toNat)) (hst : St X (mL mi) s H locs ls L (.inl n :: S) w) (hsz : H.size = xB X + gN w) (hc : cells + 1 ≤ R.cells) (hs : slots + n.toNat ≤ R.slots)
    (K : ∀ H' : Heap, St X (mL mi) s H' locs ls L (.inr (.inl (some (gN w))) :: S) (nW w) → W p l e R s m args below meth c H' locs (cells + 1) (slots + n.toNat) Q (F0 m (pc + 2) ls ((.inr (.inl (some (gN w))) :: S : List AV).map (cv X)))) : W p l e R s m args below meth c H locs cells slots Q (F0 m pc ls ((.inl n :: S : List AV).map (cv X))) := by
  obtain ⟨hx, hb, hml, hr, hown, hlk, hnm, htab, hts, hE, hB, hl⟩ := hC
  obtain ⟨hS, hP, hF, hoL, hoS⟩ := id hst
  have on : okI n := okS_h hoS
  have hl5 : gN w < 515 := lay_lt (by rw [hlay]) (by omega)
  have hlt : gN w < STR := by have : STR = 1000000 := rfl; omega
  have e0 : cr X (some (gN w)) = .ref (xB X + gN w) := cr_some (ad_lo hlt)
  have hsm : n.toNat < 100000 := by
    have h9 : layL.all (fun q => decide (q.2 < 100000)) = true := by decide +kernel
    have h8 : lay (gN w) ∈ layL := by
      unfold lay
      rw [List.getD_eq_getElem?_getD, List.getElem?_eq_getElem (by rw [layL_len]; exact hl5)]
      exact List.getElem_mem _
    have := List.all_eq_true.mp h9 _ h8
    rw [hlay] at this
    simpa using this
  refine va_newaK (atype := .int) (n := i32 n) (N := n.toNat) (rest := S.map (cv X)) hx hb (hts _ arr_21) (g := F0 m pc ls (.int (i32 n) :: S.map (cv X))) rfl hd rfl (fun q => absurd ((i32_lt on ok0).mp q) (by omega)) (clN on) ?_ hc hs hsz fun H1 cA e1 z1 o1 hAr hNm => ?_
  · show n.toNat * 4 ≤ 536870912
    omega
  have hcA : cA = xY X 21 := by
    have h5 := (hE.1.2 1 _ rfl).2
    have h6 : s.vm.findClass ("[" ++ (.int : FieldType).toString) = some (xY X 21) := h5
    exact Option.some.inj (hNm.symm.trans h6)
  have KK := K H1 (St_nW ⟨hS, hP, hF, hoL, okS_t hoS⟩ hsz hl5 hB (by omega) (fun q hq => o1 q (by omega)) ?_)
  · simp only [List.map_cons, cv, e0] at KK
    exact KK
  · rw [ent_21 (by rw [hlay]), hlay]
    show H1[xB X + gN w]? = some (vp_cell _ _)
    rw [e1, hcA]
    simp only [gI_nW]
    rfl
theorem arr_22 : Jvm.Cond.arrayClass (newarray.typeOf .long) ∈ GT := gAt_in (i := 2106) (by decide +kernel)
theorem sx_newa22 {n : Int} (hC : Ctx X l mi p s m args meth c) (hd : decode (mB mi) pc = .ok (.newarray .long, 2)) (hn : 0 ≤ n) (hlay : lay (gN w) = (22, n.toNat)) (hst : St X (mL mi) s H locs ls L (.inl n :: S) w) (hsz : H.size = xB X + gN w) (hc : cells + 1 ≤ R.cells) (hs : slots + n.toNat ≤ R.slots)
    (K : ∀ H' : Heap, St X (mL mi) s H' locs ls L (.inr (.inl (some (gN w))) :: S) (nW w) → W p l e R s m args below meth c H' locs (cells + 1) (slots + n.toNat) Q (F0 m (pc + 2) ls ((.inr (.inl (some (gN w))) :: S : List AV).map (cv X)))) : W p l e R s m args below meth c H locs cells slots Q (F0 m pc ls ((.inl n :: S : List AV).map (cv X))) := by
  obtain ⟨hx, hb, hml, hr, hown, hlk, hnm, htab, hts, hE, hB, hl⟩ := hC
  obtain ⟨hS, hP, hF, hoL, hoS⟩ := id hst
  have on : okI n := okS_h hoS
  have hl5 : gN w < 515 := lay_lt (by rw [hlay]) (by omega)
  have hlt : gN w < STR := by have : STR = 1000000 := rfl; omega
  have e0 : cr X (some (gN w)) = .ref (xB X + gN w) := cr_some (ad_lo hlt)
  have hsm : n.toNat < 100000 := by
    have h9 : layL.all (fun q => decide (q.2 < 100000)) = true := by decide +kernel
    have h8 : lay (gN w) ∈ layL := by
      unfold lay
      rw [List.getD_eq_getElem?_getD, List.getElem?_eq_getElem (by rw [layL_len]; exact hl5)]
      exact List.getElem_mem _
    have := List.all_eq_true.mp h9 _ h8
    rw [hlay] at this
    simpa using this
  refine va_newaK (atype := .long) (n := i32 n) (N := n.toNat) (rest := S.map (cv X)) hx hb (hts _ arr_22) (g := F0 m pc ls (.int (i32 n) :: S.map (cv X))) rfl hd rfl (fun q => absurd ((i32_lt on ok0).mp q) (by omega)) (clN on) ?_ hc hs hsz fun H1 cA e1 z1 o1 hAr hNm => ?_
  · show n.toNat * 8 ≤ 536870912
    omega
  have hcA : cA = xY X 22 := by
    have h5 := (hE.1.2 2 _ rfl).2
    have h6 : s.vm.findClass ("[" ++ (.long : FieldType).toString) = some (xY X 22) := h5
    exact Option.some.inj (hNm.symm.trans h6)
  have KK := K H1 (St_nW ⟨hS, hP, hF, hoL, okS_t hoS⟩ hsz hl5 hB (by omega) (fun q hq => o1 q (by omega)) ?_)
  · simp only [List.map_cons, cv, e0] at KK
    exact KK
  · rw [ent_22 (by rw [hlay]), hlay]
    show H1[xB X + gN w]? = some (vp_cell _ _)
    rw [e1, hcA]
    simp only [gJ_nW]
    rfl
theorem sx_newq {n : Int} {ix k q1 q2 : Nat} (hC : Ctx X l mi p s m args meth c) (hd : decode (mB mi) pc = .ok (.anewarray ix, 3)) (ha : ares (mOwn mi) ix = some (q1, k, q2)) (hn : 0 ≤ n) (hlay : lay (gN w) = (k, n.toNat)) (hst : St X (mL mi) s H locs ls L (.inl n :: S) w) (hsz : H.size = xB X + gN w) (hc : cells + 1 ≤ R.cells) (hs : slots + n.toNat ≤ R.slots)
    (K : ∀ H' : Heap, St X (mL mi) s H' locs ls L (.inr (.inl (some (gN w))) :: S) (nW w) → W p l e R s m args below meth c H' locs (cells + 1) (slots + n.toNat) Q (F0 m (pc + 3) ls ((.inr (.inl (some (gN w))) :: S : List AV).map (cv X)))) : W p l e R s m args below meth c H locs cells slots Q (F0 m pc ls ((.inl n :: S : List AV).map (cv X))) := by
  obtain ⟨hx, hb, hml, hr, hown, hlk, hnm, htab, hts, hE, hB, hl⟩ := hC
  obtain ⟨hS, hP, hF, hoL, hoS⟩ := id hst
  have on : okI n := okS_h hoS
  obtain ⟨hmem, hix⟩ := find_k ha
  simp only [] at hix
  subst hix
  have hok := allT_of aOK_all hmem
  simp only [aOKb, Bool.and_eq_true, Bool.or_eq_true, decide_eq_true_eq] at hok
  obtain ⟨hk, w1⟩ := hok
  have hl5 : gN w < 515 := lay_lt (by rw [hlay]) (by omega)
  have hlt : gN w < STR := by have : STR = 1000000 := rfl; omega
  have e0 : cr X (some (gN w)) = .ref (xB X + gN w) := cr_some (ad_lo hlt)
  have hsm : n.toNat < 100000 := by
    have h9 : layL.all (fun q => decide (q.2 < 100000)) = true := by decide +kernel
    have h8 : lay (gN w) ∈ layL := by
      unfold lay
      rw [List.getD_eq_getElem?_getD, List.getElem?_eq_getElem (by rw [layL_len]; exact hl5)]
      exact List.getElem_mem _
    have := List.all_eq_true.mp h9 _ h8
    rw [hlay] at this
    simpa using this
  have main : ∀ (C : String) (tyi : Nat), (tysX X)[tyi]? = some (xY X k, .object C) → (Cond.classLink (ownN (mOwn mi)) q1 C).before args s = true → va_AO C s → ent X (nW w) (gN w) = .inl (xY X k, (lay (gN w)).2, .inr (.inr (.inr (.inr (fun j => (gR (nW w) (gN w) j).bind (ad X)))))) → W p l e R s m args below meth c H locs cells slots Q (F0 m pc ls ((.inl n :: S : List AV).map (cv X))) := by
    intro C tyi hty hcl hao hent
    refine W.anew (n := i32 n) (rest := S.map (cv X)) hx hb hown hcl (va_AO.use hao) (g := F0 m pc ls (.int (i32 n) :: S.map (cv X))) rfl hd rfl (fun q => absurd ((i32_lt on ok0).mp q) (by omega)) (by rw [clN on]; omega) hc (by rw [clN on]; exact hs) fun cA kA comp f1 f2 f3 f4 => ?_
    rw [clN on]
    generalize hH1 : H.push ({ cls := cA, slots := Array.replicate n.toNat .null, vm := .none } : Cell) = H1
    have z1 : H1.size = H.size + 1 := by rw [← hH1, Array.size_push]
    have e1 : H1[H.size]? = some (arrV cA n.toNat (fun _ => .null)) := by rw [← hH1, Array.getElem?_push_size, ← arrV_new]
    have o1 : ∀ q : Nat, q < H.size → H1[q]? = H[q]? := fun q hq => by rw [← hH1, Array.getElem?_push, if_neg (Nat.ne_of_lt hq)]
    have hcA : cA = xY X k := by
      obtain ⟨kA9, comp9, g1, g2, g3, g4⟩ := (hE.1.2 tyi _ hty).2
      exact Option.some.inj (f1.symm.trans g4)
    have KK := K H1 (St_nW ⟨hS, hP, hF, hoL, okS_t hoS⟩ hsz hl5 hB z1 o1 ?_)
    · simp only [List.map_cons, cv, e0, ← hsz] at KK
      exact KK
    · rw [hent, hlay]
      show H1[xB X + gN w]? = some (vp_cell _ _)
      rw [← hsz, e1, hcA]
      simp only [gR_nW]
      rfl
  rcases hk with rfl | rfl
  · exact main "GivenMinutes$State" 3 rfl (hts _ (gAt_in w1)) hE.2.2.2.2.2.2.2.2.2.1 (ent_23 (by rw [hlay]))
  · exact main "java/lang/String" 4 rfl (hts _ (gAt_in w1)) hE.2.2.2.2.2.2.2.2.2.2.1 (ent_24 (by rw [hlay]))
theorem cres_some {ow ix : Nat} {q : Nat × Nat × Nat × Nat × Nat × Nat × Nat} (h : cres ow ix = some q) : q ∈ cT.getD ow [] ∧ q.1 = ix := find_k h
theorem wd_cat (S : List AV) : ((S.map (cv X)).map fun v => v.category).sum = wd S := by
  induction S with
  | nil => rfl
  | cons v S ih =>
    simp only [List.map_cons, List.sum_cons, wd] at ih ⊢
    rw [ih, cv_cat]
theorem sx_objInit {ix a i1 i2 i3 mj n : Nat} (hC : Ctx X l mi p s m args meth c) (hd : decode (mB mi) pc = .ok (.invokespecial ix, 3)) (hc : cres (mOwn mi) ix = some (ix, 7, mj, n, i1, i2, i3)) (hst : St X (mL mi) s H locs ls L (.inr (.inl (some a)) :: S) w) (ha : a < STR) (hw : wd S ≤ 8) (hR : 1 ≤ R.frames ∧ 20 ≤ R.locals)
    (K : St X (mL mi) s H locs ls L S w → W p l e R s m args below meth c H locs cells slots Q (F0 m (pc + 3) ls (S.map (cv X)))) : W p l e R s m args below meth c H locs cells slots Q (F0 m pc ls ((.inr (.inl (some a)) :: S : List AV).map (cv X))) := by
  obtain ⟨hx, hb, hml, hr, hown, hlk, hnm, htab, hts, hE, hB, hl⟩ := hC
  obtain ⟨hS, hP, hF, hoL, hoS⟩ := id hst
  obtain ⟨hmem, -⟩ := cres_some hc
  have hok := allT_of cOK_all hmem
  simp only [cOKb, if_true, Bool.and_eq_true] at hok
  obtain ⟨⟨w1, w2⟩, w3⟩ := hok
  have e0 : cr X (some a) = .ref (xB X + a) := cr_some (ad_lo ha)
  simp only [List.map_cons, cv, e0]
  refine W.objInit (g := F0 m pc ls (.ref (xB X + a) :: S.map (cv X))) (rest := S.map (cv X)) hx hb hown (hts _ (gAt_in w1)) (hts _ (gAt_in w2)) (hts _ (gAt_in w3)) rfl (by rw [hml]; exact hF.1) rfl hd hR.1 ?_ (K ⟨hS, hP, hF, hoL, okS_t hoS⟩)
  have h1 := wd_cat (X := X) S
  have h2 : 2 * (F0 m pc ls (.ref (xB X + a) :: S.map (cv X))).monitorRoom = 0 := rfl
  rw [h2, h1]
  omega
theorem cpP_c {D : va_G} {cl : List vw_C} {ws : va_W} {q a n : Nat} {cA : ClassId} {f g : Nat → Int32} {H : Heap} (h : va_P D cl (ws.set q (a, .inl (cA, n, .inl f))) H) (hfg : ∀ j, j < n → f j = g j) : va_P D cl (ws.set q (a, .inl (cA, n, .inl g))) H := by
  intro k x hx
  by_cases hk : k = q
  · subst hk
    have hl : k < ws.length := by
      have := (List.getElem?_eq_some_iff.mp hx).1
      simpa using this
    rw [List.getElem?_set_self hl] at hx
    cases hx
    have h1 : va_at D cl (a, .inl (cA, n, .inl f)) H := h k _ (List.getElem?_set_self hl)
    have h2 : H[a]? = some (vp_cell cA (n, .inl f)) := h1
    show H[a]? = some (vp_cell cA (n, .inl g))
    rw [h2, vp_cell_i, vp_cell_i]
    unfold arrV
    congr 2
    apply Array.ext
    · simp
    · intro j h5 h6
      simp only [Array.getElem_ofFn]
      rw [hfg j (by simpa using h5)]
  · rw [List.getElem?_set_ne (fun z => hk z.symm)] at hx
    exact h k x (by rw [List.getElem?_set_ne (fun z => hk z.symm)]; exact hx)
theorem aCpy_i32 {f g : Nat → Int} {sp dp n len j : Nat} (hj : j < len) : va_cpy (fun j => i32 (f j)) (fun j => i32 (g j)) sp dp n j = i32 (aCpy f g sp dp n len j) := by
  unfold aCpy
  split
  · rename_i h
    obtain ⟨rfl, rfl, rfl⟩ := h
    simp [va_cpy, hj]
  · simp only [va_cpy]
    split <;> rfl
theorem aCpy_ok {f g : Nat → Int} {sp dp n len : Nat} (hf : ∀ j, okI (f j)) (hg : ∀ j, okI (g j)) (j : Nat) : okI (aCpy f g sp dp n len j) := by
  unfold aCpy
  split
  · exact hf j
  · simp only [va_cpy]
    split
    · exact hf _
    · exact hg _
theorem sx_copy {ix i1 i2 i3 mj n a d : Nat} {k dp sp : Int} (hC : Ctx X l mi p s m args meth c) (hd : decode (mB mi) pc = .ok (.invokestatic ix, 3)) (hc : cres (mOwn mi) ix = some (ix, 8, mj, n, i1, i2, i3)) (hst : St X (mL mi) s H locs ls L (.inl k :: .inl dp :: .inr (.inl (some d)) :: .inl sp :: .inr (.inl (some a)) :: S) w)
    (hq : wd S ≤ 8 ∧ (lay a).1 = 21 ∧ (lay d).1 = 21 ∧ 0 ≤ sp ∧ 0 ≤ dp ∧ 0 ≤ k ∧ sp + k ≤ (lay a).2 ∧ dp + k ≤ (lay d).2) (hR : 1 ≤ R.frames ∧ 40 ≤ R.locals)
    (K : ∀ (H' : Heap) (locs' : List Loc), St X (mL mi) s H' locs' ls L S (sI w d (aCpy (gI w a) (gI w d) sp.toNat dp.toNat k.toNat (lay d).2)) → W p l e R s m args below meth c H' locs' cells slots Q (F0 m (pc + 3) ls (S.map (cv X)))) : W p l e R s m args below meth c H locs cells slots Q (F0 m pc ls ((.inl k :: .inl dp :: .inr (.inl (some d)) :: .inl sp :: .inr (.inl (some a)) :: S : List AV).map (cv X))) := by
  obtain ⟨hx, hb, hml, hr, hown, hlk, hnm, htab, hts, hE, hB, hl⟩ := hC
  obtain ⟨hS, hP, hF, hoL, hoS⟩ := id hst
  obtain ⟨hmem, -⟩ := cres_some hc
  have hok := allT_of cOK_all hmem
  simp only [cOKb, show ¬ (8 = 7) by omega, if_false, if_true, Bool.and_eq_true] at hok
  obtain ⟨⟨w1, w2⟩, w3⟩ := hok
  obtain ⟨q0, la, ld, q1, q2, q3, q4, q5⟩ := hq
  have ok1 : okI k := okS_h hoS
  have ok2 : okI dp := okS_h (okS_t hoS)
  have ok3 : okI sp := okS_h (okS_t (okS_t (okS_t hoS)))
  have hda : d < gN w := ref_ok (okS_h (okS_t (okS_t hoS))) ld (by omega)
  have haa : a < gN w := ref_ok (okS_h (okS_t (okS_t (okS_t (okS_t hoS))))) la (by omega)
  have hal : a < STR := by have := lay_lt la (by omega); have : STR = 1000000 := rfl; omega
  have hdl : d < STR := by have := lay_lt ld (by omega); have : STR = 1000000 := rfl; omega
  have e0 : cr X (some a) = .ref (xB X + a) := cr_some (ad_lo hal)
  have e1 : cr X (some d) = .ref (xB X + d) := cr_some (ad_lo hdl)
  simp only [List.map_cons, cv, e0, e1]
  have h1 := wd_cat (X := X) S
  refine va_copyi (D := xD X) (rest := List.map (cv X) S) (ty := .int) hx hb (by rw [hml]; exact hF.1.symm) hown (hts _ (gAt_in w1)) (hts _ (gAt_in w2)) (hts _ (gAt_in w3)) (hts _ sys_init) hE.1 hP.1 wsX_D hS a d 1 1 (by rw [wsX_get haa, ent_21 la]) (by rw [wsX_get hda, ent_21 ld]) rfl rfl rfl
    (fun q => absurd ((i32_lt ok3 ok0).mp q) (by omega)) (fun q => absurd ((i32_lt ok2 ok0).mp q) (by omega)) (fun q => absurd ((i32_lt ok1 ok0).mp q) (by omega)) (by rw [clN ok3, clN ok1]; omega) (by rw [clN ok2, clN ok1]; omega) (fun i hi => rfl) hR.1 ?_ hd (fun H1 locs1 z1 z2 z3 => ?_)
  · have h2 : nativeFrameWords "java/lang/System" "arraycopy" 5 = 7 := by decide +kernel
    rw [h2, h1]
    omega
  · refine K H1 locs1 ⟨z3, ⟨?_, okW_sI hP.2 (aCpy_ok (hP.2.1 a) (hP.2.1 d))⟩, hF, hoL, okS_t (okS_t (okS_t (okS_t (okS_t hoS))))⟩
    rw [← wsX_set (w := w) (w' := sI w d (aCpy (gI w a) (gI w d) sp.toNat dp.toNat k.toNat (lay d).2)) (k := d) rfl (fun j hj => ent_I hj), ent_21 ld]
    rw [clN ok1, clN ok2, clN ok3] at z1
    refine cpP_c z1 fun j hj => ?_
    rw [aCpy_i32 hj]
    simp [sI, gI, va_up]
end STEP4
