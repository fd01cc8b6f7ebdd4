/-! steps that change the world -/
theorem okW_pI {X : PR} {w : Wd} {a i : Nat} {x : Int} (h : okW X w) (hx : okI x) : okW X (pI w a i x) := by
  refine ⟨fun b j => ?_, h.2.1, h.2.2.1, h.2.2.2⟩
  show okI (va_up w.1 a (va_up (gI w a) i x) b j)
  by_cases e1 : b = a
  · subst e1
    by_cases e2 : j = i
    · subst e2; simp only [va_up, if_true]; exact hx
    · simp only [va_up, if_true, if_neg e2]; exact h.1 b j
  · simp only [va_up, if_neg e1]; exact h.1 b j
theorem okW_sI {X : PR} {w : Wd} {a : Nat} {f : Nat → Int} (h : okW X w) (hx : ∀ j, okI (f j)) : okW X (sI w a f) := by
  refine ⟨fun b j => ?_, h.2.1, h.2.2.1, h.2.2.2⟩
  show okI (va_up w.1 a f b j)
  by_cases e1 : b = a
  · simp only [va_up, if_pos e1]; exact hx j
  · simp only [va_up, if_neg e1]; exact h.1 b j
theorem okW_pJ {X : PR} {w : Wd} {a i : Nat} {x : Int} (h : okW X w) (hx : okJ x) : okW X (pJ w a i x) := by
  refine ⟨h.1, fun b j => ?_, h.2.2.1, h.2.2.2⟩
  show okJ (va_up w.2.2.1 a (va_up (gJ w a) i x) b j)
  by_cases e1 : b = a
  · subst e1
    by_cases e2 : j = i
    · subst e2; simp only [va_up, if_true]; exact hx
    · simp only [va_up, if_true, if_neg e2]; exact h.2.1 b j
  · simp only [va_up, if_neg e1]; exact h.2.1 b j
theorem okW_pR {X : PR} {w : Wd} {a i : Nat} {x : Option Nat} (h : okW X w) (hx : ∀ k, x = some k → okR w k) : okW X (pR w a i x) := by
  refine ⟨h.1, h.2.1, fun b j k hk => ?_, h.2.2.2⟩
  have hk : va_up w.2.1 a (va_up (gR w a) i x) b j = some k := hk
  by_cases e1 : b = a
  · subst e1
    by_cases e2 : j = i
    · subst e2; simp only [va_up, if_true] at hk; exact hx k hk
    · simp only [va_up, if_true, if_neg e2] at hk; exact h.2.2.1 b j k hk
  · simp only [va_up, if_neg e1] at hk; exact h.2.2.1 b j k hk
theorem ent_pI {X : PR} {w : Wd} {a ci k : Nat} {x : Int} (hl : (lay a).1 = ci) (hci : ci < 13) (hk : k < nF ci) (hf : (fk ci k).1 ≠ 2) : ent X (pI w a k x) a = .inr (ci, ((List.range (nF ci)).map (fV X w a ci)).set k (.int (i32 x))) := by
  rw [ent_obj hl hci]
  congr 2
  refine List.ext_getElem? fun j => ?_
  rw [List.getElem?_set]
  by_cases e : k = j
  · subst e
    simp [hk, fV, hf, pI, sI, gI, va_up]
  · have e' : ¬ j = k := fun z => e z.symm
    by_cases hj : j < nF ci
    · simp [hj, e, fV, pI, sI, gI, gR, va_up, e']
    · simp [hj, e]
theorem ent_pR {X : PR} {w : Wd} {a ci k : Nat} {x : Option Nat} (hl : (lay a).1 = ci) (hci : ci < 13) (hk : k < nF ci) (hf : (fk ci k).1 = 2) : ent X (pR w a k x) a = .inr (ci, ((List.range (nF ci)).map (fV X w a ci)).set k (cr X x)) := by
  rw [ent_obj hl hci]
  congr 2
  refine List.ext_getElem? fun j => ?_
  rw [List.getElem?_set]
  by_cases e : k = j
  · subst e
    simp [hk, fV, hf, pR, sR, gR, va_up]
  · have e' : ¬ j = k := fun z => e z.symm
    by_cases hj : j < nF ci
    · simp [hj, e, fV, pR, sR, gI, gR, va_up, e']
    · simp [hj, e]
theorem upd_i32 {f : Nat → Int} {k : Nat} {x : Int} : (fun j => i32 (va_up f k x j)) = upd (fun j => i32 (f j)) k (i32 x) := by
  funext j
  by_cases e : j = k <;> simp [va_up, upd, e]
theorem upd_i64 {f : Nat → Int} {k : Nat} {x : Int} : (fun j => i64 (va_up f k x j)) = vp_updL (fun j => i64 (f j)) k (i64 x) := by
  funext j
  by_cases e : j = k <;> simp [va_up, vp_updL, e]
theorem upd_ref {g : Nat → Option Nat} {f : Nat → Option Nat} {k : Nat} {x : Option Nat} : (fun j => (va_up f k x j).bind g) = va_up (fun j => (f j).bind g) k (x.bind g) := by
  funext j
  by_cases e : j = k <;> simp [va_up, e]
section STEP3
variable {X : PR} {l : Launch} {mi : Nat} {p : Program} {e : Env} {R : Room} {s : State} {m : MethodId} {args : Array Value} {below : List Frame} {meth : Method} {c : Code} {H : Heap} {locs : List Loc} {cells slots : Nat} {Q : State → Prop} {ls : Array Slot} {pc len : Nat} {L : List (Option AV)} {S : List AV} {w : Wd} {c' : Cfg}

theorem sx_putfield {ix : Nat} (hC : Ctx X l mi p s m args meth c) (hd : decode (mB mi) pc = .ok (.putfield ix, len)) (hlen : okLen (.putfield ix) len = true) (he : exec0 mi (.putfield ix) len pc L S w = some (.inl c')) (hst : St X (mL mi) s H locs ls L S w)
    (K : ∀ (H' : Heap) (locs' : List Loc), St X (mL mi) s H' locs' ls c'.2.1 c'.2.2.1 c'.2.2.2 → W p l e R s m args below meth c H' locs' cells slots Q (F0 m c'.1 ls (c'.2.2.1.map (cv X)))) : (gN c'.2.2.2 = gN w ∧ gE c'.2.2.2 = gE w) ∧ W p l e R s m args below meth c H locs cells slots Q (F0 m pc ls (S.map (cv X))) := by
  obtain ⟨hx, hb, hml, hr, hown, hlk, hnm, htab, hts, hE, hB, hl⟩ := hC
  obtain ⟨hS, hP, hF, hoL, hoS⟩ := id hst
  dsimp only [exec0] at he
  obtain rfl : len = 3 := by simpa [okLen] using hlen
  split at he
  · rename_i v a S0
    unfold fPut at he
    cases hf : fres (mOwn mi) ix with
    | none => rw [hf] at he; cases he
    | some q =>
      obtain ⟨ix', ci, k, nest, wi⟩ := q
      rw [hf] at he
      obtain ⟨hmem, hix⟩ := fres_some hf
      have hok := allT_of fOK_all hmem
      simp only [] at hix he
      subst hix
      unfold fOKb at hok
      simp only [] at hok
      by_cases hcond : (lay a).1 = ci ∧ ci < 13 ∧ ((fk ci k).2 = true → (mY mi).name = "<init>" ∧ nest = 0 ∧ mOwn mi = ci)
      · rw [if_pos hcond] at he
        obtain ⟨hl2, hci, hfin⟩ := hcond
        rw [if_neg (by omega)] at hok
        simp only [Bool.and_eq_true, decide_eq_true_eq] at hok
        obtain ⟨⟨-, hk⟩, hw⟩ := hok
        have ha : a < gN w := ref_ok (okS_h (okS_t hoS)) hl2 (by omega)
        have hlt : a < STR := by have := lay_lt hl2 (by omega); have : STR = 1000000 := rfl; omega
        obtain ⟨C, T, N, ty, k1, k2, k3, k4, k5, k6, k7, k8⟩ := clsOK ci hci
        have e0 : cr X (some a) = .ref (xB X + a) := cr_some (ad_lo hlt)
        have hws : (wsX X w)[a]? = some (xB X + a, .inr (ci, (List.range (nF ci)).map (fV X w a ci))) := by rw [wsX_get ha, ent_obj hl2 hci]
        obtain ⟨f1, f2, f3⟩ := k8 k (by rw [k3]; exact hk)
        -- what is stored, and the world behind
        have key : ∃ w', (gN w' = gN w ∧ gE w' = gE w) ∧ c' = (pc + 3, L, S0, w') ∧ okW X w' ∧ (wsX X w).set a (xB X + a, .inr (ci, ((List.range (nF ci)).map (fV X w a ci)).set k (cv X v))) = wsX X w' ∧ narrow (ty k) (cv X v) = cv X v ∧ fits (ty k) (cv X v) = true ∧ okS w' S0 ∧ okL w' L := by
          rcases v with x | r | x
          · by_cases hz : (fk ci k).1 = 0 ∨ ((fk ci k).1 = 1 ∧ (x = 0 ∨ x = 1))
            · simp only [if_pos hz] at he
              cases he
              have h2 : (fk ci k).1 ≠ 2 := by omega
              refine ⟨pI w a k x, ⟨rfl, rfl⟩, rfl, okW_pI hP.2 (okS_h hoS), ?_, ?_, ?_, okS_t (okS_t hoS), hoL⟩
              · show (wsX X w).set a (xB X + a, .inr (ci, ((List.range (nF ci)).map (fV X w a ci)).set k (.int (i32 x)))) = _
                rw [← ent_pI hl2 hci hk h2]
                exact wsX_set rfl fun j hj => ent_I hj
              · unfold fkOK at f1
                rcases hz with hz | ⟨hz, hv⟩
                · rw [hz] at f1
                  simp only [decide_eq_true_eq] at f1
                  rw [f1]; rfl
                · rw [hz] at f1
                  simp only [decide_eq_true_eq] at f1
                  rw [f1]
                  rcases hv with rfl | rfl <;> rfl
              · unfold fkOK at f1
                rcases hz with hz | ⟨hz, hv⟩
                · rw [hz] at f1
                  simp only [decide_eq_true_eq] at f1
                  rw [f1]; rfl
                · rw [hz] at f1
                  simp only [decide_eq_true_eq] at f1
                  rw [f1]
                  rcases hv with rfl | rfl <;> rfl
            · simp only [if_neg hz] at he
              cases he
          · by_cases hz : (fk ci k).1 = 2
            · simp only [if_pos hz] at he
              cases he
              refine ⟨pR w a k r, ⟨rfl, rfl⟩, rfl, okW_pR hP.2 (okS_h hoS), ?_, ?_, ?_, okS_t (okS_t hoS), hoL⟩
              · show (wsX X w).set a (xB X + a, .inr (ci, ((List.range (nF ci)).map (fV X w a ci)).set k (cr X r))) = _
                rw [← ent_pR hl2 hci hk hz]
                exact wsX_set rfl fun j hj => ent_R hj
              · unfold fkOK at f1
                rw [hz] at f1
                simp only [hz, decide_true, Bool.true_and] at f1
                show narrow (ty k) (cr X r) = cr X r
                unfold cr
                cases r.bind (ad X) <;> (split at f1 <;> first | (cases f1; done) | (rename_i h5; rw [h5]; rfl))
              · unfold fkOK at f1
                rw [hz] at f1
                simp only [hz, decide_true, Bool.true_and] at f1
                show fits (ty k) (cr X r) = true
                unfold cr
                cases r.bind (ad X) <;> (split at f1 <;> first | (cases f1; done) | (rename_i h5; rw [h5]; rfl))
            · simp only [if_neg hz] at he
              cases he
          · simp only [] at he
            cases he
        obtain ⟨w', hg, rfl, hok', hset, hnar, hfit, hoS', hoL'⟩ := key
        refine ⟨hg, ?_⟩
        simp only [List.map_cons, cv, e0]
        have KK : ∀ (H1 : Heap) (locs1 : List Loc), va_P (xD X) vwCl ((wsX X w).set a (xB X + a, .inr (ci, ((List.range (nF ci)).map (fV X w a ci)).set k (cv X v)))) H1 → va_D (AX X) ((wsX X w).set a (xB X + a, .inr (ci, ((List.range (nF ci)).map (fV X w a ci)).set k (cv X v)))) → va_S (AX X) s.heap H1 locs1 → W p l e R s m args below meth c H1 locs1 cells slots Q (F0 m (pc + 3) ls (S0.map (cv X))) := by
          intro H1 locs1 q1 q2 q3
          rw [hset] at q1
          exact K H1 locs1 ⟨q3, ⟨q1, hok'⟩, hF, hoL', hoS'⟩
        subst k4; subst k3
        have hlenf : k < ((List.range (nF ci)).map (fV X w a ci)).length := by simpa using hk
        by_cases hfi : (fk ci k).2 = true
        · obtain ⟨hin, hn, hoc⟩ := hfin hfi
          rw [if_pos hn] at hw
          have hown2 := hown
          exact va_putF (D := xD X) (ci := ci) (rest := List.map (cv X) S0) hx hb hts k5 ty k6 k7 hown hE.1 hP.1 wsX_D hS a hws k1 k hk (hts _ (gAt_in hw)) (fun _ h => h) (by rw [f2]; exact hfi) (by rw [hnm]; exact hin) (by rw [f3, k2, hoc]) (k6 k hk) hnar hfit hlenf hd KK
        · have hfi2 : (TT ci k).2.2.2 = false := by rw [f2]; simpa using hfi
          by_cases hn : nest = 0
          · rw [if_pos hn] at hw
            exact va_put (D := xD X) (ci := ci) (rest := List.map (cv X) S0) hx hb hts k5 ty k6 k7 hown hE.1 hP.1 wsX_D hS a hws k1 k hk (hts _ (gAt_in hw)) (fun _ h => h) hfi2 (k6 k hk) hnar hfit hlenf hd KK
          · rw [if_neg hn] at hw
            have hw2 := nAt_in hw
            exact va_putN (D := xD X) (ci := ci) (rest := List.map (cv X) S0) hx hb hts k5 ty k6 k7 hown hE.1 hP.1 wsX_D hS a hws k1 k hk (va_Nw.use rfl (hE.2.1 _ hw2.1 hw2.2)) (fun _ h => h) hfi2 (k6 k hk) hnar hfit hlenf hd KK
      · rw [if_neg hcond] at he
        cases he
  · cases he
theorem sx_iastore (hC : Ctx X l mi p s m args meth c) (hd : decode (mB mi) pc = .ok (.iastore, len)) (hlen : okLen (.iastore) len = true) (he : exec0 mi (.iastore) len pc L S w = some (.inl c')) (hst : St X (mL mi) s H locs ls L S w)
    (K : ∀ (H' : Heap) (locs' : List Loc), St X (mL mi) s H' locs' ls c'.2.1 c'.2.2.1 c'.2.2.2 → W p l e R s m args below meth c H' locs' cells slots Q (F0 m c'.1 ls (c'.2.2.1.map (cv X)))) : (gN c'.2.2.2 = gN w ∧ gE c'.2.2.2 = gE w) ∧ W p l e R s m args below meth c H locs cells slots Q (F0 m pc ls (S.map (cv X))) := by
  obtain ⟨hx, hb, hml, hr, hown, hlk, hnm, htab, hts, hE, hB, hl⟩ := hC
  obtain ⟨hS, hP, hF, hoL, hoS⟩ := id hst
  dsimp only [exec0] at he
  obtain rfl : len = 1 := by simpa [okLen] using hlen
  cases h1 : exAst 21 w S with
  | none => rw [h1] at he; cases he
  | some q =>
    rw [h1] at he
    cases he
    unfold exAst at h1
    split at h1
    · rename_i x i a S0
      have oi : okI i := okS_h (okS_t hoS)
      split at h1
      · rename_i hq
        obtain ⟨hl2, hin, hk⟩ := hq
        cases h1
        have ha : a < gN w := ref_ok (okS_h (okS_t (okS_t hoS))) hl2 (by omega)
        have hlt : a < STR := by have := lay_lt hl2 (by omega); have : STR = 1000000 := rfl; omega
        have e0 : cr X (some a) = .ref (xB X + a) := cr_some (ad_lo hlt)
        refine ⟨⟨rfl, rfl⟩, ?_⟩
        simp only [List.map_cons, cv, e0]
        refine va_iast (D := xD X) (rest := List.map (cv X) S0) hx hb hE.1 hP.1 wsX_D hS a 1 (by rw [wsX_get ha, ent_21 hl2]) rfl (inb_in oi hin) hd (fun H1 locs1 q1 q2 q3 => ?_)
        refine K H1 locs1 ⟨q3, ⟨?_, okW_pI hP.2 (okS_h hoS)⟩, hF, hoL, okS_t (okS_t (okS_t hoS))⟩
        rw [← wsX_set (w := w) (w' := pI w a i.toNat x) (k := a) rfl (fun j hj => ent_I hj), ent_21 hl2]
        rw [clN oi] at q1
        have e5 : (fun j => i32 (gI (pI w a i.toNat x) a j)) = upd (fun j => i32 (gI w a j)) i.toNat (i32 x) := by
          rw [← upd_i32]; simp [pI, sI, gI, va_up]
        rw [e5]
        exact q1
      · split at h1
        · rename_i hq
          omega
        · cases h1
    · split at h1
      · rename_i hq; omega
      · cases h1
    · split at h1
      · rename_i hq; omega
      · split at h1
        · rename_i hq; omega
        · cases h1
    · cases h1
theorem sx_bastore (hC : Ctx X l mi p s m args meth c) (hd : decode (mB mi) pc = .ok (.bastore, len)) (hlen : okLen (.bastore) len = true) (he : exec0 mi (.bastore) len pc L S w = some (.inl c')) (hst : St X (mL mi) s H locs ls L S w)
    (K : ∀ (H' : Heap) (locs' : List Loc), St X (mL mi) s H' locs' ls c'.2.1 c'.2.2.1 c'.2.2.2 → W p l e R s m args below meth c H' locs' cells slots Q (F0 m c'.1 ls (c'.2.2.1.map (cv X)))) : (gN c'.2.2.2 = gN w ∧ gE c'.2.2.2 = gE w) ∧ W p l e R s m args below meth c H locs cells slots Q (F0 m pc ls (S.map (cv X))) := by
  obtain ⟨hx, hb, hml, hr, hown, hlk, hnm, htab, hts, hE, hB, hl⟩ := hC
  obtain ⟨hS, hP, hF, hoL, hoS⟩ := id hst
  dsimp only [exec0] at he
  obtain rfl : len = 1 := by simpa [okLen] using hlen
  cases h1 : exAst 20 w S with
  | none => rw [h1] at he; cases he
  | some q =>
    rw [h1] at he
    cases he
    unfold exAst at h1
    split at h1
    · rename_i x i a S0
      have oi : okI i := okS_h (okS_t hoS)
      split at h1
      · rename_i hq
        omega
      · split at h1
        · rename_i hq
          obtain ⟨hl2, hin, hk⟩ := hq
          cases h1
          have ha : a < gN w := ref_ok (okS_h (okS_t (okS_t hoS))) hl2 (by omega)
          have hlt : a < STR := by have := lay_lt hl2 (by omega); have : STR = 1000000 := rfl; omega
          have e0 : cr X (some a) = .ref (xB X + a) := cr_some (ad_lo hlt)
          refine ⟨⟨rfl, rfl⟩, ?_⟩
          simp only [List.map_cons, cv, e0]
          refine va_bast (D := xD X) (rest := List.map (cv X) S0) hx hb hE.1 hP.1 wsX_D hS a 0 (by rw [wsX_get ha, ent_20 hl2]) rfl (inb_in oi hin) hd (fun H1 locs1 q1 q2 q3 => ?_)
          refine K H1 locs1 ⟨q3, ⟨?_, okW_pI hP.2 (ok_toInt _)⟩, hF, hoL, okS_t (okS_t (okS_t hoS))⟩
          rw [← wsX_set (w := w) (w' := pI w a i.toNat (bI2b x)) (k := a) rfl (fun j hj => ent_I hj), ent_20 hl2]
          rw [clN oi] at q1
          have e5 : (fun j => i32 (gI (pI w a i.toNat (bI2b x)) a j)) = upd (fun j => i32 (gI w a j)) i.toNat (vp_nar .byte (i32 x)) := by
            rw [vp_nar_byte, show (i32 x).toInt8.toInt32 = i32 (bI2b x) from (i32_t _).symm, ← upd_i32]; simp [pI, sI, gI, va_up]
          rw [e5]
          exact q1
        · cases h1
    · split at h1
      · rename_i hq; omega
      · cases h1
    · split at h1
      · rename_i hq; omega
      · split at h1
        · rename_i hq; omega
        · cases h1
    · cases h1
theorem sx_lastore (hC : Ctx X l mi p s m args meth c) (hd : decode (mB mi) pc = .ok (.lastore, len)) (hlen : okLen (.lastore) len = true) (he : exec0 mi (.lastore) len pc L S w = some (.inl c')) (hst : St X (mL mi) s H locs ls L S w)
    (K : ∀ (H' : Heap) (locs' : List Loc), St X (mL mi) s H' locs' ls c'.2.1 c'.2.2.1 c'.2.2.2 → W p l e R s m args below meth c H' locs' cells slots Q (F0 m c'.1 ls (c'.2.2.1.map (cv X)))) : (gN c'.2.2.2 = gN w ∧ gE c'.2.2.2 = gE w) ∧ W p l e R s m args below meth c H locs cells slots Q (F0 m pc ls (S.map (cv X))) := by
  obtain ⟨hx, hb, hml, hr, hown, hlk, hnm, htab, hts, hE, hB, hl⟩ := hC
  obtain ⟨hS, hP, hF, hoL, hoS⟩ := id hst
  dsimp only [exec0] at he
  obtain rfl : len = 1 := by simpa [okLen] using hlen
  cases h1 : exAst 22 w S with
  | none => rw [h1] at he; cases he
  | some q =>
    rw [h1] at he
    cases he
    unfold exAst at h1
    split at h1
    · rename_i x i a S0
      have oi : okI i := okS_h (okS_t hoS)
      split at h1
      · rename_i hq
        omega
      · split at h1
        · rename_i hq
          omega
        · cases h1
    · rename_i x i a S0
      have oi : okI i := okS_h (okS_t hoS)
      split at h1
      · rename_i hq
        obtain ⟨hl2, hin, hk⟩ := hq
        cases h1
        have ha : a < gN w := ref_ok (okS_h (okS_t (okS_t hoS))) hl2 (by omega)
        have hlt : a < STR := by have := lay_lt hl2 (by omega); have : STR = 1000000 := rfl; omega
        have e0 : cr X (some a) = .ref (xB X + a) := cr_some (ad_lo hlt)
        refine ⟨⟨rfl, rfl⟩, ?_⟩
        simp only [List.map_cons, cv, e0]
        refine va_last (D := xD X) (rest := List.map (cv X) S0) hx hb hE.1 hP.1 wsX_D hS a 2 (by rw [wsX_get ha, ent_22 hl2]) rfl (inb_in oi hin) hd (fun H1 locs1 q1 q2 q3 => ?_)
        refine K H1 locs1 ⟨q3, ⟨?_, okW_pJ hP.2 (okS_h hoS)⟩, hF, hoL, okS_t (okS_t (okS_t hoS))⟩
        rw [← wsX_set (w := w) (w' := pJ w a i.toNat x) (k := a) rfl (fun j hj => ent_J hj), ent_22 hl2]
        rw [clN oi] at q1
        have e5 : (fun j => i64 (gJ (pJ w a i.toNat x) a j)) = vp_updL (fun j => i64 (gJ w a j)) i.toNat (i64 x) := by
          rw [← upd_i64]; simp [pJ, sJ, gJ, va_up]
        rw [e5]
        exact q1
      · cases h1
    · split at h1
      · rename_i hq; omega
      · split at h1
        · rename_i hq; omega
        · cases h1
    · cases h1
theorem sx_aastore (hC : Ctx X l mi p s m args meth c) (hd : decode (mB mi) pc = .ok (.aastore, len)) (hlen : okLen (.aastore) len = true) (he : exec0 mi (.aastore) len pc L S w = some (.inl c')) (hst : St X (mL mi) s H locs ls L S w)
    (K : ∀ (H' : Heap) (locs' : List Loc), St X (mL mi) s H' locs' ls c'.2.1 c'.2.2.1 c'.2.2.2 → W p l e R s m args below meth c H' locs' cells slots Q (F0 m c'.1 ls (c'.2.2.1.map (cv X)))) : (gN c'.2.2.2 = gN w ∧ gE c'.2.2.2 = gE w) ∧ W p l e R s m args below meth c H locs cells slots Q (F0 m pc ls (S.map (cv X))) := by
  obtain ⟨hx, hb, hml, hr, hown, hlk, hnm, htab, hts, hE, hB, hl⟩ := hC
  obtain ⟨hS, hP, hF, hoL, hoS⟩ := id hst
  dsimp only [exec0] at he
  obtain rfl : len = 1 := by simpa [okLen] using hlen
  cases h1 : exAst 23 w S with
  | none => rw [h1] at he; cases he
  | some q =>
    rw [h1] at he
    cases he
    unfold exAst at h1
    split at h1
    · rename_i x i a S0
      have oi : okI i := okS_h (okS_t hoS)
      split at h1
      · rename_i hq
        omega
      · split at h1
        · rename_i hq
          omega
        · cases h1
    · split at h1
      · rename_i hq; omega
      · cases h1
    · rename_i v i a S0
      have oi : okI i := okS_h (okS_t hoS)
      split at h1
      · rename_i hq
        obtain ⟨hl2, hin, hk, hv8⟩ := hq
        cases h1
        have ha : a < gN w := ref_ok (okS_h (okS_t (okS_t hoS))) hl2 (by omega)
        have hlt : a < STR := by have := lay_lt hl2 (by omega); have : STR = 1000000 := rfl; omega
        have e0 : cr X (some a) = .ref (xB X + a) := cr_some (ad_lo hlt)
        have hv : v < gN w := ref_ok (okS_h hoS) hv8 (by omega)
        have hvl : v < STR := by have := lay_lt hv8 (by omega); have : STR = 1000000 := rfl; omega
        have e1 : cr X (some v) = .ref (xB X + v) := cr_some (ad_lo hvl)
        have e2 : (some v).bind (ad X) = some (xB X + v) := ad_lo hvl
        refine ⟨⟨rfl, rfl⟩, ?_⟩
        simp only [List.map_cons, cv, e0, e1]
        refine va_astq (D := xD X) (ci := 8) (r := (RX8, TX8, 8)) (rest := List.map (cv X) S0) hx hb hE.1 hP.1 wsX_D hS a 3 v (by rw [wsX_get ha, ent_23 hl2]) rfl (by rw [wsX_get hv, ent_obj hv8 (by omega)]) rfl (inb_in oi hin) hd (fun H1 locs1 q1 q2 q3 => ?_)
        refine K H1 locs1 ⟨q3, ⟨?_, okW_pR hP.2 (okS_h hoS)⟩, hF, hoL, okS_t (okS_t (okS_t hoS))⟩
        rw [← wsX_set (w := w) (w' := pR w a i.toNat (some v)) (k := a) rfl (fun j hj => ent_R hj), ent_23 hl2]
        rw [clN oi] at q1
        have e5 : (fun j9 => (gR (pR w a i.toNat (some v)) a j9).bind (ad X)) = va_up (fun j9 => (gR w a j9).bind (ad X)) i.toNat (some (xB X + v)) := by
          rw [show some (xB X + v) = (some v).bind (ad X) from e2.symm, ← upd_ref]; simp [pR, sR, gR, va_up]
        rw [e5]
        exact q1
      · split at h1
        · rename_i hq
          obtain ⟨hl2, hin, hk, hlo, hhi⟩ := hq
          cases h1
          have ha : a < gN w := ref_ok (okS_h (okS_t (okS_t hoS))) hl2 (by omega)
          have hlt : a < STR := by have := lay_lt hl2 (by omega); have : STR = 1000000 := rfl; omega
          have e0 : cr X (some a) = .ref (xB X + a) := cr_some (ad_lo hlt)
          obtain ⟨j, rfl⟩ : ∃ j, v = STR + j := ⟨v - STR, by omega⟩
          have hj : j < 23 := by rw [txL_len] at hhi; omega
          have e1 : cr X (some (STR + j)) = .ref (xK X j) := cr_some (ad_str hj)
          have e2 : (some (STR + j)).bind (ad X) = some (xK X j) := ad_str hj
          have hany : va_Any "java/lang/String" s H (xK X j) := by
            obtain ⟨cell, g1, g2, g3, -⟩ := (hE.2.2.2.1.1 j hj).1.kept hS.2.1
            obtain ⟨kC, hkC, -⟩ := Vm.findClass_spec g3
            refine ⟨cell, g1, g2, ⟨kC, hkC⟩, fun comp hcomp => ?_⟩
            cases hcomp.symm.trans g3
            exact va_asg _ _
          refine ⟨⟨rfl, rfl⟩, ?_⟩
          simp only [List.map_cons, cv, e0, e1]
          refine va_astqM (D := xD X) (E := "java/lang/String") (rest := List.map (cv X) S0) hx hb hE.1 hP.1 wsX_D hS a 4 (by rw [wsX_get ha, ent_24 hl2]) rfl hany (inb_in oi hin) hd (fun H1 locs1 q1 q2 q3 => ?_)
          refine K H1 locs1 ⟨q3, ⟨?_, okW_pR hP.2 (okS_h hoS)⟩, hF, hoL, okS_t (okS_t (okS_t hoS))⟩
          rw [← wsX_set (w := w) (w' := pR w a i.toNat (some (STR + j))) (k := a) rfl (fun j hj => ent_R hj), ent_24 hl2]
          rw [clN oi] at q1
          have e5 : (fun j9 => (gR (pR w a i.toNat (some (STR + j))) a j9).bind (ad X)) = va_up (fun j9 => (gR w a j9).bind (ad X)) i.toNat (some (xK X j)) := by
            rw [show some (xK X j) = (some (STR + j)).bind (ad X) from e2.symm, ← upd_ref]; simp [pR, sR, gR, va_up]
          rw [e5]
          exact q1
        · cases h1
    · cases h1
end STEP3
