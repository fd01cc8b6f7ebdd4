/-! soundness, by induction on the fuel -/
theorem sl_mono {a b : Nat} (h : a ≤ b) : sl a ≤ sl b := by
  induction b with
  | zero => have : a = 0 := by omega
            subst this; exact Nat.le_refl _
  | succ b ih =>
    by_cases hb : a = b + 1
    · subst hb; exact Nat.le_refl _
    · have := ih (by omega)
      rw [sl_succ]; omega
theorem wd_nil {S : List AV} (h : wd S = 0) : S = [] := by
  cases S with
  | nil => rfl
  | cons v S =>
    exfalso
    unfold wd at h
    rw [List.map_cons, List.sum_cons] at h
    split at h <;> omega
theorem okL_le {w w' : Wd} {L : List (Option AV)} (h : gN w ≤ gN w') (hL : okL w L) : okL w' L := fun i v hi => okV_le h (hL i v hi)
theorem okS_le {w w' : Wd} {S : List AV} (h : gN w ≤ gN w') (hS : okS w S) : okS w' S := fun v hv => okV_le h (hS v hv)
theorem covers_no {a b h ct pc : Nat} (q : ¬ (a ≤ pc ∧ pc < b)) : covers ⟨a, b, h, ct⟩ pc = false := by
  simp only [covers, Bool.and_eq_false_iff, decide_eq_false_iff_not]
  by_cases h1 : a ≤ pc
  · exact Or.inr fun h2 => q ⟨h1, h2⟩
  · exact Or.inl h1
theorem stL_none_get {L : List (Option AV)} {i j : Nat} {u : AV} (h : (stL L i none)[j]? = some (some u)) : j ≠ i ∧ L[j]? = some (some u) := by
  rcases stL_get h with ⟨-, q⟩ | ⟨q1, q2, -⟩
  · cases q
  · exact ⟨q1, q2⟩
/-- behind the storing of what was caught -/
theorem FR.ofN {X : PR} {ls : Array Slot} {nL : Nat} {L : List (Option AV)} {i : Nat} {u : Value} (hn : L.length = nL) (h : lv_has ls nL ((i, u) :: (asL X L).filter (fun q => !(q.1 == i) && !(q.1 + 1 == i && q.2.category == 2)))) : FR X ls nL (stL L i none) := by
  refine ⟨h.1, by rw [stL_len]; exact hn, h.2.1, fun j v hj => ?_⟩
  rcases stL_get hj with ⟨-, e⟩ | ⟨e, h2, h3⟩
  · cases e
  · refine h.2.2 (j, cv X v) (List.mem_cons_of_mem _ (List.mem_filter.mpr ⟨asL_mem.mpr ⟨v, h2, rfl⟩, ?_⟩))
    have e5 : (cv X v).category = if isL v then 2 else 1 := cv_cat v
    cases hu : isL v
    · rw [hu] at e5
      simp [e, e5]
    · have e4 : ¬ j + 1 = i := fun q => h3 ⟨q, hu⟩
      simp [e, e4]
set_option maxHeartbeats 4000000 in
theorem sound {X : PR} {l : Launch} : ∀ n, SND X l n := by
  intro n
  induction n with
  | zero => intro mi r pc L S w o h; cases h
  | succ n ih =>
    intro mi r pc L S w o h hr9 p e R s m args below meth c H locs cells slots mc ms ls hC hst hcs hRf hRl hRc hRs hc hs
    have hw0 := run_w _ _ _ _ _ h
    rw [run] at h
    cases hd : decode (mB mi) pc with
    | error e9 => rw [hd] at h; cases h
    | ok q =>
      obtain ⟨i, len⟩ := q
      rw [hd] at h
      simp only [] at h
      obtain ⟨hx, hb, hml, hret, hown, hlk, hnm, htab, hts, hE, hB, hl⟩ := id hC
      obtain ⟨hSS, hP, hFR, hoL, hoS⟩ := id hst
      have sw : slt w = sl (gN w) + 6 * gE w := rfl
      have cw : cnt w = gN w + gE w := rfl
      have so : slt o.2 = sl (gN o.2) + 6 * gE o.2 := rfl
      have co : cnt o.2 = gN o.2 + gE o.2 := rfl
      intro T hT X0
      have hsz : gE w = 0 → H.size = xB X + gN w := fun g0 => size_of hst hB X0 hT (hcs g0)
      cases he : exec1 mi i len pc L S w with
      | none => rw [he] at h; cases h
      | some a =>
        rw [he] at h
        have haw := exec1_w he
        rcases a with c' | ⟨mj, as, c'⟩ | o'
        · simp only [] at h
          have hw1 : wle c'.2.2.2 o.2 := run_w _ _ _ _ _ h
          have haw : wle w c'.2.2.2 := haw
          obtain ⟨a1, a2, a3⟩ := haw
          obtain ⟨b1, b2, b3⟩ := hw1
          have m1 := sl_mono a1
          have m2 := sl_mono b1
          have sc : slt c'.2.2.2 = sl (gN c'.2.2.2) + 6 * gE c'.2.2.2 := rfl
          have cc : cnt c'.2.2.2 = gN c'.2.2.2 + gE c'.2.2.2 := rfl
          refine (step_next hC hd he hst hsz ⟨by omega, by omega⟩ (by omega) (by omega) (fun H' locs' cells' slots' ls' hst' ec es => ?_)).2 T hT X0
          exact ih mi r c'.1 c'.2.1 c'.2.2.1 c'.2.2.2 o h hr9 p e R s m args below meth c H' locs' cells' slots' mc ms ls' hC hst' (fun g0 => by have := hcs (by omega); omega) hRf hRl hRc hRs (by omega) (by omega)
        · simp only [] at h
          by_cases hr : crk mj as < r
          · rw [if_pos hr] at h
            cases hcr : run n mj (crk mj as) (0, entL mj as, [], w) with
            | none => rw [hcr] at h; cases h
            | some o1 =>
              rw [hcr] at h
              obtain ⟨ro, w'⟩ := o1
              have hw1 : wle w w' := run_w _ _ _ _ _ hcr
              obtain ⟨a1, a2, a3⟩ := hw1
              have m1 := sl_mono a1
              have sc : slt w' = sl (gN w') + 6 * gE w' := rfl
              have cc : cnt w' = gN w' + gE w' := rfl
              have hw2 : wle w' o.2 := by
                cases ro with
                | inl v => exact run_w _ _ _ _ _ h
                | inr e9 =>
                  simp only [] at h
                  cases hh : hnd mi pc e9 with
                  | none => rw [hh] at h; cases h; exact wle_rf
                  | some z =>
                    rw [hh] at h
                    cases z with
                    | none => cases h
                    | some kp =>
                      simp only [] at h
                      split at h
                      · exact run_w _ _ _ _ _ h
                      · cases h
              obtain ⟨b1, b2, b3⟩ := hw2
              have m2 := sl_mono b1
              obtain ⟨S', hc', hoT, hv⟩ := sx_call ih hC hd he hr hr9 hcr hst hsz hRf hRl ⟨by show cells + (cnt w' - cnt w) ≤ R.cells; omega, by show slots + (slt w' - slt w) ≤ R.slots; omega⟩
              subst hc'
              rcases hv T hT X0 with ⟨v, st₀, t, T', Ls, h0, X', hL, e1, e2, hq, st⟩ | ⟨q, st₀, t, T', Ls, E, ce, h0, X', hL, e1, e2, hq, hce, hcv, hcl, st⟩
              · obtain ⟨v', ho1, hv', hov, hPW⟩ := hq
                have ho1 : ro = .inl v' := ho1
                subst ho1
                have hvv : v = v'.map (cv X) := by
                  cases hv'; rfl
                subst hvv
                obtain ⟨k1, k2, k3⟩ := vx_keep h0 e1 hSS (fun q _ hq => hq) (fun q hq => hq) hL hPW.2
                have hst' : St X (mL mi) s T'.heap (locs ++ Ls) ls L (v'.toList ++ S') w' := by
                  refine ⟨k3, by rw [e1]; exact hPW.1, hFR, okL_le a1 hoL, fun u hu => ?_⟩
                  rcases List.mem_append.mp hu with hu | hu
                  · cases v' with
                    | none => cases hu
                    | some z =>
                      have : u = z := by simpa using hu
                      subst this
                      exact hov u rfl
                  · exact okV_le a1 (hoT u hu)
                have hW := ih mi r (pc + 3) L (v'.toList ++ S') w' o h hr9 p e R s m args below meth c T'.heap (locs ++ Ls) (cells + (cnt w' - cnt w)) (slots + (slt w' - slt w)) mc ms ls hC hst' (fun g0 => by have := hcs (by omega); omega) hRf hRl hRc hRs (by omega) (by omega)
                obtain ⟨t2, a4, b4⟩ := hW T' rfl X'
                refine ⟨t2, st t2 ?_, b4⟩
                have e9 : (v'.toList ++ S').map (cv X) = (v'.map (cv X)).toList ++ S'.map (cv X) := by cases v' <;> rfl
                rw [e9] at a4
                exact a4
              · obtain ⟨ex, ho1, hex, hEx, hPW⟩ := hq
                have ho1 : ro = .inr ex := ho1
                subst ho1
                subst hEx
                simp only [] at h
                obtain ⟨k1, k2, k3⟩ := vx_keep h0 e1 hSS (fun q _ hq => hq) (fun q hq => hq) hL hPW.2
                have hcell : T'.heap[q]? = some ce := by rw [e1]; exact hce
                have hP' : Pic X w' T'.heap := by rw [e1]; exact hPW.1
                have hne : hE.2.2.2.2.2.2.2.1.2 = hE.2.2.2.2.2.2.2.1.2 := rfl
                have leave : (∀ z ∈ c.exceptionTable.toList, covers z pc = false ∨ (z.catchType ≠ 0 ∧ ∃ nm : String, (Cond.classLink (ownN (mOwn mi)) z.catchType nm).before args s = true ∧ va_Nc (xN ex) nm s)) → o = (.inr ex, w') →
                    ∃ t, Steps p.tables e below (T.setTop (F0 m pc ls (S.map (cv X)))) t ∧ vx_MQ below (QO X o) (XO X o) args s mc ms (AX X) t := by
                  intro hpass ho
                  have hW : vx_W p l e R s m args below meth c T'.heap (locs ++ Ls) (cells + (cnt w' - cnt w)) (slots + (slt w' - slt w)) (vx_MQ below (QO X o) (XO X o) args s mc ms (AX X)) (F0 m pc ls (S'.map (cv X))) q := by
                    refine vx_outP (own := ownN (mOwn mi)) hown hlk hpass hcell hcv hcl (fun t9 ht9 hW9 => ?_) k3.2.2 (by subst ho; show cells + (cnt w' - cnt w) ≤ mc; exact hc) (by subst ho; show slots + (slt w' - slt w) ≤ ms; exact hs)
                    subst ho
                    exact ⟨ex, rfl, hex, rfl, by rw [ht9]; exact hP', k3.F ht9⟩
                  obtain ⟨t2, a4, b4⟩ := hW T' rfl X'
                  exact ⟨t2, st.trans a4, b4⟩
                cases hh : hnd mi pc ex with
                | none =>
                  rw [hh] at h
                  cases h
                  refine leave ?_ rfl
                  unfold hnd at hh
                  cases hm : mH mi with
                  | none =>
                    intro z hz
                    rw [htab, hm] at hz
                    cases hz
                  | some rows =>
                    rw [hm] at hh
                    simp only [] at hh
                    cases hf : hndF ex pc rows with
                    | none =>
                      have hno := hndF_none rows hf
                      intro z hz
                      rw [htab, hm] at hz
                      obtain ⟨zz, hzz, rfl⟩ := List.mem_map.mp hz
                      rcases hno zz hzz with hno | ⟨h1, h2⟩
                      · exact Or.inl (covers_no hno)
                      · refine Or.inr ⟨by show zz.2.2.2 ≠ 0; omega, "java/util/NoSuchElementException", ?_, ?_⟩
                        · show (Cond.classLink (ownN (mOwn mi)) zz.2.2.2 "java/util/NoSuchElementException").before args s = true
                          rw [h2, mH_own hm]; exact hts _ gl18
                        · rw [h1]; exact hE.2.2.2.2.2.2.2.1.2
                    | some z =>
                      rw [hf] at hh
                      cases z <;> cases hh
                | some z =>
                  rw [hh] at h
                  cases z with
                  | none => cases h
                  | some kp =>
                    obtain ⟨k, p2⟩ := kp
                    simp only [] at h
                    by_cases hk : k < L.length
                    · rw [if_pos hk] at h
                      unfold hnd at hh
                      cases hm : mH mi with
                      | none => rw [hm] at hh; cases hh
                      | some rows =>
                        rw [hm] at hh
                        simp only [] at hh
                        cases hf : hndF ex pc rows with
                        | none => rw [hf] at hh; cases hh
                        | some z =>
                          rw [hf] at hh
                          cases z with
                          | none => cases hh
                          | some hp =>
                            simp only [Option.some.injEq] at hh
                            obtain ⟨pre, x, suf, hsp, hcov, hhp, hct, hpre⟩ := hndF_some rows hp hf
                            have hkL : k < mL mi := by rw [← hFR.2.1]; exact hk
                            have KK : ∀ ls', lv_has ls' (mL mi) ((k, Value.ref q) :: (asL X L).filter (fun q => !(q.1 == k) && !(q.1 + 1 == k && q.2.category == 2))) →
                                W p l e R s m args below meth c T'.heap (locs ++ Ls) (cells + (cnt w' - cnt w)) (slots + (slt w' - slt w)) (vx_MQ below (QO X o) (XO X o) args s mc ms (AX X)) (F0 m p2 ls' []) := by
                              intro ls' hl'
                              have hst' : St X (mL mi) s T'.heap (locs ++ Ls) ls' (stL L k none) [] w' := by
                                refine ⟨k3, hP', FR.ofN hFR.2.1 hl', fun j v hj => ?_, fun _ h => nomatch h⟩
                                exact okV_le a1 (hoL j v (stL_none_get hj).2)
                              exact ih mi r p2 (stL L k none) [] w' o h hr9 p e R s m args below meth c T'.heap (locs ++ Ls) (cells + (cnt w' - cnt w)) (slots + (slt w' - slt w)) mc ms ls' hC hst' (fun g0 => by have := hcs (by omega); omega) hRf hRl hRc hRs (by omega) (by omega)
                            have hH : W p l e R s m args below meth c T'.heap (locs ++ Ls) (cells + (cnt w' - cnt w)) (slots + (slt w' - slt w)) (vx_MQ below (QO X o) (XO X o) args s mc ms (AX X)) (F0 m hp ls [.ref q]) := by
                              split at hh
                              · rename_i k9 hd9
                                cases hh
                                exact lv_astore (rest := []) hx hb hd9 (FR.has hFR) hkL rfl KK
                              · rename_i k9 hd9
                                cases hh
                                exact lv_astore_n (rest := []) hx hb hd9 rfl (FR.has hFR) hkL rfl KK
                              · cases hh
                            have hW : vx_W p l e R s m args below meth c T'.heap (locs ++ Ls) (cells + (cnt w' - cnt w)) (slots + (slt w' - slt w)) (vx_MQ below (QO X o) (XO X o) args s mc ms (AX X)) (F0 m pc ls (S'.map (cv X))) q := by
                              have hlink : (Cond.classLink (ownN (mOwn mi)) x.2.2.2 (xN ex)).before args s = true := by
                                rw [hct, mH_own hm]
                                unfold xN
                                split
                                · exact hts _ gl18
                                · exact hts _ gl13
                              have hcast : (Cond.castable (xN ex) (xN ex)).before args s = true := by
                                unfold xN
                                split
                                · exact va_Nw.use rfl (hE.2.1 _ gcN rfl)
                                · exact va_Nw.use rfl (hE.2.1 _ gcI rfl)
                              refine vx_catch (own := ownN (mOwn mi)) (name := xN ex) hown (tableOf pre) ⟨x.1, x.2.1, x.2.2.1, x.2.2.2⟩ (tableOf suf) ?_ (fun z hz => ?_) ?_ ?_ hlink hcast hcell hcv hcl (by show W p l e R s m args below meth c T'.heap (locs ++ Ls) (cells + (cnt w' - cnt w)) (slots + (slt w' - slt w)) (vx_MQ below (QO X o) (XO X o) args s mc ms (AX X)) (F0 m x.2.2.1 ls [.ref q]); rw [hhp]; exact hH)
                              · rw [htab, hm, hsp]
                                simp [tableOf]
                              · obtain ⟨zz, hzz, rfl⟩ := List.mem_map.mp hz
                                rcases hpre zz hzz with hno | ⟨h1, h2⟩
                                · exact Or.inl (covers_no hno)
                                · refine Or.inr ⟨by show zz.2.2.2 ≠ 0; omega, "java/util/NoSuchElementException", ?_, ?_⟩
                                  · show (Cond.classLink (ownN (mOwn mi)) zz.2.2.2 "java/util/NoSuchElementException").before args s = true
                                    rw [h2, mH_own hm]; exact hts _ gl18
                                  · rw [h1]; exact hE.2.2.2.2.2.2.2.1.2
                              · simp [covers, hcov.1, hcov.2]
                              · show x.2.2.2 ≠ 0
                                rw [hct]; split <;> omega
                            obtain ⟨t2, a4, b4⟩ := hW T' rfl X'
                            exact ⟨t2, st.trans a4, b4⟩
                    · rw [if_neg hk] at h; cases h
          · rw [if_neg hr] at h; cases h
        · cases h
          by_cases hnew : ∃ ix, i = .new ix
          · obtain ⟨ix, rfl⟩ := hnew
            unfold exec1 at he
            split at he
            · dsimp only [exec0] at he
              split at he
              · rename_i e9 hthr
                split at he
                · rename_i hwd
                  cases he
                  obtain rfl := wd_nil hwd
                  have c1 : cnt (tW w) = cnt w + 1 := by show gN w + (gE w + 1) = gN w + gE w + 1; omega
                  have c2 : slt (tW w) = slt w + 6 := by show sl (gN w) + 6 * (gE w + 1) = sl (gN w) + 6 * gE w + 6; omega
                  have hc9 : cells + 1 ≤ mc := by have : cells + (cnt (tW w) - cnt w) ≤ mc := hc; omega
                  have hs9 : slots + 6 ≤ ms := by have : slots + (slt (tW w) - slt w) ≤ ms := hs; omega
                  have hR9 : 10 ≤ R.frames ∧ 150 ≤ R.locals := ⟨by omega, by omega⟩
                  unfold thr at hthr
                  cases hf : thL.find? (fun e => e.1 == mi && e.2.1 == pc) with
                  | none => rw [hf] at hthr; cases hthr
                  | some q =>
                    rw [hf] at hthr
                    have h1 := List.mem_of_find?_eq_some hf
                    have h2 := List.find?_some hf
                    simp only [Bool.and_eq_true, beq_iff_eq] at h2
                    obtain ⟨h3, h4⟩ := h2
                    subst h3; subst h4
                    have h5 : q.2.2 = e9 := Option.some.inj hthr
                    subst h5
                    simp only [thL, List.mem_cons, List.not_mem_nil, or_false] at h1
                    rcases h1 with rfl | rfl | rfl | rfl | rfl
                    · exact sx_throw_X11_quay hC hst hR9 hc9 hs9 hRc hRs T hT X0
                    · exact sx_throw_X11_game hC hst hR9 hc9 hs9 hRc hRs T hT X0
                    · exact sx_throw_X11_needPerson hC hst hR9 hc9 hs9 hRc hRs T hT X0
                    · exact sx_throw_X11_needWhat hC hst hR9 hc9 hs9 hRc hRs T hT X0
                    · exact sx_throw_X11_needWithin hC hst hR9 hc9 hs9 hRc hRs T hT X0
                · cases he
              · split at he
                · split at he <;> cases he
                · cases he
            · cases he
          · exact sx_ret hC hd he (fun ix q => hnew ⟨ix, q⟩) hst (by omega) (by omega) T hT X0
