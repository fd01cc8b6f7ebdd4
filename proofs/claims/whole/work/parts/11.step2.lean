/-! steps that read and write the world -/
theorem gs_38 : Jvm.Cond.fieldLink "java/lang/String" 38 "java/lang/String" "COMPACT_STRINGS" "Z" ∈ GT := gAt_in (i := 3215) (by decide +kernel)
theorem gs_1053 : Jvm.Cond.fieldLink "java/lang/String" 1053 "jdk/internal/util/Preconditions" "SIOOBE_FORMATTER" "Ljava/util/function/BiFunction;" ∈ GT := gAt_in (i := 3231) (by decide +kernel)
theorem layL_len : layL.length = 515 := by decide +kernel
theorem txL_len : txL.length = 23 := by decide +kernel
theorem lay_lt {a k : Nat} (h : (lay a).1 = k) (hk : k ≠ 99) : a < 515 := by
  rcases Nat.lt_or_ge a 515 with q | q
  · exact q
  · have e : lay a = (99, 0) := by
      unfold lay
      rw [List.getD_eq_getElem?_getD, List.getElem?_eq_none (by rw [layL_len]; exact q)]
      rfl
    rw [e] at h
    exact absurd h.symm hk
theorem ad_lo {X : PR} {a : Nat} (h : a < STR) : ad X a = some (xB X + a) := by simp [ad, h]
theorem ad_str {X : PR} {i : Nat} (h : i < 23) : ad X (STR + i) = some (xK X i) := by
  have h1 : STR = 1000000 := rfl
  have h2 : BYT = 2000000 := rfl
  unfold ad
  rw [if_neg (by omega), if_pos (by omega), show STR + i - STR = i by omega]
theorem ad_byt {X : PR} {i : Nat} (h : i < 23) : ad X (BYT + i) = some (xV X i) := by
  have h1 : STR = 1000000 := rfl
  have h2 : BYT = 2000000 := rfl
  have h3 : SCR = 3000000 := rfl
  unfold ad
  rw [if_neg (by omega), if_neg (by omega), if_pos (by omega), show BYT + i - BYT = i by omega]
theorem ad_scr {X : PR} : ad X SCR = some (xb X) := by simp [ad, STR, BYT, SCR]
theorem cr_some {X : PR} {a q : Nat} (h : ad X a = some q) : cr X (some a) = .ref q := by simp [cr, h, va_rf]
theorem ref_ok {w : Wd} {a k : Nat} (h : okV w (.inr (.inl (some a)))) (hl : (lay a).1 = k) (hk : k ≠ 99) : a < gN w := by
  have h1 := lay_lt hl hk
  rcases h a rfl with q | q
  · exact q
  · have : STR = 1000000 := rfl
    omega
theorem ent_obj {X : PR} {w : Wd} {a ci : Nat} (h : (lay a).1 = ci) (hc : ci < 13) : ent X w a = .inr (ci, (List.range (nF ci)).map (fV X w a ci)) := by
  unfold ent
  rw [h, if_pos hc]
theorem fV_cv {X : PR} {w : Wd} {a ci k : Nat} : fV X w a ci k = cv X (if (fk ci k).1 = 2 then .inr (.inl (gR w a k)) else .inl (gI w a k)) := by
  unfold fV
  split <;> rfl
theorem fs_get {X : PR} {w : Wd} {a ci k : Nat} (hk : k < nF ci) : ((List.range (nF ci)).map (fV X w a ci))[k]? = some (fV X w a ci k) := by simp [hk]
theorem fres_some {ow ix : Nat} {e : Nat × Nat × Nat × Nat × Nat} (h : fres ow ix = some e) : e ∈ fT.getD ow [] ∧ e.1 = ix := by
  unfold fres at h
  exact ⟨List.mem_of_find?_eq_some h, by have := List.find?_some h; simpa using this⟩
section STEP2
variable {X : PR} {l : Launch} {mi : Nat} {p : Program} {e : Env} {R : Room} {s : State} {m : MethodId} {args : Array Value} {below : List Frame} {meth : Method} {c : Code} {H : Heap} {locs : List Loc} {cells slots : Nat} {Q : State → Prop} {ls : Array Slot} {pc len : Nat} {L : List (Option AV)} {S : List AV} {w : Wd} {c' : Cfg}

theorem sx_tableswitch {df lo hi : Int} {offs : Array Int} (hC : Ctx X l mi p s m args meth c) (hd : decode (mB mi) pc = .ok (.tableswitch df lo hi offs, len)) (hlen : okLen (.tableswitch df lo hi offs) len = true) (he : exec0 mi (.tableswitch df lo hi offs) len pc L S w = some (.inl c')) (hst : St X (mL mi) s H locs ls L S w)
    (K : ∀ ls' : Array Slot, St X (mL mi) s H locs ls' c'.2.1 c'.2.2.1 w → W p l e R s m args below meth c H locs cells slots Q (F0 m c'.1 ls' (c'.2.2.1.map (cv X)))) : c'.2.2.2 = w ∧ W p l e R s m args below meth c H locs cells slots Q (F0 m pc ls (S.map (cv X))) := by
  obtain ⟨hx, hb, hml, hr, hown, hlk, hnm, htab, hts, hE, hB, hl⟩ := hC
  obtain ⟨hS, hP, hF, hoL, hoS⟩ := id hst
  dsimp only [exec0] at he
  split at he
  · rename_i x S0
    have ox : okI x := okS_h hoS
    split at he
    · rename_i hq
      obtain ⟨t, ht, hc⟩ := exJ_some he
      cases hc
      exact ⟨rfl, lv_tableOut (x := i32 x) (tgt := t) (rest := S0.map (cv X)) hx hb hd (by rw [tI ox]; exact hq) ht (K ls ⟨hS, hP, hF, hoL, okS_t hoS⟩)⟩
    · rename_i hq
      split at he
      · rename_i off ho
        obtain ⟨t, ht, hc⟩ := exJ_some he
        cases hc
        exact ⟨rfl, lv_tableIn (x := i32 x) (tgt := t) (rest := S0.map (cv X)) hx hb hd (by rw [tI ox]; exact fun z => hq (Or.inl z)) (by rw [tI ox]; exact fun z => hq (Or.inr z)) (by rw [tI ox]; exact ho) ht (K ls ⟨hS, hP, hF, hoL, okS_t hoS⟩)⟩
      · cases he
  · cases he
theorem sx_lookupswitch {df : Int} {ps : Array (Int × Int)} (hC : Ctx X l mi p s m args meth c) (hd : decode (mB mi) pc = .ok (.lookupswitch df ps, len)) (hlen : okLen (.lookupswitch df ps) len = true) (he : exec0 mi (.lookupswitch df ps) len pc L S w = some (.inl c')) (hst : St X (mL mi) s H locs ls L S w)
    (K : ∀ ls' : Array Slot, St X (mL mi) s H locs ls' c'.2.1 c'.2.2.1 w → W p l e R s m args below meth c H locs cells slots Q (F0 m c'.1 ls' (c'.2.2.1.map (cv X)))) : c'.2.2.2 = w ∧ W p l e R s m args below meth c H locs cells slots Q (F0 m pc ls (S.map (cv X))) := by
  obtain ⟨hx, hb, hml, hr, hown, hlk, hnm, htab, hts, hE, hB, hl⟩ := hC
  obtain ⟨hS, hP, hF, hoL, hoS⟩ := id hst
  dsimp only [exec0] at he
  split at he
  · rename_i x S0
    have ox : okI x := okS_h hoS
    split at he
    · rename_i hq
      obtain ⟨t, ht, hc⟩ := exJ_some he
      cases hc
      exact ⟨rfl, lv_lookup (x := i32 x) (tgt := t) (rest := S0.map (cv X)) hx hb hd hq rfl (by rw [tI ox]; exact ht) (K ls ⟨hS, hP, hF, hoL, okS_t hoS⟩)⟩
    · cases he
  · cases he
theorem sx_if_acmp {cd : Jvm.ClassFile.ACond} {off : Int} (hC : Ctx X l mi p s m args meth c) (hd : decode (mB mi) pc = .ok (.if_acmp cd off, len)) (hlen : okLen (.if_acmp cd off) len = true) (he : exec0 mi (.if_acmp cd off) len pc L S w = some (.inl c')) (hst : St X (mL mi) s H locs ls L S w)
    (K : ∀ ls' : Array Slot, St X (mL mi) s H locs ls' c'.2.1 c'.2.2.1 w → W p l e R s m args below meth c H locs cells slots Q (F0 m c'.1 ls' (c'.2.2.1.map (cv X)))) : c'.2.2.2 = w ∧ W p l e R s m args below meth c H locs cells slots Q (F0 m pc ls (S.map (cv X))) := by
  obtain ⟨hx, hb, hml, hr, hown, hlk, hnm, htab, hts, hE, hB, hl⟩ := hC
  obtain ⟨hS, hP, hF, hoL, hoS⟩ := id hst
  dsimp only [exec0] at he
  split at he
  · rename_i y x S0
    split at he
    · rename_i hxy
      obtain ⟨t, ht, hc⟩ := exIf_some he
      cases hc
      obtain rfl : len = 3 := by simpa [okLen] using hlen
      have KK := K ls ⟨hS, hP, hF, hoL, okS_t (okS_t hoS)⟩
      have e1 : cr X (some x) = va_rf (some (xB X + x)) := by simp [cr, ad_lo hxy.1]
      have e2 : cr X (some y) = va_rf (some (xB X + y)) := by simp [cr, ad_lo hxy.2]
      refine ⟨rfl, ?_⟩
      simp only [List.map_cons, cv, e1, e2]
      have hiff : (some (xB X + x) = some (xB X + y)) ↔ x = y := by
        rw [Option.some_inj]; omega
      cases cd with
      | eq =>
        by_cases hq : x = y
        · rw [if_pos (by exact decide_eq_true hq)] at KK
          exact lv_acmp_eq (tgt := t) hx hb hd ht (fun _ => KK) (fun q => absurd (hiff.mpr hq) q)
        · rw [if_neg (by rw [decide_eq_false hq]; exact Bool.false_ne_true)] at KK
          exact lv_acmp_eq (tgt := t) hx hb hd ht (fun q => absurd (hiff.mp q) hq) (fun _ => KK)
      | ne =>
        by_cases hq : x = y
        · rw [if_neg (by simp [hq])] at KK
          exact lv_acmp_ne (tgt := t) hx hb hd ht (fun q => absurd (hiff.mpr hq) q) (fun _ => KK)
        · rw [if_pos (by simp [hq])] at KK
          exact lv_acmp_ne (tgt := t) hx hb hd ht (fun _ => KK) (fun q => absurd (hiff.mp q) hq)
    · cases he
  · cases he
theorem sx_ifnull {off : Int} (hC : Ctx X l mi p s m args meth c) (hd : decode (mB mi) pc = .ok (.ifnull off, len)) (hlen : okLen (.ifnull off) len = true) (he : exec0 mi (.ifnull off) len pc L S w = some (.inl c')) (hst : St X (mL mi) s H locs ls L S w)
    (K : ∀ ls' : Array Slot, St X (mL mi) s H locs ls' c'.2.1 c'.2.2.1 w → W p l e R s m args below meth c H locs cells slots Q (F0 m c'.1 ls' (c'.2.2.1.map (cv X)))) : c'.2.2.2 = w ∧ W p l e R s m args below meth c H locs cells slots Q (F0 m pc ls (S.map (cv X))) := by
  obtain ⟨hx, hb, hml, hr, hown, hlk, hnm, htab, hts, hE, hB, hl⟩ := hC
  obtain ⟨hS, hP, hF, hoL, hoS⟩ := id hst
  dsimp only [exec0] at he
  obtain rfl : len = 3 := by simpa [okLen] using hlen
  split at he
  · rename_i S0
    obtain ⟨t, ht, hc⟩ := exJ_some he
    cases hc
    exact ⟨rfl, lv_ifnullN (tgt := t) (rest := List.map (cv X) S0) hx hb hd ht (K ls ⟨hS, hP, hF, hoL, okS_t hoS⟩)⟩
  · split at he
    · cases he
      rename_i a S0 ha
      refine ⟨rfl, ?_⟩
      simp only [List.map_cons, cv, cr_some (ad_lo ha)]
      exact lv_ifnull (rest := List.map (cv X) S0) hx hb hd (K ls ⟨hS, hP, hF, hoL, okS_t hoS⟩)
    · cases he
  · cases he
theorem sx_ifnonnull {off : Int} (hC : Ctx X l mi p s m args meth c) (hd : decode (mB mi) pc = .ok (.ifnonnull off, len)) (hlen : okLen (.ifnonnull off) len = true) (he : exec0 mi (.ifnonnull off) len pc L S w = some (.inl c')) (hst : St X (mL mi) s H locs ls L S w)
    (K : ∀ ls' : Array Slot, St X (mL mi) s H locs ls' c'.2.1 c'.2.2.1 w → W p l e R s m args below meth c H locs cells slots Q (F0 m c'.1 ls' (c'.2.2.1.map (cv X)))) : c'.2.2.2 = w ∧ W p l e R s m args below meth c H locs cells slots Q (F0 m pc ls (S.map (cv X))) := by
  obtain ⟨hx, hb, hml, hr, hown, hlk, hnm, htab, hts, hE, hB, hl⟩ := hC
  obtain ⟨hS, hP, hF, hoL, hoS⟩ := id hst
  dsimp only [exec0] at he
  obtain rfl : len = 3 := by simpa [okLen] using hlen
  split at he
  · rename_i S0
    cases he
    exact ⟨rfl, lv_ifnonnullN (rest := List.map (cv X) S0) hx hb hd (K ls ⟨hS, hP, hF, hoL, okS_t hoS⟩)⟩
  · split at he
    · rename_i a S0 ha
      obtain ⟨t, ht, hc⟩ := exJ_some he
      cases hc
      refine ⟨rfl, ?_⟩
      simp only [List.map_cons, cv, cr_some (ad_lo ha)]
      exact lv_ifnonnull (tgt := t) (rest := List.map (cv X) S0) hx hb hd ht (K ls ⟨hS, hP, hF, hoL, okS_t hoS⟩)
    · cases he
  · cases he
theorem sx_getfield {ix : Nat} (hC : Ctx X l mi p s m args meth c) (hd : decode (mB mi) pc = .ok (.getfield ix, len)) (hlen : okLen (.getfield ix) len = true) (he : exec0 mi (.getfield ix) len pc L S w = some (.inl c')) (hst : St X (mL mi) s H locs ls L S w)
    (K : ∀ ls' : Array Slot, St X (mL mi) s H locs ls' c'.2.1 c'.2.2.1 w → W p l e R s m args below meth c H locs cells slots Q (F0 m c'.1 ls' (c'.2.2.1.map (cv X)))) : c'.2.2.2 = w ∧ W p l e R s m args below meth c H locs cells slots Q (F0 m pc ls (S.map (cv X))) := by
  obtain ⟨hx, hb, hml, hr, hown, hlk, hnm, htab, hts, hE, hB, hl⟩ := hC
  obtain ⟨hS, hP, hF, hoL, hoS⟩ := id hst
  dsimp only [exec0] at he
  obtain ⟨S1, h1, hc⟩ := exN_some he
  cases hc
  obtain rfl : len = 3 := by simpa [okLen] using hlen
  split at h1
  · rename_i a S0
    unfold fGet at h1
    cases hf : fres (mOwn mi) ix with
    | none => rw [hf] at h1; cases h1
    | some q =>
      obtain ⟨ix', ci, k, nest, wi⟩ := q
      rw [hf] at h1
      obtain ⟨hmem, hix⟩ := fres_some hf
      have hok := allT_of fOK_all hmem
      simp only [] at hix h1
      subst hix
      unfold fOKb at hok
      simp only [] at hok
      by_cases h50 : ci = 50
      · subst h50
        rw [if_pos rfl] at hok h1
        split at h1
        · rename_i hstr
          simp only [Bool.and_eq_true, decide_eq_true_eq] at hok
          obtain ⟨hk2, hw⟩ := hok
          have hw := hts _ (gAt_in hw)
          obtain ⟨i, rfl⟩ : ∃ i, a = STR + i := ⟨a - STR, by omega⟩
          have hi : i < 23 := by rw [txL_len] at hstr; omega
          obtain ⟨-, -, -, hvk, -⟩ := hE
          obtain ⟨-, hco, hva, -⟩ := hvk.1 i hi
          have e0 : cr X (some (STR + i)) = .ref (xK X i) := cr_some (ad_str hi)
          refine ⟨rfl, ?_⟩
          simp only [List.map_cons, cv, e0]
          by_cases h0 : k = 0
          · rw [if_pos h0] at h1 hw
            rw [if_pos h0] at hw
            cases h1
            refine vk_getf (rest := List.map (cv X) S0) hx hb hva hS hown hw (fun _ h => h) hd ?_
            have KK := K ls ⟨hS, hP, hF, hoL, okS_c (fun k9 q => by cases q; exact Or.inr (by have : STR = 1000000 := rfl; omega)) (okS_t hoS)⟩
            have e1 : cr X (some (STR + i + 1000000)) = .ref (xV X i) := cr_some (by rw [show STR + i + 1000000 = BYT + i by have : STR = 1000000 := rfl; have : BYT = 2000000 := rfl; omega]; exact ad_byt hi)
            simp only [List.map_cons, cv, e1] at KK
            exact KK
          · rw [if_neg h0] at h1 hw
            rw [if_neg h0] at hw
            cases h1
            exact vk_getf (rest := List.map (cv X) S0) hx hb hco hS hown hw (fun _ h => h) hd (K ls ⟨hS, hP, hF, hoL, okS_c ok0 (okS_t hoS)⟩)
        · cases h1
      · rw [if_neg h50] at hok h1
        simp only [Bool.and_eq_true, decide_eq_true_eq] at hok
        obtain ⟨⟨hci, hk⟩, hw⟩ := hok
        split at h1
        · rename_i hl
          have ha : a < gN w := ref_ok (okS_h hoS) hl (by omega)
          have hlt : a < STR := by have := lay_lt hl (by omega); have : STR = 1000000 := rfl; omega
          obtain ⟨C, T, N, ty, k1, k2, k3, k4, k5, k6, k7, k8⟩ := clsOK ci hci
          have e0 : cr X (some a) = .ref (xB X + a) := cr_some (ad_lo hlt)
          have hws : (wsX X w)[a]? = some (xB X + a, .inr (ci, (List.range (nF ci)).map (fV X w a ci))) := by rw [wsX_get ha, ent_obj hl hci]
          have hres : S1 = (if (fk ci k).1 = 2 then .inr (.inl (gR w a k)) else .inl (gI w a k)) :: S0 := by
            split at h1 <;> cases h1 <;> simp_all
          have hokv : okV w (if (fk ci k).1 = 2 then .inr (.inl (gR w a k)) else .inl (gI w a k)) := by
            split
            · exact fun r hr2 => hP.2.2.2.1 a k r hr2
            · exact hP.2.1 a k
          subst hres
          have KK := K ls ⟨hS, hP, hF, hoL, okS_c hokv (okS_t hoS)⟩
          simp only [List.map_cons, ← fV_cv] at KK
          refine ⟨rfl, ?_⟩
          simp only [List.map_cons, cv, e0]
          subst k4; subst k3
          by_cases hn : nest = 0
          · rw [if_pos hn] at hw
            exact va_get (D := xD X) (ci := ci) (rest := List.map (cv X) S0) hx hb hts k5 hown hE.1 hP.1 a hws k1 k hk (hts _ (gAt_in hw)) (fun _ h => h) (fs_get hk) hd KK
          · rw [if_neg hn] at hw
            have hw2 := nAt_in hw
            exact va_getN (D := xD X) (ci := ci) (rest := List.map (cv X) S0) hx hb hts k5 hown hE.1 hP.1 a hws k1 k hk (va_Nw.use rfl (hE.2.1 _ hw2.1 hw2.2)) (fun _ h => h) (fs_get hk) hd KK
        · cases h1
  · cases h1
theorem sx_getstatic {ix : Nat} (hC : Ctx X l mi p s m args meth c) (hd : decode (mB mi) pc = .ok (.getstatic ix, len)) (hlen : okLen (.getstatic ix) len = true) (he : exec0 mi (.getstatic ix) len pc L S w = some (.inl c')) (hst : St X (mL mi) s H locs ls L S w)
    (K : ∀ ls' : Array Slot, St X (mL mi) s H locs ls' c'.2.1 c'.2.2.1 w → W p l e R s m args below meth c H locs cells slots Q (F0 m c'.1 ls' (c'.2.2.1.map (cv X)))) : c'.2.2.2 = w ∧ W p l e R s m args below meth c H locs cells slots Q (F0 m pc ls (S.map (cv X))) := by
  obtain ⟨hx, hb, hml, hr, hown, hlk, hnm, htab, hts, hE, hB, hl⟩ := hC
  obtain ⟨hS, hP, hF, hoL, hoS⟩ := id hst
  dsimp only [exec0] at he
  obtain ⟨S1, h1, hc⟩ := exN_some he
  cases hc
  obtain rfl : len = 3 := by simpa [okLen] using hlen
  split at h1
  · rename_i hq
    cases h1
    obtain ⟨h14, rfl⟩ := hq
    rw [h14] at hown
    exact ⟨rfl, va_gets (rest := S.map (cv X)) hx hb hE.2.2.2.2.1 hS hown (hts _ gs_38) (fun _ h => h) hd (K ls ⟨hS, hP, hF, hoL, okS_c (show okI 1 by unfold okI; omega) hoS⟩)⟩
  · split at h1
    · rename_i hq
      cases h1
      obtain ⟨h14, rfl⟩ := hq
      rw [h14] at hown
      have KK := K ls ⟨hS, hP, hF, hoL, okS_c (fun k9 q => by cases q; exact Or.inr (by have : STR = 1000000 := rfl; have : FMT = 5000000 := rfl; omega)) hoS⟩
      have e1 : cr X (some FMT) = va_rf (xF X) := by simp [cr, ad, FMT, STR, BYT, SCR]
      simp only [List.map_cons, cv, e1] at KK
      exact ⟨rfl, va_gets (rest := S.map (cv X)) hx hb hE.2.2.2.2.2.1 hS hown (hts _ gs_1053) (fun _ h => h) hd KK⟩
    · cases h1
theorem ent_20 {w : Wd} {a : Nat} (h : (lay a).1 = 20) : ent X w a = .inl (xY X 20, (lay a).2, .inl (fun j => i32 (gI w a j))) := by simp [ent, h]
theorem ent_21 {w : Wd} {a : Nat} (h : (lay a).1 = 21) : ent X w a = .inl (xY X 21, (lay a).2, .inl (fun j => i32 (gI w a j))) := by simp [ent, h]
theorem ent_22 {w : Wd} {a : Nat} (h : (lay a).1 = 22) : ent X w a = .inl (xY X 22, (lay a).2, .inr (.inl (fun j => i64 (gJ w a j)))) := by simp [ent, h]
theorem ent_23 {w : Wd} {a : Nat} (h : (lay a).1 = 23) : ent X w a = .inl (xY X 23, (lay a).2, .inr (.inr (.inr (.inr (fun j => (gR w a j).bind (ad X)))))) := by simp [ent, h]
theorem ent_24 {w : Wd} {a : Nat} (h : (lay a).1 = 24) : ent X w a = .inl (xY X 24, (lay a).2, .inr (.inr (.inr (.inr (fun j => (gR w a j).bind (ad X)))))) := by simp [ent, h]
theorem lenJ_get {i : Nat} (h : i < 23) : lenJ.getD i 0 = (txB i).length := by simp [lenJ, nJ, h]
theorem bytJ_get {i j : Nat} (h : i < 23) : (bytJ.getD i []).getD j 0 = i32 ((txB i).getD j 0) := by
  have : bytJ.getD i [] = (txB i).map i32 := by simp [bytJ, nJ, h]
  rw [this, List.getD_eq_getElem?_getD, List.getD_eq_getElem?_getD, List.getElem?_map]
  cases (txB i)[j]? <;> rfl
theorem txB_ok : ∀ i, i < 23 → ∀ j, okI ((txB i).getD j 0) := by
  intro i hi j
  have h : (List.range 23).all (fun i => (txB i).all (fun x => decide (0 ≤ x) && decide (x < 128))) = true := by decide +kernel
  have h1 := List.all_eq_true.mp h i (List.mem_range.mpr hi)
  rw [List.getD_eq_getElem?_getD]
  cases hx : (txB i)[j]? with
  | none => exact ok0
  | some x =>
    have h2 := List.all_eq_true.mp h1 x (List.mem_of_getElem? hx)
    simp only [Bool.and_eq_true, decide_eq_true_eq] at h2
    show okI x
    unfold okI
    omega

theorem sx_iaload (hC : Ctx X l mi p s m args meth c) (hd : decode (mB mi) pc = .ok (.iaload, len)) (hlen : okLen (.iaload) len = true) (he : exec0 mi (.iaload) len pc L S w = some (.inl c')) (hst : St X (mL mi) s H locs ls L S w)
    (K : ∀ ls' : Array Slot, St X (mL mi) s H locs ls' c'.2.1 c'.2.2.1 w → W p l e R s m args below meth c H locs cells slots Q (F0 m c'.1 ls' (c'.2.2.1.map (cv X)))) : c'.2.2.2 = w ∧ W p l e R s m args below meth c H locs cells slots Q (F0 m pc ls (S.map (cv X))) := by
  obtain ⟨hx, hb, hml, hr, hown, hlk, hnm, htab, hts, hE, hB, hl⟩ := hC
  obtain ⟨hS, hP, hF, hoL, hoS⟩ := id hst
  dsimp only [exec0] at he
  obtain ⟨S1, h1, hc⟩ := exN_some he
  cases hc
  obtain rfl : len = 1 := by simpa [okLen] using hlen
  unfold exAld at h1
  split at h1
  · rename_i i a S0
    have oi : okI i := okS_h hoS
    split at h1
    · rename_i hq
      have ha : a < gN w := ref_ok (okS_h (okS_t hoS)) hq.1 (by omega)
      have hlt : a < STR := by have := lay_lt hq.1 (by omega); have : STR = 1000000 := rfl; omega
      have e0 : cr X (some a) = .ref (xB X + a) := cr_some (ad_lo hlt)
      cases h1
      have KK := K ls ⟨hS, hP, hF, hoL, okS_c (hP.2.1 a i.toNat) (okS_t (okS_t hoS))⟩
      refine ⟨rfl, ?_⟩
      simp only [List.map_cons, cv, e0]
      refine va_iald (D := xD X) (rest := List.map (cv X) S0) hx hb hE.1 hP.1 a 1 (by rw [wsX_get ha, ent_21 hq.1]) rfl (inb_in oi hq.2) hd ?_
      simp only [clN oi]
      exact KK
    · split at h1
      · rename_i hq
        cases h1
        obtain ⟨-, rfl, hin⟩ := hq
        have e0 : cr X (some SCR) = .ref (xb X) := cr_some ad_scr
        have eL : gL w = xL X := hP.2.2.2.2.2.1
        have eX : gX w = xS X := hP.2.2.2.2.2.2.1
        have KK := K ls ⟨hS, hP, hF, hoL, okS_c (show okI (gX w i.toNat) by rw [eX]; exact (hP.2.2.2.2.2.2.2.1 i.toNat)) (okS_t (okS_t hoS))⟩
        refine ⟨rfl, ?_⟩
        simp only [List.map_cons, cv, e0]
        refine va_sld (rest := List.map (cv X) S0) hx hb hE.2.2.1 hE.2.2.2.2.2.2.2.2.2.2.2.2 (Nat.not_le.mpr hE.2.2.2.2.2.2.2.2.2.2.2.1) hS (by rw [← eL]; exact inb_in oi hin) hd ?_
        simp only [clN oi, ← eX]
        exact KK
      · split at h1
        · rename_i hq; omega
        · cases h1
  · cases h1
theorem sx_laload (hC : Ctx X l mi p s m args meth c) (hd : decode (mB mi) pc = .ok (.laload, len)) (hlen : okLen (.laload) len = true) (he : exec0 mi (.laload) len pc L S w = some (.inl c')) (hst : St X (mL mi) s H locs ls L S w)
    (K : ∀ ls' : Array Slot, St X (mL mi) s H locs ls' c'.2.1 c'.2.2.1 w → W p l e R s m args below meth c H locs cells slots Q (F0 m c'.1 ls' (c'.2.2.1.map (cv X)))) : c'.2.2.2 = w ∧ W p l e R s m args below meth c H locs cells slots Q (F0 m pc ls (S.map (cv X))) := by
  obtain ⟨hx, hb, hml, hr, hown, hlk, hnm, htab, hts, hE, hB, hl⟩ := hC
  obtain ⟨hS, hP, hF, hoL, hoS⟩ := id hst
  dsimp only [exec0] at he
  obtain ⟨S1, h1, hc⟩ := exN_some he
  cases hc
  obtain rfl : len = 1 := by simpa [okLen] using hlen
  unfold exAld at h1
  split at h1
  · rename_i i a S0
    have oi : okI i := okS_h hoS
    split at h1
    · rename_i hq
      have ha : a < gN w := ref_ok (okS_h (okS_t hoS)) hq.1 (by omega)
      have hlt : a < STR := by have := lay_lt hq.1 (by omega); have : STR = 1000000 := rfl; omega
      have e0 : cr X (some a) = .ref (xB X + a) := cr_some (ad_lo hlt)
      cases h1
      have KK := K ls ⟨hS, hP, hF, hoL, okS_c (hP.2.2.1 a i.toNat) (okS_t (okS_t hoS))⟩
      refine ⟨rfl, ?_⟩
      simp only [List.map_cons, cv, e0]
      refine va_lald (D := xD X) (rest := List.map (cv X) S0) hx hb hE.1 hP.1 a 2 (by rw [wsX_get ha, ent_22 hq.1]) rfl (inb_in oi hq.2) hd ?_
      simp only [clN oi]
      exact KK
    · split at h1
      · rename_i hq; omega
      · split at h1
        · rename_i hq; omega
        · cases h1
  · cases h1
theorem sx_baload (hC : Ctx X l mi p s m args meth c) (hd : decode (mB mi) pc = .ok (.baload, len)) (hlen : okLen (.baload) len = true) (he : exec0 mi (.baload) len pc L S w = some (.inl c')) (hst : St X (mL mi) s H locs ls L S w)
    (K : ∀ ls' : Array Slot, St X (mL mi) s H locs ls' c'.2.1 c'.2.2.1 w → W p l e R s m args below meth c H locs cells slots Q (F0 m c'.1 ls' (c'.2.2.1.map (cv X)))) : c'.2.2.2 = w ∧ W p l e R s m args below meth c H locs cells slots Q (F0 m pc ls (S.map (cv X))) := by
  obtain ⟨hx, hb, hml, hr, hown, hlk, hnm, htab, hts, hE, hB, hl⟩ := hC
  obtain ⟨hS, hP, hF, hoL, hoS⟩ := id hst
  dsimp only [exec0] at he
  obtain ⟨S1, h1, hc⟩ := exN_some he
  cases hc
  obtain rfl : len = 1 := by simpa [okLen] using hlen
  unfold exAld at h1
  split at h1
  · rename_i i a S0
    have oi : okI i := okS_h hoS
    split at h1
    · rename_i hq
      have ha : a < gN w := ref_ok (okS_h (okS_t hoS)) hq.1 (by omega)
      have hlt : a < STR := by have := lay_lt hq.1 (by omega); have : STR = 1000000 := rfl; omega
      have e0 : cr X (some a) = .ref (xB X + a) := cr_some (ad_lo hlt)
      cases h1
      have KK := K ls ⟨hS, hP, hF, hoL, okS_c (hP.2.1 a i.toNat) (okS_t (okS_t hoS))⟩
      refine ⟨rfl, ?_⟩
      simp only [List.map_cons, cv, e0]
      refine va_bald (D := xD X) (rest := List.map (cv X) S0) hx hb hE.1 hP.1 a 0 (by rw [wsX_get ha, ent_20 hq.1]) rfl (inb_in oi hq.2) hd ?_
      simp only [clN oi]
      exact KK
    · split at h1
      · rename_i hq; omega
      · split at h1
        · rename_i hq
          cases h1
          obtain ⟨-, hlo, hhi, hin⟩ := hq
          obtain ⟨j, rfl⟩ : ∃ j, a = BYT + j := ⟨a - BYT, by omega⟩
          have hj : j < 23 := by rw [txL_len] at hhi; omega
          have ej : BYT + j - BYT = j := by omega
          rw [ej] at hin K
          have e0 : cr X (some (BYT + j)) = .ref (xV X j) := cr_some (ad_byt hj)
          obtain ⟨-, -, -, hvk, -⟩ := hE
          obtain ⟨-, -, -, hT⟩ := hvk.1 j hj
          rw [lenJ_get hj] at hT
          have KK := K ls ⟨hS, hP, hF, hoL, okS_c (txB_ok j hj _) (okS_t (okS_t hoS))⟩
          refine ⟨rfl, ?_⟩
          simp only [List.map_cons, cv, e0]
          refine va_tb (rest := List.map (cv X) S0) hx hb hT hS (inb_in oi hin) (by rw [clN oi, bytJ_get hj]) hd ?_
          exact KK
        · cases h1
  · cases h1
theorem sx_aaload (hC : Ctx X l mi p s m args meth c) (hd : decode (mB mi) pc = .ok (.aaload, len)) (hlen : okLen (.aaload) len = true) (he : exec0 mi (.aaload) len pc L S w = some (.inl c')) (hst : St X (mL mi) s H locs ls L S w)
    (K : ∀ ls' : Array Slot, St X (mL mi) s H locs ls' c'.2.1 c'.2.2.1 w → W p l e R s m args below meth c H locs cells slots Q (F0 m c'.1 ls' (c'.2.2.1.map (cv X)))) : c'.2.2.2 = w ∧ W p l e R s m args below meth c H locs cells slots Q (F0 m pc ls (S.map (cv X))) := by
  obtain ⟨hx, hb, hml, hr, hown, hlk, hnm, htab, hts, hE, hB, hl⟩ := hC
  obtain ⟨hS, hP, hF, hoL, hoS⟩ := id hst
  dsimp only [exec0] at he
  obtain ⟨S1, h1, hc⟩ := exN_some he
  cases hc
  obtain rfl : len = 1 := by simpa [okLen] using hlen
  unfold exAq at h1
  cases h3 : exAld 23 w S with
  | some S2 =>
    rw [h3] at h1
    cases h1
    have h2 := h3
    unfold exAld at h2
    split at h2
    ·
      rename_i i a S0
      have oi : okI i := okS_h hoS
      split at h2
      · rename_i hq
        have ha : a < gN w := ref_ok (okS_h (okS_t hoS)) hq.1 (by omega)
        have hlt : a < STR := by have := lay_lt hq.1 (by omega); have : STR = 1000000 := rfl; omega
        have e0 : cr X (some a) = .ref (xB X + a) := cr_some (ad_lo hlt)
        cases h2
        have KK := K ls ⟨hS, hP, hF, hoL, okS_c (fun r hr2 => hP.2.2.2.1 a i.toNat r hr2) (okS_t (okS_t hoS))⟩
        refine ⟨rfl, ?_⟩
        simp only [List.map_cons, cv, e0]
        refine va_aldq (D := xD X) (C := "GivenMinutes$State") (rest := List.map (cv X) S0) hx hb hE.1 hP.1 a 3 (by rw [wsX_get ha, ent_23 hq.1]) rfl (inb_in oi hq.2) hd ?_
        simp only [clN oi]
        exact KK
      · split at h2
        · rename_i hq; omega
        · split at h2
          · rename_i hq; omega
          · cases h2
    · cases h2
  | none =>
    rw [h3] at h1
    have h2 : exAld 24 w S = some S1 := h1
    unfold exAld at h2
    split at h2
    ·
      rename_i i a S0
      have oi : okI i := okS_h hoS
      split at h2
      · rename_i hq
        have ha : a < gN w := ref_ok (okS_h (okS_t hoS)) hq.1 (by omega)
        have hlt : a < STR := by have := lay_lt hq.1 (by omega); have : STR = 1000000 := rfl; omega
        have e0 : cr X (some a) = .ref (xB X + a) := cr_some (ad_lo hlt)
        cases h2
        have KK := K ls ⟨hS, hP, hF, hoL, okS_c (fun r hr2 => hP.2.2.2.1 a i.toNat r hr2) (okS_t (okS_t hoS))⟩
        refine ⟨rfl, ?_⟩
        simp only [List.map_cons, cv, e0]
        refine va_aldq (D := xD X) (C := "java/lang/String") (rest := List.map (cv X) S0) hx hb hE.1 hP.1 a 4 (by rw [wsX_get ha, ent_24 hq.1]) rfl (inb_in oi hq.2) hd ?_
        simp only [clN oi]
        exact KK
      · split at h2
        · rename_i hq; omega
        · split at h2
          · rename_i hq; omega
          · cases h2
    · cases h2
theorem sx_arraylength (hC : Ctx X l mi p s m args meth c) (hd : decode (mB mi) pc = .ok (.arraylength, len)) (hlen : okLen (.arraylength) len = true) (he : exec0 mi (.arraylength) len pc L S w = some (.inl c')) (hst : St X (mL mi) s H locs ls L S w)
    (K : ∀ ls' : Array Slot, St X (mL mi) s H locs ls' c'.2.1 c'.2.2.1 w → W p l e R s m args below meth c H locs cells slots Q (F0 m c'.1 ls' (c'.2.2.1.map (cv X)))) : c'.2.2.2 = w ∧ W p l e R s m args below meth c H locs cells slots Q (F0 m pc ls (S.map (cv X))) := by
  obtain ⟨hx, hb, hml, hr, hown, hlk, hnm, htab, hts, hE, hB, hl⟩ := hC
  obtain ⟨hS, hP, hF, hoL, hoS⟩ := id hst
  dsimp only [exec0] at he
  obtain ⟨S1, h1, hc⟩ := exN_some he
  cases hc
  obtain rfl : len = 1 := by simpa [okLen] using hlen
  unfold exLen at h1
  split at h1
  · rename_i a S0
    split at h1
    · rename_i hq
      have hl : (lay a).1 = 20 ∨ (lay a).1 = 21 ∨ (lay a).1 = 22 ∨ (lay a).1 = 23 ∨ (lay a).1 = 24 := by omega
      have ha : a < gN w := ref_ok (okS_h hoS) rfl (by omega)
      have hlt : a < STR := by have := lay_lt (a := a) rfl (by omega); have : STR = 1000000 := rfl; omega
      have e0 : cr X (some a) = .ref (xB X + a) := cr_some (ad_lo hlt)
      have hsm : (lay a).2 < 1000000 := by
        have h9 : layL.all (fun q => decide (q.2 < 1000000)) = true := by decide +kernel
        have h8 : lay a ∈ layL := by
          unfold lay
          rw [List.getD_eq_getElem?_getD, List.getElem?_eq_getElem (by rw [layL_len]; exact lay_lt (a := a) rfl (by omega))]
          exact List.getElem_mem _
        have := List.all_eq_true.mp h9 _ h8
        simpa using this
      cases h1
      have KK := K ls ⟨hS, hP, hF, hoL, okS_c (show okI (((lay a).2 : Nat) : Int) by unfold okI; omega) (okS_t hoS)⟩
      refine ⟨rfl, ?_⟩
      simp only [List.map_cons, cv, e0]
      rcases hl with h | h | h | h | h
      · exact va_alen (D := xD X) (rest := List.map (cv X) S0) hx hb hE.1 hP.1 a 0 (by rw [wsX_get ha, ent_20 h]) (ty := .byte) rfl (v := i32 (((lay a).2 : Nat) : Int)) (by exact (Int32.ofInt_eq_ofNat).symm) hd KK
      · exact va_alen (D := xD X) (rest := List.map (cv X) S0) hx hb hE.1 hP.1 a 1 (by rw [wsX_get ha, ent_21 h]) (ty := .int) rfl (v := i32 (((lay a).2 : Nat) : Int)) (by exact (Int32.ofInt_eq_ofNat).symm) hd KK
      · exact va_alen (D := xD X) (rest := List.map (cv X) S0) hx hb hE.1 hP.1 a 2 (by rw [wsX_get ha, ent_22 h]) (ty := .long) rfl (v := i32 (((lay a).2 : Nat) : Int)) (by exact (Int32.ofInt_eq_ofNat).symm) hd KK
      · exact va_alen (D := xD X) (rest := List.map (cv X) S0) hx hb hE.1 hP.1 a 3 (by rw [wsX_get ha, ent_23 h]) (ty := .object "GivenMinutes$State") rfl (v := i32 (((lay a).2 : Nat) : Int)) (by exact (Int32.ofInt_eq_ofNat).symm) hd KK
      · exact va_alen (D := xD X) (rest := List.map (cv X) S0) hx hb hE.1 hP.1 a 4 (by rw [wsX_get ha, ent_24 h]) (ty := .object "java/lang/String") rfl (v := i32 (((lay a).2 : Nat) : Int)) (by exact (Int32.ofInt_eq_ofNat).symm) hd KK
    · split at h1
      · rename_i hq
        subst hq
        cases h1
        have e0 : cr X (some SCR) = .ref (xb X) := cr_some ad_scr
        have eL : gL w = xL X := hP.2.2.2.2.2.1
        have KK := K ls ⟨hS, hP, hF, hoL, okS_c (show okI ((gL w : Nat) : Int) by rw [eL]; exact hP.2.2.2.2.2.2.2.2) (okS_t hoS)⟩
        refine ⟨rfl, ?_⟩
        simp only [List.map_cons, cv, e0]
        refine va_slen (rest := List.map (cv X) S0) hx hb hE.2.2.1 hE.2.2.2.2.2.2.2.2.2.2.2.2 (Nat.not_le.mpr hE.2.2.2.2.2.2.2.2.2.2.2.1) hS hd ?_
        rw [← eL, ← Int32.ofInt_eq_ofNat]
        exact KK
      · split at h1
        · rename_i hq
          cases h1
          obtain ⟨hlo, hhi⟩ := hq
          obtain ⟨j, rfl⟩ : ∃ j, a = BYT + j := ⟨a - BYT, by omega⟩
          have hj : j < 23 := by rw [txL_len] at hhi; omega
          have ej : BYT + j - BYT = j := by omega
          rw [ej] at K
          have e0 : cr X (some (BYT + j)) = .ref (xV X j) := cr_some (ad_byt hj)
          obtain ⟨-, -, -, hvk, -⟩ := hE
          obtain ⟨-, -, -, hT⟩ := hvk.1 j hj
          rw [lenJ_get hj] at hT
          have h9 : (txB j).length < 200 := by
            have h8 : (List.range 23).all (fun i => decide ((txB i).length < 200)) = true := by decide +kernel
            have := List.all_eq_true.mp h8 j (List.mem_range.mpr hj)
            simpa using this
          have KK := K ls ⟨hS, hP, hF, hoL, okS_c (show okI (((txB j).length : Nat) : Int) by unfold okI; omega) (okS_t hoS)⟩
          refine ⟨rfl, ?_⟩
          simp only [List.map_cons, cv, e0]
          exact va_tlen (rest := List.map (cv X) S0) hx hb hT hS (v := i32 (((txB j).length : Nat) : Int)) (by exact (Int32.ofInt_eq_ofNat).symm) hd KK
        · cases h1
  · cases h1
theorem kSok : allT kS (fun _ e => decide (e.2.1 < 23)) = true := by decide +kernel
theorem find_k {α : Type} {T : List (List (Nat × α))} {ow ix : Nat} {e : Nat × α} (h : (T.getD ow []).find? (fun e => e.1 == ix) = some e) : e ∈ T.getD ow [] ∧ e.1 = ix := ⟨List.mem_of_find?_eq_some h, by have := List.find?_some h; simpa using this⟩
theorem sx_ldc {ix : Nat} (hC : Ctx X l mi p s m args meth c) (hd : decode (mB mi) pc = .ok (.ldc ix, len)) (hlen : okLen (.ldc ix) len = true) (he : exec0 mi (.ldc ix) len pc L S w = some (.inl c')) (hst : St X (mL mi) s H locs ls L S w)
    (K : ∀ ls' : Array Slot, St X (mL mi) s H locs ls' c'.2.1 c'.2.2.1 w → W p l e R s m args below meth c H locs cells slots Q (F0 m c'.1 ls' (c'.2.2.1.map (cv X)))) : c'.2.2.2 = w ∧ W p l e R s m args below meth c H locs cells slots Q (F0 m pc ls (S.map (cv X))) := by
  obtain ⟨hx, hb, hml, hr, hown, hlk, hnm, htab, hts, hE, hB, hl⟩ := hC
  obtain ⟨hS, hP, hF, hoL, hoS⟩ := id hst
  dsimp only [exec0] at he
  obtain ⟨S1, h1, hc⟩ := exN_some he
  cases hc
  obtain rfl : len = 2 := by simpa [okLen] using hlen
  cases hk : kIres (mOwn mi) ix with
  | some q =>
    obtain ⟨ix', v, wi⟩ := q
    rw [hk] at h1
    cases h1
    obtain ⟨hmem, hix⟩ := find_k hk
    simp only [] at hix
    subst hix
    have hok := allT_of iOK_all hmem
    simp only [iOKb, Bool.and_eq_true, decide_eq_true_eq] at hok
    exact ⟨rfl, lv_ldc (rest := S.map (cv X)) hx hb hown (hts _ (gAt_in hok.1.1)) hd (K ls ⟨hS, hP, hF, hoL, okS_c (show okI v from ⟨hok.1.2, hok.2⟩) hoS⟩)⟩
  | none =>
    rw [hk] at h1
    simp only [] at h1
    cases hk2 : kSres (mOwn mi) ix with
    | none => rw [hk2] at h1; cases h1
    | some q =>
      obtain ⟨ix', t, wi⟩ := q
      rw [hk2] at h1
      cases h1
      obtain ⟨hmem, hix⟩ := find_k hk2
      simp only [] at hix
      subst hix
      have ht : t < 23 := by have := allT_of kSok hmem; simpa using this
      have KK := K ls ⟨hS, hP, hF, hoL, okS_c (fun k9 q => by cases q; exact Or.inr (by omega)) hoS⟩
      have e1 : cr X (some (STR + t)) = .ref (xK X t) := cr_some (ad_str ht)
      refine ⟨rfl, ?_⟩
      simp only [List.map_cons, cv, e1] at KK
      · exact va_ldcS (rest := S.map (cv X)) hx hb hown (hE.2.2.2.2.2.2.2.2.1 _ _ hmem) hd KK
theorem sx_ldc_w {ix : Nat} (hC : Ctx X l mi p s m args meth c) (hd : decode (mB mi) pc = .ok (.ldc_w ix, len)) (hlen : okLen (.ldc_w ix) len = true) (he : exec0 mi (.ldc_w ix) len pc L S w = some (.inl c')) (hst : St X (mL mi) s H locs ls L S w)
    (K : ∀ ls' : Array Slot, St X (mL mi) s H locs ls' c'.2.1 c'.2.2.1 w → W p l e R s m args below meth c H locs cells slots Q (F0 m c'.1 ls' (c'.2.2.1.map (cv X)))) : c'.2.2.2 = w ∧ W p l e R s m args below meth c H locs cells slots Q (F0 m pc ls (S.map (cv X))) := by
  obtain ⟨hx, hb, hml, hr, hown, hlk, hnm, htab, hts, hE, hB, hl⟩ := hC
  obtain ⟨hS, hP, hF, hoL, hoS⟩ := id hst
  dsimp only [exec0] at he
  obtain ⟨S1, h1, hc⟩ := exN_some he
  cases hc
  obtain rfl : len = 3 := by simpa [okLen] using hlen
  cases hk : kIres (mOwn mi) ix with
  | some q =>
    obtain ⟨ix', v, wi⟩ := q
    rw [hk] at h1
    cases h1
    obtain ⟨hmem, hix⟩ := find_k hk
    simp only [] at hix
    subst hix
    have hok := allT_of iOK_all hmem
    simp only [iOKb, Bool.and_eq_true, decide_eq_true_eq] at hok
    exact ⟨rfl, lv_ldcw (rest := S.map (cv X)) hx hb hown (hts _ (gAt_in hok.1.1)) hd (K ls ⟨hS, hP, hF, hoL, okS_c (show okI v from ⟨hok.1.2, hok.2⟩) hoS⟩)⟩
  | none =>
    rw [hk] at h1
    simp only [] at h1
    cases hk2 : kSres (mOwn mi) ix with
    | none => rw [hk2] at h1; cases h1
    | some q =>
      obtain ⟨ix', t, wi⟩ := q
      rw [hk2] at h1
      cases h1
      obtain ⟨hmem, hix⟩ := find_k hk2
      simp only [] at hix
      subst hix
      have ht : t < 23 := by have := allT_of kSok hmem; simpa using this
      have KK := K ls ⟨hS, hP, hF, hoL, okS_c (fun k9 q => by cases q; exact Or.inr (by omega)) hoS⟩
      have e1 : cr X (some (STR + t)) = .ref (xK X t) := cr_some (ad_str ht)
      refine ⟨rfl, ?_⟩
      simp only [List.map_cons, cv, e1] at KK
      · have hz := hE.2.2.2.2.2.2.2.2.1 _ _ hmem
        intro T hT X9
        obtain ⟨t9, a1, b1⟩ := KK T hT X9
        exact ⟨t9, X9.ldcStringW hx hown hz.1 hz.2 (g := F0 m pc ls (S.map (cv X))) rfl (by rw [hb]; exact hd) t9 a1, b1⟩
theorem sx_ldc2_w {ix : Nat} (hC : Ctx X l mi p s m args meth c) (hd : decode (mB mi) pc = .ok (.ldc2_w ix, len)) (hlen : okLen (.ldc2_w ix) len = true) (he : exec0 mi (.ldc2_w ix) len pc L S w = some (.inl c')) (hst : St X (mL mi) s H locs ls L S w)
    (K : ∀ ls' : Array Slot, St X (mL mi) s H locs ls' c'.2.1 c'.2.2.1 w → W p l e R s m args below meth c H locs cells slots Q (F0 m c'.1 ls' (c'.2.2.1.map (cv X)))) : c'.2.2.2 = w ∧ W p l e R s m args below meth c H locs cells slots Q (F0 m pc ls (S.map (cv X))) := by
  obtain ⟨hx, hb, hml, hr, hown, hlk, hnm, htab, hts, hE, hB, hl⟩ := hC
  obtain ⟨hS, hP, hF, hoL, hoS⟩ := id hst
  dsimp only [exec0] at he
  obtain ⟨S1, h1, hc⟩ := exN_some he
  cases hc
  obtain rfl : len = 3 := by simpa [okLen] using hlen
  cases hk : kJres (mOwn mi) ix with
  | some q =>
    obtain ⟨ix', v, wi⟩ := q
    rw [hk] at h1
    cases h1
    obtain ⟨hmem, hix⟩ := find_k hk
    simp only [] at hix
    subst hix
    have hok := allT_of jOK_all hmem
    simp only [jOKb, Bool.and_eq_true, decide_eq_true_eq] at hok
    exact ⟨rfl, lv_ldc2 (rest := S.map (cv X)) hx hb hown (hts _ (gAt_in hok.1.1)) hd (K ls ⟨hS, hP, hF, hoL, okS_c (show okJ v from ⟨hok.1.2, hok.2⟩) hoS⟩)⟩
  | none => rw [hk] at h1; cases h1
end STEP2
