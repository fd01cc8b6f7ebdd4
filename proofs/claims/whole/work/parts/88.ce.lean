/-! the class reads rules, further -/
section CXt
variable {T : Row} {n M t : Nat} {S : Bool} {E : PZ → PZ} {c : Int}
theorem q55n (hT : TK (KT T n) (VT T n) M) (ht : tOK t) {r : Nat} (hr : r = crk 55 [aR (some 12), aI c]) : ∀ (f k : Nat) (w : Wd) (b : Nat) (x : PZ), k + f = 6 → RX T n M t S w (b + 1) x → ∃ w', Rf (s55_27 r 12 c ((k + (pN (KT T n) f x).1 : Nat) : Int) w') (s55_2 r 12 c k w) ∧ RX T n M t S w' (b + 1 + (pN (KT T n) f x).1) (pN (KT T n) f x).2 ∧ FrR t S w w' := by
  intro f
  induction f with
  | zero =>
    intro k w b x hk h
    exact ⟨w, fun o ho => e55_2 h.1 l12 _ (by rw [if_pos (by omega)]; exact ho), h, FrR.rf⟩
  | succ f ih =>
    intro k w b x hk h
    unfold pN
    by_cases z : ks (KT T n) x 108 = true
    · rw [if_pos z]
      obtain ⟨z1, z2⟩ := ks_t z
      obtain ⟨w1, a1, a2, a3⟩ := q42 hT h ht (fun _ => by omega)
      obtain ⟨w2, b1, b2, b3⟩ := ih (k + 1) w1 (b + 1) _ (by omega) a2
      refine ⟨w2, fun o ho => e55_2 h.1 l12 _ ?_, ?_, a3.tr b3⟩
      · rw [if_neg (by omega), h.k, if_neg (fun y => y ((ks_kd (by decide)).mp z)), hr, gg55_42, ← hr, a1, b0_r a2.1, wrs (by omega)]
        refine b1 o ?_
        have ho : s55_27 r 12 c ((k + ((pN (KT T n) f (pGo x)).1 + 1) : Nat) : Int) w2 = some o := ho
        rw [show k + 1 + (pN (KT T n) f (pGo x)).1 = k + ((pN (KT T n) f (pGo x)).1 + 1) by omega]
        exact ho
      · show RX T n M t S w2 (b + 1 + ((pN (KT T n) f (pGo x)).1 + 1)) (pN (KT T n) f (pGo x)).2
        rw [show b + 1 + ((pN (KT T n) f (pGo x)).1 + 1) = b + 1 + 1 + (pN (KT T n) f (pGo x)).1 by omega]
        exact b2
    · rw [if_neg z]
      refine ⟨w, fun o ho => e55_2 h.1 l12 _ ?_, h, FrR.rf⟩
      rw [if_neg (by omega), h.k, if_pos (fun y => z ((ks_kd (by decide)).mpr y))]
      exact ho
theorem q55a (hT : TK (KT T n) (VT T n) M) (ht : tOK t) {r : Nat} (hr : r = crk 55 [aR (some 12), aI c]) : ∀ (m k : Nat) (w : Wd) (b : Nat) (x : PZ), k + m ≤ 10 → RX T n M t S w (b + 1 + m) x → ∃ w', s55_48 r 12 c ((k + m : Nat) : Int) k w = r0 w' ∧ RX T n M t S w' (b + 1) (pAs m x) ∧ FrR t S w w' := by
  intro m
  induction m with
  | zero =>
    intro k w b x hk h
    exact ⟨w, e55_48 h.1 l12 _ (if_pos (by omega)), h, FrR.rf⟩
  | succ m ih =>
    intro k w b x hk h
    obtain ⟨w1, a1, a2, a3⟩ := q64 (c := 108) hT (b := b + 1 + m) h ht
    obtain ⟨w2, b1, b2, b3⟩ := ih (k + 1) w1 b _ (by omega) a2
    refine ⟨w2, e55_48 h.1 l12 _ ?_, b2, a3.tr b3⟩
    rw [if_neg (by omega), h.2.2.1.2, gQ_t (lrho ht), hr, gg55_64, ← hr, a1, b0_r a2.1, wrs (by omega)]
    rw [show k + (m + 1) = k + 1 + m by omega]
    exact b1
theorem q55 (hT : TK (KT T n) (VT T n) M) (ht : tOK t) (hP : CX T n M t S (pTest (KT T n) (VT T n) S E) (F56 12 c)) : CX T n M t S (pNot (KT T n) (VT T n) S E) (F55 12 c) := by
  intro w b x h
  obtain ⟨r, hr⟩ : ∃ r, r = crk 55 [aR (some 12), aI c] := ⟨_, rfl⟩
  obtain ⟨w1, a1, a2, a3⟩ := q55n hT ht hr 6 0 w b x rfl h
  have hm := (pN_m hT 6 x).2.2.2.2.2
  unfold pNot
  have h2 : ∃ w2, Rf (s55_41 r 12 c (((pN (KT T n) 6 x).1 : Nat) : Int) w2) (s55_27 r 12 c (((pN (KT T n) 6 x).1 : Nat) : Int) w1) ∧ RX T n M t S w2 (b + (pN (KT T n) 6 x).1 + 1) (pN7 (KT T n) x) ∧ FrR t S w1 w2 := by
    rw [show b + 1 + (pN (KT T n) 6 x).1 = b + (pN (KT T n) 6 x).1 + 1 by omega] at a2
    unfold pN7
    by_cases z : ks (KT T n) (pN (KT T n) 6 x).2 108 = true
    · rw [if_pos z]
      obtain ⟨w2, b1, b2, b3⟩ := q41 (c := 2) a2 (by decide) ht
      refine ⟨w2, fun o ho => e55_27 a2.1 l12 _ ?_, b2, b3⟩
      rw [a2.k, if_neg (fun y => y ((ks_kd (by decide)).mp z)), hr, gg55_41, ← hr, b1, b0_r b2.1]
      exact ho
    · rw [if_neg z]
      refine ⟨w1, fun o ho => e55_27 a2.1 l12 _ ?_, a2, FrR.rf⟩
      rw [a2.k, if_pos (fun y => z ((ks_kd (by decide)).mpr y))]
      exact ho
  obtain ⟨w2, b1, b2, b3⟩ := h2
  obtain ⟨w3, c1, c2, c3⟩ := hP w2 _ _ b2
  obtain ⟨w4, d1, d2, d3⟩ := q55a hT ht hr (pN (KT T n) 6 x).1 0 w3 b _ (by omega) (by rw [show b + 1 + (pN (KT T n) 6 x).1 = b + (pN (KT T n) 6 x).1 + 1 by omega]; exact c2)
  rw [Nat.zero_add] at a1 d1
  refine ⟨w4, e55 h.1 l12 _ ?_, d2, ((a3.tr b3).tr c3).tr d3⟩
  rw [← hr]
  refine a1 _ (b1 _ (e55_41 b2.1 l12 _ ?_))
  rw [hr, gg55_56, ← hr, c1, b0_r c2.1]
  exact d1
theorem q54 (hT : TK (KT T n) (VT T n) M) (ht : tOK t) (hP : CX T n M t S (pNot (KT T n) (VT T n) S E) (F55 12 c)) : CX T n M t S (pAnd (KT T n) (VT T n) S E) (F54 12 c) := by
  intro w b x h
  obtain ⟨w1, a1, a2, a3⟩ := hP w b x h
  obtain ⟨w2, b1, b2, b3⟩ := qlp (G := fun k v => s54_7 (crk 54 [aR (some 12), aI c]) 12 c k v) (sg := is1 107) (X := pNot (KT T n) (VT T n) S E) hT rfl (fun w b x k h hz => e54_7 h.1 l12 _ (by
    by_cases y : 700 ≤ (k : Int)
    · rw [if_pos y]
    · have hz : ¬ (x.1 = 0 ∧ is1 107 (KT T n x.2.1) = true) := by
        rcases hz with hz | hz
        · omega
        · exact hz
      rw [if_neg y, h.k, if_pos (fun q => ?_)]
      have := (kd_sg (by decide)).mp q
      exact hz ⟨this.1, is1_t.mpr this.2⟩)) (fun w b x k hk h z1 z2 z3 => by
    obtain ⟨w1, w2, w3, c1, c2, c3, c4, c5, c6, c7, c8⟩ := qturn hT ht hP h z1 z3
    have ek : kd T n x = KT T n x.2.1 := kd_0 z1
    have q := is1_t.mp z2
    refine ⟨w3, fun o ho => e54_7 h.1 l12 _ ?_, c7, c8⟩
    rw [q] at c6
    rw [if_neg (by omega), h.k, ek, if_neg (fun y => y q), gg54_42, c1, b0_r c2, gg54_55, c3, b0_r c4, c5, gQ_t (lrho ht), gg54_64, c6, b0_r c7.1, wrs (by omega)]
    exact ho) 700 0 w1 b _ rfl a2
  refine ⟨w2, e54 h.1 l12 _ ?_, b2, a3.tr b3⟩
  rw [gg54_55, a1, b0_r a2.1]
  exact b1
theorem q53s (hT : TK (KT T n) (VT T n) M) (ht : tOK t) (hc : c < 6) (hP : CX T n M t S (pAnd (KT T n) (VT T n) S E) (F54 12 c)) : CX T n M t S (pOr (KT T n) (VT T n) S E) (F53 12 c) := by
  intro w b x h
  obtain ⟨w1, a1, a2, a3⟩ := hP w b x h
  obtain ⟨w2, b1, b2, b3⟩ := qlp (G := fun k v => s53_46 (crk 53 [aR (some 12), aI c]) 12 c k v) (sg := is1 106) (X := pAnd (KT T n) (VT T n) S E) hT rfl (fun w b x k h hz => e53_46 h.1 l12 _ (by
    by_cases y : 700 ≤ (k : Int)
    · rw [if_pos y]
    · have hz : ¬ (x.1 = 0 ∧ is1 106 (KT T n x.2.1) = true) := by
        rcases hz with hz | hz
        · omega
        · exact hz
      rw [if_neg y, h.k, if_pos (fun q => ?_)]
      have := (kd_sg (by decide)).mp q
      exact hz ⟨this.1, is1_t.mpr this.2⟩)) (fun w b x k hk h z1 z2 z3 => by
    obtain ⟨w1, w2, w3, c1, c2, c3, c4, c5, c6, c7, c8⟩ := qturn hT ht hP h z1 z3
    have ek : kd T n x = KT T n x.2.1 := kd_0 z1
    have q := is1_t.mp z2
    refine ⟨w3, fun o ho => e53_46 h.1 l12 _ ?_, c7, c8⟩
    rw [q] at c6
    rw [if_neg (by omega), h.k, ek, if_neg (fun y => y q), gg53_42, c1, b0_r c2, gg53_54, c3, b0_r c4, c5, gQ_t (lrho ht), gg53_64, c6, b0_r c7.1, wrs (by omega)]
    exact ho) 700 0 w1 b _ rfl a2
  refine ⟨w2, e53 h.1 l12 _ ?_, b2, a3.tr b3⟩
  rw [if_pos hc, gg53_54, a1, b0_r a2.1]
  exact b1
theorem q53z (ht : tOK t) : CX T n M t S (pE (KT T n) (VT T n) S 0) (F53 12 6) := by
  intro w b x h
  have H := h.1
  obtain ⟨w1, a1, a2, a3⟩ := q41 (c := 1) h (by decide) ht
  obtain ⟨w2, b1, b2, b3⟩ := q41 (c := 2) h (by decide) ht
  have k1 : s53_35 (crk 53 [aR (some 12), aI 6]) 12 6 1 12 w = r0 w1 := by
    refine e53_35 H l12 l12 _ ?_
    rw [gg53_41, a1, b0_r a2.1]
  have k2 : s53_35 (crk 53 [aR (some 12), aI 6]) 12 6 2 12 w = r0 w2 := by
    refine e53_35 H l12 l12 _ ?_
    rw [gg53_41, b1, b0_r b2.1]
  have hh := e53 (a0 := 12) (x1 := 6) H l12
  have hp : isPt (kd T n x) = (decide (kd T n x = 1) || decide (kd T n x = 2) || decide (100 ≤ kd T n x) || decide (kd T n x = 40)) := rfl
  have main : (isPt (kd T n x) = true → F53 12 6 w = r0 w2) ∧ (isPt (kd T n x) = false → F53 12 6 w = r0 w1) := by
    constructor
    · intro hz
      refine hh _ ?_
      rw [if_neg (by decide), gg53_43, q43 h, bI_r H]
      by_cases y1 : (decide (kd T n x = 1) || decide (kd T n x = 2)) = true
      · rw [y1, if_pos (by decide), k2]
      · have y1 : (decide (kd T n x = 1) || decide (kd T n x = 2)) = false := by simpa using y1
        rw [y1, if_neg (by decide), gg53_44, q44 h, bI_r H]
        by_cases y2 : 100 ≤ kd T n x
        · rw [decide_eq_true y2, if_pos (by decide), k2]
        · rw [hp, y1, decide_eq_false y2] at hz
          have hz : kd T n x = 40 := by simpa using hz
          rw [decide_eq_false y2, if_neg (by decide), h.k, if_neg (fun u => u hz), k2]
    · intro hz
      rw [hp, Bool.or_eq_false_iff, Bool.or_eq_false_iff] at hz
      have y2 := of_decide_eq_false hz.1.2
      have y3 := of_decide_eq_false hz.2
      refine hh _ ?_
      rw [if_neg (by decide), gg53_43, q43 h, bI_r H, hz.1.1, if_neg (by decide), gg53_44, q44 h, bI_r H, decide_eq_false y2, if_neg (by decide), h.k, if_pos y3, k1]
  unfold pE
  by_cases z : x.1 = 0
  · have ek : kd T n x = KT T n x.2.1 := kd_0 z
    rw [ek] at main
    by_cases y : isPt (KT T n x.2.1) = true
    · rw [if_pos y]
      exact ⟨w2, main.1 y, b2, b3⟩
    · rw [if_neg y]
      exact ⟨w1, main.2 (by simpa using y), a2, a3⟩
  · have ek : kd T n x = -1 := kd_n z
    rw [ek] at main
    rw [pFl_n z] at a2
    rw [pFl_n z, pFl_n z, ite_self]
    exact ⟨w1, main.2 rfl, a2, a3⟩
theorem q53 (hT : TK (KT T n) (VT T n) M) (ht : tOK t) : ∀ d : Nat, d ≤ 6 → CX T n M t S (pE (KT T n) (VT T n) S d) (F53 12 (6 - (d : Int))) := by
  intro d
  induction d with
  | zero => intro _; exact q53z ht
  | succ d ih =>
    intro hd
    have hE := ih (by omega)
    rw [show (6 : Int) - (d : Int) = (6 - ((d + 1 : Nat) : Int)) + 1 by omega] at hE
    exact q53s hT ht (by omega) (q54 hT ht (q55 hT ht (q56 hT ht (q57 hT ht (q58 hT ht (q59 hT ht (by omega) hE))))))
end CXt
