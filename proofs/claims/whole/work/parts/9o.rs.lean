/-! a final field is set where its object is made -/
theorem v_putF {mi r pc a : Nat} {c : ByteArray} {L : List (Option AV)} {S : List AV} {w : Wd} (p : Nat) {ix ci k q2 : Nat} {q : Option Nat} (hm : mB mi = c) (hd : decode c pc = .ok (.putfield ix, 3)) (hp : pc + 3 = p) (hf : fres (mOwn mi) ix = some (ix, ci, k, 0, q2)) (hk : (decide (ci < 13) && (fk ci k).1 == 2) = true) (hl : (lay a).1 = ci) (hn : (mY mi).name = "<init>") (ho : mOwn mi = ci) : val mi r (pc, L, aR q :: aR (some a) :: S, w) = val mi r (p, L, S, pR w a k q) := v_next hm hd hp (by
  show (fPut mi ix w a (.inr (.inl q))).map _ = _
  simp only [Bool.and_eq_true, decide_eq_true_eq, beq_iff_eq] at hk
  obtain ⟨h1, h3⟩ := hk
  unfold fPut
  rw [hf]
  simp only []
  rw [if_pos ⟨hl, h1, fun q => ⟨hn, by trivial, ho⟩⟩, if_pos h3]
  rfl)
/-! the constructors that only make rows, and the quay's -/
theorem I4 {a : Nat} (hq : a = 2 ∨ a = 17) (k : Nat) : va_up (fun _ => (0 : Int)) 0 3 k = I9 a k := by
  unfold I9 va_up
  by_cases z : k = 0
  · rw [if_pos z, if_neg (by omega), if_pos (by omega)]
  · rw [if_neg z, if_neg (by omega), if_neg (by omega)]
theorem zc6_3 : cres 6 3 = some (3, 7, 0, 0, 1047, 1034, 1035) := rfl
theorem zf6_15 : fres 6 15 = some (15, 6, 1, 0, 1050) := rfl
theorem zf6_9 : fres 6 9 = some (9, 6, 0, 0, 1048) := rfl
theorem i61 {a : Nat} {w : Wd} (ha : a < 515) (h0 : lay a = (6, 2)) (h1 : lay (a + 1) = (21, 700)) (hN : gN w = a) (hE : gE w = 0) : ∃ w', cl 61 [aR (some a)] (nW w) = some (.inl none, w') ∧ BL a 2 w w' := by
  have p0 : PB a (a + 1) (fun _ => none) (fun _ => 0) w (nW w) := PB.beg hN hE
  have p1 : PB a (a + 2) (fun _ => none) (fun _ => 0) w (nW (nW w)) := p0.arr' h1 (by decide)
  have p2 : PB a (a + 2) (va_up (fun _ => none) 0 (some 1)) (fun _ => 0) w (pR (nW (nW w)) a 0 (some (a + 1))) := p1.ref 0 1
  have p3 : PB a (a + 2) (va_up (fun _ => none) 0 (some 1)) (fun _ => 0) w (pI (pR (nW (nW w)) a 0 (some (a + 1))) a 1 (0)) := p2.int0 1 rfl
  refine ⟨(pI (pR (nW (nW w)) a 0 (some (a + 1))) a 1 (0)), (show cl 61 [aR (some a)] (nW w) = val 61 1 (0, [some (aR (some a))], [], nW w) from rfl).trans <| Eq.trans (v_push (aR (some a)) 1 (rfl : mB 61 = cX6_init) dX6_init_0 rfl rfl) <| Eq.trans (v_objI 4 (rfl : mB 61 = cX6_init) dX6_init_1 rfl zc6_3 rfl (by show a < 1000000; omega)) <| Eq.trans (v_push (aR (some a)) 5 (rfl : mB 61 = cX6_init) dX6_init_4 rfl rfl) <| Eq.trans (v_push (aI (700)) 8 (rfl : mB 61 = cX6_init) dX6_init_5 rfl rfl) <| Eq.trans (v_newI (a + 1) 700 10 (rfl : mB 61 = cX6_init) dX6_init_8 rfl p0.2.1 p0.1 h1) <| Eq.trans (v_putF 13 (rfl : mB 61 = cX6_init) dX6_init_10 rfl zf6_9 rfl (by rw [h0]) rfl rfl) <| Eq.trans (v_push (aR (some a)) 14 (rfl : mB 61 = cX6_init) dX6_init_13 rfl rfl) <| Eq.trans (v_push (aI (0)) 15 (rfl : mB 61 = cX6_init) dX6_init_14 rfl rfl) <| Eq.trans (v_putI 18 (rfl : mB 61 = cX6_init) dX6_init_15 rfl zf6_15 rfl (by rw [h0])) <| v_ret0 (rfl : mB 61 = cX6_init) dX6_init_18 rfl, p3.fin0 h0 (by decide) (by decide +kernel)⟩
