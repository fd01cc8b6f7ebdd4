/-! the acts are made: a loop -/
theorem zc0_3 : ∃ e, cres 0 3 = some (3, 7, e) := ⟨_, rfl⟩
theorem zc0_21 : ∃ e, cres 0 21 = some (21, 5, 72, 0, e) := ⟨_, rfl⟩
/-- the acts' own class makes states -/
def HZ : Prop := nres 0 9 = some (9, 8, 2002, 1199, 1007)
theorem za0_9 : ∃ q1 q2, ares 0 9 = some (q1, 23, q2) := ⟨_, _, rfl⟩
theorem zf0_17 : ∃ q1 q2, fres 0 17 = some (17, 0, 1, q1, q2) := ⟨_, _, rfl⟩
theorem zf0_11 : ∃ q2, fres 0 11 = some (11, 0, 0, 0, q2) := ⟨_, rfl⟩
def qA (j : Nat) (k : Nat) : Option Nat := if k < j then some (1 + 5 * k) else none
theorem qA_s {j : Nat} : va_up (qA j) j (some (1 + 5 * j)) = qA (j + 1) := by
  funext k
  unfold qA
  by_cases z : k = j
  · subst z; rw [up_s, if_pos (by omega)]
  · rw [up_c z]
    by_cases y : k < j
    · rw [if_pos y, if_pos (by omega)]
    · rw [if_neg y, if_neg (by omega)]
theorem lA44 : ∀ i, i < 40 → ∀ a, a = 44 ∨ a = 257 → lay (a + 2 + 5 * i) = (8, 8) ∧ lay (a + 2 + 5 * i + 1) = (21, 8) ∧ lay (a + 2 + 5 * i + 2) = (21, 8) ∧ lay (a + 2 + 5 * i + 3) = (21, 8) ∧ lay (a + 2 + 5 * i + 4) = (21, 8) := by
  have h1 : ∀ i, i < 40 → lay (44 + 2 + 5 * i) = (8, 8) ∧ lay (44 + 2 + 5 * i + 1) = (21, 8) ∧ lay (44 + 2 + 5 * i + 2) = (21, 8) ∧ lay (44 + 2 + 5 * i + 3) = (21, 8) ∧ lay (44 + 2 + 5 * i + 4) = (21, 8) := by decide +kernel
  have h2 : ∀ i, i < 40 → lay (257 + 2 + 5 * i) = (8, 8) ∧ lay (257 + 2 + 5 * i + 1) = (21, 8) ∧ lay (257 + 2 + 5 * i + 2) = (21, 8) ∧ lay (257 + 2 + 5 * i + 3) = (21, 8) ∧ lay (257 + 2 + 5 * i + 4) = (21, 8) := by decide +kernel
  intro i hi a ha
  rcases ha with e | e <;> subst e
  · exact h1 i hi
  · exact h2 i hi
theorem lA0' : ∀ a, a = 44 ∨ a = 257 → lay a = (0, 2) ∧ lay (a + 1) = (23, 40) := by
  intro a ha
  rcases ha with e | e <;> subst e <;> decide +kernel
theorem i0s {a j : Nat} {w0 w : Wd} (hz : HZ) (ha : a = 44 ∨ a = 257) (hj : j < 40) (hr : gR w0 a 0 = some (a + 1)) (p : PB (a + 1) (a + 2 + 5 * j) (qA j) (fun _ => 0) w0 w) :
    ∃ w', val 0 2 (20, [some (aR (some a)), some (aI (j : Int))], [], w) = val 0 2 (20, [some (aR (some a)), some (aI ((j + 1 : Nat) : Int))], [], w') ∧ PB (a + 1) (a + 2 + 5 * (j + 1)) (qA (j + 1)) (fun _ => 0) w0 w' := by
  obtain ⟨h0, h1⟩ := lA0' a ha
  obtain ⟨s0, s1, s2, s3, s4⟩ := lA44 j hj a ha
  obtain ⟨w2, e2, b2⟩ := i72 (a := a + 2 + 5 * j) (w := w) (by omega) s0 s1 s2 s3 s4 p.1 p.2.1
  have p2 := p.sub b2
  have p3 := p2.ref j (1 + 5 * j)
  rw [qA_s, show a + 1 + (1 + 5 * j) = a + 2 + 5 * j by omega] at p3
  have gr : ∀ v, PB (a + 1) (a + 2 + 5 * j) (qA j) (fun _ => 0) w0 v → gR v a 0 = some (a + 1) := fun v hv => by rw [(hv.2.2.2.1 a (by omega)).2]; exact hr
  obtain ⟨q, hq⟩ := zf0_11
  have hn : nres 0 9 = some (9, 8, 2002, 1199, 1007) := hz
  obtain ⟨⟨c1, c2, c3⟩, hc⟩ := zc0_21
  have hj1 : wr ((j : Int) + 1) = ((j + 1 : Nat) : Int) := wrs (by omega)
  refine ⟨pR w2 (a + 1) j (some (a + 2 + 5 * j)), ?_, p3⟩
  have m0 : mB 0 = cX0_init := rfl
  refine (v_push (aI (j : Int)) 21 m0 dX0_init_20 rfl rfl).trans <| (v_push (aR (some a)) 22 m0 dX0_init_21 rfl rfl).trans <| (v_getR (a + 1) 25 m0 dX0_init_22 rfl hq rfl (by rw [h0]) (gr w p)).trans <| (v_len 40 26 m0 dX0_init_25 rfl h1 rfl).trans <| (v_icmp_ge 48 29 m0 dX0_init_26 rfl rfl).trans ?_
  rw [if_neg (by omega)]
  refine (v_push (aR (some a)) 30 m0 dX0_init_29 rfl rfl).trans <| (v_getR (a + 1) 33 m0 dX0_init_30 rfl hq rfl (by rw [h0]) (gr w p)).trans <| (v_push (aI (j : Int)) 34 m0 dX0_init_33 rfl rfl).trans <| (v_newO (a + 2 + 5 * j) 8 37 m0 dX0_init_34 rfl rfl hn p.2.1 p.1 (by rw [s0]; rfl) (by decide)).trans <| (v_dupR 38 m0 dX0_init_37 rfl).trans <| (v_init 72 (a + 2 + 5 * j) 41 [aR (some (a + 2 + 5 * j)), aI (j : Int), aR (some (a + 1))] m0 dX0_init_38 rfl hc rfl rfl (by rw [s0]; rfl) rfl e2).trans <| (v_aast 40 42 m0 dX0_init_41 rfl h1 (by rw [s0])).trans ?_
  rw [gdi (by omega) (by omega), nn]
  refine (v_inc [some (aR (some a)), some (aI (wr ((j : Int) + 1)))] 45 m0 dX0_init_42 rfl rfl).trans <| (v_goto 20 m0 dX0_init_45 rfl).trans ?_
  rw [hj1]
theorem i0l {a : Nat} {w0 : Wd} (hz : HZ) (ha : a = 44 ∨ a = 257) (hr : gR w0 a 0 = some (a + 1)) (p : PB (a + 1) (a + 2) (qA 0) (fun _ => 0) w0 w0) : ∀ j : Nat, j ≤ 40 → ∃ w', val 0 2 (20, [some (aR (some a)), some (aI 0)], [], w0) = val 0 2 (20, [some (aR (some a)), some (aI (j : Int))], [], w') ∧ PB (a + 1) (a + 2 + 5 * j) (qA j) (fun _ => 0) w0 w' := by
  intro j
  induction j with
  | zero => intro _; exact ⟨w0, rfl, p⟩
  | succ j ih =>
    intro hj
    obtain ⟨w1, e1, p1⟩ := ih (by omega)
    obtain ⟨w2, e2, p2⟩ := i0s hz ha (by omega) hr p1
    exact ⟨w2, e1.trans e2, p2⟩
theorem i0 {a : Nat} {w : Wd} (hz : HZ) (ha : a = 44 ∨ a = 257) (hN : gN w = a) (hE : gE w = 0) : ∃ w', cl 0 [aR (some a)] (nW w) = some (.inl none, w') ∧ BL a 202 w w' := by
  obtain ⟨h0, h1⟩ := lA0' a ha
  have hN1 : gN (nW w) = a + 1 := by show gN w + 1 = _; rw [hN]
  obtain ⟨w0, hw0⟩ : ∃ w0, w0 = pI (pR (nW (nW w)) a 0 (some (a + 1))) a 1 0 := ⟨_, rfl⟩
  have gIb : ∀ b, b < a → gI w0 b = gI w b ∧ gR w0 b = gR w b := fun b hb => by
    have x1 := nW_r (w := w) (b := b) (by omega)
    have x2 := nW_r (w := nW w) (b := b) (by omega)
    refine ⟨?_, ?_⟩
    · rw [hw0, gI_r (by omega)]; show gI (nW (nW w)) b = _; rw [x2.1, x1.1]
    · rw [hw0]; show va_up (nW (nW w)).2.1 a _ b = _; rw [up_c (by omega)]; exact x2.2.trans x1.2
  have r0 : ∀ k, gR w0 a k = va_up (fun _ => none) 0 (some (a + 1)) k := fun k => by
    rw [hw0]; show va_up (nW (nW w)).2.1 a (va_up (gR (nW (nW w)) a) 0 (some (a + 1))) a k = _
    rw [up_s, (nW_r (w := nW w) (b := a) (by omega)).2]
    subst hN
    rw [nW_s.2]
  have i0r : gI w0 a = fun _ => 0 := by
    rw [hw0, gI_p]
    show va_up (gI (nW (nW w)) a) 1 0 = _
    rw [(nW_r (w := nW w) (b := a) (by omega)).1]
    subst hN
    rw [nW_s.1]
    funext k
    unfold va_up
    split <;> rfl
  have r1 : gR w0 (a + 1) = (fun _ => none) ∧ gI w0 (a + 1) = fun _ => 0 := by
    have x := nW_s (w := nW w)
    rw [hN1] at x
    refine ⟨?_, ?_⟩
    · rw [hw0]; show va_up (nW (nW w)).2.1 a _ (a + 1) = _; rw [up_c (by omega)]; exact x.2
    · rw [hw0, gI_r (by omega)]; exact x.1
  have p0 : PB (a + 1) (a + 2) (qA 0) (fun _ => 0) w0 w0 := ⟨by rw [hw0]; show gN w + 1 + 1 = _; rw [hN], by rw [hw0]; exact hE, rfl, fun _ _ => ⟨rfl, rfl⟩, fun b b1 b2 => by omega, fun k => by rw [r1.1]; rfl, r1.2, by omega⟩
  have hr : gR w0 a 0 = some (a + 1) := by rw [r0]; rfl
  obtain ⟨w', e1, p1⟩ := i0l hz ha hr p0 40 (Nat.le_refl _)
  have gr : ∀ k, gR w' (a + 1) k = (qA 40 k).map (fun o => a + 1 + o) := p1.2.2.2.2.2.1
  have hb : BL (a + 1) 201 w0 w' := by
    have p2 : PB (a + 1) (a + 1 + 201) (qA 40) (fun _ => 0) w0 w' := by
      rw [show a + 1 + 201 = a + 2 + 5 * 40 by omega]; exact p1
    refine p2.fin (ci := 23) (by rw [h1]) (fun k _ => Or.inl ?_) (fun k => ?_) ?_
    · have := oA h1 (by decide) k
      rw [h1] at this
      exact this
    · rcases IA h1 (by decide) k with e | e
      · exact e.symm
      · omega
    · refine ⟨fun e => by omega, fun e => by omega, fun _ k hk => ?_, fun e => by omega, fun e => by omega, fun e => by omega⟩
      rw [gr k]
      unfold qA
      rw [if_pos hk]
      show some (a + 1 + (1 + 5 * k)) = some (a + 1 + 1 + 5 * k)
      rw [← Nat.add_assoc (a + 1) 1 (5 * k)]
  obtain ⟨q, hq⟩ := zf0_11
  obtain ⟨q1, q2, hq2⟩ := zf0_17
  obtain ⟨n1, n2, hn⟩ := za0_9
  obtain ⟨⟨c1, c2, c3, c4, c5⟩, hc⟩ := zc0_3
  have m0 : mB 0 = cX0_init := rfl
  refine ⟨w', ?_, ?_⟩
  · refine (show cl 0 [aR (some a)] (nW w) = val 0 2 (0, [some (aR (some a)), none], [], nW w) from rfl).trans <| (v_push (aR (some a)) 1 m0 dX0_init_0 rfl rfl).trans <| (v_objI 4 m0 dX0_init_1 rfl hc rfl (by show a < 1000000; omega)).trans <| (v_push (aR (some a)) 5 m0 dX0_init_4 rfl rfl).trans <| (v_push (aI 40) 7 m0 dX0_init_5 rfl rfl).trans <| (v_newR (w := nW w) (a + 1) 40 23 10 m0 dX0_init_7 rfl hn hE hN1 h1).trans <| (v_putF 13 m0 dX0_init_10 rfl hq rfl (by rw [h0]) rfl rfl).trans <| (v_push (aR (some a)) 14 m0 dX0_init_13 rfl rfl).trans <| (v_push (aI 0) 15 m0 dX0_init_14 rfl rfl).trans <| (v_putI 18 m0 dX0_init_15 rfl hq2 rfl (by rw [h0])).trans <| (v_push (aI 0) 19 m0 dX0_init_18 rfl rfl).trans <| (v_ist [some (aR (some a)), some (aI 0)] 20 m0 dX0_init_19 rfl rfl).trans ?_
    rw [← hw0]
    refine e1.trans <| (v_push (aI 40) 21 m0 dX0_init_20 rfl rfl).trans <| (v_push (aR (some a)) 22 m0 dX0_init_21 rfl rfl).trans <| (v_getR (a + 1) 25 m0 dX0_init_22 rfl hq rfl (by rw [h0]) (by rw [(hb.2.2.2.1 a (by omega)).2]; exact hr)).trans <| (v_len 40 26 m0 dX0_init_25 rfl h1 rfl).trans <| (v_icmp_ge 48 29 m0 dX0_init_26 rfl rfl).trans ?_
    rw [if_pos (by decide)]
    exact v_ret0 m0 dX0_init_48 rfl
  · obtain ⟨b1, b2, b3, b4, b5⟩ := hb
    refine ⟨b1.trans (by omega), b2, b3.trans (by rw [hw0]; rfl), fun b hb => ⟨(b4 b (by omega)).1.trans (gIb b hb).1, (b4 b (by omega)).2.trans (gIb b hb).2⟩, fun b c1 c2 => ?_⟩
    by_cases z : b = a
    · subst z
      refine ⟨fun k o e => ?_, fun k => Or.inl ?_, XA h0 (by decide) _⟩
      · rw [h0] at e
        rw [(b4 b (by omega)).2, r0 k]
        have hk : k = 0 ∧ o = 1 := by
          unfold offO at e
          rw [Option.map_eq_some_iff] at e
          obtain ⟨x, x1, x2⟩ := e
          have m1 := List.mem_of_find?_eq_some x1
          have m2 := List.find?_some x1
          have all : ∀ e ∈ offT, e.1.1 = 0 → e.1.2 = 0 ∧ e.2 = 1 := by decide +kernel
          have m4 : x.1 = (0, k) := by simpa using m2
          have m3 := all x m1 (by rw [m4])
          rw [m4, x2] at m3
          exact m3
        rw [hk.1, hk.2]; rfl
      · rw [(b4 b (by omega)).1, i0r]
        rcases IA h0 (by decide) k with e | e
        · exact e.symm
        · omega
    · exact b5 b (by omega) (by omega)
