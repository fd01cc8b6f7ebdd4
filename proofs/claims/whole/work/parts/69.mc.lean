/-! the reference: what is seen, further -/
theorem y262 {w : Wd} {Q : QT} {s : ST} {N : NT} (h : MQy w Q s) (hN : RNm w N) (hg : GN (zn Q) N) (ht : uT s ≤ 50000) : ∃ w', F262 473 w = rI (b2i (asS Q N s)) w' ∧ MQy w' Q s ∧ FrW w w' := by
  have h8 := h.1.n8
  have hT0 := h.1.t
  have b8 := hg.1
  obtain ⟨v, k1, k2, k3, -⟩ := y208 (a := 504) (off := 0) (n := 28) h.1 l504 (by omega) (by omega) (by omega)
  have hv : MQy v Q s := h.fr k3 (fun b hb => by omega)
  have fv : FrW w v := FrW.of k3 (fun b hb => by omega)
  have Nv := hN.S fv.S
  obtain ⟨b20, -⟩ := lsN_ub hg N.1 (Nat.le_refl _)
  obtain ⟨_, hub⟩ := lsN_ub hg N.1 (Nat.le_refl _)
  obtain ⟨x, hx, e⟩ := lpR (F := fun k x => s262_13 473 x k v) (I := fun k x => x = lsN N k) N.1 (fun k x hk e => by
    subst e
    refine ⟨_, fun o ho => e262_13 hv.H l473 _ ?_, rfl⟩
    rw [Nv.1, if_neg (by omega), gdi (by omega) (by omega), nn, show gI v (473 + 29) k = N.2.2.1 k from (Nv.2 k hk).2.1, q325 hv.H, bI_r hv.H, wrs (by omega)]
    rw [lsN_s] at ho
    exact ho) 0 rfl
  subst e
  have hx0 : Rf (s262_42 473 (lsN N N.1) 1 0 v) (F262 473 w) := by
    refine fun o ho => e262 h.H l473 _ ?_
    rw [show (473 + 31 : Nat) = 504 from rfl, show F208 473 504 0 w = r0 v from k1, b0_r hv.H]
    refine hx _ (e262_13 hv.H l473 _ ?_)
    rw [Nv.1, if_pos (Int.le_refl _)]
    exact ho
  have fin : ∀ {u : Wd} {k : Nat} {b : Bool} {y : Int}, k ≤ 30 → MQx u Q (goN Q s k) → FrJ v u → b = asS Q N s → ∃ w', s262_122 473 (lsN N N.1) (b2i b) y u = rI (b2i (asS Q N s)) w' ∧ MQy w' Q s ∧ FrW w w' := by
    intro u k b y hk hu hf hb
    obtain ⟨w', c1, c2, c3, c4⟩ := y209 (a := 504) (off := 0) (n := 28) hu (k2.fr hf.1 (by unfold AMr; omega)) l504 (by omega) (by omega) (by omega) (h.1.E8 k (by omega)) h.1.s h.1.I
    rw [pM_self (uM_goN k).symm] at c2
    have c44 : gI w' 473 44 = 0 := by rw [c4 44 (by omega), hf.2 44 (by omega) (by omega)]; exact hv.2
    refine ⟨w', e262_122 hu.H l473 _ ?_, ⟨c2, c44⟩, (fv.tr hf.W).tr ⟨c3.wk (fun b hb => by omega), fun i h1 _ => c4 i h1⟩⟩
    rw [show (473 + 31 : Nat) = 504 from rfl, show F209 473 504 0 u = r0 w' from c1, b0_r c2.H, gP_t (b2i_or _), hb]
  obtain ⟨L, hL, hLe⟩ : ∃ L : Nat, lsN N N.1 = L ∧ L ≤ 20 := ⟨(lsN N N.1).toNat, by omega, by omega⟩
  rw [hL] at hx0 fin hub
  rcases lpX (F := fun k u => s262_42 473 (L : Int) 1 k u) (I := fun k u => MQx u Q (goN Q s k) ∧ FrJ v u ∧ ∀ i, i < N.1 → N.2.2.1 i < (k : Int) → uL (goN Q s (N.2.2.1 i).toNat) (N.2.1 i) = N.2.2.2 i) (Q := fun o => ∃ w', o = (.inl (some (.inl (b2i (asS Q N s)))), w') ∧ MQy w' Q s ∧ FrW w w') (L + 1) (fun k u hk e => by
    obtain ⟨e1, ef, e2⟩ := e
    have hT := goN_T (Q := Q) (s := s) k
    have Nu := Nv.S ef.S
    obtain ⟨u', l1, l2, l3⟩ := y262i (n := k) (x := (L : Int)) e1 Nu hg (by rw [ef.2 44 (by omega) (by omega)]; exact hv.2) (by omega) (by omega)
    have hd : Rf (s262_54 473 (L : Int) 1 k 0 u) (s262_42 473 (L : Int) 1 k u) := fun o ho => e262_42 e1.H l473 _ (by rw [if_neg (by omega), if_neg (by omega)]; exact ho)
    have hs := sok_iff (N := N) (n := (k : Int)) (u := goN Q s k) N.1
    cases z : sok N (k : Int) (goN Q s k) N.1
    · have ha : false = asS Q N s := by
        cases y : asS Q N s
        · rfl
        · rw [z] at hs
          refine absurd (hs.mpr (fun j hj hn => ?_)) (by decide)
          have := asS_iff.mp y j hj
          rw [hn, nn] at this
          exact this
      rw [z] at l1
      obtain ⟨w', t1, t2, t3⟩ := fin (b := false) (y := ((k + 1 : Nat) : Int)) (show k + 1 ≤ 30 by omega) l2 (ef.tr l3) ha
      refine Or.inr ⟨_, hd _ (l1 _ (e262_42 l2.H l473 _ ?_)), w', rfl, t2, t3⟩
      by_cases q : (L : Int) < ((k + 1 : Nat) : Int)
      · rw [if_pos q]; exact t1
      · rw [if_neg q, if_pos (by decide)]; exact t1
    · rw [z] at l1
      refine Or.inl ⟨u', l1.tr hd, l2, ef.tr l3, fun i hi hlt => ?_⟩
      by_cases y : N.2.2.1 i = (k : Int)
      · rw [y, nn]
        exact hs.mp z i hi y
      · exact e2 i hi (by omega)) v ⟨hv.1, FrJ.rf, fun i hi hlt => absurd hlt (by have := (hg.2 i hi).2.1; omega)⟩ with ⟨u, hu, i1, i2, i3⟩ | ⟨o, ho, w', hq, q1, q2⟩
  · have ha : true = asS Q N s := (asS_iff.mpr (fun i hi => i3 i hi (by have := hub i hi; omega))).symm
    obtain ⟨w', t1, t2, t3⟩ := fin (b := true) (y := ((L + 1 : Nat) : Int)) (show L + 1 ≤ 30 by omega) i1 i2 ha
    exact ⟨w', hx0 _ (hu _ (e262_42 i1.H l473 _ (by rw [if_pos (by omega)]; exact t1))), t2, t3⟩
  · exact ⟨w', hx0 _ (by rw [← hq]; exact ho), q1, q2⟩
