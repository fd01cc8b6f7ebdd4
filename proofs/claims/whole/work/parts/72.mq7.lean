/-! the reference's questions: years -/
theorem sh16 (x : Int) : bAnd (bShr x 16) 32767 = bAnd (bUshr x 16) 32767 := by
  have hl : (i32 x >>> (i32 16 &&& 31)).toBitVec = (i32 x).toBitVec.sshiftRight 16 := by
    have e : (i32 16 &&& 31) = (16 : Int32) := by decide
    rw [e, Int32.toBitVec_shiftRight, BitVec.sshiftRight_eq']
    rfl
  have hr : (((i32 x).toUInt32 >>> ((i32 16).toUInt32 &&& Int32.toUInt32 31)).toInt32).toBitVec = (i32 x).toBitVec >>> 16 := by
    have e : ((i32 16).toUInt32 &&& Int32.toUInt32 31) = (16 : UInt32) := by decide
    rw [e]
    show ((i32 x).toUInt32 >>> (16 : UInt32)).toBitVec = _
    rw [UInt32.toBitVec_shiftRight]
    rfl
  unfold bAnd bShr bUshr
  rw [i32_t, i32_t]
  congr 1
  apply Int32.toBitVec_inj.mp
  rw [Int32.toBitVec_and, Int32.toBitVec_and, hl, hr]
  apply BitVec.eq_of_getLsbD_eq
  intro i hi
  rw [BitVec.getLsbD_and, BitVec.getLsbD_and, BitVec.getLsbD_sshiftRight, BitVec.getLsbD_ushiftRight]
  have e : (i32 32767).toBitVec.getLsbD i = decide (i < 15) := by
    have : ∀ i : Nat, i < 32 → (i32 32767).toBitVec.getLsbD i = decide (i < 15) := by decide
    exact this i hi
  rw [e]
  by_cases z : i < 15
  · simp [hi, show 16 + i < 32 by omega, show ¬ 32 ≤ i by omega]
  · simp [z]
theorem y271 {w : Wd} {n : Nat} (H : LR w) (hn : 0 < n) : F271 473 n w = rI (dv (dr (gI w 473 57)) n) (pI w 473 57 (dr (gI w 473 57))) := by
  refine e271 H l473 _ ?_
  rw [gP_t (by omega), gI_s, sh16]
  rfl
theorem MQx.pC {w : Wd} {Q : QT} {s : ST} {c : Int} (h : MQx w Q s) (hc : 0 ≤ c ∧ c < 60) : MQx (pI w 473 34 c) Q (pC s c) := by
  have f : FrI (fun b => b = 473) w (pI w 473 34 c) := FrI.p rfl
  have hr := h.2.1
  unfold RMS at hr
  refine h.to f (fun b b1 b2 z => by omega) ?_ (GS_C h.s hc) h.I (by rw [gI_c (by decide)]; exact h.F)
  unfold RMS
  rw [f.g (show ¬ 489 = 473 by decide), f.g (show ¬ 490 = 473 by decide), f.g (show ¬ 487 = 473 by decide), f.g (show ¬ 491 = 473 by decide), gI_c (by decide), gI_s, gI_c (by decide), gI_c (by decide)]
  exact ⟨hr.1, hr.2.1, hr.2.2.1, hr.2.2.2.1, hr.2.2.2.2.1, rfl, hr.2.2.2.2.2.2.1, hr.2.2.2.2.2.2.2⟩
theorem mk_flip {P : Nat → Bool} {p : Nat} (hp : p < 8) : bXor (mk P 8) (bShl 1 p) = mk (fun i => if i = p then !P p else P i) 8 := by
  rw [mk_one (n := 8) hp (by omega), mk_xor (by omega)]
  apply mk_congr
  intro i hi
  by_cases z : i = p
  · subst z; simp
  · have e : (i == p) = false := by simpa using z
    rw [e, if_neg z, Bool.xor_false]
/-- what a draw changes, in the reference -/
theorem y272 {w : Wd} {Q : QT} {a : Int × ST} (h : MQx w Q a.2) (hsd : gI w 473 57 = a.1) :
    ∃ w', F272 473 w = r0 w' ∧ MQx w' Q (yrS Q a).2 ∧ gI w' 473 57 = (yrS Q a).1 ∧ FrI (fun b => b = 473 ∨ b = 489 ∨ b = 491) w w' ∧ ∀ i, (i < 33 ∨ 36 < i) → i ≠ 57 → gI w' 473 i = gI w 473 i := by
  have h8 := h.n8
  obtain ⟨sd, u⟩ := a
  simp only [] at h hsd
  subst hsd
  have d1 := y271 (n := 6) h.H (by omega)
  have W1 : MQx (pI w 473 57 (dr (gI w 473 57))) Q u := h.pf (by omega)
  have s1 : gI (pI w 473 57 (dr (gI w 473 57))) 473 57 = dr (gI w 473 57) := gI_s
  have k1 : FrI (fun b => b = 473 ∨ b = 489 ∨ b = 491) w (pI w 473 57 (dr (gI w 473 57))) := FrI.p (Or.inl rfl)
  have j1 : ∀ i, i ≠ 57 → gI (pI w 473 57 (dr (gI w 473 57))) 473 i = gI w 473 i := fun i hi => gI_c hi
  generalize pI w 473 57 (dr (gI w 473 57)) = v1 at *
  have d2 : ∀ n : Nat, 0 < n → F271 473 n v1 = rI (dv (dr (dr (gI w 473 57))) n) (pI v1 473 57 (dr (dr (gI w 473 57)))) := fun n hn => by rw [y271 W1.H hn, s1]
  have W2 : MQx (pI v1 473 57 (dr (dr (gI w 473 57)))) Q u := W1.pf (by omega)
  have s2 : gI (pI v1 473 57 (dr (dr (gI w 473 57)))) 473 57 = dr (dr (gI w 473 57)) := gI_s
  have k2 : FrI (fun b => b = 473 ∨ b = 489 ∨ b = 491) w (pI v1 473 57 (dr (dr (gI w 473 57)))) := k1.pp (Or.inl rfl)
  have j2 : ∀ i, i ≠ 57 → gI (pI v1 473 57 (dr (dr (gI w 473 57)))) 473 i = gI w 473 i := fun i hi => by rw [gI_c hi]; exact j1 i hi
  generalize pI v1 473 57 (dr (dr (gI w 473 57))) = v2 at *
  have hd := dv_b (dr (gI w 473 57)) (n := 6) (by omega)
  have start : ∀ {o : Out}, (if dv (dr (gI w 473 57)) 6 ≠ 3 then s272_22 473 (dv (dr (gI w 473 57)) 6) v1 else bI (F271 473 60 v1) (fun n4 w5 => s272_22 473 (dv (dr (gI w 473 57)) 6) (pI w5 473 34 n4))) = some o → F272 473 w = some o := by
    intro o ho
    refine e272 h.H l473 _ ?_
    rw [show F271 473 6 w = _ from d1, bI_r W1.H]
    exact ho
  unfold yrS
  dsimp only
  by_cases z3 : dv (dr (gI w 473 57)) 6 = 3
  · rw [if_pos z3]
    have e2 := d2 60 (by omega)
    have hc := dv_b (dr (dr (gI w 473 57))) (n := 60) (by omega)
    have M := W2.pC (c := dv (dr (dr (gI w 473 57))) 60) hc
    refine ⟨_, start ?_, M, by rw [gI_c (by decide)]; exact s2, k2.pp (Or.inl rfl), fun i h1 h2 => by rw [gI_c (by omega)]; exact j2 i h2⟩
    rw [if_neg (by omega), show F271 473 60 v1 = _ from e2, bI_r W2.H, z3]
    exact e272_22 M.H l473 _ (if_pos (by omega))
  rw [if_neg z3]
  rw [if_pos z3] at start
  have n1 : gI v1 (473 + 4) 1 = zn Q := W1.n
  by_cases zz : 2 < dv (dr (gI w 473 57)) 6 ∨ zn Q = 0
  · rw [if_pos zz]
    refine ⟨v1, start (e272_22 W1.H l473 _ ?_), W1, s1, k1, fun i h1 h2 => j1 i h2⟩
    by_cases z2 : 2 < dv (dr (gI w 473 57)) 6
    · rw [if_pos z2]
    · rw [if_neg z2, gdi (by omega) (by omega), n1, if_neg (by omega)]
  rw [if_neg zz]
  have hn : 0 < zn Q := by omega
  have e2 := d2 (zn Q) hn
  have hw := dv_b (dr (dr (gI w 473 57))) hn
  obtain ⟨p, hp⟩ : ∃ p : Nat, dv (dr (dr (gI w 473 57))) (zn Q) = p := ⟨(dv (dr (dr (gI w 473 57))) (zn Q)).toNat, by omega⟩
  rw [hp] at e2 hw ⊢
  rw [nn]
  have hp8 : p < 8 := by omega
  have hpz : p < zn Q := by omega
  have start2 : ∀ {o : Out}, (if dv (dr (gI w 473 57)) 6 ≠ 0 then (if dv (dr (gI w 473 57)) 6 ≠ 1 then s272_81 473 (dv (dr (gI w 473 57)) 6) p v2 else s272_81 473 (dv (dr (gI w 473 57)) 6) p (pI v2 473 36 (bXor (gI v2 473 36) (bShl 1 p)))) else bI (F271 473 60 v2) (fun n4 w5 => gd (inb p 8) ((if dv (dr (gI w 473 57)) 6 ≠ 1 then s272_81 473 (dv (dr (gI w 473 57)) 6) p (pI w5 (473 + 18) (p : Int).toNat n4) else s272_81 473 (dv (dr (gI w 473 57)) 6) p (pI (pI w5 (473 + 18) (p : Int).toNat n4) 473 36 (bXor (gI (pI w5 (473 + 18) (p : Int).toNat n4) 473 36) (bShl 1 p))))))) = some o → F272 473 w = some o := by
    intro o ho
    refine start (e272_22 W1.H l473 _ ?_)
    rw [if_neg (by omega), gdi (by omega) (by omega), n1, if_pos (by omega), gdi (by omega) (by omega), e2, bI_r W2.H]
    exact ho
  by_cases zc0 : dv (dr (gI w 473 57)) 6 = 0
  · rw [if_pos zc0]
    have e3 : F271 473 60 v2 = rI (dv (dr (dr (dr (gI w 473 57)))) 60) (pI v2 473 57 (dr (dr (dr (gI w 473 57))))) := by
      have := y271 (n := 60) W2.H (by omega)
      rw [s2] at this; exact this
    have W3 : MQx (pI v2 473 57 (dr (dr (dr (gI w 473 57))))) Q u := W2.pf (by omega)
    have hy := dv_b (dr (dr (dr (gI w 473 57)))) (n := 60) (by omega)
    have M : MQx (pI (pI v2 473 57 (dr (dr (dr (gI w 473 57))))) 491 p (dv (dr (dr (dr (gI w 473 57)))) 60)) Q (sW u p (dv (dr (dr (dr (gI w 473 57)))) 60)) := by
      have f : FrI (fun b => b = 491) (pI v2 473 57 (dr (dr (dr (gI w 473 57))))) (pI (pI v2 473 57 (dr (dr (dr (gI w 473 57))))) 491 p (dv (dr (dr (dr (gI w 473 57)))) 60)) := FrI.p rfl
      have hr := W3.2.1
      unfold RMS at hr
      refine W3.to f (fun b b1 b2 z => by omega) ?_ (GS_W W3.s hy) W3.I (by rw [f.g (by decide)]; exact W3.F)
      unfold RMS
      rw [f.g (show ¬ 489 = 491 by decide), f.g (show ¬ 490 = 491 by decide), f.g (show ¬ 487 = 491 by decide), f.g (show ¬ 473 = 491 by decide), gI_p, hr.2.2.1]
      exact ⟨hr.1, hr.2.1, rfl, hr.2.2.2⟩
    refine ⟨_, start2 ?_, M, by rw [gI_r (by decide), gI_s], (k2.pp (Or.inl rfl)).pp (Or.inr (Or.inr rfl)), fun i h1 h2 => by rw [gI_r (by decide), gI_c h2]; exact j2 i h2⟩
    rw [if_neg (by omega), e3, bI_r W3.H, gdi (by omega) (by omega), if_pos (by omega), nn]
    refine e272_81 M.H l473 _ ?_
    rw [if_pos (by omega)]
  rw [if_neg zc0]
  rw [if_pos zc0] at start2
  by_cases zc1 : dv (dr (gI w 473 57)) 6 = 1
  · rw [if_pos zc1]
    rw [if_neg (fun q => q zc1)] at start2
    have e36 : gI v2 473 36 = mk (uI u) 8 := W2.2.1.2.2.2.2.2.2.2
    rw [e36, mk_flip hp8] at start2
    have M : MQx (pI v2 473 36 (mk (fun i => if i = p then !uI u p else uI u i) 8)) Q (sS u p (!uI u p)) := by
      have f : FrI (fun b => b = 473) v2 (pI v2 473 36 (mk (fun i => if i = p then !uI u p else uI u i) 8)) := FrI.p rfl
      have hr := W2.2.1
      unfold RMS at hr
      refine W2.to f (fun b b1 b2 z => by omega) ?_ (GS_S W2.s) (fun q hq => ?_) (by rw [gI_c (by decide)]; exact W2.F)
      · unfold RMS
        rw [f.g (show ¬ 489 = 473 by decide), f.g (show ¬ 490 = 473 by decide), f.g (show ¬ 487 = 473 by decide), f.g (show ¬ 491 = 473 by decide), gI_c (by decide), gI_c (by decide), gI_c (by decide), gI_s]
        exact ⟨hr.1, hr.2.1, hr.2.2.1, hr.2.2.2.1, hr.2.2.2.2.1, hr.2.2.2.2.2.1, hr.2.2.2.2.2.2.1, rfl⟩
      · show (if q = p then !uI u p else uI u q) = false
        rw [if_neg (by omega)]; exact W2.I q hq
    refine ⟨_, start2 (e272_81 M.H l473 _ ?_), M, by rw [gI_c (by decide)]; exact s2, k2.pp (Or.inl rfl), fun i h1 h2 => by rw [gI_c (by omega)]; exact j2 i h2⟩
    rw [if_pos (by omega)]
  rw [if_neg zc1]
  rw [if_pos zc1] at start2
  have hl := W2.s.1 p
  have eL : gI v2 489 p = uL u p := by rw [W2.2.1.1]
  have M : MQx (pI v2 489 p (min (uL u p + 20) 999)) Q (rcv u p 20) := by
    have f : FrI (fun b => b = 489) v2 (pI v2 489 p (min (uL u p + 20) 999)) := FrI.p rfl
    have hr := W2.2.1
    unfold RMS at hr
    refine W2.to f (fun b b1 b2 z => by omega) ?_ (GS_rcv W2.s hpz (by omega)) W2.I (by rw [f.g (by decide)]; exact W2.F)
    unfold RMS
    rw [f.g (show ¬ 491 = 489 by decide), f.g (show ¬ 490 = 489 by decide), f.g (show ¬ 487 = 489 by decide), f.g (show ¬ 473 = 489 by decide), gI_p, hr.1]
    exact ⟨rfl, hr.2⟩
  refine ⟨_, start2 (e272_81 W2.H l473 _ ?_), M, by rw [gI_r (by decide)]; exact s2, k2.pp (Or.inr (Or.inl rfl)), fun i h1 h2 => by rw [gI_r (by decide)]; exact j2 i h2⟩
  rw [if_neg (by omega), gdi (by omega) (by omega), nn, show gI v2 (473 + 16) p = uL u p from eL, wrd (by omega) (by omega), q326 W2.H, bI_r W2.H, gdi (by omega) (by omega), show min 999 (uL u p + 20) = min (uL u p + 20) 999 by omega]
theorem yrS_E {Q : QT} {a : Int × ST} (h8 : zn Q ≤ 8) : E8 (yrS Q a).2 a.2 ∧ uM (yrS Q a).2 = uM a.2 := by
  unfold yrS
  split
  · exact ⟨fun _ _ => ⟨rfl, rfl, rfl⟩, rfl⟩
  · split
    · exact ⟨E8.rf, rfl⟩
    · rename_i h1 h2
      have hn : 0 < zn Q := by omega
      have hw := dv_b (dr (dr a.1)) hn
      split
      · exact ⟨fun p hp => ⟨rfl, rfl, up_c (by omega)⟩, rfl⟩
      · split
        · exact ⟨fun _ _ => ⟨rfl, rfl, rfl⟩, rfl⟩
        · exact ⟨fun p hp => ⟨up_c (by omega), rfl, rfl⟩, rfl⟩
theorem yrN_E {Q : QT} {sd : Int} {s : ST} (hs : GS (zn Q) s) (h8 : zn Q ≤ 8) : ∀ k : Nat, uT s + k ≤ 100000 → E8 (yrN Q sd s k).2 s ∧ uM (yrN Q sd s k).2 = uM s := by
  intro k
  induction k with
  | zero => intro _; exact ⟨E8.rf, rfl⟩
  | succ k ih =>
    intro hk
    obtain ⟨h1, h2⟩ := ih (by omega)
    obtain ⟨g1, g2⟩ := yrN_G (sd := sd) hs k (by omega)
    obtain ⟨g3, g4⟩ := yrS_G g1
    obtain ⟨e1, e2⟩ := yrS_E (a := yrN Q sd s k) h8
    rw [yrN_s]
    exact ⟨(E8_goN g3 h8 1 (by omega)).tr (e1.tr h1), ((uM_goN (Q := Q) 1).trans e2).trans h2⟩
theorem yrP_s {Q : QT} {sd : Int} {s : ST} {k : Nat} : yrP Q sd s (k + 1) = yrP Q sd s k + PS Q (yrS Q (yrN Q sd s k)).2 (zn Q) := rfl
theorem r273 {w : Wd} {Q : QT} {s : ST} {sd k wh : Int} (h : MQy w Q s) (hT : uT s ≤ 999) : AnM Q s 2 w (F273 473 sd k wh w) (aYears Q s sd k wh) := by
  refine AnM.of (e273 h.H l473) ?_
  obtain ⟨h0, f0, z0⟩ := st0 h
  revert h0 f0 z0
  generalize pI w 473 4 0 = w0
  intro h0 f0 z0
  refine AnM.W1 rfl h0 (AnM.f h0 f0 rfl) fun q0 q1 => AnM.B1 h0 (AnM.f h0 f0 rfl) fun k0 k1 => ?_
  have h8 := h.1.n8
  have hT0 := h.1.t
  obtain ⟨K, rfl, hK⟩ := toN k0 (show k < 61 by omega)
  obtain ⟨v, a1, a2, a3, a4, a5⟩ := pk0 h0
  rw [show (473 + 24 : Nat) = 497 from rfl, a1, b0_r a2, nn]
  have hV : MQx (pI v 473 57 sd) Q s := a3.pf (by omega)
  have RV := a4.p (i := 57) (x := sd) (by unfold ZF; omega) (by decide) (by decide)
  have hb : ∀ j : Nat, j ≤ 61 → 0 ≤ yrP Q sd s j ∧ yrP Q sd s j ≤ j * 7992 := fun j hj => sumN_bn (f := fun j => PS Q (yrS Q (yrN Q sd s j)).2 (zn Q)) (M := 7992) j (fun i hi => PS_b h.1.g (yrS_G (yrN_G (sd := sd) h.1.s i (by omega)).1).1)
  obtain ⟨u, hu, i1, i2, i3⟩ := lpR (F := fun i u => s273_61 473 sd K wh (yrP Q sd s i.toNat) i u) (I := fun i u => MQx u Q (yrN Q sd s i).2 ∧ Rn w0 s u ∧ gI u 473 57 = (yrN Q sd s i).1) K (fun i u hi e => by
    obtain ⟨e1, ef, e2⟩ := e
    obtain ⟨g1, g2⟩ := yrN_G (sd := sd) h.1.s i (by omega)
    obtain ⟨g3, g4⟩ := yrS_G g1
    obtain ⟨u1, m1, m2, m3, m4, m5⟩ := y272 (a := yrN Q sd s i) e1 e2
    have m44 : gI u1 473 44 = 0 := by rw [m5 44 (by omega) (by omega)]; exact ef.f
    obtain ⟨u', l1, l2, l3, -, l5, -⟩ := y222 m2 m44 (by omega)
    have R1 : Rn w0 s u1 := ⟨ef.1.fr m4 (by omega), ef.2.1.tr ⟨m4.wk (fun b hb => by unfold ZS; omega), fun j hj => m5 j (by unfold ZF at hj; omega) (by unfold ZF at hj; omega)⟩, m44, by rw [m5 4 (by omega) (by omega)]; exact ef.2.2.2⟩
    have b1 := hb i (by omega)
    have b2 := PS_b (s := (yrS Q (yrN Q sd s i)).2) h.1.g g3
    refine ⟨u', fun o ho => e273_61 e1.H l473 _ ?_, l2, R1.J l3, by rw [l3.2 57 (by omega) (by omega)]; exact m3⟩
    simp only [nn] at ho ⊢
    rw [if_neg (by omega), m1, b0_r m2.H, l1, b0_r l2.H, wrs (by omega), l5, wrd (by omega) (by omega)]
    rw [yrP_s] at ho
    exact ho) (pI v 473 57 sd) ⟨hV, RV, gI_s⟩
  obtain ⟨E1, E2⟩ := yrN_E (sd := sd) h.1.s h8 K (by omega)
  have fin : ∀ x : Int, AnM Q s 2 w (s273_115 473 sd K wh (yrP Q sd s K) K x u) (.inl x) := fun x => AnM.of (e273_115 i1.H l473) (AnM.fin h0 f0 z0 i1 i2 E1 E2)
  refine AnM.of hu (AnM.of (e273_61 i1.H l473) ?_)
  simp only [nn]
  rw [if_pos (Int.le_refl _)]
  by_cases y0 : wh = 0
  · rw [if_neg (by omega), if_pos y0]; exact fin _
  rw [if_pos y0, if_neg y0]
  by_cases y1 : wh = 1
  · rw [if_neg (by omega), if_pos y1, y224 i1, bI_r i1.H]; exact fin _
  rw [if_pos y1, if_neg y1, y213 i1, bI_r i1.H]
  exact fin _
