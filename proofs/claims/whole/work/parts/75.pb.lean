/-! couples in the reference -/
theorem someR {Q : QT} {m p t : Nat} : bAnd (dl m p : Int) (mk (oth Q t p) 8) = mk (fun i => (dl m p).testBit i && oth Q t p i) 8 := by
  rw [mk_self (dl_b (m := m) (p := p)), mk_and (by decide)]
theorem adf_b (x y : Int) : 0 ≤ adf x y := by unfold adf; split <;> omega
theorem someT {Q : QT} {s : ST} {m p r : Nat} (h8 : zn Q ≤ 8) (hr : r < zn Q) (hp : p < r) : ((dl m p).testBit r && oth Q (uT s).toNat p r) = decide (m.testBit r = true ∧ df Q s p r ≠ -1) := by
  have e1 : (r == p) = false := by simpa using (show r ≠ p by omega)
  have r8 : r < 8 := by omega
  rw [dl_test, e1]
  unfold oth
  rw [e1]
  by_cases z : zc Q r (uT s).toNat = zc Q p (uT s).toNat
  · have hd : df Q s p r ≠ -1 := by
      rw [df_1 z.symm]
      have := adf_b (uL s p) (uL s r)
      omega
    simp [r8, hr, z, hd]
  · have hd : df Q s p r = -1 := df_0 (fun y => z y.symm)
    simp [hr, z, hd]
theorem df_adf {Q : QT} {s : ST} {p r : Nat} (h : df Q s p r ≠ -1) : df Q s p r = adf (uL s p) (uL s r) := by
  by_cases z : zc Q p (uT s).toNat = zc Q r (uT s).toNat
  · exact df_1 z
  · exact absurd (df_0 z) h
theorem y257 {w : Wd} {Q : QT} {s : ST} {p o : Nat} (h : MQx w Q s) (hp : p < 8) (ho : o < 8) : F257 473 p o w = rI (adf (uL s p) (uL s o)) w := by
  refine e257 h.H l473 _ ?_
  rw [gdi (by omega) (by omega), gdi (by omega) (by omega), nn, nn, show gI w (473 + 16) = uL s from h.2.1.1, q323a h.H (h.s.1 p) (h.s.1 o), bI_r h.H]
theorem lB_ag {D : Nat → Nat → Int} {L L' : Row} {m p : Nat} (hm : m < 256) (hp : p < 8) (hpin : m.testBit p = true) (h : ∀ i, i < m → L i = L' i) : ∀ k, k ≤ 7 - p → lB D L m p k = lB D L' m p k := by
  intro k
  have hd := dl_lt m hm p hp hpin
  induction k with
  | zero => intro _; show (100000 : Int) + L (dl m p) = 100000 + L' (dl m p); rw [h _ hd]
  | succ k ih =>
    intro hk
    have hd2 := dl_le (dl m p) dl_b (p + 1 + k) (by omega)
    rw [lB_s, lB_s, ih (by omega), h (dl (dl m p) (p + 1 + k)) (by omega)]
theorem lB_out {D : Nat → Nat → Int} {L : Row} {m p k : Nat} (h : ∀ r, p + 1 + k ≤ r → m.testBit r = false) : ∀ j, lB D L m p (k + j) = lB D L m p k := by
  intro j
  induction j with
  | zero => rfl
  | succ j ih =>
    rw [← Nat.add_assoc, lB_s, if_neg (fun y => ?_), ih]
    rw [h _ (by omega)] at y
    exact absurd y.1 (by decide)
theorem y258f {w : Wd} {m : Nat} (H : LR w) (hm : m < 256) : Rf (s258_19 473 m (fo m) w) (s258_19 473 m 0 w) := by
  have hf := fo_b m
  obtain ⟨_, hu, -⟩ := lpR (F := fun k (_ : Unit) => s258_19 473 m k w) (I := fun _ _ => True) (fo m) (fun k _ hk _ => ⟨(), fun o ho => e258_19 H l473 _ (by
    rw [y175n H hm (by omega), bI_r H, fo_out m hm k (by omega) hk, if_neg (by decide), wrs (by omega)]
    exact ho), trivial⟩) () trivial
  exact hu
/-- the search for one set, behind its first -/
theorem y258i {w : Wd} {Q : QT} {s : ST} {m : Nat} {L : Row} (h : MQx w Q s) (h0 : 0 < m) (hm : m < 2 ^ zn Q) (hb : ∀ i, i < m → 0 ≤ L i ∧ L i ≤ 900000) (hL : gI w 500 = va_up L m (lB (df Q s) L m (fo m) 0)) :
    ∃ w', Rf (s258_9 473 ((m + 1 : Nat) : Int) w') (s258_70 473 m (fo m) (dl m (fo m)) (mk (fun i => (dl m (fo m)).testBit i && oth Q (uT s).toNat (fo m) i) 8) ((fo m + 1 : Nat) : Int) w) ∧ FrI (fun b => b = 500) w w' ∧ gI w' 500 = va_up L m (lB (df Q s) L m (fo m) (7 - fo m)) := by
  have h8 := h.n8
  have hN2 : 2 ^ zn Q ≤ 256 := Nat.pow_le_pow_right (n := 2) (by decide) h8
  have hm8 : m < 256 := by omega
  have hf := fo_b m
  have hfi := fo_in h0 hm8
  have hfn : fo m < zn Q := in_lt hm hfi
  have hd := dl_lt m hm8 (fo m) (by omega) hfi
  have lb : ∀ k, k ≤ 7 - fo m → 0 ≤ lB (df Q s) L m (fo m) k ∧ lB (df Q s) L m (fo m) k ≤ 1000000 := by
    intro k
    induction k with
    | zero =>
      intro _
      have := hb _ hd
      show 0 ≤ (100000 : Int) + L (dl m (fo m)) ∧ (100000 : Int) + L (dl m (fo m)) ≤ 1000000
      omega
    | succ k ih =>
      intro hk
      have ih := ih (by omega)
      rw [lB_s]
      split
      · rename_i c
        have hd2 := dl_le (dl m (fo m)) dl_b (fo m + 1 + k) (by omega)
        have h1 := hb (dl (dl m (fo m)) (fo m + 1 + k)) (by omega)
        have h2 := df_b (Q := Q) h.s (fo m) (fo m + 1 + k)
        have c2 := c.2
        omega
      · exact ih
  have ex : ∀ k : Nat, (fo m : Int) + 1 + (k : Int) = ((fo m + 1 + k : Nat) : Int) := fun k => by omega
  obtain ⟨v, hv, i1, i2⟩ := lpR (F := fun k v => s258_70 473 m (fo m) (dl m (fo m)) (mk (fun i => (dl m (fo m)).testBit i && oth Q (uT s).toNat (fo m) i) 8) ((fo m : Int) + 1 + k) v) (I := fun k v => FrI (fun b => b = 500) w v ∧ gI v 500 = va_up L m (lB (df Q s) L m (fo m) k)) (zn Q - fo m - 1) (fun k v hk e => by
    obtain ⟨ef, e1⟩ := e
    have hv : MQx v Q s := h.fr ef (fun b hb => by omega)
    have ho : fo m + 1 + k < zn Q := by omega
    have ho8 : fo m + 1 + k < 8 := by omega
    have eR : F175 (mk (fun i => (dl m (fo m)).testBit i && oth Q (uT s).toNat (fo m) i) 8) ((fo m + 1 + k : Nat) : Int) v = rI (b2i (decide (m.testBit (fo m + 1 + k) = true ∧ df Q s (fo m) (fo m + 1 + k) ≠ -1))) v := by
      rw [y175 hv.H ho8]
      show rI (b2i (_ && _)) v = _
      rw [someT h8 ho (by omega)]
    have lbk := lb k (by omega)
    by_cases c : m.testBit (fo m + 1 + k) = true ∧ df Q s (fo m) (fo m + 1 + k) ≠ -1
    · have hd2 := dl_le (dl m (fo m)) dl_b (fo m + 1 + k) ho8
      have hdb := dl_b (m := dl m (fo m)) (p := fo m + 1 + k)
      have h1 := hb (dl (dl m (fo m)) (fo m + 1 + k)) (by omega)
      have h2 := df_b (Q := Q) h.s (fo m) (fo m + 1 + k)
      have e3 : gI v 500 m = lB (df Q s) L m (fo m) k := by rw [e1, up_s]
      have e4 : gI v 500 (dl (dl m (fo m)) (fo m + 1 + k)) = L (dl (dl m (fo m)) (fo m + 1 + k)) := by rw [e1, up_c (by omega)]
      have e5 : lB (df Q s) L m (fo m) (k + 1) = min (lB (df Q s) L m (fo m) k) (df Q s (fo m) (fo m + 1 + k) + L (dl (dl m (fo m)) (fo m + 1 + k))) := by rw [lB_s, if_pos c]
      refine ⟨pI v 500 m (lB (df Q s) L m (fo m) (k + 1)), fun o ho2 => e258_70 hv.H l473 _ ?_, ef.pp rfl, by rw [gI_p, e1, up_up]⟩
      rw [gdi (by omega) (by omega), ex k, show gI v (473 + 4) 1 = zn Q from hv.n, if_neg (by omega), eR, bI_r hv.H, decide_eq_true c, if_neg (by decide), gdi (by omega) (by omega), y257 hv (by omega) ho8, bI_r hv.H, ← df_adf c.2, dl_eq dl_b ho8, gdi (by omega) (by omega), nn, nn, show (473 + 27 : Nat) = 500 from rfl, e3, e4, wrd (by omega) (by omega), q326 hv.H, bI_r hv.H, gdi (by omega) (by omega), ← e5, wrs (by omega)]
      have ho3 : s258_70 473 m (fo m) (dl m (fo m)) (mk (fun i => (dl m (fo m)).testBit i && oth Q (uT s).toNat (fo m) i) 8) ((fo m : Int) + 1 + ((k + 1 : Nat) : Int)) (pI v 500 m (lB (df Q s) L m (fo m) (k + 1))) = some o := ho2
      rw [ex (k + 1)] at ho3
      exact ho3
    · have e5 : lB (df Q s) L m (fo m) (k + 1) = lB (df Q s) L m (fo m) k := by rw [lB_s, if_neg c]
      refine ⟨v, fun o ho2 => e258_70 hv.H l473 _ ?_, ef, by rw [e5]; exact e1⟩
      rw [gdi (by omega) (by omega), ex k, show gI v (473 + 4) 1 = zn Q from hv.n, if_neg (by omega), eR, bI_r hv.H, decide_eq_false c, if_pos (by decide), wrs (by omega)]
      have ho3 : s258_70 473 m (fo m) (dl m (fo m)) (mk (fun i => (dl m (fo m)).testBit i && oth Q (uT s).toNat (fo m) i) 8) ((fo m : Int) + 1 + ((k + 1 : Nat) : Int)) v = some o := ho2
      rw [ex (k + 1)] at ho3
      exact ho3) w ⟨FrI.rf, hL⟩
  have hv' : MQx v Q s := h.fr i1 (fun b hb => by omega)
  have hend : lB (df Q s) L m (fo m) (7 - fo m) = lB (df Q s) L m (fo m) (zn Q - fo m - 1) := by
    have := lB_out (D := df Q s) (L := L) (m := m) (p := fo m) (k := zn Q - fo m - 1) (fun r hr => by
      cases hz : m.testBit r
      · rfl
      · have := in_lt hm hz; omega) (7 - fo m - (zn Q - fo m - 1))
    rw [← this]
    congr 1
    omega
  refine ⟨v, fun o ho => ?_, i1, by rw [hend]; exact i2⟩
  have := hv o (e258_70 hv'.H l473 _ (by
    rw [gdi (by omega) (by omega), show gI v (473 + 4) 1 = zn Q from hv'.n, if_pos (by omega), wrs (by omega)]
    exact ho))
  have e0 : (fo m : Int) + 1 + 0 = ((fo m + 1 : Nat) : Int) := by omega
  rw [← e0]
  exact this
/-- one set -/
theorem y258m {w : Wd} {Q : QT} {s : ST} {m : Nat} (h : MQx w Q s) (h0 : 0 < m) (hm : m < 2 ^ zn Q) (hb : ∀ i, i < m → 0 ≤ gI w 500 i ∧ gI w 500 i ≤ 900000) :
    ∃ w', Rf (s258_9 473 ((m + 1 : Nat) : Int) w') (s258_9 473 m w) ∧ FrI (fun b => b = 500) w w' ∧ gI w' 500 = va_up (gI w 500) m (lB (df Q s) (gI w 500) m (fo m) (7 - fo m)) := by
  have h8 := h.n8
  have hN2 : 2 ^ zn Q ≤ 256 := Nat.pow_le_pow_right (n := 2) (by decide) h8
  have hm8 : m < 256 := by omega
  have hf := fo_b m
  have hfi := fo_in h0 hm8
  have hfn : fo m < zn Q := in_lt hm hfi
  have hd := dl_lt m hm8 (fo m) (by omega) hfi
  have hdb := dl_b (m := m) (p := fo m)
  have hbd := hb _ hd
  have f0 : FrI (fun b => b = 500) w (pI w 500 m (lB (df Q s) (gI w 500) m (fo m) 0)) := FrI.p rfl
  have h1 : MQx (pI w 500 m (lB (df Q s) (gI w 500) m (fo m) 0)) Q s := h.fr f0 (fun b hb => by omega)
  obtain ⟨w', k1, k2, k3⟩ := y258i h1 h0 hm hb gI_p
  refine ⟨w', fun o ho => e258_9 h.H l473 _ ?_, f0.tr k2, k3⟩
  rw [y179 h, bI_r h.H, if_neg (by omega)]
  refine y258f h.H hm8 o (e258_19 h.H l473 _ ?_)
  rw [y175n h.H hm8 (by omega), bI_r h.H, hfi, if_pos (by decide), y212 h hfn, bI_r h.H, dl_eq hm8 (by omega), gdi (by omega) (by omega), gdi (by omega) (by omega), someR, nn, nn, wrs (by omega), show (473 + 27 : Nat) = 500 from rfl, wrd (by omega) (by omega)]
  exact k1 o ho
theorem LTb_s {D : Nat → Nat → Int} {L : Row} {m : Nat} (h0 : 0 < m) (hm : m < 256) (hL : LTb D L m) : LTb D (va_up L m (lB D L m (fo m) (7 - fo m))) (m + 1) := by
  refine ⟨by rw [up_c (by omega)]; exact hL.1, fun i i0 i1 => ?_⟩
  have hf := fo_b i
  have hfi := fo_in i0 (show i < 256 by omega)
  have ag : ∀ j, j < i → L j = va_up L m (lB D L m (fo m) (7 - fo m)) j := fun j hj => by rw [up_c (by omega)]
  rw [← lB_ag (D := D) (show i < 256 by omega) (by omega) hfi ag _ (Nat.le_refl _)]
  by_cases z : i = m
  · subst z; rw [up_s]
  · rw [up_c z]; exact hL.2 i i0 (by omega)
theorem y258 {w : Wd} {Q : QT} {s : ST} (h : MQx w Q s) : ∃ w', F258 473 w = r0 w' ∧ FrI (fun b => b = 500) w w' ∧ LTb (df Q s) (gI w' 500) (2 ^ zn Q) := by
  have h8 := h.n8
  have hN1 : 1 ≤ 2 ^ zn Q := Nat.one_le_two_pow
  have hN2 : 2 ^ zn Q ≤ 256 := Nat.pow_le_pow_right (n := 2) (by decide) h8
  have hD : ∀ a b, a < 8 → b < 8 → -1 ≤ df Q s a b ∧ df Q s a b ≤ 999 := fun a b _ _ => df_b h.s a b
  obtain ⟨v, hv, i1, i2⟩ := lpR (F := fun k v => s258_9 473 (k + 1) v) (I := fun k v => FrI (fun b => b = 500) w v ∧ LTb (df Q s) (gI v 500) (k + 1)) (2 ^ zn Q - 1) (fun k v hk e => by
    obtain ⟨ef, e1⟩ := e
    have hv : MQx v Q s := h.fr ef (fun b hb => by omega)
    have hLk := Lk_all hD (show k + 1 ≤ 256 by omega) (WT_Tn (D := df Q s) (N := k) (by omega)) e1
    obtain ⟨v', k1, k2, k3⟩ := y258m (m := k + 1) hv (by omega) (by omega) (fun i hi => by
      have := Lk.b (tb_8 i) (hLk i hi)
      omega)
    refine ⟨v', k1, ef.tr k2, ?_⟩
    rw [k3]
    exact LTb_s (by omega) (by omega) e1) (pI w 500 0 0) ⟨FrI.p rfl, gI_s, fun m m0 m1 => absurd m1 (by omega)⟩
  have hv' : MQx v Q s := h.fr i1 (fun b hb => by omega)
  refine ⟨v, e258 h.H l473 _ ?_, i1, by rw [show 2 ^ zn Q - 1 + 1 = 2 ^ zn Q by omega] at i2; exact i2⟩
  rw [gdi (by omega) (by omega)]
  exact hv _ (e258_9 hv'.H l473 _ (by rw [y179 hv', bI_r hv'.H, if_pos (by omega)]))
