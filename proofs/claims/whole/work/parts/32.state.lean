/-! members of the library that are called; a state's own methods -/
theorem q325 {x y : Int} {w : Wd} (H : LR w) : F325 x y w = rI (max x y) w := by
  refine e325 H _ ?_
  by_cases h : x < y
  · rw [if_pos h, show max x y = y by omega]
  · rw [if_neg h, show max x y = x by omega]
theorem q326 {x y : Int} {w : Wd} (H : LR w) : F326 x y w = rI (min x y) w := by
  refine e326 H _ ?_
  by_cases h : y < x
  · rw [if_pos h, show min x y = y by omega]
  · rw [if_neg h, show min x y = x by omega]
theorem q323 {x : Int} {w : Wd} (H : LR w) (h : -2147483648 < x) (h' : x < 2147483648) : F323 x w = rI (if 0 ≤ x then x else -x) w := by
  refine e323 H _ ?_
  by_cases h : 0 ≤ x
  · rw [if_pos h, if_pos h]
  · rw [if_neg h, if_neg h, wrd (by omega) (by omega)]
theorem bXor_nn {a b : Nat} (ha : a < 2147483648) (hb : b < 2147483648) : 0 ≤ bXor a b := by rw [bXor_n ha hb]; omega
theorem q324 {x y : Nat} {w : Wd} (H : LR w) (hx : x < 2147483648) (hy : y < 2147483648) (h : 0 < y) : F324 x y w = rI ((x % y : Nat) : Int) w := by
  refine e324 H _ ?_
  rw [gP_t (by omega), if_pos (bXor_nn hx hy)]
  rfl
theorem q321 {a n : Nat} {x : Int} {w : Wd} (H : LR w) (h : lay a = (21, n)) (hn : n < 100000) : F321 a x w = r0 (sI w a (fun i => if i < n then x else gI w a i)) := by
  obtain ⟨v, hr, hv⟩ := lpR (F := fun k v => s321_5 a x k n v) (I := fun k v => v = sI w a (fun i => if i < k then x else gI w a i)) n (fun k v hk hv => by
    refine ⟨_, fun o ho => ?_, rfl⟩
    subst hv
    refine e321_5 (w := sI w a (fun i => if i < k then x else gI w a i)) H h _ ?_
    rw [if_neg (by omega), gdi (by omega) (by omega), wrd (by omega) (by omega)]
    have e : pI (sI w a (fun i => if i < k then x else gI w a i)) a (k : Int).toNat x = sI w a (fun i => if i < k + 1 then x else gI w a i) := by
      unfold pI
      rw [gI_S, sI_sI]
      congr 1
      funext i
      unfold va_up
      have : ((k : Int)).toNat = k := rfl
      rw [this]
      by_cases e : i = k
      · rw [if_pos e, if_pos (by omega)]
      · rw [if_neg e]
        show (if i < k then x else gI w a i) = _
        by_cases e2 : i < k
        · rw [if_pos e2, if_pos (by omega)]
        · rw [if_neg e2, if_neg (by omega)]
    rw [e]
    exact ho) w (by
      have : (fun i => if i < 0 then x else gI w a i) = gI w a := by funext i; rw [if_neg (by omega)]
      rw [this, sI_self])
  refine e321 H h _ (hr _ ?_)
  subst hv
  exact e321_5 (w := sI w a (fun i => if i < n then x else gI w a i)) H h _ (if_pos (by omega))
theorem mk_bit_t {P : Nat → Bool} {n p : Nat} (hn : n ≤ 31) (hp : p < n) (h : P p = true) : bAnd (bShr (mk P n) p) 1 = 1 := by rw [mk_bit hn (by omega), if_pos ⟨hp, h⟩]
theorem mk_bit_f {P : Nat → Bool} {n p : Nat} (hn : n ≤ 31) (hp : p < 31) (h : P p = false) : bAnd (bShr (mk P n) p) 1 = 0 := by rw [mk_bit hn hp, if_neg (fun z => by rw [h] at z; cases z.2)]
/-! a state -/
theorem nn (k : Nat) : ((k : Int)).toNat = k := rfl
theorem q75 {s p : Nat} {w : Wd} (H : LR w) (h : (lay s).1 = 8) (hp : p < 8) : F75 s p w = rI (gI w (s + 1) p) w := by
  refine e75 H h _ ?_
  rw [if_neg (by omega), if_neg (by omega), gdi (by omega) (by omega)]; rfl
theorem q76 {s p : Nat} {w : Wd} (H : LR w) (h : (lay s).1 = 8) (hp : p < 8) : F76 s p w = rI (gI w (s + 2) p) w := by
  refine e76 H h _ ?_
  rw [if_neg (by omega), if_neg (by omega), gdi (by omega) (by omega)]; rfl
theorem q77 {s p : Nat} {w : Wd} (H : LR w) (h : (lay s).1 = 8) (hp : p < 8) : F77 s p w = rI (gI w (s + 3) p) w := by
  refine e77 H h _ ?_
  rw [if_neg (by omega), if_neg (by omega), gdi (by omega) (by omega)]; rfl
theorem q78 {s p : Nat} {w : Wd} (H : LR w) (h : (lay s).1 = 8) (hp : p < 8) : F78 s p w = rI (gI w (s + 4) p) w := by
  refine e78 H h _ ?_
  rw [if_neg (by omega), if_neg (by omega), gdi (by omega) (by omega)]; rfl
/-- the world holds the state s at a -/
def RS (w : Wd) (a : Nat) (s : ST) : Prop := gI w (a + 1) = uL s ∧ gI w (a + 2) = uW s ∧ gI w (a + 3) = uM s ∧ gI w (a + 4) = uG s ∧ gI w a 4 = mk (uI s) 8 ∧ gI w a 5 = b2i (uP s) ∧ gI w a 6 = uC s ∧ gI w a 7 = uT s
theorem RS.fr {A : Nat → Prop} {w w' : Wd} {a : Nat} {s : ST} (h : RS w a s) (hf : FrI A w w') (h0 : ¬ A a) (h1 : ¬ A (a + 1)) (h2 : ¬ A (a + 2)) (h3 : ¬ A (a + 3)) (h4 : ¬ A (a + 4)) : RS w' a s := by
  unfold RS
  rw [hf.1 _ h0, hf.1 _ h1, hf.1 _ h2, hf.1 _ h3, hf.1 _ h4]
  exact h
theorem q79 {a p n : Nat} {w : Wd} {s : ST} (H : LR w) (h : (lay a).1 = 8) (hp : p < 8) (hr : RS w a s) (hs : GS n s) : F79 a p w = rI (shw s p) w := by
  refine e79 H h _ ?_
  obtain ⟨r1, r2, r3, r4, r5, r6, r7, r8⟩ := hr
  obtain ⟨g1, g2, g3, g4, g5, g6, g7⟩ := hs
  have := g3 p
  rw [if_neg (by omega), if_neg (by omega), gdi (by omega) (by omega), nn, r2, r7]
  simp (disch := omega) only [wrd]
  unfold shw
  rw [Int.tmod_eq_emod_of_nonneg (by omega)]
  congr 3
  omega
theorem q80 {a p : Nat} {w : Wd} {s : ST} (H : LR w) (h : (lay a).1 = 8) (hp : p < 8) (hr : RS w a s) : F80 a p w = rI (if 0 < uL s p then 0 else 1) w := by
  refine e80 H h _ ?_
  rw [if_neg (by omega), if_neg (by omega), gdi (by omega) (by omega), nn, hr.1]
  split <;> rfl
theorem q81 {a p : Nat} {w : Wd} {s : ST} (H : LR w) (h : (lay a).1 = 8) (hp : p < 8) (hr : RS w a s) : F81 a p w = rI (b2i (uI s p)) w := by
  refine e81 H h _ ?_
  rw [hr.2.2.2.2.1]
  cases hb : uI s p
  · rw [mk_bit_f (by omega) (by omega) hb, if_pos (by omega)]; rfl
  · rw [mk_bit_t (by omega) hp hb, if_neg (by omega)]; rfl
theorem q82 {a : Nat} {w : Wd} {s : ST} (H : LR w) (h : (lay a).1 = 8) (hr : RS w a s) : F82 a w = rI (mk (alv s) 8) w := by
  obtain ⟨v, hv, e⟩ := lpR (F := fun k v => s82_4 a v k w) (I := fun k v => v = mk (alv s) k) 8 (fun k v hk e => by
    subst e
    refine ⟨_, fun o ho => e82_4 H h _ ?_, rfl⟩
    rw [if_neg (by omega), gdi (by omega) (by omega), wrd (by omega) (by omega), nn, hr.1]
    rw [mk_s (by omega)] at ho
    by_cases q : 0 < uL s k
    · rw [if_neg (by omega)]
      rw [if_pos (show alv s k = true from decide_eq_true q)] at ho
      exact ho
    · rw [if_pos (by omega)]
      rw [if_neg (show ¬ alv s k = true from fun z => q (of_decide_eq_true z))] at ho
      exact ho) 0 rfl
  subst e
  exact e82 H h _ (hv _ (e82_4 H h _ (if_pos (by omega))))
/-- what all have -/
def sumN (f : Row) : Nat → Int
  | 0 => 0
  | n + 1 => sumN f n + f n
theorem sumN_b {f : Row} {M : Int} (hf : ∀ i, 0 ≤ f i ∧ f i ≤ M) : ∀ n : Nat, 0 ≤ sumN f n ∧ sumN f n ≤ n * M := by
  intro n
  induction n with
  | zero => exact ⟨Int.le_refl _, by simp [sumN]⟩
  | succ n ih =>
    have := hf n
    have e : ((n + 1 : Nat) : Int) * M = n * M + M := by rw [Int.natCast_add, Int.add_mul]; simp
    show 0 ≤ sumN f n + f n ∧ sumN f n + f n ≤ _
    rw [e]
    omega
theorem q83 {a n : Nat} {w : Wd} {s : ST} (H : LR w) (h : (lay a).1 = 8) (hr : RS w a s) (hs : GS n s) : F83 a w = rI (sumN (uL s) 8) w := by
  obtain ⟨v, hv, e⟩ := lpR (F := fun k v => s83_4 a v k w) (I := fun k v => v = sumN (uL s) k) 8 (fun k v hk e => by
    subst e
    refine ⟨_, fun o ho => e83_4 H h _ ?_, rfl⟩
    have h1 := hs.1 k
    have h2 := sumN_b hs.1 k
    rw [if_neg (by omega), gdi (by omega) (by omega), wrd (z := (k : Int) + 1) (by omega) (by omega), nn, hr.1, wrd (by omega) (by omega)]
    exact ho) 0 rfl
  subst e
  exact e83 H h _ (hv _ (e83_4 H h _ (if_pos (by omega))))
theorem q84 {a : Nat} {w : Wd} {s : ST} {P : Nat → Bool} (H : LR w) (h : (lay a).1 = 8) (hr : RS w a s) : F84 a (mk P 8) w = rI (rich (uL s) P 8).1 w := by
  obtain ⟨v, hv, e⟩ := lpR (F := fun k v => s84_7 a (mk P 8) v.1 v.2 k w) (I := fun k v => v = rich (uL s) P k) 8 (fun k v hk e => by
    subst e
    refine ⟨_, fun o ho => e84_7 H h _ ?_, rfl⟩
    rw [if_neg (by omega), wrd (by omega) (by omega), nn, hr.1]
    have e2 : rich (uL s) P (k + 1) = richS (uL s) P k (rich (uL s) P k) := rfl
    rw [e2] at ho
    unfold richS at ho
    by_cases q : P k = true
    · rw [mk_bit_t (by omega) hk q, if_neg (by omega), gdi (by omega) (by omega)]
      by_cases q2 : (rich (uL s) P k).2 < uL s k
      · rw [if_neg (by omega), gdi (by omega) (by omega)]
        rw [if_pos ⟨q, q2⟩] at ho
        exact ho
      · rw [if_pos (by omega)]
        rw [if_neg (fun z => q2 z.2)] at ho
        exact ho
    · rw [mk_bit_f (by omega) (by omega) (by simpa using q), if_pos (by omega)]
      rw [if_neg (fun z => q z.1)] at ho
      exact ho) (-1, -1) rfl
  subst e
  exact e84 H h _ (hv _ (e84_7 H h _ (if_pos (by omega))))
/-- who has least of a set -/
def poorS (f : Row) (P : Nat → Bool) (k : Nat) (a : Int × Int) : Int × Int := if P k = true ∧ f k < a.2 then ((k : Int), f k) else a
def poor (f : Row) (P : Nat → Bool) (n : Nat) : Int × Int := it (poorS f P) n (-1, 1000)
theorem q85 {a : Nat} {w : Wd} {s : ST} {P : Nat → Bool} (H : LR w) (h : (lay a).1 = 8) (hr : RS w a s) : F85 a (mk P 8) w = rI (poor (uL s) P 8).1 w := by
  obtain ⟨v, hv, e⟩ := lpR (F := fun k v => s85_9 a (mk P 8) v.1 v.2 k w) (I := fun k v => v = poor (uL s) P k) 8 (fun k v hk e => by
    subst e
    refine ⟨_, fun o ho => e85_9 H h _ ?_, rfl⟩
    rw [if_neg (by omega), wrd (by omega) (by omega), nn, hr.1]
    have e2 : poor (uL s) P (k + 1) = poorS (uL s) P k (poor (uL s) P k) := rfl
    rw [e2] at ho
    unfold poorS at ho
    by_cases q : P k = true
    · rw [mk_bit_t (by omega) hk q, if_neg (by omega), gdi (by omega) (by omega)]
      by_cases q2 : uL s k < (poor (uL s) P k).2
      · rw [if_neg (by omega), gdi (by omega) (by omega)]
        rw [if_pos ⟨q, q2⟩] at ho
        exact ho
      · rw [if_pos (by omega)]
        rw [if_neg (fun z => q2 z.2)] at ho
        exact ho
    · rw [mk_bit_f (by omega) (by omega) (by simpa using q), if_pos (by omega)]
      rw [if_neg (fun z => q z.1)] at ho
      exact ho) (-1, 1000) rfl
  subst e
  exact e85 H h _ (hv _ (e85_9 H h _ (if_pos (by omega))))
theorem q86 {a p : Nat} {x : Int} {w : Wd} (H : LR w) (h : (lay a).1 = 8) (hp : p < 8) : F86 a p x w = r0 (pI w (a + 1) p x) := by
  refine e86 H h _ ?_
  rw [if_neg (by omega), if_neg (by omega), gdi (by omega) (by omega)]; rfl
theorem q87 {a p : Nat} {x : Int} {w : Wd} (H : LR w) (h : (lay a).1 = 8) (hp : p < 8) : F87 a p x w = r0 (pI w (a + 2) p x) := by
  refine e87 H h _ ?_
  rw [if_neg (by omega), if_neg (by omega), gdi (by omega) (by omega)]; rfl
theorem q87n {a : Nat} {x y : Int} {w : Wd} (H : LR w) (h : (lay a).1 = 8) (hp : y < 0) : F87 a y x w = r0 w := e87 H h _ (if_pos hp)
theorem mk_set {P : Nat → Bool} {p : Nat} (hp : p < 8) : bOr (mk P 8) (bShl 1 p) = mk (fun i => if i = p then true else P i) 8 := by
  rw [mk_one (n := 8) hp (by omega), mk_or (by omega)]
  apply mk_congr
  intro i hi
  by_cases e : i = p
  · simp [e]
  · simp [e]
theorem mk_unset {P : Nat → Bool} {p : Nat} (hp : p < 8) : bAnd (mk P 8) (bXor (bShl 1 p) (-1)) = mk (fun i => if i = p then false else P i) 8 := by
  rw [mk_del (by omega) (by omega)]
  apply mk_congr
  intro i hi
  by_cases e : i = p
  · simp [e]
  · simp [e]
theorem q88 {a p : Nat} {b : Bool} {w : Wd} {s : ST} (H : LR w) (h : (lay a).1 = 8) (hp : p < 8) (hr : RS w a s) : F88 a p (b2i b) w = r0 (pI w a 4 (mk (fun i => if i = p then b else uI s i) 8)) := by
  refine e88 H h _ ?_
  rw [hr.2.2.2.2.1, mk_unset hp, mk_set hp]
  cases b
  · exact if_pos rfl
  · exact if_neg (by decide)
theorem q89 {a p : Nat} {w : Wd} {s : ST} (H : LR w) (h : (lay a).1 = 8) (hp : p < 8) (hr : RS w a s) : F89 a p w = r0 (pI (pI w (a + 3) p 9) a 4 (mk (fun i => if i = p then true else uI s i) 8)) := by
  refine e89 H h _ ?_
  rw [if_neg (by omega), if_neg (by omega), gdi (by omega) (by omega), gI_r (by omega), hr.2.2.2.2.1, mk_set hp]
  rfl
theorem q90 {a p n : Nat} {m : Int} {w : Wd} {s : ST} (H : LR w) (h : (lay a).1 = 8) (hp : p < 8) (hr : RS w a s) (hs : GS n s) (hm : 0 ≤ m ∧ m ≤ 100000) : F90 a p m w = r0 (pI w (a + 1) p (min (uL s p + m) 999)) := by
  refine e90 H h _ ?_
  have := hs.1 p
  rw [if_neg (by omega), if_neg (by omega), gdi (by omega) (by omega), nn, hr.1, wrd (by omega) (by omega), q326 H, bI_r H, gdi (by omega) (by omega)]
theorem q91 {a p n : Nat} {m : Int} {w : Wd} {s : ST} (H : LR w) (h : (lay a).1 = 8) (hp : p < 8) (hr : RS w a s) (hs : GS n s) (hm : 0 ≤ m ∧ m ≤ 100000) : F91 a p m w = rI (min m (uL s p)) (pI (pI w (a + 1) p (uL s p - min m (uL s p))) (a + 4) p (min (uG s p + min m (uL s p)) 9999)) := by
  refine e91 H h _ ?_
  have h1 := hs.1 p
  have h2 := hs.2.2.2.2.1 p
  rw [if_neg (by omega), if_pos (by omega), gdi (by omega) (by omega), nn, hr.1, q326 H, bI_r H]
  rw [gdi (by omega) (by omega), gdi (by omega) (by omega), gdi (by omega) (by omega), gI_r (by omega), hr.1, hr.2.2.2.1, wrd (z := uL s p - min m (uL s p)) (by omega) (by omega), wrd (by omega) (by omega), q326 (w := pI w (a + 1) p (uL s p - min m (uL s p))) H, bI_r (w := pI w (a + 1) p (uL s p - min m (uL s p))) H, gdi (by omega) (by omega)]
theorem RS_L {w : Wd} {a : Nat} {s : ST} {f : Row} (h : RS w a s) : RS (sI w (a + 1) f) a (pL s f) := by
  unfold RS
  simp (disch := omega) only [gI_S, gI_Sr]
  exact ⟨rfl, h.2⟩
theorem RS_W {w : Wd} {a : Nat} {s : ST} {f : Row} (h : RS w a s) : RS (sI w (a + 2) f) a (pW s f) := by
  unfold RS
  simp (disch := omega) only [gI_S, gI_Sr]
  exact ⟨h.1, rfl, h.2.2⟩
theorem RS_M {w : Wd} {a : Nat} {s : ST} {f : Row} (h : RS w a s) : RS (sI w (a + 3) f) a (pM s f) := by
  unfold RS
  simp (disch := omega) only [gI_S, gI_Sr]
  exact ⟨h.1, h.2.1, rfl, h.2.2.2⟩
theorem RS_G {w : Wd} {a : Nat} {s : ST} {f : Row} (h : RS w a s) : RS (sI w (a + 4) f) a (pG s f) := by
  unfold RS
  simp (disch := omega) only [gI_S, gI_Sr]
  exact ⟨h.1, h.2.1, h.2.2.1, rfl, h.2.2.2.2⟩
theorem RS_I {w : Wd} {a : Nat} {s : ST} {f : Nat → Bool} (h : RS w a s) : RS (pI w a 4 (mk f 8)) a (pS s f) := by
  unfold RS
  simp (disch := omega) only [gI_s, gI_c, gI_r]
  exact ⟨h.1, h.2.1, h.2.2.1, h.2.2.2.1, rfl, h.2.2.2.2.2⟩
theorem RS_P {w : Wd} {a : Nat} {s : ST} {b : Bool} (h : RS w a s) : RS (pI w a 5 (b2i b)) a (pP s b) := by
  unfold RS
  simp (disch := omega) only [gI_s, gI_c, gI_r]
  exact ⟨h.1, h.2.1, h.2.2.1, h.2.2.2.1, h.2.2.2.2.1, rfl, h.2.2.2.2.2.2⟩
theorem RS_C {w : Wd} {a : Nat} {s : ST} {c : Int} (h : RS w a s) : RS (pI w a 6 c) a (pC s c) := by
  unfold RS
  simp (disch := omega) only [gI_s, gI_c, gI_r]
  exact ⟨h.1, h.2.1, h.2.2.1, h.2.2.2.1, h.2.2.2.2.1, h.2.2.2.2.2.1, rfl, h.2.2.2.2.2.2.2⟩
theorem RS_T {w : Wd} {a : Nat} {s : ST} {c : Int} (h : RS w a s) : RS (pI w a 7 c) a (pT s c) := by
  unfold RS
  simp (disch := omega) only [gI_s, gI_c, gI_r]
  exact ⟨h.1, h.2.1, h.2.2.1, h.2.2.2.1, h.2.2.2.2.1, h.2.2.2.2.2.1, h.2.2.2.2.2.2.1, rfl⟩
theorem pI_eq {w : Wd} {a i : Nat} {x : Int} {f : Row} (h : gI w a = f) : pI w a i x = sI w a (va_up f i x) := by rw [← h]; rfl
/-- the rows of the state at a -/
def AS (a : Nat) (b : Nat) : Prop := a ≤ b ∧ b ≤ a + 4
theorem q92 {a n : Nat} {w : Wd} {s : ST} (H : LR w) (h : (lay a).1 = 8) (hr : RS w a s) (hs : GS n s) : ∃ w', F92 a w = r0 w' ∧ RS w' a (endS s) ∧ FrI (AS a) w w' := by
  obtain ⟨v, hv, e⟩ := lpR (F := fun k v => s92_2 a k v) (I := fun k v => RS v a (pL s (it dec1 k (uL s))) ∧ FrI (AS a) w v) 8 (fun k v hk e => by
    obtain ⟨er, ef⟩ := e
    have hL : gI v (a + 1) = it dec1 k (uL s) := er.1
    have h1 := hs.1 k
    have h2 : it dec1 k (uL s) k = uL s k := by rw [dec_at, if_neg (by omega)]
    have e0 : it dec1 (k + 1) (uL s) = if 0 < it dec1 k (uL s) k then va_up (it dec1 k (uL s)) k (it dec1 k (uL s) k - 1) else it dec1 k (uL s) := rfl
    by_cases q : 0 < uL s k
    · refine ⟨sI v (a + 1) (it dec1 (k + 1) (uL s)), fun o ho => e92_2 (ef.LR H) h _ ?_, ⟨?_, ef.ss ⟨by omega, by omega⟩⟩⟩
      · rw [if_neg (by omega), gdi (by omega) (by omega), nn, hL, h2, if_neg (by omega), gdi (by omega) (by omega), gdi (by omega) (by omega), wrd (by omega) (by omega), wrd (by omega) (by omega), pI_eq hL]
        rw [e0, if_pos (by omega), h2] at ho
        exact ho
      · exact RS_L (s := pL s (it dec1 k (uL s))) er
    · refine ⟨v, fun o ho => e92_2 (ef.LR H) h _ ?_, ⟨?_, ef⟩⟩
      · rw [if_neg (by omega), gdi (by omega) (by omega), nn, hL, h2, if_pos (by omega), wrd (by omega) (by omega)]
        exact ho
      · rw [e0, if_neg (by omega)]
        exact er) w ⟨hr, FrI.rf⟩
  obtain ⟨er, ef⟩ := e
  have hT : gI v a 7 = uT s := er.2.2.2.2.2.2.2
  have hC : gI v a 6 = uC s := er.2.2.2.2.2.2.1
  have hP : gI v a 5 = b2i (uP s) := er.2.2.2.2.2.1
  obtain ⟨g1, g2, g3, g4, g5, g6, g7, g8⟩ := hs
  have hw : wr (uT s + 1) = uT s + 1 := wrd (by omega) (by omega)
  refine ⟨pI (pI v a 7 (uT s + 1)) a 6 (if uP s then uC s else (uC s + 5) % 60), e92 H h _ (hv _ (e92_2 (ef.LR H) h _ ?_)), RS_C (RS_T er), (ef.pp ⟨by omega, by omega⟩).pp ⟨by omega, by omega⟩⟩
  rw [if_pos (by omega), hT, hw, gI_c (by omega), gI_c (by omega), hP, hC]
  cases hb : uP s
  · rw [if_neg (by decide), wrd (by omega) (by omega), Int.tmod_eq_emod_of_nonneg (by omega), if_neg (by simp)]
  · rw [if_pos (by decide), if_pos rfl]
    have : pI (pI v a 7 (uT s + 1)) a 6 (uC s) = pI v a 7 (uT s + 1) := by
      have e2 : gI (pI v a 7 (uT s + 1)) a 6 = uC s := by rw [gI_c (by omega)]; exact hC
      have e3 : va_up (gI (pI v a 7 (uT s + 1)) a) 6 (uC s) = gI (pI v a 7 (uT s + 1)) a := by
        funext i
        unfold va_up
        split
        · rename_i e; rw [e]; exact e2.symm
        · rfl
      show sI _ a (va_up (gI (pI v a 7 (uT s + 1)) a) 6 (uC s)) = _
      rw [e3, sI_self]
    rw [this]
