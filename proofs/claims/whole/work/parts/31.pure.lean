/-! the port as functions: what class and reference are both held against -/
abbrev Row : Type := Nat → Int
/-- left, watch, mean, given; who stays in; whether stopped, the clock, the step -/
abbrev ST : Type := (Row × Row × Row × Row) × (Nat → Bool) × Bool × Int × Int
def uL (s : ST) : Row := s.1.1
def uW (s : ST) : Row := s.1.2.1
def uM (s : ST) : Row := s.1.2.2.1
def uG (s : ST) : Row := s.1.2.2.2
def uI (s : ST) : Nat → Bool := s.2.1
def uP (s : ST) : Bool := s.2.2.1
def uC (s : ST) : Int := s.2.2.2.1
def uT (s : ST) : Int := s.2.2.2.2
def pL (s : ST) (f : Row) : ST := ((f, s.1.2), s.2)
def pW (s : ST) (f : Row) : ST := ((s.1.1, f, s.1.2.2), s.2)
def pM (s : ST) (f : Row) : ST := ((s.1.1, s.1.2.1, f, s.1.2.2.2), s.2)
def pG (s : ST) (f : Row) : ST := ((s.1.1, s.1.2.1, s.1.2.2.1, f), s.2)
def pS (s : ST) (f : Nat → Bool) : ST := (s.1, f, s.2.2)
def pP (s : ST) (b : Bool) : ST := (s.1, s.2.1, b, s.2.2.2)
def pC (s : ST) (c : Int) : ST := (s.1, s.2.1, s.2.2.1, c, s.2.2.2.2)
def pT (s : ST) (t : Int) : ST := (s.1, s.2.1, s.2.2.1, s.2.2.2.1, t)
/-- people, corners of each at each step, misers, the rules -/
abbrev QT : Type := Nat × (Nat → Nat → Int) × (Nat → Bool) × (Nat × Row) × (Nat × Row) × Nat
def zn (q : QT) : Nat := q.1
def zc (q : QT) : Nat → Nat → Int := q.2.1
def zm (q : QT) : Nat → Bool := q.2.2.1
def za (q : QT) : Nat × Row := q.2.2.2.1
def zs (q : QT) : Nat × Row := q.2.2.2.2.1
def zk (q : QT) : Nat := q.2.2.2.2.2
def b2i (b : Bool) : Int := if b then 1 else 0
def shw (s : ST) (p : Nat) : Int := (uC s + uW s p + 30) % 60
def alv (s : ST) (p : Nat) : Bool := decide (0 < uL s p)
def outs (s : ST) (p : Nat) : Bool := alv s p && !uI s p
/-- who else is at one's corner -/
def oth (Q : QT) (t p r : Nat) : Bool := decide (r < zn Q) && decide (zc Q r t = zc Q p t) && !(r == p)
def cmp (Q : QT) (s : ST) (p r : Nat) : Bool := oth Q (uT s).toNat p r && outs s r
/-- who has most of a set: who, how much -/
def richS (f : Row) (P : Nat → Bool) (k : Nat) (a : Int × Int) : Int × Int := if P k = true ∧ a.2 < f k then ((k : Int), f k) else a
def rich (f : Row) (P : Nat → Bool) (n : Nat) : Int × Int := it (richS f P) n (-1, -1)
/-- rules: what a sign makes of two numbers -/
def jn (c a b : Int) : Int :=
  if c = 106 then (if a ≠ 0 ∨ b ≠ 0 then 1 else 0) else if c = 107 then (if a ≠ 0 ∧ b ≠ 0 then 1 else 0) else if c = 60 then (if a < b then 1 else 0) else if c = 61 then (if a = b then 1 else 0)
  else if c = 43 then wr (a + b) else if c = 45 then wr (a - b) else if c = 42 then wr (a * b) else if b = 0 then 0 else wr (Int.tdiv a b)
def ev1 (val : Int → Int) (c : Int) (st : Nat × Row) : Nat × Row :=
  if c < 0 then (st.1 + 1, va_up st.2 st.1 (-1 - c)) else if 109 ≤ c then (st.1 + 1, va_up st.2 st.1 (val c))
  else if c = 108 then (st.1, va_up st.2 (st.1 - 1) (if st.2 (st.1 - 1) = 0 then 1 else 0)) else (st.1 - 1, va_up st.2 (st.1 - 2) (jn c (st.2 (st.1 - 2)) (st.2 (st.1 - 1))))
def evN (val : Int → Int) (codes : Row) (k : Nat) : Nat × Row := it (fun i st => ev1 val (codes i) st) k (0, fun _ => 0)
def evR (val : Int → Int) (r : Nat × Row) : Int := (evN val r.2 r.1).2 0
/-- how many numbers wait -/
def dp1 (c : Int) (d : Nat) : Nat := if c < 0 ∨ 109 ≤ c then d + 1 else if c = 108 then d else d - 1
def dpN (codes : Row) (k : Nat) : Nat := it (fun i d => dp1 (codes i) d) k 0
def okSg (c : Int) (d : Nat) : Prop := (-10000 ≤ c ∧ c < 0 ∧ d < 40) ∨ (109 ≤ c ∧ c ≤ 115 ∧ d < 40) ∨ (c = 108 ∧ 1 ≤ d ∧ d ≤ 40) ∨ ((c = 106 ∨ c = 107 ∨ c = 60 ∨ c = 61 ∨ c = 43 ∨ c = 45 ∨ c = 42 ∨ c = 47) ∧ 2 ≤ d ∧ d ≤ 40)
def okRule (r : Nat × Row) : Prop := r.1 ≤ 700 ∧ (∀ k, k < r.1 → okSg (r.2 k) (dpN r.2 k)) ∧ (0 < r.1 → dpN r.2 r.1 = 1)
theorem evN_d {val : Int → Int} {codes : Row} : ∀ k, (evN val codes k).1 = dpN codes k := by
  intro k
  induction k with
  | zero => rfl
  | succ k ih =>
    show (ev1 val (codes k) (evN val codes k)).1 = dp1 (codes k) (dpN codes k)
    unfold ev1 dp1
    by_cases h1 : codes k < 0
    · rw [if_pos h1, if_pos (Or.inl h1), ih]
    · rw [if_neg h1]
      by_cases h2 : 109 ≤ codes k
      · rw [if_pos h2, if_pos (Or.inr h2), ih]
      · rw [if_neg h2, if_neg (show ¬ (codes k < 0 ∨ 109 ≤ codes k) by omega)]
        by_cases h3 : codes k = 108
        · rw [if_pos h3, if_pos h3, ih]
        · rw [if_neg h3, if_neg h3, ih]
/-- the values of one who asks, or says -/
def vl (Q : QT) (s : ST) (p to : Nat) (c : Int) : Int :=
  if c = 109 then uL s p else if c = 110 then shw s p else if c = 111 then uM s p else if c = 112 then (cn (fun r => oth Q (uT s).toNat p r && alv s r) 8 : Nat) else if c = 113 then uT s else if c = 114 then uL s to else uG s p
def wnt (Q : QT) (s : ST) (p : Nat) : Bool := if (za Q).1 = 0 then decide (uL s p ≤ 60) else decide (0 < evR (vl Q s p p) (za Q))
def say (Q : QT) (s : ST) (p to : Nat) : Int := if zm Q p then max 0 (shw s p / 15 - uM s p) else if (zs Q).1 = 0 then shw s p else max 0 (min (evR (vl Q s p to) (zs Q)) 59)
def asks (Q : QT) (s : ST) (p : Nat) : Bool := outs s p && !(mk (cmp Q s p) 8 == 0) && wnt Q s p
def whoA (Q : QT) (s : ST) (p : Nat) : Nat := (rich (uL s) (cmp Q s p) 8).1.toNat
def mch (Q : QT) (s : ST) (p : Nat) : Int := min (say Q s (whoA Q s p) p) (uL s (whoA Q s p))
def hnd1 (s : ST) (q : Nat) (m : Int) : ST := pG (pL s (va_up (uL s) q (uL s q - m))) (va_up (uG s) q (min (uG s q + m) 9999))
def rcv (s : ST) (p : Nat) (m : Int) : ST := pL s (va_up (uL s) p (min (uL s p + m) 999))
def oneA (Q : QT) (p : Nat) (s : ST) : ST := if asks Q s p then rcv (hnd1 s (whoA Q s p) (mch Q s p)) p (mch Q s p) else s
def sg (Q : QT) (s : ST) (k : Nat) : ST := it (oneA Q) k s
/-- whom each asks in the step, and how much is given -/
def WH (Q : QT) (s : ST) (p : Nat) : Int := if asks Q (sg Q s p) p then (whoA Q (sg Q s p) p : Int) else -1
def MU (Q : QT) (s : ST) (p : Nat) : Int := if asks Q (sg Q s p) p then mch Q (sg Q s p) p else 0
def dec1 (k : Nat) (f : Row) : Row := if 0 < f k then va_up f k (f k - 1) else f
def endS (s : ST) : ST := pC (pT (pL s (it dec1 8 (uL s))) (uT s + 1)) (if uP s then uC s else (uC s + 5) % 60)
def stq (Q : QT) (s : ST) : ST := endS (sg Q s (zn Q))
def goN (Q : QT) (s : ST) (k : Nat) : ST := it (fun _ s => stq Q s) k s
/-- what holds of every state that comes about -/
def GS (n : Nat) (s : ST) : Prop := (∀ p, 0 ≤ uL s p ∧ uL s p ≤ 999) ∧ (∀ p, n ≤ p → uL s p = 0) ∧ (∀ p, 0 ≤ uW s p ∧ uW s p < 60) ∧ (∀ p, 0 ≤ uM s p ∧ uM s p ≤ 9) ∧ (∀ p, 0 ≤ uG s p ∧ uG s p ≤ 9999) ∧ (0 ≤ uC s ∧ uC s < 60) ∧ 0 ≤ uT s ∧ uT s ≤ 100000
def GQ (Q : QT) : Prop := zn Q ≤ 8 ∧ (∀ p t, 0 ≤ zc Q p t ∧ zc Q p t < zk Q) ∧ okRule (za Q) ∧ okRule (zs Q) ∧ 2 ≤ zk Q ∧ zk Q ≤ 6
theorem shw_b (s : ST) (p : Nat) : 0 ≤ shw s p ∧ shw s p < 60 := by unfold shw; omega
/-! who has most -/
theorem rich_in {f : Row} {P : Nat → Bool} (hf : ∀ p, 0 ≤ f p) : ∀ n, ((rich f P n).1 = -1 ∧ (rich f P n).2 = -1 ∧ ∀ i, i < n → P i = false) ∨ (∃ q : Nat, q < n ∧ (rich f P n).1 = q ∧ (rich f P n).2 = f q ∧ P q = true ∧ 0 ≤ f q) := by
  intro n
  induction n with
  | zero => exact Or.inl ⟨rfl, rfl, fun i h => absurd h (by omega)⟩
  | succ n ih =>
    have e : rich f P (n + 1) = richS f P n (rich f P n) := rfl
    rw [e]
    unfold richS
    by_cases h : P n = true ∧ (rich f P n).2 < f n
    · rw [if_pos h]
      exact Or.inr ⟨n, by omega, rfl, rfl, h.1, hf n⟩
    · rw [if_neg h]
      rcases ih with ⟨h1, h2, h3⟩ | ⟨q, h1, h2, h3, h4, h5⟩
      · refine Or.inl ⟨h1, h2, fun i hi => ?_⟩
        rcases Nat.lt_or_ge i n with q | q
        · exact h3 i q
        · have : i = n := by omega
          subst this
          cases hp : P i
          · rfl
          · exact absurd ⟨hp, by rw [h2]; have := hf i; omega⟩ h
      · exact Or.inr ⟨q, by omega, h2, h3, h4, h5⟩
theorem rich_some {f : Row} {P : Nat → Bool} {n : Nat} (hf : ∀ p, 0 ≤ f p) (h : mk P n ≠ 0) : ∃ q : Nat, q < n ∧ (rich f P n).1 = q ∧ P q = true := by
  rcases rich_in (P := P) hf n with ⟨-, -, h3⟩ | ⟨q, h1, h2, -, h4, -⟩
  · exact absurd (mk_eq0.mpr h3) h
  · exact ⟨q, h1, h2, h4⟩
theorem whoA_ok {Q : QT} {s : ST} {p : Nat} {n : Nat} (hs : GS n s) (h : mk (cmp Q s p) 8 ≠ 0) : (rich (uL s) (cmp Q s p) 8).1 = (whoA Q s p : Int) ∧ whoA Q s p < 8 ∧ cmp Q s p (whoA Q s p) = true := by
  obtain ⟨q, h1, h2, h3⟩ := rich_some (fun p => (hs.1 p).1) h
  unfold whoA
  rw [h2]
  exact ⟨rfl, h1, h3⟩
theorem say_b (Q : QT) (s : ST) (p to : Nat) : 0 ≤ say Q s p to := by
  unfold say
  split
  · omega
  · split
    · exact (shw_b s p).1
    · omega
theorem cmp_in {Q : QT} {s : ST} {p r : Nat} (h : cmp Q s p r = true) : r < zn Q ∧ r ≠ p ∧ 0 < uL s r ∧ uI s r = false := by
  unfold cmp oth outs alv at h
  simp only [Bool.and_eq_true, decide_eq_true_eq, Bool.not_eq_true', beq_eq_false_iff_ne] at h
  exact ⟨h.1.1.1, h.1.2, h.2.1, h.2.2⟩
theorem asks_in {Q : QT} {s : ST} {p : Nat} (h : asks Q s p = true) : 0 < uL s p ∧ uI s p = false ∧ mk (cmp Q s p) 8 ≠ 0 ∧ wnt Q s p = true := by
  unfold asks outs alv at h
  simp only [Bool.and_eq_true, decide_eq_true_eq, Bool.not_eq_true', beq_eq_false_iff_ne] at h
  exact ⟨h.1.1.1, h.1.1.2, h.1.2, h.2⟩
theorem mch_b {Q : QT} {s : ST} {p n : Nat} (hs : GS n s) : 0 ≤ mch Q s p ∧ mch Q s p ≤ uL s (whoA Q s p) := by
  unfold mch
  have h1 := say_b Q s (whoA Q s p) p
  have h2 := hs.1 (whoA Q s p)
  omega
theorem GS_one {Q : QT} {s : ST} {p : Nat} (hp : p < zn Q) (hs : GS (zn Q) s) : GS (zn Q) (oneA Q p s) := by
  unfold oneA
  by_cases ha : asks Q s p = true
  · rw [if_pos ha]
    obtain ⟨a1, a2, a3, a4⟩ := asks_in ha
    obtain ⟨h1, h2, h3⟩ := whoA_ok hs a3
    obtain ⟨c1, c2, c3, c4⟩ := cmp_in h3
    obtain ⟨m1, m2⟩ := mch_b (Q := Q) (p := p) hs
    obtain ⟨g1, g2, g3, g4, g5, g6, g7, g8⟩ := hs
    generalize mch Q s p = m at *
    generalize whoA Q s p = q at *
    refine ⟨fun i => ?_, fun i hi => ?_, g3, g4, fun i => ?_, g6, g7, g8⟩
    · show 0 ≤ va_up (va_up (uL s) q (uL s q - m)) p (min (va_up (uL s) q (uL s q - m) p + m) 999) i ∧ va_up (va_up (uL s) q (uL s q - m)) p (min (va_up (uL s) q (uL s q - m) p + m) 999) i ≤ 999
      have q1 := g1 q
      have q2 := g1 p
      have q3 := g1 i
      unfold va_up
      rw [if_neg (show ¬ p = q from fun e => c2 e.symm)]
      split
      · omega
      · split <;> omega
    · show va_up (va_up (uL s) q (uL s q - m)) p (min (va_up (uL s) q (uL s q - m) p + m) 999) i = 0
      rw [up_c (by omega), up_c (by omega)]
      exact g2 i hi
    · show 0 ≤ va_up (uG s) q (min (uG s q + m) 9999) i ∧ va_up (uG s) q (min (uG s q + m) 9999) i ≤ 9999
      have q1 := g5 q
      have q3 := g5 i
      unfold va_up
      split <;> omega
  · rw [if_neg ha]; exact hs
theorem GS_sg {Q : QT} {s : ST} (hs : GS (zn Q) s) : ∀ k, k ≤ zn Q → GS (zn Q) (sg Q s k) := by
  intro k
  induction k with
  | zero => intro _; exact hs
  | succ k ih => intro hk; exact GS_one (by omega) (ih (by omega))
theorem sg_same {Q : QT} {s : ST} : ∀ k, uW (sg Q s k) = uW s ∧ uM (sg Q s k) = uM s ∧ uI (sg Q s k) = uI s ∧ uP (sg Q s k) = uP s ∧ uC (sg Q s k) = uC s ∧ uT (sg Q s k) = uT s := by
  intro k
  induction k with
  | zero => exact ⟨rfl, rfl, rfl, rfl, rfl, rfl⟩
  | succ k ih =>
    have e : sg Q s (k + 1) = oneA Q k (sg Q s k) := rfl
    rw [e]
    unfold oneA
    split
    · exact ih
    · exact ih
theorem dec_at {f : Row} : ∀ (n i : Nat), it dec1 n f i = if i < n ∧ 0 < f i then f i - 1 else f i := by
  intro n
  induction n with
  | zero => intro i; rw [if_neg (by omega)]; rfl
  | succ n ih =>
    intro i
    have e0 : it dec1 (n + 1) f = if 0 < it dec1 n f n then va_up (it dec1 n f) n (it dec1 n f n - 1) else it dec1 n f := rfl
    rw [e0]
    have hn := ih n
    rw [if_neg (by omega)] at hn
    rw [hn]
    by_cases h : 0 < f n
    · rw [if_pos h]
      by_cases e : i = n
      · subst e; rw [up_s, if_pos ⟨by omega, h⟩]
      · rw [up_c e, ih i]
        by_cases h2 : i < n
        · by_cases h3 : 0 < f i
          · rw [if_pos ⟨h2, h3⟩, if_pos ⟨by omega, h3⟩]
          · rw [if_neg (by omega), if_neg (by omega)]
        · rw [if_neg (by omega), if_neg (by omega)]
    · rw [if_neg h, ih i]
      by_cases e : i = n
      · subst e; rw [if_neg (by omega), if_neg (by omega)]
      · by_cases h2 : i < n ∧ 0 < f i
        · rw [if_pos h2, if_pos ⟨by omega, h2.2⟩]
        · rw [if_neg h2, if_neg (by omega)]
theorem GS_end {n : Nat} {s : ST} (hs : GS n s) (ht : uT s < 100000) : GS n (endS s) := by
  obtain ⟨g1, g2, g3, g4, g5, g6, g7, g8⟩ := hs
  refine ⟨fun i => ?_, fun i hi => ?_, g3, g4, g5, ?_, ?_, ?_⟩
  · show 0 ≤ it dec1 8 (uL s) i ∧ it dec1 8 (uL s) i ≤ 999
    rw [dec_at]
    have := g1 i
    split <;> omega
  · show it dec1 8 (uL s) i = 0
    rw [dec_at, g2 i hi]
    simp
  · show 0 ≤ (if uP s then uC s else (uC s + 5) % 60) ∧ (if uP s then uC s else (uC s + 5) % 60) < 60
    split <;> omega
  · show 0 ≤ uT s + 1
    omega
  · show uT s + 1 ≤ 100000
    omega
theorem stq_T {Q : QT} {s : ST} : uT (stq Q s) = uT s + 1 := by
  show uT (sg Q s (zn Q)) + 1 = _
  rw [(sg_same (zn Q)).2.2.2.2.2]
theorem goN_T {Q : QT} {s : ST} : ∀ k : Nat, uT (goN Q s k) = uT s + k := by
  intro k
  induction k with
  | zero => show uT s = uT s + ((0 : Nat) : Int); omega
  | succ k ih =>
    have e : goN Q s (k + 1) = stq Q (goN Q s k) := rfl
    rw [e, stq_T, ih]; omega
theorem GS_stq {Q : QT} {s : ST} (hs : GS (zn Q) s) (ht : uT s < 100000) : GS (zn Q) (stq Q s) := by
  refine GS_end (GS_sg hs _ (Nat.le_refl _)) ?_
  rw [(sg_same (zn Q)).2.2.2.2.2]; exact ht
theorem GS_goN {Q : QT} {s : ST} (hs : GS (zn Q) s) : ∀ k : Nat, uT s + k ≤ 100000 → GS (zn Q) (goN Q s k) := by
  intro k
  induction k with
  | zero => intro _; exact hs
  | succ k ih =>
    intro hk
    have e := goN_T (Q := Q) (s := s) k
    exact GS_stq (s := goN Q s k) (ih (by omega)) (by omega)
theorem goN_s {Q : QT} {s : ST} {k : Nat} : goN Q s (k + 1) = stq Q (goN Q s k) := rfl
theorem goN_same {Q : QT} {s : ST} : ∀ k, uW (goN Q s k) = uW s ∧ uM (goN Q s k) = uM s ∧ uI (goN Q s k) = uI s ∧ uP (goN Q s k) = uP s := by
  intro k
  induction k with
  | zero => exact ⟨rfl, rfl, rfl, rfl⟩
  | succ k ih =>
    obtain ⟨h1, h2, h3, h4, -, -⟩ := sg_same (Q := Q) (s := goN Q s k) (zn Q)
    exact ⟨h1.trans ih.1, h2.trans ih.2.1, h3.trans ih.2.2.1, h4.trans ih.2.2.2⟩
/-- who is spent stays so -/
theorem spent_one {Q : QT} {s : ST} {p k : Nat} (hs : GS (zn Q) s) (h : uL s p = 0) : uL (oneA Q k s) p = 0 := by
  unfold oneA
  by_cases ha : asks Q s k = true
  · rw [if_pos ha]
    obtain ⟨a1, a2, a3, a4⟩ := asks_in ha
    obtain ⟨h1, h2, h3⟩ := whoA_ok hs a3
    obtain ⟨c1, c2, c3, c4⟩ := cmp_in h3
    show va_up (va_up (uL s) (whoA Q s k) _) k _ p = 0
    rw [up_c (fun e => by subst e; omega), up_c (fun e => by subst e; omega)]
    exact h
  · rw [if_neg ha]; exact h
theorem spent_sg {Q : QT} {s : ST} {p : Nat} (hs : GS (zn Q) s) (h : uL s p = 0) : ∀ k, k ≤ zn Q → uL (sg Q s k) p = 0 := by
  intro k
  induction k with
  | zero => intro _; exact h
  | succ k ih => intro hk; exact spent_one (GS_sg hs k (by omega)) (ih (by omega))
theorem spent_stq {Q : QT} {s : ST} {p : Nat} (hs : GS (zn Q) s) (h : uL s p = 0) : uL (stq Q s) p = 0 := by
  show it dec1 8 (uL (sg Q s (zn Q))) p = 0
  rw [dec_at, spent_sg hs h _ (Nat.le_refl _)]
  simp
theorem spent_goN {Q : QT} {s : ST} {p : Nat} (hs : GS (zn Q) s) (h : uL s p = 0) : ∀ k : Nat, uT s + k ≤ 100000 → uL (goN Q s k) p = 0 := by
  intro k
  induction k with
  | zero => intro _; exact h
  | succ k ih => intro hk; exact spent_stq (GS_goN hs k (by omega)) (ih (by omega))
theorem goN_add {Q : QT} {s : ST} (j : Nat) : ∀ k, goN Q s (j + k) = goN Q (goN Q s j) k := by
  intro k
  induction k with
  | zero => rfl
  | succ k ih => rw [← Nat.add_assoc, goN_s, goN_s, ih]
