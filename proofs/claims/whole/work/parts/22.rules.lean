/-! the evaluator's equations, an opcode each: for the printed walks of the methods -/
def gd (c : Bool) (x : Option Out) : Option Out := if c = true then x else none
theorem gd_t {c : Bool} {x : Option Out} (h : c = true) : gd c x = x := if_pos h
section RULES
variable {mi r pc len p t : Nat} {c : ByteArray} {i : Instr} {L L' : List (Option AV)} {S : List AV} {w : Wd} {x y z : Int} {a b k n : Nat} {v u : AV}
theorem v_next {S' : List AV} {w' : Wd} (hm : mB mi = c) (hd : decode c pc = .ok (i, len)) (hp : pc + len = p) (he : exec1 mi i len pc L S w = some (.inl (pc + len, L', S', w'))) : val mi r (pc, L, S, w) = val mi r (p, L', S', w') := by
  subst hm; subst hp
  exact val_next hd he
theorem v_push (v : AV) (p : Nat) (hm : mB mi = c) (hd : decode c pc = .ok (i, len)) (hp : pc + len = p) (he : exec1 mi i len pc L S w = some (.inl (pc + len, L, v :: S, w))) : val mi r (pc, L, S, w) = val mi r (p, L, v :: S, w) := v_next hm hd hp he
theorem v_ist (L' : List (Option AV)) (p : Nat) (hm : mB mi = c) (hd : decode c pc = .ok (i, len)) (hp : pc + len = p) (he : exec1 mi i len pc L (v :: S) w = some (.inl (pc + len, L', S, w))) : val mi r (pc, L, v :: S, w) = val mi r (p, L', S, w) := v_next hm hd hp he
theorem v_inc (L' : List (Option AV)) (p : Nat) (hm : mB mi = c) (hd : decode c pc = .ok (i, len)) (hp : pc + len = p) (he : exec1 mi i len pc L S w = some (.inl (pc + len, L', S, w))) : val mi r (pc, L, S, w) = val mi r (p, L', S, w) := v_next hm hd hp he
theorem v_iadd (p : Nat) (hm : mB mi = c) (hd : decode c pc = .ok (.iadd, 1)) (hp : pc + 1 = p) : val mi r (pc, L, aI y :: aI x :: S, w) = val mi r (p, L, aI (wr (x + y)) :: S, w) := v_next hm hd hp rfl
theorem v_isub (p : Nat) (hm : mB mi = c) (hd : decode c pc = .ok (.isub, 1)) (hp : pc + 1 = p) : val mi r (pc, L, aI y :: aI x :: S, w) = val mi r (p, L, aI (wr (x - y)) :: S, w) := v_next hm hd hp rfl
theorem v_imul (p : Nat) (hm : mB mi = c) (hd : decode c pc = .ok (.imul, 1)) (hp : pc + 1 = p) : val mi r (pc, L, aI y :: aI x :: S, w) = val mi r (p, L, aI (wr (x * y)) :: S, w) := v_next hm hd hp rfl
theorem v_iand (p : Nat) (hm : mB mi = c) (hd : decode c pc = .ok (.iand, 1)) (hp : pc + 1 = p) : val mi r (pc, L, aI y :: aI x :: S, w) = val mi r (p, L, aI (bAnd x y) :: S, w) := v_next hm hd hp rfl
theorem v_ior (p : Nat) (hm : mB mi = c) (hd : decode c pc = .ok (.ior, 1)) (hp : pc + 1 = p) : val mi r (pc, L, aI y :: aI x :: S, w) = val mi r (p, L, aI (bOr x y) :: S, w) := v_next hm hd hp rfl
theorem v_ixor (p : Nat) (hm : mB mi = c) (hd : decode c pc = .ok (.ixor, 1)) (hp : pc + 1 = p) : val mi r (pc, L, aI y :: aI x :: S, w) = val mi r (p, L, aI (bXor x y) :: S, w) := v_next hm hd hp rfl
theorem v_ishl (p : Nat) (hm : mB mi = c) (hd : decode c pc = .ok (.ishl, 1)) (hp : pc + 1 = p) : val mi r (pc, L, aI y :: aI x :: S, w) = val mi r (p, L, aI (bShl x y) :: S, w) := v_next hm hd hp rfl
theorem v_ishr (p : Nat) (hm : mB mi = c) (hd : decode c pc = .ok (.ishr, 1)) (hp : pc + 1 = p) : val mi r (pc, L, aI y :: aI x :: S, w) = val mi r (p, L, aI (bShr x y) :: S, w) := v_next hm hd hp rfl
theorem v_iushr (p : Nat) (hm : mB mi = c) (hd : decode c pc = .ok (.iushr, 1)) (hp : pc + 1 = p) : val mi r (pc, L, aI y :: aI x :: S, w) = val mi r (p, L, aI (bUshr x y) :: S, w) := v_next hm hd hp rfl
theorem v_ineg (p : Nat) (hm : mB mi = c) (hd : decode c pc = .ok (.ineg, 1)) (hp : pc + 1 = p) : val mi r (pc, L, aI x :: S, w) = val mi r (p, L, aI (wr (-x)) :: S, w) := v_next hm hd hp rfl
theorem v_i2b (p : Nat) (hm : mB mi = c) (hd : decode c pc = .ok (.i2b, 1)) (hp : pc + 1 = p) : val mi r (pc, L, aI x :: S, w) = val mi r (p, L, aI (bI2b x) :: S, w) := v_next hm hd hp rfl
theorem v_i2c (p : Nat) (hm : mB mi = c) (hd : decode c pc = .ok (.i2c, 1)) (hp : pc + 1 = p) : val mi r (pc, L, aI x :: S, w) = val mi r (p, L, aI (bI2c x) :: S, w) := v_next hm hd hp rfl
theorem v_i2l (p : Nat) (hm : mB mi = c) (hd : decode c pc = .ok (.i2l, 1)) (hp : pc + 1 = p) : val mi r (pc, L, aI x :: S, w) = val mi r (p, L, aL x :: S, w) := v_next hm hd hp rfl
theorem v_land (p : Nat) (hm : mB mi = c) (hd : decode c pc = .ok (.land, 1)) (hp : pc + 1 = p) : val mi r (pc, L, aL y :: aL x :: S, w) = val mi r (p, L, aL (lAnd x y) :: S, w) := v_next hm hd hp rfl
theorem v_lor (p : Nat) (hm : mB mi = c) (hd : decode c pc = .ok (.lor, 1)) (hp : pc + 1 = p) : val mi r (pc, L, aL y :: aL x :: S, w) = val mi r (p, L, aL (lOr x y) :: S, w) := v_next hm hd hp rfl
theorem v_lshl (p : Nat) (hm : mB mi = c) (hd : decode c pc = .ok (.lshl, 1)) (hp : pc + 1 = p) : val mi r (pc, L, aI y :: aL x :: S, w) = val mi r (p, L, aL (lShl x y) :: S, w) := v_next hm hd hp rfl
theorem v_lcmp (p : Nat) (hm : mB mi = c) (hd : decode c pc = .ok (.lcmp, 1)) (hp : pc + 1 = p) : val mi r (pc, L, aL y :: aL x :: S, w) = val mi r (p, L, aI (lCmp x y) :: S, w) := v_next hm hd hp rfl
theorem v_dupI (p : Nat) (hm : mB mi = c) (hd : decode c pc = .ok (.dup, 1)) (hp : pc + 1 = p) : val mi r (pc, L, aI x :: S, w) = val mi r (p, L, aI x :: aI x :: S, w) := v_next hm hd hp rfl
theorem v_popI (p : Nat) (hm : mB mi = c) (hd : decode c pc = .ok (.pop, 1)) (hp : pc + 1 = p) : val mi r (pc, L, aI x :: S, w) = val mi r (p, L, S, w) := v_next hm hd hp rfl
theorem v_dupR {q : Option Nat} (p : Nat) (hm : mB mi = c) (hd : decode c pc = .ok (.dup, 1)) (hp : pc + 1 = p) : val mi r (pc, L, aR q :: S, w) = val mi r (p, L, aR q :: aR q :: S, w) := v_next hm hd hp rfl
theorem v_popR {q : Option Nat} (p : Nat) (hm : mB mi = c) (hd : decode c pc = .ok (.pop, 1)) (hp : pc + 1 = p) : val mi r (pc, L, aR q :: S, w) = val mi r (p, L, S, w) := v_next hm hd hp rfl
theorem v_dup2IR {q : Option Nat} (p : Nat) (hm : mB mi = c) (hd : decode c pc = .ok (.dup2, 1)) (hp : pc + 1 = p) : val mi r (pc, L, aI x :: aR q :: S, w) = val mi r (p, L, aI x :: aR q :: aI x :: aR q :: S, w) := v_next hm hd hp rfl
theorem v_idiv (p : Nat) (hm : mB mi = c) (hd : decode c pc = .ok (.idiv, 1)) (hp : pc + 1 = p) (hy : y ≠ 0) : val mi r (pc, L, aI y :: aI x :: S, w) = val mi r (p, L, aI (wr (Int.tdiv x y)) :: S, w) := v_next hm hd hp (by
  show (st2g _ (.inl y :: .inl x :: S)).map _ = _
  simp only [st2g, if_neg hy]
  rfl)
theorem v_irem (p : Nat) (hm : mB mi = c) (hd : decode c pc = .ok (.irem, 1)) (hp : pc + 1 = p) (hy : y ≠ 0) : val mi r (pc, L, aI y :: aI x :: S, w) = val mi r (p, L, aI (Int.tmod x y) :: S, w) := v_next hm hd hp (by
  show (st2g _ (.inl y :: .inl x :: S)).map _ = _
  simp only [st2g, if_neg hy]
  rfl)
theorem v_goto (p : Nat) {off : Int} (hm : mB mi = c) (hd : decode c pc = .ok (.goto off, 3)) (hj : jmp pc off = some p) : val mi r (pc, L, S, w) = val mi r (p, L, S, w) := by
  subst hm
  refine val_next hd ?_
  show exJ pc off L S w = _
  unfold exJ; rw [hj]; rfl
theorem v_icmp_eq (t p : Nat) {off : Int} (hm : mB mi = c) (hd : decode c pc = .ok (.if_icmp .eq off, 3)) (hj : jmp pc off = some t) (hp : pc + 3 = p) : val mi r (pc, L, aI y :: aI x :: S, w) = if x = y then val mi r (t, L, S, w) else val mi r (p, L, S, w) := by
  subst hm; subst hp
  have h : val mi r (pc, L, aI y :: aI x :: S, w) = val mi r (if decide (x = y) then t else pc + 3, L, S, w) := val_next hd (by
    show exIf 3 pc off L S w (decide (x = y)) = _
    unfold exIf; rw [hj]; rfl)
  rw [h]
  by_cases q : x = y
  · simp [q]
  · simp [q]
theorem v_if_eq (t p : Nat) {off : Int} (hm : mB mi = c) (hd : decode c pc = .ok (.ifCond .eq off, 3)) (hj : jmp pc off = some t) (hp : pc + 3 = p) : val mi r (pc, L, aI x :: S, w) = if x = 0 then val mi r (t, L, S, w) else val mi r (p, L, S, w) := by
  subst hm; subst hp
  have h : val mi r (pc, L, aI x :: S, w) = val mi r (if decide (x = 0) then t else pc + 3, L, S, w) := val_next hd (by
    show exIf 3 pc off L S w (decide (x = 0)) = _
    unfold exIf; rw [hj]; rfl)
  rw [h]
  by_cases q : x = 0
  · simp [q]
  · simp [q]
theorem v_icmp_ne (t p : Nat) {off : Int} (hm : mB mi = c) (hd : decode c pc = .ok (.if_icmp .ne off, 3)) (hj : jmp pc off = some t) (hp : pc + 3 = p) : val mi r (pc, L, aI y :: aI x :: S, w) = if x ≠ y then val mi r (t, L, S, w) else val mi r (p, L, S, w) := by
  subst hm; subst hp
  have h : val mi r (pc, L, aI y :: aI x :: S, w) = val mi r (if decide (x ≠ y) then t else pc + 3, L, S, w) := val_next hd (by
    show exIf 3 pc off L S w (decide (x ≠ y)) = _
    unfold exIf; rw [hj]; rfl)
  rw [h]
  by_cases q : x ≠ y
  · simp [q]
  · simp [q]
theorem v_if_ne (t p : Nat) {off : Int} (hm : mB mi = c) (hd : decode c pc = .ok (.ifCond .ne off, 3)) (hj : jmp pc off = some t) (hp : pc + 3 = p) : val mi r (pc, L, aI x :: S, w) = if x ≠ 0 then val mi r (t, L, S, w) else val mi r (p, L, S, w) := by
  subst hm; subst hp
  have h : val mi r (pc, L, aI x :: S, w) = val mi r (if decide (x ≠ 0) then t else pc + 3, L, S, w) := val_next hd (by
    show exIf 3 pc off L S w (decide (x ≠ 0)) = _
    unfold exIf; rw [hj]; rfl)
  rw [h]
  by_cases q : x ≠ 0
  · simp [q]
  · simp [q]
theorem v_icmp_lt (t p : Nat) {off : Int} (hm : mB mi = c) (hd : decode c pc = .ok (.if_icmp .lt off, 3)) (hj : jmp pc off = some t) (hp : pc + 3 = p) : val mi r (pc, L, aI y :: aI x :: S, w) = if x < y then val mi r (t, L, S, w) else val mi r (p, L, S, w) := by
  subst hm; subst hp
  have h : val mi r (pc, L, aI y :: aI x :: S, w) = val mi r (if decide (x < y) then t else pc + 3, L, S, w) := val_next hd (by
    show exIf 3 pc off L S w (decide (x < y)) = _
    unfold exIf; rw [hj]; rfl)
  rw [h]
  by_cases q : x < y
  · simp [q]
  · simp [q]
theorem v_if_lt (t p : Nat) {off : Int} (hm : mB mi = c) (hd : decode c pc = .ok (.ifCond .lt off, 3)) (hj : jmp pc off = some t) (hp : pc + 3 = p) : val mi r (pc, L, aI x :: S, w) = if x < 0 then val mi r (t, L, S, w) else val mi r (p, L, S, w) := by
  subst hm; subst hp
  have h : val mi r (pc, L, aI x :: S, w) = val mi r (if decide (x < 0) then t else pc + 3, L, S, w) := val_next hd (by
    show exIf 3 pc off L S w (decide (x < 0)) = _
    unfold exIf; rw [hj]; rfl)
  rw [h]
  by_cases q : x < 0
  · simp [q]
  · simp [q]
theorem v_icmp_ge (t p : Nat) {off : Int} (hm : mB mi = c) (hd : decode c pc = .ok (.if_icmp .ge off, 3)) (hj : jmp pc off = some t) (hp : pc + 3 = p) : val mi r (pc, L, aI y :: aI x :: S, w) = if y ≤ x then val mi r (t, L, S, w) else val mi r (p, L, S, w) := by
  subst hm; subst hp
  have h : val mi r (pc, L, aI y :: aI x :: S, w) = val mi r (if decide (y ≤ x) then t else pc + 3, L, S, w) := val_next hd (by
    show exIf 3 pc off L S w (decide (y ≤ x)) = _
    unfold exIf; rw [hj]; rfl)
  rw [h]
  by_cases q : y ≤ x
  · simp [q]
  · simp [q]
theorem v_if_ge (t p : Nat) {off : Int} (hm : mB mi = c) (hd : decode c pc = .ok (.ifCond .ge off, 3)) (hj : jmp pc off = some t) (hp : pc + 3 = p) : val mi r (pc, L, aI x :: S, w) = if 0 ≤ x then val mi r (t, L, S, w) else val mi r (p, L, S, w) := by
  subst hm; subst hp
  have h : val mi r (pc, L, aI x :: S, w) = val mi r (if decide (0 ≤ x) then t else pc + 3, L, S, w) := val_next hd (by
    show exIf 3 pc off L S w (decide (0 ≤ x)) = _
    unfold exIf; rw [hj]; rfl)
  rw [h]
  by_cases q : 0 ≤ x
  · simp [q]
  · simp [q]
theorem v_icmp_gt (t p : Nat) {off : Int} (hm : mB mi = c) (hd : decode c pc = .ok (.if_icmp .gt off, 3)) (hj : jmp pc off = some t) (hp : pc + 3 = p) : val mi r (pc, L, aI y :: aI x :: S, w) = if y < x then val mi r (t, L, S, w) else val mi r (p, L, S, w) := by
  subst hm; subst hp
  have h : val mi r (pc, L, aI y :: aI x :: S, w) = val mi r (if decide (y < x) then t else pc + 3, L, S, w) := val_next hd (by
    show exIf 3 pc off L S w (decide (y < x)) = _
    unfold exIf; rw [hj]; rfl)
  rw [h]
  by_cases q : y < x
  · simp [q]
  · simp [q]
theorem v_if_gt (t p : Nat) {off : Int} (hm : mB mi = c) (hd : decode c pc = .ok (.ifCond .gt off, 3)) (hj : jmp pc off = some t) (hp : pc + 3 = p) : val mi r (pc, L, aI x :: S, w) = if 0 < x then val mi r (t, L, S, w) else val mi r (p, L, S, w) := by
  subst hm; subst hp
  have h : val mi r (pc, L, aI x :: S, w) = val mi r (if decide (0 < x) then t else pc + 3, L, S, w) := val_next hd (by
    show exIf 3 pc off L S w (decide (0 < x)) = _
    unfold exIf; rw [hj]; rfl)
  rw [h]
  by_cases q : 0 < x
  · simp [q]
  · simp [q]
theorem v_icmp_le (t p : Nat) {off : Int} (hm : mB mi = c) (hd : decode c pc = .ok (.if_icmp .le off, 3)) (hj : jmp pc off = some t) (hp : pc + 3 = p) : val mi r (pc, L, aI y :: aI x :: S, w) = if x ≤ y then val mi r (t, L, S, w) else val mi r (p, L, S, w) := by
  subst hm; subst hp
  have h : val mi r (pc, L, aI y :: aI x :: S, w) = val mi r (if decide (x ≤ y) then t else pc + 3, L, S, w) := val_next hd (by
    show exIf 3 pc off L S w (decide (x ≤ y)) = _
    unfold exIf; rw [hj]; rfl)
  rw [h]
  by_cases q : x ≤ y
  · simp [q]
  · simp [q]
theorem v_if_le (t p : Nat) {off : Int} (hm : mB mi = c) (hd : decode c pc = .ok (.ifCond .le off, 3)) (hj : jmp pc off = some t) (hp : pc + 3 = p) : val mi r (pc, L, aI x :: S, w) = if x ≤ 0 then val mi r (t, L, S, w) else val mi r (p, L, S, w) := by
  subst hm; subst hp
  have h : val mi r (pc, L, aI x :: S, w) = val mi r (if decide (x ≤ 0) then t else pc + 3, L, S, w) := val_next hd (by
    show exIf 3 pc off L S w (decide (x ≤ 0)) = _
    unfold exIf; rw [hj]; rfl)
  rw [h]
  by_cases q : x ≤ 0
  · simp [q]
  · simp [q]
/-- fields and places -/
theorem v_getI (p : Nat) {ix ci k q1 q2 : Nat} (hm : mB mi = c) (hd : decode c pc = .ok (.getfield ix, 3)) (hp : pc + 3 = p) (hf : fres (mOwn mi) ix = some (ix, ci, k, q1, q2)) (hk : (ci == 50 || (fk ci k).1 == 2) = false) (hl : (lay a).1 = ci) : val mi r (pc, L, aR (some a) :: S, w) = val mi r (p, L, aI (gI w a k) :: S, w) := v_next hm hd hp (by
  show (Option.map (· :: S) (fGet mi ix w a)).map _ = _
  have h1 : ¬ ci = 50 := by intro q; subst q; simp at hk
  have h2 : ¬ (fk ci k).1 = 2 := by intro q; simp [q] at hk
  unfold fGet
  rw [hf]
  simp only [if_neg h1, if_pos hl, if_neg h2]
  rfl)
theorem v_getQ (p : Nat) {ix ci k q1 q2 : Nat} (hm : mB mi = c) (hd : decode c pc = .ok (.getfield ix, 3)) (hp : pc + 3 = p) (hf : fres (mOwn mi) ix = some (ix, ci, k, q1, q2)) (hk : (!(ci == 50) && (fk ci k).1 == 2) = true) (hl : (lay a).1 = ci) : val mi r (pc, L, aR (some a) :: S, w) = val mi r (p, L, aR (gR w a k) :: S, w) := v_next hm hd hp (by
  show (Option.map (· :: S) (fGet mi ix w a)).map _ = _
  simp only [Bool.and_eq_true, Bool.not_eq_true', beq_eq_false_iff_ne, beq_iff_eq] at hk
  unfold fGet
  rw [hf]
  simp only [if_neg hk.1, if_pos hl, if_pos hk.2]
  rfl)
theorem v_getR (b p : Nat) {ix ci k q1 q2 : Nat} (hm : mB mi = c) (hd : decode c pc = .ok (.getfield ix, 3)) (hp : pc + 3 = p) (hf : fres (mOwn mi) ix = some (ix, ci, k, q1, q2)) (hk : (!(ci == 50) && (fk ci k).1 == 2) = true) (hl : (lay a).1 = ci) (hr : gR w a k = some b) : val mi r (pc, L, aR (some a) :: S, w) = val mi r (p, L, aR (some b) :: S, w) := by
  rw [v_getQ p hm hd hp hf hk hl, hr]
theorem v_putI (p : Nat) {ix ci k q1 q2 : Nat} (hm : mB mi = c) (hd : decode c pc = .ok (.putfield ix, 3)) (hp : pc + 3 = p) (hf : fres (mOwn mi) ix = some (ix, ci, k, q1, q2)) (hk : (decide (ci < 13) && !(fk ci k).2 && (fk ci k).1 == 0) = true) (hl : (lay a).1 = ci) : val mi r (pc, L, aI x :: aR (some a) :: S, w) = val mi r (p, L, S, pI w a k x) := v_next hm hd hp (by
  show (fPut mi ix w a (.inl x)).map _ = _
  simp only [Bool.and_eq_true, Bool.not_eq_true', decide_eq_true_eq, beq_iff_eq] at hk
  obtain ⟨⟨h1, h2⟩, h3⟩ := hk
  unfold fPut
  rw [hf]
  simp only []
  rw [if_pos ⟨hl, h1, fun q => by rw [h2] at q; cases q⟩, if_pos (Or.inl h3)]
  rfl)
theorem v_putB (p : Nat) {ix ci k q1 q2 : Nat} (hm : mB mi = c) (hd : decode c pc = .ok (.putfield ix, 3)) (hp : pc + 3 = p) (hf : fres (mOwn mi) ix = some (ix, ci, k, q1, q2)) (hk : (decide (ci < 13) && !(fk ci k).2 && (fk ci k).1 == 1) = true) (hl : (lay a).1 = ci) (hx : x = 0 ∨ x = 1) : val mi r (pc, L, aI x :: aR (some a) :: S, w) = val mi r (p, L, S, pI w a k x) := v_next hm hd hp (by
  show (fPut mi ix w a (.inl x)).map _ = _
  simp only [Bool.and_eq_true, Bool.not_eq_true', decide_eq_true_eq, beq_iff_eq] at hk
  obtain ⟨⟨h1, h2⟩, h3⟩ := hk
  unfold fPut
  rw [hf]
  simp only []
  rw [if_pos ⟨hl, h1, fun q => by rw [h2] at q; cases q⟩, if_pos (Or.inr ⟨h3, hx⟩)]
  rfl)
theorem v_putR (p : Nat) {ix ci k q1 q2 : Nat} {q : Option Nat} (hm : mB mi = c) (hd : decode c pc = .ok (.putfield ix, 3)) (hp : pc + 3 = p) (hf : fres (mOwn mi) ix = some (ix, ci, k, q1, q2)) (hk : (decide (ci < 13) && !(fk ci k).2 && (fk ci k).1 == 2) = true) (hl : (lay a).1 = ci) : val mi r (pc, L, aR q :: aR (some a) :: S, w) = val mi r (p, L, S, pR w a k q) := v_next hm hd hp (by
  show (fPut mi ix w a (.inr (.inl q))).map _ = _
  simp only [Bool.and_eq_true, Bool.not_eq_true', decide_eq_true_eq, beq_iff_eq] at hk
  obtain ⟨⟨h1, h2⟩, h3⟩ := hk
  unfold fPut
  rw [hf]
  simp only []
  rw [if_pos ⟨hl, h1, fun q => by rw [h2] at q; cases q⟩, if_pos h3]
  rfl)
theorem v_none (hm : mB mi = c) (hd : decode c pc = .ok (i, len)) (he : exec1 mi i len pc L S w = none) : val mi r (pc, L, S, w) = none := by
  subst hm
  cases hv : val mi r (pc, L, S, w) with
  | none => rfl
  | some q =>
    exfalso
    obtain ⟨n, hn⟩ := val_iff.mp hv
    cases n with
    | zero => cases hn
    | succ n => rw [run, hd] at hn; simp only [he] at hn; cases hn
theorem gd_of {g : Bool} {X Y : Option Out} (h1 : g = true → X = Y) (h2 : g = false → X = none) : X = gd g Y := by
  unfold gd
  cases g with
  | true => exact (h1 rfl).trans (if_pos rfl).symm
  | false => exact (h2 rfl).trans (if_neg (by simp)).symm
theorem v_iald (n p : Nat) (hm : mB mi = c) (hd : decode c pc = .ok (.iaload, 1)) (hp : pc + 1 = p) (hl : lay a = (21, n)) (hs : Nat.blt a 1000000 = true) : val mi r (pc, L, aI x :: aR (some a) :: S, w) = gd (inb x n) (val mi r (p, L, aI (gI w a x.toNat) :: S, w)) := by
  have hs2 : a < 1000000 := by simpa [Nat.blt_eq] using hs
  refine gd_of (fun q => v_next hm hd hp ?_) (fun q => v_none hm hd ?_)
  · show (exAld 21 w (.inl x :: .inr (.inl (some a)) :: S)).map _ = _
    simp only [exAld, hl, q, and_self, if_true]
    rfl
  · show (exAld 21 w (.inl x :: .inr (.inl (some a)) :: S)).map _ = _
    have e1 : BYT = 2000000 := rfl
    have e2 : SCR = 3000000 := rfl
    simp only [exAld, hl, q]
    rw [if_neg (by simp), if_neg (by omega), if_neg (by omega)]
    rfl
theorem v_bald (n p : Nat) (hm : mB mi = c) (hd : decode c pc = .ok (.baload, 1)) (hp : pc + 1 = p) (hl : lay a = (20, n)) (hs : Nat.blt a 1000000 = true) : val mi r (pc, L, aI x :: aR (some a) :: S, w) = gd (inb x n) (val mi r (p, L, aI (gI w a x.toNat) :: S, w)) := by
  have hs2 : a < 1000000 := by simpa [Nat.blt_eq] using hs
  refine gd_of (fun q => v_next hm hd hp ?_) (fun q => v_none hm hd ?_)
  · show (exAld 20 w (.inl x :: .inr (.inl (some a)) :: S)).map _ = _
    simp only [exAld, hl, q, and_self, if_true]
    rfl
  · show (exAld 20 w (.inl x :: .inr (.inl (some a)) :: S)).map _ = _
    have e1 : BYT = 2000000 := rfl
    have e2 : SCR = 3000000 := rfl
    simp only [exAld, hl, q]
    rw [if_neg (by simp), if_neg (by omega), if_neg (by omega)]
    rfl
theorem v_lald (n p : Nat) (hm : mB mi = c) (hd : decode c pc = .ok (.laload, 1)) (hp : pc + 1 = p) (hl : lay a = (22, n)) (hs : Nat.blt a 1000000 = true) : val mi r (pc, L, aI x :: aR (some a) :: S, w) = gd (inb x n) (val mi r (p, L, aL (gJ w a x.toNat) :: S, w)) := by
  have hs2 : a < 1000000 := by simpa [Nat.blt_eq] using hs
  refine gd_of (fun q => v_next hm hd hp ?_) (fun q => v_none hm hd ?_)
  · show (exAld 22 w (.inl x :: .inr (.inl (some a)) :: S)).map _ = _
    simp only [exAld, hl, q, and_self, if_true]
    rfl
  · show (exAld 22 w (.inl x :: .inr (.inl (some a)) :: S)).map _ = _
    have e1 : BYT = 2000000 := rfl
    have e2 : SCR = 3000000 := rfl
    simp only [exAld, hl, q]
    rw [if_neg (by simp), if_neg (by omega), if_neg (by omega)]
    rfl
theorem v_iast (n p : Nat) (hm : mB mi = c) (hd : decode c pc = .ok (.iastore, 1)) (hp : pc + 1 = p) (hl : lay a = (21, n)) : val mi r (pc, L, aI y :: aI x :: aR (some a) :: S, w) = gd (inb x n) (val mi r (p, L, S, pI w a x.toNat y)) := by
  refine gd_of (fun q => v_next hm hd hp ?_) (fun q => v_none hm hd ?_)
  · show (exAst 21 w (.inl y :: .inl x :: .inr (.inl (some a)) :: S)).map _ = _
    simp [exAst, hl, q]
  · show (exAst 21 w (.inl y :: .inl x :: .inr (.inl (some a)) :: S)).map _ = _
    simp [exAst, hl, q]
theorem v_bast (n p : Nat) (hm : mB mi = c) (hd : decode c pc = .ok (.bastore, 1)) (hp : pc + 1 = p) (hl : lay a = (20, n)) : val mi r (pc, L, aI y :: aI x :: aR (some a) :: S, w) = gd (inb x n) (val mi r (p, L, S, pI w a x.toNat (bI2b y))) := by
  refine gd_of (fun q => v_next hm hd hp ?_) (fun q => v_none hm hd ?_)
  · show (exAst 20 w (.inl y :: .inl x :: .inr (.inl (some a)) :: S)).map _ = _
    simp [exAst, hl, q]
  · show (exAst 20 w (.inl y :: .inl x :: .inr (.inl (some a)) :: S)).map _ = _
    simp [exAst, hl, q]
theorem v_last (n p : Nat) (hm : mB mi = c) (hd : decode c pc = .ok (.lastore, 1)) (hp : pc + 1 = p) (hl : lay a = (22, n)) : val mi r (pc, L, aL y :: aI x :: aR (some a) :: S, w) = gd (inb x n) (val mi r (p, L, S, pJ w a x.toNat y)) := by
  refine gd_of (fun q => v_next hm hd hp ?_) (fun q => v_none hm hd ?_)
  · show (exAst 22 w (.inr (.inr y) :: .inl x :: .inr (.inl (some a)) :: S)).map _ = _
    simp [exAst, hl, q]
  · show (exAst 22 w (.inr (.inr y) :: .inl x :: .inr (.inl (some a)) :: S)).map _ = _
    simp [exAst, hl, q]
theorem v_len (n p : Nat) (hm : mB mi = c) (hd : decode c pc = .ok (.arraylength, 1)) (hp : pc + 1 = p) (hl : lay a = (k, n)) (hk : (Nat.ble 20 k && Nat.ble k 24) = true) : val mi r (pc, L, aR (some a) :: S, w) = val mi r (p, L, aI ((n : Nat) : Int) :: S, w) := v_next hm hd hp (by
  show (exLen w (.inr (.inl (some a)) :: S)).map _ = _
  simp only [Bool.and_eq_true, Nat.ble_eq] at hk
  simp only [exLen, hl, hk, and_self, if_true]
  rfl)
theorem v_retI (hm : mB mi = c) (hd : decode c pc = .ok (.ireturn, 1)) (hk : mRc mi = 1) : val mi r (pc, L, [aI x], w) = some (.inl (some (aI x)), w) := by
  subst hm
  refine val_out hd ?_
  show (if retOk (mRc mi) x = true then _ else none) = _
  rw [hk]; rfl
theorem v_retB (hm : mB mi = c) (hd : decode c pc = .ok (.ireturn, 1)) (hk : mRc mi = 2) (hx : x = 0 ∨ x = 1) : val mi r (pc, L, [aI x], w) = some (.inl (some (aI x)), w) := by
  subst hm
  refine val_out hd ?_
  show (if retOk (mRc mi) x = true then _ else none) = _
  rw [hk]
  rcases hx with rfl | rfl <;> rfl
theorem v_ret0 (hm : mB mi = c) (hd : decode c pc = .ok (.return_, 1)) (hk : mRc mi = 0) : val mi r (pc, L, [], w) = some (.inl none, w) := by
  subst hm
  refine val_out hd ?_
  show (if mRc mi = 0 then _ else none) = _
  rw [hk]; rfl
end RULES
