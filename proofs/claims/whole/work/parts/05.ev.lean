/-! THE PROGRAM AS A FUNCTION: an evaluator of the printed instructions over worlds (rows of ints, references, longs), by calls; that the machine does what it says is proved behind it -/
abbrev AV : Type := Int ⊕ (Option Nat ⊕ Int)
abbrev aI (x : Int) : AV := Sum.inl x
abbrev aR (r : Option Nat) : AV := Sum.inr (Sum.inl r)
abbrev aL (x : Int) : AV := Sum.inr (Sum.inr x)
/-- a world: rows of ints, of references, of longs; how many things are made; how many were thrown; the script -/
abbrev Wd : Type := (Nat → Nat → Int) × (Nat → Nat → Option Nat) × (Nat → Nat → Int) × Nat × Nat × Nat × (Nat → Int)
def gI (w : Wd) (a : Nat) : Nat → Int := w.1 a
def gR (w : Wd) (a : Nat) : Nat → Option Nat := w.2.1 a
def gJ (w : Wd) (a : Nat) : Nat → Int := w.2.2.1 a
def gN (w : Wd) : Nat := w.2.2.2.1
def gE (w : Wd) : Nat := w.2.2.2.2.1
def gL (w : Wd) : Nat := w.2.2.2.2.2.1
def gX (w : Wd) : Nat → Int := w.2.2.2.2.2.2
def sI (w : Wd) (a : Nat) (f : Nat → Int) : Wd := (va_up w.1 a f, w.2)
def sR (w : Wd) (a : Nat) (f : Nat → Option Nat) : Wd := (w.1, va_up w.2.1 a f, w.2.2)
def sJ (w : Wd) (a : Nat) (f : Nat → Int) : Wd := (w.1, w.2.1, va_up w.2.2.1 a f, w.2.2.2)
def pI (w : Wd) (a i : Nat) (x : Int) : Wd := sI w a (va_up (gI w a) i x)
def pR (w : Wd) (a i : Nat) (x : Option Nat) : Wd := sR w a (va_up (gR w a) i x)
def pJ (w : Wd) (a i : Nat) (x : Int) : Wd := sJ w a (va_up (gJ w a) i x)
/-- one thing more is made: its rows are empty -/
def nW (w : Wd) : Wd := (va_up w.1 w.2.2.2.1 (fun _ => 0), va_up w.2.1 w.2.2.2.1 (fun _ => none), va_up w.2.2.1 w.2.2.2.1 (fun _ => 0), w.2.2.2.1 + 1, w.2.2.2.2)
def tW (w : Wd) : Wd := (w.1, w.2.1, w.2.2.1, w.2.2.2.1, w.2.2.2.2.1 + 1, w.2.2.2.2.2)
abbrev Cfg : Type := Nat × List (Option AV) × List AV × Wd
abbrev Out : Type := (Option AV ⊕ Nat) × Wd
abbrev Act : Type := Cfg ⊕ ((Nat × List AV × Cfg) ⊕ Out)
def wr (z : Int) : Int := (z + 2147483648) % 4294967296 - 2147483648
abbrev i32 (x : Int) : Int32 := Int32.ofInt x
abbrev i64 (x : Int) : Int64 := Int64.ofInt x
def bAnd (x y : Int) : Int := (i32 x &&& i32 y).toInt
def bOr (x y : Int) : Int := (i32 x ||| i32 y).toInt
def bXor (x y : Int) : Int := (i32 x ^^^ i32 y).toInt
def bShl (x y : Int) : Int := (i32 x <<< (i32 y &&& 31)).toInt
def bShr (x y : Int) : Int := (i32 x >>> (i32 y &&& 31)).toInt
def bUshr (x y : Int) : Int := ((i32 x).toUInt32 >>> ((i32 y).toUInt32 &&& Int32.toUInt32 31)).toInt32.toInt
def bI2b (x : Int) : Int := (i32 x).toInt8.toInt32.toInt
def bI2c (x : Int) : Int := ((i32 x).toUInt32 % 65536).toInt32.toInt
def lAnd (x y : Int) : Int := (i64 x &&& i64 y).toInt
def lOr (x y : Int) : Int := (i64 x ||| i64 y).toInt
def lShl (x y : Int) : Int := (i64 x <<< ((i32 y).toInt64 &&& 63)).toInt
def lCmp (x y : Int) : Int := if y < x then 1 else if x < y then -1 else 0
def cndB (c : Jvm.ClassFile.Cond) (x y : Int) : Bool := match c with
  | .eq => decide (x = y) | .ne => decide (x ≠ y) | .lt => decide (x < y) | .ge => decide (y ≤ x) | .gt => decide (y < x) | .le => decide (x ≤ y)
def fres (ow ix : Nat) : Option (Nat × Nat × Nat × Nat × Nat) := (fT.getD ow []).find? (fun e => e.1 == ix)
def cres (ow ix : Nat) : Option (Nat × Nat × Nat × Nat × Nat × Nat × Nat) := (cT.getD ow []).find? (fun e => e.1 == ix)
def nres (ow ix : Nat) : Option (Nat × Nat × Nat × Nat × Nat) := (nT.getD ow []).find? (fun e => e.1 == ix)
def ares (ow ix : Nat) : Option (Nat × Nat × Nat) := (aT.getD ow []).find? (fun e => e.1 == ix)
def kIres (ow ix : Nat) : Option (Nat × Int × Nat) := (kI.getD ow []).find? (fun e => e.1 == ix)
def kJres (ow ix : Nat) : Option (Nat × Int × Nat) := (kJ.getD ow []).find? (fun e => e.1 == ix)
def kSres (ow ix : Nat) : Option (Nat × Nat × Nat) := (kS.getD ow []).find? (fun e => e.1 == ix)
def thr (mi pc : Nat) : Option Nat := (thL.find? (fun e => e.1 == mi && e.2.1 == pc)).map (·.2.2)
/-- the bytes of the texts -/
def txB (i : Nat) : List Int := ((txL.getD i "").toList).map (fun c => (c.toNat : Int))
def STR : Nat := 1000000
def BYT : Nat := 2000000
def SCR : Nat := 3000000
def FMT : Nat := 5000000
def ldV (p : AV → Bool) (L : List (Option AV)) (k : Nat) : Option AV := match L[k]? with
  | some (some v) => if p v then some v else none
  | _ => none
def isI : AV → Bool
  | .inl _ => true
  | _ => false
def isR : AV → Bool
  | .inr (.inl _) => true
  | _ => false
def isL : AV → Bool
  | .inr (.inr _) => true
  | _ => false
/-- a place is written: a long that stood ahead of it is gone -/
def stL (L : List (Option AV)) (i : Nat) (v : Option AV) : List (Option AV) :=
  (match i with | 0 => L | j + 1 => (match L[j]? with | some (some (.inr (.inr _))) => L.set j none | _ => L)).set i v
def exN (len pc : Nat) (L : List (Option AV)) (w : Wd) (o : Option (List AV)) : Option Act := o.map (fun S => Sum.inl (pc + len, L, S, w))
def jmp (pc : Nat) (off : Int) : Option Nat := if 0 ≤ (pc : Int) + off then some ((pc : Int) + off).toNat else none
def exJ (pc : Nat) (off : Int) (L : List (Option AV)) (S : List AV) (w : Wd) : Option Act := (jmp pc off).map (fun t => Sum.inl (t, L, S, w))
def exIf (len pc : Nat) (off : Int) (L : List (Option AV)) (S : List AV) (w : Wd) (b : Bool) : Option Act := (jmp pc off).map (fun t => Sum.inl (if b then t else pc + len, L, S, w))
def st1 (f : Int → Int) : List AV → Option (List AV)
  | .inl x :: S => some (.inl (f x) :: S)
  | _ => none
def st2 (f : Int → Int → Int) : List AV → Option (List AV)
  | .inl y :: .inl x :: S => some (.inl (f x y) :: S)
  | _ => none
def st2g (f : Int → Int → Int) : List AV → Option (List AV)
  | .inl y :: .inl x :: S => if y = 0 then none else some (.inl (f x y) :: S)
  | _ => none
def st2L (f : Int → Int → Int) : List AV → Option (List AV)
  | .inr (.inr y) :: .inr (.inr x) :: S => some (.inr (.inr (f x y)) :: S)
  | _ => none
/-- what a field holds -/
def fGet (mi ix : Nat) (w : Wd) (a : Nat) : Option AV := match fres (mOwn mi) ix with
  | none => none
  | some (_, ci, k, _, _) =>
    if ci = 50 then (if STR ≤ a ∧ a < STR + txL.length then (if k = 0 then some (.inr (.inl (some (a + 1000000)))) else some (.inl 0)) else none)
    else if (lay a).1 = ci then (if (fk ci k).1 = 2 then some (.inr (.inl (gR w a k))) else some (.inl (gI w a k))) else none
def fPut (mi ix : Nat) (w : Wd) (a : Nat) (v : AV) : Option Wd := match fres (mOwn mi) ix with
  | none => none
  | some (_, ci, k, nest, _) =>
    if (lay a).1 = ci ∧ ci < 13 ∧ ((fk ci k).2 = true → (mY mi).name = "<init>" ∧ nest = 0 ∧ mOwn mi = ci) then (match v with
      | .inl x => if (fk ci k).1 = 0 ∨ ((fk ci k).1 = 1 ∧ (x = 0 ∨ x = 1)) then some (pI w a k x) else none
      | .inr (.inl r) => if (fk ci k).1 = 2 then some (pR w a k r) else none
      | _ => none)
    else none
def inb (i : Int) (n : Nat) : Bool := decide (0 ≤ i) && decide (i < n)
def exAld (k : Nat) (w : Wd) : List AV → Option (List AV)
  | .inl i :: .inr (.inl (some a)) :: S =>
    if (lay a).1 = k ∧ inb i (lay a).2 = true then some ((if k = 22 then .inr (.inr (gJ w a i.toNat)) else if k = 23 ∨ k = 24 then .inr (.inl (gR w a i.toNat)) else .inl (gI w a i.toNat)) :: S)
    else if k = 21 ∧ a = SCR ∧ inb i (gL w) = true then some (.inl (gX w i.toNat) :: S)
    else if k = 20 ∧ BYT ≤ a ∧ a < BYT + txL.length ∧ inb i (txB (a - BYT)).length = true then some (.inl ((txB (a - BYT)).getD i.toNat 0) :: S)
    else none
  | _ => none
def exAst (k : Nat) (w : Wd) : List AV → Option (List AV × Wd)
  | .inl x :: .inl i :: .inr (.inl (some a)) :: S =>
    if (lay a).1 = k ∧ inb i (lay a).2 = true ∧ k = 21 then some (S, pI w a i.toNat x)
    else if (lay a).1 = k ∧ inb i (lay a).2 = true ∧ k = 20 then some (S, pI w a i.toNat (bI2b x)) else none
  | .inr (.inr x) :: .inl i :: .inr (.inl (some a)) :: S => if (lay a).1 = k ∧ inb i (lay a).2 = true ∧ k = 22 then some (S, pJ w a i.toNat x) else none
  | .inr (.inl (some v)) :: .inl i :: .inr (.inl (some a)) :: S =>
    if (lay a).1 = 23 ∧ inb i (lay a).2 = true ∧ k = 23 ∧ (lay v).1 = 8 then some (S, pR w a i.toNat (some v))
    else if (lay a).1 = 24 ∧ inb i (lay a).2 = true ∧ k = 23 ∧ STR ≤ v ∧ v < STR + txL.length then some (S, pR w a i.toNat (some v)) else none
  | _ => none
def exAq (w : Wd) (S : List AV) : Option (List AV) := (exAld 23 w S).or (exAld 24 w S)
def exLen (w : Wd) : List AV → Option (List AV)
  | .inr (.inl (some a)) :: S =>
    if 20 ≤ (lay a).1 ∧ (lay a).1 ≤ 24 then some (.inl ((lay a).2 : Int) :: S)
    else if a = SCR then some (.inl (gL w : Int) :: S)
    else if BYT ≤ a ∧ a < BYT + txL.length then some (.inl ((txB (a - BYT)).length : Int) :: S) else none
  | _ => none
def exNewA (k : Nat) (w : Wd) : List AV → Option (List AV × Wd)
  | .inl n :: S => if gE w = 0 ∧ 0 ≤ n ∧ lay (gN w) = (k, n.toNat) then some (.inr (.inl (some (gN w))) :: S, nW w) else none
  | _ => none
def retOk (rc : Nat) (x : Int) : Bool := match rc with
  | 1 => true
  | 2 => decide (x = 0) || decide (x = 1)
  | 3 => decide (bI2c x = x)
  | 4 => decide (bI2b x = x)
  | _ => false
def wd (S : List AV) : Nat := (S.map (fun v => if isL v then 2 else 1)).sum
def aCpy (f g : Nat → Int) (sp dp n : Nat) (len : Nat) : Nat → Int := if sp = 0 ∧ dp = 0 ∧ n = len then f else va_cpy f g sp dp n
def exCall (mi ix len pc : Nat) (L : List (Option AV)) (S : List AV) (w : Wd) (ks : List Nat) : Option Act := match cres (mOwn mi) ix with
  | none => none
  | some (_, kind, mj, n, _, _, _) =>
    if ks.contains kind = false then none else
    if kind = 7 then (match S with | .inr (.inl (some a)) :: S' => if wd S' ≤ 8 ∧ a < STR then some (Sum.inl (pc + len, L, S', w)) else none | _ => none)
    else if kind = 8 then (match S with
      | .inl c :: .inl dp :: .inr (.inl (some d)) :: .inl sp :: .inr (.inl (some a)) :: S' =>
        if wd S' ≤ 8 ∧ (lay a).1 = 21 ∧ (lay d).1 = 21 ∧ 0 ≤ sp ∧ 0 ≤ dp ∧ 0 ≤ c ∧ sp + c ≤ (lay a).2 ∧ dp + c ≤ (lay d).2 then
          some (Sum.inl (pc + len, L, S', sI w d (aCpy (gI w a) (gI w d) sp.toNat dp.toNat c.toNat (lay d).2))) else none
      | _ => none)
    else if kind = 1 ∨ kind = 4 ∨ kind = 6 then
      (if n ≤ S.length ∧ wd (S.drop n) ≤ 8 then some (Sum.inr (Sum.inl (mj, (S.take n).reverse, (pc + len, L, S.drop n, w)))) else none)
    else (match S.drop n with
      | .inr (.inl (some b)) :: S' =>
        if n ≤ S.length ∧ wd S' ≤ 8 ∧ (if kind = 9 then STR ≤ b ∧ b < STR + txL.length else (lay b).1 = mOwn mj) then
          some (Sum.inr (Sum.inl (mj, .inr (.inl (some b)) :: (S.take n).reverse, (pc + len, L, S', w)))) else none
      | _ => none)
def exec0 (mi : Nat) (i : Instr) (len pc : Nat) (L : List (Option AV)) (S : List AV) (w : Wd) : Option Act := match i with
  | .aconst_null => exN len pc L w (some (.inr (.inl none) :: S))
  | .iconst n => exN len pc L w (if -1 ≤ n ∧ n ≤ 5 then some (.inl n :: S) else none)
  | .bipush n => exN len pc L w (if -128 ≤ n ∧ n < 128 then some (.inl n :: S) else none)
  | .sipush n => exN len pc L w (if -32768 ≤ n ∧ n < 32768 then some (.inl n :: S) else none)
  | .lconst n => exN len pc L w (some (.inr (.inr ((n : Nat) : Int)) :: S))
  | .iload k => exN len pc L w ((ldV isI L k).map (· :: S))
  | .iload_n k => exN len pc L w ((ldV isI L k).map (· :: S))
  | .aload k => exN len pc L w ((ldV isR L k).map (· :: S))
  | .aload_n k => exN len pc L w ((ldV isR L k).map (· :: S))
  | .lload k => exN len pc L w ((ldV isL L k).map (· :: S))
  | .lload_n k => exN len pc L w ((ldV isL L k).map (· :: S))
  | .istore k => (match S with | .inl x :: S' => if k < L.length then some (Sum.inl (pc + len, stL L k (some (.inl x)), S', w)) else none | _ => none)
  | .istore_n k => (match S with | .inl x :: S' => if (k : Nat) < L.length then some (Sum.inl (pc + len, stL L k (some (.inl x)), S', w)) else none | _ => none)
  | .astore k => (match S with | .inr (.inl x) :: S' => if k < L.length then some (Sum.inl (pc + len, stL L k (some (.inr (.inl x))), S', w)) else none | _ => none)
  | .astore_n k => (match S with | .inr (.inl x) :: S' => if (k : Nat) < L.length then some (Sum.inl (pc + len, stL L k (some (.inr (.inl x))), S', w)) else none | _ => none)
  | .lstore k => (match S with | .inr (.inr x) :: S' => if k + 1 < L.length then some (Sum.inl (pc + len, (stL L k (some (.inr (.inr x)))).set (k + 1) none, S', w)) else none | _ => none)
  | .iinc k n => (match L[k]? with | some (some (.inl x)) => if -32768 ≤ n ∧ n < 32768 then some (Sum.inl (pc + len, L.set k (some (.inl (wr (x + n)))), S, w)) else none | _ => none)
  | .iadd => exN len pc L w (st2 (fun x y => wr (x + y)) S)
  | .isub => exN len pc L w (st2 (fun x y => wr (x - y)) S)
  | .imul => exN len pc L w (st2 (fun x y => wr (x * y)) S)
  | .idiv => exN len pc L w (st2g (fun x y => wr (Int.tdiv x y)) S)
  | .irem => exN len pc L w (st2g (fun x y => Int.tmod x y) S)
  | .ineg => exN len pc L w (st1 (fun x => wr (-x)) S)
  | .iand => exN len pc L w (st2 bAnd S)
  | .ior => exN len pc L w (st2 bOr S)
  | .ixor => exN len pc L w (st2 bXor S)
  | .ishl => exN len pc L w (st2 bShl S)
  | .ishr => exN len pc L w (st2 bShr S)
  | .iushr => exN len pc L w (st2 bUshr S)
  | .i2b => exN len pc L w (st1 bI2b S)
  | .i2c => exN len pc L w (st1 bI2c S)
  | .i2l => exN len pc L w (match S with | .inl x :: S' => some (.inr (.inr x) :: S') | _ => none)
  | .land => exN len pc L w (st2L lAnd S)
  | .lor => exN len pc L w (st2L lOr S)
  | .lshl => exN len pc L w (match S with | .inl y :: .inr (.inr x) :: S' => some (.inr (.inr (lShl x y)) :: S') | _ => none)
  | .lcmp => exN len pc L w (match S with | .inr (.inr y) :: .inr (.inr x) :: S' => some (.inl (lCmp x y) :: S') | _ => none)
  | .dup => exN len pc L w (match S with | v :: S' => if isL v then none else some (v :: v :: S') | _ => none)
  | .dup2 => exN len pc L w (match S with | v :: u :: S' => if isL v || isL u then none else some (v :: u :: v :: u :: S') | _ => none)
  | .pop => exN len pc L w (match S with | v :: S' => if isL v then none else some S' | _ => none)
  | .goto off => exJ pc off L S w
  | .ifCond c off => (match S with | .inl x :: S' => exIf len pc off L S' w (cndB c x 0) | _ => none)
  | .if_icmp c off => (match S with | .inl y :: .inl x :: S' => exIf len pc off L S' w (cndB c x y) | _ => none)
  | .if_acmp c off => (match S with
    | .inr (.inl (some y)) :: .inr (.inl (some x)) :: S' => if x < STR ∧ y < STR then exIf len pc off L S' w (match c with | .eq => decide (x = y) | .ne => decide (x ≠ y)) else none
    | _ => none)
  | .ifnull off => (match S with | .inr (.inl none) :: S' => exJ pc off L S' w | .inr (.inl (some a)) :: S' => if a < STR then some (Sum.inl (pc + len, L, S', w)) else none | _ => none)
  | .ifnonnull off => (match S with | .inr (.inl none) :: S' => some (Sum.inl (pc + len, L, S', w)) | .inr (.inl (some a)) :: S' => if a < STR then exJ pc off L S' w else none | _ => none)
  | .tableswitch dflt lo hi offs => (match S with
    | .inl x :: S' => if x < lo ∨ hi < x then exJ pc dflt L S' w else (match offs[(x - lo).toNat]? with | some off => exJ pc off L S' w | none => none)
    | _ => none)
  | .lookupswitch dflt ps => (match S with
    | .inl x :: S' => if (ps.toList.zip (ps.toList.drop 1)).all (fun (a, next) => a.1 < next.1) = true then exJ pc (Op.lookupswitch.offset ps.toList dflt x) L S' w else none
    | _ => none)
  | .getfield ix => exN len pc L w (match S with | .inr (.inl (some a)) :: S' => (fGet mi ix w a).map (· :: S') | _ => none)
  | .putfield ix => (match S with | v :: .inr (.inl (some a)) :: S' => (fPut mi ix w a v).map (fun w' => Sum.inl (pc + len, L, S', w')) | _ => none)
  | .getstatic ix => exN len pc L w (if mOwn mi = 14 ∧ ix = 38 then some (.inl 1 :: S) else if mOwn mi = 14 ∧ ix = 1053 then some (.inr (.inl (some FMT)) :: S) else none)
  | .iaload => exN len pc L w (exAld 21 w S)
  | .baload => exN len pc L w (exAld 20 w S)
  | .laload => exN len pc L w (exAld 22 w S)
  | .aaload => exN len pc L w (exAq w S)
  | .iastore => (exAst 21 w S).map (fun q => Sum.inl (pc + len, L, q.1, q.2))
  | .bastore => (exAst 20 w S).map (fun q => Sum.inl (pc + len, L, q.1, q.2))
  | .lastore => (exAst 22 w S).map (fun q => Sum.inl (pc + len, L, q.1, q.2))
  | .aastore => (exAst 23 w S).map (fun q => Sum.inl (pc + len, L, q.1, q.2))
  | .arraylength => exN len pc L w (exLen w S)
  | .newarray t => (exNewA (match t with | .byte => 20 | .int => 21 | .long => 22 | _ => 98) w S).map (fun q => Sum.inl (pc + len, L, q.1, q.2))
  | .anewarray ix => (match ares (mOwn mi) ix with | some (_, k, _) => (exNewA k w S).map (fun q => Sum.inl (pc + len, L, q.1, q.2)) | none => none)
  | .ldc ix => exN len pc L w (match kIres (mOwn mi) ix with | some (_, v, _) => some (.inl v :: S) | none => match kSres (mOwn mi) ix with | some (_, t, _) => some (.inr (.inl (some (STR + t))) :: S) | none => none)
  | .ldc_w ix => exN len pc L w (match kIres (mOwn mi) ix with | some (_, v, _) => some (.inl v :: S) | none => match kSres (mOwn mi) ix with | some (_, t, _) => some (.inr (.inl (some (STR + t))) :: S) | none => none)
  | .ldc2_w ix => exN len pc L w (match kJres (mOwn mi) ix with | some (_, v, _) => some (.inr (.inr v) :: S) | none => none)
  | .new ix => (match thr mi pc with
    | some e => if wd S = 0 then some (Sum.inr (Sum.inr (Sum.inr e, tW w))) else none
    | none => match nres (mOwn mi) ix with
      | some (_, ci, _, _, _) => if gE w = 0 ∧ lay (gN w) = (ci, nF ci) ∧ ci < 13 then some (Sum.inl (pc + len, L, .inr (.inl (some (gN w))) :: S, nW w)) else none
      | none => none)
  | .invokevirtual ix => exCall mi ix len pc L S w [0, 3, 9]
  | .invokespecial ix => exCall mi ix len pc L S w [2, 5, 7]
  | .invokestatic ix => exCall mi ix len pc L S w [1, 4, 6, 8]
  | .ireturn => (match S with | [.inl x] => if retOk (mRc mi) x = true then some (Sum.inr (Sum.inr (Sum.inl (some (.inl x)), w))) else none | _ => none)
  | .areturn => (match S with | [.inr (.inl r)] => if mRc mi = 5 then some (Sum.inr (Sum.inr (Sum.inl (some (.inr (.inl r))), w))) else none | _ => none)
  | .return_ => (match S with | [] => if mRc mi = 0 then some (Sum.inr (Sum.inr (Sum.inl none, w))) else none | _ => none)
  | _ => none
def okLen (i : Instr) (len : Nat) : Bool := match i with
  | .iload _ | .aload _ | .lload _ | .istore _ | .astore _ | .lstore _ | .bipush _ | .ldc _ | .newarray _ => len == 2
  | .iinc _ _ | .sipush _ | .ldc_w _ | .ldc2_w _ | .goto _ | .ifCond _ _ | .if_icmp _ _ | .if_acmp _ _ | .ifnull _ | .ifnonnull _ | .getfield _ | .putfield _ | .getstatic _ | .new _ | .anewarray _ | .invokevirtual _ | .invokespecial _ | .invokestatic _ => len == 3
  | .tableswitch _ _ _ _ | .lookupswitch _ _ => true
  | _ => len == 1
def exec1 (mi : Nat) (i : Instr) (len pc : Nat) (L : List (Option AV)) (S : List AV) (w : Wd) : Option Act := if okLen i len = true then exec0 mi i len pc L S w else none
def slA (as : List AV) : List (Option AV) := as.flatMap (fun v => if isL v then [some v, none] else [some v])
/-- the locals at a method's start -/
def entL (mi : Nat) (as : List AV) : List (Option AV) := slA as ++ List.replicate (mL mi - (slA as).length) none
/-- how deep calls may still go -/
def crk0 (mi : Nat) (as : List AV) : Nat := if mRf mi = 0 then mRk mi else match as with
  | _ :: .inl x :: _ => mRk mi + 8 * (7 - x).toNat
  | _ => mRk mi + 56
/-- as many places as the method has -/
def crk (mi : Nat) (as : List AV) : Nat := if (slA as).length ≤ mL mi then crk0 mi as else 1000
def hndF (e pc : Nat) : List (Nat × Nat × Nat × Nat) → Option (Option Nat)
  | [] => none
  | (a, b, h, ct) :: r => if a ≤ pc ∧ pc < b then (if ct = (if e = 0 then 18 else 13) then some (some h) else if e = 1 ∧ ct = 18 then hndF e pc r else some none) else hndF e pc r
/-- the handler of an exception: its place behind the storing, and where it stores -/
def hnd (mi pc e : Nat) : Option (Option (Nat × Nat)) := match mH mi with
  | none => none
  | some hh => match hndF e pc hh with
    | none => none
    | some none => some none
    | some (some h) => some (match decode (mB mi) h with
      | .ok (.astore k, 2) => some (k, h + 2)
      | .ok (.astore_n k, 1) => some ((k : Nat), h + 1)
      | _ => none)
def run : Nat → Nat → Nat → Cfg → Option Out
  | 0, _, _, _ => none
  | n + 1, mi, r, (pc, L, S, w) => match decode (mB mi) pc with
    | .error _ => none
    | .ok (i, len) => match exec1 mi i len pc L S w with
      | none => none
      | some (.inl c) => run n mi r c
      | some (.inr (.inr o)) => some o
      | some (.inr (.inl (mj, as, c))) =>
        if crk mj as < r then (match run n mj (crk mj as) (0, entL mj as, [], w) with
          | none => none
          | some (.inl v, w') => run n mi r (c.1, c.2.1, v.toList ++ c.2.2.1, w')
          | some (.inr e, w') => match hnd mi pc e with
            | none => some (.inr e, w')
            | some none => none
            | some (some (k, p2)) => if k < L.length then run n mi r (p2, stL L k none, [], w') else none)
        else none
theorem run_mono : ∀ (n mi r : Nat) (c : Cfg) (o : Out), run n mi r c = some o → run (n + 1) mi r c = some o := by
  intro n
  induction n with
  | zero => intro mi r c o h; cases h
  | succ n ih =>
    intro mi r c o h
    obtain ⟨pc, L, S, w⟩ := c
    rw [run] at h ⊢
    cases hd : decode (mB mi) pc with
    | error e => rw [hd] at h; cases h
    | ok q =>
      obtain ⟨i, len⟩ := q
      rw [hd] at h
      simp only [] at h ⊢
      cases he : exec1 mi i len pc L S w with
      | none => rw [he] at h; cases h
      | some a =>
        rw [he] at h
        rcases a with c | ⟨mj, as, c⟩ | o'
        · simp only [] at h ⊢; exact ih _ _ _ _ h
        · simp only [] at h ⊢
          by_cases hr : crk mj as < r
          · rw [if_pos hr] at h ⊢
            cases hc : run n mj (crk mj as) (0, entL mj as, [], w) with
            | none => rw [hc] at h; cases h
            | some q =>
              rw [hc] at h
              rw [ih _ _ _ _ hc]
              obtain ⟨v | e, w'⟩ := q
              · simp only [] at h ⊢; exact ih _ _ _ _ h
              · simp only [] at h ⊢
                cases hh : hnd mi pc e with
                | none => rw [hh] at h; exact h
                | some z =>
                  rw [hh] at h
                  cases z with
                  | none => cases h
                  | some kp =>
                    simp only [] at h ⊢
                    by_cases hk : kp.1 < L.length
                    · rw [if_pos hk] at h ⊢; exact ih _ _ _ _ h
                    · rw [if_neg hk] at h; cases h
          · rw [if_neg hr] at h; cases h
        · exact h
