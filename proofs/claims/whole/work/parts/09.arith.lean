/-! ints of the machine and ours -/
theorem wr_ok (z : Int) : okI (wr z) := by unfold okI wr; omega
theorem wr_id {z : Int} (h : okI z) : wr z = z := by unfold okI at h; unfold wr; omega
theorem wr_bmod (z : Int) : wr z = z.bmod 4294967296 := by
  unfold wr
  rw [Int.bmod_def]
  split <;> omega
theorem i32_wr (z : Int) : i32 (wr z) = i32 z := by
  apply Int32.toInt_inj.mp
  rw [wr_bmod, Int32.toInt_ofInt, Int32.toInt_ofInt]
  exact Int.bmod_bmod
theorem tI {x : Int} (h : okI x) : (i32 x).toInt = x := Int32.toInt_ofInt_of_le h.1 h.2
theorem tJ {x : Int} (h : okJ x) : (i64 x).toInt = x := Int64.toInt_ofInt_of_le h.1 h.2
theorem ok_toInt (x : Int32) : okI x.toInt := ⟨x.le_toInt, x.toInt_lt⟩
theorem ok_toJ (x : Int64) : okJ x.toInt := ⟨x.le_toInt, x.toInt_lt⟩
theorem i32_t (x : Int32) : i32 x.toInt = x := Int32.ofInt_toInt x
theorem i64_t (x : Int64) : i64 x.toInt = x := Int64.ofInt_toInt x
theorem i32_add (x y : Int) : i32 (wr (x + y)) = i32 x + i32 y := by rw [i32_wr]; exact Int32.ofInt_add x y
theorem i32_sub (x y : Int) : i32 (wr (x - y)) = i32 x - i32 y := by rw [i32_wr]; exact Int32.ofInt_sub x y
theorem i32_mul (x y : Int) : i32 (wr (x * y)) = i32 x * i32 y := by rw [i32_wr]; exact Int32.ofInt_mul x y
theorem i32_neg (x : Int) : i32 (wr (-x)) = -i32 x := by rw [i32_wr]; exact Int32.ofInt_neg x
theorem i32_div {x y : Int} (hx : okI x) (hy : okI y) : i32 (wr (Int.tdiv x y)) = i32 x / i32 y := by
  rw [i32_wr]
  exact Int32.ofInt_tdiv hx.1 (Int.le_of_lt_add_one hx.2) hy.1 (Int.le_of_lt_add_one hy.2)
theorem i32_inj {x y : Int} (hx : okI x) (hy : okI y) : i32 x = i32 y ↔ x = y := by
  constructor
  · intro h
    have := congrArg Int32.toInt h
    rwa [tI hx, tI hy] at this
  · intro h; rw [h]
theorem i32_rem {x y : Int} (hx : okI x) (hy : okI y) : i32 (Int.tmod x y) = i32 x - i32 x / i32 y * i32 y := by
  have h1 : Int.tmod x y = x - Int.tdiv x y * y := by
    have := Int.tmod_add_mul_tdiv x y
    have e : y * x.tdiv y = x.tdiv y * y := Int.mul_comm _ _
    omega
  rw [h1, ← i32_div hx hy, i32_wr]
  show Int32.ofInt _ = _
  rw [Int32.ofInt_sub, Int32.ofInt_mul]
theorem i32_lt {x y : Int} (hx : okI x) (hy : okI y) : i32 x < i32 y ↔ x < y := by rw [Int32.lt_iff_toInt_lt, tI hx, tI hy]
theorem i32_le {x y : Int} (hx : okI x) (hy : okI y) : i32 x ≤ i32 y ↔ x ≤ y := by rw [Int32.le_iff_toInt_le, tI hx, tI hy]
theorem ok0 : okI 0 := by unfold okI; omega
theorem i32_0 : i32 0 = 0 := rfl
theorem i32_eq0 {x : Int} (hx : okI x) : i32 x = 0 ↔ x = 0 := i32_inj hx ok0
theorem clN {x : Int} (h : okI x) : (i32 x).toNatClampNeg = x.toNat := Int32.toNatClampNeg_ofInt_of_le h.1 h.2
theorem inb_in {x : Int} {n : Nat} (h : okI x) (hb : inb x n = true) : vp_in (i32 x) n := by
  simp only [inb, Bool.and_eq_true, decide_eq_true_eq] at hb
  rw [vp_in_iff, tI h]
  exact hb
theorem i64_inj {x y : Int} (hx : okJ x) (hy : okJ y) : i64 x = i64 y ↔ x = y := by
  constructor
  · intro h
    have := congrArg Int64.toInt h
    rwa [tJ hx, tJ hy] at this
  · intro h; rw [h]
theorem i64_lt {x y : Int} (hx : okJ x) (hy : okJ y) : i64 x < i64 y ↔ x < y := by rw [Int64.lt_iff_toInt_lt, tJ hx, tJ hy]
theorem i32_64 {x : Int} (hx : okI x) : (i32 x).toInt64 = i64 x := Int32.toInt64_ofInt hx.1 (Int.le_of_lt_add_one hx.2)
theorem ok_IJ {x : Int} (hx : okI x) : okJ x := by unfold okI at hx; unfold okJ; omega
theorem lcmp_ok {x y : Int} (hx : okJ x) (hy : okJ y) : i32 (lCmp x y) = lg_cmp (i64 x) (i64 y) := by
  unfold lCmp lg_cmp
  simp only [i64_lt hy hx, i64_inj hx hy]
  by_cases h1 : y < x
  · rw [if_pos h1, if_pos h1]; rfl
  · rw [if_neg h1, if_neg h1]
    by_cases h2 : x < y
    · rw [if_pos h2, if_neg (by omega)]; rfl
    · rw [if_neg h2, if_pos (by omega)]; rfl
