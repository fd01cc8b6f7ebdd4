/-! layout: where the constant fields lead; fields, calls and bytes by their numbers -/
theorem H0_0 {w : Wd} {a : Nat} (H : LR w) (h : (lay a).1 = 0) : gR w a 0 = some (a + 1) := LR_of H h rfl
theorem H1_0 {w : Wd} {a : Nat} (H : LR w) (h : (lay a).1 = 1) : gR w a 0 = some (a + 1) := LR_of H h rfl
theorem H1_1 {w : Wd} {a : Nat} (H : LR w) (h : (lay a).1 = 1) : gR w a 1 = some (a + 2) := LR_of H h rfl
theorem H1_2 {w : Wd} {a : Nat} (H : LR w) (h : (lay a).1 = 1) : gR w a 2 = some (a + 3) := LR_of H h rfl
theorem H1_3 {w : Wd} {a : Nat} (H : LR w) (h : (lay a).1 = 1) : gR w a 3 = some (a + 4) := LR_of H h rfl
theorem H2_0 {w : Wd} {a : Nat} (H : LR w) (h : (lay a).1 = 2) : gR w a 0 = some (a + 1) := LR_of H h rfl
theorem H2_1 {w : Wd} {a : Nat} (H : LR w) (h : (lay a).1 = 2) : gR w a 1 = some (a + 6) := LR_of H h rfl
theorem H2_2 {w : Wd} {a : Nat} (H : LR w) (h : (lay a).1 = 2) : gR w a 2 = some (a + 208) := LR_of H h rfl
theorem H2_3 {w : Wd} {a : Nat} (H : LR w) (h : (lay a).1 = 2) : gR w a 3 = some (a + 212) := LR_of H h rfl
theorem H3_0 {w : Wd} {a : Nat} (H : LR w) (h : (lay a).1 = 3) : gR w a 0 = some (a + 1) := LR_of H h rfl
theorem H3_1 {w : Wd} {a : Nat} (H : LR w) (h : (lay a).1 = 3) : gR w a 1 = some (a + 2) := LR_of H h rfl
theorem H3_2 {w : Wd} {a : Nat} (H : LR w) (h : (lay a).1 = 3) : gR w a 2 = some (a + 3) := LR_of H h rfl
theorem H3_3 {w : Wd} {a : Nat} (H : LR w) (h : (lay a).1 = 3) : gR w a 3 = some (a + 4) := LR_of H h rfl
theorem H3_4 {w : Wd} {a : Nat} (H : LR w) (h : (lay a).1 = 3) : gR w a 4 = some (a + 5) := LR_of H h rfl
theorem H3_5 {w : Wd} {a : Nat} (H : LR w) (h : (lay a).1 = 3) : gR w a 5 = some (a + 6) := LR_of H h rfl
theorem H4_4 {w : Wd} {a : Nat} (H : LR w) (h : (lay a).1 = 4) : gR w a 4 = some (a + 1) := LR_of H h rfl
theorem H4_5 {w : Wd} {a : Nat} (H : LR w) (h : (lay a).1 = 4) : gR w a 5 = some (a + 2) := LR_of H h rfl
theorem H4_6 {w : Wd} {a : Nat} (H : LR w) (h : (lay a).1 = 4) : gR w a 6 = some (a + 3) := LR_of H h rfl
theorem H4_7 {w : Wd} {a : Nat} (H : LR w) (h : (lay a).1 = 4) : gR w a 7 = some (a + 4) := LR_of H h rfl
theorem H4_8 {w : Wd} {a : Nat} (H : LR w) (h : (lay a).1 = 4) : gR w a 8 = some (a + 5) := LR_of H h rfl
theorem H4_9 {w : Wd} {a : Nat} (H : LR w) (h : (lay a).1 = 4) : gR w a 9 = some (a + 6) := LR_of H h rfl
theorem H4_10 {w : Wd} {a : Nat} (H : LR w) (h : (lay a).1 = 4) : gR w a 10 = some (a + 8) := LR_of H h rfl
theorem H5_0 {w : Wd} {a : Nat} (H : LR w) (h : (lay a).1 = 5) : gR w a 0 = some (a + 1) := LR_of H h rfl
theorem H6_0 {w : Wd} {a : Nat} (H : LR w) (h : (lay a).1 = 6) : gR w a 0 = some (a + 1) := LR_of H h rfl
theorem H7_0 {w : Wd} {a : Nat} (H : LR w) (h : (lay a).1 = 7) : gR w a 0 = some (a + 1) := LR_of H h rfl
theorem H7_1 {w : Wd} {a : Nat} (H : LR w) (h : (lay a).1 = 7) : gR w a 1 = some (a + 2) := LR_of H h rfl
theorem H7_2 {w : Wd} {a : Nat} (H : LR w) (h : (lay a).1 = 7) : gR w a 2 = some (a + 3) := LR_of H h rfl
theorem H8_0 {w : Wd} {a : Nat} (H : LR w) (h : (lay a).1 = 8) : gR w a 0 = some (a + 1) := LR_of H h rfl
theorem H8_1 {w : Wd} {a : Nat} (H : LR w) (h : (lay a).1 = 8) : gR w a 1 = some (a + 2) := LR_of H h rfl
theorem H8_2 {w : Wd} {a : Nat} (H : LR w) (h : (lay a).1 = 8) : gR w a 2 = some (a + 3) := LR_of H h rfl
theorem H8_3 {w : Wd} {a : Nat} (H : LR w) (h : (lay a).1 = 8) : gR w a 3 = some (a + 4) := LR_of H h rfl
theorem H9_0 {w : Wd} {a : Nat} (H : LR w) (h : (lay a).1 = 9) : gR w a 0 = some (a + 1) := LR_of H h rfl
theorem H9_1 {w : Wd} {a : Nat} (H : LR w) (h : (lay a).1 = 9) : gR w a 1 = some (a + 2) := LR_of H h rfl
theorem H9_2 {w : Wd} {a : Nat} (H : LR w) (h : (lay a).1 = 9) : gR w a 2 = some (a + 3) := LR_of H h rfl
theorem H10_0 {w : Wd} {a : Nat} (H : LR w) (h : (lay a).1 = 10) : gR w a 0 = some (a + 1) := LR_of H h rfl
theorem H10_1 {w : Wd} {a : Nat} (H : LR w) (h : (lay a).1 = 10) : gR w a 1 = some (a + 2) := LR_of H h rfl
theorem H11_0 {w : Wd} {a : Nat} (H : LR w) (h : (lay a).1 = 11) : gR w a 0 = some (a + 1) := LR_of H h rfl
theorem H11_4 {w : Wd} {a : Nat} (H : LR w) (h : (lay a).1 = 11) : gR w a 4 = some (a + 12) := LR_of H h rfl
theorem H11_5 {w : Wd} {a : Nat} (H : LR w) (h : (lay a).1 = 11) : gR w a 5 = some (a + 27) := LR_of H h rfl
theorem H11_6 {w : Wd} {a : Nat} (H : LR w) (h : (lay a).1 = 11) : gR w a 6 = some (a + 34) := LR_of H h rfl
theorem H11_7 {w : Wd} {a : Nat} (H : LR w) (h : (lay a).1 = 11) : gR w a 7 = some (a + 39) := LR_of H h rfl
theorem H11_8 {w : Wd} {a : Nat} (H : LR w) (h : (lay a).1 = 11) : gR w a 8 = some (a + 44) := LR_of H h rfl
theorem H11_9 {w : Wd} {a : Nat} (H : LR w) (h : (lay a).1 = 11) : gR w a 9 = some (a + 246) := LR_of H h rfl
theorem H11_10 {w : Wd} {a : Nat} (H : LR w) (h : (lay a).1 = 11) : gR w a 10 = some (a + 250) := LR_of H h rfl
theorem H11_11 {w : Wd} {a : Nat} (H : LR w) (h : (lay a).1 = 11) : gR w a 11 = some (a + 251) := LR_of H h rfl
theorem H11_12 {w : Wd} {a : Nat} (H : LR w) (h : (lay a).1 = 11) : gR w a 12 = some (a + 464) := LR_of H h rfl
theorem H11_13 {w : Wd} {a : Nat} (H : LR w) (h : (lay a).1 = 11) : gR w a 13 = some (a + 469) := LR_of H h rfl
theorem H11_14 {w : Wd} {a : Nat} (H : LR w) (h : (lay a).1 = 11) : gR w a 14 = some (a + 472) := LR_of H h rfl
theorem H12_0 {w : Wd} {a : Nat} (H : LR w) (h : (lay a).1 = 12) : gR w a 0 = some (a + 1) := LR_of H h rfl
theorem H12_1 {w : Wd} {a : Nat} (H : LR w) (h : (lay a).1 = 12) : gR w a 1 = some (a + 2) := LR_of H h rfl
theorem H12_2 {w : Wd} {a : Nat} (H : LR w) (h : (lay a).1 = 12) : gR w a 2 = some (a + 3) := LR_of H h rfl
theorem H12_5 {w : Wd} {a : Nat} (H : LR w) (h : (lay a).1 = 12) : gR w a 5 = some (a + 4) := LR_of H h rfl
theorem H12_6 {w : Wd} {a : Nat} (H : LR w) (h : (lay a).1 = 12) : gR w a 6 = some (a + 5) := LR_of H h rfl
theorem H12_7 {w : Wd} {a : Nat} (H : LR w) (h : (lay a).1 = 12) : gR w a 7 = some (a + 6) := LR_of H h rfl
theorem H12_8 {w : Wd} {a : Nat} (H : LR w) (h : (lay a).1 = 12) : gR w a 8 = some (a + 7) := LR_of H h rfl
theorem H12_9 {w : Wd} {a : Nat} (H : LR w) (h : (lay a).1 = 12) : gR w a 9 = some (a + 8) := LR_of H h rfl
theorem H12_10 {w : Wd} {a : Nat} (H : LR w) (h : (lay a).1 = 12) : gR w a 10 = some (a + 9) := LR_of H h rfl
theorem H12_11 {w : Wd} {a : Nat} (H : LR w) (h : (lay a).1 = 12) : gR w a 11 = some (a + 10) := LR_of H h rfl
theorem H12_12 {w : Wd} {a : Nat} (H : LR w) (h : (lay a).1 = 12) : gR w a 12 = some (a + 11) := LR_of H h rfl
theorem H12_13 {w : Wd} {a : Nat} (H : LR w) (h : (lay a).1 = 12) : gR w a 13 = some (a + 12) := LR_of H h rfl
theorem H12_14 {w : Wd} {a : Nat} (H : LR w) (h : (lay a).1 = 12) : gR w a 14 = some (a + 13) := LR_of H h rfl
theorem H12_15 {w : Wd} {a : Nat} (H : LR w) (h : (lay a).1 = 12) : gR w a 15 = some (a + 14) := LR_of H h rfl
theorem H12_16 {w : Wd} {a : Nat} (H : LR w) (h : (lay a).1 = 12) : gR w a 16 = some (a + 15) := LR_of H h rfl
theorem H12_29 {w : Wd} {a : Nat} (H : LR w) (h : (lay a).1 = 12) : gR w a 29 = some (a + 16) := LR_of H h rfl
theorem H12_30 {w : Wd} {a : Nat} (H : LR w) (h : (lay a).1 = 12) : gR w a 30 = some (a + 17) := LR_of H h rfl
theorem H12_31 {w : Wd} {a : Nat} (H : LR w) (h : (lay a).1 = 12) : gR w a 31 = some (a + 18) := LR_of H h rfl
theorem H12_32 {w : Wd} {a : Nat} (H : LR w) (h : (lay a).1 = 12) : gR w a 32 = some (a + 19) := LR_of H h rfl
theorem H12_39 {w : Wd} {a : Nat} (H : LR w) (h : (lay a).1 = 12) : gR w a 39 = some (a + 20) := LR_of H h rfl
theorem H12_40 {w : Wd} {a : Nat} (H : LR w) (h : (lay a).1 = 12) : gR w a 40 = some (a + 21) := LR_of H h rfl
theorem H12_41 {w : Wd} {a : Nat} (H : LR w) (h : (lay a).1 = 12) : gR w a 41 = some (a + 22) := LR_of H h rfl
theorem H12_42 {w : Wd} {a : Nat} (H : LR w) (h : (lay a).1 = 12) : gR w a 42 = some (a + 23) := LR_of H h rfl
theorem H12_45 {w : Wd} {a : Nat} (H : LR w) (h : (lay a).1 = 12) : gR w a 45 = some (a + 24) := LR_of H h rfl
theorem H12_46 {w : Wd} {a : Nat} (H : LR w) (h : (lay a).1 = 12) : gR w a 46 = some (a + 25) := LR_of H h rfl
theorem H12_47 {w : Wd} {a : Nat} (H : LR w) (h : (lay a).1 = 12) : gR w a 47 = some (a + 26) := LR_of H h rfl
theorem H12_48 {w : Wd} {a : Nat} (H : LR w) (h : (lay a).1 = 12) : gR w a 48 = some (a + 27) := LR_of H h rfl
theorem H12_49 {w : Wd} {a : Nat} (H : LR w) (h : (lay a).1 = 12) : gR w a 49 = some (a + 28) := LR_of H h rfl
theorem H12_50 {w : Wd} {a : Nat} (H : LR w) (h : (lay a).1 = 12) : gR w a 50 = some (a + 29) := LR_of H h rfl
theorem H12_51 {w : Wd} {a : Nat} (H : LR w) (h : (lay a).1 = 12) : gR w a 51 = some (a + 30) := LR_of H h rfl
theorem H12_52 {w : Wd} {a : Nat} (H : LR w) (h : (lay a).1 = 12) : gR w a 52 = some (a + 31) := LR_of H h rfl
theorem H12_53 {w : Wd} {a : Nat} (H : LR w) (h : (lay a).1 = 12) : gR w a 53 = some (a + 32) := LR_of H h rfl
theorem H12_54 {w : Wd} {a : Nat} (H : LR w) (h : (lay a).1 = 12) : gR w a 54 = some (a + 33) := LR_of H h rfl
theorem H12_56 {w : Wd} {a : Nat} (H : LR w) (h : (lay a).1 = 12) : gR w a 56 = some (a + 34) := LR_of H h rfl
theorem H12_61 {w : Wd} {a : Nat} (H : LR w) (h : (lay a).1 = 12) : gR w a 61 = some (a + 35) := LR_of H h rfl
theorem H12_62 {w : Wd} {a : Nat} (H : LR w) (h : (lay a).1 = 12) : gR w a 62 = some (a + 36) := LR_of H h rfl
theorem H12_63 {w : Wd} {a : Nat} (H : LR w) (h : (lay a).1 = 12) : gR w a 63 = some (a + 37) := LR_of H h rfl
theorem H12_64 {w : Wd} {a : Nat} (H : LR w) (h : (lay a).1 = 12) : gR w a 64 = some (a + 38) := LR_of H h rfl
theorem H12_65 {w : Wd} {a : Nat} (H : LR w) (h : (lay a).1 = 12) : gR w a 65 = some (a + 39) := LR_of H h rfl
theorem H12_66 {w : Wd} {a : Nat} (H : LR w) (h : (lay a).1 = 12) : gR w a 66 = some (a + 40) := LR_of H h rfl
def lyT : List ((Nat × Nat) × (Nat × Nat)) := [((0, 1), (23, 40)), ((1, 1), (21, 256)), ((1, 2), (21, 256)), ((1, 3), (21, 8)), ((1, 4), (21, 64)), ((2, 1), (8, 8)), ((2, 6), (0, 2)), ((2, 208), (7, 4)), ((2, 212), (21, 3)), ((3, 1), (21, 8)), ((3, 2), (21, 6)), ((3, 3), (21, 8)), ((3, 4), (21, 8)), ((3, 5), (21, 64)), ((3, 6), (21, 40)), ((4, 1), (21, 8)), ((4, 2), (21, 8)), ((4, 3), (21, 8)), ((4, 4), (21, 8)), ((4, 5), (21, 48)), ((4, 6), (6, 2)), ((4, 8), (6, 2)), ((5, 1), (9, 4)), ((6, 1), (21, 700)), ((7, 1), (21, 8)), ((7, 2), (21, 8)), ((7, 3), (21, 8)), ((8, 1), (21, 8)), ((8, 2), (21, 8)), ((8, 3), (21, 8)), ((8, 4), (21, 8)), ((9, 1), (21, 701)), ((9, 2), (21, 701)), ((9, 3), (21, 701)), ((10, 1), (22, 128)), ((10, 2), (21, 8)), ((11, 1), (20, 700)), ((11, 12), (5, 9)), ((11, 27), (3, 8)), ((11, 34), (8, 8)), ((11, 39), (8, 8)), ((11, 44), (0, 2)), ((11, 246), (7, 4)), ((11, 250), (21, 3)), ((11, 251), (2, 5)), ((11, 464), (1, 6)), ((11, 469), (10, 2)), ((11, 472), (21, 8)), ((12, 1), (24, 2)), ((12, 2), (24, 5)), ((12, 3), (24, 7)), ((12, 4), (21, 10)), ((12, 5), (21, 16)), ((12, 6), (21, 16)), ((12, 7), (21, 16)), ((12, 8), (21, 16)), ((12, 9), (21, 16)), ((12, 10), (21, 96)), ((12, 11), (21, 1400)), ((12, 12), (21, 1400)), ((12, 13), (21, 3)), ((12, 14), (21, 8)), ((12, 15), (21, 700)), ((12, 16), (21, 8)), ((12, 17), (21, 8)), ((12, 18), (21, 8)), ((12, 19), (21, 1120)), ((12, 20), (21, 7)), ((12, 21), (21, 64)), ((12, 22), (21, 8)), ((12, 23), (21, 64)), ((12, 24), (21, 28)), ((12, 25), (21, 8)), ((12, 26), (21, 6)), ((12, 27), (21, 256)), ((12, 28), (21, 8)), ((12, 29), (21, 8)), ((12, 30), (21, 8)), ((12, 31), (21, 28)), ((12, 32), (21, 480)), ((12, 33), (21, 3840)), ((12, 34), (21, 8)), ((12, 35), (21, 28)), ((12, 36), (21, 1120)), ((12, 37), (21, 8)), ((12, 38), (21, 8)), ((12, 39), (21, 8)), ((12, 40), (21, 3))]
def chkL : List (Nat × Nat) → Bool
  | [] => true
  | x :: t => lyT.all (fun e => !(x.1 == e.1.1) || decide ((x :: t).getD e.1.2 (99, 0) = e.2)) && chkL t
theorem chkL_of : ∀ (l : List (Nat × Nat)), chkL l = true → ∀ (a : Nat) (e : (Nat × Nat) × (Nat × Nat)), e ∈ lyT → a < l.length → (l.getD a (99, 0)).1 = e.1.1 → l.getD (a + e.1.2) (99, 0) = e.2 := by
  intro l
  induction l with
  | nil => intro _ a e _ ha; simp at ha
  | cons x t ih =>
    intro h a e he ha hl
    unfold chkL at h
    simp only [Bool.and_eq_true] at h
    cases a with
    | zero =>
      have h1 := List.all_eq_true.mp h.1 e he
      have h2 : x.1 = e.1.1 := by simpa using hl
      simp only [h2, beq_self_eq_true, Bool.not_true, Bool.false_or, decide_eq_true_eq] at h1
      rw [Nat.zero_add]
      exact h1
    | succ a =>
      have h1 := ih h.2 a e he (by simpa using ha) (by simpa using hl)
      rw [show a + 1 + e.1.2 = (a + e.1.2) + 1 by omega]
      simpa using h1
set_option maxRecDepth 100000 in
theorem chkL_ok : chkL layL = true := by decide +kernel
theorem ly_of {ci o kd n a : Nat} (h : (lay a).1 = ci) (hc : ci < 99) (he : ((ci, o), (kd, n)) ∈ lyT) : lay (a + o) = (kd, n) := by
  have h1 := lay_lt h (by omega)
  exact chkL_of layL chkL_ok a ((ci, o), (kd, n)) he (by rw [layL_len]; exact h1) h
theorem ly0_1 {a : Nat} (h : (lay a).1 = 0) : lay (a + 1) = (23, 40) := ly_of h (by decide) (List.mem_of_getElem? (i := 0) rfl)
theorem ly1_1 {a : Nat} (h : (lay a).1 = 1) : lay (a + 1) = (21, 256) := ly_of h (by decide) (List.mem_of_getElem? (i := 1) rfl)
theorem ly1_2 {a : Nat} (h : (lay a).1 = 1) : lay (a + 2) = (21, 256) := ly_of h (by decide) (List.mem_of_getElem? (i := 2) rfl)
theorem ly1_3 {a : Nat} (h : (lay a).1 = 1) : lay (a + 3) = (21, 8) := ly_of h (by decide) (List.mem_of_getElem? (i := 3) rfl)
theorem ly1_4 {a : Nat} (h : (lay a).1 = 1) : lay (a + 4) = (21, 64) := ly_of h (by decide) (List.mem_of_getElem? (i := 4) rfl)
theorem ly2_1 {a : Nat} (h : (lay a).1 = 2) : lay (a + 1) = (8, 8) := ly_of h (by decide) (List.mem_of_getElem? (i := 5) rfl)
theorem ly2_6 {a : Nat} (h : (lay a).1 = 2) : lay (a + 6) = (0, 2) := ly_of h (by decide) (List.mem_of_getElem? (i := 6) rfl)
theorem ly2_208 {a : Nat} (h : (lay a).1 = 2) : lay (a + 208) = (7, 4) := ly_of h (by decide) (List.mem_of_getElem? (i := 7) rfl)
theorem ly2_212 {a : Nat} (h : (lay a).1 = 2) : lay (a + 212) = (21, 3) := ly_of h (by decide) (List.mem_of_getElem? (i := 8) rfl)
theorem ly3_1 {a : Nat} (h : (lay a).1 = 3) : lay (a + 1) = (21, 8) := ly_of h (by decide) (List.mem_of_getElem? (i := 9) rfl)
theorem ly3_2 {a : Nat} (h : (lay a).1 = 3) : lay (a + 2) = (21, 6) := ly_of h (by decide) (List.mem_of_getElem? (i := 10) rfl)
theorem ly3_3 {a : Nat} (h : (lay a).1 = 3) : lay (a + 3) = (21, 8) := ly_of h (by decide) (List.mem_of_getElem? (i := 11) rfl)
theorem ly3_4 {a : Nat} (h : (lay a).1 = 3) : lay (a + 4) = (21, 8) := ly_of h (by decide) (List.mem_of_getElem? (i := 12) rfl)
theorem ly3_5 {a : Nat} (h : (lay a).1 = 3) : lay (a + 5) = (21, 64) := ly_of h (by decide) (List.mem_of_getElem? (i := 13) rfl)
theorem ly3_6 {a : Nat} (h : (lay a).1 = 3) : lay (a + 6) = (21, 40) := ly_of h (by decide) (List.mem_of_getElem? (i := 14) rfl)
theorem ly4_1 {a : Nat} (h : (lay a).1 = 4) : lay (a + 1) = (21, 8) := ly_of h (by decide) (List.mem_of_getElem? (i := 15) rfl)
theorem ly4_2 {a : Nat} (h : (lay a).1 = 4) : lay (a + 2) = (21, 8) := ly_of h (by decide) (List.mem_of_getElem? (i := 16) rfl)
theorem ly4_3 {a : Nat} (h : (lay a).1 = 4) : lay (a + 3) = (21, 8) := ly_of h (by decide) (List.mem_of_getElem? (i := 17) rfl)
theorem ly4_4 {a : Nat} (h : (lay a).1 = 4) : lay (a + 4) = (21, 8) := ly_of h (by decide) (List.mem_of_getElem? (i := 18) rfl)
theorem ly4_5 {a : Nat} (h : (lay a).1 = 4) : lay (a + 5) = (21, 48) := ly_of h (by decide) (List.mem_of_getElem? (i := 19) rfl)
theorem ly4_6 {a : Nat} (h : (lay a).1 = 4) : lay (a + 6) = (6, 2) := ly_of h (by decide) (List.mem_of_getElem? (i := 20) rfl)
theorem ly4_8 {a : Nat} (h : (lay a).1 = 4) : lay (a + 8) = (6, 2) := ly_of h (by decide) (List.mem_of_getElem? (i := 21) rfl)
theorem ly5_1 {a : Nat} (h : (lay a).1 = 5) : lay (a + 1) = (9, 4) := ly_of h (by decide) (List.mem_of_getElem? (i := 22) rfl)
theorem ly6_1 {a : Nat} (h : (lay a).1 = 6) : lay (a + 1) = (21, 700) := ly_of h (by decide) (List.mem_of_getElem? (i := 23) rfl)
theorem ly7_1 {a : Nat} (h : (lay a).1 = 7) : lay (a + 1) = (21, 8) := ly_of h (by decide) (List.mem_of_getElem? (i := 24) rfl)
theorem ly7_2 {a : Nat} (h : (lay a).1 = 7) : lay (a + 2) = (21, 8) := ly_of h (by decide) (List.mem_of_getElem? (i := 25) rfl)
theorem ly7_3 {a : Nat} (h : (lay a).1 = 7) : lay (a + 3) = (21, 8) := ly_of h (by decide) (List.mem_of_getElem? (i := 26) rfl)
theorem ly8_1 {a : Nat} (h : (lay a).1 = 8) : lay (a + 1) = (21, 8) := ly_of h (by decide) (List.mem_of_getElem? (i := 27) rfl)
theorem ly8_2 {a : Nat} (h : (lay a).1 = 8) : lay (a + 2) = (21, 8) := ly_of h (by decide) (List.mem_of_getElem? (i := 28) rfl)
theorem ly8_3 {a : Nat} (h : (lay a).1 = 8) : lay (a + 3) = (21, 8) := ly_of h (by decide) (List.mem_of_getElem? (i := 29) rfl)
theorem ly8_4 {a : Nat} (h : (lay a).1 = 8) : lay (a + 4) = (21, 8) := ly_of h (by decide) (List.mem_of_getElem? (i := 30) rfl)
theorem ly9_1 {a : Nat} (h : (lay a).1 = 9) : lay (a + 1) = (21, 701) := ly_of h (by decide) (List.mem_of_getElem? (i := 31) rfl)
theorem ly9_2 {a : Nat} (h : (lay a).1 = 9) : lay (a + 2) = (21, 701) := ly_of h (by decide) (List.mem_of_getElem? (i := 32) rfl)
theorem ly9_3 {a : Nat} (h : (lay a).1 = 9) : lay (a + 3) = (21, 701) := ly_of h (by decide) (List.mem_of_getElem? (i := 33) rfl)
theorem ly10_1 {a : Nat} (h : (lay a).1 = 10) : lay (a + 1) = (22, 128) := ly_of h (by decide) (List.mem_of_getElem? (i := 34) rfl)
theorem ly10_2 {a : Nat} (h : (lay a).1 = 10) : lay (a + 2) = (21, 8) := ly_of h (by decide) (List.mem_of_getElem? (i := 35) rfl)
theorem ly11_1 {a : Nat} (h : (lay a).1 = 11) : lay (a + 1) = (20, 700) := ly_of h (by decide) (List.mem_of_getElem? (i := 36) rfl)
theorem ly11_12 {a : Nat} (h : (lay a).1 = 11) : lay (a + 12) = (5, 9) := ly_of h (by decide) (List.mem_of_getElem? (i := 37) rfl)
theorem ly11_27 {a : Nat} (h : (lay a).1 = 11) : lay (a + 27) = (3, 8) := ly_of h (by decide) (List.mem_of_getElem? (i := 38) rfl)
theorem ly11_34 {a : Nat} (h : (lay a).1 = 11) : lay (a + 34) = (8, 8) := ly_of h (by decide) (List.mem_of_getElem? (i := 39) rfl)
theorem ly11_39 {a : Nat} (h : (lay a).1 = 11) : lay (a + 39) = (8, 8) := ly_of h (by decide) (List.mem_of_getElem? (i := 40) rfl)
theorem ly11_44 {a : Nat} (h : (lay a).1 = 11) : lay (a + 44) = (0, 2) := ly_of h (by decide) (List.mem_of_getElem? (i := 41) rfl)
theorem ly11_246 {a : Nat} (h : (lay a).1 = 11) : lay (a + 246) = (7, 4) := ly_of h (by decide) (List.mem_of_getElem? (i := 42) rfl)
theorem ly11_250 {a : Nat} (h : (lay a).1 = 11) : lay (a + 250) = (21, 3) := ly_of h (by decide) (List.mem_of_getElem? (i := 43) rfl)
theorem ly11_251 {a : Nat} (h : (lay a).1 = 11) : lay (a + 251) = (2, 5) := ly_of h (by decide) (List.mem_of_getElem? (i := 44) rfl)
theorem ly11_464 {a : Nat} (h : (lay a).1 = 11) : lay (a + 464) = (1, 6) := ly_of h (by decide) (List.mem_of_getElem? (i := 45) rfl)
theorem ly11_469 {a : Nat} (h : (lay a).1 = 11) : lay (a + 469) = (10, 2) := ly_of h (by decide) (List.mem_of_getElem? (i := 46) rfl)
theorem ly11_472 {a : Nat} (h : (lay a).1 = 11) : lay (a + 472) = (21, 8) := ly_of h (by decide) (List.mem_of_getElem? (i := 47) rfl)
theorem ly12_1 {a : Nat} (h : (lay a).1 = 12) : lay (a + 1) = (24, 2) := ly_of h (by decide) (List.mem_of_getElem? (i := 48) rfl)
theorem ly12_2 {a : Nat} (h : (lay a).1 = 12) : lay (a + 2) = (24, 5) := ly_of h (by decide) (List.mem_of_getElem? (i := 49) rfl)
theorem ly12_3 {a : Nat} (h : (lay a).1 = 12) : lay (a + 3) = (24, 7) := ly_of h (by decide) (List.mem_of_getElem? (i := 50) rfl)
theorem ly12_4 {a : Nat} (h : (lay a).1 = 12) : lay (a + 4) = (21, 10) := ly_of h (by decide) (List.mem_of_getElem? (i := 51) rfl)
theorem ly12_5 {a : Nat} (h : (lay a).1 = 12) : lay (a + 5) = (21, 16) := ly_of h (by decide) (List.mem_of_getElem? (i := 52) rfl)
theorem ly12_6 {a : Nat} (h : (lay a).1 = 12) : lay (a + 6) = (21, 16) := ly_of h (by decide) (List.mem_of_getElem? (i := 53) rfl)
theorem ly12_7 {a : Nat} (h : (lay a).1 = 12) : lay (a + 7) = (21, 16) := ly_of h (by decide) (List.mem_of_getElem? (i := 54) rfl)
theorem ly12_8 {a : Nat} (h : (lay a).1 = 12) : lay (a + 8) = (21, 16) := ly_of h (by decide) (List.mem_of_getElem? (i := 55) rfl)
theorem ly12_9 {a : Nat} (h : (lay a).1 = 12) : lay (a + 9) = (21, 16) := ly_of h (by decide) (List.mem_of_getElem? (i := 56) rfl)
theorem ly12_10 {a : Nat} (h : (lay a).1 = 12) : lay (a + 10) = (21, 96) := ly_of h (by decide) (List.mem_of_getElem? (i := 57) rfl)
theorem ly12_11 {a : Nat} (h : (lay a).1 = 12) : lay (a + 11) = (21, 1400) := ly_of h (by decide) (List.mem_of_getElem? (i := 58) rfl)
theorem ly12_12 {a : Nat} (h : (lay a).1 = 12) : lay (a + 12) = (21, 1400) := ly_of h (by decide) (List.mem_of_getElem? (i := 59) rfl)
theorem ly12_13 {a : Nat} (h : (lay a).1 = 12) : lay (a + 13) = (21, 3) := ly_of h (by decide) (List.mem_of_getElem? (i := 60) rfl)
theorem ly12_14 {a : Nat} (h : (lay a).1 = 12) : lay (a + 14) = (21, 8) := ly_of h (by decide) (List.mem_of_getElem? (i := 61) rfl)
theorem ly12_15 {a : Nat} (h : (lay a).1 = 12) : lay (a + 15) = (21, 700) := ly_of h (by decide) (List.mem_of_getElem? (i := 62) rfl)
theorem ly12_16 {a : Nat} (h : (lay a).1 = 12) : lay (a + 16) = (21, 8) := ly_of h (by decide) (List.mem_of_getElem? (i := 63) rfl)
theorem ly12_17 {a : Nat} (h : (lay a).1 = 12) : lay (a + 17) = (21, 8) := ly_of h (by decide) (List.mem_of_getElem? (i := 64) rfl)
theorem ly12_18 {a : Nat} (h : (lay a).1 = 12) : lay (a + 18) = (21, 8) := ly_of h (by decide) (List.mem_of_getElem? (i := 65) rfl)
theorem ly12_19 {a : Nat} (h : (lay a).1 = 12) : lay (a + 19) = (21, 1120) := ly_of h (by decide) (List.mem_of_getElem? (i := 66) rfl)
theorem ly12_20 {a : Nat} (h : (lay a).1 = 12) : lay (a + 20) = (21, 7) := ly_of h (by decide) (List.mem_of_getElem? (i := 67) rfl)
theorem ly12_21 {a : Nat} (h : (lay a).1 = 12) : lay (a + 21) = (21, 64) := ly_of h (by decide) (List.mem_of_getElem? (i := 68) rfl)
theorem ly12_22 {a : Nat} (h : (lay a).1 = 12) : lay (a + 22) = (21, 8) := ly_of h (by decide) (List.mem_of_getElem? (i := 69) rfl)
theorem ly12_23 {a : Nat} (h : (lay a).1 = 12) : lay (a + 23) = (21, 64) := ly_of h (by decide) (List.mem_of_getElem? (i := 70) rfl)
theorem ly12_24 {a : Nat} (h : (lay a).1 = 12) : lay (a + 24) = (21, 28) := ly_of h (by decide) (List.mem_of_getElem? (i := 71) rfl)
theorem ly12_25 {a : Nat} (h : (lay a).1 = 12) : lay (a + 25) = (21, 8) := ly_of h (by decide) (List.mem_of_getElem? (i := 72) rfl)
theorem ly12_26 {a : Nat} (h : (lay a).1 = 12) : lay (a + 26) = (21, 6) := ly_of h (by decide) (List.mem_of_getElem? (i := 73) rfl)
theorem ly12_27 {a : Nat} (h : (lay a).1 = 12) : lay (a + 27) = (21, 256) := ly_of h (by decide) (List.mem_of_getElem? (i := 74) rfl)
theorem ly12_28 {a : Nat} (h : (lay a).1 = 12) : lay (a + 28) = (21, 8) := ly_of h (by decide) (List.mem_of_getElem? (i := 75) rfl)
theorem ly12_29 {a : Nat} (h : (lay a).1 = 12) : lay (a + 29) = (21, 8) := ly_of h (by decide) (List.mem_of_getElem? (i := 76) rfl)
theorem ly12_30 {a : Nat} (h : (lay a).1 = 12) : lay (a + 30) = (21, 8) := ly_of h (by decide) (List.mem_of_getElem? (i := 77) rfl)
theorem ly12_31 {a : Nat} (h : (lay a).1 = 12) : lay (a + 31) = (21, 28) := ly_of h (by decide) (List.mem_of_getElem? (i := 78) rfl)
theorem ly12_32 {a : Nat} (h : (lay a).1 = 12) : lay (a + 32) = (21, 480) := ly_of h (by decide) (List.mem_of_getElem? (i := 79) rfl)
theorem ly12_33 {a : Nat} (h : (lay a).1 = 12) : lay (a + 33) = (21, 3840) := ly_of h (by decide) (List.mem_of_getElem? (i := 80) rfl)
theorem ly12_34 {a : Nat} (h : (lay a).1 = 12) : lay (a + 34) = (21, 8) := ly_of h (by decide) (List.mem_of_getElem? (i := 81) rfl)
theorem ly12_35 {a : Nat} (h : (lay a).1 = 12) : lay (a + 35) = (21, 28) := ly_of h (by decide) (List.mem_of_getElem? (i := 82) rfl)
theorem ly12_36 {a : Nat} (h : (lay a).1 = 12) : lay (a + 36) = (21, 1120) := ly_of h (by decide) (List.mem_of_getElem? (i := 83) rfl)
theorem ly12_37 {a : Nat} (h : (lay a).1 = 12) : lay (a + 37) = (21, 8) := ly_of h (by decide) (List.mem_of_getElem? (i := 84) rfl)
theorem ly12_38 {a : Nat} (h : (lay a).1 = 12) : lay (a + 38) = (21, 8) := ly_of h (by decide) (List.mem_of_getElem? (i := 85) rfl)
theorem ly12_39 {a : Nat} (h : (lay a).1 = 12) : lay (a + 39) = (21, 8) := ly_of h (by decide) (List.mem_of_getElem? (i := 86) rfl)
theorem ly12_40 {a : Nat} (h : (lay a).1 = 12) : lay (a + 40) = (21, 3) := ly_of h (by decide) (List.mem_of_getElem? (i := 87) rfl)
theorem lyc {a k n : Nat} (h : lay a = (k, n)) : (lay a).1 = k := by rw [h]
theorem h_sm {a k n : Nat} (hk : Nat.blt k 99 = true) (h : lay a = (k, n)) : Nat.blt a 1000000 = true := by
  have := lay_lt (lyc h) (by have := Nat.blt_eq.mp hk; omega)
  exact Nat.blt_eq.mpr (by omega)
theorem h_str {a k : Nat} (h : (lay a).1 = k) (hk : Nat.blt k 99 = true := by rfl) : a < STR := by
  have := lay_lt h (by have := Nat.blt_eq.mp hk; omega)
  have e : STR = 1000000 := rfl
  omega
theorem f0_11 : fres 0 11 = some (11, 0, 0, 0, 2005) := rfl
theorem f0_17 : fres 0 17 = some (17, 0, 1, 0, 2006) := rfl
theorem f1_9 : fres 1 9 = some (9, 1, 0, 0, 2072) := rfl
theorem f1_15 : fres 1 15 = some (15, 1, 1, 0, 2073) := rfl
theorem f1_18 : fres 1 18 = some (18, 1, 2, 0, 2074) := rfl
theorem f1_21 : fres 1 21 = some (21, 1, 3, 0, 2075) := rfl
theorem f1_24 : fres 1 24 = some (24, 1, 4, 0, 2076) := rfl
theorem f1_28 : fres 1 28 = some (28, 1, 5, 0, 2078) := rfl
theorem f1_31 : fres 1 31 = some (31, 4, 1, 1, 1063) := rfl
theorem f1_56 : fres 1 56 = some (56, 8, 7, 1, 1217) := rfl
theorem f3_9 : fres 3 9 = some (9, 3, 0, 0, 1171) := rfl
theorem f3_15 : fres 3 15 = some (15, 3, 1, 0, 1172) := rfl
theorem f3_18 : fres 3 18 = some (18, 3, 2, 0, 1173) := rfl
theorem f3_21 : fres 3 21 = some (21, 3, 3, 0, 1174) := rfl
theorem f3_24 : fres 3 24 = some (24, 3, 4, 0, 1175) := rfl
theorem f3_29 : fres 3 29 = some (29, 3, 5, 0, 1176) := rfl
theorem f3_32 : fres 3 32 = some (32, 3, 6, 0, 1177) := rfl
theorem f3_36 : fres 3 36 = some (36, 3, 7, 0, 1179) := rfl
theorem f3_45 : fres 3 45 = some (45, 8, 7, 1, 1216) := rfl
theorem f3_54 : fres 3 54 = some (54, 4, 1, 1, 1064) := rfl
theorem f3_74 : fres 3 74 = some (74, 8, 4, 1, 1209) := rfl
theorem f3_102 : fres 3 102 = some (102, 4, 9, 1, 1081) := rfl
theorem f3_132 : fres 3 132 = some (132, 4, 10, 1, 1083) := rfl
theorem f3_138 : fres 3 138 = some (138, 6, 1, 1, 1051) := rfl
theorem f3_141 : fres 3 141 = some (141, 6, 0, 1, 1049) := rfl
theorem f4_9 : fres 4 9 = some (9, 4, 0, 0, 1059) := rfl
theorem f4_15 : fres 4 15 = some (15, 4, 1, 0, 1062) := rfl
theorem f4_18 : fres 4 18 = some (18, 4, 2, 0, 1067) := rfl
theorem f4_21 : fres 4 21 = some (21, 4, 3, 0, 1070) := rfl
theorem f4_24 : fres 4 24 = some (24, 4, 4, 0, 1071) := rfl
theorem f4_28 : fres 4 28 = some (28, 4, 5, 0, 1073) := rfl
theorem f4_31 : fres 4 31 = some (31, 4, 6, 0, 1075) := rfl
theorem f4_34 : fres 4 34 = some (34, 4, 7, 0, 1077) := rfl
theorem f4_37 : fres 4 37 = some (37, 4, 8, 0, 1078) := rfl
theorem f4_43 : fres 4 43 = some (43, 4, 9, 0, 1080) := rfl
theorem f4_47 : fres 4 47 = some (47, 4, 10, 0, 1082) := rfl
theorem f5_12 : fres 5 12 = some (12, 5, 0, 0, 1135) := rfl
theorem f5_21 : fres 5 21 = some (21, 5, 1, 0, 1136) := rfl
theorem f5_25 : fres 5 25 = some (25, 4, 9, 1, 1079) := rfl
theorem f5_29 : fres 5 29 = some (29, 5, 2, 0, 1138) := rfl
theorem f5_32 : fres 5 32 = some (32, 5, 3, 0, 1139) := rfl
theorem f5_36 : fres 5 36 = some (36, 5, 4, 0, 1140) := rfl
theorem f5_39 : fres 5 39 = some (39, 5, 5, 0, 1141) := rfl
theorem f5_42 : fres 5 42 = some (42, 5, 6, 0, 1142) := rfl
theorem f5_45 : fres 5 45 = some (45, 5, 7, 0, 1144) := rfl
theorem f5_49 : fres 5 49 = some (49, 5, 8, 0, 1145) := rfl
theorem f5_100 : fres 5 100 = some (100, 4, 10, 1, 1084) := rfl
theorem f5_103 : fres 5 103 = some (103, 4, 1, 1, 1066) := rfl
theorem f5_110 : fres 5 110 = some (110, 4, 0, 1, 1061) := rfl
theorem f5_113 : fres 5 113 = some (113, 4, 2, 1, 1069) := rfl
theorem f6_9 : fres 6 9 = some (9, 6, 0, 0, 1048) := rfl
theorem f6_15 : fres 6 15 = some (15, 6, 1, 0, 1050) := rfl
theorem f7_9 : fres 7 9 = some (9, 7, 0, 0, 2019) := rfl
theorem f7_15 : fres 7 15 = some (15, 7, 1, 0, 2020) := rfl
theorem f7_18 : fres 7 18 = some (18, 7, 2, 0, 2021) := rfl
theorem f7_21 : fres 7 21 = some (21, 7, 3, 0, 2022) := rfl
theorem f8_9 : fres 8 9 = some (9, 8, 0, 0, 1204) := rfl
theorem f8_15 : fres 8 15 = some (15, 8, 1, 0, 1205) := rfl
theorem f8_18 : fres 8 18 = some (18, 8, 2, 0, 1206) := rfl
theorem f8_21 : fres 8 21 = some (21, 8, 3, 0, 1207) := rfl
theorem f8_24 : fres 8 24 = some (24, 8, 4, 0, 1208) := rfl
theorem f8_28 : fres 8 28 = some (28, 8, 5, 0, 1211) := rfl
theorem f8_32 : fres 8 32 = some (32, 8, 6, 0, 1213) := rfl
theorem f8_35 : fres 8 35 = some (35, 8, 7, 0, 1215) := rfl
theorem f8_38 : fres 8 38 = some (38, 4, 4, 1, 1072) := rfl
theorem f8_47 : fres 8 47 = some (47, 4, 5, 1, 1074) := rfl
theorem f8_48 : fres 8 48 = some (48, 4, 6, 1, 1076) := rfl
theorem f8_55 : fres 8 55 = some (55, 4, 2, 1, 1068) := rfl
theorem f9_9 : fres 9 9 = some (9, 9, 0, 0, 1120) := rfl
theorem f9_15 : fres 9 15 = some (15, 9, 1, 0, 1121) := rfl
theorem f9_18 : fres 9 18 = some (18, 9, 2, 0, 1122) := rfl
theorem f9_21 : fres 9 21 = some (21, 9, 3, 0, 1123) := rfl
theorem f10_11 : fres 10 11 = some (11, 10, 0, 0, 2099) := rfl
theorem f10_15 : fres 10 15 = some (15, 10, 1, 0, 2100) := rfl
theorem f11_9 : fres 11 9 = some (9, 11, 0, 0, 2107) := rfl
theorem f11_13 : fres 11 13 = some (13, 11, 1, 0, 2108) := rfl
theorem f11_17 : fres 11 17 = some (17, 11, 2, 0, 2109) := rfl
theorem f11_23 : fres 11 23 = some (23, 11, 3, 0, 2110) := rfl
theorem f11_30 : fres 11 30 = some (30, 11, 4, 0, 2111) := rfl
theorem f11_37 : fres 11 37 = some (37, 11, 5, 0, 2112) := rfl
theorem f11_44 : fres 11 44 = some (44, 11, 6, 0, 2113) := rfl
theorem f11_48 : fres 11 48 = some (48, 11, 7, 0, 2114) := rfl
theorem f11_54 : fres 11 54 = some (54, 11, 8, 0, 2115) := rfl
theorem f11_61 : fres 11 61 = some (61, 11, 9, 0, 2116) := rfl
theorem f11_65 : fres 11 65 = some (65, 11, 10, 0, 2117) := rfl
theorem f11_72 : fres 11 72 = some (72, 11, 11, 0, 2118) := rfl
theorem f11_79 : fres 11 79 = some (79, 11, 12, 0, 2119) := rfl
theorem f11_86 : fres 11 86 = some (86, 11, 13, 0, 2120) := rfl
theorem f11_90 : fres 11 90 = some (90, 11, 14, 0, 2121) := rfl
theorem f11_93 : fres 11 93 = some (93, 11, 15, 0, 2122) := rfl
theorem f11_111 : fres 11 111 = some (111, 5, 6, 1, 1143) := rfl
theorem f11_118 : fres 11 118 = some (118, 5, 1, 1, 1137) := rfl
theorem f11_129 : fres 11 129 = some (129, 2, 4, 1, 2054) := rfl
theorem f11_140 : fres 11 140 = some (140, 4, 0, 1, 1060) := rfl
theorem f11_143 : fres 11 143 = some (143, 4, 1, 1, 1065) := rfl
theorem f11_146 : fres 11 146 = some (146, 8, 7, 1, 1218) := rfl
theorem f11_149 : fres 11 149 = some (149, 8, 6, 1, 1214) := rfl
theorem f11_152 : fres 11 152 = some (152, 8, 5, 1, 1212) := rfl
theorem f11_159 : fres 11 159 = some (159, 8, 4, 1, 1210) := rfl
theorem f11_168 : fres 11 168 = some (168, 0, 1, 1, 2007) := rfl
theorem f11_171 : fres 11 171 = some (171, 7, 3, 1, 2023) := rfl
theorem f11_248 : fres 11 248 = some (248, 3, 6, 1, 1178) := rfl
theorem f11_262 : fres 11 262 = some (262, 3, 7, 1, 1180) := rfl
theorem f11_295 : fres 11 295 = some (295, 1, 4, 1, 2077) := rfl
theorem f11_298 : fres 11 298 = some (298, 1, 5, 1, 2079) := rfl
theorem f11_355 : fres 11 355 = some (355, 2, 0, 1, 2046) := rfl
theorem f11_361 : fres 11 361 = some (361, 2, 1, 1, 2048) := rfl
theorem f11_365 : fres 11 365 = some (365, 2, 2, 1, 2050) := rfl
theorem f11_369 : fres 11 369 = some (369, 2, 3, 1, 2052) := rfl
theorem f12_15 : fres 12 15 = some (15, 12, 0, 0, 6183) := rfl
theorem f12_29 : fres 12 29 = some (29, 12, 1, 0, 6184) := rfl
theorem f12_36 : fres 12 36 = some (36, 12, 2, 0, 6185) := rfl
theorem f12_39 : fres 12 39 = some (39, 12, 3, 0, 6186) := rfl
theorem f12_42 : fres 12 42 = some (42, 12, 5, 0, 6188) := rfl
theorem f12_46 : fres 12 46 = some (46, 12, 6, 0, 6189) := rfl
theorem f12_48 : fres 12 48 = some (48, 12, 7, 0, 6190) := rfl
theorem f12_51 : fres 12 51 = some (51, 12, 8, 0, 6191) := rfl
theorem f12_54 : fres 12 54 = some (54, 12, 9, 0, 6192) := rfl
theorem f12_57 : fres 12 57 = some (57, 12, 10, 0, 6193) := rfl
theorem f12_60 : fres 12 60 = some (60, 12, 11, 0, 6194) := rfl
theorem f12_63 : fres 12 63 = some (63, 12, 12, 0, 6195) := rfl
theorem f12_66 : fres 12 66 = some (66, 12, 13, 0, 6196) := rfl
theorem f12_69 : fres 12 69 = some (69, 12, 14, 0, 6197) := rfl
theorem f12_72 : fres 12 72 = some (72, 12, 15, 0, 6198) := rfl
theorem f12_74 : fres 12 74 = some (74, 12, 16, 0, 6199) := rfl
theorem f12_77 : fres 12 77 = some (77, 12, 26, 0, 6209) := rfl
theorem f12_81 : fres 12 81 = some (81, 12, 29, 0, 6212) := rfl
theorem f12_83 : fres 12 83 = some (83, 12, 30, 0, 6213) := rfl
theorem f12_85 : fres 12 85 = some (85, 12, 31, 0, 6214) := rfl
theorem f12_88 : fres 12 88 = some (88, 12, 32, 0, 6215) := rfl
theorem f12_91 : fres 12 91 = some (91, 12, 39, 0, 6222) := rfl
theorem f12_94 : fres 12 94 = some (94, 12, 40, 0, 6223) := rfl
theorem f12_97 : fres 12 97 = some (97, 12, 41, 0, 6224) := rfl
theorem f12_100 : fres 12 100 = some (100, 12, 42, 0, 6225) := rfl
theorem f12_103 : fres 12 103 = some (103, 12, 45, 0, 6228) := rfl
theorem f12_106 : fres 12 106 = some (106, 12, 46, 0, 6229) := rfl
theorem f12_109 : fres 12 109 = some (109, 12, 47, 0, 6230) := rfl
theorem f12_112 : fres 12 112 = some (112, 12, 48, 0, 6231) := rfl
theorem f12_115 : fres 12 115 = some (115, 12, 49, 0, 6232) := rfl
theorem f12_118 : fres 12 118 = some (118, 12, 50, 0, 6233) := rfl
theorem f12_121 : fres 12 121 = some (121, 12, 51, 0, 6234) := rfl
theorem f12_124 : fres 12 124 = some (124, 12, 52, 0, 6235) := rfl
theorem f12_127 : fres 12 127 = some (127, 12, 53, 0, 6236) := rfl
theorem f12_130 : fres 12 130 = some (130, 12, 54, 0, 6237) := rfl
theorem f12_133 : fres 12 133 = some (133, 12, 56, 0, 6239) := rfl
theorem f12_136 : fres 12 136 = some (136, 12, 61, 0, 7004) := rfl
theorem f12_139 : fres 12 139 = some (139, 12, 62, 0, 7005) := rfl
theorem f12_142 : fres 12 142 = some (142, 12, 63, 0, 7006) := rfl
theorem f12_145 : fres 12 145 = some (145, 12, 64, 0, 7007) := rfl
theorem f12_148 : fres 12 148 = some (148, 12, 65, 0, 7008) := rfl
theorem f12_151 : fres 12 151 = some (151, 12, 66, 0, 7009) := rfl
theorem f12_154 : fres 12 154 = some (154, 12, 4, 0, 6187) := rfl
theorem f12_161 : fres 12 161 = some (161, 12, 17, 0, 6200) := rfl
theorem f12_164 : fres 12 164 = some (164, 12, 19, 0, 6202) := rfl
theorem f12_167 : fres 12 167 = some (167, 12, 18, 0, 6201) := rfl
theorem f12_174 : fres 12 174 = some (174, 12, 22, 0, 6205) := rfl
theorem f12_177 : fres 12 177 = some (177, 12, 20, 0, 6203) := rfl
theorem f12_187 : fres 12 187 = some (187, 12, 21, 0, 6204) := rfl
theorem f12_200 : fres 12 200 = some (200, 12, 23, 0, 6206) := rfl
theorem f12_203 : fres 12 203 = some (203, 12, 24, 0, 6207) := rfl
theorem f12_206 : fres 12 206 = some (206, 12, 25, 0, 6208) := rfl
theorem f12_234 : fres 12 234 = some (234, 12, 27, 0, 6210) := rfl
theorem f12_275 : fres 12 275 = some (275, 12, 28, 0, 6211) := rfl
theorem f12_308 : fres 12 308 = some (308, 12, 33, 0, 6216) := rfl
theorem f12_311 : fres 12 311 = some (311, 12, 34, 0, 6217) := rfl
theorem f12_313 : fres 12 313 = some (313, 12, 35, 0, 6218) := rfl
theorem f12_316 : fres 12 316 = some (316, 12, 36, 0, 6219) := rfl
theorem f12_319 : fres 12 319 = some (319, 12, 37, 0, 6220) := rfl
theorem f12_322 : fres 12 322 = some (322, 12, 38, 0, 6221) := rfl
theorem f12_325 : fres 12 325 = some (325, 12, 58, 0, 7001) := rfl
theorem f12_367 : fres 12 367 = some (367, 12, 44, 0, 6227) := rfl
theorem f12_379 : fres 12 379 = some (379, 12, 43, 0, 6226) := rfl
theorem f12_450 : fres 12 450 = some (450, 12, 55, 0, 6238) := rfl
theorem f12_472 : fres 12 472 = some (472, 12, 57, 0, 7000) := rfl
theorem f12_482 : fres 12 482 = some (482, 12, 59, 0, 7002) := rfl
theorem f12_485 : fres 12 485 = some (485, 12, 60, 0, 7003) := rfl
theorem f14_9 : fres 14 9 = some (9, 50, 0, 0, 9120) := rfl
theorem f14_15 : fres 14 15 = some (15, 50, 1, 0, 9121) := rfl
theorem c0_22 : cres 0 22 = some (22, 0, 4, 0, 2180, 2182, 2) := rfl
theorem c0_25 : cres 0 25 = some (25, 0, 3, 1, 2184, 2186, 3) := rfl
theorem c0_29 : cres 0 29 = some (29, 0, 74, 1, 2188, 2189, 2190) := rfl
theorem c0_33 : cres 0 33 = some (33, 0, 2, 1, 3095, 2177, 2178) := rfl
theorem c1_36 : cres 1 36 = some (36, 1, 326, 2, 6001, 3042, 0) := rfl
theorem c1_42 : cres 1 42 = some (42, 1, 325, 2, 6002, 3039, 0) := rfl
theorem c1_45 : cres 1 45 = some (45, 0, 9, 3, 6003, 6005, 44) := rfl
theorem c1_49 : cres 1 49 = some (49, 0, 10, 1, 6012, 6014, 45) := rfl
theorem c1_53 : cres 1 53 = some (53, 0, 12, 1, 6019, 6021, 46) := rfl
theorem c1_61 : cres 1 61 = some (61, 0, 35, 2, 6007, 2207, 2208) := rfl
theorem c1_64 : cres 1 64 = some (64, 0, 75, 1, 6008, 2234, 2235) := rfl
theorem c1_68 : cres 1 68 = some (68, 1, 323, 1, 6009, 6010, 0) := rfl
theorem c1_71 : cres 1 71 = some (71, 1, 11, 1, 6016, 6017, 0) := rfl
theorem c1_74 : cres 1 74 = some (74, 1, 321, 2, 6023, 2204, 0) := rfl
theorem c3_39 : cres 3 39 = some (39, 1, 321, 2, 2203, 2204, 0) := rfl
theorem c3_50 : cres 3 50 = some (50, 0, 18, 2, 2199, 2201, 4) := rfl
theorem c3_59 : cres 3 59 = some (59, 0, 20, 3, 2213, 2215, 5) := rfl
theorem c3_63 : cres 3 63 = some (63, 0, 92, 0, 3057, 3058, 3059) := rfl
theorem c3_66 : cres 3 66 = some (66, 0, 35, 2, 2206, 2207, 2208) := rfl
theorem c3_70 : cres 3 70 = some (70, 0, 82, 0, 2217, 2218, 2219) := rfl
theorem c3_77 : cres 3 77 = some (77, 0, 19, 1, 2221, 2223, 6) := rfl
theorem c3_81 : cres 3 81 = some (81, 0, 22, 3, 2225, 2227, 7) := rfl
theorem c3_84 : cres 3 84 = some (84, 0, 84, 1, 3026, 3027, 3028) := rfl
theorem c3_87 : cres 3 87 = some (87, 0, 23, 4, 3030, 3032, 10) := rfl
theorem c3_91 : cres 3 91 = some (91, 0, 91, 2, 3044, 3045, 3046) := rfl
theorem c3_94 : cres 3 94 = some (94, 0, 90, 2, 3049, 3050, 3051) := rfl
theorem c3_98 : cres 3 98 = some (98, 0, 21, 3, 3053, 3055, 11) := rfl
theorem c3_106 : cres 3 106 = some (106, 0, 63, 0, 2229, 2230, 2231) := rfl
theorem c3_110 : cres 3 110 = some (110, 0, 75, 1, 2233, 2234, 2235) := rfl
theorem c3_113 : cres 3 113 = some (113, 0, 24, 4, 2237, 2239, 8) := rfl
theorem c3_117 : cres 3 117 = some (117, 0, 34, 1, 3034, 3035, 3036) := rfl
theorem c3_121 : cres 3 121 = some (121, 0, 79, 1, 3005, 3006, 3007) := rfl
theorem c3_124 : cres 3 124 = some (124, 0, 77, 1, 3009, 3010, 3011) := rfl
theorem c3_127 : cres 3 127 = some (127, 1, 325, 2, 3038, 3039, 0) := rfl
theorem c3_135 : cres 3 135 = some (135, 1, 326, 2, 3041, 3042, 0) := rfl
theorem c3_146 : cres 3 146 = some (146, 0, 25, 4, 3001, 3003, 9) := rfl
theorem c3_150 : cres 3 150 = some (150, 1, 65, 3, 3023, 3024, 0) := rfl
theorem c3_154 : cres 3 154 = some (154, 1, 320, 1, 3013, 3014, 0) := rfl
theorem c3_159 : cres 3 159 = some (159, 0, 78, 1, 3019, 3020, 3021) := rfl
theorem c4_50 : cres 4 50 = some (50, 1, 321, 2, 4082, 2204, 0) := rfl
theorem c4_56 : cres 4 56 = some (56, 0, 62, 0, 4083, 4084, 4085) := rfl
theorem c4_59 : cres 4 59 = some (59, 0, 31, 0, 4135, 4124, 4125) := rfl
theorem c4_63 : cres 4 63 = some (63, 1, 324, 2, 2210, 2211, 0) := rfl
theorem c4_69 : cres 4 69 = some (69, 0, 35, 2, 5015, 2207, 2208) := rfl
theorem c4_72 : cres 4 72 = some (72, 0, 36, 2, 5011, 5012, 5013) := rfl
theorem c4_75 : cres 4 75 = some (75, 1, 320, 1, 5016, 3014, 0) := rfl
theorem c5_52 : cres 5 52 = some (52, 0, 94, 2, 3184, 3185, 3186) := rfl
theorem c5_56 : cres 5 56 = some (56, 0, 30, 0, 4078, 4079, 4080) := rfl
theorem c5_59 : cres 5 59 = some (59, 0, 103, 1, 4087, 4088, 4089) := rfl
theorem c5_63 : cres 5 63 = some (63, 0, 47, 0, 4091, 4093, 14) := rfl
theorem c5_66 : cres 5 66 = some (66, 0, 45, 1, 4189, 4191, 33) := rfl
theorem c5_70 : cres 5 70 = some (70, 0, 104, 1, 4193, 4194, 4195) := rfl
theorem c5_73 : cres 5 73 = some (73, 0, 42, 0, 4103, 4105, 17) := rfl
theorem c5_76 : cres 5 76 = some (76, 0, 41, 1, 4099, 4101, 16) := rfl
theorem c5_79 : cres 5 79 = some (79, 0, 105, 1, 4111, 4112, 4113) := rfl
theorem c5_82 : cres 5 82 = some (82, 0, 43, 0, 4115, 4117, 19) := rfl
theorem c5_86 : cres 5 86 = some (86, 0, 48, 0, 4095, 4097, 15) := rfl
theorem c5_89 : cres 5 89 = some (89, 0, 50, 1, 4119, 4121, 20) := rfl
theorem c5_93 : cres 5 93 = some (93, 0, 49, 0, 4140, 4142, 22) := rfl
theorem c5_96 : cres 5 96 = some (96, 0, 52, 1, 4144, 4146, 23) := rfl
theorem c5_106 : cres 5 106 = some (106, 0, 46, 2, 4107, 4109, 18) := rfl
theorem c5_116 : cres 5 116 = some (116, 0, 31, 0, 4123, 4124, 4125) := rfl
theorem c5_119 : cres 5 119 = some (119, 0, 51, 1, 4127, 4129, 21) := rfl
theorem c5_122 : cres 5 122 = some (122, 0, 33, 4, 4136, 4137, 4138) := rfl
theorem c5_126 : cres 5 126 = some (126, 0, 32, 1, 4131, 4132, 4133) := rfl
theorem c5_129 : cres 5 129 = some (129, 0, 63, 0, 4148, 2230, 2231) := rfl
theorem c5_134 : cres 5 134 = some (134, 0, 53, 1, 4149, 4151, 24) := rfl
theorem c5_137 : cres 5 137 = some (137, 0, 44, 0, 4153, 4155, 25) := rfl
theorem c5_140 : cres 5 140 = some (140, 0, 54, 1, 4157, 4159, 26) := rfl
theorem c5_143 : cres 5 143 = some (143, 0, 64, 1, 4181, 4182, 4183) := rfl
theorem c5_146 : cres 5 146 = some (146, 0, 55, 1, 4161, 4163, 27) := rfl
theorem c5_149 : cres 5 149 = some (149, 0, 56, 1, 4165, 4167, 28) := rfl
theorem c5_152 : cres 5 152 = some (152, 0, 57, 1, 4169, 4171, 29) := rfl
theorem c5_155 : cres 5 155 = some (155, 0, 58, 1, 4173, 4175, 30) := rfl
theorem c5_158 : cres 5 158 = some (158, 0, 59, 1, 4177, 4179, 31) := rfl
theorem c5_161 : cres 5 161 = some (161, 0, 60, 0, 4185, 4187, 32) := rfl
theorem c7_25 : cres 7 25 = some (25, 1, 325, 2, 6083, 3039, 0) := rfl
theorem c7_31 : cres 7 31 = some (31, 0, 75, 1, 6089, 2234, 2235) := rfl
theorem c7_37 : cres 7 37 = some (37, 8, 0, 5, 3100, 2194, 2193) := rfl
theorem c8_41 : cres 8 41 = some (41, 8, 0, 5, 2192, 2194, 2193) := rfl
theorem c8_49 : cres 8 49 = some (49, 1, 321, 2, 4201, 2204, 0) := rfl
theorem c8_56 : cres 8 56 = some (56, 1, 326, 2, 3048, 3042, 0) := rfl
theorem c9_25 : cres 9 25 = some (25, 1, 96, 2, 3188, 3189, 0) := rfl
theorem c9_29 : cres 9 29 = some (29, 1, 97, 1, 3191, 3192, 0) := rfl
theorem c9_33 : cres 9 33 = some (33, 1, 98, 1, 3194, 3195, 0) := rfl
theorem c9_36 : cres 9 36 = some (36, 1, 99, 2, 3197, 3198, 0) := rfl
theorem c9_40 : cres 9 40 = some (40, 1, 100, 3, 3200, 3201, 0) := rfl
theorem c9_44 : cres 9 44 = some (44, 1, 102, 3, 4071, 4072, 0) := rfl
theorem c9_47 : cres 9 47 = some (47, 0, 95, 3, 4074, 4076, 13) := rfl
theorem c9_51 : cres 9 51 = some (51, 1, 101, 3, 3203, 3204, 0) := rfl
theorem c9_56 : cres 9 56 = some (56, 9, 312, 1, 4016, 4017, 4018) := rfl
theorem c9_64 : cres 9 64 = some (64, 9, 308, 0, 3207, 3208, 3209) := rfl
theorem c9_68 : cres 9 68 = some (68, 9, 309, 1, 3217, 3218, 3219) := rfl
theorem c10_19 : cres 10 19 = some (19, 1, 322, 2, 6101, 6102, 0) := rfl
theorem c10_25 : cres 10 25 = some (25, 1, 321, 2, 6104, 2204, 0) := rfl
theorem c10_28 : cres 10 28 = some (28, 0, 75, 1, 6109, 2234, 2235) := rfl
theorem c11_96 : cres 11 96 = some (96, 0, 113, 1, 2160, 2162, 0) := rfl
theorem c11_107 : cres 11 107 = some (107, 0, 40, 2, 3180, 3181, 3182) := rfl
theorem c11_114 : cres 11 114 = some (114, 0, 168, 1, 2172, 2174, 1) := rfl
theorem c11_121 : cres 11 121 = some (121, 0, 73, 1, 4197, 4198, 4199) := rfl
theorem c11_125 : cres 11 125 = some (125, 0, 1, 0, 4202, 4203, 4204) := rfl
theorem c11_128 : cres 11 128 = some (128, 0, 67, 0, 3082, 3083, 3084) := rfl
theorem c11_133 : cres 11 133 = some (133, 0, 166, 2, 4214, 4216, 34) := rfl
theorem c11_137 : cres 11 137 = some (137, 0, 117, 1, 4234, 4236, 35) := rfl
theorem c11_155 : cres 11 155 = some (155, 0, 82, 0, 4238, 2218, 2219) := rfl
theorem c11_162 : cres 11 162 = some (162, 0, 83, 0, 4239, 5000, 5001) := rfl
theorem c11_165 : cres 11 165 = some (165, 0, 118, 0, 5003, 5005, 36) := rfl
theorem c11_172 : cres 11 172 = some (172, 0, 37, 2, 5007, 5008, 5009) := rfl
theorem c11_176 : cres 11 176 = some (176, 0, 165, 1, 5024, 5026, 37) := rfl
theorem c11_179 : cres 11 179 = some (179, 0, 75, 1, 5029, 2234, 2235) := rfl
theorem c11_182 : cres 11 182 = some (182, 0, 76, 1, 5030, 5031, 5032) := rfl
theorem c11_185 : cres 11 185 = some (185, 0, 79, 1, 3077, 3006, 3007) := rfl
theorem c11_188 : cres 11 188 = some (188, 0, 77, 1, 5034, 3010, 3011) := rfl
theorem c11_191 : cres 11 191 = some (191, 0, 35, 2, 5035, 2207, 2208) := rfl
theorem c11_194 : cres 11 194 = some (194, 0, 78, 1, 5036, 3020, 3021) := rfl
theorem c11_197 : cres 11 197 = some (197, 0, 34, 1, 5037, 3035, 3036) := rfl
theorem c11_201 : cres 11 201 = some (201, 0, 81, 1, 5038, 5039, 5040) := rfl
theorem c11_204 : cres 11 204 = some (204, 0, 36, 2, 5042, 5012, 5013) := rfl
theorem c11_207 : cres 11 207 = some (207, 0, 2, 1, 2176, 2177, 2178) := rfl
theorem c11_211 : cres 11 211 = some (211, 0, 17, 3, 2195, 2196, 2197) := rfl
theorem c11_215 : cres 11 215 = some (215, 0, 87, 2, 5050, 5051, 5052) := rfl
theorem c11_218 : cres 11 218 = some (218, 0, 90, 2, 5061, 3050, 3051) := rfl
theorem c11_221 : cres 11 221 = some (221, 0, 88, 2, 5069, 5070, 5071) := rfl
theorem c11_225 : cres 11 225 = some (225, 0, 5, 1, 3069, 3070, 3071) := rfl
theorem c11_229 : cres 11 229 = some (229, 0, 167, 3, 5080, 5082, 38) := rfl
theorem c11_233 : cres 11 233 = some (233, 0, 169, 0, 5085, 5087, 39) := rfl
theorem c11_236 : cres 11 236 = some (236, 0, 26, 1, 5100, 5101, 5102) := rfl
theorem c11_239 : cres 11 239 = some (239, 0, 80, 1, 5111, 5112, 5113) := rfl
theorem c11_242 : cres 11 242 = some (242, 0, 84, 1, 5122, 3027, 3028) := rfl
theorem c11_245 : cres 11 245 = some (245, 0, 85, 1, 5123, 5124, 5125) := rfl
theorem c11_251 : cres 11 251 = some (251, 0, 27, 1, 5134, 5135, 5136) := rfl
theorem c11_254 : cres 11 254 = some (254, 0, 28, 2, 5145, 5146, 5147) := rfl
theorem c11_257 : cres 11 257 = some (257, 1, 324, 2, 6049, 2211, 0) := rfl
theorem c11_265 : cres 11 265 = some (265, 0, 138, 3, 5156, 5158, 40) := rfl
theorem c11_269 : cres 11 269 = some (269, 0, 139, 2, 5160, 5162, 41) := rfl
theorem c11_272 : cres 11 272 = some (272, 1, 320, 1, 5192, 3014, 0) := rfl
theorem c11_277 : cres 11 277 = some (277, 0, 143, 2, 5193, 5195, 42) := rfl
theorem c11_281 : cres 11 281 = some (281, 0, 38, 3, 5197, 5198, 5199) := rfl
theorem c11_285 : cres 11 285 = some (285, 0, 147, 3, 5222, 5224, 43) := rfl
theorem c11_288 : cres 11 288 = some (288, 0, 86, 2, 5226, 5227, 5228) := rfl
theorem c11_291 : cres 11 291 = some (291, 0, 8, 2, 5237, 5238, 5239) := rfl
theorem c11_301 : cres 11 301 = some (301, 0, 13, 1, 6031, 6032, 6033) := rfl
theorem c11_304 : cres 11 304 = some (304, 0, 68, 3, 6064, 6065, 6066) := rfl
theorem c11_307 : cres 11 307 = some (307, 0, 152, 2, 6075, 6077, 47) := rfl
theorem c11_310 : cres 11 310 = some (310, 0, 69, 0, 6079, 6080, 6081) := rfl
theorem c11_313 : cres 11 313 = some (313, 1, 326, 2, 6084, 3042, 0) := rfl
theorem c11_316 : cres 11 316 = some (316, 0, 70, 2, 6085, 6086, 6087) := rfl
theorem c11_320 : cres 11 320 = some (320, 0, 107, 0, 6097, 6098, 6099) := rfl
theorem c11_321 : cres 11 321 = some (321, 0, 108, 2, 6105, 6106, 6107) := rfl
theorem c11_325 : cres 11 325 = some (325, 0, 109, 0, 6110, 6111, 6112) := rfl
theorem c11_328 : cres 11 328 = some (328, 0, 110, 1, 6114, 6115, 6116) := rfl
theorem c11_331 : cres 11 331 = some (331, 0, 92, 0, 6125, 3058, 3059) := rfl
theorem c11_336 : cres 11 336 = some (336, 0, 157, 3, 6134, 6136, 48) := rfl
theorem c11_339 : cres 11 339 = some (339, 0, 158, 1, 6142, 6144, 49) := rfl
theorem c11_342 : cres 11 342 = some (342, 0, 89, 1, 6138, 6139, 6140) := rfl
theorem c11_345 : cres 11 345 = some (345, 0, 159, 2, 6146, 6148, 50) := rfl
theorem c11_348 : cres 11 348 = some (348, 0, 161, 0, 6157, 6159, 51) := rfl
theorem c11_351 : cres 11 351 = some (351, 0, 162, 1, 6161, 6163, 52) := rfl
theorem c11_358 : cres 11 358 = some (358, 0, 74, 1, 3090, 2189, 2190) := rfl
theorem c11_362 : cres 11 362 = some (362, 0, 6, 1, 3091, 3092, 3093) := rfl
theorem c11_366 : cres 11 366 = some (366, 0, 71, 1, 3096, 3097, 3098) := rfl
theorem c11_370 : cres 11 370 = some (370, 8, 0, 5, 3101, 2194, 2193) := rfl
theorem c11_385 : cres 11 385 = some (385, 0, 16, 0, 5089, 5090, 5091) := rfl
theorem c12_157 : cres 12 157 = some (157, 1, 174, 3, 8067, 8068, 0) := rfl
theorem c12_170 : cres 12 170 = some (170, 0, 181, 1, 7165, 7167, 55) := rfl
theorem c12_180 : cres 12 180 = some (180, 1, 182, 1, 7169, 7170, 0) := rfl
theorem c12_184 : cres 12 184 = some (184, 1, 183, 1, 7172, 7173, 0) := rfl
theorem c12_191 : cres 12 191 = some (191, 1, 326, 2, 7176, 3042, 0) := rfl
theorem c12_197 : cres 12 197 = some (197, 1, 184, 1, 7177, 7178, 0) := rfl
theorem c12_209 : cres 12 209 = some (209, 9, 308, 0, 7192, 3208, 3209) := rfl
theorem c12_213 : cres 12 213 = some (213, 9, 309, 1, 7193, 3218, 3219) := rfl
theorem c12_217 : cres 12 217 = some (217, 0, 187, 1, 7188, 7190, 58) := rfl
theorem c12_221 : cres 12 221 = some (221, 0, 189, 1, 7218, 7220, 64) := rfl
theorem c12_224 : cres 12 224 = some (224, 0, 186, 1, 7198, 7200, 59) := rfl
theorem c12_228 : cres 12 228 = some (228, 0, 185, 0, 7161, 7163, 54) := rfl
theorem c12_231 : cres 12 231 = some (231, 0, 191, 2, 7210, 7212, 62) := rfl
theorem c12_238 : cres 12 238 = some (238, 0, 192, 2, 7206, 7208, 61) := rfl
theorem c12_241 : cres 12 241 = some (241, 0, 193, 1, 8003, 8005, 70) := rfl
theorem c12_244 : cres 12 244 = some (244, 0, 188, 1, 7184, 7186, 57) := rfl
theorem c12_248 : cres 12 248 = some (248, 0, 190, 1, 8007, 8009, 71) := rfl
theorem c12_251 : cres 12 251 = some (251, 0, 199, 1, 7214, 7216, 63) := rfl
theorem c12_254 : cres 12 254 = some (254, 0, 194, 1, 7239, 8001, 69) := rfl
theorem c12_257 : cres 12 257 = some (257, 0, 195, 1, 7235, 7237, 68) := rfl
theorem c12_262 : cres 12 262 = some (262, 0, 196, 1, 7231, 7233, 67) := rfl
theorem c12_265 : cres 12 265 = some (265, 0, 197, 1, 7226, 7228, 66) := rfl
theorem c12_270 : cres 12 270 = some (270, 0, 198, 1, 7222, 7224, 65) := rfl
theorem c12_278 : cres 12 278 = some (278, 0, 200, 1, 8017, 8019, 73) := rfl
theorem c12_289 : cres 12 289 = some (289, 0, 202, 1, 7202, 7204, 60) := rfl
theorem c12_292 : cres 12 292 = some (292, 0, 201, 1, 8013, 8015, 72) := rfl
theorem c12_295 : cres 12 295 = some (295, 0, 172, 1, 7157, 7159, 53) := rfl
theorem c12_298 : cres 12 298 = some (298, 0, 203, 1, 7180, 7182, 56) := rfl
theorem c12_301 : cres 12 301 = some (301, 0, 206, 0, 8021, 8023, 74) := rfl
theorem c12_304 : cres 12 304 = some (304, 1, 205, 1, 8025, 8026, 0) := rfl
theorem c12_328 : cres 12 328 = some (328, 0, 210, 2, 8052, 8054, 79) := rfl
theorem c12_331 : cres 12 331 = some (331, 0, 211, 2, 8048, 8050, 78) := rfl
theorem c12_334 : cres 12 334 = some (334, 1, 177, 1, 8074, 8075, 0) := rfl
theorem c12_337 : cres 12 337 = some (337, 1, 215, 3, 8125, 8126, 0) := rfl
theorem c12_341 : cres 12 341 = some (341, 0, 214, 1, 8070, 8072, 81) := rfl
theorem c12_344 : cres 12 344 = some (344, 0, 212, 1, 8077, 8079, 82) := rfl
theorem c12_347 : cres 12 347 = some (347, 0, 213, 0, 8036, 8038, 75) := rfl
theorem c12_350 : cres 12 350 = some (350, 1, 176, 1, 8056, 8057, 0) := rfl
theorem c12_353 : cres 12 353 = some (353, 0, 217, 1, 8117, 8119, 90) := rfl
theorem c12_356 : cres 12 356 = some (356, 0, 216, 2, 8121, 8123, 91) := rfl
theorem c12_360 : cres 12 360 = some (360, 1, 325, 2, 8136, 3039, 0) := rfl
theorem c12_363 : cres 12 363 = some (363, 1, 175, 2, 8110, 8111, 0) := rfl
theorem c12_370 : cres 12 370 = some (370, 0, 218, 1, 8113, 8115, 89) := rfl
theorem c12_373 : cres 12 373 = some (373, 0, 220, 1, 8128, 8130, 92) := rfl
theorem c12_376 : cres 12 376 = some (376, 0, 219, 2, 8132, 8134, 93) := rfl
theorem c12_382 : cres 12 382 = some (382, 0, 221, 1, 8106, 8108, 88) := rfl
theorem c12_385 : cres 12 385 = some (385, 0, 222, 0, 8102, 8104, 87) := rfl
theorem c12_388 : cres 12 388 = some (388, 0, 224, 0, 8040, 8042, 76) := rfl
theorem c12_391 : cres 12 391 = some (391, 0, 225, 0, 8044, 8046, 77) := rfl
theorem c12_394 : cres 12 394 = some (394, 0, 178, 1, 8063, 8065, 80) := rfl
theorem c12_397 : cres 12 397 = some (397, 0, 208, 2, 8094, 8096, 85) := rfl
theorem c12_403 : cres 12 403 = some (403, 0, 228, 1, 8086, 8088, 83) := rfl
theorem c12_406 : cres 12 406 = some (406, 0, 230, 0, 8090, 8092, 84) := rfl
theorem c12_409 : cres 12 409 = some (409, 0, 223, 1, 8098, 8100, 86) := rfl
theorem c12_416 : cres 12 416 = some (416, 0, 229, 0, 8151, 8153, 94) := rfl
theorem c12_420 : cres 12 420 = some (420, 0, 173, 1, 8159, 8161, 95) := rfl
theorem c12_423 : cres 12 423 = some (423, 0, 209, 2, 8167, 8169, 96) := rfl
theorem c12_428 : cres 12 428 = some (428, 0, 237, 2, 8180, 8182, 97) := rfl
theorem c12_433 : cres 12 433 = some (433, 0, 242, 0, 8197, 8199, 98) := rfl
theorem c12_436 : cres 12 436 = some (436, 0, 179, 0, 8233, 8235, 99) := rfl
theorem c12_439 : cres 12 439 = some (439, 1, 323, 1, 9029, 6010, 0) := rfl
theorem c12_442 : cres 12 442 = some (442, 0, 257, 2, 9025, 9027, 101) := rfl
theorem c12_445 : cres 12 445 = some (445, 0, 258, 0, 9021, 9023, 100) := rfl
theorem c12_453 : cres 12 453 = some (453, 0, 262, 0, 9044, 9046, 102) := rfl
theorem c12_458 : cres 12 458 = some (458, 0, 263, 0, 9048, 9050, 103) := rfl
theorem c12_461 : cres 12 461 = some (461, 0, 265, 1, 9056, 9058, 104) := rfl
theorem c12_468 : cres 12 468 = some (468, 0, 269, 2, 9074, 9076, 105) := rfl
theorem c12_476 : cres 12 476 = some (476, 0, 271, 1, 9086, 9088, 107) := rfl
theorem c12_479 : cres 12 479 = some (479, 0, 272, 0, 9082, 9084, 106) := rfl
theorem c12_488 : cres 12 488 = some (488, 1, 274, 2, 9095, 9096, 0) := rfl
theorem c13_7 : cres 13 7 = some (7, 0, 114, 1, 3110, 3111, 3112) := rfl
theorem c13_15 : cres 13 15 = some (15, 0, 116, 1, 4210, 4211, 4212) := rfl
theorem c13_20 : cres 13 20 = some (20, 0, 119, 2, 5020, 5021, 5022) := rfl
theorem c13_24 : cres 13 24 = some (24, 0, 121, 2, 5046, 5047, 5048) := rfl
theorem c13_27 : cres 13 27 = some (27, 0, 122, 2, 5057, 5058, 5059) := rfl
theorem c13_30 : cres 13 30 = some (30, 0, 124, 2, 5065, 5066, 5067) := rfl
theorem c13_34 : cres 13 34 = some (34, 0, 126, 3, 5076, 5077, 5078) := rfl
theorem c13_38 : cres 13 38 = some (38, 0, 127, 2, 5096, 5097, 5098) := rfl
theorem c13_41 : cres 13 41 = some (41, 0, 128, 1, 5107, 5108, 5109) := rfl
theorem c13_44 : cres 13 44 = some (44, 0, 129, 2, 5118, 5119, 5120) := rfl
theorem c13_47 : cres 13 47 = some (47, 0, 130, 1, 5130, 5131, 5132) := rfl
theorem c13_50 : cres 13 50 = some (50, 0, 131, 3, 5141, 5142, 5143) := rfl
theorem c13_53 : cres 13 53 = some (53, 0, 136, 2, 5152, 5153, 5154) := rfl
theorem c13_56 : cres 13 56 = some (56, 0, 137, 3, 5167, 5168, 5169) := rfl
theorem c13_59 : cres 13 59 = some (59, 0, 140, 1, 5174, 5175, 5176) := rfl
theorem c13_62 : cres 13 62 = some (62, 0, 141, 2, 5181, 5182, 5183) := rfl
theorem c13_65 : cres 13 65 = some (65, 0, 142, 1, 5188, 5189, 5190) := rfl
theorem c13_68 : cres 13 68 = some (68, 0, 144, 3, 5204, 5205, 5206) := rfl
theorem c13_71 : cres 13 71 = some (71, 0, 145, 2, 5211, 5212, 5213) := rfl
theorem c13_74 : cres 13 74 = some (74, 0, 146, 2, 5218, 5219, 5220) := rfl
theorem c13_77 : cres 13 77 = some (77, 0, 148, 1, 5233, 5234, 5235) := rfl
theorem c13_80 : cres 13 80 = some (80, 0, 149, 1, 6027, 6028, 6029) := rfl
theorem c13_83 : cres 13 83 = some (83, 0, 132, 2, 6038, 6039, 6040) := rfl
theorem c13_86 : cres 13 86 = some (86, 0, 133, 2, 6045, 6046, 6047) := rfl
theorem c13_89 : cres 13 89 = some (89, 0, 135, 1, 6053, 6054, 6055) := rfl
theorem c13_92 : cres 13 92 = some (92, 0, 150, 3, 6060, 6061, 6062) := rfl
theorem c13_95 : cres 13 95 = some (95, 0, 151, 1, 6071, 6072, 6073) := rfl
theorem c13_98 : cres 13 98 = some (98, 0, 153, 1, 6093, 6094, 6095) := rfl
theorem c13_101 : cres 13 101 = some (101, 0, 155, 3, 6121, 6122, 6123) := rfl
theorem c13_104 : cres 13 104 = some (104, 0, 156, 3, 6129, 6130, 6131) := rfl
theorem c13_107 : cres 13 107 = some (107, 0, 160, 3, 6153, 6154, 6155) := rfl
theorem c13_114 : cres 13 114 = some (114, 0, 112, 5, 2156, 2157, 2158) := rfl
theorem c13_118 : cres 13 118 = some (118, 0, 180, 5, 7149, 7150, 7151) := rfl
theorem c13_119 : cres 13 119 = some (119, 6, 277, 3, 3106, 3107, 0) := rfl
theorem c13_124 : cres 13 124 = some (124, 0, 204, 1, 7153, 7154, 7155) := rfl
theorem c13_125 : cres 13 125 = some (125, 0, 171, 0, 7145, 7146, 7147) := rfl
theorem c13_129 : cres 13 129 = some (129, 0, 115, 0, 2164, 2165, 2166) := rfl
theorem c13_132 : cres 13 132 = some (132, 0, 207, 0, 8028, 8029, 8030) := rfl
theorem c13_133 : cres 13 133 = some (133, 6, 278, 3, 4206, 4207, 0) := rfl
theorem c13_135 : cres 13 135 = some (135, 0, 226, 1, 8032, 8033, 8034) := rfl
theorem c13_136 : cres 13 136 = some (136, 6, 279, 4, 5017, 5018, 0) := rfl
theorem c13_139 : cres 13 139 = some (139, 0, 227, 2, 8059, 8060, 8061) := rfl
theorem c13_140 : cres 13 140 = some (140, 0, 120, 1, 2168, 2169, 2170) := rfl
theorem c13_143 : cres 13 143 = some (143, 0, 231, 1, 8081, 8082, 8083) := rfl
theorem c13_144 : cres 13 144 = some (144, 6, 280, 4, 5043, 5044, 0) := rfl
theorem c13_146 : cres 13 146 = some (146, 0, 232, 2, 8137, 8138, 8139) := rfl
theorem c13_147 : cres 13 147 = some (147, 6, 281, 4, 5054, 5055, 0) := rfl
theorem c13_149 : cres 13 149 = some (149, 0, 233, 2, 8142, 8143, 8144) := rfl
theorem c13_150 : cres 13 150 = some (150, 0, 123, 1, 3061, 3062, 3063) := rfl
theorem c13_154 : cres 13 154 = some (154, 0, 234, 1, 8147, 8148, 8149) := rfl
theorem c13_155 : cres 13 155 = some (155, 6, 282, 4, 5062, 5063, 0) := rfl
theorem c13_158 : cres 13 158 = some (158, 0, 235, 2, 8155, 8156, 8157) := rfl
theorem c13_159 : cres 13 159 = some (159, 0, 125, 0, 3065, 3066, 3067) := rfl
theorem c13_162 : cres 13 162 = some (162, 0, 236, 0, 8163, 8164, 8165) := rfl
theorem c13_163 : cres 13 163 = some (163, 6, 283, 5, 5073, 5074, 0) := rfl
theorem c13_166 : cres 13 166 = some (166, 0, 238, 3, 8171, 8172, 8173) := rfl
theorem c13_167 : cres 13 167 = some (167, 6, 284, 4, 5093, 5094, 0) := rfl
theorem c13_169 : cres 13 169 = some (169, 0, 240, 2, 8184, 8185, 8186) := rfl
theorem c13_170 : cres 13 170 = some (170, 6, 285, 3, 5104, 5105, 0) := rfl
theorem c13_172 : cres 13 172 = some (172, 0, 241, 1, 8188, 8189, 8190) := rfl
theorem c13_173 : cres 13 173 = some (173, 6, 286, 4, 5115, 5116, 0) := rfl
theorem c13_175 : cres 13 175 = some (175, 0, 243, 2, 8192, 8193, 8194) := rfl
theorem c13_176 : cres 13 176 = some (176, 6, 287, 3, 5127, 5128, 0) := rfl
theorem c13_178 : cres 13 178 = some (178, 0, 244, 1, 8201, 8202, 8203) := rfl
theorem c13_179 : cres 13 179 = some (179, 6, 288, 5, 5138, 5139, 0) := rfl
theorem c13_181 : cres 13 181 = some (181, 0, 245, 3, 8205, 8206, 8207) := rfl
theorem c13_182 : cres 13 182 = some (182, 6, 289, 4, 5149, 5150, 0) := rfl
theorem c13_184 : cres 13 184 = some (184, 0, 247, 2, 8213, 8214, 8215) := rfl
theorem c13_185 : cres 13 185 = some (185, 6, 290, 5, 5164, 5165, 0) := rfl
theorem c13_187 : cres 13 187 = some (187, 0, 248, 3, 8217, 8218, 8219) := rfl
theorem c13_188 : cres 13 188 = some (188, 6, 291, 3, 5171, 5172, 0) := rfl
theorem c13_190 : cres 13 190 = some (190, 0, 249, 1, 8221, 8222, 8223) := rfl
theorem c13_191 : cres 13 191 = some (191, 6, 292, 4, 5178, 5179, 0) := rfl
theorem c13_193 : cres 13 193 = some (193, 0, 250, 2, 8225, 8226, 8227) := rfl
theorem c13_194 : cres 13 194 = some (194, 6, 293, 3, 5185, 5186, 0) := rfl
theorem c13_196 : cres 13 196 = some (196, 0, 251, 1, 8229, 8230, 8231) := rfl
theorem c13_197 : cres 13 197 = some (197, 6, 294, 5, 5201, 5202, 0) := rfl
theorem c13_199 : cres 13 199 = some (199, 0, 254, 3, 9005, 9006, 9007) := rfl
theorem c13_200 : cres 13 200 = some (200, 6, 295, 4, 5208, 5209, 0) := rfl
theorem c13_202 : cres 13 202 = some (202, 0, 255, 2, 9009, 9010, 9011) := rfl
theorem c13_203 : cres 13 203 = some (203, 6, 296, 4, 5215, 5216, 0) := rfl
theorem c13_205 : cres 13 205 = some (205, 0, 256, 2, 9013, 9014, 9015) := rfl
theorem c13_206 : cres 13 206 = some (206, 6, 297, 3, 5230, 5231, 0) := rfl
theorem c13_208 : cres 13 208 = some (208, 0, 259, 1, 9017, 9018, 9019) := rfl
theorem c13_209 : cres 13 209 = some (209, 6, 298, 3, 6024, 6025, 0) := rfl
theorem c13_211 : cres 13 211 = some (211, 0, 260, 1, 9030, 9031, 9032) := rfl
theorem c13_212 : cres 13 212 = some (212, 6, 299, 4, 6035, 6036, 0) := rfl
theorem c13_214 : cres 13 214 = some (214, 0, 239, 2, 8176, 8177, 8178) := rfl
theorem c13_215 : cres 13 215 = some (215, 6, 300, 4, 6042, 6043, 0) := rfl
theorem c13_217 : cres 13 217 = some (217, 0, 252, 2, 8237, 8238, 8239) := rfl
theorem c13_218 : cres 13 218 = some (218, 0, 134, 0, 3073, 3074, 3075) := rfl
theorem c13_221 : cres 13 221 = some (221, 0, 253, 0, 9001, 9002, 9003) := rfl
theorem c13_222 : cres 13 222 = some (222, 6, 301, 3, 6050, 6051, 0) := rfl
theorem c13_224 : cres 13 224 = some (224, 0, 246, 1, 8209, 8210, 8211) := rfl
theorem c13_225 : cres 13 225 = some (225, 6, 302, 5, 6057, 6058, 0) := rfl
theorem c13_227 : cres 13 227 = some (227, 0, 261, 3, 9034, 9035, 9036) := rfl
theorem c13_228 : cres 13 228 = some (228, 6, 303, 3, 6068, 6069, 0) := rfl
theorem c13_230 : cres 13 230 = some (230, 0, 264, 1, 9039, 9040, 9041) := rfl
theorem c13_231 : cres 13 231 = some (231, 6, 304, 3, 6090, 6091, 0) := rfl
theorem c13_233 : cres 13 233 = some (233, 0, 266, 1, 9052, 9053, 9054) := rfl
theorem c13_234 : cres 13 234 = some (234, 0, 154, 0, 3078, 3079, 3080) := rfl
theorem c13_237 : cres 13 237 = some (237, 0, 267, 0, 9060, 9061, 9062) := rfl
theorem c13_238 : cres 13 238 = some (238, 6, 305, 5, 6118, 6119, 0) := rfl
theorem c13_240 : cres 13 240 = some (240, 0, 268, 3, 9064, 9065, 9066) := rfl
theorem c13_241 : cres 13 241 = some (241, 6, 306, 5, 6126, 6127, 0) := rfl
theorem c13_243 : cres 13 243 = some (243, 0, 270, 3, 9070, 9071, 9072) := rfl
theorem c13_244 : cres 13 244 = some (244, 6, 307, 5, 6150, 6151, 0) := rfl
theorem c13_246 : cres 13 246 = some (246, 0, 273, 3, 9078, 9079, 9080) := rfl
theorem c13_247 : cres 13 247 = some (247, 0, 163, 0, 3086, 3087, 3088) := rfl
theorem c13_250 : cres 13 250 = some (250, 0, 275, 0, 9091, 9092, 9093) := rfl
theorem c13_251 : cres 13 251 = some (251, 0, 164, 0, 3102, 3103, 3104) := rfl
theorem c13_255 : cres 13 255 = some (255, 0, 276, 0, 9098, 9099, 9100) := rfl
theorem c14_335 : cres 14 335 = some (335, 9, 310, 0, 3211, 3212, 3213) := rfl
theorem c14_492 : cres 14 492 = some (492, 9, 311, 0, 3221, 3222, 3223) := rfl
theorem c14_495 : cres 14 495 = some (495, 1, 315, 2, 3225, 3226, 0) := rfl
theorem c14_505 : cres 14 505 = some (505, 9, 308, 0, 4024, 3208, 3209) := rfl
theorem c14_633 : cres 14 633 = some (633, 9, 313, 2, 4020, 4021, 4022) := rfl
theorem c14_637 : cres 14 637 = some (637, 1, 317, 4, 4025, 4026, 0) := rfl
theorem c14_1059 : cres 14 1059 = some (1059, 1, 319, 3, 3233, 3234, 0) := rfl
theorem c15_9 : cres 15 9 = some (9, 1, 314, 2, 3228, 3229, 0) := rfl
theorem c15_38 : cres 15 38 = some (38, 1, 326, 2, 4032, 3042, 0) := rfl
theorem c15_88 : cres 15 88 = some (88, 1, 316, 1, 4028, 4029, 0) := rfl
theorem c15_92 : cres 15 92 = some (92, 1, 325, 2, 4031, 3039, 0) := rfl
theorem c15_95 : cres 15 95 = some (95, 1, 318, 4, 4033, 4034, 0) := rfl
theorem m1 : mB 1 = cX0_clear := rfl
theorem m2 : mB 2 = cX0_keep := rfl
theorem m3 : mB 3 = cX0_keptAt := rfl
theorem m4 : mB 4 = cX0_dropOldest := rfl
theorem m5 : mB 5 = cX0_takeBack := rfl
theorem m6 : mB 6 = cX0_become := rfl
theorem m8 : mB 8 = cX1_join := rfl
theorem m9 : mB 9 = cX1_compareAll := rfl
theorem m10 : mB 10 = cX1_joinFirstOf := rfl
theorem m11 : mB 11 = cX1_firstOf := rfl
theorem m12 : mB 12 = cX1_readRow := rfl
theorem m13 : mB 13 = cX1_otherOf := rfl
theorem m16 : mB 16 = cX3_clear := rfl
theorem m17 : mB 17 = cX3_goOn := rfl
theorem m18 : mB 18 = cX3_placeAll := rfl
theorem m19 : mB 19 = cX3_othersAt := rfl
theorem m20 : mB 20 = cX3_letAsk := rfl
theorem m21 : mB 21 = cX3_note := rfl
theorem m22 : mB 22 = cX3_wantsToAsk := rfl
theorem m23 : mB 23 = cX3_minutesSaid := rfl
theorem m24 : mB 24 = cX3_workOut := rfl
theorem m25 : mB 25 = cX3_valueOf := rfl
theorem m26 : mB 26 = cX3_whomAsked := rfl
theorem m27 : mB 27 = cX3_timesAsked := rfl
theorem m28 : mB 28 = cX3_handedOver := rfl
theorem m30 : mB 30 = cX4_clear := rfl
theorem m31 : mB 31 = cX4_hasRoom := rfl
theorem m32 : mB 32 = cX4_addCorner := rfl
theorem m33 : mB 33 = cX4_addPerson := rfl
theorem m34 : mB 34 = cX4_isMiser := rfl
theorem m35 : mB 35 = cX4_cornerOf := rfl
theorem m36 : mB 36 = cX4_bitsAt := rfl
theorem m37 : mB 37 = cX4_howManyAt := rfl
theorem m38 : mB 38 = cX4_visitedBy := rfl
theorem m40 : mB 40 = cX5_readAll := rfl
theorem m41 : mB 41 = cX5_fail := rfl
theorem m42 : mB 42 = cX5_goOn := rfl
theorem m43 : mB 43 = cX5_isNumber := rfl
theorem m44 : mB 44 = cX5_isWord := rfl
theorem m45 : mB 45 = cX5_needSign := rfl
theorem m46 : mB 46 = cX5_needNumber := rfl
theorem m47 : mB 47 = cX5_readLine := rfl
theorem m48 : mB 48 = cX5_readCorners := rfl
theorem m49 : mB 49 = cX5_readClock := rfl
theorem m50 : mB 50 = cX5_readPerson := rfl
theorem m51 : mB 51 = cX5_needCorner := rfl
theorem m52 : mB 52 = cX5_readRule := rfl
theorem m53 : mB 53 = cX5_readOr := rfl
theorem m54 : mB 54 = cX5_readAnd := rfl
theorem m55 : mB 55 = cX5_readNot := rfl
theorem m56 : mB 56 = cX5_readTest := rfl
theorem m57 : mB 57 = cX5_readSum := rfl
theorem m58 : mB 58 = cX5_readProduct := rfl
theorem m59 : mB 59 = cX5_readPart := rfl
theorem m60 : mB 60 = cX5_isValue := rfl
theorem m62 : mB 62 = cX6_clear := rfl
theorem m63 : mB 63 = cX6_isTold := rfl
theorem m64 : mB 64 = cX6_add := rfl
theorem m65 : mB 65 = cX6_join := rfl
theorem m67 : mB 67 = cX7_clear := rfl
theorem m68 : mB 68 = cX7_add := rfl
theorem m69 : mB 69 = cX7_lastStep := rfl
theorem m70 : mB 70 = cX7_isSoBehind := rfl
theorem m71 : mB 71 = cX7_become := rfl
theorem m73 : mB 73 = cX8_beginOn := rfl
theorem m74 : mB 74 = cX8_become := rfl
theorem m75 : mB 75 = cX8_leftOf := rfl
theorem m76 : mB 76 = cX8_watchOf := rfl
theorem m77 : mB 77 = cX8_meanOf := rfl
theorem m78 : mB 78 = cX8_givenBy := rfl
theorem m79 : mB 79 = cX8_shownBy := rfl
theorem m80 : mB 80 = cX8_isSpent := rfl
theorem m81 : mB 81 = cX8_staysIn := rfl
theorem m82 : mB 82 = cX8_aliveBits := rfl
theorem m83 : mB 83 = cX8_total := rfl
theorem m84 : mB 84 = cX8_richestOf := rfl
theorem m85 : mB 85 = cX8_poorestOf := rfl
theorem m86 : mB 86 = cX8_setLeft := rfl
theorem m87 : mB 87 = cX8_setWatch := rfl
theorem m88 : mB 88 = cX8_keepIn := rfl
theorem m89 : mB 89 = cX8_hideWatch := rfl
theorem m90 : mB 90 = cX8_receive := rfl
theorem m91 : mB 91 = cX8_handOver := rfl
theorem m92 : mB 92 = cX8_endStep := rfl
theorem m94 : mB 94 = cX9_scan := rfl
theorem m95 : mB 95 = cX9_add := rfl
theorem m96 : mB 96 = cX9_byteAt := rfl
theorem m97 : mB 97 = cX9_isDigit := rfl
theorem m98 : mB 98 = cX9_isLetter := rfl
theorem m99 : mB 99 = cX9_isLikeRow := rfl
theorem m100 : mB 100 = cX9_kindOf := rfl
theorem m101 : mB 101 = cX9_kindOfWord := rfl
theorem m102 : mB 102 = cX9_numberIn := rfl
theorem m103 : mB 103 = cX9_kindAt := rfl
theorem m104 : mB 104 = cX9_placeAt := rfl
theorem m105 : mB 105 = cX9_numberAt := rfl
theorem m107 : mB 107 = cX10_clear := rfl
theorem m108 : mB 108 = cX10_addAll := rfl
theorem m109 : mB 109 = cX10_most := rfl
theorem m110 : mB 110 = cX10_howMany := rfl
theorem m112 : mB 112 = cX11_feed := rfl
theorem m113 : mB 113 = cX11_putOnTape := rfl
theorem m114 : mB 114 = cX11_quay := rfl
theorem m115 : mB 115 = cX11_fault := rfl
theorem m116 : mB 116 = cX11_count := rfl
theorem m117 : mB 117 = cX11_statusOf := rfl
theorem m118 : mB 118 = cX11_companies := rfl
theorem m119 : mB 119 = cX11_person := rfl
theorem m120 : mB 120 = cX11_steps := rfl
theorem m121 : mB 121 = cX11_set := rfl
theorem m122 : mB 122 = cX11_give := rfl
theorem m123 : mB 123 = cX11_stop := rfl
theorem m124 : mB 124 = cX11_stay := rfl
theorem m125 : mB 125 = cX11_undo := rfl
theorem m126 : mB 126 = cX11_then := rfl
theorem m127 : mB 127 = cX11_asked := rfl
theorem m128 : mB 128 = cX11_spent := rfl
theorem m129 : mB 129 = cX11_later := rfl
theorem m130 : mB 130 = cX11_busiest := rfl
theorem m131 : mB 131 = cX11_robbed := rfl
theorem m132 : mB 132 = cX11_gained := rfl
theorem m133 : mB 133 = cX11_shows := rfl
theorem m134 : mB 134 = cX11_alike := rfl
theorem m135 : mB 135 = cX11_silent := rfl
theorem m136 : mB 136 = cX11_meet := rfl
theorem m137 : mB 137 = cX11_often := rfl
theorem m138 : mB 138 = cX11_areTogether := rfl
theorem m139 : mB 139 = cX11_cornerIn := rfl
theorem m140 : mB 140 = cX11_crowd := rfl
theorem m141 : mB 141 = cX11_where := rfl
theorem m142 : mB 142 = cX11_watch := rfl
theorem m143 : mB 143 = cX11_seesEveryone := rfl
theorem m144 : mB 144 = cX11_toSet := rfl
theorem m145 : mB 145 = cX11_toStay := rfl
theorem m146 : mB 146 = cX11_toLast := rfl
theorem m147 : mB 147 = cX11_lastsWith := rfl
theorem m148 : mB 148 = cX11_pairs := rfl
theorem m149 : mB 149 = cX11_pair := rfl
theorem m150 : mB 150 = cX11_see := rfl
theorem m151 : mB 151 = cX11_fast := rfl
theorem m152 : mB 152 = cX11_isAllSeenBy := rfl
theorem m153 : mB 153 = cX11_look := rfl
theorem m154 : mB 154 = cX11_forget := rfl
theorem m155 : mB 155 = cX11_fog := rfl
theorem m156 : mB 156 = cX11_game := rfl
theorem m157 : mB 157 = cX11_play := rfl
theorem m158 : mB 158 = cX11_isAtRest := rfl
theorem m159 : mB 159 = cX11_gainBy := rfl
theorem m160 : mB 160 = cX11_years := rfl
theorem m161 : mB 161 = cX11_drawOnce := rfl
theorem m162 : mB 162 = cX11_draw := rfl
theorem m163 : mB 163 = cX11_image := rfl
theorem m164 : mB 164 = cX11_restore := rfl
theorem m165 : mB 165 = cX11_needPerson := rfl
theorem m166 : mB 166 = cX11_needWhat := rfl
theorem m167 : mB 167 = cX11_needWithin := rfl
theorem m168 : mB 168 = cX11_refuse := rfl
theorem m169 : mB 169 = cX11_rewind := rfl
theorem m171 : mB 171 = cX12_thrown := rfl
theorem m172 : mB 172 = cX12_fail := rfl
theorem m173 : mB 173 = cX12_failing := rfl
theorem m174 : mB 174 = cX12_isIn := rfl
theorem m175 : mB 175 = cX12_isOf := rfl
theorem m176 : mB 176 = cX12_bitsOf := rfl
theorem m177 : mB 177 = cX12_onDial := rfl
theorem m178 : mB 178 = cX12_isPerson := rfl
theorem m179 : mB 179 = cX12_all := rfl
theorem m180 : mB 180 = cX12_feed := rfl
theorem m181 : mB 181 = cX12_byteAt := rfl
theorem m182 : mB 182 = cX12_isLetter := rfl
theorem m183 : mB 183 = cX12_isDigit := rfl
theorem m184 : mB 184 = cX12_isMark := rfl
theorem m185 : mB 185 = cX12_stepOn := rfl
theorem m186 : mB 186 = cX12_wrong := rfl
theorem m187 : mB 187 = cX12_is := rfl
theorem m188 : mB 188 = cX12_which := rfl
theorem m189 : mB 189 = cX12_isMarked := rfl
theorem m190 : mB 190 = cX12_mark := rfl
theorem m191 : mB 191 = cX12_numberNow := rfl
theorem m192 : mB 192 = cX12_readNumber := rfl
theorem m193 : mB 193 = cX12_lay := rfl
theorem m194 : mB 194 = cX12_readPart := rfl
theorem m195 : mB 195 = cX12_readProduct := rfl
theorem m196 : mB 196 = cX12_readSum := rfl
theorem m197 : mB 197 = cX12_readNot := rfl
theorem m198 : mB 198 = cX12_readAnd := rfl
theorem m199 : mB 199 = cX12_readExpression := rfl
theorem m200 : mB 200 = cX12_sayWalk := rfl
theorem m201 : mB 201 = cX12_sayPerson := rfl
theorem m202 : mB 202 = cX12_sayOnce := rfl
theorem m203 : mB 203 = cX12_readLine := rfl
theorem m204 : mB 204 = cX12_quay := rfl
theorem m205 : mB 205 = cX12_takeHalf := rfl
theorem m206 : mB 206 = cX12_takeOver := rfl
theorem m207 : mB 207 = cX12_fault := rfl
theorem m208 : mB 208 = cX12_pack := rfl
theorem m209 : mB 209 = cX12_unpack := rfl
theorem m210 : mB 210 = cX12_cornerAt := rfl
theorem m211 : mB 211 = cX12_atCorner := rfl
theorem m212 : mB 212 = cX12_othersWith := rfl
theorem m213 : mB 213 = cX12_aliveNow := rfl
theorem m214 : mB 214 = cX12_shownBy := rfl
theorem m215 : mB 215 = cX12_reckon := rfl
theorem m216 : mB 216 = cX12_valueNow := rfl
theorem m217 : mB 217 = cX12_ask := rfl
theorem m218 : mB 218 = cX12_wouldAsk := rfl
theorem m219 : mB 219 = cX12_saysOf := rfl
theorem m220 : mB 220 = cX12_mostLeftOf := rfl
theorem m221 : mB 221 = cX12_oneAsks := rfl
theorem m222 : mB 222 = cX12_aStep := rfl
theorem m223 : mB 223 = cX12_goOn := rfl
theorem m224 : mB 224 = cX12_allLeft := rfl
theorem m225 : mB 225 = cX12_companiesNow := rfl
theorem m226 : mB 226 = cX12_count := rfl
theorem m227 : mB 227 = cX12_person := rfl
theorem m228 : mB 228 = cX12_refuse := rfl
theorem m229 : mB 229 = cX12_refused := rfl
theorem m230 : mB 230 = cX12_keep := rfl
theorem m231 : mB 231 = cX12_steps := rfl
theorem m232 : mB 232 = cX12_set := rfl
theorem m233 : mB 233 = cX12_give := rfl
theorem m234 : mB 234 = cX12_stop := rfl
theorem m235 : mB 235 = cX12_stay := rfl
theorem m236 : mB 236 = cX12_undo := rfl
theorem m237 : mB 237 = cX12_leftThen := rfl
theorem m238 : mB 238 = cX12_then := rfl
theorem m239 : mB 239 = cX12_gained := rfl
theorem m240 : mB 240 = cX12_asked := rfl
theorem m241 : mB 241 = cX12_spent := rfl
theorem m242 : mB 242 = cX12_poorest := rfl
theorem m243 : mB 243 = cX12_later := rfl
theorem m244 : mB 244 = cX12_busiest := rfl
theorem m245 : mB 245 = cX12_robbed := rfl
theorem m246 : mB 246 = cX12_silent := rfl
theorem m247 : mB 247 = cX12_meet := rfl
theorem m248 : mB 248 = cX12_often := rfl
theorem m249 : mB 249 = cX12_crowd := rfl
theorem m250 : mB 250 = cX12_where := rfl
theorem m251 : mB 251 = cX12_watch := rfl
theorem m252 : mB 252 = cX12_shows := rfl
theorem m253 : mB 253 = cX12_alike := rfl
theorem m254 : mB 254 = cX12_toSet := rfl
theorem m255 : mB 255 = cX12_toStay := rfl
theorem m256 : mB 256 = cX12_toLast := rfl
theorem m257 : mB 257 = cX12_differ := rfl
theorem m258 : mB 258 = cX12_tellPairs := rfl
theorem m259 : mB 259 = cX12_pairs := rfl
theorem m260 : mB 260 = cX12_pair := rfl
theorem m261 : mB 261 = cX12_see := rfl
theorem m262 : mB 262 = cX12_isAsSeen := rfl
theorem m263 : mB 263 = cX12_tellFits := rfl
theorem m264 : mB 264 = cX12_fast := rfl
theorem m265 : mB 265 = cX12_unlike := rfl
theorem m266 : mB 266 = cX12_look := rfl
theorem m267 : mB 267 = cX12_forget := rfl
theorem m268 : mB 268 = cX12_fog := rfl
theorem m269 : mB 269 = cX12_tellGains := rfl
theorem m270 : mB 270 = cX12_game := rfl
theorem m271 : mB 271 = cX12_drawOf := rfl
theorem m272 : mB 272 = cX12_something := rfl
theorem m273 : mB 273 = cX12_years := rfl
theorem m274 : mB 274 = cX12_copyTo := rfl
theorem m275 : mB 275 = cX12_image := rfl
theorem m276 : mB 276 = cX12_restore := rfl
theorem m277 : mB 277 = cL_quay := rfl
theorem m278 : mB 278 = cL_count := rfl
theorem m279 : mB 279 = cL_person := rfl
theorem m280 : mB 280 = cL_set := rfl
theorem m281 : mB 281 = cL_give := rfl
theorem m282 : mB 282 = cL_stay := rfl
theorem m283 : mB 283 = cL_then := rfl
theorem m284 : mB 284 = cL_asked := rfl
theorem m285 : mB 285 = cL_spent := rfl
theorem m286 : mB 286 = cL_later := rfl
theorem m287 : mB 287 = cL_busiest := rfl
theorem m288 : mB 288 = cL_robbed := rfl
theorem m289 : mB 289 = cL_meet := rfl
theorem m290 : mB 290 = cL_often := rfl
theorem m291 : mB 291 = cL_crowd := rfl
theorem m292 : mB 292 = cL_where := rfl
theorem m293 : mB 293 = cL_watch := rfl
theorem m294 : mB 294 = cL_toSet := rfl
theorem m295 : mB 295 = cL_toStay := rfl
theorem m296 : mB 296 = cL_toLast := rfl
theorem m297 : mB 297 = cL_pairs := rfl
theorem m298 : mB 298 = cL_pair := rfl
theorem m299 : mB 299 = cL_gained := rfl
theorem m300 : mB 300 = cL_shows := rfl
theorem m301 : mB 301 = cL_silent := rfl
theorem m302 : mB 302 = cL_see := rfl
theorem m303 : mB 303 = cL_fast := rfl
theorem m304 : mB 304 = cL_look := rfl
theorem m305 : mB 305 = cL_fog := rfl
theorem m306 : mB 306 = cL_game := rfl
theorem m307 : mB 307 = cL_years := rfl
theorem m308 : mB 308 = cJ0_length_8abf5 := rfl
theorem m309 : mB 309 = cJ0_charAt_5068e := rfl
theorem m310 : mB 310 = cJ0_coder_7d493 := rfl
theorem m311 : mB 311 = cJ0_isLatin1_aae02 := rfl
theorem m312 : mB 312 = cJ0_indexOf_0f7a4 := rfl
theorem m313 : mB 313 = cJ0_indexOf_7cf53 := rfl
theorem m314 : mB 314 = cJ0_checkIndex_df160 := rfl
theorem m315 : mB 315 = cJ1_charAt_3b067 := rfl
theorem m316 : mB 316 = cJ1_canEncode_9a6ad := rfl
theorem m317 : mB 317 = cJ1_indexOf_4cfef := rfl
theorem m318 : mB 318 = cJ1_indexOfChar_4cfef := rfl
theorem m319 : mB 319 = cJ3_checkIndex_8e157 := rfl
theorem m320 : mB 320 = cJ6_bitCount_0f7a4 := rfl
theorem m321 : mB 321 = cJ7_fill_53178 := rfl
theorem m322 : mB 322 = cJ7_fill_d0a16 := rfl
theorem m323 : mB 323 = cJ9_abs_0f7a4 := rfl
theorem m324 : mB 324 = cJ9_floorMod_7cf53 := rfl
theorem m325 : mB 325 = cJ9_max_7cf53 := rfl
theorem m326 : mB 326 = cJ9_min_7cf53 := rfl
