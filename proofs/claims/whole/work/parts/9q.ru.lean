/-! the image, the reader, the class are made -/
theorem I5 (k : Nat) : va_up (fun _ => (0 : Int)) 6 (-1) k = I9 12 k := by
  unfold I9 va_up
  by_cases z : k = 6
  · rw [if_pos z, if_pos (by omega)]
  · rw [if_neg z, if_neg (by omega), if_neg (by omega)]
theorem I11 (k : Nat) : va_up (fun _ => (0 : Int)) 2 (-1) k = I9 0 k := by
  unfold I9 va_up
  by_cases z : k = 2
  · rw [if_pos z, if_pos (by omega)]
  · rw [if_neg z, if_neg (by omega), if_neg (by omega)]
theorem ly0 : lay 0 = (11, 16) := by decide +kernel
theorem ly1 : lay 1 = (20, 700) := by decide +kernel
theorem ly2 : lay 2 = (4, 11) := by decide +kernel
theorem ly3 : lay 3 = (21, 8) := by decide +kernel
theorem ly4 : lay 4 = (21, 8) := by decide +kernel
theorem ly5 : lay 5 = (21, 8) := by decide +kernel
theorem ly6 : lay 6 = (21, 8) := by decide +kernel
theorem ly7 : lay 7 = (21, 48) := by decide +kernel
theorem ly8 : lay 8 = (6, 2) := by decide +kernel
theorem ly9 : lay 9 = (21, 700) := by decide +kernel
theorem ly10 : lay 10 = (6, 2) := by decide +kernel
theorem ly11 : lay 11 = (21, 700) := by decide +kernel
theorem ly12 : lay 12 = (5, 9) := by decide +kernel
theorem ly13 : lay 13 = (9, 4) := by decide +kernel
theorem ly14 : lay 14 = (21, 701) := by decide +kernel
theorem ly15 : lay 15 = (21, 701) := by decide +kernel
theorem ly16 : lay 16 = (21, 701) := by decide +kernel
theorem ly17 : lay 17 = (4, 11) := by decide +kernel
theorem ly18 : lay 18 = (21, 8) := by decide +kernel
theorem ly19 : lay 19 = (21, 8) := by decide +kernel
theorem ly20 : lay 20 = (21, 8) := by decide +kernel
theorem ly21 : lay 21 = (21, 8) := by decide +kernel
theorem ly22 : lay 22 = (21, 48) := by decide +kernel
theorem ly23 : lay 23 = (6, 2) := by decide +kernel
theorem ly24 : lay 24 = (21, 700) := by decide +kernel
theorem ly25 : lay 25 = (6, 2) := by decide +kernel
theorem ly26 : lay 26 = (21, 700) := by decide +kernel
theorem ly27 : lay 27 = (3, 8) := by decide +kernel
theorem ly28 : lay 28 = (21, 8) := by decide +kernel
theorem ly29 : lay 29 = (21, 6) := by decide +kernel
theorem ly30 : lay 30 = (21, 8) := by decide +kernel
theorem ly31 : lay 31 = (21, 8) := by decide +kernel
theorem ly32 : lay 32 = (21, 64) := by decide +kernel
theorem ly33 : lay 33 = (21, 40) := by decide +kernel
theorem ly34 : lay 34 = (8, 8) := by decide +kernel
theorem ly35 : lay 35 = (21, 8) := by decide +kernel
theorem ly36 : lay 36 = (21, 8) := by decide +kernel
theorem ly37 : lay 37 = (21, 8) := by decide +kernel
theorem ly38 : lay 38 = (21, 8) := by decide +kernel
theorem ly39 : lay 39 = (8, 8) := by decide +kernel
theorem ly40 : lay 40 = (21, 8) := by decide +kernel
theorem ly41 : lay 41 = (21, 8) := by decide +kernel
theorem ly42 : lay 42 = (21, 8) := by decide +kernel
theorem ly43 : lay 43 = (21, 8) := by decide +kernel
theorem ly44 : lay 44 = (0, 2) := by decide +kernel
theorem ly246 : lay 246 = (7, 4) := by decide +kernel
theorem ly247 : lay 247 = (21, 8) := by decide +kernel
theorem ly248 : lay 248 = (21, 8) := by decide +kernel
theorem ly249 : lay 249 = (21, 8) := by decide +kernel
theorem ly250 : lay 250 = (21, 3) := by decide +kernel
theorem ly251 : lay 251 = (2, 5) := by decide +kernel
theorem ly252 : lay 252 = (8, 8) := by decide +kernel
theorem ly253 : lay 253 = (21, 8) := by decide +kernel
theorem ly254 : lay 254 = (21, 8) := by decide +kernel
theorem ly255 : lay 255 = (21, 8) := by decide +kernel
theorem ly256 : lay 256 = (21, 8) := by decide +kernel
theorem ly257 : lay 257 = (0, 2) := by decide +kernel
theorem ly459 : lay 459 = (7, 4) := by decide +kernel
theorem ly460 : lay 460 = (21, 8) := by decide +kernel
theorem ly461 : lay 461 = (21, 8) := by decide +kernel
theorem ly462 : lay 462 = (21, 8) := by decide +kernel
theorem ly463 : lay 463 = (21, 3) := by decide +kernel
theorem ly464 : lay 464 = (1, 6) := by decide +kernel
theorem ly465 : lay 465 = (21, 256) := by decide +kernel
theorem ly466 : lay 466 = (21, 256) := by decide +kernel
theorem ly467 : lay 467 = (21, 8) := by decide +kernel
theorem ly468 : lay 468 = (21, 64) := by decide +kernel
theorem ly469 : lay 469 = (10, 2) := by decide +kernel
theorem ly470 : lay 470 = (22, 128) := by decide +kernel
theorem ly471 : lay 471 = (21, 8) := by decide +kernel
theorem ly472 : lay 472 = (21, 8) := by decide +kernel
theorem zc11_1 : cres 11 1 = some (1, 7, 0, 0, 1033, 1034, 1035) := rfl
theorem zc11_22 : cres 11 22 = some (22, 5, 29, 0, 1038, 1039, 0) := rfl
theorem zc11_29 : cres 11 29 = some (29, 5, 39, 0, 1110, 1111, 0) := rfl
theorem zc11_36 : cres 11 36 = some (36, 5, 15, 0, 1167, 1168, 0) := rfl
theorem zc11_43 : cres 11 43 = some (43, 5, 72, 0, 1200, 1201, 0) := rfl
theorem zc11_53 : cres 11 53 = some (53, 2, 0, 0, 1238, 1239, 0) := rfl
theorem zc11_60 : cres 11 60 = some (60, 5, 66, 0, 2015, 2016, 0) := rfl
theorem zc11_71 : cres 11 71 = some (71, 5, 14, 0, 2035, 2036, 0) := rfl
theorem zc11_78 : cres 11 78 = some (78, 5, 7, 0, 2068, 2069, 0) := rfl
theorem zc11_85 : cres 11 85 = some (85, 5, 106, 0, 2095, 2096, 0) := rfl
theorem zc2_11 : cres 2 11 = some (11, 5, 72, 0, 2040, 1201, 0) := rfl
theorem zc2_20 : cres 2 20 = some (20, 2, 0, 0, 2042, 1239, 0) := rfl
theorem zc2_27 : cres 2 27 = some (27, 5, 66, 0, 2044, 2016, 0) := rfl
theorem zc2_3 : cres 2 3 = some (3, 7, 0, 0, 2038, 1034, 1035) := rfl
theorem zc5_11 : cres 5 11 = some (11, 5, 93, 0, 1116, 1117, 0) := rfl
theorem zc5_20 : cres 5 20 = some (20, 5, 29, 0, 1134, 1039, 0) := rfl
theorem zc5_3 : cres 5 3 = some (3, 7, 0, 0, 1113, 1034, 1035) := rfl
theorem zf11_13 : fres 11 13 = some (13, 11, 1, 0, 2108) := rfl
theorem zf11_17 : fres 11 17 = some (17, 11, 2, 0, 2109) := rfl
theorem zf11_23 : fres 11 23 = some (23, 11, 3, 0, 2110) := rfl
theorem zf11_30 : fres 11 30 = some (30, 11, 4, 0, 2111) := rfl
theorem zf11_37 : fres 11 37 = some (37, 11, 5, 0, 2112) := rfl
theorem zf11_44 : fres 11 44 = some (44, 11, 6, 0, 2113) := rfl
theorem zf11_48 : fres 11 48 = some (48, 11, 7, 0, 2114) := rfl
theorem zf11_54 : fres 11 54 = some (54, 11, 8, 0, 2115) := rfl
theorem zf11_61 : fres 11 61 = some (61, 11, 9, 0, 2116) := rfl
theorem zf11_65 : fres 11 65 = some (65, 11, 10, 0, 2117) := rfl
theorem zf11_72 : fres 11 72 = some (72, 11, 11, 0, 2118) := rfl
theorem zf11_79 : fres 11 79 = some (79, 11, 12, 0, 2119) := rfl
theorem zf11_86 : fres 11 86 = some (86, 11, 13, 0, 2120) := rfl
theorem zf11_9 : fres 11 9 = some (9, 11, 0, 0, 2107) := rfl
theorem zf11_90 : fres 11 90 = some (90, 11, 14, 0, 2121) := rfl
theorem zf11_93 : fres 11 93 = some (93, 11, 15, 0, 2122) := rfl
theorem zf2_12 : fres 2 12 = some (12, 2, 0, 0, 2045) := rfl
theorem zf2_21 : fres 2 21 = some (21, 2, 1, 0, 2047) := rfl
theorem zf2_28 : fres 2 28 = some (28, 2, 2, 0, 2049) := rfl
theorem zf2_32 : fres 2 32 = some (32, 2, 3, 0, 2051) := rfl
theorem zf2_36 : fres 2 36 = some (36, 2, 4, 0, 2053) := rfl
theorem zf5_12 : fres 5 12 = some (12, 5, 0, 0, 1135) := rfl
theorem zf5_21 : fres 5 21 = some (21, 5, 1, 0, 1136) := rfl
theorem zf5_25 : fres 5 25 = some (25, 4, 9, 1, 1079) := rfl
theorem zf5_29 : fres 5 29 = some (29, 5, 2, 0, 1138) := rfl
theorem zf5_32 : fres 5 32 = some (32, 5, 3, 0, 1139) := rfl
theorem zf5_36 : fres 5 36 = some (36, 5, 4, 0, 1140) := rfl
theorem zf5_39 : fres 5 39 = some (39, 5, 5, 0, 1141) := rfl
theorem zf5_42 : fres 5 42 = some (42, 5, 6, 0, 1142) := rfl
theorem zf5_45 : fres 5 45 = some (45, 5, 7, 0, 1144) := rfl
theorem zf5_49 : fres 5 49 = some (49, 5, 8, 0, 1145) := rfl
theorem zn11_20 : nres 11 20 = some (20, 4, 1036, 1037, 1002) := rfl
theorem zn11_27 : nres 11 27 = some (27, 5, 1108, 1109, 1004) := rfl
theorem zn11_34 : nres 11 34 = some (34, 3, 1165, 1166, 1006) := rfl
theorem zn11_41 : nres 11 41 = some (41, 8, 1198, 1199, 1007) := rfl
theorem zn11_51 : nres 11 51 = some (51, 0, 1236, 1237, 1008) := rfl
theorem zn11_58 : nres 11 58 = some (58, 7, 2013, 2014, 1009) := rfl
theorem zn11_69 : nres 11 69 = some (69, 2, 2033, 2034, 1010) := rfl
theorem zn11_76 : nres 11 76 = some (76, 1, 2066, 2067, 1011) := rfl
theorem zn11_83 : nres 11 83 = some (83, 10, 2093, 2094, 1012) := rfl
theorem zn2_18 : nres 2 18 = some (18, 0, 2041, 1237, 1008) := rfl
theorem zn2_25 : nres 2 25 = some (25, 7, 2043, 2014, 1009) := rfl
theorem zn2_9 : nres 2 9 = some (9, 8, 2039, 1199, 1007) := rfl
theorem zn5_18 : nres 5 18 = some (18, 4, 1133, 1037, 1002) := rfl
theorem zn5_9 : nres 5 9 = some (9, 9, 1114, 1115, 1005) := rfl
theorem i14 {w : Wd} (hz : HZ) (hN : gN w = 251) (hE : gE w = 0) : ∃ w', cl 14 [aR (some 251)] (nW w) = some (.inl none, w') ∧ BL 251 213 w w' := by
  have p0 : PB 251 252 (fun _ => none) (fun _ => 0) w (nW w) := PB.beg hN hE
  obtain ⟨w1, e1, b1⟩ := i72 (a := 252) (w := (nW w)) (by decide) ly252 ly253 ly254 ly255 ly256 p0.1 p0.2.1
  have p1 : PB 251 257 (fun _ => none) (fun _ => 0) w w1 := p0.sub b1
  have p2 : PB 251 257 (va_up (fun _ => none) 0 (some 1)) (fun _ => 0) w (pR w1 251 0 (some 252)) := p1.ref 0 1
  obtain ⟨w2, e2, b2⟩ := i0 (a := 257) (w := (pR w1 251 0 (some 252))) hz (Or.inr rfl) p2.1 p2.2.1
  have p3 : PB 251 459 (va_up (fun _ => none) 0 (some 1)) (fun _ => 0) w w2 := p2.sub b2
  have p4 : PB 251 459 (va_up (va_up (fun _ => none) 0 (some 1)) 1 (some 6)) (fun _ => 0) w (pR w2 251 1 (some 257)) := p3.ref 1 6
  obtain ⟨w3, e3, b3⟩ := i66 (a := 459) (w := (pR w2 251 1 (some 257))) (by decide) ly459 ly460 ly461 ly462 p4.1 p4.2.1
  have p5 : PB 251 463 (va_up (va_up (fun _ => none) 0 (some 1)) 1 (some 6)) (fun _ => 0) w w3 := p4.sub b3
  have p6 : PB 251 463 (va_up (va_up (va_up (fun _ => none) 0 (some 1)) 1 (some 6)) 2 (some 208)) (fun _ => 0) w (pR w3 251 2 (some 459)) := p5.ref 2 208
  have p7 : PB 251 464 (va_up (va_up (va_up (fun _ => none) 0 (some 1)) 1 (some 6)) 2 (some 208)) (fun _ => 0) w (nW (pR w3 251 2 (some 459))) := p6.arr' ly463 (by decide)
  have p8 : PB 251 464 (va_up (va_up (va_up (va_up (fun _ => none) 0 (some 1)) 1 (some 6)) 2 (some 208)) 3 (some 212)) (fun _ => 0) w (pR (nW (pR w3 251 2 (some 459))) 251 3 (some 463)) := p7.ref 3 212
  have p9 : PB 251 464 (va_up (va_up (va_up (va_up (fun _ => none) 0 (some 1)) 1 (some 6)) 2 (some 208)) 3 (some 212)) (fun _ => 0) w (pI (pR (nW (pR w3 251 2 (some 459))) 251 3 (some 463)) 251 4 (0)) := p8.int0 4 rfl
  refine ⟨(pI (pR (nW (pR w3 251 2 (some 459))) 251 3 (some 463)) 251 4 (0)), (show cl 14 [aR (some 251)] (nW w) = val 14 3 (0, [some (aR (some 251))], [], nW w) from rfl).trans <| Eq.trans (v_push (aR (some 251)) 1 (rfl : mB 14 = cX2_init) dX2_init_0 rfl rfl) <| Eq.trans (v_objI 4 (rfl : mB 14 = cX2_init) dX2_init_1 rfl zc2_3 rfl (by decide)) <| Eq.trans (v_push (aR (some 251)) 5 (rfl : mB 14 = cX2_init) dX2_init_4 rfl rfl) <| Eq.trans (v_newO 252 8 8 (rfl : mB 14 = cX2_init) dX2_init_5 rfl rfl zn2_9 p0.2.1 p0.1 (by rw [ly252]; rfl) (by decide)) <| Eq.trans (v_dupR 9 (rfl : mB 14 = cX2_init) dX2_init_8 rfl) <| Eq.trans (v_init 72 252 12 [aR (some 252), aR (some 251)] (rfl : mB 14 = cX2_init) dX2_init_9 rfl zc2_11 rfl rfl (by rw [ly252]; rfl) rfl e1) <| Eq.trans (v_putF 15 (rfl : mB 14 = cX2_init) dX2_init_12 rfl zf2_12 rfl (by rw [ly251]) rfl rfl) <| Eq.trans (v_push (aR (some 251)) 16 (rfl : mB 14 = cX2_init) dX2_init_15 rfl rfl) <| Eq.trans (v_newO 257 0 19 (rfl : mB 14 = cX2_init) dX2_init_16 rfl rfl zn2_18 p2.2.1 p2.1 (by rw [ly257]; rfl) (by decide)) <| Eq.trans (v_dupR 20 (rfl : mB 14 = cX2_init) dX2_init_19 rfl) <| Eq.trans (v_init 0 257 23 [aR (some 257), aR (some 251)] (rfl : mB 14 = cX2_init) dX2_init_20 rfl zc2_20 rfl rfl (by rw [ly257]; rfl) rfl e2) <| Eq.trans (v_putF 26 (rfl : mB 14 = cX2_init) dX2_init_23 rfl zf2_21 rfl (by rw [ly251]) rfl rfl) <| Eq.trans (v_push (aR (some 251)) 27 (rfl : mB 14 = cX2_init) dX2_init_26 rfl rfl) <| Eq.trans (v_newO 459 7 30 (rfl : mB 14 = cX2_init) dX2_init_27 rfl rfl zn2_25 p4.2.1 p4.1 (by rw [ly459]; rfl) (by decide)) <| Eq.trans (v_dupR 31 (rfl : mB 14 = cX2_init) dX2_init_30 rfl) <| Eq.trans (v_init 66 459 34 [aR (some 459), aR (some 251)] (rfl : mB 14 = cX2_init) dX2_init_31 rfl zc2_27 rfl rfl (by rw [ly459]; rfl) rfl e3) <| Eq.trans (v_putF 37 (rfl : mB 14 = cX2_init) dX2_init_34 rfl zf2_28 rfl (by rw [ly251]) rfl rfl) <| Eq.trans (v_push (aR (some 251)) 38 (rfl : mB 14 = cX2_init) dX2_init_37 rfl rfl) <| Eq.trans (v_push (aI (3)) 39 (rfl : mB 14 = cX2_init) dX2_init_38 rfl rfl) <| Eq.trans (v_newI 463 3 41 (rfl : mB 14 = cX2_init) dX2_init_39 rfl p6.2.1 p6.1 ly463) <| Eq.trans (v_putF 44 (rfl : mB 14 = cX2_init) dX2_init_41 rfl zf2_32 rfl (by rw [ly251]) rfl rfl) <| Eq.trans (v_push (aR (some 251)) 45 (rfl : mB 14 = cX2_init) dX2_init_44 rfl rfl) <| Eq.trans (v_push (aI (0)) 46 (rfl : mB 14 = cX2_init) dX2_init_45 rfl rfl) <| Eq.trans (v_putB 49 (rfl : mB 14 = cX2_init) dX2_init_46 rfl zf2_36 rfl (by rw [ly251]) (by decide)) <| v_ret0 (rfl : mB 14 = cX2_init) dX2_init_49 rfl, p9.fin0 (s := 213) ly251 (by decide) (by decide +kernel)⟩
theorem i39 {w : Wd} (hN : gN w = 12) (hE : gE w = 0) : ∃ w', cl 39 [aR (some 12)] (nW w) = some (.inl none, w') ∧ BL 12 15 w w' := by
  have p0 : PB 12 13 (fun _ => none) (fun _ => 0) w (nW w) := PB.beg hN hE
  obtain ⟨w1, e1, b1⟩ := i93 (a := 13) (w := (nW w)) (by decide) ly13 ly14 ly15 ly16 p0.1 p0.2.1
  have p1 : PB 12 17 (fun _ => none) (fun _ => 0) w w1 := p0.sub b1
  have p2 : PB 12 17 (va_up (fun _ => none) 0 (some 1)) (fun _ => 0) w (pR w1 12 0 (some 13)) := p1.ref 0 1
  obtain ⟨w2, e2, b2⟩ := i29 (a := 17) (w := (pR w1 12 0 (some 13))) (by decide) ly17 ly18 ly19 ly20 ly21 ly22 ly23 ly24 ly25 ly26 (Or.inr rfl) p2.1 p2.2.1
  have p3 : PB 12 27 (va_up (fun _ => none) 0 (some 1)) (fun _ => 0) w w2 := p2.sub b2
  have p4 : PB 12 27 (va_up (va_up (fun _ => none) 0 (some 1)) 1 (some 5)) (fun _ => 0) w (pR w2 12 1 (some 17)) := p3.ref 1 5
  have p5 : PB 12 27 (va_up (va_up (va_up (fun _ => none) 0 (some 1)) 1 (some 5)) 2 (some 11)) (fun _ => 0) w (pR (pR w2 12 1 (some 17)) 12 2 (some 23)) := p4.ref 2 11
  have p6 : PB 12 27 (va_up (va_up (va_up (fun _ => none) 0 (some 1)) 1 (some 5)) 2 (some 11)) (fun _ => 0) w (pI (pR (pR w2 12 1 (some 17)) 12 2 (some 23)) 12 3 (0)) := p5.int0 3 rfl
  have p7 : PB 12 27 (va_up (va_up (va_up (fun _ => none) 0 (some 1)) 1 (some 5)) 2 (some 11)) (fun _ => 0) w (pI (pI (pR (pR w2 12 1 (some 17)) 12 2 (some 23)) 12 3 (0)) 12 4 (0)) := p6.int0 4 rfl
  have p8 : PB 12 27 (va_up (va_up (va_up (fun _ => none) 0 (some 1)) 1 (some 5)) 2 (some 11)) (fun _ => 0) w (pI (pI (pI (pR (pR w2 12 1 (some 17)) 12 2 (some 23)) 12 3 (0)) 12 4 (0)) 12 5 (0)) := p7.int0 5 rfl
  have p9 : PB 12 27 (va_up (va_up (va_up (fun _ => none) 0 (some 1)) 1 (some 5)) 2 (some 11)) (va_up (fun _ => 0) 6 (-1)) w (pI (pI (pI (pI (pR (pR w2 12 1 (some 17)) 12 2 (some 23)) 12 3 (0)) 12 4 (0)) 12 5 (0)) 12 6 (-1)) := p8.int 6 (-1)
  have p10 : PB 12 27 (va_up (va_up (va_up (fun _ => none) 0 (some 1)) 1 (some 5)) 2 (some 11)) (va_up (fun _ => 0) 6 (-1)) w (pI (pI (pI (pI (pI (pR (pR w2 12 1 (some 17)) 12 2 (some 23)) 12 3 (0)) 12 4 (0)) 12 5 (0)) 12 6 (-1)) 12 7 (0)) := p9.int0 7 rfl
  have p11 : PB 12 27 (va_up (va_up (va_up (fun _ => none) 0 (some 1)) 1 (some 5)) 2 (some 11)) (va_up (fun _ => 0) 6 (-1)) w (pI (pI (pI (pI (pI (pI (pR (pR w2 12 1 (some 17)) 12 2 (some 23)) 12 3 (0)) 12 4 (0)) 12 5 (0)) 12 6 (-1)) 12 7 (0)) 12 8 (0)) := p10.int0 8 rfl
  refine ⟨(pI (pI (pI (pI (pI (pI (pR (pR w2 12 1 (some 17)) 12 2 (some 23)) 12 3 (0)) 12 4 (0)) 12 5 (0)) 12 6 (-1)) 12 7 (0)) 12 8 (0)), (show cl 39 [aR (some 12)] (nW w) = val 39 3 (0, [some (aR (some 12))], [], nW w) from rfl).trans <| Eq.trans (v_push (aR (some 12)) 1 (rfl : mB 39 = cX5_init) dX5_init_0 rfl rfl) <| Eq.trans (v_objI 4 (rfl : mB 39 = cX5_init) dX5_init_1 rfl zc5_3 rfl (by decide)) <| Eq.trans (v_push (aR (some 12)) 5 (rfl : mB 39 = cX5_init) dX5_init_4 rfl rfl) <| Eq.trans (v_newO 13 9 8 (rfl : mB 39 = cX5_init) dX5_init_5 rfl rfl zn5_9 p0.2.1 p0.1 (by rw [ly13]; rfl) (by decide)) <| Eq.trans (v_dupR 9 (rfl : mB 39 = cX5_init) dX5_init_8 rfl) <| Eq.trans (v_init 93 13 12 [aR (some 13), aR (some 12)] (rfl : mB 39 = cX5_init) dX5_init_9 rfl zc5_11 rfl rfl (by rw [ly13]; rfl) rfl e1) <| Eq.trans (v_putF 15 (rfl : mB 39 = cX5_init) dX5_init_12 rfl zf5_12 rfl (by rw [ly12]) rfl rfl) <| Eq.trans (v_push (aR (some 12)) 16 (rfl : mB 39 = cX5_init) dX5_init_15 rfl rfl) <| Eq.trans (v_newO 17 4 19 (rfl : mB 39 = cX5_init) dX5_init_16 rfl rfl zn5_18 p2.2.1 p2.1 (by rw [ly17]; rfl) (by decide)) <| Eq.trans (v_dupR 20 (rfl : mB 39 = cX5_init) dX5_init_19 rfl) <| Eq.trans (v_init 29 17 23 [aR (some 17), aR (some 12)] (rfl : mB 39 = cX5_init) dX5_init_20 rfl zc5_20 rfl rfl (by rw [ly17]; rfl) rfl e2) <| Eq.trans (v_putR 26 (rfl : mB 39 = cX5_init) dX5_init_23 rfl zf5_21 rfl (by rw [ly12])) <| Eq.trans (v_push (aR (some 12)) 27 (rfl : mB 39 = cX5_init) dX5_init_26 rfl rfl) <| Eq.trans (v_push (aR (some 12)) 28 (rfl : mB 39 = cX5_init) dX5_init_27 rfl rfl) <| Eq.trans (v_getR 17 31 (rfl : mB 39 = cX5_init) dX5_init_28 rfl zf5_21 rfl (by rw [ly12]) (p4.2.2.2.2.2.1 1)) <| Eq.trans (v_getR 23 34 (rfl : mB 39 = cX5_init) dX5_init_31 rfl zf5_25 rfl (by rw [ly17]) ((p4.2.2.2.2.1 17 (by decide) (by decide)).1 9 6 (by decide +kernel))) <| Eq.trans (v_putR 37 (rfl : mB 39 = cX5_init) dX5_init_34 rfl zf5_29 rfl (by rw [ly12])) <| Eq.trans (v_push (aR (some 12)) 38 (rfl : mB 39 = cX5_init) dX5_init_37 rfl rfl) <| Eq.trans (v_push (aI (0)) 39 (rfl : mB 39 = cX5_init) dX5_init_38 rfl rfl) <| Eq.trans (v_putI 42 (rfl : mB 39 = cX5_init) dX5_init_39 rfl zf5_32 rfl (by rw [ly12])) <| Eq.trans (v_push (aR (some 12)) 43 (rfl : mB 39 = cX5_init) dX5_init_42 rfl rfl) <| Eq.trans (v_push (aI (0)) 44 (rfl : mB 39 = cX5_init) dX5_init_43 rfl rfl) <| Eq.trans (v_putI 47 (rfl : mB 39 = cX5_init) dX5_init_44 rfl zf5_36 rfl (by rw [ly12])) <| Eq.trans (v_push (aR (some 12)) 48 (rfl : mB 39 = cX5_init) dX5_init_47 rfl rfl) <| Eq.trans (v_push (aI (0)) 49 (rfl : mB 39 = cX5_init) dX5_init_48 rfl rfl) <| Eq.trans (v_putI 52 (rfl : mB 39 = cX5_init) dX5_init_49 rfl zf5_39 rfl (by rw [ly12])) <| Eq.trans (v_push (aR (some 12)) 53 (rfl : mB 39 = cX5_init) dX5_init_52 rfl rfl) <| Eq.trans (v_push (aI (-1)) 54 (rfl : mB 39 = cX5_init) dX5_init_53 rfl rfl) <| Eq.trans (v_putI 57 (rfl : mB 39 = cX5_init) dX5_init_54 rfl zf5_42 rfl (by rw [ly12])) <| Eq.trans (v_push (aR (some 12)) 58 (rfl : mB 39 = cX5_init) dX5_init_57 rfl rfl) <| Eq.trans (v_push (aI (0)) 59 (rfl : mB 39 = cX5_init) dX5_init_58 rfl rfl) <| Eq.trans (v_putB 62 (rfl : mB 39 = cX5_init) dX5_init_59 rfl zf5_45 rfl (by rw [ly12]) (by decide)) <| Eq.trans (v_push (aR (some 12)) 63 (rfl : mB 39 = cX5_init) dX5_init_62 rfl rfl) <| Eq.trans (v_push (aI (0)) 64 (rfl : mB 39 = cX5_init) dX5_init_63 rfl rfl) <| Eq.trans (v_putB 67 (rfl : mB 39 = cX5_init) dX5_init_64 rfl zf5_49 rfl (by rw [ly12]) (by decide)) <| v_ret0 (rfl : mB 39 = cX5_init) dX5_init_67 rfl, p11.fin (s := 15) (ci := 5) (by rw [ly12]) (by decide +kernel) I5 ⟨fun e => absurd e (by decide), fun _ => p11.2.2.2.2.2.1 1, fun e => absurd e (by decide), fun e => absurd e (by decide), fun e => absurd e (by decide), fun e => absurd e (by decide)⟩⟩
theorem i111 {w : Wd} (hz : HZ) (hN : gN w = 0) (hE : gE w = 0) : ∃ w', cl 111 [aR (some 0)] (nW w) = some (.inl none, w') ∧ BL 0 473 w w' := by
  have p0 : PB 0 1 (fun _ => none) (fun _ => 0) w (nW w) := PB.beg hN hE
  have p1 : PB 0 2 (fun _ => none) (fun _ => 0) w (nW (nW w)) := p0.arr' ly1 (by decide)
  have p2 : PB 0 2 (va_up (fun _ => none) 0 (some 1)) (fun _ => 0) w (pR (nW (nW w)) 0 0 (some 1)) := p1.ref 0 1
  have p3 : PB 0 2 (va_up (fun _ => none) 0 (some 1)) (fun _ => 0) w (pI (pR (nW (nW w)) 0 0 (some 1)) 0 1 (0)) := p2.int0 1 rfl
  have p4 : PB 0 2 (va_up (fun _ => none) 0 (some 1)) (va_up (fun _ => 0) 2 (-1)) w (pI (pI (pR (nW (nW w)) 0 0 (some 1)) 0 1 (0)) 0 2 (-1)) := p3.int 2 (-1)
  obtain ⟨w1, e1, b1⟩ := i29 (a := 2) (w := (pI (pI (pR (nW (nW w)) 0 0 (some 1)) 0 1 (0)) 0 2 (-1))) (by decide) ly2 ly3 ly4 ly5 ly6 ly7 ly8 ly9 ly10 ly11 (Or.inl rfl) p4.1 p4.2.1
  have p5 : PB 0 12 (va_up (fun _ => none) 0 (some 1)) (va_up (fun _ => 0) 2 (-1)) w w1 := p4.sub b1
  have p6 : PB 0 12 (va_up (va_up (fun _ => none) 0 (some 1)) 3 (some 2)) (va_up (fun _ => 0) 2 (-1)) w (pR w1 0 3 (some 2)) := p5.ref 3 2
  obtain ⟨w2, e2, b2⟩ := i39 (w := (pR w1 0 3 (some 2))) p6.1 p6.2.1
  have p7 : PB 0 27 (va_up (va_up (fun _ => none) 0 (some 1)) 3 (some 2)) (va_up (fun _ => 0) 2 (-1)) w w2 := p6.sub b2
  have p8 : PB 0 27 (va_up (va_up (va_up (fun _ => none) 0 (some 1)) 3 (some 2)) 4 (some 12)) (va_up (fun _ => 0) 2 (-1)) w (pR w2 0 4 (some 12)) := p7.ref 4 12
  obtain ⟨w3, e3, b3⟩ := i15 (a := 27) (w := (pR w2 0 4 (some 12))) (by decide) ly27 ly28 ly29 ly30 ly31 ly32 ly33 p8.1 p8.2.1
  have p9 : PB 0 34 (va_up (va_up (va_up (fun _ => none) 0 (some 1)) 3 (some 2)) 4 (some 12)) (va_up (fun _ => 0) 2 (-1)) w w3 := p8.sub b3
  have p10 : PB 0 34 (va_up (va_up (va_up (va_up (fun _ => none) 0 (some 1)) 3 (some 2)) 4 (some 12)) 5 (some 27)) (va_up (fun _ => 0) 2 (-1)) w (pR w3 0 5 (some 27)) := p9.ref 5 27
  obtain ⟨w4, e4, b4⟩ := i72 (a := 34) (w := (pR w3 0 5 (some 27))) (by decide) ly34 ly35 ly36 ly37 ly38 p10.1 p10.2.1
  have p11 : PB 0 39 (va_up (va_up (va_up (va_up (fun _ => none) 0 (some 1)) 3 (some 2)) 4 (some 12)) 5 (some 27)) (va_up (fun _ => 0) 2 (-1)) w w4 := p10.sub b4
  have p12 : PB 0 39 (va_up (va_up (va_up (va_up (va_up (fun _ => none) 0 (some 1)) 3 (some 2)) 4 (some 12)) 5 (some 27)) 6 (some 34)) (va_up (fun _ => 0) 2 (-1)) w (pR w4 0 6 (some 34)) := p11.ref 6 34
  obtain ⟨w5, e5, b5⟩ := i72 (a := 39) (w := (pR w4 0 6 (some 34))) (by decide) ly39 ly40 ly41 ly42 ly43 p12.1 p12.2.1
  have p13 : PB 0 44 (va_up (va_up (va_up (va_up (va_up (fun _ => none) 0 (some 1)) 3 (some 2)) 4 (some 12)) 5 (some 27)) 6 (some 34)) (va_up (fun _ => 0) 2 (-1)) w w5 := p12.sub b5
  have p14 : PB 0 44 (va_up (va_up (va_up (va_up (va_up (va_up (fun _ => none) 0 (some 1)) 3 (some 2)) 4 (some 12)) 5 (some 27)) 6 (some 34)) 7 (some 39)) (va_up (fun _ => 0) 2 (-1)) w (pR w5 0 7 (some 39)) := p13.ref 7 39
  obtain ⟨w6, e6, b6⟩ := i0 (a := 44) (w := (pR w5 0 7 (some 39))) hz (Or.inl rfl) p14.1 p14.2.1
  have p15 : PB 0 246 (va_up (va_up (va_up (va_up (va_up (va_up (fun _ => none) 0 (some 1)) 3 (some 2)) 4 (some 12)) 5 (some 27)) 6 (some 34)) 7 (some 39)) (va_up (fun _ => 0) 2 (-1)) w w6 := p14.sub b6
  have p16 : PB 0 246 (va_up (va_up (va_up (va_up (va_up (va_up (va_up (fun _ => none) 0 (some 1)) 3 (some 2)) 4 (some 12)) 5 (some 27)) 6 (some 34)) 7 (some 39)) 8 (some 44)) (va_up (fun _ => 0) 2 (-1)) w (pR w6 0 8 (some 44)) := p15.ref 8 44
  obtain ⟨w7, e7, b7⟩ := i66 (a := 246) (w := (pR w6 0 8 (some 44))) (by decide) ly246 ly247 ly248 ly249 p16.1 p16.2.1
  have p17 : PB 0 250 (va_up (va_up (va_up (va_up (va_up (va_up (va_up (fun _ => none) 0 (some 1)) 3 (some 2)) 4 (some 12)) 5 (some 27)) 6 (some 34)) 7 (some 39)) 8 (some 44)) (va_up (fun _ => 0) 2 (-1)) w w7 := p16.sub b7
  have p18 : PB 0 250 (va_up (va_up (va_up (va_up (va_up (va_up (va_up (va_up (fun _ => none) 0 (some 1)) 3 (some 2)) 4 (some 12)) 5 (some 27)) 6 (some 34)) 7 (some 39)) 8 (some 44)) 9 (some 246)) (va_up (fun _ => 0) 2 (-1)) w (pR w7 0 9 (some 246)) := p17.ref 9 246
  have p19 : PB 0 251 (va_up (va_up (va_up (va_up (va_up (va_up (va_up (va_up (fun _ => none) 0 (some 1)) 3 (some 2)) 4 (some 12)) 5 (some 27)) 6 (some 34)) 7 (some 39)) 8 (some 44)) 9 (some 246)) (va_up (fun _ => 0) 2 (-1)) w (nW (pR w7 0 9 (some 246))) := p18.arr' ly250 (by decide)
  have p20 : PB 0 251 (va_up (va_up (va_up (va_up (va_up (va_up (va_up (va_up (va_up (fun _ => none) 0 (some 1)) 3 (some 2)) 4 (some 12)) 5 (some 27)) 6 (some 34)) 7 (some 39)) 8 (some 44)) 9 (some 246)) 10 (some 250)) (va_up (fun _ => 0) 2 (-1)) w (pR (nW (pR w7 0 9 (some 246))) 0 10 (some 250)) := p19.ref 10 250
  obtain ⟨w8, e8, b8⟩ := i14 (w := (pR (nW (pR w7 0 9 (some 246))) 0 10 (some 250))) hz p20.1 p20.2.1
  have p21 : PB 0 464 (va_up (va_up (va_up (va_up (va_up (va_up (va_up (va_up (va_up (fun _ => none) 0 (some 1)) 3 (some 2)) 4 (some 12)) 5 (some 27)) 6 (some 34)) 7 (some 39)) 8 (some 44)) 9 (some 246)) 10 (some 250)) (va_up (fun _ => 0) 2 (-1)) w w8 := p20.sub b8
  have p22 : PB 0 464 (va_up (va_up (va_up (va_up (va_up (va_up (va_up (va_up (va_up (va_up (fun _ => none) 0 (some 1)) 3 (some 2)) 4 (some 12)) 5 (some 27)) 6 (some 34)) 7 (some 39)) 8 (some 44)) 9 (some 246)) 10 (some 250)) 11 (some 251)) (va_up (fun _ => 0) 2 (-1)) w (pR w8 0 11 (some 251)) := p21.ref 11 251
  obtain ⟨w9, e9, b9⟩ := i7 (a := 464) (w := (pR w8 0 11 (some 251))) (by decide) ly464 ly465 ly466 ly467 ly468 p22.1 p22.2.1
  have p23 : PB 0 469 (va_up (va_up (va_up (va_up (va_up (va_up (va_up (va_up (va_up (va_up (fun _ => none) 0 (some 1)) 3 (some 2)) 4 (some 12)) 5 (some 27)) 6 (some 34)) 7 (some 39)) 8 (some 44)) 9 (some 246)) 10 (some 250)) 11 (some 251)) (va_up (fun _ => 0) 2 (-1)) w w9 := p22.sub b9
  have p24 : PB 0 469 (va_up (va_up (va_up (va_up (va_up (va_up (va_up (va_up (va_up (va_up (va_up (fun _ => none) 0 (some 1)) 3 (some 2)) 4 (some 12)) 5 (some 27)) 6 (some 34)) 7 (some 39)) 8 (some 44)) 9 (some 246)) 10 (some 250)) 11 (some 251)) 12 (some 464)) (va_up (fun _ => 0) 2 (-1)) w (pR w9 0 12 (some 464)) := p23.ref 12 464
  obtain ⟨w10, e10, b10⟩ := i106 (a := 469) (w := (pR w9 0 12 (some 464))) (by decide) ly469 ly470 ly471 p24.1 p24.2.1
  have p25 : PB 0 472 (va_up (va_up (va_up (va_up (va_up (va_up (va_up (va_up (va_up (va_up (va_up (fun _ => none) 0 (some 1)) 3 (some 2)) 4 (some 12)) 5 (some 27)) 6 (some 34)) 7 (some 39)) 8 (some 44)) 9 (some 246)) 10 (some 250)) 11 (some 251)) 12 (some 464)) (va_up (fun _ => 0) 2 (-1)) w w10 := p24.sub b10
  have p26 : PB 0 472 (va_up (va_up (va_up (va_up (va_up (va_up (va_up (va_up (va_up (va_up (va_up (va_up (fun _ => none) 0 (some 1)) 3 (some 2)) 4 (some 12)) 5 (some 27)) 6 (some 34)) 7 (some 39)) 8 (some 44)) 9 (some 246)) 10 (some 250)) 11 (some 251)) 12 (some 464)) 13 (some 469)) (va_up (fun _ => 0) 2 (-1)) w (pR w10 0 13 (some 469)) := p25.ref 13 469
  have p27 : PB 0 473 (va_up (va_up (va_up (va_up (va_up (va_up (va_up (va_up (va_up (va_up (va_up (va_up (fun _ => none) 0 (some 1)) 3 (some 2)) 4 (some 12)) 5 (some 27)) 6 (some 34)) 7 (some 39)) 8 (some 44)) 9 (some 246)) 10 (some 250)) 11 (some 251)) 12 (some 464)) 13 (some 469)) (va_up (fun _ => 0) 2 (-1)) w (nW (pR w10 0 13 (some 469))) := p26.arr' ly472 (by decide)
  have p28 : PB 0 473 (va_up (va_up (va_up (va_up (va_up (va_up (va_up (va_up (va_up (va_up (va_up (va_up (va_up (fun _ => none) 0 (some 1)) 3 (some 2)) 4 (some 12)) 5 (some 27)) 6 (some 34)) 7 (some 39)) 8 (some 44)) 9 (some 246)) 10 (some 250)) 11 (some 251)) 12 (some 464)) 13 (some 469)) 14 (some 472)) (va_up (fun _ => 0) 2 (-1)) w (pR (nW (pR w10 0 13 (some 469))) 0 14 (some 472)) := p27.ref 14 472
  have p29 : PB 0 473 (va_up (va_up (va_up (va_up (va_up (va_up (va_up (va_up (va_up (va_up (va_up (va_up (va_up (fun _ => none) 0 (some 1)) 3 (some 2)) 4 (some 12)) 5 (some 27)) 6 (some 34)) 7 (some 39)) 8 (some 44)) 9 (some 246)) 10 (some 250)) 11 (some 251)) 12 (some 464)) 13 (some 469)) 14 (some 472)) (va_up (fun _ => 0) 2 (-1)) w (pI (pR (nW (pR w10 0 13 (some 469))) 0 14 (some 472)) 0 15 (0)) := p28.int0 15 rfl
  refine ⟨(pI (pR (nW (pR w10 0 13 (some 469))) 0 14 (some 472)) 0 15 (0)), (show cl 111 [aR (some 0)] (nW w) = val 111 4 (0, [some (aR (some 0))], [], nW w) from rfl).trans <| Eq.trans (v_push (aR (some 0)) 1 (rfl : mB 111 = cX11_init) dX11_init_0 rfl rfl) <| Eq.trans (v_objI 4 (rfl : mB 111 = cX11_init) dX11_init_1 rfl zc11_1 rfl (by decide)) <| Eq.trans (v_push (aR (some 0)) 5 (rfl : mB 111 = cX11_init) dX11_init_4 rfl rfl) <| Eq.trans (v_push (aI (700)) 8 (rfl : mB 111 = cX11_init) dX11_init_5 rfl rfl) <| Eq.trans (v_newB 1 700 10 (rfl : mB 111 = cX11_init) dX11_init_8 rfl p0.2.1 p0.1 ly1) <| Eq.trans (v_putF 13 (rfl : mB 111 = cX11_init) dX11_init_10 rfl zf11_9 rfl (by rw [ly0]) rfl rfl) <| Eq.trans (v_push (aR (some 0)) 14 (rfl : mB 111 = cX11_init) dX11_init_13 rfl rfl) <| Eq.trans (v_push (aI (0)) 15 (rfl : mB 111 = cX11_init) dX11_init_14 rfl rfl) <| Eq.trans (v_putI 18 (rfl : mB 111 = cX11_init) dX11_init_15 rfl zf11_13 rfl (by rw [ly0])) <| Eq.trans (v_push (aR (some 0)) 19 (rfl : mB 111 = cX11_init) dX11_init_18 rfl rfl) <| Eq.trans (v_push (aI (-1)) 20 (rfl : mB 111 = cX11_init) dX11_init_19 rfl rfl) <| Eq.trans (v_putI 23 (rfl : mB 111 = cX11_init) dX11_init_20 rfl zf11_17 rfl (by rw [ly0])) <| Eq.trans (v_push (aR (some 0)) 24 (rfl : mB 111 = cX11_init) dX11_init_23 rfl rfl) <| Eq.trans (v_newO 2 4 27 (rfl : mB 111 = cX11_init) dX11_init_24 rfl rfl zn11_20 p4.2.1 p4.1 (by rw [ly2]; rfl) (by decide)) <| Eq.trans (v_dupR 28 (rfl : mB 111 = cX11_init) dX11_init_27 rfl) <| Eq.trans (v_init 29 2 31 [aR (some 2), aR (some 0)] (rfl : mB 111 = cX11_init) dX11_init_28 rfl zc11_22 rfl rfl (by rw [ly2]; rfl) rfl e1) <| Eq.trans (v_putR 34 (rfl : mB 111 = cX11_init) dX11_init_31 rfl zf11_23 rfl (by rw [ly0])) <| Eq.trans (v_push (aR (some 0)) 35 (rfl : mB 111 = cX11_init) dX11_init_34 rfl rfl) <| Eq.trans (v_newO 12 5 38 (rfl : mB 111 = cX11_init) dX11_init_35 rfl rfl zn11_27 p6.2.1 p6.1 (by rw [ly12]; rfl) (by decide)) <| Eq.trans (v_dupR 39 (rfl : mB 111 = cX11_init) dX11_init_38 rfl) <| Eq.trans (v_init 39 12 42 [aR (some 12), aR (some 0)] (rfl : mB 111 = cX11_init) dX11_init_39 rfl zc11_29 rfl rfl (by rw [ly12]; rfl) rfl e2) <| Eq.trans (v_putF 45 (rfl : mB 111 = cX11_init) dX11_init_42 rfl zf11_30 rfl (by rw [ly0]) rfl rfl) <| Eq.trans (v_push (aR (some 0)) 46 (rfl : mB 111 = cX11_init) dX11_init_45 rfl rfl) <| Eq.trans (v_newO 27 3 49 (rfl : mB 111 = cX11_init) dX11_init_46 rfl rfl zn11_34 p8.2.1 p8.1 (by rw [ly27]; rfl) (by decide)) <| Eq.trans (v_dupR 50 (rfl : mB 111 = cX11_init) dX11_init_49 rfl) <| Eq.trans (v_init 15 27 53 [aR (some 27), aR (some 0)] (rfl : mB 111 = cX11_init) dX11_init_50 rfl zc11_36 rfl rfl (by rw [ly27]; rfl) rfl e3) <| Eq.trans (v_putF 56 (rfl : mB 111 = cX11_init) dX11_init_53 rfl zf11_37 rfl (by rw [ly0]) rfl rfl) <| Eq.trans (v_push (aR (some 0)) 57 (rfl : mB 111 = cX11_init) dX11_init_56 rfl rfl) <| Eq.trans (v_newO 34 8 60 (rfl : mB 111 = cX11_init) dX11_init_57 rfl rfl zn11_41 p10.2.1 p10.1 (by rw [ly34]; rfl) (by decide)) <| Eq.trans (v_dupR 61 (rfl : mB 111 = cX11_init) dX11_init_60 rfl) <| Eq.trans (v_init 72 34 64 [aR (some 34), aR (some 0)] (rfl : mB 111 = cX11_init) dX11_init_61 rfl zc11_43 rfl rfl (by rw [ly34]; rfl) rfl e4) <| Eq.trans (v_putF 67 (rfl : mB 111 = cX11_init) dX11_init_64 rfl zf11_44 rfl (by rw [ly0]) rfl rfl) <| Eq.trans (v_push (aR (some 0)) 68 (rfl : mB 111 = cX11_init) dX11_init_67 rfl rfl) <| Eq.trans (v_newO 39 8 71 (rfl : mB 111 = cX11_init) dX11_init_68 rfl rfl zn11_41 p12.2.1 p12.1 (by rw [ly39]; rfl) (by decide)) <| Eq.trans (v_dupR 72 (rfl : mB 111 = cX11_init) dX11_init_71 rfl) <| Eq.trans (v_init 72 39 75 [aR (some 39), aR (some 0)] (rfl : mB 111 = cX11_init) dX11_init_72 rfl zc11_43 rfl rfl (by rw [ly39]; rfl) rfl e5) <| Eq.trans (v_putF 78 (rfl : mB 111 = cX11_init) dX11_init_75 rfl zf11_48 rfl (by rw [ly0]) rfl rfl) <| Eq.trans (v_push (aR (some 0)) 79 (rfl : mB 111 = cX11_init) dX11_init_78 rfl rfl) <| Eq.trans (v_newO 44 0 82 (rfl : mB 111 = cX11_init) dX11_init_79 rfl rfl zn11_51 p14.2.1 p14.1 (by rw [ly44]; rfl) (by decide)) <| Eq.trans (v_dupR 83 (rfl : mB 111 = cX11_init) dX11_init_82 rfl) <| Eq.trans (v_init 0 44 86 [aR (some 44), aR (some 0)] (rfl : mB 111 = cX11_init) dX11_init_83 rfl zc11_53 rfl rfl (by rw [ly44]; rfl) rfl e6) <| Eq.trans (v_putF 89 (rfl : mB 111 = cX11_init) dX11_init_86 rfl zf11_54 rfl (by rw [ly0]) rfl rfl) <| Eq.trans (v_push (aR (some 0)) 90 (rfl : mB 111 = cX11_init) dX11_init_89 rfl rfl) <| Eq.trans (v_newO 246 7 93 (rfl : mB 111 = cX11_init) dX11_init_90 rfl rfl zn11_58 p16.2.1 p16.1 (by rw [ly246]; rfl) (by decide)) <| Eq.trans (v_dupR 94 (rfl : mB 111 = cX11_init) dX11_init_93 rfl) <| Eq.trans (v_init 66 246 97 [aR (some 246), aR (some 0)] (rfl : mB 111 = cX11_init) dX11_init_94 rfl zc11_60 rfl rfl (by rw [ly246]; rfl) rfl e7) <| Eq.trans (v_putF 100 (rfl : mB 111 = cX11_init) dX11_init_97 rfl zf11_61 rfl (by rw [ly0]) rfl rfl) <| Eq.trans (v_push (aR (some 0)) 101 (rfl : mB 111 = cX11_init) dX11_init_100 rfl rfl) <| Eq.trans (v_push (aI (3)) 102 (rfl : mB 111 = cX11_init) dX11_init_101 rfl rfl) <| Eq.trans (v_newI 250 3 104 (rfl : mB 111 = cX11_init) dX11_init_102 rfl p18.2.1 p18.1 ly250) <| Eq.trans (v_putF 107 (rfl : mB 111 = cX11_init) dX11_init_104 rfl zf11_65 rfl (by rw [ly0]) rfl rfl) <| Eq.trans (v_push (aR (some 0)) 108 (rfl : mB 111 = cX11_init) dX11_init_107 rfl rfl) <| Eq.trans (v_newO 251 2 111 (rfl : mB 111 = cX11_init) dX11_init_108 rfl rfl zn11_69 p20.2.1 p20.1 (by rw [ly251]; rfl) (by decide)) <| Eq.trans (v_dupR 112 (rfl : mB 111 = cX11_init) dX11_init_111 rfl) <| Eq.trans (v_init 14 251 115 [aR (some 251), aR (some 0)] (rfl : mB 111 = cX11_init) dX11_init_112 rfl zc11_71 rfl rfl (by rw [ly251]; rfl) rfl e8) <| Eq.trans (v_putF 118 (rfl : mB 111 = cX11_init) dX11_init_115 rfl zf11_72 rfl (by rw [ly0]) rfl rfl) <| Eq.trans (v_push (aR (some 0)) 119 (rfl : mB 111 = cX11_init) dX11_init_118 rfl rfl) <| Eq.trans (v_newO 464 1 122 (rfl : mB 111 = cX11_init) dX11_init_119 rfl rfl zn11_76 p22.2.1 p22.1 (by rw [ly464]; rfl) (by decide)) <| Eq.trans (v_dupR 123 (rfl : mB 111 = cX11_init) dX11_init_122 rfl) <| Eq.trans (v_init 7 464 126 [aR (some 464), aR (some 0)] (rfl : mB 111 = cX11_init) dX11_init_123 rfl zc11_78 rfl rfl (by rw [ly464]; rfl) rfl e9) <| Eq.trans (v_putF 129 (rfl : mB 111 = cX11_init) dX11_init_126 rfl zf11_79 rfl (by rw [ly0]) rfl rfl) <| Eq.trans (v_push (aR (some 0)) 130 (rfl : mB 111 = cX11_init) dX11_init_129 rfl rfl) <| Eq.trans (v_newO 469 10 133 (rfl : mB 111 = cX11_init) dX11_init_130 rfl rfl zn11_83 p24.2.1 p24.1 (by rw [ly469]; rfl) (by decide)) <| Eq.trans (v_dupR 134 (rfl : mB 111 = cX11_init) dX11_init_133 rfl) <| Eq.trans (v_init 106 469 137 [aR (some 469), aR (some 0)] (rfl : mB 111 = cX11_init) dX11_init_134 rfl zc11_85 rfl rfl (by rw [ly469]; rfl) rfl e10) <| Eq.trans (v_putF 140 (rfl : mB 111 = cX11_init) dX11_init_137 rfl zf11_86 rfl (by rw [ly0]) rfl rfl) <| Eq.trans (v_push (aR (some 0)) 141 (rfl : mB 111 = cX11_init) dX11_init_140 rfl rfl) <| Eq.trans (v_push (aI (8)) 143 (rfl : mB 111 = cX11_init) dX11_init_141 rfl rfl) <| Eq.trans (v_newI 472 8 145 (rfl : mB 111 = cX11_init) dX11_init_143 rfl p26.2.1 p26.1 ly472) <| Eq.trans (v_putF 148 (rfl : mB 111 = cX11_init) dX11_init_145 rfl zf11_90 rfl (by rw [ly0]) rfl rfl) <| Eq.trans (v_push (aR (some 0)) 149 (rfl : mB 111 = cX11_init) dX11_init_148 rfl rfl) <| Eq.trans (v_push (aI (0)) 150 (rfl : mB 111 = cX11_init) dX11_init_149 rfl rfl) <| Eq.trans (v_putI 153 (rfl : mB 111 = cX11_init) dX11_init_150 rfl zf11_93 rfl (by rw [ly0])) <| v_ret0 (rfl : mB 111 = cX11_init) dX11_init_153 rfl, p29.fin (s := 473) (ci := 11) (by rw [ly0]) (by decide +kernel) I11 ⟨fun _ => p29.2.2.2.2.2.1 3, fun e => absurd e (by decide), fun e => absurd e (by decide), fun e => absurd e (by decide), fun e => absurd e (by decide), fun e => absurd e (by decide)⟩⟩
