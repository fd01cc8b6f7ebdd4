theorem dX6_init_0 : decode cX6_init 0 = .ok (.aload_n 0, 1) := by decide +kernel
theorem dX6_init_1 : decode cX6_init 1 = .ok (.invokespecial 3, 3) := by decide +kernel
theorem dX6_init_4 : decode cX6_init 4 = .ok (.aload_n 0, 1) := by decide +kernel
theorem dX6_init_5 : decode cX6_init 5 = .ok (.sipush 700, 3) := by decide +kernel
theorem dX6_init_8 : decode cX6_init 8 = .ok (.newarray .int, 2) := by decide +kernel
theorem dX6_init_10 : decode cX6_init 10 = .ok (.putfield 9, 3) := by decide +kernel
theorem dX6_init_13 : decode cX6_init 13 = .ok (.aload_n 0, 1) := by decide +kernel
theorem dX6_init_14 : decode cX6_init 14 = .ok (.iconst 0, 1) := by decide +kernel
theorem dX6_init_15 : decode cX6_init 15 = .ok (.putfield 15, 3) := by decide +kernel
theorem dX6_init_18 : decode cX6_init 18 = .ok (.return_, 1) := by decide +kernel
theorem dX6_clear_0 : decode cX6_clear 0 = .ok (.aload_n 0, 1) := by decide +kernel
theorem dX6_clear_1 : decode cX6_clear 1 = .ok (.iconst 0, 1) := by decide +kernel
theorem dX6_clear_2 : decode cX6_clear 2 = .ok (.putfield 15, 3) := by decide +kernel
theorem dX6_clear_5 : decode cX6_clear 5 = .ok (.return_, 1) := by decide +kernel
theorem dX6_isTold_0 : decode cX6_isTold 0 = .ok (.aload_n 0, 1) := by decide +kernel
theorem dX6_isTold_1 : decode cX6_isTold 1 = .ok (.getfield 15, 3) := by decide +kernel
theorem dX6_isTold_4 : decode cX6_isTold 4 = .ok (.ifCond .le 7, 3) := by decide +kernel
theorem dX6_isTold_7 : decode cX6_isTold 7 = .ok (.iconst 1, 1) := by decide +kernel
theorem dX6_isTold_8 : decode cX6_isTold 8 = .ok (.goto 4, 3) := by decide +kernel
theorem dX6_isTold_11 : decode cX6_isTold 11 = .ok (.iconst 0, 1) := by decide +kernel
theorem dX6_isTold_12 : decode cX6_isTold 12 = .ok (.ireturn, 1) := by decide +kernel
theorem dX6_add_0 : decode cX6_add 0 = .ok (.aload_n 0, 1) := by decide +kernel
theorem dX6_add_1 : decode cX6_add 1 = .ok (.getfield 15, 3) := by decide +kernel
theorem dX6_add_4 : decode cX6_add 4 = .ok (.ifCond .lt 35, 3) := by decide +kernel
theorem dX6_add_7 : decode cX6_add 7 = .ok (.aload_n 0, 1) := by decide +kernel
theorem dX6_add_8 : decode cX6_add 8 = .ok (.getfield 15, 3) := by decide +kernel
theorem dX6_add_11 : decode cX6_add 11 = .ok (.aload_n 0, 1) := by decide +kernel
theorem dX6_add_12 : decode cX6_add 12 = .ok (.getfield 9, 3) := by decide +kernel
theorem dX6_add_15 : decode cX6_add 15 = .ok (.arraylength, 1) := by decide +kernel
theorem dX6_add_16 : decode cX6_add 16 = .ok (.if_icmp .ge 23, 3) := by decide +kernel
theorem dX6_add_19 : decode cX6_add 19 = .ok (.aload_n 0, 1) := by decide +kernel
theorem dX6_add_20 : decode cX6_add 20 = .ok (.getfield 9, 3) := by decide +kernel
theorem dX6_add_23 : decode cX6_add 23 = .ok (.aload_n 0, 1) := by decide +kernel
theorem dX6_add_24 : decode cX6_add 24 = .ok (.getfield 15, 3) := by decide +kernel
theorem dX6_add_27 : decode cX6_add 27 = .ok (.iload_n 1, 1) := by decide +kernel
theorem dX6_add_28 : decode cX6_add 28 = .ok (.iastore, 1) := by decide +kernel
theorem dX6_add_29 : decode cX6_add 29 = .ok (.aload_n 0, 1) := by decide +kernel
theorem dX6_add_30 : decode cX6_add 30 = .ok (.dup, 1) := by decide +kernel
theorem dX6_add_31 : decode cX6_add 31 = .ok (.getfield 15, 3) := by decide +kernel
theorem dX6_add_34 : decode cX6_add 34 = .ok (.iconst 1, 1) := by decide +kernel
theorem dX6_add_35 : decode cX6_add 35 = .ok (.iadd, 1) := by decide +kernel
theorem dX6_add_36 : decode cX6_add 36 = .ok (.putfield 15, 3) := by decide +kernel
theorem dX6_add_39 : decode cX6_add 39 = .ok (.return_, 1) := by decide +kernel
theorem dX6_join_0 : decode cX6_join 0 = .ok (.iload_n 0, 1) := by decide +kernel
theorem dX6_join_1 : decode cX6_join 1 = .ok (.lookupswitch 129 #[(42, 125), (43, 117), (45, 121), (60, 95), (61, 106), (106, 67), (107, 81)], 67) := by decide +kernel
theorem dX6_join_68 : decode cX6_join 68 = .ok (.iload_n 1, 1) := by decide +kernel
theorem dX6_join_69 : decode cX6_join 69 = .ok (.ifCond .ne 7, 3) := by decide +kernel
theorem dX6_join_72 : decode cX6_join 72 = .ok (.iload_n 2, 1) := by decide +kernel
theorem dX6_join_73 : decode cX6_join 73 = .ok (.ifCond .eq 7, 3) := by decide +kernel
theorem dX6_join_76 : decode cX6_join 76 = .ok (.iconst 1, 1) := by decide +kernel
theorem dX6_join_77 : decode cX6_join 77 = .ok (.goto 4, 3) := by decide +kernel
theorem dX6_join_80 : decode cX6_join 80 = .ok (.iconst 0, 1) := by decide +kernel
theorem dX6_join_81 : decode cX6_join 81 = .ok (.ireturn, 1) := by decide +kernel
theorem dX6_join_82 : decode cX6_join 82 = .ok (.iload_n 1, 1) := by decide +kernel
theorem dX6_join_83 : decode cX6_join 83 = .ok (.ifCond .eq 11, 3) := by decide +kernel
theorem dX6_join_86 : decode cX6_join 86 = .ok (.iload_n 2, 1) := by decide +kernel
theorem dX6_join_87 : decode cX6_join 87 = .ok (.ifCond .eq 7, 3) := by decide +kernel
theorem dX6_join_90 : decode cX6_join 90 = .ok (.iconst 1, 1) := by decide +kernel
theorem dX6_join_91 : decode cX6_join 91 = .ok (.goto 4, 3) := by decide +kernel
theorem dX6_join_94 : decode cX6_join 94 = .ok (.iconst 0, 1) := by decide +kernel
theorem dX6_join_95 : decode cX6_join 95 = .ok (.ireturn, 1) := by decide +kernel
theorem dX6_join_96 : decode cX6_join 96 = .ok (.iload_n 1, 1) := by decide +kernel
theorem dX6_join_97 : decode cX6_join 97 = .ok (.iload_n 2, 1) := by decide +kernel
theorem dX6_join_98 : decode cX6_join 98 = .ok (.if_icmp .ge 7, 3) := by decide +kernel
theorem dX6_join_101 : decode cX6_join 101 = .ok (.iconst 1, 1) := by decide +kernel
theorem dX6_join_102 : decode cX6_join 102 = .ok (.goto 4, 3) := by decide +kernel
theorem dX6_join_105 : decode cX6_join 105 = .ok (.iconst 0, 1) := by decide +kernel
theorem dX6_join_106 : decode cX6_join 106 = .ok (.ireturn, 1) := by decide +kernel
theorem dX6_join_107 : decode cX6_join 107 = .ok (.iload_n 1, 1) := by decide +kernel
theorem dX6_join_108 : decode cX6_join 108 = .ok (.iload_n 2, 1) := by decide +kernel
theorem dX6_join_109 : decode cX6_join 109 = .ok (.if_icmp .ne 7, 3) := by decide +kernel
theorem dX6_join_112 : decode cX6_join 112 = .ok (.iconst 1, 1) := by decide +kernel
theorem dX6_join_113 : decode cX6_join 113 = .ok (.goto 4, 3) := by decide +kernel
theorem dX6_join_116 : decode cX6_join 116 = .ok (.iconst 0, 1) := by decide +kernel
theorem dX6_join_117 : decode cX6_join 117 = .ok (.ireturn, 1) := by decide +kernel
theorem dX6_join_118 : decode cX6_join 118 = .ok (.iload_n 1, 1) := by decide +kernel
theorem dX6_join_119 : decode cX6_join 119 = .ok (.iload_n 2, 1) := by decide +kernel
theorem dX6_join_120 : decode cX6_join 120 = .ok (.iadd, 1) := by decide +kernel
theorem dX6_join_121 : decode cX6_join 121 = .ok (.ireturn, 1) := by decide +kernel
theorem dX6_join_122 : decode cX6_join 122 = .ok (.iload_n 1, 1) := by decide +kernel
theorem dX6_join_123 : decode cX6_join 123 = .ok (.iload_n 2, 1) := by decide +kernel
theorem dX6_join_124 : decode cX6_join 124 = .ok (.isub, 1) := by decide +kernel
theorem dX6_join_125 : decode cX6_join 125 = .ok (.ireturn, 1) := by decide +kernel
theorem dX6_join_126 : decode cX6_join 126 = .ok (.iload_n 1, 1) := by decide +kernel
theorem dX6_join_127 : decode cX6_join 127 = .ok (.iload_n 2, 1) := by decide +kernel
theorem dX6_join_128 : decode cX6_join 128 = .ok (.imul, 1) := by decide +kernel
theorem dX6_join_129 : decode cX6_join 129 = .ok (.ireturn, 1) := by decide +kernel
theorem dX6_join_130 : decode cX6_join 130 = .ok (.iload_n 2, 1) := by decide +kernel
theorem dX6_join_131 : decode cX6_join 131 = .ok (.ifCond .ne 7, 3) := by decide +kernel
theorem dX6_join_134 : decode cX6_join 134 = .ok (.iconst 0, 1) := by decide +kernel
theorem dX6_join_135 : decode cX6_join 135 = .ok (.goto 6, 3) := by decide +kernel
theorem dX6_join_138 : decode cX6_join 138 = .ok (.iload_n 1, 1) := by decide +kernel
theorem dX6_join_139 : decode cX6_join 139 = .ok (.iload_n 2, 1) := by decide +kernel
theorem dX6_join_140 : decode cX6_join 140 = .ok (.idiv, 1) := by decide +kernel
theorem dX6_join_141 : decode cX6_join 141 = .ok (.ireturn, 1) := by decide +kernel
theorem dX7_init_0 : decode cX7_init 0 = .ok (.aload_n 0, 1) := by decide +kernel
theorem dX7_init_1 : decode cX7_init 1 = .ok (.invokespecial 3, 3) := by decide +kernel
theorem dX7_init_4 : decode cX7_init 4 = .ok (.aload_n 0, 1) := by decide +kernel
theorem dX7_init_5 : decode cX7_init 5 = .ok (.bipush 8, 2) := by decide +kernel
theorem dX7_init_7 : decode cX7_init 7 = .ok (.newarray .int, 2) := by decide +kernel
theorem dX7_init_9 : decode cX7_init 9 = .ok (.putfield 9, 3) := by decide +kernel
theorem dX7_init_12 : decode cX7_init 12 = .ok (.aload_n 0, 1) := by decide +kernel
theorem dX7_init_13 : decode cX7_init 13 = .ok (.bipush 8, 2) := by decide +kernel
theorem dX7_init_15 : decode cX7_init 15 = .ok (.newarray .int, 2) := by decide +kernel
theorem dX7_init_17 : decode cX7_init 17 = .ok (.putfield 15, 3) := by decide +kernel
theorem dX7_init_20 : decode cX7_init 20 = .ok (.aload_n 0, 1) := by decide +kernel
theorem dX7_init_21 : decode cX7_init 21 = .ok (.bipush 8, 2) := by decide +kernel
theorem dX7_init_23 : decode cX7_init 23 = .ok (.newarray .int, 2) := by decide +kernel
theorem dX7_init_25 : decode cX7_init 25 = .ok (.putfield 18, 3) := by decide +kernel
theorem dX7_init_28 : decode cX7_init 28 = .ok (.aload_n 0, 1) := by decide +kernel
theorem dX7_init_29 : decode cX7_init 29 = .ok (.iconst 0, 1) := by decide +kernel
theorem dX7_init_30 : decode cX7_init 30 = .ok (.putfield 21, 3) := by decide +kernel
theorem dX7_init_33 : decode cX7_init 33 = .ok (.return_, 1) := by decide +kernel
theorem dX7_clear_0 : decode cX7_clear 0 = .ok (.aload_n 0, 1) := by decide +kernel
theorem dX7_clear_1 : decode cX7_clear 1 = .ok (.iconst 0, 1) := by decide +kernel
theorem dX7_clear_2 : decode cX7_clear 2 = .ok (.putfield 21, 3) := by decide +kernel
theorem dX7_clear_5 : decode cX7_clear 5 = .ok (.return_, 1) := by decide +kernel
theorem dX7_add_0 : decode cX7_add 0 = .ok (.aload_n 0, 1) := by decide +kernel
theorem dX7_add_1 : decode cX7_add 1 = .ok (.getfield 21, 3) := by decide +kernel
theorem dX7_add_4 : decode cX7_add 4 = .ok (.ifCond .lt 12, 3) := by decide +kernel
theorem dX7_add_7 : decode cX7_add 7 = .ok (.aload_n 0, 1) := by decide +kernel
theorem dX7_add_8 : decode cX7_add 8 = .ok (.getfield 21, 3) := by decide +kernel
theorem dX7_add_11 : decode cX7_add 11 = .ok (.bipush 8, 2) := by decide +kernel
theorem dX7_add_13 : decode cX7_add 13 = .ok (.if_icmp .lt 5, 3) := by decide +kernel
theorem dX7_add_16 : decode cX7_add 16 = .ok (.iconst 0, 1) := by decide +kernel
theorem dX7_add_17 : decode cX7_add 17 = .ok (.ireturn, 1) := by decide +kernel
theorem dX7_add_18 : decode cX7_add 18 = .ok (.aload_n 0, 1) := by decide +kernel
theorem dX7_add_19 : decode cX7_add 19 = .ok (.getfield 9, 3) := by decide +kernel
theorem dX7_add_22 : decode cX7_add 22 = .ok (.aload_n 0, 1) := by decide +kernel
theorem dX7_add_23 : decode cX7_add 23 = .ok (.getfield 21, 3) := by decide +kernel
theorem dX7_add_26 : decode cX7_add 26 = .ok (.iload_n 1, 1) := by decide +kernel
theorem dX7_add_27 : decode cX7_add 27 = .ok (.iastore, 1) := by decide +kernel
theorem dX7_add_28 : decode cX7_add 28 = .ok (.aload_n 0, 1) := by decide +kernel
theorem dX7_add_29 : decode cX7_add 29 = .ok (.getfield 15, 3) := by decide +kernel
theorem dX7_add_32 : decode cX7_add 32 = .ok (.aload_n 0, 1) := by decide +kernel
theorem dX7_add_33 : decode cX7_add 33 = .ok (.getfield 21, 3) := by decide +kernel
theorem dX7_add_36 : decode cX7_add 36 = .ok (.iload_n 2, 1) := by decide +kernel
theorem dX7_add_37 : decode cX7_add 37 = .ok (.iastore, 1) := by decide +kernel
theorem dX7_add_38 : decode cX7_add 38 = .ok (.aload_n 0, 1) := by decide +kernel
theorem dX7_add_39 : decode cX7_add 39 = .ok (.getfield 18, 3) := by decide +kernel
theorem dX7_add_42 : decode cX7_add 42 = .ok (.aload_n 0, 1) := by decide +kernel
theorem dX7_add_43 : decode cX7_add 43 = .ok (.getfield 21, 3) := by decide +kernel
theorem dX7_add_46 : decode cX7_add 46 = .ok (.iload_n 3, 1) := by decide +kernel
theorem dX7_add_47 : decode cX7_add 47 = .ok (.iastore, 1) := by decide +kernel
theorem dX7_add_48 : decode cX7_add 48 = .ok (.aload_n 0, 1) := by decide +kernel
theorem dX7_add_49 : decode cX7_add 49 = .ok (.dup, 1) := by decide +kernel
theorem dX7_add_50 : decode cX7_add 50 = .ok (.getfield 21, 3) := by decide +kernel
theorem dX7_add_53 : decode cX7_add 53 = .ok (.iconst 1, 1) := by decide +kernel
theorem dX7_add_54 : decode cX7_add 54 = .ok (.iadd, 1) := by decide +kernel
theorem dX7_add_55 : decode cX7_add 55 = .ok (.putfield 21, 3) := by decide +kernel
theorem dX7_add_58 : decode cX7_add 58 = .ok (.iconst 1, 1) := by decide +kernel
theorem dX7_add_59 : decode cX7_add 59 = .ok (.ireturn, 1) := by decide +kernel
theorem dX7_lastStep_0 : decode cX7_lastStep 0 = .ok (.iconst 0, 1) := by decide +kernel
theorem dX7_lastStep_1 : decode cX7_lastStep 1 = .ok (.istore_n 1, 1) := by decide +kernel
theorem dX7_lastStep_2 : decode cX7_lastStep 2 = .ok (.iconst 0, 1) := by decide +kernel
theorem dX7_lastStep_3 : decode cX7_lastStep 3 = .ok (.istore_n 2, 1) := by decide +kernel
theorem dX7_lastStep_4 : decode cX7_lastStep 4 = .ok (.iload_n 2, 1) := by decide +kernel
theorem dX7_lastStep_5 : decode cX7_lastStep 5 = .ok (.aload_n 0, 1) := by decide +kernel
theorem dX7_lastStep_6 : decode cX7_lastStep 6 = .ok (.getfield 21, 3) := by decide +kernel
theorem dX7_lastStep_9 : decode cX7_lastStep 9 = .ok (.if_icmp .ge 26, 3) := by decide +kernel
theorem dX7_lastStep_12 : decode cX7_lastStep 12 = .ok (.iload_n 2, 1) := by decide +kernel
theorem dX7_lastStep_13 : decode cX7_lastStep 13 = .ok (.bipush 8, 2) := by decide +kernel
theorem dX7_lastStep_15 : decode cX7_lastStep 15 = .ok (.if_icmp .ge 20, 3) := by decide +kernel
theorem dX7_lastStep_18 : decode cX7_lastStep 18 = .ok (.iload_n 1, 1) := by decide +kernel
theorem dX7_lastStep_19 : decode cX7_lastStep 19 = .ok (.aload_n 0, 1) := by decide +kernel
theorem dX7_lastStep_20 : decode cX7_lastStep 20 = .ok (.getfield 15, 3) := by decide +kernel
theorem dX7_lastStep_23 : decode cX7_lastStep 23 = .ok (.iload_n 2, 1) := by decide +kernel
theorem dX7_lastStep_24 : decode cX7_lastStep 24 = .ok (.iaload, 1) := by decide +kernel
theorem dX7_lastStep_25 : decode cX7_lastStep 25 = .ok (.invokestatic 25, 3) := by decide +kernel
theorem dX7_lastStep_28 : decode cX7_lastStep 28 = .ok (.istore_n 1, 1) := by decide +kernel
theorem dX7_lastStep_29 : decode cX7_lastStep 29 = .ok (.iinc 2 1, 3) := by decide +kernel
theorem dX7_lastStep_32 : decode cX7_lastStep 32 = .ok (.goto (-28), 3) := by decide +kernel
theorem dX7_lastStep_35 : decode cX7_lastStep 35 = .ok (.iload_n 1, 1) := by decide +kernel
theorem dX7_lastStep_36 : decode cX7_lastStep 36 = .ok (.ireturn, 1) := by decide +kernel
theorem dX7_isSoBehind_0 : decode cX7_isSoBehind 0 = .ok (.iconst 0, 1) := by decide +kernel
theorem dX7_isSoBehind_1 : decode cX7_isSoBehind 1 = .ok (.istore_n 3, 1) := by decide +kernel
theorem dX7_isSoBehind_2 : decode cX7_isSoBehind 2 = .ok (.iload_n 3, 1) := by decide +kernel
theorem dX7_isSoBehind_3 : decode cX7_isSoBehind 3 = .ok (.aload_n 0, 1) := by decide +kernel
theorem dX7_isSoBehind_4 : decode cX7_isSoBehind 4 = .ok (.getfield 21, 3) := by decide +kernel
theorem dX7_isSoBehind_7 : decode cX7_isSoBehind 7 = .ok (.if_icmp .ge 46, 3) := by decide +kernel
theorem dX7_isSoBehind_10 : decode cX7_isSoBehind 10 = .ok (.iload_n 3, 1) := by decide +kernel
theorem dX7_isSoBehind_11 : decode cX7_isSoBehind 11 = .ok (.bipush 8, 2) := by decide +kernel
theorem dX7_isSoBehind_13 : decode cX7_isSoBehind 13 = .ok (.if_icmp .ge 40, 3) := by decide +kernel
theorem dX7_isSoBehind_16 : decode cX7_isSoBehind 16 = .ok (.aload_n 0, 1) := by decide +kernel
theorem dX7_isSoBehind_17 : decode cX7_isSoBehind 17 = .ok (.getfield 15, 3) := by decide +kernel
theorem dX7_isSoBehind_20 : decode cX7_isSoBehind 20 = .ok (.iload_n 3, 1) := by decide +kernel
theorem dX7_isSoBehind_21 : decode cX7_isSoBehind 21 = .ok (.iaload, 1) := by decide +kernel
theorem dX7_isSoBehind_22 : decode cX7_isSoBehind 22 = .ok (.iload_n 1, 1) := by decide +kernel
theorem dX7_isSoBehind_23 : decode cX7_isSoBehind 23 = .ok (.if_icmp .ne 24, 3) := by decide +kernel
theorem dX7_isSoBehind_26 : decode cX7_isSoBehind 26 = .ok (.aload_n 2, 1) := by decide +kernel
theorem dX7_isSoBehind_27 : decode cX7_isSoBehind 27 = .ok (.aload_n 0, 1) := by decide +kernel
theorem dX7_isSoBehind_28 : decode cX7_isSoBehind 28 = .ok (.getfield 9, 3) := by decide +kernel
theorem dX7_isSoBehind_31 : decode cX7_isSoBehind 31 = .ok (.iload_n 3, 1) := by decide +kernel
theorem dX7_isSoBehind_32 : decode cX7_isSoBehind 32 = .ok (.iaload, 1) := by decide +kernel
theorem dX7_isSoBehind_33 : decode cX7_isSoBehind 33 = .ok (.invokevirtual 31, 3) := by decide +kernel
theorem dX7_isSoBehind_36 : decode cX7_isSoBehind 36 = .ok (.aload_n 0, 1) := by decide +kernel
theorem dX7_isSoBehind_37 : decode cX7_isSoBehind 37 = .ok (.getfield 18, 3) := by decide +kernel
theorem dX7_isSoBehind_40 : decode cX7_isSoBehind 40 = .ok (.iload_n 3, 1) := by decide +kernel
theorem dX7_isSoBehind_41 : decode cX7_isSoBehind 41 = .ok (.iaload, 1) := by decide +kernel
theorem dX7_isSoBehind_42 : decode cX7_isSoBehind 42 = .ok (.if_icmp .eq 5, 3) := by decide +kernel
theorem dX7_isSoBehind_45 : decode cX7_isSoBehind 45 = .ok (.iconst 0, 1) := by decide +kernel
theorem dX7_isSoBehind_46 : decode cX7_isSoBehind 46 = .ok (.ireturn, 1) := by decide +kernel
theorem dX7_isSoBehind_47 : decode cX7_isSoBehind 47 = .ok (.iinc 3 1, 3) := by decide +kernel
theorem dX7_isSoBehind_50 : decode cX7_isSoBehind 50 = .ok (.goto (-48), 3) := by decide +kernel
theorem dX7_isSoBehind_53 : decode cX7_isSoBehind 53 = .ok (.iconst 1, 1) := by decide +kernel
theorem dX7_isSoBehind_54 : decode cX7_isSoBehind 54 = .ok (.ireturn, 1) := by decide +kernel
theorem dX7_become_0 : decode cX7_become 0 = .ok (.aload_n 1, 1) := by decide +kernel
theorem dX7_become_1 : decode cX7_become 1 = .ok (.getfield 9, 3) := by decide +kernel
theorem dX7_become_4 : decode cX7_become 4 = .ok (.iconst 0, 1) := by decide +kernel
theorem dX7_become_5 : decode cX7_become 5 = .ok (.aload_n 0, 1) := by decide +kernel
theorem dX7_become_6 : decode cX7_become 6 = .ok (.getfield 9, 3) := by decide +kernel
theorem dX7_become_9 : decode cX7_become 9 = .ok (.iconst 0, 1) := by decide +kernel
theorem dX7_become_10 : decode cX7_become 10 = .ok (.bipush 8, 2) := by decide +kernel
theorem dX7_become_12 : decode cX7_become 12 = .ok (.invokestatic 37, 3) := by decide +kernel
theorem dX7_become_15 : decode cX7_become 15 = .ok (.aload_n 1, 1) := by decide +kernel
theorem dX7_become_16 : decode cX7_become 16 = .ok (.getfield 15, 3) := by decide +kernel
theorem dX7_become_19 : decode cX7_become 19 = .ok (.iconst 0, 1) := by decide +kernel
theorem dX7_become_20 : decode cX7_become 20 = .ok (.aload_n 0, 1) := by decide +kernel
theorem dX7_become_21 : decode cX7_become 21 = .ok (.getfield 15, 3) := by decide +kernel
theorem dX7_become_24 : decode cX7_become 24 = .ok (.iconst 0, 1) := by decide +kernel
theorem dX7_become_25 : decode cX7_become 25 = .ok (.bipush 8, 2) := by decide +kernel
theorem dX7_become_27 : decode cX7_become 27 = .ok (.invokestatic 37, 3) := by decide +kernel
theorem dX7_become_30 : decode cX7_become 30 = .ok (.aload_n 1, 1) := by decide +kernel
theorem dX7_become_31 : decode cX7_become 31 = .ok (.getfield 18, 3) := by decide +kernel
theorem dX7_become_34 : decode cX7_become 34 = .ok (.iconst 0, 1) := by decide +kernel
theorem dX7_become_35 : decode cX7_become 35 = .ok (.aload_n 0, 1) := by decide +kernel
theorem dX7_become_36 : decode cX7_become 36 = .ok (.getfield 18, 3) := by decide +kernel
theorem dX7_become_39 : decode cX7_become 39 = .ok (.iconst 0, 1) := by decide +kernel
theorem dX7_become_40 : decode cX7_become 40 = .ok (.bipush 8, 2) := by decide +kernel
theorem dX7_become_42 : decode cX7_become 42 = .ok (.invokestatic 37, 3) := by decide +kernel
theorem dX7_become_45 : decode cX7_become 45 = .ok (.aload_n 0, 1) := by decide +kernel
theorem dX7_become_46 : decode cX7_become 46 = .ok (.aload_n 1, 1) := by decide +kernel
theorem dX7_become_47 : decode cX7_become 47 = .ok (.getfield 21, 3) := by decide +kernel
theorem dX7_become_50 : decode cX7_become 50 = .ok (.putfield 21, 3) := by decide +kernel
theorem dX7_become_53 : decode cX7_become 53 = .ok (.return_, 1) := by decide +kernel
theorem dX8_init_0 : decode cX8_init 0 = .ok (.aload_n 0, 1) := by decide +kernel
theorem dX8_init_1 : decode cX8_init 1 = .ok (.invokespecial 3, 3) := by decide +kernel
theorem dX8_init_4 : decode cX8_init 4 = .ok (.aload_n 0, 1) := by decide +kernel
theorem dX8_init_5 : decode cX8_init 5 = .ok (.bipush 8, 2) := by decide +kernel
theorem dX8_init_7 : decode cX8_init 7 = .ok (.newarray .int, 2) := by decide +kernel
theorem dX8_init_9 : decode cX8_init 9 = .ok (.putfield 9, 3) := by decide +kernel
theorem dX8_init_12 : decode cX8_init 12 = .ok (.aload_n 0, 1) := by decide +kernel
theorem dX8_init_13 : decode cX8_init 13 = .ok (.bipush 8, 2) := by decide +kernel
theorem dX8_init_15 : decode cX8_init 15 = .ok (.newarray .int, 2) := by decide +kernel
theorem dX8_init_17 : decode cX8_init 17 = .ok (.putfield 15, 3) := by decide +kernel
theorem dX8_init_20 : decode cX8_init 20 = .ok (.aload_n 0, 1) := by decide +kernel
theorem dX8_init_21 : decode cX8_init 21 = .ok (.bipush 8, 2) := by decide +kernel
theorem dX8_init_23 : decode cX8_init 23 = .ok (.newarray .int, 2) := by decide +kernel
theorem dX8_init_25 : decode cX8_init 25 = .ok (.putfield 18, 3) := by decide +kernel
theorem dX8_init_28 : decode cX8_init 28 = .ok (.aload_n 0, 1) := by decide +kernel
theorem dX8_init_29 : decode cX8_init 29 = .ok (.bipush 8, 2) := by decide +kernel
theorem dX8_init_31 : decode cX8_init 31 = .ok (.newarray .int, 2) := by decide +kernel
theorem dX8_init_33 : decode cX8_init 33 = .ok (.putfield 21, 3) := by decide +kernel
theorem dX8_init_36 : decode cX8_init 36 = .ok (.aload_n 0, 1) := by decide +kernel
theorem dX8_init_37 : decode cX8_init 37 = .ok (.iconst 0, 1) := by decide +kernel
theorem dX8_init_38 : decode cX8_init 38 = .ok (.putfield 24, 3) := by decide +kernel
theorem dX8_init_41 : decode cX8_init 41 = .ok (.aload_n 0, 1) := by decide +kernel
theorem dX8_init_42 : decode cX8_init 42 = .ok (.iconst 0, 1) := by decide +kernel
theorem dX8_init_43 : decode cX8_init 43 = .ok (.putfield 28, 3) := by decide +kernel
theorem dX8_init_46 : decode cX8_init 46 = .ok (.aload_n 0, 1) := by decide +kernel
theorem dX8_init_47 : decode cX8_init 47 = .ok (.iconst 0, 1) := by decide +kernel
theorem dX8_init_48 : decode cX8_init 48 = .ok (.putfield 32, 3) := by decide +kernel
theorem dX8_init_51 : decode cX8_init 51 = .ok (.aload_n 0, 1) := by decide +kernel
theorem dX8_init_52 : decode cX8_init 52 = .ok (.iconst 0, 1) := by decide +kernel
theorem dX8_init_53 : decode cX8_init 53 = .ok (.putfield 35, 3) := by decide +kernel
theorem dX8_init_56 : decode cX8_init 56 = .ok (.return_, 1) := by decide +kernel
theorem dX8_beginOn_0 : decode cX8_beginOn 0 = .ok (.aload_n 1, 1) := by decide +kernel
theorem dX8_beginOn_1 : decode cX8_beginOn 1 = .ok (.getfield 38, 3) := by decide +kernel
theorem dX8_beginOn_4 : decode cX8_beginOn 4 = .ok (.iconst 0, 1) := by decide +kernel
theorem dX8_beginOn_5 : decode cX8_beginOn 5 = .ok (.aload_n 0, 1) := by decide +kernel
theorem dX8_beginOn_6 : decode cX8_beginOn 6 = .ok (.getfield 9, 3) := by decide +kernel
theorem dX8_beginOn_9 : decode cX8_beginOn 9 = .ok (.iconst 0, 1) := by decide +kernel
theorem dX8_beginOn_10 : decode cX8_beginOn 10 = .ok (.bipush 8, 2) := by decide +kernel
theorem dX8_beginOn_12 : decode cX8_beginOn 12 = .ok (.invokestatic 41, 3) := by decide +kernel
theorem dX8_beginOn_15 : decode cX8_beginOn 15 = .ok (.aload_n 1, 1) := by decide +kernel
theorem dX8_beginOn_16 : decode cX8_beginOn 16 = .ok (.getfield 47, 3) := by decide +kernel
theorem dX8_beginOn_19 : decode cX8_beginOn 19 = .ok (.iconst 0, 1) := by decide +kernel
theorem dX8_beginOn_20 : decode cX8_beginOn 20 = .ok (.aload_n 0, 1) := by decide +kernel
theorem dX8_beginOn_21 : decode cX8_beginOn 21 = .ok (.getfield 15, 3) := by decide +kernel
theorem dX8_beginOn_24 : decode cX8_beginOn 24 = .ok (.iconst 0, 1) := by decide +kernel
theorem dX8_beginOn_25 : decode cX8_beginOn 25 = .ok (.bipush 8, 2) := by decide +kernel
theorem dX8_beginOn_27 : decode cX8_beginOn 27 = .ok (.invokestatic 41, 3) := by decide +kernel
theorem dX8_beginOn_30 : decode cX8_beginOn 30 = .ok (.aload_n 1, 1) := by decide +kernel
theorem dX8_beginOn_31 : decode cX8_beginOn 31 = .ok (.getfield 48, 3) := by decide +kernel
theorem dX8_beginOn_34 : decode cX8_beginOn 34 = .ok (.iconst 0, 1) := by decide +kernel
theorem dX8_beginOn_35 : decode cX8_beginOn 35 = .ok (.aload_n 0, 1) := by decide +kernel
theorem dX8_beginOn_36 : decode cX8_beginOn 36 = .ok (.getfield 18, 3) := by decide +kernel
theorem dX8_beginOn_39 : decode cX8_beginOn 39 = .ok (.iconst 0, 1) := by decide +kernel
theorem dX8_beginOn_40 : decode cX8_beginOn 40 = .ok (.bipush 8, 2) := by decide +kernel
theorem dX8_beginOn_42 : decode cX8_beginOn 42 = .ok (.invokestatic 41, 3) := by decide +kernel
theorem dX8_beginOn_45 : decode cX8_beginOn 45 = .ok (.aload_n 0, 1) := by decide +kernel
theorem dX8_beginOn_46 : decode cX8_beginOn 46 = .ok (.getfield 21, 3) := by decide +kernel
theorem dX8_beginOn_49 : decode cX8_beginOn 49 = .ok (.iconst 0, 1) := by decide +kernel
theorem dX8_beginOn_50 : decode cX8_beginOn 50 = .ok (.invokestatic 49, 3) := by decide +kernel
theorem dX8_beginOn_53 : decode cX8_beginOn 53 = .ok (.aload_n 0, 1) := by decide +kernel
theorem dX8_beginOn_54 : decode cX8_beginOn 54 = .ok (.iconst 0, 1) := by decide +kernel
theorem dX8_beginOn_55 : decode cX8_beginOn 55 = .ok (.putfield 24, 3) := by decide +kernel
theorem dX8_beginOn_58 : decode cX8_beginOn 58 = .ok (.aload_n 0, 1) := by decide +kernel
theorem dX8_beginOn_59 : decode cX8_beginOn 59 = .ok (.iconst 0, 1) := by decide +kernel
theorem dX8_beginOn_60 : decode cX8_beginOn 60 = .ok (.putfield 28, 3) := by decide +kernel
theorem dX8_beginOn_63 : decode cX8_beginOn 63 = .ok (.aload_n 0, 1) := by decide +kernel
theorem dX8_beginOn_64 : decode cX8_beginOn 64 = .ok (.aload_n 1, 1) := by decide +kernel
theorem dX8_beginOn_65 : decode cX8_beginOn 65 = .ok (.getfield 55, 3) := by decide +kernel
theorem dX8_beginOn_68 : decode cX8_beginOn 68 = .ok (.putfield 32, 3) := by decide +kernel
theorem dX8_beginOn_71 : decode cX8_beginOn 71 = .ok (.aload_n 0, 1) := by decide +kernel
theorem dX8_beginOn_72 : decode cX8_beginOn 72 = .ok (.iconst 0, 1) := by decide +kernel
theorem dX8_beginOn_73 : decode cX8_beginOn 73 = .ok (.putfield 35, 3) := by decide +kernel
theorem dX8_beginOn_76 : decode cX8_beginOn 76 = .ok (.return_, 1) := by decide +kernel
theorem dX8_become_0 : decode cX8_become 0 = .ok (.aload_n 1, 1) := by decide +kernel
theorem dX8_become_1 : decode cX8_become 1 = .ok (.getfield 9, 3) := by decide +kernel
theorem dX8_become_4 : decode cX8_become 4 = .ok (.iconst 0, 1) := by decide +kernel
theorem dX8_become_5 : decode cX8_become 5 = .ok (.aload_n 0, 1) := by decide +kernel
theorem dX8_become_6 : decode cX8_become 6 = .ok (.getfield 9, 3) := by decide +kernel
theorem dX8_become_9 : decode cX8_become 9 = .ok (.iconst 0, 1) := by decide +kernel
theorem dX8_become_10 : decode cX8_become 10 = .ok (.bipush 8, 2) := by decide +kernel
theorem dX8_become_12 : decode cX8_become 12 = .ok (.invokestatic 41, 3) := by decide +kernel
theorem dX8_become_15 : decode cX8_become 15 = .ok (.aload_n 1, 1) := by decide +kernel
theorem dX8_become_16 : decode cX8_become 16 = .ok (.getfield 15, 3) := by decide +kernel
theorem dX8_become_19 : decode cX8_become 19 = .ok (.iconst 0, 1) := by decide +kernel
theorem dX8_become_20 : decode cX8_become 20 = .ok (.aload_n 0, 1) := by decide +kernel
theorem dX8_become_21 : decode cX8_become 21 = .ok (.getfield 15, 3) := by decide +kernel
theorem dX8_become_24 : decode cX8_become 24 = .ok (.iconst 0, 1) := by decide +kernel
theorem dX8_become_25 : decode cX8_become 25 = .ok (.bipush 8, 2) := by decide +kernel
theorem dX8_become_27 : decode cX8_become 27 = .ok (.invokestatic 41, 3) := by decide +kernel
theorem dX8_become_30 : decode cX8_become 30 = .ok (.aload_n 1, 1) := by decide +kernel
theorem dX8_become_31 : decode cX8_become 31 = .ok (.getfield 18, 3) := by decide +kernel
theorem dX8_become_34 : decode cX8_become 34 = .ok (.iconst 0, 1) := by decide +kernel
theorem dX8_become_35 : decode cX8_become 35 = .ok (.aload_n 0, 1) := by decide +kernel
theorem dX8_become_36 : decode cX8_become 36 = .ok (.getfield 18, 3) := by decide +kernel
theorem dX8_become_39 : decode cX8_become 39 = .ok (.iconst 0, 1) := by decide +kernel
theorem dX8_become_40 : decode cX8_become 40 = .ok (.bipush 8, 2) := by decide +kernel
theorem dX8_become_42 : decode cX8_become 42 = .ok (.invokestatic 41, 3) := by decide +kernel
theorem dX8_become_45 : decode cX8_become 45 = .ok (.aload_n 1, 1) := by decide +kernel
theorem dX8_become_46 : decode cX8_become 46 = .ok (.getfield 21, 3) := by decide +kernel
theorem dX8_become_49 : decode cX8_become 49 = .ok (.iconst 0, 1) := by decide +kernel
theorem dX8_become_50 : decode cX8_become 50 = .ok (.aload_n 0, 1) := by decide +kernel
theorem dX8_become_51 : decode cX8_become 51 = .ok (.getfield 21, 3) := by decide +kernel
theorem dX8_become_54 : decode cX8_become 54 = .ok (.iconst 0, 1) := by decide +kernel
theorem dX8_become_55 : decode cX8_become 55 = .ok (.bipush 8, 2) := by decide +kernel
theorem dX8_become_57 : decode cX8_become 57 = .ok (.invokestatic 41, 3) := by decide +kernel
theorem dX8_become_60 : decode cX8_become 60 = .ok (.aload_n 0, 1) := by decide +kernel
theorem dX8_become_61 : decode cX8_become 61 = .ok (.aload_n 1, 1) := by decide +kernel
theorem dX8_become_62 : decode cX8_become 62 = .ok (.getfield 24, 3) := by decide +kernel
theorem dX8_become_65 : decode cX8_become 65 = .ok (.putfield 24, 3) := by decide +kernel
theorem dX8_become_68 : decode cX8_become 68 = .ok (.aload_n 0, 1) := by decide +kernel
theorem dX8_become_69 : decode cX8_become 69 = .ok (.aload_n 1, 1) := by decide +kernel
theorem dX8_become_70 : decode cX8_become 70 = .ok (.getfield 28, 3) := by decide +kernel
theorem dX8_become_73 : decode cX8_become 73 = .ok (.putfield 28, 3) := by decide +kernel
theorem dX8_become_76 : decode cX8_become 76 = .ok (.aload_n 0, 1) := by decide +kernel
theorem dX8_become_77 : decode cX8_become 77 = .ok (.aload_n 1, 1) := by decide +kernel
theorem dX8_become_78 : decode cX8_become 78 = .ok (.getfield 32, 3) := by decide +kernel
theorem dX8_become_81 : decode cX8_become 81 = .ok (.putfield 32, 3) := by decide +kernel
theorem dX8_become_84 : decode cX8_become 84 = .ok (.aload_n 0, 1) := by decide +kernel
theorem dX8_become_85 : decode cX8_become 85 = .ok (.aload_n 1, 1) := by decide +kernel
theorem dX8_become_86 : decode cX8_become 86 = .ok (.getfield 35, 3) := by decide +kernel
theorem dX8_become_89 : decode cX8_become 89 = .ok (.putfield 35, 3) := by decide +kernel
theorem dX8_become_92 : decode cX8_become 92 = .ok (.return_, 1) := by decide +kernel
theorem dX8_leftOf_0 : decode cX8_leftOf 0 = .ok (.iload_n 1, 1) := by decide +kernel
theorem dX8_leftOf_1 : decode cX8_leftOf 1 = .ok (.ifCond .lt 21, 3) := by decide +kernel
theorem dX8_leftOf_4 : decode cX8_leftOf 4 = .ok (.iload_n 1, 1) := by decide +kernel
theorem dX8_leftOf_5 : decode cX8_leftOf 5 = .ok (.aload_n 0, 1) := by decide +kernel
theorem dX8_leftOf_6 : decode cX8_leftOf 6 = .ok (.getfield 9, 3) := by decide +kernel
theorem dX8_leftOf_9 : decode cX8_leftOf 9 = .ok (.arraylength, 1) := by decide +kernel
theorem dX8_leftOf_10 : decode cX8_leftOf 10 = .ok (.if_icmp .ge 12, 3) := by decide +kernel
theorem dX8_leftOf_13 : decode cX8_leftOf 13 = .ok (.aload_n 0, 1) := by decide +kernel
theorem dX8_leftOf_14 : decode cX8_leftOf 14 = .ok (.getfield 9, 3) := by decide +kernel
theorem dX8_leftOf_17 : decode cX8_leftOf 17 = .ok (.iload_n 1, 1) := by decide +kernel
theorem dX8_leftOf_18 : decode cX8_leftOf 18 = .ok (.iaload, 1) := by decide +kernel
theorem dX8_leftOf_19 : decode cX8_leftOf 19 = .ok (.goto 4, 3) := by decide +kernel
theorem dX8_leftOf_22 : decode cX8_leftOf 22 = .ok (.iconst 0, 1) := by decide +kernel
theorem dX8_leftOf_23 : decode cX8_leftOf 23 = .ok (.ireturn, 1) := by decide +kernel
theorem dX8_watchOf_0 : decode cX8_watchOf 0 = .ok (.iload_n 1, 1) := by decide +kernel
theorem dX8_watchOf_1 : decode cX8_watchOf 1 = .ok (.ifCond .lt 21, 3) := by decide +kernel
theorem dX8_watchOf_4 : decode cX8_watchOf 4 = .ok (.iload_n 1, 1) := by decide +kernel
theorem dX8_watchOf_5 : decode cX8_watchOf 5 = .ok (.aload_n 0, 1) := by decide +kernel
theorem dX8_watchOf_6 : decode cX8_watchOf 6 = .ok (.getfield 15, 3) := by decide +kernel
theorem dX8_watchOf_9 : decode cX8_watchOf 9 = .ok (.arraylength, 1) := by decide +kernel
theorem dX8_watchOf_10 : decode cX8_watchOf 10 = .ok (.if_icmp .ge 12, 3) := by decide +kernel
theorem dX8_watchOf_13 : decode cX8_watchOf 13 = .ok (.aload_n 0, 1) := by decide +kernel
theorem dX8_watchOf_14 : decode cX8_watchOf 14 = .ok (.getfield 15, 3) := by decide +kernel
theorem dX8_watchOf_17 : decode cX8_watchOf 17 = .ok (.iload_n 1, 1) := by decide +kernel
theorem dX8_watchOf_18 : decode cX8_watchOf 18 = .ok (.iaload, 1) := by decide +kernel
theorem dX8_watchOf_19 : decode cX8_watchOf 19 = .ok (.goto 4, 3) := by decide +kernel
theorem dX8_watchOf_22 : decode cX8_watchOf 22 = .ok (.iconst 0, 1) := by decide +kernel
theorem dX8_watchOf_23 : decode cX8_watchOf 23 = .ok (.ireturn, 1) := by decide +kernel
theorem dX8_meanOf_0 : decode cX8_meanOf 0 = .ok (.iload_n 1, 1) := by decide +kernel
theorem dX8_meanOf_1 : decode cX8_meanOf 1 = .ok (.ifCond .lt 21, 3) := by decide +kernel
theorem dX8_meanOf_4 : decode cX8_meanOf 4 = .ok (.iload_n 1, 1) := by decide +kernel
theorem dX8_meanOf_5 : decode cX8_meanOf 5 = .ok (.aload_n 0, 1) := by decide +kernel
theorem dX8_meanOf_6 : decode cX8_meanOf 6 = .ok (.getfield 18, 3) := by decide +kernel
theorem dX8_meanOf_9 : decode cX8_meanOf 9 = .ok (.arraylength, 1) := by decide +kernel
theorem dX8_meanOf_10 : decode cX8_meanOf 10 = .ok (.if_icmp .ge 12, 3) := by decide +kernel
theorem dX8_meanOf_13 : decode cX8_meanOf 13 = .ok (.aload_n 0, 1) := by decide +kernel
theorem dX8_meanOf_14 : decode cX8_meanOf 14 = .ok (.getfield 18, 3) := by decide +kernel
theorem dX8_meanOf_17 : decode cX8_meanOf 17 = .ok (.iload_n 1, 1) := by decide +kernel
theorem dX8_meanOf_18 : decode cX8_meanOf 18 = .ok (.iaload, 1) := by decide +kernel
theorem dX8_meanOf_19 : decode cX8_meanOf 19 = .ok (.goto 4, 3) := by decide +kernel
theorem dX8_meanOf_22 : decode cX8_meanOf 22 = .ok (.iconst 0, 1) := by decide +kernel
theorem dX8_meanOf_23 : decode cX8_meanOf 23 = .ok (.ireturn, 1) := by decide +kernel
theorem dX8_givenBy_0 : decode cX8_givenBy 0 = .ok (.iload_n 1, 1) := by decide +kernel
theorem dX8_givenBy_1 : decode cX8_givenBy 1 = .ok (.ifCond .lt 21, 3) := by decide +kernel
theorem dX8_givenBy_4 : decode cX8_givenBy 4 = .ok (.iload_n 1, 1) := by decide +kernel
theorem dX8_givenBy_5 : decode cX8_givenBy 5 = .ok (.aload_n 0, 1) := by decide +kernel
theorem dX8_givenBy_6 : decode cX8_givenBy 6 = .ok (.getfield 21, 3) := by decide +kernel
theorem dX8_givenBy_9 : decode cX8_givenBy 9 = .ok (.arraylength, 1) := by decide +kernel
theorem dX8_givenBy_10 : decode cX8_givenBy 10 = .ok (.if_icmp .ge 12, 3) := by decide +kernel
theorem dX8_givenBy_13 : decode cX8_givenBy 13 = .ok (.aload_n 0, 1) := by decide +kernel
theorem dX8_givenBy_14 : decode cX8_givenBy 14 = .ok (.getfield 21, 3) := by decide +kernel
theorem dX8_givenBy_17 : decode cX8_givenBy 17 = .ok (.iload_n 1, 1) := by decide +kernel
theorem dX8_givenBy_18 : decode cX8_givenBy 18 = .ok (.iaload, 1) := by decide +kernel
theorem dX8_givenBy_19 : decode cX8_givenBy 19 = .ok (.goto 4, 3) := by decide +kernel
theorem dX8_givenBy_22 : decode cX8_givenBy 22 = .ok (.iconst 0, 1) := by decide +kernel
theorem dX8_givenBy_23 : decode cX8_givenBy 23 = .ok (.ireturn, 1) := by decide +kernel
theorem dX8_shownBy_0 : decode cX8_shownBy 0 = .ok (.iload_n 1, 1) := by decide +kernel
theorem dX8_shownBy_1 : decode cX8_shownBy 1 = .ok (.ifCond .lt 21, 3) := by decide +kernel
theorem dX8_shownBy_4 : decode cX8_shownBy 4 = .ok (.iload_n 1, 1) := by decide +kernel
theorem dX8_shownBy_5 : decode cX8_shownBy 5 = .ok (.aload_n 0, 1) := by decide +kernel
theorem dX8_shownBy_6 : decode cX8_shownBy 6 = .ok (.getfield 15, 3) := by decide +kernel
theorem dX8_shownBy_9 : decode cX8_shownBy 9 = .ok (.arraylength, 1) := by decide +kernel
theorem dX8_shownBy_10 : decode cX8_shownBy 10 = .ok (.if_icmp .ge 12, 3) := by decide +kernel
theorem dX8_shownBy_13 : decode cX8_shownBy 13 = .ok (.aload_n 0, 1) := by decide +kernel
theorem dX8_shownBy_14 : decode cX8_shownBy 14 = .ok (.getfield 15, 3) := by decide +kernel
theorem dX8_shownBy_17 : decode cX8_shownBy 17 = .ok (.iload_n 1, 1) := by decide +kernel
theorem dX8_shownBy_18 : decode cX8_shownBy 18 = .ok (.iaload, 1) := by decide +kernel
theorem dX8_shownBy_19 : decode cX8_shownBy 19 = .ok (.goto 4, 3) := by decide +kernel
theorem dX8_shownBy_22 : decode cX8_shownBy 22 = .ok (.iconst 0, 1) := by decide +kernel
theorem dX8_shownBy_23 : decode cX8_shownBy 23 = .ok (.istore_n 2, 1) := by decide +kernel
theorem dX8_shownBy_24 : decode cX8_shownBy 24 = .ok (.aload_n 0, 1) := by decide +kernel
theorem dX8_shownBy_25 : decode cX8_shownBy 25 = .ok (.getfield 32, 3) := by decide +kernel
theorem dX8_shownBy_28 : decode cX8_shownBy 28 = .ok (.iload_n 2, 1) := by decide +kernel
theorem dX8_shownBy_29 : decode cX8_shownBy 29 = .ok (.iadd, 1) := by decide +kernel
theorem dX8_shownBy_30 : decode cX8_shownBy 30 = .ok (.bipush 60, 2) := by decide +kernel
theorem dX8_shownBy_32 : decode cX8_shownBy 32 = .ok (.iadd, 1) := by decide +kernel
theorem dX8_shownBy_33 : decode cX8_shownBy 33 = .ok (.bipush 30, 2) := by decide +kernel
theorem dX8_shownBy_35 : decode cX8_shownBy 35 = .ok (.isub, 1) := by decide +kernel
theorem dX8_shownBy_36 : decode cX8_shownBy 36 = .ok (.bipush 60, 2) := by decide +kernel
theorem dX8_shownBy_38 : decode cX8_shownBy 38 = .ok (.irem, 1) := by decide +kernel
theorem dX8_shownBy_39 : decode cX8_shownBy 39 = .ok (.ireturn, 1) := by decide +kernel
theorem dX8_isSpent_0 : decode cX8_isSpent 0 = .ok (.iload_n 1, 1) := by decide +kernel
theorem dX8_isSpent_1 : decode cX8_isSpent 1 = .ok (.ifCond .lt 21, 3) := by decide +kernel
theorem dX8_isSpent_4 : decode cX8_isSpent 4 = .ok (.iload_n 1, 1) := by decide +kernel
theorem dX8_isSpent_5 : decode cX8_isSpent 5 = .ok (.aload_n 0, 1) := by decide +kernel
theorem dX8_isSpent_6 : decode cX8_isSpent 6 = .ok (.getfield 9, 3) := by decide +kernel
theorem dX8_isSpent_9 : decode cX8_isSpent 9 = .ok (.arraylength, 1) := by decide +kernel
theorem dX8_isSpent_10 : decode cX8_isSpent 10 = .ok (.if_icmp .ge 12, 3) := by decide +kernel
theorem dX8_isSpent_13 : decode cX8_isSpent 13 = .ok (.aload_n 0, 1) := by decide +kernel
theorem dX8_isSpent_14 : decode cX8_isSpent 14 = .ok (.getfield 9, 3) := by decide +kernel
theorem dX8_isSpent_17 : decode cX8_isSpent 17 = .ok (.iload_n 1, 1) := by decide +kernel
theorem dX8_isSpent_18 : decode cX8_isSpent 18 = .ok (.iaload, 1) := by decide +kernel
theorem dX8_isSpent_19 : decode cX8_isSpent 19 = .ok (.ifCond .gt 7, 3) := by decide +kernel
theorem dX8_isSpent_22 : decode cX8_isSpent 22 = .ok (.iconst 1, 1) := by decide +kernel
theorem dX8_isSpent_23 : decode cX8_isSpent 23 = .ok (.goto 4, 3) := by decide +kernel
theorem dX8_isSpent_26 : decode cX8_isSpent 26 = .ok (.iconst 0, 1) := by decide +kernel
theorem dX8_isSpent_27 : decode cX8_isSpent 27 = .ok (.ireturn, 1) := by decide +kernel
theorem dX8_staysIn_0 : decode cX8_staysIn 0 = .ok (.aload_n 0, 1) := by decide +kernel
theorem dX8_staysIn_1 : decode cX8_staysIn 1 = .ok (.getfield 24, 3) := by decide +kernel
theorem dX8_staysIn_4 : decode cX8_staysIn 4 = .ok (.iload_n 1, 1) := by decide +kernel
theorem dX8_staysIn_5 : decode cX8_staysIn 5 = .ok (.ishr, 1) := by decide +kernel
theorem dX8_staysIn_6 : decode cX8_staysIn 6 = .ok (.iconst 1, 1) := by decide +kernel
theorem dX8_staysIn_7 : decode cX8_staysIn 7 = .ok (.iand, 1) := by decide +kernel
theorem dX8_staysIn_8 : decode cX8_staysIn 8 = .ok (.iconst 1, 1) := by decide +kernel
theorem dX8_staysIn_9 : decode cX8_staysIn 9 = .ok (.if_icmp .ne 7, 3) := by decide +kernel
theorem dX8_staysIn_12 : decode cX8_staysIn 12 = .ok (.iconst 1, 1) := by decide +kernel
theorem dX8_staysIn_13 : decode cX8_staysIn 13 = .ok (.goto 4, 3) := by decide +kernel
theorem dX8_staysIn_16 : decode cX8_staysIn 16 = .ok (.iconst 0, 1) := by decide +kernel
theorem dX8_staysIn_17 : decode cX8_staysIn 17 = .ok (.ireturn, 1) := by decide +kernel
theorem dX8_aliveBits_0 : decode cX8_aliveBits 0 = .ok (.iconst 0, 1) := by decide +kernel
theorem dX8_aliveBits_1 : decode cX8_aliveBits 1 = .ok (.istore_n 1, 1) := by decide +kernel
theorem dX8_aliveBits_2 : decode cX8_aliveBits 2 = .ok (.iconst 0, 1) := by decide +kernel
theorem dX8_aliveBits_3 : decode cX8_aliveBits 3 = .ok (.istore_n 2, 1) := by decide +kernel
theorem dX8_aliveBits_4 : decode cX8_aliveBits 4 = .ok (.iload_n 2, 1) := by decide +kernel
theorem dX8_aliveBits_5 : decode cX8_aliveBits 5 = .ok (.aload_n 0, 1) := by decide +kernel
theorem dX8_aliveBits_6 : decode cX8_aliveBits 6 = .ok (.getfield 9, 3) := by decide +kernel
theorem dX8_aliveBits_9 : decode cX8_aliveBits 9 = .ok (.arraylength, 1) := by decide +kernel
theorem dX8_aliveBits_10 : decode cX8_aliveBits 10 = .ok (.if_icmp .ge 24, 3) := by decide +kernel
theorem dX8_aliveBits_13 : decode cX8_aliveBits 13 = .ok (.aload_n 0, 1) := by decide +kernel
theorem dX8_aliveBits_14 : decode cX8_aliveBits 14 = .ok (.getfield 9, 3) := by decide +kernel
theorem dX8_aliveBits_17 : decode cX8_aliveBits 17 = .ok (.iload_n 2, 1) := by decide +kernel
theorem dX8_aliveBits_18 : decode cX8_aliveBits 18 = .ok (.iaload, 1) := by decide +kernel
theorem dX8_aliveBits_19 : decode cX8_aliveBits 19 = .ok (.ifCond .le 9, 3) := by decide +kernel
theorem dX8_aliveBits_22 : decode cX8_aliveBits 22 = .ok (.iload_n 1, 1) := by decide +kernel
theorem dX8_aliveBits_23 : decode cX8_aliveBits 23 = .ok (.iconst 1, 1) := by decide +kernel
theorem dX8_aliveBits_24 : decode cX8_aliveBits 24 = .ok (.iload_n 2, 1) := by decide +kernel
theorem dX8_aliveBits_25 : decode cX8_aliveBits 25 = .ok (.ishl, 1) := by decide +kernel
theorem dX8_aliveBits_26 : decode cX8_aliveBits 26 = .ok (.ior, 1) := by decide +kernel
theorem dX8_aliveBits_27 : decode cX8_aliveBits 27 = .ok (.istore_n 1, 1) := by decide +kernel
theorem dX8_aliveBits_28 : decode cX8_aliveBits 28 = .ok (.iinc 2 1, 3) := by decide +kernel
theorem dX8_aliveBits_31 : decode cX8_aliveBits 31 = .ok (.goto (-27), 3) := by decide +kernel
theorem dX8_aliveBits_34 : decode cX8_aliveBits 34 = .ok (.iload_n 1, 1) := by decide +kernel
theorem dX8_aliveBits_35 : decode cX8_aliveBits 35 = .ok (.ireturn, 1) := by decide +kernel
theorem dX8_total_0 : decode cX8_total 0 = .ok (.iconst 0, 1) := by decide +kernel
theorem dX8_total_1 : decode cX8_total 1 = .ok (.istore_n 1, 1) := by decide +kernel
theorem dX8_total_2 : decode cX8_total 2 = .ok (.iconst 0, 1) := by decide +kernel
theorem dX8_total_3 : decode cX8_total 3 = .ok (.istore_n 2, 1) := by decide +kernel
theorem dX8_total_4 : decode cX8_total 4 = .ok (.iload_n 2, 1) := by decide +kernel
theorem dX8_total_5 : decode cX8_total 5 = .ok (.aload_n 0, 1) := by decide +kernel
theorem dX8_total_6 : decode cX8_total 6 = .ok (.getfield 9, 3) := by decide +kernel
theorem dX8_total_9 : decode cX8_total 9 = .ok (.arraylength, 1) := by decide +kernel
theorem dX8_total_10 : decode cX8_total 10 = .ok (.if_icmp .ge 18, 3) := by decide +kernel
theorem dX8_total_13 : decode cX8_total 13 = .ok (.iload_n 1, 1) := by decide +kernel
theorem dX8_total_14 : decode cX8_total 14 = .ok (.aload_n 0, 1) := by decide +kernel
theorem dX8_total_15 : decode cX8_total 15 = .ok (.getfield 9, 3) := by decide +kernel
theorem dX8_total_18 : decode cX8_total 18 = .ok (.iload_n 2, 1) := by decide +kernel
theorem dX8_total_19 : decode cX8_total 19 = .ok (.iaload, 1) := by decide +kernel
theorem dX8_total_20 : decode cX8_total 20 = .ok (.iadd, 1) := by decide +kernel
theorem dX8_total_21 : decode cX8_total 21 = .ok (.istore_n 1, 1) := by decide +kernel
theorem dX8_total_22 : decode cX8_total 22 = .ok (.iinc 2 1, 3) := by decide +kernel
theorem dX8_total_25 : decode cX8_total 25 = .ok (.goto (-21), 3) := by decide +kernel
theorem dX8_total_28 : decode cX8_total 28 = .ok (.iload_n 1, 1) := by decide +kernel
theorem dX8_total_29 : decode cX8_total 29 = .ok (.ireturn, 1) := by decide +kernel
theorem dX8_richestOf_0 : decode cX8_richestOf 0 = .ok (.iconst (-1), 1) := by decide +kernel
theorem dX8_richestOf_1 : decode cX8_richestOf 1 = .ok (.istore_n 2, 1) := by decide +kernel
theorem dX8_richestOf_2 : decode cX8_richestOf 2 = .ok (.iconst (-1), 1) := by decide +kernel
theorem dX8_richestOf_3 : decode cX8_richestOf 3 = .ok (.istore_n 3, 1) := by decide +kernel
theorem dX8_richestOf_4 : decode cX8_richestOf 4 = .ok (.iconst 0, 1) := by decide +kernel
theorem dX8_richestOf_5 : decode cX8_richestOf 5 = .ok (.istore 4, 2) := by decide +kernel
theorem dX8_richestOf_7 : decode cX8_richestOf 7 = .ok (.iload 4, 2) := by decide +kernel
theorem dX8_richestOf_9 : decode cX8_richestOf 9 = .ok (.aload_n 0, 1) := by decide +kernel
theorem dX8_richestOf_10 : decode cX8_richestOf 10 = .ok (.getfield 9, 3) := by decide +kernel
theorem dX8_richestOf_13 : decode cX8_richestOf 13 = .ok (.arraylength, 1) := by decide +kernel
theorem dX8_richestOf_14 : decode cX8_richestOf 14 = .ok (.if_icmp .ge 41, 3) := by decide +kernel
theorem dX8_richestOf_17 : decode cX8_richestOf 17 = .ok (.iload_n 1, 1) := by decide +kernel
theorem dX8_richestOf_18 : decode cX8_richestOf 18 = .ok (.iload 4, 2) := by decide +kernel
theorem dX8_richestOf_20 : decode cX8_richestOf 20 = .ok (.ishr, 1) := by decide +kernel
theorem dX8_richestOf_21 : decode cX8_richestOf 21 = .ok (.iconst 1, 1) := by decide +kernel
theorem dX8_richestOf_22 : decode cX8_richestOf 22 = .ok (.iand, 1) := by decide +kernel
theorem dX8_richestOf_23 : decode cX8_richestOf 23 = .ok (.iconst 1, 1) := by decide +kernel
theorem dX8_richestOf_24 : decode cX8_richestOf 24 = .ok (.if_icmp .ne 25, 3) := by decide +kernel
theorem dX8_richestOf_27 : decode cX8_richestOf 27 = .ok (.aload_n 0, 1) := by decide +kernel
theorem dX8_richestOf_28 : decode cX8_richestOf 28 = .ok (.getfield 9, 3) := by decide +kernel
theorem dX8_richestOf_31 : decode cX8_richestOf 31 = .ok (.iload 4, 2) := by decide +kernel
theorem dX8_richestOf_33 : decode cX8_richestOf 33 = .ok (.iaload, 1) := by decide +kernel
theorem dX8_richestOf_34 : decode cX8_richestOf 34 = .ok (.iload_n 3, 1) := by decide +kernel
theorem dX8_richestOf_35 : decode cX8_richestOf 35 = .ok (.if_icmp .le 14, 3) := by decide +kernel
theorem dX8_richestOf_38 : decode cX8_richestOf 38 = .ok (.aload_n 0, 1) := by decide +kernel
theorem dX8_richestOf_39 : decode cX8_richestOf 39 = .ok (.getfield 9, 3) := by decide +kernel
theorem dX8_richestOf_42 : decode cX8_richestOf 42 = .ok (.iload 4, 2) := by decide +kernel
theorem dX8_richestOf_44 : decode cX8_richestOf 44 = .ok (.iaload, 1) := by decide +kernel
theorem dX8_richestOf_45 : decode cX8_richestOf 45 = .ok (.istore_n 3, 1) := by decide +kernel
theorem dX8_richestOf_46 : decode cX8_richestOf 46 = .ok (.iload 4, 2) := by decide +kernel
theorem dX8_richestOf_48 : decode cX8_richestOf 48 = .ok (.istore_n 2, 1) := by decide +kernel
theorem dX8_richestOf_49 : decode cX8_richestOf 49 = .ok (.iinc 4 1, 3) := by decide +kernel
theorem dX8_richestOf_52 : decode cX8_richestOf 52 = .ok (.goto (-45), 3) := by decide +kernel
theorem dX8_richestOf_55 : decode cX8_richestOf 55 = .ok (.iload_n 2, 1) := by decide +kernel
theorem dX8_richestOf_56 : decode cX8_richestOf 56 = .ok (.ireturn, 1) := by decide +kernel
theorem dX8_poorestOf_0 : decode cX8_poorestOf 0 = .ok (.iconst (-1), 1) := by decide +kernel
theorem dX8_poorestOf_1 : decode cX8_poorestOf 1 = .ok (.istore_n 2, 1) := by decide +kernel
theorem dX8_poorestOf_2 : decode cX8_poorestOf 2 = .ok (.sipush 1000, 3) := by decide +kernel
theorem dX8_poorestOf_5 : decode cX8_poorestOf 5 = .ok (.istore_n 3, 1) := by decide +kernel
theorem dX8_poorestOf_6 : decode cX8_poorestOf 6 = .ok (.iconst 0, 1) := by decide +kernel
theorem dX8_poorestOf_7 : decode cX8_poorestOf 7 = .ok (.istore 4, 2) := by decide +kernel
theorem dX8_poorestOf_9 : decode cX8_poorestOf 9 = .ok (.iload 4, 2) := by decide +kernel
theorem dX8_poorestOf_11 : decode cX8_poorestOf 11 = .ok (.aload_n 0, 1) := by decide +kernel
theorem dX8_poorestOf_12 : decode cX8_poorestOf 12 = .ok (.getfield 9, 3) := by decide +kernel
theorem dX8_poorestOf_15 : decode cX8_poorestOf 15 = .ok (.arraylength, 1) := by decide +kernel
theorem dX8_poorestOf_16 : decode cX8_poorestOf 16 = .ok (.if_icmp .ge 41, 3) := by decide +kernel
theorem dX8_poorestOf_19 : decode cX8_poorestOf 19 = .ok (.iload_n 1, 1) := by decide +kernel
theorem dX8_poorestOf_20 : decode cX8_poorestOf 20 = .ok (.iload 4, 2) := by decide +kernel
theorem dX8_poorestOf_22 : decode cX8_poorestOf 22 = .ok (.ishr, 1) := by decide +kernel
theorem dX8_poorestOf_23 : decode cX8_poorestOf 23 = .ok (.iconst 1, 1) := by decide +kernel
theorem dX8_poorestOf_24 : decode cX8_poorestOf 24 = .ok (.iand, 1) := by decide +kernel
theorem dX8_poorestOf_25 : decode cX8_poorestOf 25 = .ok (.iconst 1, 1) := by decide +kernel
theorem dX8_poorestOf_26 : decode cX8_poorestOf 26 = .ok (.if_icmp .ne 25, 3) := by decide +kernel
theorem dX8_poorestOf_29 : decode cX8_poorestOf 29 = .ok (.aload_n 0, 1) := by decide +kernel
theorem dX8_poorestOf_30 : decode cX8_poorestOf 30 = .ok (.getfield 9, 3) := by decide +kernel
theorem dX8_poorestOf_33 : decode cX8_poorestOf 33 = .ok (.iload 4, 2) := by decide +kernel
theorem dX8_poorestOf_35 : decode cX8_poorestOf 35 = .ok (.iaload, 1) := by decide +kernel
theorem dX8_poorestOf_36 : decode cX8_poorestOf 36 = .ok (.iload_n 3, 1) := by decide +kernel
theorem dX8_poorestOf_37 : decode cX8_poorestOf 37 = .ok (.if_icmp .ge 14, 3) := by decide +kernel
theorem dX8_poorestOf_40 : decode cX8_poorestOf 40 = .ok (.aload_n 0, 1) := by decide +kernel
theorem dX8_poorestOf_41 : decode cX8_poorestOf 41 = .ok (.getfield 9, 3) := by decide +kernel
theorem dX8_poorestOf_44 : decode cX8_poorestOf 44 = .ok (.iload 4, 2) := by decide +kernel
theorem dX8_poorestOf_46 : decode cX8_poorestOf 46 = .ok (.iaload, 1) := by decide +kernel
theorem dX8_poorestOf_47 : decode cX8_poorestOf 47 = .ok (.istore_n 3, 1) := by decide +kernel
theorem dX8_poorestOf_48 : decode cX8_poorestOf 48 = .ok (.iload 4, 2) := by decide +kernel
theorem dX8_poorestOf_50 : decode cX8_poorestOf 50 = .ok (.istore_n 2, 1) := by decide +kernel
theorem dX8_poorestOf_51 : decode cX8_poorestOf 51 = .ok (.iinc 4 1, 3) := by decide +kernel
theorem dX8_poorestOf_54 : decode cX8_poorestOf 54 = .ok (.goto (-45), 3) := by decide +kernel
theorem dX8_poorestOf_57 : decode cX8_poorestOf 57 = .ok (.iload_n 2, 1) := by decide +kernel
theorem dX8_poorestOf_58 : decode cX8_poorestOf 58 = .ok (.ireturn, 1) := by decide +kernel
theorem dX8_setLeft_0 : decode cX8_setLeft 0 = .ok (.iload_n 1, 1) := by decide +kernel
theorem dX8_setLeft_1 : decode cX8_setLeft 1 = .ok (.ifCond .lt 19, 3) := by decide +kernel
theorem dX8_setLeft_4 : decode cX8_setLeft 4 = .ok (.iload_n 1, 1) := by decide +kernel
theorem dX8_setLeft_5 : decode cX8_setLeft 5 = .ok (.aload_n 0, 1) := by decide +kernel
theorem dX8_setLeft_6 : decode cX8_setLeft 6 = .ok (.getfield 9, 3) := by decide +kernel
theorem dX8_setLeft_9 : decode cX8_setLeft 9 = .ok (.arraylength, 1) := by decide +kernel
theorem dX8_setLeft_10 : decode cX8_setLeft 10 = .ok (.if_icmp .ge 10, 3) := by decide +kernel
theorem dX8_setLeft_13 : decode cX8_setLeft 13 = .ok (.aload_n 0, 1) := by decide +kernel
theorem dX8_setLeft_14 : decode cX8_setLeft 14 = .ok (.getfield 9, 3) := by decide +kernel
theorem dX8_setLeft_17 : decode cX8_setLeft 17 = .ok (.iload_n 1, 1) := by decide +kernel
theorem dX8_setLeft_18 : decode cX8_setLeft 18 = .ok (.iload_n 2, 1) := by decide +kernel
theorem dX8_setLeft_19 : decode cX8_setLeft 19 = .ok (.iastore, 1) := by decide +kernel
theorem dX8_setLeft_20 : decode cX8_setLeft 20 = .ok (.return_, 1) := by decide +kernel
theorem dX8_setWatch_0 : decode cX8_setWatch 0 = .ok (.iload_n 1, 1) := by decide +kernel
theorem dX8_setWatch_1 : decode cX8_setWatch 1 = .ok (.ifCond .lt 19, 3) := by decide +kernel
theorem dX8_setWatch_4 : decode cX8_setWatch 4 = .ok (.iload_n 1, 1) := by decide +kernel
theorem dX8_setWatch_5 : decode cX8_setWatch 5 = .ok (.aload_n 0, 1) := by decide +kernel
theorem dX8_setWatch_6 : decode cX8_setWatch 6 = .ok (.getfield 15, 3) := by decide +kernel
theorem dX8_setWatch_9 : decode cX8_setWatch 9 = .ok (.arraylength, 1) := by decide +kernel
theorem dX8_setWatch_10 : decode cX8_setWatch 10 = .ok (.if_icmp .ge 10, 3) := by decide +kernel
theorem dX8_setWatch_13 : decode cX8_setWatch 13 = .ok (.aload_n 0, 1) := by decide +kernel
theorem dX8_setWatch_14 : decode cX8_setWatch 14 = .ok (.getfield 15, 3) := by decide +kernel
theorem dX8_setWatch_17 : decode cX8_setWatch 17 = .ok (.iload_n 1, 1) := by decide +kernel
theorem dX8_setWatch_18 : decode cX8_setWatch 18 = .ok (.iload_n 2, 1) := by decide +kernel
theorem dX8_setWatch_19 : decode cX8_setWatch 19 = .ok (.iastore, 1) := by decide +kernel
theorem dX8_setWatch_20 : decode cX8_setWatch 20 = .ok (.return_, 1) := by decide +kernel
theorem dX8_keepIn_0 : decode cX8_keepIn 0 = .ok (.aload_n 0, 1) := by decide +kernel
theorem dX8_keepIn_1 : decode cX8_keepIn 1 = .ok (.iload_n 2, 1) := by decide +kernel
theorem dX8_keepIn_2 : decode cX8_keepIn 2 = .ok (.ifCond .eq 14, 3) := by decide +kernel
theorem dX8_keepIn_5 : decode cX8_keepIn 5 = .ok (.aload_n 0, 1) := by decide +kernel
theorem dX8_keepIn_6 : decode cX8_keepIn 6 = .ok (.getfield 24, 3) := by decide +kernel
theorem dX8_keepIn_9 : decode cX8_keepIn 9 = .ok (.iconst 1, 1) := by decide +kernel
theorem dX8_keepIn_10 : decode cX8_keepIn 10 = .ok (.iload_n 1, 1) := by decide +kernel
theorem dX8_keepIn_11 : decode cX8_keepIn 11 = .ok (.ishl, 1) := by decide +kernel
theorem dX8_keepIn_12 : decode cX8_keepIn 12 = .ok (.ior, 1) := by decide +kernel
theorem dX8_keepIn_13 : decode cX8_keepIn 13 = .ok (.goto 13, 3) := by decide +kernel
theorem dX8_keepIn_16 : decode cX8_keepIn 16 = .ok (.aload_n 0, 1) := by decide +kernel
theorem dX8_keepIn_17 : decode cX8_keepIn 17 = .ok (.getfield 24, 3) := by decide +kernel
theorem dX8_keepIn_20 : decode cX8_keepIn 20 = .ok (.iconst 1, 1) := by decide +kernel
theorem dX8_keepIn_21 : decode cX8_keepIn 21 = .ok (.iload_n 1, 1) := by decide +kernel
theorem dX8_keepIn_22 : decode cX8_keepIn 22 = .ok (.ishl, 1) := by decide +kernel
theorem dX8_keepIn_23 : decode cX8_keepIn 23 = .ok (.iconst (-1), 1) := by decide +kernel
theorem dX8_keepIn_24 : decode cX8_keepIn 24 = .ok (.ixor, 1) := by decide +kernel
theorem dX8_keepIn_25 : decode cX8_keepIn 25 = .ok (.iand, 1) := by decide +kernel
theorem dX8_keepIn_26 : decode cX8_keepIn 26 = .ok (.putfield 24, 3) := by decide +kernel
theorem dX8_keepIn_29 : decode cX8_keepIn 29 = .ok (.return_, 1) := by decide +kernel
theorem dX8_hideWatch_0 : decode cX8_hideWatch 0 = .ok (.iload_n 1, 1) := by decide +kernel
theorem dX8_hideWatch_1 : decode cX8_hideWatch 1 = .ok (.ifCond .lt 32, 3) := by decide +kernel
theorem dX8_hideWatch_4 : decode cX8_hideWatch 4 = .ok (.iload_n 1, 1) := by decide +kernel
theorem dX8_hideWatch_5 : decode cX8_hideWatch 5 = .ok (.aload_n 0, 1) := by decide +kernel
theorem dX8_hideWatch_6 : decode cX8_hideWatch 6 = .ok (.getfield 18, 3) := by decide +kernel
theorem dX8_hideWatch_9 : decode cX8_hideWatch 9 = .ok (.arraylength, 1) := by decide +kernel
theorem dX8_hideWatch_10 : decode cX8_hideWatch 10 = .ok (.if_icmp .ge 23, 3) := by decide +kernel
theorem dX8_hideWatch_13 : decode cX8_hideWatch 13 = .ok (.aload_n 0, 1) := by decide +kernel
theorem dX8_hideWatch_14 : decode cX8_hideWatch 14 = .ok (.getfield 18, 3) := by decide +kernel
theorem dX8_hideWatch_17 : decode cX8_hideWatch 17 = .ok (.iload_n 1, 1) := by decide +kernel
theorem dX8_hideWatch_18 : decode cX8_hideWatch 18 = .ok (.bipush 9, 2) := by decide +kernel
theorem dX8_hideWatch_20 : decode cX8_hideWatch 20 = .ok (.iastore, 1) := by decide +kernel
theorem dX8_hideWatch_21 : decode cX8_hideWatch 21 = .ok (.aload_n 0, 1) := by decide +kernel
theorem dX8_hideWatch_22 : decode cX8_hideWatch 22 = .ok (.dup, 1) := by decide +kernel
theorem dX8_hideWatch_23 : decode cX8_hideWatch 23 = .ok (.getfield 24, 3) := by decide +kernel
theorem dX8_hideWatch_26 : decode cX8_hideWatch 26 = .ok (.iconst 1, 1) := by decide +kernel
theorem dX8_hideWatch_27 : decode cX8_hideWatch 27 = .ok (.iload_n 1, 1) := by decide +kernel
theorem dX8_hideWatch_28 : decode cX8_hideWatch 28 = .ok (.ishl, 1) := by decide +kernel
theorem dX8_hideWatch_29 : decode cX8_hideWatch 29 = .ok (.ior, 1) := by decide +kernel
theorem dX8_hideWatch_30 : decode cX8_hideWatch 30 = .ok (.putfield 24, 3) := by decide +kernel
theorem dX8_hideWatch_33 : decode cX8_hideWatch 33 = .ok (.return_, 1) := by decide +kernel
theorem dX8_receive_0 : decode cX8_receive 0 = .ok (.iload_n 1, 1) := by decide +kernel
theorem dX8_receive_1 : decode cX8_receive 1 = .ok (.ifCond .lt 32, 3) := by decide +kernel
theorem dX8_receive_4 : decode cX8_receive 4 = .ok (.iload_n 1, 1) := by decide +kernel
theorem dX8_receive_5 : decode cX8_receive 5 = .ok (.aload_n 0, 1) := by decide +kernel
theorem dX8_receive_6 : decode cX8_receive 6 = .ok (.getfield 9, 3) := by decide +kernel
theorem dX8_receive_9 : decode cX8_receive 9 = .ok (.arraylength, 1) := by decide +kernel
theorem dX8_receive_10 : decode cX8_receive 10 = .ok (.if_icmp .ge 23, 3) := by decide +kernel
theorem dX8_receive_13 : decode cX8_receive 13 = .ok (.aload_n 0, 1) := by decide +kernel
theorem dX8_receive_14 : decode cX8_receive 14 = .ok (.getfield 9, 3) := by decide +kernel
theorem dX8_receive_17 : decode cX8_receive 17 = .ok (.iload_n 1, 1) := by decide +kernel
theorem dX8_receive_18 : decode cX8_receive 18 = .ok (.aload_n 0, 1) := by decide +kernel
theorem dX8_receive_19 : decode cX8_receive 19 = .ok (.getfield 9, 3) := by decide +kernel
theorem dX8_receive_22 : decode cX8_receive 22 = .ok (.iload_n 1, 1) := by decide +kernel
theorem dX8_receive_23 : decode cX8_receive 23 = .ok (.iaload, 1) := by decide +kernel
theorem dX8_receive_24 : decode cX8_receive 24 = .ok (.iload_n 2, 1) := by decide +kernel
theorem dX8_receive_25 : decode cX8_receive 25 = .ok (.iadd, 1) := by decide +kernel
theorem dX8_receive_26 : decode cX8_receive 26 = .ok (.sipush 999, 3) := by decide +kernel
theorem dX8_receive_29 : decode cX8_receive 29 = .ok (.invokestatic 56, 3) := by decide +kernel
theorem dX8_receive_32 : decode cX8_receive 32 = .ok (.iastore, 1) := by decide +kernel
theorem dX8_receive_33 : decode cX8_receive 33 = .ok (.return_, 1) := by decide +kernel
theorem dX8_handOver_0 : decode cX8_handOver 0 = .ok (.iload_n 1, 1) := by decide +kernel
theorem dX8_handOver_1 : decode cX8_handOver 1 = .ok (.ifCond .lt 9, 3) := by decide +kernel
theorem dX8_handOver_4 : decode cX8_handOver 4 = .ok (.iload_n 1, 1) := by decide +kernel
theorem dX8_handOver_5 : decode cX8_handOver 5 = .ok (.bipush 8, 2) := by decide +kernel
theorem dX8_handOver_7 : decode cX8_handOver 7 = .ok (.if_icmp .lt 5, 3) := by decide +kernel
theorem dX8_handOver_10 : decode cX8_handOver 10 = .ok (.iconst 0, 1) := by decide +kernel
theorem dX8_handOver_11 : decode cX8_handOver 11 = .ok (.ireturn, 1) := by decide +kernel
theorem dX8_handOver_12 : decode cX8_handOver 12 = .ok (.iload_n 2, 1) := by decide +kernel
theorem dX8_handOver_13 : decode cX8_handOver 13 = .ok (.aload_n 0, 1) := by decide +kernel
theorem dX8_handOver_14 : decode cX8_handOver 14 = .ok (.getfield 9, 3) := by decide +kernel
theorem dX8_handOver_17 : decode cX8_handOver 17 = .ok (.iload_n 1, 1) := by decide +kernel
theorem dX8_handOver_18 : decode cX8_handOver 18 = .ok (.iaload, 1) := by decide +kernel
theorem dX8_handOver_19 : decode cX8_handOver 19 = .ok (.invokestatic 56, 3) := by decide +kernel
theorem dX8_handOver_22 : decode cX8_handOver 22 = .ok (.istore_n 3, 1) := by decide +kernel
theorem dX8_handOver_23 : decode cX8_handOver 23 = .ok (.aload_n 0, 1) := by decide +kernel
theorem dX8_handOver_24 : decode cX8_handOver 24 = .ok (.getfield 9, 3) := by decide +kernel
theorem dX8_handOver_27 : decode cX8_handOver 27 = .ok (.iload_n 1, 1) := by decide +kernel
theorem dX8_handOver_28 : decode cX8_handOver 28 = .ok (.dup2, 1) := by decide +kernel
theorem dX8_handOver_29 : decode cX8_handOver 29 = .ok (.iaload, 1) := by decide +kernel
theorem dX8_handOver_30 : decode cX8_handOver 30 = .ok (.iload_n 3, 1) := by decide +kernel
theorem dX8_handOver_31 : decode cX8_handOver 31 = .ok (.isub, 1) := by decide +kernel
theorem dX8_handOver_32 : decode cX8_handOver 32 = .ok (.iastore, 1) := by decide +kernel
theorem dX8_handOver_33 : decode cX8_handOver 33 = .ok (.aload_n 0, 1) := by decide +kernel
theorem dX8_handOver_34 : decode cX8_handOver 34 = .ok (.getfield 21, 3) := by decide +kernel
theorem dX8_handOver_37 : decode cX8_handOver 37 = .ok (.iload_n 1, 1) := by decide +kernel
theorem dX8_handOver_38 : decode cX8_handOver 38 = .ok (.aload_n 0, 1) := by decide +kernel
theorem dX8_handOver_39 : decode cX8_handOver 39 = .ok (.getfield 21, 3) := by decide +kernel
theorem dX8_handOver_42 : decode cX8_handOver 42 = .ok (.iload_n 1, 1) := by decide +kernel
theorem dX8_handOver_43 : decode cX8_handOver 43 = .ok (.iaload, 1) := by decide +kernel
theorem dX8_handOver_44 : decode cX8_handOver 44 = .ok (.iload_n 3, 1) := by decide +kernel
theorem dX8_handOver_45 : decode cX8_handOver 45 = .ok (.iadd, 1) := by decide +kernel
theorem dX8_handOver_46 : decode cX8_handOver 46 = .ok (.sipush 9999, 3) := by decide +kernel
theorem dX8_handOver_49 : decode cX8_handOver 49 = .ok (.invokestatic 56, 3) := by decide +kernel
theorem dX8_handOver_52 : decode cX8_handOver 52 = .ok (.iastore, 1) := by decide +kernel
theorem dX8_handOver_53 : decode cX8_handOver 53 = .ok (.iload_n 3, 1) := by decide +kernel
theorem dX8_handOver_54 : decode cX8_handOver 54 = .ok (.ireturn, 1) := by decide +kernel
theorem dX8_endStep_0 : decode cX8_endStep 0 = .ok (.iconst 0, 1) := by decide +kernel
theorem dX8_endStep_1 : decode cX8_endStep 1 = .ok (.istore_n 1, 1) := by decide +kernel
theorem dX8_endStep_2 : decode cX8_endStep 2 = .ok (.iload_n 1, 1) := by decide +kernel
theorem dX8_endStep_3 : decode cX8_endStep 3 = .ok (.aload_n 0, 1) := by decide +kernel
theorem dX8_endStep_4 : decode cX8_endStep 4 = .ok (.getfield 9, 3) := by decide +kernel
theorem dX8_endStep_7 : decode cX8_endStep 7 = .ok (.arraylength, 1) := by decide +kernel
theorem dX8_endStep_8 : decode cX8_endStep 8 = .ok (.if_icmp .ge 28, 3) := by decide +kernel
theorem dX8_endStep_11 : decode cX8_endStep 11 = .ok (.aload_n 0, 1) := by decide +kernel
theorem dX8_endStep_12 : decode cX8_endStep 12 = .ok (.getfield 9, 3) := by decide +kernel
theorem dX8_endStep_15 : decode cX8_endStep 15 = .ok (.iload_n 1, 1) := by decide +kernel
theorem dX8_endStep_16 : decode cX8_endStep 16 = .ok (.iaload, 1) := by decide +kernel
theorem dX8_endStep_17 : decode cX8_endStep 17 = .ok (.ifCond .le 13, 3) := by decide +kernel
theorem dX8_endStep_20 : decode cX8_endStep 20 = .ok (.aload_n 0, 1) := by decide +kernel
theorem dX8_endStep_21 : decode cX8_endStep 21 = .ok (.getfield 9, 3) := by decide +kernel
theorem dX8_endStep_24 : decode cX8_endStep 24 = .ok (.iload_n 1, 1) := by decide +kernel
theorem dX8_endStep_25 : decode cX8_endStep 25 = .ok (.dup2, 1) := by decide +kernel
theorem dX8_endStep_26 : decode cX8_endStep 26 = .ok (.iaload, 1) := by decide +kernel
theorem dX8_endStep_27 : decode cX8_endStep 27 = .ok (.iconst 1, 1) := by decide +kernel
theorem dX8_endStep_28 : decode cX8_endStep 28 = .ok (.isub, 1) := by decide +kernel
theorem dX8_endStep_29 : decode cX8_endStep 29 = .ok (.iastore, 1) := by decide +kernel
theorem dX8_endStep_30 : decode cX8_endStep 30 = .ok (.iinc 1 1, 3) := by decide +kernel
theorem dX8_endStep_33 : decode cX8_endStep 33 = .ok (.goto (-31), 3) := by decide +kernel
theorem dX8_endStep_36 : decode cX8_endStep 36 = .ok (.aload_n 0, 1) := by decide +kernel
theorem dX8_endStep_37 : decode cX8_endStep 37 = .ok (.dup, 1) := by decide +kernel
theorem dX8_endStep_38 : decode cX8_endStep 38 = .ok (.getfield 35, 3) := by decide +kernel
theorem dX8_endStep_41 : decode cX8_endStep 41 = .ok (.iconst 1, 1) := by decide +kernel
theorem dX8_endStep_42 : decode cX8_endStep 42 = .ok (.iadd, 1) := by decide +kernel
theorem dX8_endStep_43 : decode cX8_endStep 43 = .ok (.putfield 35, 3) := by decide +kernel
theorem dX8_endStep_46 : decode cX8_endStep 46 = .ok (.aload_n 0, 1) := by decide +kernel
theorem dX8_endStep_47 : decode cX8_endStep 47 = .ok (.getfield 28, 3) := by decide +kernel
theorem dX8_endStep_50 : decode cX8_endStep 50 = .ok (.ifCond .ne 16, 3) := by decide +kernel
theorem dX8_endStep_53 : decode cX8_endStep 53 = .ok (.aload_n 0, 1) := by decide +kernel
theorem dX8_endStep_54 : decode cX8_endStep 54 = .ok (.aload_n 0, 1) := by decide +kernel
theorem dX8_endStep_55 : decode cX8_endStep 55 = .ok (.getfield 32, 3) := by decide +kernel
theorem dX8_endStep_58 : decode cX8_endStep 58 = .ok (.iconst 5, 1) := by decide +kernel
theorem dX8_endStep_59 : decode cX8_endStep 59 = .ok (.iadd, 1) := by decide +kernel
theorem dX8_endStep_60 : decode cX8_endStep 60 = .ok (.bipush 60, 2) := by decide +kernel
theorem dX8_endStep_62 : decode cX8_endStep 62 = .ok (.irem, 1) := by decide +kernel
theorem dX8_endStep_63 : decode cX8_endStep 63 = .ok (.putfield 32, 3) := by decide +kernel
theorem dX8_endStep_66 : decode cX8_endStep 66 = .ok (.return_, 1) := by decide +kernel
theorem dX9_init_0 : decode cX9_init 0 = .ok (.aload_n 0, 1) := by decide +kernel
theorem dX9_init_1 : decode cX9_init 1 = .ok (.invokespecial 3, 3) := by decide +kernel
theorem dX9_init_4 : decode cX9_init 4 = .ok (.aload_n 0, 1) := by decide +kernel
theorem dX9_init_5 : decode cX9_init 5 = .ok (.sipush 701, 3) := by decide +kernel
theorem dX9_init_8 : decode cX9_init 8 = .ok (.newarray .int, 2) := by decide +kernel
theorem dX9_init_10 : decode cX9_init 10 = .ok (.putfield 9, 3) := by decide +kernel
theorem dX9_init_13 : decode cX9_init 13 = .ok (.aload_n 0, 1) := by decide +kernel
theorem dX9_init_14 : decode cX9_init 14 = .ok (.sipush 701, 3) := by decide +kernel
theorem dX9_init_17 : decode cX9_init 17 = .ok (.newarray .int, 2) := by decide +kernel
theorem dX9_init_19 : decode cX9_init 19 = .ok (.putfield 15, 3) := by decide +kernel
theorem dX9_init_22 : decode cX9_init 22 = .ok (.aload_n 0, 1) := by decide +kernel
theorem dX9_init_23 : decode cX9_init 23 = .ok (.sipush 701, 3) := by decide +kernel
theorem dX9_init_26 : decode cX9_init 26 = .ok (.newarray .int, 2) := by decide +kernel
theorem dX9_init_28 : decode cX9_init 28 = .ok (.putfield 18, 3) := by decide +kernel
theorem dX9_init_31 : decode cX9_init 31 = .ok (.aload_n 0, 1) := by decide +kernel
theorem dX9_init_32 : decode cX9_init 32 = .ok (.iconst 0, 1) := by decide +kernel
theorem dX9_init_33 : decode cX9_init 33 = .ok (.putfield 21, 3) := by decide +kernel
theorem dX9_init_36 : decode cX9_init 36 = .ok (.return_, 1) := by decide +kernel
theorem dX9_scan_0 : decode cX9_scan 0 = .ok (.aload_n 0, 1) := by decide +kernel
theorem dX9_scan_1 : decode cX9_scan 1 = .ok (.iconst 0, 1) := by decide +kernel
theorem dX9_scan_2 : decode cX9_scan 2 = .ok (.putfield 21, 3) := by decide +kernel
theorem dX9_scan_5 : decode cX9_scan 5 = .ok (.iconst 0, 1) := by decide +kernel
theorem dX9_scan_6 : decode cX9_scan 6 = .ok (.istore_n 3, 1) := by decide +kernel
theorem dX9_scan_7 : decode cX9_scan 7 = .ok (.iconst 0, 1) := by decide +kernel
theorem dX9_scan_8 : decode cX9_scan 8 = .ok (.istore 4, 2) := by decide +kernel
theorem dX9_scan_10 : decode cX9_scan 10 = .ok (.iload 4, 2) := by decide +kernel
theorem dX9_scan_12 : decode cX9_scan 12 = .ok (.sipush 700, 3) := by decide +kernel
theorem dX9_scan_15 : decode cX9_scan 15 = .ok (.if_icmp .ge 104, 3) := by decide +kernel
theorem dX9_scan_18 : decode cX9_scan 18 = .ok (.iload_n 3, 1) := by decide +kernel
theorem dX9_scan_19 : decode cX9_scan 19 = .ok (.iload_n 2, 1) := by decide +kernel
theorem dX9_scan_20 : decode cX9_scan 20 = .ok (.if_icmp .ge 99, 3) := by decide +kernel
theorem dX9_scan_23 : decode cX9_scan 23 = .ok (.aload_n 1, 1) := by decide +kernel
theorem dX9_scan_24 : decode cX9_scan 24 = .ok (.iload_n 3, 1) := by decide +kernel
theorem dX9_scan_25 : decode cX9_scan 25 = .ok (.invokestatic 25, 3) := by decide +kernel
theorem dX9_scan_28 : decode cX9_scan 28 = .ok (.istore 5, 2) := by decide +kernel
theorem dX9_scan_30 : decode cX9_scan 30 = .ok (.iload_n 3, 1) := by decide +kernel
theorem dX9_scan_31 : decode cX9_scan 31 = .ok (.iconst 1, 1) := by decide +kernel
theorem dX9_scan_32 : decode cX9_scan 32 = .ok (.iadd, 1) := by decide +kernel
theorem dX9_scan_33 : decode cX9_scan 33 = .ok (.istore 6, 2) := by decide +kernel
theorem dX9_scan_35 : decode cX9_scan 35 = .ok (.iload 5, 2) := by decide +kernel
theorem dX9_scan_37 : decode cX9_scan 37 = .ok (.invokestatic 29, 3) := by decide +kernel
theorem dX9_scan_40 : decode cX9_scan 40 = .ok (.ifCond .ne 11, 3) := by decide +kernel
theorem dX9_scan_43 : decode cX9_scan 43 = .ok (.iload 5, 2) := by decide +kernel
theorem dX9_scan_45 : decode cX9_scan 45 = .ok (.invokestatic 33, 3) := by decide +kernel
theorem dX9_scan_48 : decode cX9_scan 48 = .ok (.ifCond .eq 29, 3) := by decide +kernel
theorem dX9_scan_51 : decode cX9_scan 51 = .ok (.iload 6, 2) := by decide +kernel
theorem dX9_scan_53 : decode cX9_scan 53 = .ok (.iload_n 2, 1) := by decide +kernel
theorem dX9_scan_54 : decode cX9_scan 54 = .ok (.if_icmp .ge 23, 3) := by decide +kernel
theorem dX9_scan_57 : decode cX9_scan 57 = .ok (.iload 5, 2) := by decide +kernel
theorem dX9_scan_59 : decode cX9_scan 59 = .ok (.aload_n 1, 1) := by decide +kernel
theorem dX9_scan_60 : decode cX9_scan 60 = .ok (.iload 6, 2) := by decide +kernel
theorem dX9_scan_62 : decode cX9_scan 62 = .ok (.invokestatic 25, 3) := by decide +kernel
theorem dX9_scan_65 : decode cX9_scan 65 = .ok (.invokestatic 36, 3) := by decide +kernel
theorem dX9_scan_68 : decode cX9_scan 68 = .ok (.ifCond .eq 9, 3) := by decide +kernel
theorem dX9_scan_71 : decode cX9_scan 71 = .ok (.iinc 6 1, 3) := by decide +kernel
theorem dX9_scan_74 : decode cX9_scan 74 = .ok (.goto (-23), 3) := by decide +kernel
theorem dX9_scan_77 : decode cX9_scan 77 = .ok (.iload 5, 2) := by decide +kernel
theorem dX9_scan_79 : decode cX9_scan 79 = .ok (.bipush 32, 2) := by decide +kernel
theorem dX9_scan_81 : decode cX9_scan 81 = .ok (.if_icmp .eq 29, 3) := by decide +kernel
theorem dX9_scan_84 : decode cX9_scan 84 = .ok (.iload 5, 2) := by decide +kernel
theorem dX9_scan_86 : decode cX9_scan 86 = .ok (.bipush 10, 2) := by decide +kernel
theorem dX9_scan_88 : decode cX9_scan 88 = .ok (.if_icmp .eq 22, 3) := by decide +kernel
theorem dX9_scan_91 : decode cX9_scan 91 = .ok (.aload_n 0, 1) := by decide +kernel
theorem dX9_scan_92 : decode cX9_scan 92 = .ok (.aload_n 1, 1) := by decide +kernel
theorem dX9_scan_93 : decode cX9_scan 93 = .ok (.iload_n 3, 1) := by decide +kernel
theorem dX9_scan_94 : decode cX9_scan 94 = .ok (.iload 6, 2) := by decide +kernel
theorem dX9_scan_96 : decode cX9_scan 96 = .ok (.invokestatic 40, 3) := by decide +kernel
theorem dX9_scan_99 : decode cX9_scan 99 = .ok (.iload_n 3, 1) := by decide +kernel
theorem dX9_scan_100 : decode cX9_scan 100 = .ok (.aload_n 1, 1) := by decide +kernel
theorem dX9_scan_101 : decode cX9_scan 101 = .ok (.iload_n 3, 1) := by decide +kernel
theorem dX9_scan_102 : decode cX9_scan 102 = .ok (.iload 6, 2) := by decide +kernel
theorem dX9_scan_104 : decode cX9_scan 104 = .ok (.invokestatic 44, 3) := by decide +kernel
theorem dX9_scan_107 : decode cX9_scan 107 = .ok (.invokevirtual 47, 3) := by decide +kernel
theorem dX9_scan_110 : decode cX9_scan 110 = .ok (.iload 6, 2) := by decide +kernel
theorem dX9_scan_112 : decode cX9_scan 112 = .ok (.istore_n 3, 1) := by decide +kernel
theorem dX9_scan_113 : decode cX9_scan 113 = .ok (.iinc 4 1, 3) := by decide +kernel
theorem dX9_scan_116 : decode cX9_scan 116 = .ok (.goto (-106), 3) := by decide +kernel
theorem dX9_scan_119 : decode cX9_scan 119 = .ok (.aload_n 0, 1) := by decide +kernel
theorem dX9_scan_120 : decode cX9_scan 120 = .ok (.iconst 0, 1) := by decide +kernel
theorem dX9_scan_121 : decode cX9_scan 121 = .ok (.iload_n 2, 1) := by decide +kernel
theorem dX9_scan_122 : decode cX9_scan 122 = .ok (.iconst 0, 1) := by decide +kernel
theorem dX9_scan_123 : decode cX9_scan 123 = .ok (.invokevirtual 47, 3) := by decide +kernel
theorem dX9_scan_126 : decode cX9_scan 126 = .ok (.return_, 1) := by decide +kernel
theorem dX9_add_0 : decode cX9_add 0 = .ok (.aload_n 0, 1) := by decide +kernel
theorem dX9_add_1 : decode cX9_add 1 = .ok (.getfield 21, 3) := by decide +kernel
theorem dX9_add_4 : decode cX9_add 4 = .ok (.ifCond .lt 55, 3) := by decide +kernel
theorem dX9_add_7 : decode cX9_add 7 = .ok (.aload_n 0, 1) := by decide +kernel
theorem dX9_add_8 : decode cX9_add 8 = .ok (.getfield 21, 3) := by decide +kernel
theorem dX9_add_11 : decode cX9_add 11 = .ok (.aload_n 0, 1) := by decide +kernel
theorem dX9_add_12 : decode cX9_add 12 = .ok (.getfield 9, 3) := by decide +kernel
theorem dX9_add_15 : decode cX9_add 15 = .ok (.arraylength, 1) := by decide +kernel
theorem dX9_add_16 : decode cX9_add 16 = .ok (.if_icmp .ge 43, 3) := by decide +kernel
theorem dX9_add_19 : decode cX9_add 19 = .ok (.aload_n 0, 1) := by decide +kernel
theorem dX9_add_20 : decode cX9_add 20 = .ok (.getfield 9, 3) := by decide +kernel
theorem dX9_add_23 : decode cX9_add 23 = .ok (.aload_n 0, 1) := by decide +kernel
theorem dX9_add_24 : decode cX9_add 24 = .ok (.getfield 21, 3) := by decide +kernel
theorem dX9_add_27 : decode cX9_add 27 = .ok (.iload_n 1, 1) := by decide +kernel
theorem dX9_add_28 : decode cX9_add 28 = .ok (.iastore, 1) := by decide +kernel
theorem dX9_add_29 : decode cX9_add 29 = .ok (.aload_n 0, 1) := by decide +kernel
theorem dX9_add_30 : decode cX9_add 30 = .ok (.getfield 15, 3) := by decide +kernel
theorem dX9_add_33 : decode cX9_add 33 = .ok (.aload_n 0, 1) := by decide +kernel
theorem dX9_add_34 : decode cX9_add 34 = .ok (.getfield 21, 3) := by decide +kernel
theorem dX9_add_37 : decode cX9_add 37 = .ok (.iload_n 2, 1) := by decide +kernel
theorem dX9_add_38 : decode cX9_add 38 = .ok (.iastore, 1) := by decide +kernel
theorem dX9_add_39 : decode cX9_add 39 = .ok (.aload_n 0, 1) := by decide +kernel
theorem dX9_add_40 : decode cX9_add 40 = .ok (.getfield 18, 3) := by decide +kernel
theorem dX9_add_43 : decode cX9_add 43 = .ok (.aload_n 0, 1) := by decide +kernel
theorem dX9_add_44 : decode cX9_add 44 = .ok (.getfield 21, 3) := by decide +kernel
theorem dX9_add_47 : decode cX9_add 47 = .ok (.iload_n 3, 1) := by decide +kernel
theorem dX9_add_48 : decode cX9_add 48 = .ok (.iastore, 1) := by decide +kernel
theorem dX9_add_49 : decode cX9_add 49 = .ok (.aload_n 0, 1) := by decide +kernel
theorem dX9_add_50 : decode cX9_add 50 = .ok (.dup, 1) := by decide +kernel
theorem dX9_add_51 : decode cX9_add 51 = .ok (.getfield 21, 3) := by decide +kernel
theorem dX9_add_54 : decode cX9_add 54 = .ok (.iconst 1, 1) := by decide +kernel
theorem dX9_add_55 : decode cX9_add 55 = .ok (.iadd, 1) := by decide +kernel
theorem dX9_add_56 : decode cX9_add 56 = .ok (.putfield 21, 3) := by decide +kernel
theorem dX9_add_59 : decode cX9_add 59 = .ok (.return_, 1) := by decide +kernel
theorem dX9_byteAt_0 : decode cX9_byteAt 0 = .ok (.iload_n 1, 1) := by decide +kernel
theorem dX9_byteAt_1 : decode cX9_byteAt 1 = .ok (.ifCond .lt 19, 3) := by decide +kernel
theorem dX9_byteAt_4 : decode cX9_byteAt 4 = .ok (.iload_n 1, 1) := by decide +kernel
theorem dX9_byteAt_5 : decode cX9_byteAt 5 = .ok (.aload_n 0, 1) := by decide +kernel
theorem dX9_byteAt_6 : decode cX9_byteAt 6 = .ok (.arraylength, 1) := by decide +kernel
theorem dX9_byteAt_7 : decode cX9_byteAt 7 = .ok (.if_icmp .ge 13, 3) := by decide +kernel
theorem dX9_byteAt_10 : decode cX9_byteAt 10 = .ok (.aload_n 0, 1) := by decide +kernel
theorem dX9_byteAt_11 : decode cX9_byteAt 11 = .ok (.iload_n 1, 1) := by decide +kernel
theorem dX9_byteAt_12 : decode cX9_byteAt 12 = .ok (.baload, 1) := by decide +kernel
theorem dX9_byteAt_13 : decode cX9_byteAt 13 = .ok (.sipush 255, 3) := by decide +kernel
theorem dX9_byteAt_16 : decode cX9_byteAt 16 = .ok (.iand, 1) := by decide +kernel
theorem dX9_byteAt_17 : decode cX9_byteAt 17 = .ok (.goto 4, 3) := by decide +kernel
theorem dX9_byteAt_20 : decode cX9_byteAt 20 = .ok (.iconst 0, 1) := by decide +kernel
theorem dX9_byteAt_21 : decode cX9_byteAt 21 = .ok (.ireturn, 1) := by decide +kernel
theorem dX9_isDigit_0 : decode cX9_isDigit 0 = .ok (.iload_n 0, 1) := by decide +kernel
theorem dX9_isDigit_1 : decode cX9_isDigit 1 = .ok (.bipush 48, 2) := by decide +kernel
theorem dX9_isDigit_3 : decode cX9_isDigit 3 = .ok (.if_icmp .lt 13, 3) := by decide +kernel
theorem dX9_isDigit_6 : decode cX9_isDigit 6 = .ok (.iload_n 0, 1) := by decide +kernel
theorem dX9_isDigit_7 : decode cX9_isDigit 7 = .ok (.bipush 57, 2) := by decide +kernel
theorem dX9_isDigit_9 : decode cX9_isDigit 9 = .ok (.if_icmp .gt 7, 3) := by decide +kernel
theorem dX9_isDigit_12 : decode cX9_isDigit 12 = .ok (.iconst 1, 1) := by decide +kernel
theorem dX9_isDigit_13 : decode cX9_isDigit 13 = .ok (.goto 4, 3) := by decide +kernel
theorem dX9_isDigit_16 : decode cX9_isDigit 16 = .ok (.iconst 0, 1) := by decide +kernel
theorem dX9_isDigit_17 : decode cX9_isDigit 17 = .ok (.ireturn, 1) := by decide +kernel
theorem dX9_isLetter_0 : decode cX9_isLetter 0 = .ok (.iload_n 0, 1) := by decide +kernel
theorem dX9_isLetter_1 : decode cX9_isLetter 1 = .ok (.bipush 97, 2) := by decide +kernel
theorem dX9_isLetter_3 : decode cX9_isLetter 3 = .ok (.if_icmp .lt 13, 3) := by decide +kernel
theorem dX9_isLetter_6 : decode cX9_isLetter 6 = .ok (.iload_n 0, 1) := by decide +kernel
theorem dX9_isLetter_7 : decode cX9_isLetter 7 = .ok (.bipush 122, 2) := by decide +kernel
theorem dX9_isLetter_9 : decode cX9_isLetter 9 = .ok (.if_icmp .gt 7, 3) := by decide +kernel
theorem dX9_isLetter_12 : decode cX9_isLetter 12 = .ok (.iconst 1, 1) := by decide +kernel
theorem dX9_isLetter_13 : decode cX9_isLetter 13 = .ok (.goto 4, 3) := by decide +kernel
theorem dX9_isLetter_16 : decode cX9_isLetter 16 = .ok (.iconst 0, 1) := by decide +kernel
theorem dX9_isLetter_17 : decode cX9_isLetter 17 = .ok (.ireturn, 1) := by decide +kernel
theorem dX9_isLikeRow_0 : decode cX9_isLikeRow 0 = .ok (.iload_n 0, 1) := by decide +kernel
theorem dX9_isLikeRow_1 : decode cX9_isLikeRow 1 = .ok (.invokestatic 29, 3) := by decide +kernel
theorem dX9_isLikeRow_4 : decode cX9_isLikeRow 4 = .ok (.ifCond .eq 10, 3) := by decide +kernel
theorem dX9_isLikeRow_7 : decode cX9_isLikeRow 7 = .ok (.iload_n 1, 1) := by decide +kernel
theorem dX9_isLikeRow_8 : decode cX9_isLikeRow 8 = .ok (.invokestatic 29, 3) := by decide +kernel
theorem dX9_isLikeRow_11 : decode cX9_isLikeRow 11 = .ok (.goto 7, 3) := by decide +kernel
theorem dX9_isLikeRow_14 : decode cX9_isLikeRow 14 = .ok (.iload_n 1, 1) := by decide +kernel
theorem dX9_isLikeRow_15 : decode cX9_isLikeRow 15 = .ok (.invokestatic 33, 3) := by decide +kernel
theorem dX9_isLikeRow_18 : decode cX9_isLikeRow 18 = .ok (.ireturn, 1) := by decide +kernel
theorem dX9_kindOf_0 : decode cX9_kindOf 0 = .ok (.aload_n 0, 1) := by decide +kernel
theorem dX9_kindOf_1 : decode cX9_kindOf 1 = .ok (.iload_n 1, 1) := by decide +kernel
theorem dX9_kindOf_2 : decode cX9_kindOf 2 = .ok (.invokestatic 25, 3) := by decide +kernel
theorem dX9_kindOf_5 : decode cX9_kindOf 5 = .ok (.istore_n 3, 1) := by decide +kernel
theorem dX9_kindOf_6 : decode cX9_kindOf 6 = .ok (.iload_n 3, 1) := by decide +kernel
theorem dX9_kindOf_7 : decode cX9_kindOf 7 = .ok (.invokestatic 29, 3) := by decide +kernel
theorem dX9_kindOf_10 : decode cX9_kindOf 10 = .ok (.ifCond .eq 16, 3) := by decide +kernel
theorem dX9_kindOf_13 : decode cX9_kindOf 13 = .ok (.iload_n 2, 1) := by decide +kernel
theorem dX9_kindOf_14 : decode cX9_kindOf 14 = .ok (.iload_n 1, 1) := by decide +kernel
theorem dX9_kindOf_15 : decode cX9_kindOf 15 = .ok (.isub, 1) := by decide +kernel
theorem dX9_kindOf_16 : decode cX9_kindOf 16 = .ok (.iconst 4, 1) := by decide +kernel
theorem dX9_kindOf_17 : decode cX9_kindOf 17 = .ok (.if_icmp .le 7, 3) := by decide +kernel
theorem dX9_kindOf_20 : decode cX9_kindOf 20 = .ok (.iconst 2, 1) := by decide +kernel
theorem dX9_kindOf_21 : decode cX9_kindOf 21 = .ok (.goto 4, 3) := by decide +kernel
theorem dX9_kindOf_24 : decode cX9_kindOf 24 = .ok (.iconst 1, 1) := by decide +kernel
theorem dX9_kindOf_25 : decode cX9_kindOf 25 = .ok (.ireturn, 1) := by decide +kernel
theorem dX9_kindOf_26 : decode cX9_kindOf 26 = .ok (.iload_n 3, 1) := by decide +kernel
theorem dX9_kindOf_27 : decode cX9_kindOf 27 = .ok (.invokestatic 33, 3) := by decide +kernel
theorem dX9_kindOf_30 : decode cX9_kindOf 30 = .ok (.ifCond .eq 10, 3) := by decide +kernel
theorem dX9_kindOf_33 : decode cX9_kindOf 33 = .ok (.aload_n 0, 1) := by decide +kernel
theorem dX9_kindOf_34 : decode cX9_kindOf 34 = .ok (.iload_n 1, 1) := by decide +kernel
theorem dX9_kindOf_35 : decode cX9_kindOf 35 = .ok (.iload_n 2, 1) := by decide +kernel
theorem dX9_kindOf_36 : decode cX9_kindOf 36 = .ok (.invokestatic 51, 3) := by decide +kernel
theorem dX9_kindOf_39 : decode cX9_kindOf 39 = .ok (.ireturn, 1) := by decide +kernel
theorem dX9_kindOf_40 : decode cX9_kindOf 40 = .ok (.ldc 54, 2) := by decide +kernel
theorem dX9_kindOf_42 : decode cX9_kindOf 42 = .ok (.iload_n 3, 1) := by decide +kernel
theorem dX9_kindOf_43 : decode cX9_kindOf 43 = .ok (.i2c, 1) := by decide +kernel
theorem dX9_kindOf_44 : decode cX9_kindOf 44 = .ok (.invokevirtual 56, 3) := by decide +kernel
theorem dX9_kindOf_47 : decode cX9_kindOf 47 = .ok (.ifCond .lt 7, 3) := by decide +kernel
theorem dX9_kindOf_50 : decode cX9_kindOf 50 = .ok (.iload_n 3, 1) := by decide +kernel
theorem dX9_kindOf_51 : decode cX9_kindOf 51 = .ok (.goto 4, 3) := by decide +kernel
theorem dX9_kindOf_54 : decode cX9_kindOf 54 = .ok (.iconst 3, 1) := by decide +kernel
theorem dX9_kindOf_55 : decode cX9_kindOf 55 = .ok (.ireturn, 1) := by decide +kernel
theorem dX9_kindOfWord_0 : decode cX9_kindOfWord 0 = .ok (.bipush 100, 2) := by decide +kernel
theorem dX9_kindOfWord_2 : decode cX9_kindOfWord 2 = .ok (.istore_n 3, 1) := by decide +kernel
theorem dX9_kindOfWord_3 : decode cX9_kindOfWord 3 = .ok (.iload_n 1, 1) := by decide +kernel
theorem dX9_kindOfWord_4 : decode cX9_kindOfWord 4 = .ok (.istore 4, 2) := by decide +kernel
theorem dX9_kindOfWord_6 : decode cX9_kindOfWord 6 = .ok (.iconst 1, 1) := by decide +kernel
theorem dX9_kindOfWord_7 : decode cX9_kindOfWord 7 = .ok (.istore 5, 2) := by decide +kernel
theorem dX9_kindOfWord_9 : decode cX9_kindOfWord 9 = .ok (.iconst 0, 1) := by decide +kernel
theorem dX9_kindOfWord_10 : decode cX9_kindOfWord 10 = .ok (.istore 6, 2) := by decide +kernel
theorem dX9_kindOfWord_12 : decode cX9_kindOfWord 12 = .ok (.iload 6, 2) := by decide +kernel
theorem dX9_kindOfWord_14 : decode cX9_kindOfWord 14 = .ok (.ldc 62, 2) := by decide +kernel
theorem dX9_kindOfWord_16 : decode cX9_kindOfWord 16 = .ok (.invokevirtual 64, 3) := by decide +kernel
theorem dX9_kindOfWord_19 : decode cX9_kindOfWord 19 = .ok (.if_icmp .ge 82, 3) := by decide +kernel
theorem dX9_kindOfWord_22 : decode cX9_kindOfWord 22 = .ok (.ldc 62, 2) := by decide +kernel
theorem dX9_kindOfWord_24 : decode cX9_kindOfWord 24 = .ok (.iload 6, 2) := by decide +kernel
theorem dX9_kindOfWord_26 : decode cX9_kindOfWord 26 = .ok (.invokevirtual 68, 3) := by decide +kernel
theorem dX9_kindOfWord_29 : decode cX9_kindOfWord 29 = .ok (.istore 7, 2) := by decide +kernel
theorem dX9_kindOfWord_31 : decode cX9_kindOfWord 31 = .ok (.iload 7, 2) := by decide +kernel
theorem dX9_kindOfWord_33 : decode cX9_kindOfWord 33 = .ok (.bipush 32, 2) := by decide +kernel
theorem dX9_kindOfWord_35 : decode cX9_kindOfWord 35 = .ok (.if_icmp .eq 38, 3) := by decide +kernel
theorem dX9_kindOfWord_38 : decode cX9_kindOfWord 38 = .ok (.iload 5, 2) := by decide +kernel
theorem dX9_kindOfWord_40 : decode cX9_kindOfWord 40 = .ok (.ifCond .eq 24, 3) := by decide +kernel
theorem dX9_kindOfWord_43 : decode cX9_kindOfWord 43 = .ok (.iload 4, 2) := by decide +kernel
theorem dX9_kindOfWord_45 : decode cX9_kindOfWord 45 = .ok (.iload_n 2, 1) := by decide +kernel
theorem dX9_kindOfWord_46 : decode cX9_kindOfWord 46 = .ok (.if_icmp .ge 18, 3) := by decide +kernel
theorem dX9_kindOfWord_49 : decode cX9_kindOfWord 49 = .ok (.aload_n 0, 1) := by decide +kernel
theorem dX9_kindOfWord_50 : decode cX9_kindOfWord 50 = .ok (.iload 4, 2) := by decide +kernel
theorem dX9_kindOfWord_52 : decode cX9_kindOfWord 52 = .ok (.invokestatic 25, 3) := by decide +kernel
theorem dX9_kindOfWord_55 : decode cX9_kindOfWord 55 = .ok (.iload 7, 2) := by decide +kernel
theorem dX9_kindOfWord_57 : decode cX9_kindOfWord 57 = .ok (.if_icmp .ne 7, 3) := by decide +kernel
theorem dX9_kindOfWord_60 : decode cX9_kindOfWord 60 = .ok (.iconst 1, 1) := by decide +kernel
theorem dX9_kindOfWord_61 : decode cX9_kindOfWord 61 = .ok (.goto 4, 3) := by decide +kernel
theorem dX9_kindOfWord_64 : decode cX9_kindOfWord 64 = .ok (.iconst 0, 1) := by decide +kernel
theorem dX9_kindOfWord_65 : decode cX9_kindOfWord 65 = .ok (.istore 5, 2) := by decide +kernel
theorem dX9_kindOfWord_67 : decode cX9_kindOfWord 67 = .ok (.iinc 4 1, 3) := by decide +kernel
theorem dX9_kindOfWord_70 : decode cX9_kindOfWord 70 = .ok (.goto 25, 3) := by decide +kernel
theorem dX9_kindOfWord_73 : decode cX9_kindOfWord 73 = .ok (.iload 5, 2) := by decide +kernel
theorem dX9_kindOfWord_75 : decode cX9_kindOfWord 75 = .ok (.ifCond .eq 11, 3) := by decide +kernel
theorem dX9_kindOfWord_78 : decode cX9_kindOfWord 78 = .ok (.iload 4, 2) := by decide +kernel
theorem dX9_kindOfWord_80 : decode cX9_kindOfWord 80 = .ok (.iload_n 2, 1) := by decide +kernel
theorem dX9_kindOfWord_81 : decode cX9_kindOfWord 81 = .ok (.if_icmp .ne 5, 3) := by decide +kernel
theorem dX9_kindOfWord_84 : decode cX9_kindOfWord 84 = .ok (.iload_n 3, 1) := by decide +kernel
theorem dX9_kindOfWord_85 : decode cX9_kindOfWord 85 = .ok (.ireturn, 1) := by decide +kernel
theorem dX9_kindOfWord_86 : decode cX9_kindOfWord 86 = .ok (.iinc 3 1, 3) := by decide +kernel
theorem dX9_kindOfWord_89 : decode cX9_kindOfWord 89 = .ok (.iload_n 1, 1) := by decide +kernel
theorem dX9_kindOfWord_90 : decode cX9_kindOfWord 90 = .ok (.istore 4, 2) := by decide +kernel
theorem dX9_kindOfWord_92 : decode cX9_kindOfWord 92 = .ok (.iconst 1, 1) := by decide +kernel
theorem dX9_kindOfWord_93 : decode cX9_kindOfWord 93 = .ok (.istore 5, 2) := by decide +kernel
theorem dX9_kindOfWord_95 : decode cX9_kindOfWord 95 = .ok (.iinc 6 1, 3) := by decide +kernel
theorem dX9_kindOfWord_98 : decode cX9_kindOfWord 98 = .ok (.goto (-86), 3) := by decide +kernel
theorem dX9_kindOfWord_101 : decode cX9_kindOfWord 101 = .ok (.bipush 116, 2) := by decide +kernel
theorem dX9_kindOfWord_103 : decode cX9_kindOfWord 103 = .ok (.ireturn, 1) := by decide +kernel
theorem dX9_numberIn_0 : decode cX9_numberIn 0 = .ok (.iconst 0, 1) := by decide +kernel
theorem dX9_numberIn_1 : decode cX9_numberIn 1 = .ok (.istore_n 3, 1) := by decide +kernel
theorem dX9_numberIn_2 : decode cX9_numberIn 2 = .ok (.iload_n 1, 1) := by decide +kernel
theorem dX9_numberIn_3 : decode cX9_numberIn 3 = .ok (.istore 4, 2) := by decide +kernel
theorem dX9_numberIn_5 : decode cX9_numberIn 5 = .ok (.iload 4, 2) := by decide +kernel
theorem dX9_numberIn_7 : decode cX9_numberIn 7 = .ok (.iload_n 2, 1) := by decide +kernel
theorem dX9_numberIn_8 : decode cX9_numberIn 8 = .ok (.if_icmp .ge 48, 3) := by decide +kernel
theorem dX9_numberIn_11 : decode cX9_numberIn 11 = .ok (.iload 4, 2) := by decide +kernel
theorem dX9_numberIn_13 : decode cX9_numberIn 13 = .ok (.iload_n 1, 1) := by decide +kernel
theorem dX9_numberIn_14 : decode cX9_numberIn 14 = .ok (.iconst 4, 1) := by decide +kernel
theorem dX9_numberIn_15 : decode cX9_numberIn 15 = .ok (.iadd, 1) := by decide +kernel
theorem dX9_numberIn_16 : decode cX9_numberIn 16 = .ok (.if_icmp .ge 40, 3) := by decide +kernel
theorem dX9_numberIn_19 : decode cX9_numberIn 19 = .ok (.aload_n 0, 1) := by decide +kernel
theorem dX9_numberIn_20 : decode cX9_numberIn 20 = .ok (.iload 4, 2) := by decide +kernel
theorem dX9_numberIn_22 : decode cX9_numberIn 22 = .ok (.invokestatic 25, 3) := by decide +kernel
theorem dX9_numberIn_25 : decode cX9_numberIn 25 = .ok (.istore 5, 2) := by decide +kernel
theorem dX9_numberIn_27 : decode cX9_numberIn 27 = .ok (.iload 5, 2) := by decide +kernel
theorem dX9_numberIn_29 : decode cX9_numberIn 29 = .ok (.invokestatic 29, 3) := by decide +kernel
theorem dX9_numberIn_32 : decode cX9_numberIn 32 = .ok (.ifCond .eq 16, 3) := by decide +kernel
theorem dX9_numberIn_35 : decode cX9_numberIn 35 = .ok (.bipush 10, 2) := by decide +kernel
theorem dX9_numberIn_37 : decode cX9_numberIn 37 = .ok (.iload_n 3, 1) := by decide +kernel
theorem dX9_numberIn_38 : decode cX9_numberIn 38 = .ok (.imul, 1) := by decide +kernel
theorem dX9_numberIn_39 : decode cX9_numberIn 39 = .ok (.iload 5, 2) := by decide +kernel
theorem dX9_numberIn_41 : decode cX9_numberIn 41 = .ok (.iadd, 1) := by decide +kernel
theorem dX9_numberIn_42 : decode cX9_numberIn 42 = .ok (.bipush 48, 2) := by decide +kernel
theorem dX9_numberIn_44 : decode cX9_numberIn 44 = .ok (.isub, 1) := by decide +kernel
theorem dX9_numberIn_45 : decode cX9_numberIn 45 = .ok (.goto 4, 3) := by decide +kernel
theorem dX9_numberIn_48 : decode cX9_numberIn 48 = .ok (.iconst 0, 1) := by decide +kernel
theorem dX9_numberIn_49 : decode cX9_numberIn 49 = .ok (.istore_n 3, 1) := by decide +kernel
theorem dX9_numberIn_50 : decode cX9_numberIn 50 = .ok (.iinc 4 1, 3) := by decide +kernel
theorem dX9_numberIn_53 : decode cX9_numberIn 53 = .ok (.goto (-48), 3) := by decide +kernel
theorem dX9_numberIn_56 : decode cX9_numberIn 56 = .ok (.iload_n 3, 1) := by decide +kernel
theorem dX9_numberIn_57 : decode cX9_numberIn 57 = .ok (.ireturn, 1) := by decide +kernel
theorem dX9_kindAt_0 : decode cX9_kindAt 0 = .ok (.iload_n 1, 1) := by decide +kernel
theorem dX9_kindAt_1 : decode cX9_kindAt 1 = .ok (.ifCond .lt 29, 3) := by decide +kernel
theorem dX9_kindAt_4 : decode cX9_kindAt 4 = .ok (.iload_n 1, 1) := by decide +kernel
theorem dX9_kindAt_5 : decode cX9_kindAt 5 = .ok (.aload_n 0, 1) := by decide +kernel
theorem dX9_kindAt_6 : decode cX9_kindAt 6 = .ok (.getfield 21, 3) := by decide +kernel
theorem dX9_kindAt_9 : decode cX9_kindAt 9 = .ok (.if_icmp .ge 21, 3) := by decide +kernel
theorem dX9_kindAt_12 : decode cX9_kindAt 12 = .ok (.iload_n 1, 1) := by decide +kernel
theorem dX9_kindAt_13 : decode cX9_kindAt 13 = .ok (.aload_n 0, 1) := by decide +kernel
theorem dX9_kindAt_14 : decode cX9_kindAt 14 = .ok (.getfield 9, 3) := by decide +kernel
theorem dX9_kindAt_17 : decode cX9_kindAt 17 = .ok (.arraylength, 1) := by decide +kernel
theorem dX9_kindAt_18 : decode cX9_kindAt 18 = .ok (.if_icmp .ge 12, 3) := by decide +kernel
theorem dX9_kindAt_21 : decode cX9_kindAt 21 = .ok (.aload_n 0, 1) := by decide +kernel
theorem dX9_kindAt_22 : decode cX9_kindAt 22 = .ok (.getfield 9, 3) := by decide +kernel
theorem dX9_kindAt_25 : decode cX9_kindAt 25 = .ok (.iload_n 1, 1) := by decide +kernel
theorem dX9_kindAt_26 : decode cX9_kindAt 26 = .ok (.iaload, 1) := by decide +kernel
theorem dX9_kindAt_27 : decode cX9_kindAt 27 = .ok (.goto 4, 3) := by decide +kernel
theorem dX9_kindAt_30 : decode cX9_kindAt 30 = .ok (.iconst 0, 1) := by decide +kernel
theorem dX9_kindAt_31 : decode cX9_kindAt 31 = .ok (.ireturn, 1) := by decide +kernel
theorem dX9_placeAt_0 : decode cX9_placeAt 0 = .ok (.iload_n 1, 1) := by decide +kernel
theorem dX9_placeAt_1 : decode cX9_placeAt 1 = .ok (.ifCond .lt 29, 3) := by decide +kernel
theorem dX9_placeAt_4 : decode cX9_placeAt 4 = .ok (.iload_n 1, 1) := by decide +kernel
theorem dX9_placeAt_5 : decode cX9_placeAt 5 = .ok (.aload_n 0, 1) := by decide +kernel
theorem dX9_placeAt_6 : decode cX9_placeAt 6 = .ok (.getfield 21, 3) := by decide +kernel
theorem dX9_placeAt_9 : decode cX9_placeAt 9 = .ok (.if_icmp .ge 21, 3) := by decide +kernel
theorem dX9_placeAt_12 : decode cX9_placeAt 12 = .ok (.iload_n 1, 1) := by decide +kernel
theorem dX9_placeAt_13 : decode cX9_placeAt 13 = .ok (.aload_n 0, 1) := by decide +kernel
theorem dX9_placeAt_14 : decode cX9_placeAt 14 = .ok (.getfield 15, 3) := by decide +kernel
theorem dX9_placeAt_17 : decode cX9_placeAt 17 = .ok (.arraylength, 1) := by decide +kernel
theorem dX9_placeAt_18 : decode cX9_placeAt 18 = .ok (.if_icmp .ge 12, 3) := by decide +kernel
theorem dX9_placeAt_21 : decode cX9_placeAt 21 = .ok (.aload_n 0, 1) := by decide +kernel
theorem dX9_placeAt_22 : decode cX9_placeAt 22 = .ok (.getfield 15, 3) := by decide +kernel
theorem dX9_placeAt_25 : decode cX9_placeAt 25 = .ok (.iload_n 1, 1) := by decide +kernel
theorem dX9_placeAt_26 : decode cX9_placeAt 26 = .ok (.iaload, 1) := by decide +kernel
theorem dX9_placeAt_27 : decode cX9_placeAt 27 = .ok (.goto 4, 3) := by decide +kernel
theorem dX9_placeAt_30 : decode cX9_placeAt 30 = .ok (.iconst (-1), 1) := by decide +kernel
theorem dX9_placeAt_31 : decode cX9_placeAt 31 = .ok (.ireturn, 1) := by decide +kernel
theorem dX9_numberAt_0 : decode cX9_numberAt 0 = .ok (.iload_n 1, 1) := by decide +kernel
theorem dX9_numberAt_1 : decode cX9_numberAt 1 = .ok (.ifCond .lt 29, 3) := by decide +kernel
theorem dX9_numberAt_4 : decode cX9_numberAt 4 = .ok (.iload_n 1, 1) := by decide +kernel
theorem dX9_numberAt_5 : decode cX9_numberAt 5 = .ok (.aload_n 0, 1) := by decide +kernel
theorem dX9_numberAt_6 : decode cX9_numberAt 6 = .ok (.getfield 21, 3) := by decide +kernel
theorem dX9_numberAt_9 : decode cX9_numberAt 9 = .ok (.if_icmp .ge 21, 3) := by decide +kernel
theorem dX9_numberAt_12 : decode cX9_numberAt 12 = .ok (.iload_n 1, 1) := by decide +kernel
theorem dX9_numberAt_13 : decode cX9_numberAt 13 = .ok (.aload_n 0, 1) := by decide +kernel
theorem dX9_numberAt_14 : decode cX9_numberAt 14 = .ok (.getfield 18, 3) := by decide +kernel
theorem dX9_numberAt_17 : decode cX9_numberAt 17 = .ok (.arraylength, 1) := by decide +kernel
theorem dX9_numberAt_18 : decode cX9_numberAt 18 = .ok (.if_icmp .ge 12, 3) := by decide +kernel
theorem dX9_numberAt_21 : decode cX9_numberAt 21 = .ok (.aload_n 0, 1) := by decide +kernel
theorem dX9_numberAt_22 : decode cX9_numberAt 22 = .ok (.getfield 18, 3) := by decide +kernel
theorem dX9_numberAt_25 : decode cX9_numberAt 25 = .ok (.iload_n 1, 1) := by decide +kernel
theorem dX9_numberAt_26 : decode cX9_numberAt 26 = .ok (.iaload, 1) := by decide +kernel
theorem dX9_numberAt_27 : decode cX9_numberAt 27 = .ok (.goto 4, 3) := by decide +kernel
theorem dX9_numberAt_30 : decode cX9_numberAt 30 = .ok (.iconst 0, 1) := by decide +kernel
theorem dX9_numberAt_31 : decode cX9_numberAt 31 = .ok (.ireturn, 1) := by decide +kernel
theorem dX10_init_0 : decode cX10_init 0 = .ok (.aload_n 0, 1) := by decide +kernel
theorem dX10_init_1 : decode cX10_init 1 = .ok (.invokespecial 5, 3) := by decide +kernel
theorem dX10_init_4 : decode cX10_init 4 = .ok (.aload_n 0, 1) := by decide +kernel
theorem dX10_init_5 : decode cX10_init 5 = .ok (.sipush 128, 3) := by decide +kernel
theorem dX10_init_8 : decode cX10_init 8 = .ok (.newarray .long, 2) := by decide +kernel
theorem dX10_init_10 : decode cX10_init 10 = .ok (.putfield 11, 3) := by decide +kernel
theorem dX10_init_13 : decode cX10_init 13 = .ok (.aload_n 0, 1) := by decide +kernel
theorem dX10_init_14 : decode cX10_init 14 = .ok (.bipush 8, 2) := by decide +kernel
theorem dX10_init_16 : decode cX10_init 16 = .ok (.newarray .int, 2) := by decide +kernel
theorem dX10_init_18 : decode cX10_init 18 = .ok (.putfield 15, 3) := by decide +kernel
theorem dX10_init_21 : decode cX10_init 21 = .ok (.return_, 1) := by decide +kernel
theorem dX10_clear_0 : decode cX10_clear 0 = .ok (.aload_n 0, 1) := by decide +kernel
theorem dX10_clear_1 : decode cX10_clear 1 = .ok (.getfield 11, 3) := by decide +kernel
theorem dX10_clear_4 : decode cX10_clear 4 = .ok (.lconst 0, 1) := by decide +kernel
theorem dX10_clear_5 : decode cX10_clear 5 = .ok (.invokestatic 19, 3) := by decide +kernel
theorem dX10_clear_8 : decode cX10_clear 8 = .ok (.aload_n 0, 1) := by decide +kernel
theorem dX10_clear_9 : decode cX10_clear 9 = .ok (.getfield 15, 3) := by decide +kernel
theorem dX10_clear_12 : decode cX10_clear 12 = .ok (.iconst 0, 1) := by decide +kernel
theorem dX10_clear_13 : decode cX10_clear 13 = .ok (.invokestatic 25, 3) := by decide +kernel
theorem dX10_clear_16 : decode cX10_clear 16 = .ok (.return_, 1) := by decide +kernel
theorem dX10_addAll_0 : decode cX10_addAll 0 = .ok (.iconst 0, 1) := by decide +kernel
theorem dX10_addAll_1 : decode cX10_addAll 1 = .ok (.istore_n 3, 1) := by decide +kernel
theorem dX10_addAll_2 : decode cX10_addAll 2 = .ok (.iload_n 3, 1) := by decide +kernel
theorem dX10_addAll_3 : decode cX10_addAll 3 = .ok (.iload_n 2, 1) := by decide +kernel
theorem dX10_addAll_4 : decode cX10_addAll 4 = .ok (.if_icmp .ge 98, 3) := by decide +kernel
theorem dX10_addAll_7 : decode cX10_addAll 7 = .ok (.iload_n 3, 1) := by decide +kernel
theorem dX10_addAll_8 : decode cX10_addAll 8 = .ok (.aload_n 0, 1) := by decide +kernel
theorem dX10_addAll_9 : decode cX10_addAll 9 = .ok (.getfield 15, 3) := by decide +kernel
theorem dX10_addAll_12 : decode cX10_addAll 12 = .ok (.arraylength, 1) := by decide +kernel
theorem dX10_addAll_13 : decode cX10_addAll 13 = .ok (.if_icmp .ge 89, 3) := by decide +kernel
theorem dX10_addAll_16 : decode cX10_addAll 16 = .ok (.aload_n 1, 1) := by decide +kernel
theorem dX10_addAll_17 : decode cX10_addAll 17 = .ok (.iload_n 3, 1) := by decide +kernel
theorem dX10_addAll_18 : decode cX10_addAll 18 = .ok (.invokevirtual 28, 3) := by decide +kernel
theorem dX10_addAll_21 : decode cX10_addAll 21 = .ok (.istore 4, 2) := by decide +kernel
theorem dX10_addAll_23 : decode cX10_addAll 23 = .ok (.iload_n 3, 1) := by decide +kernel
theorem dX10_addAll_24 : decode cX10_addAll 24 = .ok (.bipush 16, 2) := by decide +kernel
theorem dX10_addAll_26 : decode cX10_addAll 26 = .ok (.imul, 1) := by decide +kernel
theorem dX10_addAll_27 : decode cX10_addAll 27 = .ok (.iload 4, 2) := by decide +kernel
theorem dX10_addAll_29 : decode cX10_addAll 29 = .ok (.bipush 64, 2) := by decide +kernel
theorem dX10_addAll_31 : decode cX10_addAll 31 = .ok (.idiv, 1) := by decide +kernel
theorem dX10_addAll_32 : decode cX10_addAll 32 = .ok (.iadd, 1) := by decide +kernel
theorem dX10_addAll_33 : decode cX10_addAll 33 = .ok (.istore 5, 2) := by decide +kernel
theorem dX10_addAll_35 : decode cX10_addAll 35 = .ok (.lconst 1, 1) := by decide +kernel
theorem dX10_addAll_36 : decode cX10_addAll 36 = .ok (.iload 4, 2) := by decide +kernel
theorem dX10_addAll_38 : decode cX10_addAll 38 = .ok (.bipush 64, 2) := by decide +kernel
theorem dX10_addAll_40 : decode cX10_addAll 40 = .ok (.irem, 1) := by decide +kernel
theorem dX10_addAll_41 : decode cX10_addAll 41 = .ok (.lshl, 1) := by decide +kernel
theorem dX10_addAll_42 : decode cX10_addAll 42 = .ok (.lstore 6, 2) := by decide +kernel
theorem dX10_addAll_44 : decode cX10_addAll 44 = .ok (.iload 5, 2) := by decide +kernel
theorem dX10_addAll_46 : decode cX10_addAll 46 = .ok (.ifCond .lt 50, 3) := by decide +kernel
theorem dX10_addAll_49 : decode cX10_addAll 49 = .ok (.iload 5, 2) := by decide +kernel
theorem dX10_addAll_51 : decode cX10_addAll 51 = .ok (.aload_n 0, 1) := by decide +kernel
theorem dX10_addAll_52 : decode cX10_addAll 52 = .ok (.getfield 11, 3) := by decide +kernel
theorem dX10_addAll_55 : decode cX10_addAll 55 = .ok (.arraylength, 1) := by decide +kernel
theorem dX10_addAll_56 : decode cX10_addAll 56 = .ok (.if_icmp .ge 40, 3) := by decide +kernel
theorem dX10_addAll_59 : decode cX10_addAll 59 = .ok (.aload_n 0, 1) := by decide +kernel
theorem dX10_addAll_60 : decode cX10_addAll 60 = .ok (.getfield 11, 3) := by decide +kernel
theorem dX10_addAll_63 : decode cX10_addAll 63 = .ok (.iload 5, 2) := by decide +kernel
theorem dX10_addAll_65 : decode cX10_addAll 65 = .ok (.laload, 1) := by decide +kernel
theorem dX10_addAll_66 : decode cX10_addAll 66 = .ok (.lload 6, 2) := by decide +kernel
theorem dX10_addAll_68 : decode cX10_addAll 68 = .ok (.land, 1) := by decide +kernel
theorem dX10_addAll_69 : decode cX10_addAll 69 = .ok (.lconst 0, 1) := by decide +kernel
theorem dX10_addAll_70 : decode cX10_addAll 70 = .ok (.lcmp, 1) := by decide +kernel
theorem dX10_addAll_71 : decode cX10_addAll 71 = .ok (.ifCond .ne 25, 3) := by decide +kernel
theorem dX10_addAll_74 : decode cX10_addAll 74 = .ok (.aload_n 0, 1) := by decide +kernel
theorem dX10_addAll_75 : decode cX10_addAll 75 = .ok (.getfield 11, 3) := by decide +kernel
theorem dX10_addAll_78 : decode cX10_addAll 78 = .ok (.iload 5, 2) := by decide +kernel
theorem dX10_addAll_80 : decode cX10_addAll 80 = .ok (.dup2, 1) := by decide +kernel
theorem dX10_addAll_81 : decode cX10_addAll 81 = .ok (.laload, 1) := by decide +kernel
theorem dX10_addAll_82 : decode cX10_addAll 82 = .ok (.lload 6, 2) := by decide +kernel
theorem dX10_addAll_84 : decode cX10_addAll 84 = .ok (.lor, 1) := by decide +kernel
theorem dX10_addAll_85 : decode cX10_addAll 85 = .ok (.lastore, 1) := by decide +kernel
theorem dX10_addAll_86 : decode cX10_addAll 86 = .ok (.aload_n 0, 1) := by decide +kernel
theorem dX10_addAll_87 : decode cX10_addAll 87 = .ok (.getfield 15, 3) := by decide +kernel
theorem dX10_addAll_90 : decode cX10_addAll 90 = .ok (.iload_n 3, 1) := by decide +kernel
theorem dX10_addAll_91 : decode cX10_addAll 91 = .ok (.dup2, 1) := by decide +kernel
theorem dX10_addAll_92 : decode cX10_addAll 92 = .ok (.iaload, 1) := by decide +kernel
theorem dX10_addAll_93 : decode cX10_addAll 93 = .ok (.iconst 1, 1) := by decide +kernel
theorem dX10_addAll_94 : decode cX10_addAll 94 = .ok (.iadd, 1) := by decide +kernel
theorem dX10_addAll_95 : decode cX10_addAll 95 = .ok (.iastore, 1) := by decide +kernel
theorem dX10_addAll_96 : decode cX10_addAll 96 = .ok (.iinc 3 1, 3) := by decide +kernel
theorem dX10_addAll_99 : decode cX10_addAll 99 = .ok (.goto (-97), 3) := by decide +kernel
theorem dX10_addAll_102 : decode cX10_addAll 102 = .ok (.return_, 1) := by decide +kernel
theorem dX10_most_0 : decode cX10_most 0 = .ok (.iconst (-1), 1) := by decide +kernel
theorem dX10_most_1 : decode cX10_most 1 = .ok (.istore_n 1, 1) := by decide +kernel
theorem dX10_most_2 : decode cX10_most 2 = .ok (.iconst 0, 1) := by decide +kernel
theorem dX10_most_3 : decode cX10_most 3 = .ok (.istore_n 2, 1) := by decide +kernel
theorem dX10_most_4 : decode cX10_most 4 = .ok (.iconst 0, 1) := by decide +kernel
theorem dX10_most_5 : decode cX10_most 5 = .ok (.istore_n 3, 1) := by decide +kernel
theorem dX10_most_6 : decode cX10_most 6 = .ok (.iload_n 3, 1) := by decide +kernel
theorem dX10_most_7 : decode cX10_most 7 = .ok (.aload_n 0, 1) := by decide +kernel
theorem dX10_most_8 : decode cX10_most 8 = .ok (.getfield 15, 3) := by decide +kernel
theorem dX10_most_11 : decode cX10_most 11 = .ok (.arraylength, 1) := by decide +kernel
theorem dX10_most_12 : decode cX10_most 12 = .ok (.if_icmp .ge 28, 3) := by decide +kernel
theorem dX10_most_15 : decode cX10_most 15 = .ok (.aload_n 0, 1) := by decide +kernel
theorem dX10_most_16 : decode cX10_most 16 = .ok (.getfield 15, 3) := by decide +kernel
theorem dX10_most_19 : decode cX10_most 19 = .ok (.iload_n 3, 1) := by decide +kernel
theorem dX10_most_20 : decode cX10_most 20 = .ok (.iaload, 1) := by decide +kernel
theorem dX10_most_21 : decode cX10_most 21 = .ok (.iload_n 2, 1) := by decide +kernel
theorem dX10_most_22 : decode cX10_most 22 = .ok (.if_icmp .le 12, 3) := by decide +kernel
theorem dX10_most_25 : decode cX10_most 25 = .ok (.aload_n 0, 1) := by decide +kernel
theorem dX10_most_26 : decode cX10_most 26 = .ok (.getfield 15, 3) := by decide +kernel
theorem dX10_most_29 : decode cX10_most 29 = .ok (.iload_n 3, 1) := by decide +kernel
theorem dX10_most_30 : decode cX10_most 30 = .ok (.iaload, 1) := by decide +kernel
theorem dX10_most_31 : decode cX10_most 31 = .ok (.istore_n 2, 1) := by decide +kernel
theorem dX10_most_32 : decode cX10_most 32 = .ok (.iload_n 3, 1) := by decide +kernel
theorem dX10_most_33 : decode cX10_most 33 = .ok (.istore_n 1, 1) := by decide +kernel
theorem dX10_most_34 : decode cX10_most 34 = .ok (.iinc 3 1, 3) := by decide +kernel
theorem dX10_most_37 : decode cX10_most 37 = .ok (.goto (-31), 3) := by decide +kernel
theorem dX10_most_40 : decode cX10_most 40 = .ok (.iload_n 1, 1) := by decide +kernel
theorem dX10_most_41 : decode cX10_most 41 = .ok (.ireturn, 1) := by decide +kernel
theorem dX10_howMany_0 : decode cX10_howMany 0 = .ok (.iload_n 1, 1) := by decide +kernel
theorem dX10_howMany_1 : decode cX10_howMany 1 = .ok (.ifCond .lt 21, 3) := by decide +kernel
theorem dX10_howMany_4 : decode cX10_howMany 4 = .ok (.iload_n 1, 1) := by decide +kernel
theorem dX10_howMany_5 : decode cX10_howMany 5 = .ok (.aload_n 0, 1) := by decide +kernel
theorem dX10_howMany_6 : decode cX10_howMany 6 = .ok (.getfield 15, 3) := by decide +kernel
theorem dX10_howMany_9 : decode cX10_howMany 9 = .ok (.arraylength, 1) := by decide +kernel
theorem dX10_howMany_10 : decode cX10_howMany 10 = .ok (.if_icmp .ge 12, 3) := by decide +kernel
theorem dX10_howMany_13 : decode cX10_howMany 13 = .ok (.aload_n 0, 1) := by decide +kernel
theorem dX10_howMany_14 : decode cX10_howMany 14 = .ok (.getfield 15, 3) := by decide +kernel
theorem dX10_howMany_17 : decode cX10_howMany 17 = .ok (.iload_n 1, 1) := by decide +kernel
theorem dX10_howMany_18 : decode cX10_howMany 18 = .ok (.iaload, 1) := by decide +kernel
theorem dX10_howMany_19 : decode cX10_howMany 19 = .ok (.goto 4, 3) := by decide +kernel
theorem dX10_howMany_22 : decode cX10_howMany 22 = .ok (.iconst 0, 1) := by decide +kernel
theorem dX10_howMany_23 : decode cX10_howMany 23 = .ok (.ireturn, 1) := by decide +kernel
theorem dJ11_isValidCodePoint_9a6ad_0 : decode cJ11_isValidCodePoint_9a6ad 0 = .ok (.iload_n 0, 1) := by decide +kernel
theorem dJ11_isValidCodePoint_9a6ad_1 : decode cJ11_isValidCodePoint_9a6ad 1 = .ok (.bipush 16, 2) := by decide +kernel
theorem dJ11_isValidCodePoint_9a6ad_3 : decode cJ11_isValidCodePoint_9a6ad 3 = .ok (.iushr, 1) := by decide +kernel
theorem dJ11_isValidCodePoint_9a6ad_4 : decode cJ11_isValidCodePoint_9a6ad 4 = .ok (.istore_n 1, 1) := by decide +kernel
theorem dJ11_isValidCodePoint_9a6ad_5 : decode cJ11_isValidCodePoint_9a6ad 5 = .ok (.iload_n 1, 1) := by decide +kernel
theorem dJ11_isValidCodePoint_9a6ad_6 : decode cJ11_isValidCodePoint_9a6ad 6 = .ok (.bipush 17, 2) := by decide +kernel
theorem dJ11_isValidCodePoint_9a6ad_8 : decode cJ11_isValidCodePoint_9a6ad 8 = .ok (.if_icmp .ge 7, 3) := by decide +kernel
theorem dJ11_isValidCodePoint_9a6ad_11 : decode cJ11_isValidCodePoint_9a6ad 11 = .ok (.iconst 1, 1) := by decide +kernel
theorem dJ11_isValidCodePoint_9a6ad_12 : decode cJ11_isValidCodePoint_9a6ad 12 = .ok (.goto 4, 3) := by decide +kernel
theorem dJ11_isValidCodePoint_9a6ad_15 : decode cJ11_isValidCodePoint_9a6ad 15 = .ok (.iconst 0, 1) := by decide +kernel
theorem dJ11_isValidCodePoint_9a6ad_16 : decode cJ11_isValidCodePoint_9a6ad 16 = .ok (.ireturn, 1) := by decide +kernel
theorem dJ11_highSurrogate_5068e_0 : decode cJ11_highSurrogate_5068e 0 = .ok (.iload_n 0, 1) := by decide +kernel
theorem dJ11_highSurrogate_5068e_1 : decode cJ11_highSurrogate_5068e 1 = .ok (.bipush 10, 2) := by decide +kernel
theorem dJ11_highSurrogate_5068e_3 : decode cJ11_highSurrogate_5068e 3 = .ok (.iushr, 1) := by decide +kernel
theorem dJ11_highSurrogate_5068e_4 : decode cJ11_highSurrogate_5068e 4 = .ok (.ldc 110, 2) := by decide +kernel
theorem dJ11_highSurrogate_5068e_6 : decode cJ11_highSurrogate_5068e 6 = .ok (.iadd, 1) := by decide +kernel
theorem dJ11_highSurrogate_5068e_7 : decode cJ11_highSurrogate_5068e 7 = .ok (.i2c, 1) := by decide +kernel
theorem dJ11_highSurrogate_5068e_8 : decode cJ11_highSurrogate_5068e 8 = .ok (.ireturn, 1) := by decide +kernel
theorem dJ11_lowSurrogate_5068e_0 : decode cJ11_lowSurrogate_5068e 0 = .ok (.iload_n 0, 1) := by decide +kernel
theorem dJ11_lowSurrogate_5068e_1 : decode cJ11_lowSurrogate_5068e 1 = .ok (.sipush 1023, 3) := by decide +kernel
theorem dJ11_lowSurrogate_5068e_4 : decode cJ11_lowSurrogate_5068e 4 = .ok (.iand, 1) := by decide +kernel
theorem dJ11_lowSurrogate_5068e_5 : decode cJ11_lowSurrogate_5068e 5 = .ok (.ldc 76, 2) := by decide +kernel
theorem dJ11_lowSurrogate_5068e_7 : decode cJ11_lowSurrogate_5068e 7 = .ok (.iadd, 1) := by decide +kernel
theorem dJ11_lowSurrogate_5068e_8 : decode cJ11_lowSurrogate_5068e 8 = .ok (.i2c, 1) := by decide +kernel
theorem dJ11_lowSurrogate_5068e_9 : decode cJ11_lowSurrogate_5068e 9 = .ok (.ireturn, 1) := by decide +kernel
theorem dJ6_bitCount_0f7a4_0 : decode cJ6_bitCount_0f7a4 0 = .ok (.iload_n 0, 1) := by decide +kernel
theorem dJ6_bitCount_0f7a4_1 : decode cJ6_bitCount_0f7a4 1 = .ok (.iload_n 0, 1) := by decide +kernel
theorem dJ6_bitCount_0f7a4_2 : decode cJ6_bitCount_0f7a4 2 = .ok (.iconst 1, 1) := by decide +kernel
theorem dJ6_bitCount_0f7a4_3 : decode cJ6_bitCount_0f7a4 3 = .ok (.iushr, 1) := by decide +kernel
theorem dJ6_bitCount_0f7a4_4 : decode cJ6_bitCount_0f7a4 4 = .ok (.ldc_w 265, 3) := by decide +kernel
theorem dJ6_bitCount_0f7a4_7 : decode cJ6_bitCount_0f7a4 7 = .ok (.iand, 1) := by decide +kernel
theorem dJ6_bitCount_0f7a4_8 : decode cJ6_bitCount_0f7a4 8 = .ok (.isub, 1) := by decide +kernel
theorem dJ6_bitCount_0f7a4_9 : decode cJ6_bitCount_0f7a4 9 = .ok (.istore_n 0, 1) := by decide +kernel
theorem dJ6_bitCount_0f7a4_10 : decode cJ6_bitCount_0f7a4 10 = .ok (.iload_n 0, 1) := by decide +kernel
theorem dJ6_bitCount_0f7a4_11 : decode cJ6_bitCount_0f7a4 11 = .ok (.ldc_w 266, 3) := by decide +kernel
theorem dJ6_bitCount_0f7a4_14 : decode cJ6_bitCount_0f7a4 14 = .ok (.iand, 1) := by decide +kernel
theorem dJ6_bitCount_0f7a4_15 : decode cJ6_bitCount_0f7a4 15 = .ok (.iload_n 0, 1) := by decide +kernel
theorem dJ6_bitCount_0f7a4_16 : decode cJ6_bitCount_0f7a4 16 = .ok (.iconst 2, 1) := by decide +kernel
theorem dJ6_bitCount_0f7a4_17 : decode cJ6_bitCount_0f7a4 17 = .ok (.iushr, 1) := by decide +kernel
theorem dJ6_bitCount_0f7a4_18 : decode cJ6_bitCount_0f7a4 18 = .ok (.ldc_w 266, 3) := by decide +kernel
theorem dJ6_bitCount_0f7a4_21 : decode cJ6_bitCount_0f7a4 21 = .ok (.iand, 1) := by decide +kernel
theorem dJ6_bitCount_0f7a4_22 : decode cJ6_bitCount_0f7a4 22 = .ok (.iadd, 1) := by decide +kernel
theorem dJ6_bitCount_0f7a4_23 : decode cJ6_bitCount_0f7a4 23 = .ok (.istore_n 0, 1) := by decide +kernel
theorem dJ6_bitCount_0f7a4_24 : decode cJ6_bitCount_0f7a4 24 = .ok (.iload_n 0, 1) := by decide +kernel
theorem dJ6_bitCount_0f7a4_25 : decode cJ6_bitCount_0f7a4 25 = .ok (.iload_n 0, 1) := by decide +kernel
theorem dJ6_bitCount_0f7a4_26 : decode cJ6_bitCount_0f7a4 26 = .ok (.iconst 4, 1) := by decide +kernel
theorem dJ6_bitCount_0f7a4_27 : decode cJ6_bitCount_0f7a4 27 = .ok (.iushr, 1) := by decide +kernel
theorem dJ6_bitCount_0f7a4_28 : decode cJ6_bitCount_0f7a4 28 = .ok (.iadd, 1) := by decide +kernel
theorem dJ6_bitCount_0f7a4_29 : decode cJ6_bitCount_0f7a4 29 = .ok (.ldc_w 267, 3) := by decide +kernel
theorem dJ6_bitCount_0f7a4_32 : decode cJ6_bitCount_0f7a4 32 = .ok (.iand, 1) := by decide +kernel
theorem dJ6_bitCount_0f7a4_33 : decode cJ6_bitCount_0f7a4 33 = .ok (.istore_n 0, 1) := by decide +kernel
theorem dJ6_bitCount_0f7a4_34 : decode cJ6_bitCount_0f7a4 34 = .ok (.iload_n 0, 1) := by decide +kernel
theorem dJ6_bitCount_0f7a4_35 : decode cJ6_bitCount_0f7a4 35 = .ok (.iload_n 0, 1) := by decide +kernel
theorem dJ6_bitCount_0f7a4_36 : decode cJ6_bitCount_0f7a4 36 = .ok (.bipush 8, 2) := by decide +kernel
theorem dJ6_bitCount_0f7a4_38 : decode cJ6_bitCount_0f7a4 38 = .ok (.iushr, 1) := by decide +kernel
theorem dJ6_bitCount_0f7a4_39 : decode cJ6_bitCount_0f7a4 39 = .ok (.iadd, 1) := by decide +kernel
theorem dJ6_bitCount_0f7a4_40 : decode cJ6_bitCount_0f7a4 40 = .ok (.istore_n 0, 1) := by decide +kernel
theorem dJ6_bitCount_0f7a4_41 : decode cJ6_bitCount_0f7a4 41 = .ok (.iload_n 0, 1) := by decide +kernel
theorem dJ6_bitCount_0f7a4_42 : decode cJ6_bitCount_0f7a4 42 = .ok (.iload_n 0, 1) := by decide +kernel
theorem dJ6_bitCount_0f7a4_43 : decode cJ6_bitCount_0f7a4 43 = .ok (.bipush 16, 2) := by decide +kernel
theorem dJ6_bitCount_0f7a4_45 : decode cJ6_bitCount_0f7a4 45 = .ok (.iushr, 1) := by decide +kernel
theorem dJ6_bitCount_0f7a4_46 : decode cJ6_bitCount_0f7a4 46 = .ok (.iadd, 1) := by decide +kernel
theorem dJ6_bitCount_0f7a4_47 : decode cJ6_bitCount_0f7a4 47 = .ok (.istore_n 0, 1) := by decide +kernel
theorem dJ6_bitCount_0f7a4_48 : decode cJ6_bitCount_0f7a4 48 = .ok (.iload_n 0, 1) := by decide +kernel
theorem dJ6_bitCount_0f7a4_49 : decode cJ6_bitCount_0f7a4 49 = .ok (.bipush 63, 2) := by decide +kernel
theorem dJ6_bitCount_0f7a4_51 : decode cJ6_bitCount_0f7a4 51 = .ok (.iand, 1) := by decide +kernel
theorem dJ6_bitCount_0f7a4_52 : decode cJ6_bitCount_0f7a4 52 = .ok (.ireturn, 1) := by decide +kernel
theorem dJ9_floorMod_7cf53_0 : decode cJ9_floorMod_7cf53 0 = .ok (.iload_n 0, 1) := by decide +kernel
theorem dJ9_floorMod_7cf53_1 : decode cJ9_floorMod_7cf53 1 = .ok (.iload_n 1, 1) := by decide +kernel
theorem dJ9_floorMod_7cf53_2 : decode cJ9_floorMod_7cf53 2 = .ok (.irem, 1) := by decide +kernel
theorem dJ9_floorMod_7cf53_3 : decode cJ9_floorMod_7cf53 3 = .ok (.istore_n 2, 1) := by decide +kernel
theorem dJ9_floorMod_7cf53_4 : decode cJ9_floorMod_7cf53 4 = .ok (.iload_n 0, 1) := by decide +kernel
theorem dJ9_floorMod_7cf53_5 : decode cJ9_floorMod_7cf53 5 = .ok (.iload_n 1, 1) := by decide +kernel
theorem dJ9_floorMod_7cf53_6 : decode cJ9_floorMod_7cf53 6 = .ok (.ixor, 1) := by decide +kernel
theorem dJ9_floorMod_7cf53_7 : decode cJ9_floorMod_7cf53 7 = .ok (.ifCond .ge 11, 3) := by decide +kernel
theorem dJ9_floorMod_7cf53_10 : decode cJ9_floorMod_7cf53 10 = .ok (.iload_n 2, 1) := by decide +kernel
theorem dJ9_floorMod_7cf53_11 : decode cJ9_floorMod_7cf53 11 = .ok (.ifCond .eq 7, 3) := by decide +kernel
theorem dJ9_floorMod_7cf53_14 : decode cJ9_floorMod_7cf53 14 = .ok (.iload_n 2, 1) := by decide +kernel
theorem dJ9_floorMod_7cf53_15 : decode cJ9_floorMod_7cf53 15 = .ok (.iload_n 1, 1) := by decide +kernel
theorem dJ9_floorMod_7cf53_16 : decode cJ9_floorMod_7cf53 16 = .ok (.iadd, 1) := by decide +kernel
theorem dJ9_floorMod_7cf53_17 : decode cJ9_floorMod_7cf53 17 = .ok (.ireturn, 1) := by decide +kernel
theorem dJ9_floorMod_7cf53_18 : decode cJ9_floorMod_7cf53 18 = .ok (.iload_n 2, 1) := by decide +kernel
theorem dJ9_floorMod_7cf53_19 : decode cJ9_floorMod_7cf53 19 = .ok (.ireturn, 1) := by decide +kernel
theorem dJ9_abs_0f7a4_0 : decode cJ9_abs_0f7a4 0 = .ok (.iload_n 0, 1) := by decide +kernel
theorem dJ9_abs_0f7a4_1 : decode cJ9_abs_0f7a4 1 = .ok (.ifCond .ge 8, 3) := by decide +kernel
theorem dJ9_abs_0f7a4_4 : decode cJ9_abs_0f7a4 4 = .ok (.iload_n 0, 1) := by decide +kernel
theorem dJ9_abs_0f7a4_5 : decode cJ9_abs_0f7a4 5 = .ok (.ineg, 1) := by decide +kernel
theorem dJ9_abs_0f7a4_6 : decode cJ9_abs_0f7a4 6 = .ok (.goto 4, 3) := by decide +kernel
theorem dJ9_abs_0f7a4_9 : decode cJ9_abs_0f7a4 9 = .ok (.iload_n 0, 1) := by decide +kernel
theorem dJ9_abs_0f7a4_10 : decode cJ9_abs_0f7a4 10 = .ok (.ireturn, 1) := by decide +kernel
theorem dJ9_max_7cf53_0 : decode cJ9_max_7cf53 0 = .ok (.iload_n 0, 1) := by decide +kernel
theorem dJ9_max_7cf53_1 : decode cJ9_max_7cf53 1 = .ok (.iload_n 1, 1) := by decide +kernel
theorem dJ9_max_7cf53_2 : decode cJ9_max_7cf53 2 = .ok (.if_icmp .lt 7, 3) := by decide +kernel
theorem dJ9_max_7cf53_5 : decode cJ9_max_7cf53 5 = .ok (.iload_n 0, 1) := by decide +kernel
theorem dJ9_max_7cf53_6 : decode cJ9_max_7cf53 6 = .ok (.goto 4, 3) := by decide +kernel
theorem dJ9_max_7cf53_9 : decode cJ9_max_7cf53 9 = .ok (.iload_n 1, 1) := by decide +kernel
theorem dJ9_max_7cf53_10 : decode cJ9_max_7cf53 10 = .ok (.ireturn, 1) := by decide +kernel
theorem dJ9_min_7cf53_0 : decode cJ9_min_7cf53 0 = .ok (.iload_n 0, 1) := by decide +kernel
theorem dJ9_min_7cf53_1 : decode cJ9_min_7cf53 1 = .ok (.iload_n 1, 1) := by decide +kernel
theorem dJ9_min_7cf53_2 : decode cJ9_min_7cf53 2 = .ok (.if_icmp .gt 7, 3) := by decide +kernel
theorem dJ9_min_7cf53_5 : decode cJ9_min_7cf53 5 = .ok (.iload_n 0, 1) := by decide +kernel
theorem dJ9_min_7cf53_6 : decode cJ9_min_7cf53 6 = .ok (.goto 4, 3) := by decide +kernel
theorem dJ9_min_7cf53_9 : decode cJ9_min_7cf53 9 = .ok (.iload_n 1, 1) := by decide +kernel
theorem dJ9_min_7cf53_10 : decode cJ9_min_7cf53 10 = .ok (.ireturn, 1) := by decide +kernel
theorem dJ0_length_8abf5_0 : decode cJ0_length_8abf5 0 = .ok (.aload_n 0, 1) := by decide +kernel
theorem dJ0_length_8abf5_1 : decode cJ0_length_8abf5 1 = .ok (.getfield 9, 3) := by decide +kernel
theorem dJ0_length_8abf5_4 : decode cJ0_length_8abf5 4 = .ok (.arraylength, 1) := by decide +kernel
theorem dJ0_length_8abf5_5 : decode cJ0_length_8abf5 5 = .ok (.aload_n 0, 1) := by decide +kernel
theorem dJ0_length_8abf5_6 : decode cJ0_length_8abf5 6 = .ok (.invokevirtual 335, 3) := by decide +kernel
theorem dJ0_length_8abf5_9 : decode cJ0_length_8abf5 9 = .ok (.ishr, 1) := by decide +kernel
theorem dJ0_length_8abf5_10 : decode cJ0_length_8abf5 10 = .ok (.ireturn, 1) := by decide +kernel
theorem dJ0_charAt_5068e_0 : decode cJ0_charAt_5068e 0 = .ok (.aload_n 0, 1) := by decide +kernel
theorem dJ0_charAt_5068e_1 : decode cJ0_charAt_5068e 1 = .ok (.invokevirtual 492, 3) := by decide +kernel
theorem dJ0_charAt_5068e_4 : decode cJ0_charAt_5068e 4 = .ok (.ifCond .eq 12, 3) := by decide +kernel
theorem dJ0_charAt_5068e_7 : decode cJ0_charAt_5068e 7 = .ok (.aload_n 0, 1) := by decide +kernel
theorem dJ0_charAt_5068e_8 : decode cJ0_charAt_5068e 8 = .ok (.getfield 9, 3) := by decide +kernel
theorem dJ0_charAt_5068e_11 : decode cJ0_charAt_5068e 11 = .ok (.iload_n 1, 1) := by decide +kernel
theorem dJ0_charAt_5068e_12 : decode cJ0_charAt_5068e 12 = .ok (.invokestatic 495, 3) := by decide +kernel
theorem dJ0_charAt_5068e_15 : decode cJ0_charAt_5068e 15 = .ok (.ireturn, 1) := by decide +kernel
theorem dJ0_charAt_5068e_16 : decode cJ0_charAt_5068e 16 = .ok (.aload_n 0, 1) := by decide +kernel
theorem dJ0_charAt_5068e_17 : decode cJ0_charAt_5068e 17 = .ok (.getfield 9, 3) := by decide +kernel
theorem dJ0_charAt_5068e_20 : decode cJ0_charAt_5068e 20 = .ok (.iload_n 1, 1) := by decide +kernel
theorem dJ0_charAt_5068e_21 : decode cJ0_charAt_5068e 21 = .ok (.invokestatic 498, 3) := by decide +kernel
theorem dJ0_charAt_5068e_24 : decode cJ0_charAt_5068e 24 = .ok (.ireturn, 1) := by decide +kernel
theorem dJ0_indexOf_0f7a4_0 : decode cJ0_indexOf_0f7a4 0 = .ok (.aload_n 0, 1) := by decide +kernel
theorem dJ0_indexOf_0f7a4_1 : decode cJ0_indexOf_0f7a4 1 = .ok (.iload_n 1, 1) := by decide +kernel
theorem dJ0_indexOf_0f7a4_2 : decode cJ0_indexOf_0f7a4 2 = .ok (.iconst 0, 1) := by decide +kernel
theorem dJ0_indexOf_0f7a4_3 : decode cJ0_indexOf_0f7a4 3 = .ok (.invokevirtual 633, 3) := by decide +kernel
theorem dJ0_indexOf_0f7a4_6 : decode cJ0_indexOf_0f7a4 6 = .ok (.ireturn, 1) := by decide +kernel
theorem dJ0_indexOf_7cf53_0 : decode cJ0_indexOf_7cf53 0 = .ok (.aload_n 0, 1) := by decide +kernel
theorem dJ0_indexOf_7cf53_1 : decode cJ0_indexOf_7cf53 1 = .ok (.invokevirtual 492, 3) := by decide +kernel
theorem dJ0_indexOf_7cf53_4 : decode cJ0_indexOf_7cf53 4 = .ok (.ifCond .eq 19, 3) := by decide +kernel
theorem dJ0_indexOf_7cf53_7 : decode cJ0_indexOf_7cf53 7 = .ok (.aload_n 0, 1) := by decide +kernel
theorem dJ0_indexOf_7cf53_8 : decode cJ0_indexOf_7cf53 8 = .ok (.getfield 9, 3) := by decide +kernel
theorem dJ0_indexOf_7cf53_11 : decode cJ0_indexOf_7cf53 11 = .ok (.iload_n 1, 1) := by decide +kernel
theorem dJ0_indexOf_7cf53_12 : decode cJ0_indexOf_7cf53 12 = .ok (.iload_n 2, 1) := by decide +kernel
theorem dJ0_indexOf_7cf53_13 : decode cJ0_indexOf_7cf53 13 = .ok (.aload_n 0, 1) := by decide +kernel
theorem dJ0_indexOf_7cf53_14 : decode cJ0_indexOf_7cf53 14 = .ok (.invokevirtual 505, 3) := by decide +kernel
theorem dJ0_indexOf_7cf53_17 : decode cJ0_indexOf_7cf53 17 = .ok (.invokestatic 637, 3) := by decide +kernel
theorem dJ0_indexOf_7cf53_20 : decode cJ0_indexOf_7cf53 20 = .ok (.goto 16, 3) := by decide +kernel
theorem dJ0_indexOf_7cf53_23 : decode cJ0_indexOf_7cf53 23 = .ok (.aload_n 0, 1) := by decide +kernel
theorem dJ0_indexOf_7cf53_24 : decode cJ0_indexOf_7cf53 24 = .ok (.getfield 9, 3) := by decide +kernel
theorem dJ0_indexOf_7cf53_27 : decode cJ0_indexOf_7cf53 27 = .ok (.iload_n 1, 1) := by decide +kernel
theorem dJ0_indexOf_7cf53_28 : decode cJ0_indexOf_7cf53 28 = .ok (.iload_n 2, 1) := by decide +kernel
theorem dJ0_indexOf_7cf53_29 : decode cJ0_indexOf_7cf53 29 = .ok (.aload_n 0, 1) := by decide +kernel
theorem dJ0_indexOf_7cf53_30 : decode cJ0_indexOf_7cf53 30 = .ok (.invokevirtual 505, 3) := by decide +kernel
theorem dJ0_indexOf_7cf53_33 : decode cJ0_indexOf_7cf53 33 = .ok (.invokestatic 640, 3) := by decide +kernel
theorem dJ0_indexOf_7cf53_36 : decode cJ0_indexOf_7cf53 36 = .ok (.ireturn, 1) := by decide +kernel
theorem dJ0_coder_7d493_0 : decode cJ0_coder_7d493 0 = .ok (.getstatic 38, 3) := by decide +kernel
theorem dJ0_coder_7d493_3 : decode cJ0_coder_7d493 3 = .ok (.ifCond .eq 10, 3) := by decide +kernel
theorem dJ0_coder_7d493_6 : decode cJ0_coder_7d493 6 = .ok (.aload_n 0, 1) := by decide +kernel
theorem dJ0_coder_7d493_7 : decode cJ0_coder_7d493 7 = .ok (.getfield 15, 3) := by decide +kernel
theorem dJ0_coder_7d493_10 : decode cJ0_coder_7d493 10 = .ok (.goto 4, 3) := by decide +kernel
theorem dJ0_coder_7d493_13 : decode cJ0_coder_7d493 13 = .ok (.iconst 1, 1) := by decide +kernel
theorem dJ0_coder_7d493_14 : decode cJ0_coder_7d493 14 = .ok (.ireturn, 1) := by decide +kernel
theorem dJ0_isLatin1_aae02_0 : decode cJ0_isLatin1_aae02 0 = .ok (.getstatic 38, 3) := by decide +kernel
theorem dJ0_isLatin1_aae02_3 : decode cJ0_isLatin1_aae02 3 = .ok (.ifCond .eq 14, 3) := by decide +kernel
theorem dJ0_isLatin1_aae02_6 : decode cJ0_isLatin1_aae02 6 = .ok (.aload_n 0, 1) := by decide +kernel
theorem dJ0_isLatin1_aae02_7 : decode cJ0_isLatin1_aae02 7 = .ok (.getfield 15, 3) := by decide +kernel
theorem dJ0_isLatin1_aae02_10 : decode cJ0_isLatin1_aae02 10 = .ok (.ifCond .ne 7, 3) := by decide +kernel
theorem dJ0_isLatin1_aae02_13 : decode cJ0_isLatin1_aae02 13 = .ok (.iconst 1, 1) := by decide +kernel
theorem dJ0_isLatin1_aae02_14 : decode cJ0_isLatin1_aae02 14 = .ok (.goto 4, 3) := by decide +kernel
theorem dJ0_isLatin1_aae02_17 : decode cJ0_isLatin1_aae02 17 = .ok (.iconst 0, 1) := by decide +kernel
theorem dJ0_isLatin1_aae02_18 : decode cJ0_isLatin1_aae02 18 = .ok (.ireturn, 1) := by decide +kernel
theorem dJ0_checkIndex_df160_0 : decode cJ0_checkIndex_df160 0 = .ok (.iload_n 0, 1) := by decide +kernel
theorem dJ0_checkIndex_df160_1 : decode cJ0_checkIndex_df160 1 = .ok (.iload_n 1, 1) := by decide +kernel
theorem dJ0_checkIndex_df160_2 : decode cJ0_checkIndex_df160 2 = .ok (.getstatic 1053, 3) := by decide +kernel
theorem dJ0_checkIndex_df160_5 : decode cJ0_checkIndex_df160 5 = .ok (.invokestatic 1059, 3) := by decide +kernel
theorem dJ0_checkIndex_df160_8 : decode cJ0_checkIndex_df160 8 = .ok (.pop, 1) := by decide +kernel
theorem dJ0_checkIndex_df160_9 : decode cJ0_checkIndex_df160 9 = .ok (.return_, 1) := by decide +kernel
theorem dJ0_checkBoundsBeginEnd_23922_0 : decode cJ0_checkBoundsBeginEnd_23922 0 = .ok (.iload_n 0, 1) := by decide +kernel
theorem dJ0_checkBoundsBeginEnd_23922_1 : decode cJ0_checkBoundsBeginEnd_23922 1 = .ok (.iload_n 1, 1) := by decide +kernel
theorem dJ0_checkBoundsBeginEnd_23922_2 : decode cJ0_checkBoundsBeginEnd_23922 2 = .ok (.iload_n 2, 1) := by decide +kernel
theorem dJ0_checkBoundsBeginEnd_23922_3 : decode cJ0_checkBoundsBeginEnd_23922 3 = .ok (.getstatic 1053, 3) := by decide +kernel
theorem dJ0_checkBoundsBeginEnd_23922_6 : decode cJ0_checkBoundsBeginEnd_23922 6 = .ok (.invokestatic 1062, 3) := by decide +kernel
theorem dJ0_checkBoundsBeginEnd_23922_9 : decode cJ0_checkBoundsBeginEnd_23922 9 = .ok (.pop, 1) := by decide +kernel
theorem dJ0_checkBoundsBeginEnd_23922_10 : decode cJ0_checkBoundsBeginEnd_23922 10 = .ok (.return_, 1) := by decide +kernel
theorem dJ1_charAt_3b067_0 : decode cJ1_charAt_3b067 0 = .ok (.iload_n 1, 1) := by decide +kernel
theorem dJ1_charAt_3b067_1 : decode cJ1_charAt_3b067 1 = .ok (.aload_n 0, 1) := by decide +kernel
theorem dJ1_charAt_3b067_2 : decode cJ1_charAt_3b067 2 = .ok (.arraylength, 1) := by decide +kernel
theorem dJ1_charAt_3b067_3 : decode cJ1_charAt_3b067 3 = .ok (.invokestatic 9, 3) := by decide +kernel
theorem dJ1_charAt_3b067_6 : decode cJ1_charAt_3b067 6 = .ok (.aload_n 0, 1) := by decide +kernel
theorem dJ1_charAt_3b067_7 : decode cJ1_charAt_3b067 7 = .ok (.iload_n 1, 1) := by decide +kernel
theorem dJ1_charAt_3b067_8 : decode cJ1_charAt_3b067 8 = .ok (.baload, 1) := by decide +kernel
theorem dJ1_charAt_3b067_9 : decode cJ1_charAt_3b067 9 = .ok (.sipush 255, 3) := by decide +kernel
theorem dJ1_charAt_3b067_12 : decode cJ1_charAt_3b067 12 = .ok (.iand, 1) := by decide +kernel
theorem dJ1_charAt_3b067_13 : decode cJ1_charAt_3b067 13 = .ok (.i2c, 1) := by decide +kernel
theorem dJ1_charAt_3b067_14 : decode cJ1_charAt_3b067 14 = .ok (.ireturn, 1) := by decide +kernel
theorem dJ1_canEncode_9a6ad_0 : decode cJ1_canEncode_9a6ad 0 = .ok (.iload_n 0, 1) := by decide +kernel
theorem dJ1_canEncode_9a6ad_1 : decode cJ1_canEncode_9a6ad 1 = .ok (.ifCond .lt 14, 3) := by decide +kernel
theorem dJ1_canEncode_9a6ad_4 : decode cJ1_canEncode_9a6ad 4 = .ok (.iload_n 0, 1) := by decide +kernel
theorem dJ1_canEncode_9a6ad_5 : decode cJ1_canEncode_9a6ad 5 = .ok (.sipush 255, 3) := by decide +kernel
theorem dJ1_canEncode_9a6ad_8 : decode cJ1_canEncode_9a6ad 8 = .ok (.if_icmp .gt 7, 3) := by decide +kernel
theorem dJ1_canEncode_9a6ad_11 : decode cJ1_canEncode_9a6ad 11 = .ok (.iconst 1, 1) := by decide +kernel
theorem dJ1_canEncode_9a6ad_12 : decode cJ1_canEncode_9a6ad 12 = .ok (.goto 4, 3) := by decide +kernel
theorem dJ1_canEncode_9a6ad_15 : decode cJ1_canEncode_9a6ad 15 = .ok (.iconst 0, 1) := by decide +kernel
theorem dJ1_canEncode_9a6ad_16 : decode cJ1_canEncode_9a6ad 16 = .ok (.ireturn, 1) := by decide +kernel
theorem dJ1_indexOf_4cfef_0 : decode cJ1_indexOf_4cfef 0 = .ok (.iload_n 1, 1) := by decide +kernel
theorem dJ1_indexOf_4cfef_1 : decode cJ1_indexOf_4cfef 1 = .ok (.invokestatic 88, 3) := by decide +kernel
theorem dJ1_indexOf_4cfef_4 : decode cJ1_indexOf_4cfef 4 = .ok (.ifCond .ne 5, 3) := by decide +kernel
theorem dJ1_indexOf_4cfef_7 : decode cJ1_indexOf_4cfef 7 = .ok (.iconst (-1), 1) := by decide +kernel
theorem dJ1_indexOf_4cfef_8 : decode cJ1_indexOf_4cfef 8 = .ok (.ireturn, 1) := by decide +kernel
theorem dJ1_indexOf_4cfef_9 : decode cJ1_indexOf_4cfef 9 = .ok (.iload_n 2, 1) := by decide +kernel
theorem dJ1_indexOf_4cfef_10 : decode cJ1_indexOf_4cfef 10 = .ok (.iconst 0, 1) := by decide +kernel
theorem dJ1_indexOf_4cfef_11 : decode cJ1_indexOf_4cfef 11 = .ok (.invokestatic 92, 3) := by decide +kernel
theorem dJ1_indexOf_4cfef_14 : decode cJ1_indexOf_4cfef 14 = .ok (.istore_n 2, 1) := by decide +kernel
theorem dJ1_indexOf_4cfef_15 : decode cJ1_indexOf_4cfef 15 = .ok (.iload_n 3, 1) := by decide +kernel
theorem dJ1_indexOf_4cfef_16 : decode cJ1_indexOf_4cfef 16 = .ok (.aload_n 0, 1) := by decide +kernel
theorem dJ1_indexOf_4cfef_17 : decode cJ1_indexOf_4cfef 17 = .ok (.arraylength, 1) := by decide +kernel
theorem dJ1_indexOf_4cfef_18 : decode cJ1_indexOf_4cfef 18 = .ok (.invokestatic 38, 3) := by decide +kernel
theorem dJ1_indexOf_4cfef_21 : decode cJ1_indexOf_4cfef 21 = .ok (.istore_n 3, 1) := by decide +kernel
theorem dJ1_indexOf_4cfef_22 : decode cJ1_indexOf_4cfef 22 = .ok (.iload_n 2, 1) := by decide +kernel
theorem dJ1_indexOf_4cfef_23 : decode cJ1_indexOf_4cfef 23 = .ok (.iload_n 3, 1) := by decide +kernel
theorem dJ1_indexOf_4cfef_24 : decode cJ1_indexOf_4cfef 24 = .ok (.if_icmp .lt 5, 3) := by decide +kernel
theorem dJ1_indexOf_4cfef_27 : decode cJ1_indexOf_4cfef 27 = .ok (.iconst (-1), 1) := by decide +kernel
theorem dJ1_indexOf_4cfef_28 : decode cJ1_indexOf_4cfef 28 = .ok (.ireturn, 1) := by decide +kernel
theorem dJ1_indexOf_4cfef_29 : decode cJ1_indexOf_4cfef 29 = .ok (.aload_n 0, 1) := by decide +kernel
theorem dJ1_indexOf_4cfef_30 : decode cJ1_indexOf_4cfef 30 = .ok (.iload_n 1, 1) := by decide +kernel
theorem dJ1_indexOf_4cfef_31 : decode cJ1_indexOf_4cfef 31 = .ok (.iload_n 2, 1) := by decide +kernel
theorem dJ1_indexOf_4cfef_32 : decode cJ1_indexOf_4cfef 32 = .ok (.iload_n 3, 1) := by decide +kernel
theorem dJ1_indexOf_4cfef_33 : decode cJ1_indexOf_4cfef 33 = .ok (.invokestatic 95, 3) := by decide +kernel
theorem dJ1_indexOf_4cfef_36 : decode cJ1_indexOf_4cfef 36 = .ok (.ireturn, 1) := by decide +kernel
theorem dJ1_indexOfChar_4cfef_0 : decode cJ1_indexOfChar_4cfef 0 = .ok (.iload_n 1, 1) := by decide +kernel
theorem dJ1_indexOfChar_4cfef_1 : decode cJ1_indexOfChar_4cfef 1 = .ok (.i2b, 1) := by decide +kernel
theorem dJ1_indexOfChar_4cfef_2 : decode cJ1_indexOfChar_4cfef 2 = .ok (.istore 4, 2) := by decide +kernel
theorem dJ1_indexOfChar_4cfef_4 : decode cJ1_indexOfChar_4cfef 4 = .ok (.iload_n 2, 1) := by decide +kernel
theorem dJ1_indexOfChar_4cfef_5 : decode cJ1_indexOfChar_4cfef 5 = .ok (.istore 5, 2) := by decide +kernel
theorem dJ1_indexOfChar_4cfef_7 : decode cJ1_indexOfChar_4cfef 7 = .ok (.iload 5, 2) := by decide +kernel
theorem dJ1_indexOfChar_4cfef_9 : decode cJ1_indexOfChar_4cfef 9 = .ok (.iload_n 3, 1) := by decide +kernel
theorem dJ1_indexOfChar_4cfef_10 : decode cJ1_indexOfChar_4cfef 10 = .ok (.if_icmp .ge 21, 3) := by decide +kernel
theorem dJ1_indexOfChar_4cfef_13 : decode cJ1_indexOfChar_4cfef 13 = .ok (.aload_n 0, 1) := by decide +kernel
theorem dJ1_indexOfChar_4cfef_14 : decode cJ1_indexOfChar_4cfef 14 = .ok (.iload 5, 2) := by decide +kernel
theorem dJ1_indexOfChar_4cfef_16 : decode cJ1_indexOfChar_4cfef 16 = .ok (.baload, 1) := by decide +kernel
theorem dJ1_indexOfChar_4cfef_17 : decode cJ1_indexOfChar_4cfef 17 = .ok (.iload 4, 2) := by decide +kernel
theorem dJ1_indexOfChar_4cfef_19 : decode cJ1_indexOfChar_4cfef 19 = .ok (.if_icmp .ne 6, 3) := by decide +kernel
theorem dJ1_indexOfChar_4cfef_22 : decode cJ1_indexOfChar_4cfef 22 = .ok (.iload 5, 2) := by decide +kernel
theorem dJ1_indexOfChar_4cfef_24 : decode cJ1_indexOfChar_4cfef 24 = .ok (.ireturn, 1) := by decide +kernel
theorem dJ1_indexOfChar_4cfef_25 : decode cJ1_indexOfChar_4cfef 25 = .ok (.iinc 5 1, 3) := by decide +kernel
theorem dJ1_indexOfChar_4cfef_28 : decode cJ1_indexOfChar_4cfef 28 = .ok (.goto (-21), 3) := by decide +kernel
theorem dJ1_indexOfChar_4cfef_31 : decode cJ1_indexOfChar_4cfef 31 = .ok (.iconst (-1), 1) := by decide +kernel
theorem dJ1_indexOfChar_4cfef_32 : decode cJ1_indexOfChar_4cfef 32 = .ok (.ireturn, 1) := by decide +kernel
theorem dJ2_getChar_3b067_0 : decode cJ2_getChar_3b067 0 = .ok (.getstatic 44, 3) := by decide +kernel
theorem dJ2_getChar_3b067_3 : decode cJ2_getChar_3b067 3 = .ok (.ifCond .ne 25, 3) := by decide +kernel
theorem dJ2_getChar_3b067_6 : decode cJ2_getChar_3b067 6 = .ok (.iload_n 1, 1) := by decide +kernel
theorem dJ2_getChar_3b067_7 : decode cJ2_getChar_3b067 7 = .ok (.ifCond .lt 11, 3) := by decide +kernel
theorem dJ2_getChar_3b067_10 : decode cJ2_getChar_3b067 10 = .ok (.iload_n 1, 1) := by decide +kernel
theorem dJ2_getChar_3b067_11 : decode cJ2_getChar_3b067 11 = .ok (.aload_n 0, 1) := by decide +kernel
theorem dJ2_getChar_3b067_12 : decode cJ2_getChar_3b067 12 = .ok (.invokestatic 48, 3) := by decide +kernel
theorem dJ2_getChar_3b067_15 : decode cJ2_getChar_3b067 15 = .ok (.if_icmp .lt 13, 3) := by decide +kernel
theorem dJ2_getChar_3b067_18 : decode cJ2_getChar_3b067 18 = .ok (.new 52, 3) := by decide +kernel
theorem dJ2_getChar_3b067_21 : decode cJ2_getChar_3b067 21 = .ok (.dup, 1) := by decide +kernel
theorem dJ2_getChar_3b067_22 : decode cJ2_getChar_3b067 22 = .ok (.ldc 54, 2) := by decide +kernel
theorem dJ2_getChar_3b067_24 : decode cJ2_getChar_3b067 24 = .ok (.invokespecial 56, 3) := by decide +kernel
theorem dJ2_getChar_3b067_27 : decode cJ2_getChar_3b067 27 = .ok (.athrow, 1) := by decide +kernel
theorem dJ2_getChar_3b067_28 : decode cJ2_getChar_3b067 28 = .ok (.iload_n 1, 1) := by decide +kernel
theorem dJ2_getChar_3b067_29 : decode cJ2_getChar_3b067 29 = .ok (.iconst 1, 1) := by decide +kernel
theorem dJ2_getChar_3b067_30 : decode cJ2_getChar_3b067 30 = .ok (.ishl, 1) := by decide +kernel
theorem dJ2_getChar_3b067_31 : decode cJ2_getChar_3b067 31 = .ok (.istore_n 1, 1) := by decide +kernel
theorem dJ2_getChar_3b067_32 : decode cJ2_getChar_3b067 32 = .ok (.aload_n 0, 1) := by decide +kernel
theorem dJ2_getChar_3b067_33 : decode cJ2_getChar_3b067 33 = .ok (.iload_n 1, 1) := by decide +kernel
theorem dJ2_getChar_3b067_34 : decode cJ2_getChar_3b067 34 = .ok (.iinc 1 1, 3) := by decide +kernel
theorem dJ2_getChar_3b067_37 : decode cJ2_getChar_3b067 37 = .ok (.baload, 1) := by decide +kernel
theorem dJ2_getChar_3b067_38 : decode cJ2_getChar_3b067 38 = .ok (.sipush 255, 3) := by decide +kernel
theorem dJ2_getChar_3b067_41 : decode cJ2_getChar_3b067 41 = .ok (.iand, 1) := by decide +kernel
theorem dJ2_getChar_3b067_42 : decode cJ2_getChar_3b067 42 = .ok (.getstatic 59, 3) := by decide +kernel
theorem dJ2_getChar_3b067_45 : decode cJ2_getChar_3b067 45 = .ok (.ishl, 1) := by decide +kernel
theorem dJ2_getChar_3b067_46 : decode cJ2_getChar_3b067 46 = .ok (.aload_n 0, 1) := by decide +kernel
theorem dJ2_getChar_3b067_47 : decode cJ2_getChar_3b067 47 = .ok (.iload_n 1, 1) := by decide +kernel
theorem dJ2_getChar_3b067_48 : decode cJ2_getChar_3b067 48 = .ok (.baload, 1) := by decide +kernel
theorem dJ2_getChar_3b067_49 : decode cJ2_getChar_3b067 49 = .ok (.sipush 255, 3) := by decide +kernel
theorem dJ2_getChar_3b067_52 : decode cJ2_getChar_3b067 52 = .ok (.iand, 1) := by decide +kernel
theorem dJ2_getChar_3b067_53 : decode cJ2_getChar_3b067 53 = .ok (.getstatic 63, 3) := by decide +kernel
theorem dJ2_getChar_3b067_56 : decode cJ2_getChar_3b067 56 = .ok (.ishl, 1) := by decide +kernel
theorem dJ2_getChar_3b067_57 : decode cJ2_getChar_3b067 57 = .ok (.ior, 1) := by decide +kernel
theorem dJ2_getChar_3b067_58 : decode cJ2_getChar_3b067 58 = .ok (.i2c, 1) := by decide +kernel
theorem dJ2_getChar_3b067_59 : decode cJ2_getChar_3b067 59 = .ok (.ireturn, 1) := by decide +kernel
theorem dJ2_length_9d52b_0 : decode cJ2_length_9d52b 0 = .ok (.aload_n 0, 1) := by decide +kernel
theorem dJ2_length_9d52b_1 : decode cJ2_length_9d52b 1 = .ok (.arraylength, 1) := by decide +kernel
theorem dJ2_length_9d52b_2 : decode cJ2_length_9d52b 2 = .ok (.iconst 1, 1) := by decide +kernel
theorem dJ2_length_9d52b_3 : decode cJ2_length_9d52b 3 = .ok (.ishr, 1) := by decide +kernel
theorem dJ2_length_9d52b_4 : decode cJ2_length_9d52b 4 = .ok (.ireturn, 1) := by decide +kernel
theorem dJ2_indexOf_4cfef_0 : decode cJ2_indexOf_4cfef 0 = .ok (.iload_n 2, 1) := by decide +kernel
theorem dJ2_indexOf_4cfef_1 : decode cJ2_indexOf_4cfef 1 = .ok (.iconst 0, 1) := by decide +kernel
theorem dJ2_indexOf_4cfef_2 : decode cJ2_indexOf_4cfef 2 = .ok (.invokestatic 224, 3) := by decide +kernel
theorem dJ2_indexOf_4cfef_5 : decode cJ2_indexOf_4cfef 5 = .ok (.istore_n 2, 1) := by decide +kernel
theorem dJ2_indexOf_4cfef_6 : decode cJ2_indexOf_4cfef 6 = .ok (.iload_n 3, 1) := by decide +kernel
theorem dJ2_indexOf_4cfef_7 : decode cJ2_indexOf_4cfef 7 = .ok (.aload_n 0, 1) := by decide +kernel
theorem dJ2_indexOf_4cfef_8 : decode cJ2_indexOf_4cfef 8 = .ok (.arraylength, 1) := by decide +kernel
theorem dJ2_indexOf_4cfef_9 : decode cJ2_indexOf_4cfef 9 = .ok (.iconst 1, 1) := by decide +kernel
theorem dJ2_indexOf_4cfef_10 : decode cJ2_indexOf_4cfef 10 = .ok (.ishr, 1) := by decide +kernel
theorem dJ2_indexOf_4cfef_11 : decode cJ2_indexOf_4cfef 11 = .ok (.invokestatic 183, 3) := by decide +kernel
theorem dJ2_indexOf_4cfef_14 : decode cJ2_indexOf_4cfef 14 = .ok (.istore_n 3, 1) := by decide +kernel
theorem dJ2_indexOf_4cfef_15 : decode cJ2_indexOf_4cfef 15 = .ok (.iload_n 2, 1) := by decide +kernel
theorem dJ2_indexOf_4cfef_16 : decode cJ2_indexOf_4cfef 16 = .ok (.iload_n 3, 1) := by decide +kernel
theorem dJ2_indexOf_4cfef_17 : decode cJ2_indexOf_4cfef 17 = .ok (.if_icmp .lt 5, 3) := by decide +kernel
theorem dJ2_indexOf_4cfef_20 : decode cJ2_indexOf_4cfef 20 = .ok (.iconst (-1), 1) := by decide +kernel
theorem dJ2_indexOf_4cfef_21 : decode cJ2_indexOf_4cfef 21 = .ok (.ireturn, 1) := by decide +kernel
theorem dJ2_indexOf_4cfef_22 : decode cJ2_indexOf_4cfef 22 = .ok (.iload_n 1, 1) := by decide +kernel
theorem dJ2_indexOf_4cfef_23 : decode cJ2_indexOf_4cfef 23 = .ok (.ldc 227, 2) := by decide +kernel
theorem dJ2_indexOf_4cfef_25 : decode cJ2_indexOf_4cfef 25 = .ok (.if_icmp .ge 11, 3) := by decide +kernel
theorem dJ2_indexOf_4cfef_28 : decode cJ2_indexOf_4cfef 28 = .ok (.aload_n 0, 1) := by decide +kernel
theorem dJ2_indexOf_4cfef_29 : decode cJ2_indexOf_4cfef 29 = .ok (.iload_n 1, 1) := by decide +kernel
theorem dJ2_indexOf_4cfef_30 : decode cJ2_indexOf_4cfef 30 = .ok (.iload_n 2, 1) := by decide +kernel
theorem dJ2_indexOf_4cfef_31 : decode cJ2_indexOf_4cfef 31 = .ok (.iload_n 3, 1) := by decide +kernel
theorem dJ2_indexOf_4cfef_32 : decode cJ2_indexOf_4cfef 32 = .ok (.invokestatic 228, 3) := by decide +kernel
theorem dJ2_indexOf_4cfef_35 : decode cJ2_indexOf_4cfef 35 = .ok (.ireturn, 1) := by decide +kernel
theorem dJ2_indexOf_4cfef_36 : decode cJ2_indexOf_4cfef 36 = .ok (.aload_n 0, 1) := by decide +kernel
theorem dJ2_indexOf_4cfef_37 : decode cJ2_indexOf_4cfef 37 = .ok (.iload_n 1, 1) := by decide +kernel
theorem dJ2_indexOf_4cfef_38 : decode cJ2_indexOf_4cfef 38 = .ok (.iload_n 2, 1) := by decide +kernel
theorem dJ2_indexOf_4cfef_39 : decode cJ2_indexOf_4cfef 39 = .ok (.iload_n 3, 1) := by decide +kernel
theorem dJ2_indexOf_4cfef_40 : decode cJ2_indexOf_4cfef 40 = .ok (.invokestatic 232, 3) := by decide +kernel
theorem dJ2_indexOf_4cfef_43 : decode cJ2_indexOf_4cfef 43 = .ok (.ireturn, 1) := by decide +kernel
theorem dJ2_indexOfChar_4cfef_0 : decode cJ2_indexOfChar_4cfef 0 = .ok (.iload_n 2, 1) := by decide +kernel
theorem dJ2_indexOfChar_4cfef_1 : decode cJ2_indexOfChar_4cfef 1 = .ok (.iload_n 3, 1) := by decide +kernel
theorem dJ2_indexOfChar_4cfef_2 : decode cJ2_indexOfChar_4cfef 2 = .ok (.aload_n 0, 1) := by decide +kernel
theorem dJ2_indexOfChar_4cfef_3 : decode cJ2_indexOfChar_4cfef 3 = .ok (.invokestatic 96, 3) := by decide +kernel
theorem dJ2_indexOfChar_4cfef_6 : decode cJ2_indexOfChar_4cfef 6 = .ok (.aload_n 0, 1) := by decide +kernel
theorem dJ2_indexOfChar_4cfef_7 : decode cJ2_indexOfChar_4cfef 7 = .ok (.iload_n 1, 1) := by decide +kernel
theorem dJ2_indexOfChar_4cfef_8 : decode cJ2_indexOfChar_4cfef 8 = .ok (.iload_n 2, 1) := by decide +kernel
theorem dJ2_indexOfChar_4cfef_9 : decode cJ2_indexOfChar_4cfef 9 = .ok (.iload_n 3, 1) := by decide +kernel
theorem dJ2_indexOfChar_4cfef_10 : decode cJ2_indexOfChar_4cfef 10 = .ok (.invokestatic 244, 3) := by decide +kernel
theorem dJ2_indexOfChar_4cfef_13 : decode cJ2_indexOfChar_4cfef 13 = .ok (.ireturn, 1) := by decide +kernel
theorem dJ2_indexOfCharUnsafe_4cfef_0 : decode cJ2_indexOfCharUnsafe_4cfef 0 = .ok (.iload_n 2, 1) := by decide +kernel
theorem dJ2_indexOfCharUnsafe_4cfef_1 : decode cJ2_indexOfCharUnsafe_4cfef 1 = .ok (.istore 4, 2) := by decide +kernel
theorem dJ2_indexOfCharUnsafe_4cfef_3 : decode cJ2_indexOfCharUnsafe_4cfef 3 = .ok (.iload 4, 2) := by decide +kernel
theorem dJ2_indexOfCharUnsafe_4cfef_5 : decode cJ2_indexOfCharUnsafe_4cfef 5 = .ok (.iload_n 3, 1) := by decide +kernel
theorem dJ2_indexOfCharUnsafe_4cfef_6 : decode cJ2_indexOfCharUnsafe_4cfef 6 = .ok (.if_icmp .ge 22, 3) := by decide +kernel
theorem dJ2_indexOfCharUnsafe_4cfef_9 : decode cJ2_indexOfCharUnsafe_4cfef 9 = .ok (.aload_n 0, 1) := by decide +kernel
theorem dJ2_indexOfCharUnsafe_4cfef_10 : decode cJ2_indexOfCharUnsafe_4cfef 10 = .ok (.iload 4, 2) := by decide +kernel
theorem dJ2_indexOfCharUnsafe_4cfef_12 : decode cJ2_indexOfCharUnsafe_4cfef 12 = .ok (.invokestatic 71, 3) := by decide +kernel
theorem dJ2_indexOfCharUnsafe_4cfef_15 : decode cJ2_indexOfCharUnsafe_4cfef 15 = .ok (.iload_n 1, 1) := by decide +kernel
theorem dJ2_indexOfCharUnsafe_4cfef_16 : decode cJ2_indexOfCharUnsafe_4cfef 16 = .ok (.if_icmp .ne 6, 3) := by decide +kernel
theorem dJ2_indexOfCharUnsafe_4cfef_19 : decode cJ2_indexOfCharUnsafe_4cfef 19 = .ok (.iload 4, 2) := by decide +kernel
theorem dJ2_indexOfCharUnsafe_4cfef_21 : decode cJ2_indexOfCharUnsafe_4cfef 21 = .ok (.ireturn, 1) := by decide +kernel
theorem dJ2_indexOfCharUnsafe_4cfef_22 : decode cJ2_indexOfCharUnsafe_4cfef 22 = .ok (.iinc 4 1, 3) := by decide +kernel
theorem dJ2_indexOfCharUnsafe_4cfef_25 : decode cJ2_indexOfCharUnsafe_4cfef 25 = .ok (.goto (-22), 3) := by decide +kernel
theorem dJ2_indexOfCharUnsafe_4cfef_28 : decode cJ2_indexOfCharUnsafe_4cfef 28 = .ok (.iconst (-1), 1) := by decide +kernel
theorem dJ2_indexOfCharUnsafe_4cfef_29 : decode cJ2_indexOfCharUnsafe_4cfef 29 = .ok (.ireturn, 1) := by decide +kernel
theorem dJ2_indexOfSupplementary_4cfef_0 : decode cJ2_indexOfSupplementary_4cfef 0 = .ok (.iload_n 1, 1) := by decide +kernel
theorem dJ2_indexOfSupplementary_4cfef_1 : decode cJ2_indexOfSupplementary_4cfef 1 = .ok (.invokestatic 164, 3) := by decide +kernel
theorem dJ2_indexOfSupplementary_4cfef_4 : decode cJ2_indexOfSupplementary_4cfef 4 = .ok (.ifCond .eq 65, 3) := by decide +kernel
theorem dJ2_indexOfSupplementary_4cfef_7 : decode cJ2_indexOfSupplementary_4cfef 7 = .ok (.iload_n 1, 1) := by decide +kernel
theorem dJ2_indexOfSupplementary_4cfef_8 : decode cJ2_indexOfSupplementary_4cfef 8 = .ok (.invokestatic 157, 3) := by decide +kernel
theorem dJ2_indexOfSupplementary_4cfef_11 : decode cJ2_indexOfSupplementary_4cfef 11 = .ok (.istore 4, 2) := by decide +kernel
theorem dJ2_indexOfSupplementary_4cfef_13 : decode cJ2_indexOfSupplementary_4cfef 13 = .ok (.iload_n 1, 1) := by decide +kernel
theorem dJ2_indexOfSupplementary_4cfef_14 : decode cJ2_indexOfSupplementary_4cfef 14 = .ok (.invokestatic 161, 3) := by decide +kernel
theorem dJ2_indexOfSupplementary_4cfef_17 : decode cJ2_indexOfSupplementary_4cfef 17 = .ok (.istore 5, 2) := by decide +kernel
theorem dJ2_indexOfSupplementary_4cfef_19 : decode cJ2_indexOfSupplementary_4cfef 19 = .ok (.iload_n 2, 1) := by decide +kernel
theorem dJ2_indexOfSupplementary_4cfef_20 : decode cJ2_indexOfSupplementary_4cfef 20 = .ok (.iload_n 3, 1) := by decide +kernel
theorem dJ2_indexOfSupplementary_4cfef_21 : decode cJ2_indexOfSupplementary_4cfef 21 = .ok (.aload_n 0, 1) := by decide +kernel
theorem dJ2_indexOfSupplementary_4cfef_22 : decode cJ2_indexOfSupplementary_4cfef 22 = .ok (.invokestatic 96, 3) := by decide +kernel
theorem dJ2_indexOfSupplementary_4cfef_25 : decode cJ2_indexOfSupplementary_4cfef 25 = .ok (.iload_n 2, 1) := by decide +kernel
theorem dJ2_indexOfSupplementary_4cfef_26 : decode cJ2_indexOfSupplementary_4cfef 26 = .ok (.istore 6, 2) := by decide +kernel
theorem dJ2_indexOfSupplementary_4cfef_28 : decode cJ2_indexOfSupplementary_4cfef 28 = .ok (.iload 6, 2) := by decide +kernel
theorem dJ2_indexOfSupplementary_4cfef_30 : decode cJ2_indexOfSupplementary_4cfef 30 = .ok (.iload_n 3, 1) := by decide +kernel
theorem dJ2_indexOfSupplementary_4cfef_31 : decode cJ2_indexOfSupplementary_4cfef 31 = .ok (.iconst 1, 1) := by decide +kernel
theorem dJ2_indexOfSupplementary_4cfef_32 : decode cJ2_indexOfSupplementary_4cfef 32 = .ok (.isub, 1) := by decide +kernel
theorem dJ2_indexOfSupplementary_4cfef_33 : decode cJ2_indexOfSupplementary_4cfef 33 = .ok (.if_icmp .ge 36, 3) := by decide +kernel
theorem dJ2_indexOfSupplementary_4cfef_36 : decode cJ2_indexOfSupplementary_4cfef 36 = .ok (.aload_n 0, 1) := by decide +kernel
theorem dJ2_indexOfSupplementary_4cfef_37 : decode cJ2_indexOfSupplementary_4cfef 37 = .ok (.iload 6, 2) := by decide +kernel
theorem dJ2_indexOfSupplementary_4cfef_39 : decode cJ2_indexOfSupplementary_4cfef 39 = .ok (.invokestatic 71, 3) := by decide +kernel
theorem dJ2_indexOfSupplementary_4cfef_42 : decode cJ2_indexOfSupplementary_4cfef 42 = .ok (.iload 4, 2) := by decide +kernel
theorem dJ2_indexOfSupplementary_4cfef_44 : decode cJ2_indexOfSupplementary_4cfef 44 = .ok (.if_icmp .ne 19, 3) := by decide +kernel
theorem dJ2_indexOfSupplementary_4cfef_47 : decode cJ2_indexOfSupplementary_4cfef 47 = .ok (.aload_n 0, 1) := by decide +kernel
theorem dJ2_indexOfSupplementary_4cfef_48 : decode cJ2_indexOfSupplementary_4cfef 48 = .ok (.iload 6, 2) := by decide +kernel
theorem dJ2_indexOfSupplementary_4cfef_50 : decode cJ2_indexOfSupplementary_4cfef 50 = .ok (.iconst 1, 1) := by decide +kernel
theorem dJ2_indexOfSupplementary_4cfef_51 : decode cJ2_indexOfSupplementary_4cfef 51 = .ok (.iadd, 1) := by decide +kernel
theorem dJ2_indexOfSupplementary_4cfef_52 : decode cJ2_indexOfSupplementary_4cfef 52 = .ok (.invokestatic 71, 3) := by decide +kernel
theorem dJ2_indexOfSupplementary_4cfef_55 : decode cJ2_indexOfSupplementary_4cfef 55 = .ok (.iload 5, 2) := by decide +kernel
theorem dJ2_indexOfSupplementary_4cfef_57 : decode cJ2_indexOfSupplementary_4cfef 57 = .ok (.if_icmp .ne 6, 3) := by decide +kernel
theorem dJ2_indexOfSupplementary_4cfef_60 : decode cJ2_indexOfSupplementary_4cfef 60 = .ok (.iload 6, 2) := by decide +kernel
theorem dJ2_indexOfSupplementary_4cfef_62 : decode cJ2_indexOfSupplementary_4cfef 62 = .ok (.ireturn, 1) := by decide +kernel
theorem dJ2_indexOfSupplementary_4cfef_63 : decode cJ2_indexOfSupplementary_4cfef 63 = .ok (.iinc 6 1, 3) := by decide +kernel
theorem dJ2_indexOfSupplementary_4cfef_66 : decode cJ2_indexOfSupplementary_4cfef 66 = .ok (.goto (-38), 3) := by decide +kernel
theorem dJ2_indexOfSupplementary_4cfef_69 : decode cJ2_indexOfSupplementary_4cfef 69 = .ok (.iconst (-1), 1) := by decide +kernel
theorem dJ2_indexOfSupplementary_4cfef_70 : decode cJ2_indexOfSupplementary_4cfef 70 = .ok (.ireturn, 1) := by decide +kernel
theorem dJ2_charAt_3b067_0 : decode cJ2_charAt_3b067 0 = .ok (.iload_n 1, 1) := by decide +kernel
theorem dJ2_charAt_3b067_1 : decode cJ2_charAt_3b067 1 = .ok (.aload_n 0, 1) := by decide +kernel
theorem dJ2_charAt_3b067_2 : decode cJ2_charAt_3b067 2 = .ok (.invokestatic 67, 3) := by decide +kernel
theorem dJ2_charAt_3b067_5 : decode cJ2_charAt_3b067 5 = .ok (.aload_n 0, 1) := by decide +kernel
theorem dJ2_charAt_3b067_6 : decode cJ2_charAt_3b067 6 = .ok (.iload_n 1, 1) := by decide +kernel
theorem dJ2_charAt_3b067_7 : decode cJ2_charAt_3b067 7 = .ok (.invokestatic 71, 3) := by decide +kernel
theorem dJ2_charAt_3b067_10 : decode cJ2_charAt_3b067 10 = .ok (.ireturn, 1) := by decide +kernel
theorem dJ2_checkIndex_2214a_0 : decode cJ2_checkIndex_2214a 0 = .ok (.iload_n 0, 1) := by decide +kernel
theorem dJ2_checkIndex_2214a_1 : decode cJ2_checkIndex_2214a 1 = .ok (.aload_n 1, 1) := by decide +kernel
theorem dJ2_checkIndex_2214a_2 : decode cJ2_checkIndex_2214a 2 = .ok (.invokestatic 48, 3) := by decide +kernel
theorem dJ2_checkIndex_2214a_5 : decode cJ2_checkIndex_2214a 5 = .ok (.invokestatic 414, 3) := by decide +kernel
theorem dJ2_checkIndex_2214a_8 : decode cJ2_checkIndex_2214a 8 = .ok (.return_, 1) := by decide +kernel
theorem dJ2_checkBoundsBeginEnd_d044e_0 : decode cJ2_checkBoundsBeginEnd_d044e 0 = .ok (.iload_n 0, 1) := by decide +kernel
theorem dJ2_checkBoundsBeginEnd_d044e_1 : decode cJ2_checkBoundsBeginEnd_d044e 1 = .ok (.iload_n 1, 1) := by decide +kernel
theorem dJ2_checkBoundsBeginEnd_d044e_2 : decode cJ2_checkBoundsBeginEnd_d044e 2 = .ok (.aload_n 2, 1) := by decide +kernel
theorem dJ2_checkBoundsBeginEnd_d044e_3 : decode cJ2_checkBoundsBeginEnd_d044e 3 = .ok (.invokestatic 48, 3) := by decide +kernel
theorem dJ2_checkBoundsBeginEnd_d044e_6 : decode cJ2_checkBoundsBeginEnd_d044e 6 = .ok (.invokestatic 241, 3) := by decide +kernel
theorem dJ2_checkBoundsBeginEnd_d044e_9 : decode cJ2_checkBoundsBeginEnd_d044e 9 = .ok (.return_, 1) := by decide +kernel
theorem dJ7_fill_d0a16_0 : decode cJ7_fill_d0a16 0 = .ok (.iconst 0, 1) := by decide +kernel
theorem dJ7_fill_d0a16_1 : decode cJ7_fill_d0a16 1 = .ok (.istore_n 3, 1) := by decide +kernel
theorem dJ7_fill_d0a16_2 : decode cJ7_fill_d0a16 2 = .ok (.aload_n 0, 1) := by decide +kernel
theorem dJ7_fill_d0a16_3 : decode cJ7_fill_d0a16 3 = .ok (.arraylength, 1) := by decide +kernel
theorem dJ7_fill_d0a16_4 : decode cJ7_fill_d0a16 4 = .ok (.istore 4, 2) := by decide +kernel
theorem dJ7_fill_d0a16_6 : decode cJ7_fill_d0a16 6 = .ok (.iload_n 3, 1) := by decide +kernel
theorem dJ7_fill_d0a16_7 : decode cJ7_fill_d0a16 7 = .ok (.iload 4, 2) := by decide +kernel
theorem dJ7_fill_d0a16_9 : decode cJ7_fill_d0a16 9 = .ok (.if_icmp .ge 13, 3) := by decide +kernel
theorem dJ7_fill_d0a16_12 : decode cJ7_fill_d0a16 12 = .ok (.aload_n 0, 1) := by decide +kernel
theorem dJ7_fill_d0a16_13 : decode cJ7_fill_d0a16 13 = .ok (.iload_n 3, 1) := by decide +kernel
theorem dJ7_fill_d0a16_14 : decode cJ7_fill_d0a16 14 = .ok (.lload_n 1, 1) := by decide +kernel
theorem dJ7_fill_d0a16_15 : decode cJ7_fill_d0a16 15 = .ok (.lastore, 1) := by decide +kernel
theorem dJ7_fill_d0a16_16 : decode cJ7_fill_d0a16 16 = .ok (.iinc 3 1, 3) := by decide +kernel
theorem dJ7_fill_d0a16_19 : decode cJ7_fill_d0a16 19 = .ok (.goto (-13), 3) := by decide +kernel
theorem dJ7_fill_d0a16_22 : decode cJ7_fill_d0a16 22 = .ok (.return_, 1) := by decide +kernel
theorem dJ7_fill_53178_0 : decode cJ7_fill_53178 0 = .ok (.iconst 0, 1) := by decide +kernel
theorem dJ7_fill_53178_1 : decode cJ7_fill_53178 1 = .ok (.istore_n 2, 1) := by decide +kernel
theorem dJ7_fill_53178_2 : decode cJ7_fill_53178 2 = .ok (.aload_n 0, 1) := by decide +kernel
theorem dJ7_fill_53178_3 : decode cJ7_fill_53178 3 = .ok (.arraylength, 1) := by decide +kernel
theorem dJ7_fill_53178_4 : decode cJ7_fill_53178 4 = .ok (.istore_n 3, 1) := by decide +kernel
theorem dJ7_fill_53178_5 : decode cJ7_fill_53178 5 = .ok (.iload_n 2, 1) := by decide +kernel
theorem dJ7_fill_53178_6 : decode cJ7_fill_53178 6 = .ok (.iload_n 3, 1) := by decide +kernel
theorem dJ7_fill_53178_7 : decode cJ7_fill_53178 7 = .ok (.if_icmp .ge 13, 3) := by decide +kernel
theorem dJ7_fill_53178_10 : decode cJ7_fill_53178 10 = .ok (.aload_n 0, 1) := by decide +kernel
theorem dJ7_fill_53178_11 : decode cJ7_fill_53178 11 = .ok (.iload_n 2, 1) := by decide +kernel
theorem dJ7_fill_53178_12 : decode cJ7_fill_53178 12 = .ok (.iload_n 1, 1) := by decide +kernel
theorem dJ7_fill_53178_13 : decode cJ7_fill_53178 13 = .ok (.iastore, 1) := by decide +kernel
theorem dJ7_fill_53178_14 : decode cJ7_fill_53178 14 = .ok (.iinc 2 1, 3) := by decide +kernel
theorem dJ7_fill_53178_17 : decode cJ7_fill_53178 17 = .ok (.goto (-12), 3) := by decide +kernel
theorem dJ7_fill_53178_20 : decode cJ7_fill_53178 20 = .ok (.return_, 1) := by decide +kernel
theorem dJ3_checkIndex_8e157_0 : decode cJ3_checkIndex_8e157 0 = .ok (.iload_n 0, 1) := by decide +kernel
theorem dJ3_checkIndex_8e157_1 : decode cJ3_checkIndex_8e157 1 = .ok (.ifCond .lt 8, 3) := by decide +kernel
theorem dJ3_checkIndex_8e157_4 : decode cJ3_checkIndex_8e157 4 = .ok (.iload_n 0, 1) := by decide +kernel
theorem dJ3_checkIndex_8e157_5 : decode cJ3_checkIndex_8e157 5 = .ok (.iload_n 1, 1) := by decide +kernel
theorem dJ3_checkIndex_8e157_6 : decode cJ3_checkIndex_8e157 6 = .ok (.if_icmp .lt 10, 3) := by decide +kernel
theorem dJ3_checkIndex_8e157_9 : decode cJ3_checkIndex_8e157 9 = .ok (.aload_n 2, 1) := by decide +kernel
theorem dJ3_checkIndex_8e157_10 : decode cJ3_checkIndex_8e157 10 = .ok (.iload_n 0, 1) := by decide +kernel
theorem dJ3_checkIndex_8e157_11 : decode cJ3_checkIndex_8e157 11 = .ok (.iload_n 1, 1) := by decide +kernel
theorem dJ3_checkIndex_8e157_12 : decode cJ3_checkIndex_8e157 12 = .ok (.invokestatic 95, 3) := by decide +kernel
theorem dJ3_checkIndex_8e157_15 : decode cJ3_checkIndex_8e157 15 = .ok (.athrow, 1) := by decide +kernel
theorem dJ3_checkIndex_8e157_16 : decode cJ3_checkIndex_8e157 16 = .ok (.iload_n 0, 1) := by decide +kernel
theorem dJ3_checkIndex_8e157_17 : decode cJ3_checkIndex_8e157 17 = .ok (.ireturn, 1) := by decide +kernel
theorem dJ3_checkFromToIndex_8c36e_0 : decode cJ3_checkFromToIndex_8c36e 0 = .ok (.iload_n 0, 1) := by decide +kernel
theorem dJ3_checkFromToIndex_8c36e_1 : decode cJ3_checkFromToIndex_8c36e 1 = .ok (.ifCond .lt 13, 3) := by decide +kernel
theorem dJ3_checkFromToIndex_8c36e_4 : decode cJ3_checkFromToIndex_8c36e 4 = .ok (.iload_n 0, 1) := by decide +kernel
theorem dJ3_checkFromToIndex_8c36e_5 : decode cJ3_checkFromToIndex_8c36e 5 = .ok (.iload_n 1, 1) := by decide +kernel
theorem dJ3_checkFromToIndex_8c36e_6 : decode cJ3_checkFromToIndex_8c36e 6 = .ok (.if_icmp .gt 8, 3) := by decide +kernel
theorem dJ3_checkFromToIndex_8c36e_9 : decode cJ3_checkFromToIndex_8c36e 9 = .ok (.iload_n 1, 1) := by decide +kernel
theorem dJ3_checkFromToIndex_8c36e_10 : decode cJ3_checkFromToIndex_8c36e 10 = .ok (.iload_n 2, 1) := by decide +kernel
theorem dJ3_checkFromToIndex_8c36e_11 : decode cJ3_checkFromToIndex_8c36e 11 = .ok (.if_icmp .le 11, 3) := by decide +kernel
theorem dJ3_checkFromToIndex_8c36e_14 : decode cJ3_checkFromToIndex_8c36e 14 = .ok (.aload_n 3, 1) := by decide +kernel
theorem dJ3_checkFromToIndex_8c36e_15 : decode cJ3_checkFromToIndex_8c36e 15 = .ok (.iload_n 0, 1) := by decide +kernel
theorem dJ3_checkFromToIndex_8c36e_16 : decode cJ3_checkFromToIndex_8c36e 16 = .ok (.iload_n 1, 1) := by decide +kernel
theorem dJ3_checkFromToIndex_8c36e_17 : decode cJ3_checkFromToIndex_8c36e 17 = .ok (.iload_n 2, 1) := by decide +kernel
theorem dJ3_checkFromToIndex_8c36e_18 : decode cJ3_checkFromToIndex_8c36e 18 = .ok (.invokestatic 99, 3) := by decide +kernel
theorem dJ3_checkFromToIndex_8c36e_21 : decode cJ3_checkFromToIndex_8c36e 21 = .ok (.athrow, 1) := by decide +kernel
theorem dJ3_checkFromToIndex_8c36e_22 : decode cJ3_checkFromToIndex_8c36e 22 = .ok (.iload_n 0, 1) := by decide +kernel
theorem dJ3_checkFromToIndex_8c36e_23 : decode cJ3_checkFromToIndex_8c36e 23 = .ok (.ireturn, 1) := by decide +kernel
