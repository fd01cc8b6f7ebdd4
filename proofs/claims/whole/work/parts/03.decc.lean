theorem dX11_init_0 : decode cX11_init 0 = .ok (.aload_n 0, 1) := by decide +kernel
theorem dX11_init_1 : decode cX11_init 1 = .ok (.invokespecial 1, 3) := by decide +kernel
theorem dX11_init_4 : decode cX11_init 4 = .ok (.aload_n 0, 1) := by decide +kernel
theorem dX11_init_5 : decode cX11_init 5 = .ok (.sipush 700, 3) := by decide +kernel
theorem dX11_init_8 : decode cX11_init 8 = .ok (.newarray .byte, 2) := by decide +kernel
theorem dX11_init_10 : decode cX11_init 10 = .ok (.putfield 9, 3) := by decide +kernel
theorem dX11_init_13 : decode cX11_init 13 = .ok (.aload_n 0, 1) := by decide +kernel
theorem dX11_init_14 : decode cX11_init 14 = .ok (.iconst 0, 1) := by decide +kernel
theorem dX11_init_15 : decode cX11_init 15 = .ok (.putfield 13, 3) := by decide +kernel
theorem dX11_init_18 : decode cX11_init 18 = .ok (.aload_n 0, 1) := by decide +kernel
theorem dX11_init_19 : decode cX11_init 19 = .ok (.iconst (-1), 1) := by decide +kernel
theorem dX11_init_20 : decode cX11_init 20 = .ok (.putfield 17, 3) := by decide +kernel
theorem dX11_init_23 : decode cX11_init 23 = .ok (.aload_n 0, 1) := by decide +kernel
theorem dX11_init_24 : decode cX11_init 24 = .ok (.new 20, 3) := by decide +kernel
theorem dX11_init_27 : decode cX11_init 27 = .ok (.dup, 1) := by decide +kernel
theorem dX11_init_28 : decode cX11_init 28 = .ok (.invokespecial 22, 3) := by decide +kernel
theorem dX11_init_31 : decode cX11_init 31 = .ok (.putfield 23, 3) := by decide +kernel
theorem dX11_init_34 : decode cX11_init 34 = .ok (.aload_n 0, 1) := by decide +kernel
theorem dX11_init_35 : decode cX11_init 35 = .ok (.new 27, 3) := by decide +kernel
theorem dX11_init_38 : decode cX11_init 38 = .ok (.dup, 1) := by decide +kernel
theorem dX11_init_39 : decode cX11_init 39 = .ok (.invokespecial 29, 3) := by decide +kernel
theorem dX11_init_42 : decode cX11_init 42 = .ok (.putfield 30, 3) := by decide +kernel
theorem dX11_init_45 : decode cX11_init 45 = .ok (.aload_n 0, 1) := by decide +kernel
theorem dX11_init_46 : decode cX11_init 46 = .ok (.new 34, 3) := by decide +kernel
theorem dX11_init_49 : decode cX11_init 49 = .ok (.dup, 1) := by decide +kernel
theorem dX11_init_50 : decode cX11_init 50 = .ok (.invokespecial 36, 3) := by decide +kernel
theorem dX11_init_53 : decode cX11_init 53 = .ok (.putfield 37, 3) := by decide +kernel
theorem dX11_init_56 : decode cX11_init 56 = .ok (.aload_n 0, 1) := by decide +kernel
theorem dX11_init_57 : decode cX11_init 57 = .ok (.new 41, 3) := by decide +kernel
theorem dX11_init_60 : decode cX11_init 60 = .ok (.dup, 1) := by decide +kernel
theorem dX11_init_61 : decode cX11_init 61 = .ok (.invokespecial 43, 3) := by decide +kernel
theorem dX11_init_64 : decode cX11_init 64 = .ok (.putfield 44, 3) := by decide +kernel
theorem dX11_init_67 : decode cX11_init 67 = .ok (.aload_n 0, 1) := by decide +kernel
theorem dX11_init_68 : decode cX11_init 68 = .ok (.new 41, 3) := by decide +kernel
theorem dX11_init_71 : decode cX11_init 71 = .ok (.dup, 1) := by decide +kernel
theorem dX11_init_72 : decode cX11_init 72 = .ok (.invokespecial 43, 3) := by decide +kernel
theorem dX11_init_75 : decode cX11_init 75 = .ok (.putfield 48, 3) := by decide +kernel
theorem dX11_init_78 : decode cX11_init 78 = .ok (.aload_n 0, 1) := by decide +kernel
theorem dX11_init_79 : decode cX11_init 79 = .ok (.new 51, 3) := by decide +kernel
theorem dX11_init_82 : decode cX11_init 82 = .ok (.dup, 1) := by decide +kernel
theorem dX11_init_83 : decode cX11_init 83 = .ok (.invokespecial 53, 3) := by decide +kernel
theorem dX11_init_86 : decode cX11_init 86 = .ok (.putfield 54, 3) := by decide +kernel
theorem dX11_init_89 : decode cX11_init 89 = .ok (.aload_n 0, 1) := by decide +kernel
theorem dX11_init_90 : decode cX11_init 90 = .ok (.new 58, 3) := by decide +kernel
theorem dX11_init_93 : decode cX11_init 93 = .ok (.dup, 1) := by decide +kernel
theorem dX11_init_94 : decode cX11_init 94 = .ok (.invokespecial 60, 3) := by decide +kernel
theorem dX11_init_97 : decode cX11_init 97 = .ok (.putfield 61, 3) := by decide +kernel
theorem dX11_init_100 : decode cX11_init 100 = .ok (.aload_n 0, 1) := by decide +kernel
theorem dX11_init_101 : decode cX11_init 101 = .ok (.iconst 3, 1) := by decide +kernel
theorem dX11_init_102 : decode cX11_init 102 = .ok (.newarray .int, 2) := by decide +kernel
theorem dX11_init_104 : decode cX11_init 104 = .ok (.putfield 65, 3) := by decide +kernel
theorem dX11_init_107 : decode cX11_init 107 = .ok (.aload_n 0, 1) := by decide +kernel
theorem dX11_init_108 : decode cX11_init 108 = .ok (.new 69, 3) := by decide +kernel
theorem dX11_init_111 : decode cX11_init 111 = .ok (.dup, 1) := by decide +kernel
theorem dX11_init_112 : decode cX11_init 112 = .ok (.invokespecial 71, 3) := by decide +kernel
theorem dX11_init_115 : decode cX11_init 115 = .ok (.putfield 72, 3) := by decide +kernel
theorem dX11_init_118 : decode cX11_init 118 = .ok (.aload_n 0, 1) := by decide +kernel
theorem dX11_init_119 : decode cX11_init 119 = .ok (.new 76, 3) := by decide +kernel
theorem dX11_init_122 : decode cX11_init 122 = .ok (.dup, 1) := by decide +kernel
theorem dX11_init_123 : decode cX11_init 123 = .ok (.invokespecial 78, 3) := by decide +kernel
theorem dX11_init_126 : decode cX11_init 126 = .ok (.putfield 79, 3) := by decide +kernel
theorem dX11_init_129 : decode cX11_init 129 = .ok (.aload_n 0, 1) := by decide +kernel
theorem dX11_init_130 : decode cX11_init 130 = .ok (.new 83, 3) := by decide +kernel
theorem dX11_init_133 : decode cX11_init 133 = .ok (.dup, 1) := by decide +kernel
theorem dX11_init_134 : decode cX11_init 134 = .ok (.invokespecial 85, 3) := by decide +kernel
theorem dX11_init_137 : decode cX11_init 137 = .ok (.putfield 86, 3) := by decide +kernel
theorem dX11_init_140 : decode cX11_init 140 = .ok (.aload_n 0, 1) := by decide +kernel
theorem dX11_init_141 : decode cX11_init 141 = .ok (.bipush 8, 2) := by decide +kernel
theorem dX11_init_143 : decode cX11_init 143 = .ok (.newarray .int, 2) := by decide +kernel
theorem dX11_init_145 : decode cX11_init 145 = .ok (.putfield 90, 3) := by decide +kernel
theorem dX11_init_148 : decode cX11_init 148 = .ok (.aload_n 0, 1) := by decide +kernel
theorem dX11_init_149 : decode cX11_init 149 = .ok (.iconst 0, 1) := by decide +kernel
theorem dX11_init_150 : decode cX11_init 150 = .ok (.putfield 93, 3) := by decide +kernel
theorem dX11_init_153 : decode cX11_init 153 = .ok (.return_, 1) := by decide +kernel
theorem dX11_feed_0 : decode cX11_feed 0 = .ok (.aload_n 0, 1) := by decide +kernel
theorem dX11_feed_1 : decode cX11_feed 1 = .ok (.getfield 13, 3) := by decide +kernel
theorem dX11_feed_4 : decode cX11_feed 4 = .ok (.bipush 20, 2) := by decide +kernel
theorem dX11_feed_6 : decode cX11_feed 6 = .ok (.iadd, 1) := by decide +kernel
theorem dX11_feed_7 : decode cX11_feed 7 = .ok (.sipush 700, 3) := by decide +kernel
theorem dX11_feed_10 : decode cX11_feed 10 = .ok (.if_icmp .le 5, 3) := by decide +kernel
theorem dX11_feed_13 : decode cX11_feed 13 = .ok (.iconst (-1), 1) := by decide +kernel
theorem dX11_feed_14 : decode cX11_feed 14 = .ok (.ireturn, 1) := by decide +kernel
theorem dX11_feed_15 : decode cX11_feed 15 = .ok (.aload_n 0, 1) := by decide +kernel
theorem dX11_feed_16 : decode cX11_feed 16 = .ok (.iload_n 1, 1) := by decide +kernel
theorem dX11_feed_17 : decode cX11_feed 17 = .ok (.invokevirtual 96, 3) := by decide +kernel
theorem dX11_feed_20 : decode cX11_feed 20 = .ok (.aload_n 0, 1) := by decide +kernel
theorem dX11_feed_21 : decode cX11_feed 21 = .ok (.iload_n 2, 1) := by decide +kernel
theorem dX11_feed_22 : decode cX11_feed 22 = .ok (.invokevirtual 96, 3) := by decide +kernel
theorem dX11_feed_25 : decode cX11_feed 25 = .ok (.aload_n 0, 1) := by decide +kernel
theorem dX11_feed_26 : decode cX11_feed 26 = .ok (.iload_n 3, 1) := by decide +kernel
theorem dX11_feed_27 : decode cX11_feed 27 = .ok (.invokevirtual 96, 3) := by decide +kernel
theorem dX11_feed_30 : decode cX11_feed 30 = .ok (.aload_n 0, 1) := by decide +kernel
theorem dX11_feed_31 : decode cX11_feed 31 = .ok (.iload 4, 2) := by decide +kernel
theorem dX11_feed_33 : decode cX11_feed 33 = .ok (.invokevirtual 96, 3) := by decide +kernel
theorem dX11_feed_36 : decode cX11_feed 36 = .ok (.aload_n 0, 1) := by decide +kernel
theorem dX11_feed_37 : decode cX11_feed 37 = .ok (.iload 5, 2) := by decide +kernel
theorem dX11_feed_39 : decode cX11_feed 39 = .ok (.invokevirtual 96, 3) := by decide +kernel
theorem dX11_feed_42 : decode cX11_feed 42 = .ok (.aload_n 0, 1) := by decide +kernel
theorem dX11_feed_43 : decode cX11_feed 43 = .ok (.getfield 13, 3) := by decide +kernel
theorem dX11_feed_46 : decode cX11_feed 46 = .ok (.ireturn, 1) := by decide +kernel
theorem dX11_putOnTape_0 : decode cX11_putOnTape 0 = .ok (.bipush 24, 2) := by decide +kernel
theorem dX11_putOnTape_2 : decode cX11_putOnTape 2 = .ok (.istore_n 2, 1) := by decide +kernel
theorem dX11_putOnTape_3 : decode cX11_putOnTape 3 = .ok (.iload_n 2, 1) := by decide +kernel
theorem dX11_putOnTape_4 : decode cX11_putOnTape 4 = .ok (.ifCond .lt 51, 3) := by decide +kernel
theorem dX11_putOnTape_7 : decode cX11_putOnTape 7 = .ok (.aload_n 0, 1) := by decide +kernel
theorem dX11_putOnTape_8 : decode cX11_putOnTape 8 = .ok (.getfield 13, 3) := by decide +kernel
theorem dX11_putOnTape_11 : decode cX11_putOnTape 11 = .ok (.ifCond .lt 38, 3) := by decide +kernel
theorem dX11_putOnTape_14 : decode cX11_putOnTape 14 = .ok (.aload_n 0, 1) := by decide +kernel
theorem dX11_putOnTape_15 : decode cX11_putOnTape 15 = .ok (.getfield 13, 3) := by decide +kernel
theorem dX11_putOnTape_18 : decode cX11_putOnTape 18 = .ok (.aload_n 0, 1) := by decide +kernel
theorem dX11_putOnTape_19 : decode cX11_putOnTape 19 = .ok (.getfield 9, 3) := by decide +kernel
theorem dX11_putOnTape_22 : decode cX11_putOnTape 22 = .ok (.arraylength, 1) := by decide +kernel
theorem dX11_putOnTape_23 : decode cX11_putOnTape 23 = .ok (.if_icmp .ge 26, 3) := by decide +kernel
theorem dX11_putOnTape_26 : decode cX11_putOnTape 26 = .ok (.aload_n 0, 1) := by decide +kernel
theorem dX11_putOnTape_27 : decode cX11_putOnTape 27 = .ok (.getfield 9, 3) := by decide +kernel
theorem dX11_putOnTape_30 : decode cX11_putOnTape 30 = .ok (.aload_n 0, 1) := by decide +kernel
theorem dX11_putOnTape_31 : decode cX11_putOnTape 31 = .ok (.getfield 13, 3) := by decide +kernel
theorem dX11_putOnTape_34 : decode cX11_putOnTape 34 = .ok (.iload_n 1, 1) := by decide +kernel
theorem dX11_putOnTape_35 : decode cX11_putOnTape 35 = .ok (.iload_n 2, 1) := by decide +kernel
theorem dX11_putOnTape_36 : decode cX11_putOnTape 36 = .ok (.ishr, 1) := by decide +kernel
theorem dX11_putOnTape_37 : decode cX11_putOnTape 37 = .ok (.i2b, 1) := by decide +kernel
theorem dX11_putOnTape_38 : decode cX11_putOnTape 38 = .ok (.bastore, 1) := by decide +kernel
theorem dX11_putOnTape_39 : decode cX11_putOnTape 39 = .ok (.aload_n 0, 1) := by decide +kernel
theorem dX11_putOnTape_40 : decode cX11_putOnTape 40 = .ok (.dup, 1) := by decide +kernel
theorem dX11_putOnTape_41 : decode cX11_putOnTape 41 = .ok (.getfield 13, 3) := by decide +kernel
theorem dX11_putOnTape_44 : decode cX11_putOnTape 44 = .ok (.iconst 1, 1) := by decide +kernel
theorem dX11_putOnTape_45 : decode cX11_putOnTape 45 = .ok (.iadd, 1) := by decide +kernel
theorem dX11_putOnTape_46 : decode cX11_putOnTape 46 = .ok (.putfield 13, 3) := by decide +kernel
theorem dX11_putOnTape_49 : decode cX11_putOnTape 49 = .ok (.iinc 2 (-8), 3) := by decide +kernel
theorem dX11_putOnTape_52 : decode cX11_putOnTape 52 = .ok (.goto (-49), 3) := by decide +kernel
theorem dX11_putOnTape_55 : decode cX11_putOnTape 55 = .ok (.return_, 1) := by decide +kernel
theorem dX11_quay_0 : decode cX11_quay 0 = .ok (.iload_n 1, 1) := by decide +kernel
theorem dX11_quay_1 : decode cX11_quay 1 = .ok (.ifCond .lt 11, 3) := by decide +kernel
theorem dX11_quay_4 : decode cX11_quay 4 = .ok (.iload_n 1, 1) := by decide +kernel
theorem dX11_quay_5 : decode cX11_quay 5 = .ok (.aload_n 0, 1) := by decide +kernel
theorem dX11_quay_6 : decode cX11_quay 6 = .ok (.getfield 13, 3) := by decide +kernel
theorem dX11_quay_9 : decode cX11_quay 9 = .ok (.if_icmp .le 13, 3) := by decide +kernel
theorem dX11_quay_12 : decode cX11_quay 12 = .ok (.new 100, 3) := by decide +kernel
theorem dX11_quay_15 : decode cX11_quay 15 = .ok (.dup, 1) := by decide +kernel
theorem dX11_quay_16 : decode cX11_quay 16 = .ok (.ldc 102, 2) := by decide +kernel
theorem dX11_quay_18 : decode cX11_quay 18 = .ok (.invokespecial 104, 3) := by decide +kernel
theorem dX11_quay_21 : decode cX11_quay 21 = .ok (.athrow, 1) := by decide +kernel
theorem dX11_quay_22 : decode cX11_quay 22 = .ok (.aload_n 0, 1) := by decide +kernel
theorem dX11_quay_23 : decode cX11_quay 23 = .ok (.getfield 30, 3) := by decide +kernel
theorem dX11_quay_26 : decode cX11_quay 26 = .ok (.aload_n 0, 1) := by decide +kernel
theorem dX11_quay_27 : decode cX11_quay 27 = .ok (.getfield 9, 3) := by decide +kernel
theorem dX11_quay_30 : decode cX11_quay 30 = .ok (.iload_n 1, 1) := by decide +kernel
theorem dX11_quay_31 : decode cX11_quay 31 = .ok (.invokevirtual 107, 3) := by decide +kernel
theorem dX11_quay_34 : decode cX11_quay 34 = .ok (.istore_n 2, 1) := by decide +kernel
theorem dX11_quay_35 : decode cX11_quay 35 = .ok (.aload_n 0, 1) := by decide +kernel
theorem dX11_quay_36 : decode cX11_quay 36 = .ok (.iconst 0, 1) := by decide +kernel
theorem dX11_quay_37 : decode cX11_quay 37 = .ok (.putfield 13, 3) := by decide +kernel
theorem dX11_quay_40 : decode cX11_quay 40 = .ok (.iload_n 2, 1) := by decide +kernel
theorem dX11_quay_41 : decode cX11_quay 41 = .ok (.ifCond .eq 22, 3) := by decide +kernel
theorem dX11_quay_44 : decode cX11_quay 44 = .ok (.aload_n 0, 1) := by decide +kernel
theorem dX11_quay_45 : decode cX11_quay 45 = .ok (.aload_n 0, 1) := by decide +kernel
theorem dX11_quay_46 : decode cX11_quay 46 = .ok (.getfield 30, 3) := by decide +kernel
theorem dX11_quay_49 : decode cX11_quay 49 = .ok (.getfield 111, 3) := by decide +kernel
theorem dX11_quay_52 : decode cX11_quay 52 = .ok (.putfield 17, 3) := by decide +kernel
theorem dX11_quay_55 : decode cX11_quay 55 = .ok (.aload_n 0, 1) := by decide +kernel
theorem dX11_quay_56 : decode cX11_quay 56 = .ok (.iconst 0, 1) := by decide +kernel
theorem dX11_quay_57 : decode cX11_quay 57 = .ok (.invokevirtual 114, 3) := by decide +kernel
theorem dX11_quay_60 : decode cX11_quay 60 = .ok (.pop, 1) := by decide +kernel
theorem dX11_quay_61 : decode cX11_quay 61 = .ok (.iload_n 2, 1) := by decide +kernel
theorem dX11_quay_62 : decode cX11_quay 62 = .ok (.ireturn, 1) := by decide +kernel
theorem dX11_quay_63 : decode cX11_quay 63 = .ok (.aload_n 0, 1) := by decide +kernel
theorem dX11_quay_64 : decode cX11_quay 64 = .ok (.iconst (-1), 1) := by decide +kernel
theorem dX11_quay_65 : decode cX11_quay 65 = .ok (.putfield 17, 3) := by decide +kernel
theorem dX11_quay_68 : decode cX11_quay 68 = .ok (.aload_n 0, 1) := by decide +kernel
theorem dX11_quay_69 : decode cX11_quay 69 = .ok (.getfield 23, 3) := by decide +kernel
theorem dX11_quay_72 : decode cX11_quay 72 = .ok (.astore_n 3, 1) := by decide +kernel
theorem dX11_quay_73 : decode cX11_quay 73 = .ok (.aload_n 0, 1) := by decide +kernel
theorem dX11_quay_74 : decode cX11_quay 74 = .ok (.aload_n 0, 1) := by decide +kernel
theorem dX11_quay_75 : decode cX11_quay 75 = .ok (.getfield 30, 3) := by decide +kernel
theorem dX11_quay_78 : decode cX11_quay 78 = .ok (.getfield 118, 3) := by decide +kernel
theorem dX11_quay_81 : decode cX11_quay 81 = .ok (.putfield 23, 3) := by decide +kernel
theorem dX11_quay_84 : decode cX11_quay 84 = .ok (.aload_n 0, 1) := by decide +kernel
theorem dX11_quay_85 : decode cX11_quay 85 = .ok (.getfield 30, 3) := by decide +kernel
theorem dX11_quay_88 : decode cX11_quay 88 = .ok (.aload_n 3, 1) := by decide +kernel
theorem dX11_quay_89 : decode cX11_quay 89 = .ok (.putfield 118, 3) := by decide +kernel
theorem dX11_quay_92 : decode cX11_quay 92 = .ok (.aload_n 0, 1) := by decide +kernel
theorem dX11_quay_93 : decode cX11_quay 93 = .ok (.getfield 44, 3) := by decide +kernel
theorem dX11_quay_96 : decode cX11_quay 96 = .ok (.aload_n 0, 1) := by decide +kernel
theorem dX11_quay_97 : decode cX11_quay 97 = .ok (.getfield 23, 3) := by decide +kernel
theorem dX11_quay_100 : decode cX11_quay 100 = .ok (.invokevirtual 121, 3) := by decide +kernel
theorem dX11_quay_103 : decode cX11_quay 103 = .ok (.aload_n 0, 1) := by decide +kernel
theorem dX11_quay_104 : decode cX11_quay 104 = .ok (.getfield 54, 3) := by decide +kernel
theorem dX11_quay_107 : decode cX11_quay 107 = .ok (.invokevirtual 125, 3) := by decide +kernel
theorem dX11_quay_110 : decode cX11_quay 110 = .ok (.aload_n 0, 1) := by decide +kernel
theorem dX11_quay_111 : decode cX11_quay 111 = .ok (.getfield 61, 3) := by decide +kernel
theorem dX11_quay_114 : decode cX11_quay 114 = .ok (.invokevirtual 128, 3) := by decide +kernel
theorem dX11_quay_117 : decode cX11_quay 117 = .ok (.aload_n 0, 1) := by decide +kernel
theorem dX11_quay_118 : decode cX11_quay 118 = .ok (.getfield 72, 3) := by decide +kernel
theorem dX11_quay_121 : decode cX11_quay 121 = .ok (.iconst 0, 1) := by decide +kernel
theorem dX11_quay_122 : decode cX11_quay 122 = .ok (.putfield 129, 3) := by decide +kernel
theorem dX11_quay_125 : decode cX11_quay 125 = .ok (.iconst 0, 1) := by decide +kernel
theorem dX11_quay_126 : decode cX11_quay 126 = .ok (.ireturn, 1) := by decide +kernel
theorem dX11_fault_0 : decode cX11_fault 0 = .ok (.aload_n 0, 1) := by decide +kernel
theorem dX11_fault_1 : decode cX11_fault 1 = .ok (.getfield 17, 3) := by decide +kernel
theorem dX11_fault_4 : decode cX11_fault 4 = .ok (.ireturn, 1) := by decide +kernel
theorem dX11_count_0 : decode cX11_count 0 = .ok (.aload_n 0, 1) := by decide +kernel
theorem dX11_count_1 : decode cX11_count 1 = .ok (.iload_n 1, 1) := by decide +kernel
theorem dX11_count_2 : decode cX11_count 2 = .ok (.bipush 15, 2) := by decide +kernel
theorem dX11_count_4 : decode cX11_count 4 = .ok (.invokevirtual 133, 3) := by decide +kernel
theorem dX11_count_7 : decode cX11_count 7 = .ok (.iload_n 1, 1) := by decide +kernel
theorem dX11_count_8 : decode cX11_count 8 = .ok (.bipush 12, 2) := by decide +kernel
theorem dX11_count_10 : decode cX11_count 10 = .ok (.if_icmp .lt 12, 3) := by decide +kernel
theorem dX11_count_13 : decode cX11_count 13 = .ok (.aload_n 0, 1) := by decide +kernel
theorem dX11_count_14 : decode cX11_count 14 = .ok (.iload_n 1, 1) := by decide +kernel
theorem dX11_count_15 : decode cX11_count 15 = .ok (.bipush 12, 2) := by decide +kernel
theorem dX11_count_17 : decode cX11_count 17 = .ok (.isub, 1) := by decide +kernel
theorem dX11_count_18 : decode cX11_count 18 = .ok (.invokevirtual 137, 3) := by decide +kernel
theorem dX11_count_21 : decode cX11_count 21 = .ok (.ireturn, 1) := by decide +kernel
theorem dX11_count_22 : decode cX11_count 22 = .ok (.iload_n 1, 1) := by decide +kernel
theorem dX11_count_23 : decode cX11_count 23 = .ok (.tableswitch 150 0 10 #[57, 65, 73, 81, 89, 105, 113, 121, 129, 134, 142], 57) := by decide +kernel
theorem dX11_count_80 : decode cX11_count 80 = .ok (.aload_n 0, 1) := by decide +kernel
theorem dX11_count_81 : decode cX11_count 81 = .ok (.getfield 23, 3) := by decide +kernel
theorem dX11_count_84 : decode cX11_count 84 = .ok (.getfield 140, 3) := by decide +kernel
theorem dX11_count_87 : decode cX11_count 87 = .ok (.ireturn, 1) := by decide +kernel
theorem dX11_count_88 : decode cX11_count 88 = .ok (.aload_n 0, 1) := by decide +kernel
theorem dX11_count_89 : decode cX11_count 89 = .ok (.getfield 23, 3) := by decide +kernel
theorem dX11_count_92 : decode cX11_count 92 = .ok (.getfield 143, 3) := by decide +kernel
theorem dX11_count_95 : decode cX11_count 95 = .ok (.ireturn, 1) := by decide +kernel
theorem dX11_count_96 : decode cX11_count 96 = .ok (.aload_n 0, 1) := by decide +kernel
theorem dX11_count_97 : decode cX11_count 97 = .ok (.getfield 44, 3) := by decide +kernel
theorem dX11_count_100 : decode cX11_count 100 = .ok (.getfield 146, 3) := by decide +kernel
theorem dX11_count_103 : decode cX11_count 103 = .ok (.ireturn, 1) := by decide +kernel
theorem dX11_count_104 : decode cX11_count 104 = .ok (.aload_n 0, 1) := by decide +kernel
theorem dX11_count_105 : decode cX11_count 105 = .ok (.getfield 44, 3) := by decide +kernel
theorem dX11_count_108 : decode cX11_count 108 = .ok (.getfield 149, 3) := by decide +kernel
theorem dX11_count_111 : decode cX11_count 111 = .ok (.ireturn, 1) := by decide +kernel
theorem dX11_count_112 : decode cX11_count 112 = .ok (.aload_n 0, 1) := by decide +kernel
theorem dX11_count_113 : decode cX11_count 113 = .ok (.getfield 44, 3) := by decide +kernel
theorem dX11_count_116 : decode cX11_count 116 = .ok (.getfield 152, 3) := by decide +kernel
theorem dX11_count_119 : decode cX11_count 119 = .ok (.ifCond .eq 7, 3) := by decide +kernel
theorem dX11_count_122 : decode cX11_count 122 = .ok (.iconst 1, 1) := by decide +kernel
theorem dX11_count_123 : decode cX11_count 123 = .ok (.goto 4, 3) := by decide +kernel
theorem dX11_count_126 : decode cX11_count 126 = .ok (.iconst 0, 1) := by decide +kernel
theorem dX11_count_127 : decode cX11_count 127 = .ok (.ireturn, 1) := by decide +kernel
theorem dX11_count_128 : decode cX11_count 128 = .ok (.aload_n 0, 1) := by decide +kernel
theorem dX11_count_129 : decode cX11_count 129 = .ok (.getfield 44, 3) := by decide +kernel
theorem dX11_count_132 : decode cX11_count 132 = .ok (.invokevirtual 155, 3) := by decide +kernel
theorem dX11_count_135 : decode cX11_count 135 = .ok (.ireturn, 1) := by decide +kernel
theorem dX11_count_136 : decode cX11_count 136 = .ok (.aload_n 0, 1) := by decide +kernel
theorem dX11_count_137 : decode cX11_count 137 = .ok (.getfield 44, 3) := by decide +kernel
theorem dX11_count_140 : decode cX11_count 140 = .ok (.getfield 159, 3) := by decide +kernel
theorem dX11_count_143 : decode cX11_count 143 = .ok (.ireturn, 1) := by decide +kernel
theorem dX11_count_144 : decode cX11_count 144 = .ok (.aload_n 0, 1) := by decide +kernel
theorem dX11_count_145 : decode cX11_count 145 = .ok (.getfield 44, 3) := by decide +kernel
theorem dX11_count_148 : decode cX11_count 148 = .ok (.invokevirtual 162, 3) := by decide +kernel
theorem dX11_count_151 : decode cX11_count 151 = .ok (.ireturn, 1) := by decide +kernel
theorem dX11_count_152 : decode cX11_count 152 = .ok (.aload_n 0, 1) := by decide +kernel
theorem dX11_count_153 : decode cX11_count 153 = .ok (.invokevirtual 165, 3) := by decide +kernel
theorem dX11_count_156 : decode cX11_count 156 = .ok (.ireturn, 1) := by decide +kernel
theorem dX11_count_157 : decode cX11_count 157 = .ok (.aload_n 0, 1) := by decide +kernel
theorem dX11_count_158 : decode cX11_count 158 = .ok (.getfield 54, 3) := by decide +kernel
theorem dX11_count_161 : decode cX11_count 161 = .ok (.getfield 168, 3) := by decide +kernel
theorem dX11_count_164 : decode cX11_count 164 = .ok (.ireturn, 1) := by decide +kernel
theorem dX11_count_165 : decode cX11_count 165 = .ok (.aload_n 0, 1) := by decide +kernel
theorem dX11_count_166 : decode cX11_count 166 = .ok (.getfield 61, 3) := by decide +kernel
theorem dX11_count_169 : decode cX11_count 169 = .ok (.getfield 171, 3) := by decide +kernel
theorem dX11_count_172 : decode cX11_count 172 = .ok (.ireturn, 1) := by decide +kernel
theorem dX11_count_173 : decode cX11_count 173 = .ok (.aload_n 0, 1) := by decide +kernel
theorem dX11_count_174 : decode cX11_count 174 = .ok (.getfield 13, 3) := by decide +kernel
theorem dX11_count_177 : decode cX11_count 177 = .ok (.ireturn, 1) := by decide +kernel
theorem dX11_statusOf_0 : decode cX11_statusOf 0 = .ok (.iload_n 1, 1) := by decide +kernel
theorem dX11_statusOf_1 : decode cX11_statusOf 1 = .ok (.ifCond .lt 21, 3) := by decide +kernel
theorem dX11_statusOf_4 : decode cX11_statusOf 4 = .ok (.iload_n 1, 1) := by decide +kernel
theorem dX11_statusOf_5 : decode cX11_statusOf 5 = .ok (.aload_n 0, 1) := by decide +kernel
theorem dX11_statusOf_6 : decode cX11_statusOf 6 = .ok (.getfield 65, 3) := by decide +kernel
theorem dX11_statusOf_9 : decode cX11_statusOf 9 = .ok (.arraylength, 1) := by decide +kernel
theorem dX11_statusOf_10 : decode cX11_statusOf 10 = .ok (.if_icmp .ge 12, 3) := by decide +kernel
theorem dX11_statusOf_13 : decode cX11_statusOf 13 = .ok (.aload_n 0, 1) := by decide +kernel
theorem dX11_statusOf_14 : decode cX11_statusOf 14 = .ok (.getfield 65, 3) := by decide +kernel
theorem dX11_statusOf_17 : decode cX11_statusOf 17 = .ok (.iload_n 1, 1) := by decide +kernel
theorem dX11_statusOf_18 : decode cX11_statusOf 18 = .ok (.iaload, 1) := by decide +kernel
theorem dX11_statusOf_19 : decode cX11_statusOf 19 = .ok (.goto 4, 3) := by decide +kernel
theorem dX11_statusOf_22 : decode cX11_statusOf 22 = .ok (.iconst 0, 1) := by decide +kernel
theorem dX11_statusOf_23 : decode cX11_statusOf 23 = .ok (.ireturn, 1) := by decide +kernel
theorem dX11_companies_0 : decode cX11_companies 0 = .ok (.iconst 0, 1) := by decide +kernel
theorem dX11_companies_1 : decode cX11_companies 1 = .ok (.istore_n 1, 1) := by decide +kernel
theorem dX11_companies_2 : decode cX11_companies 2 = .ok (.iconst 0, 1) := by decide +kernel
theorem dX11_companies_3 : decode cX11_companies 3 = .ok (.istore_n 2, 1) := by decide +kernel
theorem dX11_companies_4 : decode cX11_companies 4 = .ok (.iload_n 2, 1) := by decide +kernel
theorem dX11_companies_5 : decode cX11_companies 5 = .ok (.aload_n 0, 1) := by decide +kernel
theorem dX11_companies_6 : decode cX11_companies 6 = .ok (.getfield 23, 3) := by decide +kernel
theorem dX11_companies_9 : decode cX11_companies 9 = .ok (.getfield 140, 3) := by decide +kernel
theorem dX11_companies_12 : decode cX11_companies 12 = .ok (.if_icmp .ge 31, 3) := by decide +kernel
theorem dX11_companies_15 : decode cX11_companies 15 = .ok (.aload_n 0, 1) := by decide +kernel
theorem dX11_companies_16 : decode cX11_companies 16 = .ok (.getfield 23, 3) := by decide +kernel
theorem dX11_companies_19 : decode cX11_companies 19 = .ok (.iload_n 2, 1) := by decide +kernel
theorem dX11_companies_20 : decode cX11_companies 20 = .ok (.aload_n 0, 1) := by decide +kernel
theorem dX11_companies_21 : decode cX11_companies 21 = .ok (.getfield 44, 3) := by decide +kernel
theorem dX11_companies_24 : decode cX11_companies 24 = .ok (.getfield 146, 3) := by decide +kernel
theorem dX11_companies_27 : decode cX11_companies 27 = .ok (.invokevirtual 172, 3) := by decide +kernel
theorem dX11_companies_30 : decode cX11_companies 30 = .ok (.iconst 2, 1) := by decide +kernel
theorem dX11_companies_31 : decode cX11_companies 31 = .ok (.if_icmp .lt 6, 3) := by decide +kernel
theorem dX11_companies_34 : decode cX11_companies 34 = .ok (.iinc 1 1, 3) := by decide +kernel
theorem dX11_companies_37 : decode cX11_companies 37 = .ok (.iinc 2 1, 3) := by decide +kernel
theorem dX11_companies_40 : decode cX11_companies 40 = .ok (.goto (-36), 3) := by decide +kernel
theorem dX11_companies_43 : decode cX11_companies 43 = .ok (.iload_n 1, 1) := by decide +kernel
theorem dX11_companies_44 : decode cX11_companies 44 = .ok (.ireturn, 1) := by decide +kernel
theorem dX11_person_0 : decode cX11_person 0 = .ok (.aload_n 0, 1) := by decide +kernel
theorem dX11_person_1 : decode cX11_person 1 = .ok (.iload_n 1, 1) := by decide +kernel
theorem dX11_person_2 : decode cX11_person 2 = .ok (.invokevirtual 176, 3) := by decide +kernel
theorem dX11_person_5 : decode cX11_person 5 = .ok (.aload_n 0, 1) := by decide +kernel
theorem dX11_person_6 : decode cX11_person 6 = .ok (.iload_n 2, 1) := by decide +kernel
theorem dX11_person_7 : decode cX11_person 7 = .ok (.bipush 9, 2) := by decide +kernel
theorem dX11_person_9 : decode cX11_person 9 = .ok (.invokevirtual 133, 3) := by decide +kernel
theorem dX11_person_12 : decode cX11_person 12 = .ok (.iload_n 2, 1) := by decide +kernel
theorem dX11_person_13 : decode cX11_person 13 = .ok (.tableswitch 142 0 7 #[47, 56, 65, 74, 83, 99, 108, 125], 47) := by decide +kernel
theorem dX11_person_60 : decode cX11_person 60 = .ok (.aload_n 0, 1) := by decide +kernel
theorem dX11_person_61 : decode cX11_person 61 = .ok (.getfield 44, 3) := by decide +kernel
theorem dX11_person_64 : decode cX11_person 64 = .ok (.iload_n 1, 1) := by decide +kernel
theorem dX11_person_65 : decode cX11_person 65 = .ok (.invokevirtual 179, 3) := by decide +kernel
theorem dX11_person_68 : decode cX11_person 68 = .ok (.ireturn, 1) := by decide +kernel
theorem dX11_person_69 : decode cX11_person 69 = .ok (.aload_n 0, 1) := by decide +kernel
theorem dX11_person_70 : decode cX11_person 70 = .ok (.getfield 44, 3) := by decide +kernel
theorem dX11_person_73 : decode cX11_person 73 = .ok (.iload_n 1, 1) := by decide +kernel
theorem dX11_person_74 : decode cX11_person 74 = .ok (.invokevirtual 182, 3) := by decide +kernel
theorem dX11_person_77 : decode cX11_person 77 = .ok (.ireturn, 1) := by decide +kernel
theorem dX11_person_78 : decode cX11_person 78 = .ok (.aload_n 0, 1) := by decide +kernel
theorem dX11_person_79 : decode cX11_person 79 = .ok (.getfield 44, 3) := by decide +kernel
theorem dX11_person_82 : decode cX11_person 82 = .ok (.iload_n 1, 1) := by decide +kernel
theorem dX11_person_83 : decode cX11_person 83 = .ok (.invokevirtual 185, 3) := by decide +kernel
theorem dX11_person_86 : decode cX11_person 86 = .ok (.ireturn, 1) := by decide +kernel
theorem dX11_person_87 : decode cX11_person 87 = .ok (.aload_n 0, 1) := by decide +kernel
theorem dX11_person_88 : decode cX11_person 88 = .ok (.getfield 44, 3) := by decide +kernel
theorem dX11_person_91 : decode cX11_person 91 = .ok (.iload_n 1, 1) := by decide +kernel
theorem dX11_person_92 : decode cX11_person 92 = .ok (.invokevirtual 188, 3) := by decide +kernel
theorem dX11_person_95 : decode cX11_person 95 = .ok (.ireturn, 1) := by decide +kernel
theorem dX11_person_96 : decode cX11_person 96 = .ok (.aload_n 0, 1) := by decide +kernel
theorem dX11_person_97 : decode cX11_person 97 = .ok (.getfield 23, 3) := by decide +kernel
theorem dX11_person_100 : decode cX11_person 100 = .ok (.iload_n 1, 1) := by decide +kernel
theorem dX11_person_101 : decode cX11_person 101 = .ok (.aload_n 0, 1) := by decide +kernel
theorem dX11_person_102 : decode cX11_person 102 = .ok (.getfield 44, 3) := by decide +kernel
theorem dX11_person_105 : decode cX11_person 105 = .ok (.getfield 146, 3) := by decide +kernel
theorem dX11_person_108 : decode cX11_person 108 = .ok (.invokevirtual 191, 3) := by decide +kernel
theorem dX11_person_111 : decode cX11_person 111 = .ok (.ireturn, 1) := by decide +kernel
theorem dX11_person_112 : decode cX11_person 112 = .ok (.aload_n 0, 1) := by decide +kernel
theorem dX11_person_113 : decode cX11_person 113 = .ok (.getfield 44, 3) := by decide +kernel
theorem dX11_person_116 : decode cX11_person 116 = .ok (.iload_n 1, 1) := by decide +kernel
theorem dX11_person_117 : decode cX11_person 117 = .ok (.invokevirtual 194, 3) := by decide +kernel
theorem dX11_person_120 : decode cX11_person 120 = .ok (.ireturn, 1) := by decide +kernel
theorem dX11_person_121 : decode cX11_person 121 = .ok (.aload_n 0, 1) := by decide +kernel
theorem dX11_person_122 : decode cX11_person 122 = .ok (.getfield 23, 3) := by decide +kernel
theorem dX11_person_125 : decode cX11_person 125 = .ok (.iload_n 1, 1) := by decide +kernel
theorem dX11_person_126 : decode cX11_person 126 = .ok (.invokevirtual 197, 3) := by decide +kernel
theorem dX11_person_129 : decode cX11_person 129 = .ok (.ifCond .eq 7, 3) := by decide +kernel
theorem dX11_person_132 : decode cX11_person 132 = .ok (.iconst 1, 1) := by decide +kernel
theorem dX11_person_133 : decode cX11_person 133 = .ok (.goto 4, 3) := by decide +kernel
theorem dX11_person_136 : decode cX11_person 136 = .ok (.iconst 0, 1) := by decide +kernel
theorem dX11_person_137 : decode cX11_person 137 = .ok (.ireturn, 1) := by decide +kernel
theorem dX11_person_138 : decode cX11_person 138 = .ok (.aload_n 0, 1) := by decide +kernel
theorem dX11_person_139 : decode cX11_person 139 = .ok (.getfield 44, 3) := by decide +kernel
theorem dX11_person_142 : decode cX11_person 142 = .ok (.iload_n 1, 1) := by decide +kernel
theorem dX11_person_143 : decode cX11_person 143 = .ok (.invokevirtual 201, 3) := by decide +kernel
theorem dX11_person_146 : decode cX11_person 146 = .ok (.ifCond .eq 7, 3) := by decide +kernel
theorem dX11_person_149 : decode cX11_person 149 = .ok (.iconst 1, 1) := by decide +kernel
theorem dX11_person_150 : decode cX11_person 150 = .ok (.goto 4, 3) := by decide +kernel
theorem dX11_person_153 : decode cX11_person 153 = .ok (.iconst 0, 1) := by decide +kernel
theorem dX11_person_154 : decode cX11_person 154 = .ok (.ireturn, 1) := by decide +kernel
theorem dX11_person_155 : decode cX11_person 155 = .ok (.aload_n 0, 1) := by decide +kernel
theorem dX11_person_156 : decode cX11_person 156 = .ok (.getfield 23, 3) := by decide +kernel
theorem dX11_person_159 : decode cX11_person 159 = .ok (.aload_n 0, 1) := by decide +kernel
theorem dX11_person_160 : decode cX11_person 160 = .ok (.getfield 23, 3) := by decide +kernel
theorem dX11_person_163 : decode cX11_person 163 = .ok (.iload_n 1, 1) := by decide +kernel
theorem dX11_person_164 : decode cX11_person 164 = .ok (.aload_n 0, 1) := by decide +kernel
theorem dX11_person_165 : decode cX11_person 165 = .ok (.getfield 44, 3) := by decide +kernel
theorem dX11_person_168 : decode cX11_person 168 = .ok (.getfield 146, 3) := by decide +kernel
theorem dX11_person_171 : decode cX11_person 171 = .ok (.invokevirtual 191, 3) := by decide +kernel
theorem dX11_person_174 : decode cX11_person 174 = .ok (.aload_n 0, 1) := by decide +kernel
theorem dX11_person_175 : decode cX11_person 175 = .ok (.getfield 44, 3) := by decide +kernel
theorem dX11_person_178 : decode cX11_person 178 = .ok (.getfield 146, 3) := by decide +kernel
theorem dX11_person_181 : decode cX11_person 181 = .ok (.invokevirtual 204, 3) := by decide +kernel
theorem dX11_person_184 : decode cX11_person 184 = .ok (.iconst 1, 1) := by decide +kernel
theorem dX11_person_185 : decode cX11_person 185 = .ok (.iload_n 1, 1) := by decide +kernel
theorem dX11_person_186 : decode cX11_person 186 = .ok (.ishl, 1) := by decide +kernel
theorem dX11_person_187 : decode cX11_person 187 = .ok (.iconst (-1), 1) := by decide +kernel
theorem dX11_person_188 : decode cX11_person 188 = .ok (.ixor, 1) := by decide +kernel
theorem dX11_person_189 : decode cX11_person 189 = .ok (.iand, 1) := by decide +kernel
theorem dX11_person_190 : decode cX11_person 190 = .ok (.ireturn, 1) := by decide +kernel
theorem dX11_steps_0 : decode cX11_steps 0 = .ok (.iload_n 1, 1) := by decide +kernel
theorem dX11_steps_1 : decode cX11_steps 1 = .ok (.iconst 1, 1) := by decide +kernel
theorem dX11_steps_2 : decode cX11_steps 2 = .ok (.if_icmp .lt 24, 3) := by decide +kernel
theorem dX11_steps_5 : decode cX11_steps 5 = .ok (.iload_n 1, 1) := by decide +kernel
theorem dX11_steps_6 : decode cX11_steps 6 = .ok (.bipush 20, 2) := by decide +kernel
theorem dX11_steps_8 : decode cX11_steps 8 = .ok (.if_icmp .gt 18, 3) := by decide +kernel
theorem dX11_steps_11 : decode cX11_steps 11 = .ok (.aload_n 0, 1) := by decide +kernel
theorem dX11_steps_12 : decode cX11_steps 12 = .ok (.getfield 44, 3) := by decide +kernel
theorem dX11_steps_15 : decode cX11_steps 15 = .ok (.getfield 146, 3) := by decide +kernel
theorem dX11_steps_18 : decode cX11_steps 18 = .ok (.iload_n 1, 1) := by decide +kernel
theorem dX11_steps_19 : decode cX11_steps 19 = .ok (.iadd, 1) := by decide +kernel
theorem dX11_steps_20 : decode cX11_steps 20 = .ok (.sipush 999, 3) := by decide +kernel
theorem dX11_steps_23 : decode cX11_steps 23 = .ok (.if_icmp .le 9, 3) := by decide +kernel
theorem dX11_steps_26 : decode cX11_steps 26 = .ok (.aload_n 0, 1) := by decide +kernel
theorem dX11_steps_27 : decode cX11_steps 27 = .ok (.iconst 1, 1) := by decide +kernel
theorem dX11_steps_28 : decode cX11_steps 28 = .ok (.invokevirtual 114, 3) := by decide +kernel
theorem dX11_steps_31 : decode cX11_steps 31 = .ok (.ireturn, 1) := by decide +kernel
theorem dX11_steps_32 : decode cX11_steps 32 = .ok (.aload_n 0, 1) := by decide +kernel
theorem dX11_steps_33 : decode cX11_steps 33 = .ok (.getfield 54, 3) := by decide +kernel
theorem dX11_steps_36 : decode cX11_steps 36 = .ok (.aload_n 0, 1) := by decide +kernel
theorem dX11_steps_37 : decode cX11_steps 37 = .ok (.getfield 44, 3) := by decide +kernel
theorem dX11_steps_40 : decode cX11_steps 40 = .ok (.invokevirtual 207, 3) := by decide +kernel
theorem dX11_steps_43 : decode cX11_steps 43 = .ok (.aload_n 0, 1) := by decide +kernel
theorem dX11_steps_44 : decode cX11_steps 44 = .ok (.getfield 37, 3) := by decide +kernel
theorem dX11_steps_47 : decode cX11_steps 47 = .ok (.aload_n 0, 1) := by decide +kernel
theorem dX11_steps_48 : decode cX11_steps 48 = .ok (.getfield 23, 3) := by decide +kernel
theorem dX11_steps_51 : decode cX11_steps 51 = .ok (.aload_n 0, 1) := by decide +kernel
theorem dX11_steps_52 : decode cX11_steps 52 = .ok (.getfield 44, 3) := by decide +kernel
theorem dX11_steps_55 : decode cX11_steps 55 = .ok (.iload_n 1, 1) := by decide +kernel
theorem dX11_steps_56 : decode cX11_steps 56 = .ok (.invokevirtual 211, 3) := by decide +kernel
theorem dX11_steps_59 : decode cX11_steps 59 = .ok (.aload_n 0, 1) := by decide +kernel
theorem dX11_steps_60 : decode cX11_steps 60 = .ok (.getfield 44, 3) := by decide +kernel
theorem dX11_steps_63 : decode cX11_steps 63 = .ok (.getfield 146, 3) := by decide +kernel
theorem dX11_steps_66 : decode cX11_steps 66 = .ok (.ireturn, 1) := by decide +kernel
theorem dX11_set_0 : decode cX11_set 0 = .ok (.aload_n 0, 1) := by decide +kernel
theorem dX11_set_1 : decode cX11_set 1 = .ok (.iload_n 1, 1) := by decide +kernel
theorem dX11_set_2 : decode cX11_set 2 = .ok (.invokevirtual 176, 3) := by decide +kernel
theorem dX11_set_5 : decode cX11_set 5 = .ok (.aload_n 0, 1) := by decide +kernel
theorem dX11_set_6 : decode cX11_set 6 = .ok (.getfield 44, 3) := by decide +kernel
theorem dX11_set_9 : decode cX11_set 9 = .ok (.iload_n 1, 1) := by decide +kernel
theorem dX11_set_10 : decode cX11_set 10 = .ok (.invokevirtual 182, 3) := by decide +kernel
theorem dX11_set_13 : decode cX11_set 13 = .ok (.istore_n 3, 1) := by decide +kernel
theorem dX11_set_14 : decode cX11_set 14 = .ok (.iload_n 2, 1) := by decide +kernel
theorem dX11_set_15 : decode cX11_set 15 = .ok (.ifCond .lt 14, 3) := by decide +kernel
theorem dX11_set_18 : decode cX11_set 18 = .ok (.iload_n 2, 1) := by decide +kernel
theorem dX11_set_19 : decode cX11_set 19 = .ok (.bipush 60, 2) := by decide +kernel
theorem dX11_set_21 : decode cX11_set 21 = .ok (.if_icmp .ge 8, 3) := by decide +kernel
theorem dX11_set_24 : decode cX11_set 24 = .ok (.iload_n 2, 1) := by decide +kernel
theorem dX11_set_25 : decode cX11_set 25 = .ok (.iload_n 3, 1) := by decide +kernel
theorem dX11_set_26 : decode cX11_set 26 = .ok (.if_icmp .ne 9, 3) := by decide +kernel
theorem dX11_set_29 : decode cX11_set 29 = .ok (.aload_n 0, 1) := by decide +kernel
theorem dX11_set_30 : decode cX11_set 30 = .ok (.iconst 1, 1) := by decide +kernel
theorem dX11_set_31 : decode cX11_set 31 = .ok (.invokevirtual 114, 3) := by decide +kernel
theorem dX11_set_34 : decode cX11_set 34 = .ok (.ireturn, 1) := by decide +kernel
theorem dX11_set_35 : decode cX11_set 35 = .ok (.aload_n 0, 1) := by decide +kernel
theorem dX11_set_36 : decode cX11_set 36 = .ok (.getfield 54, 3) := by decide +kernel
theorem dX11_set_39 : decode cX11_set 39 = .ok (.aload_n 0, 1) := by decide +kernel
theorem dX11_set_40 : decode cX11_set 40 = .ok (.getfield 44, 3) := by decide +kernel
theorem dX11_set_43 : decode cX11_set 43 = .ok (.invokevirtual 207, 3) := by decide +kernel
theorem dX11_set_46 : decode cX11_set 46 = .ok (.aload_n 0, 1) := by decide +kernel
theorem dX11_set_47 : decode cX11_set 47 = .ok (.getfield 44, 3) := by decide +kernel
theorem dX11_set_50 : decode cX11_set 50 = .ok (.iload_n 1, 1) := by decide +kernel
theorem dX11_set_51 : decode cX11_set 51 = .ok (.iload_n 2, 1) := by decide +kernel
theorem dX11_set_52 : decode cX11_set 52 = .ok (.invokevirtual 215, 3) := by decide +kernel
theorem dX11_set_55 : decode cX11_set 55 = .ok (.iload_n 3, 1) := by decide +kernel
theorem dX11_set_56 : decode cX11_set 56 = .ok (.ireturn, 1) := by decide +kernel
theorem dX11_give_0 : decode cX11_give 0 = .ok (.aload_n 0, 1) := by decide +kernel
theorem dX11_give_1 : decode cX11_give 1 = .ok (.iload_n 1, 1) := by decide +kernel
theorem dX11_give_2 : decode cX11_give 2 = .ok (.invokevirtual 176, 3) := by decide +kernel
theorem dX11_give_5 : decode cX11_give 5 = .ok (.iload_n 2, 1) := by decide +kernel
theorem dX11_give_6 : decode cX11_give 6 = .ok (.iconst 1, 1) := by decide +kernel
theorem dX11_give_7 : decode cX11_give 7 = .ok (.if_icmp .lt 9, 3) := by decide +kernel
theorem dX11_give_10 : decode cX11_give 10 = .ok (.iload_n 2, 1) := by decide +kernel
theorem dX11_give_11 : decode cX11_give 11 = .ok (.bipush 100, 2) := by decide +kernel
theorem dX11_give_13 : decode cX11_give 13 = .ok (.if_icmp .le 9, 3) := by decide +kernel
theorem dX11_give_16 : decode cX11_give 16 = .ok (.aload_n 0, 1) := by decide +kernel
theorem dX11_give_17 : decode cX11_give 17 = .ok (.iconst 1, 1) := by decide +kernel
theorem dX11_give_18 : decode cX11_give 18 = .ok (.invokevirtual 114, 3) := by decide +kernel
theorem dX11_give_21 : decode cX11_give 21 = .ok (.ireturn, 1) := by decide +kernel
theorem dX11_give_22 : decode cX11_give 22 = .ok (.aload_n 0, 1) := by decide +kernel
theorem dX11_give_23 : decode cX11_give 23 = .ok (.getfield 54, 3) := by decide +kernel
theorem dX11_give_26 : decode cX11_give 26 = .ok (.aload_n 0, 1) := by decide +kernel
theorem dX11_give_27 : decode cX11_give 27 = .ok (.getfield 44, 3) := by decide +kernel
theorem dX11_give_30 : decode cX11_give 30 = .ok (.invokevirtual 207, 3) := by decide +kernel
theorem dX11_give_33 : decode cX11_give 33 = .ok (.aload_n 0, 1) := by decide +kernel
theorem dX11_give_34 : decode cX11_give 34 = .ok (.getfield 44, 3) := by decide +kernel
theorem dX11_give_37 : decode cX11_give 37 = .ok (.iload_n 1, 1) := by decide +kernel
theorem dX11_give_38 : decode cX11_give 38 = .ok (.iload_n 2, 1) := by decide +kernel
theorem dX11_give_39 : decode cX11_give 39 = .ok (.invokevirtual 218, 3) := by decide +kernel
theorem dX11_give_42 : decode cX11_give 42 = .ok (.aload_n 0, 1) := by decide +kernel
theorem dX11_give_43 : decode cX11_give 43 = .ok (.getfield 44, 3) := by decide +kernel
theorem dX11_give_46 : decode cX11_give 46 = .ok (.iload_n 1, 1) := by decide +kernel
theorem dX11_give_47 : decode cX11_give 47 = .ok (.invokevirtual 179, 3) := by decide +kernel
theorem dX11_give_50 : decode cX11_give 50 = .ok (.ireturn, 1) := by decide +kernel
theorem dX11_stop_0 : decode cX11_stop 0 = .ok (.aload_n 0, 1) := by decide +kernel
theorem dX11_stop_1 : decode cX11_stop 1 = .ok (.getfield 44, 3) := by decide +kernel
theorem dX11_stop_4 : decode cX11_stop 4 = .ok (.getfield 152, 3) := by decide +kernel
theorem dX11_stop_7 : decode cX11_stop 7 = .ok (.iload_n 1, 1) := by decide +kernel
theorem dX11_stop_8 : decode cX11_stop 8 = .ok (.if_icmp .ne 11, 3) := by decide +kernel
theorem dX11_stop_11 : decode cX11_stop 11 = .ok (.aload_n 0, 1) := by decide +kernel
theorem dX11_stop_12 : decode cX11_stop 12 = .ok (.iconst 1, 1) := by decide +kernel
theorem dX11_stop_13 : decode cX11_stop 13 = .ok (.invokevirtual 114, 3) := by decide +kernel
theorem dX11_stop_16 : decode cX11_stop 16 = .ok (.pop, 1) := by decide +kernel
theorem dX11_stop_17 : decode cX11_stop 17 = .ok (.iconst 0, 1) := by decide +kernel
theorem dX11_stop_18 : decode cX11_stop 18 = .ok (.ireturn, 1) := by decide +kernel
theorem dX11_stop_19 : decode cX11_stop 19 = .ok (.aload_n 0, 1) := by decide +kernel
theorem dX11_stop_20 : decode cX11_stop 20 = .ok (.getfield 54, 3) := by decide +kernel
theorem dX11_stop_23 : decode cX11_stop 23 = .ok (.aload_n 0, 1) := by decide +kernel
theorem dX11_stop_24 : decode cX11_stop 24 = .ok (.getfield 44, 3) := by decide +kernel
theorem dX11_stop_27 : decode cX11_stop 27 = .ok (.invokevirtual 207, 3) := by decide +kernel
theorem dX11_stop_30 : decode cX11_stop 30 = .ok (.aload_n 0, 1) := by decide +kernel
theorem dX11_stop_31 : decode cX11_stop 31 = .ok (.getfield 44, 3) := by decide +kernel
theorem dX11_stop_34 : decode cX11_stop 34 = .ok (.iload_n 1, 1) := by decide +kernel
theorem dX11_stop_35 : decode cX11_stop 35 = .ok (.putfield 152, 3) := by decide +kernel
theorem dX11_stop_38 : decode cX11_stop 38 = .ok (.iconst 1, 1) := by decide +kernel
theorem dX11_stop_39 : decode cX11_stop 39 = .ok (.ireturn, 1) := by decide +kernel
theorem dX11_stay_0 : decode cX11_stay 0 = .ok (.aload_n 0, 1) := by decide +kernel
theorem dX11_stay_1 : decode cX11_stay 1 = .ok (.iload_n 1, 1) := by decide +kernel
theorem dX11_stay_2 : decode cX11_stay 2 = .ok (.invokevirtual 176, 3) := by decide +kernel
theorem dX11_stay_5 : decode cX11_stay 5 = .ok (.aload_n 0, 1) := by decide +kernel
theorem dX11_stay_6 : decode cX11_stay 6 = .ok (.getfield 44, 3) := by decide +kernel
theorem dX11_stay_9 : decode cX11_stay 9 = .ok (.iload_n 1, 1) := by decide +kernel
theorem dX11_stay_10 : decode cX11_stay 10 = .ok (.invokevirtual 201, 3) := by decide +kernel
theorem dX11_stay_13 : decode cX11_stay 13 = .ok (.iload_n 2, 1) := by decide +kernel
theorem dX11_stay_14 : decode cX11_stay 14 = .ok (.if_icmp .ne 11, 3) := by decide +kernel
theorem dX11_stay_17 : decode cX11_stay 17 = .ok (.aload_n 0, 1) := by decide +kernel
theorem dX11_stay_18 : decode cX11_stay 18 = .ok (.iconst 1, 1) := by decide +kernel
theorem dX11_stay_19 : decode cX11_stay 19 = .ok (.invokevirtual 114, 3) := by decide +kernel
theorem dX11_stay_22 : decode cX11_stay 22 = .ok (.pop, 1) := by decide +kernel
theorem dX11_stay_23 : decode cX11_stay 23 = .ok (.iconst 0, 1) := by decide +kernel
theorem dX11_stay_24 : decode cX11_stay 24 = .ok (.ireturn, 1) := by decide +kernel
theorem dX11_stay_25 : decode cX11_stay 25 = .ok (.aload_n 0, 1) := by decide +kernel
theorem dX11_stay_26 : decode cX11_stay 26 = .ok (.getfield 54, 3) := by decide +kernel
theorem dX11_stay_29 : decode cX11_stay 29 = .ok (.aload_n 0, 1) := by decide +kernel
theorem dX11_stay_30 : decode cX11_stay 30 = .ok (.getfield 44, 3) := by decide +kernel
theorem dX11_stay_33 : decode cX11_stay 33 = .ok (.invokevirtual 207, 3) := by decide +kernel
theorem dX11_stay_36 : decode cX11_stay 36 = .ok (.aload_n 0, 1) := by decide +kernel
theorem dX11_stay_37 : decode cX11_stay 37 = .ok (.getfield 44, 3) := by decide +kernel
theorem dX11_stay_40 : decode cX11_stay 40 = .ok (.iload_n 1, 1) := by decide +kernel
theorem dX11_stay_41 : decode cX11_stay 41 = .ok (.iload_n 2, 1) := by decide +kernel
theorem dX11_stay_42 : decode cX11_stay 42 = .ok (.invokevirtual 221, 3) := by decide +kernel
theorem dX11_stay_45 : decode cX11_stay 45 = .ok (.iconst 1, 1) := by decide +kernel
theorem dX11_stay_46 : decode cX11_stay 46 = .ok (.ireturn, 1) := by decide +kernel
theorem dX11_undo_0 : decode cX11_undo 0 = .ok (.aload_n 0, 1) := by decide +kernel
theorem dX11_undo_1 : decode cX11_undo 1 = .ok (.getfield 54, 3) := by decide +kernel
theorem dX11_undo_4 : decode cX11_undo 4 = .ok (.aload_n 0, 1) := by decide +kernel
theorem dX11_undo_5 : decode cX11_undo 5 = .ok (.getfield 44, 3) := by decide +kernel
theorem dX11_undo_8 : decode cX11_undo 8 = .ok (.invokevirtual 225, 3) := by decide +kernel
theorem dX11_undo_11 : decode cX11_undo 11 = .ok (.ifCond .eq 13, 3) := by decide +kernel
theorem dX11_undo_14 : decode cX11_undo 14 = .ok (.aload_n 0, 1) := by decide +kernel
theorem dX11_undo_15 : decode cX11_undo 15 = .ok (.getfield 54, 3) := by decide +kernel
theorem dX11_undo_18 : decode cX11_undo 18 = .ok (.getfield 168, 3) := by decide +kernel
theorem dX11_undo_21 : decode cX11_undo 21 = .ok (.goto 4, 3) := by decide +kernel
theorem dX11_undo_24 : decode cX11_undo 24 = .ok (.iconst (-1), 1) := by decide +kernel
theorem dX11_undo_25 : decode cX11_undo 25 = .ok (.ireturn, 1) := by decide +kernel
theorem dX11_then_0 : decode cX11_then 0 = .ok (.aload_n 0, 1) := by decide +kernel
theorem dX11_then_1 : decode cX11_then 1 = .ok (.iload_n 1, 1) := by decide +kernel
theorem dX11_then_2 : decode cX11_then 2 = .ok (.invokevirtual 176, 3) := by decide +kernel
theorem dX11_then_5 : decode cX11_then 5 = .ok (.aload_n 0, 1) := by decide +kernel
theorem dX11_then_6 : decode cX11_then 6 = .ok (.iload_n 3, 1) := by decide +kernel
theorem dX11_then_7 : decode cX11_then 7 = .ok (.iconst 2, 1) := by decide +kernel
theorem dX11_then_8 : decode cX11_then 8 = .ok (.invokevirtual 133, 3) := by decide +kernel
theorem dX11_then_11 : decode cX11_then 11 = .ok (.aload_n 0, 1) := by decide +kernel
theorem dX11_then_12 : decode cX11_then 12 = .ok (.iload_n 2, 1) := by decide +kernel
theorem dX11_then_13 : decode cX11_then 13 = .ok (.iconst 0, 1) := by decide +kernel
theorem dX11_then_14 : decode cX11_then 14 = .ok (.bipush 60, 2) := by decide +kernel
theorem dX11_then_16 : decode cX11_then 16 = .ok (.invokevirtual 229, 3) := by decide +kernel
theorem dX11_then_19 : decode cX11_then 19 = .ok (.aload_n 0, 1) := by decide +kernel
theorem dX11_then_20 : decode cX11_then 20 = .ok (.invokevirtual 233, 3) := by decide +kernel
theorem dX11_then_23 : decode cX11_then 23 = .ok (.aload_n 0, 1) := by decide +kernel
theorem dX11_then_24 : decode cX11_then 24 = .ok (.getfield 37, 3) := by decide +kernel
theorem dX11_then_27 : decode cX11_then 27 = .ok (.aload_n 0, 1) := by decide +kernel
theorem dX11_then_28 : decode cX11_then 28 = .ok (.getfield 23, 3) := by decide +kernel
theorem dX11_then_31 : decode cX11_then 31 = .ok (.aload_n 0, 1) := by decide +kernel
theorem dX11_then_32 : decode cX11_then 32 = .ok (.getfield 48, 3) := by decide +kernel
theorem dX11_then_35 : decode cX11_then 35 = .ok (.iload_n 2, 1) := by decide +kernel
theorem dX11_then_36 : decode cX11_then 36 = .ok (.invokevirtual 211, 3) := by decide +kernel
theorem dX11_then_39 : decode cX11_then 39 = .ok (.iload_n 3, 1) := by decide +kernel
theorem dX11_then_40 : decode cX11_then 40 = .ok (.ifCond .ne 14, 3) := by decide +kernel
theorem dX11_then_43 : decode cX11_then 43 = .ok (.aload_n 0, 1) := by decide +kernel
theorem dX11_then_44 : decode cX11_then 44 = .ok (.getfield 48, 3) := by decide +kernel
theorem dX11_then_47 : decode cX11_then 47 = .ok (.iload_n 1, 1) := by decide +kernel
theorem dX11_then_48 : decode cX11_then 48 = .ok (.invokevirtual 179, 3) := by decide +kernel
theorem dX11_then_51 : decode cX11_then 51 = .ok (.goto 11, 3) := by decide +kernel
theorem dX11_then_54 : decode cX11_then 54 = .ok (.aload_n 0, 1) := by decide +kernel
theorem dX11_then_55 : decode cX11_then 55 = .ok (.getfield 48, 3) := by decide +kernel
theorem dX11_then_58 : decode cX11_then 58 = .ok (.iload_n 1, 1) := by decide +kernel
theorem dX11_then_59 : decode cX11_then 59 = .ok (.invokevirtual 194, 3) := by decide +kernel
theorem dX11_then_62 : decode cX11_then 62 = .ok (.ireturn, 1) := by decide +kernel
theorem dX11_asked_0 : decode cX11_asked 0 = .ok (.aload_n 0, 1) := by decide +kernel
theorem dX11_asked_1 : decode cX11_asked 1 = .ok (.iload_n 1, 1) := by decide +kernel
theorem dX11_asked_2 : decode cX11_asked 2 = .ok (.invokevirtual 176, 3) := by decide +kernel
theorem dX11_asked_5 : decode cX11_asked 5 = .ok (.aload_n 0, 1) := by decide +kernel
theorem dX11_asked_6 : decode cX11_asked 6 = .ok (.iload_n 2, 1) := by decide +kernel
theorem dX11_asked_7 : decode cX11_asked 7 = .ok (.iconst 1, 1) := by decide +kernel
theorem dX11_asked_8 : decode cX11_asked 8 = .ok (.bipush 60, 2) := by decide +kernel
theorem dX11_asked_10 : decode cX11_asked 10 = .ok (.invokevirtual 229, 3) := by decide +kernel
theorem dX11_asked_13 : decode cX11_asked 13 = .ok (.aload_n 0, 1) := by decide +kernel
theorem dX11_asked_14 : decode cX11_asked 14 = .ok (.invokevirtual 233, 3) := by decide +kernel
theorem dX11_asked_17 : decode cX11_asked 17 = .ok (.aload_n 0, 1) := by decide +kernel
theorem dX11_asked_18 : decode cX11_asked 18 = .ok (.getfield 37, 3) := by decide +kernel
theorem dX11_asked_21 : decode cX11_asked 21 = .ok (.aload_n 0, 1) := by decide +kernel
theorem dX11_asked_22 : decode cX11_asked 22 = .ok (.getfield 23, 3) := by decide +kernel
theorem dX11_asked_25 : decode cX11_asked 25 = .ok (.aload_n 0, 1) := by decide +kernel
theorem dX11_asked_26 : decode cX11_asked 26 = .ok (.getfield 48, 3) := by decide +kernel
theorem dX11_asked_29 : decode cX11_asked 29 = .ok (.iload_n 2, 1) := by decide +kernel
theorem dX11_asked_30 : decode cX11_asked 30 = .ok (.invokevirtual 211, 3) := by decide +kernel
theorem dX11_asked_33 : decode cX11_asked 33 = .ok (.aload_n 0, 1) := by decide +kernel
theorem dX11_asked_34 : decode cX11_asked 34 = .ok (.getfield 37, 3) := by decide +kernel
theorem dX11_asked_37 : decode cX11_asked 37 = .ok (.iload_n 1, 1) := by decide +kernel
theorem dX11_asked_38 : decode cX11_asked 38 = .ok (.invokevirtual 236, 3) := by decide +kernel
theorem dX11_asked_41 : decode cX11_asked 41 = .ok (.ireturn, 1) := by decide +kernel
theorem dX11_spent_0 : decode cX11_spent 0 = .ok (.aload_n 0, 1) := by decide +kernel
theorem dX11_spent_1 : decode cX11_spent 1 = .ok (.iload_n 1, 1) := by decide +kernel
theorem dX11_spent_2 : decode cX11_spent 2 = .ok (.invokevirtual 176, 3) := by decide +kernel
theorem dX11_spent_5 : decode cX11_spent 5 = .ok (.aload_n 0, 1) := by decide +kernel
theorem dX11_spent_6 : decode cX11_spent 6 = .ok (.invokevirtual 233, 3) := by decide +kernel
theorem dX11_spent_9 : decode cX11_spent 9 = .ok (.iconst 0, 1) := by decide +kernel
theorem dX11_spent_10 : decode cX11_spent 10 = .ok (.istore_n 2, 1) := by decide +kernel
theorem dX11_spent_11 : decode cX11_spent 11 = .ok (.iload_n 2, 1) := by decide +kernel
theorem dX11_spent_12 : decode cX11_spent 12 = .ok (.bipush 60, 2) := by decide +kernel
theorem dX11_spent_14 : decode cX11_spent 14 = .ok (.if_icmp .ge 38, 3) := by decide +kernel
theorem dX11_spent_17 : decode cX11_spent 17 = .ok (.aload_n 0, 1) := by decide +kernel
theorem dX11_spent_18 : decode cX11_spent 18 = .ok (.getfield 48, 3) := by decide +kernel
theorem dX11_spent_21 : decode cX11_spent 21 = .ok (.iload_n 1, 1) := by decide +kernel
theorem dX11_spent_22 : decode cX11_spent 22 = .ok (.invokevirtual 239, 3) := by decide +kernel
theorem dX11_spent_25 : decode cX11_spent 25 = .ok (.ifCond .eq 5, 3) := by decide +kernel
theorem dX11_spent_28 : decode cX11_spent 28 = .ok (.iload_n 2, 1) := by decide +kernel
theorem dX11_spent_29 : decode cX11_spent 29 = .ok (.ireturn, 1) := by decide +kernel
theorem dX11_spent_30 : decode cX11_spent 30 = .ok (.aload_n 0, 1) := by decide +kernel
theorem dX11_spent_31 : decode cX11_spent 31 = .ok (.getfield 37, 3) := by decide +kernel
theorem dX11_spent_34 : decode cX11_spent 34 = .ok (.aload_n 0, 1) := by decide +kernel
theorem dX11_spent_35 : decode cX11_spent 35 = .ok (.getfield 23, 3) := by decide +kernel
theorem dX11_spent_38 : decode cX11_spent 38 = .ok (.aload_n 0, 1) := by decide +kernel
theorem dX11_spent_39 : decode cX11_spent 39 = .ok (.getfield 48, 3) := by decide +kernel
theorem dX11_spent_42 : decode cX11_spent 42 = .ok (.iconst 1, 1) := by decide +kernel
theorem dX11_spent_43 : decode cX11_spent 43 = .ok (.invokevirtual 211, 3) := by decide +kernel
theorem dX11_spent_46 : decode cX11_spent 46 = .ok (.iinc 2 1, 3) := by decide +kernel
theorem dX11_spent_49 : decode cX11_spent 49 = .ok (.goto (-38), 3) := by decide +kernel
theorem dX11_spent_52 : decode cX11_spent 52 = .ok (.aload_n 0, 1) := by decide +kernel
theorem dX11_spent_53 : decode cX11_spent 53 = .ok (.getfield 48, 3) := by decide +kernel
theorem dX11_spent_56 : decode cX11_spent 56 = .ok (.iload_n 1, 1) := by decide +kernel
theorem dX11_spent_57 : decode cX11_spent 57 = .ok (.invokevirtual 239, 3) := by decide +kernel
theorem dX11_spent_60 : decode cX11_spent 60 = .ok (.ifCond .eq 8, 3) := by decide +kernel
theorem dX11_spent_63 : decode cX11_spent 63 = .ok (.bipush 60, 2) := by decide +kernel
theorem dX11_spent_65 : decode cX11_spent 65 = .ok (.goto 4, 3) := by decide +kernel
theorem dX11_spent_68 : decode cX11_spent 68 = .ok (.iconst (-1), 1) := by decide +kernel
theorem dX11_spent_69 : decode cX11_spent 69 = .ok (.ireturn, 1) := by decide +kernel
theorem dX11_later_0 : decode cX11_later 0 = .ok (.aload_n 0, 1) := by decide +kernel
theorem dX11_later_1 : decode cX11_later 1 = .ok (.iload_n 2, 1) := by decide +kernel
theorem dX11_later_2 : decode cX11_later 2 = .ok (.iconst 5, 1) := by decide +kernel
theorem dX11_later_3 : decode cX11_later 3 = .ok (.invokevirtual 133, 3) := by decide +kernel
theorem dX11_later_6 : decode cX11_later 6 = .ok (.aload_n 0, 1) := by decide +kernel
theorem dX11_later_7 : decode cX11_later 7 = .ok (.iload_n 1, 1) := by decide +kernel
theorem dX11_later_8 : decode cX11_later 8 = .ok (.iconst 0, 1) := by decide +kernel
theorem dX11_later_9 : decode cX11_later 9 = .ok (.bipush 60, 2) := by decide +kernel
theorem dX11_later_11 : decode cX11_later 11 = .ok (.invokevirtual 229, 3) := by decide +kernel
theorem dX11_later_14 : decode cX11_later 14 = .ok (.aload_n 0, 1) := by decide +kernel
theorem dX11_later_15 : decode cX11_later 15 = .ok (.invokevirtual 233, 3) := by decide +kernel
theorem dX11_later_18 : decode cX11_later 18 = .ok (.aload_n 0, 1) := by decide +kernel
theorem dX11_later_19 : decode cX11_later 19 = .ok (.getfield 37, 3) := by decide +kernel
theorem dX11_later_22 : decode cX11_later 22 = .ok (.aload_n 0, 1) := by decide +kernel
theorem dX11_later_23 : decode cX11_later 23 = .ok (.getfield 23, 3) := by decide +kernel
theorem dX11_later_26 : decode cX11_later 26 = .ok (.aload_n 0, 1) := by decide +kernel
theorem dX11_later_27 : decode cX11_later 27 = .ok (.getfield 48, 3) := by decide +kernel
theorem dX11_later_30 : decode cX11_later 30 = .ok (.iload_n 1, 1) := by decide +kernel
theorem dX11_later_31 : decode cX11_later 31 = .ok (.invokevirtual 211, 3) := by decide +kernel
theorem dX11_later_34 : decode cX11_later 34 = .ok (.iload_n 2, 1) := by decide +kernel
theorem dX11_later_35 : decode cX11_later 35 = .ok (.tableswitch 75 0 3 #[29, 37, 52, 67], 29) := by decide +kernel
theorem dX11_later_64 : decode cX11_later 64 = .ok (.aload_n 0, 1) := by decide +kernel
theorem dX11_later_65 : decode cX11_later 65 = .ok (.getfield 48, 3) := by decide +kernel
theorem dX11_later_68 : decode cX11_later 68 = .ok (.invokevirtual 155, 3) := by decide +kernel
theorem dX11_later_71 : decode cX11_later 71 = .ok (.ireturn, 1) := by decide +kernel
theorem dX11_later_72 : decode cX11_later 72 = .ok (.aload_n 0, 1) := by decide +kernel
theorem dX11_later_73 : decode cX11_later 73 = .ok (.getfield 48, 3) := by decide +kernel
theorem dX11_later_76 : decode cX11_later 76 = .ok (.aload_n 0, 1) := by decide +kernel
theorem dX11_later_77 : decode cX11_later 77 = .ok (.getfield 48, 3) := by decide +kernel
theorem dX11_later_80 : decode cX11_later 80 = .ok (.invokevirtual 155, 3) := by decide +kernel
theorem dX11_later_83 : decode cX11_later 83 = .ok (.invokevirtual 242, 3) := by decide +kernel
theorem dX11_later_86 : decode cX11_later 86 = .ok (.ireturn, 1) := by decide +kernel
theorem dX11_later_87 : decode cX11_later 87 = .ok (.aload_n 0, 1) := by decide +kernel
theorem dX11_later_88 : decode cX11_later 88 = .ok (.getfield 48, 3) := by decide +kernel
theorem dX11_later_91 : decode cX11_later 91 = .ok (.aload_n 0, 1) := by decide +kernel
theorem dX11_later_92 : decode cX11_later 92 = .ok (.getfield 48, 3) := by decide +kernel
theorem dX11_later_95 : decode cX11_later 95 = .ok (.invokevirtual 155, 3) := by decide +kernel
theorem dX11_later_98 : decode cX11_later 98 = .ok (.invokevirtual 245, 3) := by decide +kernel
theorem dX11_later_101 : decode cX11_later 101 = .ok (.ireturn, 1) := by decide +kernel
theorem dX11_later_102 : decode cX11_later 102 = .ok (.aload_n 0, 1) := by decide +kernel
theorem dX11_later_103 : decode cX11_later 103 = .ok (.getfield 48, 3) := by decide +kernel
theorem dX11_later_106 : decode cX11_later 106 = .ok (.invokevirtual 162, 3) := by decide +kernel
theorem dX11_later_109 : decode cX11_later 109 = .ok (.ireturn, 1) := by decide +kernel
theorem dX11_later_110 : decode cX11_later 110 = .ok (.aload_n 0, 1) := by decide +kernel
theorem dX11_later_111 : decode cX11_later 111 = .ok (.getfield 37, 3) := by decide +kernel
theorem dX11_later_114 : decode cX11_later 114 = .ok (.getfield 248, 3) := by decide +kernel
theorem dX11_later_117 : decode cX11_later 117 = .ok (.ireturn, 1) := by decide +kernel
theorem dX11_busiest_0 : decode cX11_busiest 0 = .ok (.aload_n 0, 1) := by decide +kernel
theorem dX11_busiest_1 : decode cX11_busiest 1 = .ok (.iload_n 1, 1) := by decide +kernel
theorem dX11_busiest_2 : decode cX11_busiest 2 = .ok (.iconst 1, 1) := by decide +kernel
theorem dX11_busiest_3 : decode cX11_busiest 3 = .ok (.bipush 60, 2) := by decide +kernel
theorem dX11_busiest_5 : decode cX11_busiest 5 = .ok (.invokevirtual 229, 3) := by decide +kernel
theorem dX11_busiest_8 : decode cX11_busiest 8 = .ok (.aload_n 0, 1) := by decide +kernel
theorem dX11_busiest_9 : decode cX11_busiest 9 = .ok (.invokevirtual 233, 3) := by decide +kernel
theorem dX11_busiest_12 : decode cX11_busiest 12 = .ok (.aload_n 0, 1) := by decide +kernel
theorem dX11_busiest_13 : decode cX11_busiest 13 = .ok (.getfield 37, 3) := by decide +kernel
theorem dX11_busiest_16 : decode cX11_busiest 16 = .ok (.aload_n 0, 1) := by decide +kernel
theorem dX11_busiest_17 : decode cX11_busiest 17 = .ok (.getfield 23, 3) := by decide +kernel
theorem dX11_busiest_20 : decode cX11_busiest 20 = .ok (.aload_n 0, 1) := by decide +kernel
theorem dX11_busiest_21 : decode cX11_busiest 21 = .ok (.getfield 48, 3) := by decide +kernel
theorem dX11_busiest_24 : decode cX11_busiest 24 = .ok (.iload_n 1, 1) := by decide +kernel
theorem dX11_busiest_25 : decode cX11_busiest 25 = .ok (.invokevirtual 211, 3) := by decide +kernel
theorem dX11_busiest_28 : decode cX11_busiest 28 = .ok (.iconst (-1), 1) := by decide +kernel
theorem dX11_busiest_29 : decode cX11_busiest 29 = .ok (.istore_n 2, 1) := by decide +kernel
theorem dX11_busiest_30 : decode cX11_busiest 30 = .ok (.iconst (-1), 1) := by decide +kernel
theorem dX11_busiest_31 : decode cX11_busiest 31 = .ok (.istore_n 3, 1) := by decide +kernel
theorem dX11_busiest_32 : decode cX11_busiest 32 = .ok (.iconst 0, 1) := by decide +kernel
theorem dX11_busiest_33 : decode cX11_busiest 33 = .ok (.istore 4, 2) := by decide +kernel
theorem dX11_busiest_35 : decode cX11_busiest 35 = .ok (.iload 4, 2) := by decide +kernel
theorem dX11_busiest_37 : decode cX11_busiest 37 = .ok (.aload_n 0, 1) := by decide +kernel
theorem dX11_busiest_38 : decode cX11_busiest 38 = .ok (.getfield 23, 3) := by decide +kernel
theorem dX11_busiest_41 : decode cX11_busiest 41 = .ok (.getfield 143, 3) := by decide +kernel
theorem dX11_busiest_44 : decode cX11_busiest 44 = .ok (.if_icmp .ge 35, 3) := by decide +kernel
theorem dX11_busiest_47 : decode cX11_busiest 47 = .ok (.aload_n 0, 1) := by decide +kernel
theorem dX11_busiest_48 : decode cX11_busiest 48 = .ok (.getfield 37, 3) := by decide +kernel
theorem dX11_busiest_51 : decode cX11_busiest 51 = .ok (.iload 4, 2) := by decide +kernel
theorem dX11_busiest_53 : decode cX11_busiest 53 = .ok (.invokevirtual 251, 3) := by decide +kernel
theorem dX11_busiest_56 : decode cX11_busiest 56 = .ok (.iload_n 3, 1) := by decide +kernel
theorem dX11_busiest_57 : decode cX11_busiest 57 = .ok (.if_icmp .le 16, 3) := by decide +kernel
theorem dX11_busiest_60 : decode cX11_busiest 60 = .ok (.aload_n 0, 1) := by decide +kernel
theorem dX11_busiest_61 : decode cX11_busiest 61 = .ok (.getfield 37, 3) := by decide +kernel
theorem dX11_busiest_64 : decode cX11_busiest 64 = .ok (.iload 4, 2) := by decide +kernel
theorem dX11_busiest_66 : decode cX11_busiest 66 = .ok (.invokevirtual 251, 3) := by decide +kernel
theorem dX11_busiest_69 : decode cX11_busiest 69 = .ok (.istore_n 3, 1) := by decide +kernel
theorem dX11_busiest_70 : decode cX11_busiest 70 = .ok (.iload 4, 2) := by decide +kernel
theorem dX11_busiest_72 : decode cX11_busiest 72 = .ok (.istore_n 2, 1) := by decide +kernel
theorem dX11_busiest_73 : decode cX11_busiest 73 = .ok (.iinc 4 1, 3) := by decide +kernel
theorem dX11_busiest_76 : decode cX11_busiest 76 = .ok (.goto (-41), 3) := by decide +kernel
theorem dX11_busiest_79 : decode cX11_busiest 79 = .ok (.iload_n 2, 1) := by decide +kernel
theorem dX11_busiest_80 : decode cX11_busiest 80 = .ok (.ireturn, 1) := by decide +kernel
theorem dX11_robbed_0 : decode cX11_robbed 0 = .ok (.aload_n 0, 1) := by decide +kernel
theorem dX11_robbed_1 : decode cX11_robbed 1 = .ok (.iload_n 1, 1) := by decide +kernel
theorem dX11_robbed_2 : decode cX11_robbed 2 = .ok (.invokevirtual 176, 3) := by decide +kernel
theorem dX11_robbed_5 : decode cX11_robbed 5 = .ok (.aload_n 0, 1) := by decide +kernel
theorem dX11_robbed_6 : decode cX11_robbed 6 = .ok (.iload_n 2, 1) := by decide +kernel
theorem dX11_robbed_7 : decode cX11_robbed 7 = .ok (.invokevirtual 176, 3) := by decide +kernel
theorem dX11_robbed_10 : decode cX11_robbed 10 = .ok (.aload_n 0, 1) := by decide +kernel
theorem dX11_robbed_11 : decode cX11_robbed 11 = .ok (.iload_n 3, 1) := by decide +kernel
theorem dX11_robbed_12 : decode cX11_robbed 12 = .ok (.iconst 0, 1) := by decide +kernel
theorem dX11_robbed_13 : decode cX11_robbed 13 = .ok (.bipush 60, 2) := by decide +kernel
theorem dX11_robbed_15 : decode cX11_robbed 15 = .ok (.invokevirtual 229, 3) := by decide +kernel
theorem dX11_robbed_18 : decode cX11_robbed 18 = .ok (.aload_n 0, 1) := by decide +kernel
theorem dX11_robbed_19 : decode cX11_robbed 19 = .ok (.invokevirtual 233, 3) := by decide +kernel
theorem dX11_robbed_22 : decode cX11_robbed 22 = .ok (.aload_n 0, 1) := by decide +kernel
theorem dX11_robbed_23 : decode cX11_robbed 23 = .ok (.getfield 37, 3) := by decide +kernel
theorem dX11_robbed_26 : decode cX11_robbed 26 = .ok (.aload_n 0, 1) := by decide +kernel
theorem dX11_robbed_27 : decode cX11_robbed 27 = .ok (.getfield 23, 3) := by decide +kernel
theorem dX11_robbed_30 : decode cX11_robbed 30 = .ok (.aload_n 0, 1) := by decide +kernel
theorem dX11_robbed_31 : decode cX11_robbed 31 = .ok (.getfield 48, 3) := by decide +kernel
theorem dX11_robbed_34 : decode cX11_robbed 34 = .ok (.iload_n 3, 1) := by decide +kernel
theorem dX11_robbed_35 : decode cX11_robbed 35 = .ok (.invokevirtual 211, 3) := by decide +kernel
theorem dX11_robbed_38 : decode cX11_robbed 38 = .ok (.aload_n 0, 1) := by decide +kernel
theorem dX11_robbed_39 : decode cX11_robbed 39 = .ok (.getfield 37, 3) := by decide +kernel
theorem dX11_robbed_42 : decode cX11_robbed 42 = .ok (.iload_n 1, 1) := by decide +kernel
theorem dX11_robbed_43 : decode cX11_robbed 43 = .ok (.iload_n 2, 1) := by decide +kernel
theorem dX11_robbed_44 : decode cX11_robbed 44 = .ok (.invokevirtual 254, 3) := by decide +kernel
theorem dX11_robbed_47 : decode cX11_robbed 47 = .ok (.ireturn, 1) := by decide +kernel
theorem dX11_gained_0 : decode cX11_gained 0 = .ok (.aload_n 0, 1) := by decide +kernel
theorem dX11_gained_1 : decode cX11_gained 1 = .ok (.iload_n 1, 1) := by decide +kernel
theorem dX11_gained_2 : decode cX11_gained 2 = .ok (.invokevirtual 176, 3) := by decide +kernel
theorem dX11_gained_5 : decode cX11_gained 5 = .ok (.aload_n 0, 1) := by decide +kernel
theorem dX11_gained_6 : decode cX11_gained 6 = .ok (.iload_n 2, 1) := by decide +kernel
theorem dX11_gained_7 : decode cX11_gained 7 = .ok (.iconst 0, 1) := by decide +kernel
theorem dX11_gained_8 : decode cX11_gained 8 = .ok (.bipush 60, 2) := by decide +kernel
theorem dX11_gained_10 : decode cX11_gained 10 = .ok (.invokevirtual 229, 3) := by decide +kernel
theorem dX11_gained_13 : decode cX11_gained 13 = .ok (.aload_n 0, 1) := by decide +kernel
theorem dX11_gained_14 : decode cX11_gained 14 = .ok (.invokevirtual 233, 3) := by decide +kernel
theorem dX11_gained_17 : decode cX11_gained 17 = .ok (.aload_n 0, 1) := by decide +kernel
theorem dX11_gained_18 : decode cX11_gained 18 = .ok (.getfield 37, 3) := by decide +kernel
theorem dX11_gained_21 : decode cX11_gained 21 = .ok (.aload_n 0, 1) := by decide +kernel
theorem dX11_gained_22 : decode cX11_gained 22 = .ok (.getfield 23, 3) := by decide +kernel
theorem dX11_gained_25 : decode cX11_gained 25 = .ok (.aload_n 0, 1) := by decide +kernel
theorem dX11_gained_26 : decode cX11_gained 26 = .ok (.getfield 48, 3) := by decide +kernel
theorem dX11_gained_29 : decode cX11_gained 29 = .ok (.iload_n 2, 1) := by decide +kernel
theorem dX11_gained_30 : decode cX11_gained 30 = .ok (.invokevirtual 211, 3) := by decide +kernel
theorem dX11_gained_33 : decode cX11_gained 33 = .ok (.aload_n 0, 1) := by decide +kernel
theorem dX11_gained_34 : decode cX11_gained 34 = .ok (.getfield 48, 3) := by decide +kernel
theorem dX11_gained_37 : decode cX11_gained 37 = .ok (.iload_n 1, 1) := by decide +kernel
theorem dX11_gained_38 : decode cX11_gained 38 = .ok (.invokevirtual 179, 3) := by decide +kernel
theorem dX11_gained_41 : decode cX11_gained 41 = .ok (.aload_n 0, 1) := by decide +kernel
theorem dX11_gained_42 : decode cX11_gained 42 = .ok (.getfield 44, 3) := by decide +kernel
theorem dX11_gained_45 : decode cX11_gained 45 = .ok (.iload_n 1, 1) := by decide +kernel
theorem dX11_gained_46 : decode cX11_gained 46 = .ok (.invokevirtual 179, 3) := by decide +kernel
theorem dX11_gained_49 : decode cX11_gained 49 = .ok (.isub, 1) := by decide +kernel
theorem dX11_gained_50 : decode cX11_gained 50 = .ok (.ireturn, 1) := by decide +kernel
theorem dX11_shows_0 : decode cX11_shows 0 = .ok (.aload_n 0, 1) := by decide +kernel
theorem dX11_shows_1 : decode cX11_shows 1 = .ok (.iload_n 1, 1) := by decide +kernel
theorem dX11_shows_2 : decode cX11_shows 2 = .ok (.invokevirtual 176, 3) := by decide +kernel
theorem dX11_shows_5 : decode cX11_shows 5 = .ok (.aload_n 0, 1) := by decide +kernel
theorem dX11_shows_6 : decode cX11_shows 6 = .ok (.iload_n 2, 1) := by decide +kernel
theorem dX11_shows_7 : decode cX11_shows 7 = .ok (.iconst 1, 1) := by decide +kernel
theorem dX11_shows_8 : decode cX11_shows 8 = .ok (.bipush 60, 2) := by decide +kernel
theorem dX11_shows_10 : decode cX11_shows 10 = .ok (.invokevirtual 229, 3) := by decide +kernel
theorem dX11_shows_13 : decode cX11_shows 13 = .ok (.aload_n 0, 1) := by decide +kernel
theorem dX11_shows_14 : decode cX11_shows 14 = .ok (.getfield 44, 3) := by decide +kernel
theorem dX11_shows_17 : decode cX11_shows 17 = .ok (.getfield 152, 3) := by decide +kernel
theorem dX11_shows_20 : decode cX11_shows 20 = .ok (.ifCond .eq 7, 3) := by decide +kernel
theorem dX11_shows_23 : decode cX11_shows 23 = .ok (.iconst 0, 1) := by decide +kernel
theorem dX11_shows_24 : decode cX11_shows 24 = .ok (.goto 8, 3) := by decide +kernel
theorem dX11_shows_27 : decode cX11_shows 27 = .ok (.iconst 5, 1) := by decide +kernel
theorem dX11_shows_28 : decode cX11_shows 28 = .ok (.iload_n 2, 1) := by decide +kernel
theorem dX11_shows_29 : decode cX11_shows 29 = .ok (.iconst 1, 1) := by decide +kernel
theorem dX11_shows_30 : decode cX11_shows 30 = .ok (.isub, 1) := by decide +kernel
theorem dX11_shows_31 : decode cX11_shows 31 = .ok (.imul, 1) := by decide +kernel
theorem dX11_shows_32 : decode cX11_shows 32 = .ok (.istore_n 3, 1) := by decide +kernel
theorem dX11_shows_33 : decode cX11_shows 33 = .ok (.aload_n 0, 1) := by decide +kernel
theorem dX11_shows_34 : decode cX11_shows 34 = .ok (.getfield 44, 3) := by decide +kernel
theorem dX11_shows_37 : decode cX11_shows 37 = .ok (.iload_n 1, 1) := by decide +kernel
theorem dX11_shows_38 : decode cX11_shows 38 = .ok (.invokevirtual 185, 3) := by decide +kernel
theorem dX11_shows_41 : decode cX11_shows 41 = .ok (.iload_n 3, 1) := by decide +kernel
theorem dX11_shows_42 : decode cX11_shows 42 = .ok (.iadd, 1) := by decide +kernel
theorem dX11_shows_43 : decode cX11_shows 43 = .ok (.bipush 60, 2) := by decide +kernel
theorem dX11_shows_45 : decode cX11_shows 45 = .ok (.invokestatic 257, 3) := by decide +kernel
theorem dX11_shows_48 : decode cX11_shows 48 = .ok (.ireturn, 1) := by decide +kernel
theorem dX11_alike_0 : decode cX11_alike 0 = .ok (.iconst 0, 1) := by decide +kernel
theorem dX11_alike_1 : decode cX11_alike 1 = .ok (.istore_n 1, 1) := by decide +kernel
theorem dX11_alike_2 : decode cX11_alike 2 = .ok (.iconst 0, 1) := by decide +kernel
theorem dX11_alike_3 : decode cX11_alike 3 = .ok (.istore_n 2, 1) := by decide +kernel
theorem dX11_alike_4 : decode cX11_alike 4 = .ok (.iload_n 2, 1) := by decide +kernel
theorem dX11_alike_5 : decode cX11_alike 5 = .ok (.aload_n 0, 1) := by decide +kernel
theorem dX11_alike_6 : decode cX11_alike 6 = .ok (.getfield 23, 3) := by decide +kernel
theorem dX11_alike_9 : decode cX11_alike 9 = .ok (.getfield 143, 3) := by decide +kernel
theorem dX11_alike_12 : decode cX11_alike 12 = .ok (.if_icmp .ge 52, 3) := by decide +kernel
theorem dX11_alike_15 : decode cX11_alike 15 = .ok (.iload_n 2, 1) := by decide +kernel
theorem dX11_alike_16 : decode cX11_alike 16 = .ok (.iconst 1, 1) := by decide +kernel
theorem dX11_alike_17 : decode cX11_alike 17 = .ok (.iadd, 1) := by decide +kernel
theorem dX11_alike_18 : decode cX11_alike 18 = .ok (.istore_n 3, 1) := by decide +kernel
theorem dX11_alike_19 : decode cX11_alike 19 = .ok (.iload_n 3, 1) := by decide +kernel
theorem dX11_alike_20 : decode cX11_alike 20 = .ok (.aload_n 0, 1) := by decide +kernel
theorem dX11_alike_21 : decode cX11_alike 21 = .ok (.getfield 23, 3) := by decide +kernel
theorem dX11_alike_24 : decode cX11_alike 24 = .ok (.getfield 143, 3) := by decide +kernel
theorem dX11_alike_27 : decode cX11_alike 27 = .ok (.if_icmp .ge 31, 3) := by decide +kernel
theorem dX11_alike_30 : decode cX11_alike 30 = .ok (.aload_n 0, 1) := by decide +kernel
theorem dX11_alike_31 : decode cX11_alike 31 = .ok (.getfield 44, 3) := by decide +kernel
theorem dX11_alike_34 : decode cX11_alike 34 = .ok (.iload_n 2, 1) := by decide +kernel
theorem dX11_alike_35 : decode cX11_alike 35 = .ok (.invokevirtual 185, 3) := by decide +kernel
theorem dX11_alike_38 : decode cX11_alike 38 = .ok (.aload_n 0, 1) := by decide +kernel
theorem dX11_alike_39 : decode cX11_alike 39 = .ok (.getfield 44, 3) := by decide +kernel
theorem dX11_alike_42 : decode cX11_alike 42 = .ok (.iload_n 3, 1) := by decide +kernel
theorem dX11_alike_43 : decode cX11_alike 43 = .ok (.invokevirtual 185, 3) := by decide +kernel
theorem dX11_alike_46 : decode cX11_alike 46 = .ok (.if_icmp .ne 6, 3) := by decide +kernel
theorem dX11_alike_49 : decode cX11_alike 49 = .ok (.iinc 1 1, 3) := by decide +kernel
theorem dX11_alike_52 : decode cX11_alike 52 = .ok (.iinc 3 1, 3) := by decide +kernel
theorem dX11_alike_55 : decode cX11_alike 55 = .ok (.goto (-36), 3) := by decide +kernel
theorem dX11_alike_58 : decode cX11_alike 58 = .ok (.iinc 2 1, 3) := by decide +kernel
theorem dX11_alike_61 : decode cX11_alike 61 = .ok (.goto (-57), 3) := by decide +kernel
theorem dX11_alike_64 : decode cX11_alike 64 = .ok (.iload_n 1, 1) := by decide +kernel
theorem dX11_alike_65 : decode cX11_alike 65 = .ok (.ireturn, 1) := by decide +kernel
theorem dX11_silent_0 : decode cX11_silent 0 = .ok (.aload_n 0, 1) := by decide +kernel
theorem dX11_silent_1 : decode cX11_silent 1 = .ok (.iload_n 1, 1) := by decide +kernel
theorem dX11_silent_2 : decode cX11_silent 2 = .ok (.iconst 1, 1) := by decide +kernel
theorem dX11_silent_3 : decode cX11_silent 3 = .ok (.bipush 60, 2) := by decide +kernel
theorem dX11_silent_5 : decode cX11_silent 5 = .ok (.invokevirtual 229, 3) := by decide +kernel
theorem dX11_silent_8 : decode cX11_silent 8 = .ok (.aload_n 0, 1) := by decide +kernel
theorem dX11_silent_9 : decode cX11_silent 9 = .ok (.invokevirtual 233, 3) := by decide +kernel
theorem dX11_silent_12 : decode cX11_silent 12 = .ok (.aload_n 0, 1) := by decide +kernel
theorem dX11_silent_13 : decode cX11_silent 13 = .ok (.getfield 37, 3) := by decide +kernel
theorem dX11_silent_16 : decode cX11_silent 16 = .ok (.aload_n 0, 1) := by decide +kernel
theorem dX11_silent_17 : decode cX11_silent 17 = .ok (.getfield 23, 3) := by decide +kernel
theorem dX11_silent_20 : decode cX11_silent 20 = .ok (.aload_n 0, 1) := by decide +kernel
theorem dX11_silent_21 : decode cX11_silent 21 = .ok (.getfield 48, 3) := by decide +kernel
theorem dX11_silent_24 : decode cX11_silent 24 = .ok (.iload_n 1, 1) := by decide +kernel
theorem dX11_silent_25 : decode cX11_silent 25 = .ok (.invokevirtual 211, 3) := by decide +kernel
theorem dX11_silent_28 : decode cX11_silent 28 = .ok (.aload_n 0, 1) := by decide +kernel
theorem dX11_silent_29 : decode cX11_silent 29 = .ok (.getfield 37, 3) := by decide +kernel
theorem dX11_silent_32 : decode cX11_silent 32 = .ok (.getfield 262, 3) := by decide +kernel
theorem dX11_silent_35 : decode cX11_silent 35 = .ok (.ireturn, 1) := by decide +kernel
theorem dX11_meet_0 : decode cX11_meet 0 = .ok (.aload_n 0, 1) := by decide +kernel
theorem dX11_meet_1 : decode cX11_meet 1 = .ok (.iload_n 1, 1) := by decide +kernel
theorem dX11_meet_2 : decode cX11_meet 2 = .ok (.invokevirtual 176, 3) := by decide +kernel
theorem dX11_meet_5 : decode cX11_meet 5 = .ok (.aload_n 0, 1) := by decide +kernel
theorem dX11_meet_6 : decode cX11_meet 6 = .ok (.iload_n 2, 1) := by decide +kernel
theorem dX11_meet_7 : decode cX11_meet 7 = .ok (.invokevirtual 176, 3) := by decide +kernel
theorem dX11_meet_10 : decode cX11_meet 10 = .ok (.iload_n 1, 1) := by decide +kernel
theorem dX11_meet_11 : decode cX11_meet 11 = .ok (.iload_n 2, 1) := by decide +kernel
theorem dX11_meet_12 : decode cX11_meet 12 = .ok (.if_icmp .ne 5, 3) := by decide +kernel
theorem dX11_meet_15 : decode cX11_meet 15 = .ok (.iconst (-1), 1) := by decide +kernel
theorem dX11_meet_16 : decode cX11_meet 16 = .ok (.ireturn, 1) := by decide +kernel
theorem dX11_meet_17 : decode cX11_meet 17 = .ok (.iconst 1, 1) := by decide +kernel
theorem dX11_meet_18 : decode cX11_meet 18 = .ok (.istore_n 3, 1) := by decide +kernel
theorem dX11_meet_19 : decode cX11_meet 19 = .ok (.iload_n 3, 1) := by decide +kernel
theorem dX11_meet_20 : decode cX11_meet 20 = .ok (.bipush 60, 2) := by decide +kernel
theorem dX11_meet_22 : decode cX11_meet 22 = .ok (.if_icmp .gt 21, 3) := by decide +kernel
theorem dX11_meet_25 : decode cX11_meet 25 = .ok (.aload_n 0, 1) := by decide +kernel
theorem dX11_meet_26 : decode cX11_meet 26 = .ok (.iload_n 1, 1) := by decide +kernel
theorem dX11_meet_27 : decode cX11_meet 27 = .ok (.iload_n 2, 1) := by decide +kernel
theorem dX11_meet_28 : decode cX11_meet 28 = .ok (.iload_n 3, 1) := by decide +kernel
theorem dX11_meet_29 : decode cX11_meet 29 = .ok (.invokevirtual 265, 3) := by decide +kernel
theorem dX11_meet_32 : decode cX11_meet 32 = .ok (.ifCond .eq 5, 3) := by decide +kernel
theorem dX11_meet_35 : decode cX11_meet 35 = .ok (.iload_n 3, 1) := by decide +kernel
theorem dX11_meet_36 : decode cX11_meet 36 = .ok (.ireturn, 1) := by decide +kernel
theorem dX11_meet_37 : decode cX11_meet 37 = .ok (.iinc 3 1, 3) := by decide +kernel
theorem dX11_meet_40 : decode cX11_meet 40 = .ok (.goto (-21), 3) := by decide +kernel
theorem dX11_meet_43 : decode cX11_meet 43 = .ok (.iconst (-1), 1) := by decide +kernel
theorem dX11_meet_44 : decode cX11_meet 44 = .ok (.ireturn, 1) := by decide +kernel
theorem dX11_often_0 : decode cX11_often 0 = .ok (.aload_n 0, 1) := by decide +kernel
theorem dX11_often_1 : decode cX11_often 1 = .ok (.iload_n 1, 1) := by decide +kernel
theorem dX11_often_2 : decode cX11_often 2 = .ok (.invokevirtual 176, 3) := by decide +kernel
theorem dX11_often_5 : decode cX11_often 5 = .ok (.aload_n 0, 1) := by decide +kernel
theorem dX11_often_6 : decode cX11_often 6 = .ok (.iload_n 2, 1) := by decide +kernel
theorem dX11_often_7 : decode cX11_often 7 = .ok (.invokevirtual 176, 3) := by decide +kernel
theorem dX11_often_10 : decode cX11_often 10 = .ok (.aload_n 0, 1) := by decide +kernel
theorem dX11_often_11 : decode cX11_often 11 = .ok (.iload_n 3, 1) := by decide +kernel
theorem dX11_often_12 : decode cX11_often 12 = .ok (.iconst 1, 1) := by decide +kernel
theorem dX11_often_13 : decode cX11_often 13 = .ok (.bipush 60, 2) := by decide +kernel
theorem dX11_often_15 : decode cX11_often 15 = .ok (.invokevirtual 229, 3) := by decide +kernel
theorem dX11_often_18 : decode cX11_often 18 = .ok (.iconst 0, 1) := by decide +kernel
theorem dX11_often_19 : decode cX11_often 19 = .ok (.istore 4, 2) := by decide +kernel
theorem dX11_often_21 : decode cX11_often 21 = .ok (.iconst 1, 1) := by decide +kernel
theorem dX11_often_22 : decode cX11_often 22 = .ok (.istore 5, 2) := by decide +kernel
theorem dX11_often_24 : decode cX11_often 24 = .ok (.iload 5, 2) := by decide +kernel
theorem dX11_often_26 : decode cX11_often 26 = .ok (.iload_n 3, 1) := by decide +kernel
theorem dX11_often_27 : decode cX11_often 27 = .ok (.if_icmp .gt 23, 3) := by decide +kernel
theorem dX11_often_30 : decode cX11_often 30 = .ok (.aload_n 0, 1) := by decide +kernel
theorem dX11_often_31 : decode cX11_often 31 = .ok (.iload_n 1, 1) := by decide +kernel
theorem dX11_often_32 : decode cX11_often 32 = .ok (.iload_n 2, 1) := by decide +kernel
theorem dX11_often_33 : decode cX11_often 33 = .ok (.iload 5, 2) := by decide +kernel
theorem dX11_often_35 : decode cX11_often 35 = .ok (.invokevirtual 265, 3) := by decide +kernel
theorem dX11_often_38 : decode cX11_often 38 = .ok (.ifCond .eq 6, 3) := by decide +kernel
theorem dX11_often_41 : decode cX11_often 41 = .ok (.iinc 4 1, 3) := by decide +kernel
theorem dX11_often_44 : decode cX11_often 44 = .ok (.iinc 5 1, 3) := by decide +kernel
theorem dX11_often_47 : decode cX11_often 47 = .ok (.goto (-23), 3) := by decide +kernel
theorem dX11_often_50 : decode cX11_often 50 = .ok (.iload 4, 2) := by decide +kernel
theorem dX11_often_52 : decode cX11_often 52 = .ok (.ireturn, 1) := by decide +kernel
theorem dX11_areTogether_0 : decode cX11_areTogether 0 = .ok (.aload_n 0, 1) := by decide +kernel
theorem dX11_areTogether_1 : decode cX11_areTogether 1 = .ok (.iload_n 1, 1) := by decide +kernel
theorem dX11_areTogether_2 : decode cX11_areTogether 2 = .ok (.iload_n 3, 1) := by decide +kernel
theorem dX11_areTogether_3 : decode cX11_areTogether 3 = .ok (.invokevirtual 269, 3) := by decide +kernel
theorem dX11_areTogether_6 : decode cX11_areTogether 6 = .ok (.aload_n 0, 1) := by decide +kernel
theorem dX11_areTogether_7 : decode cX11_areTogether 7 = .ok (.iload_n 2, 1) := by decide +kernel
theorem dX11_areTogether_8 : decode cX11_areTogether 8 = .ok (.iload_n 3, 1) := by decide +kernel
theorem dX11_areTogether_9 : decode cX11_areTogether 9 = .ok (.invokevirtual 269, 3) := by decide +kernel
theorem dX11_areTogether_12 : decode cX11_areTogether 12 = .ok (.if_icmp .ne 7, 3) := by decide +kernel
theorem dX11_areTogether_15 : decode cX11_areTogether 15 = .ok (.iconst 1, 1) := by decide +kernel
theorem dX11_areTogether_16 : decode cX11_areTogether 16 = .ok (.goto 4, 3) := by decide +kernel
theorem dX11_areTogether_19 : decode cX11_areTogether 19 = .ok (.iconst 0, 1) := by decide +kernel
theorem dX11_areTogether_20 : decode cX11_areTogether 20 = .ok (.ireturn, 1) := by decide +kernel
theorem dX11_cornerIn_0 : decode cX11_cornerIn 0 = .ok (.aload_n 0, 1) := by decide +kernel
theorem dX11_cornerIn_1 : decode cX11_cornerIn 1 = .ok (.getfield 23, 3) := by decide +kernel
theorem dX11_cornerIn_4 : decode cX11_cornerIn 4 = .ok (.iload_n 1, 1) := by decide +kernel
theorem dX11_cornerIn_5 : decode cX11_cornerIn 5 = .ok (.aload_n 0, 1) := by decide +kernel
theorem dX11_cornerIn_6 : decode cX11_cornerIn 6 = .ok (.getfield 44, 3) := by decide +kernel
theorem dX11_cornerIn_9 : decode cX11_cornerIn 9 = .ok (.getfield 146, 3) := by decide +kernel
theorem dX11_cornerIn_12 : decode cX11_cornerIn 12 = .ok (.iload_n 2, 1) := by decide +kernel
theorem dX11_cornerIn_13 : decode cX11_cornerIn 13 = .ok (.iadd, 1) := by decide +kernel
theorem dX11_cornerIn_14 : decode cX11_cornerIn 14 = .ok (.iconst 1, 1) := by decide +kernel
theorem dX11_cornerIn_15 : decode cX11_cornerIn 15 = .ok (.isub, 1) := by decide +kernel
theorem dX11_cornerIn_16 : decode cX11_cornerIn 16 = .ok (.invokevirtual 191, 3) := by decide +kernel
theorem dX11_cornerIn_19 : decode cX11_cornerIn 19 = .ok (.ireturn, 1) := by decide +kernel
theorem dX11_crowd_0 : decode cX11_crowd 0 = .ok (.aload_n 0, 1) := by decide +kernel
theorem dX11_crowd_1 : decode cX11_crowd 1 = .ok (.iload_n 1, 1) := by decide +kernel
theorem dX11_crowd_2 : decode cX11_crowd 2 = .ok (.iconst 1, 1) := by decide +kernel
theorem dX11_crowd_3 : decode cX11_crowd 3 = .ok (.bipush 60, 2) := by decide +kernel
theorem dX11_crowd_5 : decode cX11_crowd 5 = .ok (.invokevirtual 229, 3) := by decide +kernel
theorem dX11_crowd_8 : decode cX11_crowd 8 = .ok (.iconst 1, 1) := by decide +kernel
theorem dX11_crowd_9 : decode cX11_crowd 9 = .ok (.istore_n 2, 1) := by decide +kernel
theorem dX11_crowd_10 : decode cX11_crowd 10 = .ok (.iconst 0, 1) := by decide +kernel
theorem dX11_crowd_11 : decode cX11_crowd 11 = .ok (.istore_n 3, 1) := by decide +kernel
theorem dX11_crowd_12 : decode cX11_crowd 12 = .ok (.iconst 1, 1) := by decide +kernel
theorem dX11_crowd_13 : decode cX11_crowd 13 = .ok (.istore 4, 2) := by decide +kernel
theorem dX11_crowd_15 : decode cX11_crowd 15 = .ok (.iload 4, 2) := by decide +kernel
theorem dX11_crowd_17 : decode cX11_crowd 17 = .ok (.iload_n 1, 1) := by decide +kernel
theorem dX11_crowd_18 : decode cX11_crowd 18 = .ok (.if_icmp .gt 65, 3) := by decide +kernel
theorem dX11_crowd_21 : decode cX11_crowd 21 = .ok (.iconst 0, 1) := by decide +kernel
theorem dX11_crowd_22 : decode cX11_crowd 22 = .ok (.istore 5, 2) := by decide +kernel
theorem dX11_crowd_24 : decode cX11_crowd 24 = .ok (.iload 5, 2) := by decide +kernel
theorem dX11_crowd_26 : decode cX11_crowd 26 = .ok (.aload_n 0, 1) := by decide +kernel
theorem dX11_crowd_27 : decode cX11_crowd 27 = .ok (.getfield 23, 3) := by decide +kernel
theorem dX11_crowd_30 : decode cX11_crowd 30 = .ok (.getfield 140, 3) := by decide +kernel
theorem dX11_crowd_33 : decode cX11_crowd 33 = .ok (.if_icmp .ge 44, 3) := by decide +kernel
theorem dX11_crowd_36 : decode cX11_crowd 36 = .ok (.aload_n 0, 1) := by decide +kernel
theorem dX11_crowd_37 : decode cX11_crowd 37 = .ok (.getfield 23, 3) := by decide +kernel
theorem dX11_crowd_40 : decode cX11_crowd 40 = .ok (.iload 5, 2) := by decide +kernel
theorem dX11_crowd_42 : decode cX11_crowd 42 = .ok (.aload_n 0, 1) := by decide +kernel
theorem dX11_crowd_43 : decode cX11_crowd 43 = .ok (.getfield 44, 3) := by decide +kernel
theorem dX11_crowd_46 : decode cX11_crowd 46 = .ok (.getfield 146, 3) := by decide +kernel
theorem dX11_crowd_49 : decode cX11_crowd 49 = .ok (.iload 4, 2) := by decide +kernel
theorem dX11_crowd_51 : decode cX11_crowd 51 = .ok (.iadd, 1) := by decide +kernel
theorem dX11_crowd_52 : decode cX11_crowd 52 = .ok (.iconst 1, 1) := by decide +kernel
theorem dX11_crowd_53 : decode cX11_crowd 53 = .ok (.isub, 1) := by decide +kernel
theorem dX11_crowd_54 : decode cX11_crowd 54 = .ok (.invokevirtual 172, 3) := by decide +kernel
theorem dX11_crowd_57 : decode cX11_crowd 57 = .ok (.istore 6, 2) := by decide +kernel
theorem dX11_crowd_59 : decode cX11_crowd 59 = .ok (.iload 6, 2) := by decide +kernel
theorem dX11_crowd_61 : decode cX11_crowd 61 = .ok (.iload_n 3, 1) := by decide +kernel
theorem dX11_crowd_62 : decode cX11_crowd 62 = .ok (.if_icmp .le 9, 3) := by decide +kernel
theorem dX11_crowd_65 : decode cX11_crowd 65 = .ok (.iload 6, 2) := by decide +kernel
theorem dX11_crowd_67 : decode cX11_crowd 67 = .ok (.istore_n 3, 1) := by decide +kernel
theorem dX11_crowd_68 : decode cX11_crowd 68 = .ok (.iload 4, 2) := by decide +kernel
theorem dX11_crowd_70 : decode cX11_crowd 70 = .ok (.istore_n 2, 1) := by decide +kernel
theorem dX11_crowd_71 : decode cX11_crowd 71 = .ok (.iinc 5 1, 3) := by decide +kernel
theorem dX11_crowd_74 : decode cX11_crowd 74 = .ok (.goto (-50), 3) := by decide +kernel
theorem dX11_crowd_77 : decode cX11_crowd 77 = .ok (.iinc 4 1, 3) := by decide +kernel
theorem dX11_crowd_80 : decode cX11_crowd 80 = .ok (.goto (-65), 3) := by decide +kernel
theorem dX11_crowd_83 : decode cX11_crowd 83 = .ok (.iload_n 2, 1) := by decide +kernel
theorem dX11_crowd_84 : decode cX11_crowd 84 = .ok (.ireturn, 1) := by decide +kernel
theorem dX11_where_0 : decode cX11_where 0 = .ok (.aload_n 0, 1) := by decide +kernel
theorem dX11_where_1 : decode cX11_where 1 = .ok (.iload_n 1, 1) := by decide +kernel
theorem dX11_where_2 : decode cX11_where 2 = .ok (.invokevirtual 176, 3) := by decide +kernel
theorem dX11_where_5 : decode cX11_where 5 = .ok (.aload_n 0, 1) := by decide +kernel
theorem dX11_where_6 : decode cX11_where 6 = .ok (.iload_n 2, 1) := by decide +kernel
theorem dX11_where_7 : decode cX11_where 7 = .ok (.iconst 1, 1) := by decide +kernel
theorem dX11_where_8 : decode cX11_where 8 = .ok (.bipush 60, 2) := by decide +kernel
theorem dX11_where_10 : decode cX11_where 10 = .ok (.invokevirtual 229, 3) := by decide +kernel
theorem dX11_where_13 : decode cX11_where 13 = .ok (.aload_n 0, 1) := by decide +kernel
theorem dX11_where_14 : decode cX11_where 14 = .ok (.iload_n 1, 1) := by decide +kernel
theorem dX11_where_15 : decode cX11_where 15 = .ok (.iload_n 2, 1) := by decide +kernel
theorem dX11_where_16 : decode cX11_where 16 = .ok (.invokevirtual 269, 3) := by decide +kernel
theorem dX11_where_19 : decode cX11_where 19 = .ok (.ireturn, 1) := by decide +kernel
theorem dX11_watch_0 : decode cX11_watch 0 = .ok (.aload_n 0, 1) := by decide +kernel
theorem dX11_watch_1 : decode cX11_watch 1 = .ok (.iload_n 1, 1) := by decide +kernel
theorem dX11_watch_2 : decode cX11_watch 2 = .ok (.iconst 1, 1) := by decide +kernel
theorem dX11_watch_3 : decode cX11_watch 3 = .ok (.bipush 60, 2) := by decide +kernel
theorem dX11_watch_5 : decode cX11_watch 5 = .ok (.invokevirtual 229, 3) := by decide +kernel
theorem dX11_watch_8 : decode cX11_watch 8 = .ok (.iconst 1, 1) := by decide +kernel
theorem dX11_watch_9 : decode cX11_watch 9 = .ok (.aload_n 0, 1) := by decide +kernel
theorem dX11_watch_10 : decode cX11_watch 10 = .ok (.getfield 23, 3) := by decide +kernel
theorem dX11_watch_13 : decode cX11_watch 13 = .ok (.getfield 140, 3) := by decide +kernel
theorem dX11_watch_16 : decode cX11_watch 16 = .ok (.ishl, 1) := by decide +kernel
theorem dX11_watch_17 : decode cX11_watch 17 = .ok (.iconst 1, 1) := by decide +kernel
theorem dX11_watch_18 : decode cX11_watch 18 = .ok (.isub, 1) := by decide +kernel
theorem dX11_watch_19 : decode cX11_watch 19 = .ok (.istore_n 2, 1) := by decide +kernel
theorem dX11_watch_20 : decode cX11_watch 20 = .ok (.iload_n 2, 1) := by decide +kernel
theorem dX11_watch_21 : decode cX11_watch 21 = .ok (.iconst 1, 1) := by decide +kernel
theorem dX11_watch_22 : decode cX11_watch 22 = .ok (.isub, 1) := by decide +kernel
theorem dX11_watch_23 : decode cX11_watch 23 = .ok (.istore_n 3, 1) := by decide +kernel
theorem dX11_watch_24 : decode cX11_watch 24 = .ok (.iload_n 3, 1) := by decide +kernel
theorem dX11_watch_25 : decode cX11_watch 25 = .ok (.ifCond .lt 43, 3) := by decide +kernel
theorem dX11_watch_28 : decode cX11_watch 28 = .ok (.iload_n 3, 1) := by decide +kernel
theorem dX11_watch_29 : decode cX11_watch 29 = .ok (.invokestatic 272, 3) := by decide +kernel
theorem dX11_watch_32 : decode cX11_watch 32 = .ok (.iload_n 2, 1) := by decide +kernel
theorem dX11_watch_33 : decode cX11_watch 33 = .ok (.invokestatic 272, 3) := by decide +kernel
theorem dX11_watch_36 : decode cX11_watch 36 = .ok (.if_icmp .gt 7, 3) := by decide +kernel
theorem dX11_watch_39 : decode cX11_watch 39 = .ok (.iconst 1, 1) := by decide +kernel
theorem dX11_watch_40 : decode cX11_watch 40 = .ok (.goto 4, 3) := by decide +kernel
theorem dX11_watch_43 : decode cX11_watch 43 = .ok (.iconst 0, 1) := by decide +kernel
theorem dX11_watch_44 : decode cX11_watch 44 = .ok (.istore 4, 2) := by decide +kernel
theorem dX11_watch_46 : decode cX11_watch 46 = .ok (.iload 4, 2) := by decide +kernel
theorem dX11_watch_48 : decode cX11_watch 48 = .ok (.ifCond .eq 14, 3) := by decide +kernel
theorem dX11_watch_51 : decode cX11_watch 51 = .ok (.aload_n 0, 1) := by decide +kernel
theorem dX11_watch_52 : decode cX11_watch 52 = .ok (.iload_n 3, 1) := by decide +kernel
theorem dX11_watch_53 : decode cX11_watch 53 = .ok (.iload_n 1, 1) := by decide +kernel
theorem dX11_watch_54 : decode cX11_watch 54 = .ok (.invokevirtual 277, 3) := by decide +kernel
theorem dX11_watch_57 : decode cX11_watch 57 = .ok (.ifCond .eq 5, 3) := by decide +kernel
theorem dX11_watch_60 : decode cX11_watch 60 = .ok (.iload_n 3, 1) := by decide +kernel
theorem dX11_watch_61 : decode cX11_watch 61 = .ok (.istore_n 2, 1) := by decide +kernel
theorem dX11_watch_62 : decode cX11_watch 62 = .ok (.iinc 3 (-1), 3) := by decide +kernel
theorem dX11_watch_65 : decode cX11_watch 65 = .ok (.goto (-41), 3) := by decide +kernel
theorem dX11_watch_68 : decode cX11_watch 68 = .ok (.iload_n 2, 1) := by decide +kernel
theorem dX11_watch_69 : decode cX11_watch 69 = .ok (.ireturn, 1) := by decide +kernel
theorem dX11_seesEveryone_0 : decode cX11_seesEveryone 0 = .ok (.iconst 0, 1) := by decide +kernel
theorem dX11_seesEveryone_1 : decode cX11_seesEveryone 1 = .ok (.istore_n 3, 1) := by decide +kernel
theorem dX11_seesEveryone_2 : decode cX11_seesEveryone 2 = .ok (.iload_n 3, 1) := by decide +kernel
theorem dX11_seesEveryone_3 : decode cX11_seesEveryone 3 = .ok (.aload_n 0, 1) := by decide +kernel
theorem dX11_seesEveryone_4 : decode cX11_seesEveryone 4 = .ok (.getfield 23, 3) := by decide +kernel
theorem dX11_seesEveryone_7 : decode cX11_seesEveryone 7 = .ok (.getfield 143, 3) := by decide +kernel
theorem dX11_seesEveryone_10 : decode cX11_seesEveryone 10 = .ok (.if_icmp .ge 32, 3) := by decide +kernel
theorem dX11_seesEveryone_13 : decode cX11_seesEveryone 13 = .ok (.iload_n 1, 1) := by decide +kernel
theorem dX11_seesEveryone_14 : decode cX11_seesEveryone 14 = .ok (.aload_n 0, 1) := by decide +kernel
theorem dX11_seesEveryone_15 : decode cX11_seesEveryone 15 = .ok (.getfield 23, 3) := by decide +kernel
theorem dX11_seesEveryone_18 : decode cX11_seesEveryone 18 = .ok (.iload_n 3, 1) := by decide +kernel
theorem dX11_seesEveryone_19 : decode cX11_seesEveryone 19 = .ok (.aload_n 0, 1) := by decide +kernel
theorem dX11_seesEveryone_20 : decode cX11_seesEveryone 20 = .ok (.getfield 44, 3) := by decide +kernel
theorem dX11_seesEveryone_23 : decode cX11_seesEveryone 23 = .ok (.getfield 146, 3) := by decide +kernel
theorem dX11_seesEveryone_26 : decode cX11_seesEveryone 26 = .ok (.iload_n 2, 1) := by decide +kernel
theorem dX11_seesEveryone_27 : decode cX11_seesEveryone 27 = .ok (.invokevirtual 281, 3) := by decide +kernel
theorem dX11_seesEveryone_30 : decode cX11_seesEveryone 30 = .ok (.iand, 1) := by decide +kernel
theorem dX11_seesEveryone_31 : decode cX11_seesEveryone 31 = .ok (.ifCond .ne 5, 3) := by decide +kernel
theorem dX11_seesEveryone_34 : decode cX11_seesEveryone 34 = .ok (.iconst 0, 1) := by decide +kernel
theorem dX11_seesEveryone_35 : decode cX11_seesEveryone 35 = .ok (.ireturn, 1) := by decide +kernel
theorem dX11_seesEveryone_36 : decode cX11_seesEveryone 36 = .ok (.iinc 3 1, 3) := by decide +kernel
theorem dX11_seesEveryone_39 : decode cX11_seesEveryone 39 = .ok (.goto (-37), 3) := by decide +kernel
theorem dX11_seesEveryone_42 : decode cX11_seesEveryone 42 = .ok (.iconst 1, 1) := by decide +kernel
theorem dX11_seesEveryone_43 : decode cX11_seesEveryone 43 = .ok (.ireturn, 1) := by decide +kernel
theorem dX11_toSet_0 : decode cX11_toSet 0 = .ok (.aload_n 0, 1) := by decide +kernel
theorem dX11_toSet_1 : decode cX11_toSet 1 = .ok (.iload_n 1, 1) := by decide +kernel
theorem dX11_toSet_2 : decode cX11_toSet 2 = .ok (.invokevirtual 176, 3) := by decide +kernel
theorem dX11_toSet_5 : decode cX11_toSet 5 = .ok (.aload_n 0, 1) := by decide +kernel
theorem dX11_toSet_6 : decode cX11_toSet 6 = .ok (.iload_n 3, 1) := by decide +kernel
theorem dX11_toSet_7 : decode cX11_toSet 7 = .ok (.iconst 2, 1) := by decide +kernel
theorem dX11_toSet_8 : decode cX11_toSet 8 = .ok (.invokevirtual 133, 3) := by decide +kernel
theorem dX11_toSet_11 : decode cX11_toSet 11 = .ok (.aload_n 0, 1) := by decide +kernel
theorem dX11_toSet_12 : decode cX11_toSet 12 = .ok (.iload_n 2, 1) := by decide +kernel
theorem dX11_toSet_13 : decode cX11_toSet 13 = .ok (.iconst 1, 1) := by decide +kernel
theorem dX11_toSet_14 : decode cX11_toSet 14 = .ok (.bipush 60, 2) := by decide +kernel
theorem dX11_toSet_16 : decode cX11_toSet 16 = .ok (.invokevirtual 229, 3) := by decide +kernel
theorem dX11_toSet_19 : decode cX11_toSet 19 = .ok (.iconst 0, 1) := by decide +kernel
theorem dX11_toSet_20 : decode cX11_toSet 20 = .ok (.istore 4, 2) := by decide +kernel
theorem dX11_toSet_22 : decode cX11_toSet 22 = .ok (.iconst (-1), 1) := by decide +kernel
theorem dX11_toSet_23 : decode cX11_toSet 23 = .ok (.istore 5, 2) := by decide +kernel
theorem dX11_toSet_25 : decode cX11_toSet 25 = .ok (.iconst 0, 1) := by decide +kernel
theorem dX11_toSet_26 : decode cX11_toSet 26 = .ok (.istore 6, 2) := by decide +kernel
theorem dX11_toSet_28 : decode cX11_toSet 28 = .ok (.iload 6, 2) := by decide +kernel
theorem dX11_toSet_30 : decode cX11_toSet 30 = .ok (.bipush 60, 2) := by decide +kernel
theorem dX11_toSet_32 : decode cX11_toSet 32 = .ok (.if_icmp .ge 66, 3) := by decide +kernel
theorem dX11_toSet_35 : decode cX11_toSet 35 = .ok (.aload_n 0, 1) := by decide +kernel
theorem dX11_toSet_36 : decode cX11_toSet 36 = .ok (.invokevirtual 233, 3) := by decide +kernel
theorem dX11_toSet_39 : decode cX11_toSet 39 = .ok (.aload_n 0, 1) := by decide +kernel
theorem dX11_toSet_40 : decode cX11_toSet 40 = .ok (.getfield 48, 3) := by decide +kernel
theorem dX11_toSet_43 : decode cX11_toSet 43 = .ok (.iload_n 1, 1) := by decide +kernel
theorem dX11_toSet_44 : decode cX11_toSet 44 = .ok (.iload 6, 2) := by decide +kernel
theorem dX11_toSet_46 : decode cX11_toSet 46 = .ok (.invokevirtual 215, 3) := by decide +kernel
theorem dX11_toSet_49 : decode cX11_toSet 49 = .ok (.aload_n 0, 1) := by decide +kernel
theorem dX11_toSet_50 : decode cX11_toSet 50 = .ok (.getfield 37, 3) := by decide +kernel
theorem dX11_toSet_53 : decode cX11_toSet 53 = .ok (.aload_n 0, 1) := by decide +kernel
theorem dX11_toSet_54 : decode cX11_toSet 54 = .ok (.getfield 23, 3) := by decide +kernel
theorem dX11_toSet_57 : decode cX11_toSet 57 = .ok (.aload_n 0, 1) := by decide +kernel
theorem dX11_toSet_58 : decode cX11_toSet 58 = .ok (.getfield 48, 3) := by decide +kernel
theorem dX11_toSet_61 : decode cX11_toSet 61 = .ok (.iload_n 2, 1) := by decide +kernel
theorem dX11_toSet_62 : decode cX11_toSet 62 = .ok (.invokevirtual 211, 3) := by decide +kernel
theorem dX11_toSet_65 : decode cX11_toSet 65 = .ok (.aload_n 0, 1) := by decide +kernel
theorem dX11_toSet_66 : decode cX11_toSet 66 = .ok (.getfield 48, 3) := by decide +kernel
theorem dX11_toSet_69 : decode cX11_toSet 69 = .ok (.iload_n 1, 1) := by decide +kernel
theorem dX11_toSet_70 : decode cX11_toSet 70 = .ok (.invokevirtual 179, 3) := by decide +kernel
theorem dX11_toSet_73 : decode cX11_toSet 73 = .ok (.iload 5, 2) := by decide +kernel
theorem dX11_toSet_75 : decode cX11_toSet 75 = .ok (.if_icmp .le 17, 3) := by decide +kernel
theorem dX11_toSet_78 : decode cX11_toSet 78 = .ok (.aload_n 0, 1) := by decide +kernel
theorem dX11_toSet_79 : decode cX11_toSet 79 = .ok (.getfield 48, 3) := by decide +kernel
theorem dX11_toSet_82 : decode cX11_toSet 82 = .ok (.iload_n 1, 1) := by decide +kernel
theorem dX11_toSet_83 : decode cX11_toSet 83 = .ok (.invokevirtual 179, 3) := by decide +kernel
theorem dX11_toSet_86 : decode cX11_toSet 86 = .ok (.istore 5, 2) := by decide +kernel
theorem dX11_toSet_88 : decode cX11_toSet 88 = .ok (.iload 6, 2) := by decide +kernel
theorem dX11_toSet_90 : decode cX11_toSet 90 = .ok (.istore 4, 2) := by decide +kernel
theorem dX11_toSet_92 : decode cX11_toSet 92 = .ok (.iinc 6 1, 3) := by decide +kernel
theorem dX11_toSet_95 : decode cX11_toSet 95 = .ok (.goto (-67), 3) := by decide +kernel
theorem dX11_toSet_98 : decode cX11_toSet 98 = .ok (.iload_n 3, 1) := by decide +kernel
theorem dX11_toSet_99 : decode cX11_toSet 99 = .ok (.ifCond .ne 8, 3) := by decide +kernel
theorem dX11_toSet_102 : decode cX11_toSet 102 = .ok (.iload 4, 2) := by decide +kernel
theorem dX11_toSet_104 : decode cX11_toSet 104 = .ok (.goto 5, 3) := by decide +kernel
theorem dX11_toSet_107 : decode cX11_toSet 107 = .ok (.iload 5, 2) := by decide +kernel
theorem dX11_toSet_109 : decode cX11_toSet 109 = .ok (.ireturn, 1) := by decide +kernel
theorem dX11_toStay_0 : decode cX11_toStay 0 = .ok (.aload_n 0, 1) := by decide +kernel
theorem dX11_toStay_1 : decode cX11_toStay 1 = .ok (.iload_n 1, 1) := by decide +kernel
theorem dX11_toStay_2 : decode cX11_toStay 2 = .ok (.invokevirtual 176, 3) := by decide +kernel
theorem dX11_toStay_5 : decode cX11_toStay 5 = .ok (.aload_n 0, 1) := by decide +kernel
theorem dX11_toStay_6 : decode cX11_toStay 6 = .ok (.iload_n 2, 1) := by decide +kernel
theorem dX11_toStay_7 : decode cX11_toStay 7 = .ok (.iconst 1, 1) := by decide +kernel
theorem dX11_toStay_8 : decode cX11_toStay 8 = .ok (.bipush 60, 2) := by decide +kernel
theorem dX11_toStay_10 : decode cX11_toStay 10 = .ok (.invokevirtual 229, 3) := by decide +kernel
theorem dX11_toStay_13 : decode cX11_toStay 13 = .ok (.aload_n 0, 1) := by decide +kernel
theorem dX11_toStay_14 : decode cX11_toStay 14 = .ok (.invokevirtual 233, 3) := by decide +kernel
theorem dX11_toStay_17 : decode cX11_toStay 17 = .ok (.aload_n 0, 1) := by decide +kernel
theorem dX11_toStay_18 : decode cX11_toStay 18 = .ok (.getfield 37, 3) := by decide +kernel
theorem dX11_toStay_21 : decode cX11_toStay 21 = .ok (.aload_n 0, 1) := by decide +kernel
theorem dX11_toStay_22 : decode cX11_toStay 22 = .ok (.getfield 23, 3) := by decide +kernel
theorem dX11_toStay_25 : decode cX11_toStay 25 = .ok (.aload_n 0, 1) := by decide +kernel
theorem dX11_toStay_26 : decode cX11_toStay 26 = .ok (.getfield 48, 3) := by decide +kernel
theorem dX11_toStay_29 : decode cX11_toStay 29 = .ok (.iload_n 2, 1) := by decide +kernel
theorem dX11_toStay_30 : decode cX11_toStay 30 = .ok (.invokevirtual 211, 3) := by decide +kernel
theorem dX11_toStay_33 : decode cX11_toStay 33 = .ok (.iconst (-1), 1) := by decide +kernel
theorem dX11_toStay_34 : decode cX11_toStay 34 = .ok (.istore_n 3, 1) := by decide +kernel
theorem dX11_toStay_35 : decode cX11_toStay 35 = .ok (.aload_n 0, 1) := by decide +kernel
theorem dX11_toStay_36 : decode cX11_toStay 36 = .ok (.getfield 48, 3) := by decide +kernel
theorem dX11_toStay_39 : decode cX11_toStay 39 = .ok (.iload_n 1, 1) := by decide +kernel
theorem dX11_toStay_40 : decode cX11_toStay 40 = .ok (.invokevirtual 179, 3) := by decide +kernel
theorem dX11_toStay_43 : decode cX11_toStay 43 = .ok (.istore 4, 2) := by decide +kernel
theorem dX11_toStay_45 : decode cX11_toStay 45 = .ok (.iconst 0, 1) := by decide +kernel
theorem dX11_toStay_46 : decode cX11_toStay 46 = .ok (.istore 5, 2) := by decide +kernel
theorem dX11_toStay_48 : decode cX11_toStay 48 = .ok (.iload 5, 2) := by decide +kernel
theorem dX11_toStay_50 : decode cX11_toStay 50 = .ok (.aload_n 0, 1) := by decide +kernel
theorem dX11_toStay_51 : decode cX11_toStay 51 = .ok (.getfield 23, 3) := by decide +kernel
theorem dX11_toStay_54 : decode cX11_toStay 54 = .ok (.getfield 143, 3) := by decide +kernel
theorem dX11_toStay_57 : decode cX11_toStay 57 = .ok (.if_icmp .ge 80, 3) := by decide +kernel
theorem dX11_toStay_60 : decode cX11_toStay 60 = .ok (.aload_n 0, 1) := by decide +kernel
theorem dX11_toStay_61 : decode cX11_toStay 61 = .ok (.getfield 44, 3) := by decide +kernel
theorem dX11_toStay_64 : decode cX11_toStay 64 = .ok (.iload 5, 2) := by decide +kernel
theorem dX11_toStay_66 : decode cX11_toStay 66 = .ok (.invokevirtual 201, 3) := by decide +kernel
theorem dX11_toStay_69 : decode cX11_toStay 69 = .ok (.ifCond .eq 6, 3) := by decide +kernel
theorem dX11_toStay_72 : decode cX11_toStay 72 = .ok (.goto 59, 3) := by decide +kernel
theorem dX11_toStay_75 : decode cX11_toStay 75 = .ok (.aload_n 0, 1) := by decide +kernel
theorem dX11_toStay_76 : decode cX11_toStay 76 = .ok (.invokevirtual 233, 3) := by decide +kernel
theorem dX11_toStay_79 : decode cX11_toStay 79 = .ok (.aload_n 0, 1) := by decide +kernel
theorem dX11_toStay_80 : decode cX11_toStay 80 = .ok (.getfield 48, 3) := by decide +kernel
theorem dX11_toStay_83 : decode cX11_toStay 83 = .ok (.iload 5, 2) := by decide +kernel
theorem dX11_toStay_85 : decode cX11_toStay 85 = .ok (.iconst 1, 1) := by decide +kernel
theorem dX11_toStay_86 : decode cX11_toStay 86 = .ok (.invokevirtual 221, 3) := by decide +kernel
theorem dX11_toStay_89 : decode cX11_toStay 89 = .ok (.aload_n 0, 1) := by decide +kernel
theorem dX11_toStay_90 : decode cX11_toStay 90 = .ok (.getfield 37, 3) := by decide +kernel
theorem dX11_toStay_93 : decode cX11_toStay 93 = .ok (.aload_n 0, 1) := by decide +kernel
theorem dX11_toStay_94 : decode cX11_toStay 94 = .ok (.getfield 23, 3) := by decide +kernel
theorem dX11_toStay_97 : decode cX11_toStay 97 = .ok (.aload_n 0, 1) := by decide +kernel
theorem dX11_toStay_98 : decode cX11_toStay 98 = .ok (.getfield 48, 3) := by decide +kernel
theorem dX11_toStay_101 : decode cX11_toStay 101 = .ok (.iload_n 2, 1) := by decide +kernel
theorem dX11_toStay_102 : decode cX11_toStay 102 = .ok (.invokevirtual 211, 3) := by decide +kernel
theorem dX11_toStay_105 : decode cX11_toStay 105 = .ok (.aload_n 0, 1) := by decide +kernel
theorem dX11_toStay_106 : decode cX11_toStay 106 = .ok (.getfield 48, 3) := by decide +kernel
theorem dX11_toStay_109 : decode cX11_toStay 109 = .ok (.iload_n 1, 1) := by decide +kernel
theorem dX11_toStay_110 : decode cX11_toStay 110 = .ok (.invokevirtual 179, 3) := by decide +kernel
theorem dX11_toStay_113 : decode cX11_toStay 113 = .ok (.iload 4, 2) := by decide +kernel
theorem dX11_toStay_115 : decode cX11_toStay 115 = .ok (.if_icmp .le 16, 3) := by decide +kernel
theorem dX11_toStay_118 : decode cX11_toStay 118 = .ok (.aload_n 0, 1) := by decide +kernel
theorem dX11_toStay_119 : decode cX11_toStay 119 = .ok (.getfield 48, 3) := by decide +kernel
theorem dX11_toStay_122 : decode cX11_toStay 122 = .ok (.iload_n 1, 1) := by decide +kernel
theorem dX11_toStay_123 : decode cX11_toStay 123 = .ok (.invokevirtual 179, 3) := by decide +kernel
theorem dX11_toStay_126 : decode cX11_toStay 126 = .ok (.istore 4, 2) := by decide +kernel
theorem dX11_toStay_128 : decode cX11_toStay 128 = .ok (.iload 5, 2) := by decide +kernel
theorem dX11_toStay_130 : decode cX11_toStay 130 = .ok (.istore_n 3, 1) := by decide +kernel
theorem dX11_toStay_131 : decode cX11_toStay 131 = .ok (.iinc 5 1, 3) := by decide +kernel
theorem dX11_toStay_134 : decode cX11_toStay 134 = .ok (.goto (-86), 3) := by decide +kernel
theorem dX11_toStay_137 : decode cX11_toStay 137 = .ok (.iload_n 3, 1) := by decide +kernel
theorem dX11_toStay_138 : decode cX11_toStay 138 = .ok (.ireturn, 1) := by decide +kernel
theorem dX11_toLast_0 : decode cX11_toLast 0 = .ok (.aload_n 0, 1) := by decide +kernel
theorem dX11_toLast_1 : decode cX11_toLast 1 = .ok (.iload_n 1, 1) := by decide +kernel
theorem dX11_toLast_2 : decode cX11_toLast 2 = .ok (.invokevirtual 176, 3) := by decide +kernel
theorem dX11_toLast_5 : decode cX11_toLast 5 = .ok (.aload_n 0, 1) := by decide +kernel
theorem dX11_toLast_6 : decode cX11_toLast 6 = .ok (.iload_n 2, 1) := by decide +kernel
theorem dX11_toLast_7 : decode cX11_toLast 7 = .ok (.iconst 1, 1) := by decide +kernel
theorem dX11_toLast_8 : decode cX11_toLast 8 = .ok (.bipush 60, 2) := by decide +kernel
theorem dX11_toLast_10 : decode cX11_toLast 10 = .ok (.invokevirtual 229, 3) := by decide +kernel
theorem dX11_toLast_13 : decode cX11_toLast 13 = .ok (.iconst 0, 1) := by decide +kernel
theorem dX11_toLast_14 : decode cX11_toLast 14 = .ok (.istore_n 3, 1) := by decide +kernel
theorem dX11_toLast_15 : decode cX11_toLast 15 = .ok (.iload_n 3, 1) := by decide +kernel
theorem dX11_toLast_16 : decode cX11_toLast 16 = .ok (.sipush 999, 3) := by decide +kernel
theorem dX11_toLast_19 : decode cX11_toLast 19 = .ok (.if_icmp .gt 21, 3) := by decide +kernel
theorem dX11_toLast_22 : decode cX11_toLast 22 = .ok (.aload_n 0, 1) := by decide +kernel
theorem dX11_toLast_23 : decode cX11_toLast 23 = .ok (.iload_n 1, 1) := by decide +kernel
theorem dX11_toLast_24 : decode cX11_toLast 24 = .ok (.iload_n 3, 1) := by decide +kernel
theorem dX11_toLast_25 : decode cX11_toLast 25 = .ok (.iload_n 2, 1) := by decide +kernel
theorem dX11_toLast_26 : decode cX11_toLast 26 = .ok (.invokevirtual 285, 3) := by decide +kernel
theorem dX11_toLast_29 : decode cX11_toLast 29 = .ok (.ifCond .eq 5, 3) := by decide +kernel
theorem dX11_toLast_32 : decode cX11_toLast 32 = .ok (.iload_n 3, 1) := by decide +kernel
theorem dX11_toLast_33 : decode cX11_toLast 33 = .ok (.ireturn, 1) := by decide +kernel
theorem dX11_toLast_34 : decode cX11_toLast 34 = .ok (.iinc 3 1, 3) := by decide +kernel
theorem dX11_toLast_37 : decode cX11_toLast 37 = .ok (.goto (-22), 3) := by decide +kernel
theorem dX11_toLast_40 : decode cX11_toLast 40 = .ok (.iconst (-1), 1) := by decide +kernel
theorem dX11_toLast_41 : decode cX11_toLast 41 = .ok (.ireturn, 1) := by decide +kernel
theorem dX11_lastsWith_0 : decode cX11_lastsWith 0 = .ok (.aload_n 0, 1) := by decide +kernel
theorem dX11_lastsWith_1 : decode cX11_lastsWith 1 = .ok (.invokevirtual 233, 3) := by decide +kernel
theorem dX11_lastsWith_4 : decode cX11_lastsWith 4 = .ok (.aload_n 0, 1) := by decide +kernel
theorem dX11_lastsWith_5 : decode cX11_lastsWith 5 = .ok (.getfield 48, 3) := by decide +kernel
theorem dX11_lastsWith_8 : decode cX11_lastsWith 8 = .ok (.iload_n 1, 1) := by decide +kernel
theorem dX11_lastsWith_9 : decode cX11_lastsWith 9 = .ok (.iload_n 2, 1) := by decide +kernel
theorem dX11_lastsWith_10 : decode cX11_lastsWith 10 = .ok (.invokevirtual 288, 3) := by decide +kernel
theorem dX11_lastsWith_13 : decode cX11_lastsWith 13 = .ok (.iconst 0, 1) := by decide +kernel
theorem dX11_lastsWith_14 : decode cX11_lastsWith 14 = .ok (.istore 4, 2) := by decide +kernel
theorem dX11_lastsWith_16 : decode cX11_lastsWith 16 = .ok (.iload 4, 2) := by decide +kernel
theorem dX11_lastsWith_18 : decode cX11_lastsWith 18 = .ok (.iload_n 3, 1) := by decide +kernel
theorem dX11_lastsWith_19 : decode cX11_lastsWith 19 = .ok (.if_icmp .ge 38, 3) := by decide +kernel
theorem dX11_lastsWith_22 : decode cX11_lastsWith 22 = .ok (.aload_n 0, 1) := by decide +kernel
theorem dX11_lastsWith_23 : decode cX11_lastsWith 23 = .ok (.getfield 48, 3) := by decide +kernel
theorem dX11_lastsWith_26 : decode cX11_lastsWith 26 = .ok (.iload_n 1, 1) := by decide +kernel
theorem dX11_lastsWith_27 : decode cX11_lastsWith 27 = .ok (.invokevirtual 239, 3) := by decide +kernel
theorem dX11_lastsWith_30 : decode cX11_lastsWith 30 = .ok (.ifCond .eq 5, 3) := by decide +kernel
theorem dX11_lastsWith_33 : decode cX11_lastsWith 33 = .ok (.iconst 0, 1) := by decide +kernel
theorem dX11_lastsWith_34 : decode cX11_lastsWith 34 = .ok (.ireturn, 1) := by decide +kernel
theorem dX11_lastsWith_35 : decode cX11_lastsWith 35 = .ok (.aload_n 0, 1) := by decide +kernel
theorem dX11_lastsWith_36 : decode cX11_lastsWith 36 = .ok (.getfield 37, 3) := by decide +kernel
theorem dX11_lastsWith_39 : decode cX11_lastsWith 39 = .ok (.aload_n 0, 1) := by decide +kernel
theorem dX11_lastsWith_40 : decode cX11_lastsWith 40 = .ok (.getfield 23, 3) := by decide +kernel
theorem dX11_lastsWith_43 : decode cX11_lastsWith 43 = .ok (.aload_n 0, 1) := by decide +kernel
theorem dX11_lastsWith_44 : decode cX11_lastsWith 44 = .ok (.getfield 48, 3) := by decide +kernel
theorem dX11_lastsWith_47 : decode cX11_lastsWith 47 = .ok (.iconst 1, 1) := by decide +kernel
theorem dX11_lastsWith_48 : decode cX11_lastsWith 48 = .ok (.invokevirtual 211, 3) := by decide +kernel
theorem dX11_lastsWith_51 : decode cX11_lastsWith 51 = .ok (.iinc 4 1, 3) := by decide +kernel
theorem dX11_lastsWith_54 : decode cX11_lastsWith 54 = .ok (.goto (-38), 3) := by decide +kernel
theorem dX11_lastsWith_57 : decode cX11_lastsWith 57 = .ok (.aload_n 0, 1) := by decide +kernel
theorem dX11_lastsWith_58 : decode cX11_lastsWith 58 = .ok (.getfield 48, 3) := by decide +kernel
theorem dX11_lastsWith_61 : decode cX11_lastsWith 61 = .ok (.iload_n 1, 1) := by decide +kernel
theorem dX11_lastsWith_62 : decode cX11_lastsWith 62 = .ok (.invokevirtual 239, 3) := by decide +kernel
theorem dX11_lastsWith_65 : decode cX11_lastsWith 65 = .ok (.ifCond .ne 7, 3) := by decide +kernel
theorem dX11_lastsWith_68 : decode cX11_lastsWith 68 = .ok (.iconst 1, 1) := by decide +kernel
theorem dX11_lastsWith_69 : decode cX11_lastsWith 69 = .ok (.goto 4, 3) := by decide +kernel
theorem dX11_lastsWith_72 : decode cX11_lastsWith 72 = .ok (.iconst 0, 1) := by decide +kernel
theorem dX11_lastsWith_73 : decode cX11_lastsWith 73 = .ok (.ireturn, 1) := by decide +kernel
theorem dX11_pairs_0 : decode cX11_pairs 0 = .ok (.aload_n 0, 1) := by decide +kernel
theorem dX11_pairs_1 : decode cX11_pairs 1 = .ok (.iload_n 1, 1) := by decide +kernel
theorem dX11_pairs_2 : decode cX11_pairs 2 = .ok (.iconst 2, 1) := by decide +kernel
theorem dX11_pairs_3 : decode cX11_pairs 3 = .ok (.invokevirtual 133, 3) := by decide +kernel
theorem dX11_pairs_6 : decode cX11_pairs 6 = .ok (.aload_n 0, 1) := by decide +kernel
theorem dX11_pairs_7 : decode cX11_pairs 7 = .ok (.getfield 79, 3) := by decide +kernel
theorem dX11_pairs_10 : decode cX11_pairs 10 = .ok (.aload_n 0, 1) := by decide +kernel
theorem dX11_pairs_11 : decode cX11_pairs 11 = .ok (.getfield 23, 3) := by decide +kernel
theorem dX11_pairs_14 : decode cX11_pairs 14 = .ok (.aload_n 0, 1) := by decide +kernel
theorem dX11_pairs_15 : decode cX11_pairs 15 = .ok (.getfield 44, 3) := by decide +kernel
theorem dX11_pairs_18 : decode cX11_pairs 18 = .ok (.invokevirtual 291, 3) := by decide +kernel
theorem dX11_pairs_21 : decode cX11_pairs 21 = .ok (.iload_n 1, 1) := by decide +kernel
theorem dX11_pairs_22 : decode cX11_pairs 22 = .ok (.ifCond .ne 13, 3) := by decide +kernel
theorem dX11_pairs_25 : decode cX11_pairs 25 = .ok (.aload_n 0, 1) := by decide +kernel
theorem dX11_pairs_26 : decode cX11_pairs 26 = .ok (.getfield 79, 3) := by decide +kernel
theorem dX11_pairs_29 : decode cX11_pairs 29 = .ok (.getfield 295, 3) := by decide +kernel
theorem dX11_pairs_32 : decode cX11_pairs 32 = .ok (.goto 10, 3) := by decide +kernel
theorem dX11_pairs_35 : decode cX11_pairs 35 = .ok (.aload_n 0, 1) := by decide +kernel
theorem dX11_pairs_36 : decode cX11_pairs 36 = .ok (.getfield 79, 3) := by decide +kernel
theorem dX11_pairs_39 : decode cX11_pairs 39 = .ok (.getfield 298, 3) := by decide +kernel
theorem dX11_pairs_42 : decode cX11_pairs 42 = .ok (.ireturn, 1) := by decide +kernel
theorem dX11_pair_0 : decode cX11_pair 0 = .ok (.aload_n 0, 1) := by decide +kernel
theorem dX11_pair_1 : decode cX11_pair 1 = .ok (.iload_n 1, 1) := by decide +kernel
theorem dX11_pair_2 : decode cX11_pair 2 = .ok (.invokevirtual 176, 3) := by decide +kernel
theorem dX11_pair_5 : decode cX11_pair 5 = .ok (.aload_n 0, 1) := by decide +kernel
theorem dX11_pair_6 : decode cX11_pair 6 = .ok (.getfield 79, 3) := by decide +kernel
theorem dX11_pair_9 : decode cX11_pair 9 = .ok (.aload_n 0, 1) := by decide +kernel
theorem dX11_pair_10 : decode cX11_pair 10 = .ok (.getfield 23, 3) := by decide +kernel
theorem dX11_pair_13 : decode cX11_pair 13 = .ok (.aload_n 0, 1) := by decide +kernel
theorem dX11_pair_14 : decode cX11_pair 14 = .ok (.getfield 44, 3) := by decide +kernel
theorem dX11_pair_17 : decode cX11_pair 17 = .ok (.invokevirtual 291, 3) := by decide +kernel
theorem dX11_pair_20 : decode cX11_pair 20 = .ok (.aload_n 0, 1) := by decide +kernel
theorem dX11_pair_21 : decode cX11_pair 21 = .ok (.getfield 79, 3) := by decide +kernel
theorem dX11_pair_24 : decode cX11_pair 24 = .ok (.iload_n 1, 1) := by decide +kernel
theorem dX11_pair_25 : decode cX11_pair 25 = .ok (.invokevirtual 301, 3) := by decide +kernel
theorem dX11_pair_28 : decode cX11_pair 28 = .ok (.ireturn, 1) := by decide +kernel
theorem dX11_see_0 : decode cX11_see 0 = .ok (.aload_n 0, 1) := by decide +kernel
theorem dX11_see_1 : decode cX11_see 1 = .ok (.iload_n 1, 1) := by decide +kernel
theorem dX11_see_2 : decode cX11_see 2 = .ok (.invokevirtual 176, 3) := by decide +kernel
theorem dX11_see_5 : decode cX11_see 5 = .ok (.iload_n 2, 1) := by decide +kernel
theorem dX11_see_6 : decode cX11_see 6 = .ok (.ifCond .lt 24, 3) := by decide +kernel
theorem dX11_see_9 : decode cX11_see 9 = .ok (.iload_n 2, 1) := by decide +kernel
theorem dX11_see_10 : decode cX11_see 10 = .ok (.bipush 20, 2) := by decide +kernel
theorem dX11_see_12 : decode cX11_see 12 = .ok (.if_icmp .gt 18, 3) := by decide +kernel
theorem dX11_see_15 : decode cX11_see 15 = .ok (.iload_n 3, 1) := by decide +kernel
theorem dX11_see_16 : decode cX11_see 16 = .ok (.ifCond .lt 14, 3) := by decide +kernel
theorem dX11_see_19 : decode cX11_see 19 = .ok (.iload_n 3, 1) := by decide +kernel
theorem dX11_see_20 : decode cX11_see 20 = .ok (.sipush 999, 3) := by decide +kernel
theorem dX11_see_23 : decode cX11_see 23 = .ok (.if_icmp .gt 7, 3) := by decide +kernel
theorem dX11_see_26 : decode cX11_see 26 = .ok (.iconst 1, 1) := by decide +kernel
theorem dX11_see_27 : decode cX11_see 27 = .ok (.goto 4, 3) := by decide +kernel
theorem dX11_see_30 : decode cX11_see 30 = .ok (.iconst 0, 1) := by decide +kernel
theorem dX11_see_31 : decode cX11_see 31 = .ok (.istore 4, 2) := by decide +kernel
theorem dX11_see_33 : decode cX11_see 33 = .ok (.iload 4, 2) := by decide +kernel
theorem dX11_see_35 : decode cX11_see 35 = .ok (.ifCond .eq 16, 3) := by decide +kernel
theorem dX11_see_38 : decode cX11_see 38 = .ok (.aload_n 0, 1) := by decide +kernel
theorem dX11_see_39 : decode cX11_see 39 = .ok (.getfield 61, 3) := by decide +kernel
theorem dX11_see_42 : decode cX11_see 42 = .ok (.iload_n 1, 1) := by decide +kernel
theorem dX11_see_43 : decode cX11_see 43 = .ok (.iload_n 2, 1) := by decide +kernel
theorem dX11_see_44 : decode cX11_see 44 = .ok (.iload_n 3, 1) := by decide +kernel
theorem dX11_see_45 : decode cX11_see 45 = .ok (.invokevirtual 304, 3) := by decide +kernel
theorem dX11_see_48 : decode cX11_see 48 = .ok (.ifCond .ne 9, 3) := by decide +kernel
theorem dX11_see_51 : decode cX11_see 51 = .ok (.aload_n 0, 1) := by decide +kernel
theorem dX11_see_52 : decode cX11_see 52 = .ok (.iconst 2, 1) := by decide +kernel
theorem dX11_see_53 : decode cX11_see 53 = .ok (.invokevirtual 114, 3) := by decide +kernel
theorem dX11_see_56 : decode cX11_see 56 = .ok (.ireturn, 1) := by decide +kernel
theorem dX11_see_57 : decode cX11_see 57 = .ok (.aload_n 0, 1) := by decide +kernel
theorem dX11_see_58 : decode cX11_see 58 = .ok (.getfield 61, 3) := by decide +kernel
theorem dX11_see_61 : decode cX11_see 61 = .ok (.getfield 171, 3) := by decide +kernel
theorem dX11_see_64 : decode cX11_see 64 = .ok (.ireturn, 1) := by decide +kernel
theorem dX11_fast_0 : decode cX11_fast 0 = .ok (.aload_n 0, 1) := by decide +kernel
theorem dX11_fast_1 : decode cX11_fast 1 = .ok (.iload_n 1, 1) := by decide +kernel
theorem dX11_fast_2 : decode cX11_fast 2 = .ok (.iconst 3, 1) := by decide +kernel
theorem dX11_fast_3 : decode cX11_fast 3 = .ok (.invokevirtual 133, 3) := by decide +kernel
theorem dX11_fast_6 : decode cX11_fast 6 = .ok (.iload_n 1, 1) := by decide +kernel
theorem dX11_fast_7 : decode cX11_fast 7 = .ok (.iconst 2, 1) := by decide +kernel
theorem dX11_fast_8 : decode cX11_fast 8 = .ok (.if_icmp .ne 18, 3) := by decide +kernel
theorem dX11_fast_11 : decode cX11_fast 11 = .ok (.aload_n 0, 1) := by decide +kernel
theorem dX11_fast_12 : decode cX11_fast 12 = .ok (.iconst (-1), 1) := by decide +kernel
theorem dX11_fast_13 : decode cX11_fast 13 = .ok (.iconst (-1), 1) := by decide +kernel
theorem dX11_fast_14 : decode cX11_fast 14 = .ok (.invokevirtual 307, 3) := by decide +kernel
theorem dX11_fast_17 : decode cX11_fast 17 = .ok (.ifCond .eq 7, 3) := by decide +kernel
theorem dX11_fast_20 : decode cX11_fast 20 = .ok (.iconst 1, 1) := by decide +kernel
theorem dX11_fast_21 : decode cX11_fast 21 = .ok (.goto 4, 3) := by decide +kernel
theorem dX11_fast_24 : decode cX11_fast 24 = .ok (.iconst 0, 1) := by decide +kernel
theorem dX11_fast_25 : decode cX11_fast 25 = .ok (.ireturn, 1) := by decide +kernel
theorem dX11_fast_26 : decode cX11_fast 26 = .ok (.iconst 0, 1) := by decide +kernel
theorem dX11_fast_27 : decode cX11_fast 27 = .ok (.istore_n 2, 1) := by decide +kernel
theorem dX11_fast_28 : decode cX11_fast 28 = .ok (.iconst 0, 1) := by decide +kernel
theorem dX11_fast_29 : decode cX11_fast 29 = .ok (.istore_n 3, 1) := by decide +kernel
theorem dX11_fast_30 : decode cX11_fast 30 = .ok (.iload_n 3, 1) := by decide +kernel
theorem dX11_fast_31 : decode cX11_fast 31 = .ok (.aload_n 0, 1) := by decide +kernel
theorem dX11_fast_32 : decode cX11_fast 32 = .ok (.getfield 23, 3) := by decide +kernel
theorem dX11_fast_35 : decode cX11_fast 35 = .ok (.getfield 143, 3) := by decide +kernel
theorem dX11_fast_38 : decode cX11_fast 38 = .ok (.if_icmp .ge 51, 3) := by decide +kernel
theorem dX11_fast_41 : decode cX11_fast 41 = .ok (.iconst 0, 1) := by decide +kernel
theorem dX11_fast_42 : decode cX11_fast 42 = .ok (.istore 4, 2) := by decide +kernel
theorem dX11_fast_44 : decode cX11_fast 44 = .ok (.iload 4, 2) := by decide +kernel
theorem dX11_fast_46 : decode cX11_fast 46 = .ok (.bipush 60, 2) := by decide +kernel
theorem dX11_fast_48 : decode cX11_fast 48 = .ok (.if_icmp .ge 35, 3) := by decide +kernel
theorem dX11_fast_51 : decode cX11_fast 51 = .ok (.aload_n 0, 1) := by decide +kernel
theorem dX11_fast_52 : decode cX11_fast 52 = .ok (.iload_n 3, 1) := by decide +kernel
theorem dX11_fast_53 : decode cX11_fast 53 = .ok (.iload 4, 2) := by decide +kernel
theorem dX11_fast_55 : decode cX11_fast 55 = .ok (.invokevirtual 307, 3) := by decide +kernel
theorem dX11_fast_58 : decode cX11_fast 58 = .ok (.ifCond .eq 19, 3) := by decide +kernel
theorem dX11_fast_61 : decode cX11_fast 61 = .ok (.iload_n 1, 1) := by decide +kernel
theorem dX11_fast_62 : decode cX11_fast 62 = .ok (.iconst 1, 1) := by decide +kernel
theorem dX11_fast_63 : decode cX11_fast 63 = .ok (.if_icmp .ne 11, 3) := by decide +kernel
theorem dX11_fast_66 : decode cX11_fast 66 = .ok (.bipush 100, 2) := by decide +kernel
theorem dX11_fast_68 : decode cX11_fast 68 = .ok (.iload_n 3, 1) := by decide +kernel
theorem dX11_fast_69 : decode cX11_fast 69 = .ok (.imul, 1) := by decide +kernel
theorem dX11_fast_70 : decode cX11_fast 70 = .ok (.iload 4, 2) := by decide +kernel
theorem dX11_fast_72 : decode cX11_fast 72 = .ok (.iadd, 1) := by decide +kernel
theorem dX11_fast_73 : decode cX11_fast 73 = .ok (.ireturn, 1) := by decide +kernel
theorem dX11_fast_74 : decode cX11_fast 74 = .ok (.iinc 2 1, 3) := by decide +kernel
theorem dX11_fast_77 : decode cX11_fast 77 = .ok (.iinc 4 1, 3) := by decide +kernel
theorem dX11_fast_80 : decode cX11_fast 80 = .ok (.goto (-36), 3) := by decide +kernel
theorem dX11_fast_83 : decode cX11_fast 83 = .ok (.iinc 3 1, 3) := by decide +kernel
theorem dX11_fast_86 : decode cX11_fast 86 = .ok (.goto (-56), 3) := by decide +kernel
theorem dX11_fast_89 : decode cX11_fast 89 = .ok (.iload_n 1, 1) := by decide +kernel
theorem dX11_fast_90 : decode cX11_fast 90 = .ok (.ifCond .ne 7, 3) := by decide +kernel
theorem dX11_fast_93 : decode cX11_fast 93 = .ok (.iload_n 2, 1) := by decide +kernel
theorem dX11_fast_94 : decode cX11_fast 94 = .ok (.goto 4, 3) := by decide +kernel
theorem dX11_fast_97 : decode cX11_fast 97 = .ok (.iconst (-1), 1) := by decide +kernel
theorem dX11_fast_98 : decode cX11_fast 98 = .ok (.ireturn, 1) := by decide +kernel
theorem dX11_isAllSeenBy_0 : decode cX11_isAllSeenBy 0 = .ok (.iload_n 1, 1) := by decide +kernel
theorem dX11_isAllSeenBy_1 : decode cX11_isAllSeenBy 1 = .ok (.iconst (-1), 1) := by decide +kernel
theorem dX11_isAllSeenBy_2 : decode cX11_isAllSeenBy 2 = .ok (.if_icmp .eq 17, 3) := by decide +kernel
theorem dX11_isAllSeenBy_5 : decode cX11_isAllSeenBy 5 = .ok (.aload_n 0, 1) := by decide +kernel
theorem dX11_isAllSeenBy_6 : decode cX11_isAllSeenBy 6 = .ok (.getfield 44, 3) := by decide +kernel
theorem dX11_isAllSeenBy_9 : decode cX11_isAllSeenBy 9 = .ok (.iload_n 1, 1) := by decide +kernel
theorem dX11_isAllSeenBy_10 : decode cX11_isAllSeenBy 10 = .ok (.invokevirtual 182, 3) := by decide +kernel
theorem dX11_isAllSeenBy_13 : decode cX11_isAllSeenBy 13 = .ok (.iload_n 2, 1) := by decide +kernel
theorem dX11_isAllSeenBy_14 : decode cX11_isAllSeenBy 14 = .ok (.if_icmp .ne 5, 3) := by decide +kernel
theorem dX11_isAllSeenBy_17 : decode cX11_isAllSeenBy 17 = .ok (.iconst 0, 1) := by decide +kernel
theorem dX11_isAllSeenBy_18 : decode cX11_isAllSeenBy 18 = .ok (.ireturn, 1) := by decide +kernel
theorem dX11_isAllSeenBy_19 : decode cX11_isAllSeenBy 19 = .ok (.aload_n 0, 1) := by decide +kernel
theorem dX11_isAllSeenBy_20 : decode cX11_isAllSeenBy 20 = .ok (.invokevirtual 233, 3) := by decide +kernel
theorem dX11_isAllSeenBy_23 : decode cX11_isAllSeenBy 23 = .ok (.aload_n 0, 1) := by decide +kernel
theorem dX11_isAllSeenBy_24 : decode cX11_isAllSeenBy 24 = .ok (.getfield 48, 3) := by decide +kernel
theorem dX11_isAllSeenBy_27 : decode cX11_isAllSeenBy 27 = .ok (.iload_n 1, 1) := by decide +kernel
theorem dX11_isAllSeenBy_28 : decode cX11_isAllSeenBy 28 = .ok (.iload_n 2, 1) := by decide +kernel
theorem dX11_isAllSeenBy_29 : decode cX11_isAllSeenBy 29 = .ok (.invokevirtual 215, 3) := by decide +kernel
theorem dX11_isAllSeenBy_32 : decode cX11_isAllSeenBy 32 = .ok (.aload_n 0, 1) := by decide +kernel
theorem dX11_isAllSeenBy_33 : decode cX11_isAllSeenBy 33 = .ok (.getfield 61, 3) := by decide +kernel
theorem dX11_isAllSeenBy_36 : decode cX11_isAllSeenBy 36 = .ok (.invokevirtual 310, 3) := by decide +kernel
theorem dX11_isAllSeenBy_39 : decode cX11_isAllSeenBy 39 = .ok (.bipush 20, 2) := by decide +kernel
theorem dX11_isAllSeenBy_41 : decode cX11_isAllSeenBy 41 = .ok (.invokestatic 313, 3) := by decide +kernel
theorem dX11_isAllSeenBy_44 : decode cX11_isAllSeenBy 44 = .ok (.istore_n 3, 1) := by decide +kernel
theorem dX11_isAllSeenBy_45 : decode cX11_isAllSeenBy 45 = .ok (.iconst 0, 1) := by decide +kernel
theorem dX11_isAllSeenBy_46 : decode cX11_isAllSeenBy 46 = .ok (.istore 4, 2) := by decide +kernel
theorem dX11_isAllSeenBy_48 : decode cX11_isAllSeenBy 48 = .ok (.iload 4, 2) := by decide +kernel
theorem dX11_isAllSeenBy_50 : decode cX11_isAllSeenBy 50 = .ok (.iload_n 3, 1) := by decide +kernel
theorem dX11_isAllSeenBy_51 : decode cX11_isAllSeenBy 51 = .ok (.if_icmp .ge 43, 3) := by decide +kernel
theorem dX11_isAllSeenBy_54 : decode cX11_isAllSeenBy 54 = .ok (.aload_n 0, 1) := by decide +kernel
theorem dX11_isAllSeenBy_55 : decode cX11_isAllSeenBy 55 = .ok (.getfield 61, 3) := by decide +kernel
theorem dX11_isAllSeenBy_58 : decode cX11_isAllSeenBy 58 = .ok (.iload 4, 2) := by decide +kernel
theorem dX11_isAllSeenBy_60 : decode cX11_isAllSeenBy 60 = .ok (.aload_n 0, 1) := by decide +kernel
theorem dX11_isAllSeenBy_61 : decode cX11_isAllSeenBy 61 = .ok (.getfield 48, 3) := by decide +kernel
theorem dX11_isAllSeenBy_64 : decode cX11_isAllSeenBy 64 = .ok (.invokevirtual 316, 3) := by decide +kernel
theorem dX11_isAllSeenBy_67 : decode cX11_isAllSeenBy 67 = .ok (.ifCond .ne 5, 3) := by decide +kernel
theorem dX11_isAllSeenBy_70 : decode cX11_isAllSeenBy 70 = .ok (.iconst 0, 1) := by decide +kernel
theorem dX11_isAllSeenBy_71 : decode cX11_isAllSeenBy 71 = .ok (.ireturn, 1) := by decide +kernel
theorem dX11_isAllSeenBy_72 : decode cX11_isAllSeenBy 72 = .ok (.aload_n 0, 1) := by decide +kernel
theorem dX11_isAllSeenBy_73 : decode cX11_isAllSeenBy 73 = .ok (.getfield 37, 3) := by decide +kernel
theorem dX11_isAllSeenBy_76 : decode cX11_isAllSeenBy 76 = .ok (.aload_n 0, 1) := by decide +kernel
theorem dX11_isAllSeenBy_77 : decode cX11_isAllSeenBy 77 = .ok (.getfield 23, 3) := by decide +kernel
theorem dX11_isAllSeenBy_80 : decode cX11_isAllSeenBy 80 = .ok (.aload_n 0, 1) := by decide +kernel
theorem dX11_isAllSeenBy_81 : decode cX11_isAllSeenBy 81 = .ok (.getfield 48, 3) := by decide +kernel
theorem dX11_isAllSeenBy_84 : decode cX11_isAllSeenBy 84 = .ok (.iconst 1, 1) := by decide +kernel
theorem dX11_isAllSeenBy_85 : decode cX11_isAllSeenBy 85 = .ok (.invokevirtual 211, 3) := by decide +kernel
theorem dX11_isAllSeenBy_88 : decode cX11_isAllSeenBy 88 = .ok (.iinc 4 1, 3) := by decide +kernel
theorem dX11_isAllSeenBy_91 : decode cX11_isAllSeenBy 91 = .ok (.goto (-43), 3) := by decide +kernel
theorem dX11_isAllSeenBy_94 : decode cX11_isAllSeenBy 94 = .ok (.aload_n 0, 1) := by decide +kernel
theorem dX11_isAllSeenBy_95 : decode cX11_isAllSeenBy 95 = .ok (.getfield 61, 3) := by decide +kernel
theorem dX11_isAllSeenBy_98 : decode cX11_isAllSeenBy 98 = .ok (.iload_n 3, 1) := by decide +kernel
theorem dX11_isAllSeenBy_99 : decode cX11_isAllSeenBy 99 = .ok (.aload_n 0, 1) := by decide +kernel
theorem dX11_isAllSeenBy_100 : decode cX11_isAllSeenBy 100 = .ok (.getfield 48, 3) := by decide +kernel
theorem dX11_isAllSeenBy_103 : decode cX11_isAllSeenBy 103 = .ok (.invokevirtual 316, 3) := by decide +kernel
theorem dX11_isAllSeenBy_106 : decode cX11_isAllSeenBy 106 = .ok (.ireturn, 1) := by decide +kernel
theorem dX11_look_0 : decode cX11_look 0 = .ok (.aload_n 0, 1) := by decide +kernel
theorem dX11_look_1 : decode cX11_look 1 = .ok (.iload_n 1, 1) := by decide +kernel
theorem dX11_look_2 : decode cX11_look 2 = .ok (.iconst 2, 1) := by decide +kernel
theorem dX11_look_3 : decode cX11_look 3 = .ok (.invokevirtual 133, 3) := by decide +kernel
theorem dX11_look_6 : decode cX11_look 6 = .ok (.aload_n 0, 1) := by decide +kernel
theorem dX11_look_7 : decode cX11_look 7 = .ok (.getfield 86, 3) := by decide +kernel
theorem dX11_look_10 : decode cX11_look 10 = .ok (.invokevirtual 320, 3) := by decide +kernel
theorem dX11_look_13 : decode cX11_look 13 = .ok (.iconst 0, 1) := by decide +kernel
theorem dX11_look_14 : decode cX11_look 14 = .ok (.istore_n 2, 1) := by decide +kernel
theorem dX11_look_15 : decode cX11_look 15 = .ok (.iload_n 2, 1) := by decide +kernel
theorem dX11_look_16 : decode cX11_look 16 = .ok (.aload_n 0, 1) := by decide +kernel
theorem dX11_look_17 : decode cX11_look 17 = .ok (.getfield 23, 3) := by decide +kernel
theorem dX11_look_20 : decode cX11_look 20 = .ok (.getfield 143, 3) := by decide +kernel
theorem dX11_look_23 : decode cX11_look 23 = .ok (.if_icmp .ge 79, 3) := by decide +kernel
theorem dX11_look_26 : decode cX11_look 26 = .ok (.iconst 0, 1) := by decide +kernel
theorem dX11_look_27 : decode cX11_look 27 = .ok (.istore_n 3, 1) := by decide +kernel
theorem dX11_look_28 : decode cX11_look 28 = .ok (.iload_n 3, 1) := by decide +kernel
theorem dX11_look_29 : decode cX11_look 29 = .ok (.bipush 60, 2) := by decide +kernel
theorem dX11_look_31 : decode cX11_look 31 = .ok (.if_icmp .ge 65, 3) := by decide +kernel
theorem dX11_look_34 : decode cX11_look 34 = .ok (.aload_n 0, 1) := by decide +kernel
theorem dX11_look_35 : decode cX11_look 35 = .ok (.iload_n 2, 1) := by decide +kernel
theorem dX11_look_36 : decode cX11_look 36 = .ok (.iload_n 3, 1) := by decide +kernel
theorem dX11_look_37 : decode cX11_look 37 = .ok (.invokevirtual 307, 3) := by decide +kernel
theorem dX11_look_40 : decode cX11_look 40 = .ok (.ifCond .eq 50, 3) := by decide +kernel
theorem dX11_look_43 : decode cX11_look 43 = .ok (.aload_n 0, 1) := by decide +kernel
theorem dX11_look_44 : decode cX11_look 44 = .ok (.invokevirtual 233, 3) := by decide +kernel
theorem dX11_look_47 : decode cX11_look 47 = .ok (.aload_n 0, 1) := by decide +kernel
theorem dX11_look_48 : decode cX11_look 48 = .ok (.getfield 48, 3) := by decide +kernel
theorem dX11_look_51 : decode cX11_look 51 = .ok (.iload_n 2, 1) := by decide +kernel
theorem dX11_look_52 : decode cX11_look 52 = .ok (.iload_n 3, 1) := by decide +kernel
theorem dX11_look_53 : decode cX11_look 53 = .ok (.invokevirtual 215, 3) := by decide +kernel
theorem dX11_look_56 : decode cX11_look 56 = .ok (.aload_n 0, 1) := by decide +kernel
theorem dX11_look_57 : decode cX11_look 57 = .ok (.getfield 37, 3) := by decide +kernel
theorem dX11_look_60 : decode cX11_look 60 = .ok (.aload_n 0, 1) := by decide +kernel
theorem dX11_look_61 : decode cX11_look 61 = .ok (.getfield 23, 3) := by decide +kernel
theorem dX11_look_64 : decode cX11_look 64 = .ok (.aload_n 0, 1) := by decide +kernel
theorem dX11_look_65 : decode cX11_look 65 = .ok (.getfield 48, 3) := by decide +kernel
theorem dX11_look_68 : decode cX11_look 68 = .ok (.iconst 5, 1) := by decide +kernel
theorem dX11_look_69 : decode cX11_look 69 = .ok (.invokevirtual 211, 3) := by decide +kernel
theorem dX11_look_72 : decode cX11_look 72 = .ok (.aload_n 0, 1) := by decide +kernel
theorem dX11_look_73 : decode cX11_look 73 = .ok (.getfield 86, 3) := by decide +kernel
theorem dX11_look_76 : decode cX11_look 76 = .ok (.aload_n 0, 1) := by decide +kernel
theorem dX11_look_77 : decode cX11_look 77 = .ok (.getfield 48, 3) := by decide +kernel
theorem dX11_look_80 : decode cX11_look 80 = .ok (.aload_n 0, 1) := by decide +kernel
theorem dX11_look_81 : decode cX11_look 81 = .ok (.getfield 23, 3) := by decide +kernel
theorem dX11_look_84 : decode cX11_look 84 = .ok (.getfield 143, 3) := by decide +kernel
theorem dX11_look_87 : decode cX11_look 87 = .ok (.invokevirtual 321, 3) := by decide +kernel
theorem dX11_look_90 : decode cX11_look 90 = .ok (.iinc 3 1, 3) := by decide +kernel
theorem dX11_look_93 : decode cX11_look 93 = .ok (.goto (-65), 3) := by decide +kernel
theorem dX11_look_96 : decode cX11_look 96 = .ok (.iinc 2 1, 3) := by decide +kernel
theorem dX11_look_99 : decode cX11_look 99 = .ok (.goto (-84), 3) := by decide +kernel
theorem dX11_look_102 : decode cX11_look 102 = .ok (.aload_n 0, 1) := by decide +kernel
theorem dX11_look_103 : decode cX11_look 103 = .ok (.getfield 86, 3) := by decide +kernel
theorem dX11_look_106 : decode cX11_look 106 = .ok (.invokevirtual 325, 3) := by decide +kernel
theorem dX11_look_109 : decode cX11_look 109 = .ok (.istore_n 2, 1) := by decide +kernel
theorem dX11_look_110 : decode cX11_look 110 = .ok (.iload_n 1, 1) := by decide +kernel
theorem dX11_look_111 : decode cX11_look 111 = .ok (.ifCond .ne 7, 3) := by decide +kernel
theorem dX11_look_114 : decode cX11_look 114 = .ok (.iload_n 2, 1) := by decide +kernel
theorem dX11_look_115 : decode cX11_look 115 = .ok (.goto 11, 3) := by decide +kernel
theorem dX11_look_118 : decode cX11_look 118 = .ok (.aload_n 0, 1) := by decide +kernel
theorem dX11_look_119 : decode cX11_look 119 = .ok (.getfield 86, 3) := by decide +kernel
theorem dX11_look_122 : decode cX11_look 122 = .ok (.iload_n 2, 1) := by decide +kernel
theorem dX11_look_123 : decode cX11_look 123 = .ok (.invokevirtual 328, 3) := by decide +kernel
theorem dX11_look_126 : decode cX11_look 126 = .ok (.ireturn, 1) := by decide +kernel
theorem dX11_forget_0 : decode cX11_forget 0 = .ok (.aload_n 0, 1) := by decide +kernel
theorem dX11_forget_1 : decode cX11_forget 1 = .ok (.getfield 61, 3) := by decide +kernel
theorem dX11_forget_4 : decode cX11_forget 4 = .ok (.invokevirtual 128, 3) := by decide +kernel
theorem dX11_forget_7 : decode cX11_forget 7 = .ok (.return_, 1) := by decide +kernel
theorem dX11_fog_0 : decode cX11_fog 0 = .ok (.aload_n 0, 1) := by decide +kernel
theorem dX11_fog_1 : decode cX11_fog 1 = .ok (.iload_n 1, 1) := by decide +kernel
theorem dX11_fog_2 : decode cX11_fog 2 = .ok (.invokevirtual 176, 3) := by decide +kernel
theorem dX11_fog_5 : decode cX11_fog 5 = .ok (.aload_n 0, 1) := by decide +kernel
theorem dX11_fog_6 : decode cX11_fog 6 = .ok (.iload_n 2, 1) := by decide +kernel
theorem dX11_fog_7 : decode cX11_fog 7 = .ok (.iconst 1, 1) := by decide +kernel
theorem dX11_fog_8 : decode cX11_fog 8 = .ok (.iconst 5, 1) := by decide +kernel
theorem dX11_fog_9 : decode cX11_fog 9 = .ok (.invokevirtual 229, 3) := by decide +kernel
theorem dX11_fog_12 : decode cX11_fog 12 = .ok (.aload_n 0, 1) := by decide +kernel
theorem dX11_fog_13 : decode cX11_fog 13 = .ok (.iload_n 3, 1) := by decide +kernel
theorem dX11_fog_14 : decode cX11_fog 14 = .ok (.iconst 0, 1) := by decide +kernel
theorem dX11_fog_15 : decode cX11_fog 15 = .ok (.bipush 10, 2) := by decide +kernel
theorem dX11_fog_17 : decode cX11_fog 17 = .ok (.invokevirtual 229, 3) := by decide +kernel
theorem dX11_fog_20 : decode cX11_fog 20 = .ok (.iconst 0, 1) := by decide +kernel
theorem dX11_fog_21 : decode cX11_fog 21 = .ok (.istore 4, 2) := by decide +kernel
theorem dX11_fog_23 : decode cX11_fog 23 = .ok (.iconst 0, 1) := by decide +kernel
theorem dX11_fog_24 : decode cX11_fog 24 = .ok (.istore 5, 2) := by decide +kernel
theorem dX11_fog_26 : decode cX11_fog 26 = .ok (.iload 5, 2) := by decide +kernel
theorem dX11_fog_28 : decode cX11_fog 28 = .ok (.iconst 1, 1) := by decide +kernel
theorem dX11_fog_29 : decode cX11_fog 29 = .ok (.iload_n 2, 1) := by decide +kernel
theorem dX11_fog_30 : decode cX11_fog 30 = .ok (.ishl, 1) := by decide +kernel
theorem dX11_fog_31 : decode cX11_fog 31 = .ok (.if_icmp .ge 101, 3) := by decide +kernel
theorem dX11_fog_34 : decode cX11_fog 34 = .ok (.iconst 1, 1) := by decide +kernel
theorem dX11_fog_35 : decode cX11_fog 35 = .ok (.istore 6, 2) := by decide +kernel
theorem dX11_fog_37 : decode cX11_fog 37 = .ok (.aload_n 0, 1) := by decide +kernel
theorem dX11_fog_38 : decode cX11_fog 38 = .ok (.invokevirtual 233, 3) := by decide +kernel
theorem dX11_fog_41 : decode cX11_fog 41 = .ok (.iconst 0, 1) := by decide +kernel
theorem dX11_fog_42 : decode cX11_fog 42 = .ok (.istore 7, 2) := by decide +kernel
theorem dX11_fog_44 : decode cX11_fog 44 = .ok (.iload 7, 2) := by decide +kernel
theorem dX11_fog_46 : decode cX11_fog 46 = .ok (.iload_n 2, 1) := by decide +kernel
theorem dX11_fog_47 : decode cX11_fog 47 = .ok (.if_icmp .ge 61, 3) := by decide +kernel
theorem dX11_fog_50 : decode cX11_fog 50 = .ok (.iload 5, 2) := by decide +kernel
theorem dX11_fog_52 : decode cX11_fog 52 = .ok (.iload 7, 2) := by decide +kernel
theorem dX11_fog_54 : decode cX11_fog 54 = .ok (.ishr, 1) := by decide +kernel
theorem dX11_fog_55 : decode cX11_fog 55 = .ok (.iconst 1, 1) := by decide +kernel
theorem dX11_fog_56 : decode cX11_fog 56 = .ok (.iand, 1) := by decide +kernel
theorem dX11_fog_57 : decode cX11_fog 57 = .ok (.iconst 1, 1) := by decide +kernel
theorem dX11_fog_58 : decode cX11_fog 58 = .ok (.if_icmp .ne 19, 3) := by decide +kernel
theorem dX11_fog_61 : decode cX11_fog 61 = .ok (.iload 6, 2) := by decide +kernel
theorem dX11_fog_63 : decode cX11_fog 63 = .ok (.iload_n 3, 1) := by decide +kernel
theorem dX11_fog_64 : decode cX11_fog 64 = .ok (.imul, 1) := by decide +kernel
theorem dX11_fog_65 : decode cX11_fog 65 = .ok (.istore 6, 2) := by decide +kernel
theorem dX11_fog_67 : decode cX11_fog 67 = .ok (.aload_n 0, 1) := by decide +kernel
theorem dX11_fog_68 : decode cX11_fog 68 = .ok (.getfield 48, 3) := by decide +kernel
theorem dX11_fog_71 : decode cX11_fog 71 = .ok (.invokevirtual 331, 3) := by decide +kernel
theorem dX11_fog_74 : decode cX11_fog 74 = .ok (.goto 28, 3) := by decide +kernel
theorem dX11_fog_77 : decode cX11_fog 77 = .ok (.iload 6, 2) := by decide +kernel
theorem dX11_fog_79 : decode cX11_fog 79 = .ok (.bipush 10, 2) := by decide +kernel
theorem dX11_fog_81 : decode cX11_fog 81 = .ok (.iload_n 3, 1) := by decide +kernel
theorem dX11_fog_82 : decode cX11_fog 82 = .ok (.isub, 1) := by decide +kernel
theorem dX11_fog_83 : decode cX11_fog 83 = .ok (.imul, 1) := by decide +kernel
theorem dX11_fog_84 : decode cX11_fog 84 = .ok (.istore 6, 2) := by decide +kernel
theorem dX11_fog_86 : decode cX11_fog 86 = .ok (.aload_n 0, 1) := by decide +kernel
theorem dX11_fog_87 : decode cX11_fog 87 = .ok (.getfield 37, 3) := by decide +kernel
theorem dX11_fog_90 : decode cX11_fog 90 = .ok (.aload_n 0, 1) := by decide +kernel
theorem dX11_fog_91 : decode cX11_fog 91 = .ok (.getfield 23, 3) := by decide +kernel
theorem dX11_fog_94 : decode cX11_fog 94 = .ok (.aload_n 0, 1) := by decide +kernel
theorem dX11_fog_95 : decode cX11_fog 95 = .ok (.getfield 48, 3) := by decide +kernel
theorem dX11_fog_98 : decode cX11_fog 98 = .ok (.iconst 1, 1) := by decide +kernel
theorem dX11_fog_99 : decode cX11_fog 99 = .ok (.invokevirtual 211, 3) := by decide +kernel
theorem dX11_fog_102 : decode cX11_fog 102 = .ok (.iinc 7 1, 3) := by decide +kernel
theorem dX11_fog_105 : decode cX11_fog 105 = .ok (.goto (-61), 3) := by decide +kernel
theorem dX11_fog_108 : decode cX11_fog 108 = .ok (.aload_n 0, 1) := by decide +kernel
theorem dX11_fog_109 : decode cX11_fog 109 = .ok (.getfield 48, 3) := by decide +kernel
theorem dX11_fog_112 : decode cX11_fog 112 = .ok (.iload_n 1, 1) := by decide +kernel
theorem dX11_fog_113 : decode cX11_fog 113 = .ok (.invokevirtual 239, 3) := by decide +kernel
theorem dX11_fog_116 : decode cX11_fog 116 = .ok (.ifCond .eq 10, 3) := by decide +kernel
theorem dX11_fog_119 : decode cX11_fog 119 = .ok (.iload 4, 2) := by decide +kernel
theorem dX11_fog_121 : decode cX11_fog 121 = .ok (.iload 6, 2) := by decide +kernel
theorem dX11_fog_123 : decode cX11_fog 123 = .ok (.iadd, 1) := by decide +kernel
theorem dX11_fog_124 : decode cX11_fog 124 = .ok (.istore 4, 2) := by decide +kernel
theorem dX11_fog_126 : decode cX11_fog 126 = .ok (.iinc 5 1, 3) := by decide +kernel
theorem dX11_fog_129 : decode cX11_fog 129 = .ok (.goto (-103), 3) := by decide +kernel
theorem dX11_fog_132 : decode cX11_fog 132 = .ok (.iload 4, 2) := by decide +kernel
theorem dX11_fog_134 : decode cX11_fog 134 = .ok (.ireturn, 1) := by decide +kernel
theorem dX11_game_0 : decode cX11_game 0 = .ok (.aload_n 0, 1) := by decide +kernel
theorem dX11_game_1 : decode cX11_game 1 = .ok (.iload_n 1, 1) := by decide +kernel
theorem dX11_game_2 : decode cX11_game 2 = .ok (.invokevirtual 176, 3) := by decide +kernel
theorem dX11_game_5 : decode cX11_game 5 = .ok (.aload_n 0, 1) := by decide +kernel
theorem dX11_game_6 : decode cX11_game 6 = .ok (.iload_n 2, 1) := by decide +kernel
theorem dX11_game_7 : decode cX11_game 7 = .ok (.invokevirtual 176, 3) := by decide +kernel
theorem dX11_game_10 : decode cX11_game 10 = .ok (.aload_n 0, 1) := by decide +kernel
theorem dX11_game_11 : decode cX11_game 11 = .ok (.iload_n 3, 1) := by decide +kernel
theorem dX11_game_12 : decode cX11_game 12 = .ok (.iconst 2, 1) := by decide +kernel
theorem dX11_game_13 : decode cX11_game 13 = .ok (.invokevirtual 133, 3) := by decide +kernel
theorem dX11_game_16 : decode cX11_game 16 = .ok (.iload_n 1, 1) := by decide +kernel
theorem dX11_game_17 : decode cX11_game 17 = .ok (.iload_n 2, 1) := by decide +kernel
theorem dX11_game_18 : decode cX11_game 18 = .ok (.if_icmp .ne 14, 3) := by decide +kernel
theorem dX11_game_21 : decode cX11_game 21 = .ok (.new 100, 3) := by decide +kernel
theorem dX11_game_24 : decode cX11_game 24 = .ok (.dup, 1) := by decide +kernel
theorem dX11_game_25 : decode cX11_game 25 = .ok (.ldc_w 334, 3) := by decide +kernel
theorem dX11_game_28 : decode cX11_game 28 = .ok (.invokespecial 104, 3) := by decide +kernel
theorem dX11_game_31 : decode cX11_game 31 = .ok (.athrow, 1) := by decide +kernel
theorem dX11_game_32 : decode cX11_game 32 = .ok (.iconst 0, 1) := by decide +kernel
theorem dX11_game_33 : decode cX11_game 33 = .ok (.istore 4, 2) := by decide +kernel
theorem dX11_game_35 : decode cX11_game 35 = .ok (.iload 4, 2) := by decide +kernel
theorem dX11_game_37 : decode cX11_game 37 = .ok (.iconst 4, 1) := by decide +kernel
theorem dX11_game_38 : decode cX11_game 38 = .ok (.if_icmp .ge 17, 3) := by decide +kernel
theorem dX11_game_41 : decode cX11_game 41 = .ok (.aload_n 0, 1) := by decide +kernel
theorem dX11_game_42 : decode cX11_game 42 = .ok (.iload_n 1, 1) := by decide +kernel
theorem dX11_game_43 : decode cX11_game 43 = .ok (.iload_n 2, 1) := by decide +kernel
theorem dX11_game_44 : decode cX11_game 44 = .ok (.iload 4, 2) := by decide +kernel
theorem dX11_game_46 : decode cX11_game 46 = .ok (.invokevirtual 336, 3) := by decide +kernel
theorem dX11_game_49 : decode cX11_game 49 = .ok (.iinc 4 1, 3) := by decide +kernel
theorem dX11_game_52 : decode cX11_game 52 = .ok (.goto (-17), 3) := by decide +kernel
theorem dX11_game_55 : decode cX11_game 55 = .ok (.iconst 0, 1) := by decide +kernel
theorem dX11_game_56 : decode cX11_game 56 = .ok (.istore 4, 2) := by decide +kernel
theorem dX11_game_58 : decode cX11_game 58 = .ok (.iconst (-1), 1) := by decide +kernel
theorem dX11_game_59 : decode cX11_game 59 = .ok (.istore 5, 2) := by decide +kernel
theorem dX11_game_61 : decode cX11_game 61 = .ok (.iconst 0, 1) := by decide +kernel
theorem dX11_game_62 : decode cX11_game 62 = .ok (.istore 6, 2) := by decide +kernel
theorem dX11_game_64 : decode cX11_game 64 = .ok (.iload 6, 2) := by decide +kernel
theorem dX11_game_66 : decode cX11_game 66 = .ok (.iconst 4, 1) := by decide +kernel
theorem dX11_game_67 : decode cX11_game 67 = .ok (.if_icmp .ge 45, 3) := by decide +kernel
theorem dX11_game_70 : decode cX11_game 70 = .ok (.aload_n 0, 1) := by decide +kernel
theorem dX11_game_71 : decode cX11_game 71 = .ok (.iload 6, 2) := by decide +kernel
theorem dX11_game_73 : decode cX11_game 73 = .ok (.invokevirtual 339, 3) := by decide +kernel
theorem dX11_game_76 : decode cX11_game 76 = .ok (.ifCond .eq 30, 3) := by decide +kernel
theorem dX11_game_79 : decode cX11_game 79 = .ok (.iload 4, 2) := by decide +kernel
theorem dX11_game_81 : decode cX11_game 81 = .ok (.ifCond .ne 18, 3) := by decide +kernel
theorem dX11_game_84 : decode cX11_game 84 = .ok (.bipush 10, 2) := by decide +kernel
theorem dX11_game_86 : decode cX11_game 86 = .ok (.iload 6, 2) := by decide +kernel
theorem dX11_game_88 : decode cX11_game 88 = .ok (.iconst 1, 1) := by decide +kernel
theorem dX11_game_89 : decode cX11_game 89 = .ok (.ishr, 1) := by decide +kernel
theorem dX11_game_90 : decode cX11_game 90 = .ok (.imul, 1) := by decide +kernel
theorem dX11_game_91 : decode cX11_game 91 = .ok (.iload 6, 2) := by decide +kernel
theorem dX11_game_93 : decode cX11_game 93 = .ok (.iconst 1, 1) := by decide +kernel
theorem dX11_game_94 : decode cX11_game 94 = .ok (.iand, 1) := by decide +kernel
theorem dX11_game_95 : decode cX11_game 95 = .ok (.iadd, 1) := by decide +kernel
theorem dX11_game_96 : decode cX11_game 96 = .ok (.goto 5, 3) := by decide +kernel
theorem dX11_game_99 : decode cX11_game 99 = .ok (.iload 5, 2) := by decide +kernel
theorem dX11_game_101 : decode cX11_game 101 = .ok (.istore 5, 2) := by decide +kernel
theorem dX11_game_103 : decode cX11_game 103 = .ok (.iinc 4 1, 3) := by decide +kernel
theorem dX11_game_106 : decode cX11_game 106 = .ok (.iinc 6 1, 3) := by decide +kernel
theorem dX11_game_109 : decode cX11_game 109 = .ok (.goto (-45), 3) := by decide +kernel
theorem dX11_game_112 : decode cX11_game 112 = .ok (.iload_n 3, 1) := by decide +kernel
theorem dX11_game_113 : decode cX11_game 113 = .ok (.ifCond .ne 8, 3) := by decide +kernel
theorem dX11_game_116 : decode cX11_game 116 = .ok (.iload 4, 2) := by decide +kernel
theorem dX11_game_118 : decode cX11_game 118 = .ok (.goto 5, 3) := by decide +kernel
theorem dX11_game_121 : decode cX11_game 121 = .ok (.iload 5, 2) := by decide +kernel
theorem dX11_game_123 : decode cX11_game 123 = .ok (.ireturn, 1) := by decide +kernel
theorem dX11_play_0 : decode cX11_play 0 = .ok (.iload_n 3, 1) := by decide +kernel
theorem dX11_play_1 : decode cX11_play 1 = .ok (.iconst 1, 1) := by decide +kernel
theorem dX11_play_2 : decode cX11_play 2 = .ok (.ishr, 1) := by decide +kernel
theorem dX11_play_3 : decode cX11_play 3 = .ok (.iconst 1, 1) := by decide +kernel
theorem dX11_play_4 : decode cX11_play 4 = .ok (.iand, 1) := by decide +kernel
theorem dX11_play_5 : decode cX11_play 5 = .ok (.istore 4, 2) := by decide +kernel
theorem dX11_play_7 : decode cX11_play 7 = .ok (.iload_n 3, 1) := by decide +kernel
theorem dX11_play_8 : decode cX11_play 8 = .ok (.iconst 1, 1) := by decide +kernel
theorem dX11_play_9 : decode cX11_play 9 = .ok (.iand, 1) := by decide +kernel
theorem dX11_play_10 : decode cX11_play 10 = .ok (.istore 5, 2) := by decide +kernel
theorem dX11_play_12 : decode cX11_play 12 = .ok (.aload_n 0, 1) := by decide +kernel
theorem dX11_play_13 : decode cX11_play 13 = .ok (.invokevirtual 233, 3) := by decide +kernel
theorem dX11_play_16 : decode cX11_play 16 = .ok (.iload 4, 2) := by decide +kernel
theorem dX11_play_18 : decode cX11_play 18 = .ok (.iconst 1, 1) := by decide +kernel
theorem dX11_play_19 : decode cX11_play 19 = .ok (.if_icmp .ne 11, 3) := by decide +kernel
theorem dX11_play_22 : decode cX11_play 22 = .ok (.aload_n 0, 1) := by decide +kernel
theorem dX11_play_23 : decode cX11_play 23 = .ok (.getfield 48, 3) := by decide +kernel
theorem dX11_play_26 : decode cX11_play 26 = .ok (.iload_n 1, 1) := by decide +kernel
theorem dX11_play_27 : decode cX11_play 27 = .ok (.invokevirtual 342, 3) := by decide +kernel
theorem dX11_play_30 : decode cX11_play 30 = .ok (.iload 5, 2) := by decide +kernel
theorem dX11_play_32 : decode cX11_play 32 = .ok (.iconst 1, 1) := by decide +kernel
theorem dX11_play_33 : decode cX11_play 33 = .ok (.if_icmp .ne 11, 3) := by decide +kernel
theorem dX11_play_36 : decode cX11_play 36 = .ok (.aload_n 0, 1) := by decide +kernel
theorem dX11_play_37 : decode cX11_play 37 = .ok (.getfield 48, 3) := by decide +kernel
theorem dX11_play_40 : decode cX11_play 40 = .ok (.iload_n 2, 1) := by decide +kernel
theorem dX11_play_41 : decode cX11_play 41 = .ok (.invokevirtual 342, 3) := by decide +kernel
theorem dX11_play_44 : decode cX11_play 44 = .ok (.aload_n 0, 1) := by decide +kernel
theorem dX11_play_45 : decode cX11_play 45 = .ok (.getfield 37, 3) := by decide +kernel
theorem dX11_play_48 : decode cX11_play 48 = .ok (.aload_n 0, 1) := by decide +kernel
theorem dX11_play_49 : decode cX11_play 49 = .ok (.getfield 23, 3) := by decide +kernel
theorem dX11_play_52 : decode cX11_play 52 = .ok (.aload_n 0, 1) := by decide +kernel
theorem dX11_play_53 : decode cX11_play 53 = .ok (.getfield 48, 3) := by decide +kernel
theorem dX11_play_56 : decode cX11_play 56 = .ok (.bipush 6, 2) := by decide +kernel
theorem dX11_play_58 : decode cX11_play 58 = .ok (.invokevirtual 211, 3) := by decide +kernel
theorem dX11_play_61 : decode cX11_play 61 = .ok (.iload_n 3, 1) := by decide +kernel
theorem dX11_play_62 : decode cX11_play 62 = .ok (.ifCond .lt 56, 3) := by decide +kernel
theorem dX11_play_65 : decode cX11_play 65 = .ok (.iload_n 3, 1) := by decide +kernel
theorem dX11_play_66 : decode cX11_play 66 = .ok (.iconst 4, 1) := by decide +kernel
theorem dX11_play_67 : decode cX11_play 67 = .ok (.if_icmp .ge 51, 3) := by decide +kernel
theorem dX11_play_70 : decode cX11_play 70 = .ok (.aload_n 0, 1) := by decide +kernel
theorem dX11_play_71 : decode cX11_play 71 = .ok (.getfield 90, 3) := by decide +kernel
theorem dX11_play_74 : decode cX11_play 74 = .ok (.iconst 2, 1) := by decide +kernel
theorem dX11_play_75 : decode cX11_play 75 = .ok (.iload_n 3, 1) := by decide +kernel
theorem dX11_play_76 : decode cX11_play 76 = .ok (.imul, 1) := by decide +kernel
theorem dX11_play_77 : decode cX11_play 77 = .ok (.aload_n 0, 1) := by decide +kernel
theorem dX11_play_78 : decode cX11_play 78 = .ok (.getfield 48, 3) := by decide +kernel
theorem dX11_play_81 : decode cX11_play 81 = .ok (.iload_n 1, 1) := by decide +kernel
theorem dX11_play_82 : decode cX11_play 82 = .ok (.invokevirtual 179, 3) := by decide +kernel
theorem dX11_play_85 : decode cX11_play 85 = .ok (.iconst 4, 1) := by decide +kernel
theorem dX11_play_86 : decode cX11_play 86 = .ok (.idiv, 1) := by decide +kernel
theorem dX11_play_87 : decode cX11_play 87 = .ok (.iconst 2, 1) := by decide +kernel
theorem dX11_play_88 : decode cX11_play 88 = .ok (.iload 4, 2) := by decide +kernel
theorem dX11_play_90 : decode cX11_play 90 = .ok (.imul, 1) := by decide +kernel
theorem dX11_play_91 : decode cX11_play 91 = .ok (.isub, 1) := by decide +kernel
theorem dX11_play_92 : decode cX11_play 92 = .ok (.iastore, 1) := by decide +kernel
theorem dX11_play_93 : decode cX11_play 93 = .ok (.aload_n 0, 1) := by decide +kernel
theorem dX11_play_94 : decode cX11_play 94 = .ok (.getfield 90, 3) := by decide +kernel
theorem dX11_play_97 : decode cX11_play 97 = .ok (.iconst 2, 1) := by decide +kernel
theorem dX11_play_98 : decode cX11_play 98 = .ok (.iload_n 3, 1) := by decide +kernel
theorem dX11_play_99 : decode cX11_play 99 = .ok (.imul, 1) := by decide +kernel
theorem dX11_play_100 : decode cX11_play 100 = .ok (.iconst 1, 1) := by decide +kernel
theorem dX11_play_101 : decode cX11_play 101 = .ok (.iadd, 1) := by decide +kernel
theorem dX11_play_102 : decode cX11_play 102 = .ok (.aload_n 0, 1) := by decide +kernel
theorem dX11_play_103 : decode cX11_play 103 = .ok (.getfield 48, 3) := by decide +kernel
theorem dX11_play_106 : decode cX11_play 106 = .ok (.iload_n 2, 1) := by decide +kernel
theorem dX11_play_107 : decode cX11_play 107 = .ok (.invokevirtual 179, 3) := by decide +kernel
theorem dX11_play_110 : decode cX11_play 110 = .ok (.iconst 4, 1) := by decide +kernel
theorem dX11_play_111 : decode cX11_play 111 = .ok (.idiv, 1) := by decide +kernel
theorem dX11_play_112 : decode cX11_play 112 = .ok (.iconst 2, 1) := by decide +kernel
theorem dX11_play_113 : decode cX11_play 113 = .ok (.iload 5, 2) := by decide +kernel
theorem dX11_play_115 : decode cX11_play 115 = .ok (.imul, 1) := by decide +kernel
theorem dX11_play_116 : decode cX11_play 116 = .ok (.isub, 1) := by decide +kernel
theorem dX11_play_117 : decode cX11_play 117 = .ok (.iastore, 1) := by decide +kernel
theorem dX11_play_118 : decode cX11_play 118 = .ok (.return_, 1) := by decide +kernel
theorem dX11_isAtRest_0 : decode cX11_isAtRest 0 = .ok (.aload_n 0, 1) := by decide +kernel
theorem dX11_isAtRest_1 : decode cX11_isAtRest 1 = .ok (.iload_n 1, 1) := by decide +kernel
theorem dX11_isAtRest_2 : decode cX11_isAtRest 2 = .ok (.iconst 0, 1) := by decide +kernel
theorem dX11_isAtRest_3 : decode cX11_isAtRest 3 = .ok (.invokevirtual 345, 3) := by decide +kernel
theorem dX11_isAtRest_6 : decode cX11_isAtRest 6 = .ok (.aload_n 0, 1) := by decide +kernel
theorem dX11_isAtRest_7 : decode cX11_isAtRest 7 = .ok (.iload_n 1, 1) := by decide +kernel
theorem dX11_isAtRest_8 : decode cX11_isAtRest 8 = .ok (.iconst 2, 1) := by decide +kernel
theorem dX11_isAtRest_9 : decode cX11_isAtRest 9 = .ok (.ixor, 1) := by decide +kernel
theorem dX11_isAtRest_10 : decode cX11_isAtRest 10 = .ok (.iconst 0, 1) := by decide +kernel
theorem dX11_isAtRest_11 : decode cX11_isAtRest 11 = .ok (.invokevirtual 345, 3) := by decide +kernel
theorem dX11_isAtRest_14 : decode cX11_isAtRest 14 = .ok (.if_icmp .lt 24, 3) := by decide +kernel
theorem dX11_isAtRest_17 : decode cX11_isAtRest 17 = .ok (.aload_n 0, 1) := by decide +kernel
theorem dX11_isAtRest_18 : decode cX11_isAtRest 18 = .ok (.iload_n 1, 1) := by decide +kernel
theorem dX11_isAtRest_19 : decode cX11_isAtRest 19 = .ok (.iconst 1, 1) := by decide +kernel
theorem dX11_isAtRest_20 : decode cX11_isAtRest 20 = .ok (.invokevirtual 345, 3) := by decide +kernel
theorem dX11_isAtRest_23 : decode cX11_isAtRest 23 = .ok (.aload_n 0, 1) := by decide +kernel
theorem dX11_isAtRest_24 : decode cX11_isAtRest 24 = .ok (.iload_n 1, 1) := by decide +kernel
theorem dX11_isAtRest_25 : decode cX11_isAtRest 25 = .ok (.iconst 1, 1) := by decide +kernel
theorem dX11_isAtRest_26 : decode cX11_isAtRest 26 = .ok (.ixor, 1) := by decide +kernel
theorem dX11_isAtRest_27 : decode cX11_isAtRest 27 = .ok (.iconst 1, 1) := by decide +kernel
theorem dX11_isAtRest_28 : decode cX11_isAtRest 28 = .ok (.invokevirtual 345, 3) := by decide +kernel
theorem dX11_isAtRest_31 : decode cX11_isAtRest 31 = .ok (.if_icmp .lt 7, 3) := by decide +kernel
theorem dX11_isAtRest_34 : decode cX11_isAtRest 34 = .ok (.iconst 1, 1) := by decide +kernel
theorem dX11_isAtRest_35 : decode cX11_isAtRest 35 = .ok (.goto 4, 3) := by decide +kernel
theorem dX11_isAtRest_38 : decode cX11_isAtRest 38 = .ok (.iconst 0, 1) := by decide +kernel
theorem dX11_isAtRest_39 : decode cX11_isAtRest 39 = .ok (.ireturn, 1) := by decide +kernel
theorem dX11_gainBy_0 : decode cX11_gainBy 0 = .ok (.iconst 2, 1) := by decide +kernel
theorem dX11_gainBy_1 : decode cX11_gainBy 1 = .ok (.iload_n 1, 1) := by decide +kernel
theorem dX11_gainBy_2 : decode cX11_gainBy 2 = .ok (.imul, 1) := by decide +kernel
theorem dX11_gainBy_3 : decode cX11_gainBy 3 = .ok (.iload_n 2, 1) := by decide +kernel
theorem dX11_gainBy_4 : decode cX11_gainBy 4 = .ok (.iadd, 1) := by decide +kernel
theorem dX11_gainBy_5 : decode cX11_gainBy 5 = .ok (.istore_n 3, 1) := by decide +kernel
theorem dX11_gainBy_6 : decode cX11_gainBy 6 = .ok (.iload_n 3, 1) := by decide +kernel
theorem dX11_gainBy_7 : decode cX11_gainBy 7 = .ok (.ifCond .lt 21, 3) := by decide +kernel
theorem dX11_gainBy_10 : decode cX11_gainBy 10 = .ok (.iload_n 3, 1) := by decide +kernel
theorem dX11_gainBy_11 : decode cX11_gainBy 11 = .ok (.aload_n 0, 1) := by decide +kernel
theorem dX11_gainBy_12 : decode cX11_gainBy 12 = .ok (.getfield 90, 3) := by decide +kernel
theorem dX11_gainBy_15 : decode cX11_gainBy 15 = .ok (.arraylength, 1) := by decide +kernel
theorem dX11_gainBy_16 : decode cX11_gainBy 16 = .ok (.if_icmp .ge 12, 3) := by decide +kernel
theorem dX11_gainBy_19 : decode cX11_gainBy 19 = .ok (.aload_n 0, 1) := by decide +kernel
theorem dX11_gainBy_20 : decode cX11_gainBy 20 = .ok (.getfield 90, 3) := by decide +kernel
theorem dX11_gainBy_23 : decode cX11_gainBy 23 = .ok (.iload_n 3, 1) := by decide +kernel
theorem dX11_gainBy_24 : decode cX11_gainBy 24 = .ok (.iaload, 1) := by decide +kernel
theorem dX11_gainBy_25 : decode cX11_gainBy 25 = .ok (.goto 4, 3) := by decide +kernel
theorem dX11_gainBy_28 : decode cX11_gainBy 28 = .ok (.iconst 0, 1) := by decide +kernel
theorem dX11_gainBy_29 : decode cX11_gainBy 29 = .ok (.ireturn, 1) := by decide +kernel
theorem dX11_years_0 : decode cX11_years 0 = .ok (.aload_n 0, 1) := by decide +kernel
theorem dX11_years_1 : decode cX11_years 1 = .ok (.iload_n 3, 1) := by decide +kernel
theorem dX11_years_2 : decode cX11_years 2 = .ok (.iconst 3, 1) := by decide +kernel
theorem dX11_years_3 : decode cX11_years 3 = .ok (.invokevirtual 133, 3) := by decide +kernel
theorem dX11_years_6 : decode cX11_years 6 = .ok (.aload_n 0, 1) := by decide +kernel
theorem dX11_years_7 : decode cX11_years 7 = .ok (.iload_n 2, 1) := by decide +kernel
theorem dX11_years_8 : decode cX11_years 8 = .ok (.iconst 0, 1) := by decide +kernel
theorem dX11_years_9 : decode cX11_years 9 = .ok (.bipush 60, 2) := by decide +kernel
theorem dX11_years_11 : decode cX11_years 11 = .ok (.invokevirtual 229, 3) := by decide +kernel
theorem dX11_years_14 : decode cX11_years 14 = .ok (.aload_n 0, 1) := by decide +kernel
theorem dX11_years_15 : decode cX11_years 15 = .ok (.iload_n 1, 1) := by decide +kernel
theorem dX11_years_16 : decode cX11_years 16 = .ok (.putfield 93, 3) := by decide +kernel
theorem dX11_years_19 : decode cX11_years 19 = .ok (.aload_n 0, 1) := by decide +kernel
theorem dX11_years_20 : decode cX11_years 20 = .ok (.invokevirtual 233, 3) := by decide +kernel
theorem dX11_years_23 : decode cX11_years 23 = .ok (.iconst 0, 1) := by decide +kernel
theorem dX11_years_24 : decode cX11_years 24 = .ok (.istore 4, 2) := by decide +kernel
theorem dX11_years_26 : decode cX11_years 26 = .ok (.iload 4, 2) := by decide +kernel
theorem dX11_years_28 : decode cX11_years 28 = .ok (.iload_n 2, 1) := by decide +kernel
theorem dX11_years_29 : decode cX11_years 29 = .ok (.if_icmp .ge 29, 3) := by decide +kernel
theorem dX11_years_32 : decode cX11_years 32 = .ok (.aload_n 0, 1) := by decide +kernel
theorem dX11_years_33 : decode cX11_years 33 = .ok (.invokevirtual 348, 3) := by decide +kernel
theorem dX11_years_36 : decode cX11_years 36 = .ok (.aload_n 0, 1) := by decide +kernel
theorem dX11_years_37 : decode cX11_years 37 = .ok (.getfield 37, 3) := by decide +kernel
theorem dX11_years_40 : decode cX11_years 40 = .ok (.aload_n 0, 1) := by decide +kernel
theorem dX11_years_41 : decode cX11_years 41 = .ok (.getfield 23, 3) := by decide +kernel
theorem dX11_years_44 : decode cX11_years 44 = .ok (.aload_n 0, 1) := by decide +kernel
theorem dX11_years_45 : decode cX11_years 45 = .ok (.getfield 48, 3) := by decide +kernel
theorem dX11_years_48 : decode cX11_years 48 = .ok (.iconst 1, 1) := by decide +kernel
theorem dX11_years_49 : decode cX11_years 49 = .ok (.invokevirtual 211, 3) := by decide +kernel
theorem dX11_years_52 : decode cX11_years 52 = .ok (.iinc 4 1, 3) := by decide +kernel
theorem dX11_years_55 : decode cX11_years 55 = .ok (.goto (-29), 3) := by decide +kernel
theorem dX11_years_58 : decode cX11_years 58 = .ok (.iload_n 3, 1) := by decide +kernel
theorem dX11_years_59 : decode cX11_years 59 = .ok (.lookupswitch 41 #[(0, 25), (1, 33)], 25) := by decide +kernel
theorem dX11_years_84 : decode cX11_years 84 = .ok (.aload_n 0, 1) := by decide +kernel
theorem dX11_years_85 : decode cX11_years 85 = .ok (.getfield 37, 3) := by decide +kernel
theorem dX11_years_88 : decode cX11_years 88 = .ok (.getfield 248, 3) := by decide +kernel
theorem dX11_years_91 : decode cX11_years 91 = .ok (.ireturn, 1) := by decide +kernel
theorem dX11_years_92 : decode cX11_years 92 = .ok (.aload_n 0, 1) := by decide +kernel
theorem dX11_years_93 : decode cX11_years 93 = .ok (.getfield 48, 3) := by decide +kernel
theorem dX11_years_96 : decode cX11_years 96 = .ok (.invokevirtual 162, 3) := by decide +kernel
theorem dX11_years_99 : decode cX11_years 99 = .ok (.ireturn, 1) := by decide +kernel
theorem dX11_years_100 : decode cX11_years 100 = .ok (.aload_n 0, 1) := by decide +kernel
theorem dX11_years_101 : decode cX11_years 101 = .ok (.getfield 48, 3) := by decide +kernel
theorem dX11_years_104 : decode cX11_years 104 = .ok (.invokevirtual 155, 3) := by decide +kernel
theorem dX11_years_107 : decode cX11_years 107 = .ok (.ireturn, 1) := by decide +kernel
theorem dX11_drawOnce_0 : decode cX11_drawOnce 0 = .ok (.aload_n 0, 1) := by decide +kernel
theorem dX11_drawOnce_1 : decode cX11_drawOnce 1 = .ok (.bipush 6, 2) := by decide +kernel
theorem dX11_drawOnce_3 : decode cX11_drawOnce 3 = .ok (.invokevirtual 351, 3) := by decide +kernel
theorem dX11_drawOnce_6 : decode cX11_drawOnce 6 = .ok (.istore_n 1, 1) := by decide +kernel
theorem dX11_drawOnce_7 : decode cX11_drawOnce 7 = .ok (.iload_n 1, 1) := by decide +kernel
theorem dX11_drawOnce_8 : decode cX11_drawOnce 8 = .ok (.iconst 3, 1) := by decide +kernel
theorem dX11_drawOnce_9 : decode cX11_drawOnce 9 = .ok (.if_icmp .ne 16, 3) := by decide +kernel
theorem dX11_drawOnce_12 : decode cX11_drawOnce 12 = .ok (.aload_n 0, 1) := by decide +kernel
theorem dX11_drawOnce_13 : decode cX11_drawOnce 13 = .ok (.getfield 48, 3) := by decide +kernel
theorem dX11_drawOnce_16 : decode cX11_drawOnce 16 = .ok (.aload_n 0, 1) := by decide +kernel
theorem dX11_drawOnce_17 : decode cX11_drawOnce 17 = .ok (.bipush 60, 2) := by decide +kernel
theorem dX11_drawOnce_19 : decode cX11_drawOnce 19 = .ok (.invokevirtual 351, 3) := by decide +kernel
theorem dX11_drawOnce_22 : decode cX11_drawOnce 22 = .ok (.putfield 149, 3) := by decide +kernel
theorem dX11_drawOnce_25 : decode cX11_drawOnce 25 = .ok (.iload_n 1, 1) := by decide +kernel
theorem dX11_drawOnce_26 : decode cX11_drawOnce 26 = .ok (.iconst 2, 1) := by decide +kernel
theorem dX11_drawOnce_27 : decode cX11_drawOnce 27 = .ok (.if_icmp .gt 13, 3) := by decide +kernel
theorem dX11_drawOnce_30 : decode cX11_drawOnce 30 = .ok (.aload_n 0, 1) := by decide +kernel
theorem dX11_drawOnce_31 : decode cX11_drawOnce 31 = .ok (.getfield 23, 3) := by decide +kernel
theorem dX11_drawOnce_34 : decode cX11_drawOnce 34 = .ok (.getfield 143, 3) := by decide +kernel
theorem dX11_drawOnce_37 : decode cX11_drawOnce 37 = .ok (.ifCond .gt 4, 3) := by decide +kernel
theorem dX11_drawOnce_40 : decode cX11_drawOnce 40 = .ok (.return_, 1) := by decide +kernel
theorem dX11_drawOnce_41 : decode cX11_drawOnce 41 = .ok (.aload_n 0, 1) := by decide +kernel
theorem dX11_drawOnce_42 : decode cX11_drawOnce 42 = .ok (.aload_n 0, 1) := by decide +kernel
theorem dX11_drawOnce_43 : decode cX11_drawOnce 43 = .ok (.getfield 23, 3) := by decide +kernel
theorem dX11_drawOnce_46 : decode cX11_drawOnce 46 = .ok (.getfield 143, 3) := by decide +kernel
theorem dX11_drawOnce_49 : decode cX11_drawOnce 49 = .ok (.invokevirtual 351, 3) := by decide +kernel
theorem dX11_drawOnce_52 : decode cX11_drawOnce 52 = .ok (.istore_n 2, 1) := by decide +kernel
theorem dX11_drawOnce_53 : decode cX11_drawOnce 53 = .ok (.iload_n 1, 1) := by decide +kernel
theorem dX11_drawOnce_54 : decode cX11_drawOnce 54 = .ok (.ifCond .ne 20, 3) := by decide +kernel
theorem dX11_drawOnce_57 : decode cX11_drawOnce 57 = .ok (.aload_n 0, 1) := by decide +kernel
theorem dX11_drawOnce_58 : decode cX11_drawOnce 58 = .ok (.getfield 48, 3) := by decide +kernel
theorem dX11_drawOnce_61 : decode cX11_drawOnce 61 = .ok (.iload_n 2, 1) := by decide +kernel
theorem dX11_drawOnce_62 : decode cX11_drawOnce 62 = .ok (.aload_n 0, 1) := by decide +kernel
theorem dX11_drawOnce_63 : decode cX11_drawOnce 63 = .ok (.bipush 60, 2) := by decide +kernel
theorem dX11_drawOnce_65 : decode cX11_drawOnce 65 = .ok (.invokevirtual 351, 3) := by decide +kernel
theorem dX11_drawOnce_68 : decode cX11_drawOnce 68 = .ok (.invokevirtual 215, 3) := by decide +kernel
theorem dX11_drawOnce_71 : decode cX11_drawOnce 71 = .ok (.goto 45, 3) := by decide +kernel
theorem dX11_drawOnce_74 : decode cX11_drawOnce 74 = .ok (.iload_n 1, 1) := by decide +kernel
theorem dX11_drawOnce_75 : decode cX11_drawOnce 75 = .ok (.iconst 1, 1) := by decide +kernel
theorem dX11_drawOnce_76 : decode cX11_drawOnce 76 = .ok (.if_icmp .ne 30, 3) := by decide +kernel
theorem dX11_drawOnce_79 : decode cX11_drawOnce 79 = .ok (.aload_n 0, 1) := by decide +kernel
theorem dX11_drawOnce_80 : decode cX11_drawOnce 80 = .ok (.getfield 48, 3) := by decide +kernel
theorem dX11_drawOnce_83 : decode cX11_drawOnce 83 = .ok (.iload_n 2, 1) := by decide +kernel
theorem dX11_drawOnce_84 : decode cX11_drawOnce 84 = .ok (.aload_n 0, 1) := by decide +kernel
theorem dX11_drawOnce_85 : decode cX11_drawOnce 85 = .ok (.getfield 48, 3) := by decide +kernel
theorem dX11_drawOnce_88 : decode cX11_drawOnce 88 = .ok (.iload_n 2, 1) := by decide +kernel
theorem dX11_drawOnce_89 : decode cX11_drawOnce 89 = .ok (.invokevirtual 201, 3) := by decide +kernel
theorem dX11_drawOnce_92 : decode cX11_drawOnce 92 = .ok (.ifCond .ne 7, 3) := by decide +kernel
theorem dX11_drawOnce_95 : decode cX11_drawOnce 95 = .ok (.iconst 1, 1) := by decide +kernel
theorem dX11_drawOnce_96 : decode cX11_drawOnce 96 = .ok (.goto 4, 3) := by decide +kernel
theorem dX11_drawOnce_99 : decode cX11_drawOnce 99 = .ok (.iconst 0, 1) := by decide +kernel
theorem dX11_drawOnce_100 : decode cX11_drawOnce 100 = .ok (.invokevirtual 221, 3) := by decide +kernel
theorem dX11_drawOnce_103 : decode cX11_drawOnce 103 = .ok (.goto 13, 3) := by decide +kernel
theorem dX11_drawOnce_106 : decode cX11_drawOnce 106 = .ok (.aload_n 0, 1) := by decide +kernel
theorem dX11_drawOnce_107 : decode cX11_drawOnce 107 = .ok (.getfield 48, 3) := by decide +kernel
theorem dX11_drawOnce_110 : decode cX11_drawOnce 110 = .ok (.iload_n 2, 1) := by decide +kernel
theorem dX11_drawOnce_111 : decode cX11_drawOnce 111 = .ok (.bipush 20, 2) := by decide +kernel
theorem dX11_drawOnce_113 : decode cX11_drawOnce 113 = .ok (.invokevirtual 218, 3) := by decide +kernel
theorem dX11_drawOnce_116 : decode cX11_drawOnce 116 = .ok (.return_, 1) := by decide +kernel
theorem dX11_draw_0 : decode cX11_draw 0 = .ok (.aload_n 0, 1) := by decide +kernel
theorem dX11_draw_1 : decode cX11_draw 1 = .ok (.aload_n 0, 1) := by decide +kernel
theorem dX11_draw_2 : decode cX11_draw 2 = .ok (.getfield 93, 3) := by decide +kernel
theorem dX11_draw_5 : decode cX11_draw 5 = .ok (.ldc_w 354, 3) := by decide +kernel
theorem dX11_draw_8 : decode cX11_draw 8 = .ok (.imul, 1) := by decide +kernel
theorem dX11_draw_9 : decode cX11_draw 9 = .ok (.sipush 12345, 3) := by decide +kernel
theorem dX11_draw_12 : decode cX11_draw 12 = .ok (.iadd, 1) := by decide +kernel
theorem dX11_draw_13 : decode cX11_draw 13 = .ok (.putfield 93, 3) := by decide +kernel
theorem dX11_draw_16 : decode cX11_draw 16 = .ok (.iload_n 1, 1) := by decide +kernel
theorem dX11_draw_17 : decode cX11_draw 17 = .ok (.ifCond .le 19, 3) := by decide +kernel
theorem dX11_draw_20 : decode cX11_draw 20 = .ok (.aload_n 0, 1) := by decide +kernel
theorem dX11_draw_21 : decode cX11_draw 21 = .ok (.getfield 93, 3) := by decide +kernel
theorem dX11_draw_24 : decode cX11_draw 24 = .ok (.bipush 16, 2) := by decide +kernel
theorem dX11_draw_26 : decode cX11_draw 26 = .ok (.iushr, 1) := by decide +kernel
theorem dX11_draw_27 : decode cX11_draw 27 = .ok (.sipush 32767, 3) := by decide +kernel
theorem dX11_draw_30 : decode cX11_draw 30 = .ok (.iand, 1) := by decide +kernel
theorem dX11_draw_31 : decode cX11_draw 31 = .ok (.iload_n 1, 1) := by decide +kernel
theorem dX11_draw_32 : decode cX11_draw 32 = .ok (.irem, 1) := by decide +kernel
theorem dX11_draw_33 : decode cX11_draw 33 = .ok (.goto 4, 3) := by decide +kernel
theorem dX11_draw_36 : decode cX11_draw 36 = .ok (.iconst 0, 1) := by decide +kernel
theorem dX11_draw_37 : decode cX11_draw 37 = .ok (.ireturn, 1) := by decide +kernel
theorem dX11_image_0 : decode cX11_image 0 = .ok (.aload_n 0, 1) := by decide +kernel
theorem dX11_image_1 : decode cX11_image 1 = .ok (.getfield 72, 3) := by decide +kernel
theorem dX11_image_4 : decode cX11_image 4 = .ok (.getfield 355, 3) := by decide +kernel
theorem dX11_image_7 : decode cX11_image 7 = .ok (.aload_n 0, 1) := by decide +kernel
theorem dX11_image_8 : decode cX11_image 8 = .ok (.getfield 44, 3) := by decide +kernel
theorem dX11_image_11 : decode cX11_image 11 = .ok (.invokevirtual 358, 3) := by decide +kernel
theorem dX11_image_14 : decode cX11_image 14 = .ok (.aload_n 0, 1) := by decide +kernel
theorem dX11_image_15 : decode cX11_image 15 = .ok (.getfield 72, 3) := by decide +kernel
theorem dX11_image_18 : decode cX11_image 18 = .ok (.getfield 361, 3) := by decide +kernel
theorem dX11_image_21 : decode cX11_image 21 = .ok (.aload_n 0, 1) := by decide +kernel
theorem dX11_image_22 : decode cX11_image 22 = .ok (.getfield 54, 3) := by decide +kernel
theorem dX11_image_25 : decode cX11_image 25 = .ok (.invokevirtual 362, 3) := by decide +kernel
theorem dX11_image_28 : decode cX11_image 28 = .ok (.aload_n 0, 1) := by decide +kernel
theorem dX11_image_29 : decode cX11_image 29 = .ok (.getfield 72, 3) := by decide +kernel
theorem dX11_image_32 : decode cX11_image 32 = .ok (.getfield 365, 3) := by decide +kernel
theorem dX11_image_35 : decode cX11_image 35 = .ok (.aload_n 0, 1) := by decide +kernel
theorem dX11_image_36 : decode cX11_image 36 = .ok (.getfield 61, 3) := by decide +kernel
theorem dX11_image_39 : decode cX11_image 39 = .ok (.invokevirtual 366, 3) := by decide +kernel
theorem dX11_image_42 : decode cX11_image 42 = .ok (.aload_n 0, 1) := by decide +kernel
theorem dX11_image_43 : decode cX11_image 43 = .ok (.getfield 65, 3) := by decide +kernel
theorem dX11_image_46 : decode cX11_image 46 = .ok (.iconst 0, 1) := by decide +kernel
theorem dX11_image_47 : decode cX11_image 47 = .ok (.aload_n 0, 1) := by decide +kernel
theorem dX11_image_48 : decode cX11_image 48 = .ok (.getfield 72, 3) := by decide +kernel
theorem dX11_image_51 : decode cX11_image 51 = .ok (.getfield 369, 3) := by decide +kernel
theorem dX11_image_54 : decode cX11_image 54 = .ok (.iconst 0, 1) := by decide +kernel
theorem dX11_image_55 : decode cX11_image 55 = .ok (.iconst 3, 1) := by decide +kernel
theorem dX11_image_56 : decode cX11_image 56 = .ok (.invokestatic 370, 3) := by decide +kernel
theorem dX11_image_59 : decode cX11_image 59 = .ok (.aload_n 0, 1) := by decide +kernel
theorem dX11_image_60 : decode cX11_image 60 = .ok (.getfield 72, 3) := by decide +kernel
theorem dX11_image_63 : decode cX11_image 63 = .ok (.iconst 1, 1) := by decide +kernel
theorem dX11_image_64 : decode cX11_image 64 = .ok (.putfield 129, 3) := by decide +kernel
theorem dX11_image_67 : decode cX11_image 67 = .ok (.return_, 1) := by decide +kernel
theorem dX11_restore_0 : decode cX11_restore 0 = .ok (.aload_n 0, 1) := by decide +kernel
theorem dX11_restore_1 : decode cX11_restore 1 = .ok (.getfield 72, 3) := by decide +kernel
theorem dX11_restore_4 : decode cX11_restore 4 = .ok (.getfield 129, 3) := by decide +kernel
theorem dX11_restore_7 : decode cX11_restore 7 = .ok (.ifCond .ne 5, 3) := by decide +kernel
theorem dX11_restore_10 : decode cX11_restore 10 = .ok (.iconst 0, 1) := by decide +kernel
theorem dX11_restore_11 : decode cX11_restore 11 = .ok (.ireturn, 1) := by decide +kernel
theorem dX11_restore_12 : decode cX11_restore 12 = .ok (.aload_n 0, 1) := by decide +kernel
theorem dX11_restore_13 : decode cX11_restore 13 = .ok (.getfield 44, 3) := by decide +kernel
theorem dX11_restore_16 : decode cX11_restore 16 = .ok (.aload_n 0, 1) := by decide +kernel
theorem dX11_restore_17 : decode cX11_restore 17 = .ok (.getfield 72, 3) := by decide +kernel
theorem dX11_restore_20 : decode cX11_restore 20 = .ok (.getfield 355, 3) := by decide +kernel
theorem dX11_restore_23 : decode cX11_restore 23 = .ok (.invokevirtual 358, 3) := by decide +kernel
theorem dX11_restore_26 : decode cX11_restore 26 = .ok (.aload_n 0, 1) := by decide +kernel
theorem dX11_restore_27 : decode cX11_restore 27 = .ok (.getfield 54, 3) := by decide +kernel
theorem dX11_restore_30 : decode cX11_restore 30 = .ok (.aload_n 0, 1) := by decide +kernel
theorem dX11_restore_31 : decode cX11_restore 31 = .ok (.getfield 72, 3) := by decide +kernel
theorem dX11_restore_34 : decode cX11_restore 34 = .ok (.getfield 361, 3) := by decide +kernel
theorem dX11_restore_37 : decode cX11_restore 37 = .ok (.invokevirtual 362, 3) := by decide +kernel
theorem dX11_restore_40 : decode cX11_restore 40 = .ok (.aload_n 0, 1) := by decide +kernel
theorem dX11_restore_41 : decode cX11_restore 41 = .ok (.getfield 61, 3) := by decide +kernel
theorem dX11_restore_44 : decode cX11_restore 44 = .ok (.aload_n 0, 1) := by decide +kernel
theorem dX11_restore_45 : decode cX11_restore 45 = .ok (.getfield 72, 3) := by decide +kernel
theorem dX11_restore_48 : decode cX11_restore 48 = .ok (.getfield 365, 3) := by decide +kernel
theorem dX11_restore_51 : decode cX11_restore 51 = .ok (.invokevirtual 366, 3) := by decide +kernel
theorem dX11_restore_54 : decode cX11_restore 54 = .ok (.aload_n 0, 1) := by decide +kernel
theorem dX11_restore_55 : decode cX11_restore 55 = .ok (.getfield 72, 3) := by decide +kernel
theorem dX11_restore_58 : decode cX11_restore 58 = .ok (.getfield 369, 3) := by decide +kernel
theorem dX11_restore_61 : decode cX11_restore 61 = .ok (.iconst 0, 1) := by decide +kernel
theorem dX11_restore_62 : decode cX11_restore 62 = .ok (.aload_n 0, 1) := by decide +kernel
theorem dX11_restore_63 : decode cX11_restore 63 = .ok (.getfield 65, 3) := by decide +kernel
theorem dX11_restore_66 : decode cX11_restore 66 = .ok (.iconst 0, 1) := by decide +kernel
theorem dX11_restore_67 : decode cX11_restore 67 = .ok (.iconst 3, 1) := by decide +kernel
theorem dX11_restore_68 : decode cX11_restore 68 = .ok (.invokestatic 370, 3) := by decide +kernel
theorem dX11_restore_71 : decode cX11_restore 71 = .ok (.iconst 1, 1) := by decide +kernel
theorem dX11_restore_72 : decode cX11_restore 72 = .ok (.ireturn, 1) := by decide +kernel
theorem dX11_needPerson_0 : decode cX11_needPerson 0 = .ok (.iload_n 1, 1) := by decide +kernel
theorem dX11_needPerson_1 : decode cX11_needPerson 1 = .ok (.ifCond .lt 14, 3) := by decide +kernel
theorem dX11_needPerson_4 : decode cX11_needPerson 4 = .ok (.iload_n 1, 1) := by decide +kernel
theorem dX11_needPerson_5 : decode cX11_needPerson 5 = .ok (.aload_n 0, 1) := by decide +kernel
theorem dX11_needPerson_6 : decode cX11_needPerson 6 = .ok (.getfield 23, 3) := by decide +kernel
theorem dX11_needPerson_9 : decode cX11_needPerson 9 = .ok (.getfield 143, 3) := by decide +kernel
theorem dX11_needPerson_12 : decode cX11_needPerson 12 = .ok (.if_icmp .lt 14, 3) := by decide +kernel
theorem dX11_needPerson_15 : decode cX11_needPerson 15 = .ok (.new 376, 3) := by decide +kernel
theorem dX11_needPerson_18 : decode cX11_needPerson 18 = .ok (.dup, 1) := by decide +kernel
theorem dX11_needPerson_19 : decode cX11_needPerson 19 = .ok (.ldc_w 378, 3) := by decide +kernel
theorem dX11_needPerson_22 : decode cX11_needPerson 22 = .ok (.invokespecial 380, 3) := by decide +kernel
theorem dX11_needPerson_25 : decode cX11_needPerson 25 = .ok (.athrow, 1) := by decide +kernel
theorem dX11_needPerson_26 : decode cX11_needPerson 26 = .ok (.return_, 1) := by decide +kernel
theorem dX11_needWhat_0 : decode cX11_needWhat 0 = .ok (.iload_n 1, 1) := by decide +kernel
theorem dX11_needWhat_1 : decode cX11_needWhat 1 = .ok (.ifCond .lt 8, 3) := by decide +kernel
theorem dX11_needWhat_4 : decode cX11_needWhat 4 = .ok (.iload_n 1, 1) := by decide +kernel
theorem dX11_needWhat_5 : decode cX11_needWhat 5 = .ok (.iload_n 2, 1) := by decide +kernel
theorem dX11_needWhat_6 : decode cX11_needWhat 6 = .ok (.if_icmp .lt 14, 3) := by decide +kernel
theorem dX11_needWhat_9 : decode cX11_needWhat 9 = .ok (.new 376, 3) := by decide +kernel
theorem dX11_needWhat_12 : decode cX11_needWhat 12 = .ok (.dup, 1) := by decide +kernel
theorem dX11_needWhat_13 : decode cX11_needWhat 13 = .ok (.ldc_w 381, 3) := by decide +kernel
theorem dX11_needWhat_16 : decode cX11_needWhat 16 = .ok (.invokespecial 380, 3) := by decide +kernel
theorem dX11_needWhat_19 : decode cX11_needWhat 19 = .ok (.athrow, 1) := by decide +kernel
theorem dX11_needWhat_20 : decode cX11_needWhat 20 = .ok (.return_, 1) := by decide +kernel
theorem dX11_needWithin_0 : decode cX11_needWithin 0 = .ok (.iload_n 1, 1) := by decide +kernel
theorem dX11_needWithin_1 : decode cX11_needWithin 1 = .ok (.iload_n 2, 1) := by decide +kernel
theorem dX11_needWithin_2 : decode cX11_needWithin 2 = .ok (.if_icmp .lt 8, 3) := by decide +kernel
theorem dX11_needWithin_5 : decode cX11_needWithin 5 = .ok (.iload_n 1, 1) := by decide +kernel
theorem dX11_needWithin_6 : decode cX11_needWithin 6 = .ok (.iload_n 3, 1) := by decide +kernel
theorem dX11_needWithin_7 : decode cX11_needWithin 7 = .ok (.if_icmp .le 14, 3) := by decide +kernel
theorem dX11_needWithin_10 : decode cX11_needWithin 10 = .ok (.new 100, 3) := by decide +kernel
theorem dX11_needWithin_13 : decode cX11_needWithin 13 = .ok (.dup, 1) := by decide +kernel
theorem dX11_needWithin_14 : decode cX11_needWithin 14 = .ok (.ldc_w 383, 3) := by decide +kernel
theorem dX11_needWithin_17 : decode cX11_needWithin 17 = .ok (.invokespecial 104, 3) := by decide +kernel
theorem dX11_needWithin_20 : decode cX11_needWithin 20 = .ok (.athrow, 1) := by decide +kernel
theorem dX11_needWithin_21 : decode cX11_needWithin 21 = .ok (.return_, 1) := by decide +kernel
theorem dX11_refuse_0 : decode cX11_refuse 0 = .ok (.iload_n 1, 1) := by decide +kernel
theorem dX11_refuse_1 : decode cX11_refuse 1 = .ok (.ifCond .lt 22, 3) := by decide +kernel
theorem dX11_refuse_4 : decode cX11_refuse 4 = .ok (.iload_n 1, 1) := by decide +kernel
theorem dX11_refuse_5 : decode cX11_refuse 5 = .ok (.aload_n 0, 1) := by decide +kernel
theorem dX11_refuse_6 : decode cX11_refuse 6 = .ok (.getfield 65, 3) := by decide +kernel
theorem dX11_refuse_9 : decode cX11_refuse 9 = .ok (.arraylength, 1) := by decide +kernel
theorem dX11_refuse_10 : decode cX11_refuse 10 = .ok (.if_icmp .ge 13, 3) := by decide +kernel
theorem dX11_refuse_13 : decode cX11_refuse 13 = .ok (.aload_n 0, 1) := by decide +kernel
theorem dX11_refuse_14 : decode cX11_refuse 14 = .ok (.getfield 65, 3) := by decide +kernel
theorem dX11_refuse_17 : decode cX11_refuse 17 = .ok (.iload_n 1, 1) := by decide +kernel
theorem dX11_refuse_18 : decode cX11_refuse 18 = .ok (.dup2, 1) := by decide +kernel
theorem dX11_refuse_19 : decode cX11_refuse 19 = .ok (.iaload, 1) := by decide +kernel
theorem dX11_refuse_20 : decode cX11_refuse 20 = .ok (.iconst 1, 1) := by decide +kernel
theorem dX11_refuse_21 : decode cX11_refuse 21 = .ok (.iadd, 1) := by decide +kernel
theorem dX11_refuse_22 : decode cX11_refuse 22 = .ok (.iastore, 1) := by decide +kernel
theorem dX11_refuse_23 : decode cX11_refuse 23 = .ok (.iconst (-1), 1) := by decide +kernel
theorem dX11_refuse_24 : decode cX11_refuse 24 = .ok (.ireturn, 1) := by decide +kernel
theorem dX11_rewind_0 : decode cX11_rewind 0 = .ok (.aload_n 0, 1) := by decide +kernel
theorem dX11_rewind_1 : decode cX11_rewind 1 = .ok (.getfield 48, 3) := by decide +kernel
theorem dX11_rewind_4 : decode cX11_rewind 4 = .ok (.aload_n 0, 1) := by decide +kernel
theorem dX11_rewind_5 : decode cX11_rewind 5 = .ok (.getfield 44, 3) := by decide +kernel
theorem dX11_rewind_8 : decode cX11_rewind 8 = .ok (.invokevirtual 358, 3) := by decide +kernel
theorem dX11_rewind_11 : decode cX11_rewind 11 = .ok (.aload_n 0, 1) := by decide +kernel
theorem dX11_rewind_12 : decode cX11_rewind 12 = .ok (.getfield 37, 3) := by decide +kernel
theorem dX11_rewind_15 : decode cX11_rewind 15 = .ok (.invokevirtual 385, 3) := by decide +kernel
theorem dX11_rewind_18 : decode cX11_rewind 18 = .ok (.return_, 1) := by decide +kernel
