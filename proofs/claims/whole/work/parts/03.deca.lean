theorem dX0_init_0 : decode cX0_init 0 = .ok (.aload_n 0, 1) := by decide +kernel
theorem dX0_init_1 : decode cX0_init 1 = .ok (.invokespecial 3, 3) := by decide +kernel
theorem dX0_init_4 : decode cX0_init 4 = .ok (.aload_n 0, 1) := by decide +kernel
theorem dX0_init_5 : decode cX0_init 5 = .ok (.bipush 40, 2) := by decide +kernel
theorem dX0_init_7 : decode cX0_init 7 = .ok (.anewarray 9, 3) := by decide +kernel
theorem dX0_init_10 : decode cX0_init 10 = .ok (.putfield 11, 3) := by decide +kernel
theorem dX0_init_13 : decode cX0_init 13 = .ok (.aload_n 0, 1) := by decide +kernel
theorem dX0_init_14 : decode cX0_init 14 = .ok (.iconst 0, 1) := by decide +kernel
theorem dX0_init_15 : decode cX0_init 15 = .ok (.putfield 17, 3) := by decide +kernel
theorem dX0_init_18 : decode cX0_init 18 = .ok (.iconst 0, 1) := by decide +kernel
theorem dX0_init_19 : decode cX0_init 19 = .ok (.istore_n 1, 1) := by decide +kernel
theorem dX0_init_20 : decode cX0_init 20 = .ok (.iload_n 1, 1) := by decide +kernel
theorem dX0_init_21 : decode cX0_init 21 = .ok (.aload_n 0, 1) := by decide +kernel
theorem dX0_init_22 : decode cX0_init 22 = .ok (.getfield 11, 3) := by decide +kernel
theorem dX0_init_25 : decode cX0_init 25 = .ok (.arraylength, 1) := by decide +kernel
theorem dX0_init_26 : decode cX0_init 26 = .ok (.if_icmp .ge 22, 3) := by decide +kernel
theorem dX0_init_29 : decode cX0_init 29 = .ok (.aload_n 0, 1) := by decide +kernel
theorem dX0_init_30 : decode cX0_init 30 = .ok (.getfield 11, 3) := by decide +kernel
theorem dX0_init_33 : decode cX0_init 33 = .ok (.iload_n 1, 1) := by decide +kernel
theorem dX0_init_34 : decode cX0_init 34 = .ok (.new 9, 3) := by decide +kernel
theorem dX0_init_37 : decode cX0_init 37 = .ok (.dup, 1) := by decide +kernel
theorem dX0_init_38 : decode cX0_init 38 = .ok (.invokespecial 21, 3) := by decide +kernel
theorem dX0_init_41 : decode cX0_init 41 = .ok (.aastore, 1) := by decide +kernel
theorem dX0_init_42 : decode cX0_init 42 = .ok (.iinc 1 1, 3) := by decide +kernel
theorem dX0_init_45 : decode cX0_init 45 = .ok (.goto (-25), 3) := by decide +kernel
theorem dX0_init_48 : decode cX0_init 48 = .ok (.return_, 1) := by decide +kernel
theorem dX0_clear_0 : decode cX0_clear 0 = .ok (.aload_n 0, 1) := by decide +kernel
theorem dX0_clear_1 : decode cX0_clear 1 = .ok (.iconst 0, 1) := by decide +kernel
theorem dX0_clear_2 : decode cX0_clear 2 = .ok (.putfield 17, 3) := by decide +kernel
theorem dX0_clear_5 : decode cX0_clear 5 = .ok (.return_, 1) := by decide +kernel
theorem dX0_keep_0 : decode cX0_keep 0 = .ok (.aload_n 0, 1) := by decide +kernel
theorem dX0_keep_1 : decode cX0_keep 1 = .ok (.getfield 17, 3) := by decide +kernel
theorem dX0_keep_4 : decode cX0_keep 4 = .ok (.aload_n 0, 1) := by decide +kernel
theorem dX0_keep_5 : decode cX0_keep 5 = .ok (.getfield 11, 3) := by decide +kernel
theorem dX0_keep_8 : decode cX0_keep 8 = .ok (.arraylength, 1) := by decide +kernel
theorem dX0_keep_9 : decode cX0_keep 9 = .ok (.if_icmp .lt 7, 3) := by decide +kernel
theorem dX0_keep_12 : decode cX0_keep 12 = .ok (.aload_n 0, 1) := by decide +kernel
theorem dX0_keep_13 : decode cX0_keep 13 = .ok (.invokevirtual 22, 3) := by decide +kernel
theorem dX0_keep_16 : decode cX0_keep 16 = .ok (.aload_n 0, 1) := by decide +kernel
theorem dX0_keep_17 : decode cX0_keep 17 = .ok (.aload_n 0, 1) := by decide +kernel
theorem dX0_keep_18 : decode cX0_keep 18 = .ok (.getfield 17, 3) := by decide +kernel
theorem dX0_keep_21 : decode cX0_keep 21 = .ok (.invokevirtual 25, 3) := by decide +kernel
theorem dX0_keep_24 : decode cX0_keep 24 = .ok (.astore_n 2, 1) := by decide +kernel
theorem dX0_keep_25 : decode cX0_keep 25 = .ok (.aload_n 2, 1) := by decide +kernel
theorem dX0_keep_26 : decode cX0_keep 26 = .ok (.ifnull 18, 3) := by decide +kernel
theorem dX0_keep_29 : decode cX0_keep 29 = .ok (.aload_n 2, 1) := by decide +kernel
theorem dX0_keep_30 : decode cX0_keep 30 = .ok (.aload_n 1, 1) := by decide +kernel
theorem dX0_keep_31 : decode cX0_keep 31 = .ok (.invokevirtual 29, 3) := by decide +kernel
theorem dX0_keep_34 : decode cX0_keep 34 = .ok (.aload_n 0, 1) := by decide +kernel
theorem dX0_keep_35 : decode cX0_keep 35 = .ok (.dup, 1) := by decide +kernel
theorem dX0_keep_36 : decode cX0_keep 36 = .ok (.getfield 17, 3) := by decide +kernel
theorem dX0_keep_39 : decode cX0_keep 39 = .ok (.iconst 1, 1) := by decide +kernel
theorem dX0_keep_40 : decode cX0_keep 40 = .ok (.iadd, 1) := by decide +kernel
theorem dX0_keep_41 : decode cX0_keep 41 = .ok (.putfield 17, 3) := by decide +kernel
theorem dX0_keep_44 : decode cX0_keep 44 = .ok (.return_, 1) := by decide +kernel
theorem dX0_keptAt_0 : decode cX0_keptAt 0 = .ok (.iload_n 1, 1) := by decide +kernel
theorem dX0_keptAt_1 : decode cX0_keptAt 1 = .ok (.ifCond .lt 21, 3) := by decide +kernel
theorem dX0_keptAt_4 : decode cX0_keptAt 4 = .ok (.iload_n 1, 1) := by decide +kernel
theorem dX0_keptAt_5 : decode cX0_keptAt 5 = .ok (.aload_n 0, 1) := by decide +kernel
theorem dX0_keptAt_6 : decode cX0_keptAt 6 = .ok (.getfield 11, 3) := by decide +kernel
theorem dX0_keptAt_9 : decode cX0_keptAt 9 = .ok (.arraylength, 1) := by decide +kernel
theorem dX0_keptAt_10 : decode cX0_keptAt 10 = .ok (.if_icmp .ge 12, 3) := by decide +kernel
theorem dX0_keptAt_13 : decode cX0_keptAt 13 = .ok (.aload_n 0, 1) := by decide +kernel
theorem dX0_keptAt_14 : decode cX0_keptAt 14 = .ok (.getfield 11, 3) := by decide +kernel
theorem dX0_keptAt_17 : decode cX0_keptAt 17 = .ok (.iload_n 1, 1) := by decide +kernel
theorem dX0_keptAt_18 : decode cX0_keptAt 18 = .ok (.aaload, 1) := by decide +kernel
theorem dX0_keptAt_19 : decode cX0_keptAt 19 = .ok (.goto 4, 3) := by decide +kernel
theorem dX0_keptAt_22 : decode cX0_keptAt 22 = .ok (.aconst_null, 1) := by decide +kernel
theorem dX0_keptAt_23 : decode cX0_keptAt 23 = .ok (.areturn, 1) := by decide +kernel
theorem dX0_dropOldest_0 : decode cX0_dropOldest 0 = .ok (.aload_n 0, 1) := by decide +kernel
theorem dX0_dropOldest_1 : decode cX0_dropOldest 1 = .ok (.getfield 11, 3) := by decide +kernel
theorem dX0_dropOldest_4 : decode cX0_dropOldest 4 = .ok (.iconst 0, 1) := by decide +kernel
theorem dX0_dropOldest_5 : decode cX0_dropOldest 5 = .ok (.aaload, 1) := by decide +kernel
theorem dX0_dropOldest_6 : decode cX0_dropOldest 6 = .ok (.astore_n 1, 1) := by decide +kernel
theorem dX0_dropOldest_7 : decode cX0_dropOldest 7 = .ok (.iconst 1, 1) := by decide +kernel
theorem dX0_dropOldest_8 : decode cX0_dropOldest 8 = .ok (.istore_n 2, 1) := by decide +kernel
theorem dX0_dropOldest_9 : decode cX0_dropOldest 9 = .ok (.iload_n 2, 1) := by decide +kernel
theorem dX0_dropOldest_10 : decode cX0_dropOldest 10 = .ok (.aload_n 0, 1) := by decide +kernel
theorem dX0_dropOldest_11 : decode cX0_dropOldest 11 = .ok (.getfield 11, 3) := by decide +kernel
theorem dX0_dropOldest_14 : decode cX0_dropOldest 14 = .ok (.arraylength, 1) := by decide +kernel
theorem dX0_dropOldest_15 : decode cX0_dropOldest 15 = .ok (.if_icmp .ge 23, 3) := by decide +kernel
theorem dX0_dropOldest_18 : decode cX0_dropOldest 18 = .ok (.aload_n 0, 1) := by decide +kernel
theorem dX0_dropOldest_19 : decode cX0_dropOldest 19 = .ok (.getfield 11, 3) := by decide +kernel
theorem dX0_dropOldest_22 : decode cX0_dropOldest 22 = .ok (.iload_n 2, 1) := by decide +kernel
theorem dX0_dropOldest_23 : decode cX0_dropOldest 23 = .ok (.iconst 1, 1) := by decide +kernel
theorem dX0_dropOldest_24 : decode cX0_dropOldest 24 = .ok (.isub, 1) := by decide +kernel
theorem dX0_dropOldest_25 : decode cX0_dropOldest 25 = .ok (.aload_n 0, 1) := by decide +kernel
theorem dX0_dropOldest_26 : decode cX0_dropOldest 26 = .ok (.getfield 11, 3) := by decide +kernel
theorem dX0_dropOldest_29 : decode cX0_dropOldest 29 = .ok (.iload_n 2, 1) := by decide +kernel
theorem dX0_dropOldest_30 : decode cX0_dropOldest 30 = .ok (.aaload, 1) := by decide +kernel
theorem dX0_dropOldest_31 : decode cX0_dropOldest 31 = .ok (.aastore, 1) := by decide +kernel
theorem dX0_dropOldest_32 : decode cX0_dropOldest 32 = .ok (.iinc 2 1, 3) := by decide +kernel
theorem dX0_dropOldest_35 : decode cX0_dropOldest 35 = .ok (.goto (-26), 3) := by decide +kernel
theorem dX0_dropOldest_38 : decode cX0_dropOldest 38 = .ok (.aload_n 0, 1) := by decide +kernel
theorem dX0_dropOldest_39 : decode cX0_dropOldest 39 = .ok (.aload_n 0, 1) := by decide +kernel
theorem dX0_dropOldest_40 : decode cX0_dropOldest 40 = .ok (.getfield 11, 3) := by decide +kernel
theorem dX0_dropOldest_43 : decode cX0_dropOldest 43 = .ok (.arraylength, 1) := by decide +kernel
theorem dX0_dropOldest_44 : decode cX0_dropOldest 44 = .ok (.iconst 1, 1) := by decide +kernel
theorem dX0_dropOldest_45 : decode cX0_dropOldest 45 = .ok (.isub, 1) := by decide +kernel
theorem dX0_dropOldest_46 : decode cX0_dropOldest 46 = .ok (.putfield 17, 3) := by decide +kernel
theorem dX0_dropOldest_49 : decode cX0_dropOldest 49 = .ok (.aload_n 0, 1) := by decide +kernel
theorem dX0_dropOldest_50 : decode cX0_dropOldest 50 = .ok (.getfield 11, 3) := by decide +kernel
theorem dX0_dropOldest_53 : decode cX0_dropOldest 53 = .ok (.aload_n 0, 1) := by decide +kernel
theorem dX0_dropOldest_54 : decode cX0_dropOldest 54 = .ok (.getfield 17, 3) := by decide +kernel
theorem dX0_dropOldest_57 : decode cX0_dropOldest 57 = .ok (.aload_n 1, 1) := by decide +kernel
theorem dX0_dropOldest_58 : decode cX0_dropOldest 58 = .ok (.aastore, 1) := by decide +kernel
theorem dX0_dropOldest_59 : decode cX0_dropOldest 59 = .ok (.return_, 1) := by decide +kernel
theorem dX0_takeBack_0 : decode cX0_takeBack 0 = .ok (.aload_n 0, 1) := by decide +kernel
theorem dX0_takeBack_1 : decode cX0_takeBack 1 = .ok (.aload_n 0, 1) := by decide +kernel
theorem dX0_takeBack_2 : decode cX0_takeBack 2 = .ok (.getfield 17, 3) := by decide +kernel
theorem dX0_takeBack_5 : decode cX0_takeBack 5 = .ok (.iconst 1, 1) := by decide +kernel
theorem dX0_takeBack_6 : decode cX0_takeBack 6 = .ok (.isub, 1) := by decide +kernel
theorem dX0_takeBack_7 : decode cX0_takeBack 7 = .ok (.invokevirtual 25, 3) := by decide +kernel
theorem dX0_takeBack_10 : decode cX0_takeBack 10 = .ok (.astore_n 2, 1) := by decide +kernel
theorem dX0_takeBack_11 : decode cX0_takeBack 11 = .ok (.aload_n 2, 1) := by decide +kernel
theorem dX0_takeBack_12 : decode cX0_takeBack 12 = .ok (.ifnonnull 5, 3) := by decide +kernel
theorem dX0_takeBack_15 : decode cX0_takeBack 15 = .ok (.iconst 0, 1) := by decide +kernel
theorem dX0_takeBack_16 : decode cX0_takeBack 16 = .ok (.ireturn, 1) := by decide +kernel
theorem dX0_takeBack_17 : decode cX0_takeBack 17 = .ok (.aload_n 1, 1) := by decide +kernel
theorem dX0_takeBack_18 : decode cX0_takeBack 18 = .ok (.aload_n 2, 1) := by decide +kernel
theorem dX0_takeBack_19 : decode cX0_takeBack 19 = .ok (.invokevirtual 29, 3) := by decide +kernel
theorem dX0_takeBack_22 : decode cX0_takeBack 22 = .ok (.aload_n 0, 1) := by decide +kernel
theorem dX0_takeBack_23 : decode cX0_takeBack 23 = .ok (.dup, 1) := by decide +kernel
theorem dX0_takeBack_24 : decode cX0_takeBack 24 = .ok (.getfield 17, 3) := by decide +kernel
theorem dX0_takeBack_27 : decode cX0_takeBack 27 = .ok (.iconst 1, 1) := by decide +kernel
theorem dX0_takeBack_28 : decode cX0_takeBack 28 = .ok (.isub, 1) := by decide +kernel
theorem dX0_takeBack_29 : decode cX0_takeBack 29 = .ok (.putfield 17, 3) := by decide +kernel
theorem dX0_takeBack_32 : decode cX0_takeBack 32 = .ok (.iconst 1, 1) := by decide +kernel
theorem dX0_takeBack_33 : decode cX0_takeBack 33 = .ok (.ireturn, 1) := by decide +kernel
theorem dX0_become_0 : decode cX0_become 0 = .ok (.aload_n 0, 1) := by decide +kernel
theorem dX0_become_1 : decode cX0_become 1 = .ok (.iconst 0, 1) := by decide +kernel
theorem dX0_become_2 : decode cX0_become 2 = .ok (.putfield 17, 3) := by decide +kernel
theorem dX0_become_5 : decode cX0_become 5 = .ok (.iconst 0, 1) := by decide +kernel
theorem dX0_become_6 : decode cX0_become 6 = .ok (.istore_n 2, 1) := by decide +kernel
theorem dX0_become_7 : decode cX0_become 7 = .ok (.iload_n 2, 1) := by decide +kernel
theorem dX0_become_8 : decode cX0_become 8 = .ok (.aload_n 1, 1) := by decide +kernel
theorem dX0_become_9 : decode cX0_become 9 = .ok (.getfield 17, 3) := by decide +kernel
theorem dX0_become_12 : decode cX0_become 12 = .ok (.if_icmp .ge 24, 3) := by decide +kernel
theorem dX0_become_15 : decode cX0_become 15 = .ok (.aload_n 1, 1) := by decide +kernel
theorem dX0_become_16 : decode cX0_become 16 = .ok (.iload_n 2, 1) := by decide +kernel
theorem dX0_become_17 : decode cX0_become 17 = .ok (.invokevirtual 25, 3) := by decide +kernel
theorem dX0_become_20 : decode cX0_become 20 = .ok (.astore_n 3, 1) := by decide +kernel
theorem dX0_become_21 : decode cX0_become 21 = .ok (.aload_n 3, 1) := by decide +kernel
theorem dX0_become_22 : decode cX0_become 22 = .ok (.ifnull 8, 3) := by decide +kernel
theorem dX0_become_25 : decode cX0_become 25 = .ok (.aload_n 0, 1) := by decide +kernel
theorem dX0_become_26 : decode cX0_become 26 = .ok (.aload_n 3, 1) := by decide +kernel
theorem dX0_become_27 : decode cX0_become 27 = .ok (.invokevirtual 33, 3) := by decide +kernel
theorem dX0_become_30 : decode cX0_become 30 = .ok (.iinc 2 1, 3) := by decide +kernel
theorem dX0_become_33 : decode cX0_become 33 = .ok (.goto (-26), 3) := by decide +kernel
theorem dX0_become_36 : decode cX0_become 36 = .ok (.return_, 1) := by decide +kernel
theorem dX1_init_0 : decode cX1_init 0 = .ok (.aload_n 0, 1) := by decide +kernel
theorem dX1_init_1 : decode cX1_init 1 = .ok (.invokespecial 3, 3) := by decide +kernel
theorem dX1_init_4 : decode cX1_init 4 = .ok (.aload_n 0, 1) := by decide +kernel
theorem dX1_init_5 : decode cX1_init 5 = .ok (.sipush 256, 3) := by decide +kernel
theorem dX1_init_8 : decode cX1_init 8 = .ok (.newarray .int, 2) := by decide +kernel
theorem dX1_init_10 : decode cX1_init 10 = .ok (.putfield 9, 3) := by decide +kernel
theorem dX1_init_13 : decode cX1_init 13 = .ok (.aload_n 0, 1) := by decide +kernel
theorem dX1_init_14 : decode cX1_init 14 = .ok (.sipush 256, 3) := by decide +kernel
theorem dX1_init_17 : decode cX1_init 17 = .ok (.newarray .int, 2) := by decide +kernel
theorem dX1_init_19 : decode cX1_init 19 = .ok (.putfield 15, 3) := by decide +kernel
theorem dX1_init_22 : decode cX1_init 22 = .ok (.aload_n 0, 1) := by decide +kernel
theorem dX1_init_23 : decode cX1_init 23 = .ok (.bipush 8, 2) := by decide +kernel
theorem dX1_init_25 : decode cX1_init 25 = .ok (.newarray .int, 2) := by decide +kernel
theorem dX1_init_27 : decode cX1_init 27 = .ok (.putfield 18, 3) := by decide +kernel
theorem dX1_init_30 : decode cX1_init 30 = .ok (.aload_n 0, 1) := by decide +kernel
theorem dX1_init_31 : decode cX1_init 31 = .ok (.bipush 64, 2) := by decide +kernel
theorem dX1_init_33 : decode cX1_init 33 = .ok (.newarray .int, 2) := by decide +kernel
theorem dX1_init_35 : decode cX1_init 35 = .ok (.putfield 21, 3) := by decide +kernel
theorem dX1_init_38 : decode cX1_init 38 = .ok (.aload_n 0, 1) := by decide +kernel
theorem dX1_init_39 : decode cX1_init 39 = .ok (.iconst 0, 1) := by decide +kernel
theorem dX1_init_40 : decode cX1_init 40 = .ok (.putfield 24, 3) := by decide +kernel
theorem dX1_init_43 : decode cX1_init 43 = .ok (.aload_n 0, 1) := by decide +kernel
theorem dX1_init_44 : decode cX1_init 44 = .ok (.iconst 0, 1) := by decide +kernel
theorem dX1_init_45 : decode cX1_init 45 = .ok (.putfield 28, 3) := by decide +kernel
theorem dX1_init_48 : decode cX1_init 48 = .ok (.return_, 1) := by decide +kernel
theorem dX1_join_0 : decode cX1_join 0 = .ok (.iconst 0, 1) := by decide +kernel
theorem dX1_join_1 : decode cX1_join 1 = .ok (.aload_n 1, 1) := by decide +kernel
theorem dX1_join_2 : decode cX1_join 2 = .ok (.getfield 31, 3) := by decide +kernel
theorem dX1_join_5 : decode cX1_join 5 = .ok (.bipush 8, 2) := by decide +kernel
theorem dX1_join_7 : decode cX1_join 7 = .ok (.invokestatic 36, 3) := by decide +kernel
theorem dX1_join_10 : decode cX1_join 10 = .ok (.invokestatic 42, 3) := by decide +kernel
theorem dX1_join_13 : decode cX1_join 13 = .ok (.istore_n 3, 1) := by decide +kernel
theorem dX1_join_14 : decode cX1_join 14 = .ok (.aload_n 0, 1) := by decide +kernel
theorem dX1_join_15 : decode cX1_join 15 = .ok (.aload_n 1, 1) := by decide +kernel
theorem dX1_join_16 : decode cX1_join 16 = .ok (.aload_n 2, 1) := by decide +kernel
theorem dX1_join_17 : decode cX1_join 17 = .ok (.iload_n 3, 1) := by decide +kernel
theorem dX1_join_18 : decode cX1_join 18 = .ok (.invokevirtual 45, 3) := by decide +kernel
theorem dX1_join_21 : decode cX1_join 21 = .ok (.iconst 1, 1) := by decide +kernel
theorem dX1_join_22 : decode cX1_join 22 = .ok (.iload_n 3, 1) := by decide +kernel
theorem dX1_join_23 : decode cX1_join 23 = .ok (.ishl, 1) := by decide +kernel
theorem dX1_join_24 : decode cX1_join 24 = .ok (.istore 4, 2) := by decide +kernel
theorem dX1_join_26 : decode cX1_join 26 = .ok (.aload_n 0, 1) := by decide +kernel
theorem dX1_join_27 : decode cX1_join 27 = .ok (.getfield 9, 3) := by decide +kernel
theorem dX1_join_30 : decode cX1_join 30 = .ok (.iconst 0, 1) := by decide +kernel
theorem dX1_join_31 : decode cX1_join 31 = .ok (.iconst 0, 1) := by decide +kernel
theorem dX1_join_32 : decode cX1_join 32 = .ok (.iastore, 1) := by decide +kernel
theorem dX1_join_33 : decode cX1_join 33 = .ok (.iconst 1, 1) := by decide +kernel
theorem dX1_join_34 : decode cX1_join 34 = .ok (.istore 5, 2) := by decide +kernel
theorem dX1_join_36 : decode cX1_join 36 = .ok (.iload 5, 2) := by decide +kernel
theorem dX1_join_38 : decode cX1_join 38 = .ok (.iload 4, 2) := by decide +kernel
theorem dX1_join_40 : decode cX1_join 40 = .ok (.if_icmp .ge 25, 3) := by decide +kernel
theorem dX1_join_43 : decode cX1_join 43 = .ok (.iload 5, 2) := by decide +kernel
theorem dX1_join_45 : decode cX1_join 45 = .ok (.aload_n 0, 1) := by decide +kernel
theorem dX1_join_46 : decode cX1_join 46 = .ok (.getfield 9, 3) := by decide +kernel
theorem dX1_join_49 : decode cX1_join 49 = .ok (.arraylength, 1) := by decide +kernel
theorem dX1_join_50 : decode cX1_join 50 = .ok (.if_icmp .ge 15, 3) := by decide +kernel
theorem dX1_join_53 : decode cX1_join 53 = .ok (.aload_n 0, 1) := by decide +kernel
theorem dX1_join_54 : decode cX1_join 54 = .ok (.iload 5, 2) := by decide +kernel
theorem dX1_join_56 : decode cX1_join 56 = .ok (.invokevirtual 49, 3) := by decide +kernel
theorem dX1_join_59 : decode cX1_join 59 = .ok (.iinc 5 1, 3) := by decide +kernel
theorem dX1_join_62 : decode cX1_join 62 = .ok (.goto (-26), 3) := by decide +kernel
theorem dX1_join_65 : decode cX1_join 65 = .ok (.aload_n 0, 1) := by decide +kernel
theorem dX1_join_66 : decode cX1_join 66 = .ok (.iload 4, 2) := by decide +kernel
theorem dX1_join_68 : decode cX1_join 68 = .ok (.iconst 1, 1) := by decide +kernel
theorem dX1_join_69 : decode cX1_join 69 = .ok (.isub, 1) := by decide +kernel
theorem dX1_join_70 : decode cX1_join 70 = .ok (.invokevirtual 53, 3) := by decide +kernel
theorem dX1_join_73 : decode cX1_join 73 = .ok (.return_, 1) := by decide +kernel
theorem dX1_compareAll_0 : decode cX1_compareAll 0 = .ok (.iconst 0, 1) := by decide +kernel
theorem dX1_compareAll_1 : decode cX1_compareAll 1 = .ok (.istore 4, 2) := by decide +kernel
theorem dX1_compareAll_3 : decode cX1_compareAll 3 = .ok (.iload 4, 2) := by decide +kernel
theorem dX1_compareAll_5 : decode cX1_compareAll 5 = .ok (.iload_n 3, 1) := by decide +kernel
theorem dX1_compareAll_6 : decode cX1_compareAll 6 = .ok (.if_icmp .ge 96, 3) := by decide +kernel
theorem dX1_compareAll_9 : decode cX1_compareAll 9 = .ok (.iconst 0, 1) := by decide +kernel
theorem dX1_compareAll_10 : decode cX1_compareAll 10 = .ok (.istore 5, 2) := by decide +kernel
theorem dX1_compareAll_12 : decode cX1_compareAll 12 = .ok (.iload 5, 2) := by decide +kernel
theorem dX1_compareAll_14 : decode cX1_compareAll 14 = .ok (.iload_n 3, 1) := by decide +kernel
theorem dX1_compareAll_15 : decode cX1_compareAll 15 = .ok (.if_icmp .ge 81, 3) := by decide +kernel
theorem dX1_compareAll_18 : decode cX1_compareAll 18 = .ok (.aload_n 1, 1) := by decide +kernel
theorem dX1_compareAll_19 : decode cX1_compareAll 19 = .ok (.iload 4, 2) := by decide +kernel
theorem dX1_compareAll_21 : decode cX1_compareAll 21 = .ok (.aload_n 2, 1) := by decide +kernel
theorem dX1_compareAll_22 : decode cX1_compareAll 22 = .ok (.getfield 56, 3) := by decide +kernel
theorem dX1_compareAll_25 : decode cX1_compareAll 25 = .ok (.invokevirtual 61, 3) := by decide +kernel
theorem dX1_compareAll_28 : decode cX1_compareAll 28 = .ok (.aload_n 1, 1) := by decide +kernel
theorem dX1_compareAll_29 : decode cX1_compareAll 29 = .ok (.iload 5, 2) := by decide +kernel
theorem dX1_compareAll_31 : decode cX1_compareAll 31 = .ok (.aload_n 2, 1) := by decide +kernel
theorem dX1_compareAll_32 : decode cX1_compareAll 32 = .ok (.getfield 56, 3) := by decide +kernel
theorem dX1_compareAll_35 : decode cX1_compareAll 35 = .ok (.invokevirtual 61, 3) := by decide +kernel
theorem dX1_compareAll_38 : decode cX1_compareAll 38 = .ok (.if_icmp .ne 7, 3) := by decide +kernel
theorem dX1_compareAll_41 : decode cX1_compareAll 41 = .ok (.iconst 1, 1) := by decide +kernel
theorem dX1_compareAll_42 : decode cX1_compareAll 42 = .ok (.goto 4, 3) := by decide +kernel
theorem dX1_compareAll_45 : decode cX1_compareAll 45 = .ok (.iconst 0, 1) := by decide +kernel
theorem dX1_compareAll_46 : decode cX1_compareAll 46 = .ok (.istore 6, 2) := by decide +kernel
theorem dX1_compareAll_48 : decode cX1_compareAll 48 = .ok (.aload_n 2, 1) := by decide +kernel
theorem dX1_compareAll_49 : decode cX1_compareAll 49 = .ok (.iload 4, 2) := by decide +kernel
theorem dX1_compareAll_51 : decode cX1_compareAll 51 = .ok (.invokevirtual 64, 3) := by decide +kernel
theorem dX1_compareAll_54 : decode cX1_compareAll 54 = .ok (.aload_n 2, 1) := by decide +kernel
theorem dX1_compareAll_55 : decode cX1_compareAll 55 = .ok (.iload 5, 2) := by decide +kernel
theorem dX1_compareAll_57 : decode cX1_compareAll 57 = .ok (.invokevirtual 64, 3) := by decide +kernel
theorem dX1_compareAll_60 : decode cX1_compareAll 60 = .ok (.isub, 1) := by decide +kernel
theorem dX1_compareAll_61 : decode cX1_compareAll 61 = .ok (.invokestatic 68, 3) := by decide +kernel
theorem dX1_compareAll_64 : decode cX1_compareAll 64 = .ok (.istore 7, 2) := by decide +kernel
theorem dX1_compareAll_66 : decode cX1_compareAll 66 = .ok (.aload_n 0, 1) := by decide +kernel
theorem dX1_compareAll_67 : decode cX1_compareAll 67 = .ok (.getfield 21, 3) := by decide +kernel
theorem dX1_compareAll_70 : decode cX1_compareAll 70 = .ok (.iload 4, 2) := by decide +kernel
theorem dX1_compareAll_72 : decode cX1_compareAll 72 = .ok (.bipush 8, 2) := by decide +kernel
theorem dX1_compareAll_74 : decode cX1_compareAll 74 = .ok (.imul, 1) := by decide +kernel
theorem dX1_compareAll_75 : decode cX1_compareAll 75 = .ok (.iload 5, 2) := by decide +kernel
theorem dX1_compareAll_77 : decode cX1_compareAll 77 = .ok (.iadd, 1) := by decide +kernel
theorem dX1_compareAll_78 : decode cX1_compareAll 78 = .ok (.iload 6, 2) := by decide +kernel
theorem dX1_compareAll_80 : decode cX1_compareAll 80 = .ok (.ifCond .eq 8, 3) := by decide +kernel
theorem dX1_compareAll_83 : decode cX1_compareAll 83 = .ok (.iload 7, 2) := by decide +kernel
theorem dX1_compareAll_85 : decode cX1_compareAll 85 = .ok (.goto 4, 3) := by decide +kernel
theorem dX1_compareAll_88 : decode cX1_compareAll 88 = .ok (.iconst (-1), 1) := by decide +kernel
theorem dX1_compareAll_89 : decode cX1_compareAll 89 = .ok (.iastore, 1) := by decide +kernel
theorem dX1_compareAll_90 : decode cX1_compareAll 90 = .ok (.iinc 5 1, 3) := by decide +kernel
theorem dX1_compareAll_93 : decode cX1_compareAll 93 = .ok (.goto (-81), 3) := by decide +kernel
theorem dX1_compareAll_96 : decode cX1_compareAll 96 = .ok (.iinc 4 1, 3) := by decide +kernel
theorem dX1_compareAll_99 : decode cX1_compareAll 99 = .ok (.goto (-96), 3) := by decide +kernel
theorem dX1_compareAll_102 : decode cX1_compareAll 102 = .ok (.return_, 1) := by decide +kernel
theorem dX1_joinFirstOf_0 : decode cX1_joinFirstOf 0 = .ok (.iload_n 1, 1) := by decide +kernel
theorem dX1_joinFirstOf_1 : decode cX1_joinFirstOf 1 = .ok (.invokestatic 71, 3) := by decide +kernel
theorem dX1_joinFirstOf_4 : decode cX1_joinFirstOf 4 = .ok (.istore_n 2, 1) := by decide +kernel
theorem dX1_joinFirstOf_5 : decode cX1_joinFirstOf 5 = .ok (.iconst (-1), 1) := by decide +kernel
theorem dX1_joinFirstOf_6 : decode cX1_joinFirstOf 6 = .ok (.istore_n 3, 1) := by decide +kernel
theorem dX1_joinFirstOf_7 : decode cX1_joinFirstOf 7 = .ok (.iconst (-1), 1) := by decide +kernel
theorem dX1_joinFirstOf_8 : decode cX1_joinFirstOf 8 = .ok (.istore 4, 2) := by decide +kernel
theorem dX1_joinFirstOf_10 : decode cX1_joinFirstOf 10 = .ok (.iload_n 2, 1) := by decide +kernel
theorem dX1_joinFirstOf_11 : decode cX1_joinFirstOf 11 = .ok (.iconst 1, 1) := by decide +kernel
theorem dX1_joinFirstOf_12 : decode cX1_joinFirstOf 12 = .ok (.iadd, 1) := by decide +kernel
theorem dX1_joinFirstOf_13 : decode cX1_joinFirstOf 13 = .ok (.istore 5, 2) := by decide +kernel
theorem dX1_joinFirstOf_15 : decode cX1_joinFirstOf 15 = .ok (.iload 5, 2) := by decide +kernel
theorem dX1_joinFirstOf_17 : decode cX1_joinFirstOf 17 = .ok (.bipush 8, 2) := by decide +kernel
theorem dX1_joinFirstOf_19 : decode cX1_joinFirstOf 19 = .ok (.if_icmp .ge 84, 3) := by decide +kernel
theorem dX1_joinFirstOf_22 : decode cX1_joinFirstOf 22 = .ok (.aload_n 0, 1) := by decide +kernel
theorem dX1_joinFirstOf_23 : decode cX1_joinFirstOf 23 = .ok (.getfield 21, 3) := by decide +kernel
theorem dX1_joinFirstOf_26 : decode cX1_joinFirstOf 26 = .ok (.iload_n 2, 1) := by decide +kernel
theorem dX1_joinFirstOf_27 : decode cX1_joinFirstOf 27 = .ok (.bipush 8, 2) := by decide +kernel
theorem dX1_joinFirstOf_29 : decode cX1_joinFirstOf 29 = .ok (.imul, 1) := by decide +kernel
theorem dX1_joinFirstOf_30 : decode cX1_joinFirstOf 30 = .ok (.iload 5, 2) := by decide +kernel
theorem dX1_joinFirstOf_32 : decode cX1_joinFirstOf 32 = .ok (.iadd, 1) := by decide +kernel
theorem dX1_joinFirstOf_33 : decode cX1_joinFirstOf 33 = .ok (.iaload, 1) := by decide +kernel
theorem dX1_joinFirstOf_34 : decode cX1_joinFirstOf 34 = .ok (.istore 6, 2) := by decide +kernel
theorem dX1_joinFirstOf_36 : decode cX1_joinFirstOf 36 = .ok (.iload_n 1, 1) := by decide +kernel
theorem dX1_joinFirstOf_37 : decode cX1_joinFirstOf 37 = .ok (.iload 5, 2) := by decide +kernel
theorem dX1_joinFirstOf_39 : decode cX1_joinFirstOf 39 = .ok (.ishr, 1) := by decide +kernel
theorem dX1_joinFirstOf_40 : decode cX1_joinFirstOf 40 = .ok (.iconst 1, 1) := by decide +kernel
theorem dX1_joinFirstOf_41 : decode cX1_joinFirstOf 41 = .ok (.iand, 1) := by decide +kernel
theorem dX1_joinFirstOf_42 : decode cX1_joinFirstOf 42 = .ok (.iconst 1, 1) := by decide +kernel
theorem dX1_joinFirstOf_43 : decode cX1_joinFirstOf 43 = .ok (.if_icmp .ne 54, 3) := by decide +kernel
theorem dX1_joinFirstOf_46 : decode cX1_joinFirstOf 46 = .ok (.iload 6, 2) := by decide +kernel
theorem dX1_joinFirstOf_48 : decode cX1_joinFirstOf 48 = .ok (.iconst (-1), 1) := by decide +kernel
theorem dX1_joinFirstOf_49 : decode cX1_joinFirstOf 49 = .ok (.if_icmp .eq 48, 3) := by decide +kernel
theorem dX1_joinFirstOf_52 : decode cX1_joinFirstOf 52 = .ok (.iload_n 1, 1) := by decide +kernel
theorem dX1_joinFirstOf_53 : decode cX1_joinFirstOf 53 = .ok (.iconst 1, 1) := by decide +kernel
theorem dX1_joinFirstOf_54 : decode cX1_joinFirstOf 54 = .ok (.iload_n 2, 1) := by decide +kernel
theorem dX1_joinFirstOf_55 : decode cX1_joinFirstOf 55 = .ok (.ishl, 1) := by decide +kernel
theorem dX1_joinFirstOf_56 : decode cX1_joinFirstOf 56 = .ok (.iconst (-1), 1) := by decide +kernel
theorem dX1_joinFirstOf_57 : decode cX1_joinFirstOf 57 = .ok (.ixor, 1) := by decide +kernel
theorem dX1_joinFirstOf_58 : decode cX1_joinFirstOf 58 = .ok (.iand, 1) := by decide +kernel
theorem dX1_joinFirstOf_59 : decode cX1_joinFirstOf 59 = .ok (.iconst 1, 1) := by decide +kernel
theorem dX1_joinFirstOf_60 : decode cX1_joinFirstOf 60 = .ok (.iload 5, 2) := by decide +kernel
theorem dX1_joinFirstOf_62 : decode cX1_joinFirstOf 62 = .ok (.ishl, 1) := by decide +kernel
theorem dX1_joinFirstOf_63 : decode cX1_joinFirstOf 63 = .ok (.iconst (-1), 1) := by decide +kernel
theorem dX1_joinFirstOf_64 : decode cX1_joinFirstOf 64 = .ok (.ixor, 1) := by decide +kernel
theorem dX1_joinFirstOf_65 : decode cX1_joinFirstOf 65 = .ok (.iand, 1) := by decide +kernel
theorem dX1_joinFirstOf_66 : decode cX1_joinFirstOf 66 = .ok (.istore 7, 2) := by decide +kernel
theorem dX1_joinFirstOf_68 : decode cX1_joinFirstOf 68 = .ok (.aload_n 0, 1) := by decide +kernel
theorem dX1_joinFirstOf_69 : decode cX1_joinFirstOf 69 = .ok (.getfield 9, 3) := by decide +kernel
theorem dX1_joinFirstOf_72 : decode cX1_joinFirstOf 72 = .ok (.iload 7, 2) := by decide +kernel
theorem dX1_joinFirstOf_74 : decode cX1_joinFirstOf 74 = .ok (.iaload, 1) := by decide +kernel
theorem dX1_joinFirstOf_75 : decode cX1_joinFirstOf 75 = .ok (.sipush 10000, 3) := by decide +kernel
theorem dX1_joinFirstOf_78 : decode cX1_joinFirstOf 78 = .ok (.iadd, 1) := by decide +kernel
theorem dX1_joinFirstOf_79 : decode cX1_joinFirstOf 79 = .ok (.iload 6, 2) := by decide +kernel
theorem dX1_joinFirstOf_81 : decode cX1_joinFirstOf 81 = .ok (.isub, 1) := by decide +kernel
theorem dX1_joinFirstOf_82 : decode cX1_joinFirstOf 82 = .ok (.istore 8, 2) := by decide +kernel
theorem dX1_joinFirstOf_84 : decode cX1_joinFirstOf 84 = .ok (.iload 8, 2) := by decide +kernel
theorem dX1_joinFirstOf_86 : decode cX1_joinFirstOf 86 = .ok (.iload_n 3, 1) := by decide +kernel
theorem dX1_joinFirstOf_87 : decode cX1_joinFirstOf 87 = .ok (.if_icmp .le 10, 3) := by decide +kernel
theorem dX1_joinFirstOf_90 : decode cX1_joinFirstOf 90 = .ok (.iload 8, 2) := by decide +kernel
theorem dX1_joinFirstOf_92 : decode cX1_joinFirstOf 92 = .ok (.istore_n 3, 1) := by decide +kernel
theorem dX1_joinFirstOf_93 : decode cX1_joinFirstOf 93 = .ok (.iload 5, 2) := by decide +kernel
theorem dX1_joinFirstOf_95 : decode cX1_joinFirstOf 95 = .ok (.istore 4, 2) := by decide +kernel
theorem dX1_joinFirstOf_97 : decode cX1_joinFirstOf 97 = .ok (.iinc 5 1, 3) := by decide +kernel
theorem dX1_joinFirstOf_100 : decode cX1_joinFirstOf 100 = .ok (.goto (-85), 3) := by decide +kernel
theorem dX1_joinFirstOf_103 : decode cX1_joinFirstOf 103 = .ok (.aload_n 0, 1) := by decide +kernel
theorem dX1_joinFirstOf_104 : decode cX1_joinFirstOf 104 = .ok (.getfield 9, 3) := by decide +kernel
theorem dX1_joinFirstOf_107 : decode cX1_joinFirstOf 107 = .ok (.iload_n 1, 1) := by decide +kernel
theorem dX1_joinFirstOf_108 : decode cX1_joinFirstOf 108 = .ok (.iconst 1, 1) := by decide +kernel
theorem dX1_joinFirstOf_109 : decode cX1_joinFirstOf 109 = .ok (.iload_n 2, 1) := by decide +kernel
theorem dX1_joinFirstOf_110 : decode cX1_joinFirstOf 110 = .ok (.ishl, 1) := by decide +kernel
theorem dX1_joinFirstOf_111 : decode cX1_joinFirstOf 111 = .ok (.iconst (-1), 1) := by decide +kernel
theorem dX1_joinFirstOf_112 : decode cX1_joinFirstOf 112 = .ok (.ixor, 1) := by decide +kernel
theorem dX1_joinFirstOf_113 : decode cX1_joinFirstOf 113 = .ok (.iand, 1) := by decide +kernel
theorem dX1_joinFirstOf_114 : decode cX1_joinFirstOf 114 = .ok (.iaload, 1) := by decide +kernel
theorem dX1_joinFirstOf_115 : decode cX1_joinFirstOf 115 = .ok (.istore 5, 2) := by decide +kernel
theorem dX1_joinFirstOf_117 : decode cX1_joinFirstOf 117 = .ok (.aload_n 0, 1) := by decide +kernel
theorem dX1_joinFirstOf_118 : decode cX1_joinFirstOf 118 = .ok (.getfield 9, 3) := by decide +kernel
theorem dX1_joinFirstOf_121 : decode cX1_joinFirstOf 121 = .ok (.iload_n 1, 1) := by decide +kernel
theorem dX1_joinFirstOf_122 : decode cX1_joinFirstOf 122 = .ok (.iload_n 3, 1) := by decide +kernel
theorem dX1_joinFirstOf_123 : decode cX1_joinFirstOf 123 = .ok (.iload 5, 2) := by decide +kernel
theorem dX1_joinFirstOf_125 : decode cX1_joinFirstOf 125 = .ok (.invokestatic 42, 3) := by decide +kernel
theorem dX1_joinFirstOf_128 : decode cX1_joinFirstOf 128 = .ok (.iastore, 1) := by decide +kernel
theorem dX1_joinFirstOf_129 : decode cX1_joinFirstOf 129 = .ok (.aload_n 0, 1) := by decide +kernel
theorem dX1_joinFirstOf_130 : decode cX1_joinFirstOf 130 = .ok (.getfield 15, 3) := by decide +kernel
theorem dX1_joinFirstOf_133 : decode cX1_joinFirstOf 133 = .ok (.iload_n 1, 1) := by decide +kernel
theorem dX1_joinFirstOf_134 : decode cX1_joinFirstOf 134 = .ok (.iload 5, 2) := by decide +kernel
theorem dX1_joinFirstOf_136 : decode cX1_joinFirstOf 136 = .ok (.iload_n 3, 1) := by decide +kernel
theorem dX1_joinFirstOf_137 : decode cX1_joinFirstOf 137 = .ok (.if_icmp .le 7, 3) := by decide +kernel
theorem dX1_joinFirstOf_140 : decode cX1_joinFirstOf 140 = .ok (.iconst (-1), 1) := by decide +kernel
theorem dX1_joinFirstOf_141 : decode cX1_joinFirstOf 141 = .ok (.goto 5, 3) := by decide +kernel
theorem dX1_joinFirstOf_144 : decode cX1_joinFirstOf 144 = .ok (.iload 4, 2) := by decide +kernel
theorem dX1_joinFirstOf_146 : decode cX1_joinFirstOf 146 = .ok (.iastore, 1) := by decide +kernel
theorem dX1_joinFirstOf_147 : decode cX1_joinFirstOf 147 = .ok (.return_, 1) := by decide +kernel
theorem dX1_firstOf_0 : decode cX1_firstOf 0 = .ok (.iconst 0, 1) := by decide +kernel
theorem dX1_firstOf_1 : decode cX1_firstOf 1 = .ok (.istore_n 1, 1) := by decide +kernel
theorem dX1_firstOf_2 : decode cX1_firstOf 2 = .ok (.iload_n 1, 1) := by decide +kernel
theorem dX1_firstOf_3 : decode cX1_firstOf 3 = .ok (.bipush 7, 2) := by decide +kernel
theorem dX1_firstOf_5 : decode cX1_firstOf 5 = .ok (.if_icmp .ge 17, 3) := by decide +kernel
theorem dX1_firstOf_8 : decode cX1_firstOf 8 = .ok (.iload_n 0, 1) := by decide +kernel
theorem dX1_firstOf_9 : decode cX1_firstOf 9 = .ok (.iload_n 1, 1) := by decide +kernel
theorem dX1_firstOf_10 : decode cX1_firstOf 10 = .ok (.ishr, 1) := by decide +kernel
theorem dX1_firstOf_11 : decode cX1_firstOf 11 = .ok (.iconst 1, 1) := by decide +kernel
theorem dX1_firstOf_12 : decode cX1_firstOf 12 = .ok (.iand, 1) := by decide +kernel
theorem dX1_firstOf_13 : decode cX1_firstOf 13 = .ok (.ifCond .ne 9, 3) := by decide +kernel
theorem dX1_firstOf_16 : decode cX1_firstOf 16 = .ok (.iinc 1 1, 3) := by decide +kernel
theorem dX1_firstOf_19 : decode cX1_firstOf 19 = .ok (.goto (-17), 3) := by decide +kernel
theorem dX1_firstOf_22 : decode cX1_firstOf 22 = .ok (.iload_n 1, 1) := by decide +kernel
theorem dX1_firstOf_23 : decode cX1_firstOf 23 = .ok (.ireturn, 1) := by decide +kernel
theorem dX1_readRow_0 : decode cX1_readRow 0 = .ok (.aload_n 0, 1) := by decide +kernel
theorem dX1_readRow_1 : decode cX1_readRow 1 = .ok (.getfield 18, 3) := by decide +kernel
theorem dX1_readRow_4 : decode cX1_readRow 4 = .ok (.iconst (-1), 1) := by decide +kernel
theorem dX1_readRow_5 : decode cX1_readRow 5 = .ok (.invokestatic 74, 3) := by decide +kernel
theorem dX1_readRow_8 : decode cX1_readRow 8 = .ok (.aload_n 0, 1) := by decide +kernel
theorem dX1_readRow_9 : decode cX1_readRow 9 = .ok (.iconst 0, 1) := by decide +kernel
theorem dX1_readRow_10 : decode cX1_readRow 10 = .ok (.putfield 24, 3) := by decide +kernel
theorem dX1_readRow_13 : decode cX1_readRow 13 = .ok (.aload_n 0, 1) := by decide +kernel
theorem dX1_readRow_14 : decode cX1_readRow 14 = .ok (.iconst 0, 1) := by decide +kernel
theorem dX1_readRow_15 : decode cX1_readRow 15 = .ok (.putfield 28, 3) := by decide +kernel
theorem dX1_readRow_18 : decode cX1_readRow 18 = .ok (.iload_n 1, 1) := by decide +kernel
theorem dX1_readRow_19 : decode cX1_readRow 19 = .ok (.istore_n 2, 1) := by decide +kernel
theorem dX1_readRow_20 : decode cX1_readRow 20 = .ok (.iconst 0, 1) := by decide +kernel
theorem dX1_readRow_21 : decode cX1_readRow 21 = .ok (.istore_n 3, 1) := by decide +kernel
theorem dX1_readRow_22 : decode cX1_readRow 22 = .ok (.iload_n 3, 1) := by decide +kernel
theorem dX1_readRow_23 : decode cX1_readRow 23 = .ok (.bipush 8, 2) := by decide +kernel
theorem dX1_readRow_25 : decode cX1_readRow 25 = .ok (.if_icmp .ge 123, 3) := by decide +kernel
theorem dX1_readRow_28 : decode cX1_readRow 28 = .ok (.iload_n 2, 1) := by decide +kernel
theorem dX1_readRow_29 : decode cX1_readRow 29 = .ok (.ifCond .le 119, 3) := by decide +kernel
theorem dX1_readRow_32 : decode cX1_readRow 32 = .ok (.iload_n 2, 1) := by decide +kernel
theorem dX1_readRow_33 : decode cX1_readRow 33 = .ok (.aload_n 0, 1) := by decide +kernel
theorem dX1_readRow_34 : decode cX1_readRow 34 = .ok (.getfield 15, 3) := by decide +kernel
theorem dX1_readRow_37 : decode cX1_readRow 37 = .ok (.arraylength, 1) := by decide +kernel
theorem dX1_readRow_38 : decode cX1_readRow 38 = .ok (.if_icmp .ge 110, 3) := by decide +kernel
theorem dX1_readRow_41 : decode cX1_readRow 41 = .ok (.iload_n 2, 1) := by decide +kernel
theorem dX1_readRow_42 : decode cX1_readRow 42 = .ok (.invokestatic 71, 3) := by decide +kernel
theorem dX1_readRow_45 : decode cX1_readRow 45 = .ok (.istore 4, 2) := by decide +kernel
theorem dX1_readRow_47 : decode cX1_readRow 47 = .ok (.aload_n 0, 1) := by decide +kernel
theorem dX1_readRow_48 : decode cX1_readRow 48 = .ok (.getfield 15, 3) := by decide +kernel
theorem dX1_readRow_51 : decode cX1_readRow 51 = .ok (.iload_n 2, 1) := by decide +kernel
theorem dX1_readRow_52 : decode cX1_readRow 52 = .ok (.iaload, 1) := by decide +kernel
theorem dX1_readRow_53 : decode cX1_readRow 53 = .ok (.istore 5, 2) := by decide +kernel
theorem dX1_readRow_55 : decode cX1_readRow 55 = .ok (.iload_n 2, 1) := by decide +kernel
theorem dX1_readRow_56 : decode cX1_readRow 56 = .ok (.iconst 1, 1) := by decide +kernel
theorem dX1_readRow_57 : decode cX1_readRow 57 = .ok (.iload 4, 2) := by decide +kernel
theorem dX1_readRow_59 : decode cX1_readRow 59 = .ok (.ishl, 1) := by decide +kernel
theorem dX1_readRow_60 : decode cX1_readRow 60 = .ok (.iconst (-1), 1) := by decide +kernel
theorem dX1_readRow_61 : decode cX1_readRow 61 = .ok (.ixor, 1) := by decide +kernel
theorem dX1_readRow_62 : decode cX1_readRow 62 = .ok (.iand, 1) := by decide +kernel
theorem dX1_readRow_63 : decode cX1_readRow 63 = .ok (.istore_n 2, 1) := by decide +kernel
theorem dX1_readRow_64 : decode cX1_readRow 64 = .ok (.iload 4, 2) := by decide +kernel
theorem dX1_readRow_66 : decode cX1_readRow 66 = .ok (.bipush 8, 2) := by decide +kernel
theorem dX1_readRow_68 : decode cX1_readRow 68 = .ok (.if_icmp .ge 74, 3) := by decide +kernel
theorem dX1_readRow_71 : decode cX1_readRow 71 = .ok (.iload 5, 2) := by decide +kernel
theorem dX1_readRow_73 : decode cX1_readRow 73 = .ok (.ifCond .lt 69, 3) := by decide +kernel
theorem dX1_readRow_76 : decode cX1_readRow 76 = .ok (.iload 5, 2) := by decide +kernel
theorem dX1_readRow_78 : decode cX1_readRow 78 = .ok (.bipush 8, 2) := by decide +kernel
theorem dX1_readRow_80 : decode cX1_readRow 80 = .ok (.if_icmp .ge 62, 3) := by decide +kernel
theorem dX1_readRow_83 : decode cX1_readRow 83 = .ok (.iload_n 2, 1) := by decide +kernel
theorem dX1_readRow_84 : decode cX1_readRow 84 = .ok (.iconst 1, 1) := by decide +kernel
theorem dX1_readRow_85 : decode cX1_readRow 85 = .ok (.iload 5, 2) := by decide +kernel
theorem dX1_readRow_87 : decode cX1_readRow 87 = .ok (.ishl, 1) := by decide +kernel
theorem dX1_readRow_88 : decode cX1_readRow 88 = .ok (.iconst (-1), 1) := by decide +kernel
theorem dX1_readRow_89 : decode cX1_readRow 89 = .ok (.ixor, 1) := by decide +kernel
theorem dX1_readRow_90 : decode cX1_readRow 90 = .ok (.iand, 1) := by decide +kernel
theorem dX1_readRow_91 : decode cX1_readRow 91 = .ok (.istore_n 2, 1) := by decide +kernel
theorem dX1_readRow_92 : decode cX1_readRow 92 = .ok (.aload_n 0, 1) := by decide +kernel
theorem dX1_readRow_93 : decode cX1_readRow 93 = .ok (.getfield 18, 3) := by decide +kernel
theorem dX1_readRow_96 : decode cX1_readRow 96 = .ok (.iload 4, 2) := by decide +kernel
theorem dX1_readRow_98 : decode cX1_readRow 98 = .ok (.iload 5, 2) := by decide +kernel
theorem dX1_readRow_100 : decode cX1_readRow 100 = .ok (.iastore, 1) := by decide +kernel
theorem dX1_readRow_101 : decode cX1_readRow 101 = .ok (.aload_n 0, 1) := by decide +kernel
theorem dX1_readRow_102 : decode cX1_readRow 102 = .ok (.getfield 18, 3) := by decide +kernel
theorem dX1_readRow_105 : decode cX1_readRow 105 = .ok (.iload 5, 2) := by decide +kernel
theorem dX1_readRow_107 : decode cX1_readRow 107 = .ok (.iload 4, 2) := by decide +kernel
theorem dX1_readRow_109 : decode cX1_readRow 109 = .ok (.iastore, 1) := by decide +kernel
theorem dX1_readRow_110 : decode cX1_readRow 110 = .ok (.aload_n 0, 1) := by decide +kernel
theorem dX1_readRow_111 : decode cX1_readRow 111 = .ok (.dup, 1) := by decide +kernel
theorem dX1_readRow_112 : decode cX1_readRow 112 = .ok (.getfield 24, 3) := by decide +kernel
theorem dX1_readRow_115 : decode cX1_readRow 115 = .ok (.iconst 1, 1) := by decide +kernel
theorem dX1_readRow_116 : decode cX1_readRow 116 = .ok (.iadd, 1) := by decide +kernel
theorem dX1_readRow_117 : decode cX1_readRow 117 = .ok (.putfield 24, 3) := by decide +kernel
theorem dX1_readRow_120 : decode cX1_readRow 120 = .ok (.aload_n 0, 1) := by decide +kernel
theorem dX1_readRow_121 : decode cX1_readRow 121 = .ok (.dup, 1) := by decide +kernel
theorem dX1_readRow_122 : decode cX1_readRow 122 = .ok (.getfield 28, 3) := by decide +kernel
theorem dX1_readRow_125 : decode cX1_readRow 125 = .ok (.aload_n 0, 1) := by decide +kernel
theorem dX1_readRow_126 : decode cX1_readRow 126 = .ok (.getfield 21, 3) := by decide +kernel
theorem dX1_readRow_129 : decode cX1_readRow 129 = .ok (.iload 4, 2) := by decide +kernel
theorem dX1_readRow_131 : decode cX1_readRow 131 = .ok (.bipush 8, 2) := by decide +kernel
theorem dX1_readRow_133 : decode cX1_readRow 133 = .ok (.imul, 1) := by decide +kernel
theorem dX1_readRow_134 : decode cX1_readRow 134 = .ok (.iload 5, 2) := by decide +kernel
theorem dX1_readRow_136 : decode cX1_readRow 136 = .ok (.iadd, 1) := by decide +kernel
theorem dX1_readRow_137 : decode cX1_readRow 137 = .ok (.iaload, 1) := by decide +kernel
theorem dX1_readRow_138 : decode cX1_readRow 138 = .ok (.iadd, 1) := by decide +kernel
theorem dX1_readRow_139 : decode cX1_readRow 139 = .ok (.putfield 28, 3) := by decide +kernel
theorem dX1_readRow_142 : decode cX1_readRow 142 = .ok (.iinc 3 1, 3) := by decide +kernel
theorem dX1_readRow_145 : decode cX1_readRow 145 = .ok (.goto (-123), 3) := by decide +kernel
theorem dX1_readRow_148 : decode cX1_readRow 148 = .ok (.return_, 1) := by decide +kernel
theorem dX1_otherOf_0 : decode cX1_otherOf 0 = .ok (.iload_n 1, 1) := by decide +kernel
theorem dX1_otherOf_1 : decode cX1_otherOf 1 = .ok (.ifCond .lt 21, 3) := by decide +kernel
theorem dX1_otherOf_4 : decode cX1_otherOf 4 = .ok (.iload_n 1, 1) := by decide +kernel
theorem dX1_otherOf_5 : decode cX1_otherOf 5 = .ok (.aload_n 0, 1) := by decide +kernel
theorem dX1_otherOf_6 : decode cX1_otherOf 6 = .ok (.getfield 18, 3) := by decide +kernel
theorem dX1_otherOf_9 : decode cX1_otherOf 9 = .ok (.arraylength, 1) := by decide +kernel
theorem dX1_otherOf_10 : decode cX1_otherOf 10 = .ok (.if_icmp .ge 12, 3) := by decide +kernel
theorem dX1_otherOf_13 : decode cX1_otherOf 13 = .ok (.aload_n 0, 1) := by decide +kernel
theorem dX1_otherOf_14 : decode cX1_otherOf 14 = .ok (.getfield 18, 3) := by decide +kernel
theorem dX1_otherOf_17 : decode cX1_otherOf 17 = .ok (.iload_n 1, 1) := by decide +kernel
theorem dX1_otherOf_18 : decode cX1_otherOf 18 = .ok (.iaload, 1) := by decide +kernel
theorem dX1_otherOf_19 : decode cX1_otherOf 19 = .ok (.goto 4, 3) := by decide +kernel
theorem dX1_otherOf_22 : decode cX1_otherOf 22 = .ok (.iconst (-1), 1) := by decide +kernel
theorem dX1_otherOf_23 : decode cX1_otherOf 23 = .ok (.ireturn, 1) := by decide +kernel
theorem dX2_init_0 : decode cX2_init 0 = .ok (.aload_n 0, 1) := by decide +kernel
theorem dX2_init_1 : decode cX2_init 1 = .ok (.invokespecial 3, 3) := by decide +kernel
theorem dX2_init_4 : decode cX2_init 4 = .ok (.aload_n 0, 1) := by decide +kernel
theorem dX2_init_5 : decode cX2_init 5 = .ok (.new 9, 3) := by decide +kernel
theorem dX2_init_8 : decode cX2_init 8 = .ok (.dup, 1) := by decide +kernel
theorem dX2_init_9 : decode cX2_init 9 = .ok (.invokespecial 11, 3) := by decide +kernel
theorem dX2_init_12 : decode cX2_init 12 = .ok (.putfield 12, 3) := by decide +kernel
theorem dX2_init_15 : decode cX2_init 15 = .ok (.aload_n 0, 1) := by decide +kernel
theorem dX2_init_16 : decode cX2_init 16 = .ok (.new 18, 3) := by decide +kernel
theorem dX2_init_19 : decode cX2_init 19 = .ok (.dup, 1) := by decide +kernel
theorem dX2_init_20 : decode cX2_init 20 = .ok (.invokespecial 20, 3) := by decide +kernel
theorem dX2_init_23 : decode cX2_init 23 = .ok (.putfield 21, 3) := by decide +kernel
theorem dX2_init_26 : decode cX2_init 26 = .ok (.aload_n 0, 1) := by decide +kernel
theorem dX2_init_27 : decode cX2_init 27 = .ok (.new 25, 3) := by decide +kernel
theorem dX2_init_30 : decode cX2_init 30 = .ok (.dup, 1) := by decide +kernel
theorem dX2_init_31 : decode cX2_init 31 = .ok (.invokespecial 27, 3) := by decide +kernel
theorem dX2_init_34 : decode cX2_init 34 = .ok (.putfield 28, 3) := by decide +kernel
theorem dX2_init_37 : decode cX2_init 37 = .ok (.aload_n 0, 1) := by decide +kernel
theorem dX2_init_38 : decode cX2_init 38 = .ok (.iconst 3, 1) := by decide +kernel
theorem dX2_init_39 : decode cX2_init 39 = .ok (.newarray .int, 2) := by decide +kernel
theorem dX2_init_41 : decode cX2_init 41 = .ok (.putfield 32, 3) := by decide +kernel
theorem dX2_init_44 : decode cX2_init 44 = .ok (.aload_n 0, 1) := by decide +kernel
theorem dX2_init_45 : decode cX2_init 45 = .ok (.iconst 0, 1) := by decide +kernel
theorem dX2_init_46 : decode cX2_init 46 = .ok (.putfield 36, 3) := by decide +kernel
theorem dX2_init_49 : decode cX2_init 49 = .ok (.return_, 1) := by decide +kernel
theorem dX3_init_0 : decode cX3_init 0 = .ok (.aload_n 0, 1) := by decide +kernel
theorem dX3_init_1 : decode cX3_init 1 = .ok (.invokespecial 3, 3) := by decide +kernel
theorem dX3_init_4 : decode cX3_init 4 = .ok (.aload_n 0, 1) := by decide +kernel
theorem dX3_init_5 : decode cX3_init 5 = .ok (.bipush 8, 2) := by decide +kernel
theorem dX3_init_7 : decode cX3_init 7 = .ok (.newarray .int, 2) := by decide +kernel
theorem dX3_init_9 : decode cX3_init 9 = .ok (.putfield 9, 3) := by decide +kernel
theorem dX3_init_12 : decode cX3_init 12 = .ok (.aload_n 0, 1) := by decide +kernel
theorem dX3_init_13 : decode cX3_init 13 = .ok (.bipush 6, 2) := by decide +kernel
theorem dX3_init_15 : decode cX3_init 15 = .ok (.newarray .int, 2) := by decide +kernel
theorem dX3_init_17 : decode cX3_init 17 = .ok (.putfield 15, 3) := by decide +kernel
theorem dX3_init_20 : decode cX3_init 20 = .ok (.aload_n 0, 1) := by decide +kernel
theorem dX3_init_21 : decode cX3_init 21 = .ok (.bipush 8, 2) := by decide +kernel
theorem dX3_init_23 : decode cX3_init 23 = .ok (.newarray .int, 2) := by decide +kernel
theorem dX3_init_25 : decode cX3_init 25 = .ok (.putfield 18, 3) := by decide +kernel
theorem dX3_init_28 : decode cX3_init 28 = .ok (.aload_n 0, 1) := by decide +kernel
theorem dX3_init_29 : decode cX3_init 29 = .ok (.bipush 8, 2) := by decide +kernel
theorem dX3_init_31 : decode cX3_init 31 = .ok (.newarray .int, 2) := by decide +kernel
theorem dX3_init_33 : decode cX3_init 33 = .ok (.putfield 21, 3) := by decide +kernel
theorem dX3_init_36 : decode cX3_init 36 = .ok (.aload_n 0, 1) := by decide +kernel
theorem dX3_init_37 : decode cX3_init 37 = .ok (.bipush 64, 2) := by decide +kernel
theorem dX3_init_39 : decode cX3_init 39 = .ok (.newarray .int, 2) := by decide +kernel
theorem dX3_init_41 : decode cX3_init 41 = .ok (.putfield 24, 3) := by decide +kernel
theorem dX3_init_44 : decode cX3_init 44 = .ok (.aload_n 0, 1) := by decide +kernel
theorem dX3_init_45 : decode cX3_init 45 = .ok (.bipush 40, 2) := by decide +kernel
theorem dX3_init_47 : decode cX3_init 47 = .ok (.newarray .int, 2) := by decide +kernel
theorem dX3_init_49 : decode cX3_init 49 = .ok (.putfield 29, 3) := by decide +kernel
theorem dX3_init_52 : decode cX3_init 52 = .ok (.aload_n 0, 1) := by decide +kernel
theorem dX3_init_53 : decode cX3_init 53 = .ok (.iconst 0, 1) := by decide +kernel
theorem dX3_init_54 : decode cX3_init 54 = .ok (.putfield 32, 3) := by decide +kernel
theorem dX3_init_57 : decode cX3_init 57 = .ok (.aload_n 0, 1) := by decide +kernel
theorem dX3_init_58 : decode cX3_init 58 = .ok (.iconst 0, 1) := by decide +kernel
theorem dX3_init_59 : decode cX3_init 59 = .ok (.putfield 36, 3) := by decide +kernel
theorem dX3_init_62 : decode cX3_init 62 = .ok (.return_, 1) := by decide +kernel
theorem dX3_clear_0 : decode cX3_clear 0 = .ok (.aload_n 0, 1) := by decide +kernel
theorem dX3_clear_1 : decode cX3_clear 1 = .ok (.getfield 18, 3) := by decide +kernel
theorem dX3_clear_4 : decode cX3_clear 4 = .ok (.iconst (-1), 1) := by decide +kernel
theorem dX3_clear_5 : decode cX3_clear 5 = .ok (.invokestatic 39, 3) := by decide +kernel
theorem dX3_clear_8 : decode cX3_clear 8 = .ok (.aload_n 0, 1) := by decide +kernel
theorem dX3_clear_9 : decode cX3_clear 9 = .ok (.getfield 21, 3) := by decide +kernel
theorem dX3_clear_12 : decode cX3_clear 12 = .ok (.iconst 0, 1) := by decide +kernel
theorem dX3_clear_13 : decode cX3_clear 13 = .ok (.invokestatic 39, 3) := by decide +kernel
theorem dX3_clear_16 : decode cX3_clear 16 = .ok (.aload_n 0, 1) := by decide +kernel
theorem dX3_clear_17 : decode cX3_clear 17 = .ok (.getfield 24, 3) := by decide +kernel
theorem dX3_clear_20 : decode cX3_clear 20 = .ok (.iconst 0, 1) := by decide +kernel
theorem dX3_clear_21 : decode cX3_clear 21 = .ok (.invokestatic 39, 3) := by decide +kernel
theorem dX3_clear_24 : decode cX3_clear 24 = .ok (.aload_n 0, 1) := by decide +kernel
theorem dX3_clear_25 : decode cX3_clear 25 = .ok (.iconst 0, 1) := by decide +kernel
theorem dX3_clear_26 : decode cX3_clear 26 = .ok (.putfield 32, 3) := by decide +kernel
theorem dX3_clear_29 : decode cX3_clear 29 = .ok (.aload_n 0, 1) := by decide +kernel
theorem dX3_clear_30 : decode cX3_clear 30 = .ok (.iconst 0, 1) := by decide +kernel
theorem dX3_clear_31 : decode cX3_clear 31 = .ok (.putfield 36, 3) := by decide +kernel
theorem dX3_clear_34 : decode cX3_clear 34 = .ok (.return_, 1) := by decide +kernel
theorem dX3_goOn_0 : decode cX3_goOn 0 = .ok (.iconst 0, 1) := by decide +kernel
theorem dX3_goOn_1 : decode cX3_goOn 1 = .ok (.istore 4, 2) := by decide +kernel
theorem dX3_goOn_3 : decode cX3_goOn 3 = .ok (.iload 4, 2) := by decide +kernel
theorem dX3_goOn_5 : decode cX3_goOn 5 = .ok (.iload_n 3, 1) := by decide +kernel
theorem dX3_goOn_6 : decode cX3_goOn 6 = .ok (.if_icmp .ge 89, 3) := by decide +kernel
theorem dX3_goOn_9 : decode cX3_goOn 9 = .ok (.aload_n 0, 1) := by decide +kernel
theorem dX3_goOn_10 : decode cX3_goOn 10 = .ok (.aload_n 1, 1) := by decide +kernel
theorem dX3_goOn_11 : decode cX3_goOn 11 = .ok (.aload_n 2, 1) := by decide +kernel
theorem dX3_goOn_12 : decode cX3_goOn 12 = .ok (.getfield 45, 3) := by decide +kernel
theorem dX3_goOn_15 : decode cX3_goOn 15 = .ok (.invokevirtual 50, 3) := by decide +kernel
theorem dX3_goOn_18 : decode cX3_goOn 18 = .ok (.iconst 1, 1) := by decide +kernel
theorem dX3_goOn_19 : decode cX3_goOn 19 = .ok (.istore 5, 2) := by decide +kernel
theorem dX3_goOn_21 : decode cX3_goOn 21 = .ok (.iconst 0, 1) := by decide +kernel
theorem dX3_goOn_22 : decode cX3_goOn 22 = .ok (.istore 6, 2) := by decide +kernel
theorem dX3_goOn_24 : decode cX3_goOn 24 = .ok (.iload 6, 2) := by decide +kernel
theorem dX3_goOn_26 : decode cX3_goOn 26 = .ok (.aload_n 1, 1) := by decide +kernel
theorem dX3_goOn_27 : decode cX3_goOn 27 = .ok (.getfield 54, 3) := by decide +kernel
theorem dX3_goOn_30 : decode cX3_goOn 30 = .ok (.if_icmp .ge 36, 3) := by decide +kernel
theorem dX3_goOn_33 : decode cX3_goOn 33 = .ok (.aload_n 0, 1) := by decide +kernel
theorem dX3_goOn_34 : decode cX3_goOn 34 = .ok (.aload_n 1, 1) := by decide +kernel
theorem dX3_goOn_35 : decode cX3_goOn 35 = .ok (.aload_n 2, 1) := by decide +kernel
theorem dX3_goOn_36 : decode cX3_goOn 36 = .ok (.iload 6, 2) := by decide +kernel
theorem dX3_goOn_38 : decode cX3_goOn 38 = .ok (.invokevirtual 59, 3) := by decide +kernel
theorem dX3_goOn_41 : decode cX3_goOn 41 = .ok (.istore 7, 2) := by decide +kernel
theorem dX3_goOn_43 : decode cX3_goOn 43 = .ok (.iload 5, 2) := by decide +kernel
theorem dX3_goOn_45 : decode cX3_goOn 45 = .ok (.ifCond .eq 12, 3) := by decide +kernel
theorem dX3_goOn_48 : decode cX3_goOn 48 = .ok (.iload 7, 2) := by decide +kernel
theorem dX3_goOn_50 : decode cX3_goOn 50 = .ok (.ifCond .ne 7, 3) := by decide +kernel
theorem dX3_goOn_53 : decode cX3_goOn 53 = .ok (.iconst 1, 1) := by decide +kernel
theorem dX3_goOn_54 : decode cX3_goOn 54 = .ok (.goto 4, 3) := by decide +kernel
theorem dX3_goOn_57 : decode cX3_goOn 57 = .ok (.iconst 0, 1) := by decide +kernel
theorem dX3_goOn_58 : decode cX3_goOn 58 = .ok (.istore 5, 2) := by decide +kernel
theorem dX3_goOn_60 : decode cX3_goOn 60 = .ok (.iinc 6 1, 3) := by decide +kernel
theorem dX3_goOn_63 : decode cX3_goOn 63 = .ok (.goto (-39), 3) := by decide +kernel
theorem dX3_goOn_66 : decode cX3_goOn 66 = .ok (.aload_n 0, 1) := by decide +kernel
theorem dX3_goOn_67 : decode cX3_goOn 67 = .ok (.dup, 1) := by decide +kernel
theorem dX3_goOn_68 : decode cX3_goOn 68 = .ok (.getfield 36, 3) := by decide +kernel
theorem dX3_goOn_71 : decode cX3_goOn 71 = .ok (.iload 5, 2) := by decide +kernel
theorem dX3_goOn_73 : decode cX3_goOn 73 = .ok (.ifCond .eq 7, 3) := by decide +kernel
theorem dX3_goOn_76 : decode cX3_goOn 76 = .ok (.iconst 1, 1) := by decide +kernel
theorem dX3_goOn_77 : decode cX3_goOn 77 = .ok (.goto 4, 3) := by decide +kernel
theorem dX3_goOn_80 : decode cX3_goOn 80 = .ok (.iconst 0, 1) := by decide +kernel
theorem dX3_goOn_81 : decode cX3_goOn 81 = .ok (.iadd, 1) := by decide +kernel
theorem dX3_goOn_82 : decode cX3_goOn 82 = .ok (.putfield 36, 3) := by decide +kernel
theorem dX3_goOn_85 : decode cX3_goOn 85 = .ok (.aload_n 2, 1) := by decide +kernel
theorem dX3_goOn_86 : decode cX3_goOn 86 = .ok (.invokevirtual 63, 3) := by decide +kernel
theorem dX3_goOn_89 : decode cX3_goOn 89 = .ok (.iinc 4 1, 3) := by decide +kernel
theorem dX3_goOn_92 : decode cX3_goOn 92 = .ok (.goto (-89), 3) := by decide +kernel
theorem dX3_goOn_95 : decode cX3_goOn 95 = .ok (.return_, 1) := by decide +kernel
theorem dX3_placeAll_0 : decode cX3_placeAll 0 = .ok (.aload_n 0, 1) := by decide +kernel
theorem dX3_placeAll_1 : decode cX3_placeAll 1 = .ok (.getfield 18, 3) := by decide +kernel
theorem dX3_placeAll_4 : decode cX3_placeAll 4 = .ok (.iconst (-1), 1) := by decide +kernel
theorem dX3_placeAll_5 : decode cX3_placeAll 5 = .ok (.invokestatic 39, 3) := by decide +kernel
theorem dX3_placeAll_8 : decode cX3_placeAll 8 = .ok (.aload_n 0, 1) := by decide +kernel
theorem dX3_placeAll_9 : decode cX3_placeAll 9 = .ok (.getfield 15, 3) := by decide +kernel
theorem dX3_placeAll_12 : decode cX3_placeAll 12 = .ok (.iconst 0, 1) := by decide +kernel
theorem dX3_placeAll_13 : decode cX3_placeAll 13 = .ok (.invokestatic 39, 3) := by decide +kernel
theorem dX3_placeAll_16 : decode cX3_placeAll 16 = .ok (.iconst 0, 1) := by decide +kernel
theorem dX3_placeAll_17 : decode cX3_placeAll 17 = .ok (.istore_n 3, 1) := by decide +kernel
theorem dX3_placeAll_18 : decode cX3_placeAll 18 = .ok (.iload_n 3, 1) := by decide +kernel
theorem dX3_placeAll_19 : decode cX3_placeAll 19 = .ok (.aload_n 1, 1) := by decide +kernel
theorem dX3_placeAll_20 : decode cX3_placeAll 20 = .ok (.getfield 54, 3) := by decide +kernel
theorem dX3_placeAll_23 : decode cX3_placeAll 23 = .ok (.if_icmp .ge 62, 3) := by decide +kernel
theorem dX3_placeAll_26 : decode cX3_placeAll 26 = .ok (.iload_n 3, 1) := by decide +kernel
theorem dX3_placeAll_27 : decode cX3_placeAll 27 = .ok (.aload_n 0, 1) := by decide +kernel
theorem dX3_placeAll_28 : decode cX3_placeAll 28 = .ok (.getfield 9, 3) := by decide +kernel
theorem dX3_placeAll_31 : decode cX3_placeAll 31 = .ok (.arraylength, 1) := by decide +kernel
theorem dX3_placeAll_32 : decode cX3_placeAll 32 = .ok (.if_icmp .ge 53, 3) := by decide +kernel
theorem dX3_placeAll_35 : decode cX3_placeAll 35 = .ok (.aload_n 1, 1) := by decide +kernel
theorem dX3_placeAll_36 : decode cX3_placeAll 36 = .ok (.iload_n 3, 1) := by decide +kernel
theorem dX3_placeAll_37 : decode cX3_placeAll 37 = .ok (.iload_n 2, 1) := by decide +kernel
theorem dX3_placeAll_38 : decode cX3_placeAll 38 = .ok (.invokevirtual 66, 3) := by decide +kernel
theorem dX3_placeAll_41 : decode cX3_placeAll 41 = .ok (.istore 4, 2) := by decide +kernel
theorem dX3_placeAll_43 : decode cX3_placeAll 43 = .ok (.iload 4, 2) := by decide +kernel
theorem dX3_placeAll_45 : decode cX3_placeAll 45 = .ok (.ifCond .lt 34, 3) := by decide +kernel
theorem dX3_placeAll_48 : decode cX3_placeAll 48 = .ok (.iload 4, 2) := by decide +kernel
theorem dX3_placeAll_50 : decode cX3_placeAll 50 = .ok (.aload_n 0, 1) := by decide +kernel
theorem dX3_placeAll_51 : decode cX3_placeAll 51 = .ok (.getfield 15, 3) := by decide +kernel
theorem dX3_placeAll_54 : decode cX3_placeAll 54 = .ok (.arraylength, 1) := by decide +kernel
theorem dX3_placeAll_55 : decode cX3_placeAll 55 = .ok (.if_icmp .ge 24, 3) := by decide +kernel
theorem dX3_placeAll_58 : decode cX3_placeAll 58 = .ok (.aload_n 0, 1) := by decide +kernel
theorem dX3_placeAll_59 : decode cX3_placeAll 59 = .ok (.getfield 9, 3) := by decide +kernel
theorem dX3_placeAll_62 : decode cX3_placeAll 62 = .ok (.iload_n 3, 1) := by decide +kernel
theorem dX3_placeAll_63 : decode cX3_placeAll 63 = .ok (.iload 4, 2) := by decide +kernel
theorem dX3_placeAll_65 : decode cX3_placeAll 65 = .ok (.iastore, 1) := by decide +kernel
theorem dX3_placeAll_66 : decode cX3_placeAll 66 = .ok (.aload_n 0, 1) := by decide +kernel
theorem dX3_placeAll_67 : decode cX3_placeAll 67 = .ok (.getfield 15, 3) := by decide +kernel
theorem dX3_placeAll_70 : decode cX3_placeAll 70 = .ok (.iload 4, 2) := by decide +kernel
theorem dX3_placeAll_72 : decode cX3_placeAll 72 = .ok (.dup2, 1) := by decide +kernel
theorem dX3_placeAll_73 : decode cX3_placeAll 73 = .ok (.iaload, 1) := by decide +kernel
theorem dX3_placeAll_74 : decode cX3_placeAll 74 = .ok (.iconst 1, 1) := by decide +kernel
theorem dX3_placeAll_75 : decode cX3_placeAll 75 = .ok (.iload_n 3, 1) := by decide +kernel
theorem dX3_placeAll_76 : decode cX3_placeAll 76 = .ok (.ishl, 1) := by decide +kernel
theorem dX3_placeAll_77 : decode cX3_placeAll 77 = .ok (.ior, 1) := by decide +kernel
theorem dX3_placeAll_78 : decode cX3_placeAll 78 = .ok (.iastore, 1) := by decide +kernel
theorem dX3_placeAll_79 : decode cX3_placeAll 79 = .ok (.iinc 3 1, 3) := by decide +kernel
theorem dX3_placeAll_82 : decode cX3_placeAll 82 = .ok (.goto (-64), 3) := by decide +kernel
theorem dX3_placeAll_85 : decode cX3_placeAll 85 = .ok (.return_, 1) := by decide +kernel
theorem dX3_othersAt_0 : decode cX3_othersAt 0 = .ok (.iload_n 1, 1) := by decide +kernel
theorem dX3_othersAt_1 : decode cX3_othersAt 1 = .ok (.ifCond .lt 21, 3) := by decide +kernel
theorem dX3_othersAt_4 : decode cX3_othersAt 4 = .ok (.iload_n 1, 1) := by decide +kernel
theorem dX3_othersAt_5 : decode cX3_othersAt 5 = .ok (.aload_n 0, 1) := by decide +kernel
theorem dX3_othersAt_6 : decode cX3_othersAt 6 = .ok (.getfield 9, 3) := by decide +kernel
theorem dX3_othersAt_9 : decode cX3_othersAt 9 = .ok (.arraylength, 1) := by decide +kernel
theorem dX3_othersAt_10 : decode cX3_othersAt 10 = .ok (.if_icmp .ge 12, 3) := by decide +kernel
theorem dX3_othersAt_13 : decode cX3_othersAt 13 = .ok (.aload_n 0, 1) := by decide +kernel
theorem dX3_othersAt_14 : decode cX3_othersAt 14 = .ok (.getfield 9, 3) := by decide +kernel
theorem dX3_othersAt_17 : decode cX3_othersAt 17 = .ok (.iload_n 1, 1) := by decide +kernel
theorem dX3_othersAt_18 : decode cX3_othersAt 18 = .ok (.iaload, 1) := by decide +kernel
theorem dX3_othersAt_19 : decode cX3_othersAt 19 = .ok (.goto 4, 3) := by decide +kernel
theorem dX3_othersAt_22 : decode cX3_othersAt 22 = .ok (.iconst (-1), 1) := by decide +kernel
theorem dX3_othersAt_23 : decode cX3_othersAt 23 = .ok (.istore_n 2, 1) := by decide +kernel
theorem dX3_othersAt_24 : decode cX3_othersAt 24 = .ok (.iload_n 2, 1) := by decide +kernel
theorem dX3_othersAt_25 : decode cX3_othersAt 25 = .ok (.ifCond .lt 27, 3) := by decide +kernel
theorem dX3_othersAt_28 : decode cX3_othersAt 28 = .ok (.iload_n 2, 1) := by decide +kernel
theorem dX3_othersAt_29 : decode cX3_othersAt 29 = .ok (.aload_n 0, 1) := by decide +kernel
theorem dX3_othersAt_30 : decode cX3_othersAt 30 = .ok (.getfield 15, 3) := by decide +kernel
theorem dX3_othersAt_33 : decode cX3_othersAt 33 = .ok (.arraylength, 1) := by decide +kernel
theorem dX3_othersAt_34 : decode cX3_othersAt 34 = .ok (.if_icmp .ge 18, 3) := by decide +kernel
theorem dX3_othersAt_37 : decode cX3_othersAt 37 = .ok (.aload_n 0, 1) := by decide +kernel
theorem dX3_othersAt_38 : decode cX3_othersAt 38 = .ok (.getfield 15, 3) := by decide +kernel
theorem dX3_othersAt_41 : decode cX3_othersAt 41 = .ok (.iload_n 2, 1) := by decide +kernel
theorem dX3_othersAt_42 : decode cX3_othersAt 42 = .ok (.iaload, 1) := by decide +kernel
theorem dX3_othersAt_43 : decode cX3_othersAt 43 = .ok (.iconst 1, 1) := by decide +kernel
theorem dX3_othersAt_44 : decode cX3_othersAt 44 = .ok (.iload_n 1, 1) := by decide +kernel
theorem dX3_othersAt_45 : decode cX3_othersAt 45 = .ok (.ishl, 1) := by decide +kernel
theorem dX3_othersAt_46 : decode cX3_othersAt 46 = .ok (.iconst (-1), 1) := by decide +kernel
theorem dX3_othersAt_47 : decode cX3_othersAt 47 = .ok (.ixor, 1) := by decide +kernel
theorem dX3_othersAt_48 : decode cX3_othersAt 48 = .ok (.iand, 1) := by decide +kernel
theorem dX3_othersAt_49 : decode cX3_othersAt 49 = .ok (.goto 4, 3) := by decide +kernel
theorem dX3_othersAt_52 : decode cX3_othersAt 52 = .ok (.iconst 0, 1) := by decide +kernel
theorem dX3_othersAt_53 : decode cX3_othersAt 53 = .ok (.ireturn, 1) := by decide +kernel
theorem dX3_letAsk_0 : decode cX3_letAsk 0 = .ok (.aload_n 2, 1) := by decide +kernel
theorem dX3_letAsk_1 : decode cX3_letAsk 1 = .ok (.invokevirtual 70, 3) := by decide +kernel
theorem dX3_letAsk_4 : decode cX3_letAsk 4 = .ok (.aload_n 2, 1) := by decide +kernel
theorem dX3_letAsk_5 : decode cX3_letAsk 5 = .ok (.getfield 74, 3) := by decide +kernel
theorem dX3_letAsk_8 : decode cX3_letAsk 8 = .ok (.iconst (-1), 1) := by decide +kernel
theorem dX3_letAsk_9 : decode cX3_letAsk 9 = .ok (.ixor, 1) := by decide +kernel
theorem dX3_letAsk_10 : decode cX3_letAsk 10 = .ok (.iand, 1) := by decide +kernel
theorem dX3_letAsk_11 : decode cX3_letAsk 11 = .ok (.istore 4, 2) := by decide +kernel
theorem dX3_letAsk_13 : decode cX3_letAsk 13 = .ok (.aload_n 0, 1) := by decide +kernel
theorem dX3_letAsk_14 : decode cX3_letAsk 14 = .ok (.iload_n 3, 1) := by decide +kernel
theorem dX3_letAsk_15 : decode cX3_letAsk 15 = .ok (.invokevirtual 77, 3) := by decide +kernel
theorem dX3_letAsk_18 : decode cX3_letAsk 18 = .ok (.iload 4, 2) := by decide +kernel
theorem dX3_letAsk_20 : decode cX3_letAsk 20 = .ok (.iand, 1) := by decide +kernel
theorem dX3_letAsk_21 : decode cX3_letAsk 21 = .ok (.istore 5, 2) := by decide +kernel
theorem dX3_letAsk_23 : decode cX3_letAsk 23 = .ok (.iload 4, 2) := by decide +kernel
theorem dX3_letAsk_25 : decode cX3_letAsk 25 = .ok (.iload_n 3, 1) := by decide +kernel
theorem dX3_letAsk_26 : decode cX3_letAsk 26 = .ok (.ishr, 1) := by decide +kernel
theorem dX3_letAsk_27 : decode cX3_letAsk 27 = .ok (.iconst 1, 1) := by decide +kernel
theorem dX3_letAsk_28 : decode cX3_letAsk 28 = .ok (.iand, 1) := by decide +kernel
theorem dX3_letAsk_29 : decode cX3_letAsk 29 = .ok (.iconst 1, 1) := by decide +kernel
theorem dX3_letAsk_30 : decode cX3_letAsk 30 = .ok (.if_icmp .ne 7, 3) := by decide +kernel
theorem dX3_letAsk_33 : decode cX3_letAsk 33 = .ok (.iconst 1, 1) := by decide +kernel
theorem dX3_letAsk_34 : decode cX3_letAsk 34 = .ok (.goto 4, 3) := by decide +kernel
theorem dX3_letAsk_37 : decode cX3_letAsk 37 = .ok (.iconst 0, 1) := by decide +kernel
theorem dX3_letAsk_38 : decode cX3_letAsk 38 = .ok (.istore 6, 2) := by decide +kernel
theorem dX3_letAsk_40 : decode cX3_letAsk 40 = .ok (.iload 6, 2) := by decide +kernel
theorem dX3_letAsk_42 : decode cX3_letAsk 42 = .ok (.ifCond .eq 18, 3) := by decide +kernel
theorem dX3_letAsk_45 : decode cX3_letAsk 45 = .ok (.iload 5, 2) := by decide +kernel
theorem dX3_letAsk_47 : decode cX3_letAsk 47 = .ok (.ifCond .eq 13, 3) := by decide +kernel
theorem dX3_letAsk_50 : decode cX3_letAsk 50 = .ok (.aload_n 0, 1) := by decide +kernel
theorem dX3_letAsk_51 : decode cX3_letAsk 51 = .ok (.aload_n 1, 1) := by decide +kernel
theorem dX3_letAsk_52 : decode cX3_letAsk 52 = .ok (.aload_n 2, 1) := by decide +kernel
theorem dX3_letAsk_53 : decode cX3_letAsk 53 = .ok (.iload_n 3, 1) := by decide +kernel
theorem dX3_letAsk_54 : decode cX3_letAsk 54 = .ok (.invokevirtual 81, 3) := by decide +kernel
theorem dX3_letAsk_57 : decode cX3_letAsk 57 = .ok (.ifCond .ne 5, 3) := by decide +kernel
theorem dX3_letAsk_60 : decode cX3_letAsk 60 = .ok (.iconst 0, 1) := by decide +kernel
theorem dX3_letAsk_61 : decode cX3_letAsk 61 = .ok (.ireturn, 1) := by decide +kernel
theorem dX3_letAsk_62 : decode cX3_letAsk 62 = .ok (.aload_n 2, 1) := by decide +kernel
theorem dX3_letAsk_63 : decode cX3_letAsk 63 = .ok (.iload 5, 2) := by decide +kernel
theorem dX3_letAsk_65 : decode cX3_letAsk 65 = .ok (.invokevirtual 84, 3) := by decide +kernel
theorem dX3_letAsk_68 : decode cX3_letAsk 68 = .ok (.istore 7, 2) := by decide +kernel
theorem dX3_letAsk_70 : decode cX3_letAsk 70 = .ok (.aload_n 2, 1) := by decide +kernel
theorem dX3_letAsk_71 : decode cX3_letAsk 71 = .ok (.iload 7, 2) := by decide +kernel
theorem dX3_letAsk_73 : decode cX3_letAsk 73 = .ok (.aload_n 0, 1) := by decide +kernel
theorem dX3_letAsk_74 : decode cX3_letAsk 74 = .ok (.aload_n 1, 1) := by decide +kernel
theorem dX3_letAsk_75 : decode cX3_letAsk 75 = .ok (.aload_n 2, 1) := by decide +kernel
theorem dX3_letAsk_76 : decode cX3_letAsk 76 = .ok (.iload 7, 2) := by decide +kernel
theorem dX3_letAsk_78 : decode cX3_letAsk 78 = .ok (.iload_n 3, 1) := by decide +kernel
theorem dX3_letAsk_79 : decode cX3_letAsk 79 = .ok (.invokevirtual 87, 3) := by decide +kernel
theorem dX3_letAsk_82 : decode cX3_letAsk 82 = .ok (.invokevirtual 91, 3) := by decide +kernel
theorem dX3_letAsk_85 : decode cX3_letAsk 85 = .ok (.istore 8, 2) := by decide +kernel
theorem dX3_letAsk_87 : decode cX3_letAsk 87 = .ok (.aload_n 2, 1) := by decide +kernel
theorem dX3_letAsk_88 : decode cX3_letAsk 88 = .ok (.iload_n 3, 1) := by decide +kernel
theorem dX3_letAsk_89 : decode cX3_letAsk 89 = .ok (.iload 8, 2) := by decide +kernel
theorem dX3_letAsk_91 : decode cX3_letAsk 91 = .ok (.invokevirtual 94, 3) := by decide +kernel
theorem dX3_letAsk_94 : decode cX3_letAsk 94 = .ok (.aload_n 0, 1) := by decide +kernel
theorem dX3_letAsk_95 : decode cX3_letAsk 95 = .ok (.iload_n 3, 1) := by decide +kernel
theorem dX3_letAsk_96 : decode cX3_letAsk 96 = .ok (.iload 7, 2) := by decide +kernel
theorem dX3_letAsk_98 : decode cX3_letAsk 98 = .ok (.iload 8, 2) := by decide +kernel
theorem dX3_letAsk_100 : decode cX3_letAsk 100 = .ok (.invokevirtual 98, 3) := by decide +kernel
theorem dX3_letAsk_103 : decode cX3_letAsk 103 = .ok (.iconst 1, 1) := by decide +kernel
theorem dX3_letAsk_104 : decode cX3_letAsk 104 = .ok (.ireturn, 1) := by decide +kernel
theorem dX3_note_0 : decode cX3_note 0 = .ok (.iload_n 1, 1) := by decide +kernel
theorem dX3_note_1 : decode cX3_note 1 = .ok (.ifCond .lt 61, 3) := by decide +kernel
theorem dX3_note_4 : decode cX3_note 4 = .ok (.iload_n 1, 1) := by decide +kernel
theorem dX3_note_5 : decode cX3_note 5 = .ok (.bipush 8, 2) := by decide +kernel
theorem dX3_note_7 : decode cX3_note 7 = .ok (.if_icmp .ge 55, 3) := by decide +kernel
theorem dX3_note_10 : decode cX3_note 10 = .ok (.iload_n 2, 1) := by decide +kernel
theorem dX3_note_11 : decode cX3_note 11 = .ok (.ifCond .lt 51, 3) := by decide +kernel
theorem dX3_note_14 : decode cX3_note 14 = .ok (.iload_n 2, 1) := by decide +kernel
theorem dX3_note_15 : decode cX3_note 15 = .ok (.bipush 8, 2) := by decide +kernel
theorem dX3_note_17 : decode cX3_note 17 = .ok (.if_icmp .ge 45, 3) := by decide +kernel
theorem dX3_note_20 : decode cX3_note 20 = .ok (.aload_n 0, 1) := by decide +kernel
theorem dX3_note_21 : decode cX3_note 21 = .ok (.getfield 18, 3) := by decide +kernel
theorem dX3_note_24 : decode cX3_note 24 = .ok (.iload_n 1, 1) := by decide +kernel
theorem dX3_note_25 : decode cX3_note 25 = .ok (.iload_n 2, 1) := by decide +kernel
theorem dX3_note_26 : decode cX3_note 26 = .ok (.iastore, 1) := by decide +kernel
theorem dX3_note_27 : decode cX3_note 27 = .ok (.aload_n 0, 1) := by decide +kernel
theorem dX3_note_28 : decode cX3_note 28 = .ok (.getfield 21, 3) := by decide +kernel
theorem dX3_note_31 : decode cX3_note 31 = .ok (.iload_n 2, 1) := by decide +kernel
theorem dX3_note_32 : decode cX3_note 32 = .ok (.dup2, 1) := by decide +kernel
theorem dX3_note_33 : decode cX3_note 33 = .ok (.iaload, 1) := by decide +kernel
theorem dX3_note_34 : decode cX3_note 34 = .ok (.iconst 1, 1) := by decide +kernel
theorem dX3_note_35 : decode cX3_note 35 = .ok (.iadd, 1) := by decide +kernel
theorem dX3_note_36 : decode cX3_note 36 = .ok (.iastore, 1) := by decide +kernel
theorem dX3_note_37 : decode cX3_note 37 = .ok (.aload_n 0, 1) := by decide +kernel
theorem dX3_note_38 : decode cX3_note 38 = .ok (.getfield 24, 3) := by decide +kernel
theorem dX3_note_41 : decode cX3_note 41 = .ok (.iload_n 2, 1) := by decide +kernel
theorem dX3_note_42 : decode cX3_note 42 = .ok (.bipush 8, 2) := by decide +kernel
theorem dX3_note_44 : decode cX3_note 44 = .ok (.imul, 1) := by decide +kernel
theorem dX3_note_45 : decode cX3_note 45 = .ok (.iload_n 1, 1) := by decide +kernel
theorem dX3_note_46 : decode cX3_note 46 = .ok (.iadd, 1) := by decide +kernel
theorem dX3_note_47 : decode cX3_note 47 = .ok (.dup2, 1) := by decide +kernel
theorem dX3_note_48 : decode cX3_note 48 = .ok (.iaload, 1) := by decide +kernel
theorem dX3_note_49 : decode cX3_note 49 = .ok (.iload_n 3, 1) := by decide +kernel
theorem dX3_note_50 : decode cX3_note 50 = .ok (.iadd, 1) := by decide +kernel
theorem dX3_note_51 : decode cX3_note 51 = .ok (.iastore, 1) := by decide +kernel
theorem dX3_note_52 : decode cX3_note 52 = .ok (.aload_n 0, 1) := by decide +kernel
theorem dX3_note_53 : decode cX3_note 53 = .ok (.dup, 1) := by decide +kernel
theorem dX3_note_54 : decode cX3_note 54 = .ok (.getfield 32, 3) := by decide +kernel
theorem dX3_note_57 : decode cX3_note 57 = .ok (.iload_n 3, 1) := by decide +kernel
theorem dX3_note_58 : decode cX3_note 58 = .ok (.iadd, 1) := by decide +kernel
theorem dX3_note_59 : decode cX3_note 59 = .ok (.putfield 32, 3) := by decide +kernel
theorem dX3_note_62 : decode cX3_note 62 = .ok (.return_, 1) := by decide +kernel
theorem dX3_wantsToAsk_0 : decode cX3_wantsToAsk 0 = .ok (.aload_n 1, 1) := by decide +kernel
theorem dX3_wantsToAsk_1 : decode cX3_wantsToAsk 1 = .ok (.getfield 102, 3) := by decide +kernel
theorem dX3_wantsToAsk_4 : decode cX3_wantsToAsk 4 = .ok (.invokevirtual 106, 3) := by decide +kernel
theorem dX3_wantsToAsk_7 : decode cX3_wantsToAsk 7 = .ok (.ifCond .ne 19, 3) := by decide +kernel
theorem dX3_wantsToAsk_10 : decode cX3_wantsToAsk 10 = .ok (.aload_n 2, 1) := by decide +kernel
theorem dX3_wantsToAsk_11 : decode cX3_wantsToAsk 11 = .ok (.iload_n 3, 1) := by decide +kernel
theorem dX3_wantsToAsk_12 : decode cX3_wantsToAsk 12 = .ok (.invokevirtual 110, 3) := by decide +kernel
theorem dX3_wantsToAsk_15 : decode cX3_wantsToAsk 15 = .ok (.bipush 60, 2) := by decide +kernel
theorem dX3_wantsToAsk_17 : decode cX3_wantsToAsk 17 = .ok (.if_icmp .gt 7, 3) := by decide +kernel
theorem dX3_wantsToAsk_20 : decode cX3_wantsToAsk 20 = .ok (.iconst 1, 1) := by decide +kernel
theorem dX3_wantsToAsk_21 : decode cX3_wantsToAsk 21 = .ok (.goto 4, 3) := by decide +kernel
theorem dX3_wantsToAsk_24 : decode cX3_wantsToAsk 24 = .ok (.iconst 0, 1) := by decide +kernel
theorem dX3_wantsToAsk_25 : decode cX3_wantsToAsk 25 = .ok (.ireturn, 1) := by decide +kernel
theorem dX3_wantsToAsk_26 : decode cX3_wantsToAsk 26 = .ok (.aload_n 0, 1) := by decide +kernel
theorem dX3_wantsToAsk_27 : decode cX3_wantsToAsk 27 = .ok (.aload_n 1, 1) := by decide +kernel
theorem dX3_wantsToAsk_28 : decode cX3_wantsToAsk 28 = .ok (.getfield 102, 3) := by decide +kernel
theorem dX3_wantsToAsk_31 : decode cX3_wantsToAsk 31 = .ok (.aload_n 2, 1) := by decide +kernel
theorem dX3_wantsToAsk_32 : decode cX3_wantsToAsk 32 = .ok (.iload_n 3, 1) := by decide +kernel
theorem dX3_wantsToAsk_33 : decode cX3_wantsToAsk 33 = .ok (.iload_n 3, 1) := by decide +kernel
theorem dX3_wantsToAsk_34 : decode cX3_wantsToAsk 34 = .ok (.invokevirtual 113, 3) := by decide +kernel
theorem dX3_wantsToAsk_37 : decode cX3_wantsToAsk 37 = .ok (.ifCond .le 7, 3) := by decide +kernel
theorem dX3_wantsToAsk_40 : decode cX3_wantsToAsk 40 = .ok (.iconst 1, 1) := by decide +kernel
theorem dX3_wantsToAsk_41 : decode cX3_wantsToAsk 41 = .ok (.goto 4, 3) := by decide +kernel
theorem dX3_wantsToAsk_44 : decode cX3_wantsToAsk 44 = .ok (.iconst 0, 1) := by decide +kernel
theorem dX3_wantsToAsk_45 : decode cX3_wantsToAsk 45 = .ok (.ireturn, 1) := by decide +kernel
theorem dX3_minutesSaid_0 : decode cX3_minutesSaid 0 = .ok (.aload_n 1, 1) := by decide +kernel
theorem dX3_minutesSaid_1 : decode cX3_minutesSaid 1 = .ok (.iload_n 3, 1) := by decide +kernel
theorem dX3_minutesSaid_2 : decode cX3_minutesSaid 2 = .ok (.invokevirtual 117, 3) := by decide +kernel
theorem dX3_minutesSaid_5 : decode cX3_minutesSaid 5 = .ok (.ifCond .eq 22, 3) := by decide +kernel
theorem dX3_minutesSaid_8 : decode cX3_minutesSaid 8 = .ok (.aload_n 2, 1) := by decide +kernel
theorem dX3_minutesSaid_9 : decode cX3_minutesSaid 9 = .ok (.iload_n 3, 1) := by decide +kernel
theorem dX3_minutesSaid_10 : decode cX3_minutesSaid 10 = .ok (.invokevirtual 121, 3) := by decide +kernel
theorem dX3_minutesSaid_13 : decode cX3_minutesSaid 13 = .ok (.bipush 15, 2) := by decide +kernel
theorem dX3_minutesSaid_15 : decode cX3_minutesSaid 15 = .ok (.idiv, 1) := by decide +kernel
theorem dX3_minutesSaid_16 : decode cX3_minutesSaid 16 = .ok (.aload_n 2, 1) := by decide +kernel
theorem dX3_minutesSaid_17 : decode cX3_minutesSaid 17 = .ok (.iload_n 3, 1) := by decide +kernel
theorem dX3_minutesSaid_18 : decode cX3_minutesSaid 18 = .ok (.invokevirtual 124, 3) := by decide +kernel
theorem dX3_minutesSaid_21 : decode cX3_minutesSaid 21 = .ok (.isub, 1) := by decide +kernel
theorem dX3_minutesSaid_22 : decode cX3_minutesSaid 22 = .ok (.iconst 0, 1) := by decide +kernel
theorem dX3_minutesSaid_23 : decode cX3_minutesSaid 23 = .ok (.invokestatic 127, 3) := by decide +kernel
theorem dX3_minutesSaid_26 : decode cX3_minutesSaid 26 = .ok (.ireturn, 1) := by decide +kernel
theorem dX3_minutesSaid_27 : decode cX3_minutesSaid 27 = .ok (.aload_n 1, 1) := by decide +kernel
theorem dX3_minutesSaid_28 : decode cX3_minutesSaid 28 = .ok (.getfield 132, 3) := by decide +kernel
theorem dX3_minutesSaid_31 : decode cX3_minutesSaid 31 = .ok (.invokevirtual 106, 3) := by decide +kernel
theorem dX3_minutesSaid_34 : decode cX3_minutesSaid 34 = .ok (.ifCond .ne 9, 3) := by decide +kernel
theorem dX3_minutesSaid_37 : decode cX3_minutesSaid 37 = .ok (.aload_n 2, 1) := by decide +kernel
theorem dX3_minutesSaid_38 : decode cX3_minutesSaid 38 = .ok (.iload_n 3, 1) := by decide +kernel
theorem dX3_minutesSaid_39 : decode cX3_minutesSaid 39 = .ok (.invokevirtual 121, 3) := by decide +kernel
theorem dX3_minutesSaid_42 : decode cX3_minutesSaid 42 = .ok (.ireturn, 1) := by decide +kernel
theorem dX3_minutesSaid_43 : decode cX3_minutesSaid 43 = .ok (.iconst 0, 1) := by decide +kernel
theorem dX3_minutesSaid_44 : decode cX3_minutesSaid 44 = .ok (.aload_n 0, 1) := by decide +kernel
theorem dX3_minutesSaid_45 : decode cX3_minutesSaid 45 = .ok (.aload_n 1, 1) := by decide +kernel
theorem dX3_minutesSaid_46 : decode cX3_minutesSaid 46 = .ok (.getfield 132, 3) := by decide +kernel
theorem dX3_minutesSaid_49 : decode cX3_minutesSaid 49 = .ok (.aload_n 2, 1) := by decide +kernel
theorem dX3_minutesSaid_50 : decode cX3_minutesSaid 50 = .ok (.iload_n 3, 1) := by decide +kernel
theorem dX3_minutesSaid_51 : decode cX3_minutesSaid 51 = .ok (.iload 4, 2) := by decide +kernel
theorem dX3_minutesSaid_53 : decode cX3_minutesSaid 53 = .ok (.invokevirtual 113, 3) := by decide +kernel
theorem dX3_minutesSaid_56 : decode cX3_minutesSaid 56 = .ok (.bipush 59, 2) := by decide +kernel
theorem dX3_minutesSaid_58 : decode cX3_minutesSaid 58 = .ok (.invokestatic 135, 3) := by decide +kernel
theorem dX3_minutesSaid_61 : decode cX3_minutesSaid 61 = .ok (.invokestatic 127, 3) := by decide +kernel
theorem dX3_minutesSaid_64 : decode cX3_minutesSaid 64 = .ok (.ireturn, 1) := by decide +kernel
theorem dX3_workOut_0 : decode cX3_workOut 0 = .ok (.iconst 0, 1) := by decide +kernel
theorem dX3_workOut_1 : decode cX3_workOut 1 = .ok (.istore 5, 2) := by decide +kernel
theorem dX3_workOut_3 : decode cX3_workOut 3 = .ok (.iconst 0, 1) := by decide +kernel
theorem dX3_workOut_4 : decode cX3_workOut 4 = .ok (.istore 6, 2) := by decide +kernel
theorem dX3_workOut_6 : decode cX3_workOut 6 = .ok (.iload 6, 2) := by decide +kernel
theorem dX3_workOut_8 : decode cX3_workOut 8 = .ok (.aload_n 1, 1) := by decide +kernel
theorem dX3_workOut_9 : decode cX3_workOut 9 = .ok (.getfield 138, 3) := by decide +kernel
theorem dX3_workOut_12 : decode cX3_workOut 12 = .ok (.if_icmp .ge 197, 3) := by decide +kernel
theorem dX3_workOut_15 : decode cX3_workOut 15 = .ok (.iload 6, 2) := by decide +kernel
theorem dX3_workOut_17 : decode cX3_workOut 17 = .ok (.aload_n 1, 1) := by decide +kernel
theorem dX3_workOut_18 : decode cX3_workOut 18 = .ok (.getfield 141, 3) := by decide +kernel
theorem dX3_workOut_21 : decode cX3_workOut 21 = .ok (.arraylength, 1) := by decide +kernel
theorem dX3_workOut_22 : decode cX3_workOut 22 = .ok (.if_icmp .ge 187, 3) := by decide +kernel
theorem dX3_workOut_25 : decode cX3_workOut 25 = .ok (.aload_n 1, 1) := by decide +kernel
theorem dX3_workOut_26 : decode cX3_workOut 26 = .ok (.getfield 141, 3) := by decide +kernel
theorem dX3_workOut_29 : decode cX3_workOut 29 = .ok (.iload 6, 2) := by decide +kernel
theorem dX3_workOut_31 : decode cX3_workOut 31 = .ok (.iaload, 1) := by decide +kernel
theorem dX3_workOut_32 : decode cX3_workOut 32 = .ok (.istore 7, 2) := by decide +kernel
theorem dX3_workOut_34 : decode cX3_workOut 34 = .ok (.iload 7, 2) := by decide +kernel
theorem dX3_workOut_36 : decode cX3_workOut 36 = .ok (.ifCond .lt 10, 3) := by decide +kernel
theorem dX3_workOut_39 : decode cX3_workOut 39 = .ok (.iload 7, 2) := by decide +kernel
theorem dX3_workOut_41 : decode cX3_workOut 41 = .ok (.bipush 109, 2) := by decide +kernel
theorem dX3_workOut_43 : decode cX3_workOut 43 = .ok (.if_icmp .lt 55, 3) := by decide +kernel
theorem dX3_workOut_46 : decode cX3_workOut 46 = .ok (.iload 5, 2) := by decide +kernel
theorem dX3_workOut_48 : decode cX3_workOut 48 = .ok (.ifCond .lt 13, 3) := by decide +kernel
theorem dX3_workOut_51 : decode cX3_workOut 51 = .ok (.iload 5, 2) := by decide +kernel
theorem dX3_workOut_53 : decode cX3_workOut 53 = .ok (.aload_n 0, 1) := by decide +kernel
theorem dX3_workOut_54 : decode cX3_workOut 54 = .ok (.getfield 29, 3) := by decide +kernel
theorem dX3_workOut_57 : decode cX3_workOut 57 = .ok (.arraylength, 1) := by decide +kernel
theorem dX3_workOut_58 : decode cX3_workOut 58 = .ok (.if_icmp .lt 5, 3) := by decide +kernel
theorem dX3_workOut_61 : decode cX3_workOut 61 = .ok (.iconst 0, 1) := by decide +kernel
theorem dX3_workOut_62 : decode cX3_workOut 62 = .ok (.ireturn, 1) := by decide +kernel
theorem dX3_workOut_63 : decode cX3_workOut 63 = .ok (.aload_n 0, 1) := by decide +kernel
theorem dX3_workOut_64 : decode cX3_workOut 64 = .ok (.getfield 29, 3) := by decide +kernel
theorem dX3_workOut_67 : decode cX3_workOut 67 = .ok (.iload 5, 2) := by decide +kernel
theorem dX3_workOut_69 : decode cX3_workOut 69 = .ok (.iload 7, 2) := by decide +kernel
theorem dX3_workOut_71 : decode cX3_workOut 71 = .ok (.ifCond .ge 10, 3) := by decide +kernel
theorem dX3_workOut_74 : decode cX3_workOut 74 = .ok (.iload 7, 2) := by decide +kernel
theorem dX3_workOut_76 : decode cX3_workOut 76 = .ok (.iconst (-1), 1) := by decide +kernel
theorem dX3_workOut_77 : decode cX3_workOut 77 = .ok (.ixor, 1) := by decide +kernel
theorem dX3_workOut_78 : decode cX3_workOut 78 = .ok (.goto 13, 3) := by decide +kernel
theorem dX3_workOut_81 : decode cX3_workOut 81 = .ok (.aload_n 0, 1) := by decide +kernel
theorem dX3_workOut_82 : decode cX3_workOut 82 = .ok (.iload 7, 2) := by decide +kernel
theorem dX3_workOut_84 : decode cX3_workOut 84 = .ok (.aload_n 2, 1) := by decide +kernel
theorem dX3_workOut_85 : decode cX3_workOut 85 = .ok (.iload_n 3, 1) := by decide +kernel
theorem dX3_workOut_86 : decode cX3_workOut 86 = .ok (.iload 4, 2) := by decide +kernel
theorem dX3_workOut_88 : decode cX3_workOut 88 = .ok (.invokevirtual 146, 3) := by decide +kernel
theorem dX3_workOut_91 : decode cX3_workOut 91 = .ok (.iastore, 1) := by decide +kernel
theorem dX3_workOut_92 : decode cX3_workOut 92 = .ok (.iinc 5 1, 3) := by decide +kernel
theorem dX3_workOut_95 : decode cX3_workOut 95 = .ok (.goto 108, 3) := by decide +kernel
theorem dX3_workOut_98 : decode cX3_workOut 98 = .ok (.iload 7, 2) := by decide +kernel
theorem dX3_workOut_100 : decode cX3_workOut 100 = .ok (.bipush 108, 2) := by decide +kernel
theorem dX3_workOut_102 : decode cX3_workOut 102 = .ok (.if_icmp .ne 50, 3) := by decide +kernel
theorem dX3_workOut_105 : decode cX3_workOut 105 = .ok (.iload 5, 2) := by decide +kernel
theorem dX3_workOut_107 : decode cX3_workOut 107 = .ok (.iconst 1, 1) := by decide +kernel
theorem dX3_workOut_108 : decode cX3_workOut 108 = .ok (.if_icmp .lt 13, 3) := by decide +kernel
theorem dX3_workOut_111 : decode cX3_workOut 111 = .ok (.iload 5, 2) := by decide +kernel
theorem dX3_workOut_113 : decode cX3_workOut 113 = .ok (.aload_n 0, 1) := by decide +kernel
theorem dX3_workOut_114 : decode cX3_workOut 114 = .ok (.getfield 29, 3) := by decide +kernel
theorem dX3_workOut_117 : decode cX3_workOut 117 = .ok (.arraylength, 1) := by decide +kernel
theorem dX3_workOut_118 : decode cX3_workOut 118 = .ok (.if_icmp .le 5, 3) := by decide +kernel
theorem dX3_workOut_121 : decode cX3_workOut 121 = .ok (.iconst 0, 1) := by decide +kernel
theorem dX3_workOut_122 : decode cX3_workOut 122 = .ok (.ireturn, 1) := by decide +kernel
theorem dX3_workOut_123 : decode cX3_workOut 123 = .ok (.aload_n 0, 1) := by decide +kernel
theorem dX3_workOut_124 : decode cX3_workOut 124 = .ok (.getfield 29, 3) := by decide +kernel
theorem dX3_workOut_127 : decode cX3_workOut 127 = .ok (.iload 5, 2) := by decide +kernel
theorem dX3_workOut_129 : decode cX3_workOut 129 = .ok (.iconst 1, 1) := by decide +kernel
theorem dX3_workOut_130 : decode cX3_workOut 130 = .ok (.isub, 1) := by decide +kernel
theorem dX3_workOut_131 : decode cX3_workOut 131 = .ok (.aload_n 0, 1) := by decide +kernel
theorem dX3_workOut_132 : decode cX3_workOut 132 = .ok (.getfield 29, 3) := by decide +kernel
theorem dX3_workOut_135 : decode cX3_workOut 135 = .ok (.iload 5, 2) := by decide +kernel
theorem dX3_workOut_137 : decode cX3_workOut 137 = .ok (.iconst 1, 1) := by decide +kernel
theorem dX3_workOut_138 : decode cX3_workOut 138 = .ok (.isub, 1) := by decide +kernel
theorem dX3_workOut_139 : decode cX3_workOut 139 = .ok (.iaload, 1) := by decide +kernel
theorem dX3_workOut_140 : decode cX3_workOut 140 = .ok (.ifCond .ne 7, 3) := by decide +kernel
theorem dX3_workOut_143 : decode cX3_workOut 143 = .ok (.iconst 1, 1) := by decide +kernel
theorem dX3_workOut_144 : decode cX3_workOut 144 = .ok (.goto 4, 3) := by decide +kernel
theorem dX3_workOut_147 : decode cX3_workOut 147 = .ok (.iconst 0, 1) := by decide +kernel
theorem dX3_workOut_148 : decode cX3_workOut 148 = .ok (.iastore, 1) := by decide +kernel
theorem dX3_workOut_149 : decode cX3_workOut 149 = .ok (.goto 54, 3) := by decide +kernel
theorem dX3_workOut_152 : decode cX3_workOut 152 = .ok (.iload 5, 2) := by decide +kernel
theorem dX3_workOut_154 : decode cX3_workOut 154 = .ok (.iconst 2, 1) := by decide +kernel
theorem dX3_workOut_155 : decode cX3_workOut 155 = .ok (.if_icmp .lt 13, 3) := by decide +kernel
theorem dX3_workOut_158 : decode cX3_workOut 158 = .ok (.iload 5, 2) := by decide +kernel
theorem dX3_workOut_160 : decode cX3_workOut 160 = .ok (.aload_n 0, 1) := by decide +kernel
theorem dX3_workOut_161 : decode cX3_workOut 161 = .ok (.getfield 29, 3) := by decide +kernel
theorem dX3_workOut_164 : decode cX3_workOut 164 = .ok (.arraylength, 1) := by decide +kernel
theorem dX3_workOut_165 : decode cX3_workOut 165 = .ok (.if_icmp .le 5, 3) := by decide +kernel
theorem dX3_workOut_168 : decode cX3_workOut 168 = .ok (.iconst 0, 1) := by decide +kernel
theorem dX3_workOut_169 : decode cX3_workOut 169 = .ok (.ireturn, 1) := by decide +kernel
theorem dX3_workOut_170 : decode cX3_workOut 170 = .ok (.iinc 5 (-1), 3) := by decide +kernel
theorem dX3_workOut_173 : decode cX3_workOut 173 = .ok (.aload_n 0, 1) := by decide +kernel
theorem dX3_workOut_174 : decode cX3_workOut 174 = .ok (.getfield 29, 3) := by decide +kernel
theorem dX3_workOut_177 : decode cX3_workOut 177 = .ok (.iload 5, 2) := by decide +kernel
theorem dX3_workOut_179 : decode cX3_workOut 179 = .ok (.iconst 1, 1) := by decide +kernel
theorem dX3_workOut_180 : decode cX3_workOut 180 = .ok (.isub, 1) := by decide +kernel
theorem dX3_workOut_181 : decode cX3_workOut 181 = .ok (.iload 7, 2) := by decide +kernel
theorem dX3_workOut_183 : decode cX3_workOut 183 = .ok (.aload_n 0, 1) := by decide +kernel
theorem dX3_workOut_184 : decode cX3_workOut 184 = .ok (.getfield 29, 3) := by decide +kernel
theorem dX3_workOut_187 : decode cX3_workOut 187 = .ok (.iload 5, 2) := by decide +kernel
theorem dX3_workOut_189 : decode cX3_workOut 189 = .ok (.iconst 1, 1) := by decide +kernel
theorem dX3_workOut_190 : decode cX3_workOut 190 = .ok (.isub, 1) := by decide +kernel
theorem dX3_workOut_191 : decode cX3_workOut 191 = .ok (.iaload, 1) := by decide +kernel
theorem dX3_workOut_192 : decode cX3_workOut 192 = .ok (.aload_n 0, 1) := by decide +kernel
theorem dX3_workOut_193 : decode cX3_workOut 193 = .ok (.getfield 29, 3) := by decide +kernel
theorem dX3_workOut_196 : decode cX3_workOut 196 = .ok (.iload 5, 2) := by decide +kernel
theorem dX3_workOut_198 : decode cX3_workOut 198 = .ok (.iaload, 1) := by decide +kernel
theorem dX3_workOut_199 : decode cX3_workOut 199 = .ok (.invokestatic 150, 3) := by decide +kernel
theorem dX3_workOut_202 : decode cX3_workOut 202 = .ok (.iastore, 1) := by decide +kernel
theorem dX3_workOut_203 : decode cX3_workOut 203 = .ok (.iinc 6 1, 3) := by decide +kernel
theorem dX3_workOut_206 : decode cX3_workOut 206 = .ok (.goto (-200), 3) := by decide +kernel
theorem dX3_workOut_209 : decode cX3_workOut 209 = .ok (.iload 5, 2) := by decide +kernel
theorem dX3_workOut_211 : decode cX3_workOut 211 = .ok (.iconst 1, 1) := by decide +kernel
theorem dX3_workOut_212 : decode cX3_workOut 212 = .ok (.if_icmp .ne 12, 3) := by decide +kernel
theorem dX3_workOut_215 : decode cX3_workOut 215 = .ok (.aload_n 0, 1) := by decide +kernel
theorem dX3_workOut_216 : decode cX3_workOut 216 = .ok (.getfield 29, 3) := by decide +kernel
theorem dX3_workOut_219 : decode cX3_workOut 219 = .ok (.iconst 0, 1) := by decide +kernel
theorem dX3_workOut_220 : decode cX3_workOut 220 = .ok (.iaload, 1) := by decide +kernel
theorem dX3_workOut_221 : decode cX3_workOut 221 = .ok (.goto 4, 3) := by decide +kernel
theorem dX3_workOut_224 : decode cX3_workOut 224 = .ok (.iconst 0, 1) := by decide +kernel
theorem dX3_workOut_225 : decode cX3_workOut 225 = .ok (.ireturn, 1) := by decide +kernel
theorem dX3_valueOf_0 : decode cX3_valueOf 0 = .ok (.iload_n 1, 1) := by decide +kernel
theorem dX3_valueOf_1 : decode cX3_valueOf 1 = .ok (.tableswitch 83 109 114 #[39, 45, 51, 57, 71, 76], 39) := by decide +kernel
theorem dX3_valueOf_40 : decode cX3_valueOf 40 = .ok (.aload_n 2, 1) := by decide +kernel
theorem dX3_valueOf_41 : decode cX3_valueOf 41 = .ok (.iload_n 3, 1) := by decide +kernel
theorem dX3_valueOf_42 : decode cX3_valueOf 42 = .ok (.invokevirtual 110, 3) := by decide +kernel
theorem dX3_valueOf_45 : decode cX3_valueOf 45 = .ok (.ireturn, 1) := by decide +kernel
theorem dX3_valueOf_46 : decode cX3_valueOf 46 = .ok (.aload_n 2, 1) := by decide +kernel
theorem dX3_valueOf_47 : decode cX3_valueOf 47 = .ok (.iload_n 3, 1) := by decide +kernel
theorem dX3_valueOf_48 : decode cX3_valueOf 48 = .ok (.invokevirtual 121, 3) := by decide +kernel
theorem dX3_valueOf_51 : decode cX3_valueOf 51 = .ok (.ireturn, 1) := by decide +kernel
theorem dX3_valueOf_52 : decode cX3_valueOf 52 = .ok (.aload_n 2, 1) := by decide +kernel
theorem dX3_valueOf_53 : decode cX3_valueOf 53 = .ok (.iload_n 3, 1) := by decide +kernel
theorem dX3_valueOf_54 : decode cX3_valueOf 54 = .ok (.invokevirtual 124, 3) := by decide +kernel
theorem dX3_valueOf_57 : decode cX3_valueOf 57 = .ok (.ireturn, 1) := by decide +kernel
theorem dX3_valueOf_58 : decode cX3_valueOf 58 = .ok (.aload_n 0, 1) := by decide +kernel
theorem dX3_valueOf_59 : decode cX3_valueOf 59 = .ok (.iload_n 3, 1) := by decide +kernel
theorem dX3_valueOf_60 : decode cX3_valueOf 60 = .ok (.invokevirtual 77, 3) := by decide +kernel
theorem dX3_valueOf_63 : decode cX3_valueOf 63 = .ok (.aload_n 2, 1) := by decide +kernel
theorem dX3_valueOf_64 : decode cX3_valueOf 64 = .ok (.invokevirtual 70, 3) := by decide +kernel
theorem dX3_valueOf_67 : decode cX3_valueOf 67 = .ok (.iand, 1) := by decide +kernel
theorem dX3_valueOf_68 : decode cX3_valueOf 68 = .ok (.invokestatic 154, 3) := by decide +kernel
theorem dX3_valueOf_71 : decode cX3_valueOf 71 = .ok (.ireturn, 1) := by decide +kernel
theorem dX3_valueOf_72 : decode cX3_valueOf 72 = .ok (.aload_n 2, 1) := by decide +kernel
theorem dX3_valueOf_73 : decode cX3_valueOf 73 = .ok (.getfield 45, 3) := by decide +kernel
theorem dX3_valueOf_76 : decode cX3_valueOf 76 = .ok (.ireturn, 1) := by decide +kernel
theorem dX3_valueOf_77 : decode cX3_valueOf 77 = .ok (.aload_n 2, 1) := by decide +kernel
theorem dX3_valueOf_78 : decode cX3_valueOf 78 = .ok (.iload 4, 2) := by decide +kernel
theorem dX3_valueOf_80 : decode cX3_valueOf 80 = .ok (.invokevirtual 110, 3) := by decide +kernel
theorem dX3_valueOf_83 : decode cX3_valueOf 83 = .ok (.ireturn, 1) := by decide +kernel
theorem dX3_valueOf_84 : decode cX3_valueOf 84 = .ok (.aload_n 2, 1) := by decide +kernel
theorem dX3_valueOf_85 : decode cX3_valueOf 85 = .ok (.iload_n 3, 1) := by decide +kernel
theorem dX3_valueOf_86 : decode cX3_valueOf 86 = .ok (.invokevirtual 159, 3) := by decide +kernel
theorem dX3_valueOf_89 : decode cX3_valueOf 89 = .ok (.ireturn, 1) := by decide +kernel
theorem dX3_whomAsked_0 : decode cX3_whomAsked 0 = .ok (.iload_n 1, 1) := by decide +kernel
theorem dX3_whomAsked_1 : decode cX3_whomAsked 1 = .ok (.ifCond .lt 21, 3) := by decide +kernel
theorem dX3_whomAsked_4 : decode cX3_whomAsked 4 = .ok (.iload_n 1, 1) := by decide +kernel
theorem dX3_whomAsked_5 : decode cX3_whomAsked 5 = .ok (.aload_n 0, 1) := by decide +kernel
theorem dX3_whomAsked_6 : decode cX3_whomAsked 6 = .ok (.getfield 18, 3) := by decide +kernel
theorem dX3_whomAsked_9 : decode cX3_whomAsked 9 = .ok (.arraylength, 1) := by decide +kernel
theorem dX3_whomAsked_10 : decode cX3_whomAsked 10 = .ok (.if_icmp .ge 12, 3) := by decide +kernel
theorem dX3_whomAsked_13 : decode cX3_whomAsked 13 = .ok (.aload_n 0, 1) := by decide +kernel
theorem dX3_whomAsked_14 : decode cX3_whomAsked 14 = .ok (.getfield 18, 3) := by decide +kernel
theorem dX3_whomAsked_17 : decode cX3_whomAsked 17 = .ok (.iload_n 1, 1) := by decide +kernel
theorem dX3_whomAsked_18 : decode cX3_whomAsked 18 = .ok (.iaload, 1) := by decide +kernel
theorem dX3_whomAsked_19 : decode cX3_whomAsked 19 = .ok (.goto 4, 3) := by decide +kernel
theorem dX3_whomAsked_22 : decode cX3_whomAsked 22 = .ok (.iconst (-1), 1) := by decide +kernel
theorem dX3_whomAsked_23 : decode cX3_whomAsked 23 = .ok (.ireturn, 1) := by decide +kernel
theorem dX3_timesAsked_0 : decode cX3_timesAsked 0 = .ok (.iload_n 1, 1) := by decide +kernel
theorem dX3_timesAsked_1 : decode cX3_timesAsked 1 = .ok (.ifCond .lt 21, 3) := by decide +kernel
theorem dX3_timesAsked_4 : decode cX3_timesAsked 4 = .ok (.iload_n 1, 1) := by decide +kernel
theorem dX3_timesAsked_5 : decode cX3_timesAsked 5 = .ok (.aload_n 0, 1) := by decide +kernel
theorem dX3_timesAsked_6 : decode cX3_timesAsked 6 = .ok (.getfield 21, 3) := by decide +kernel
theorem dX3_timesAsked_9 : decode cX3_timesAsked 9 = .ok (.arraylength, 1) := by decide +kernel
theorem dX3_timesAsked_10 : decode cX3_timesAsked 10 = .ok (.if_icmp .ge 12, 3) := by decide +kernel
theorem dX3_timesAsked_13 : decode cX3_timesAsked 13 = .ok (.aload_n 0, 1) := by decide +kernel
theorem dX3_timesAsked_14 : decode cX3_timesAsked 14 = .ok (.getfield 21, 3) := by decide +kernel
theorem dX3_timesAsked_17 : decode cX3_timesAsked 17 = .ok (.iload_n 1, 1) := by decide +kernel
theorem dX3_timesAsked_18 : decode cX3_timesAsked 18 = .ok (.iaload, 1) := by decide +kernel
theorem dX3_timesAsked_19 : decode cX3_timesAsked 19 = .ok (.goto 4, 3) := by decide +kernel
theorem dX3_timesAsked_22 : decode cX3_timesAsked 22 = .ok (.iconst 0, 1) := by decide +kernel
theorem dX3_timesAsked_23 : decode cX3_timesAsked 23 = .ok (.ireturn, 1) := by decide +kernel
theorem dX3_handedOver_0 : decode cX3_handedOver 0 = .ok (.iload_n 1, 1) := by decide +kernel
theorem dX3_handedOver_1 : decode cX3_handedOver 1 = .ok (.bipush 8, 2) := by decide +kernel
theorem dX3_handedOver_3 : decode cX3_handedOver 3 = .ok (.imul, 1) := by decide +kernel
theorem dX3_handedOver_4 : decode cX3_handedOver 4 = .ok (.iload_n 2, 1) := by decide +kernel
theorem dX3_handedOver_5 : decode cX3_handedOver 5 = .ok (.iadd, 1) := by decide +kernel
theorem dX3_handedOver_6 : decode cX3_handedOver 6 = .ok (.istore_n 3, 1) := by decide +kernel
theorem dX3_handedOver_7 : decode cX3_handedOver 7 = .ok (.iload_n 3, 1) := by decide +kernel
theorem dX3_handedOver_8 : decode cX3_handedOver 8 = .ok (.ifCond .lt 21, 3) := by decide +kernel
theorem dX3_handedOver_11 : decode cX3_handedOver 11 = .ok (.iload_n 3, 1) := by decide +kernel
theorem dX3_handedOver_12 : decode cX3_handedOver 12 = .ok (.aload_n 0, 1) := by decide +kernel
theorem dX3_handedOver_13 : decode cX3_handedOver 13 = .ok (.getfield 24, 3) := by decide +kernel
theorem dX3_handedOver_16 : decode cX3_handedOver 16 = .ok (.arraylength, 1) := by decide +kernel
theorem dX3_handedOver_17 : decode cX3_handedOver 17 = .ok (.if_icmp .ge 12, 3) := by decide +kernel
theorem dX3_handedOver_20 : decode cX3_handedOver 20 = .ok (.aload_n 0, 1) := by decide +kernel
theorem dX3_handedOver_21 : decode cX3_handedOver 21 = .ok (.getfield 24, 3) := by decide +kernel
theorem dX3_handedOver_24 : decode cX3_handedOver 24 = .ok (.iload_n 3, 1) := by decide +kernel
theorem dX3_handedOver_25 : decode cX3_handedOver 25 = .ok (.iaload, 1) := by decide +kernel
theorem dX3_handedOver_26 : decode cX3_handedOver 26 = .ok (.goto 4, 3) := by decide +kernel
theorem dX3_handedOver_29 : decode cX3_handedOver 29 = .ok (.iconst 0, 1) := by decide +kernel
theorem dX3_handedOver_30 : decode cX3_handedOver 30 = .ok (.ireturn, 1) := by decide +kernel
theorem dX4_init_0 : decode cX4_init 0 = .ok (.aload_n 0, 1) := by decide +kernel
theorem dX4_init_1 : decode cX4_init 1 = .ok (.invokespecial 3, 3) := by decide +kernel
theorem dX4_init_4 : decode cX4_init 4 = .ok (.aload_n 0, 1) := by decide +kernel
theorem dX4_init_5 : decode cX4_init 5 = .ok (.iconst 3, 1) := by decide +kernel
theorem dX4_init_6 : decode cX4_init 6 = .ok (.putfield 9, 3) := by decide +kernel
theorem dX4_init_9 : decode cX4_init 9 = .ok (.aload_n 0, 1) := by decide +kernel
theorem dX4_init_10 : decode cX4_init 10 = .ok (.iconst 0, 1) := by decide +kernel
theorem dX4_init_11 : decode cX4_init 11 = .ok (.putfield 15, 3) := by decide +kernel
theorem dX4_init_14 : decode cX4_init 14 = .ok (.aload_n 0, 1) := by decide +kernel
theorem dX4_init_15 : decode cX4_init 15 = .ok (.iconst 0, 1) := by decide +kernel
theorem dX4_init_16 : decode cX4_init 16 = .ok (.putfield 18, 3) := by decide +kernel
theorem dX4_init_19 : decode cX4_init 19 = .ok (.aload_n 0, 1) := by decide +kernel
theorem dX4_init_20 : decode cX4_init 20 = .ok (.iconst 0, 1) := by decide +kernel
theorem dX4_init_21 : decode cX4_init 21 = .ok (.putfield 21, 3) := by decide +kernel
theorem dX4_init_24 : decode cX4_init 24 = .ok (.aload_n 0, 1) := by decide +kernel
theorem dX4_init_25 : decode cX4_init 25 = .ok (.bipush 8, 2) := by decide +kernel
theorem dX4_init_27 : decode cX4_init 27 = .ok (.newarray .int, 2) := by decide +kernel
theorem dX4_init_29 : decode cX4_init 29 = .ok (.putfield 24, 3) := by decide +kernel
theorem dX4_init_32 : decode cX4_init 32 = .ok (.aload_n 0, 1) := by decide +kernel
theorem dX4_init_33 : decode cX4_init 33 = .ok (.bipush 8, 2) := by decide +kernel
theorem dX4_init_35 : decode cX4_init 35 = .ok (.newarray .int, 2) := by decide +kernel
theorem dX4_init_37 : decode cX4_init 37 = .ok (.putfield 28, 3) := by decide +kernel
theorem dX4_init_40 : decode cX4_init 40 = .ok (.aload_n 0, 1) := by decide +kernel
theorem dX4_init_41 : decode cX4_init 41 = .ok (.bipush 8, 2) := by decide +kernel
theorem dX4_init_43 : decode cX4_init 43 = .ok (.newarray .int, 2) := by decide +kernel
theorem dX4_init_45 : decode cX4_init 45 = .ok (.putfield 31, 3) := by decide +kernel
theorem dX4_init_48 : decode cX4_init 48 = .ok (.aload_n 0, 1) := by decide +kernel
theorem dX4_init_49 : decode cX4_init 49 = .ok (.bipush 8, 2) := by decide +kernel
theorem dX4_init_51 : decode cX4_init 51 = .ok (.newarray .int, 2) := by decide +kernel
theorem dX4_init_53 : decode cX4_init 53 = .ok (.putfield 34, 3) := by decide +kernel
theorem dX4_init_56 : decode cX4_init 56 = .ok (.aload_n 0, 1) := by decide +kernel
theorem dX4_init_57 : decode cX4_init 57 = .ok (.bipush 48, 2) := by decide +kernel
theorem dX4_init_59 : decode cX4_init 59 = .ok (.newarray .int, 2) := by decide +kernel
theorem dX4_init_61 : decode cX4_init 61 = .ok (.putfield 37, 3) := by decide +kernel
theorem dX4_init_64 : decode cX4_init 64 = .ok (.aload_n 0, 1) := by decide +kernel
theorem dX4_init_65 : decode cX4_init 65 = .ok (.new 40, 3) := by decide +kernel
theorem dX4_init_68 : decode cX4_init 68 = .ok (.dup, 1) := by decide +kernel
theorem dX4_init_69 : decode cX4_init 69 = .ok (.invokespecial 42, 3) := by decide +kernel
theorem dX4_init_72 : decode cX4_init 72 = .ok (.putfield 43, 3) := by decide +kernel
theorem dX4_init_75 : decode cX4_init 75 = .ok (.aload_n 0, 1) := by decide +kernel
theorem dX4_init_76 : decode cX4_init 76 = .ok (.new 40, 3) := by decide +kernel
theorem dX4_init_79 : decode cX4_init 79 = .ok (.dup, 1) := by decide +kernel
theorem dX4_init_80 : decode cX4_init 80 = .ok (.invokespecial 42, 3) := by decide +kernel
theorem dX4_init_83 : decode cX4_init 83 = .ok (.putfield 47, 3) := by decide +kernel
theorem dX4_init_86 : decode cX4_init 86 = .ok (.return_, 1) := by decide +kernel
theorem dX4_clear_0 : decode cX4_clear 0 = .ok (.aload_n 0, 1) := by decide +kernel
theorem dX4_clear_1 : decode cX4_clear 1 = .ok (.iconst 3, 1) := by decide +kernel
theorem dX4_clear_2 : decode cX4_clear 2 = .ok (.putfield 9, 3) := by decide +kernel
theorem dX4_clear_5 : decode cX4_clear 5 = .ok (.aload_n 0, 1) := by decide +kernel
theorem dX4_clear_6 : decode cX4_clear 6 = .ok (.iconst 0, 1) := by decide +kernel
theorem dX4_clear_7 : decode cX4_clear 7 = .ok (.putfield 15, 3) := by decide +kernel
theorem dX4_clear_10 : decode cX4_clear 10 = .ok (.aload_n 0, 1) := by decide +kernel
theorem dX4_clear_11 : decode cX4_clear 11 = .ok (.iconst 0, 1) := by decide +kernel
theorem dX4_clear_12 : decode cX4_clear 12 = .ok (.putfield 18, 3) := by decide +kernel
theorem dX4_clear_15 : decode cX4_clear 15 = .ok (.aload_n 0, 1) := by decide +kernel
theorem dX4_clear_16 : decode cX4_clear 16 = .ok (.iconst 0, 1) := by decide +kernel
theorem dX4_clear_17 : decode cX4_clear 17 = .ok (.putfield 21, 3) := by decide +kernel
theorem dX4_clear_20 : decode cX4_clear 20 = .ok (.aload_n 0, 1) := by decide +kernel
theorem dX4_clear_21 : decode cX4_clear 21 = .ok (.getfield 24, 3) := by decide +kernel
theorem dX4_clear_24 : decode cX4_clear 24 = .ok (.iconst 0, 1) := by decide +kernel
theorem dX4_clear_25 : decode cX4_clear 25 = .ok (.invokestatic 50, 3) := by decide +kernel
theorem dX4_clear_28 : decode cX4_clear 28 = .ok (.aload_n 0, 1) := by decide +kernel
theorem dX4_clear_29 : decode cX4_clear 29 = .ok (.getfield 28, 3) := by decide +kernel
theorem dX4_clear_32 : decode cX4_clear 32 = .ok (.iconst 0, 1) := by decide +kernel
theorem dX4_clear_33 : decode cX4_clear 33 = .ok (.invokestatic 50, 3) := by decide +kernel
theorem dX4_clear_36 : decode cX4_clear 36 = .ok (.aload_n 0, 1) := by decide +kernel
theorem dX4_clear_37 : decode cX4_clear 37 = .ok (.getfield 31, 3) := by decide +kernel
theorem dX4_clear_40 : decode cX4_clear 40 = .ok (.iconst 0, 1) := by decide +kernel
theorem dX4_clear_41 : decode cX4_clear 41 = .ok (.invokestatic 50, 3) := by decide +kernel
theorem dX4_clear_44 : decode cX4_clear 44 = .ok (.aload_n 0, 1) := by decide +kernel
theorem dX4_clear_45 : decode cX4_clear 45 = .ok (.getfield 34, 3) := by decide +kernel
theorem dX4_clear_48 : decode cX4_clear 48 = .ok (.iconst 0, 1) := by decide +kernel
theorem dX4_clear_49 : decode cX4_clear 49 = .ok (.invokestatic 50, 3) := by decide +kernel
theorem dX4_clear_52 : decode cX4_clear 52 = .ok (.aload_n 0, 1) := by decide +kernel
theorem dX4_clear_53 : decode cX4_clear 53 = .ok (.getfield 43, 3) := by decide +kernel
theorem dX4_clear_56 : decode cX4_clear 56 = .ok (.invokevirtual 56, 3) := by decide +kernel
theorem dX4_clear_59 : decode cX4_clear 59 = .ok (.aload_n 0, 1) := by decide +kernel
theorem dX4_clear_60 : decode cX4_clear 60 = .ok (.getfield 47, 3) := by decide +kernel
theorem dX4_clear_63 : decode cX4_clear 63 = .ok (.invokevirtual 56, 3) := by decide +kernel
theorem dX4_clear_66 : decode cX4_clear 66 = .ok (.return_, 1) := by decide +kernel
theorem dX4_hasRoom_0 : decode cX4_hasRoom 0 = .ok (.aload_n 0, 1) := by decide +kernel
theorem dX4_hasRoom_1 : decode cX4_hasRoom 1 = .ok (.getfield 15, 3) := by decide +kernel
theorem dX4_hasRoom_4 : decode cX4_hasRoom 4 = .ok (.ifCond .lt 16, 3) := by decide +kernel
theorem dX4_hasRoom_7 : decode cX4_hasRoom 7 = .ok (.aload_n 0, 1) := by decide +kernel
theorem dX4_hasRoom_8 : decode cX4_hasRoom 8 = .ok (.getfield 15, 3) := by decide +kernel
theorem dX4_hasRoom_11 : decode cX4_hasRoom 11 = .ok (.bipush 8, 2) := by decide +kernel
theorem dX4_hasRoom_13 : decode cX4_hasRoom 13 = .ok (.if_icmp .ge 7, 3) := by decide +kernel
theorem dX4_hasRoom_16 : decode cX4_hasRoom 16 = .ok (.iconst 1, 1) := by decide +kernel
theorem dX4_hasRoom_17 : decode cX4_hasRoom 17 = .ok (.goto 4, 3) := by decide +kernel
theorem dX4_hasRoom_20 : decode cX4_hasRoom 20 = .ok (.iconst 0, 1) := by decide +kernel
theorem dX4_hasRoom_21 : decode cX4_hasRoom 21 = .ok (.ireturn, 1) := by decide +kernel
theorem dX4_addCorner_0 : decode cX4_addCorner 0 = .ok (.aload_n 0, 1) := by decide +kernel
theorem dX4_addCorner_1 : decode cX4_addCorner 1 = .ok (.invokevirtual 59, 3) := by decide +kernel
theorem dX4_addCorner_4 : decode cX4_addCorner 4 = .ok (.ifCond .ne 4, 3) := by decide +kernel
theorem dX4_addCorner_7 : decode cX4_addCorner 7 = .ok (.return_, 1) := by decide +kernel
theorem dX4_addCorner_8 : decode cX4_addCorner 8 = .ok (.aload_n 0, 1) := by decide +kernel
theorem dX4_addCorner_9 : decode cX4_addCorner 9 = .ok (.getfield 34, 3) := by decide +kernel
theorem dX4_addCorner_12 : decode cX4_addCorner 12 = .ok (.aload_n 0, 1) := by decide +kernel
theorem dX4_addCorner_13 : decode cX4_addCorner 13 = .ok (.getfield 15, 3) := by decide +kernel
theorem dX4_addCorner_16 : decode cX4_addCorner 16 = .ok (.iaload, 1) := by decide +kernel
theorem dX4_addCorner_17 : decode cX4_addCorner 17 = .ok (.istore_n 2, 1) := by decide +kernel
theorem dX4_addCorner_18 : decode cX4_addCorner 18 = .ok (.iload_n 2, 1) := by decide +kernel
theorem dX4_addCorner_19 : decode cX4_addCorner 19 = .ok (.ifCond .lt 36, 3) := by decide +kernel
theorem dX4_addCorner_22 : decode cX4_addCorner 22 = .ok (.iload_n 2, 1) := by decide +kernel
theorem dX4_addCorner_23 : decode cX4_addCorner 23 = .ok (.bipush 6, 2) := by decide +kernel
theorem dX4_addCorner_25 : decode cX4_addCorner 25 = .ok (.if_icmp .ge 30, 3) := by decide +kernel
theorem dX4_addCorner_28 : decode cX4_addCorner 28 = .ok (.aload_n 0, 1) := by decide +kernel
theorem dX4_addCorner_29 : decode cX4_addCorner 29 = .ok (.getfield 37, 3) := by decide +kernel
theorem dX4_addCorner_32 : decode cX4_addCorner 32 = .ok (.aload_n 0, 1) := by decide +kernel
theorem dX4_addCorner_33 : decode cX4_addCorner 33 = .ok (.getfield 15, 3) := by decide +kernel
theorem dX4_addCorner_36 : decode cX4_addCorner 36 = .ok (.bipush 6, 2) := by decide +kernel
theorem dX4_addCorner_38 : decode cX4_addCorner 38 = .ok (.imul, 1) := by decide +kernel
theorem dX4_addCorner_39 : decode cX4_addCorner 39 = .ok (.iload_n 2, 1) := by decide +kernel
theorem dX4_addCorner_40 : decode cX4_addCorner 40 = .ok (.iadd, 1) := by decide +kernel
theorem dX4_addCorner_41 : decode cX4_addCorner 41 = .ok (.iload_n 1, 1) := by decide +kernel
theorem dX4_addCorner_42 : decode cX4_addCorner 42 = .ok (.iastore, 1) := by decide +kernel
theorem dX4_addCorner_43 : decode cX4_addCorner 43 = .ok (.aload_n 0, 1) := by decide +kernel
theorem dX4_addCorner_44 : decode cX4_addCorner 44 = .ok (.getfield 34, 3) := by decide +kernel
theorem dX4_addCorner_47 : decode cX4_addCorner 47 = .ok (.aload_n 0, 1) := by decide +kernel
theorem dX4_addCorner_48 : decode cX4_addCorner 48 = .ok (.getfield 15, 3) := by decide +kernel
theorem dX4_addCorner_51 : decode cX4_addCorner 51 = .ok (.iload_n 2, 1) := by decide +kernel
theorem dX4_addCorner_52 : decode cX4_addCorner 52 = .ok (.iconst 1, 1) := by decide +kernel
theorem dX4_addCorner_53 : decode cX4_addCorner 53 = .ok (.iadd, 1) := by decide +kernel
theorem dX4_addCorner_54 : decode cX4_addCorner 54 = .ok (.iastore, 1) := by decide +kernel
theorem dX4_addCorner_55 : decode cX4_addCorner 55 = .ok (.return_, 1) := by decide +kernel
theorem dX4_addPerson_0 : decode cX4_addPerson 0 = .ok (.aload_n 0, 1) := by decide +kernel
theorem dX4_addPerson_1 : decode cX4_addPerson 1 = .ok (.invokevirtual 59, 3) := by decide +kernel
theorem dX4_addPerson_4 : decode cX4_addPerson 4 = .ok (.ifCond .ne 4, 3) := by decide +kernel
theorem dX4_addPerson_7 : decode cX4_addPerson 7 = .ok (.return_, 1) := by decide +kernel
theorem dX4_addPerson_8 : decode cX4_addPerson 8 = .ok (.aload_n 0, 1) := by decide +kernel
theorem dX4_addPerson_9 : decode cX4_addPerson 9 = .ok (.getfield 24, 3) := by decide +kernel
theorem dX4_addPerson_12 : decode cX4_addPerson 12 = .ok (.aload_n 0, 1) := by decide +kernel
theorem dX4_addPerson_13 : decode cX4_addPerson 13 = .ok (.getfield 15, 3) := by decide +kernel
theorem dX4_addPerson_16 : decode cX4_addPerson 16 = .ok (.iload_n 1, 1) := by decide +kernel
theorem dX4_addPerson_17 : decode cX4_addPerson 17 = .ok (.iastore, 1) := by decide +kernel
theorem dX4_addPerson_18 : decode cX4_addPerson 18 = .ok (.aload_n 0, 1) := by decide +kernel
theorem dX4_addPerson_19 : decode cX4_addPerson 19 = .ok (.getfield 28, 3) := by decide +kernel
theorem dX4_addPerson_22 : decode cX4_addPerson 22 = .ok (.aload_n 0, 1) := by decide +kernel
theorem dX4_addPerson_23 : decode cX4_addPerson 23 = .ok (.getfield 15, 3) := by decide +kernel
theorem dX4_addPerson_26 : decode cX4_addPerson 26 = .ok (.iload_n 2, 1) := by decide +kernel
theorem dX4_addPerson_27 : decode cX4_addPerson 27 = .ok (.iastore, 1) := by decide +kernel
theorem dX4_addPerson_28 : decode cX4_addPerson 28 = .ok (.aload_n 0, 1) := by decide +kernel
theorem dX4_addPerson_29 : decode cX4_addPerson 29 = .ok (.getfield 31, 3) := by decide +kernel
theorem dX4_addPerson_32 : decode cX4_addPerson 32 = .ok (.aload_n 0, 1) := by decide +kernel
theorem dX4_addPerson_33 : decode cX4_addPerson 33 = .ok (.getfield 15, 3) := by decide +kernel
theorem dX4_addPerson_36 : decode cX4_addPerson 36 = .ok (.iload_n 3, 1) := by decide +kernel
theorem dX4_addPerson_37 : decode cX4_addPerson 37 = .ok (.iastore, 1) := by decide +kernel
theorem dX4_addPerson_38 : decode cX4_addPerson 38 = .ok (.aload_n 0, 1) := by decide +kernel
theorem dX4_addPerson_39 : decode cX4_addPerson 39 = .ok (.dup, 1) := by decide +kernel
theorem dX4_addPerson_40 : decode cX4_addPerson 40 = .ok (.getfield 21, 3) := by decide +kernel
theorem dX4_addPerson_43 : decode cX4_addPerson 43 = .ok (.iload 4, 2) := by decide +kernel
theorem dX4_addPerson_45 : decode cX4_addPerson 45 = .ok (.ifCond .eq 12, 3) := by decide +kernel
theorem dX4_addPerson_48 : decode cX4_addPerson 48 = .ok (.iconst 1, 1) := by decide +kernel
theorem dX4_addPerson_49 : decode cX4_addPerson 49 = .ok (.aload_n 0, 1) := by decide +kernel
theorem dX4_addPerson_50 : decode cX4_addPerson 50 = .ok (.getfield 15, 3) := by decide +kernel
theorem dX4_addPerson_53 : decode cX4_addPerson 53 = .ok (.ishl, 1) := by decide +kernel
theorem dX4_addPerson_54 : decode cX4_addPerson 54 = .ok (.goto 4, 3) := by decide +kernel
theorem dX4_addPerson_57 : decode cX4_addPerson 57 = .ok (.iconst 0, 1) := by decide +kernel
theorem dX4_addPerson_58 : decode cX4_addPerson 58 = .ok (.ior, 1) := by decide +kernel
theorem dX4_addPerson_59 : decode cX4_addPerson 59 = .ok (.putfield 21, 3) := by decide +kernel
theorem dX4_addPerson_62 : decode cX4_addPerson 62 = .ok (.aload_n 0, 1) := by decide +kernel
theorem dX4_addPerson_63 : decode cX4_addPerson 63 = .ok (.dup, 1) := by decide +kernel
theorem dX4_addPerson_64 : decode cX4_addPerson 64 = .ok (.getfield 15, 3) := by decide +kernel
theorem dX4_addPerson_67 : decode cX4_addPerson 67 = .ok (.iconst 1, 1) := by decide +kernel
theorem dX4_addPerson_68 : decode cX4_addPerson 68 = .ok (.iadd, 1) := by decide +kernel
theorem dX4_addPerson_69 : decode cX4_addPerson 69 = .ok (.putfield 15, 3) := by decide +kernel
theorem dX4_addPerson_72 : decode cX4_addPerson 72 = .ok (.return_, 1) := by decide +kernel
theorem dX4_isMiser_0 : decode cX4_isMiser 0 = .ok (.aload_n 0, 1) := by decide +kernel
theorem dX4_isMiser_1 : decode cX4_isMiser 1 = .ok (.getfield 21, 3) := by decide +kernel
theorem dX4_isMiser_4 : decode cX4_isMiser 4 = .ok (.iload_n 1, 1) := by decide +kernel
theorem dX4_isMiser_5 : decode cX4_isMiser 5 = .ok (.ishr, 1) := by decide +kernel
theorem dX4_isMiser_6 : decode cX4_isMiser 6 = .ok (.iconst 1, 1) := by decide +kernel
theorem dX4_isMiser_7 : decode cX4_isMiser 7 = .ok (.iand, 1) := by decide +kernel
theorem dX4_isMiser_8 : decode cX4_isMiser 8 = .ok (.iconst 1, 1) := by decide +kernel
theorem dX4_isMiser_9 : decode cX4_isMiser 9 = .ok (.if_icmp .ne 7, 3) := by decide +kernel
theorem dX4_isMiser_12 : decode cX4_isMiser 12 = .ok (.iconst 1, 1) := by decide +kernel
theorem dX4_isMiser_13 : decode cX4_isMiser 13 = .ok (.goto 4, 3) := by decide +kernel
theorem dX4_isMiser_16 : decode cX4_isMiser 16 = .ok (.iconst 0, 1) := by decide +kernel
theorem dX4_isMiser_17 : decode cX4_isMiser 17 = .ok (.ireturn, 1) := by decide +kernel
theorem dX4_cornerOf_0 : decode cX4_cornerOf 0 = .ok (.iload_n 1, 1) := by decide +kernel
theorem dX4_cornerOf_1 : decode cX4_cornerOf 1 = .ok (.ifCond .lt 21, 3) := by decide +kernel
theorem dX4_cornerOf_4 : decode cX4_cornerOf 4 = .ok (.iload_n 1, 1) := by decide +kernel
theorem dX4_cornerOf_5 : decode cX4_cornerOf 5 = .ok (.aload_n 0, 1) := by decide +kernel
theorem dX4_cornerOf_6 : decode cX4_cornerOf 6 = .ok (.getfield 34, 3) := by decide +kernel
theorem dX4_cornerOf_9 : decode cX4_cornerOf 9 = .ok (.arraylength, 1) := by decide +kernel
theorem dX4_cornerOf_10 : decode cX4_cornerOf 10 = .ok (.if_icmp .ge 12, 3) := by decide +kernel
theorem dX4_cornerOf_13 : decode cX4_cornerOf 13 = .ok (.aload_n 0, 1) := by decide +kernel
theorem dX4_cornerOf_14 : decode cX4_cornerOf 14 = .ok (.getfield 34, 3) := by decide +kernel
theorem dX4_cornerOf_17 : decode cX4_cornerOf 17 = .ok (.iload_n 1, 1) := by decide +kernel
theorem dX4_cornerOf_18 : decode cX4_cornerOf 18 = .ok (.iaload, 1) := by decide +kernel
theorem dX4_cornerOf_19 : decode cX4_cornerOf 19 = .ok (.goto 4, 3) := by decide +kernel
theorem dX4_cornerOf_22 : decode cX4_cornerOf 22 = .ok (.iconst 0, 1) := by decide +kernel
theorem dX4_cornerOf_23 : decode cX4_cornerOf 23 = .ok (.istore_n 3, 1) := by decide +kernel
theorem dX4_cornerOf_24 : decode cX4_cornerOf 24 = .ok (.iload_n 3, 1) := by decide +kernel
theorem dX4_cornerOf_25 : decode cX4_cornerOf 25 = .ok (.ifCond .le 9, 3) := by decide +kernel
theorem dX4_cornerOf_28 : decode cX4_cornerOf 28 = .ok (.iload_n 3, 1) := by decide +kernel
theorem dX4_cornerOf_29 : decode cX4_cornerOf 29 = .ok (.bipush 6, 2) := by decide +kernel
theorem dX4_cornerOf_31 : decode cX4_cornerOf 31 = .ok (.if_icmp .le 5, 3) := by decide +kernel
theorem dX4_cornerOf_34 : decode cX4_cornerOf 34 = .ok (.iconst 0, 1) := by decide +kernel
theorem dX4_cornerOf_35 : decode cX4_cornerOf 35 = .ok (.ireturn, 1) := by decide +kernel
theorem dX4_cornerOf_36 : decode cX4_cornerOf 36 = .ok (.aload_n 0, 1) := by decide +kernel
theorem dX4_cornerOf_37 : decode cX4_cornerOf 37 = .ok (.getfield 37, 3) := by decide +kernel
theorem dX4_cornerOf_40 : decode cX4_cornerOf 40 = .ok (.iload_n 1, 1) := by decide +kernel
theorem dX4_cornerOf_41 : decode cX4_cornerOf 41 = .ok (.bipush 6, 2) := by decide +kernel
theorem dX4_cornerOf_43 : decode cX4_cornerOf 43 = .ok (.imul, 1) := by decide +kernel
theorem dX4_cornerOf_44 : decode cX4_cornerOf 44 = .ok (.iload_n 2, 1) := by decide +kernel
theorem dX4_cornerOf_45 : decode cX4_cornerOf 45 = .ok (.iload_n 3, 1) := by decide +kernel
theorem dX4_cornerOf_46 : decode cX4_cornerOf 46 = .ok (.invokestatic 63, 3) := by decide +kernel
theorem dX4_cornerOf_49 : decode cX4_cornerOf 49 = .ok (.iadd, 1) := by decide +kernel
theorem dX4_cornerOf_50 : decode cX4_cornerOf 50 = .ok (.iaload, 1) := by decide +kernel
theorem dX4_cornerOf_51 : decode cX4_cornerOf 51 = .ok (.ireturn, 1) := by decide +kernel
theorem dX4_bitsAt_0 : decode cX4_bitsAt 0 = .ok (.iconst 0, 1) := by decide +kernel
theorem dX4_bitsAt_1 : decode cX4_bitsAt 1 = .ok (.istore_n 3, 1) := by decide +kernel
theorem dX4_bitsAt_2 : decode cX4_bitsAt 2 = .ok (.iconst 0, 1) := by decide +kernel
theorem dX4_bitsAt_3 : decode cX4_bitsAt 3 = .ok (.istore 4, 2) := by decide +kernel
theorem dX4_bitsAt_5 : decode cX4_bitsAt 5 = .ok (.iload 4, 2) := by decide +kernel
theorem dX4_bitsAt_7 : decode cX4_bitsAt 7 = .ok (.aload_n 0, 1) := by decide +kernel
theorem dX4_bitsAt_8 : decode cX4_bitsAt 8 = .ok (.getfield 15, 3) := by decide +kernel
theorem dX4_bitsAt_11 : decode cX4_bitsAt 11 = .ok (.if_icmp .ge 27, 3) := by decide +kernel
theorem dX4_bitsAt_14 : decode cX4_bitsAt 14 = .ok (.aload_n 0, 1) := by decide +kernel
theorem dX4_bitsAt_15 : decode cX4_bitsAt 15 = .ok (.iload 4, 2) := by decide +kernel
theorem dX4_bitsAt_17 : decode cX4_bitsAt 17 = .ok (.iload_n 2, 1) := by decide +kernel
theorem dX4_bitsAt_18 : decode cX4_bitsAt 18 = .ok (.invokevirtual 69, 3) := by decide +kernel
theorem dX4_bitsAt_21 : decode cX4_bitsAt 21 = .ok (.iload_n 1, 1) := by decide +kernel
theorem dX4_bitsAt_22 : decode cX4_bitsAt 22 = .ok (.if_icmp .ne 10, 3) := by decide +kernel
theorem dX4_bitsAt_25 : decode cX4_bitsAt 25 = .ok (.iload_n 3, 1) := by decide +kernel
theorem dX4_bitsAt_26 : decode cX4_bitsAt 26 = .ok (.iconst 1, 1) := by decide +kernel
theorem dX4_bitsAt_27 : decode cX4_bitsAt 27 = .ok (.iload 4, 2) := by decide +kernel
theorem dX4_bitsAt_29 : decode cX4_bitsAt 29 = .ok (.ishl, 1) := by decide +kernel
theorem dX4_bitsAt_30 : decode cX4_bitsAt 30 = .ok (.ior, 1) := by decide +kernel
theorem dX4_bitsAt_31 : decode cX4_bitsAt 31 = .ok (.istore_n 3, 1) := by decide +kernel
theorem dX4_bitsAt_32 : decode cX4_bitsAt 32 = .ok (.iinc 4 1, 3) := by decide +kernel
theorem dX4_bitsAt_35 : decode cX4_bitsAt 35 = .ok (.goto (-30), 3) := by decide +kernel
theorem dX4_bitsAt_38 : decode cX4_bitsAt 38 = .ok (.iload_n 3, 1) := by decide +kernel
theorem dX4_bitsAt_39 : decode cX4_bitsAt 39 = .ok (.ireturn, 1) := by decide +kernel
theorem dX4_howManyAt_0 : decode cX4_howManyAt 0 = .ok (.aload_n 0, 1) := by decide +kernel
theorem dX4_howManyAt_1 : decode cX4_howManyAt 1 = .ok (.iload_n 1, 1) := by decide +kernel
theorem dX4_howManyAt_2 : decode cX4_howManyAt 2 = .ok (.iload_n 2, 1) := by decide +kernel
theorem dX4_howManyAt_3 : decode cX4_howManyAt 3 = .ok (.invokevirtual 72, 3) := by decide +kernel
theorem dX4_howManyAt_6 : decode cX4_howManyAt 6 = .ok (.invokestatic 75, 3) := by decide +kernel
theorem dX4_howManyAt_9 : decode cX4_howManyAt 9 = .ok (.ireturn, 1) := by decide +kernel
theorem dX4_visitedBy_0 : decode cX4_visitedBy 0 = .ok (.iconst 0, 1) := by decide +kernel
theorem dX4_visitedBy_1 : decode cX4_visitedBy 1 = .ok (.istore 4, 2) := by decide +kernel
theorem dX4_visitedBy_3 : decode cX4_visitedBy 3 = .ok (.iconst 0, 1) := by decide +kernel
theorem dX4_visitedBy_4 : decode cX4_visitedBy 4 = .ok (.istore 5, 2) := by decide +kernel
theorem dX4_visitedBy_6 : decode cX4_visitedBy 6 = .ok (.iload 5, 2) := by decide +kernel
theorem dX4_visitedBy_8 : decode cX4_visitedBy 8 = .ok (.iload_n 3, 1) := by decide +kernel
theorem dX4_visitedBy_9 : decode cX4_visitedBy 9 = .ok (.if_icmp .ge 32, 3) := by decide +kernel
theorem dX4_visitedBy_12 : decode cX4_visitedBy 12 = .ok (.iload 5, 2) := by decide +kernel
theorem dX4_visitedBy_14 : decode cX4_visitedBy 14 = .ok (.bipush 6, 2) := by decide +kernel
theorem dX4_visitedBy_16 : decode cX4_visitedBy 16 = .ok (.if_icmp .ge 25, 3) := by decide +kernel
theorem dX4_visitedBy_19 : decode cX4_visitedBy 19 = .ok (.iload 4, 2) := by decide +kernel
theorem dX4_visitedBy_21 : decode cX4_visitedBy 21 = .ok (.iconst 1, 1) := by decide +kernel
theorem dX4_visitedBy_22 : decode cX4_visitedBy 22 = .ok (.aload_n 0, 1) := by decide +kernel
theorem dX4_visitedBy_23 : decode cX4_visitedBy 23 = .ok (.iload_n 1, 1) := by decide +kernel
theorem dX4_visitedBy_24 : decode cX4_visitedBy 24 = .ok (.iload_n 2, 1) := by decide +kernel
theorem dX4_visitedBy_25 : decode cX4_visitedBy 25 = .ok (.iload 5, 2) := by decide +kernel
theorem dX4_visitedBy_27 : decode cX4_visitedBy 27 = .ok (.iadd, 1) := by decide +kernel
theorem dX4_visitedBy_28 : decode cX4_visitedBy 28 = .ok (.invokevirtual 69, 3) := by decide +kernel
theorem dX4_visitedBy_31 : decode cX4_visitedBy 31 = .ok (.ishl, 1) := by decide +kernel
theorem dX4_visitedBy_32 : decode cX4_visitedBy 32 = .ok (.ior, 1) := by decide +kernel
theorem dX4_visitedBy_33 : decode cX4_visitedBy 33 = .ok (.istore 4, 2) := by decide +kernel
theorem dX4_visitedBy_35 : decode cX4_visitedBy 35 = .ok (.iinc 5 1, 3) := by decide +kernel
theorem dX4_visitedBy_38 : decode cX4_visitedBy 38 = .ok (.goto (-32), 3) := by decide +kernel
theorem dX4_visitedBy_41 : decode cX4_visitedBy 41 = .ok (.iload 4, 2) := by decide +kernel
theorem dX4_visitedBy_43 : decode cX4_visitedBy 43 = .ok (.ireturn, 1) := by decide +kernel
theorem dX5_init_0 : decode cX5_init 0 = .ok (.aload_n 0, 1) := by decide +kernel
theorem dX5_init_1 : decode cX5_init 1 = .ok (.invokespecial 3, 3) := by decide +kernel
theorem dX5_init_4 : decode cX5_init 4 = .ok (.aload_n 0, 1) := by decide +kernel
theorem dX5_init_5 : decode cX5_init 5 = .ok (.new 9, 3) := by decide +kernel
theorem dX5_init_8 : decode cX5_init 8 = .ok (.dup, 1) := by decide +kernel
theorem dX5_init_9 : decode cX5_init 9 = .ok (.invokespecial 11, 3) := by decide +kernel
theorem dX5_init_12 : decode cX5_init 12 = .ok (.putfield 12, 3) := by decide +kernel
theorem dX5_init_15 : decode cX5_init 15 = .ok (.aload_n 0, 1) := by decide +kernel
theorem dX5_init_16 : decode cX5_init 16 = .ok (.new 18, 3) := by decide +kernel
theorem dX5_init_19 : decode cX5_init 19 = .ok (.dup, 1) := by decide +kernel
theorem dX5_init_20 : decode cX5_init 20 = .ok (.invokespecial 20, 3) := by decide +kernel
theorem dX5_init_23 : decode cX5_init 23 = .ok (.putfield 21, 3) := by decide +kernel
theorem dX5_init_26 : decode cX5_init 26 = .ok (.aload_n 0, 1) := by decide +kernel
theorem dX5_init_27 : decode cX5_init 27 = .ok (.aload_n 0, 1) := by decide +kernel
theorem dX5_init_28 : decode cX5_init 28 = .ok (.getfield 21, 3) := by decide +kernel
theorem dX5_init_31 : decode cX5_init 31 = .ok (.getfield 25, 3) := by decide +kernel
theorem dX5_init_34 : decode cX5_init 34 = .ok (.putfield 29, 3) := by decide +kernel
theorem dX5_init_37 : decode cX5_init 37 = .ok (.aload_n 0, 1) := by decide +kernel
theorem dX5_init_38 : decode cX5_init 38 = .ok (.iconst 0, 1) := by decide +kernel
theorem dX5_init_39 : decode cX5_init 39 = .ok (.putfield 32, 3) := by decide +kernel
theorem dX5_init_42 : decode cX5_init 42 = .ok (.aload_n 0, 1) := by decide +kernel
theorem dX5_init_43 : decode cX5_init 43 = .ok (.iconst 0, 1) := by decide +kernel
theorem dX5_init_44 : decode cX5_init 44 = .ok (.putfield 36, 3) := by decide +kernel
theorem dX5_init_47 : decode cX5_init 47 = .ok (.aload_n 0, 1) := by decide +kernel
theorem dX5_init_48 : decode cX5_init 48 = .ok (.iconst 0, 1) := by decide +kernel
theorem dX5_init_49 : decode cX5_init 49 = .ok (.putfield 39, 3) := by decide +kernel
theorem dX5_init_52 : decode cX5_init 52 = .ok (.aload_n 0, 1) := by decide +kernel
theorem dX5_init_53 : decode cX5_init 53 = .ok (.iconst (-1), 1) := by decide +kernel
theorem dX5_init_54 : decode cX5_init 54 = .ok (.putfield 42, 3) := by decide +kernel
theorem dX5_init_57 : decode cX5_init 57 = .ok (.aload_n 0, 1) := by decide +kernel
theorem dX5_init_58 : decode cX5_init 58 = .ok (.iconst 0, 1) := by decide +kernel
theorem dX5_init_59 : decode cX5_init 59 = .ok (.putfield 45, 3) := by decide +kernel
theorem dX5_init_62 : decode cX5_init 62 = .ok (.aload_n 0, 1) := by decide +kernel
theorem dX5_init_63 : decode cX5_init 63 = .ok (.iconst 0, 1) := by decide +kernel
theorem dX5_init_64 : decode cX5_init 64 = .ok (.putfield 49, 3) := by decide +kernel
theorem dX5_init_67 : decode cX5_init 67 = .ok (.return_, 1) := by decide +kernel
theorem dX5_readAll_0 : decode cX5_readAll 0 = .ok (.aload_n 0, 1) := by decide +kernel
theorem dX5_readAll_1 : decode cX5_readAll 1 = .ok (.getfield 12, 3) := by decide +kernel
theorem dX5_readAll_4 : decode cX5_readAll 4 = .ok (.aload_n 1, 1) := by decide +kernel
theorem dX5_readAll_5 : decode cX5_readAll 5 = .ok (.iload_n 2, 1) := by decide +kernel
theorem dX5_readAll_6 : decode cX5_readAll 6 = .ok (.invokevirtual 52, 3) := by decide +kernel
theorem dX5_readAll_9 : decode cX5_readAll 9 = .ok (.aload_n 0, 1) := by decide +kernel
theorem dX5_readAll_10 : decode cX5_readAll 10 = .ok (.getfield 21, 3) := by decide +kernel
theorem dX5_readAll_13 : decode cX5_readAll 13 = .ok (.invokevirtual 56, 3) := by decide +kernel
theorem dX5_readAll_16 : decode cX5_readAll 16 = .ok (.aload_n 0, 1) := by decide +kernel
theorem dX5_readAll_17 : decode cX5_readAll 17 = .ok (.iconst 0, 1) := by decide +kernel
theorem dX5_readAll_18 : decode cX5_readAll 18 = .ok (.putfield 32, 3) := by decide +kernel
theorem dX5_readAll_21 : decode cX5_readAll 21 = .ok (.aload_n 0, 1) := by decide +kernel
theorem dX5_readAll_22 : decode cX5_readAll 22 = .ok (.aload_n 0, 1) := by decide +kernel
theorem dX5_readAll_23 : decode cX5_readAll 23 = .ok (.getfield 12, 3) := by decide +kernel
theorem dX5_readAll_26 : decode cX5_readAll 26 = .ok (.iconst 0, 1) := by decide +kernel
theorem dX5_readAll_27 : decode cX5_readAll 27 = .ok (.invokevirtual 59, 3) := by decide +kernel
theorem dX5_readAll_30 : decode cX5_readAll 30 = .ok (.putfield 36, 3) := by decide +kernel
theorem dX5_readAll_33 : decode cX5_readAll 33 = .ok (.aload_n 0, 1) := by decide +kernel
theorem dX5_readAll_34 : decode cX5_readAll 34 = .ok (.iconst 0, 1) := by decide +kernel
theorem dX5_readAll_35 : decode cX5_readAll 35 = .ok (.putfield 39, 3) := by decide +kernel
theorem dX5_readAll_38 : decode cX5_readAll 38 = .ok (.aload_n 0, 1) := by decide +kernel
theorem dX5_readAll_39 : decode cX5_readAll 39 = .ok (.iconst 0, 1) := by decide +kernel
theorem dX5_readAll_40 : decode cX5_readAll 40 = .ok (.putfield 45, 3) := by decide +kernel
theorem dX5_readAll_43 : decode cX5_readAll 43 = .ok (.aload_n 0, 1) := by decide +kernel
theorem dX5_readAll_44 : decode cX5_readAll 44 = .ok (.iconst 0, 1) := by decide +kernel
theorem dX5_readAll_45 : decode cX5_readAll 45 = .ok (.putfield 49, 3) := by decide +kernel
theorem dX5_readAll_48 : decode cX5_readAll 48 = .ok (.iconst 0, 1) := by decide +kernel
theorem dX5_readAll_49 : decode cX5_readAll 49 = .ok (.istore_n 3, 1) := by decide +kernel
theorem dX5_readAll_50 : decode cX5_readAll 50 = .ok (.iload_n 3, 1) := by decide +kernel
theorem dX5_readAll_51 : decode cX5_readAll 51 = .ok (.sipush 700, 3) := by decide +kernel
theorem dX5_readAll_54 : decode cX5_readAll 54 = .ok (.if_icmp .ge 33, 3) := by decide +kernel
theorem dX5_readAll_57 : decode cX5_readAll 57 = .ok (.aload_n 0, 1) := by decide +kernel
theorem dX5_readAll_58 : decode cX5_readAll 58 = .ok (.getfield 36, 3) := by decide +kernel
theorem dX5_readAll_61 : decode cX5_readAll 61 = .ok (.ifCond .eq 26, 3) := by decide +kernel
theorem dX5_readAll_64 : decode cX5_readAll 64 = .ok (.aload_n 0, 1) := by decide +kernel
theorem dX5_readAll_65 : decode cX5_readAll 65 = .ok (.getfield 39, 3) := by decide +kernel
theorem dX5_readAll_68 : decode cX5_readAll 68 = .ok (.ifCond .ne 19, 3) := by decide +kernel
theorem dX5_readAll_71 : decode cX5_readAll 71 = .ok (.aload_n 0, 1) := by decide +kernel
theorem dX5_readAll_72 : decode cX5_readAll 72 = .ok (.invokevirtual 63, 3) := by decide +kernel
theorem dX5_readAll_75 : decode cX5_readAll 75 = .ok (.aload_n 0, 1) := by decide +kernel
theorem dX5_readAll_76 : decode cX5_readAll 76 = .ok (.bipush 59, 2) := by decide +kernel
theorem dX5_readAll_78 : decode cX5_readAll 78 = .ok (.invokevirtual 66, 3) := by decide +kernel
theorem dX5_readAll_81 : decode cX5_readAll 81 = .ok (.iinc 3 1, 3) := by decide +kernel
theorem dX5_readAll_84 : decode cX5_readAll 84 = .ok (.goto (-34), 3) := by decide +kernel
theorem dX5_readAll_87 : decode cX5_readAll 87 = .ok (.aload_n 0, 1) := by decide +kernel
theorem dX5_readAll_88 : decode cX5_readAll 88 = .ok (.aload_n 0, 1) := by decide +kernel
theorem dX5_readAll_89 : decode cX5_readAll 89 = .ok (.getfield 39, 3) := by decide +kernel
theorem dX5_readAll_92 : decode cX5_readAll 92 = .ok (.ifCond .eq 17, 3) := by decide +kernel
theorem dX5_readAll_95 : decode cX5_readAll 95 = .ok (.aload_n 0, 1) := by decide +kernel
theorem dX5_readAll_96 : decode cX5_readAll 96 = .ok (.getfield 12, 3) := by decide +kernel
theorem dX5_readAll_99 : decode cX5_readAll 99 = .ok (.aload_n 0, 1) := by decide +kernel
theorem dX5_readAll_100 : decode cX5_readAll 100 = .ok (.getfield 32, 3) := by decide +kernel
theorem dX5_readAll_103 : decode cX5_readAll 103 = .ok (.invokevirtual 70, 3) := by decide +kernel
theorem dX5_readAll_106 : decode cX5_readAll 106 = .ok (.goto 4, 3) := by decide +kernel
theorem dX5_readAll_109 : decode cX5_readAll 109 = .ok (.iconst (-1), 1) := by decide +kernel
theorem dX5_readAll_110 : decode cX5_readAll 110 = .ok (.putfield 42, 3) := by decide +kernel
theorem dX5_readAll_113 : decode cX5_readAll 113 = .ok (.aload_n 0, 1) := by decide +kernel
theorem dX5_readAll_114 : decode cX5_readAll 114 = .ok (.getfield 39, 3) := by decide +kernel
theorem dX5_readAll_117 : decode cX5_readAll 117 = .ok (.ireturn, 1) := by decide +kernel
theorem dX5_fail_0 : decode cX5_fail 0 = .ok (.aload_n 0, 1) := by decide +kernel
theorem dX5_fail_1 : decode cX5_fail 1 = .ok (.getfield 39, 3) := by decide +kernel
theorem dX5_fail_4 : decode cX5_fail 4 = .ok (.ifCond .ne 13, 3) := by decide +kernel
theorem dX5_fail_7 : decode cX5_fail 7 = .ok (.aload_n 0, 1) := by decide +kernel
theorem dX5_fail_8 : decode cX5_fail 8 = .ok (.iload_n 1, 1) := by decide +kernel
theorem dX5_fail_9 : decode cX5_fail 9 = .ok (.putfield 39, 3) := by decide +kernel
theorem dX5_fail_12 : decode cX5_fail 12 = .ok (.aload_n 0, 1) := by decide +kernel
theorem dX5_fail_13 : decode cX5_fail 13 = .ok (.iconst (-1), 1) := by decide +kernel
theorem dX5_fail_14 : decode cX5_fail 14 = .ok (.putfield 36, 3) := by decide +kernel
theorem dX5_fail_17 : decode cX5_fail 17 = .ok (.return_, 1) := by decide +kernel
theorem dX5_goOn_0 : decode cX5_goOn 0 = .ok (.aload_n 0, 1) := by decide +kernel
theorem dX5_goOn_1 : decode cX5_goOn 1 = .ok (.getfield 39, 3) := by decide +kernel
theorem dX5_goOn_4 : decode cX5_goOn 4 = .ok (.ifCond .ne 28, 3) := by decide +kernel
theorem dX5_goOn_7 : decode cX5_goOn 7 = .ok (.aload_n 0, 1) := by decide +kernel
theorem dX5_goOn_8 : decode cX5_goOn 8 = .ok (.dup, 1) := by decide +kernel
theorem dX5_goOn_9 : decode cX5_goOn 9 = .ok (.getfield 32, 3) := by decide +kernel
theorem dX5_goOn_12 : decode cX5_goOn 12 = .ok (.iconst 1, 1) := by decide +kernel
theorem dX5_goOn_13 : decode cX5_goOn 13 = .ok (.iadd, 1) := by decide +kernel
theorem dX5_goOn_14 : decode cX5_goOn 14 = .ok (.putfield 32, 3) := by decide +kernel
theorem dX5_goOn_17 : decode cX5_goOn 17 = .ok (.aload_n 0, 1) := by decide +kernel
theorem dX5_goOn_18 : decode cX5_goOn 18 = .ok (.aload_n 0, 1) := by decide +kernel
theorem dX5_goOn_19 : decode cX5_goOn 19 = .ok (.getfield 12, 3) := by decide +kernel
theorem dX5_goOn_22 : decode cX5_goOn 22 = .ok (.aload_n 0, 1) := by decide +kernel
theorem dX5_goOn_23 : decode cX5_goOn 23 = .ok (.getfield 32, 3) := by decide +kernel
theorem dX5_goOn_26 : decode cX5_goOn 26 = .ok (.invokevirtual 59, 3) := by decide +kernel
theorem dX5_goOn_29 : decode cX5_goOn 29 = .ok (.putfield 36, 3) := by decide +kernel
theorem dX5_goOn_32 : decode cX5_goOn 32 = .ok (.return_, 1) := by decide +kernel
theorem dX5_isNumber_0 : decode cX5_isNumber 0 = .ok (.aload_n 0, 1) := by decide +kernel
theorem dX5_isNumber_1 : decode cX5_isNumber 1 = .ok (.getfield 36, 3) := by decide +kernel
theorem dX5_isNumber_4 : decode cX5_isNumber 4 = .ok (.iconst 1, 1) := by decide +kernel
theorem dX5_isNumber_5 : decode cX5_isNumber 5 = .ok (.if_icmp .eq 11, 3) := by decide +kernel
theorem dX5_isNumber_8 : decode cX5_isNumber 8 = .ok (.aload_n 0, 1) := by decide +kernel
theorem dX5_isNumber_9 : decode cX5_isNumber 9 = .ok (.getfield 36, 3) := by decide +kernel
theorem dX5_isNumber_12 : decode cX5_isNumber 12 = .ok (.iconst 2, 1) := by decide +kernel
theorem dX5_isNumber_13 : decode cX5_isNumber 13 = .ok (.if_icmp .ne 7, 3) := by decide +kernel
theorem dX5_isNumber_16 : decode cX5_isNumber 16 = .ok (.iconst 1, 1) := by decide +kernel
theorem dX5_isNumber_17 : decode cX5_isNumber 17 = .ok (.goto 4, 3) := by decide +kernel
theorem dX5_isNumber_20 : decode cX5_isNumber 20 = .ok (.iconst 0, 1) := by decide +kernel
theorem dX5_isNumber_21 : decode cX5_isNumber 21 = .ok (.ireturn, 1) := by decide +kernel
theorem dX5_isWord_0 : decode cX5_isWord 0 = .ok (.aload_n 0, 1) := by decide +kernel
theorem dX5_isWord_1 : decode cX5_isWord 1 = .ok (.getfield 36, 3) := by decide +kernel
theorem dX5_isWord_4 : decode cX5_isWord 4 = .ok (.bipush 100, 2) := by decide +kernel
theorem dX5_isWord_6 : decode cX5_isWord 6 = .ok (.if_icmp .lt 7, 3) := by decide +kernel
theorem dX5_isWord_9 : decode cX5_isWord 9 = .ok (.iconst 1, 1) := by decide +kernel
theorem dX5_isWord_10 : decode cX5_isWord 10 = .ok (.goto 4, 3) := by decide +kernel
theorem dX5_isWord_13 : decode cX5_isWord 13 = .ok (.iconst 0, 1) := by decide +kernel
theorem dX5_isWord_14 : decode cX5_isWord 14 = .ok (.ireturn, 1) := by decide +kernel
theorem dX5_needSign_0 : decode cX5_needSign 0 = .ok (.aload_n 0, 1) := by decide +kernel
theorem dX5_needSign_1 : decode cX5_needSign 1 = .ok (.getfield 36, 3) := by decide +kernel
theorem dX5_needSign_4 : decode cX5_needSign 4 = .ok (.iload_n 1, 1) := by decide +kernel
theorem dX5_needSign_5 : decode cX5_needSign 5 = .ok (.if_icmp .ne 10, 3) := by decide +kernel
theorem dX5_needSign_8 : decode cX5_needSign 8 = .ok (.aload_n 0, 1) := by decide +kernel
theorem dX5_needSign_9 : decode cX5_needSign 9 = .ok (.invokevirtual 73, 3) := by decide +kernel
theorem dX5_needSign_12 : decode cX5_needSign 12 = .ok (.goto 8, 3) := by decide +kernel
theorem dX5_needSign_15 : decode cX5_needSign 15 = .ok (.aload_n 0, 1) := by decide +kernel
theorem dX5_needSign_16 : decode cX5_needSign 16 = .ok (.iconst 1, 1) := by decide +kernel
theorem dX5_needSign_17 : decode cX5_needSign 17 = .ok (.invokevirtual 76, 3) := by decide +kernel
theorem dX5_needSign_20 : decode cX5_needSign 20 = .ok (.return_, 1) := by decide +kernel
theorem dX5_needNumber_0 : decode cX5_needNumber 0 = .ok (.aload_n 0, 1) := by decide +kernel
theorem dX5_needNumber_1 : decode cX5_needNumber 1 = .ok (.getfield 12, 3) := by decide +kernel
theorem dX5_needNumber_4 : decode cX5_needNumber 4 = .ok (.aload_n 0, 1) := by decide +kernel
theorem dX5_needNumber_5 : decode cX5_needNumber 5 = .ok (.getfield 32, 3) := by decide +kernel
theorem dX5_needNumber_8 : decode cX5_needNumber 8 = .ok (.invokevirtual 79, 3) := by decide +kernel
theorem dX5_needNumber_11 : decode cX5_needNumber 11 = .ok (.istore_n 3, 1) := by decide +kernel
theorem dX5_needNumber_12 : decode cX5_needNumber 12 = .ok (.aload_n 0, 1) := by decide +kernel
theorem dX5_needNumber_13 : decode cX5_needNumber 13 = .ok (.invokevirtual 82, 3) := by decide +kernel
theorem dX5_needNumber_16 : decode cX5_needNumber 16 = .ok (.ifCond .ne 10, 3) := by decide +kernel
theorem dX5_needNumber_19 : decode cX5_needNumber 19 = .ok (.aload_n 0, 1) := by decide +kernel
theorem dX5_needNumber_20 : decode cX5_needNumber 20 = .ok (.iconst 1, 1) := by decide +kernel
theorem dX5_needNumber_21 : decode cX5_needNumber 21 = .ok (.invokevirtual 76, 3) := by decide +kernel
theorem dX5_needNumber_24 : decode cX5_needNumber 24 = .ok (.iload_n 1, 1) := by decide +kernel
theorem dX5_needNumber_25 : decode cX5_needNumber 25 = .ok (.ireturn, 1) := by decide +kernel
theorem dX5_needNumber_26 : decode cX5_needNumber 26 = .ok (.aload_n 0, 1) := by decide +kernel
theorem dX5_needNumber_27 : decode cX5_needNumber 27 = .ok (.getfield 36, 3) := by decide +kernel
theorem dX5_needNumber_30 : decode cX5_needNumber 30 = .ok (.iconst 2, 1) := by decide +kernel
theorem dX5_needNumber_31 : decode cX5_needNumber 31 = .ok (.if_icmp .eq 13, 3) := by decide +kernel
theorem dX5_needNumber_34 : decode cX5_needNumber 34 = .ok (.iload_n 3, 1) := by decide +kernel
theorem dX5_needNumber_35 : decode cX5_needNumber 35 = .ok (.iload_n 1, 1) := by decide +kernel
theorem dX5_needNumber_36 : decode cX5_needNumber 36 = .ok (.if_icmp .lt 8, 3) := by decide +kernel
theorem dX5_needNumber_39 : decode cX5_needNumber 39 = .ok (.iload_n 3, 1) := by decide +kernel
theorem dX5_needNumber_40 : decode cX5_needNumber 40 = .ok (.iload_n 2, 1) := by decide +kernel
theorem dX5_needNumber_41 : decode cX5_needNumber 41 = .ok (.if_icmp .le 10, 3) := by decide +kernel
theorem dX5_needNumber_44 : decode cX5_needNumber 44 = .ok (.aload_n 0, 1) := by decide +kernel
theorem dX5_needNumber_45 : decode cX5_needNumber 45 = .ok (.iconst 2, 1) := by decide +kernel
theorem dX5_needNumber_46 : decode cX5_needNumber 46 = .ok (.invokevirtual 76, 3) := by decide +kernel
theorem dX5_needNumber_49 : decode cX5_needNumber 49 = .ok (.iload_n 1, 1) := by decide +kernel
theorem dX5_needNumber_50 : decode cX5_needNumber 50 = .ok (.ireturn, 1) := by decide +kernel
theorem dX5_needNumber_51 : decode cX5_needNumber 51 = .ok (.aload_n 0, 1) := by decide +kernel
theorem dX5_needNumber_52 : decode cX5_needNumber 52 = .ok (.invokevirtual 73, 3) := by decide +kernel
theorem dX5_needNumber_55 : decode cX5_needNumber 55 = .ok (.iload_n 3, 1) := by decide +kernel
theorem dX5_needNumber_56 : decode cX5_needNumber 56 = .ok (.ireturn, 1) := by decide +kernel
theorem dX5_readLine_0 : decode cX5_readLine 0 = .ok (.aload_n 0, 1) := by decide +kernel
theorem dX5_readLine_1 : decode cX5_readLine 1 = .ok (.getfield 36, 3) := by decide +kernel
theorem dX5_readLine_4 : decode cX5_readLine 4 = .ok (.tableswitch 98 100 105 #[40, 47, 55, 63, 70, 84], 40) := by decide +kernel
theorem dX5_readLine_44 : decode cX5_readLine 44 = .ok (.aload_n 0, 1) := by decide +kernel
theorem dX5_readLine_45 : decode cX5_readLine 45 = .ok (.invokevirtual 86, 3) := by decide +kernel
theorem dX5_readLine_48 : decode cX5_readLine 48 = .ok (.goto 59, 3) := by decide +kernel
theorem dX5_readLine_51 : decode cX5_readLine 51 = .ok (.aload_n 0, 1) := by decide +kernel
theorem dX5_readLine_52 : decode cX5_readLine 52 = .ok (.iconst 0, 1) := by decide +kernel
theorem dX5_readLine_53 : decode cX5_readLine 53 = .ok (.invokevirtual 89, 3) := by decide +kernel
theorem dX5_readLine_56 : decode cX5_readLine 56 = .ok (.goto 51, 3) := by decide +kernel
theorem dX5_readLine_59 : decode cX5_readLine 59 = .ok (.aload_n 0, 1) := by decide +kernel
theorem dX5_readLine_60 : decode cX5_readLine 60 = .ok (.iconst 1, 1) := by decide +kernel
theorem dX5_readLine_61 : decode cX5_readLine 61 = .ok (.invokevirtual 89, 3) := by decide +kernel
theorem dX5_readLine_64 : decode cX5_readLine 64 = .ok (.goto 43, 3) := by decide +kernel
theorem dX5_readLine_67 : decode cX5_readLine 67 = .ok (.aload_n 0, 1) := by decide +kernel
theorem dX5_readLine_68 : decode cX5_readLine 68 = .ok (.invokevirtual 93, 3) := by decide +kernel
theorem dX5_readLine_71 : decode cX5_readLine 71 = .ok (.goto 36, 3) := by decide +kernel
theorem dX5_readLine_74 : decode cX5_readLine 74 = .ok (.aload_n 0, 1) := by decide +kernel
theorem dX5_readLine_75 : decode cX5_readLine 75 = .ok (.aload_n 0, 1) := by decide +kernel
theorem dX5_readLine_76 : decode cX5_readLine 76 = .ok (.getfield 21, 3) := by decide +kernel
theorem dX5_readLine_79 : decode cX5_readLine 79 = .ok (.getfield 25, 3) := by decide +kernel
theorem dX5_readLine_82 : decode cX5_readLine 82 = .ok (.invokevirtual 96, 3) := by decide +kernel
theorem dX5_readLine_85 : decode cX5_readLine 85 = .ok (.goto 22, 3) := by decide +kernel
theorem dX5_readLine_88 : decode cX5_readLine 88 = .ok (.aload_n 0, 1) := by decide +kernel
theorem dX5_readLine_89 : decode cX5_readLine 89 = .ok (.aload_n 0, 1) := by decide +kernel
theorem dX5_readLine_90 : decode cX5_readLine 90 = .ok (.getfield 21, 3) := by decide +kernel
theorem dX5_readLine_93 : decode cX5_readLine 93 = .ok (.getfield 100, 3) := by decide +kernel
theorem dX5_readLine_96 : decode cX5_readLine 96 = .ok (.invokevirtual 96, 3) := by decide +kernel
theorem dX5_readLine_99 : decode cX5_readLine 99 = .ok (.goto 8, 3) := by decide +kernel
theorem dX5_readLine_102 : decode cX5_readLine 102 = .ok (.aload_n 0, 1) := by decide +kernel
theorem dX5_readLine_103 : decode cX5_readLine 103 = .ok (.iconst 1, 1) := by decide +kernel
theorem dX5_readLine_104 : decode cX5_readLine 104 = .ok (.invokevirtual 76, 3) := by decide +kernel
theorem dX5_readLine_107 : decode cX5_readLine 107 = .ok (.return_, 1) := by decide +kernel
theorem dX5_readCorners_0 : decode cX5_readCorners 0 = .ok (.aload_n 0, 1) := by decide +kernel
theorem dX5_readCorners_1 : decode cX5_readCorners 1 = .ok (.getfield 21, 3) := by decide +kernel
theorem dX5_readCorners_4 : decode cX5_readCorners 4 = .ok (.getfield 103, 3) := by decide +kernel
theorem dX5_readCorners_7 : decode cX5_readCorners 7 = .ok (.ifCond .le 11, 3) := by decide +kernel
theorem dX5_readCorners_10 : decode cX5_readCorners 10 = .ok (.aload_n 0, 1) := by decide +kernel
theorem dX5_readCorners_11 : decode cX5_readCorners 11 = .ok (.iconst 4, 1) := by decide +kernel
theorem dX5_readCorners_12 : decode cX5_readCorners 12 = .ok (.invokevirtual 76, 3) := by decide +kernel
theorem dX5_readCorners_15 : decode cX5_readCorners 15 = .ok (.goto 41, 3) := by decide +kernel
theorem dX5_readCorners_18 : decode cX5_readCorners 18 = .ok (.aload_n 0, 1) := by decide +kernel
theorem dX5_readCorners_19 : decode cX5_readCorners 19 = .ok (.getfield 45, 3) := by decide +kernel
theorem dX5_readCorners_22 : decode cX5_readCorners 22 = .ok (.ifCond .eq 11, 3) := by decide +kernel
theorem dX5_readCorners_25 : decode cX5_readCorners 25 = .ok (.aload_n 0, 1) := by decide +kernel
theorem dX5_readCorners_26 : decode cX5_readCorners 26 = .ok (.iconst 5, 1) := by decide +kernel
theorem dX5_readCorners_27 : decode cX5_readCorners 27 = .ok (.invokevirtual 76, 3) := by decide +kernel
theorem dX5_readCorners_30 : decode cX5_readCorners 30 = .ok (.goto 26, 3) := by decide +kernel
theorem dX5_readCorners_33 : decode cX5_readCorners 33 = .ok (.aload_n 0, 1) := by decide +kernel
theorem dX5_readCorners_34 : decode cX5_readCorners 34 = .ok (.iconst 1, 1) := by decide +kernel
theorem dX5_readCorners_35 : decode cX5_readCorners 35 = .ok (.putfield 45, 3) := by decide +kernel
theorem dX5_readCorners_38 : decode cX5_readCorners 38 = .ok (.aload_n 0, 1) := by decide +kernel
theorem dX5_readCorners_39 : decode cX5_readCorners 39 = .ok (.invokevirtual 73, 3) := by decide +kernel
theorem dX5_readCorners_42 : decode cX5_readCorners 42 = .ok (.aload_n 0, 1) := by decide +kernel
theorem dX5_readCorners_43 : decode cX5_readCorners 43 = .ok (.getfield 21, 3) := by decide +kernel
theorem dX5_readCorners_46 : decode cX5_readCorners 46 = .ok (.aload_n 0, 1) := by decide +kernel
theorem dX5_readCorners_47 : decode cX5_readCorners 47 = .ok (.iconst 2, 1) := by decide +kernel
theorem dX5_readCorners_48 : decode cX5_readCorners 48 = .ok (.bipush 6, 2) := by decide +kernel
theorem dX5_readCorners_50 : decode cX5_readCorners 50 = .ok (.invokevirtual 106, 3) := by decide +kernel
theorem dX5_readCorners_53 : decode cX5_readCorners 53 = .ok (.putfield 110, 3) := by decide +kernel
theorem dX5_readCorners_56 : decode cX5_readCorners 56 = .ok (.return_, 1) := by decide +kernel
theorem dX5_readClock_0 : decode cX5_readClock 0 = .ok (.aload_n 0, 1) := by decide +kernel
theorem dX5_readClock_1 : decode cX5_readClock 1 = .ok (.getfield 49, 3) := by decide +kernel
theorem dX5_readClock_4 : decode cX5_readClock 4 = .ok (.ifCond .eq 11, 3) := by decide +kernel
theorem dX5_readClock_7 : decode cX5_readClock 7 = .ok (.aload_n 0, 1) := by decide +kernel
theorem dX5_readClock_8 : decode cX5_readClock 8 = .ok (.iconst 5, 1) := by decide +kernel
theorem dX5_readClock_9 : decode cX5_readClock 9 = .ok (.invokevirtual 76, 3) := by decide +kernel
theorem dX5_readClock_12 : decode cX5_readClock 12 = .ok (.goto 26, 3) := by decide +kernel
theorem dX5_readClock_15 : decode cX5_readClock 15 = .ok (.aload_n 0, 1) := by decide +kernel
theorem dX5_readClock_16 : decode cX5_readClock 16 = .ok (.iconst 1, 1) := by decide +kernel
theorem dX5_readClock_17 : decode cX5_readClock 17 = .ok (.putfield 49, 3) := by decide +kernel
theorem dX5_readClock_20 : decode cX5_readClock 20 = .ok (.aload_n 0, 1) := by decide +kernel
theorem dX5_readClock_21 : decode cX5_readClock 21 = .ok (.invokevirtual 73, 3) := by decide +kernel
theorem dX5_readClock_24 : decode cX5_readClock 24 = .ok (.aload_n 0, 1) := by decide +kernel
theorem dX5_readClock_25 : decode cX5_readClock 25 = .ok (.getfield 21, 3) := by decide +kernel
theorem dX5_readClock_28 : decode cX5_readClock 28 = .ok (.aload_n 0, 1) := by decide +kernel
theorem dX5_readClock_29 : decode cX5_readClock 29 = .ok (.iconst 0, 1) := by decide +kernel
theorem dX5_readClock_30 : decode cX5_readClock 30 = .ok (.bipush 59, 2) := by decide +kernel
theorem dX5_readClock_32 : decode cX5_readClock 32 = .ok (.invokevirtual 106, 3) := by decide +kernel
theorem dX5_readClock_35 : decode cX5_readClock 35 = .ok (.putfield 113, 3) := by decide +kernel
theorem dX5_readClock_38 : decode cX5_readClock 38 = .ok (.return_, 1) := by decide +kernel
theorem dX5_readPerson_0 : decode cX5_readPerson 0 = .ok (.aload_n 0, 1) := by decide +kernel
theorem dX5_readPerson_1 : decode cX5_readPerson 1 = .ok (.getfield 21, 3) := by decide +kernel
theorem dX5_readPerson_4 : decode cX5_readPerson 4 = .ok (.invokevirtual 116, 3) := by decide +kernel
theorem dX5_readPerson_7 : decode cX5_readPerson 7 = .ok (.ifCond .ne 9, 3) := by decide +kernel
theorem dX5_readPerson_10 : decode cX5_readPerson 10 = .ok (.aload_n 0, 1) := by decide +kernel
theorem dX5_readPerson_11 : decode cX5_readPerson 11 = .ok (.iconst 2, 1) := by decide +kernel
theorem dX5_readPerson_12 : decode cX5_readPerson 12 = .ok (.invokevirtual 76, 3) := by decide +kernel
theorem dX5_readPerson_15 : decode cX5_readPerson 15 = .ok (.return_, 1) := by decide +kernel
theorem dX5_readPerson_16 : decode cX5_readPerson 16 = .ok (.aload_n 0, 1) := by decide +kernel
theorem dX5_readPerson_17 : decode cX5_readPerson 17 = .ok (.invokevirtual 73, 3) := by decide +kernel
theorem dX5_readPerson_20 : decode cX5_readPerson 20 = .ok (.aload_n 0, 1) := by decide +kernel
theorem dX5_readPerson_21 : decode cX5_readPerson 21 = .ok (.iconst 0, 1) := by decide +kernel
theorem dX5_readPerson_22 : decode cX5_readPerson 22 = .ok (.sipush 999, 3) := by decide +kernel
theorem dX5_readPerson_25 : decode cX5_readPerson 25 = .ok (.invokevirtual 106, 3) := by decide +kernel
theorem dX5_readPerson_28 : decode cX5_readPerson 28 = .ok (.istore_n 2, 1) := by decide +kernel
theorem dX5_readPerson_29 : decode cX5_readPerson 29 = .ok (.aload_n 0, 1) := by decide +kernel
theorem dX5_readPerson_30 : decode cX5_readPerson 30 = .ok (.iconst 0, 1) := by decide +kernel
theorem dX5_readPerson_31 : decode cX5_readPerson 31 = .ok (.bipush 59, 2) := by decide +kernel
theorem dX5_readPerson_33 : decode cX5_readPerson 33 = .ok (.invokevirtual 106, 3) := by decide +kernel
theorem dX5_readPerson_36 : decode cX5_readPerson 36 = .ok (.istore_n 3, 1) := by decide +kernel
theorem dX5_readPerson_37 : decode cX5_readPerson 37 = .ok (.aload_n 0, 1) := by decide +kernel
theorem dX5_readPerson_38 : decode cX5_readPerson 38 = .ok (.iconst 0, 1) := by decide +kernel
theorem dX5_readPerson_39 : decode cX5_readPerson 39 = .ok (.bipush 9, 2) := by decide +kernel
theorem dX5_readPerson_41 : decode cX5_readPerson 41 = .ok (.invokevirtual 106, 3) := by decide +kernel
theorem dX5_readPerson_44 : decode cX5_readPerson 44 = .ok (.istore 4, 2) := by decide +kernel
theorem dX5_readPerson_46 : decode cX5_readPerson 46 = .ok (.aload_n 0, 1) := by decide +kernel
theorem dX5_readPerson_47 : decode cX5_readPerson 47 = .ok (.iconst 0, 1) := by decide +kernel
theorem dX5_readPerson_48 : decode cX5_readPerson 48 = .ok (.invokevirtual 119, 3) := by decide +kernel
theorem dX5_readPerson_51 : decode cX5_readPerson 51 = .ok (.iconst 1, 1) := by decide +kernel
theorem dX5_readPerson_52 : decode cX5_readPerson 52 = .ok (.istore 5, 2) := by decide +kernel
theorem dX5_readPerson_54 : decode cX5_readPerson 54 = .ok (.iload 5, 2) := by decide +kernel
theorem dX5_readPerson_56 : decode cX5_readPerson 56 = .ok (.bipush 6, 2) := by decide +kernel
theorem dX5_readPerson_58 : decode cX5_readPerson 58 = .ok (.if_icmp .gt 22, 3) := by decide +kernel
theorem dX5_readPerson_61 : decode cX5_readPerson 61 = .ok (.aload_n 0, 1) := by decide +kernel
theorem dX5_readPerson_62 : decode cX5_readPerson 62 = .ok (.invokevirtual 82, 3) := by decide +kernel
theorem dX5_readPerson_65 : decode cX5_readPerson 65 = .ok (.ifCond .eq 15, 3) := by decide +kernel
theorem dX5_readPerson_68 : decode cX5_readPerson 68 = .ok (.aload_n 0, 1) := by decide +kernel
theorem dX5_readPerson_69 : decode cX5_readPerson 69 = .ok (.iload 5, 2) := by decide +kernel
theorem dX5_readPerson_71 : decode cX5_readPerson 71 = .ok (.invokevirtual 119, 3) := by decide +kernel
theorem dX5_readPerson_74 : decode cX5_readPerson 74 = .ok (.iinc 5 1, 3) := by decide +kernel
theorem dX5_readPerson_77 : decode cX5_readPerson 77 = .ok (.goto (-23), 3) := by decide +kernel
theorem dX5_readPerson_80 : decode cX5_readPerson 80 = .ok (.aload_n 0, 1) := by decide +kernel
theorem dX5_readPerson_81 : decode cX5_readPerson 81 = .ok (.getfield 21, 3) := by decide +kernel
theorem dX5_readPerson_84 : decode cX5_readPerson 84 = .ok (.iload_n 2, 1) := by decide +kernel
theorem dX5_readPerson_85 : decode cX5_readPerson 85 = .ok (.iload_n 3, 1) := by decide +kernel
theorem dX5_readPerson_86 : decode cX5_readPerson 86 = .ok (.iload 4, 2) := by decide +kernel
theorem dX5_readPerson_88 : decode cX5_readPerson 88 = .ok (.iload_n 1, 1) := by decide +kernel
theorem dX5_readPerson_89 : decode cX5_readPerson 89 = .ok (.invokevirtual 122, 3) := by decide +kernel
theorem dX5_readPerson_92 : decode cX5_readPerson 92 = .ok (.return_, 1) := by decide +kernel
theorem dX5_needCorner_0 : decode cX5_needCorner 0 = .ok (.aload_n 0, 1) := by decide +kernel
theorem dX5_needCorner_1 : decode cX5_needCorner 1 = .ok (.getfield 12, 3) := by decide +kernel
theorem dX5_needCorner_4 : decode cX5_needCorner 4 = .ok (.aload_n 0, 1) := by decide +kernel
theorem dX5_needCorner_5 : decode cX5_needCorner 5 = .ok (.getfield 32, 3) := by decide +kernel
theorem dX5_needCorner_8 : decode cX5_needCorner 8 = .ok (.invokevirtual 79, 3) := by decide +kernel
theorem dX5_needCorner_11 : decode cX5_needCorner 11 = .ok (.istore_n 2, 1) := by decide +kernel
theorem dX5_needCorner_12 : decode cX5_needCorner 12 = .ok (.aload_n 0, 1) := by decide +kernel
theorem dX5_needCorner_13 : decode cX5_needCorner 13 = .ok (.invokevirtual 82, 3) := by decide +kernel
theorem dX5_needCorner_16 : decode cX5_needCorner 16 = .ok (.ifCond .ne 11, 3) := by decide +kernel
theorem dX5_needCorner_19 : decode cX5_needCorner 19 = .ok (.aload_n 0, 1) := by decide +kernel
theorem dX5_needCorner_20 : decode cX5_needCorner 20 = .ok (.iconst 1, 1) := by decide +kernel
theorem dX5_needCorner_21 : decode cX5_needCorner 21 = .ok (.invokevirtual 76, 3) := by decide +kernel
theorem dX5_needCorner_24 : decode cX5_needCorner 24 = .ok (.goto 56, 3) := by decide +kernel
theorem dX5_needCorner_27 : decode cX5_needCorner 27 = .ok (.aload_n 0, 1) := by decide +kernel
theorem dX5_needCorner_28 : decode cX5_needCorner 28 = .ok (.getfield 36, 3) := by decide +kernel
theorem dX5_needCorner_31 : decode cX5_needCorner 31 = .ok (.iconst 2, 1) := by decide +kernel
theorem dX5_needCorner_32 : decode cX5_needCorner 32 = .ok (.if_icmp .eq 9, 3) := by decide +kernel
theorem dX5_needCorner_35 : decode cX5_needCorner 35 = .ok (.iload_n 1, 1) := by decide +kernel
theorem dX5_needCorner_36 : decode cX5_needCorner 36 = .ok (.bipush 6, 2) := by decide +kernel
theorem dX5_needCorner_38 : decode cX5_needCorner 38 = .ok (.if_icmp .lt 11, 3) := by decide +kernel
theorem dX5_needCorner_41 : decode cX5_needCorner 41 = .ok (.aload_n 0, 1) := by decide +kernel
theorem dX5_needCorner_42 : decode cX5_needCorner 42 = .ok (.iconst 2, 1) := by decide +kernel
theorem dX5_needCorner_43 : decode cX5_needCorner 43 = .ok (.invokevirtual 76, 3) := by decide +kernel
theorem dX5_needCorner_46 : decode cX5_needCorner 46 = .ok (.goto 34, 3) := by decide +kernel
theorem dX5_needCorner_49 : decode cX5_needCorner 49 = .ok (.iload_n 2, 1) := by decide +kernel
theorem dX5_needCorner_50 : decode cX5_needCorner 50 = .ok (.aload_n 0, 1) := by decide +kernel
theorem dX5_needCorner_51 : decode cX5_needCorner 51 = .ok (.getfield 21, 3) := by decide +kernel
theorem dX5_needCorner_54 : decode cX5_needCorner 54 = .ok (.getfield 110, 3) := by decide +kernel
theorem dX5_needCorner_57 : decode cX5_needCorner 57 = .ok (.if_icmp .lt 11, 3) := by decide +kernel
theorem dX5_needCorner_60 : decode cX5_needCorner 60 = .ok (.aload_n 0, 1) := by decide +kernel
theorem dX5_needCorner_61 : decode cX5_needCorner 61 = .ok (.iconst 3, 1) := by decide +kernel
theorem dX5_needCorner_62 : decode cX5_needCorner 62 = .ok (.invokevirtual 76, 3) := by decide +kernel
theorem dX5_needCorner_65 : decode cX5_needCorner 65 = .ok (.goto 15, 3) := by decide +kernel
theorem dX5_needCorner_68 : decode cX5_needCorner 68 = .ok (.aload_n 0, 1) := by decide +kernel
theorem dX5_needCorner_69 : decode cX5_needCorner 69 = .ok (.getfield 21, 3) := by decide +kernel
theorem dX5_needCorner_72 : decode cX5_needCorner 72 = .ok (.iload_n 2, 1) := by decide +kernel
theorem dX5_needCorner_73 : decode cX5_needCorner 73 = .ok (.invokevirtual 126, 3) := by decide +kernel
theorem dX5_needCorner_76 : decode cX5_needCorner 76 = .ok (.aload_n 0, 1) := by decide +kernel
theorem dX5_needCorner_77 : decode cX5_needCorner 77 = .ok (.invokevirtual 73, 3) := by decide +kernel
theorem dX5_needCorner_80 : decode cX5_needCorner 80 = .ok (.return_, 1) := by decide +kernel
theorem dX5_readRule_0 : decode cX5_readRule 0 = .ok (.aload_n 1, 1) := by decide +kernel
theorem dX5_readRule_1 : decode cX5_readRule 1 = .ok (.invokevirtual 129, 3) := by decide +kernel
theorem dX5_readRule_4 : decode cX5_readRule 4 = .ok (.ifCond .eq 9, 3) := by decide +kernel
theorem dX5_readRule_7 : decode cX5_readRule 7 = .ok (.aload_n 0, 1) := by decide +kernel
theorem dX5_readRule_8 : decode cX5_readRule 8 = .ok (.iconst 5, 1) := by decide +kernel
theorem dX5_readRule_9 : decode cX5_readRule 9 = .ok (.invokevirtual 76, 3) := by decide +kernel
theorem dX5_readRule_12 : decode cX5_readRule 12 = .ok (.return_, 1) := by decide +kernel
theorem dX5_readRule_13 : decode cX5_readRule 13 = .ok (.aload_n 0, 1) := by decide +kernel
theorem dX5_readRule_14 : decode cX5_readRule 14 = .ok (.aload_n 1, 1) := by decide +kernel
theorem dX5_readRule_15 : decode cX5_readRule 15 = .ok (.putfield 29, 3) := by decide +kernel
theorem dX5_readRule_18 : decode cX5_readRule 18 = .ok (.aload_n 0, 1) := by decide +kernel
theorem dX5_readRule_19 : decode cX5_readRule 19 = .ok (.invokevirtual 73, 3) := by decide +kernel
theorem dX5_readRule_22 : decode cX5_readRule 22 = .ok (.aload_n 0, 1) := by decide +kernel
theorem dX5_readRule_23 : decode cX5_readRule 23 = .ok (.iconst 0, 1) := by decide +kernel
theorem dX5_readRule_24 : decode cX5_readRule 24 = .ok (.invokevirtual 134, 3) := by decide +kernel
theorem dX5_readRule_27 : decode cX5_readRule 27 = .ok (.return_, 1) := by decide +kernel
theorem dX5_readOr_0 : decode cX5_readOr 0 = .ok (.iload_n 1, 1) := by decide +kernel
theorem dX5_readOr_1 : decode cX5_readOr 1 = .ok (.bipush 6, 2) := by decide +kernel
theorem dX5_readOr_3 : decode cX5_readOr 3 = .ok (.if_icmp .lt 36, 3) := by decide +kernel
theorem dX5_readOr_6 : decode cX5_readOr 6 = .ok (.aload_n 0, 1) := by decide +kernel
theorem dX5_readOr_7 : decode cX5_readOr 7 = .ok (.aload_n 0, 1) := by decide +kernel
theorem dX5_readOr_8 : decode cX5_readOr 8 = .ok (.invokevirtual 82, 3) := by decide +kernel
theorem dX5_readOr_11 : decode cX5_readOr 11 = .ok (.ifCond .ne 19, 3) := by decide +kernel
theorem dX5_readOr_14 : decode cX5_readOr 14 = .ok (.aload_n 0, 1) := by decide +kernel
theorem dX5_readOr_15 : decode cX5_readOr 15 = .ok (.invokevirtual 137, 3) := by decide +kernel
theorem dX5_readOr_18 : decode cX5_readOr 18 = .ok (.ifCond .ne 12, 3) := by decide +kernel
theorem dX5_readOr_21 : decode cX5_readOr 21 = .ok (.aload_n 0, 1) := by decide +kernel
theorem dX5_readOr_22 : decode cX5_readOr 22 = .ok (.getfield 36, 3) := by decide +kernel
theorem dX5_readOr_25 : decode cX5_readOr 25 = .ok (.bipush 40, 2) := by decide +kernel
theorem dX5_readOr_27 : decode cX5_readOr 27 = .ok (.if_icmp .ne 7, 3) := by decide +kernel
theorem dX5_readOr_30 : decode cX5_readOr 30 = .ok (.iconst 2, 1) := by decide +kernel
theorem dX5_readOr_31 : decode cX5_readOr 31 = .ok (.goto 4, 3) := by decide +kernel
theorem dX5_readOr_34 : decode cX5_readOr 34 = .ok (.iconst 1, 1) := by decide +kernel
theorem dX5_readOr_35 : decode cX5_readOr 35 = .ok (.invokevirtual 76, 3) := by decide +kernel
theorem dX5_readOr_38 : decode cX5_readOr 38 = .ok (.return_, 1) := by decide +kernel
theorem dX5_readOr_39 : decode cX5_readOr 39 = .ok (.aload_n 0, 1) := by decide +kernel
theorem dX5_readOr_40 : decode cX5_readOr 40 = .ok (.iload_n 1, 1) := by decide +kernel
theorem dX5_readOr_41 : decode cX5_readOr 41 = .ok (.invokevirtual 140, 3) := by decide +kernel
theorem dX5_readOr_44 : decode cX5_readOr 44 = .ok (.iconst 0, 1) := by decide +kernel
theorem dX5_readOr_45 : decode cX5_readOr 45 = .ok (.istore_n 2, 1) := by decide +kernel
theorem dX5_readOr_46 : decode cX5_readOr 46 = .ok (.iload_n 2, 1) := by decide +kernel
theorem dX5_readOr_47 : decode cX5_readOr 47 = .ok (.sipush 700, 3) := by decide +kernel
theorem dX5_readOr_50 : decode cX5_readOr 50 = .ok (.if_icmp .ge 36, 3) := by decide +kernel
theorem dX5_readOr_53 : decode cX5_readOr 53 = .ok (.aload_n 0, 1) := by decide +kernel
theorem dX5_readOr_54 : decode cX5_readOr 54 = .ok (.getfield 36, 3) := by decide +kernel
theorem dX5_readOr_57 : decode cX5_readOr 57 = .ok (.bipush 106, 2) := by decide +kernel
theorem dX5_readOr_59 : decode cX5_readOr 59 = .ok (.if_icmp .ne 27, 3) := by decide +kernel
theorem dX5_readOr_62 : decode cX5_readOr 62 = .ok (.aload_n 0, 1) := by decide +kernel
theorem dX5_readOr_63 : decode cX5_readOr 63 = .ok (.invokevirtual 73, 3) := by decide +kernel
theorem dX5_readOr_66 : decode cX5_readOr 66 = .ok (.aload_n 0, 1) := by decide +kernel
theorem dX5_readOr_67 : decode cX5_readOr 67 = .ok (.iload_n 1, 1) := by decide +kernel
theorem dX5_readOr_68 : decode cX5_readOr 68 = .ok (.invokevirtual 140, 3) := by decide +kernel
theorem dX5_readOr_71 : decode cX5_readOr 71 = .ok (.aload_n 0, 1) := by decide +kernel
theorem dX5_readOr_72 : decode cX5_readOr 72 = .ok (.getfield 29, 3) := by decide +kernel
theorem dX5_readOr_75 : decode cX5_readOr 75 = .ok (.bipush 106, 2) := by decide +kernel
theorem dX5_readOr_77 : decode cX5_readOr 77 = .ok (.invokevirtual 143, 3) := by decide +kernel
theorem dX5_readOr_80 : decode cX5_readOr 80 = .ok (.iinc 2 1, 3) := by decide +kernel
theorem dX5_readOr_83 : decode cX5_readOr 83 = .ok (.goto (-37), 3) := by decide +kernel
theorem dX5_readOr_86 : decode cX5_readOr 86 = .ok (.return_, 1) := by decide +kernel
theorem dX5_readAnd_0 : decode cX5_readAnd 0 = .ok (.aload_n 0, 1) := by decide +kernel
theorem dX5_readAnd_1 : decode cX5_readAnd 1 = .ok (.iload_n 1, 1) := by decide +kernel
theorem dX5_readAnd_2 : decode cX5_readAnd 2 = .ok (.invokevirtual 146, 3) := by decide +kernel
theorem dX5_readAnd_5 : decode cX5_readAnd 5 = .ok (.iconst 0, 1) := by decide +kernel
theorem dX5_readAnd_6 : decode cX5_readAnd 6 = .ok (.istore_n 2, 1) := by decide +kernel
theorem dX5_readAnd_7 : decode cX5_readAnd 7 = .ok (.iload_n 2, 1) := by decide +kernel
theorem dX5_readAnd_8 : decode cX5_readAnd 8 = .ok (.sipush 700, 3) := by decide +kernel
theorem dX5_readAnd_11 : decode cX5_readAnd 11 = .ok (.if_icmp .ge 36, 3) := by decide +kernel
theorem dX5_readAnd_14 : decode cX5_readAnd 14 = .ok (.aload_n 0, 1) := by decide +kernel
theorem dX5_readAnd_15 : decode cX5_readAnd 15 = .ok (.getfield 36, 3) := by decide +kernel
theorem dX5_readAnd_18 : decode cX5_readAnd 18 = .ok (.bipush 107, 2) := by decide +kernel
theorem dX5_readAnd_20 : decode cX5_readAnd 20 = .ok (.if_icmp .ne 27, 3) := by decide +kernel
theorem dX5_readAnd_23 : decode cX5_readAnd 23 = .ok (.aload_n 0, 1) := by decide +kernel
theorem dX5_readAnd_24 : decode cX5_readAnd 24 = .ok (.invokevirtual 73, 3) := by decide +kernel
theorem dX5_readAnd_27 : decode cX5_readAnd 27 = .ok (.aload_n 0, 1) := by decide +kernel
theorem dX5_readAnd_28 : decode cX5_readAnd 28 = .ok (.iload_n 1, 1) := by decide +kernel
theorem dX5_readAnd_29 : decode cX5_readAnd 29 = .ok (.invokevirtual 146, 3) := by decide +kernel
theorem dX5_readAnd_32 : decode cX5_readAnd 32 = .ok (.aload_n 0, 1) := by decide +kernel
theorem dX5_readAnd_33 : decode cX5_readAnd 33 = .ok (.getfield 29, 3) := by decide +kernel
theorem dX5_readAnd_36 : decode cX5_readAnd 36 = .ok (.bipush 107, 2) := by decide +kernel
theorem dX5_readAnd_38 : decode cX5_readAnd 38 = .ok (.invokevirtual 143, 3) := by decide +kernel
theorem dX5_readAnd_41 : decode cX5_readAnd 41 = .ok (.iinc 2 1, 3) := by decide +kernel
theorem dX5_readAnd_44 : decode cX5_readAnd 44 = .ok (.goto (-37), 3) := by decide +kernel
theorem dX5_readAnd_47 : decode cX5_readAnd 47 = .ok (.return_, 1) := by decide +kernel
theorem dX5_readNot_0 : decode cX5_readNot 0 = .ok (.iconst 0, 1) := by decide +kernel
theorem dX5_readNot_1 : decode cX5_readNot 1 = .ok (.istore_n 2, 1) := by decide +kernel
theorem dX5_readNot_2 : decode cX5_readNot 2 = .ok (.iload_n 2, 1) := by decide +kernel
theorem dX5_readNot_3 : decode cX5_readNot 3 = .ok (.bipush 6, 2) := by decide +kernel
theorem dX5_readNot_5 : decode cX5_readNot 5 = .ok (.if_icmp .ge 22, 3) := by decide +kernel
theorem dX5_readNot_8 : decode cX5_readNot 8 = .ok (.aload_n 0, 1) := by decide +kernel
theorem dX5_readNot_9 : decode cX5_readNot 9 = .ok (.getfield 36, 3) := by decide +kernel
theorem dX5_readNot_12 : decode cX5_readNot 12 = .ok (.bipush 108, 2) := by decide +kernel
theorem dX5_readNot_14 : decode cX5_readNot 14 = .ok (.if_icmp .ne 13, 3) := by decide +kernel
theorem dX5_readNot_17 : decode cX5_readNot 17 = .ok (.aload_n 0, 1) := by decide +kernel
theorem dX5_readNot_18 : decode cX5_readNot 18 = .ok (.invokevirtual 73, 3) := by decide +kernel
theorem dX5_readNot_21 : decode cX5_readNot 21 = .ok (.iinc 2 1, 3) := by decide +kernel
theorem dX5_readNot_24 : decode cX5_readNot 24 = .ok (.goto (-22), 3) := by decide +kernel
theorem dX5_readNot_27 : decode cX5_readNot 27 = .ok (.aload_n 0, 1) := by decide +kernel
theorem dX5_readNot_28 : decode cX5_readNot 28 = .ok (.getfield 36, 3) := by decide +kernel
theorem dX5_readNot_31 : decode cX5_readNot 31 = .ok (.bipush 108, 2) := by decide +kernel
theorem dX5_readNot_33 : decode cX5_readNot 33 = .ok (.if_icmp .ne 8, 3) := by decide +kernel
theorem dX5_readNot_36 : decode cX5_readNot 36 = .ok (.aload_n 0, 1) := by decide +kernel
theorem dX5_readNot_37 : decode cX5_readNot 37 = .ok (.iconst 2, 1) := by decide +kernel
theorem dX5_readNot_38 : decode cX5_readNot 38 = .ok (.invokevirtual 76, 3) := by decide +kernel
theorem dX5_readNot_41 : decode cX5_readNot 41 = .ok (.aload_n 0, 1) := by decide +kernel
theorem dX5_readNot_42 : decode cX5_readNot 42 = .ok (.iload_n 1, 1) := by decide +kernel
theorem dX5_readNot_43 : decode cX5_readNot 43 = .ok (.invokevirtual 149, 3) := by decide +kernel
theorem dX5_readNot_46 : decode cX5_readNot 46 = .ok (.iconst 0, 1) := by decide +kernel
theorem dX5_readNot_47 : decode cX5_readNot 47 = .ok (.istore_n 3, 1) := by decide +kernel
theorem dX5_readNot_48 : decode cX5_readNot 48 = .ok (.iload_n 3, 1) := by decide +kernel
theorem dX5_readNot_49 : decode cX5_readNot 49 = .ok (.iload_n 2, 1) := by decide +kernel
theorem dX5_readNot_50 : decode cX5_readNot 50 = .ok (.if_icmp .ge 18, 3) := by decide +kernel
theorem dX5_readNot_53 : decode cX5_readNot 53 = .ok (.aload_n 0, 1) := by decide +kernel
theorem dX5_readNot_54 : decode cX5_readNot 54 = .ok (.getfield 29, 3) := by decide +kernel
theorem dX5_readNot_57 : decode cX5_readNot 57 = .ok (.bipush 108, 2) := by decide +kernel
theorem dX5_readNot_59 : decode cX5_readNot 59 = .ok (.invokevirtual 143, 3) := by decide +kernel
theorem dX5_readNot_62 : decode cX5_readNot 62 = .ok (.iinc 3 1, 3) := by decide +kernel
theorem dX5_readNot_65 : decode cX5_readNot 65 = .ok (.goto (-17), 3) := by decide +kernel
theorem dX5_readNot_68 : decode cX5_readNot 68 = .ok (.return_, 1) := by decide +kernel
theorem dX5_readTest_0 : decode cX5_readTest 0 = .ok (.aload_n 0, 1) := by decide +kernel
theorem dX5_readTest_1 : decode cX5_readTest 1 = .ok (.iload_n 1, 1) := by decide +kernel
theorem dX5_readTest_2 : decode cX5_readTest 2 = .ok (.invokevirtual 152, 3) := by decide +kernel
theorem dX5_readTest_5 : decode cX5_readTest 5 = .ok (.aload_n 0, 1) := by decide +kernel
theorem dX5_readTest_6 : decode cX5_readTest 6 = .ok (.getfield 36, 3) := by decide +kernel
theorem dX5_readTest_9 : decode cX5_readTest 9 = .ok (.bipush 60, 2) := by decide +kernel
theorem dX5_readTest_11 : decode cX5_readTest 11 = .ok (.if_icmp .eq 12, 3) := by decide +kernel
theorem dX5_readTest_14 : decode cX5_readTest 14 = .ok (.aload_n 0, 1) := by decide +kernel
theorem dX5_readTest_15 : decode cX5_readTest 15 = .ok (.getfield 36, 3) := by decide +kernel
theorem dX5_readTest_18 : decode cX5_readTest 18 = .ok (.bipush 61, 2) := by decide +kernel
theorem dX5_readTest_20 : decode cX5_readTest 20 = .ok (.if_icmp .ne 25, 3) := by decide +kernel
theorem dX5_readTest_23 : decode cX5_readTest 23 = .ok (.aload_n 0, 1) := by decide +kernel
theorem dX5_readTest_24 : decode cX5_readTest 24 = .ok (.getfield 36, 3) := by decide +kernel
theorem dX5_readTest_27 : decode cX5_readTest 27 = .ok (.istore_n 2, 1) := by decide +kernel
theorem dX5_readTest_28 : decode cX5_readTest 28 = .ok (.aload_n 0, 1) := by decide +kernel
theorem dX5_readTest_29 : decode cX5_readTest 29 = .ok (.invokevirtual 73, 3) := by decide +kernel
theorem dX5_readTest_32 : decode cX5_readTest 32 = .ok (.aload_n 0, 1) := by decide +kernel
theorem dX5_readTest_33 : decode cX5_readTest 33 = .ok (.iload_n 1, 1) := by decide +kernel
theorem dX5_readTest_34 : decode cX5_readTest 34 = .ok (.invokevirtual 152, 3) := by decide +kernel
theorem dX5_readTest_37 : decode cX5_readTest 37 = .ok (.aload_n 0, 1) := by decide +kernel
theorem dX5_readTest_38 : decode cX5_readTest 38 = .ok (.getfield 29, 3) := by decide +kernel
theorem dX5_readTest_41 : decode cX5_readTest 41 = .ok (.iload_n 2, 1) := by decide +kernel
theorem dX5_readTest_42 : decode cX5_readTest 42 = .ok (.invokevirtual 143, 3) := by decide +kernel
theorem dX5_readTest_45 : decode cX5_readTest 45 = .ok (.return_, 1) := by decide +kernel
theorem dX5_readSum_0 : decode cX5_readSum 0 = .ok (.aload_n 0, 1) := by decide +kernel
theorem dX5_readSum_1 : decode cX5_readSum 1 = .ok (.iload_n 1, 1) := by decide +kernel
theorem dX5_readSum_2 : decode cX5_readSum 2 = .ok (.invokevirtual 155, 3) := by decide +kernel
theorem dX5_readSum_5 : decode cX5_readSum 5 = .ok (.iconst 0, 1) := by decide +kernel
theorem dX5_readSum_6 : decode cX5_readSum 6 = .ok (.istore_n 2, 1) := by decide +kernel
theorem dX5_readSum_7 : decode cX5_readSum 7 = .ok (.iload_n 2, 1) := by decide +kernel
theorem dX5_readSum_8 : decode cX5_readSum 8 = .ok (.sipush 700, 3) := by decide +kernel
theorem dX5_readSum_11 : decode cX5_readSum 11 = .ok (.if_icmp .ge 49, 3) := by decide +kernel
theorem dX5_readSum_14 : decode cX5_readSum 14 = .ok (.aload_n 0, 1) := by decide +kernel
theorem dX5_readSum_15 : decode cX5_readSum 15 = .ok (.getfield 36, 3) := by decide +kernel
theorem dX5_readSum_18 : decode cX5_readSum 18 = .ok (.bipush 43, 2) := by decide +kernel
theorem dX5_readSum_20 : decode cX5_readSum 20 = .ok (.if_icmp .eq 12, 3) := by decide +kernel
theorem dX5_readSum_23 : decode cX5_readSum 23 = .ok (.aload_n 0, 1) := by decide +kernel
theorem dX5_readSum_24 : decode cX5_readSum 24 = .ok (.getfield 36, 3) := by decide +kernel
theorem dX5_readSum_27 : decode cX5_readSum 27 = .ok (.bipush 45, 2) := by decide +kernel
theorem dX5_readSum_29 : decode cX5_readSum 29 = .ok (.if_icmp .ne 31, 3) := by decide +kernel
theorem dX5_readSum_32 : decode cX5_readSum 32 = .ok (.aload_n 0, 1) := by decide +kernel
theorem dX5_readSum_33 : decode cX5_readSum 33 = .ok (.getfield 36, 3) := by decide +kernel
theorem dX5_readSum_36 : decode cX5_readSum 36 = .ok (.istore_n 3, 1) := by decide +kernel
theorem dX5_readSum_37 : decode cX5_readSum 37 = .ok (.aload_n 0, 1) := by decide +kernel
theorem dX5_readSum_38 : decode cX5_readSum 38 = .ok (.invokevirtual 73, 3) := by decide +kernel
theorem dX5_readSum_41 : decode cX5_readSum 41 = .ok (.aload_n 0, 1) := by decide +kernel
theorem dX5_readSum_42 : decode cX5_readSum 42 = .ok (.iload_n 1, 1) := by decide +kernel
theorem dX5_readSum_43 : decode cX5_readSum 43 = .ok (.invokevirtual 155, 3) := by decide +kernel
theorem dX5_readSum_46 : decode cX5_readSum 46 = .ok (.aload_n 0, 1) := by decide +kernel
theorem dX5_readSum_47 : decode cX5_readSum 47 = .ok (.getfield 29, 3) := by decide +kernel
theorem dX5_readSum_50 : decode cX5_readSum 50 = .ok (.iload_n 3, 1) := by decide +kernel
theorem dX5_readSum_51 : decode cX5_readSum 51 = .ok (.invokevirtual 143, 3) := by decide +kernel
theorem dX5_readSum_54 : decode cX5_readSum 54 = .ok (.iinc 2 1, 3) := by decide +kernel
theorem dX5_readSum_57 : decode cX5_readSum 57 = .ok (.goto (-50), 3) := by decide +kernel
theorem dX5_readSum_60 : decode cX5_readSum 60 = .ok (.return_, 1) := by decide +kernel
theorem dX5_readProduct_0 : decode cX5_readProduct 0 = .ok (.aload_n 0, 1) := by decide +kernel
theorem dX5_readProduct_1 : decode cX5_readProduct 1 = .ok (.iload_n 1, 1) := by decide +kernel
theorem dX5_readProduct_2 : decode cX5_readProduct 2 = .ok (.invokevirtual 158, 3) := by decide +kernel
theorem dX5_readProduct_5 : decode cX5_readProduct 5 = .ok (.iconst 0, 1) := by decide +kernel
theorem dX5_readProduct_6 : decode cX5_readProduct 6 = .ok (.istore_n 2, 1) := by decide +kernel
theorem dX5_readProduct_7 : decode cX5_readProduct 7 = .ok (.iload_n 2, 1) := by decide +kernel
theorem dX5_readProduct_8 : decode cX5_readProduct 8 = .ok (.sipush 700, 3) := by decide +kernel
theorem dX5_readProduct_11 : decode cX5_readProduct 11 = .ok (.if_icmp .ge 49, 3) := by decide +kernel
theorem dX5_readProduct_14 : decode cX5_readProduct 14 = .ok (.aload_n 0, 1) := by decide +kernel
theorem dX5_readProduct_15 : decode cX5_readProduct 15 = .ok (.getfield 36, 3) := by decide +kernel
theorem dX5_readProduct_18 : decode cX5_readProduct 18 = .ok (.bipush 42, 2) := by decide +kernel
theorem dX5_readProduct_20 : decode cX5_readProduct 20 = .ok (.if_icmp .eq 12, 3) := by decide +kernel
theorem dX5_readProduct_23 : decode cX5_readProduct 23 = .ok (.aload_n 0, 1) := by decide +kernel
theorem dX5_readProduct_24 : decode cX5_readProduct 24 = .ok (.getfield 36, 3) := by decide +kernel
theorem dX5_readProduct_27 : decode cX5_readProduct 27 = .ok (.bipush 47, 2) := by decide +kernel
theorem dX5_readProduct_29 : decode cX5_readProduct 29 = .ok (.if_icmp .ne 31, 3) := by decide +kernel
theorem dX5_readProduct_32 : decode cX5_readProduct 32 = .ok (.aload_n 0, 1) := by decide +kernel
theorem dX5_readProduct_33 : decode cX5_readProduct 33 = .ok (.getfield 36, 3) := by decide +kernel
theorem dX5_readProduct_36 : decode cX5_readProduct 36 = .ok (.istore_n 3, 1) := by decide +kernel
theorem dX5_readProduct_37 : decode cX5_readProduct 37 = .ok (.aload_n 0, 1) := by decide +kernel
theorem dX5_readProduct_38 : decode cX5_readProduct 38 = .ok (.invokevirtual 73, 3) := by decide +kernel
theorem dX5_readProduct_41 : decode cX5_readProduct 41 = .ok (.aload_n 0, 1) := by decide +kernel
theorem dX5_readProduct_42 : decode cX5_readProduct 42 = .ok (.iload_n 1, 1) := by decide +kernel
theorem dX5_readProduct_43 : decode cX5_readProduct 43 = .ok (.invokevirtual 158, 3) := by decide +kernel
theorem dX5_readProduct_46 : decode cX5_readProduct 46 = .ok (.aload_n 0, 1) := by decide +kernel
theorem dX5_readProduct_47 : decode cX5_readProduct 47 = .ok (.getfield 29, 3) := by decide +kernel
theorem dX5_readProduct_50 : decode cX5_readProduct 50 = .ok (.iload_n 3, 1) := by decide +kernel
theorem dX5_readProduct_51 : decode cX5_readProduct 51 = .ok (.invokevirtual 143, 3) := by decide +kernel
theorem dX5_readProduct_54 : decode cX5_readProduct 54 = .ok (.iinc 2 1, 3) := by decide +kernel
theorem dX5_readProduct_57 : decode cX5_readProduct 57 = .ok (.goto (-50), 3) := by decide +kernel
theorem dX5_readProduct_60 : decode cX5_readProduct 60 = .ok (.return_, 1) := by decide +kernel
theorem dX5_readPart_0 : decode cX5_readPart 0 = .ok (.aload_n 0, 1) := by decide +kernel
theorem dX5_readPart_1 : decode cX5_readPart 1 = .ok (.invokevirtual 82, 3) := by decide +kernel
theorem dX5_readPart_4 : decode cX5_readPart 4 = .ok (.ifCond .eq 23, 3) := by decide +kernel
theorem dX5_readPart_7 : decode cX5_readPart 7 = .ok (.aload_n 0, 1) := by decide +kernel
theorem dX5_readPart_8 : decode cX5_readPart 8 = .ok (.getfield 29, 3) := by decide +kernel
theorem dX5_readPart_11 : decode cX5_readPart 11 = .ok (.aload_n 0, 1) := by decide +kernel
theorem dX5_readPart_12 : decode cX5_readPart 12 = .ok (.iconst 0, 1) := by decide +kernel
theorem dX5_readPart_13 : decode cX5_readPart 13 = .ok (.sipush 9999, 3) := by decide +kernel
theorem dX5_readPart_16 : decode cX5_readPart 16 = .ok (.invokevirtual 106, 3) := by decide +kernel
theorem dX5_readPart_19 : decode cX5_readPart 19 = .ok (.iconst (-1), 1) := by decide +kernel
theorem dX5_readPart_20 : decode cX5_readPart 20 = .ok (.ixor, 1) := by decide +kernel
theorem dX5_readPart_21 : decode cX5_readPart 21 = .ok (.invokevirtual 143, 3) := by decide +kernel
theorem dX5_readPart_24 : decode cX5_readPart 24 = .ok (.goto 77, 3) := by decide +kernel
theorem dX5_readPart_27 : decode cX5_readPart 27 = .ok (.aload_n 0, 1) := by decide +kernel
theorem dX5_readPart_28 : decode cX5_readPart 28 = .ok (.invokevirtual 161, 3) := by decide +kernel
theorem dX5_readPart_31 : decode cX5_readPart 31 = .ok (.ifCond .eq 21, 3) := by decide +kernel
theorem dX5_readPart_34 : decode cX5_readPart 34 = .ok (.aload_n 0, 1) := by decide +kernel
theorem dX5_readPart_35 : decode cX5_readPart 35 = .ok (.getfield 29, 3) := by decide +kernel
theorem dX5_readPart_38 : decode cX5_readPart 38 = .ok (.aload_n 0, 1) := by decide +kernel
theorem dX5_readPart_39 : decode cX5_readPart 39 = .ok (.getfield 36, 3) := by decide +kernel
theorem dX5_readPart_42 : decode cX5_readPart 42 = .ok (.invokevirtual 143, 3) := by decide +kernel
theorem dX5_readPart_45 : decode cX5_readPart 45 = .ok (.aload_n 0, 1) := by decide +kernel
theorem dX5_readPart_46 : decode cX5_readPart 46 = .ok (.invokevirtual 73, 3) := by decide +kernel
theorem dX5_readPart_49 : decode cX5_readPart 49 = .ok (.goto 52, 3) := by decide +kernel
theorem dX5_readPart_52 : decode cX5_readPart 52 = .ok (.aload_n 0, 1) := by decide +kernel
theorem dX5_readPart_53 : decode cX5_readPart 53 = .ok (.invokevirtual 137, 3) := by decide +kernel
theorem dX5_readPart_56 : decode cX5_readPart 56 = .ok (.ifCond .eq 11, 3) := by decide +kernel
theorem dX5_readPart_59 : decode cX5_readPart 59 = .ok (.aload_n 0, 1) := by decide +kernel
theorem dX5_readPart_60 : decode cX5_readPart 60 = .ok (.iconst 3, 1) := by decide +kernel
theorem dX5_readPart_61 : decode cX5_readPart 61 = .ok (.invokevirtual 76, 3) := by decide +kernel
theorem dX5_readPart_64 : decode cX5_readPart 64 = .ok (.goto 37, 3) := by decide +kernel
theorem dX5_readPart_67 : decode cX5_readPart 67 = .ok (.aload_n 0, 1) := by decide +kernel
theorem dX5_readPart_68 : decode cX5_readPart 68 = .ok (.getfield 36, 3) := by decide +kernel
theorem dX5_readPart_71 : decode cX5_readPart 71 = .ok (.bipush 40, 2) := by decide +kernel
theorem dX5_readPart_73 : decode cX5_readPart 73 = .ok (.if_icmp .ne 23, 3) := by decide +kernel
theorem dX5_readPart_76 : decode cX5_readPart 76 = .ok (.aload_n 0, 1) := by decide +kernel
theorem dX5_readPart_77 : decode cX5_readPart 77 = .ok (.invokevirtual 73, 3) := by decide +kernel
theorem dX5_readPart_80 : decode cX5_readPart 80 = .ok (.aload_n 0, 1) := by decide +kernel
theorem dX5_readPart_81 : decode cX5_readPart 81 = .ok (.iload_n 1, 1) := by decide +kernel
theorem dX5_readPart_82 : decode cX5_readPart 82 = .ok (.iconst 1, 1) := by decide +kernel
theorem dX5_readPart_83 : decode cX5_readPart 83 = .ok (.iadd, 1) := by decide +kernel
theorem dX5_readPart_84 : decode cX5_readPart 84 = .ok (.invokevirtual 134, 3) := by decide +kernel
theorem dX5_readPart_87 : decode cX5_readPart 87 = .ok (.aload_n 0, 1) := by decide +kernel
theorem dX5_readPart_88 : decode cX5_readPart 88 = .ok (.bipush 41, 2) := by decide +kernel
theorem dX5_readPart_90 : decode cX5_readPart 90 = .ok (.invokevirtual 66, 3) := by decide +kernel
theorem dX5_readPart_93 : decode cX5_readPart 93 = .ok (.goto 8, 3) := by decide +kernel
theorem dX5_readPart_96 : decode cX5_readPart 96 = .ok (.aload_n 0, 1) := by decide +kernel
theorem dX5_readPart_97 : decode cX5_readPart 97 = .ok (.iconst 1, 1) := by decide +kernel
theorem dX5_readPart_98 : decode cX5_readPart 98 = .ok (.invokevirtual 76, 3) := by decide +kernel
theorem dX5_readPart_101 : decode cX5_readPart 101 = .ok (.return_, 1) := by decide +kernel
theorem dX5_isValue_0 : decode cX5_isValue 0 = .ok (.aload_n 0, 1) := by decide +kernel
theorem dX5_isValue_1 : decode cX5_isValue 1 = .ok (.getfield 29, 3) := by decide +kernel
theorem dX5_isValue_4 : decode cX5_isValue 4 = .ok (.aload_n 0, 1) := by decide +kernel
theorem dX5_isValue_5 : decode cX5_isValue 5 = .ok (.getfield 21, 3) := by decide +kernel
theorem dX5_isValue_8 : decode cX5_isValue 8 = .ok (.getfield 100, 3) := by decide +kernel
theorem dX5_isValue_11 : decode cX5_isValue 11 = .ok (.if_acmp .ne 8, 3) := by decide +kernel
theorem dX5_isValue_14 : decode cX5_isValue 14 = .ok (.bipush 115, 2) := by decide +kernel
theorem dX5_isValue_16 : decode cX5_isValue 16 = .ok (.goto 5, 3) := by decide +kernel
theorem dX5_isValue_19 : decode cX5_isValue 19 = .ok (.bipush 113, 2) := by decide +kernel
theorem dX5_isValue_21 : decode cX5_isValue 21 = .ok (.istore_n 1, 1) := by decide +kernel
theorem dX5_isValue_22 : decode cX5_isValue 22 = .ok (.aload_n 0, 1) := by decide +kernel
theorem dX5_isValue_23 : decode cX5_isValue 23 = .ok (.getfield 36, 3) := by decide +kernel
theorem dX5_isValue_26 : decode cX5_isValue 26 = .ok (.bipush 109, 2) := by decide +kernel
theorem dX5_isValue_28 : decode cX5_isValue 28 = .ok (.if_icmp .lt 15, 3) := by decide +kernel
theorem dX5_isValue_31 : decode cX5_isValue 31 = .ok (.aload_n 0, 1) := by decide +kernel
theorem dX5_isValue_32 : decode cX5_isValue 32 = .ok (.getfield 36, 3) := by decide +kernel
theorem dX5_isValue_35 : decode cX5_isValue 35 = .ok (.iload_n 1, 1) := by decide +kernel
theorem dX5_isValue_36 : decode cX5_isValue 36 = .ok (.if_icmp .gt 7, 3) := by decide +kernel
theorem dX5_isValue_39 : decode cX5_isValue 39 = .ok (.iconst 1, 1) := by decide +kernel
theorem dX5_isValue_40 : decode cX5_isValue 40 = .ok (.goto 4, 3) := by decide +kernel
theorem dX5_isValue_43 : decode cX5_isValue 43 = .ok (.iconst 0, 1) := by decide +kernel
theorem dX5_isValue_44 : decode cX5_isValue 44 = .ok (.ireturn, 1) := by decide +kernel
