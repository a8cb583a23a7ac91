theorem dX0_init_0 : decode cX0_init 0 = .ok (.aload_n 0, 1) := by decide +kernel
theorem dX0_init_1 : decode cX0_init 1 = .ok (.invokespecial 3, 3) := by decide +kernel
theorem dX0_init_4 : decode cX0_init 4 = .ok (.aload_n 0, 1) := by decide +kernel
theorem dX0_init_5 : decode cX0_init 5 = .ok (.bipush 8, 2) := by decide +kernel
theorem dX0_init_7 : decode cX0_init 7 = .ok (.newarray .int, 2) := by decide +kernel
theorem dX0_init_9 : decode cX0_init 9 = .ok (.putfield 9, 3) := by decide +kernel
theorem dX0_init_12 : decode cX0_init 12 = .ok (.aload_n 0, 1) := by decide +kernel
theorem dX0_init_13 : decode cX0_init 13 = .ok (.bipush 8, 2) := by decide +kernel
theorem dX0_init_15 : decode cX0_init 15 = .ok (.newarray .int, 2) := by decide +kernel
theorem dX0_init_17 : decode cX0_init 17 = .ok (.putfield 15, 3) := by decide +kernel
theorem dX0_init_20 : decode cX0_init 20 = .ok (.aload_n 0, 1) := by decide +kernel
theorem dX0_init_21 : decode cX0_init 21 = .ok (.bipush 8, 2) := by decide +kernel
theorem dX0_init_23 : decode cX0_init 23 = .ok (.newarray .int, 2) := by decide +kernel
theorem dX0_init_25 : decode cX0_init 25 = .ok (.putfield 18, 3) := by decide +kernel
theorem dX0_init_28 : decode cX0_init 28 = .ok (.aload_n 0, 1) := by decide +kernel
theorem dX0_init_29 : decode cX0_init 29 = .ok (.bipush 8, 2) := by decide +kernel
theorem dX0_init_31 : decode cX0_init 31 = .ok (.newarray .int, 2) := by decide +kernel
theorem dX0_init_33 : decode cX0_init 33 = .ok (.putfield 21, 3) := by decide +kernel
theorem dX0_init_36 : decode cX0_init 36 = .ok (.return_, 1) := by decide +kernel
theorem dX0_become_0 : decode cX0_become 0 = .ok (.aload_n 1, 1) := by decide +kernel
theorem dX0_become_1 : decode cX0_become 1 = .ok (.getfield 9, 3) := by decide +kernel
theorem dX0_become_4 : decode cX0_become 4 = .ok (.aload_n 0, 1) := by decide +kernel
theorem dX0_become_5 : decode cX0_become 5 = .ok (.getfield 9, 3) := by decide +kernel
theorem dX0_become_8 : decode cX0_become 8 = .ok (.invokestatic 24, 3) := by decide +kernel
theorem dX0_become_11 : decode cX0_become 11 = .ok (.aload_n 1, 1) := by decide +kernel
theorem dX0_become_12 : decode cX0_become 12 = .ok (.getfield 15, 3) := by decide +kernel
theorem dX0_become_15 : decode cX0_become 15 = .ok (.aload_n 0, 1) := by decide +kernel
theorem dX0_become_16 : decode cX0_become 16 = .ok (.getfield 15, 3) := by decide +kernel
theorem dX0_become_19 : decode cX0_become 19 = .ok (.invokestatic 24, 3) := by decide +kernel
theorem dX0_become_22 : decode cX0_become 22 = .ok (.aload_n 1, 1) := by decide +kernel
theorem dX0_become_23 : decode cX0_become 23 = .ok (.getfield 18, 3) := by decide +kernel
theorem dX0_become_26 : decode cX0_become 26 = .ok (.aload_n 0, 1) := by decide +kernel
theorem dX0_become_27 : decode cX0_become 27 = .ok (.getfield 18, 3) := by decide +kernel
theorem dX0_become_30 : decode cX0_become 30 = .ok (.invokestatic 24, 3) := by decide +kernel
theorem dX0_become_33 : decode cX0_become 33 = .ok (.aload_n 1, 1) := by decide +kernel
theorem dX0_become_34 : decode cX0_become 34 = .ok (.getfield 21, 3) := by decide +kernel
theorem dX0_become_37 : decode cX0_become 37 = .ok (.aload_n 0, 1) := by decide +kernel
theorem dX0_become_38 : decode cX0_become 38 = .ok (.getfield 21, 3) := by decide +kernel
theorem dX0_become_41 : decode cX0_become 41 = .ok (.invokestatic 24, 3) := by decide +kernel
theorem dX0_become_44 : decode cX0_become 44 = .ok (.return_, 1) := by decide +kernel
theorem dX0_isThere_0 : decode cX0_isThere 0 = .ok (.aload_n 0, 1) := by decide +kernel
theorem dX0_isThere_1 : decode cX0_isThere 1 = .ok (.getfield 18, 3) := by decide +kernel
theorem dX0_isThere_4 : decode cX0_isThere 4 = .ok (.iload_n 1, 1) := by decide +kernel
theorem dX0_isThere_5 : decode cX0_isThere 5 = .ok (.iaload, 1) := by decide +kernel
theorem dX0_isThere_6 : decode cX0_isThere 6 = .ok (.ifCond .le 7, 3) := by decide +kernel
theorem dX0_isThere_9 : decode cX0_isThere 9 = .ok (.iconst 1, 1) := by decide +kernel
theorem dX0_isThere_10 : decode cX0_isThere 10 = .ok (.goto 4, 3) := by decide +kernel
theorem dX0_isThere_13 : decode cX0_isThere 13 = .ok (.iconst 0, 1) := by decide +kernel
theorem dX0_isThere_14 : decode cX0_isThere 14 = .ok (.ireturn, 1) := by decide +kernel
theorem dX0_howMany_0 : decode cX0_howMany 0 = .ok (.aload_n 0, 1) := by decide +kernel
theorem dX0_howMany_1 : decode cX0_howMany 1 = .ok (.getfield 18, 3) := by decide +kernel
theorem dX0_howMany_4 : decode cX0_howMany 4 = .ok (.invokestatic 28, 3) := by decide +kernel
theorem dX0_howMany_7 : decode cX0_howMany 7 = .ok (.ireturn, 1) := by decide +kernel
theorem dX0_leastFree_0 : decode cX0_leastFree 0 = .ok (.iconst 0, 1) := by decide +kernel
theorem dX0_leastFree_1 : decode cX0_leastFree 1 = .ok (.istore_n 1, 1) := by decide +kernel
theorem dX0_leastFree_2 : decode cX0_leastFree 2 = .ok (.iload_n 1, 1) := by decide +kernel
theorem dX0_leastFree_3 : decode cX0_leastFree 3 = .ok (.bipush 8, 2) := by decide +kernel
theorem dX0_leastFree_5 : decode cX0_leastFree 5 = .ok (.if_icmp .ge 19, 3) := by decide +kernel
theorem dX0_leastFree_8 : decode cX0_leastFree 8 = .ok (.aload_n 0, 1) := by decide +kernel
theorem dX0_leastFree_9 : decode cX0_leastFree 9 = .ok (.iload_n 1, 1) := by decide +kernel
theorem dX0_leastFree_10 : decode cX0_leastFree 10 = .ok (.invokevirtual 32, 3) := by decide +kernel
theorem dX0_leastFree_13 : decode cX0_leastFree 13 = .ok (.ifCond .ne 5, 3) := by decide +kernel
theorem dX0_leastFree_16 : decode cX0_leastFree 16 = .ok (.iload_n 1, 1) := by decide +kernel
theorem dX0_leastFree_17 : decode cX0_leastFree 17 = .ok (.ireturn, 1) := by decide +kernel
theorem dX0_leastFree_18 : decode cX0_leastFree 18 = .ok (.iinc 1 1, 3) := by decide +kernel
theorem dX0_leastFree_21 : decode cX0_leastFree 21 = .ok (.goto (-19), 3) := by decide +kernel
theorem dX0_leastFree_24 : decode cX0_leastFree 24 = .ok (.iconst (-1), 1) := by decide +kernel
theorem dX0_leastFree_25 : decode cX0_leastFree 25 = .ok (.ireturn, 1) := by decide +kernel
theorem dX0_leastOn_0 : decode cX0_leastOn 0 = .ok (.iconst 0, 1) := by decide +kernel
theorem dX0_leastOn_1 : decode cX0_leastOn 1 = .ok (.istore_n 2, 1) := by decide +kernel
theorem dX0_leastOn_2 : decode cX0_leastOn 2 = .ok (.iload_n 2, 1) := by decide +kernel
theorem dX0_leastOn_3 : decode cX0_leastOn 3 = .ok (.bipush 8, 2) := by decide +kernel
theorem dX0_leastOn_5 : decode cX0_leastOn 5 = .ok (.if_icmp .ge 29, 3) := by decide +kernel
theorem dX0_leastOn_8 : decode cX0_leastOn 8 = .ok (.aload_n 0, 1) := by decide +kernel
theorem dX0_leastOn_9 : decode cX0_leastOn 9 = .ok (.iload_n 2, 1) := by decide +kernel
theorem dX0_leastOn_10 : decode cX0_leastOn 10 = .ok (.invokevirtual 32, 3) := by decide +kernel
theorem dX0_leastOn_13 : decode cX0_leastOn 13 = .ok (.ifCond .eq 15, 3) := by decide +kernel
theorem dX0_leastOn_16 : decode cX0_leastOn 16 = .ok (.aload_n 0, 1) := by decide +kernel
theorem dX0_leastOn_17 : decode cX0_leastOn 17 = .ok (.getfield 15, 3) := by decide +kernel
theorem dX0_leastOn_20 : decode cX0_leastOn 20 = .ok (.iload_n 2, 1) := by decide +kernel
theorem dX0_leastOn_21 : decode cX0_leastOn 21 = .ok (.iaload, 1) := by decide +kernel
theorem dX0_leastOn_22 : decode cX0_leastOn 22 = .ok (.iload_n 1, 1) := by decide +kernel
theorem dX0_leastOn_23 : decode cX0_leastOn 23 = .ok (.if_icmp .ne 5, 3) := by decide +kernel
theorem dX0_leastOn_26 : decode cX0_leastOn 26 = .ok (.iload_n 2, 1) := by decide +kernel
theorem dX0_leastOn_27 : decode cX0_leastOn 27 = .ok (.ireturn, 1) := by decide +kernel
theorem dX0_leastOn_28 : decode cX0_leastOn 28 = .ok (.iinc 2 1, 3) := by decide +kernel
theorem dX0_leastOn_31 : decode cX0_leastOn 31 = .ok (.goto (-29), 3) := by decide +kernel
theorem dX0_leastOn_34 : decode cX0_leastOn 34 = .ok (.iconst (-1), 1) := by decide +kernel
theorem dX0_leastOn_35 : decode cX0_leastOn 35 = .ok (.ireturn, 1) := by decide +kernel
theorem dX0_addWater_0 : decode cX0_addWater 0 = .ok (.aload_n 0, 1) := by decide +kernel
theorem dX0_addWater_1 : decode cX0_addWater 1 = .ok (.getfield 18, 3) := by decide +kernel
theorem dX0_addWater_4 : decode cX0_addWater 4 = .ok (.iload_n 1, 1) := by decide +kernel
theorem dX0_addWater_5 : decode cX0_addWater 5 = .ok (.bipush 99, 2) := by decide +kernel
theorem dX0_addWater_7 : decode cX0_addWater 7 = .ok (.aload_n 0, 1) := by decide +kernel
theorem dX0_addWater_8 : decode cX0_addWater 8 = .ok (.getfield 18, 3) := by decide +kernel
theorem dX0_addWater_11 : decode cX0_addWater 11 = .ok (.iload_n 1, 1) := by decide +kernel
theorem dX0_addWater_12 : decode cX0_addWater 12 = .ok (.iaload, 1) := by decide +kernel
theorem dX0_addWater_13 : decode cX0_addWater 13 = .ok (.iload_n 2, 1) := by decide +kernel
theorem dX0_addWater_14 : decode cX0_addWater 14 = .ok (.iadd, 1) := by decide +kernel
theorem dX0_addWater_15 : decode cX0_addWater 15 = .ok (.invokestatic 36, 3) := by decide +kernel
theorem dX0_addWater_18 : decode cX0_addWater 18 = .ok (.iastore, 1) := by decide +kernel
theorem dX0_addWater_19 : decode cX0_addWater 19 = .ok (.return_, 1) := by decide +kernel
theorem dX0_join_0 : decode cX0_join 0 = .ok (.iconst 0, 1) := by decide +kernel
theorem dX0_join_1 : decode cX0_join 1 = .ok (.istore_n 1, 1) := by decide +kernel
theorem dX0_join_2 : decode cX0_join 2 = .ok (.iload_n 1, 1) := by decide +kernel
theorem dX0_join_3 : decode cX0_join 3 = .ok (.bipush 8, 2) := by decide +kernel
theorem dX0_join_5 : decode cX0_join 5 = .ok (.if_icmp .ge 62, 3) := by decide +kernel
theorem dX0_join_8 : decode cX0_join 8 = .ok (.aload_n 0, 1) := by decide +kernel
theorem dX0_join_9 : decode cX0_join 9 = .ok (.iload_n 1, 1) := by decide +kernel
theorem dX0_join_10 : decode cX0_join 10 = .ok (.invokevirtual 32, 3) := by decide +kernel
theorem dX0_join_13 : decode cX0_join 13 = .ok (.ifCond .eq 16, 3) := by decide +kernel
theorem dX0_join_16 : decode cX0_join 16 = .ok (.aload_n 0, 1) := by decide +kernel
theorem dX0_join_17 : decode cX0_join 17 = .ok (.aload_n 0, 1) := by decide +kernel
theorem dX0_join_18 : decode cX0_join 18 = .ok (.getfield 15, 3) := by decide +kernel
theorem dX0_join_21 : decode cX0_join 21 = .ok (.iload_n 1, 1) := by decide +kernel
theorem dX0_join_22 : decode cX0_join 22 = .ok (.iaload, 1) := by decide +kernel
theorem dX0_join_23 : decode cX0_join 23 = .ok (.invokevirtual 42, 3) := by decide +kernel
theorem dX0_join_26 : decode cX0_join 26 = .ok (.goto 4, 3) := by decide +kernel
theorem dX0_join_29 : decode cX0_join 29 = .ok (.iload_n 1, 1) := by decide +kernel
theorem dX0_join_30 : decode cX0_join 30 = .ok (.istore_n 2, 1) := by decide +kernel
theorem dX0_join_31 : decode cX0_join 31 = .ok (.iload_n 2, 1) := by decide +kernel
theorem dX0_join_32 : decode cX0_join 32 = .ok (.iload_n 1, 1) := by decide +kernel
theorem dX0_join_33 : decode cX0_join 33 = .ok (.if_icmp .eq 28, 3) := by decide +kernel
theorem dX0_join_36 : decode cX0_join 36 = .ok (.iload_n 2, 1) := by decide +kernel
theorem dX0_join_37 : decode cX0_join 37 = .ok (.invokestatic 46, 3) := by decide +kernel
theorem dX0_join_40 : decode cX0_join 40 = .ok (.ifCond .eq 21, 3) := by decide +kernel
theorem dX0_join_43 : decode cX0_join 43 = .ok (.aload_n 0, 1) := by decide +kernel
theorem dX0_join_44 : decode cX0_join 44 = .ok (.iload_n 2, 1) := by decide +kernel
theorem dX0_join_45 : decode cX0_join 45 = .ok (.aload_n 0, 1) := by decide +kernel
theorem dX0_join_46 : decode cX0_join 46 = .ok (.getfield 18, 3) := by decide +kernel
theorem dX0_join_49 : decode cX0_join 49 = .ok (.iload_n 1, 1) := by decide +kernel
theorem dX0_join_50 : decode cX0_join 50 = .ok (.iaload, 1) := by decide +kernel
theorem dX0_join_51 : decode cX0_join 51 = .ok (.invokevirtual 49, 3) := by decide +kernel
theorem dX0_join_54 : decode cX0_join 54 = .ok (.aload_n 0, 1) := by decide +kernel
theorem dX0_join_55 : decode cX0_join 55 = .ok (.getfield 18, 3) := by decide +kernel
theorem dX0_join_58 : decode cX0_join 58 = .ok (.iload_n 1, 1) := by decide +kernel
theorem dX0_join_59 : decode cX0_join 59 = .ok (.iconst 0, 1) := by decide +kernel
theorem dX0_join_60 : decode cX0_join 60 = .ok (.iastore, 1) := by decide +kernel
theorem dX0_join_61 : decode cX0_join 61 = .ok (.iinc 1 1, 3) := by decide +kernel
theorem dX0_join_64 : decode cX0_join 64 = .ok (.goto (-62), 3) := by decide +kernel
theorem dX0_join_67 : decode cX0_join 67 = .ok (.return_, 1) := by decide +kernel
theorem dX1_init_0 : decode cX1_init 0 = .ok (.aload_n 0, 1) := by decide +kernel
theorem dX1_init_1 : decode cX1_init 1 = .ok (.invokespecial 3, 3) := by decide +kernel
theorem dX1_init_4 : decode cX1_init 4 = .ok (.aload_n 0, 1) := by decide +kernel
theorem dX1_init_5 : decode cX1_init 5 = .ok (.bipush 7, 2) := by decide +kernel
theorem dX1_init_7 : decode cX1_init 7 = .ok (.newarray .int, 2) := by decide +kernel
theorem dX1_init_9 : decode cX1_init 9 = .ok (.putfield 9, 3) := by decide +kernel
theorem dX1_init_12 : decode cX1_init 12 = .ok (.return_, 1) := by decide +kernel
theorem dX1_tell_0 : decode cX1_tell 0 = .ok (.aload_n 0, 1) := by decide +kernel
theorem dX1_tell_1 : decode cX1_tell 1 = .ok (.getfield 9, 3) := by decide +kernel
theorem dX1_tell_4 : decode cX1_tell 4 = .ok (.iload_n 1, 1) := by decide +kernel
theorem dX1_tell_5 : decode cX1_tell 5 = .ok (.dup2, 1) := by decide +kernel
theorem dX1_tell_6 : decode cX1_tell 6 = .ok (.iaload, 1) := by decide +kernel
theorem dX1_tell_7 : decode cX1_tell 7 = .ok (.iconst 1, 1) := by decide +kernel
theorem dX1_tell_8 : decode cX1_tell 8 = .ok (.iadd, 1) := by decide +kernel
theorem dX1_tell_9 : decode cX1_tell 9 = .ok (.iastore, 1) := by decide +kernel
theorem dX1_tell_10 : decode cX1_tell 10 = .ok (.ldc 15, 2) := by decide +kernel
theorem dX1_tell_12 : decode cX1_tell 12 = .ok (.iload_n 1, 1) := by decide +kernel
theorem dX1_tell_13 : decode cX1_tell 13 = .ok (.isub, 1) := by decide +kernel
theorem dX1_tell_14 : decode cX1_tell 14 = .ok (.ireturn, 1) := by decide +kernel
theorem dX2_init_0 : decode cX2_init 0 = .ok (.aload_n 0, 1) := by decide +kernel
theorem dX2_init_1 : decode cX2_init 1 = .ok (.invokespecial 3, 3) := by decide +kernel
theorem dX2_init_4 : decode cX2_init 4 = .ok (.aload_n 0, 1) := by decide +kernel
theorem dX2_init_5 : decode cX2_init 5 = .ok (.sipush 192, 3) := by decide +kernel
theorem dX2_init_8 : decode cX2_init 8 = .ok (.newarray .int, 2) := by decide +kernel
theorem dX2_init_10 : decode cX2_init 10 = .ok (.putfield 9, 3) := by decide +kernel
theorem dX2_init_13 : decode cX2_init 13 = .ok (.aload_n 0, 1) := by decide +kernel
theorem dX2_init_14 : decode cX2_init 14 = .ok (.sipush 192, 3) := by decide +kernel
theorem dX2_init_17 : decode cX2_init 17 = .ok (.newarray .int, 2) := by decide +kernel
theorem dX2_init_19 : decode cX2_init 19 = .ok (.putfield 15, 3) := by decide +kernel
theorem dX2_init_22 : decode cX2_init 22 = .ok (.aload_n 0, 1) := by decide +kernel
theorem dX2_init_23 : decode cX2_init 23 = .ok (.iconst 3, 1) := by decide +kernel
theorem dX2_init_24 : decode cX2_init 24 = .ok (.putfield 18, 3) := by decide +kernel
theorem dX2_init_27 : decode cX2_init 27 = .ok (.aload_n 0, 1) := by decide +kernel
theorem dX2_init_28 : decode cX2_init 28 = .ok (.iconst 0, 1) := by decide +kernel
theorem dX2_init_29 : decode cX2_init 29 = .ok (.putfield 22, 3) := by decide +kernel
theorem dX2_init_32 : decode cX2_init 32 = .ok (.aload_n 0, 1) := by decide +kernel
theorem dX2_init_33 : decode cX2_init 33 = .ok (.iconst 1, 1) := by decide +kernel
theorem dX2_init_34 : decode cX2_init 34 = .ok (.putfield 25, 3) := by decide +kernel
theorem dX2_init_37 : decode cX2_init 37 = .ok (.aload_n 0, 1) := by decide +kernel
theorem dX2_init_38 : decode cX2_init 38 = .ok (.iconst 3, 1) := by decide +kernel
theorem dX2_init_39 : decode cX2_init 39 = .ok (.newarray .int, 2) := by decide +kernel
theorem dX2_init_41 : decode cX2_init 41 = .ok (.putfield 28, 3) := by decide +kernel
theorem dX2_init_44 : decode cX2_init 44 = .ok (.return_, 1) := by decide +kernel
theorem dX2_become_0 : decode cX2_become 0 = .ok (.aload_n 1, 1) := by decide +kernel
theorem dX2_become_1 : decode cX2_become 1 = .ok (.getfield 9, 3) := by decide +kernel
theorem dX2_become_4 : decode cX2_become 4 = .ok (.aload_n 0, 1) := by decide +kernel
theorem dX2_become_5 : decode cX2_become 5 = .ok (.getfield 9, 3) := by decide +kernel
theorem dX2_become_8 : decode cX2_become 8 = .ok (.invokestatic 31, 3) := by decide +kernel
theorem dX2_become_11 : decode cX2_become 11 = .ok (.aload_n 1, 1) := by decide +kernel
theorem dX2_become_12 : decode cX2_become 12 = .ok (.getfield 15, 3) := by decide +kernel
theorem dX2_become_15 : decode cX2_become 15 = .ok (.aload_n 0, 1) := by decide +kernel
theorem dX2_become_16 : decode cX2_become 16 = .ok (.getfield 15, 3) := by decide +kernel
theorem dX2_become_19 : decode cX2_become 19 = .ok (.invokestatic 31, 3) := by decide +kernel
theorem dX2_become_22 : decode cX2_become 22 = .ok (.aload_n 0, 1) := by decide +kernel
theorem dX2_become_23 : decode cX2_become 23 = .ok (.aload_n 1, 1) := by decide +kernel
theorem dX2_become_24 : decode cX2_become 24 = .ok (.getfield 18, 3) := by decide +kernel
theorem dX2_become_27 : decode cX2_become 27 = .ok (.putfield 18, 3) := by decide +kernel
theorem dX2_become_30 : decode cX2_become 30 = .ok (.aload_n 0, 1) := by decide +kernel
theorem dX2_become_31 : decode cX2_become 31 = .ok (.aload_n 1, 1) := by decide +kernel
theorem dX2_become_32 : decode cX2_become 32 = .ok (.getfield 22, 3) := by decide +kernel
theorem dX2_become_35 : decode cX2_become 35 = .ok (.putfield 22, 3) := by decide +kernel
theorem dX2_become_38 : decode cX2_become 38 = .ok (.aload_n 0, 1) := by decide +kernel
theorem dX2_become_39 : decode cX2_become 39 = .ok (.aload_n 1, 1) := by decide +kernel
theorem dX2_become_40 : decode cX2_become 40 = .ok (.getfield 25, 3) := by decide +kernel
theorem dX2_become_43 : decode cX2_become 43 = .ok (.putfield 25, 3) := by decide +kernel
theorem dX2_become_46 : decode cX2_become 46 = .ok (.return_, 1) := by decide +kernel
theorem dX2_holdOf_0 : decode cX2_holdOf 0 = .ok (.iconst 3, 1) := by decide +kernel
theorem dX2_holdOf_1 : decode cX2_holdOf 1 = .ok (.aload_n 0, 1) := by decide +kernel
theorem dX2_holdOf_2 : decode cX2_holdOf 2 = .ok (.getfield 9, 3) := by decide +kernel
theorem dX2_holdOf_5 : decode cX2_holdOf 5 = .ok (.iload_n 1, 1) := by decide +kernel
theorem dX2_holdOf_6 : decode cX2_holdOf 6 = .ok (.iaload, 1) := by decide +kernel
theorem dX2_holdOf_7 : decode cX2_holdOf 7 = .ok (.imul, 1) := by decide +kernel
theorem dX2_holdOf_8 : decode cX2_holdOf 8 = .ok (.aload_n 0, 1) := by decide +kernel
theorem dX2_holdOf_9 : decode cX2_holdOf 9 = .ok (.getfield 15, 3) := by decide +kernel
theorem dX2_holdOf_12 : decode cX2_holdOf 12 = .ok (.iload_n 1, 1) := by decide +kernel
theorem dX2_holdOf_13 : decode cX2_holdOf 13 = .ok (.iaload, 1) := by decide +kernel
theorem dX2_holdOf_14 : decode cX2_holdOf 14 = .ok (.bipush 10, 2) := by decide +kernel
theorem dX2_holdOf_16 : decode cX2_holdOf 16 = .ok (.idiv, 1) := by decide +kernel
theorem dX2_holdOf_17 : decode cX2_holdOf 17 = .ok (.isub, 1) := by decide +kernel
theorem dX2_holdOf_18 : decode cX2_holdOf 18 = .ok (.istore_n 2, 1) := by decide +kernel
theorem dX2_holdOf_19 : decode cX2_holdOf 19 = .ok (.iload_n 2, 1) := by decide +kernel
theorem dX2_holdOf_20 : decode cX2_holdOf 20 = .ok (.ifCond .le 7, 3) := by decide +kernel
theorem dX2_holdOf_23 : decode cX2_holdOf 23 = .ok (.iload_n 2, 1) := by decide +kernel
theorem dX2_holdOf_24 : decode cX2_holdOf 24 = .ok (.goto 4, 3) := by decide +kernel
theorem dX2_holdOf_27 : decode cX2_holdOf 27 = .ok (.iconst 0, 1) := by decide +kernel
theorem dX2_holdOf_28 : decode cX2_holdOf 28 = .ok (.ireturn, 1) := by decide +kernel
theorem dX2_cleanRow_0 : decode cX2_cleanRow 0 = .ok (.iconst 0, 1) := by decide +kernel
theorem dX2_cleanRow_1 : decode cX2_cleanRow 1 = .ok (.istore_n 2, 1) := by decide +kernel
theorem dX2_cleanRow_2 : decode cX2_cleanRow 2 = .ok (.iload_n 1, 1) := by decide +kernel
theorem dX2_cleanRow_3 : decode cX2_cleanRow 3 = .ok (.bipush 12, 2) := by decide +kernel
theorem dX2_cleanRow_5 : decode cX2_cleanRow 5 = .ok (.imul, 1) := by decide +kernel
theorem dX2_cleanRow_6 : decode cX2_cleanRow 6 = .ok (.istore_n 3, 1) := by decide +kernel
theorem dX2_cleanRow_7 : decode cX2_cleanRow 7 = .ok (.iload_n 3, 1) := by decide +kernel
theorem dX2_cleanRow_8 : decode cX2_cleanRow 8 = .ok (.iload_n 1, 1) := by decide +kernel
theorem dX2_cleanRow_9 : decode cX2_cleanRow 9 = .ok (.iconst 1, 1) := by decide +kernel
theorem dX2_cleanRow_10 : decode cX2_cleanRow 10 = .ok (.iadd, 1) := by decide +kernel
theorem dX2_cleanRow_11 : decode cX2_cleanRow 11 = .ok (.bipush 12, 2) := by decide +kernel
theorem dX2_cleanRow_13 : decode cX2_cleanRow 13 = .ok (.imul, 1) := by decide +kernel
theorem dX2_cleanRow_14 : decode cX2_cleanRow 14 = .ok (.if_icmp .ge 35, 3) := by decide +kernel
theorem dX2_cleanRow_17 : decode cX2_cleanRow 17 = .ok (.aload_n 0, 1) := by decide +kernel
theorem dX2_cleanRow_18 : decode cX2_cleanRow 18 = .ok (.getfield 9, 3) := by decide +kernel
theorem dX2_cleanRow_21 : decode cX2_cleanRow 21 = .ok (.iload_n 3, 1) := by decide +kernel
theorem dX2_cleanRow_22 : decode cX2_cleanRow 22 = .ok (.iaload, 1) := by decide +kernel
theorem dX2_cleanRow_23 : decode cX2_cleanRow 23 = .ok (.ifCond .le 6, 3) := by decide +kernel
theorem dX2_cleanRow_26 : decode cX2_cleanRow 26 = .ok (.iinc 2 1, 3) := by decide +kernel
theorem dX2_cleanRow_29 : decode cX2_cleanRow 29 = .ok (.aload_n 0, 1) := by decide +kernel
theorem dX2_cleanRow_30 : decode cX2_cleanRow 30 = .ok (.getfield 9, 3) := by decide +kernel
theorem dX2_cleanRow_33 : decode cX2_cleanRow 33 = .ok (.iload_n 3, 1) := by decide +kernel
theorem dX2_cleanRow_34 : decode cX2_cleanRow 34 = .ok (.iconst 0, 1) := by decide +kernel
theorem dX2_cleanRow_35 : decode cX2_cleanRow 35 = .ok (.iastore, 1) := by decide +kernel
theorem dX2_cleanRow_36 : decode cX2_cleanRow 36 = .ok (.aload_n 0, 1) := by decide +kernel
theorem dX2_cleanRow_37 : decode cX2_cleanRow 37 = .ok (.getfield 15, 3) := by decide +kernel
theorem dX2_cleanRow_40 : decode cX2_cleanRow 40 = .ok (.iload_n 3, 1) := by decide +kernel
theorem dX2_cleanRow_41 : decode cX2_cleanRow 41 = .ok (.iconst 0, 1) := by decide +kernel
theorem dX2_cleanRow_42 : decode cX2_cleanRow 42 = .ok (.iastore, 1) := by decide +kernel
theorem dX2_cleanRow_43 : decode cX2_cleanRow 43 = .ok (.iinc 3 1, 3) := by decide +kernel
theorem dX2_cleanRow_46 : decode cX2_cleanRow 46 = .ok (.goto (-39), 3) := by decide +kernel
theorem dX2_cleanRow_49 : decode cX2_cleanRow 49 = .ok (.iload_n 2, 1) := by decide +kernel
theorem dX2_cleanRow_50 : decode cX2_cleanRow 50 = .ok (.ireturn, 1) := by decide +kernel
theorem dX2_wetColumn_0 : decode cX2_wetColumn 0 = .ok (.iconst 0, 1) := by decide +kernel
theorem dX2_wetColumn_1 : decode cX2_wetColumn 1 = .ok (.istore_n 2, 1) := by decide +kernel
theorem dX2_wetColumn_2 : decode cX2_wetColumn 2 = .ok (.iload_n 1, 1) := by decide +kernel
theorem dX2_wetColumn_3 : decode cX2_wetColumn 3 = .ok (.istore_n 3, 1) := by decide +kernel
theorem dX2_wetColumn_4 : decode cX2_wetColumn 4 = .ok (.iload_n 3, 1) := by decide +kernel
theorem dX2_wetColumn_5 : decode cX2_wetColumn 5 = .ok (.sipush 192, 3) := by decide +kernel
theorem dX2_wetColumn_8 : decode cX2_wetColumn 8 = .ok (.if_icmp .ge 31, 3) := by decide +kernel
theorem dX2_wetColumn_11 : decode cX2_wetColumn 11 = .ok (.aload_n 0, 1) := by decide +kernel
theorem dX2_wetColumn_12 : decode cX2_wetColumn 12 = .ok (.getfield 15, 3) := by decide +kernel
theorem dX2_wetColumn_15 : decode cX2_wetColumn 15 = .ok (.iload_n 3, 1) := by decide +kernel
theorem dX2_wetColumn_16 : decode cX2_wetColumn 16 = .ok (.iaload, 1) := by decide +kernel
theorem dX2_wetColumn_17 : decode cX2_wetColumn 17 = .ok (.bipush 99, 2) := by decide +kernel
theorem dX2_wetColumn_19 : decode cX2_wetColumn 19 = .ok (.if_icmp .ge 6, 3) := by decide +kernel
theorem dX2_wetColumn_22 : decode cX2_wetColumn 22 = .ok (.iinc 2 1, 3) := by decide +kernel
theorem dX2_wetColumn_25 : decode cX2_wetColumn 25 = .ok (.aload_n 0, 1) := by decide +kernel
theorem dX2_wetColumn_26 : decode cX2_wetColumn 26 = .ok (.getfield 15, 3) := by decide +kernel
theorem dX2_wetColumn_29 : decode cX2_wetColumn 29 = .ok (.iload_n 3, 1) := by decide +kernel
theorem dX2_wetColumn_30 : decode cX2_wetColumn 30 = .ok (.bipush 99, 2) := by decide +kernel
theorem dX2_wetColumn_32 : decode cX2_wetColumn 32 = .ok (.iastore, 1) := by decide +kernel
theorem dX2_wetColumn_33 : decode cX2_wetColumn 33 = .ok (.iinc 3 12, 3) := by decide +kernel
theorem dX2_wetColumn_36 : decode cX2_wetColumn 36 = .ok (.goto (-32), 3) := by decide +kernel
theorem dX2_wetColumn_39 : decode cX2_wetColumn 39 = .ok (.iload_n 2, 1) := by decide +kernel
theorem dX2_wetColumn_40 : decode cX2_wetColumn 40 = .ok (.ireturn, 1) := by decide +kernel
theorem dX2_fadeOnce_0 : decode cX2_fadeOnce 0 = .ok (.iconst 0, 1) := by decide +kernel
theorem dX2_fadeOnce_1 : decode cX2_fadeOnce 1 = .ok (.istore_n 1, 1) := by decide +kernel
theorem dX2_fadeOnce_2 : decode cX2_fadeOnce 2 = .ok (.iload_n 1, 1) := by decide +kernel
theorem dX2_fadeOnce_3 : decode cX2_fadeOnce 3 = .ok (.sipush 192, 3) := by decide +kernel
theorem dX2_fadeOnce_6 : decode cX2_fadeOnce 6 = .ok (.if_icmp .ge 30, 3) := by decide +kernel
theorem dX2_fadeOnce_9 : decode cX2_fadeOnce 9 = .ok (.aload_n 0, 1) := by decide +kernel
theorem dX2_fadeOnce_10 : decode cX2_fadeOnce 10 = .ok (.getfield 15, 3) := by decide +kernel
theorem dX2_fadeOnce_13 : decode cX2_fadeOnce 13 = .ok (.iload_n 1, 1) := by decide +kernel
theorem dX2_fadeOnce_14 : decode cX2_fadeOnce 14 = .ok (.iconst 0, 1) := by decide +kernel
theorem dX2_fadeOnce_15 : decode cX2_fadeOnce 15 = .ok (.aload_n 0, 1) := by decide +kernel
theorem dX2_fadeOnce_16 : decode cX2_fadeOnce 16 = .ok (.getfield 15, 3) := by decide +kernel
theorem dX2_fadeOnce_19 : decode cX2_fadeOnce 19 = .ok (.iload_n 1, 1) := by decide +kernel
theorem dX2_fadeOnce_20 : decode cX2_fadeOnce 20 = .ok (.iaload, 1) := by decide +kernel
theorem dX2_fadeOnce_21 : decode cX2_fadeOnce 21 = .ok (.aload_n 0, 1) := by decide +kernel
theorem dX2_fadeOnce_22 : decode cX2_fadeOnce 22 = .ok (.getfield 25, 3) := by decide +kernel
theorem dX2_fadeOnce_25 : decode cX2_fadeOnce 25 = .ok (.isub, 1) := by decide +kernel
theorem dX2_fadeOnce_26 : decode cX2_fadeOnce 26 = .ok (.invokestatic 35, 3) := by decide +kernel
theorem dX2_fadeOnce_29 : decode cX2_fadeOnce 29 = .ok (.iastore, 1) := by decide +kernel
theorem dX2_fadeOnce_30 : decode cX2_fadeOnce 30 = .ok (.iinc 1 1, 3) := by decide +kernel
theorem dX2_fadeOnce_33 : decode cX2_fadeOnce 33 = .ok (.goto (-31), 3) := by decide +kernel
theorem dX2_fadeOnce_36 : decode cX2_fadeOnce 36 = .ok (.return_, 1) := by decide +kernel
theorem dX2_goal_0 : decode cX2_goal 0 = .ok (.iload_n 2, 1) := by decide +kernel
theorem dX2_goal_1 : decode cX2_goal 1 = .ok (.invokestatic 41, 3) := by decide +kernel
theorem dX2_goal_4 : decode cX2_goal 4 = .ok (.ifCond .eq 5, 3) := by decide +kernel
theorem dX2_goal_7 : decode cX2_goal 7 = .ok (.iconst (-1), 1) := by decide +kernel
theorem dX2_goal_8 : decode cX2_goal 8 = .ok (.ireturn, 1) := by decide +kernel
theorem dX2_goal_9 : decode cX2_goal 9 = .ok (.iload_n 3, 1) := by decide +kernel
theorem dX2_goal_10 : decode cX2_goal 10 = .ok (.aload_n 0, 1) := by decide +kernel
theorem dX2_goal_11 : decode cX2_goal 11 = .ok (.getfield 18, 3) := by decide +kernel
theorem dX2_goal_14 : decode cX2_goal 14 = .ok (.iadd, 1) := by decide +kernel
theorem dX2_goal_15 : decode cX2_goal 15 = .ok (.istore 5, 2) := by decide +kernel
theorem dX2_goal_17 : decode cX2_goal 17 = .ok (.aload_n 0, 1) := by decide +kernel
theorem dX2_goal_18 : decode cX2_goal 18 = .ok (.iload_n 2, 1) := by decide +kernel
theorem dX2_goal_19 : decode cX2_goal 19 = .ok (.iload 5, 2) := by decide +kernel
theorem dX2_goal_21 : decode cX2_goal 21 = .ok (.invokevirtual 45, 3) := by decide +kernel
theorem dX2_goal_24 : decode cX2_goal 24 = .ok (.aload_n 0, 1) := by decide +kernel
theorem dX2_goal_25 : decode cX2_goal 25 = .ok (.iload_n 1, 1) := by decide +kernel
theorem dX2_goal_26 : decode cX2_goal 26 = .ok (.iload 4, 2) := by decide +kernel
theorem dX2_goal_28 : decode cX2_goal 28 = .ok (.invokevirtual 49, 3) := by decide +kernel
theorem dX2_goal_31 : decode cX2_goal 31 = .ok (.istore 6, 2) := by decide +kernel
theorem dX2_goal_33 : decode cX2_goal 33 = .ok (.iload 6, 2) := by decide +kernel
theorem dX2_goal_35 : decode cX2_goal 35 = .ok (.bipush (-2), 2) := by decide +kernel
theorem dX2_goal_37 : decode cX2_goal 37 = .ok (.if_icmp .ne 20, 3) := by decide +kernel
theorem dX2_goal_40 : decode cX2_goal 40 = .ok (.iload_n 1, 1) := by decide +kernel
theorem dX2_goal_41 : decode cX2_goal 41 = .ok (.iconst 3, 1) := by decide +kernel
theorem dX2_goal_42 : decode cX2_goal 42 = .ok (.if_icmp .ne 15, 3) := by decide +kernel
theorem dX2_goal_45 : decode cX2_goal 45 = .ok (.aload_n 0, 1) := by decide +kernel
theorem dX2_goal_46 : decode cX2_goal 46 = .ok (.iload_n 2, 1) := by decide +kernel
theorem dX2_goal_47 : decode cX2_goal 47 = .ok (.iload 5, 2) := by decide +kernel
theorem dX2_goal_49 : decode cX2_goal 49 = .ok (.invokevirtual 52, 3) := by decide +kernel
theorem dX2_goal_52 : decode cX2_goal 52 = .ok (.istore 6, 2) := by decide +kernel
theorem dX2_goal_54 : decode cX2_goal 54 = .ok (.goto 21, 3) := by decide +kernel
theorem dX2_goal_57 : decode cX2_goal 57 = .ok (.iload 6, 2) := by decide +kernel
theorem dX2_goal_59 : decode cX2_goal 59 = .ok (.bipush (-2), 2) := by decide +kernel
theorem dX2_goal_61 : decode cX2_goal 61 = .ok (.if_icmp .ne 14, 3) := by decide +kernel
theorem dX2_goal_64 : decode cX2_goal 64 = .ok (.iload_n 1, 1) := by decide +kernel
theorem dX2_goal_65 : decode cX2_goal 65 = .ok (.iconst 2, 1) := by decide +kernel
theorem dX2_goal_66 : decode cX2_goal 66 = .ok (.if_icmp .eq 9, 3) := by decide +kernel
theorem dX2_goal_69 : decode cX2_goal 69 = .ok (.aload_n 0, 1) := by decide +kernel
theorem dX2_goal_70 : decode cX2_goal 70 = .ok (.invokevirtual 55, 3) := by decide +kernel
theorem dX2_goal_73 : decode cX2_goal 73 = .ok (.istore 6, 2) := by decide +kernel
theorem dX2_goal_75 : decode cX2_goal 75 = .ok (.iload 6, 2) := by decide +kernel
theorem dX2_goal_77 : decode cX2_goal 77 = .ok (.bipush (-2), 2) := by decide +kernel
theorem dX2_goal_79 : decode cX2_goal 79 = .ok (.if_icmp .ne 7, 3) := by decide +kernel
theorem dX2_goal_82 : decode cX2_goal 82 = .ok (.iload_n 2, 1) := by decide +kernel
theorem dX2_goal_83 : decode cX2_goal 83 = .ok (.goto 5, 3) := by decide +kernel
theorem dX2_goal_86 : decode cX2_goal 86 = .ok (.iload 6, 2) := by decide +kernel
theorem dX2_goal_88 : decode cX2_goal 88 = .ok (.ireturn, 1) := by decide +kernel
theorem dX2_lookDown_0 : decode cX2_lookDown 0 = .ok (.iconst 0, 1) := by decide +kernel
theorem dX2_lookDown_1 : decode cX2_lookDown 1 = .ok (.istore_n 3, 1) := by decide +kernel
theorem dX2_lookDown_2 : decode cX2_lookDown 2 = .ok (.iload_n 3, 1) := by decide +kernel
theorem dX2_lookDown_3 : decode cX2_lookDown 3 = .ok (.iconst 3, 1) := by decide +kernel
theorem dX2_lookDown_4 : decode cX2_lookDown 4 = .ok (.if_icmp .ge 46, 3) := by decide +kernel
theorem dX2_lookDown_7 : decode cX2_lookDown 7 = .ok (.iload_n 1, 1) := by decide +kernel
theorem dX2_lookDown_8 : decode cX2_lookDown 8 = .ok (.iload_n 3, 1) := by decide +kernel
theorem dX2_lookDown_9 : decode cX2_lookDown 9 = .ok (.invokestatic 59, 3) := by decide +kernel
theorem dX2_lookDown_12 : decode cX2_lookDown 12 = .ok (.istore 4, 2) := by decide +kernel
theorem dX2_lookDown_14 : decode cX2_lookDown 14 = .ok (.aload_n 0, 1) := by decide +kernel
theorem dX2_lookDown_15 : decode cX2_lookDown 15 = .ok (.getfield 28, 3) := by decide +kernel
theorem dX2_lookDown_18 : decode cX2_lookDown 18 = .ok (.iload_n 3, 1) := by decide +kernel
theorem dX2_lookDown_19 : decode cX2_lookDown 19 = .ok (.iload 4, 2) := by decide +kernel
theorem dX2_lookDown_21 : decode cX2_lookDown 21 = .ok (.bipush (-2), 2) := by decide +kernel
theorem dX2_lookDown_23 : decode cX2_lookDown 23 = .ok (.if_icmp .eq 18, 3) := by decide +kernel
theorem dX2_lookDown_26 : decode cX2_lookDown 26 = .ok (.aload_n 0, 1) := by decide +kernel
theorem dX2_lookDown_27 : decode cX2_lookDown 27 = .ok (.iload 4, 2) := by decide +kernel
theorem dX2_lookDown_29 : decode cX2_lookDown 29 = .ok (.invokevirtual 62, 3) := by decide +kernel
theorem dX2_lookDown_32 : decode cX2_lookDown 32 = .ok (.iload_n 2, 1) := by decide +kernel
theorem dX2_lookDown_33 : decode cX2_lookDown 33 = .ok (.if_icmp .gt 8, 3) := by decide +kernel
theorem dX2_lookDown_36 : decode cX2_lookDown 36 = .ok (.iload 4, 2) := by decide +kernel
theorem dX2_lookDown_38 : decode cX2_lookDown 38 = .ok (.goto 5, 3) := by decide +kernel
theorem dX2_lookDown_41 : decode cX2_lookDown 41 = .ok (.bipush (-2), 2) := by decide +kernel
theorem dX2_lookDown_43 : decode cX2_lookDown 43 = .ok (.iastore, 1) := by decide +kernel
theorem dX2_lookDown_44 : decode cX2_lookDown 44 = .ok (.iinc 3 1, 3) := by decide +kernel
theorem dX2_lookDown_47 : decode cX2_lookDown 47 = .ok (.goto (-45), 3) := by decide +kernel
theorem dX2_lookDown_50 : decode cX2_lookDown 50 = .ok (.return_, 1) := by decide +kernel
theorem dX2_ownChoice_0 : decode cX2_ownChoice 0 = .ok (.iload_n 1, 1) := by decide +kernel
theorem dX2_ownChoice_1 : decode cX2_ownChoice 1 = .ok (.tableswitch 75 2 7 #[39, 39, 46, 52, 39, 70], 39) := by decide +kernel
theorem dX2_ownChoice_40 : decode cX2_ownChoice 40 = .ok (.aload_n 0, 1) := by decide +kernel
theorem dX2_ownChoice_41 : decode cX2_ownChoice 41 = .ok (.getfield 28, 3) := by decide +kernel
theorem dX2_ownChoice_44 : decode cX2_ownChoice 44 = .ok (.iconst 0, 1) := by decide +kernel
theorem dX2_ownChoice_45 : decode cX2_ownChoice 45 = .ok (.iaload, 1) := by decide +kernel
theorem dX2_ownChoice_46 : decode cX2_ownChoice 46 = .ok (.ireturn, 1) := by decide +kernel
theorem dX2_ownChoice_47 : decode cX2_ownChoice 47 = .ok (.aload_n 0, 1) := by decide +kernel
theorem dX2_ownChoice_48 : decode cX2_ownChoice 48 = .ok (.iload_n 2, 1) := by decide +kernel
theorem dX2_ownChoice_49 : decode cX2_ownChoice 49 = .ok (.invokevirtual 66, 3) := by decide +kernel
theorem dX2_ownChoice_52 : decode cX2_ownChoice 52 = .ok (.ireturn, 1) := by decide +kernel
theorem dX2_ownChoice_53 : decode cX2_ownChoice 53 = .ok (.iload_n 2, 1) := by decide +kernel
theorem dX2_ownChoice_54 : decode cX2_ownChoice 54 = .ok (.iconst 3, 1) := by decide +kernel
theorem dX2_ownChoice_55 : decode cX2_ownChoice 55 = .ok (.irem, 1) := by decide +kernel
theorem dX2_ownChoice_56 : decode cX2_ownChoice 56 = .ok (.iconst 2, 1) := by decide +kernel
theorem dX2_ownChoice_57 : decode cX2_ownChoice 57 = .ok (.if_icmp .ne 8, 3) := by decide +kernel
theorem dX2_ownChoice_60 : decode cX2_ownChoice 60 = .ok (.bipush (-2), 2) := by decide +kernel
theorem dX2_ownChoice_62 : decode cX2_ownChoice 62 = .ok (.goto 8, 3) := by decide +kernel
theorem dX2_ownChoice_65 : decode cX2_ownChoice 65 = .ok (.aload_n 0, 1) := by decide +kernel
theorem dX2_ownChoice_66 : decode cX2_ownChoice 66 = .ok (.iload_n 2, 1) := by decide +kernel
theorem dX2_ownChoice_67 : decode cX2_ownChoice 67 = .ok (.invokevirtual 66, 3) := by decide +kernel
theorem dX2_ownChoice_70 : decode cX2_ownChoice 70 = .ok (.ireturn, 1) := by decide +kernel
theorem dX2_ownChoice_71 : decode cX2_ownChoice 71 = .ok (.aload_n 0, 1) := by decide +kernel
theorem dX2_ownChoice_72 : decode cX2_ownChoice 72 = .ok (.invokevirtual 69, 3) := by decide +kernel
theorem dX2_ownChoice_75 : decode cX2_ownChoice 75 = .ok (.ireturn, 1) := by decide +kernel
theorem dX2_ownChoice_76 : decode cX2_ownChoice 76 = .ok (.bipush (-2), 2) := by decide +kernel
theorem dX2_ownChoice_78 : decode cX2_ownChoice 78 = .ok (.ireturn, 1) := by decide +kernel
theorem dX2_sideways_0 : decode cX2_sideways 0 = .ok (.iload_n 1, 1) := by decide +kernel
theorem dX2_sideways_1 : decode cX2_sideways 1 = .ok (.iload_n 1, 1) := by decide +kernel
theorem dX2_sideways_2 : decode cX2_sideways 2 = .ok (.invokestatic 72, 3) := by decide +kernel
theorem dX2_sideways_5 : decode cX2_sideways 5 = .ok (.iconst 2, 1) := by decide +kernel
theorem dX2_sideways_6 : decode cX2_sideways 6 = .ok (.irem, 1) := by decide +kernel
theorem dX2_sideways_7 : decode cX2_sideways 7 = .ok (.ifCond .ne 7, 3) := by decide +kernel
theorem dX2_sideways_10 : decode cX2_sideways 10 = .ok (.iconst (-1), 1) := by decide +kernel
theorem dX2_sideways_11 : decode cX2_sideways 11 = .ok (.goto 4, 3) := by decide +kernel
theorem dX2_sideways_14 : decode cX2_sideways 14 = .ok (.iconst 1, 1) := by decide +kernel
theorem dX2_sideways_15 : decode cX2_sideways 15 = .ok (.invokestatic 75, 3) := by decide +kernel
theorem dX2_sideways_18 : decode cX2_sideways 18 = .ok (.istore_n 3, 1) := by decide +kernel
theorem dX2_sideways_19 : decode cX2_sideways 19 = .ok (.iload_n 3, 1) := by decide +kernel
theorem dX2_sideways_20 : decode cX2_sideways 20 = .ok (.bipush (-2), 2) := by decide +kernel
theorem dX2_sideways_22 : decode cX2_sideways 22 = .ok (.if_icmp .eq 16, 3) := by decide +kernel
theorem dX2_sideways_25 : decode cX2_sideways 25 = .ok (.aload_n 0, 1) := by decide +kernel
theorem dX2_sideways_26 : decode cX2_sideways 26 = .ok (.iload_n 3, 1) := by decide +kernel
theorem dX2_sideways_27 : decode cX2_sideways 27 = .ok (.invokevirtual 62, 3) := by decide +kernel
theorem dX2_sideways_30 : decode cX2_sideways 30 = .ok (.iload_n 2, 1) := by decide +kernel
theorem dX2_sideways_31 : decode cX2_sideways 31 = .ok (.if_icmp .gt 7, 3) := by decide +kernel
theorem dX2_sideways_34 : decode cX2_sideways 34 = .ok (.iload_n 3, 1) := by decide +kernel
theorem dX2_sideways_35 : decode cX2_sideways 35 = .ok (.goto 5, 3) := by decide +kernel
theorem dX2_sideways_38 : decode cX2_sideways 38 = .ok (.bipush (-2), 2) := by decide +kernel
theorem dX2_sideways_40 : decode cX2_sideways 40 = .ok (.ireturn, 1) := by decide +kernel
theorem dX2_swing_0 : decode cX2_swing 0 = .ok (.iload_n 1, 1) := by decide +kernel
theorem dX2_swing_1 : decode cX2_swing 1 = .ok (.iconst 2, 1) := by decide +kernel
theorem dX2_swing_2 : decode cX2_swing 2 = .ok (.irem, 1) := by decide +kernel
theorem dX2_swing_3 : decode cX2_swing 3 = .ok (.ifCond .ne 12, 3) := by decide +kernel
theorem dX2_swing_6 : decode cX2_swing 6 = .ok (.aload_n 0, 1) := by decide +kernel
theorem dX2_swing_7 : decode cX2_swing 7 = .ok (.getfield 28, 3) := by decide +kernel
theorem dX2_swing_10 : decode cX2_swing 10 = .ok (.iconst 1, 1) := by decide +kernel
theorem dX2_swing_11 : decode cX2_swing 11 = .ok (.iaload, 1) := by decide +kernel
theorem dX2_swing_12 : decode cX2_swing 12 = .ok (.goto 9, 3) := by decide +kernel
theorem dX2_swing_15 : decode cX2_swing 15 = .ok (.aload_n 0, 1) := by decide +kernel
theorem dX2_swing_16 : decode cX2_swing 16 = .ok (.getfield 28, 3) := by decide +kernel
theorem dX2_swing_19 : decode cX2_swing 19 = .ok (.iconst 2, 1) := by decide +kernel
theorem dX2_swing_20 : decode cX2_swing 20 = .ok (.iaload, 1) := by decide +kernel
theorem dX2_swing_21 : decode cX2_swing 21 = .ok (.ireturn, 1) := by decide +kernel
theorem dX2_softest_0 : decode cX2_softest 0 = .ok (.bipush (-2), 2) := by decide +kernel
theorem dX2_softest_2 : decode cX2_softest 2 = .ok (.istore_n 1, 1) := by decide +kernel
theorem dX2_softest_3 : decode cX2_softest 3 = .ok (.iconst 0, 1) := by decide +kernel
theorem dX2_softest_4 : decode cX2_softest 4 = .ok (.istore_n 2, 1) := by decide +kernel
theorem dX2_softest_5 : decode cX2_softest 5 = .ok (.aload_n 0, 1) := by decide +kernel
theorem dX2_softest_6 : decode cX2_softest 6 = .ok (.getfield 28, 3) := by decide +kernel
theorem dX2_softest_9 : decode cX2_softest 9 = .ok (.astore_n 3, 1) := by decide +kernel
theorem dX2_softest_10 : decode cX2_softest 10 = .ok (.aload_n 3, 1) := by decide +kernel
theorem dX2_softest_11 : decode cX2_softest 11 = .ok (.arraylength, 1) := by decide +kernel
theorem dX2_softest_12 : decode cX2_softest 12 = .ok (.istore 4, 2) := by decide +kernel
theorem dX2_softest_14 : decode cX2_softest 14 = .ok (.iconst 0, 1) := by decide +kernel
theorem dX2_softest_15 : decode cX2_softest 15 = .ok (.istore 5, 2) := by decide +kernel
theorem dX2_softest_17 : decode cX2_softest 17 = .ok (.iload 5, 2) := by decide +kernel
theorem dX2_softest_19 : decode cX2_softest 19 = .ok (.iload 4, 2) := by decide +kernel
theorem dX2_softest_21 : decode cX2_softest 21 = .ok (.if_icmp .ge 48, 3) := by decide +kernel
theorem dX2_softest_24 : decode cX2_softest 24 = .ok (.aload_n 3, 1) := by decide +kernel
theorem dX2_softest_25 : decode cX2_softest 25 = .ok (.iload 5, 2) := by decide +kernel
theorem dX2_softest_27 : decode cX2_softest 27 = .ok (.iaload, 1) := by decide +kernel
theorem dX2_softest_28 : decode cX2_softest 28 = .ok (.istore 6, 2) := by decide +kernel
theorem dX2_softest_30 : decode cX2_softest 30 = .ok (.iload 6, 2) := by decide +kernel
theorem dX2_softest_32 : decode cX2_softest 32 = .ok (.bipush (-2), 2) := by decide +kernel
theorem dX2_softest_34 : decode cX2_softest 34 = .ok (.if_icmp .eq 29, 3) := by decide +kernel
theorem dX2_softest_37 : decode cX2_softest 37 = .ok (.iload_n 1, 1) := by decide +kernel
theorem dX2_softest_38 : decode cX2_softest 38 = .ok (.bipush (-2), 2) := by decide +kernel
theorem dX2_softest_40 : decode cX2_softest 40 = .ok (.if_icmp .eq 13, 3) := by decide +kernel
theorem dX2_softest_43 : decode cX2_softest 43 = .ok (.aload_n 0, 1) := by decide +kernel
theorem dX2_softest_44 : decode cX2_softest 44 = .ok (.iload 6, 2) := by decide +kernel
theorem dX2_softest_46 : decode cX2_softest 46 = .ok (.invokevirtual 62, 3) := by decide +kernel
theorem dX2_softest_49 : decode cX2_softest 49 = .ok (.iload_n 2, 1) := by decide +kernel
theorem dX2_softest_50 : decode cX2_softest 50 = .ok (.if_icmp .ge 13, 3) := by decide +kernel
theorem dX2_softest_53 : decode cX2_softest 53 = .ok (.iload 6, 2) := by decide +kernel
theorem dX2_softest_55 : decode cX2_softest 55 = .ok (.istore_n 1, 1) := by decide +kernel
theorem dX2_softest_56 : decode cX2_softest 56 = .ok (.aload_n 0, 1) := by decide +kernel
theorem dX2_softest_57 : decode cX2_softest 57 = .ok (.iload 6, 2) := by decide +kernel
theorem dX2_softest_59 : decode cX2_softest 59 = .ok (.invokevirtual 62, 3) := by decide +kernel
theorem dX2_softest_62 : decode cX2_softest 62 = .ok (.istore_n 2, 1) := by decide +kernel
theorem dX2_softest_63 : decode cX2_softest 63 = .ok (.iinc 5 1, 3) := by decide +kernel
theorem dX2_softest_66 : decode cX2_softest 66 = .ok (.goto (-49), 3) := by decide +kernel
theorem dX2_softest_69 : decode cX2_softest 69 = .ok (.iload_n 1, 1) := by decide +kernel
theorem dX2_softest_70 : decode cX2_softest 70 = .ok (.ireturn, 1) := by decide +kernel
theorem dX2_wettest_0 : decode cX2_wettest 0 = .ok (.bipush (-2), 2) := by decide +kernel
theorem dX2_wettest_2 : decode cX2_wettest 2 = .ok (.istore_n 1, 1) := by decide +kernel
theorem dX2_wettest_3 : decode cX2_wettest 3 = .ok (.iconst 0, 1) := by decide +kernel
theorem dX2_wettest_4 : decode cX2_wettest 4 = .ok (.istore_n 2, 1) := by decide +kernel
theorem dX2_wettest_5 : decode cX2_wettest 5 = .ok (.aload_n 0, 1) := by decide +kernel
theorem dX2_wettest_6 : decode cX2_wettest 6 = .ok (.getfield 28, 3) := by decide +kernel
theorem dX2_wettest_9 : decode cX2_wettest 9 = .ok (.astore_n 3, 1) := by decide +kernel
theorem dX2_wettest_10 : decode cX2_wettest 10 = .ok (.aload_n 3, 1) := by decide +kernel
theorem dX2_wettest_11 : decode cX2_wettest 11 = .ok (.arraylength, 1) := by decide +kernel
theorem dX2_wettest_12 : decode cX2_wettest 12 = .ok (.istore 4, 2) := by decide +kernel
theorem dX2_wettest_14 : decode cX2_wettest 14 = .ok (.iconst 0, 1) := by decide +kernel
theorem dX2_wettest_15 : decode cX2_wettest 15 = .ok (.istore 5, 2) := by decide +kernel
theorem dX2_wettest_17 : decode cX2_wettest 17 = .ok (.iload 5, 2) := by decide +kernel
theorem dX2_wettest_19 : decode cX2_wettest 19 = .ok (.iload 4, 2) := by decide +kernel
theorem dX2_wettest_21 : decode cX2_wettest 21 = .ok (.if_icmp .ge 44, 3) := by decide +kernel
theorem dX2_wettest_24 : decode cX2_wettest 24 = .ok (.aload_n 3, 1) := by decide +kernel
theorem dX2_wettest_25 : decode cX2_wettest 25 = .ok (.iload 5, 2) := by decide +kernel
theorem dX2_wettest_27 : decode cX2_wettest 27 = .ok (.iaload, 1) := by decide +kernel
theorem dX2_wettest_28 : decode cX2_wettest 28 = .ok (.istore 6, 2) := by decide +kernel
theorem dX2_wettest_30 : decode cX2_wettest 30 = .ok (.iload 6, 2) := by decide +kernel
theorem dX2_wettest_32 : decode cX2_wettest 32 = .ok (.bipush (-2), 2) := by decide +kernel
theorem dX2_wettest_34 : decode cX2_wettest 34 = .ok (.if_icmp .eq 25, 3) := by decide +kernel
theorem dX2_wettest_37 : decode cX2_wettest 37 = .ok (.aload_n 0, 1) := by decide +kernel
theorem dX2_wettest_38 : decode cX2_wettest 38 = .ok (.getfield 15, 3) := by decide +kernel
theorem dX2_wettest_41 : decode cX2_wettest 41 = .ok (.iload 6, 2) := by decide +kernel
theorem dX2_wettest_43 : decode cX2_wettest 43 = .ok (.iaload, 1) := by decide +kernel
theorem dX2_wettest_44 : decode cX2_wettest 44 = .ok (.iload_n 2, 1) := by decide +kernel
theorem dX2_wettest_45 : decode cX2_wettest 45 = .ok (.if_icmp .le 14, 3) := by decide +kernel
theorem dX2_wettest_48 : decode cX2_wettest 48 = .ok (.iload 6, 2) := by decide +kernel
theorem dX2_wettest_50 : decode cX2_wettest 50 = .ok (.istore_n 1, 1) := by decide +kernel
theorem dX2_wettest_51 : decode cX2_wettest 51 = .ok (.aload_n 0, 1) := by decide +kernel
theorem dX2_wettest_52 : decode cX2_wettest 52 = .ok (.getfield 15, 3) := by decide +kernel
theorem dX2_wettest_55 : decode cX2_wettest 55 = .ok (.iload 6, 2) := by decide +kernel
theorem dX2_wettest_57 : decode cX2_wettest 57 = .ok (.iaload, 1) := by decide +kernel
theorem dX2_wettest_58 : decode cX2_wettest 58 = .ok (.istore_n 2, 1) := by decide +kernel
theorem dX2_wettest_59 : decode cX2_wettest 59 = .ok (.iinc 5 1, 3) := by decide +kernel
theorem dX2_wettest_62 : decode cX2_wettest 62 = .ok (.goto (-45), 3) := by decide +kernel
theorem dX2_wettest_65 : decode cX2_wettest 65 = .ok (.iload_n 1, 1) := by decide +kernel
theorem dX2_wettest_66 : decode cX2_wettest 66 = .ok (.ireturn, 1) := by decide +kernel
theorem dX3_init_0 : decode cX3_init 0 = .ok (.aload_n 0, 1) := by decide +kernel
theorem dX3_init_1 : decode cX3_init 1 = .ok (.invokespecial 3, 3) := by decide +kernel
theorem dX3_init_4 : decode cX3_init 4 = .ok (.aload_n 0, 1) := by decide +kernel
theorem dX3_init_5 : decode cX3_init 5 = .ok (.iconst 0, 1) := by decide +kernel
theorem dX3_init_6 : decode cX3_init 6 = .ok (.putfield 9, 3) := by decide +kernel
theorem dX3_init_9 : decode cX3_init 9 = .ok (.aload_n 0, 1) := by decide +kernel
theorem dX3_init_10 : decode cX3_init 10 = .ok (.bipush 6, 2) := by decide +kernel
theorem dX3_init_12 : decode cX3_init 12 = .ok (.newarray .int, 2) := by decide +kernel
theorem dX3_init_14 : decode cX3_init 14 = .ok (.putfield 15, 3) := by decide +kernel
theorem dX3_init_17 : decode cX3_init 17 = .ok (.aload_n 0, 1) := by decide +kernel
theorem dX3_init_18 : decode cX3_init 18 = .ok (.bipush 72, 2) := by decide +kernel
theorem dX3_init_20 : decode cX3_init 20 = .ok (.newarray .int, 2) := by decide +kernel
theorem dX3_init_22 : decode cX3_init 22 = .ok (.putfield 19, 3) := by decide +kernel
theorem dX3_init_25 : decode cX3_init 25 = .ok (.aload_n 0, 1) := by decide +kernel
theorem dX3_init_26 : decode cX3_init 26 = .ok (.bipush 72, 2) := by decide +kernel
theorem dX3_init_28 : decode cX3_init 28 = .ok (.newarray .int, 2) := by decide +kernel
theorem dX3_init_30 : decode cX3_init 30 = .ok (.putfield 22, 3) := by decide +kernel
theorem dX3_init_33 : decode cX3_init 33 = .ok (.aload_n 0, 1) := by decide +kernel
theorem dX3_init_34 : decode cX3_init 34 = .ok (.bipush 72, 2) := by decide +kernel
theorem dX3_init_36 : decode cX3_init 36 = .ok (.newarray .int, 2) := by decide +kernel
theorem dX3_init_38 : decode cX3_init 38 = .ok (.putfield 25, 3) := by decide +kernel
theorem dX3_init_41 : decode cX3_init 41 = .ok (.return_, 1) := by decide +kernel
theorem dX3_become_0 : decode cX3_become 0 = .ok (.aload_n 0, 1) := by decide +kernel
theorem dX3_become_1 : decode cX3_become 1 = .ok (.aload_n 1, 1) := by decide +kernel
theorem dX3_become_2 : decode cX3_become 2 = .ok (.getfield 9, 3) := by decide +kernel
theorem dX3_become_5 : decode cX3_become 5 = .ok (.putfield 9, 3) := by decide +kernel
theorem dX3_become_8 : decode cX3_become 8 = .ok (.aload_n 1, 1) := by decide +kernel
theorem dX3_become_9 : decode cX3_become 9 = .ok (.getfield 15, 3) := by decide +kernel
theorem dX3_become_12 : decode cX3_become 12 = .ok (.aload_n 0, 1) := by decide +kernel
theorem dX3_become_13 : decode cX3_become 13 = .ok (.getfield 15, 3) := by decide +kernel
theorem dX3_become_16 : decode cX3_become 16 = .ok (.invokestatic 28, 3) := by decide +kernel
theorem dX3_become_19 : decode cX3_become 19 = .ok (.aload_n 1, 1) := by decide +kernel
theorem dX3_become_20 : decode cX3_become 20 = .ok (.getfield 19, 3) := by decide +kernel
theorem dX3_become_23 : decode cX3_become 23 = .ok (.aload_n 0, 1) := by decide +kernel
theorem dX3_become_24 : decode cX3_become 24 = .ok (.getfield 19, 3) := by decide +kernel
theorem dX3_become_27 : decode cX3_become 27 = .ok (.invokestatic 28, 3) := by decide +kernel
theorem dX3_become_30 : decode cX3_become 30 = .ok (.aload_n 1, 1) := by decide +kernel
theorem dX3_become_31 : decode cX3_become 31 = .ok (.getfield 22, 3) := by decide +kernel
theorem dX3_become_34 : decode cX3_become 34 = .ok (.aload_n 0, 1) := by decide +kernel
theorem dX3_become_35 : decode cX3_become 35 = .ok (.getfield 22, 3) := by decide +kernel
theorem dX3_become_38 : decode cX3_become 38 = .ok (.invokestatic 28, 3) := by decide +kernel
theorem dX3_become_41 : decode cX3_become 41 = .ok (.aload_n 1, 1) := by decide +kernel
theorem dX3_become_42 : decode cX3_become 42 = .ok (.getfield 25, 3) := by decide +kernel
theorem dX3_become_45 : decode cX3_become 45 = .ok (.aload_n 0, 1) := by decide +kernel
theorem dX3_become_46 : decode cX3_become 46 = .ok (.getfield 25, 3) := by decide +kernel
theorem dX3_become_49 : decode cX3_become 49 = .ok (.invokestatic 28, 3) := by decide +kernel
theorem dX3_become_52 : decode cX3_become 52 = .ok (.return_, 1) := by decide +kernel
theorem dX3_put_0 : decode cX3_put 0 = .ok (.aload_n 0, 1) := by decide +kernel
theorem dX3_put_1 : decode cX3_put 1 = .ok (.getfield 19, 3) := by decide +kernel
theorem dX3_put_4 : decode cX3_put 4 = .ok (.iload_n 1, 1) := by decide +kernel
theorem dX3_put_5 : decode cX3_put 5 = .ok (.iload_n 2, 1) := by decide +kernel
theorem dX3_put_6 : decode cX3_put 6 = .ok (.iastore, 1) := by decide +kernel
theorem dX3_put_7 : decode cX3_put 7 = .ok (.aload_n 0, 1) := by decide +kernel
theorem dX3_put_8 : decode cX3_put 8 = .ok (.getfield 22, 3) := by decide +kernel
theorem dX3_put_11 : decode cX3_put 11 = .ok (.iload_n 1, 1) := by decide +kernel
theorem dX3_put_12 : decode cX3_put 12 = .ok (.iload_n 3, 1) := by decide +kernel
theorem dX3_put_13 : decode cX3_put 13 = .ok (.iastore, 1) := by decide +kernel
theorem dX3_put_14 : decode cX3_put 14 = .ok (.aload_n 0, 1) := by decide +kernel
theorem dX3_put_15 : decode cX3_put 15 = .ok (.getfield 25, 3) := by decide +kernel
theorem dX3_put_18 : decode cX3_put 18 = .ok (.iload_n 1, 1) := by decide +kernel
theorem dX3_put_19 : decode cX3_put 19 = .ok (.iload 4, 2) := by decide +kernel
theorem dX3_put_21 : decode cX3_put 21 = .ok (.iastore, 1) := by decide +kernel
theorem dX3_put_22 : decode cX3_put 22 = .ok (.return_, 1) := by decide +kernel
theorem dX3_ticksOf_0 : decode cX3_ticksOf 0 = .ok (.iconst 0, 1) := by decide +kernel
theorem dX3_ticksOf_1 : decode cX3_ticksOf 1 = .ok (.istore_n 2, 1) := by decide +kernel
theorem dX3_ticksOf_2 : decode cX3_ticksOf 2 = .ok (.iconst 0, 1) := by decide +kernel
theorem dX3_ticksOf_3 : decode cX3_ticksOf 3 = .ok (.istore_n 3, 1) := by decide +kernel
theorem dX3_ticksOf_4 : decode cX3_ticksOf 4 = .ok (.iload_n 3, 1) := by decide +kernel
theorem dX3_ticksOf_5 : decode cX3_ticksOf 5 = .ok (.aload_n 0, 1) := by decide +kernel
theorem dX3_ticksOf_6 : decode cX3_ticksOf 6 = .ok (.getfield 15, 3) := by decide +kernel
theorem dX3_ticksOf_9 : decode cX3_ticksOf 9 = .ok (.iload_n 1, 1) := by decide +kernel
theorem dX3_ticksOf_10 : decode cX3_ticksOf 10 = .ok (.iaload, 1) := by decide +kernel
theorem dX3_ticksOf_11 : decode cX3_ticksOf 11 = .ok (.if_icmp .ge 39, 3) := by decide +kernel
theorem dX3_ticksOf_14 : decode cX3_ticksOf 14 = .ok (.iload_n 1, 1) := by decide +kernel
theorem dX3_ticksOf_15 : decode cX3_ticksOf 15 = .ok (.bipush 12, 2) := by decide +kernel
theorem dX3_ticksOf_17 : decode cX3_ticksOf 17 = .ok (.imul, 1) := by decide +kernel
theorem dX3_ticksOf_18 : decode cX3_ticksOf 18 = .ok (.iload_n 3, 1) := by decide +kernel
theorem dX3_ticksOf_19 : decode cX3_ticksOf 19 = .ok (.iadd, 1) := by decide +kernel
theorem dX3_ticksOf_20 : decode cX3_ticksOf 20 = .ok (.istore 4, 2) := by decide +kernel
theorem dX3_ticksOf_22 : decode cX3_ticksOf 22 = .ok (.aload_n 0, 1) := by decide +kernel
theorem dX3_ticksOf_23 : decode cX3_ticksOf 23 = .ok (.getfield 19, 3) := by decide +kernel
theorem dX3_ticksOf_26 : decode cX3_ticksOf 26 = .ok (.iload 4, 2) := by decide +kernel
theorem dX3_ticksOf_28 : decode cX3_ticksOf 28 = .ok (.iaload, 1) := by decide +kernel
theorem dX3_ticksOf_29 : decode cX3_ticksOf 29 = .ok (.bipush 8, 2) := by decide +kernel
theorem dX3_ticksOf_31 : decode cX3_ticksOf 31 = .ok (.if_icmp .ne 13, 3) := by decide +kernel
theorem dX3_ticksOf_34 : decode cX3_ticksOf 34 = .ok (.iload_n 2, 1) := by decide +kernel
theorem dX3_ticksOf_35 : decode cX3_ticksOf 35 = .ok (.aload_n 0, 1) := by decide +kernel
theorem dX3_ticksOf_36 : decode cX3_ticksOf 36 = .ok (.getfield 22, 3) := by decide +kernel
theorem dX3_ticksOf_39 : decode cX3_ticksOf 39 = .ok (.iload 4, 2) := by decide +kernel
theorem dX3_ticksOf_41 : decode cX3_ticksOf 41 = .ok (.iaload, 1) := by decide +kernel
theorem dX3_ticksOf_42 : decode cX3_ticksOf 42 = .ok (.iadd, 1) := by decide +kernel
theorem dX3_ticksOf_43 : decode cX3_ticksOf 43 = .ok (.istore_n 2, 1) := by decide +kernel
theorem dX3_ticksOf_44 : decode cX3_ticksOf 44 = .ok (.iinc 3 1, 3) := by decide +kernel
theorem dX3_ticksOf_47 : decode cX3_ticksOf 47 = .ok (.goto (-43), 3) := by decide +kernel
theorem dX3_ticksOf_50 : decode cX3_ticksOf 50 = .ok (.iload_n 2, 1) := by decide +kernel
theorem dX3_ticksOf_51 : decode cX3_ticksOf 51 = .ok (.ireturn, 1) := by decide +kernel
theorem dX4_init_0 : decode cX4_init 0 = .ok (.aload_n 0, 1) := by decide +kernel
theorem dX4_init_1 : decode cX4_init 1 = .ok (.invokespecial 3, 3) := by decide +kernel
theorem dX4_init_4 : decode cX4_init 4 = .ok (.aload_n 0, 1) := by decide +kernel
theorem dX4_init_5 : decode cX4_init 5 = .ok (.aload_n 1, 1) := by decide +kernel
theorem dX4_init_6 : decode cX4_init 6 = .ok (.putfield 9, 3) := by decide +kernel
theorem dX4_init_9 : decode cX4_init 9 = .ok (.return_, 1) := by decide +kernel
theorem dX4_readText_0 : decode cX4_readText 0 = .ok (.aload_n 0, 1) := by decide +kernel
theorem dX4_readText_1 : decode cX4_readText 1 = .ok (.iconst 0, 1) := by decide +kernel
theorem dX4_readText_2 : decode cX4_readText 2 = .ok (.putfield 15, 3) := by decide +kernel
theorem dX4_readText_5 : decode cX4_readText 5 = .ok (.aload_n 0, 1) := by decide +kernel
theorem dX4_readText_6 : decode cX4_readText 6 = .ok (.invokevirtual 19, 3) := by decide +kernel
theorem dX4_readText_9 : decode cX4_readText 9 = .ok (.aload_n 1, 1) := by decide +kernel
theorem dX4_readText_10 : decode cX4_readText 10 = .ok (.getfield 22, 3) := by decide +kernel
theorem dX4_readText_13 : decode cX4_readText 13 = .ok (.bipush 12, 2) := by decide +kernel
theorem dX4_readText_15 : decode cX4_readText 15 = .ok (.imul, 1) := by decide +kernel
theorem dX4_readText_16 : decode cX4_readText 16 = .ok (.istore_n 2, 1) := by decide +kernel
theorem dX4_readText_17 : decode cX4_readText 17 = .ok (.iconst 0, 1) := by decide +kernel
theorem dX4_readText_18 : decode cX4_readText 18 = .ok (.istore_n 3, 1) := by decide +kernel
theorem dX4_readText_19 : decode cX4_readText 19 = .ok (.iload_n 3, 1) := by decide +kernel
theorem dX4_readText_20 : decode cX4_readText 20 = .ok (.bipush 12, 2) := by decide +kernel
theorem dX4_readText_22 : decode cX4_readText 22 = .ok (.if_icmp .ge 76, 3) := by decide +kernel
theorem dX4_readText_25 : decode cX4_readText 25 = .ok (.aload_n 0, 1) := by decide +kernel
theorem dX4_readText_26 : decode cX4_readText 26 = .ok (.aload_n 1, 1) := by decide +kernel
theorem dX4_readText_27 : decode cX4_readText 27 = .ok (.iload_n 2, 1) := by decide +kernel
theorem dX4_readText_28 : decode cX4_readText 28 = .ok (.iload_n 3, 1) := by decide +kernel
theorem dX4_readText_29 : decode cX4_readText 29 = .ok (.iadd, 1) := by decide +kernel
theorem dX4_readText_30 : decode cX4_readText 30 = .ok (.invokevirtual 27, 3) := by decide +kernel
theorem dX4_readText_33 : decode cX4_readText 33 = .ok (.istore 4, 2) := by decide +kernel
theorem dX4_readText_35 : decode cX4_readText 35 = .ok (.iload 4, 2) := by decide +kernel
theorem dX4_readText_37 : decode cX4_readText 37 = .ok (.iconst (-1), 1) := by decide +kernel
theorem dX4_readText_38 : decode cX4_readText 38 = .ok (.if_icmp .eq 6, 3) := by decide +kernel
theorem dX4_readText_41 : decode cX4_readText 41 = .ok (.iload 4, 2) := by decide +kernel
theorem dX4_readText_43 : decode cX4_readText 43 = .ok (.ireturn, 1) := by decide +kernel
theorem dX4_readText_44 : decode cX4_readText 44 = .ok (.aload_n 0, 1) := by decide +kernel
theorem dX4_readText_45 : decode cX4_readText 45 = .ok (.getfield 31, 3) := by decide +kernel
theorem dX4_readText_48 : decode cX4_readText 48 = .ok (.ifCond .ne 27, 3) := by decide +kernel
theorem dX4_readText_51 : decode cX4_readText 51 = .ok (.aload_n 1, 1) := by decide +kernel
theorem dX4_readText_52 : decode cX4_readText 52 = .ok (.getfield 34, 3) := by decide +kernel
theorem dX4_readText_55 : decode cX4_readText 55 = .ok (.aload_n 1, 1) := by decide +kernel
theorem dX4_readText_56 : decode cX4_readText 56 = .ok (.getfield 22, 3) := by decide +kernel
theorem dX4_readText_59 : decode cX4_readText 59 = .ok (.iload_n 3, 1) := by decide +kernel
theorem dX4_readText_60 : decode cX4_readText 60 = .ok (.iconst 1, 1) := by decide +kernel
theorem dX4_readText_61 : decode cX4_readText 61 = .ok (.iadd, 1) := by decide +kernel
theorem dX4_readText_62 : decode cX4_readText 62 = .ok (.iastore, 1) := by decide +kernel
theorem dX4_readText_63 : decode cX4_readText 63 = .ok (.aload_n 1, 1) := by decide +kernel
theorem dX4_readText_64 : decode cX4_readText 64 = .ok (.dup, 1) := by decide +kernel
theorem dX4_readText_65 : decode cX4_readText 65 = .ok (.getfield 22, 3) := by decide +kernel
theorem dX4_readText_68 : decode cX4_readText 68 = .ok (.iconst 1, 1) := by decide +kernel
theorem dX4_readText_69 : decode cX4_readText 69 = .ok (.iadd, 1) := by decide +kernel
theorem dX4_readText_70 : decode cX4_readText 70 = .ok (.putfield 22, 3) := by decide +kernel
theorem dX4_readText_73 : decode cX4_readText 73 = .ok (.iconst (-1), 1) := by decide +kernel
theorem dX4_readText_74 : decode cX4_readText 74 = .ok (.ireturn, 1) := by decide +kernel
theorem dX4_readText_75 : decode cX4_readText 75 = .ok (.aload_n 0, 1) := by decide +kernel
theorem dX4_readText_76 : decode cX4_readText 76 = .ok (.getfield 31, 3) := by decide +kernel
theorem dX4_readText_79 : decode cX4_readText 79 = .ok (.iconst 3, 1) := by decide +kernel
theorem dX4_readText_80 : decode cX4_readText 80 = .ok (.if_icmp .eq 8, 3) := by decide +kernel
theorem dX4_readText_83 : decode cX4_readText 83 = .ok (.aload_n 0, 1) := by decide +kernel
theorem dX4_readText_84 : decode cX4_readText 84 = .ok (.getfield 38, 3) := by decide +kernel
theorem dX4_readText_87 : decode cX4_readText 87 = .ok (.ireturn, 1) := by decide +kernel
theorem dX4_readText_88 : decode cX4_readText 88 = .ok (.aload_n 0, 1) := by decide +kernel
theorem dX4_readText_89 : decode cX4_readText 89 = .ok (.invokevirtual 19, 3) := by decide +kernel
theorem dX4_readText_92 : decode cX4_readText 92 = .ok (.iinc 3 1, 3) := by decide +kernel
theorem dX4_readText_95 : decode cX4_readText 95 = .ok (.goto (-76), 3) := by decide +kernel
theorem dX4_readText_98 : decode cX4_readText 98 = .ok (.aload_n 0, 1) := by decide +kernel
theorem dX4_readText_99 : decode cX4_readText 99 = .ok (.getfield 38, 3) := by decide +kernel
theorem dX4_readText_102 : decode cX4_readText 102 = .ok (.ireturn, 1) := by decide +kernel
theorem dX4_readDeed_0 : decode cX4_readDeed 0 = .ok (.aload_n 0, 1) := by decide +kernel
theorem dX4_readDeed_1 : decode cX4_readDeed 1 = .ok (.getfield 31, 3) := by decide +kernel
theorem dX4_readDeed_4 : decode cX4_readDeed 4 = .ok (.iconst 1, 1) := by decide +kernel
theorem dX4_readDeed_5 : decode cX4_readDeed 5 = .ok (.if_icmp .ne 10, 3) := by decide +kernel
theorem dX4_readDeed_8 : decode cX4_readDeed 8 = .ok (.aload_n 0, 1) := by decide +kernel
theorem dX4_readDeed_9 : decode cX4_readDeed 9 = .ok (.invokevirtual 41, 3) := by decide +kernel
theorem dX4_readDeed_12 : decode cX4_readDeed 12 = .ok (.goto 4, 3) := by decide +kernel
theorem dX4_readDeed_15 : decode cX4_readDeed 15 = .ok (.iconst (-1), 1) := by decide +kernel
theorem dX4_readDeed_16 : decode cX4_readDeed 16 = .ok (.istore_n 3, 1) := by decide +kernel
theorem dX4_readDeed_17 : decode cX4_readDeed 17 = .ok (.iload_n 3, 1) := by decide +kernel
theorem dX4_readDeed_18 : decode cX4_readDeed 18 = .ok (.iconst (-1), 1) := by decide +kernel
theorem dX4_readDeed_19 : decode cX4_readDeed 19 = .ok (.if_icmp .ne 8, 3) := by decide +kernel
theorem dX4_readDeed_22 : decode cX4_readDeed 22 = .ok (.aload_n 0, 1) := by decide +kernel
theorem dX4_readDeed_23 : decode cX4_readDeed 23 = .ok (.getfield 38, 3) := by decide +kernel
theorem dX4_readDeed_26 : decode cX4_readDeed 26 = .ok (.ireturn, 1) := by decide +kernel
theorem dX4_readDeed_27 : decode cX4_readDeed 27 = .ok (.aload_n 0, 1) := by decide +kernel
theorem dX4_readDeed_28 : decode cX4_readDeed 28 = .ok (.invokevirtual 19, 3) := by decide +kernel
theorem dX4_readDeed_31 : decode cX4_readDeed 31 = .ok (.iload_n 3, 1) := by decide +kernel
theorem dX4_readDeed_32 : decode cX4_readDeed 32 = .ok (.bipush 11, 2) := by decide +kernel
theorem dX4_readDeed_34 : decode cX4_readDeed 34 = .ok (.if_icmp .ne 15, 3) := by decide +kernel
theorem dX4_readDeed_37 : decode cX4_readDeed 37 = .ok (.aload_n 0, 1) := by decide +kernel
theorem dX4_readDeed_38 : decode cX4_readDeed 38 = .ok (.getfield 31, 3) := by decide +kernel
theorem dX4_readDeed_41 : decode cX4_readDeed 41 = .ok (.iconst 4, 1) := by decide +kernel
theorem dX4_readDeed_42 : decode cX4_readDeed 42 = .ok (.if_icmp .ne 7, 3) := by decide +kernel
theorem dX4_readDeed_45 : decode cX4_readDeed 45 = .ok (.iconst 1, 1) := by decide +kernel
theorem dX4_readDeed_46 : decode cX4_readDeed 46 = .ok (.goto 4, 3) := by decide +kernel
theorem dX4_readDeed_49 : decode cX4_readDeed 49 = .ok (.iconst 0, 1) := by decide +kernel
theorem dX4_readDeed_50 : decode cX4_readDeed 50 = .ok (.istore 4, 2) := by decide +kernel
theorem dX4_readDeed_52 : decode cX4_readDeed 52 = .ok (.iload 4, 2) := by decide +kernel
theorem dX4_readDeed_54 : decode cX4_readDeed 54 = .ok (.ifCond .eq 7, 3) := by decide +kernel
theorem dX4_readDeed_57 : decode cX4_readDeed 57 = .ok (.aload_n 0, 1) := by decide +kernel
theorem dX4_readDeed_58 : decode cX4_readDeed 58 = .ok (.invokevirtual 19, 3) := by decide +kernel
theorem dX4_readDeed_61 : decode cX4_readDeed 61 = .ok (.aload_n 0, 1) := by decide +kernel
theorem dX4_readDeed_62 : decode cX4_readDeed 62 = .ok (.getstatic 45, 3) := by decide +kernel
theorem dX4_readDeed_65 : decode cX4_readDeed 65 = .ok (.iload_n 3, 1) := by decide +kernel
theorem dX4_readDeed_66 : decode cX4_readDeed 66 = .ok (.iaload, 1) := by decide +kernel
theorem dX4_readDeed_67 : decode cX4_readDeed 67 = .ok (.getstatic 48, 3) := by decide +kernel
theorem dX4_readDeed_70 : decode cX4_readDeed 70 = .ok (.iload_n 3, 1) := by decide +kernel
theorem dX4_readDeed_71 : decode cX4_readDeed 71 = .ok (.iaload, 1) := by decide +kernel
theorem dX4_readDeed_72 : decode cX4_readDeed 72 = .ok (.invokevirtual 51, 3) := by decide +kernel
theorem dX4_readDeed_75 : decode cX4_readDeed 75 = .ok (.ifCond .ne 8, 3) := by decide +kernel
theorem dX4_readDeed_78 : decode cX4_readDeed 78 = .ok (.aload_n 0, 1) := by decide +kernel
theorem dX4_readDeed_79 : decode cX4_readDeed 79 = .ok (.getfield 38, 3) := by decide +kernel
theorem dX4_readDeed_82 : decode cX4_readDeed 82 = .ok (.ireturn, 1) := by decide +kernel
theorem dX4_readDeed_83 : decode cX4_readDeed 83 = .ok (.iload 4, 2) := by decide +kernel
theorem dX4_readDeed_85 : decode cX4_readDeed 85 = .ok (.ifCond .eq 11, 3) := by decide +kernel
theorem dX4_readDeed_88 : decode cX4_readDeed 88 = .ok (.aload_n 0, 1) := by decide +kernel
theorem dX4_readDeed_89 : decode cX4_readDeed 89 = .ok (.getfield 55, 3) := by decide +kernel
theorem dX4_readDeed_92 : decode cX4_readDeed 92 = .ok (.ineg, 1) := by decide +kernel
theorem dX4_readDeed_93 : decode cX4_readDeed 93 = .ok (.goto 7, 3) := by decide +kernel
theorem dX4_readDeed_96 : decode cX4_readDeed 96 = .ok (.aload_n 0, 1) := by decide +kernel
theorem dX4_readDeed_97 : decode cX4_readDeed 97 = .ok (.getfield 55, 3) := by decide +kernel
theorem dX4_readDeed_100 : decode cX4_readDeed 100 = .ok (.istore 5, 2) := by decide +kernel
theorem dX4_readDeed_102 : decode cX4_readDeed 102 = .ok (.aload_n 0, 1) := by decide +kernel
theorem dX4_readDeed_103 : decode cX4_readDeed 103 = .ok (.invokevirtual 19, 3) := by decide +kernel
theorem dX4_readDeed_106 : decode cX4_readDeed 106 = .ok (.iconst 0, 1) := by decide +kernel
theorem dX4_readDeed_107 : decode cX4_readDeed 107 = .ok (.istore 6, 2) := by decide +kernel
theorem dX4_readDeed_109 : decode cX4_readDeed 109 = .ok (.iload_n 3, 1) := by decide +kernel
theorem dX4_readDeed_110 : decode cX4_readDeed 110 = .ok (.invokestatic 58, 3) := by decide +kernel
theorem dX4_readDeed_113 : decode cX4_readDeed 113 = .ok (.ifCond .eq 54, 3) := by decide +kernel
theorem dX4_readDeed_116 : decode cX4_readDeed 116 = .ok (.aload_n 0, 1) := by decide +kernel
theorem dX4_readDeed_117 : decode cX4_readDeed 117 = .ok (.getfield 31, 3) := by decide +kernel
theorem dX4_readDeed_120 : decode cX4_readDeed 120 = .ok (.iconst 1, 1) := by decide +kernel
theorem dX4_readDeed_121 : decode cX4_readDeed 121 = .ok (.if_icmp .ne 12, 3) := by decide +kernel
theorem dX4_readDeed_124 : decode cX4_readDeed 124 = .ok (.aload_n 0, 1) := by decide +kernel
theorem dX4_readDeed_125 : decode cX4_readDeed 125 = .ok (.ldc 62, 2) := by decide +kernel
theorem dX4_readDeed_127 : decode cX4_readDeed 127 = .ok (.invokevirtual 64, 3) := by decide +kernel
theorem dX4_readDeed_130 : decode cX4_readDeed 130 = .ok (.ifCond .ne 8, 3) := by decide +kernel
theorem dX4_readDeed_133 : decode cX4_readDeed 133 = .ok (.aload_n 0, 1) := by decide +kernel
theorem dX4_readDeed_134 : decode cX4_readDeed 134 = .ok (.getfield 38, 3) := by decide +kernel
theorem dX4_readDeed_137 : decode cX4_readDeed 137 = .ok (.ireturn, 1) := by decide +kernel
theorem dX4_readDeed_138 : decode cX4_readDeed 138 = .ok (.aload_n 0, 1) := by decide +kernel
theorem dX4_readDeed_139 : decode cX4_readDeed 139 = .ok (.invokevirtual 19, 3) := by decide +kernel
theorem dX4_readDeed_142 : decode cX4_readDeed 142 = .ok (.aload_n 0, 1) := by decide +kernel
theorem dX4_readDeed_143 : decode cX4_readDeed 143 = .ok (.iconst 0, 1) := by decide +kernel
theorem dX4_readDeed_144 : decode cX4_readDeed 144 = .ok (.bipush 11, 2) := by decide +kernel
theorem dX4_readDeed_146 : decode cX4_readDeed 146 = .ok (.invokevirtual 51, 3) := by decide +kernel
theorem dX4_readDeed_149 : decode cX4_readDeed 149 = .ok (.ifCond .ne 8, 3) := by decide +kernel
theorem dX4_readDeed_152 : decode cX4_readDeed 152 = .ok (.aload_n 0, 1) := by decide +kernel
theorem dX4_readDeed_153 : decode cX4_readDeed 153 = .ok (.getfield 38, 3) := by decide +kernel
theorem dX4_readDeed_156 : decode cX4_readDeed 156 = .ok (.ireturn, 1) := by decide +kernel
theorem dX4_readDeed_157 : decode cX4_readDeed 157 = .ok (.aload_n 0, 1) := by decide +kernel
theorem dX4_readDeed_158 : decode cX4_readDeed 158 = .ok (.getfield 55, 3) := by decide +kernel
theorem dX4_readDeed_161 : decode cX4_readDeed 161 = .ok (.istore 6, 2) := by decide +kernel
theorem dX4_readDeed_163 : decode cX4_readDeed 163 = .ok (.aload_n 0, 1) := by decide +kernel
theorem dX4_readDeed_164 : decode cX4_readDeed 164 = .ok (.invokevirtual 19, 3) := by decide +kernel
theorem dX4_readDeed_167 : decode cX4_readDeed 167 = .ok (.aload_n 1, 1) := by decide +kernel
theorem dX4_readDeed_168 : decode cX4_readDeed 168 = .ok (.iload_n 2, 1) := by decide +kernel
theorem dX4_readDeed_169 : decode cX4_readDeed 169 = .ok (.iload_n 3, 1) := by decide +kernel
theorem dX4_readDeed_170 : decode cX4_readDeed 170 = .ok (.iload 5, 2) := by decide +kernel
theorem dX4_readDeed_172 : decode cX4_readDeed 172 = .ok (.iload 6, 2) := by decide +kernel
theorem dX4_readDeed_174 : decode cX4_readDeed 174 = .ok (.invokevirtual 68, 3) := by decide +kernel
theorem dX4_readDeed_177 : decode cX4_readDeed 177 = .ok (.iconst (-1), 1) := by decide +kernel
theorem dX4_readDeed_178 : decode cX4_readDeed 178 = .ok (.ireturn, 1) := by decide +kernel
theorem dX4_isNumber_0 : decode cX4_isNumber 0 = .ok (.aload_n 0, 1) := by decide +kernel
theorem dX4_isNumber_1 : decode cX4_isNumber 1 = .ok (.getfield 31, 3) := by decide +kernel
theorem dX4_isNumber_4 : decode cX4_isNumber 4 = .ok (.iconst 2, 1) := by decide +kernel
theorem dX4_isNumber_5 : decode cX4_isNumber 5 = .ok (.if_icmp .ne 19, 3) := by decide +kernel
theorem dX4_isNumber_8 : decode cX4_isNumber 8 = .ok (.aload_n 0, 1) := by decide +kernel
theorem dX4_isNumber_9 : decode cX4_isNumber 9 = .ok (.getfield 55, 3) := by decide +kernel
theorem dX4_isNumber_12 : decode cX4_isNumber 12 = .ok (.iload_n 1, 1) := by decide +kernel
theorem dX4_isNumber_13 : decode cX4_isNumber 13 = .ok (.iload_n 2, 1) := by decide +kernel
theorem dX4_isNumber_14 : decode cX4_isNumber 14 = .ok (.invokestatic 72, 3) := by decide +kernel
theorem dX4_isNumber_17 : decode cX4_isNumber 17 = .ok (.ifCond .eq 7, 3) := by decide +kernel
theorem dX4_isNumber_20 : decode cX4_isNumber 20 = .ok (.iconst 1, 1) := by decide +kernel
theorem dX4_isNumber_21 : decode cX4_isNumber 21 = .ok (.goto 4, 3) := by decide +kernel
theorem dX4_isNumber_24 : decode cX4_isNumber 24 = .ok (.iconst 0, 1) := by decide +kernel
theorem dX4_isNumber_25 : decode cX4_isNumber 25 = .ok (.ireturn, 1) := by decide +kernel
theorem dX4_deedOfToken_0 : decode cX4_deedOfToken 0 = .ok (.iconst 0, 1) := by decide +kernel
theorem dX4_deedOfToken_1 : decode cX4_deedOfToken 1 = .ok (.istore_n 1, 1) := by decide +kernel
theorem dX4_deedOfToken_2 : decode cX4_deedOfToken 2 = .ok (.iload_n 1, 1) := by decide +kernel
theorem dX4_deedOfToken_3 : decode cX4_deedOfToken 3 = .ok (.bipush 13, 2) := by decide +kernel
theorem dX4_deedOfToken_5 : decode cX4_deedOfToken 5 = .ok (.if_icmp .ge 22, 3) := by decide +kernel
theorem dX4_deedOfToken_8 : decode cX4_deedOfToken 8 = .ok (.aload_n 0, 1) := by decide +kernel
theorem dX4_deedOfToken_9 : decode cX4_deedOfToken 9 = .ok (.iload_n 1, 1) := by decide +kernel
theorem dX4_deedOfToken_10 : decode cX4_deedOfToken 10 = .ok (.invokestatic 76, 3) := by decide +kernel
theorem dX4_deedOfToken_13 : decode cX4_deedOfToken 13 = .ok (.invokevirtual 64, 3) := by decide +kernel
theorem dX4_deedOfToken_16 : decode cX4_deedOfToken 16 = .ok (.ifCond .eq 5, 3) := by decide +kernel
theorem dX4_deedOfToken_19 : decode cX4_deedOfToken 19 = .ok (.iload_n 1, 1) := by decide +kernel
theorem dX4_deedOfToken_20 : decode cX4_deedOfToken 20 = .ok (.ireturn, 1) := by decide +kernel
theorem dX4_deedOfToken_21 : decode cX4_deedOfToken 21 = .ok (.iinc 1 1, 3) := by decide +kernel
theorem dX4_deedOfToken_24 : decode cX4_deedOfToken 24 = .ok (.goto (-22), 3) := by decide +kernel
theorem dX4_deedOfToken_27 : decode cX4_deedOfToken 27 = .ok (.iconst (-1), 1) := by decide +kernel
theorem dX4_deedOfToken_28 : decode cX4_deedOfToken 28 = .ok (.ireturn, 1) := by decide +kernel
theorem dX4_isToken_0 : decode cX4_isToken 0 = .ok (.aload_n 0, 1) := by decide +kernel
theorem dX4_isToken_1 : decode cX4_isToken 1 = .ok (.getfield 15, 3) := by decide +kernel
theorem dX4_isToken_4 : decode cX4_isToken 4 = .ok (.aload_n 0, 1) := by decide +kernel
theorem dX4_isToken_5 : decode cX4_isToken 5 = .ok (.getfield 38, 3) := by decide +kernel
theorem dX4_isToken_8 : decode cX4_isToken 8 = .ok (.isub, 1) := by decide +kernel
theorem dX4_isToken_9 : decode cX4_isToken 9 = .ok (.aload_n 1, 1) := by decide +kernel
theorem dX4_isToken_10 : decode cX4_isToken 10 = .ok (.invokevirtual 80, 3) := by decide +kernel
theorem dX4_isToken_13 : decode cX4_isToken 13 = .ok (.if_icmp .eq 5, 3) := by decide +kernel
theorem dX4_isToken_16 : decode cX4_isToken 16 = .ok (.iconst 0, 1) := by decide +kernel
theorem dX4_isToken_17 : decode cX4_isToken 17 = .ok (.ireturn, 1) := by decide +kernel
theorem dX4_isToken_18 : decode cX4_isToken 18 = .ok (.iconst 0, 1) := by decide +kernel
theorem dX4_isToken_19 : decode cX4_isToken 19 = .ok (.istore_n 2, 1) := by decide +kernel
theorem dX4_isToken_20 : decode cX4_isToken 20 = .ok (.iload_n 2, 1) := by decide +kernel
theorem dX4_isToken_21 : decode cX4_isToken 21 = .ok (.aload_n 1, 1) := by decide +kernel
theorem dX4_isToken_22 : decode cX4_isToken 22 = .ok (.invokevirtual 80, 3) := by decide +kernel
theorem dX4_isToken_25 : decode cX4_isToken 25 = .ok (.if_icmp .ge 33, 3) := by decide +kernel
theorem dX4_isToken_28 : decode cX4_isToken 28 = .ok (.aload_n 0, 1) := by decide +kernel
theorem dX4_isToken_29 : decode cX4_isToken 29 = .ok (.getfield 9, 3) := by decide +kernel
theorem dX4_isToken_32 : decode cX4_isToken 32 = .ok (.getfield 85, 3) := by decide +kernel
theorem dX4_isToken_35 : decode cX4_isToken 35 = .ok (.aload_n 0, 1) := by decide +kernel
theorem dX4_isToken_36 : decode cX4_isToken 36 = .ok (.getfield 38, 3) := by decide +kernel
theorem dX4_isToken_39 : decode cX4_isToken 39 = .ok (.iload_n 2, 1) := by decide +kernel
theorem dX4_isToken_40 : decode cX4_isToken 40 = .ok (.iadd, 1) := by decide +kernel
theorem dX4_isToken_41 : decode cX4_isToken 41 = .ok (.iaload, 1) := by decide +kernel
theorem dX4_isToken_42 : decode cX4_isToken 42 = .ok (.aload_n 1, 1) := by decide +kernel
theorem dX4_isToken_43 : decode cX4_isToken 43 = .ok (.iload_n 2, 1) := by decide +kernel
theorem dX4_isToken_44 : decode cX4_isToken 44 = .ok (.invokevirtual 90, 3) := by decide +kernel
theorem dX4_isToken_47 : decode cX4_isToken 47 = .ok (.if_icmp .eq 5, 3) := by decide +kernel
theorem dX4_isToken_50 : decode cX4_isToken 50 = .ok (.iconst 0, 1) := by decide +kernel
theorem dX4_isToken_51 : decode cX4_isToken 51 = .ok (.ireturn, 1) := by decide +kernel
theorem dX4_isToken_52 : decode cX4_isToken 52 = .ok (.iinc 2 1, 3) := by decide +kernel
theorem dX4_isToken_55 : decode cX4_isToken 55 = .ok (.goto (-35), 3) := by decide +kernel
theorem dX4_isToken_58 : decode cX4_isToken 58 = .ok (.iconst 1, 1) := by decide +kernel
theorem dX4_isToken_59 : decode cX4_isToken 59 = .ok (.ireturn, 1) := by decide +kernel
theorem dX4_wordOf_0 : decode cX4_wordOf 0 = .ok (.iload_n 0, 1) := by decide +kernel
theorem dX4_wordOf_1 : decode cX4_wordOf 1 = .ok (.tableswitch 99 0 11 #[63, 66, 69, 72, 75, 78, 81, 84, 87, 90, 93, 96], 63) := by decide +kernel
theorem dX4_wordOf_64 : decode cX4_wordOf 64 = .ok (.ldc 94, 2) := by decide +kernel
theorem dX4_wordOf_66 : decode cX4_wordOf 66 = .ok (.areturn, 1) := by decide +kernel
theorem dX4_wordOf_67 : decode cX4_wordOf 67 = .ok (.ldc 96, 2) := by decide +kernel
theorem dX4_wordOf_69 : decode cX4_wordOf 69 = .ok (.areturn, 1) := by decide +kernel
theorem dX4_wordOf_70 : decode cX4_wordOf 70 = .ok (.ldc 98, 2) := by decide +kernel
theorem dX4_wordOf_72 : decode cX4_wordOf 72 = .ok (.areturn, 1) := by decide +kernel
theorem dX4_wordOf_73 : decode cX4_wordOf 73 = .ok (.ldc 100, 2) := by decide +kernel
theorem dX4_wordOf_75 : decode cX4_wordOf 75 = .ok (.areturn, 1) := by decide +kernel
theorem dX4_wordOf_76 : decode cX4_wordOf 76 = .ok (.ldc 102, 2) := by decide +kernel
theorem dX4_wordOf_78 : decode cX4_wordOf 78 = .ok (.areturn, 1) := by decide +kernel
theorem dX4_wordOf_79 : decode cX4_wordOf 79 = .ok (.ldc 104, 2) := by decide +kernel
theorem dX4_wordOf_81 : decode cX4_wordOf 81 = .ok (.areturn, 1) := by decide +kernel
theorem dX4_wordOf_82 : decode cX4_wordOf 82 = .ok (.ldc 106, 2) := by decide +kernel
theorem dX4_wordOf_84 : decode cX4_wordOf 84 = .ok (.areturn, 1) := by decide +kernel
theorem dX4_wordOf_85 : decode cX4_wordOf 85 = .ok (.ldc 108, 2) := by decide +kernel
theorem dX4_wordOf_87 : decode cX4_wordOf 87 = .ok (.areturn, 1) := by decide +kernel
theorem dX4_wordOf_88 : decode cX4_wordOf 88 = .ok (.ldc 110, 2) := by decide +kernel
theorem dX4_wordOf_90 : decode cX4_wordOf 90 = .ok (.areturn, 1) := by decide +kernel
theorem dX4_wordOf_91 : decode cX4_wordOf 91 = .ok (.ldc 112, 2) := by decide +kernel
theorem dX4_wordOf_93 : decode cX4_wordOf 93 = .ok (.areturn, 1) := by decide +kernel
theorem dX4_wordOf_94 : decode cX4_wordOf 94 = .ok (.ldc 114, 2) := by decide +kernel
theorem dX4_wordOf_96 : decode cX4_wordOf 96 = .ok (.areturn, 1) := by decide +kernel
theorem dX4_wordOf_97 : decode cX4_wordOf 97 = .ok (.ldc 116, 2) := by decide +kernel
theorem dX4_wordOf_99 : decode cX4_wordOf 99 = .ok (.areturn, 1) := by decide +kernel
theorem dX4_wordOf_100 : decode cX4_wordOf 100 = .ok (.ldc 118, 2) := by decide +kernel
theorem dX4_wordOf_102 : decode cX4_wordOf 102 = .ok (.areturn, 1) := by decide +kernel
theorem dX4_readToken_0 : decode cX4_readToken 0 = .ok (.aload_n 0, 1) := by decide +kernel
theorem dX4_readToken_1 : decode cX4_readToken 1 = .ok (.aload_n 0, 1) := by decide +kernel
theorem dX4_readToken_2 : decode cX4_readToken 2 = .ok (.getfield 15, 3) := by decide +kernel
theorem dX4_readToken_5 : decode cX4_readToken 5 = .ok (.putfield 38, 3) := by decide +kernel
theorem dX4_readToken_8 : decode cX4_readToken 8 = .ok (.aload_n 0, 1) := by decide +kernel
theorem dX4_readToken_9 : decode cX4_readToken 9 = .ok (.getfield 38, 3) := by decide +kernel
theorem dX4_readToken_12 : decode cX4_readToken 12 = .ok (.aload_n 0, 1) := by decide +kernel
theorem dX4_readToken_13 : decode cX4_readToken 13 = .ok (.getfield 9, 3) := by decide +kernel
theorem dX4_readToken_16 : decode cX4_readToken 16 = .ok (.getfield 120, 3) := by decide +kernel
theorem dX4_readToken_19 : decode cX4_readToken 19 = .ok (.if_icmp .ge 33, 3) := by decide +kernel
theorem dX4_readToken_22 : decode cX4_readToken 22 = .ok (.aload_n 0, 1) := by decide +kernel
theorem dX4_readToken_23 : decode cX4_readToken 23 = .ok (.getfield 9, 3) := by decide +kernel
theorem dX4_readToken_26 : decode cX4_readToken 26 = .ok (.getfield 85, 3) := by decide +kernel
theorem dX4_readToken_29 : decode cX4_readToken 29 = .ok (.aload_n 0, 1) := by decide +kernel
theorem dX4_readToken_30 : decode cX4_readToken 30 = .ok (.getfield 38, 3) := by decide +kernel
theorem dX4_readToken_33 : decode cX4_readToken 33 = .ok (.iaload, 1) := by decide +kernel
theorem dX4_readToken_34 : decode cX4_readToken 34 = .ok (.bipush 32, 2) := by decide +kernel
theorem dX4_readToken_36 : decode cX4_readToken 36 = .ok (.if_icmp .ne 16, 3) := by decide +kernel
theorem dX4_readToken_39 : decode cX4_readToken 39 = .ok (.aload_n 0, 1) := by decide +kernel
theorem dX4_readToken_40 : decode cX4_readToken 40 = .ok (.dup, 1) := by decide +kernel
theorem dX4_readToken_41 : decode cX4_readToken 41 = .ok (.getfield 38, 3) := by decide +kernel
theorem dX4_readToken_44 : decode cX4_readToken 44 = .ok (.iconst 1, 1) := by decide +kernel
theorem dX4_readToken_45 : decode cX4_readToken 45 = .ok (.iadd, 1) := by decide +kernel
theorem dX4_readToken_46 : decode cX4_readToken 46 = .ok (.putfield 38, 3) := by decide +kernel
theorem dX4_readToken_49 : decode cX4_readToken 49 = .ok (.goto (-41), 3) := by decide +kernel
theorem dX4_readToken_52 : decode cX4_readToken 52 = .ok (.aload_n 0, 1) := by decide +kernel
theorem dX4_readToken_53 : decode cX4_readToken 53 = .ok (.aload_n 0, 1) := by decide +kernel
theorem dX4_readToken_54 : decode cX4_readToken 54 = .ok (.getfield 38, 3) := by decide +kernel
theorem dX4_readToken_57 : decode cX4_readToken 57 = .ok (.putfield 15, 3) := by decide +kernel
theorem dX4_readToken_60 : decode cX4_readToken 60 = .ok (.aload_n 0, 1) := by decide +kernel
theorem dX4_readToken_61 : decode cX4_readToken 61 = .ok (.aload_n 0, 1) := by decide +kernel
theorem dX4_readToken_62 : decode cX4_readToken 62 = .ok (.aload_n 0, 1) := by decide +kernel
theorem dX4_readToken_63 : decode cX4_readToken 63 = .ok (.getfield 38, 3) := by decide +kernel
theorem dX4_readToken_66 : decode cX4_readToken 66 = .ok (.invokevirtual 122, 3) := by decide +kernel
theorem dX4_readToken_69 : decode cX4_readToken 69 = .ok (.putfield 31, 3) := by decide +kernel
theorem dX4_readToken_72 : decode cX4_readToken 72 = .ok (.aload_n 0, 1) := by decide +kernel
theorem dX4_readToken_73 : decode cX4_readToken 73 = .ok (.getfield 31, 3) := by decide +kernel
theorem dX4_readToken_76 : decode cX4_readToken 76 = .ok (.iconst 1, 1) := by decide +kernel
theorem dX4_readToken_77 : decode cX4_readToken 77 = .ok (.if_icmp .ne 42, 3) := by decide +kernel
theorem dX4_readToken_80 : decode cX4_readToken 80 = .ok (.aload_n 0, 1) := by decide +kernel
theorem dX4_readToken_81 : decode cX4_readToken 81 = .ok (.getfield 15, 3) := by decide +kernel
theorem dX4_readToken_84 : decode cX4_readToken 84 = .ok (.aload_n 0, 1) := by decide +kernel
theorem dX4_readToken_85 : decode cX4_readToken 85 = .ok (.getfield 9, 3) := by decide +kernel
theorem dX4_readToken_88 : decode cX4_readToken 88 = .ok (.getfield 120, 3) := by decide +kernel
theorem dX4_readToken_91 : decode cX4_readToken 91 = .ok (.if_icmp .ge 60, 3) := by decide +kernel
theorem dX4_readToken_94 : decode cX4_readToken 94 = .ok (.aload_n 0, 1) := by decide +kernel
theorem dX4_readToken_95 : decode cX4_readToken 95 = .ok (.aload_n 0, 1) := by decide +kernel
theorem dX4_readToken_96 : decode cX4_readToken 96 = .ok (.getfield 15, 3) := by decide +kernel
theorem dX4_readToken_99 : decode cX4_readToken 99 = .ok (.invokevirtual 122, 3) := by decide +kernel
theorem dX4_readToken_102 : decode cX4_readToken 102 = .ok (.iconst 1, 1) := by decide +kernel
theorem dX4_readToken_103 : decode cX4_readToken 103 = .ok (.if_icmp .ne 48, 3) := by decide +kernel
theorem dX4_readToken_106 : decode cX4_readToken 106 = .ok (.aload_n 0, 1) := by decide +kernel
theorem dX4_readToken_107 : decode cX4_readToken 107 = .ok (.dup, 1) := by decide +kernel
theorem dX4_readToken_108 : decode cX4_readToken 108 = .ok (.getfield 15, 3) := by decide +kernel
theorem dX4_readToken_111 : decode cX4_readToken 111 = .ok (.iconst 1, 1) := by decide +kernel
theorem dX4_readToken_112 : decode cX4_readToken 112 = .ok (.iadd, 1) := by decide +kernel
theorem dX4_readToken_113 : decode cX4_readToken 113 = .ok (.putfield 15, 3) := by decide +kernel
theorem dX4_readToken_116 : decode cX4_readToken 116 = .ok (.goto (-36), 3) := by decide +kernel
theorem dX4_readToken_119 : decode cX4_readToken 119 = .ok (.aload_n 0, 1) := by decide +kernel
theorem dX4_readToken_120 : decode cX4_readToken 120 = .ok (.getfield 31, 3) := by decide +kernel
theorem dX4_readToken_123 : decode cX4_readToken 123 = .ok (.iconst 2, 1) := by decide +kernel
theorem dX4_readToken_124 : decode cX4_readToken 124 = .ok (.if_icmp .ne 10, 3) := by decide +kernel
theorem dX4_readToken_127 : decode cX4_readToken 127 = .ok (.aload_n 0, 1) := by decide +kernel
theorem dX4_readToken_128 : decode cX4_readToken 128 = .ok (.invokevirtual 126, 3) := by decide +kernel
theorem dX4_readToken_131 : decode cX4_readToken 131 = .ok (.goto 20, 3) := by decide +kernel
theorem dX4_readToken_134 : decode cX4_readToken 134 = .ok (.aload_n 0, 1) := by decide +kernel
theorem dX4_readToken_135 : decode cX4_readToken 135 = .ok (.getfield 31, 3) := by decide +kernel
theorem dX4_readToken_138 : decode cX4_readToken 138 = .ok (.ifCond .eq 13, 3) := by decide +kernel
theorem dX4_readToken_141 : decode cX4_readToken 141 = .ok (.aload_n 0, 1) := by decide +kernel
theorem dX4_readToken_142 : decode cX4_readToken 142 = .ok (.dup, 1) := by decide +kernel
theorem dX4_readToken_143 : decode cX4_readToken 143 = .ok (.getfield 15, 3) := by decide +kernel
theorem dX4_readToken_146 : decode cX4_readToken 146 = .ok (.iconst 1, 1) := by decide +kernel
theorem dX4_readToken_147 : decode cX4_readToken 147 = .ok (.iadd, 1) := by decide +kernel
theorem dX4_readToken_148 : decode cX4_readToken 148 = .ok (.putfield 15, 3) := by decide +kernel
theorem dX4_readToken_151 : decode cX4_readToken 151 = .ok (.return_, 1) := by decide +kernel
theorem dX4_readNumber_0 : decode cX4_readNumber 0 = .ok (.aload_n 0, 1) := by decide +kernel
theorem dX4_readNumber_1 : decode cX4_readNumber 1 = .ok (.iconst 0, 1) := by decide +kernel
theorem dX4_readNumber_2 : decode cX4_readNumber 2 = .ok (.putfield 55, 3) := by decide +kernel
theorem dX4_readNumber_5 : decode cX4_readNumber 5 = .ok (.aload_n 0, 1) := by decide +kernel
theorem dX4_readNumber_6 : decode cX4_readNumber 6 = .ok (.getfield 15, 3) := by decide +kernel
theorem dX4_readNumber_9 : decode cX4_readNumber 9 = .ok (.aload_n 0, 1) := by decide +kernel
theorem dX4_readNumber_10 : decode cX4_readNumber 10 = .ok (.getfield 9, 3) := by decide +kernel
theorem dX4_readNumber_13 : decode cX4_readNumber 13 = .ok (.getfield 120, 3) := by decide +kernel
theorem dX4_readNumber_16 : decode cX4_readNumber 16 = .ok (.if_icmp .ge 61, 3) := by decide +kernel
theorem dX4_readNumber_19 : decode cX4_readNumber 19 = .ok (.aload_n 0, 1) := by decide +kernel
theorem dX4_readNumber_20 : decode cX4_readNumber 20 = .ok (.aload_n 0, 1) := by decide +kernel
theorem dX4_readNumber_21 : decode cX4_readNumber 21 = .ok (.getfield 15, 3) := by decide +kernel
theorem dX4_readNumber_24 : decode cX4_readNumber 24 = .ok (.invokevirtual 122, 3) := by decide +kernel
theorem dX4_readNumber_27 : decode cX4_readNumber 27 = .ok (.iconst 2, 1) := by decide +kernel
theorem dX4_readNumber_28 : decode cX4_readNumber 28 = .ok (.if_icmp .ne 49, 3) := by decide +kernel
theorem dX4_readNumber_31 : decode cX4_readNumber 31 = .ok (.aload_n 0, 1) := by decide +kernel
theorem dX4_readNumber_32 : decode cX4_readNumber 32 = .ok (.sipush 1000, 3) := by decide +kernel
theorem dX4_readNumber_35 : decode cX4_readNumber 35 = .ok (.aload_n 0, 1) := by decide +kernel
theorem dX4_readNumber_36 : decode cX4_readNumber 36 = .ok (.getfield 55, 3) := by decide +kernel
theorem dX4_readNumber_39 : decode cX4_readNumber 39 = .ok (.bipush 10, 2) := by decide +kernel
theorem dX4_readNumber_41 : decode cX4_readNumber 41 = .ok (.imul, 1) := by decide +kernel
theorem dX4_readNumber_42 : decode cX4_readNumber 42 = .ok (.aload_n 0, 1) := by decide +kernel
theorem dX4_readNumber_43 : decode cX4_readNumber 43 = .ok (.getfield 9, 3) := by decide +kernel
theorem dX4_readNumber_46 : decode cX4_readNumber 46 = .ok (.getfield 85, 3) := by decide +kernel
theorem dX4_readNumber_49 : decode cX4_readNumber 49 = .ok (.aload_n 0, 1) := by decide +kernel
theorem dX4_readNumber_50 : decode cX4_readNumber 50 = .ok (.getfield 15, 3) := by decide +kernel
theorem dX4_readNumber_53 : decode cX4_readNumber 53 = .ok (.iaload, 1) := by decide +kernel
theorem dX4_readNumber_54 : decode cX4_readNumber 54 = .ok (.iadd, 1) := by decide +kernel
theorem dX4_readNumber_55 : decode cX4_readNumber 55 = .ok (.bipush 48, 2) := by decide +kernel
theorem dX4_readNumber_57 : decode cX4_readNumber 57 = .ok (.isub, 1) := by decide +kernel
theorem dX4_readNumber_58 : decode cX4_readNumber 58 = .ok (.invokestatic 129, 3) := by decide +kernel
theorem dX4_readNumber_61 : decode cX4_readNumber 61 = .ok (.putfield 55, 3) := by decide +kernel
theorem dX4_readNumber_64 : decode cX4_readNumber 64 = .ok (.aload_n 0, 1) := by decide +kernel
theorem dX4_readNumber_65 : decode cX4_readNumber 65 = .ok (.dup, 1) := by decide +kernel
theorem dX4_readNumber_66 : decode cX4_readNumber 66 = .ok (.getfield 15, 3) := by decide +kernel
theorem dX4_readNumber_69 : decode cX4_readNumber 69 = .ok (.iconst 1, 1) := by decide +kernel
theorem dX4_readNumber_70 : decode cX4_readNumber 70 = .ok (.iadd, 1) := by decide +kernel
theorem dX4_readNumber_71 : decode cX4_readNumber 71 = .ok (.putfield 15, 3) := by decide +kernel
theorem dX4_readNumber_74 : decode cX4_readNumber 74 = .ok (.goto (-69), 3) := by decide +kernel
theorem dX4_readNumber_77 : decode cX4_readNumber 77 = .ok (.return_, 1) := by decide +kernel
theorem dX4_typeAt_0 : decode cX4_typeAt 0 = .ok (.iload_n 1, 1) := by decide +kernel
theorem dX4_typeAt_1 : decode cX4_typeAt 1 = .ok (.aload_n 0, 1) := by decide +kernel
theorem dX4_typeAt_2 : decode cX4_typeAt 2 = .ok (.getfield 9, 3) := by decide +kernel
theorem dX4_typeAt_5 : decode cX4_typeAt 5 = .ok (.getfield 120, 3) := by decide +kernel
theorem dX4_typeAt_8 : decode cX4_typeAt 8 = .ok (.if_icmp .lt 5, 3) := by decide +kernel
theorem dX4_typeAt_11 : decode cX4_typeAt 11 = .ok (.iconst 0, 1) := by decide +kernel
theorem dX4_typeAt_12 : decode cX4_typeAt 12 = .ok (.ireturn, 1) := by decide +kernel
theorem dX4_typeAt_13 : decode cX4_typeAt 13 = .ok (.aload_n 0, 1) := by decide +kernel
theorem dX4_typeAt_14 : decode cX4_typeAt 14 = .ok (.getfield 9, 3) := by decide +kernel
theorem dX4_typeAt_17 : decode cX4_typeAt 17 = .ok (.getfield 85, 3) := by decide +kernel
theorem dX4_typeAt_20 : decode cX4_typeAt 20 = .ok (.iload_n 1, 1) := by decide +kernel
theorem dX4_typeAt_21 : decode cX4_typeAt 21 = .ok (.iaload, 1) := by decide +kernel
theorem dX4_typeAt_22 : decode cX4_typeAt 22 = .ok (.istore_n 2, 1) := by decide +kernel
theorem dX4_typeAt_23 : decode cX4_typeAt 23 = .ok (.iload_n 2, 1) := by decide +kernel
theorem dX4_typeAt_24 : decode cX4_typeAt 24 = .ok (.bipush 97, 2) := by decide +kernel
theorem dX4_typeAt_26 : decode cX4_typeAt 26 = .ok (.bipush 122, 2) := by decide +kernel
theorem dX4_typeAt_28 : decode cX4_typeAt 28 = .ok (.invokestatic 72, 3) := by decide +kernel
theorem dX4_typeAt_31 : decode cX4_typeAt 31 = .ok (.ifCond .eq 5, 3) := by decide +kernel
theorem dX4_typeAt_34 : decode cX4_typeAt 34 = .ok (.iconst 1, 1) := by decide +kernel
theorem dX4_typeAt_35 : decode cX4_typeAt 35 = .ok (.ireturn, 1) := by decide +kernel
theorem dX4_typeAt_36 : decode cX4_typeAt 36 = .ok (.iload_n 2, 1) := by decide +kernel
theorem dX4_typeAt_37 : decode cX4_typeAt 37 = .ok (.bipush 48, 2) := by decide +kernel
theorem dX4_typeAt_39 : decode cX4_typeAt 39 = .ok (.bipush 57, 2) := by decide +kernel
theorem dX4_typeAt_41 : decode cX4_typeAt 41 = .ok (.invokestatic 72, 3) := by decide +kernel
theorem dX4_typeAt_44 : decode cX4_typeAt 44 = .ok (.ifCond .eq 5, 3) := by decide +kernel
theorem dX4_typeAt_47 : decode cX4_typeAt 47 = .ok (.iconst 2, 1) := by decide +kernel
theorem dX4_typeAt_48 : decode cX4_typeAt 48 = .ok (.ireturn, 1) := by decide +kernel
theorem dX4_typeAt_49 : decode cX4_typeAt 49 = .ok (.iload_n 2, 1) := by decide +kernel
theorem dX4_typeAt_50 : decode cX4_typeAt 50 = .ok (.bipush 59, 2) := by decide +kernel
theorem dX4_typeAt_52 : decode cX4_typeAt 52 = .ok (.if_icmp .ne 5, 3) := by decide +kernel
theorem dX4_typeAt_55 : decode cX4_typeAt 55 = .ok (.iconst 3, 1) := by decide +kernel
theorem dX4_typeAt_56 : decode cX4_typeAt 56 = .ok (.ireturn, 1) := by decide +kernel
theorem dX4_typeAt_57 : decode cX4_typeAt 57 = .ok (.iload_n 2, 1) := by decide +kernel
theorem dX4_typeAt_58 : decode cX4_typeAt 58 = .ok (.bipush 45, 2) := by decide +kernel
theorem dX4_typeAt_60 : decode cX4_typeAt 60 = .ok (.if_icmp .ne 7, 3) := by decide +kernel
theorem dX4_typeAt_63 : decode cX4_typeAt 63 = .ok (.iconst 4, 1) := by decide +kernel
theorem dX4_typeAt_64 : decode cX4_typeAt 64 = .ok (.goto 4, 3) := by decide +kernel
theorem dX4_typeAt_67 : decode cX4_typeAt 67 = .ok (.iconst 5, 1) := by decide +kernel
theorem dX4_typeAt_68 : decode cX4_typeAt 68 = .ok (.ireturn, 1) := by decide +kernel
theorem dX5_init_0 : decode cX5_init 0 = .ok (.aload_n 0, 1) := by decide +kernel
theorem dX5_init_1 : decode cX5_init 1 = .ok (.invokespecial 3, 3) := by decide +kernel
theorem dX5_init_4 : decode cX5_init 4 = .ok (.aload_n 0, 1) := by decide +kernel
theorem dX5_init_5 : decode cX5_init 5 = .ok (.new 9, 3) := by decide +kernel
theorem dX5_init_8 : decode cX5_init 8 = .ok (.dup, 1) := by decide +kernel
theorem dX5_init_9 : decode cX5_init 9 = .ok (.invokespecial 11, 3) := by decide +kernel
theorem dX5_init_12 : decode cX5_init 12 = .ok (.putfield 12, 3) := by decide +kernel
theorem dX5_init_15 : decode cX5_init 15 = .ok (.aload_n 0, 1) := by decide +kernel
theorem dX5_init_16 : decode cX5_init 16 = .ok (.new 18, 3) := by decide +kernel
theorem dX5_init_19 : decode cX5_init 19 = .ok (.dup, 1) := by decide +kernel
theorem dX5_init_20 : decode cX5_init 20 = .ok (.invokespecial 20, 3) := by decide +kernel
theorem dX5_init_23 : decode cX5_init 23 = .ok (.putfield 21, 3) := by decide +kernel
theorem dX5_init_26 : decode cX5_init 26 = .ok (.aload_n 0, 1) := by decide +kernel
theorem dX5_init_27 : decode cX5_init 27 = .ok (.new 25, 3) := by decide +kernel
theorem dX5_init_30 : decode cX5_init 30 = .ok (.dup, 1) := by decide +kernel
theorem dX5_init_31 : decode cX5_init 31 = .ok (.invokespecial 27, 3) := by decide +kernel
theorem dX5_init_34 : decode cX5_init 34 = .ok (.putfield 28, 3) := by decide +kernel
theorem dX5_init_37 : decode cX5_init 37 = .ok (.aload_n 0, 1) := by decide +kernel
theorem dX5_init_38 : decode cX5_init 38 = .ok (.bipush 12, 2) := by decide +kernel
theorem dX5_init_40 : decode cX5_init 40 = .ok (.newarray .int, 2) := by decide +kernel
theorem dX5_init_42 : decode cX5_init 42 = .ok (.putfield 32, 3) := by decide +kernel
theorem dX5_init_45 : decode cX5_init 45 = .ok (.aload_n 0, 1) := by decide +kernel
theorem dX5_init_46 : decode cX5_init 46 = .ok (.bipush 10, 2) := by decide +kernel
theorem dX5_init_48 : decode cX5_init 48 = .ok (.newarray .int, 2) := by decide +kernel
theorem dX5_init_50 : decode cX5_init 50 = .ok (.putfield 36, 3) := by decide +kernel
theorem dX5_init_53 : decode cX5_init 53 = .ok (.aload_n 0, 1) := by decide +kernel
theorem dX5_init_54 : decode cX5_init 54 = .ok (.iconst 1, 1) := by decide +kernel
theorem dX5_init_55 : decode cX5_init 55 = .ok (.putfield 39, 3) := by decide +kernel
theorem dX5_init_58 : decode cX5_init 58 = .ok (.aload_n 0, 1) := by decide +kernel
theorem dX5_init_59 : decode cX5_init 59 = .ok (.iconst 0, 1) := by decide +kernel
theorem dX5_init_60 : decode cX5_init 60 = .ok (.putfield 43, 3) := by decide +kernel
theorem dX5_init_63 : decode cX5_init 63 = .ok (.aload_n 0, 1) := by decide +kernel
theorem dX5_init_64 : decode cX5_init 64 = .ok (.getfield 36, 3) := by decide +kernel
theorem dX5_init_67 : decode cX5_init 67 = .ok (.iconst (-1), 1) := by decide +kernel
theorem dX5_init_68 : decode cX5_init 68 = .ok (.invokestatic 46, 3) := by decide +kernel
theorem dX5_init_71 : decode cX5_init 71 = .ok (.return_, 1) := by decide +kernel
theorem dX5_become_0 : decode cX5_become 0 = .ok (.aload_n 0, 1) := by decide +kernel
theorem dX5_become_1 : decode cX5_become 1 = .ok (.getfield 12, 3) := by decide +kernel
theorem dX5_become_4 : decode cX5_become 4 = .ok (.aload_n 1, 1) := by decide +kernel
theorem dX5_become_5 : decode cX5_become 5 = .ok (.getfield 12, 3) := by decide +kernel
theorem dX5_become_8 : decode cX5_become 8 = .ok (.invokevirtual 52, 3) := by decide +kernel
theorem dX5_become_11 : decode cX5_become 11 = .ok (.aload_n 0, 1) := by decide +kernel
theorem dX5_become_12 : decode cX5_become 12 = .ok (.getfield 21, 3) := by decide +kernel
theorem dX5_become_15 : decode cX5_become 15 = .ok (.aload_n 1, 1) := by decide +kernel
theorem dX5_become_16 : decode cX5_become 16 = .ok (.getfield 21, 3) := by decide +kernel
theorem dX5_become_19 : decode cX5_become 19 = .ok (.invokevirtual 56, 3) := by decide +kernel
theorem dX5_become_22 : decode cX5_become 22 = .ok (.aload_n 0, 1) := by decide +kernel
theorem dX5_become_23 : decode cX5_become 23 = .ok (.getfield 28, 3) := by decide +kernel
theorem dX5_become_26 : decode cX5_become 26 = .ok (.aload_n 1, 1) := by decide +kernel
theorem dX5_become_27 : decode cX5_become 27 = .ok (.getfield 28, 3) := by decide +kernel
theorem dX5_become_30 : decode cX5_become 30 = .ok (.invokevirtual 59, 3) := by decide +kernel
theorem dX5_become_33 : decode cX5_become 33 = .ok (.aload_n 1, 1) := by decide +kernel
theorem dX5_become_34 : decode cX5_become 34 = .ok (.getfield 32, 3) := by decide +kernel
theorem dX5_become_37 : decode cX5_become 37 = .ok (.aload_n 0, 1) := by decide +kernel
theorem dX5_become_38 : decode cX5_become 38 = .ok (.getfield 32, 3) := by decide +kernel
theorem dX5_become_41 : decode cX5_become 41 = .ok (.invokestatic 62, 3) := by decide +kernel
theorem dX5_become_44 : decode cX5_become 44 = .ok (.aload_n 1, 1) := by decide +kernel
theorem dX5_become_45 : decode cX5_become 45 = .ok (.getfield 36, 3) := by decide +kernel
theorem dX5_become_48 : decode cX5_become 48 = .ok (.aload_n 0, 1) := by decide +kernel
theorem dX5_become_49 : decode cX5_become 49 = .ok (.getfield 36, 3) := by decide +kernel
theorem dX5_become_52 : decode cX5_become 52 = .ok (.invokestatic 62, 3) := by decide +kernel
theorem dX5_become_55 : decode cX5_become 55 = .ok (.aload_n 0, 1) := by decide +kernel
theorem dX5_become_56 : decode cX5_become 56 = .ok (.aload_n 1, 1) := by decide +kernel
theorem dX5_become_57 : decode cX5_become 57 = .ok (.getfield 39, 3) := by decide +kernel
theorem dX5_become_60 : decode cX5_become 60 = .ok (.putfield 39, 3) := by decide +kernel
theorem dX5_become_63 : decode cX5_become 63 = .ok (.aload_n 0, 1) := by decide +kernel
theorem dX5_become_64 : decode cX5_become 64 = .ok (.aload_n 1, 1) := by decide +kernel
theorem dX5_become_65 : decode cX5_become 65 = .ok (.getfield 43, 3) := by decide +kernel
theorem dX5_become_68 : decode cX5_become 68 = .ok (.putfield 43, 3) := by decide +kernel
theorem dX5_become_71 : decode cX5_become 71 = .ok (.return_, 1) := by decide +kernel
theorem dX5_draw_0 : decode cX5_draw 0 = .ok (.aload_n 0, 1) := by decide +kernel
theorem dX5_draw_1 : decode cX5_draw 1 = .ok (.aload_n 0, 1) := by decide +kernel
theorem dX5_draw_2 : decode cX5_draw 2 = .ok (.getfield 39, 3) := by decide +kernel
theorem dX5_draw_5 : decode cX5_draw 5 = .ok (.ldc 66, 2) := by decide +kernel
theorem dX5_draw_7 : decode cX5_draw 7 = .ok (.imul, 1) := by decide +kernel
theorem dX5_draw_8 : decode cX5_draw 8 = .ok (.sipush 12345, 3) := by decide +kernel
theorem dX5_draw_11 : decode cX5_draw 11 = .ok (.iadd, 1) := by decide +kernel
theorem dX5_draw_12 : decode cX5_draw 12 = .ok (.putfield 39, 3) := by decide +kernel
theorem dX5_draw_15 : decode cX5_draw 15 = .ok (.aload_n 0, 1) := by decide +kernel
theorem dX5_draw_16 : decode cX5_draw 16 = .ok (.getfield 39, 3) := by decide +kernel
theorem dX5_draw_19 : decode cX5_draw 19 = .ok (.bipush 8, 2) := by decide +kernel
theorem dX5_draw_21 : decode cX5_draw 21 = .ok (.iushr, 1) := by decide +kernel
theorem dX5_draw_22 : decode cX5_draw 22 = .ok (.ireturn, 1) := by decide +kernel
theorem dX5_makeDrop_0 : decode cX5_makeDrop 0 = .ok (.aload_n 0, 1) := by decide +kernel
theorem dX5_makeDrop_1 : decode cX5_makeDrop 1 = .ok (.getfield 21, 3) := by decide +kernel
theorem dX5_makeDrop_4 : decode cX5_makeDrop 4 = .ok (.invokevirtual 67, 3) := by decide +kernel
theorem dX5_makeDrop_7 : decode cX5_makeDrop 7 = .ok (.istore 4, 2) := by decide +kernel
theorem dX5_makeDrop_9 : decode cX5_makeDrop 9 = .ok (.iload 4, 2) := by decide +kernel
theorem dX5_makeDrop_11 : decode cX5_makeDrop 11 = .ok (.iconst (-1), 1) := by decide +kernel
theorem dX5_makeDrop_12 : decode cX5_makeDrop 12 = .ok (.if_icmp .eq 58, 3) := by decide +kernel
theorem dX5_makeDrop_15 : decode cX5_makeDrop 15 = .ok (.aload_n 0, 1) := by decide +kernel
theorem dX5_makeDrop_16 : decode cX5_makeDrop 16 = .ok (.getfield 21, 3) := by decide +kernel
theorem dX5_makeDrop_19 : decode cX5_makeDrop 19 = .ok (.getfield 71, 3) := by decide +kernel
theorem dX5_makeDrop_22 : decode cX5_makeDrop 22 = .ok (.iload 4, 2) := by decide +kernel
theorem dX5_makeDrop_24 : decode cX5_makeDrop 24 = .ok (.iload_n 1, 1) := by decide +kernel
theorem dX5_makeDrop_25 : decode cX5_makeDrop 25 = .ok (.iastore, 1) := by decide +kernel
theorem dX5_makeDrop_26 : decode cX5_makeDrop 26 = .ok (.aload_n 0, 1) := by decide +kernel
theorem dX5_makeDrop_27 : decode cX5_makeDrop 27 = .ok (.getfield 21, 3) := by decide +kernel
theorem dX5_makeDrop_30 : decode cX5_makeDrop 30 = .ok (.getfield 74, 3) := by decide +kernel
theorem dX5_makeDrop_33 : decode cX5_makeDrop 33 = .ok (.iload 4, 2) := by decide +kernel
theorem dX5_makeDrop_35 : decode cX5_makeDrop 35 = .ok (.iload_n 2, 1) := by decide +kernel
theorem dX5_makeDrop_36 : decode cX5_makeDrop 36 = .ok (.iastore, 1) := by decide +kernel
theorem dX5_makeDrop_37 : decode cX5_makeDrop 37 = .ok (.aload_n 0, 1) := by decide +kernel
theorem dX5_makeDrop_38 : decode cX5_makeDrop 38 = .ok (.getfield 21, 3) := by decide +kernel
theorem dX5_makeDrop_41 : decode cX5_makeDrop 41 = .ok (.getfield 77, 3) := by decide +kernel
theorem dX5_makeDrop_44 : decode cX5_makeDrop 44 = .ok (.iload 4, 2) := by decide +kernel
theorem dX5_makeDrop_46 : decode cX5_makeDrop 46 = .ok (.iload_n 3, 1) := by decide +kernel
theorem dX5_makeDrop_47 : decode cX5_makeDrop 47 = .ok (.iastore, 1) := by decide +kernel
theorem dX5_makeDrop_48 : decode cX5_makeDrop 48 = .ok (.aload_n 0, 1) := by decide +kernel
theorem dX5_makeDrop_49 : decode cX5_makeDrop 49 = .ok (.getfield 21, 3) := by decide +kernel
theorem dX5_makeDrop_52 : decode cX5_makeDrop 52 = .ok (.getfield 80, 3) := by decide +kernel
theorem dX5_makeDrop_55 : decode cX5_makeDrop 55 = .ok (.iload 4, 2) := by decide +kernel
theorem dX5_makeDrop_57 : decode cX5_makeDrop 57 = .ok (.iconst 0, 1) := by decide +kernel
theorem dX5_makeDrop_58 : decode cX5_makeDrop 58 = .ok (.iastore, 1) := by decide +kernel
theorem dX5_makeDrop_59 : decode cX5_makeDrop 59 = .ok (.aload_n 0, 1) := by decide +kernel
theorem dX5_makeDrop_60 : decode cX5_makeDrop 60 = .ok (.getfield 12, 3) := by decide +kernel
theorem dX5_makeDrop_63 : decode cX5_makeDrop 63 = .ok (.getfield 83, 3) := by decide +kernel
theorem dX5_makeDrop_66 : decode cX5_makeDrop 66 = .ok (.iload_n 2, 1) := by decide +kernel
theorem dX5_makeDrop_67 : decode cX5_makeDrop 67 = .ok (.bipush 99, 2) := by decide +kernel
theorem dX5_makeDrop_69 : decode cX5_makeDrop 69 = .ok (.iastore, 1) := by decide +kernel
theorem dX5_makeDrop_70 : decode cX5_makeDrop 70 = .ok (.iload 4, 2) := by decide +kernel
theorem dX5_makeDrop_72 : decode cX5_makeDrop 72 = .ok (.ireturn, 1) := by decide +kernel
theorem dX5_passTicks_0 : decode cX5_passTicks 0 = .ok (.iconst 0, 1) := by decide +kernel
theorem dX5_passTicks_1 : decode cX5_passTicks 1 = .ok (.istore_n 2, 1) := by decide +kernel
theorem dX5_passTicks_2 : decode cX5_passTicks 2 = .ok (.iload_n 2, 1) := by decide +kernel
theorem dX5_passTicks_3 : decode cX5_passTicks 3 = .ok (.iload_n 1, 1) := by decide +kernel
theorem dX5_passTicks_4 : decode cX5_passTicks 4 = .ok (.if_icmp .ge 41, 3) := by decide +kernel
theorem dX5_passTicks_7 : decode cX5_passTicks 7 = .ok (.aload_n 0, 1) := by decide +kernel
theorem dX5_passTicks_8 : decode cX5_passTicks 8 = .ok (.invokevirtual 86, 3) := by decide +kernel
theorem dX5_passTicks_11 : decode cX5_passTicks 11 = .ok (.aload_n 0, 1) := by decide +kernel
theorem dX5_passTicks_12 : decode cX5_passTicks 12 = .ok (.invokevirtual 89, 3) := by decide +kernel
theorem dX5_passTicks_15 : decode cX5_passTicks 15 = .ok (.aload_n 0, 1) := by decide +kernel
theorem dX5_passTicks_16 : decode cX5_passTicks 16 = .ok (.getfield 21, 3) := by decide +kernel
theorem dX5_passTicks_19 : decode cX5_passTicks 19 = .ok (.invokevirtual 92, 3) := by decide +kernel
theorem dX5_passTicks_22 : decode cX5_passTicks 22 = .ok (.aload_n 0, 1) := by decide +kernel
theorem dX5_passTicks_23 : decode cX5_passTicks 23 = .ok (.getfield 12, 3) := by decide +kernel
theorem dX5_passTicks_26 : decode cX5_passTicks 26 = .ok (.invokevirtual 95, 3) := by decide +kernel
theorem dX5_passTicks_29 : decode cX5_passTicks 29 = .ok (.aload_n 0, 1) := by decide +kernel
theorem dX5_passTicks_30 : decode cX5_passTicks 30 = .ok (.dup, 1) := by decide +kernel
theorem dX5_passTicks_31 : decode cX5_passTicks 31 = .ok (.getfield 43, 3) := by decide +kernel
theorem dX5_passTicks_34 : decode cX5_passTicks 34 = .ok (.iconst 1, 1) := by decide +kernel
theorem dX5_passTicks_35 : decode cX5_passTicks 35 = .ok (.iadd, 1) := by decide +kernel
theorem dX5_passTicks_36 : decode cX5_passTicks 36 = .ok (.putfield 43, 3) := by decide +kernel
theorem dX5_passTicks_39 : decode cX5_passTicks 39 = .ok (.iinc 2 1, 3) := by decide +kernel
theorem dX5_passTicks_42 : decode cX5_passTicks 42 = .ok (.goto (-40), 3) := by decide +kernel
theorem dX5_passTicks_45 : decode cX5_passTicks 45 = .ok (.return_, 1) := by decide +kernel
theorem dX5_letGo_0 : decode cX5_letGo 0 = .ok (.iconst 0, 1) := by decide +kernel
theorem dX5_letGo_1 : decode cX5_letGo 1 = .ok (.istore_n 1, 1) := by decide +kernel
theorem dX5_letGo_2 : decode cX5_letGo 2 = .ok (.iload_n 1, 1) := by decide +kernel
theorem dX5_letGo_3 : decode cX5_letGo 3 = .ok (.bipush 8, 2) := by decide +kernel
theorem dX5_letGo_5 : decode cX5_letGo 5 = .ok (.if_icmp .ge 116, 3) := by decide +kernel
theorem dX5_letGo_8 : decode cX5_letGo 8 = .ok (.aload_n 0, 1) := by decide +kernel
theorem dX5_letGo_9 : decode cX5_letGo 9 = .ok (.getfield 21, 3) := by decide +kernel
theorem dX5_letGo_12 : decode cX5_letGo 12 = .ok (.iload_n 1, 1) := by decide +kernel
theorem dX5_letGo_13 : decode cX5_letGo 13 = .ok (.invokevirtual 98, 3) := by decide +kernel
theorem dX5_letGo_16 : decode cX5_letGo 16 = .ok (.ifCond .eq 99, 3) := by decide +kernel
theorem dX5_letGo_19 : decode cX5_letGo 19 = .ok (.aload_n 0, 1) := by decide +kernel
theorem dX5_letGo_20 : decode cX5_letGo 20 = .ok (.getfield 21, 3) := by decide +kernel
theorem dX5_letGo_23 : decode cX5_letGo 23 = .ok (.getfield 74, 3) := by decide +kernel
theorem dX5_letGo_26 : decode cX5_letGo 26 = .ok (.iload_n 1, 1) := by decide +kernel
theorem dX5_letGo_27 : decode cX5_letGo 27 = .ok (.iaload, 1) := by decide +kernel
theorem dX5_letGo_28 : decode cX5_letGo 28 = .ok (.istore_n 2, 1) := by decide +kernel
theorem dX5_letGo_29 : decode cX5_letGo 29 = .ok (.aload_n 0, 1) := by decide +kernel
theorem dX5_letGo_30 : decode cX5_letGo 30 = .ok (.getfield 12, 3) := by decide +kernel
theorem dX5_letGo_33 : decode cX5_letGo 33 = .ok (.aload_n 0, 1) := by decide +kernel
theorem dX5_letGo_34 : decode cX5_letGo 34 = .ok (.getfield 21, 3) := by decide +kernel
theorem dX5_letGo_37 : decode cX5_letGo 37 = .ok (.getfield 71, 3) := by decide +kernel
theorem dX5_letGo_40 : decode cX5_letGo 40 = .ok (.iload_n 1, 1) := by decide +kernel
theorem dX5_letGo_41 : decode cX5_letGo 41 = .ok (.iaload, 1) := by decide +kernel
theorem dX5_letGo_42 : decode cX5_letGo 42 = .ok (.iload_n 2, 1) := by decide +kernel
theorem dX5_letGo_43 : decode cX5_letGo 43 = .ok (.aload_n 0, 1) := by decide +kernel
theorem dX5_letGo_44 : decode cX5_letGo 44 = .ok (.getfield 21, 3) := by decide +kernel
theorem dX5_letGo_47 : decode cX5_letGo 47 = .ok (.getfield 77, 3) := by decide +kernel
theorem dX5_letGo_50 : decode cX5_letGo 50 = .ok (.iload_n 1, 1) := by decide +kernel
theorem dX5_letGo_51 : decode cX5_letGo 51 = .ok (.iaload, 1) := by decide +kernel
theorem dX5_letGo_52 : decode cX5_letGo 52 = .ok (.aload_n 0, 1) := by decide +kernel
theorem dX5_letGo_53 : decode cX5_letGo 53 = .ok (.getfield 21, 3) := by decide +kernel
theorem dX5_letGo_56 : decode cX5_letGo 56 = .ok (.getfield 80, 3) := by decide +kernel
theorem dX5_letGo_59 : decode cX5_letGo 59 = .ok (.iload_n 1, 1) := by decide +kernel
theorem dX5_letGo_60 : decode cX5_letGo 60 = .ok (.iaload, 1) := by decide +kernel
theorem dX5_letGo_61 : decode cX5_letGo 61 = .ok (.invokevirtual 102, 3) := by decide +kernel
theorem dX5_letGo_64 : decode cX5_letGo 64 = .ok (.istore_n 3, 1) := by decide +kernel
theorem dX5_letGo_65 : decode cX5_letGo 65 = .ok (.iload_n 3, 1) := by decide +kernel
theorem dX5_letGo_66 : decode cX5_letGo 66 = .ok (.iconst (-1), 1) := by decide +kernel
theorem dX5_letGo_67 : decode cX5_letGo 67 = .ok (.if_icmp .ne 37, 3) := by decide +kernel
theorem dX5_letGo_70 : decode cX5_letGo 70 = .ok (.aload_n 0, 1) := by decide +kernel
theorem dX5_letGo_71 : decode cX5_letGo 71 = .ok (.getfield 32, 3) := by decide +kernel
theorem dX5_letGo_74 : decode cX5_letGo 74 = .ok (.iload_n 2, 1) := by decide +kernel
theorem dX5_letGo_75 : decode cX5_letGo 75 = .ok (.invokestatic 106, 3) := by decide +kernel
theorem dX5_letGo_78 : decode cX5_letGo 78 = .ok (.dup2, 1) := by decide +kernel
theorem dX5_letGo_79 : decode cX5_letGo 79 = .ok (.iaload, 1) := by decide +kernel
theorem dX5_letGo_80 : decode cX5_letGo 80 = .ok (.aload_n 0, 1) := by decide +kernel
theorem dX5_letGo_81 : decode cX5_letGo 81 = .ok (.getfield 21, 3) := by decide +kernel
theorem dX5_letGo_84 : decode cX5_letGo 84 = .ok (.getfield 77, 3) := by decide +kernel
theorem dX5_letGo_87 : decode cX5_letGo 87 = .ok (.iload_n 1, 1) := by decide +kernel
theorem dX5_letGo_88 : decode cX5_letGo 88 = .ok (.iaload, 1) := by decide +kernel
theorem dX5_letGo_89 : decode cX5_letGo 89 = .ok (.iadd, 1) := by decide +kernel
theorem dX5_letGo_90 : decode cX5_letGo 90 = .ok (.iastore, 1) := by decide +kernel
theorem dX5_letGo_91 : decode cX5_letGo 91 = .ok (.aload_n 0, 1) := by decide +kernel
theorem dX5_letGo_92 : decode cX5_letGo 92 = .ok (.getfield 21, 3) := by decide +kernel
theorem dX5_letGo_95 : decode cX5_letGo 95 = .ok (.getfield 77, 3) := by decide +kernel
theorem dX5_letGo_98 : decode cX5_letGo 98 = .ok (.iload_n 1, 1) := by decide +kernel
theorem dX5_letGo_99 : decode cX5_letGo 99 = .ok (.iconst 0, 1) := by decide +kernel
theorem dX5_letGo_100 : decode cX5_letGo 100 = .ok (.iastore, 1) := by decide +kernel
theorem dX5_letGo_101 : decode cX5_letGo 101 = .ok (.goto 14, 3) := by decide +kernel
theorem dX5_letGo_104 : decode cX5_letGo 104 = .ok (.iload_n 3, 1) := by decide +kernel
theorem dX5_letGo_105 : decode cX5_letGo 105 = .ok (.iload_n 2, 1) := by decide +kernel
theorem dX5_letGo_106 : decode cX5_letGo 106 = .ok (.if_icmp .eq 9, 3) := by decide +kernel
theorem dX5_letGo_109 : decode cX5_letGo 109 = .ok (.aload_n 0, 1) := by decide +kernel
theorem dX5_letGo_110 : decode cX5_letGo 110 = .ok (.iload_n 1, 1) := by decide +kernel
theorem dX5_letGo_111 : decode cX5_letGo 111 = .ok (.iload_n 3, 1) := by decide +kernel
theorem dX5_letGo_112 : decode cX5_letGo 112 = .ok (.invokevirtual 110, 3) := by decide +kernel
theorem dX5_letGo_115 : decode cX5_letGo 115 = .ok (.iinc 1 1, 3) := by decide +kernel
theorem dX5_letGo_118 : decode cX5_letGo 118 = .ok (.goto (-116), 3) := by decide +kernel
theorem dX5_letGo_121 : decode cX5_letGo 121 = .ok (.return_, 1) := by decide +kernel
theorem dX5_comeTo_0 : decode cX5_comeTo 0 = .ok (.aload_n 0, 1) := by decide +kernel
theorem dX5_comeTo_1 : decode cX5_comeTo 1 = .ok (.getfield 21, 3) := by decide +kernel
theorem dX5_comeTo_4 : decode cX5_comeTo 4 = .ok (.getfield 74, 3) := by decide +kernel
theorem dX5_comeTo_7 : decode cX5_comeTo 7 = .ok (.iload_n 1, 1) := by decide +kernel
theorem dX5_comeTo_8 : decode cX5_comeTo 8 = .ok (.iload_n 2, 1) := by decide +kernel
theorem dX5_comeTo_9 : decode cX5_comeTo 9 = .ok (.iastore, 1) := by decide +kernel
theorem dX5_comeTo_10 : decode cX5_comeTo 10 = .ok (.aload_n 0, 1) := by decide +kernel
theorem dX5_comeTo_11 : decode cX5_comeTo 11 = .ok (.getfield 21, 3) := by decide +kernel
theorem dX5_comeTo_14 : decode cX5_comeTo 14 = .ok (.getfield 80, 3) := by decide +kernel
theorem dX5_comeTo_17 : decode cX5_comeTo 17 = .ok (.iload_n 1, 1) := by decide +kernel
theorem dX5_comeTo_18 : decode cX5_comeTo 18 = .ok (.dup2, 1) := by decide +kernel
theorem dX5_comeTo_19 : decode cX5_comeTo 19 = .ok (.iaload, 1) := by decide +kernel
theorem dX5_comeTo_20 : decode cX5_comeTo 20 = .ok (.iconst 1, 1) := by decide +kernel
theorem dX5_comeTo_21 : decode cX5_comeTo 21 = .ok (.iadd, 1) := by decide +kernel
theorem dX5_comeTo_22 : decode cX5_comeTo 22 = .ok (.iastore, 1) := by decide +kernel
theorem dX5_comeTo_23 : decode cX5_comeTo 23 = .ok (.aload_n 0, 1) := by decide +kernel
theorem dX5_comeTo_24 : decode cX5_comeTo 24 = .ok (.getfield 12, 3) := by decide +kernel
theorem dX5_comeTo_27 : decode cX5_comeTo 27 = .ok (.getfield 83, 3) := by decide +kernel
theorem dX5_comeTo_30 : decode cX5_comeTo 30 = .ok (.iload_n 2, 1) := by decide +kernel
theorem dX5_comeTo_31 : decode cX5_comeTo 31 = .ok (.bipush 99, 2) := by decide +kernel
theorem dX5_comeTo_33 : decode cX5_comeTo 33 = .ok (.iastore, 1) := by decide +kernel
theorem dX5_comeTo_34 : decode cX5_comeTo 34 = .ok (.aload_n 0, 1) := by decide +kernel
theorem dX5_comeTo_35 : decode cX5_comeTo 35 = .ok (.getfield 21, 3) := by decide +kernel
theorem dX5_comeTo_38 : decode cX5_comeTo 38 = .ok (.getfield 71, 3) := by decide +kernel
theorem dX5_comeTo_41 : decode cX5_comeTo 41 = .ok (.iload_n 1, 1) := by decide +kernel
theorem dX5_comeTo_42 : decode cX5_comeTo 42 = .ok (.iaload, 1) := by decide +kernel
theorem dX5_comeTo_43 : decode cX5_comeTo 43 = .ok (.iconst 1, 1) := by decide +kernel
theorem dX5_comeTo_44 : decode cX5_comeTo 44 = .ok (.invokestatic 114, 3) := by decide +kernel
theorem dX5_comeTo_47 : decode cX5_comeTo 47 = .ok (.ifCond .eq 16, 3) := by decide +kernel
theorem dX5_comeTo_50 : decode cX5_comeTo 50 = .ok (.aload_n 0, 1) := by decide +kernel
theorem dX5_comeTo_51 : decode cX5_comeTo 51 = .ok (.getfield 21, 3) := by decide +kernel
theorem dX5_comeTo_54 : decode cX5_comeTo 54 = .ok (.getfield 77, 3) := by decide +kernel
theorem dX5_comeTo_57 : decode cX5_comeTo 57 = .ok (.iload_n 1, 1) := by decide +kernel
theorem dX5_comeTo_58 : decode cX5_comeTo 58 = .ok (.dup2, 1) := by decide +kernel
theorem dX5_comeTo_59 : decode cX5_comeTo 59 = .ok (.iaload, 1) := by decide +kernel
theorem dX5_comeTo_60 : decode cX5_comeTo 60 = .ok (.iconst 1, 1) := by decide +kernel
theorem dX5_comeTo_61 : decode cX5_comeTo 61 = .ok (.isub, 1) := by decide +kernel
theorem dX5_comeTo_62 : decode cX5_comeTo 62 = .ok (.iastore, 1) := by decide +kernel
theorem dX5_comeTo_63 : decode cX5_comeTo 63 = .ok (.return_, 1) := by decide +kernel
theorem dX5_blow_0 : decode cX5_blow 0 = .ok (.aload_n 0, 1) := by decide +kernel
theorem dX5_blow_1 : decode cX5_blow 1 = .ok (.getfield 12, 3) := by decide +kernel
theorem dX5_blow_4 : decode cX5_blow 4 = .ok (.getfield 118, 3) := by decide +kernel
theorem dX5_blow_7 : decode cX5_blow 7 = .ok (.ifCond .ge 7, 3) := by decide +kernel
theorem dX5_blow_10 : decode cX5_blow 10 = .ok (.iconst (-1), 1) := by decide +kernel
theorem dX5_blow_11 : decode cX5_blow 11 = .ok (.goto 4, 3) := by decide +kernel
theorem dX5_blow_14 : decode cX5_blow 14 = .ok (.iconst 1, 1) := by decide +kernel
theorem dX5_blow_15 : decode cX5_blow 15 = .ok (.istore_n 1, 1) := by decide +kernel
theorem dX5_blow_16 : decode cX5_blow 16 = .ok (.aload_n 0, 1) := by decide +kernel
theorem dX5_blow_17 : decode cX5_blow 17 = .ok (.getfield 12, 3) := by decide +kernel
theorem dX5_blow_20 : decode cX5_blow 20 = .ok (.getfield 118, 3) := by decide +kernel
theorem dX5_blow_23 : decode cX5_blow 23 = .ok (.invokestatic 121, 3) := by decide +kernel
theorem dX5_blow_26 : decode cX5_blow 26 = .ok (.istore_n 2, 1) := by decide +kernel
theorem dX5_blow_27 : decode cX5_blow 27 = .ok (.iconst 0, 1) := by decide +kernel
theorem dX5_blow_28 : decode cX5_blow 28 = .ok (.istore_n 3, 1) := by decide +kernel
theorem dX5_blow_29 : decode cX5_blow 29 = .ok (.iload_n 3, 1) := by decide +kernel
theorem dX5_blow_30 : decode cX5_blow 30 = .ok (.bipush 8, 2) := by decide +kernel
theorem dX5_blow_32 : decode cX5_blow 32 = .ok (.if_icmp .ge 78, 3) := by decide +kernel
theorem dX5_blow_35 : decode cX5_blow 35 = .ok (.aload_n 0, 1) := by decide +kernel
theorem dX5_blow_36 : decode cX5_blow 36 = .ok (.getfield 21, 3) := by decide +kernel
theorem dX5_blow_39 : decode cX5_blow 39 = .ok (.iload_n 3, 1) := by decide +kernel
theorem dX5_blow_40 : decode cX5_blow 40 = .ok (.invokevirtual 98, 3) := by decide +kernel
theorem dX5_blow_43 : decode cX5_blow 43 = .ok (.ifCond .eq 61, 3) := by decide +kernel
theorem dX5_blow_46 : decode cX5_blow 46 = .ok (.aload_n 0, 1) := by decide +kernel
theorem dX5_blow_47 : decode cX5_blow 47 = .ok (.getfield 21, 3) := by decide +kernel
theorem dX5_blow_50 : decode cX5_blow 50 = .ok (.getfield 77, 3) := by decide +kernel
theorem dX5_blow_53 : decode cX5_blow 53 = .ok (.iload_n 3, 1) := by decide +kernel
theorem dX5_blow_54 : decode cX5_blow 54 = .ok (.iaload, 1) := by decide +kernel
theorem dX5_blow_55 : decode cX5_blow 55 = .ok (.iload_n 2, 1) := by decide +kernel
theorem dX5_blow_56 : decode cX5_blow 56 = .ok (.if_icmp .ge 48, 3) := by decide +kernel
theorem dX5_blow_59 : decode cX5_blow 59 = .ok (.aload_n 0, 1) := by decide +kernel
theorem dX5_blow_60 : decode cX5_blow 60 = .ok (.getfield 21, 3) := by decide +kernel
theorem dX5_blow_63 : decode cX5_blow 63 = .ok (.getfield 74, 3) := by decide +kernel
theorem dX5_blow_66 : decode cX5_blow 66 = .ok (.iload_n 3, 1) := by decide +kernel
theorem dX5_blow_67 : decode cX5_blow 67 = .ok (.iaload, 1) := by decide +kernel
theorem dX5_blow_68 : decode cX5_blow 68 = .ok (.iload_n 1, 1) := by decide +kernel
theorem dX5_blow_69 : decode cX5_blow 69 = .ok (.invokestatic 126, 3) := by decide +kernel
theorem dX5_blow_72 : decode cX5_blow 72 = .ok (.istore 4, 2) := by decide +kernel
theorem dX5_blow_74 : decode cX5_blow 74 = .ok (.iload 4, 2) := by decide +kernel
theorem dX5_blow_76 : decode cX5_blow 76 = .ok (.bipush (-2), 2) := by decide +kernel
theorem dX5_blow_78 : decode cX5_blow 78 = .ok (.if_icmp .eq 26, 3) := by decide +kernel
theorem dX5_blow_81 : decode cX5_blow 81 = .ok (.aload_n 0, 1) := by decide +kernel
theorem dX5_blow_82 : decode cX5_blow 82 = .ok (.getfield 21, 3) := by decide +kernel
theorem dX5_blow_85 : decode cX5_blow 85 = .ok (.getfield 74, 3) := by decide +kernel
theorem dX5_blow_88 : decode cX5_blow 88 = .ok (.iload_n 3, 1) := by decide +kernel
theorem dX5_blow_89 : decode cX5_blow 89 = .ok (.iload 4, 2) := by decide +kernel
theorem dX5_blow_91 : decode cX5_blow 91 = .ok (.iastore, 1) := by decide +kernel
theorem dX5_blow_92 : decode cX5_blow 92 = .ok (.aload_n 0, 1) := by decide +kernel
theorem dX5_blow_93 : decode cX5_blow 93 = .ok (.getfield 12, 3) := by decide +kernel
theorem dX5_blow_96 : decode cX5_blow 96 = .ok (.getfield 83, 3) := by decide +kernel
theorem dX5_blow_99 : decode cX5_blow 99 = .ok (.iload 4, 2) := by decide +kernel
theorem dX5_blow_101 : decode cX5_blow 101 = .ok (.bipush 99, 2) := by decide +kernel
theorem dX5_blow_103 : decode cX5_blow 103 = .ok (.iastore, 1) := by decide +kernel
theorem dX5_blow_104 : decode cX5_blow 104 = .ok (.iinc 3 1, 3) := by decide +kernel
theorem dX5_blow_107 : decode cX5_blow 107 = .ok (.goto (-78), 3) := by decide +kernel
theorem dX5_blow_110 : decode cX5_blow 110 = .ok (.return_, 1) := by decide +kernel
theorem dX5_perform_0 : decode cX5_perform 0 = .ok (.aload_n 0, 1) := by decide +kernel
theorem dX5_perform_1 : decode cX5_perform 1 = .ok (.getfield 28, 3) := by decide +kernel
theorem dX5_perform_4 : decode cX5_perform 4 = .ok (.getfield 130, 3) := by decide +kernel
theorem dX5_perform_7 : decode cX5_perform 7 = .ok (.iload_n 1, 1) := by decide +kernel
theorem dX5_perform_8 : decode cX5_perform 8 = .ok (.iaload, 1) := by decide +kernel
theorem dX5_perform_9 : decode cX5_perform 9 = .ok (.istore_n 2, 1) := by decide +kernel
theorem dX5_perform_10 : decode cX5_perform 10 = .ok (.aload_n 0, 1) := by decide +kernel
theorem dX5_perform_11 : decode cX5_perform 11 = .ok (.getfield 28, 3) := by decide +kernel
theorem dX5_perform_14 : decode cX5_perform 14 = .ok (.getfield 133, 3) := by decide +kernel
theorem dX5_perform_17 : decode cX5_perform 17 = .ok (.iload_n 1, 1) := by decide +kernel
theorem dX5_perform_18 : decode cX5_perform 18 = .ok (.iaload, 1) := by decide +kernel
theorem dX5_perform_19 : decode cX5_perform 19 = .ok (.istore_n 3, 1) := by decide +kernel
theorem dX5_perform_20 : decode cX5_perform 20 = .ok (.iload_n 2, 1) := by decide +kernel
theorem dX5_perform_21 : decode cX5_perform 21 = .ok (.tableswitch 88 8 12 #[35, 43, 54, 65, 76], 35) := by decide +kernel
theorem dX5_perform_56 : decode cX5_perform 56 = .ok (.aload_n 0, 1) := by decide +kernel
theorem dX5_perform_57 : decode cX5_perform 57 = .ok (.iload_n 3, 1) := by decide +kernel
theorem dX5_perform_58 : decode cX5_perform 58 = .ok (.invokevirtual 136, 3) := by decide +kernel
theorem dX5_perform_61 : decode cX5_perform 61 = .ok (.goto 64, 3) := by decide +kernel
theorem dX5_perform_64 : decode cX5_perform 64 = .ok (.aload_n 0, 1) := by decide +kernel
theorem dX5_perform_65 : decode cX5_perform 65 = .ok (.getfield 12, 3) := by decide +kernel
theorem dX5_perform_68 : decode cX5_perform 68 = .ok (.iload_n 3, 1) := by decide +kernel
theorem dX5_perform_69 : decode cX5_perform 69 = .ok (.putfield 140, 3) := by decide +kernel
theorem dX5_perform_72 : decode cX5_perform 72 = .ok (.goto 53, 3) := by decide +kernel
theorem dX5_perform_75 : decode cX5_perform 75 = .ok (.aload_n 0, 1) := by decide +kernel
theorem dX5_perform_76 : decode cX5_perform 76 = .ok (.getfield 12, 3) := by decide +kernel
theorem dX5_perform_79 : decode cX5_perform 79 = .ok (.iload_n 3, 1) := by decide +kernel
theorem dX5_perform_80 : decode cX5_perform 80 = .ok (.putfield 143, 3) := by decide +kernel
theorem dX5_perform_83 : decode cX5_perform 83 = .ok (.goto 42, 3) := by decide +kernel
theorem dX5_perform_86 : decode cX5_perform 86 = .ok (.aload_n 0, 1) := by decide +kernel
theorem dX5_perform_87 : decode cX5_perform 87 = .ok (.getfield 12, 3) := by decide +kernel
theorem dX5_perform_90 : decode cX5_perform 90 = .ok (.iload_n 3, 1) := by decide +kernel
theorem dX5_perform_91 : decode cX5_perform 91 = .ok (.putfield 118, 3) := by decide +kernel
theorem dX5_perform_94 : decode cX5_perform 94 = .ok (.goto 31, 3) := by decide +kernel
theorem dX5_perform_97 : decode cX5_perform 97 = .ok (.aload_n 0, 1) := by decide +kernel
theorem dX5_perform_98 : decode cX5_perform 98 = .ok (.getfield 12, 3) := by decide +kernel
theorem dX5_perform_101 : decode cX5_perform 101 = .ok (.iload_n 3, 1) := by decide +kernel
theorem dX5_perform_102 : decode cX5_perform 102 = .ok (.invokevirtual 146, 3) := by decide +kernel
theorem dX5_perform_105 : decode cX5_perform 105 = .ok (.pop, 1) := by decide +kernel
theorem dX5_perform_106 : decode cX5_perform 106 = .ok (.goto 19, 3) := by decide +kernel
theorem dX5_perform_109 : decode cX5_perform 109 = .ok (.aload_n 0, 1) := by decide +kernel
theorem dX5_perform_110 : decode cX5_perform 110 = .ok (.iload_n 2, 1) := by decide +kernel
theorem dX5_perform_111 : decode cX5_perform 111 = .ok (.aload_n 0, 1) := by decide +kernel
theorem dX5_perform_112 : decode cX5_perform 112 = .ok (.getfield 28, 3) := by decide +kernel
theorem dX5_perform_115 : decode cX5_perform 115 = .ok (.getfield 149, 3) := by decide +kernel
theorem dX5_perform_118 : decode cX5_perform 118 = .ok (.iload_n 1, 1) := by decide +kernel
theorem dX5_perform_119 : decode cX5_perform 119 = .ok (.iaload, 1) := by decide +kernel
theorem dX5_perform_120 : decode cX5_perform 120 = .ok (.iload_n 3, 1) := by decide +kernel
theorem dX5_perform_121 : decode cX5_perform 121 = .ok (.invokevirtual 152, 3) := by decide +kernel
theorem dX5_perform_124 : decode cX5_perform 124 = .ok (.pop, 1) := by decide +kernel
theorem dX5_perform_125 : decode cX5_perform 125 = .ok (.return_, 1) := by decide +kernel
theorem dX6_init_0 : decode cX6_init 0 = .ok (.aload_n 0, 1) := by decide +kernel
theorem dX6_init_1 : decode cX6_init 1 = .ok (.invokespecial 3, 3) := by decide +kernel
theorem dX6_init_4 : decode cX6_init 4 = .ok (.aload_n 0, 1) := by decide +kernel
theorem dX6_init_5 : decode cX6_init 5 = .ok (.iconst 0, 1) := by decide +kernel
theorem dX6_init_6 : decode cX6_init 6 = .ok (.putfield 9, 3) := by decide +kernel
theorem dX6_init_9 : decode cX6_init 9 = .ok (.aload_n 0, 1) := by decide +kernel
theorem dX6_init_10 : decode cX6_init 10 = .ok (.iconst 0, 1) := by decide +kernel
theorem dX6_init_11 : decode cX6_init 11 = .ok (.putfield 15, 3) := by decide +kernel
theorem dX6_init_14 : decode cX6_init 14 = .ok (.aload_n 0, 1) := by decide +kernel
theorem dX6_init_15 : decode cX6_init 15 = .ok (.bipush 40, 2) := by decide +kernel
theorem dX6_init_17 : decode cX6_init 17 = .ok (.newarray .int, 2) := by decide +kernel
theorem dX6_init_19 : decode cX6_init 19 = .ok (.putfield 18, 3) := by decide +kernel
theorem dX6_init_22 : decode cX6_init 22 = .ok (.return_, 1) := by decide +kernel
theorem dX6_isMissing_0 : decode cX6_isMissing 0 = .ok (.aload_n 0, 1) := by decide +kernel
theorem dX6_isMissing_1 : decode cX6_isMissing 1 = .ok (.getfield 9, 3) := by decide +kernel
theorem dX6_isMissing_4 : decode cX6_isMissing 4 = .ok (.ifCond .ne 7, 3) := by decide +kernel
theorem dX6_isMissing_7 : decode cX6_isMissing 7 = .ok (.iconst 1, 1) := by decide +kernel
theorem dX6_isMissing_8 : decode cX6_isMissing 8 = .ok (.goto 4, 3) := by decide +kernel
theorem dX6_isMissing_11 : decode cX6_isMissing 11 = .ok (.iconst 0, 1) := by decide +kernel
theorem dX6_isMissing_12 : decode cX6_isMissing 12 = .ok (.ireturn, 1) := by decide +kernel
theorem dX6_begin_0 : decode cX6_begin 0 = .ok (.aload_n 0, 1) := by decide +kernel
theorem dX6_begin_1 : decode cX6_begin 1 = .ok (.iload_n 1, 1) := by decide +kernel
theorem dX6_begin_2 : decode cX6_begin 2 = .ok (.putfield 9, 3) := by decide +kernel
theorem dX6_begin_5 : decode cX6_begin 5 = .ok (.aload_n 0, 1) := by decide +kernel
theorem dX6_begin_6 : decode cX6_begin 6 = .ok (.iload_n 2, 1) := by decide +kernel
theorem dX6_begin_7 : decode cX6_begin 7 = .ok (.putfield 15, 3) := by decide +kernel
theorem dX6_begin_10 : decode cX6_begin 10 = .ok (.aload_n 0, 1) := by decide +kernel
theorem dX6_begin_11 : decode cX6_begin 11 = .ok (.getfield 18, 3) := by decide +kernel
theorem dX6_begin_14 : decode cX6_begin 14 = .ok (.iconst 0, 1) := by decide +kernel
theorem dX6_begin_15 : decode cX6_begin 15 = .ok (.invokestatic 22, 3) := by decide +kernel
theorem dX6_begin_18 : decode cX6_begin 18 = .ok (.return_, 1) := by decide +kernel
theorem dX6_put_0 : decode cX6_put 0 = .ok (.aload_n 0, 1) := by decide +kernel
theorem dX6_put_1 : decode cX6_put 1 = .ok (.getfield 9, 3) := by decide +kernel
theorem dX6_put_4 : decode cX6_put 4 = .ok (.lookupswitch 50 #[(8, 28), (16, 39)], 28) := by decide +kernel
theorem dX6_put_32 : decode cX6_put 32 = .ok (.aload_n 0, 1) := by decide +kernel
theorem dX6_put_33 : decode cX6_put 33 = .ok (.getfield 18, 3) := by decide +kernel
theorem dX6_put_36 : decode cX6_put 36 = .ok (.iload_n 1, 1) := by decide +kernel
theorem dX6_put_37 : decode cX6_put 37 = .ok (.iload_n 2, 1) := by decide +kernel
theorem dX6_put_38 : decode cX6_put 38 = .ok (.i2b, 1) := by decide +kernel
theorem dX6_put_39 : decode cX6_put 39 = .ok (.iastore, 1) := by decide +kernel
theorem dX6_put_40 : decode cX6_put 40 = .ok (.goto 21, 3) := by decide +kernel
theorem dX6_put_43 : decode cX6_put 43 = .ok (.aload_n 0, 1) := by decide +kernel
theorem dX6_put_44 : decode cX6_put 44 = .ok (.getfield 18, 3) := by decide +kernel
theorem dX6_put_47 : decode cX6_put 47 = .ok (.iload_n 1, 1) := by decide +kernel
theorem dX6_put_48 : decode cX6_put 48 = .ok (.iload_n 2, 1) := by decide +kernel
theorem dX6_put_49 : decode cX6_put 49 = .ok (.i2s, 1) := by decide +kernel
theorem dX6_put_50 : decode cX6_put 50 = .ok (.iastore, 1) := by decide +kernel
theorem dX6_put_51 : decode cX6_put 51 = .ok (.goto 10, 3) := by decide +kernel
theorem dX6_put_54 : decode cX6_put 54 = .ok (.aload_n 0, 1) := by decide +kernel
theorem dX6_put_55 : decode cX6_put 55 = .ok (.getfield 18, 3) := by decide +kernel
theorem dX6_put_58 : decode cX6_put 58 = .ok (.iload_n 1, 1) := by decide +kernel
theorem dX6_put_59 : decode cX6_put 59 = .ok (.iload_n 2, 1) := by decide +kernel
theorem dX6_put_60 : decode cX6_put 60 = .ok (.iastore, 1) := by decide +kernel
theorem dX6_put_61 : decode cX6_put 61 = .ok (.return_, 1) := by decide +kernel
theorem dX6_hasStretch_0 : decode cX6_hasStretch 0 = .ok (.iload_n 1, 1) := by decide +kernel
theorem dX6_hasStretch_1 : decode cX6_hasStretch 1 = .ok (.ifCond .lt 21, 3) := by decide +kernel
theorem dX6_hasStretch_4 : decode cX6_hasStretch 4 = .ok (.iload_n 2, 1) := by decide +kernel
theorem dX6_hasStretch_5 : decode cX6_hasStretch 5 = .ok (.ifCond .lt 17, 3) := by decide +kernel
theorem dX6_hasStretch_8 : decode cX6_hasStretch 8 = .ok (.iload_n 1, 1) := by decide +kernel
theorem dX6_hasStretch_9 : decode cX6_hasStretch 9 = .ok (.aload_n 0, 1) := by decide +kernel
theorem dX6_hasStretch_10 : decode cX6_hasStretch 10 = .ok (.getfield 15, 3) := by decide +kernel
theorem dX6_hasStretch_13 : decode cX6_hasStretch 13 = .ok (.iload_n 2, 1) := by decide +kernel
theorem dX6_hasStretch_14 : decode cX6_hasStretch 14 = .ok (.isub, 1) := by decide +kernel
theorem dX6_hasStretch_15 : decode cX6_hasStretch 15 = .ok (.if_icmp .gt 7, 3) := by decide +kernel
theorem dX6_hasStretch_18 : decode cX6_hasStretch 18 = .ok (.iconst 1, 1) := by decide +kernel
theorem dX6_hasStretch_19 : decode cX6_hasStretch 19 = .ok (.goto 4, 3) := by decide +kernel
theorem dX6_hasStretch_22 : decode cX6_hasStretch 22 = .ok (.iconst 0, 1) := by decide +kernel
theorem dX6_hasStretch_23 : decode cX6_hasStretch 23 = .ok (.ireturn, 1) := by decide +kernel
theorem dX7_init_0 : decode cX7_init 0 = .ok (.aload_n 0, 1) := by decide +kernel
theorem dX7_init_1 : decode cX7_init 1 = .ok (.invokespecial 3, 3) := by decide +kernel
theorem dX7_init_4 : decode cX7_init 4 = .ok (.aload_n 0, 1) := by decide +kernel
theorem dX7_init_5 : decode cX7_init 5 = .ok (.bipush 100, 2) := by decide +kernel
theorem dX7_init_7 : decode cX7_init 7 = .ok (.newarray .int, 2) := by decide +kernel
theorem dX7_init_9 : decode cX7_init 9 = .ok (.putfield 9, 3) := by decide +kernel
theorem dX7_init_12 : decode cX7_init 12 = .ok (.aload_n 0, 1) := by decide +kernel
theorem dX7_init_13 : decode cX7_init 13 = .ok (.iconst 0, 1) := by decide +kernel
theorem dX7_init_14 : decode cX7_init 14 = .ok (.putfield 15, 3) := by decide +kernel
theorem dX7_init_17 : decode cX7_init 17 = .ok (.return_, 1) := by decide +kernel
theorem dX7_append_0 : decode cX7_append 0 = .ok (.iload_n 2, 1) := by decide +kernel
theorem dX7_append_1 : decode cX7_append 1 = .ok (.iconst 1, 1) := by decide +kernel
theorem dX7_append_2 : decode cX7_append 2 = .ok (.isub, 1) := by decide +kernel
theorem dX7_append_3 : decode cX7_append 3 = .ok (.istore_n 3, 1) := by decide +kernel
theorem dX7_append_4 : decode cX7_append 4 = .ok (.iload_n 3, 1) := by decide +kernel
theorem dX7_append_5 : decode cX7_append 5 = .ok (.ifCond .lt 38, 3) := by decide +kernel
theorem dX7_append_8 : decode cX7_append 8 = .ok (.aload_n 0, 1) := by decide +kernel
theorem dX7_append_9 : decode cX7_append 9 = .ok (.getfield 9, 3) := by decide +kernel
theorem dX7_append_12 : decode cX7_append 12 = .ok (.aload_n 0, 1) := by decide +kernel
theorem dX7_append_13 : decode cX7_append 13 = .ok (.getfield 15, 3) := by decide +kernel
theorem dX7_append_16 : decode cX7_append 16 = .ok (.iload_n 1, 1) := by decide +kernel
theorem dX7_append_17 : decode cX7_append 17 = .ok (.bipush 8, 2) := by decide +kernel
theorem dX7_append_19 : decode cX7_append 19 = .ok (.iload_n 3, 1) := by decide +kernel
theorem dX7_append_20 : decode cX7_append 20 = .ok (.imul, 1) := by decide +kernel
theorem dX7_append_21 : decode cX7_append 21 = .ok (.iushr, 1) := by decide +kernel
theorem dX7_append_22 : decode cX7_append 22 = .ok (.sipush 255, 3) := by decide +kernel
theorem dX7_append_25 : decode cX7_append 25 = .ok (.iand, 1) := by decide +kernel
theorem dX7_append_26 : decode cX7_append 26 = .ok (.iastore, 1) := by decide +kernel
theorem dX7_append_27 : decode cX7_append 27 = .ok (.aload_n 0, 1) := by decide +kernel
theorem dX7_append_28 : decode cX7_append 28 = .ok (.dup, 1) := by decide +kernel
theorem dX7_append_29 : decode cX7_append 29 = .ok (.getfield 15, 3) := by decide +kernel
theorem dX7_append_32 : decode cX7_append 32 = .ok (.iconst 1, 1) := by decide +kernel
theorem dX7_append_33 : decode cX7_append 33 = .ok (.iadd, 1) := by decide +kernel
theorem dX7_append_34 : decode cX7_append 34 = .ok (.putfield 15, 3) := by decide +kernel
theorem dX7_append_37 : decode cX7_append 37 = .ok (.iinc 3 (-1), 3) := by decide +kernel
theorem dX7_append_40 : decode cX7_append 40 = .ok (.goto (-36), 3) := by decide +kernel
theorem dX7_append_43 : decode cX7_append 43 = .ok (.return_, 1) := by decide +kernel
theorem dX8_init_0 : decode cX8_init 0 = .ok (.aload_n 0, 1) := by decide +kernel
theorem dX8_init_1 : decode cX8_init 1 = .ok (.invokespecial 3, 3) := by decide +kernel
theorem dX8_init_4 : decode cX8_init 4 = .ok (.aload_n 0, 1) := by decide +kernel
theorem dX8_init_5 : decode cX8_init 5 = .ok (.bipush 65, 2) := by decide +kernel
theorem dX8_init_7 : decode cX8_init 7 = .ok (.newarray .int, 2) := by decide +kernel
theorem dX8_init_9 : decode cX8_init 9 = .ok (.putfield 9, 3) := by decide +kernel
theorem dX8_init_12 : decode cX8_init 12 = .ok (.return_, 1) := by decide +kernel
theorem dX8_follow_0 : decode cX8_follow 0 = .ok (.aload_n 0, 1) := by decide +kernel
theorem dX8_follow_1 : decode cX8_follow 1 = .ok (.getfield 9, 3) := by decide +kernel
theorem dX8_follow_4 : decode cX8_follow 4 = .ok (.iconst 0, 1) := by decide +kernel
theorem dX8_follow_5 : decode cX8_follow 5 = .ok (.iload_n 3, 1) := by decide +kernel
theorem dX8_follow_6 : decode cX8_follow 6 = .ok (.iastore, 1) := by decide +kernel
theorem dX8_follow_7 : decode cX8_follow 7 = .ok (.aload_n 0, 1) := by decide +kernel
theorem dX8_follow_8 : decode cX8_follow 8 = .ok (.iconst 0, 1) := by decide +kernel
theorem dX8_follow_9 : decode cX8_follow 9 = .ok (.putfield 15, 3) := by decide +kernel
theorem dX8_follow_12 : decode cX8_follow 12 = .ok (.aload_n 0, 1) := by decide +kernel
theorem dX8_follow_13 : decode cX8_follow 13 = .ok (.iload 4, 2) := by decide +kernel
theorem dX8_follow_15 : decode cX8_follow 15 = .ok (.putfield 19, 3) := by decide +kernel
theorem dX8_follow_18 : decode cX8_follow 18 = .ok (.aload_n 0, 1) := by decide +kernel
theorem dX8_follow_19 : decode cX8_follow 19 = .ok (.iconst (-1), 1) := by decide +kernel
theorem dX8_follow_20 : decode cX8_follow 20 = .ok (.putfield 22, 3) := by decide +kernel
theorem dX8_follow_23 : decode cX8_follow 23 = .ok (.iload_n 2, 1) := by decide +kernel
theorem dX8_follow_24 : decode cX8_follow 24 = .ok (.iconst 1, 1) := by decide +kernel
theorem dX8_follow_25 : decode cX8_follow 25 = .ok (.invokestatic 25, 3) := by decide +kernel
theorem dX8_follow_28 : decode cX8_follow 28 = .ok (.istore 5, 2) := by decide +kernel
theorem dX8_follow_30 : decode cX8_follow 30 = .ok (.iconst 1, 1) := by decide +kernel
theorem dX8_follow_31 : decode cX8_follow 31 = .ok (.istore 6, 2) := by decide +kernel
theorem dX8_follow_33 : decode cX8_follow 33 = .ok (.iconst 0, 1) := by decide +kernel
theorem dX8_follow_34 : decode cX8_follow 34 = .ok (.istore 7, 2) := by decide +kernel
theorem dX8_follow_36 : decode cX8_follow 36 = .ok (.iload 6, 2) := by decide +kernel
theorem dX8_follow_38 : decode cX8_follow 38 = .ok (.ifCond .eq 128, 3) := by decide +kernel
theorem dX8_follow_41 : decode cX8_follow 41 = .ok (.iload 7, 2) := by decide +kernel
theorem dX8_follow_43 : decode cX8_follow 43 = .ok (.bipush 64, 2) := by decide +kernel
theorem dX8_follow_45 : decode cX8_follow 45 = .ok (.if_icmp .ge 121, 3) := by decide +kernel
theorem dX8_follow_48 : decode cX8_follow 48 = .ok (.aload_n 1, 1) := by decide +kernel
theorem dX8_follow_49 : decode cX8_follow 49 = .ok (.iload_n 2, 1) := by decide +kernel
theorem dX8_follow_50 : decode cX8_follow 50 = .ok (.aload_n 0, 1) := by decide +kernel
theorem dX8_follow_51 : decode cX8_follow 51 = .ok (.getfield 9, 3) := by decide +kernel
theorem dX8_follow_54 : decode cX8_follow 54 = .ok (.iload 7, 2) := by decide +kernel
theorem dX8_follow_56 : decode cX8_follow 56 = .ok (.iaload, 1) := by decide +kernel
theorem dX8_follow_57 : decode cX8_follow 57 = .ok (.aload_n 0, 1) := by decide +kernel
theorem dX8_follow_58 : decode cX8_follow 58 = .ok (.getfield 19, 3) := by decide +kernel
theorem dX8_follow_61 : decode cX8_follow 61 = .ok (.iload 7, 2) := by decide +kernel
theorem dX8_follow_63 : decode cX8_follow 63 = .ok (.invokevirtual 29, 3) := by decide +kernel
theorem dX8_follow_66 : decode cX8_follow 66 = .ok (.istore 8, 2) := by decide +kernel
theorem dX8_follow_68 : decode cX8_follow 68 = .ok (.iload 8, 2) := by decide +kernel
theorem dX8_follow_70 : decode cX8_follow 70 = .ok (.aload_n 0, 1) := by decide +kernel
theorem dX8_follow_71 : decode cX8_follow 71 = .ok (.getfield 9, 3) := by decide +kernel
theorem dX8_follow_74 : decode cX8_follow 74 = .ok (.iload 7, 2) := by decide +kernel
theorem dX8_follow_76 : decode cX8_follow 76 = .ok (.iaload, 1) := by decide +kernel
theorem dX8_follow_77 : decode cX8_follow 77 = .ok (.if_icmp .ne 9, 3) := by decide +kernel
theorem dX8_follow_80 : decode cX8_follow 80 = .ok (.iconst 0, 1) := by decide +kernel
theorem dX8_follow_81 : decode cX8_follow 81 = .ok (.istore 6, 2) := by decide +kernel
theorem dX8_follow_83 : decode cX8_follow 83 = .ok (.goto 77, 3) := by decide +kernel
theorem dX8_follow_86 : decode cX8_follow 86 = .ok (.aload_n 0, 1) := by decide +kernel
theorem dX8_follow_87 : decode cX8_follow 87 = .ok (.iload 7, 2) := by decide +kernel
theorem dX8_follow_89 : decode cX8_follow 89 = .ok (.iconst 1, 1) := by decide +kernel
theorem dX8_follow_90 : decode cX8_follow 90 = .ok (.iadd, 1) := by decide +kernel
theorem dX8_follow_91 : decode cX8_follow 91 = .ok (.putfield 15, 3) := by decide +kernel
theorem dX8_follow_94 : decode cX8_follow 94 = .ok (.aload_n 0, 1) := by decide +kernel
theorem dX8_follow_95 : decode cX8_follow 95 = .ok (.getfield 9, 3) := by decide +kernel
theorem dX8_follow_98 : decode cX8_follow 98 = .ok (.aload_n 0, 1) := by decide +kernel
theorem dX8_follow_99 : decode cX8_follow 99 = .ok (.getfield 15, 3) := by decide +kernel
theorem dX8_follow_102 : decode cX8_follow 102 = .ok (.iload 8, 2) := by decide +kernel
theorem dX8_follow_104 : decode cX8_follow 104 = .ok (.iastore, 1) := by decide +kernel
theorem dX8_follow_105 : decode cX8_follow 105 = .ok (.iload 8, 2) := by decide +kernel
theorem dX8_follow_107 : decode cX8_follow 107 = .ok (.iconst (-1), 1) := by decide +kernel
theorem dX8_follow_108 : decode cX8_follow 108 = .ok (.if_icmp .ne 23, 3) := by decide +kernel
theorem dX8_follow_111 : decode cX8_follow 111 = .ok (.aload_n 0, 1) := by decide +kernel
theorem dX8_follow_112 : decode cX8_follow 112 = .ok (.aload_n 0, 1) := by decide +kernel
theorem dX8_follow_113 : decode cX8_follow 113 = .ok (.getfield 9, 3) := by decide +kernel
theorem dX8_follow_116 : decode cX8_follow 116 = .ok (.iload 7, 2) := by decide +kernel
theorem dX8_follow_118 : decode cX8_follow 118 = .ok (.iaload, 1) := by decide +kernel
theorem dX8_follow_119 : decode cX8_follow 119 = .ok (.invokestatic 35, 3) := by decide +kernel
theorem dX8_follow_122 : decode cX8_follow 122 = .ok (.putfield 22, 3) := by decide +kernel
theorem dX8_follow_125 : decode cX8_follow 125 = .ok (.iconst 0, 1) := by decide +kernel
theorem dX8_follow_126 : decode cX8_follow 126 = .ok (.istore 6, 2) := by decide +kernel
theorem dX8_follow_128 : decode cX8_follow 128 = .ok (.goto 32, 3) := by decide +kernel
theorem dX8_follow_131 : decode cX8_follow 131 = .ok (.iload 5, 2) := by decide +kernel
theorem dX8_follow_133 : decode cX8_follow 133 = .ok (.ifCond .eq 27, 3) := by decide +kernel
theorem dX8_follow_136 : decode cX8_follow 136 = .ok (.aload_n 0, 1) := by decide +kernel
theorem dX8_follow_137 : decode cX8_follow 137 = .ok (.dup, 1) := by decide +kernel
theorem dX8_follow_138 : decode cX8_follow 138 = .ok (.getfield 19, 3) := by decide +kernel
theorem dX8_follow_141 : decode cX8_follow 141 = .ok (.iconst 1, 1) := by decide +kernel
theorem dX8_follow_142 : decode cX8_follow 142 = .ok (.isub, 1) := by decide +kernel
theorem dX8_follow_143 : decode cX8_follow 143 = .ok (.putfield 19, 3) := by decide +kernel
theorem dX8_follow_146 : decode cX8_follow 146 = .ok (.aload_n 0, 1) := by decide +kernel
theorem dX8_follow_147 : decode cX8_follow 147 = .ok (.getfield 19, 3) := by decide +kernel
theorem dX8_follow_150 : decode cX8_follow 150 = .ok (.ifCond .le 7, 3) := by decide +kernel
theorem dX8_follow_153 : decode cX8_follow 153 = .ok (.iconst 1, 1) := by decide +kernel
theorem dX8_follow_154 : decode cX8_follow 154 = .ok (.goto 4, 3) := by decide +kernel
theorem dX8_follow_157 : decode cX8_follow 157 = .ok (.iconst 0, 1) := by decide +kernel
theorem dX8_follow_158 : decode cX8_follow 158 = .ok (.istore 6, 2) := by decide +kernel
theorem dX8_follow_160 : decode cX8_follow 160 = .ok (.iinc 7 1, 3) := by decide +kernel
theorem dX8_follow_163 : decode cX8_follow 163 = .ok (.goto (-127), 3) := by decide +kernel
theorem dX8_follow_166 : decode cX8_follow 166 = .ok (.return_, 1) := by decide +kernel
theorem dX8_isOut_0 : decode cX8_isOut 0 = .ok (.aload_n 0, 1) := by decide +kernel
theorem dX8_isOut_1 : decode cX8_isOut 1 = .ok (.getfield 22, 3) := by decide +kernel
theorem dX8_isOut_4 : decode cX8_isOut 4 = .ok (.iconst (-1), 1) := by decide +kernel
theorem dX8_isOut_5 : decode cX8_isOut 5 = .ok (.if_icmp .eq 7, 3) := by decide +kernel
theorem dX8_isOut_8 : decode cX8_isOut 8 = .ok (.iconst 1, 1) := by decide +kernel
theorem dX8_isOut_9 : decode cX8_isOut 9 = .ok (.goto 4, 3) := by decide +kernel
theorem dX8_isOut_12 : decode cX8_isOut 12 = .ok (.iconst 0, 1) := by decide +kernel
theorem dX8_isOut_13 : decode cX8_isOut 13 = .ok (.ireturn, 1) := by decide +kernel
theorem dX8_lastCell_0 : decode cX8_lastCell 0 = .ok (.aload_n 0, 1) := by decide +kernel
theorem dX8_lastCell_1 : decode cX8_lastCell 1 = .ok (.invokevirtual 39, 3) := by decide +kernel
theorem dX8_lastCell_4 : decode cX8_lastCell 4 = .ok (.ifCond .eq 24, 3) := by decide +kernel
theorem dX8_lastCell_7 : decode cX8_lastCell 7 = .ok (.aload_n 0, 1) := by decide +kernel
theorem dX8_lastCell_8 : decode cX8_lastCell 8 = .ok (.getfield 15, 3) := by decide +kernel
theorem dX8_lastCell_11 : decode cX8_lastCell 11 = .ok (.ifCond .le 17, 3) := by decide +kernel
theorem dX8_lastCell_14 : decode cX8_lastCell 14 = .ok (.aload_n 0, 1) := by decide +kernel
theorem dX8_lastCell_15 : decode cX8_lastCell 15 = .ok (.getfield 9, 3) := by decide +kernel
theorem dX8_lastCell_18 : decode cX8_lastCell 18 = .ok (.aload_n 0, 1) := by decide +kernel
theorem dX8_lastCell_19 : decode cX8_lastCell 19 = .ok (.getfield 15, 3) := by decide +kernel
theorem dX8_lastCell_22 : decode cX8_lastCell 22 = .ok (.iconst 1, 1) := by decide +kernel
theorem dX8_lastCell_23 : decode cX8_lastCell 23 = .ok (.isub, 1) := by decide +kernel
theorem dX8_lastCell_24 : decode cX8_lastCell 24 = .ok (.iaload, 1) := by decide +kernel
theorem dX8_lastCell_25 : decode cX8_lastCell 25 = .ok (.goto 12, 3) := by decide +kernel
theorem dX8_lastCell_28 : decode cX8_lastCell 28 = .ok (.aload_n 0, 1) := by decide +kernel
theorem dX8_lastCell_29 : decode cX8_lastCell 29 = .ok (.getfield 9, 3) := by decide +kernel
theorem dX8_lastCell_32 : decode cX8_lastCell 32 = .ok (.aload_n 0, 1) := by decide +kernel
theorem dX8_lastCell_33 : decode cX8_lastCell 33 = .ok (.getfield 15, 3) := by decide +kernel
theorem dX8_lastCell_36 : decode cX8_lastCell 36 = .ok (.iaload, 1) := by decide +kernel
theorem dX8_lastCell_37 : decode cX8_lastCell 37 = .ok (.ireturn, 1) := by decide +kernel
theorem dX8_cellBehind_0 : decode cX8_cellBehind 0 = .ok (.iload_n 1, 1) := by decide +kernel
theorem dX8_cellBehind_1 : decode cX8_cellBehind 1 = .ok (.aload_n 0, 1) := by decide +kernel
theorem dX8_cellBehind_2 : decode cX8_cellBehind 2 = .ok (.getfield 15, 3) := by decide +kernel
theorem dX8_cellBehind_5 : decode cX8_cellBehind 5 = .ok (.if_icmp .gt 22, 3) := by decide +kernel
theorem dX8_cellBehind_8 : decode cX8_cellBehind 8 = .ok (.aload_n 0, 1) := by decide +kernel
theorem dX8_cellBehind_9 : decode cX8_cellBehind 9 = .ok (.getfield 9, 3) := by decide +kernel
theorem dX8_cellBehind_12 : decode cX8_cellBehind 12 = .ok (.iload_n 1, 1) := by decide +kernel
theorem dX8_cellBehind_13 : decode cX8_cellBehind 13 = .ok (.iaload, 1) := by decide +kernel
theorem dX8_cellBehind_14 : decode cX8_cellBehind 14 = .ok (.iconst (-1), 1) := by decide +kernel
theorem dX8_cellBehind_15 : decode cX8_cellBehind 15 = .ok (.if_icmp .eq 12, 3) := by decide +kernel
theorem dX8_cellBehind_18 : decode cX8_cellBehind 18 = .ok (.aload_n 0, 1) := by decide +kernel
theorem dX8_cellBehind_19 : decode cX8_cellBehind 19 = .ok (.getfield 9, 3) := by decide +kernel
theorem dX8_cellBehind_22 : decode cX8_cellBehind 22 = .ok (.iload_n 1, 1) := by decide +kernel
theorem dX8_cellBehind_23 : decode cX8_cellBehind 23 = .ok (.iaload, 1) := by decide +kernel
theorem dX8_cellBehind_24 : decode cX8_cellBehind 24 = .ok (.goto 5, 3) := by decide +kernel
theorem dX8_cellBehind_27 : decode cX8_cellBehind 27 = .ok (.bipush (-2), 2) := by decide +kernel
theorem dX8_cellBehind_29 : decode cX8_cellBehind 29 = .ok (.ireturn, 1) := by decide +kernel
theorem dX9_init_0 : decode cX9_init 0 = .ok (.aload_n 0, 1) := by decide +kernel
theorem dX9_init_1 : decode cX9_init 1 = .ok (.invokespecial 3, 3) := by decide +kernel
theorem dX9_init_4 : decode cX9_init 4 = .ok (.aload_n 0, 1) := by decide +kernel
theorem dX9_init_5 : decode cX9_init 5 = .ok (.sipush 192, 3) := by decide +kernel
theorem dX9_init_8 : decode cX9_init 8 = .ok (.newarray .int, 2) := by decide +kernel
theorem dX9_init_10 : decode cX9_init 10 = .ok (.putfield 9, 3) := by decide +kernel
theorem dX9_init_13 : decode cX9_init 13 = .ok (.return_, 1) := by decide +kernel
theorem dX9_reckon_0 : decode cX9_reckon 0 = .ok (.sipush 191, 3) := by decide +kernel
theorem dX9_reckon_3 : decode cX9_reckon 3 = .ok (.istore_n 3, 1) := by decide +kernel
theorem dX9_reckon_4 : decode cX9_reckon 4 = .ok (.iload_n 3, 1) := by decide +kernel
theorem dX9_reckon_5 : decode cX9_reckon 5 = .ok (.ifCond .lt 33, 3) := by decide +kernel
theorem dX9_reckon_8 : decode cX9_reckon 8 = .ok (.aload_n 0, 1) := by decide +kernel
theorem dX9_reckon_9 : decode cX9_reckon 9 = .ok (.getfield 9, 3) := by decide +kernel
theorem dX9_reckon_12 : decode cX9_reckon 12 = .ok (.iload_n 3, 1) := by decide +kernel
theorem dX9_reckon_13 : decode cX9_reckon 13 = .ok (.iload_n 3, 1) := by decide +kernel
theorem dX9_reckon_14 : decode cX9_reckon 14 = .ok (.invokestatic 15, 3) := by decide +kernel
theorem dX9_reckon_17 : decode cX9_reckon 17 = .ok (.ifCond .eq 7, 3) := by decide +kernel
theorem dX9_reckon_20 : decode cX9_reckon 20 = .ok (.iconst 0, 1) := by decide +kernel
theorem dX9_reckon_21 : decode cX9_reckon 21 = .ok (.goto 10, 3) := by decide +kernel
theorem dX9_reckon_24 : decode cX9_reckon 24 = .ok (.aload_n 0, 1) := by decide +kernel
theorem dX9_reckon_25 : decode cX9_reckon 25 = .ok (.aload_n 1, 1) := by decide +kernel
theorem dX9_reckon_26 : decode cX9_reckon 26 = .ok (.iload_n 3, 1) := by decide +kernel
theorem dX9_reckon_27 : decode cX9_reckon 27 = .ok (.iload_n 2, 1) := by decide +kernel
theorem dX9_reckon_28 : decode cX9_reckon 28 = .ok (.invokevirtual 19, 3) := by decide +kernel
theorem dX9_reckon_31 : decode cX9_reckon 31 = .ok (.iastore, 1) := by decide +kernel
theorem dX9_reckon_32 : decode cX9_reckon 32 = .ok (.iinc 3 (-1), 3) := by decide +kernel
theorem dX9_reckon_35 : decode cX9_reckon 35 = .ok (.goto (-31), 3) := by decide +kernel
theorem dX9_reckon_38 : decode cX9_reckon 38 = .ok (.return_, 1) := by decide +kernel
theorem dX9_leastBelow_0 : decode cX9_leastBelow 0 = .ok (.aload_n 0, 1) := by decide +kernel
theorem dX9_leastBelow_1 : decode cX9_leastBelow 1 = .ok (.aload_n 1, 1) := by decide +kernel
theorem dX9_leastBelow_2 : decode cX9_leastBelow 2 = .ok (.iload_n 2, 1) := by decide +kernel
theorem dX9_leastBelow_3 : decode cX9_leastBelow 3 = .ok (.iconst 0, 1) := by decide +kernel
theorem dX9_leastBelow_4 : decode cX9_leastBelow 4 = .ok (.invokestatic 23, 3) := by decide +kernel
theorem dX9_leastBelow_7 : decode cX9_leastBelow 7 = .ok (.iload_n 3, 1) := by decide +kernel
theorem dX9_leastBelow_8 : decode cX9_leastBelow 8 = .ok (.invokevirtual 27, 3) := by decide +kernel
theorem dX9_leastBelow_11 : decode cX9_leastBelow 11 = .ok (.istore 4, 2) := by decide +kernel
theorem dX9_leastBelow_13 : decode cX9_leastBelow 13 = .ok (.iconst 1, 1) := by decide +kernel
theorem dX9_leastBelow_14 : decode cX9_leastBelow 14 = .ok (.istore 5, 2) := by decide +kernel
theorem dX9_leastBelow_16 : decode cX9_leastBelow 16 = .ok (.iload 5, 2) := by decide +kernel
theorem dX9_leastBelow_18 : decode cX9_leastBelow 18 = .ok (.iconst 3, 1) := by decide +kernel
theorem dX9_leastBelow_19 : decode cX9_leastBelow 19 = .ok (.if_icmp .ge 39, 3) := by decide +kernel
theorem dX9_leastBelow_22 : decode cX9_leastBelow 22 = .ok (.iload_n 2, 1) := by decide +kernel
theorem dX9_leastBelow_23 : decode cX9_leastBelow 23 = .ok (.iload 5, 2) := by decide +kernel
theorem dX9_leastBelow_25 : decode cX9_leastBelow 25 = .ok (.invokestatic 23, 3) := by decide +kernel
theorem dX9_leastBelow_28 : decode cX9_leastBelow 28 = .ok (.istore 6, 2) := by decide +kernel
theorem dX9_leastBelow_30 : decode cX9_leastBelow 30 = .ok (.iload 6, 2) := by decide +kernel
theorem dX9_leastBelow_32 : decode cX9_leastBelow 32 = .ok (.bipush (-2), 2) := by decide +kernel
theorem dX9_leastBelow_34 : decode cX9_leastBelow 34 = .ok (.if_icmp .eq 18, 3) := by decide +kernel
theorem dX9_leastBelow_37 : decode cX9_leastBelow 37 = .ok (.iload 4, 2) := by decide +kernel
theorem dX9_leastBelow_39 : decode cX9_leastBelow 39 = .ok (.aload_n 0, 1) := by decide +kernel
theorem dX9_leastBelow_40 : decode cX9_leastBelow 40 = .ok (.aload_n 1, 1) := by decide +kernel
theorem dX9_leastBelow_41 : decode cX9_leastBelow 41 = .ok (.iload 6, 2) := by decide +kernel
theorem dX9_leastBelow_43 : decode cX9_leastBelow 43 = .ok (.iload_n 3, 1) := by decide +kernel
theorem dX9_leastBelow_44 : decode cX9_leastBelow 44 = .ok (.invokevirtual 27, 3) := by decide +kernel
theorem dX9_leastBelow_47 : decode cX9_leastBelow 47 = .ok (.invokestatic 30, 3) := by decide +kernel
theorem dX9_leastBelow_50 : decode cX9_leastBelow 50 = .ok (.istore 4, 2) := by decide +kernel
theorem dX9_leastBelow_52 : decode cX9_leastBelow 52 = .ok (.iinc 5 1, 3) := by decide +kernel
theorem dX9_leastBelow_55 : decode cX9_leastBelow 55 = .ok (.goto (-39), 3) := by decide +kernel
theorem dX9_leastBelow_58 : decode cX9_leastBelow 58 = .ok (.iload 4, 2) := by decide +kernel
theorem dX9_leastBelow_60 : decode cX9_leastBelow 60 = .ok (.ireturn, 1) := by decide +kernel
theorem dX9_costOver_0 : decode cX9_costOver 0 = .ok (.aload_n 1, 1) := by decide +kernel
theorem dX9_costOver_1 : decode cX9_costOver 1 = .ok (.iload_n 2, 1) := by decide +kernel
theorem dX9_costOver_2 : decode cX9_costOver 2 = .ok (.invokevirtual 35, 3) := by decide +kernel
theorem dX9_costOver_5 : decode cX9_costOver 5 = .ok (.istore 4, 2) := by decide +kernel
theorem dX9_costOver_7 : decode cX9_costOver 7 = .ok (.iload_n 3, 1) := by decide +kernel
theorem dX9_costOver_8 : decode cX9_costOver 8 = .ok (.ifCond .eq 15, 3) := by decide +kernel
theorem dX9_costOver_11 : decode cX9_costOver 11 = .ok (.iload 4, 2) := by decide +kernel
theorem dX9_costOver_13 : decode cX9_costOver 13 = .ok (.aload_n 0, 1) := by decide +kernel
theorem dX9_costOver_14 : decode cX9_costOver 14 = .ok (.getfield 9, 3) := by decide +kernel
theorem dX9_costOver_17 : decode cX9_costOver 17 = .ok (.iload_n 2, 1) := by decide +kernel
theorem dX9_costOver_18 : decode cX9_costOver 18 = .ok (.iaload, 1) := by decide +kernel
theorem dX9_costOver_19 : decode cX9_costOver 19 = .ok (.iadd, 1) := by decide +kernel
theorem dX9_costOver_20 : decode cX9_costOver 20 = .ok (.goto 14, 3) := by decide +kernel
theorem dX9_costOver_23 : decode cX9_costOver 23 = .ok (.iload 4, 2) := by decide +kernel
theorem dX9_costOver_25 : decode cX9_costOver 25 = .ok (.aload_n 0, 1) := by decide +kernel
theorem dX9_costOver_26 : decode cX9_costOver 26 = .ok (.getfield 9, 3) := by decide +kernel
theorem dX9_costOver_29 : decode cX9_costOver 29 = .ok (.iload_n 2, 1) := by decide +kernel
theorem dX9_costOver_30 : decode cX9_costOver 30 = .ok (.iaload, 1) := by decide +kernel
theorem dX9_costOver_31 : decode cX9_costOver 31 = .ok (.invokestatic 41, 3) := by decide +kernel
theorem dX9_costOver_34 : decode cX9_costOver 34 = .ok (.ireturn, 1) := by decide +kernel
theorem dX9_leastStart_0 : decode cX9_leastStart 0 = .ok (.iconst 0, 1) := by decide +kernel
theorem dX9_leastStart_1 : decode cX9_leastStart 1 = .ok (.istore_n 1, 1) := by decide +kernel
theorem dX9_leastStart_2 : decode cX9_leastStart 2 = .ok (.iconst 1, 1) := by decide +kernel
theorem dX9_leastStart_3 : decode cX9_leastStart 3 = .ok (.istore_n 2, 1) := by decide +kernel
theorem dX9_leastStart_4 : decode cX9_leastStart 4 = .ok (.iload_n 2, 1) := by decide +kernel
theorem dX9_leastStart_5 : decode cX9_leastStart 5 = .ok (.bipush 12, 2) := by decide +kernel
theorem dX9_leastStart_7 : decode cX9_leastStart 7 = .ok (.if_icmp .ge 26, 3) := by decide +kernel
theorem dX9_leastStart_10 : decode cX9_leastStart 10 = .ok (.aload_n 0, 1) := by decide +kernel
theorem dX9_leastStart_11 : decode cX9_leastStart 11 = .ok (.getfield 9, 3) := by decide +kernel
theorem dX9_leastStart_14 : decode cX9_leastStart 14 = .ok (.iload_n 2, 1) := by decide +kernel
theorem dX9_leastStart_15 : decode cX9_leastStart 15 = .ok (.iaload, 1) := by decide +kernel
theorem dX9_leastStart_16 : decode cX9_leastStart 16 = .ok (.aload_n 0, 1) := by decide +kernel
theorem dX9_leastStart_17 : decode cX9_leastStart 17 = .ok (.getfield 9, 3) := by decide +kernel
theorem dX9_leastStart_20 : decode cX9_leastStart 20 = .ok (.iload_n 1, 1) := by decide +kernel
theorem dX9_leastStart_21 : decode cX9_leastStart 21 = .ok (.iaload, 1) := by decide +kernel
theorem dX9_leastStart_22 : decode cX9_leastStart 22 = .ok (.if_icmp .ge 5, 3) := by decide +kernel
theorem dX9_leastStart_25 : decode cX9_leastStart 25 = .ok (.iload_n 2, 1) := by decide +kernel
theorem dX9_leastStart_26 : decode cX9_leastStart 26 = .ok (.istore_n 1, 1) := by decide +kernel
theorem dX9_leastStart_27 : decode cX9_leastStart 27 = .ok (.iinc 2 1, 3) := by decide +kernel
theorem dX9_leastStart_30 : decode cX9_leastStart 30 = .ok (.goto (-26), 3) := by decide +kernel
theorem dX9_leastStart_33 : decode cX9_leastStart 33 = .ok (.iload_n 1, 1) := by decide +kernel
theorem dX9_leastStart_34 : decode cX9_leastStart 34 = .ok (.ireturn, 1) := by decide +kernel
theorem dX9_endFrom_0 : decode cX9_endFrom 0 = .ok (.iload_n 2, 1) := by decide +kernel
theorem dX9_endFrom_1 : decode cX9_endFrom 1 = .ok (.istore_n 3, 1) := by decide +kernel
theorem dX9_endFrom_2 : decode cX9_endFrom 2 = .ok (.iconst 0, 1) := by decide +kernel
theorem dX9_endFrom_3 : decode cX9_endFrom 3 = .ok (.istore 4, 2) := by decide +kernel
theorem dX9_endFrom_5 : decode cX9_endFrom 5 = .ok (.iload 4, 2) := by decide +kernel
theorem dX9_endFrom_7 : decode cX9_endFrom 7 = .ok (.bipush 15, 2) := by decide +kernel
theorem dX9_endFrom_9 : decode cX9_endFrom 9 = .ok (.if_icmp .ge 16, 3) := by decide +kernel
theorem dX9_endFrom_12 : decode cX9_endFrom 12 = .ok (.aload_n 0, 1) := by decide +kernel
theorem dX9_endFrom_13 : decode cX9_endFrom 13 = .ok (.aload_n 1, 1) := by decide +kernel
theorem dX9_endFrom_14 : decode cX9_endFrom 14 = .ok (.iload_n 3, 1) := by decide +kernel
theorem dX9_endFrom_15 : decode cX9_endFrom 15 = .ok (.invokevirtual 44, 3) := by decide +kernel
theorem dX9_endFrom_18 : decode cX9_endFrom 18 = .ok (.istore_n 3, 1) := by decide +kernel
theorem dX9_endFrom_19 : decode cX9_endFrom 19 = .ok (.iinc 4 1, 3) := by decide +kernel
theorem dX9_endFrom_22 : decode cX9_endFrom 22 = .ok (.goto (-17), 3) := by decide +kernel
theorem dX9_endFrom_25 : decode cX9_endFrom 25 = .ok (.iload_n 3, 1) := by decide +kernel
theorem dX9_endFrom_26 : decode cX9_endFrom 26 = .ok (.invokestatic 48, 3) := by decide +kernel
theorem dX9_endFrom_29 : decode cX9_endFrom 29 = .ok (.ireturn, 1) := by decide +kernel
theorem dX9_downOn_0 : decode cX9_downOn 0 = .ok (.iconst 0, 1) := by decide +kernel
theorem dX9_downOn_1 : decode cX9_downOn 1 = .ok (.istore_n 3, 1) := by decide +kernel
theorem dX9_downOn_2 : decode cX9_downOn 2 = .ok (.iload_n 3, 1) := by decide +kernel
theorem dX9_downOn_3 : decode cX9_downOn 3 = .ok (.iconst 3, 1) := by decide +kernel
theorem dX9_downOn_4 : decode cX9_downOn 4 = .ok (.if_icmp .ge 43, 3) := by decide +kernel
theorem dX9_downOn_7 : decode cX9_downOn 7 = .ok (.iload_n 2, 1) := by decide +kernel
theorem dX9_downOn_8 : decode cX9_downOn 8 = .ok (.iload_n 3, 1) := by decide +kernel
theorem dX9_downOn_9 : decode cX9_downOn 9 = .ok (.invokestatic 23, 3) := by decide +kernel
theorem dX9_downOn_12 : decode cX9_downOn 12 = .ok (.istore 4, 2) := by decide +kernel
theorem dX9_downOn_14 : decode cX9_downOn 14 = .ok (.iload 4, 2) := by decide +kernel
theorem dX9_downOn_16 : decode cX9_downOn 16 = .ok (.bipush (-2), 2) := by decide +kernel
theorem dX9_downOn_18 : decode cX9_downOn 18 = .ok (.if_icmp .eq 23, 3) := by decide +kernel
theorem dX9_downOn_21 : decode cX9_downOn 21 = .ok (.aload_n 0, 1) := by decide +kernel
theorem dX9_downOn_22 : decode cX9_downOn 22 = .ok (.aload_n 1, 1) := by decide +kernel
theorem dX9_downOn_23 : decode cX9_downOn 23 = .ok (.iload 4, 2) := by decide +kernel
theorem dX9_downOn_25 : decode cX9_downOn 25 = .ok (.iconst 1, 1) := by decide +kernel
theorem dX9_downOn_26 : decode cX9_downOn 26 = .ok (.invokevirtual 27, 3) := by decide +kernel
theorem dX9_downOn_29 : decode cX9_downOn 29 = .ok (.aload_n 0, 1) := by decide +kernel
theorem dX9_downOn_30 : decode cX9_downOn 30 = .ok (.getfield 9, 3) := by decide +kernel
theorem dX9_downOn_33 : decode cX9_downOn 33 = .ok (.iload_n 2, 1) := by decide +kernel
theorem dX9_downOn_34 : decode cX9_downOn 34 = .ok (.iaload, 1) := by decide +kernel
theorem dX9_downOn_35 : decode cX9_downOn 35 = .ok (.if_icmp .ne 6, 3) := by decide +kernel
theorem dX9_downOn_38 : decode cX9_downOn 38 = .ok (.iload 4, 2) := by decide +kernel
theorem dX9_downOn_40 : decode cX9_downOn 40 = .ok (.ireturn, 1) := by decide +kernel
theorem dX9_downOn_41 : decode cX9_downOn 41 = .ok (.iinc 3 1, 3) := by decide +kernel
theorem dX9_downOn_44 : decode cX9_downOn 44 = .ok (.goto (-42), 3) := by decide +kernel
theorem dX9_downOn_47 : decode cX9_downOn 47 = .ok (.iload_n 2, 1) := by decide +kernel
theorem dX9_downOn_48 : decode cX9_downOn 48 = .ok (.ireturn, 1) := by decide +kernel
theorem dX10_init_0 : decode cX10_init 0 = .ok (.aload_n 0, 1) := by decide +kernel
theorem dX10_init_1 : decode cX10_init 1 = .ok (.invokespecial 3, 3) := by decide +kernel
theorem dX10_init_4 : decode cX10_init 4 = .ok (.aload_n 0, 1) := by decide +kernel
theorem dX10_init_5 : decode cX10_init 5 = .ok (.new 9, 3) := by decide +kernel
theorem dX10_init_8 : decode cX10_init 8 = .ok (.dup, 1) := by decide +kernel
theorem dX10_init_9 : decode cX10_init 9 = .ok (.invokespecial 11, 3) := by decide +kernel
theorem dX10_init_12 : decode cX10_init 12 = .ok (.putfield 12, 3) := by decide +kernel
theorem dX10_init_15 : decode cX10_init 15 = .ok (.aload_n 0, 1) := by decide +kernel
theorem dX10_init_16 : decode cX10_init 16 = .ok (.new 16, 3) := by decide +kernel
theorem dX10_init_19 : decode cX10_init 19 = .ok (.dup, 1) := by decide +kernel
theorem dX10_init_20 : decode cX10_init 20 = .ok (.invokespecial 18, 3) := by decide +kernel
theorem dX10_init_23 : decode cX10_init 23 = .ok (.putfield 19, 3) := by decide +kernel
theorem dX10_init_26 : decode cX10_init 26 = .ok (.aload_n 0, 1) := by decide +kernel
theorem dX10_init_27 : decode cX10_init 27 = .ok (.new 16, 3) := by decide +kernel
theorem dX10_init_30 : decode cX10_init 30 = .ok (.dup, 1) := by decide +kernel
theorem dX10_init_31 : decode cX10_init 31 = .ok (.invokespecial 18, 3) := by decide +kernel
theorem dX10_init_34 : decode cX10_init 34 = .ok (.putfield 23, 3) := by decide +kernel
theorem dX10_init_37 : decode cX10_init 37 = .ok (.aload_n 0, 1) := by decide +kernel
theorem dX10_init_38 : decode cX10_init 38 = .ok (.iconst 0, 1) := by decide +kernel
theorem dX10_init_39 : decode cX10_init 39 = .ok (.putfield 26, 3) := by decide +kernel
theorem dX10_init_42 : decode cX10_init 42 = .ok (.aload_n 0, 1) := by decide +kernel
theorem dX10_init_43 : decode cX10_init 43 = .ok (.new 30, 3) := by decide +kernel
theorem dX10_init_46 : decode cX10_init 46 = .ok (.dup, 1) := by decide +kernel
theorem dX10_init_47 : decode cX10_init 47 = .ok (.invokespecial 32, 3) := by decide +kernel
theorem dX10_init_50 : decode cX10_init 50 = .ok (.putfield 33, 3) := by decide +kernel
theorem dX10_init_53 : decode cX10_init 53 = .ok (.aload_n 0, 1) := by decide +kernel
theorem dX10_init_54 : decode cX10_init 54 = .ok (.new 37, 3) := by decide +kernel
theorem dX10_init_57 : decode cX10_init 57 = .ok (.dup, 1) := by decide +kernel
theorem dX10_init_58 : decode cX10_init 58 = .ok (.aload_n 0, 1) := by decide +kernel
theorem dX10_init_59 : decode cX10_init 59 = .ok (.getfield 33, 3) := by decide +kernel
theorem dX10_init_62 : decode cX10_init 62 = .ok (.invokespecial 39, 3) := by decide +kernel
theorem dX10_init_65 : decode cX10_init 65 = .ok (.putfield 42, 3) := by decide +kernel
theorem dX10_init_68 : decode cX10_init 68 = .ok (.aload_n 0, 1) := by decide +kernel
theorem dX10_init_69 : decode cX10_init 69 = .ok (.iconst 4, 1) := by decide +kernel
theorem dX10_init_70 : decode cX10_init 70 = .ok (.anewarray 46, 3) := by decide +kernel
theorem dX10_init_73 : decode cX10_init 73 = .ok (.putfield 48, 3) := by decide +kernel
theorem dX10_init_76 : decode cX10_init 76 = .ok (.iconst 0, 1) := by decide +kernel
theorem dX10_init_77 : decode cX10_init 77 = .ok (.istore_n 1, 1) := by decide +kernel
theorem dX10_init_78 : decode cX10_init 78 = .ok (.iload_n 1, 1) := by decide +kernel
theorem dX10_init_79 : decode cX10_init 79 = .ok (.iconst 4, 1) := by decide +kernel
theorem dX10_init_80 : decode cX10_init 80 = .ok (.if_icmp .ge 22, 3) := by decide +kernel
theorem dX10_init_83 : decode cX10_init 83 = .ok (.aload_n 0, 1) := by decide +kernel
theorem dX10_init_84 : decode cX10_init 84 = .ok (.getfield 48, 3) := by decide +kernel
theorem dX10_init_87 : decode cX10_init 87 = .ok (.iload_n 1, 1) := by decide +kernel
theorem dX10_init_88 : decode cX10_init 88 = .ok (.new 46, 3) := by decide +kernel
theorem dX10_init_91 : decode cX10_init 91 = .ok (.dup, 1) := by decide +kernel
theorem dX10_init_92 : decode cX10_init 92 = .ok (.invokespecial 52, 3) := by decide +kernel
theorem dX10_init_95 : decode cX10_init 95 = .ok (.aastore, 1) := by decide +kernel
theorem dX10_init_96 : decode cX10_init 96 = .ok (.iinc 1 1, 3) := by decide +kernel
theorem dX10_init_99 : decode cX10_init 99 = .ok (.goto (-21), 3) := by decide +kernel
theorem dX10_init_102 : decode cX10_init 102 = .ok (.aload_n 0, 1) := by decide +kernel
theorem dX10_init_103 : decode cX10_init 103 = .ok (.new 53, 3) := by decide +kernel
theorem dX10_init_106 : decode cX10_init 106 = .ok (.dup, 1) := by decide +kernel
theorem dX10_init_107 : decode cX10_init 107 = .ok (.invokespecial 55, 3) := by decide +kernel
theorem dX10_init_110 : decode cX10_init 110 = .ok (.putfield 56, 3) := by decide +kernel
theorem dX10_init_113 : decode cX10_init 113 = .ok (.aload_n 0, 1) := by decide +kernel
theorem dX10_init_114 : decode cX10_init 114 = .ok (.new 60, 3) := by decide +kernel
theorem dX10_init_117 : decode cX10_init 117 = .ok (.dup, 1) := by decide +kernel
theorem dX10_init_118 : decode cX10_init 118 = .ok (.invokespecial 62, 3) := by decide +kernel
theorem dX10_init_121 : decode cX10_init 121 = .ok (.putfield 63, 3) := by decide +kernel
theorem dX10_init_124 : decode cX10_init 124 = .ok (.aload_n 0, 1) := by decide +kernel
theorem dX10_init_125 : decode cX10_init 125 = .ok (.new 60, 3) := by decide +kernel
theorem dX10_init_128 : decode cX10_init 128 = .ok (.dup, 1) := by decide +kernel
theorem dX10_init_129 : decode cX10_init 129 = .ok (.invokespecial 62, 3) := by decide +kernel
theorem dX10_init_132 : decode cX10_init 132 = .ok (.putfield 67, 3) := by decide +kernel
theorem dX10_init_135 : decode cX10_init 135 = .ok (.aload_n 0, 1) := by decide +kernel
theorem dX10_init_136 : decode cX10_init 136 = .ok (.new 70, 3) := by decide +kernel
theorem dX10_init_139 : decode cX10_init 139 = .ok (.dup, 1) := by decide +kernel
theorem dX10_init_140 : decode cX10_init 140 = .ok (.invokespecial 72, 3) := by decide +kernel
theorem dX10_init_143 : decode cX10_init 143 = .ok (.putfield 73, 3) := by decide +kernel
theorem dX10_init_146 : decode cX10_init 146 = .ok (.return_, 1) := by decide +kernel
theorem dX10_cellOf_0 : decode cX10_cellOf 0 = .ok (.iload_n 1, 1) := by decide +kernel
theorem dX10_cellOf_1 : decode cX10_cellOf 1 = .ok (.invokestatic 77, 3) := by decide +kernel
theorem dX10_cellOf_4 : decode cX10_cellOf 4 = .ok (.ifCond .eq 12, 3) := by decide +kernel
theorem dX10_cellOf_7 : decode cX10_cellOf 7 = .ok (.iload_n 2, 1) := by decide +kernel
theorem dX10_cellOf_8 : decode cX10_cellOf 8 = .ok (.iconst 0, 1) := by decide +kernel
theorem dX10_cellOf_9 : decode cX10_cellOf 9 = .ok (.iconst 3, 1) := by decide +kernel
theorem dX10_cellOf_10 : decode cX10_cellOf 10 = .ok (.invokestatic 81, 3) := by decide +kernel
theorem dX10_cellOf_13 : decode cX10_cellOf 13 = .ok (.ifCond .ne 12, 3) := by decide +kernel
theorem dX10_cellOf_16 : decode cX10_cellOf 16 = .ok (.aload_n 0, 1) := by decide +kernel
theorem dX10_cellOf_17 : decode cX10_cellOf 17 = .ok (.getfield 12, 3) := by decide +kernel
theorem dX10_cellOf_20 : decode cX10_cellOf 20 = .ok (.iconst 0, 1) := by decide +kernel
theorem dX10_cellOf_21 : decode cX10_cellOf 21 = .ok (.invokevirtual 85, 3) := by decide +kernel
theorem dX10_cellOf_24 : decode cX10_cellOf 24 = .ok (.ireturn, 1) := by decide +kernel
theorem dX10_cellOf_25 : decode cX10_cellOf 25 = .ok (.iload_n 2, 1) := by decide +kernel
theorem dX10_cellOf_26 : decode cX10_cellOf 26 = .ok (.tableswitch 64 0 2 #[26, 39, 52], 26) := by decide +kernel
theorem dX10_cellOf_52 : decode cX10_cellOf 52 = .ok (.aload_n 0, 1) := by decide +kernel
theorem dX10_cellOf_53 : decode cX10_cellOf 53 = .ok (.getfield 19, 3) := by decide +kernel
theorem dX10_cellOf_56 : decode cX10_cellOf 56 = .ok (.getfield 89, 3) := by decide +kernel
theorem dX10_cellOf_59 : decode cX10_cellOf 59 = .ok (.getfield 92, 3) := by decide +kernel
theorem dX10_cellOf_62 : decode cX10_cellOf 62 = .ok (.iload_n 1, 1) := by decide +kernel
theorem dX10_cellOf_63 : decode cX10_cellOf 63 = .ok (.iaload, 1) := by decide +kernel
theorem dX10_cellOf_64 : decode cX10_cellOf 64 = .ok (.ireturn, 1) := by decide +kernel
theorem dX10_cellOf_65 : decode cX10_cellOf 65 = .ok (.aload_n 0, 1) := by decide +kernel
theorem dX10_cellOf_66 : decode cX10_cellOf 66 = .ok (.getfield 19, 3) := by decide +kernel
theorem dX10_cellOf_69 : decode cX10_cellOf 69 = .ok (.getfield 89, 3) := by decide +kernel
theorem dX10_cellOf_72 : decode cX10_cellOf 72 = .ok (.getfield 96, 3) := by decide +kernel
theorem dX10_cellOf_75 : decode cX10_cellOf 75 = .ok (.iload_n 1, 1) := by decide +kernel
theorem dX10_cellOf_76 : decode cX10_cellOf 76 = .ok (.iaload, 1) := by decide +kernel
theorem dX10_cellOf_77 : decode cX10_cellOf 77 = .ok (.ireturn, 1) := by decide +kernel
theorem dX10_cellOf_78 : decode cX10_cellOf 78 = .ok (.aload_n 0, 1) := by decide +kernel
theorem dX10_cellOf_79 : decode cX10_cellOf 79 = .ok (.getfield 19, 3) := by decide +kernel
theorem dX10_cellOf_82 : decode cX10_cellOf 82 = .ok (.getfield 89, 3) := by decide +kernel
theorem dX10_cellOf_85 : decode cX10_cellOf 85 = .ok (.iload_n 1, 1) := by decide +kernel
theorem dX10_cellOf_86 : decode cX10_cellOf 86 = .ok (.invokevirtual 99, 3) := by decide +kernel
theorem dX10_cellOf_89 : decode cX10_cellOf 89 = .ok (.ireturn, 1) := by decide +kernel
theorem dX10_cellOf_90 : decode cX10_cellOf 90 = .ok (.aload_n 0, 1) := by decide +kernel
theorem dX10_cellOf_91 : decode cX10_cellOf 91 = .ok (.getfield 19, 3) := by decide +kernel
theorem dX10_cellOf_94 : decode cX10_cellOf 94 = .ok (.getfield 102, 3) := by decide +kernel
theorem dX10_cellOf_97 : decode cX10_cellOf 97 = .ok (.iload_n 1, 1) := by decide +kernel
theorem dX10_cellOf_98 : decode cX10_cellOf 98 = .ok (.invokevirtual 106, 3) := by decide +kernel
theorem dX10_cellOf_101 : decode cX10_cellOf 101 = .ok (.ireturn, 1) := by decide +kernel
theorem dX10_dirt_0 : decode cX10_dirt 0 = .ok (.iload_n 1, 1) := by decide +kernel
theorem dX10_dirt_1 : decode cX10_dirt 1 = .ok (.invokestatic 77, 3) := by decide +kernel
theorem dX10_dirt_4 : decode cX10_dirt 4 = .ok (.ifCond .eq 13, 3) := by decide +kernel
theorem dX10_dirt_7 : decode cX10_dirt 7 = .ok (.iload_n 2, 1) := by decide +kernel
theorem dX10_dirt_8 : decode cX10_dirt 8 = .ok (.iconst 0, 1) := by decide +kernel
theorem dX10_dirt_9 : decode cX10_dirt 9 = .ok (.bipush 9, 2) := by decide +kernel
theorem dX10_dirt_11 : decode cX10_dirt 11 = .ok (.invokestatic 81, 3) := by decide +kernel
theorem dX10_dirt_14 : decode cX10_dirt 14 = .ok (.ifCond .ne 12, 3) := by decide +kernel
theorem dX10_dirt_17 : decode cX10_dirt 17 = .ok (.aload_n 0, 1) := by decide +kernel
theorem dX10_dirt_18 : decode cX10_dirt 18 = .ok (.getfield 12, 3) := by decide +kernel
theorem dX10_dirt_21 : decode cX10_dirt 21 = .ok (.iconst 0, 1) := by decide +kernel
theorem dX10_dirt_22 : decode cX10_dirt 22 = .ok (.invokevirtual 85, 3) := by decide +kernel
theorem dX10_dirt_25 : decode cX10_dirt 25 = .ok (.ireturn, 1) := by decide +kernel
theorem dX10_dirt_26 : decode cX10_dirt 26 = .ok (.aload_n 0, 1) := by decide +kernel
theorem dX10_dirt_27 : decode cX10_dirt 27 = .ok (.getfield 19, 3) := by decide +kernel
theorem dX10_dirt_30 : decode cX10_dirt 30 = .ok (.getfield 89, 3) := by decide +kernel
theorem dX10_dirt_33 : decode cX10_dirt 33 = .ok (.getfield 92, 3) := by decide +kernel
theorem dX10_dirt_36 : decode cX10_dirt 36 = .ok (.iload_n 1, 1) := by decide +kernel
theorem dX10_dirt_37 : decode cX10_dirt 37 = .ok (.iaload, 1) := by decide +kernel
theorem dX10_dirt_38 : decode cX10_dirt 38 = .ok (.istore_n 3, 1) := by decide +kernel
theorem dX10_dirt_39 : decode cX10_dirt 39 = .ok (.aload_n 0, 1) := by decide +kernel
theorem dX10_dirt_40 : decode cX10_dirt 40 = .ok (.getfield 19, 3) := by decide +kernel
theorem dX10_dirt_43 : decode cX10_dirt 43 = .ok (.getfield 89, 3) := by decide +kernel
theorem dX10_dirt_46 : decode cX10_dirt 46 = .ok (.getfield 92, 3) := by decide +kernel
theorem dX10_dirt_49 : decode cX10_dirt 49 = .ok (.iload_n 1, 1) := by decide +kernel
theorem dX10_dirt_50 : decode cX10_dirt 50 = .ok (.iload_n 2, 1) := by decide +kernel
theorem dX10_dirt_51 : decode cX10_dirt 51 = .ok (.iastore, 1) := by decide +kernel
theorem dX10_dirt_52 : decode cX10_dirt 52 = .ok (.iload_n 3, 1) := by decide +kernel
theorem dX10_dirt_53 : decode cX10_dirt 53 = .ok (.ireturn, 1) := by decide +kernel
theorem dX10_set_0 : decode cX10_set 0 = .ok (.iload_n 1, 1) := by decide +kernel
theorem dX10_set_1 : decode cX10_set 1 = .ok (.iload_n 2, 1) := by decide +kernel
theorem dX10_set_2 : decode cX10_set 2 = .ok (.invokestatic 111, 3) := by decide +kernel
theorem dX10_set_5 : decode cX10_set 5 = .ok (.ifCond .ne 12, 3) := by decide +kernel
theorem dX10_set_8 : decode cX10_set 8 = .ok (.aload_n 0, 1) := by decide +kernel
theorem dX10_set_9 : decode cX10_set 9 = .ok (.getfield 12, 3) := by decide +kernel
theorem dX10_set_12 : decode cX10_set 12 = .ok (.iconst 0, 1) := by decide +kernel
theorem dX10_set_13 : decode cX10_set 13 = .ok (.invokevirtual 85, 3) := by decide +kernel
theorem dX10_set_16 : decode cX10_set 16 = .ok (.ireturn, 1) := by decide +kernel
theorem dX10_set_17 : decode cX10_set 17 = .ok (.aload_n 0, 1) := by decide +kernel
theorem dX10_set_18 : decode cX10_set 18 = .ok (.getfield 19, 3) := by decide +kernel
theorem dX10_set_21 : decode cX10_set 21 = .ok (.getfield 89, 3) := by decide +kernel
theorem dX10_set_24 : decode cX10_set 24 = .ok (.astore_n 3, 1) := by decide +kernel
theorem dX10_set_25 : decode cX10_set 25 = .ok (.iload_n 1, 1) := by decide +kernel
theorem dX10_set_26 : decode cX10_set 26 = .ok (.lookupswitch 54 #[(0, 26), (1, 40)], 26) := by decide +kernel
theorem dX10_set_52 : decode cX10_set 52 = .ok (.aload_n 3, 1) := by decide +kernel
theorem dX10_set_53 : decode cX10_set 53 = .ok (.getfield 115, 3) := by decide +kernel
theorem dX10_set_56 : decode cX10_set 56 = .ok (.istore 4, 2) := by decide +kernel
theorem dX10_set_58 : decode cX10_set 58 = .ok (.aload_n 3, 1) := by decide +kernel
theorem dX10_set_59 : decode cX10_set 59 = .ok (.iload_n 2, 1) := by decide +kernel
theorem dX10_set_60 : decode cX10_set 60 = .ok (.putfield 115, 3) := by decide +kernel
theorem dX10_set_63 : decode cX10_set 63 = .ok (.iload 4, 2) := by decide +kernel
theorem dX10_set_65 : decode cX10_set 65 = .ok (.ireturn, 1) := by decide +kernel
theorem dX10_set_66 : decode cX10_set 66 = .ok (.aload_n 3, 1) := by decide +kernel
theorem dX10_set_67 : decode cX10_set 67 = .ok (.getfield 119, 3) := by decide +kernel
theorem dX10_set_70 : decode cX10_set 70 = .ok (.istore 4, 2) := by decide +kernel
theorem dX10_set_72 : decode cX10_set 72 = .ok (.aload_n 3, 1) := by decide +kernel
theorem dX10_set_73 : decode cX10_set 73 = .ok (.iload_n 2, 1) := by decide +kernel
theorem dX10_set_74 : decode cX10_set 74 = .ok (.putfield 119, 3) := by decide +kernel
theorem dX10_set_77 : decode cX10_set 77 = .ok (.iload 4, 2) := by decide +kernel
theorem dX10_set_79 : decode cX10_set 79 = .ok (.ireturn, 1) := by decide +kernel
theorem dX10_set_80 : decode cX10_set 80 = .ok (.aload_n 3, 1) := by decide +kernel
theorem dX10_set_81 : decode cX10_set 81 = .ok (.getfield 122, 3) := by decide +kernel
theorem dX10_set_84 : decode cX10_set 84 = .ok (.istore 4, 2) := by decide +kernel
theorem dX10_set_86 : decode cX10_set 86 = .ok (.aload_n 3, 1) := by decide +kernel
theorem dX10_set_87 : decode cX10_set 87 = .ok (.iload_n 2, 1) := by decide +kernel
theorem dX10_set_88 : decode cX10_set 88 = .ok (.putfield 122, 3) := by decide +kernel
theorem dX10_set_91 : decode cX10_set 91 = .ok (.iload 4, 2) := by decide +kernel
theorem dX10_set_93 : decode cX10_set 93 = .ok (.ireturn, 1) := by decide +kernel
theorem dX10_scatter_0 : decode cX10_scatter 0 = .ok (.iload_n 1, 1) := by decide +kernel
theorem dX10_scatter_1 : decode cX10_scatter 1 = .ok (.iconst 1, 1) := by decide +kernel
theorem dX10_scatter_2 : decode cX10_scatter 2 = .ok (.bipush 60, 2) := by decide +kernel
theorem dX10_scatter_4 : decode cX10_scatter 4 = .ok (.invokestatic 81, 3) := by decide +kernel
theorem dX10_scatter_7 : decode cX10_scatter 7 = .ok (.ifCond .ne 12, 3) := by decide +kernel
theorem dX10_scatter_10 : decode cX10_scatter 10 = .ok (.aload_n 0, 1) := by decide +kernel
theorem dX10_scatter_11 : decode cX10_scatter 11 = .ok (.getfield 12, 3) := by decide +kernel
theorem dX10_scatter_14 : decode cX10_scatter 14 = .ok (.iconst 0, 1) := by decide +kernel
theorem dX10_scatter_15 : decode cX10_scatter 15 = .ok (.invokevirtual 85, 3) := by decide +kernel
theorem dX10_scatter_18 : decode cX10_scatter 18 = .ok (.ireturn, 1) := by decide +kernel
theorem dX10_scatter_19 : decode cX10_scatter 19 = .ok (.iconst 0, 1) := by decide +kernel
theorem dX10_scatter_20 : decode cX10_scatter 20 = .ok (.istore_n 2, 1) := by decide +kernel
theorem dX10_scatter_21 : decode cX10_scatter 21 = .ok (.iload_n 2, 1) := by decide +kernel
theorem dX10_scatter_22 : decode cX10_scatter 22 = .ok (.iload_n 1, 1) := by decide +kernel
theorem dX10_scatter_23 : decode cX10_scatter 23 = .ok (.if_icmp .ge 43, 3) := by decide +kernel
theorem dX10_scatter_26 : decode cX10_scatter 26 = .ok (.aload_n 0, 1) := by decide +kernel
theorem dX10_scatter_27 : decode cX10_scatter 27 = .ok (.getfield 19, 3) := by decide +kernel
theorem dX10_scatter_30 : decode cX10_scatter 30 = .ok (.invokevirtual 125, 3) := by decide +kernel
theorem dX10_scatter_33 : decode cX10_scatter 33 = .ok (.sipush 192, 3) := by decide +kernel
theorem dX10_scatter_36 : decode cX10_scatter 36 = .ok (.irem, 1) := by decide +kernel
theorem dX10_scatter_37 : decode cX10_scatter 37 = .ok (.istore_n 3, 1) := by decide +kernel
theorem dX10_scatter_38 : decode cX10_scatter 38 = .ok (.aload_n 0, 1) := by decide +kernel
theorem dX10_scatter_39 : decode cX10_scatter 39 = .ok (.getfield 19, 3) := by decide +kernel
theorem dX10_scatter_42 : decode cX10_scatter 42 = .ok (.getfield 89, 3) := by decide +kernel
theorem dX10_scatter_45 : decode cX10_scatter 45 = .ok (.getfield 92, 3) := by decide +kernel
theorem dX10_scatter_48 : decode cX10_scatter 48 = .ok (.iload_n 3, 1) := by decide +kernel
theorem dX10_scatter_49 : decode cX10_scatter 49 = .ok (.aload_n 0, 1) := by decide +kernel
theorem dX10_scatter_50 : decode cX10_scatter 50 = .ok (.getfield 19, 3) := by decide +kernel
theorem dX10_scatter_53 : decode cX10_scatter 53 = .ok (.invokevirtual 125, 3) := by decide +kernel
theorem dX10_scatter_56 : decode cX10_scatter 56 = .ok (.bipush 10, 2) := by decide +kernel
theorem dX10_scatter_58 : decode cX10_scatter 58 = .ok (.irem, 1) := by decide +kernel
theorem dX10_scatter_59 : decode cX10_scatter 59 = .ok (.iastore, 1) := by decide +kernel
theorem dX10_scatter_60 : decode cX10_scatter 60 = .ok (.iinc 2 1, 3) := by decide +kernel
theorem dX10_scatter_63 : decode cX10_scatter 63 = .ok (.goto (-42), 3) := by decide +kernel
theorem dX10_scatter_66 : decode cX10_scatter 66 = .ok (.aload_n 0, 1) := by decide +kernel
theorem dX10_scatter_67 : decode cX10_scatter 67 = .ok (.getfield 19, 3) := by decide +kernel
theorem dX10_scatter_70 : decode cX10_scatter 70 = .ok (.getfield 89, 3) := by decide +kernel
theorem dX10_scatter_73 : decode cX10_scatter 73 = .ok (.getfield 92, 3) := by decide +kernel
theorem dX10_scatter_76 : decode cX10_scatter 76 = .ok (.invokestatic 129, 3) := by decide +kernel
theorem dX10_scatter_79 : decode cX10_scatter 79 = .ok (.ireturn, 1) := by decide +kernel
theorem dX10_clean_0 : decode cX10_clean 0 = .ok (.iload_n 1, 1) := by decide +kernel
theorem dX10_clean_1 : decode cX10_clean 1 = .ok (.invokestatic 133, 3) := by decide +kernel
theorem dX10_clean_4 : decode cX10_clean 4 = .ok (.ifCond .ne 12, 3) := by decide +kernel
theorem dX10_clean_7 : decode cX10_clean 7 = .ok (.aload_n 0, 1) := by decide +kernel
theorem dX10_clean_8 : decode cX10_clean 8 = .ok (.getfield 12, 3) := by decide +kernel
theorem dX10_clean_11 : decode cX10_clean 11 = .ok (.iconst 0, 1) := by decide +kernel
theorem dX10_clean_12 : decode cX10_clean 12 = .ok (.invokevirtual 85, 3) := by decide +kernel
theorem dX10_clean_15 : decode cX10_clean 15 = .ok (.ireturn, 1) := by decide +kernel
theorem dX10_clean_16 : decode cX10_clean 16 = .ok (.aload_n 0, 1) := by decide +kernel
theorem dX10_clean_17 : decode cX10_clean 17 = .ok (.getfield 19, 3) := by decide +kernel
theorem dX10_clean_20 : decode cX10_clean 20 = .ok (.getfield 89, 3) := by decide +kernel
theorem dX10_clean_23 : decode cX10_clean 23 = .ok (.iload_n 1, 1) := by decide +kernel
theorem dX10_clean_24 : decode cX10_clean 24 = .ok (.invokevirtual 136, 3) := by decide +kernel
theorem dX10_clean_27 : decode cX10_clean 27 = .ok (.ireturn, 1) := by decide +kernel
theorem dX10_finger_0 : decode cX10_finger 0 = .ok (.iload_n 1, 1) := by decide +kernel
theorem dX10_finger_1 : decode cX10_finger 1 = .ok (.invokestatic 139, 3) := by decide +kernel
theorem dX10_finger_4 : decode cX10_finger 4 = .ok (.ifCond .ne 12, 3) := by decide +kernel
theorem dX10_finger_7 : decode cX10_finger 7 = .ok (.aload_n 0, 1) := by decide +kernel
theorem dX10_finger_8 : decode cX10_finger 8 = .ok (.getfield 12, 3) := by decide +kernel
theorem dX10_finger_11 : decode cX10_finger 11 = .ok (.iconst 0, 1) := by decide +kernel
theorem dX10_finger_12 : decode cX10_finger 12 = .ok (.invokevirtual 85, 3) := by decide +kernel
theorem dX10_finger_15 : decode cX10_finger 15 = .ok (.ireturn, 1) := by decide +kernel
theorem dX10_finger_16 : decode cX10_finger 16 = .ok (.aload_n 0, 1) := by decide +kernel
theorem dX10_finger_17 : decode cX10_finger 17 = .ok (.getfield 19, 3) := by decide +kernel
theorem dX10_finger_20 : decode cX10_finger 20 = .ok (.getfield 89, 3) := by decide +kernel
theorem dX10_finger_23 : decode cX10_finger 23 = .ok (.iload_n 1, 1) := by decide +kernel
theorem dX10_finger_24 : decode cX10_finger 24 = .ok (.invokevirtual 142, 3) := by decide +kernel
theorem dX10_finger_27 : decode cX10_finger 27 = .ok (.ireturn, 1) := by decide +kernel
theorem dX10_fades_0 : decode cX10_fades 0 = .ok (.iload_n 1, 1) := by decide +kernel
theorem dX10_fades_1 : decode cX10_fades 1 = .ok (.invokestatic 77, 3) := by decide +kernel
theorem dX10_fades_4 : decode cX10_fades 4 = .ok (.ifCond .ne 12, 3) := by decide +kernel
theorem dX10_fades_7 : decode cX10_fades 7 = .ok (.aload_n 0, 1) := by decide +kernel
theorem dX10_fades_8 : decode cX10_fades 8 = .ok (.getfield 12, 3) := by decide +kernel
theorem dX10_fades_11 : decode cX10_fades 11 = .ok (.iconst 0, 1) := by decide +kernel
theorem dX10_fades_12 : decode cX10_fades 12 = .ok (.invokevirtual 85, 3) := by decide +kernel
theorem dX10_fades_15 : decode cX10_fades 15 = .ok (.ireturn, 1) := by decide +kernel
theorem dX10_fades_16 : decode cX10_fades 16 = .ok (.aload_n 0, 1) := by decide +kernel
theorem dX10_fades_17 : decode cX10_fades 17 = .ok (.getfield 19, 3) := by decide +kernel
theorem dX10_fades_20 : decode cX10_fades 20 = .ok (.getfield 89, 3) := by decide +kernel
theorem dX10_fades_23 : decode cX10_fades 23 = .ok (.getfield 96, 3) := by decide +kernel
theorem dX10_fades_26 : decode cX10_fades 26 = .ok (.iload_n 1, 1) := by decide +kernel
theorem dX10_fades_27 : decode cX10_fades 27 = .ok (.iaload, 1) := by decide +kernel
theorem dX10_fades_28 : decode cX10_fades 28 = .ok (.istore_n 2, 1) := by decide +kernel
theorem dX10_fades_29 : decode cX10_fades 29 = .ok (.aload_n 0, 1) := by decide +kernel
theorem dX10_fades_30 : decode cX10_fades 30 = .ok (.getfield 19, 3) := by decide +kernel
theorem dX10_fades_33 : decode cX10_fades 33 = .ok (.getfield 89, 3) := by decide +kernel
theorem dX10_fades_36 : decode cX10_fades 36 = .ok (.getfield 122, 3) := by decide +kernel
theorem dX10_fades_39 : decode cX10_fades 39 = .ok (.istore_n 3, 1) := by decide +kernel
theorem dX10_fades_40 : decode cX10_fades 40 = .ok (.iload_n 2, 1) := by decide +kernel
theorem dX10_fades_41 : decode cX10_fades 41 = .ok (.ifCond .ne 5, 3) := by decide +kernel
theorem dX10_fades_44 : decode cX10_fades 44 = .ok (.iconst 0, 1) := by decide +kernel
theorem dX10_fades_45 : decode cX10_fades 45 = .ok (.ireturn, 1) := by decide +kernel
theorem dX10_fades_46 : decode cX10_fades 46 = .ok (.iload_n 3, 1) := by decide +kernel
theorem dX10_fades_47 : decode cX10_fades 47 = .ok (.ifCond .gt 12, 3) := by decide +kernel
theorem dX10_fades_50 : decode cX10_fades 50 = .ok (.aload_n 0, 1) := by decide +kernel
theorem dX10_fades_51 : decode cX10_fades 51 = .ok (.getfield 12, 3) := by decide +kernel
theorem dX10_fades_54 : decode cX10_fades 54 = .ok (.iconst 3, 1) := by decide +kernel
theorem dX10_fades_55 : decode cX10_fades 55 = .ok (.invokevirtual 85, 3) := by decide +kernel
theorem dX10_fades_58 : decode cX10_fades 58 = .ok (.ireturn, 1) := by decide +kernel
theorem dX10_fades_59 : decode cX10_fades 59 = .ok (.iload_n 2, 1) := by decide +kernel
theorem dX10_fades_60 : decode cX10_fades 60 = .ok (.iload_n 3, 1) := by decide +kernel
theorem dX10_fades_61 : decode cX10_fades 61 = .ok (.iadd, 1) := by decide +kernel
theorem dX10_fades_62 : decode cX10_fades 62 = .ok (.iconst 1, 1) := by decide +kernel
theorem dX10_fades_63 : decode cX10_fades 63 = .ok (.isub, 1) := by decide +kernel
theorem dX10_fades_64 : decode cX10_fades 64 = .ok (.iload_n 3, 1) := by decide +kernel
theorem dX10_fades_65 : decode cX10_fades 65 = .ok (.idiv, 1) := by decide +kernel
theorem dX10_fades_66 : decode cX10_fades 66 = .ok (.ireturn, 1) := by decide +kernel
theorem dX10_drop_0 : decode cX10_drop 0 = .ok (.iload_n 1, 1) := by decide +kernel
theorem dX10_drop_1 : decode cX10_drop 1 = .ok (.iload_n 2, 1) := by decide +kernel
theorem dX10_drop_2 : decode cX10_drop 2 = .ok (.iload_n 3, 1) := by decide +kernel
theorem dX10_drop_3 : decode cX10_drop 3 = .ok (.invokestatic 145, 3) := by decide +kernel
theorem dX10_drop_6 : decode cX10_drop 6 = .ok (.ifCond .ne 12, 3) := by decide +kernel
theorem dX10_drop_9 : decode cX10_drop 9 = .ok (.aload_n 0, 1) := by decide +kernel
theorem dX10_drop_10 : decode cX10_drop 10 = .ok (.getfield 12, 3) := by decide +kernel
theorem dX10_drop_13 : decode cX10_drop 13 = .ok (.iconst 0, 1) := by decide +kernel
theorem dX10_drop_14 : decode cX10_drop 14 = .ok (.invokevirtual 85, 3) := by decide +kernel
theorem dX10_drop_17 : decode cX10_drop 17 = .ok (.ireturn, 1) := by decide +kernel
theorem dX10_drop_18 : decode cX10_drop 18 = .ok (.aload_n 0, 1) := by decide +kernel
theorem dX10_drop_19 : decode cX10_drop 19 = .ok (.getfield 19, 3) := by decide +kernel
theorem dX10_drop_22 : decode cX10_drop 22 = .ok (.iload_n 1, 1) := by decide +kernel
theorem dX10_drop_23 : decode cX10_drop 23 = .ok (.iload_n 2, 1) := by decide +kernel
theorem dX10_drop_24 : decode cX10_drop 24 = .ok (.iload_n 3, 1) := by decide +kernel
theorem dX10_drop_25 : decode cX10_drop 25 = .ok (.invokevirtual 148, 3) := by decide +kernel
theorem dX10_drop_28 : decode cX10_drop 28 = .ok (.istore 4, 2) := by decide +kernel
theorem dX10_drop_30 : decode cX10_drop 30 = .ok (.iload 4, 2) := by decide +kernel
theorem dX10_drop_32 : decode cX10_drop 32 = .ok (.iconst (-1), 1) := by decide +kernel
theorem dX10_drop_33 : decode cX10_drop 33 = .ok (.if_icmp .ne 14, 3) := by decide +kernel
theorem dX10_drop_36 : decode cX10_drop 36 = .ok (.aload_n 0, 1) := by decide +kernel
theorem dX10_drop_37 : decode cX10_drop 37 = .ok (.getfield 12, 3) := by decide +kernel
theorem dX10_drop_40 : decode cX10_drop 40 = .ok (.iconst 1, 1) := by decide +kernel
theorem dX10_drop_41 : decode cX10_drop 41 = .ok (.invokevirtual 85, 3) := by decide +kernel
theorem dX10_drop_44 : decode cX10_drop 44 = .ok (.goto 5, 3) := by decide +kernel
theorem dX10_drop_47 : decode cX10_drop 47 = .ok (.iload 4, 2) := by decide +kernel
theorem dX10_drop_49 : decode cX10_drop 49 = .ok (.ireturn, 1) := by decide +kernel
theorem dX10_dropOf_0 : decode cX10_dropOf 0 = .ok (.iload_n 1, 1) := by decide +kernel
theorem dX10_dropOf_1 : decode cX10_dropOf 1 = .ok (.invokestatic 152, 3) := by decide +kernel
theorem dX10_dropOf_4 : decode cX10_dropOf 4 = .ok (.ifCond .eq 12, 3) := by decide +kernel
theorem dX10_dropOf_7 : decode cX10_dropOf 7 = .ok (.iload_n 2, 1) := by decide +kernel
theorem dX10_dropOf_8 : decode cX10_dropOf 8 = .ok (.iconst 0, 1) := by decide +kernel
theorem dX10_dropOf_9 : decode cX10_dropOf 9 = .ok (.iconst 3, 1) := by decide +kernel
theorem dX10_dropOf_10 : decode cX10_dropOf 10 = .ok (.invokestatic 81, 3) := by decide +kernel
theorem dX10_dropOf_13 : decode cX10_dropOf 13 = .ok (.ifCond .ne 12, 3) := by decide +kernel
theorem dX10_dropOf_16 : decode cX10_dropOf 16 = .ok (.aload_n 0, 1) := by decide +kernel
theorem dX10_dropOf_17 : decode cX10_dropOf 17 = .ok (.getfield 12, 3) := by decide +kernel
theorem dX10_dropOf_20 : decode cX10_dropOf 20 = .ok (.iconst 0, 1) := by decide +kernel
theorem dX10_dropOf_21 : decode cX10_dropOf 21 = .ok (.invokevirtual 85, 3) := by decide +kernel
theorem dX10_dropOf_24 : decode cX10_dropOf 24 = .ok (.ireturn, 1) := by decide +kernel
theorem dX10_dropOf_25 : decode cX10_dropOf 25 = .ok (.aload_n 0, 1) := by decide +kernel
theorem dX10_dropOf_26 : decode cX10_dropOf 26 = .ok (.getfield 19, 3) := by decide +kernel
theorem dX10_dropOf_29 : decode cX10_dropOf 29 = .ok (.getfield 102, 3) := by decide +kernel
theorem dX10_dropOf_32 : decode cX10_dropOf 32 = .ok (.astore_n 3, 1) := by decide +kernel
theorem dX10_dropOf_33 : decode cX10_dropOf 33 = .ok (.aload_n 3, 1) := by decide +kernel
theorem dX10_dropOf_34 : decode cX10_dropOf 34 = .ok (.iload_n 1, 1) := by decide +kernel
theorem dX10_dropOf_35 : decode cX10_dropOf 35 = .ok (.invokevirtual 155, 3) := by decide +kernel
theorem dX10_dropOf_38 : decode cX10_dropOf 38 = .ok (.ifCond .ne 12, 3) := by decide +kernel
theorem dX10_dropOf_41 : decode cX10_dropOf 41 = .ok (.aload_n 0, 1) := by decide +kernel
theorem dX10_dropOf_42 : decode cX10_dropOf 42 = .ok (.getfield 12, 3) := by decide +kernel
