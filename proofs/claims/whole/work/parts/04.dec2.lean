theorem dX10_dropOf_45 : decode cX10_dropOf 45 = .ok (.iconst 3, 1) := by decide +kernel
theorem dX10_dropOf_46 : decode cX10_dropOf 46 = .ok (.invokevirtual 85, 3) := by decide +kernel
theorem dX10_dropOf_49 : decode cX10_dropOf 49 = .ok (.ireturn, 1) := by decide +kernel
theorem dX10_dropOf_50 : decode cX10_dropOf 50 = .ok (.iload_n 2, 1) := by decide +kernel
theorem dX10_dropOf_51 : decode cX10_dropOf 51 = .ok (.tableswitch 46 0 2 #[25, 32, 39], 25) := by decide +kernel
theorem dX10_dropOf_76 : decode cX10_dropOf 76 = .ok (.aload_n 3, 1) := by decide +kernel
theorem dX10_dropOf_77 : decode cX10_dropOf 77 = .ok (.getfield 158, 3) := by decide +kernel
theorem dX10_dropOf_80 : decode cX10_dropOf 80 = .ok (.iload_n 1, 1) := by decide +kernel
theorem dX10_dropOf_81 : decode cX10_dropOf 81 = .ok (.iaload, 1) := by decide +kernel
theorem dX10_dropOf_82 : decode cX10_dropOf 82 = .ok (.ireturn, 1) := by decide +kernel
theorem dX10_dropOf_83 : decode cX10_dropOf 83 = .ok (.aload_n 3, 1) := by decide +kernel
theorem dX10_dropOf_84 : decode cX10_dropOf 84 = .ok (.getfield 161, 3) := by decide +kernel
theorem dX10_dropOf_87 : decode cX10_dropOf 87 = .ok (.iload_n 1, 1) := by decide +kernel
theorem dX10_dropOf_88 : decode cX10_dropOf 88 = .ok (.iaload, 1) := by decide +kernel
theorem dX10_dropOf_89 : decode cX10_dropOf 89 = .ok (.ireturn, 1) := by decide +kernel
theorem dX10_dropOf_90 : decode cX10_dropOf 90 = .ok (.aload_n 3, 1) := by decide +kernel
theorem dX10_dropOf_91 : decode cX10_dropOf 91 = .ok (.getfield 164, 3) := by decide +kernel
theorem dX10_dropOf_94 : decode cX10_dropOf 94 = .ok (.iload_n 1, 1) := by decide +kernel
theorem dX10_dropOf_95 : decode cX10_dropOf 95 = .ok (.iaload, 1) := by decide +kernel
theorem dX10_dropOf_96 : decode cX10_dropOf 96 = .ok (.ireturn, 1) := by decide +kernel
theorem dX10_dropOf_97 : decode cX10_dropOf 97 = .ok (.aload_n 3, 1) := by decide +kernel
theorem dX10_dropOf_98 : decode cX10_dropOf 98 = .ok (.getfield 167, 3) := by decide +kernel
theorem dX10_dropOf_101 : decode cX10_dropOf 101 = .ok (.iload_n 1, 1) := by decide +kernel
theorem dX10_dropOf_102 : decode cX10_dropOf 102 = .ok (.iaload, 1) := by decide +kernel
theorem dX10_dropOf_103 : decode cX10_dropOf 103 = .ok (.ireturn, 1) := by decide +kernel
theorem dX10_tick_0 : decode cX10_tick 0 = .ok (.iload_n 1, 1) := by decide +kernel
theorem dX10_tick_1 : decode cX10_tick 1 = .ok (.iconst 1, 1) := by decide +kernel
theorem dX10_tick_2 : decode cX10_tick 2 = .ok (.bipush 50, 2) := by decide +kernel
theorem dX10_tick_4 : decode cX10_tick 4 = .ok (.invokestatic 81, 3) := by decide +kernel
theorem dX10_tick_7 : decode cX10_tick 7 = .ok (.ifCond .ne 12, 3) := by decide +kernel
theorem dX10_tick_10 : decode cX10_tick 10 = .ok (.aload_n 0, 1) := by decide +kernel
theorem dX10_tick_11 : decode cX10_tick 11 = .ok (.getfield 12, 3) := by decide +kernel
theorem dX10_tick_14 : decode cX10_tick 14 = .ok (.iconst 0, 1) := by decide +kernel
theorem dX10_tick_15 : decode cX10_tick 15 = .ok (.invokevirtual 85, 3) := by decide +kernel
theorem dX10_tick_18 : decode cX10_tick 18 = .ok (.ireturn, 1) := by decide +kernel
theorem dX10_tick_19 : decode cX10_tick 19 = .ok (.aload_n 0, 1) := by decide +kernel
theorem dX10_tick_20 : decode cX10_tick 20 = .ok (.getfield 19, 3) := by decide +kernel
theorem dX10_tick_23 : decode cX10_tick 23 = .ok (.iload_n 1, 1) := by decide +kernel
theorem dX10_tick_24 : decode cX10_tick 24 = .ok (.invokevirtual 170, 3) := by decide +kernel
theorem dX10_tick_27 : decode cX10_tick 27 = .ok (.aload_n 0, 1) := by decide +kernel
theorem dX10_tick_28 : decode cX10_tick 28 = .ok (.getfield 19, 3) := by decide +kernel
theorem dX10_tick_31 : decode cX10_tick 31 = .ok (.getfield 102, 3) := by decide +kernel
theorem dX10_tick_34 : decode cX10_tick 34 = .ok (.invokevirtual 174, 3) := by decide +kernel
theorem dX10_tick_37 : decode cX10_tick 37 = .ok (.ireturn, 1) := by decide +kernel
theorem dX10_next_0 : decode cX10_next 0 = .ok (.iload_n 1, 1) := by decide +kernel
theorem dX10_next_1 : decode cX10_next 1 = .ok (.invokestatic 152, 3) := by decide +kernel
theorem dX10_next_4 : decode cX10_next 4 = .ok (.ifCond .ne 12, 3) := by decide +kernel
theorem dX10_next_7 : decode cX10_next 7 = .ok (.aload_n 0, 1) := by decide +kernel
theorem dX10_next_8 : decode cX10_next 8 = .ok (.getfield 12, 3) := by decide +kernel
theorem dX10_next_11 : decode cX10_next 11 = .ok (.iconst 0, 1) := by decide +kernel
theorem dX10_next_12 : decode cX10_next 12 = .ok (.invokevirtual 85, 3) := by decide +kernel
theorem dX10_next_15 : decode cX10_next 15 = .ok (.ireturn, 1) := by decide +kernel
theorem dX10_next_16 : decode cX10_next 16 = .ok (.aload_n 0, 1) := by decide +kernel
theorem dX10_next_17 : decode cX10_next 17 = .ok (.getfield 19, 3) := by decide +kernel
theorem dX10_next_20 : decode cX10_next 20 = .ok (.getfield 102, 3) := by decide +kernel
theorem dX10_next_23 : decode cX10_next 23 = .ok (.astore_n 2, 1) := by decide +kernel
theorem dX10_next_24 : decode cX10_next 24 = .ok (.aload_n 2, 1) := by decide +kernel
theorem dX10_next_25 : decode cX10_next 25 = .ok (.iload_n 1, 1) := by decide +kernel
theorem dX10_next_26 : decode cX10_next 26 = .ok (.invokevirtual 155, 3) := by decide +kernel
theorem dX10_next_29 : decode cX10_next 29 = .ok (.ifCond .ne 12, 3) := by decide +kernel
theorem dX10_next_32 : decode cX10_next 32 = .ok (.aload_n 0, 1) := by decide +kernel
theorem dX10_next_33 : decode cX10_next 33 = .ok (.getfield 12, 3) := by decide +kernel
theorem dX10_next_36 : decode cX10_next 36 = .ok (.iconst 3, 1) := by decide +kernel
theorem dX10_next_37 : decode cX10_next 37 = .ok (.invokevirtual 85, 3) := by decide +kernel
theorem dX10_next_40 : decode cX10_next 40 = .ok (.ireturn, 1) := by decide +kernel
theorem dX10_next_41 : decode cX10_next 41 = .ok (.aload_n 0, 1) := by decide +kernel
theorem dX10_next_42 : decode cX10_next 42 = .ok (.getfield 19, 3) := by decide +kernel
theorem dX10_next_45 : decode cX10_next 45 = .ok (.getfield 89, 3) := by decide +kernel
theorem dX10_next_48 : decode cX10_next 48 = .ok (.aload_n 2, 1) := by decide +kernel
theorem dX10_next_49 : decode cX10_next 49 = .ok (.getfield 158, 3) := by decide +kernel
theorem dX10_next_52 : decode cX10_next 52 = .ok (.iload_n 1, 1) := by decide +kernel
theorem dX10_next_53 : decode cX10_next 53 = .ok (.iaload, 1) := by decide +kernel
theorem dX10_next_54 : decode cX10_next 54 = .ok (.aload_n 2, 1) := by decide +kernel
theorem dX10_next_55 : decode cX10_next 55 = .ok (.getfield 161, 3) := by decide +kernel
theorem dX10_next_58 : decode cX10_next 58 = .ok (.iload_n 1, 1) := by decide +kernel
theorem dX10_next_59 : decode cX10_next 59 = .ok (.iaload, 1) := by decide +kernel
theorem dX10_next_60 : decode cX10_next 60 = .ok (.aload_n 2, 1) := by decide +kernel
theorem dX10_next_61 : decode cX10_next 61 = .ok (.getfield 164, 3) := by decide +kernel
theorem dX10_next_64 : decode cX10_next 64 = .ok (.iload_n 1, 1) := by decide +kernel
theorem dX10_next_65 : decode cX10_next 65 = .ok (.iaload, 1) := by decide +kernel
theorem dX10_next_66 : decode cX10_next 66 = .ok (.aload_n 2, 1) := by decide +kernel
theorem dX10_next_67 : decode cX10_next 67 = .ok (.getfield 167, 3) := by decide +kernel
theorem dX10_next_70 : decode cX10_next 70 = .ok (.iload_n 1, 1) := by decide +kernel
theorem dX10_next_71 : decode cX10_next 71 = .ok (.iaload, 1) := by decide +kernel
theorem dX10_next_72 : decode cX10_next 72 = .ok (.invokevirtual 177, 3) := by decide +kernel
theorem dX10_next_75 : decode cX10_next 75 = .ok (.ireturn, 1) := by decide +kernel
theorem dX10_pour_0 : decode cX10_pour 0 = .ok (.iload_n 1, 1) := by decide +kernel
theorem dX10_pour_1 : decode cX10_pour 1 = .ok (.invokestatic 152, 3) := by decide +kernel
theorem dX10_pour_4 : decode cX10_pour 4 = .ok (.ifCond .eq 10, 3) := by decide +kernel
theorem dX10_pour_7 : decode cX10_pour 7 = .ok (.iload_n 2, 1) := by decide +kernel
theorem dX10_pour_8 : decode cX10_pour 8 = .ok (.invokestatic 181, 3) := by decide +kernel
theorem dX10_pour_11 : decode cX10_pour 11 = .ok (.ifCond .ne 12, 3) := by decide +kernel
theorem dX10_pour_14 : decode cX10_pour 14 = .ok (.aload_n 0, 1) := by decide +kernel
theorem dX10_pour_15 : decode cX10_pour 15 = .ok (.getfield 12, 3) := by decide +kernel
theorem dX10_pour_18 : decode cX10_pour 18 = .ok (.iconst 0, 1) := by decide +kernel
theorem dX10_pour_19 : decode cX10_pour 19 = .ok (.invokevirtual 85, 3) := by decide +kernel
theorem dX10_pour_22 : decode cX10_pour 22 = .ok (.ireturn, 1) := by decide +kernel
theorem dX10_pour_23 : decode cX10_pour 23 = .ok (.aload_n 0, 1) := by decide +kernel
theorem dX10_pour_24 : decode cX10_pour 24 = .ok (.getfield 19, 3) := by decide +kernel
theorem dX10_pour_27 : decode cX10_pour 27 = .ok (.getfield 102, 3) := by decide +kernel
theorem dX10_pour_30 : decode cX10_pour 30 = .ok (.iload_n 1, 1) := by decide +kernel
theorem dX10_pour_31 : decode cX10_pour 31 = .ok (.invokevirtual 155, 3) := by decide +kernel
theorem dX10_pour_34 : decode cX10_pour 34 = .ok (.ifCond .ne 12, 3) := by decide +kernel
theorem dX10_pour_37 : decode cX10_pour 37 = .ok (.aload_n 0, 1) := by decide +kernel
theorem dX10_pour_38 : decode cX10_pour 38 = .ok (.getfield 12, 3) := by decide +kernel
theorem dX10_pour_41 : decode cX10_pour 41 = .ok (.iconst 3, 1) := by decide +kernel
theorem dX10_pour_42 : decode cX10_pour 42 = .ok (.invokevirtual 85, 3) := by decide +kernel
theorem dX10_pour_45 : decode cX10_pour 45 = .ok (.ireturn, 1) := by decide +kernel
theorem dX10_pour_46 : decode cX10_pour 46 = .ok (.aload_n 0, 1) := by decide +kernel
theorem dX10_pour_47 : decode cX10_pour 47 = .ok (.getfield 19, 3) := by decide +kernel
theorem dX10_pour_50 : decode cX10_pour 50 = .ok (.getfield 102, 3) := by decide +kernel
theorem dX10_pour_53 : decode cX10_pour 53 = .ok (.iload_n 1, 1) := by decide +kernel
theorem dX10_pour_54 : decode cX10_pour 54 = .ok (.iload_n 2, 1) := by decide +kernel
theorem dX10_pour_55 : decode cX10_pour 55 = .ok (.invokevirtual 184, 3) := by decide +kernel
theorem dX10_pour_58 : decode cX10_pour 58 = .ok (.aload_n 0, 1) := by decide +kernel
theorem dX10_pour_59 : decode cX10_pour 59 = .ok (.getfield 19, 3) := by decide +kernel
theorem dX10_pour_62 : decode cX10_pour 62 = .ok (.getfield 102, 3) := by decide +kernel
theorem dX10_pour_65 : decode cX10_pour 65 = .ok (.getfield 164, 3) := by decide +kernel
theorem dX10_pour_68 : decode cX10_pour 68 = .ok (.iload_n 1, 1) := by decide +kernel
theorem dX10_pour_69 : decode cX10_pour 69 = .ok (.iaload, 1) := by decide +kernel
theorem dX10_pour_70 : decode cX10_pour 70 = .ok (.ireturn, 1) := by decide +kernel
theorem dX10_shed_0 : decode cX10_shed 0 = .ok (.iload_n 1, 1) := by decide +kernel
theorem dX10_shed_1 : decode cX10_shed 1 = .ok (.iconst (-1), 1) := by decide +kernel
theorem dX10_shed_2 : decode cX10_shed 2 = .ok (.if_icmp .ne 14, 3) := by decide +kernel
theorem dX10_shed_5 : decode cX10_shed 5 = .ok (.aload_n 0, 1) := by decide +kernel
theorem dX10_shed_6 : decode cX10_shed 6 = .ok (.getfield 19, 3) := by decide +kernel
theorem dX10_shed_9 : decode cX10_shed 9 = .ok (.getfield 188, 3) := by decide +kernel
theorem dX10_shed_12 : decode cX10_shed 12 = .ok (.invokestatic 191, 3) := by decide +kernel
theorem dX10_shed_15 : decode cX10_shed 15 = .ok (.ireturn, 1) := by decide +kernel
theorem dX10_shed_16 : decode cX10_shed 16 = .ok (.iload_n 1, 1) := by decide +kernel
theorem dX10_shed_17 : decode cX10_shed 17 = .ok (.invokestatic 139, 3) := by decide +kernel
theorem dX10_shed_20 : decode cX10_shed 20 = .ok (.ifCond .ne 12, 3) := by decide +kernel
theorem dX10_shed_23 : decode cX10_shed 23 = .ok (.aload_n 0, 1) := by decide +kernel
theorem dX10_shed_24 : decode cX10_shed 24 = .ok (.getfield 12, 3) := by decide +kernel
theorem dX10_shed_27 : decode cX10_shed 27 = .ok (.iconst 0, 1) := by decide +kernel
theorem dX10_shed_28 : decode cX10_shed 28 = .ok (.invokevirtual 85, 3) := by decide +kernel
theorem dX10_shed_31 : decode cX10_shed 31 = .ok (.ireturn, 1) := by decide +kernel
theorem dX10_shed_32 : decode cX10_shed 32 = .ok (.aload_n 0, 1) := by decide +kernel
theorem dX10_shed_33 : decode cX10_shed 33 = .ok (.getfield 19, 3) := by decide +kernel
theorem dX10_shed_36 : decode cX10_shed 36 = .ok (.getfield 188, 3) := by decide +kernel
theorem dX10_shed_39 : decode cX10_shed 39 = .ok (.iload_n 1, 1) := by decide +kernel
theorem dX10_shed_40 : decode cX10_shed 40 = .ok (.iaload, 1) := by decide +kernel
theorem dX10_shed_41 : decode cX10_shed 41 = .ok (.ireturn, 1) := by decide +kernel
theorem dX10_feed_0 : decode cX10_feed 0 = .ok (.iload_n 2, 1) := by decide +kernel
theorem dX10_feed_1 : decode cX10_feed 1 = .ok (.iconst 1, 1) := by decide +kernel
theorem dX10_feed_2 : decode cX10_feed 2 = .ok (.iconst 4, 1) := by decide +kernel
theorem dX10_feed_3 : decode cX10_feed 3 = .ok (.invokestatic 81, 3) := by decide +kernel
theorem dX10_feed_6 : decode cX10_feed 6 = .ok (.ifCond .ne 12, 3) := by decide +kernel
theorem dX10_feed_9 : decode cX10_feed 9 = .ok (.aload_n 0, 1) := by decide +kernel
theorem dX10_feed_10 : decode cX10_feed 10 = .ok (.getfield 12, 3) := by decide +kernel
theorem dX10_feed_13 : decode cX10_feed 13 = .ok (.iconst 0, 1) := by decide +kernel
theorem dX10_feed_14 : decode cX10_feed 14 = .ok (.invokevirtual 85, 3) := by decide +kernel
theorem dX10_feed_17 : decode cX10_feed 17 = .ok (.ireturn, 1) := by decide +kernel
theorem dX10_feed_18 : decode cX10_feed 18 = .ok (.aload_n 0, 1) := by decide +kernel
theorem dX10_feed_19 : decode cX10_feed 19 = .ok (.getfield 33, 3) := by decide +kernel
theorem dX10_feed_22 : decode cX10_feed 22 = .ok (.getfield 194, 3) := by decide +kernel
theorem dX10_feed_25 : decode cX10_feed 25 = .ok (.iload_n 2, 1) := by decide +kernel
theorem dX10_feed_26 : decode cX10_feed 26 = .ok (.iadd, 1) := by decide +kernel
theorem dX10_feed_27 : decode cX10_feed 27 = .ok (.bipush 100, 2) := by decide +kernel
theorem dX10_feed_29 : decode cX10_feed 29 = .ok (.if_icmp .le 12, 3) := by decide +kernel
theorem dX10_feed_32 : decode cX10_feed 32 = .ok (.aload_n 0, 1) := by decide +kernel
theorem dX10_feed_33 : decode cX10_feed 33 = .ok (.getfield 12, 3) := by decide +kernel
theorem dX10_feed_36 : decode cX10_feed 36 = .ok (.iconst 1, 1) := by decide +kernel
theorem dX10_feed_37 : decode cX10_feed 37 = .ok (.invokevirtual 85, 3) := by decide +kernel
theorem dX10_feed_40 : decode cX10_feed 40 = .ok (.ireturn, 1) := by decide +kernel
theorem dX10_feed_41 : decode cX10_feed 41 = .ok (.aload_n 0, 1) := by decide +kernel
theorem dX10_feed_42 : decode cX10_feed 42 = .ok (.getfield 33, 3) := by decide +kernel
theorem dX10_feed_45 : decode cX10_feed 45 = .ok (.iload_n 1, 1) := by decide +kernel
theorem dX10_feed_46 : decode cX10_feed 46 = .ok (.iload_n 2, 1) := by decide +kernel
theorem dX10_feed_47 : decode cX10_feed 47 = .ok (.invokevirtual 197, 3) := by decide +kernel
theorem dX10_feed_50 : decode cX10_feed 50 = .ok (.aload_n 0, 1) := by decide +kernel
theorem dX10_feed_51 : decode cX10_feed 51 = .ok (.getfield 33, 3) := by decide +kernel
theorem dX10_feed_54 : decode cX10_feed 54 = .ok (.getfield 194, 3) := by decide +kernel
theorem dX10_feed_57 : decode cX10_feed 57 = .ok (.ireturn, 1) := by decide +kernel
theorem dX10_wipe_0 : decode cX10_wipe 0 = .ok (.aload_n 0, 1) := by decide +kernel
theorem dX10_wipe_1 : decode cX10_wipe 1 = .ok (.getfield 33, 3) := by decide +kernel
theorem dX10_wipe_4 : decode cX10_wipe 4 = .ok (.getfield 194, 3) := by decide +kernel
theorem dX10_wipe_7 : decode cX10_wipe 7 = .ok (.istore_n 1, 1) := by decide +kernel
theorem dX10_wipe_8 : decode cX10_wipe 8 = .ok (.aload_n 0, 1) := by decide +kernel
theorem dX10_wipe_9 : decode cX10_wipe 9 = .ok (.getfield 33, 3) := by decide +kernel
theorem dX10_wipe_12 : decode cX10_wipe 12 = .ok (.iconst 0, 1) := by decide +kernel
theorem dX10_wipe_13 : decode cX10_wipe 13 = .ok (.putfield 194, 3) := by decide +kernel
theorem dX10_wipe_16 : decode cX10_wipe 16 = .ok (.iload_n 1, 1) := by decide +kernel
theorem dX10_wipe_17 : decode cX10_wipe 17 = .ok (.ireturn, 1) := by decide +kernel
theorem dX10_program_0 : decode cX10_program 0 = .ok (.aload_n 0, 1) := by decide +kernel
theorem dX10_program_1 : decode cX10_program 1 = .ok (.getfield 19, 3) := by decide +kernel
theorem dX10_program_4 : decode cX10_program 4 = .ok (.getfield 200, 3) := by decide +kernel
theorem dX10_program_7 : decode cX10_program 7 = .ok (.astore_n 1, 1) := by decide +kernel
theorem dX10_program_8 : decode cX10_program 8 = .ok (.aload_n 1, 1) := by decide +kernel
theorem dX10_program_9 : decode cX10_program 9 = .ok (.getfield 204, 3) := by decide +kernel
theorem dX10_program_12 : decode cX10_program 12 = .ok (.bipush 6, 2) := by decide +kernel
theorem dX10_program_14 : decode cX10_program 14 = .ok (.if_icmp .lt 12, 3) := by decide +kernel
theorem dX10_program_17 : decode cX10_program 17 = .ok (.aload_n 0, 1) := by decide +kernel
theorem dX10_program_18 : decode cX10_program 18 = .ok (.getfield 12, 3) := by decide +kernel
theorem dX10_program_21 : decode cX10_program 21 = .ok (.iconst 1, 1) := by decide +kernel
theorem dX10_program_22 : decode cX10_program 22 = .ok (.invokevirtual 85, 3) := by decide +kernel
theorem dX10_program_25 : decode cX10_program 25 = .ok (.ireturn, 1) := by decide +kernel
theorem dX10_program_26 : decode cX10_program 26 = .ok (.aload_n 0, 1) := by decide +kernel
theorem dX10_program_27 : decode cX10_program 27 = .ok (.getfield 42, 3) := by decide +kernel
theorem dX10_program_30 : decode cX10_program 30 = .ok (.aload_n 1, 1) := by decide +kernel
theorem dX10_program_31 : decode cX10_program 31 = .ok (.invokevirtual 209, 3) := by decide +kernel
theorem dX10_program_34 : decode cX10_program 34 = .ok (.istore_n 2, 1) := by decide +kernel
theorem dX10_program_35 : decode cX10_program 35 = .ok (.aload_n 0, 1) := by decide +kernel
theorem dX10_program_36 : decode cX10_program 36 = .ok (.getfield 33, 3) := by decide +kernel
theorem dX10_program_39 : decode cX10_program 39 = .ok (.iconst 0, 1) := by decide +kernel
theorem dX10_program_40 : decode cX10_program 40 = .ok (.putfield 194, 3) := by decide +kernel
theorem dX10_program_43 : decode cX10_program 43 = .ok (.iload_n 2, 1) := by decide +kernel
theorem dX10_program_44 : decode cX10_program 44 = .ok (.iconst (-1), 1) := by decide +kernel
theorem dX10_program_45 : decode cX10_program 45 = .ok (.if_icmp .ne 12, 3) := by decide +kernel
theorem dX10_program_48 : decode cX10_program 48 = .ok (.aload_n 1, 1) := by decide +kernel
theorem dX10_program_49 : decode cX10_program 49 = .ok (.getfield 204, 3) := by decide +kernel
theorem dX10_program_52 : decode cX10_program 52 = .ok (.iconst 1, 1) := by decide +kernel
theorem dX10_program_53 : decode cX10_program 53 = .ok (.isub, 1) := by decide +kernel
theorem dX10_program_54 : decode cX10_program 54 = .ok (.goto 6, 3) := by decide +kernel
theorem dX10_program_57 : decode cX10_program 57 = .ok (.iconst (-1), 1) := by decide +kernel
theorem dX10_program_58 : decode cX10_program 58 = .ok (.iload_n 2, 1) := by decide +kernel
theorem dX10_program_59 : decode cX10_program 59 = .ok (.isub, 1) := by decide +kernel
theorem dX10_program_60 : decode cX10_program 60 = .ok (.ireturn, 1) := by decide +kernel
theorem dX10_programOf_0 : decode cX10_programOf 0 = .ok (.aload_n 0, 1) := by decide +kernel
theorem dX10_programOf_1 : decode cX10_programOf 1 = .ok (.iload_n 1, 1) := by decide +kernel
theorem dX10_programOf_2 : decode cX10_programOf 2 = .ok (.invokevirtual 213, 3) := by decide +kernel
theorem dX10_programOf_5 : decode cX10_programOf 5 = .ok (.ifCond .eq 12, 3) := by decide +kernel
theorem dX10_programOf_8 : decode cX10_programOf 8 = .ok (.iload_n 2, 1) := by decide +kernel
theorem dX10_programOf_9 : decode cX10_programOf 9 = .ok (.iconst 0, 1) := by decide +kernel
theorem dX10_programOf_10 : decode cX10_programOf 10 = .ok (.iconst 1, 1) := by decide +kernel
theorem dX10_programOf_11 : decode cX10_programOf 11 = .ok (.invokestatic 81, 3) := by decide +kernel
theorem dX10_programOf_14 : decode cX10_programOf 14 = .ok (.ifCond .ne 12, 3) := by decide +kernel
theorem dX10_programOf_17 : decode cX10_programOf 17 = .ok (.aload_n 0, 1) := by decide +kernel
theorem dX10_programOf_18 : decode cX10_programOf 18 = .ok (.getfield 12, 3) := by decide +kernel
theorem dX10_programOf_21 : decode cX10_programOf 21 = .ok (.iconst 0, 1) := by decide +kernel
theorem dX10_programOf_22 : decode cX10_programOf 22 = .ok (.invokevirtual 85, 3) := by decide +kernel
theorem dX10_programOf_25 : decode cX10_programOf 25 = .ok (.ireturn, 1) := by decide +kernel
theorem dX10_programOf_26 : decode cX10_programOf 26 = .ok (.iload_n 2, 1) := by decide +kernel
theorem dX10_programOf_27 : decode cX10_programOf 27 = .ok (.ifCond .ne 18, 3) := by decide +kernel
theorem dX10_programOf_30 : decode cX10_programOf 30 = .ok (.aload_n 0, 1) := by decide +kernel
theorem dX10_programOf_31 : decode cX10_programOf 31 = .ok (.getfield 19, 3) := by decide +kernel
theorem dX10_programOf_34 : decode cX10_programOf 34 = .ok (.getfield 200, 3) := by decide +kernel
theorem dX10_programOf_37 : decode cX10_programOf 37 = .ok (.getfield 216, 3) := by decide +kernel
theorem dX10_programOf_40 : decode cX10_programOf 40 = .ok (.iload_n 1, 1) := by decide +kernel
theorem dX10_programOf_41 : decode cX10_programOf 41 = .ok (.iaload, 1) := by decide +kernel
theorem dX10_programOf_42 : decode cX10_programOf 42 = .ok (.goto 14, 3) := by decide +kernel
theorem dX10_programOf_45 : decode cX10_programOf 45 = .ok (.aload_n 0, 1) := by decide +kernel
theorem dX10_programOf_46 : decode cX10_programOf 46 = .ok (.getfield 19, 3) := by decide +kernel
theorem dX10_programOf_49 : decode cX10_programOf 49 = .ok (.getfield 200, 3) := by decide +kernel
theorem dX10_programOf_52 : decode cX10_programOf 52 = .ok (.iload_n 1, 1) := by decide +kernel
theorem dX10_programOf_53 : decode cX10_programOf 53 = .ok (.invokevirtual 219, 3) := by decide +kernel
theorem dX10_programOf_56 : decode cX10_programOf 56 = .ok (.ireturn, 1) := by decide +kernel
theorem dX10_play_0 : decode cX10_play 0 = .ok (.aload_n 0, 1) := by decide +kernel
theorem dX10_play_1 : decode cX10_play 1 = .ok (.iload_n 1, 1) := by decide +kernel
theorem dX10_play_2 : decode cX10_play 2 = .ok (.invokevirtual 213, 3) := by decide +kernel
theorem dX10_play_5 : decode cX10_play 5 = .ok (.ifCond .ne 12, 3) := by decide +kernel
theorem dX10_play_8 : decode cX10_play 8 = .ok (.aload_n 0, 1) := by decide +kernel
theorem dX10_play_9 : decode cX10_play 9 = .ok (.getfield 12, 3) := by decide +kernel
theorem dX10_play_12 : decode cX10_play 12 = .ok (.iconst 0, 1) := by decide +kernel
theorem dX10_play_13 : decode cX10_play 13 = .ok (.invokevirtual 85, 3) := by decide +kernel
theorem dX10_play_16 : decode cX10_play 16 = .ok (.ireturn, 1) := by decide +kernel
theorem dX10_play_17 : decode cX10_play 17 = .ok (.aload_n 0, 1) := by decide +kernel
theorem dX10_play_18 : decode cX10_play 18 = .ok (.getfield 19, 3) := by decide +kernel
theorem dX10_play_21 : decode cX10_play 21 = .ok (.getfield 200, 3) := by decide +kernel
theorem dX10_play_24 : decode cX10_play 24 = .ok (.getfield 216, 3) := by decide +kernel
theorem dX10_play_27 : decode cX10_play 27 = .ok (.iload_n 1, 1) := by decide +kernel
theorem dX10_play_28 : decode cX10_play 28 = .ok (.iaload, 1) := by decide +kernel
theorem dX10_play_29 : decode cX10_play 29 = .ok (.istore_n 2, 1) := by decide +kernel
theorem dX10_play_30 : decode cX10_play 30 = .ok (.iconst 0, 1) := by decide +kernel
theorem dX10_play_31 : decode cX10_play 31 = .ok (.istore_n 3, 1) := by decide +kernel
theorem dX10_play_32 : decode cX10_play 32 = .ok (.iload_n 3, 1) := by decide +kernel
theorem dX10_play_33 : decode cX10_play 33 = .ok (.iload_n 2, 1) := by decide +kernel
theorem dX10_play_34 : decode cX10_play 34 = .ok (.if_icmp .ge 22, 3) := by decide +kernel
theorem dX10_play_37 : decode cX10_play 37 = .ok (.aload_n 0, 1) := by decide +kernel
theorem dX10_play_38 : decode cX10_play 38 = .ok (.getfield 19, 3) := by decide +kernel
theorem dX10_play_41 : decode cX10_play 41 = .ok (.iload_n 1, 1) := by decide +kernel
theorem dX10_play_42 : decode cX10_play 42 = .ok (.bipush 12, 2) := by decide +kernel
theorem dX10_play_44 : decode cX10_play 44 = .ok (.imul, 1) := by decide +kernel
theorem dX10_play_45 : decode cX10_play 45 = .ok (.iload_n 3, 1) := by decide +kernel
theorem dX10_play_46 : decode cX10_play 46 = .ok (.iadd, 1) := by decide +kernel
theorem dX10_play_47 : decode cX10_play 47 = .ok (.invokevirtual 222, 3) := by decide +kernel
theorem dX10_play_50 : decode cX10_play 50 = .ok (.iinc 3 1, 3) := by decide +kernel
theorem dX10_play_53 : decode cX10_play 53 = .ok (.goto (-21), 3) := by decide +kernel
theorem dX10_play_56 : decode cX10_play 56 = .ok (.aload_n 0, 1) := by decide +kernel
theorem dX10_play_57 : decode cX10_play 57 = .ok (.getfield 19, 3) := by decide +kernel
theorem dX10_play_60 : decode cX10_play 60 = .ok (.getfield 102, 3) := by decide +kernel
theorem dX10_play_63 : decode cX10_play 63 = .ok (.invokevirtual 174, 3) := by decide +kernel
theorem dX10_play_66 : decode cX10_play 66 = .ok (.ireturn, 1) := by decide +kernel
theorem dX10_path_0 : decode cX10_path 0 = .ok (.iload_n 1, 1) := by decide +kernel
theorem dX10_path_1 : decode cX10_path 1 = .ok (.iload_n 2, 1) := by decide +kernel
theorem dX10_path_2 : decode cX10_path 2 = .ok (.iload_n 3, 1) := by decide +kernel
theorem dX10_path_3 : decode cX10_path 3 = .ok (.invokestatic 145, 3) := by decide +kernel
theorem dX10_path_6 : decode cX10_path 6 = .ok (.ifCond .eq 13, 3) := by decide +kernel
theorem dX10_path_9 : decode cX10_path 9 = .ok (.iload 4, 2) := by decide +kernel
theorem dX10_path_11 : decode cX10_path 11 = .ok (.iconst 0, 1) := by decide +kernel
theorem dX10_path_12 : decode cX10_path 12 = .ok (.iconst 3, 1) := by decide +kernel
theorem dX10_path_13 : decode cX10_path 13 = .ok (.invokestatic 81, 3) := by decide +kernel
theorem dX10_path_16 : decode cX10_path 16 = .ok (.ifCond .ne 12, 3) := by decide +kernel
theorem dX10_path_19 : decode cX10_path 19 = .ok (.aload_n 0, 1) := by decide +kernel
theorem dX10_path_20 : decode cX10_path 20 = .ok (.getfield 12, 3) := by decide +kernel
theorem dX10_path_23 : decode cX10_path 23 = .ok (.iconst 0, 1) := by decide +kernel
theorem dX10_path_24 : decode cX10_path 24 = .ok (.invokevirtual 85, 3) := by decide +kernel
theorem dX10_path_27 : decode cX10_path 27 = .ok (.ireturn, 1) := by decide +kernel
theorem dX10_path_28 : decode cX10_path 28 = .ok (.aload_n 0, 1) := by decide +kernel
theorem dX10_path_29 : decode cX10_path 29 = .ok (.getfield 63, 3) := by decide +kernel
theorem dX10_path_32 : decode cX10_path 32 = .ok (.aload_n 0, 1) := by decide +kernel
theorem dX10_path_33 : decode cX10_path 33 = .ok (.getfield 19, 3) := by decide +kernel
theorem dX10_path_36 : decode cX10_path 36 = .ok (.getfield 89, 3) := by decide +kernel
theorem dX10_path_39 : decode cX10_path 39 = .ok (.iload_n 1, 1) := by decide +kernel
theorem dX10_path_40 : decode cX10_path 40 = .ok (.iload_n 2, 1) := by decide +kernel
theorem dX10_path_41 : decode cX10_path 41 = .ok (.iload_n 3, 1) := by decide +kernel
theorem dX10_path_42 : decode cX10_path 42 = .ok (.invokevirtual 225, 3) := by decide +kernel
theorem dX10_path_45 : decode cX10_path 45 = .ok (.iload 4, 2) := by decide +kernel
theorem dX10_path_47 : decode cX10_path 47 = .ok (.tableswitch 49 0 2 #[25, 33, 41], 25) := by decide +kernel
theorem dX10_path_72 : decode cX10_path 72 = .ok (.aload_n 0, 1) := by decide +kernel
theorem dX10_path_73 : decode cX10_path 73 = .ok (.getfield 63, 3) := by decide +kernel
theorem dX10_path_76 : decode cX10_path 76 = .ok (.getfield 229, 3) := by decide +kernel
theorem dX10_path_79 : decode cX10_path 79 = .ok (.ireturn, 1) := by decide +kernel
theorem dX10_path_80 : decode cX10_path 80 = .ok (.aload_n 0, 1) := by decide +kernel
theorem dX10_path_81 : decode cX10_path 81 = .ok (.getfield 63, 3) := by decide +kernel
theorem dX10_path_84 : decode cX10_path 84 = .ok (.getfield 232, 3) := by decide +kernel
theorem dX10_path_87 : decode cX10_path 87 = .ok (.ireturn, 1) := by decide +kernel
theorem dX10_path_88 : decode cX10_path 88 = .ok (.aload_n 0, 1) := by decide +kernel
theorem dX10_path_89 : decode cX10_path 89 = .ok (.getfield 63, 3) := by decide +kernel
theorem dX10_path_92 : decode cX10_path 92 = .ok (.invokevirtual 234, 3) := by decide +kernel
theorem dX10_path_95 : decode cX10_path 95 = .ok (.ireturn, 1) := by decide +kernel
theorem dX10_path_96 : decode cX10_path 96 = .ok (.aload_n 0, 1) := by decide +kernel
theorem dX10_path_97 : decode cX10_path 97 = .ok (.getfield 63, 3) := by decide +kernel
theorem dX10_path_100 : decode cX10_path 100 = .ok (.getfield 237, 3) := by decide +kernel
theorem dX10_path_103 : decode cX10_path 103 = .ok (.ireturn, 1) := by decide +kernel
theorem dX10_along_0 : decode cX10_along 0 = .ok (.iload_n 1, 1) := by decide +kernel
theorem dX10_along_1 : decode cX10_along 1 = .ok (.iload_n 2, 1) := by decide +kernel
theorem dX10_along_2 : decode cX10_along 2 = .ok (.iload_n 3, 1) := by decide +kernel
theorem dX10_along_3 : decode cX10_along 3 = .ok (.invokestatic 145, 3) := by decide +kernel
theorem dX10_along_6 : decode cX10_along 6 = .ok (.ifCond .eq 14, 3) := by decide +kernel
theorem dX10_along_9 : decode cX10_along 9 = .ok (.iload 4, 2) := by decide +kernel
theorem dX10_along_11 : decode cX10_along 11 = .ok (.iconst 0, 1) := by decide +kernel
theorem dX10_along_12 : decode cX10_along 12 = .ok (.bipush 64, 2) := by decide +kernel
theorem dX10_along_14 : decode cX10_along 14 = .ok (.invokestatic 81, 3) := by decide +kernel
theorem dX10_along_17 : decode cX10_along 17 = .ok (.ifCond .ne 12, 3) := by decide +kernel
theorem dX10_along_20 : decode cX10_along 20 = .ok (.aload_n 0, 1) := by decide +kernel
theorem dX10_along_21 : decode cX10_along 21 = .ok (.getfield 12, 3) := by decide +kernel
theorem dX10_along_24 : decode cX10_along 24 = .ok (.iconst 0, 1) := by decide +kernel
theorem dX10_along_25 : decode cX10_along 25 = .ok (.invokevirtual 85, 3) := by decide +kernel
theorem dX10_along_28 : decode cX10_along 28 = .ok (.ireturn, 1) := by decide +kernel
theorem dX10_along_29 : decode cX10_along 29 = .ok (.aload_n 0, 1) := by decide +kernel
theorem dX10_along_30 : decode cX10_along 30 = .ok (.getfield 63, 3) := by decide +kernel
theorem dX10_along_33 : decode cX10_along 33 = .ok (.aload_n 0, 1) := by decide +kernel
theorem dX10_along_34 : decode cX10_along 34 = .ok (.getfield 19, 3) := by decide +kernel
theorem dX10_along_37 : decode cX10_along 37 = .ok (.getfield 89, 3) := by decide +kernel
theorem dX10_along_40 : decode cX10_along 40 = .ok (.iload_n 1, 1) := by decide +kernel
theorem dX10_along_41 : decode cX10_along 41 = .ok (.iload_n 2, 1) := by decide +kernel
theorem dX10_along_42 : decode cX10_along 42 = .ok (.iload_n 3, 1) := by decide +kernel
theorem dX10_along_43 : decode cX10_along 43 = .ok (.invokevirtual 225, 3) := by decide +kernel
theorem dX10_along_46 : decode cX10_along 46 = .ok (.aload_n 0, 1) := by decide +kernel
theorem dX10_along_47 : decode cX10_along 47 = .ok (.getfield 63, 3) := by decide +kernel
theorem dX10_along_50 : decode cX10_along 50 = .ok (.iload 4, 2) := by decide +kernel
theorem dX10_along_52 : decode cX10_along 52 = .ok (.invokevirtual 239, 3) := by decide +kernel
theorem dX10_along_55 : decode cX10_along 55 = .ok (.istore 5, 2) := by decide +kernel
theorem dX10_along_57 : decode cX10_along 57 = .ok (.iload 5, 2) := by decide +kernel
theorem dX10_along_59 : decode cX10_along 59 = .ok (.bipush (-2), 2) := by decide +kernel
theorem dX10_along_61 : decode cX10_along 61 = .ok (.if_icmp .ne 14, 3) := by decide +kernel
theorem dX10_along_64 : decode cX10_along 64 = .ok (.aload_n 0, 1) := by decide +kernel
theorem dX10_along_65 : decode cX10_along 65 = .ok (.getfield 12, 3) := by decide +kernel
theorem dX10_along_68 : decode cX10_along 68 = .ok (.iconst 3, 1) := by decide +kernel
theorem dX10_along_69 : decode cX10_along 69 = .ok (.invokevirtual 85, 3) := by decide +kernel
theorem dX10_along_72 : decode cX10_along 72 = .ok (.goto 5, 3) := by decide +kernel
theorem dX10_along_75 : decode cX10_along 75 = .ok (.iload 5, 2) := by decide +kernel
theorem dX10_along_77 : decode cX10_along 77 = .ok (.ireturn, 1) := by decide +kernel
theorem dX10_least_0 : decode cX10_least 0 = .ok (.iload_n 1, 1) := by decide +kernel
theorem dX10_least_1 : decode cX10_least 1 = .ok (.invokestatic 242, 3) := by decide +kernel
theorem dX10_least_4 : decode cX10_least 4 = .ok (.ifCond .eq 10, 3) := by decide +kernel
theorem dX10_least_7 : decode cX10_least 7 = .ok (.iload_n 2, 1) := by decide +kernel
theorem dX10_least_8 : decode cX10_least 8 = .ok (.invokestatic 139, 3) := by decide +kernel
theorem dX10_least_11 : decode cX10_least 11 = .ok (.ifCond .ne 12, 3) := by decide +kernel
theorem dX10_least_14 : decode cX10_least 14 = .ok (.aload_n 0, 1) := by decide +kernel
theorem dX10_least_15 : decode cX10_least 15 = .ok (.getfield 12, 3) := by decide +kernel
theorem dX10_least_18 : decode cX10_least 18 = .ok (.iconst 0, 1) := by decide +kernel
theorem dX10_least_19 : decode cX10_least 19 = .ok (.invokevirtual 85, 3) := by decide +kernel
theorem dX10_least_22 : decode cX10_least 22 = .ok (.ireturn, 1) := by decide +kernel
theorem dX10_least_23 : decode cX10_least 23 = .ok (.aload_n 0, 1) := by decide +kernel
theorem dX10_least_24 : decode cX10_least 24 = .ok (.getfield 56, 3) := by decide +kernel
theorem dX10_least_27 : decode cX10_least 27 = .ok (.aload_n 0, 1) := by decide +kernel
theorem dX10_least_28 : decode cX10_least 28 = .ok (.getfield 19, 3) := by decide +kernel
theorem dX10_least_31 : decode cX10_least 31 = .ok (.getfield 89, 3) := by decide +kernel
theorem dX10_least_34 : decode cX10_least 34 = .ok (.invokevirtual 245, 3) := by decide +kernel
theorem dX10_least_37 : decode cX10_least 37 = .ok (.iload_n 3, 1) := by decide +kernel
theorem dX10_least_38 : decode cX10_least 38 = .ok (.ifCond .eq 14, 3) := by decide +kernel
theorem dX10_least_41 : decode cX10_least 41 = .ok (.aload_n 0, 1) := by decide +kernel
theorem dX10_least_42 : decode cX10_least 42 = .ok (.getfield 56, 3) := by decide +kernel
theorem dX10_least_45 : decode cX10_least 45 = .ok (.getfield 96, 3) := by decide +kernel
theorem dX10_least_48 : decode cX10_least 48 = .ok (.iconst 0, 1) := by decide +kernel
theorem dX10_least_49 : decode cX10_least 49 = .ok (.invokestatic 249, 3) := by decide +kernel
theorem dX10_least_52 : decode cX10_least 52 = .ok (.iconst 1, 1) := by decide +kernel
theorem dX10_least_53 : decode cX10_least 53 = .ok (.istore 4, 2) := by decide +kernel
theorem dX10_least_55 : decode cX10_least 55 = .ok (.iload 4, 2) := by decide +kernel
theorem dX10_least_57 : decode cX10_least 57 = .ok (.bipush 99, 2) := by decide +kernel
theorem dX10_least_59 : decode cX10_least 59 = .ok (.if_icmp .gt 37, 3) := by decide +kernel
theorem dX10_least_62 : decode cX10_least 62 = .ok (.aload_n 0, 1) := by decide +kernel
theorem dX10_least_63 : decode cX10_least 63 = .ok (.getfield 63, 3) := by decide +kernel
theorem dX10_least_66 : decode cX10_least 66 = .ok (.aload_n 0, 1) := by decide +kernel
theorem dX10_least_67 : decode cX10_least 67 = .ok (.getfield 56, 3) := by decide +kernel
theorem dX10_least_70 : decode cX10_least 70 = .ok (.iload_n 1, 1) := by decide +kernel
theorem dX10_least_71 : decode cX10_least 71 = .ok (.iload_n 2, 1) := by decide +kernel
theorem dX10_least_72 : decode cX10_least 72 = .ok (.iload 4, 2) := by decide +kernel
theorem dX10_least_74 : decode cX10_least 74 = .ok (.invokevirtual 225, 3) := by decide +kernel
theorem dX10_least_77 : decode cX10_least 77 = .ok (.aload_n 0, 1) := by decide +kernel
theorem dX10_least_78 : decode cX10_least 78 = .ok (.getfield 63, 3) := by decide +kernel
theorem dX10_least_81 : decode cX10_least 81 = .ok (.invokevirtual 255, 3) := by decide +kernel
theorem dX10_least_84 : decode cX10_least 84 = .ok (.ifCond .eq 6, 3) := by decide +kernel
theorem dX10_least_87 : decode cX10_least 87 = .ok (.iload 4, 2) := by decide +kernel
theorem dX10_least_89 : decode cX10_least 89 = .ok (.ireturn, 1) := by decide +kernel
theorem dX10_least_90 : decode cX10_least 90 = .ok (.iinc 4 1, 3) := by decide +kernel
theorem dX10_least_93 : decode cX10_least 93 = .ok (.goto (-38), 3) := by decide +kernel
theorem dX10_least_96 : decode cX10_least 96 = .ok (.aload_n 0, 1) := by decide +kernel
theorem dX10_least_97 : decode cX10_least 97 = .ok (.getfield 12, 3) := by decide +kernel
theorem dX10_least_100 : decode cX10_least 100 = .ok (.iconst 3, 1) := by decide +kernel
theorem dX10_least_101 : decode cX10_least 101 = .ok (.invokevirtual 85, 3) := by decide +kernel
theorem dX10_least_104 : decode cX10_least 104 = .ok (.ireturn, 1) := by decide +kernel
theorem dX10_basin_0 : decode cX10_basin 0 = .ok (.iload_n 1, 1) := by decide +kernel
theorem dX10_basin_1 : decode cX10_basin 1 = .ok (.iload_n 3, 1) := by decide +kernel
theorem dX10_basin_2 : decode cX10_basin 2 = .ok (.iload_n 2, 1) := by decide +kernel
theorem dX10_basin_3 : decode cX10_basin 3 = .ok (.invokestatic 145, 3) := by decide +kernel
theorem dX10_basin_6 : decode cX10_basin 6 = .ok (.ifCond .ne 12, 3) := by decide +kernel
theorem dX10_basin_9 : decode cX10_basin 9 = .ok (.aload_n 0, 1) := by decide +kernel
theorem dX10_basin_10 : decode cX10_basin 10 = .ok (.getfield 12, 3) := by decide +kernel
theorem dX10_basin_13 : decode cX10_basin 13 = .ok (.iconst 0, 1) := by decide +kernel
theorem dX10_basin_14 : decode cX10_basin 14 = .ok (.invokevirtual 85, 3) := by decide +kernel
theorem dX10_basin_17 : decode cX10_basin 17 = .ok (.ireturn, 1) := by decide +kernel
theorem dX10_basin_18 : decode cX10_basin 18 = .ok (.iconst 0, 1) := by decide +kernel
theorem dX10_basin_19 : decode cX10_basin 19 = .ok (.istore 4, 2) := by decide +kernel
theorem dX10_basin_21 : decode cX10_basin 21 = .ok (.iconst 0, 1) := by decide +kernel
theorem dX10_basin_22 : decode cX10_basin 22 = .ok (.istore 5, 2) := by decide +kernel
theorem dX10_basin_24 : decode cX10_basin 24 = .ok (.iload 5, 2) := by decide +kernel
theorem dX10_basin_26 : decode cX10_basin 26 = .ok (.bipush 12, 2) := by decide +kernel
theorem dX10_basin_28 : decode cX10_basin 28 = .ok (.if_icmp .ge 47, 3) := by decide +kernel
theorem dX10_basin_31 : decode cX10_basin 31 = .ok (.aload_n 0, 1) := by decide +kernel
theorem dX10_basin_32 : decode cX10_basin 32 = .ok (.getfield 63, 3) := by decide +kernel
theorem dX10_basin_35 : decode cX10_basin 35 = .ok (.aload_n 0, 1) := by decide +kernel
theorem dX10_basin_36 : decode cX10_basin 36 = .ok (.getfield 19, 3) := by decide +kernel
theorem dX10_basin_39 : decode cX10_basin 39 = .ok (.getfield 89, 3) := by decide +kernel
theorem dX10_basin_42 : decode cX10_basin 42 = .ok (.iload_n 1, 1) := by decide +kernel
theorem dX10_basin_43 : decode cX10_basin 43 = .ok (.iload 5, 2) := by decide +kernel
theorem dX10_basin_45 : decode cX10_basin 45 = .ok (.iload_n 2, 1) := by decide +kernel
theorem dX10_basin_46 : decode cX10_basin 46 = .ok (.invokevirtual 225, 3) := by decide +kernel
theorem dX10_basin_49 : decode cX10_basin 49 = .ok (.aload_n 0, 1) := by decide +kernel
theorem dX10_basin_50 : decode cX10_basin 50 = .ok (.getfield 63, 3) := by decide +kernel
theorem dX10_basin_53 : decode cX10_basin 53 = .ok (.getfield 229, 3) := by decide +kernel
theorem dX10_basin_56 : decode cX10_basin 56 = .ok (.iload_n 3, 1) := by decide +kernel
theorem dX10_basin_57 : decode cX10_basin 57 = .ok (.if_icmp .ne 12, 3) := by decide +kernel
theorem dX10_basin_60 : decode cX10_basin 60 = .ok (.iload 4, 2) := by decide +kernel
theorem dX10_basin_62 : decode cX10_basin 62 = .ok (.iconst 1, 1) := by decide +kernel
theorem dX10_basin_63 : decode cX10_basin 63 = .ok (.iload 5, 2) := by decide +kernel
theorem dX10_basin_65 : decode cX10_basin 65 = .ok (.ishl, 1) := by decide +kernel
theorem dX10_basin_66 : decode cX10_basin 66 = .ok (.ior, 1) := by decide +kernel
theorem dX10_basin_67 : decode cX10_basin 67 = .ok (.istore 4, 2) := by decide +kernel
theorem dX10_basin_69 : decode cX10_basin 69 = .ok (.iinc 5 1, 3) := by decide +kernel
theorem dX10_basin_72 : decode cX10_basin 72 = .ok (.goto (-48), 3) := by decide +kernel
theorem dX10_basin_75 : decode cX10_basin 75 = .ok (.iload 4, 2) := by decide +kernel
theorem dX10_basin_77 : decode cX10_basin 77 = .ok (.ireturn, 1) := by decide +kernel
theorem dX10_ways_0 : decode cX10_ways 0 = .ok (.iload_n 1, 1) := by decide +kernel
theorem dX10_ways_1 : decode cX10_ways 1 = .ok (.invokestatic 242, 3) := by decide +kernel
theorem dX10_ways_4 : decode cX10_ways 4 = .ok (.ifCond .eq 10, 3) := by decide +kernel
theorem dX10_ways_7 : decode cX10_ways 7 = .ok (.iload_n 2, 1) := by decide +kernel
theorem dX10_ways_8 : decode cX10_ways 8 = .ok (.invokestatic 181, 3) := by decide +kernel
theorem dX10_ways_11 : decode cX10_ways 11 = .ok (.ifCond .ne 12, 3) := by decide +kernel
theorem dX10_ways_14 : decode cX10_ways 14 = .ok (.aload_n 0, 1) := by decide +kernel
theorem dX10_ways_15 : decode cX10_ways 15 = .ok (.getfield 12, 3) := by decide +kernel
theorem dX10_ways_18 : decode cX10_ways 18 = .ok (.iconst 0, 1) := by decide +kernel
theorem dX10_ways_19 : decode cX10_ways 19 = .ok (.invokevirtual 85, 3) := by decide +kernel
theorem dX10_ways_22 : decode cX10_ways 22 = .ok (.ireturn, 1) := by decide +kernel
theorem dX10_ways_23 : decode cX10_ways 23 = .ok (.iconst 0, 1) := by decide +kernel
theorem dX10_ways_24 : decode cX10_ways 24 = .ok (.istore_n 3, 1) := by decide +kernel
theorem dX10_ways_25 : decode cX10_ways 25 = .ok (.iconst 0, 1) := by decide +kernel
theorem dX10_ways_26 : decode cX10_ways 26 = .ok (.istore 4, 2) := by decide +kernel
theorem dX10_ways_28 : decode cX10_ways 28 = .ok (.iload 4, 2) := by decide +kernel
theorem dX10_ways_30 : decode cX10_ways 30 = .ok (.bipush 12, 2) := by decide +kernel
theorem dX10_ways_32 : decode cX10_ways 32 = .ok (.if_icmp .ge 49, 3) := by decide +kernel
theorem dX10_ways_35 : decode cX10_ways 35 = .ok (.aload_n 0, 1) := by decide +kernel
theorem dX10_ways_36 : decode cX10_ways 36 = .ok (.getfield 63, 3) := by decide +kernel
theorem dX10_ways_39 : decode cX10_ways 39 = .ok (.aload_n 0, 1) := by decide +kernel
theorem dX10_ways_40 : decode cX10_ways 40 = .ok (.getfield 19, 3) := by decide +kernel
theorem dX10_ways_43 : decode cX10_ways 43 = .ok (.getfield 89, 3) := by decide +kernel
theorem dX10_ways_46 : decode cX10_ways 46 = .ok (.iload_n 1, 1) := by decide +kernel
theorem dX10_ways_47 : decode cX10_ways 47 = .ok (.iload 4, 2) := by decide +kernel
theorem dX10_ways_49 : decode cX10_ways 49 = .ok (.iload_n 2, 1) := by decide +kernel
theorem dX10_ways_50 : decode cX10_ways 50 = .ok (.invokevirtual 225, 3) := by decide +kernel
theorem dX10_ways_53 : decode cX10_ways 53 = .ok (.aload_n 0, 1) := by decide +kernel
theorem dX10_ways_54 : decode cX10_ways 54 = .ok (.getfield 63, 3) := by decide +kernel
theorem dX10_ways_57 : decode cX10_ways 57 = .ok (.invokevirtual 255, 3) := by decide +kernel
theorem dX10_ways_60 : decode cX10_ways 60 = .ok (.ifCond .eq 15, 3) := by decide +kernel
theorem dX10_ways_63 : decode cX10_ways 63 = .ok (.iload_n 3, 1) := by decide +kernel
theorem dX10_ways_64 : decode cX10_ways 64 = .ok (.iconst 1, 1) := by decide +kernel
theorem dX10_ways_65 : decode cX10_ways 65 = .ok (.aload_n 0, 1) := by decide +kernel
theorem dX10_ways_66 : decode cX10_ways 66 = .ok (.getfield 63, 3) := by decide +kernel
theorem dX10_ways_69 : decode cX10_ways 69 = .ok (.getfield 229, 3) := by decide +kernel
theorem dX10_ways_72 : decode cX10_ways 72 = .ok (.ishl, 1) := by decide +kernel
theorem dX10_ways_73 : decode cX10_ways 73 = .ok (.ior, 1) := by decide +kernel
theorem dX10_ways_74 : decode cX10_ways 74 = .ok (.istore_n 3, 1) := by decide +kernel
theorem dX10_ways_75 : decode cX10_ways 75 = .ok (.iinc 4 1, 3) := by decide +kernel
theorem dX10_ways_78 : decode cX10_ways 78 = .ok (.goto (-50), 3) := by decide +kernel
theorem dX10_ways_81 : decode cX10_ways 81 = .ok (.iload_n 3, 1) := by decide +kernel
theorem dX10_ways_82 : decode cX10_ways 82 = .ok (.ireturn, 1) := by decide +kernel
theorem dX10_soonest_0 : decode cX10_soonest 0 = .ok (.iload_n 1, 1) := by decide +kernel
theorem dX10_soonest_1 : decode cX10_soonest 1 = .ok (.iload_n 2, 1) := by decide +kernel
theorem dX10_soonest_2 : decode cX10_soonest 2 = .ok (.iload_n 3, 1) := by decide +kernel
theorem dX10_soonest_3 : decode cX10_soonest 3 = .ok (.invokestatic 145, 3) := by decide +kernel
theorem dX10_soonest_6 : decode cX10_soonest 6 = .ok (.ifCond .ne 12, 3) := by decide +kernel
theorem dX10_soonest_9 : decode cX10_soonest 9 = .ok (.aload_n 0, 1) := by decide +kernel
theorem dX10_soonest_10 : decode cX10_soonest 10 = .ok (.getfield 12, 3) := by decide +kernel
theorem dX10_soonest_13 : decode cX10_soonest 13 = .ok (.iconst 0, 1) := by decide +kernel
theorem dX10_soonest_14 : decode cX10_soonest 14 = .ok (.invokevirtual 85, 3) := by decide +kernel
theorem dX10_soonest_17 : decode cX10_soonest 17 = .ok (.ireturn, 1) := by decide +kernel
theorem dX10_soonest_18 : decode cX10_soonest 18 = .ok (.aload_n 0, 1) := by decide +kernel
theorem dX10_soonest_19 : decode cX10_soonest 19 = .ok (.getfield 56, 3) := by decide +kernel
theorem dX10_soonest_22 : decode cX10_soonest 22 = .ok (.aload_n 0, 1) := by decide +kernel
theorem dX10_soonest_23 : decode cX10_soonest 23 = .ok (.getfield 19, 3) := by decide +kernel
theorem dX10_soonest_26 : decode cX10_soonest 26 = .ok (.getfield 89, 3) := by decide +kernel
theorem dX10_soonest_29 : decode cX10_soonest 29 = .ok (.invokevirtual 245, 3) := by decide +kernel
theorem dX10_soonest_32 : decode cX10_soonest 32 = .ok (.iconst (-1), 1) := by decide +kernel
theorem dX10_soonest_33 : decode cX10_soonest 33 = .ok (.istore 4, 2) := by decide +kernel
theorem dX10_soonest_35 : decode cX10_soonest 35 = .ok (.bipush 65, 2) := by decide +kernel
theorem dX10_soonest_37 : decode cX10_soonest 37 = .ok (.istore 5, 2) := by decide +kernel
theorem dX10_soonest_39 : decode cX10_soonest 39 = .ok (.iconst 0, 1) := by decide +kernel
theorem dX10_soonest_40 : decode cX10_soonest 40 = .ok (.istore 6, 2) := by decide +kernel
theorem dX10_soonest_42 : decode cX10_soonest 42 = .ok (.iload 6, 2) := by decide +kernel
theorem dX10_soonest_44 : decode cX10_soonest 44 = .ok (.bipush 9, 2) := by decide +kernel
theorem dX10_soonest_46 : decode cX10_soonest 46 = .ok (.if_icmp .gt 67, 3) := by decide +kernel
theorem dX10_soonest_49 : decode cX10_soonest 49 = .ok (.aload_n 0, 1) := by decide +kernel
theorem dX10_soonest_50 : decode cX10_soonest 50 = .ok (.getfield 56, 3) := by decide +kernel
theorem dX10_soonest_53 : decode cX10_soonest 53 = .ok (.iload 6, 2) := by decide +kernel
theorem dX10_soonest_55 : decode cX10_soonest 55 = .ok (.putfield 115, 3) := by decide +kernel
theorem dX10_soonest_58 : decode cX10_soonest 58 = .ok (.aload_n 0, 1) := by decide +kernel
theorem dX10_soonest_59 : decode cX10_soonest 59 = .ok (.getfield 63, 3) := by decide +kernel
theorem dX10_soonest_62 : decode cX10_soonest 62 = .ok (.aload_n 0, 1) := by decide +kernel
theorem dX10_soonest_63 : decode cX10_soonest 63 = .ok (.getfield 56, 3) := by decide +kernel
theorem dX10_soonest_66 : decode cX10_soonest 66 = .ok (.iload_n 1, 1) := by decide +kernel
theorem dX10_soonest_67 : decode cX10_soonest 67 = .ok (.iload_n 2, 1) := by decide +kernel
theorem dX10_soonest_68 : decode cX10_soonest 68 = .ok (.iload_n 3, 1) := by decide +kernel
theorem dX10_soonest_69 : decode cX10_soonest 69 = .ok (.invokevirtual 225, 3) := by decide +kernel
theorem dX10_soonest_72 : decode cX10_soonest 72 = .ok (.aload_n 0, 1) := by decide +kernel
theorem dX10_soonest_73 : decode cX10_soonest 73 = .ok (.getfield 63, 3) := by decide +kernel
theorem dX10_soonest_76 : decode cX10_soonest 76 = .ok (.invokevirtual 255, 3) := by decide +kernel
theorem dX10_soonest_79 : decode cX10_soonest 79 = .ok (.ifCond .eq 28, 3) := by decide +kernel
theorem dX10_soonest_82 : decode cX10_soonest 82 = .ok (.aload_n 0, 1) := by decide +kernel
theorem dX10_soonest_83 : decode cX10_soonest 83 = .ok (.getfield 63, 3) := by decide +kernel
theorem dX10_soonest_86 : decode cX10_soonest 86 = .ok (.getfield 232, 3) := by decide +kernel
theorem dX10_soonest_89 : decode cX10_soonest 89 = .ok (.iload 5, 2) := by decide +kernel
theorem dX10_soonest_91 : decode cX10_soonest 91 = .ok (.if_icmp .ge 16, 3) := by decide +kernel
theorem dX10_soonest_94 : decode cX10_soonest 94 = .ok (.aload_n 0, 1) := by decide +kernel
theorem dX10_soonest_95 : decode cX10_soonest 95 = .ok (.getfield 63, 3) := by decide +kernel
theorem dX10_soonest_98 : decode cX10_soonest 98 = .ok (.getfield 232, 3) := by decide +kernel
theorem dX10_soonest_101 : decode cX10_soonest 101 = .ok (.istore 5, 2) := by decide +kernel
theorem dX10_soonest_103 : decode cX10_soonest 103 = .ok (.iload 6, 2) := by decide +kernel
theorem dX10_soonest_105 : decode cX10_soonest 105 = .ok (.istore 4, 2) := by decide +kernel
theorem dX10_soonest_107 : decode cX10_soonest 107 = .ok (.iinc 6 1, 3) := by decide +kernel
theorem dX10_soonest_110 : decode cX10_soonest 110 = .ok (.goto (-68), 3) := by decide +kernel
theorem dX10_soonest_113 : decode cX10_soonest 113 = .ok (.iload 4, 2) := by decide +kernel
theorem dX10_soonest_115 : decode cX10_soonest 115 = .ok (.iconst (-1), 1) := by decide +kernel
theorem dX10_soonest_116 : decode cX10_soonest 116 = .ok (.if_icmp .ne 14, 3) := by decide +kernel
theorem dX10_soonest_119 : decode cX10_soonest 119 = .ok (.aload_n 0, 1) := by decide +kernel
theorem dX10_soonest_120 : decode cX10_soonest 120 = .ok (.getfield 12, 3) := by decide +kernel
theorem dX10_soonest_123 : decode cX10_soonest 123 = .ok (.iconst 3, 1) := by decide +kernel
theorem dX10_soonest_124 : decode cX10_soonest 124 = .ok (.invokevirtual 85, 3) := by decide +kernel
theorem dX10_soonest_127 : decode cX10_soonest 127 = .ok (.goto 5, 3) := by decide +kernel
theorem dX10_soonest_130 : decode cX10_soonest 130 = .ok (.iload 4, 2) := by decide +kernel
theorem dX10_soonest_132 : decode cX10_soonest 132 = .ok (.ireturn, 1) := by decide +kernel
theorem dX10_meet_0 : decode cX10_meet 0 = .ok (.iload_n 1, 1) := by decide +kernel
theorem dX10_meet_1 : decode cX10_meet 1 = .ok (.iload_n 2, 1) := by decide +kernel
theorem dX10_meet_2 : decode cX10_meet 2 = .ok (.iload 4, 2) := by decide +kernel
theorem dX10_meet_4 : decode cX10_meet 4 = .ok (.invokestatic 145, 3) := by decide +kernel
theorem dX10_meet_7 : decode cX10_meet 7 = .ok (.ifCond .eq 15, 3) := by decide +kernel
theorem dX10_meet_10 : decode cX10_meet 10 = .ok (.iload_n 3, 1) := by decide +kernel
theorem dX10_meet_11 : decode cX10_meet 11 = .ok (.invokestatic 139, 3) := by decide +kernel
theorem dX10_meet_14 : decode cX10_meet 14 = .ok (.ifCond .eq 8, 3) := by decide +kernel
theorem dX10_meet_17 : decode cX10_meet 17 = .ok (.iload_n 2, 1) := by decide +kernel
theorem dX10_meet_18 : decode cX10_meet 18 = .ok (.iload_n 3, 1) := by decide +kernel
theorem dX10_meet_19 : decode cX10_meet 19 = .ok (.if_icmp .ne 12, 3) := by decide +kernel
theorem dX10_meet_22 : decode cX10_meet 22 = .ok (.aload_n 0, 1) := by decide +kernel
theorem dX10_meet_23 : decode cX10_meet 23 = .ok (.getfield 12, 3) := by decide +kernel
theorem dX10_meet_26 : decode cX10_meet 26 = .ok (.iconst 0, 1) := by decide +kernel
theorem dX10_meet_27 : decode cX10_meet 27 = .ok (.invokevirtual 85, 3) := by decide +kernel
theorem dX10_meet_30 : decode cX10_meet 30 = .ok (.ireturn, 1) := by decide +kernel
theorem dX10_meet_31 : decode cX10_meet 31 = .ok (.aload_n 0, 1) := by decide +kernel
theorem dX10_meet_32 : decode cX10_meet 32 = .ok (.getfield 63, 3) := by decide +kernel
theorem dX10_meet_35 : decode cX10_meet 35 = .ok (.aload_n 0, 1) := by decide +kernel
theorem dX10_meet_36 : decode cX10_meet 36 = .ok (.getfield 19, 3) := by decide +kernel
theorem dX10_meet_39 : decode cX10_meet 39 = .ok (.getfield 89, 3) := by decide +kernel
theorem dX10_meet_42 : decode cX10_meet 42 = .ok (.iload_n 1, 1) := by decide +kernel
theorem dX10_meet_43 : decode cX10_meet 43 = .ok (.iload_n 2, 1) := by decide +kernel
theorem dX10_meet_44 : decode cX10_meet 44 = .ok (.iload 4, 2) := by decide +kernel
theorem dX10_meet_46 : decode cX10_meet 46 = .ok (.invokevirtual 225, 3) := by decide +kernel
theorem dX10_meet_49 : decode cX10_meet 49 = .ok (.aload_n 0, 1) := by decide +kernel
theorem dX10_meet_50 : decode cX10_meet 50 = .ok (.getfield 67, 3) := by decide +kernel
theorem dX10_meet_53 : decode cX10_meet 53 = .ok (.aload_n 0, 1) := by decide +kernel
theorem dX10_meet_54 : decode cX10_meet 54 = .ok (.getfield 19, 3) := by decide +kernel
theorem dX10_meet_57 : decode cX10_meet 57 = .ok (.getfield 89, 3) := by decide +kernel
theorem dX10_meet_60 : decode cX10_meet 60 = .ok (.iload_n 1, 1) := by decide +kernel
theorem dX10_meet_61 : decode cX10_meet 61 = .ok (.iload_n 3, 1) := by decide +kernel
theorem dX10_meet_62 : decode cX10_meet 62 = .ok (.iload 4, 2) := by decide +kernel
theorem dX10_meet_64 : decode cX10_meet 64 = .ok (.invokevirtual 225, 3) := by decide +kernel
theorem dX10_meet_67 : decode cX10_meet 67 = .ok (.iconst 0, 1) := by decide +kernel
theorem dX10_meet_68 : decode cX10_meet 68 = .ok (.istore 5, 2) := by decide +kernel
theorem dX10_meet_70 : decode cX10_meet 70 = .ok (.iload 5, 2) := by decide +kernel
theorem dX10_meet_72 : decode cX10_meet 72 = .ok (.bipush 64, 2) := by decide +kernel
theorem dX10_meet_74 : decode cX10_meet 74 = .ok (.if_icmp .gt 44, 3) := by decide +kernel
theorem dX10_meet_77 : decode cX10_meet 77 = .ok (.aload_n 0, 1) := by decide +kernel
theorem dX10_meet_78 : decode cX10_meet 78 = .ok (.getfield 63, 3) := by decide +kernel
theorem dX10_meet_81 : decode cX10_meet 81 = .ok (.iload 5, 2) := by decide +kernel
theorem dX10_meet_83 : decode cX10_meet 83 = .ok (.invokevirtual 239, 3) := by decide +kernel
theorem dX10_meet_86 : decode cX10_meet 86 = .ok (.istore 6, 2) := by decide +kernel
theorem dX10_meet_88 : decode cX10_meet 88 = .ok (.iload 6, 2) := by decide +kernel
theorem dX10_meet_90 : decode cX10_meet 90 = .ok (.bipush (-2), 2) := by decide +kernel
theorem dX10_meet_92 : decode cX10_meet 92 = .ok (.if_icmp .eq 20, 3) := by decide +kernel
theorem dX10_meet_95 : decode cX10_meet 95 = .ok (.iload 6, 2) := by decide +kernel
theorem dX10_meet_97 : decode cX10_meet 97 = .ok (.aload_n 0, 1) := by decide +kernel
theorem dX10_meet_98 : decode cX10_meet 98 = .ok (.getfield 67, 3) := by decide +kernel
theorem dX10_meet_101 : decode cX10_meet 101 = .ok (.iload 5, 2) := by decide +kernel
theorem dX10_meet_103 : decode cX10_meet 103 = .ok (.invokevirtual 239, 3) := by decide +kernel
theorem dX10_meet_106 : decode cX10_meet 106 = .ok (.if_icmp .ne 6, 3) := by decide +kernel
theorem dX10_meet_109 : decode cX10_meet 109 = .ok (.iload 5, 2) := by decide +kernel
theorem dX10_meet_111 : decode cX10_meet 111 = .ok (.ireturn, 1) := by decide +kernel
theorem dX10_meet_112 : decode cX10_meet 112 = .ok (.iinc 5 1, 3) := by decide +kernel
theorem dX10_meet_115 : decode cX10_meet 115 = .ok (.goto (-45), 3) := by decide +kernel
theorem dX10_meet_118 : decode cX10_meet 118 = .ok (.aload_n 0, 1) := by decide +kernel
theorem dX10_meet_119 : decode cX10_meet 119 = .ok (.getfield 12, 3) := by decide +kernel
theorem dX10_meet_122 : decode cX10_meet 122 = .ok (.iconst 3, 1) := by decide +kernel
theorem dX10_meet_123 : decode cX10_meet 123 = .ok (.invokevirtual 85, 3) := by decide +kernel
theorem dX10_meet_126 : decode cX10_meet 126 = .ok (.ireturn, 1) := by decide +kernel
theorem dX10_edge_0 : decode cX10_edge 0 = .ok (.iload_n 1, 1) := by decide +kernel
theorem dX10_edge_1 : decode cX10_edge 1 = .ok (.invokestatic 77, 3) := by decide +kernel
theorem dX10_edge_4 : decode cX10_edge 4 = .ok (.ifCond .eq 17, 3) := by decide +kernel
theorem dX10_edge_7 : decode cX10_edge 7 = .ok (.iload_n 2, 1) := by decide +kernel
theorem dX10_edge_8 : decode cX10_edge 8 = .ok (.invokestatic 242, 3) := by decide +kernel
theorem dX10_edge_11 : decode cX10_edge 11 = .ok (.ifCond .eq 10, 3) := by decide +kernel
theorem dX10_edge_14 : decode cX10_edge 14 = .ok (.iload_n 3, 1) := by decide +kernel
theorem dX10_edge_15 : decode cX10_edge 15 = .ok (.invokestatic 139, 3) := by decide +kernel
theorem dX10_edge_18 : decode cX10_edge 18 = .ok (.ifCond .ne 12, 3) := by decide +kernel
theorem dX10_edge_21 : decode cX10_edge 21 = .ok (.aload_n 0, 1) := by decide +kernel
theorem dX10_edge_22 : decode cX10_edge 22 = .ok (.getfield 12, 3) := by decide +kernel
theorem dX10_edge_25 : decode cX10_edge 25 = .ok (.iconst 0, 1) := by decide +kernel
theorem dX10_edge_26 : decode cX10_edge 26 = .ok (.invokevirtual 85, 3) := by decide +kernel
theorem dX10_edge_29 : decode cX10_edge 29 = .ok (.ireturn, 1) := by decide +kernel
theorem dX10_edge_30 : decode cX10_edge 30 = .ok (.aload_n 0, 1) := by decide +kernel
theorem dX10_edge_31 : decode cX10_edge 31 = .ok (.getfield 56, 3) := by decide +kernel
theorem dX10_edge_34 : decode cX10_edge 34 = .ok (.aload_n 0, 1) := by decide +kernel
theorem dX10_edge_35 : decode cX10_edge 35 = .ok (.getfield 19, 3) := by decide +kernel
theorem dX10_edge_38 : decode cX10_edge 38 = .ok (.getfield 89, 3) := by decide +kernel
theorem dX10_edge_41 : decode cX10_edge 41 = .ok (.invokevirtual 245, 3) := by decide +kernel
theorem dX10_edge_44 : decode cX10_edge 44 = .ok (.bipush 9, 2) := by decide +kernel
theorem dX10_edge_46 : decode cX10_edge 46 = .ok (.istore 4, 2) := by decide +kernel
theorem dX10_edge_48 : decode cX10_edge 48 = .ok (.iload 4, 2) := by decide +kernel
theorem dX10_edge_50 : decode cX10_edge 50 = .ok (.ifCond .lt 48, 3) := by decide +kernel
theorem dX10_edge_53 : decode cX10_edge 53 = .ok (.aload_n 0, 1) := by decide +kernel
theorem dX10_edge_54 : decode cX10_edge 54 = .ok (.getfield 56, 3) := by decide +kernel
theorem dX10_edge_57 : decode cX10_edge 57 = .ok (.getfield 92, 3) := by decide +kernel
theorem dX10_edge_60 : decode cX10_edge 60 = .ok (.iload_n 1, 1) := by decide +kernel
theorem dX10_edge_61 : decode cX10_edge 61 = .ok (.iload 4, 2) := by decide +kernel
theorem dX10_edge_63 : decode cX10_edge 63 = .ok (.iastore, 1) := by decide +kernel
theorem dX10_edge_64 : decode cX10_edge 64 = .ok (.aload_n 0, 1) := by decide +kernel
theorem dX10_edge_65 : decode cX10_edge 65 = .ok (.getfield 63, 3) := by decide +kernel
theorem dX10_edge_68 : decode cX10_edge 68 = .ok (.aload_n 0, 1) := by decide +kernel
theorem dX10_edge_69 : decode cX10_edge 69 = .ok (.getfield 56, 3) := by decide +kernel
theorem dX10_edge_72 : decode cX10_edge 72 = .ok (.iload_n 2, 1) := by decide +kernel
theorem dX10_edge_73 : decode cX10_edge 73 = .ok (.iload_n 3, 1) := by decide +kernel
theorem dX10_edge_74 : decode cX10_edge 74 = .ok (.bipush 20, 2) := by decide +kernel
theorem dX10_edge_76 : decode cX10_edge 76 = .ok (.invokevirtual 225, 3) := by decide +kernel
theorem dX10_edge_79 : decode cX10_edge 79 = .ok (.aload_n 0, 1) := by decide +kernel
theorem dX10_edge_80 : decode cX10_edge 80 = .ok (.getfield 63, 3) := by decide +kernel
theorem dX10_edge_83 : decode cX10_edge 83 = .ok (.invokevirtual 255, 3) := by decide +kernel
theorem dX10_edge_86 : decode cX10_edge 86 = .ok (.ifCond .eq 6, 3) := by decide +kernel
theorem dX10_edge_89 : decode cX10_edge 89 = .ok (.iload 4, 2) := by decide +kernel
theorem dX10_edge_91 : decode cX10_edge 91 = .ok (.ireturn, 1) := by decide +kernel
theorem dX10_edge_92 : decode cX10_edge 92 = .ok (.iinc 4 (-1), 3) := by decide +kernel
theorem dX10_edge_95 : decode cX10_edge 95 = .ok (.goto (-47), 3) := by decide +kernel
theorem dX10_edge_98 : decode cX10_edge 98 = .ok (.aload_n 0, 1) := by decide +kernel
theorem dX10_edge_99 : decode cX10_edge 99 = .ok (.getfield 12, 3) := by decide +kernel
theorem dX10_edge_102 : decode cX10_edge 102 = .ok (.iconst 3, 1) := by decide +kernel
theorem dX10_edge_103 : decode cX10_edge 103 = .ok (.invokevirtual 85, 3) := by decide +kernel
theorem dX10_edge_106 : decode cX10_edge 106 = .ok (.ireturn, 1) := by decide +kernel
theorem dX10_soft_0 : decode cX10_soft 0 = .ok (.iload_n 1, 1) := by decide +kernel
theorem dX10_soft_1 : decode cX10_soft 1 = .ok (.iconst 0, 1) := by decide +kernel
theorem dX10_soft_2 : decode cX10_soft 2 = .ok (.iconst 2, 1) := by decide +kernel
theorem dX10_soft_3 : decode cX10_soft 3 = .ok (.invokestatic 81, 3) := by decide +kernel
theorem dX10_soft_6 : decode cX10_soft 6 = .ok (.ifCond .ne 12, 3) := by decide +kernel
theorem dX10_soft_9 : decode cX10_soft 9 = .ok (.aload_n 0, 1) := by decide +kernel
theorem dX10_soft_10 : decode cX10_soft 10 = .ok (.getfield 12, 3) := by decide +kernel
theorem dX10_soft_13 : decode cX10_soft 13 = .ok (.iconst 0, 1) := by decide +kernel
theorem dX10_soft_14 : decode cX10_soft 14 = .ok (.invokevirtual 85, 3) := by decide +kernel
theorem dX10_soft_17 : decode cX10_soft 17 = .ok (.ireturn, 1) := by decide +kernel
theorem dX10_soft_18 : decode cX10_soft 18 = .ok (.aload_n 0, 1) := by decide +kernel
theorem dX10_soft_19 : decode cX10_soft 19 = .ok (.getfield 73, 3) := by decide +kernel
theorem dX10_soft_22 : decode cX10_soft 22 = .ok (.aload_n 0, 1) := by decide +kernel
theorem dX10_soft_23 : decode cX10_soft 23 = .ok (.getfield 19, 3) := by decide +kernel
theorem dX10_soft_26 : decode cX10_soft 26 = .ok (.getfield 89, 3) := by decide +kernel
theorem dX10_soft_29 : decode cX10_soft 29 = .ok (.iconst 1, 1) := by decide +kernel
theorem dX10_soft_30 : decode cX10_soft 30 = .ok (.invokevirtual 259, 3) := by decide +kernel
theorem dX10_soft_33 : decode cX10_soft 33 = .ok (.aload_n 0, 1) := by decide +kernel
theorem dX10_soft_34 : decode cX10_soft 34 = .ok (.getfield 73, 3) := by decide +kernel
theorem dX10_soft_37 : decode cX10_soft 37 = .ok (.invokevirtual 263, 3) := by decide +kernel
theorem dX10_soft_40 : decode cX10_soft 40 = .ok (.istore_n 2, 1) := by decide +kernel
theorem dX10_soft_41 : decode cX10_soft 41 = .ok (.iload_n 1, 1) := by decide +kernel
theorem dX10_soft_42 : decode cX10_soft 42 = .ok (.lookupswitch 38 #[(0, 26), (1, 36)], 26) := by decide +kernel
theorem dX10_soft_68 : decode cX10_soft 68 = .ok (.aload_n 0, 1) := by decide +kernel
theorem dX10_soft_69 : decode cX10_soft 69 = .ok (.getfield 73, 3) := by decide +kernel
theorem dX10_soft_72 : decode cX10_soft 72 = .ok (.getfield 266, 3) := by decide +kernel
theorem dX10_soft_75 : decode cX10_soft 75 = .ok (.iload_n 2, 1) := by decide +kernel
theorem dX10_soft_76 : decode cX10_soft 76 = .ok (.iaload, 1) := by decide +kernel
theorem dX10_soft_77 : decode cX10_soft 77 = .ok (.ireturn, 1) := by decide +kernel
theorem dX10_soft_78 : decode cX10_soft 78 = .ok (.iload_n 2, 1) := by decide +kernel
theorem dX10_soft_79 : decode cX10_soft 79 = .ok (.ireturn, 1) := by decide +kernel
theorem dX10_soft_80 : decode cX10_soft 80 = .ok (.aload_n 0, 1) := by decide +kernel
theorem dX10_soft_81 : decode cX10_soft 81 = .ok (.getfield 73, 3) := by decide +kernel
theorem dX10_soft_84 : decode cX10_soft 84 = .ok (.aload_n 0, 1) := by decide +kernel
theorem dX10_soft_85 : decode cX10_soft 85 = .ok (.getfield 19, 3) := by decide +kernel
theorem dX10_soft_88 : decode cX10_soft 88 = .ok (.getfield 89, 3) := by decide +kernel
theorem dX10_soft_91 : decode cX10_soft 91 = .ok (.iload_n 2, 1) := by decide +kernel
theorem dX10_soft_92 : decode cX10_soft 92 = .ok (.invokevirtual 269, 3) := by decide +kernel
theorem dX10_soft_95 : decode cX10_soft 95 = .ok (.ireturn, 1) := by decide +kernel
theorem dX10_need_0 : decode cX10_need 0 = .ok (.aload_n 0, 1) := by decide +kernel
theorem dX10_need_1 : decode cX10_need 1 = .ok (.getfield 73, 3) := by decide +kernel
theorem dX10_need_4 : decode cX10_need 4 = .ok (.aload_n 0, 1) := by decide +kernel
theorem dX10_need_5 : decode cX10_need 5 = .ok (.getfield 19, 3) := by decide +kernel
theorem dX10_need_8 : decode cX10_need 8 = .ok (.getfield 89, 3) := by decide +kernel
theorem dX10_need_11 : decode cX10_need 11 = .ok (.iconst 0, 1) := by decide +kernel
theorem dX10_need_12 : decode cX10_need 12 = .ok (.invokevirtual 259, 3) := by decide +kernel
theorem dX10_need_15 : decode cX10_need 15 = .ok (.aload_n 0, 1) := by decide +kernel
theorem dX10_need_16 : decode cX10_need 16 = .ok (.getfield 73, 3) := by decide +kernel
theorem dX10_need_19 : decode cX10_need 19 = .ok (.getfield 266, 3) := by decide +kernel
theorem dX10_need_22 : decode cX10_need 22 = .ok (.aload_n 0, 1) := by decide +kernel
theorem dX10_need_23 : decode cX10_need 23 = .ok (.getfield 73, 3) := by decide +kernel
theorem dX10_need_26 : decode cX10_need 26 = .ok (.invokevirtual 263, 3) := by decide +kernel
theorem dX10_need_29 : decode cX10_need 29 = .ok (.iaload, 1) := by decide +kernel
theorem dX10_need_30 : decode cX10_need 30 = .ok (.ireturn, 1) := by decide +kernel
theorem dX10_open_0 : decode cX10_open 0 = .ok (.iload_n 1, 1) := by decide +kernel
theorem dX10_open_1 : decode cX10_open 1 = .ok (.invokestatic 133, 3) := by decide +kernel
theorem dX10_open_4 : decode cX10_open 4 = .ok (.ifCond .eq 10, 3) := by decide +kernel
theorem dX10_open_7 : decode cX10_open 7 = .ok (.iload_n 2, 1) := by decide +kernel
theorem dX10_open_8 : decode cX10_open 8 = .ok (.invokestatic 181, 3) := by decide +kernel
theorem dX10_open_11 : decode cX10_open 11 = .ok (.ifCond .ne 12, 3) := by decide +kernel
theorem dX10_open_14 : decode cX10_open 14 = .ok (.aload_n 0, 1) := by decide +kernel
theorem dX10_open_15 : decode cX10_open 15 = .ok (.getfield 12, 3) := by decide +kernel
theorem dX10_open_18 : decode cX10_open 18 = .ok (.iconst 0, 1) := by decide +kernel
theorem dX10_open_19 : decode cX10_open 19 = .ok (.invokevirtual 85, 3) := by decide +kernel
theorem dX10_open_22 : decode cX10_open 22 = .ok (.ireturn, 1) := by decide +kernel
theorem dX10_open_23 : decode cX10_open 23 = .ok (.iload_n 2, 1) := by decide +kernel
theorem dX10_open_24 : decode cX10_open 24 = .ok (.aload_n 0, 1) := by decide +kernel
theorem dX10_open_25 : decode cX10_open 25 = .ok (.getfield 19, 3) := by decide +kernel
theorem dX10_open_28 : decode cX10_open 28 = .ok (.getfield 89, 3) := by decide +kernel
theorem dX10_open_31 : decode cX10_open 31 = .ok (.getfield 115, 3) := by decide +kernel
theorem dX10_open_34 : decode cX10_open 34 = .ok (.iadd, 1) := by decide +kernel
theorem dX10_open_35 : decode cX10_open 35 = .ok (.istore_n 3, 1) := by decide +kernel
theorem dX10_open_36 : decode cX10_open 36 = .ok (.iconst 0, 1) := by decide +kernel
theorem dX10_open_37 : decode cX10_open 37 = .ok (.istore 4, 2) := by decide +kernel
theorem dX10_open_39 : decode cX10_open 39 = .ok (.iconst 0, 1) := by decide +kernel
theorem dX10_open_40 : decode cX10_open 40 = .ok (.istore 5, 2) := by decide +kernel
theorem dX10_open_42 : decode cX10_open 42 = .ok (.iload 5, 2) := by decide +kernel
theorem dX10_open_44 : decode cX10_open 44 = .ok (.bipush 12, 2) := by decide +kernel
theorem dX10_open_46 : decode cX10_open 46 = .ok (.if_icmp .ge 33, 3) := by decide +kernel
theorem dX10_open_49 : decode cX10_open 49 = .ok (.aload_n 0, 1) := by decide +kernel
theorem dX10_open_50 : decode cX10_open 50 = .ok (.getfield 19, 3) := by decide +kernel
theorem dX10_open_53 : decode cX10_open 53 = .ok (.getfield 89, 3) := by decide +kernel
theorem dX10_open_56 : decode cX10_open 56 = .ok (.iload_n 1, 1) := by decide +kernel
theorem dX10_open_57 : decode cX10_open 57 = .ok (.bipush 12, 2) := by decide +kernel
theorem dX10_open_59 : decode cX10_open 59 = .ok (.imul, 1) := by decide +kernel
theorem dX10_open_60 : decode cX10_open 60 = .ok (.iload 5, 2) := by decide +kernel
theorem dX10_open_62 : decode cX10_open 62 = .ok (.iadd, 1) := by decide +kernel
theorem dX10_open_63 : decode cX10_open 63 = .ok (.invokevirtual 99, 3) := by decide +kernel
theorem dX10_open_66 : decode cX10_open 66 = .ok (.iload_n 3, 1) := by decide +kernel
theorem dX10_open_67 : decode cX10_open 67 = .ok (.if_icmp .gt 6, 3) := by decide +kernel
theorem dX10_open_70 : decode cX10_open 70 = .ok (.iinc 4 1, 3) := by decide +kernel
theorem dX10_open_73 : decode cX10_open 73 = .ok (.iinc 5 1, 3) := by decide +kernel
theorem dX10_open_76 : decode cX10_open 76 = .ok (.goto (-34), 3) := by decide +kernel
theorem dX10_open_79 : decode cX10_open 79 = .ok (.iload 4, 2) := by decide +kernel
theorem dX10_open_81 : decode cX10_open 81 = .ok (.ireturn, 1) := by decide +kernel
theorem dX10_seed_0 : decode cX10_seed 0 = .ok (.aload_n 0, 1) := by decide +kernel
theorem dX10_seed_1 : decode cX10_seed 1 = .ok (.getfield 19, 3) := by decide +kernel
theorem dX10_seed_4 : decode cX10_seed 4 = .ok (.getfield 273, 3) := by decide +kernel
theorem dX10_seed_7 : decode cX10_seed 7 = .ok (.istore_n 2, 1) := by decide +kernel
theorem dX10_seed_8 : decode cX10_seed 8 = .ok (.aload_n 0, 1) := by decide +kernel
theorem dX10_seed_9 : decode cX10_seed 9 = .ok (.getfield 19, 3) := by decide +kernel
theorem dX10_seed_12 : decode cX10_seed 12 = .ok (.iload_n 1, 1) := by decide +kernel
theorem dX10_seed_13 : decode cX10_seed 13 = .ok (.putfield 273, 3) := by decide +kernel
theorem dX10_seed_16 : decode cX10_seed 16 = .ok (.iload_n 2, 1) := by decide +kernel
theorem dX10_seed_17 : decode cX10_seed 17 = .ok (.ireturn, 1) := by decide +kernel
theorem dX10_hold_0 : decode cX10_hold 0 = .ok (.iload_n 1, 1) := by decide +kernel
theorem dX10_hold_1 : decode cX10_hold 1 = .ok (.invokestatic 276, 3) := by decide +kernel
theorem dX10_hold_4 : decode cX10_hold 4 = .ok (.ifCond .eq 13, 3) := by decide +kernel
theorem dX10_hold_7 : decode cX10_hold 7 = .ok (.iload_n 2, 1) := by decide +kernel
theorem dX10_hold_8 : decode cX10_hold 8 = .ok (.iconst (-1), 1) := by decide +kernel
theorem dX10_hold_9 : decode cX10_hold 9 = .ok (.bipush 7, 2) := by decide +kernel
theorem dX10_hold_11 : decode cX10_hold 11 = .ok (.invokestatic 81, 3) := by decide +kernel
theorem dX10_hold_14 : decode cX10_hold 14 = .ok (.ifCond .ne 12, 3) := by decide +kernel
theorem dX10_hold_17 : decode cX10_hold 17 = .ok (.aload_n 0, 1) := by decide +kernel
theorem dX10_hold_18 : decode cX10_hold 18 = .ok (.getfield 12, 3) := by decide +kernel
theorem dX10_hold_21 : decode cX10_hold 21 = .ok (.iconst 0, 1) := by decide +kernel
theorem dX10_hold_22 : decode cX10_hold 22 = .ok (.invokevirtual 85, 3) := by decide +kernel
theorem dX10_hold_25 : decode cX10_hold 25 = .ok (.ireturn, 1) := by decide +kernel
theorem dX10_hold_26 : decode cX10_hold 26 = .ok (.iload_n 2, 1) := by decide +kernel
theorem dX10_hold_27 : decode cX10_hold 27 = .ok (.iconst (-1), 1) := by decide +kernel
theorem dX10_hold_28 : decode cX10_hold 28 = .ok (.if_icmp .eq 26, 3) := by decide +kernel
theorem dX10_hold_31 : decode cX10_hold 31 = .ok (.aload_n 0, 1) := by decide +kernel
theorem dX10_hold_32 : decode cX10_hold 32 = .ok (.getfield 19, 3) := by decide +kernel
theorem dX10_hold_35 : decode cX10_hold 35 = .ok (.getfield 102, 3) := by decide +kernel
theorem dX10_hold_38 : decode cX10_hold 38 = .ok (.iload_n 2, 1) := by decide +kernel
theorem dX10_hold_39 : decode cX10_hold 39 = .ok (.invokevirtual 155, 3) := by decide +kernel
theorem dX10_hold_42 : decode cX10_hold 42 = .ok (.ifCond .ne 12, 3) := by decide +kernel
theorem dX10_hold_45 : decode cX10_hold 45 = .ok (.aload_n 0, 1) := by decide +kernel
theorem dX10_hold_46 : decode cX10_hold 46 = .ok (.getfield 12, 3) := by decide +kernel
theorem dX10_hold_49 : decode cX10_hold 49 = .ok (.iconst 3, 1) := by decide +kernel
theorem dX10_hold_50 : decode cX10_hold 50 = .ok (.invokevirtual 85, 3) := by decide +kernel
theorem dX10_hold_53 : decode cX10_hold 53 = .ok (.ireturn, 1) := by decide +kernel
theorem dX10_hold_54 : decode cX10_hold 54 = .ok (.aload_n 0, 1) := by decide +kernel
theorem dX10_hold_55 : decode cX10_hold 55 = .ok (.getfield 19, 3) := by decide +kernel
theorem dX10_hold_58 : decode cX10_hold 58 = .ok (.getfield 279, 3) := by decide +kernel
theorem dX10_hold_61 : decode cX10_hold 61 = .ok (.iload_n 1, 1) := by decide +kernel
theorem dX10_hold_62 : decode cX10_hold 62 = .ok (.iload_n 2, 1) := by decide +kernel
theorem dX10_hold_63 : decode cX10_hold 63 = .ok (.iastore, 1) := by decide +kernel
theorem dX10_hold_64 : decode cX10_hold 64 = .ok (.iconst 1, 1) := by decide +kernel
theorem dX10_hold_65 : decode cX10_hold 65 = .ok (.ireturn, 1) := by decide +kernel
theorem dX10_as_0 : decode cX10_as 0 = .ok (.iload_n 1, 1) := by decide +kernel
theorem dX10_as_1 : decode cX10_as 1 = .ok (.invokestatic 276, 3) := by decide +kernel
theorem dX10_as_4 : decode cX10_as 4 = .ok (.ifCond .eq 10, 3) := by decide +kernel
theorem dX10_as_7 : decode cX10_as 7 = .ok (.iload_n 2, 1) := by decide +kernel
theorem dX10_as_8 : decode cX10_as 8 = .ok (.invokestatic 242, 3) := by decide +kernel
theorem dX10_as_11 : decode cX10_as 11 = .ok (.ifCond .ne 12, 3) := by decide +kernel
theorem dX10_as_14 : decode cX10_as 14 = .ok (.aload_n 0, 1) := by decide +kernel
theorem dX10_as_15 : decode cX10_as 15 = .ok (.getfield 12, 3) := by decide +kernel
theorem dX10_as_18 : decode cX10_as 18 = .ok (.iconst 0, 1) := by decide +kernel
theorem dX10_as_19 : decode cX10_as 19 = .ok (.invokevirtual 85, 3) := by decide +kernel
theorem dX10_as_22 : decode cX10_as 22 = .ok (.ireturn, 1) := by decide +kernel
theorem dX10_as_23 : decode cX10_as 23 = .ok (.aload_n 0, 1) := by decide +kernel
theorem dX10_as_24 : decode cX10_as 24 = .ok (.getfield 19, 3) := by decide +kernel
theorem dX10_as_27 : decode cX10_as 27 = .ok (.getfield 279, 3) := by decide +kernel
theorem dX10_as_30 : decode cX10_as 30 = .ok (.iload_n 1, 1) := by decide +kernel
theorem dX10_as_31 : decode cX10_as 31 = .ok (.iaload, 1) := by decide +kernel
theorem dX10_as_32 : decode cX10_as 32 = .ok (.istore_n 3, 1) := by decide +kernel
theorem dX10_as_33 : decode cX10_as 33 = .ok (.iload_n 3, 1) := by decide +kernel
theorem dX10_as_34 : decode cX10_as 34 = .ok (.invokestatic 152, 3) := by decide +kernel
theorem dX10_as_37 : decode cX10_as 37 = .ok (.ifCond .eq 17, 3) := by decide +kernel
theorem dX10_as_40 : decode cX10_as 40 = .ok (.aload_n 0, 1) := by decide +kernel
theorem dX10_as_41 : decode cX10_as 41 = .ok (.getfield 19, 3) := by decide +kernel
theorem dX10_as_44 : decode cX10_as 44 = .ok (.getfield 102, 3) := by decide +kernel
theorem dX10_as_47 : decode cX10_as 47 = .ok (.iload_n 3, 1) := by decide +kernel
theorem dX10_as_48 : decode cX10_as 48 = .ok (.invokevirtual 155, 3) := by decide +kernel
theorem dX10_as_51 : decode cX10_as 51 = .ok (.ifCond .ne 12, 3) := by decide +kernel
theorem dX10_as_54 : decode cX10_as 54 = .ok (.aload_n 0, 1) := by decide +kernel
theorem dX10_as_55 : decode cX10_as 55 = .ok (.getfield 12, 3) := by decide +kernel
theorem dX10_as_58 : decode cX10_as 58 = .ok (.iconst 5, 1) := by decide +kernel
theorem dX10_as_59 : decode cX10_as 59 = .ok (.invokevirtual 85, 3) := by decide +kernel
theorem dX10_as_62 : decode cX10_as 62 = .ok (.ireturn, 1) := by decide +kernel
theorem dX10_as_63 : decode cX10_as 63 = .ok (.aload_n 0, 1) := by decide +kernel
theorem dX10_as_64 : decode cX10_as 64 = .ok (.getfield 19, 3) := by decide +kernel
theorem dX10_as_67 : decode cX10_as 67 = .ok (.getfield 102, 3) := by decide +kernel
theorem dX10_as_70 : decode cX10_as 70 = .ok (.getfield 158, 3) := by decide +kernel
theorem dX10_as_73 : decode cX10_as 73 = .ok (.iload_n 3, 1) := by decide +kernel
theorem dX10_as_74 : decode cX10_as 74 = .ok (.iaload, 1) := by decide +kernel
theorem dX10_as_75 : decode cX10_as 75 = .ok (.iload_n 2, 1) := by decide +kernel
theorem dX10_as_76 : decode cX10_as 76 = .ok (.invokestatic 282, 3) := by decide +kernel
theorem dX10_as_79 : decode cX10_as 79 = .ok (.ifCond .eq 7, 3) := by decide +kernel
theorem dX10_as_82 : decode cX10_as 82 = .ok (.iload_n 3, 1) := by decide +kernel
theorem dX10_as_83 : decode cX10_as 83 = .ok (.goto 11, 3) := by decide +kernel
theorem dX10_as_86 : decode cX10_as 86 = .ok (.aload_n 0, 1) := by decide +kernel
theorem dX10_as_87 : decode cX10_as 87 = .ok (.getfield 12, 3) := by decide +kernel
theorem dX10_as_90 : decode cX10_as 90 = .ok (.iconst 2, 1) := by decide +kernel
theorem dX10_as_91 : decode cX10_as 91 = .ok (.invokevirtual 85, 3) := by decide +kernel
theorem dX10_as_94 : decode cX10_as 94 = .ok (.ireturn, 1) := by decide +kernel
theorem dX10_sheet_0 : decode cX10_sheet 0 = .ok (.iload_n 1, 1) := by decide +kernel
theorem dX10_sheet_1 : decode cX10_sheet 1 = .ok (.invokestatic 285, 3) := by decide +kernel
theorem dX10_sheet_4 : decode cX10_sheet 4 = .ok (.ifCond .eq 10, 3) := by decide +kernel
theorem dX10_sheet_7 : decode cX10_sheet 7 = .ok (.iload_n 2, 1) := by decide +kernel
theorem dX10_sheet_8 : decode cX10_sheet 8 = .ok (.invokestatic 288, 3) := by decide +kernel
theorem dX10_sheet_11 : decode cX10_sheet 11 = .ok (.ifCond .ne 12, 3) := by decide +kernel
theorem dX10_sheet_14 : decode cX10_sheet 14 = .ok (.aload_n 0, 1) := by decide +kernel
theorem dX10_sheet_15 : decode cX10_sheet 15 = .ok (.getfield 12, 3) := by decide +kernel
theorem dX10_sheet_18 : decode cX10_sheet 18 = .ok (.iconst 0, 1) := by decide +kernel
theorem dX10_sheet_19 : decode cX10_sheet 19 = .ok (.invokevirtual 85, 3) := by decide +kernel
theorem dX10_sheet_22 : decode cX10_sheet 22 = .ok (.ireturn, 1) := by decide +kernel
theorem dX10_sheet_23 : decode cX10_sheet 23 = .ok (.iload_n 3, 1) := by decide +kernel
theorem dX10_sheet_24 : decode cX10_sheet 24 = .ok (.ifCond .ge 13, 3) := by decide +kernel
theorem dX10_sheet_27 : decode cX10_sheet 27 = .ok (.aload_n 0, 1) := by decide +kernel
theorem dX10_sheet_28 : decode cX10_sheet 28 = .ok (.getfield 12, 3) := by decide +kernel
theorem dX10_sheet_31 : decode cX10_sheet 31 = .ok (.bipush 6, 2) := by decide +kernel
theorem dX10_sheet_33 : decode cX10_sheet 33 = .ok (.invokevirtual 85, 3) := by decide +kernel
theorem dX10_sheet_36 : decode cX10_sheet 36 = .ok (.ireturn, 1) := by decide +kernel
theorem dX10_sheet_37 : decode cX10_sheet 37 = .ok (.iload_n 3, 1) := by decide +kernel
theorem dX10_sheet_38 : decode cX10_sheet 38 = .ok (.bipush 40, 2) := by decide +kernel
theorem dX10_sheet_40 : decode cX10_sheet 40 = .ok (.if_icmp .le 12, 3) := by decide +kernel
theorem dX10_sheet_43 : decode cX10_sheet 43 = .ok (.aload_n 0, 1) := by decide +kernel
theorem dX10_sheet_44 : decode cX10_sheet 44 = .ok (.getfield 12, 3) := by decide +kernel
theorem dX10_sheet_47 : decode cX10_sheet 47 = .ok (.iconst 0, 1) := by decide +kernel
theorem dX10_sheet_48 : decode cX10_sheet 48 = .ok (.invokevirtual 85, 3) := by decide +kernel
theorem dX10_sheet_51 : decode cX10_sheet 51 = .ok (.ireturn, 1) := by decide +kernel
theorem dX10_sheet_52 : decode cX10_sheet 52 = .ok (.iload_n 2, 1) := by decide +kernel
theorem dX10_sheet_53 : decode cX10_sheet 53 = .ok (.ifCond .ne 7, 3) := by decide +kernel
theorem dX10_sheet_56 : decode cX10_sheet 56 = .ok (.iconst 0, 1) := by decide +kernel
theorem dX10_sheet_57 : decode cX10_sheet 57 = .ok (.goto 4, 3) := by decide +kernel
theorem dX10_sheet_60 : decode cX10_sheet 60 = .ok (.iload_n 3, 1) := by decide +kernel
theorem dX10_sheet_61 : decode cX10_sheet 61 = .ok (.istore 4, 2) := by decide +kernel
theorem dX10_sheet_63 : decode cX10_sheet 63 = .ok (.aload_n 0, 1) := by decide +kernel
theorem dX10_sheet_64 : decode cX10_sheet 64 = .ok (.getfield 48, 3) := by decide +kernel
theorem dX10_sheet_67 : decode cX10_sheet 67 = .ok (.iload_n 1, 1) := by decide +kernel
theorem dX10_sheet_68 : decode cX10_sheet 68 = .ok (.aaload, 1) := by decide +kernel
theorem dX10_sheet_69 : decode cX10_sheet 69 = .ok (.iload_n 2, 1) := by decide +kernel
theorem dX10_sheet_70 : decode cX10_sheet 70 = .ok (.iload 4, 2) := by decide +kernel
theorem dX10_sheet_72 : decode cX10_sheet 72 = .ok (.invokevirtual 291, 3) := by decide +kernel
theorem dX10_sheet_75 : decode cX10_sheet 75 = .ok (.iload 4, 2) := by decide +kernel
theorem dX10_sheet_77 : decode cX10_sheet 77 = .ok (.ireturn, 1) := by decide +kernel
theorem dX10_write_0 : decode cX10_write 0 = .ok (.iload_n 1, 1) := by decide +kernel
theorem dX10_write_1 : decode cX10_write 1 = .ok (.invokestatic 285, 3) := by decide +kernel
theorem dX10_write_4 : decode cX10_write 4 = .ok (.ifCond .ne 12, 3) := by decide +kernel
theorem dX10_write_7 : decode cX10_write 7 = .ok (.aload_n 0, 1) := by decide +kernel
theorem dX10_write_8 : decode cX10_write 8 = .ok (.getfield 12, 3) := by decide +kernel
theorem dX10_write_11 : decode cX10_write 11 = .ok (.iconst 0, 1) := by decide +kernel
theorem dX10_write_12 : decode cX10_write 12 = .ok (.invokevirtual 85, 3) := by decide +kernel
theorem dX10_write_15 : decode cX10_write 15 = .ok (.ireturn, 1) := by decide +kernel
theorem dX10_write_16 : decode cX10_write 16 = .ok (.aload_n 0, 1) := by decide +kernel
theorem dX10_write_17 : decode cX10_write 17 = .ok (.getfield 48, 3) := by decide +kernel
theorem dX10_write_20 : decode cX10_write 20 = .ok (.iload_n 1, 1) := by decide +kernel
theorem dX10_write_21 : decode cX10_write 21 = .ok (.aaload, 1) := by decide +kernel
theorem dX10_write_22 : decode cX10_write 22 = .ok (.astore 4, 2) := by decide +kernel
theorem dX10_write_24 : decode cX10_write 24 = .ok (.aload 4, 2) := by decide +kernel
theorem dX10_write_26 : decode cX10_write 26 = .ok (.invokevirtual 294, 3) := by decide +kernel
theorem dX10_write_29 : decode cX10_write 29 = .ok (.ifCond .eq 12, 3) := by decide +kernel
theorem dX10_write_32 : decode cX10_write 32 = .ok (.aload_n 0, 1) := by decide +kernel
theorem dX10_write_33 : decode cX10_write 33 = .ok (.getfield 12, 3) := by decide +kernel
theorem dX10_write_36 : decode cX10_write 36 = .ok (.iconst 5, 1) := by decide +kernel
theorem dX10_write_37 : decode cX10_write 37 = .ok (.invokevirtual 85, 3) := by decide +kernel
theorem dX10_write_40 : decode cX10_write 40 = .ok (.ireturn, 1) := by decide +kernel
theorem dX10_write_41 : decode cX10_write 41 = .ok (.iload_n 2, 1) := by decide +kernel
theorem dX10_write_42 : decode cX10_write 42 = .ok (.iconst 0, 1) := by decide +kernel
theorem dX10_write_43 : decode cX10_write 43 = .ok (.aload 4, 2) := by decide +kernel
theorem dX10_write_45 : decode cX10_write 45 = .ok (.getfield 297, 3) := by decide +kernel
theorem dX10_write_48 : decode cX10_write 48 = .ok (.iconst 1, 1) := by decide +kernel
theorem dX10_write_49 : decode cX10_write 49 = .ok (.isub, 1) := by decide +kernel
theorem dX10_write_50 : decode cX10_write 50 = .ok (.invokestatic 81, 3) := by decide +kernel
theorem dX10_write_53 : decode cX10_write 53 = .ok (.ifCond .ne 12, 3) := by decide +kernel
theorem dX10_write_56 : decode cX10_write 56 = .ok (.aload_n 0, 1) := by decide +kernel
theorem dX10_write_57 : decode cX10_write 57 = .ok (.getfield 12, 3) := by decide +kernel
theorem dX10_write_60 : decode cX10_write 60 = .ok (.iconst 0, 1) := by decide +kernel
theorem dX10_write_61 : decode cX10_write 61 = .ok (.invokevirtual 85, 3) := by decide +kernel
theorem dX10_write_64 : decode cX10_write 64 = .ok (.ireturn, 1) := by decide +kernel
theorem dX10_write_65 : decode cX10_write 65 = .ok (.aload 4, 2) := by decide +kernel
theorem dX10_write_67 : decode cX10_write 67 = .ok (.iload_n 2, 1) := by decide +kernel
theorem dX10_write_68 : decode cX10_write 68 = .ok (.iload_n 3, 1) := by decide +kernel
theorem dX10_write_69 : decode cX10_write 69 = .ok (.invokevirtual 300, 3) := by decide +kernel
theorem dX10_write_72 : decode cX10_write 72 = .ok (.iconst 1, 1) := by decide +kernel
theorem dX10_write_73 : decode cX10_write 73 = .ok (.ireturn, 1) := by decide +kernel
theorem dX10_copy_0 : decode cX10_copy 0 = .ok (.iload_n 1, 1) := by decide +kernel
theorem dX10_copy_1 : decode cX10_copy 1 = .ok (.invokestatic 285, 3) := by decide +kernel
theorem dX10_copy_4 : decode cX10_copy 4 = .ok (.ifCond .eq 10, 3) := by decide +kernel
theorem dX10_copy_7 : decode cX10_copy 7 = .ok (.iload_n 3, 1) := by decide +kernel
theorem dX10_copy_8 : decode cX10_copy 8 = .ok (.invokestatic 285, 3) := by decide +kernel
theorem dX10_copy_11 : decode cX10_copy 11 = .ok (.ifCond .ne 12, 3) := by decide +kernel
theorem dX10_copy_14 : decode cX10_copy 14 = .ok (.aload_n 0, 1) := by decide +kernel
theorem dX10_copy_15 : decode cX10_copy 15 = .ok (.getfield 12, 3) := by decide +kernel
theorem dX10_copy_18 : decode cX10_copy 18 = .ok (.iconst 0, 1) := by decide +kernel
theorem dX10_copy_19 : decode cX10_copy 19 = .ok (.invokevirtual 85, 3) := by decide +kernel
theorem dX10_copy_22 : decode cX10_copy 22 = .ok (.ireturn, 1) := by decide +kernel
theorem dX10_copy_23 : decode cX10_copy 23 = .ok (.aload_n 0, 1) := by decide +kernel
theorem dX10_copy_24 : decode cX10_copy 24 = .ok (.getfield 48, 3) := by decide +kernel
theorem dX10_copy_27 : decode cX10_copy 27 = .ok (.iload_n 1, 1) := by decide +kernel
theorem dX10_copy_28 : decode cX10_copy 28 = .ok (.aaload, 1) := by decide +kernel
theorem dX10_copy_29 : decode cX10_copy 29 = .ok (.astore 6, 2) := by decide +kernel
theorem dX10_copy_31 : decode cX10_copy 31 = .ok (.aload_n 0, 1) := by decide +kernel
theorem dX10_copy_32 : decode cX10_copy 32 = .ok (.getfield 48, 3) := by decide +kernel
theorem dX10_copy_35 : decode cX10_copy 35 = .ok (.iload_n 3, 1) := by decide +kernel
theorem dX10_copy_36 : decode cX10_copy 36 = .ok (.aaload, 1) := by decide +kernel
theorem dX10_copy_37 : decode cX10_copy 37 = .ok (.astore 7, 2) := by decide +kernel
theorem dX10_copy_39 : decode cX10_copy 39 = .ok (.aload 6, 2) := by decide +kernel
theorem dX10_copy_41 : decode cX10_copy 41 = .ok (.invokevirtual 294, 3) := by decide +kernel
theorem dX10_copy_44 : decode cX10_copy 44 = .ok (.ifCond .ne 11, 3) := by decide +kernel
theorem dX10_copy_47 : decode cX10_copy 47 = .ok (.aload 7, 2) := by decide +kernel
theorem dX10_copy_49 : decode cX10_copy 49 = .ok (.invokevirtual 294, 3) := by decide +kernel
theorem dX10_copy_52 : decode cX10_copy 52 = .ok (.ifCond .eq 12, 3) := by decide +kernel
theorem dX10_copy_55 : decode cX10_copy 55 = .ok (.aload_n 0, 1) := by decide +kernel
theorem dX10_copy_56 : decode cX10_copy 56 = .ok (.getfield 12, 3) := by decide +kernel
theorem dX10_copy_59 : decode cX10_copy 59 = .ok (.iconst 5, 1) := by decide +kernel
theorem dX10_copy_60 : decode cX10_copy 60 = .ok (.invokevirtual 85, 3) := by decide +kernel
theorem dX10_copy_63 : decode cX10_copy 63 = .ok (.ireturn, 1) := by decide +kernel
theorem dX10_copy_64 : decode cX10_copy 64 = .ok (.aload 6, 2) := by decide +kernel
theorem dX10_copy_66 : decode cX10_copy 66 = .ok (.getfield 303, 3) := by decide +kernel
theorem dX10_copy_69 : decode cX10_copy 69 = .ok (.aload 7, 2) := by decide +kernel
theorem dX10_copy_71 : decode cX10_copy 71 = .ok (.getfield 303, 3) := by decide +kernel
theorem dX10_copy_74 : decode cX10_copy 74 = .ok (.if_icmp .eq 12, 3) := by decide +kernel
theorem dX10_copy_77 : decode cX10_copy 77 = .ok (.aload_n 0, 1) := by decide +kernel
theorem dX10_copy_78 : decode cX10_copy 78 = .ok (.getfield 12, 3) := by decide +kernel
theorem dX10_copy_81 : decode cX10_copy 81 = .ok (.iconst 2, 1) := by decide +kernel
theorem dX10_copy_82 : decode cX10_copy 82 = .ok (.invokevirtual 85, 3) := by decide +kernel
theorem dX10_copy_85 : decode cX10_copy 85 = .ok (.ireturn, 1) := by decide +kernel
theorem dX10_copy_86 : decode cX10_copy 86 = .ok (.aload 6, 2) := by decide +kernel
theorem dX10_copy_88 : decode cX10_copy 88 = .ok (.iload_n 2, 1) := by decide +kernel
theorem dX10_copy_89 : decode cX10_copy 89 = .ok (.iload 5, 2) := by decide +kernel
theorem dX10_copy_91 : decode cX10_copy 91 = .ok (.invokevirtual 306, 3) := by decide +kernel
theorem dX10_copy_94 : decode cX10_copy 94 = .ok (.ifCond .eq 15, 3) := by decide +kernel
theorem dX10_copy_97 : decode cX10_copy 97 = .ok (.aload 7, 2) := by decide +kernel
theorem dX10_copy_99 : decode cX10_copy 99 = .ok (.iload 4, 2) := by decide +kernel
theorem dX10_copy_101 : decode cX10_copy 101 = .ok (.iload 5, 2) := by decide +kernel
theorem dX10_copy_103 : decode cX10_copy 103 = .ok (.invokevirtual 306, 3) := by decide +kernel
theorem dX10_copy_106 : decode cX10_copy 106 = .ok (.ifCond .ne 12, 3) := by decide +kernel
theorem dX10_copy_109 : decode cX10_copy 109 = .ok (.aload_n 0, 1) := by decide +kernel
theorem dX10_copy_110 : decode cX10_copy 110 = .ok (.getfield 12, 3) := by decide +kernel
theorem dX10_copy_113 : decode cX10_copy 113 = .ok (.iconst 0, 1) := by decide +kernel
theorem dX10_copy_114 : decode cX10_copy 114 = .ok (.invokevirtual 85, 3) := by decide +kernel
theorem dX10_copy_117 : decode cX10_copy 117 = .ok (.ireturn, 1) := by decide +kernel
theorem dX10_copy_118 : decode cX10_copy 118 = .ok (.aload 6, 2) := by decide +kernel
theorem dX10_copy_120 : decode cX10_copy 120 = .ok (.getfield 309, 3) := by decide +kernel
theorem dX10_copy_123 : decode cX10_copy 123 = .ok (.iload_n 2, 1) := by decide +kernel
theorem dX10_copy_124 : decode cX10_copy 124 = .ok (.aload 7, 2) := by decide +kernel
theorem dX10_copy_126 : decode cX10_copy 126 = .ok (.getfield 309, 3) := by decide +kernel
theorem dX10_copy_129 : decode cX10_copy 129 = .ok (.iload 4, 2) := by decide +kernel
theorem dX10_copy_131 : decode cX10_copy 131 = .ok (.iload 5, 2) := by decide +kernel
theorem dX10_copy_133 : decode cX10_copy 133 = .ok (.invokestatic 312, 3) := by decide +kernel
theorem dX10_copy_136 : decode cX10_copy 136 = .ok (.iload 5, 2) := by decide +kernel
theorem dX10_copy_138 : decode cX10_copy 138 = .ok (.ireturn, 1) := by decide +kernel
theorem dX10_load_0 : decode cX10_load 0 = .ok (.iload_n 1, 1) := by decide +kernel
theorem dX10_load_1 : decode cX10_load 1 = .ok (.invokestatic 285, 3) := by decide +kernel
theorem dX10_load_4 : decode cX10_load 4 = .ok (.ifCond .ne 12, 3) := by decide +kernel
theorem dX10_load_7 : decode cX10_load 7 = .ok (.aload_n 0, 1) := by decide +kernel
theorem dX10_load_8 : decode cX10_load 8 = .ok (.getfield 12, 3) := by decide +kernel
theorem dX10_load_11 : decode cX10_load 11 = .ok (.iconst 0, 1) := by decide +kernel
theorem dX10_load_12 : decode cX10_load 12 = .ok (.invokevirtual 85, 3) := by decide +kernel
theorem dX10_load_15 : decode cX10_load 15 = .ok (.ireturn, 1) := by decide +kernel
theorem dX10_load_16 : decode cX10_load 16 = .ok (.aload_n 0, 1) := by decide +kernel
theorem dX10_load_17 : decode cX10_load 17 = .ok (.getfield 48, 3) := by decide +kernel
theorem dX10_load_20 : decode cX10_load 20 = .ok (.iload_n 1, 1) := by decide +kernel
theorem dX10_load_21 : decode cX10_load 21 = .ok (.aaload, 1) := by decide +kernel
theorem dX10_load_22 : decode cX10_load 22 = .ok (.astore_n 3, 1) := by decide +kernel
theorem dX10_load_23 : decode cX10_load 23 = .ok (.aload_n 3, 1) := by decide +kernel
theorem dX10_load_24 : decode cX10_load 24 = .ok (.invokevirtual 294, 3) := by decide +kernel
theorem dX10_load_27 : decode cX10_load 27 = .ok (.ifCond .eq 12, 3) := by decide +kernel
theorem dX10_load_30 : decode cX10_load 30 = .ok (.aload_n 0, 1) := by decide +kernel
theorem dX10_load_31 : decode cX10_load 31 = .ok (.getfield 12, 3) := by decide +kernel
theorem dX10_load_34 : decode cX10_load 34 = .ok (.iconst 5, 1) := by decide +kernel
theorem dX10_load_35 : decode cX10_load 35 = .ok (.invokevirtual 85, 3) := by decide +kernel
theorem dX10_load_38 : decode cX10_load 38 = .ok (.ireturn, 1) := by decide +kernel
theorem dX10_load_39 : decode cX10_load 39 = .ok (.iload_n 2, 1) := by decide +kernel
theorem dX10_load_40 : decode cX10_load 40 = .ok (.invokestatic 77, 3) := by decide +kernel
theorem dX10_load_43 : decode cX10_load 43 = .ok (.ifCond .ne 12, 3) := by decide +kernel
theorem dX10_load_46 : decode cX10_load 46 = .ok (.aload_n 0, 1) := by decide +kernel
theorem dX10_load_47 : decode cX10_load 47 = .ok (.getfield 12, 3) := by decide +kernel
theorem dX10_load_50 : decode cX10_load 50 = .ok (.iconst 0, 1) := by decide +kernel
theorem dX10_load_51 : decode cX10_load 51 = .ok (.invokevirtual 85, 3) := by decide +kernel
theorem dX10_load_54 : decode cX10_load 54 = .ok (.ireturn, 1) := by decide +kernel
theorem dX10_load_55 : decode cX10_load 55 = .ok (.iconst 0, 1) := by decide +kernel
theorem dX10_load_56 : decode cX10_load 56 = .ok (.istore 4, 2) := by decide +kernel
theorem dX10_load_58 : decode cX10_load 58 = .ok (.iload 4, 2) := by decide +kernel
theorem dX10_load_60 : decode cX10_load 60 = .ok (.aload_n 3, 1) := by decide +kernel
theorem dX10_load_61 : decode cX10_load 61 = .ok (.getfield 297, 3) := by decide +kernel
theorem dX10_load_64 : decode cX10_load 64 = .ok (.if_icmp .ge 57, 3) := by decide +kernel
theorem dX10_load_67 : decode cX10_load 67 = .ok (.iload_n 2, 1) := by decide +kernel
theorem dX10_load_68 : decode cX10_load 68 = .ok (.iload 4, 2) := by decide +kernel
theorem dX10_load_70 : decode cX10_load 70 = .ok (.iadd, 1) := by decide +kernel
theorem dX10_load_71 : decode cX10_load 71 = .ok (.sipush 192, 3) := by decide +kernel
theorem dX10_load_74 : decode cX10_load 74 = .ok (.if_icmp .ge 47, 3) := by decide +kernel
theorem dX10_load_77 : decode cX10_load 77 = .ok (.aload_n 3, 1) := by decide +kernel
theorem dX10_load_78 : decode cX10_load 78 = .ok (.getfield 309, 3) := by decide +kernel
theorem dX10_load_81 : decode cX10_load 81 = .ok (.iload 4, 2) := by decide +kernel
theorem dX10_load_83 : decode cX10_load 83 = .ok (.iaload, 1) := by decide +kernel
theorem dX10_load_84 : decode cX10_load 84 = .ok (.iconst 0, 1) := by decide +kernel
theorem dX10_load_85 : decode cX10_load 85 = .ok (.bipush 9, 2) := by decide +kernel
theorem dX10_load_87 : decode cX10_load 87 = .ok (.invokestatic 81, 3) := by decide +kernel
theorem dX10_load_90 : decode cX10_load 90 = .ok (.ifCond .eq 31, 3) := by decide +kernel
theorem dX10_load_93 : decode cX10_load 93 = .ok (.aload_n 0, 1) := by decide +kernel
theorem dX10_load_94 : decode cX10_load 94 = .ok (.getfield 19, 3) := by decide +kernel
theorem dX10_load_97 : decode cX10_load 97 = .ok (.getfield 89, 3) := by decide +kernel
theorem dX10_load_100 : decode cX10_load 100 = .ok (.getfield 92, 3) := by decide +kernel
theorem dX10_load_103 : decode cX10_load 103 = .ok (.iload_n 2, 1) := by decide +kernel
theorem dX10_load_104 : decode cX10_load 104 = .ok (.iload 4, 2) := by decide +kernel
theorem dX10_load_106 : decode cX10_load 106 = .ok (.iadd, 1) := by decide +kernel
theorem dX10_load_107 : decode cX10_load 107 = .ok (.aload_n 3, 1) := by decide +kernel
theorem dX10_load_108 : decode cX10_load 108 = .ok (.getfield 309, 3) := by decide +kernel
theorem dX10_load_111 : decode cX10_load 111 = .ok (.iload 4, 2) := by decide +kernel
theorem dX10_load_113 : decode cX10_load 113 = .ok (.iaload, 1) := by decide +kernel
theorem dX10_load_114 : decode cX10_load 114 = .ok (.iastore, 1) := by decide +kernel
theorem dX10_load_115 : decode cX10_load 115 = .ok (.iinc 4 1, 3) := by decide +kernel
theorem dX10_load_118 : decode cX10_load 118 = .ok (.goto (-60), 3) := by decide +kernel
theorem dX10_load_121 : decode cX10_load 121 = .ok (.iload 4, 2) := by decide +kernel
theorem dX10_load_123 : decode cX10_load 123 = .ok (.ireturn, 1) := by decide +kernel
theorem dX10_judge_0 : decode cX10_judge 0 = .ok (.iload_n 1, 1) := by decide +kernel
theorem dX10_judge_1 : decode cX10_judge 1 = .ok (.invokestatic 285, 3) := by decide +kernel
theorem dX10_judge_4 : decode cX10_judge 4 = .ok (.ifCond .ne 12, 3) := by decide +kernel
theorem dX10_judge_7 : decode cX10_judge 7 = .ok (.aload_n 0, 1) := by decide +kernel
theorem dX10_judge_8 : decode cX10_judge 8 = .ok (.getfield 12, 3) := by decide +kernel
theorem dX10_judge_11 : decode cX10_judge 11 = .ok (.iconst 0, 1) := by decide +kernel
theorem dX10_judge_12 : decode cX10_judge 12 = .ok (.invokevirtual 85, 3) := by decide +kernel
theorem dX10_judge_15 : decode cX10_judge 15 = .ok (.ireturn, 1) := by decide +kernel
theorem dX10_judge_16 : decode cX10_judge 16 = .ok (.aload_n 0, 1) := by decide +kernel
theorem dX10_judge_17 : decode cX10_judge 17 = .ok (.getfield 48, 3) := by decide +kernel
theorem dX10_judge_20 : decode cX10_judge 20 = .ok (.iload_n 1, 1) := by decide +kernel
theorem dX10_judge_21 : decode cX10_judge 21 = .ok (.aaload, 1) := by decide +kernel
theorem dX10_judge_22 : decode cX10_judge 22 = .ok (.astore_n 3, 1) := by decide +kernel
theorem dX10_judge_23 : decode cX10_judge 23 = .ok (.aload_n 3, 1) := by decide +kernel
theorem dX10_judge_24 : decode cX10_judge 24 = .ok (.invokevirtual 294, 3) := by decide +kernel
theorem dX10_judge_27 : decode cX10_judge 27 = .ok (.ifCond .eq 12, 3) := by decide +kernel
theorem dX10_judge_30 : decode cX10_judge 30 = .ok (.aload_n 0, 1) := by decide +kernel
theorem dX10_judge_31 : decode cX10_judge 31 = .ok (.getfield 12, 3) := by decide +kernel
theorem dX10_judge_34 : decode cX10_judge 34 = .ok (.iconst 5, 1) := by decide +kernel
theorem dX10_judge_35 : decode cX10_judge 35 = .ok (.invokevirtual 85, 3) := by decide +kernel
theorem dX10_judge_38 : decode cX10_judge 38 = .ok (.ireturn, 1) := by decide +kernel
theorem dX10_judge_39 : decode cX10_judge 39 = .ok (.iload_n 2, 1) := by decide +kernel
theorem dX10_judge_40 : decode cX10_judge 40 = .ok (.invokestatic 242, 3) := by decide +kernel
theorem dX10_judge_43 : decode cX10_judge 43 = .ok (.ifCond .eq 22, 3) := by decide +kernel
theorem dX10_judge_46 : decode cX10_judge 46 = .ok (.aload_n 3, 1) := by decide +kernel
theorem dX10_judge_47 : decode cX10_judge 47 = .ok (.getfield 297, 3) := by decide +kernel
theorem dX10_judge_50 : decode cX10_judge 50 = .ok (.ifCond .eq 15, 3) := by decide +kernel
theorem dX10_judge_53 : decode cX10_judge 53 = .ok (.aload_n 3, 1) := by decide +kernel
theorem dX10_judge_54 : decode cX10_judge 54 = .ok (.getfield 309, 3) := by decide +kernel
theorem dX10_judge_57 : decode cX10_judge 57 = .ok (.iconst 0, 1) := by decide +kernel
theorem dX10_judge_58 : decode cX10_judge 58 = .ok (.iaload, 1) := by decide +kernel
theorem dX10_judge_59 : decode cX10_judge 59 = .ok (.invokestatic 139, 3) := by decide +kernel
theorem dX10_judge_62 : decode cX10_judge 62 = .ok (.ifCond .ne 12, 3) := by decide +kernel
theorem dX10_judge_65 : decode cX10_judge 65 = .ok (.aload_n 0, 1) := by decide +kernel
theorem dX10_judge_66 : decode cX10_judge 66 = .ok (.getfield 12, 3) := by decide +kernel
theorem dX10_judge_69 : decode cX10_judge 69 = .ok (.iconst 0, 1) := by decide +kernel
theorem dX10_judge_70 : decode cX10_judge 70 = .ok (.invokevirtual 85, 3) := by decide +kernel
theorem dX10_judge_73 : decode cX10_judge 73 = .ok (.ireturn, 1) := by decide +kernel
theorem dX10_judge_74 : decode cX10_judge 74 = .ok (.aload_n 0, 1) := by decide +kernel
theorem dX10_judge_75 : decode cX10_judge 75 = .ok (.getfield 63, 3) := by decide +kernel
theorem dX10_judge_78 : decode cX10_judge 78 = .ok (.aload_n 0, 1) := by decide +kernel
theorem dX10_judge_79 : decode cX10_judge 79 = .ok (.getfield 19, 3) := by decide +kernel
theorem dX10_judge_82 : decode cX10_judge 82 = .ok (.getfield 89, 3) := by decide +kernel
theorem dX10_judge_85 : decode cX10_judge 85 = .ok (.iload_n 2, 1) := by decide +kernel
theorem dX10_judge_86 : decode cX10_judge 86 = .ok (.aload_n 3, 1) := by decide +kernel
theorem dX10_judge_87 : decode cX10_judge 87 = .ok (.getfield 309, 3) := by decide +kernel
theorem dX10_judge_90 : decode cX10_judge 90 = .ok (.iconst 0, 1) := by decide +kernel
theorem dX10_judge_91 : decode cX10_judge 91 = .ok (.iaload, 1) := by decide +kernel
theorem dX10_judge_92 : decode cX10_judge 92 = .ok (.bipush 20, 2) := by decide +kernel
theorem dX10_judge_94 : decode cX10_judge 94 = .ok (.invokevirtual 225, 3) := by decide +kernel
theorem dX10_judge_97 : decode cX10_judge 97 = .ok (.iconst 0, 1) := by decide +kernel
theorem dX10_judge_98 : decode cX10_judge 98 = .ok (.istore 4, 2) := by decide +kernel
theorem dX10_judge_100 : decode cX10_judge 100 = .ok (.iload 4, 2) := by decide +kernel
theorem dX10_judge_102 : decode cX10_judge 102 = .ok (.aload_n 3, 1) := by decide +kernel
theorem dX10_judge_103 : decode cX10_judge 103 = .ok (.getfield 297, 3) := by decide +kernel
theorem dX10_judge_106 : decode cX10_judge 106 = .ok (.if_icmp .ge 47, 3) := by decide +kernel
theorem dX10_judge_109 : decode cX10_judge 109 = .ok (.aload_n 0, 1) := by decide +kernel
theorem dX10_judge_110 : decode cX10_judge 110 = .ok (.getfield 63, 3) := by decide +kernel
theorem dX10_judge_113 : decode cX10_judge 113 = .ok (.iload 4, 2) := by decide +kernel
theorem dX10_judge_115 : decode cX10_judge 115 = .ok (.invokevirtual 239, 3) := by decide +kernel
theorem dX10_judge_118 : decode cX10_judge 118 = .ok (.istore 5, 2) := by decide +kernel
theorem dX10_judge_120 : decode cX10_judge 120 = .ok (.iload 5, 2) := by decide +kernel
theorem dX10_judge_122 : decode cX10_judge 122 = .ok (.bipush (-2), 2) := by decide +kernel
theorem dX10_judge_124 : decode cX10_judge 124 = .ok (.if_icmp .eq 18, 3) := by decide +kernel
theorem dX10_judge_127 : decode cX10_judge 127 = .ok (.iload 5, 2) := by decide +kernel
theorem dX10_judge_129 : decode cX10_judge 129 = .ok (.invokestatic 318, 3) := by decide +kernel
theorem dX10_judge_132 : decode cX10_judge 132 = .ok (.aload_n 3, 1) := by decide +kernel
theorem dX10_judge_133 : decode cX10_judge 133 = .ok (.getfield 309, 3) := by decide +kernel
theorem dX10_judge_136 : decode cX10_judge 136 = .ok (.iload 4, 2) := by decide +kernel
theorem dX10_judge_138 : decode cX10_judge 138 = .ok (.iaload, 1) := by decide +kernel
theorem dX10_judge_139 : decode cX10_judge 139 = .ok (.if_icmp .eq 8, 3) := by decide +kernel
theorem dX10_judge_142 : decode cX10_judge 142 = .ok (.iconst 1, 1) := by decide +kernel
theorem dX10_judge_143 : decode cX10_judge 143 = .ok (.iload 4, 2) := by decide +kernel
theorem dX10_judge_145 : decode cX10_judge 145 = .ok (.iadd, 1) := by decide +kernel
theorem dX10_judge_146 : decode cX10_judge 146 = .ok (.ireturn, 1) := by decide +kernel
theorem dX10_judge_147 : decode cX10_judge 147 = .ok (.iinc 4 1, 3) := by decide +kernel
theorem dX10_judge_150 : decode cX10_judge 150 = .ok (.goto (-50), 3) := by decide +kernel
theorem dX10_judge_153 : decode cX10_judge 153 = .ok (.iconst 0, 1) := by decide +kernel
theorem dX10_judge_154 : decode cX10_judge 154 = .ok (.ireturn, 1) := by decide +kernel
theorem dX10_image_0 : decode cX10_image 0 = .ok (.aload_n 0, 1) := by decide +kernel
theorem dX10_image_1 : decode cX10_image 1 = .ok (.getfield 23, 3) := by decide +kernel
theorem dX10_image_4 : decode cX10_image 4 = .ok (.aload_n 0, 1) := by decide +kernel
theorem dX10_image_5 : decode cX10_image 5 = .ok (.getfield 19, 3) := by decide +kernel
theorem dX10_image_8 : decode cX10_image 8 = .ok (.invokevirtual 321, 3) := by decide +kernel
theorem dX10_image_11 : decode cX10_image 11 = .ok (.aload_n 0, 1) := by decide +kernel
theorem dX10_image_12 : decode cX10_image 12 = .ok (.iconst 1, 1) := by decide +kernel
theorem dX10_image_13 : decode cX10_image 13 = .ok (.putfield 26, 3) := by decide +kernel
theorem dX10_image_16 : decode cX10_image 16 = .ok (.iconst 1, 1) := by decide +kernel
theorem dX10_image_17 : decode cX10_image 17 = .ok (.ireturn, 1) := by decide +kernel
theorem dX10_undo_0 : decode cX10_undo 0 = .ok (.aload_n 0, 1) := by decide +kernel
theorem dX10_undo_1 : decode cX10_undo 1 = .ok (.getfield 26, 3) := by decide +kernel
theorem dX10_undo_4 : decode cX10_undo 4 = .ok (.ifCond .ne 12, 3) := by decide +kernel
theorem dX10_undo_7 : decode cX10_undo 7 = .ok (.aload_n 0, 1) := by decide +kernel
theorem dX10_undo_8 : decode cX10_undo 8 = .ok (.getfield 12, 3) := by decide +kernel
theorem dX10_undo_11 : decode cX10_undo 11 = .ok (.iconst 3, 1) := by decide +kernel
theorem dX10_undo_12 : decode cX10_undo 12 = .ok (.invokevirtual 85, 3) := by decide +kernel
theorem dX10_undo_15 : decode cX10_undo 15 = .ok (.ireturn, 1) := by decide +kernel
theorem dX10_undo_16 : decode cX10_undo 16 = .ok (.aload_n 0, 1) := by decide +kernel
theorem dX10_undo_17 : decode cX10_undo 17 = .ok (.getfield 19, 3) := by decide +kernel
theorem dX10_undo_20 : decode cX10_undo 20 = .ok (.aload_n 0, 1) := by decide +kernel
theorem dX10_undo_21 : decode cX10_undo 21 = .ok (.getfield 23, 3) := by decide +kernel
theorem dX10_undo_24 : decode cX10_undo 24 = .ok (.invokevirtual 321, 3) := by decide +kernel
theorem dX10_undo_27 : decode cX10_undo 27 = .ok (.aload_n 0, 1) := by decide +kernel
theorem dX10_undo_28 : decode cX10_undo 28 = .ok (.getfield 19, 3) := by decide +kernel
theorem dX10_undo_31 : decode cX10_undo 31 = .ok (.getfield 102, 3) := by decide +kernel
theorem dX10_undo_34 : decode cX10_undo 34 = .ok (.invokevirtual 174, 3) := by decide +kernel
theorem dX10_undo_37 : decode cX10_undo 37 = .ok (.ireturn, 1) := by decide +kernel
theorem dX10_tear_0 : decode cX10_tear 0 = .ok (.aload_n 0, 1) := by decide +kernel
theorem dX10_tear_1 : decode cX10_tear 1 = .ok (.getfield 26, 3) := by decide +kernel
theorem dX10_tear_4 : decode cX10_tear 4 = .ok (.ifCond .eq 7, 3) := by decide +kernel
theorem dX10_tear_7 : decode cX10_tear 7 = .ok (.iconst 1, 1) := by decide +kernel
theorem dX10_tear_8 : decode cX10_tear 8 = .ok (.goto 4, 3) := by decide +kernel
theorem dX10_tear_11 : decode cX10_tear 11 = .ok (.iconst 0, 1) := by decide +kernel
theorem dX10_tear_12 : decode cX10_tear 12 = .ok (.istore_n 1, 1) := by decide +kernel
theorem dX10_tear_13 : decode cX10_tear 13 = .ok (.aload_n 0, 1) := by decide +kernel
theorem dX10_tear_14 : decode cX10_tear 14 = .ok (.iconst 0, 1) := by decide +kernel
theorem dX10_tear_15 : decode cX10_tear 15 = .ok (.putfield 26, 3) := by decide +kernel
theorem dX10_tear_18 : decode cX10_tear 18 = .ok (.iload_n 1, 1) := by decide +kernel
theorem dX10_tear_19 : decode cX10_tear 19 = .ok (.ireturn, 1) := by decide +kernel
theorem dX10_count_0 : decode cX10_count 0 = .ok (.iload_n 1, 1) := by decide +kernel
theorem dX10_count_1 : decode cX10_count 1 = .ok (.tableswitch 135 0 7 #[47, 58, 72, 86, 100, 111, 119, 127], 47) := by decide +kernel
theorem dX10_count_48 : decode cX10_count 48 = .ok (.aload_n 0, 1) := by decide +kernel
theorem dX10_count_49 : decode cX10_count 49 = .ok (.getfield 19, 3) := by decide +kernel
theorem dX10_count_52 : decode cX10_count 52 = .ok (.getfield 102, 3) := by decide +kernel
theorem dX10_count_55 : decode cX10_count 55 = .ok (.invokevirtual 174, 3) := by decide +kernel
theorem dX10_count_58 : decode cX10_count 58 = .ok (.ireturn, 1) := by decide +kernel
theorem dX10_count_59 : decode cX10_count 59 = .ok (.aload_n 0, 1) := by decide +kernel
theorem dX10_count_60 : decode cX10_count 60 = .ok (.getfield 19, 3) := by decide +kernel
theorem dX10_count_63 : decode cX10_count 63 = .ok (.getfield 102, 3) := by decide +kernel
theorem dX10_count_66 : decode cX10_count 66 = .ok (.getfield 164, 3) := by decide +kernel
theorem dX10_count_69 : decode cX10_count 69 = .ok (.invokestatic 191, 3) := by decide +kernel
theorem dX10_count_72 : decode cX10_count 72 = .ok (.ireturn, 1) := by decide +kernel
theorem dX10_count_73 : decode cX10_count 73 = .ok (.aload_n 0, 1) := by decide +kernel
theorem dX10_count_74 : decode cX10_count 74 = .ok (.getfield 19, 3) := by decide +kernel
theorem dX10_count_77 : decode cX10_count 77 = .ok (.getfield 89, 3) := by decide +kernel
theorem dX10_count_80 : decode cX10_count 80 = .ok (.getfield 96, 3) := by decide +kernel
theorem dX10_count_83 : decode cX10_count 83 = .ok (.invokestatic 129, 3) := by decide +kernel
theorem dX10_count_86 : decode cX10_count 86 = .ok (.ireturn, 1) := by decide +kernel
theorem dX10_count_87 : decode cX10_count 87 = .ok (.aload_n 0, 1) := by decide +kernel
theorem dX10_count_88 : decode cX10_count 88 = .ok (.getfield 19, 3) := by decide +kernel
theorem dX10_count_91 : decode cX10_count 91 = .ok (.getfield 89, 3) := by decide +kernel
theorem dX10_count_94 : decode cX10_count 94 = .ok (.getfield 92, 3) := by decide +kernel
theorem dX10_count_97 : decode cX10_count 97 = .ok (.invokestatic 129, 3) := by decide +kernel
theorem dX10_count_100 : decode cX10_count 100 = .ok (.ireturn, 1) := by decide +kernel
theorem dX10_count_101 : decode cX10_count 101 = .ok (.aload_n 0, 1) := by decide +kernel
theorem dX10_count_102 : decode cX10_count 102 = .ok (.getfield 19, 3) := by decide +kernel
theorem dX10_count_105 : decode cX10_count 105 = .ok (.getfield 200, 3) := by decide +kernel
theorem dX10_count_108 : decode cX10_count 108 = .ok (.getfield 204, 3) := by decide +kernel
theorem dX10_count_111 : decode cX10_count 111 = .ok (.ireturn, 1) := by decide +kernel
theorem dX10_count_112 : decode cX10_count 112 = .ok (.aload_n 0, 1) := by decide +kernel
theorem dX10_count_113 : decode cX10_count 113 = .ok (.getfield 33, 3) := by decide +kernel
theorem dX10_count_116 : decode cX10_count 116 = .ok (.getfield 194, 3) := by decide +kernel
theorem dX10_count_119 : decode cX10_count 119 = .ok (.ireturn, 1) := by decide +kernel
theorem dX10_count_120 : decode cX10_count 120 = .ok (.aload_n 0, 1) := by decide +kernel
theorem dX10_count_121 : decode cX10_count 121 = .ok (.getfield 19, 3) := by decide +kernel
theorem dX10_count_124 : decode cX10_count 124 = .ok (.getfield 273, 3) := by decide +kernel
theorem dX10_count_127 : decode cX10_count 127 = .ok (.ireturn, 1) := by decide +kernel
theorem dX10_count_128 : decode cX10_count 128 = .ok (.aload_n 0, 1) := by decide +kernel
theorem dX10_count_129 : decode cX10_count 129 = .ok (.getfield 19, 3) := by decide +kernel
theorem dX10_count_132 : decode cX10_count 132 = .ok (.getfield 324, 3) := by decide +kernel
theorem dX10_count_135 : decode cX10_count 135 = .ok (.ireturn, 1) := by decide +kernel
theorem dX10_count_136 : decode cX10_count 136 = .ok (.aload_n 0, 1) := by decide +kernel
theorem dX10_count_137 : decode cX10_count 137 = .ok (.getfield 12, 3) := by decide +kernel
theorem dX10_count_140 : decode cX10_count 140 = .ok (.iconst 0, 1) := by decide +kernel
theorem dX10_count_141 : decode cX10_count 141 = .ok (.invokevirtual 85, 3) := by decide +kernel
theorem dX10_count_144 : decode cX10_count 144 = .ok (.ireturn, 1) := by decide +kernel
theorem dX10_status_0 : decode cX10_status 0 = .ok (.iload_n 1, 1) := by decide +kernel
theorem dX10_status_1 : decode cX10_status 1 = .ok (.iconst (-1), 1) := by decide +kernel
theorem dX10_status_2 : decode cX10_status 2 = .ok (.if_icmp .ne 14, 3) := by decide +kernel
theorem dX10_status_5 : decode cX10_status 5 = .ok (.aload_n 0, 1) := by decide +kernel
theorem dX10_status_6 : decode cX10_status 6 = .ok (.getfield 12, 3) := by decide +kernel
theorem dX10_status_9 : decode cX10_status 9 = .ok (.getfield 327, 3) := by decide +kernel
theorem dX10_status_12 : decode cX10_status 12 = .ok (.invokestatic 191, 3) := by decide +kernel
theorem dX10_status_15 : decode cX10_status 15 = .ok (.ireturn, 1) := by decide +kernel
theorem dX10_status_16 : decode cX10_status 16 = .ok (.iload_n 1, 1) := by decide +kernel
theorem dX10_status_17 : decode cX10_status 17 = .ok (.iconst 0, 1) := by decide +kernel
theorem dX10_status_18 : decode cX10_status 18 = .ok (.bipush 6, 2) := by decide +kernel
theorem dX10_status_20 : decode cX10_status 20 = .ok (.invokestatic 81, 3) := by decide +kernel
theorem dX10_status_23 : decode cX10_status 23 = .ok (.ifCond .ne 12, 3) := by decide +kernel
theorem dX10_status_26 : decode cX10_status 26 = .ok (.aload_n 0, 1) := by decide +kernel
theorem dX10_status_27 : decode cX10_status 27 = .ok (.getfield 12, 3) := by decide +kernel
theorem dX10_status_30 : decode cX10_status 30 = .ok (.iconst 0, 1) := by decide +kernel
theorem dX10_status_31 : decode cX10_status 31 = .ok (.invokevirtual 85, 3) := by decide +kernel
theorem dX10_status_34 : decode cX10_status 34 = .ok (.ireturn, 1) := by decide +kernel
theorem dX10_status_35 : decode cX10_status 35 = .ok (.aload_n 0, 1) := by decide +kernel
theorem dX10_status_36 : decode cX10_status 36 = .ok (.getfield 12, 3) := by decide +kernel
theorem dX10_status_39 : decode cX10_status 39 = .ok (.getfield 327, 3) := by decide +kernel
theorem dX10_status_42 : decode cX10_status 42 = .ok (.iload_n 1, 1) := by decide +kernel
theorem dX10_status_43 : decode cX10_status 43 = .ok (.iaload, 1) := by decide +kernel
theorem dX10_status_44 : decode cX10_status 44 = .ok (.ireturn, 1) := by decide +kernel
theorem dX10_isWithin_0 : decode cX10_isWithin 0 = .ok (.iload_n 0, 1) := by decide +kernel
theorem dX10_isWithin_1 : decode cX10_isWithin 1 = .ok (.iload_n 1, 1) := by decide +kernel
theorem dX10_isWithin_2 : decode cX10_isWithin 2 = .ok (.if_icmp .lt 12, 3) := by decide +kernel
theorem dX10_isWithin_5 : decode cX10_isWithin 5 = .ok (.iload_n 0, 1) := by decide +kernel
theorem dX10_isWithin_6 : decode cX10_isWithin 6 = .ok (.iload_n 2, 1) := by decide +kernel
theorem dX10_isWithin_7 : decode cX10_isWithin 7 = .ok (.if_icmp .gt 7, 3) := by decide +kernel
theorem dX10_isWithin_10 : decode cX10_isWithin 10 = .ok (.iconst 1, 1) := by decide +kernel
theorem dX10_isWithin_11 : decode cX10_isWithin 11 = .ok (.goto 4, 3) := by decide +kernel
theorem dX10_isWithin_14 : decode cX10_isWithin 14 = .ok (.iconst 0, 1) := by decide +kernel
theorem dX10_isWithin_15 : decode cX10_isWithin 15 = .ok (.ireturn, 1) := by decide +kernel
theorem dX10_isCell_0 : decode cX10_isCell 0 = .ok (.iload_n 0, 1) := by decide +kernel
theorem dX10_isCell_1 : decode cX10_isCell 1 = .ok (.iconst 0, 1) := by decide +kernel
theorem dX10_isCell_2 : decode cX10_isCell 2 = .ok (.sipush 191, 3) := by decide +kernel
theorem dX10_isCell_5 : decode cX10_isCell 5 = .ok (.invokestatic 81, 3) := by decide +kernel
theorem dX10_isCell_8 : decode cX10_isCell 8 = .ok (.ireturn, 1) := by decide +kernel
theorem dX10_isRow_0 : decode cX10_isRow 0 = .ok (.iload_n 0, 1) := by decide +kernel
theorem dX10_isRow_1 : decode cX10_isRow 1 = .ok (.iconst 0, 1) := by decide +kernel
theorem dX10_isRow_2 : decode cX10_isRow 2 = .ok (.bipush 15, 2) := by decide +kernel
theorem dX10_isRow_4 : decode cX10_isRow 4 = .ok (.invokestatic 81, 3) := by decide +kernel
theorem dX10_isRow_7 : decode cX10_isRow 7 = .ok (.ireturn, 1) := by decide +kernel
theorem dX10_isColumn_0 : decode cX10_isColumn 0 = .ok (.iload_n 0, 1) := by decide +kernel
theorem dX10_isColumn_1 : decode cX10_isColumn 1 = .ok (.iconst 0, 1) := by decide +kernel
theorem dX10_isColumn_2 : decode cX10_isColumn 2 = .ok (.bipush 11, 2) := by decide +kernel
theorem dX10_isColumn_4 : decode cX10_isColumn 4 = .ok (.invokestatic 81, 3) := by decide +kernel
theorem dX10_isColumn_7 : decode cX10_isColumn 7 = .ok (.ireturn, 1) := by decide +kernel
theorem dX10_isKind_0 : decode cX10_isKind 0 = .ok (.iload_n 0, 1) := by decide +kernel
theorem dX10_isKind_1 : decode cX10_isKind 1 = .ok (.iconst 0, 1) := by decide +kernel
theorem dX10_isKind_2 : decode cX10_isKind 2 = .ok (.bipush 7, 2) := by decide +kernel
theorem dX10_isKind_4 : decode cX10_isKind 4 = .ok (.invokestatic 81, 3) := by decide +kernel
theorem dX10_isKind_7 : decode cX10_isKind 7 = .ok (.ireturn, 1) := by decide +kernel
theorem dX10_isWater_0 : decode cX10_isWater 0 = .ok (.iload_n 0, 1) := by decide +kernel
theorem dX10_isWater_1 : decode cX10_isWater 1 = .ok (.iconst 1, 1) := by decide +kernel
theorem dX10_isWater_2 : decode cX10_isWater 2 = .ok (.bipush 99, 2) := by decide +kernel
theorem dX10_isWater_4 : decode cX10_isWater 4 = .ok (.invokestatic 81, 3) := by decide +kernel
theorem dX10_isWater_7 : decode cX10_isWater 7 = .ok (.ireturn, 1) := by decide +kernel
theorem dX10_isStart_0 : decode cX10_isStart 0 = .ok (.iload_n 0, 1) := by decide +kernel
theorem dX10_isStart_1 : decode cX10_isStart 1 = .ok (.invokestatic 242, 3) := by decide +kernel
theorem dX10_isStart_4 : decode cX10_isStart 4 = .ok (.ifCond .eq 21, 3) := by decide +kernel
theorem dX10_isStart_7 : decode cX10_isStart 7 = .ok (.iload_n 1, 1) := by decide +kernel
theorem dX10_isStart_8 : decode cX10_isStart 8 = .ok (.invokestatic 139, 3) := by decide +kernel
theorem dX10_isStart_11 : decode cX10_isStart 11 = .ok (.ifCond .eq 14, 3) := by decide +kernel
theorem dX10_isStart_14 : decode cX10_isStart 14 = .ok (.iload_n 2, 1) := by decide +kernel
theorem dX10_isStart_15 : decode cX10_isStart 15 = .ok (.invokestatic 181, 3) := by decide +kernel
theorem dX10_isStart_18 : decode cX10_isStart 18 = .ok (.ifCond .eq 7, 3) := by decide +kernel
theorem dX10_isStart_21 : decode cX10_isStart 21 = .ok (.iconst 1, 1) := by decide +kernel
theorem dX10_isStart_22 : decode cX10_isStart 22 = .ok (.goto 4, 3) := by decide +kernel
theorem dX10_isStart_25 : decode cX10_isStart 25 = .ok (.iconst 0, 1) := by decide +kernel
theorem dX10_isStart_26 : decode cX10_isStart 26 = .ok (.ireturn, 1) := by decide +kernel
theorem dX10_isDropNumber_0 : decode cX10_isDropNumber 0 = .ok (.iload_n 0, 1) := by decide +kernel
theorem dX10_isDropNumber_1 : decode cX10_isDropNumber 1 = .ok (.iconst 0, 1) := by decide +kernel
theorem dX10_isDropNumber_2 : decode cX10_isDropNumber 2 = .ok (.bipush 7, 2) := by decide +kernel
theorem dX10_isDropNumber_4 : decode cX10_isDropNumber 4 = .ok (.invokestatic 81, 3) := by decide +kernel
theorem dX10_isDropNumber_7 : decode cX10_isDropNumber 7 = .ok (.ireturn, 1) := by decide +kernel
theorem dX10_isSpot_0 : decode cX10_isSpot 0 = .ok (.iload_n 0, 1) := by decide +kernel
theorem dX10_isSpot_1 : decode cX10_isSpot 1 = .ok (.iconst 0, 1) := by decide +kernel
theorem dX10_isSpot_2 : decode cX10_isSpot 2 = .ok (.bipush 9, 2) := by decide +kernel
theorem dX10_isSpot_4 : decode cX10_isSpot 4 = .ok (.invokestatic 81, 3) := by decide +kernel
theorem dX10_isSpot_7 : decode cX10_isSpot 7 = .ok (.ireturn, 1) := by decide +kernel
theorem dX10_isSheet_0 : decode cX10_isSheet 0 = .ok (.iload_n 0, 1) := by decide +kernel
theorem dX10_isSheet_1 : decode cX10_isSheet 1 = .ok (.iconst 0, 1) := by decide +kernel
theorem dX10_isSheet_2 : decode cX10_isSheet 2 = .ok (.iconst 3, 1) := by decide +kernel
theorem dX10_isSheet_3 : decode cX10_isSheet 3 = .ok (.invokestatic 81, 3) := by decide +kernel
theorem dX10_isSheet_6 : decode cX10_isSheet 6 = .ok (.ireturn, 1) := by decide +kernel
theorem dX10_isWidth_0 : decode cX10_isWidth 0 = .ok (.iload_n 0, 1) := by decide +kernel
theorem dX10_isWidth_1 : decode cX10_isWidth 1 = .ok (.ifCond .eq 21, 3) := by decide +kernel
theorem dX10_isWidth_4 : decode cX10_isWidth 4 = .ok (.iload_n 0, 1) := by decide +kernel
theorem dX10_isWidth_5 : decode cX10_isWidth 5 = .ok (.bipush 8, 2) := by decide +kernel
theorem dX10_isWidth_7 : decode cX10_isWidth 7 = .ok (.if_icmp .eq 15, 3) := by decide +kernel
theorem dX10_isWidth_10 : decode cX10_isWidth 10 = .ok (.iload_n 0, 1) := by decide +kernel
theorem dX10_isWidth_11 : decode cX10_isWidth 11 = .ok (.bipush 16, 2) := by decide +kernel
theorem dX10_isWidth_13 : decode cX10_isWidth 13 = .ok (.if_icmp .eq 9, 3) := by decide +kernel
theorem dX10_isWidth_16 : decode cX10_isWidth 16 = .ok (.iload_n 0, 1) := by decide +kernel
theorem dX10_isWidth_17 : decode cX10_isWidth 17 = .ok (.bipush 32, 2) := by decide +kernel
theorem dX10_isWidth_19 : decode cX10_isWidth 19 = .ok (.if_icmp .ne 7, 3) := by decide +kernel
theorem dX10_isWidth_22 : decode cX10_isWidth 22 = .ok (.iconst 1, 1) := by decide +kernel
theorem dX10_isWidth_23 : decode cX10_isWidth 23 = .ok (.goto 4, 3) := by decide +kernel
theorem dX10_isWidth_26 : decode cX10_isWidth 26 = .ok (.iconst 0, 1) := by decide +kernel
theorem dX10_isWidth_27 : decode cX10_isWidth 27 = .ok (.ireturn, 1) := by decide +kernel
theorem dX10_isSetting_0 : decode cX10_isSetting 0 = .ok (.iload_n 0, 1) := by decide +kernel
theorem dX10_isSetting_1 : decode cX10_isSetting 1 = .ok (.tableswitch 52 0 2 #[27, 35, 44], 27) := by decide +kernel
theorem dX10_isSetting_28 : decode cX10_isSetting 28 = .ok (.iload_n 1, 1) := by decide +kernel
theorem dX10_isSetting_29 : decode cX10_isSetting 29 = .ok (.iconst 0, 1) := by decide +kernel
theorem dX10_isSetting_30 : decode cX10_isSetting 30 = .ok (.bipush 9, 2) := by decide +kernel
theorem dX10_isSetting_32 : decode cX10_isSetting 32 = .ok (.invokestatic 81, 3) := by decide +kernel
theorem dX10_isSetting_35 : decode cX10_isSetting 35 = .ok (.ireturn, 1) := by decide +kernel
theorem dX10_isSetting_36 : decode cX10_isSetting 36 = .ok (.iload_n 1, 1) := by decide +kernel
theorem dX10_isSetting_37 : decode cX10_isSetting 37 = .ok (.bipush (-20), 2) := by decide +kernel
theorem dX10_isSetting_39 : decode cX10_isSetting 39 = .ok (.bipush 20, 2) := by decide +kernel
theorem dX10_isSetting_41 : decode cX10_isSetting 41 = .ok (.invokestatic 81, 3) := by decide +kernel
theorem dX10_isSetting_44 : decode cX10_isSetting 44 = .ok (.ireturn, 1) := by decide +kernel
theorem dX10_isSetting_45 : decode cX10_isSetting 45 = .ok (.iload_n 1, 1) := by decide +kernel
theorem dX10_isSetting_46 : decode cX10_isSetting 46 = .ok (.iconst 0, 1) := by decide +kernel
theorem dX10_isSetting_47 : decode cX10_isSetting 47 = .ok (.bipush 9, 2) := by decide +kernel
theorem dX10_isSetting_49 : decode cX10_isSetting 49 = .ok (.invokestatic 81, 3) := by decide +kernel
theorem dX10_isSetting_52 : decode cX10_isSetting 52 = .ok (.ireturn, 1) := by decide +kernel
theorem dX10_isSetting_53 : decode cX10_isSetting 53 = .ok (.iconst 0, 1) := by decide +kernel
theorem dX10_isSetting_54 : decode cX10_isSetting 54 = .ok (.ireturn, 1) := by decide +kernel
theorem dX10_isProgram_0 : decode cX10_isProgram 0 = .ok (.iload_n 1, 1) := by decide +kernel
theorem dX10_isProgram_1 : decode cX10_isProgram 1 = .ok (.iconst 0, 1) := by decide +kernel
theorem dX10_isProgram_2 : decode cX10_isProgram 2 = .ok (.aload_n 0, 1) := by decide +kernel
theorem dX10_isProgram_3 : decode cX10_isProgram 3 = .ok (.getfield 19, 3) := by decide +kernel
theorem dX10_isProgram_6 : decode cX10_isProgram 6 = .ok (.getfield 200, 3) := by decide +kernel
theorem dX10_isProgram_9 : decode cX10_isProgram 9 = .ok (.getfield 204, 3) := by decide +kernel
theorem dX10_isProgram_12 : decode cX10_isProgram 12 = .ok (.iconst 1, 1) := by decide +kernel
theorem dX10_isProgram_13 : decode cX10_isProgram 13 = .ok (.isub, 1) := by decide +kernel
theorem dX10_isProgram_14 : decode cX10_isProgram 14 = .ok (.invokestatic 81, 3) := by decide +kernel
theorem dX10_isProgram_17 : decode cX10_isProgram 17 = .ok (.ireturn, 1) := by decide +kernel
theorem dX10_columnOf_0 : decode cX10_columnOf 0 = .ok (.iload_n 0, 1) := by decide +kernel
theorem dX10_columnOf_1 : decode cX10_columnOf 1 = .ok (.bipush 12, 2) := by decide +kernel
theorem dX10_columnOf_3 : decode cX10_columnOf 3 = .ok (.irem, 1) := by decide +kernel
theorem dX10_columnOf_4 : decode cX10_columnOf 4 = .ok (.ireturn, 1) := by decide +kernel
theorem dX10_isOnLastRow_0 : decode cX10_isOnLastRow 0 = .ok (.iload_n 0, 1) := by decide +kernel
theorem dX10_isOnLastRow_1 : decode cX10_isOnLastRow 1 = .ok (.sipush 180, 3) := by decide +kernel
theorem dX10_isOnLastRow_4 : decode cX10_isOnLastRow 4 = .ok (.if_icmp .lt 7, 3) := by decide +kernel
theorem dX10_isOnLastRow_7 : decode cX10_isOnLastRow 7 = .ok (.iconst 1, 1) := by decide +kernel
theorem dX10_isOnLastRow_8 : decode cX10_isOnLastRow 8 = .ok (.goto 4, 3) := by decide +kernel
theorem dX10_isOnLastRow_11 : decode cX10_isOnLastRow 11 = .ok (.iconst 0, 1) := by decide +kernel
theorem dX10_isOnLastRow_12 : decode cX10_isOnLastRow 12 = .ok (.ireturn, 1) := by decide +kernel
theorem dX10_besideOf_0 : decode cX10_besideOf 0 = .ok (.iload_n 0, 1) := by decide +kernel
theorem dX10_besideOf_1 : decode cX10_besideOf 1 = .ok (.bipush 12, 2) := by decide +kernel
theorem dX10_besideOf_3 : decode cX10_besideOf 3 = .ok (.irem, 1) := by decide +kernel
theorem dX10_besideOf_4 : decode cX10_besideOf 4 = .ok (.iload_n 1, 1) := by decide +kernel
theorem dX10_besideOf_5 : decode cX10_besideOf 5 = .ok (.iadd, 1) := by decide +kernel
theorem dX10_besideOf_6 : decode cX10_besideOf 6 = .ok (.istore_n 2, 1) := by decide +kernel
theorem dX10_besideOf_7 : decode cX10_besideOf 7 = .ok (.iload_n 2, 1) := by decide +kernel
theorem dX10_besideOf_8 : decode cX10_besideOf 8 = .ok (.ifCond .lt 15, 3) := by decide +kernel
theorem dX10_besideOf_11 : decode cX10_besideOf 11 = .ok (.iload_n 2, 1) := by decide +kernel
theorem dX10_besideOf_12 : decode cX10_besideOf 12 = .ok (.bipush 12, 2) := by decide +kernel
theorem dX10_besideOf_14 : decode cX10_besideOf 14 = .ok (.if_icmp .ge 9, 3) := by decide +kernel
theorem dX10_besideOf_17 : decode cX10_besideOf 17 = .ok (.iload_n 0, 1) := by decide +kernel
theorem dX10_besideOf_18 : decode cX10_besideOf 18 = .ok (.iload_n 1, 1) := by decide +kernel
theorem dX10_besideOf_19 : decode cX10_besideOf 19 = .ok (.iadd, 1) := by decide +kernel
theorem dX10_besideOf_20 : decode cX10_besideOf 20 = .ok (.goto 5, 3) := by decide +kernel
theorem dX10_besideOf_23 : decode cX10_besideOf 23 = .ok (.bipush (-2), 2) := by decide +kernel
theorem dX10_besideOf_25 : decode cX10_besideOf 25 = .ok (.ireturn, 1) := by decide +kernel
theorem dX10_belowOf_0 : decode cX10_belowOf 0 = .ok (.iload_n 0, 1) := by decide +kernel
theorem dX10_belowOf_1 : decode cX10_belowOf 1 = .ok (.bipush 12, 2) := by decide +kernel
theorem dX10_belowOf_3 : decode cX10_belowOf 3 = .ok (.iadd, 1) := by decide +kernel
theorem dX10_belowOf_4 : decode cX10_belowOf 4 = .ok (.istore_n 2, 1) := by decide +kernel
theorem dX10_belowOf_5 : decode cX10_belowOf 5 = .ok (.iload_n 1, 1) := by decide +kernel
theorem dX10_belowOf_6 : decode cX10_belowOf 6 = .ok (.lookupswitch 34 #[(0, 26), (1, 28)], 26) := by decide +kernel
theorem dX10_belowOf_32 : decode cX10_belowOf 32 = .ok (.iload_n 2, 1) := by decide +kernel
theorem dX10_belowOf_33 : decode cX10_belowOf 33 = .ok (.ireturn, 1) := by decide +kernel
theorem dX10_belowOf_34 : decode cX10_belowOf 34 = .ok (.iload_n 2, 1) := by decide +kernel
theorem dX10_belowOf_35 : decode cX10_belowOf 35 = .ok (.iconst (-1), 1) := by decide +kernel
theorem dX10_belowOf_36 : decode cX10_belowOf 36 = .ok (.invokestatic 330, 3) := by decide +kernel
theorem dX10_belowOf_39 : decode cX10_belowOf 39 = .ok (.ireturn, 1) := by decide +kernel
theorem dX10_belowOf_40 : decode cX10_belowOf 40 = .ok (.iload_n 2, 1) := by decide +kernel
theorem dX10_belowOf_41 : decode cX10_belowOf 41 = .ok (.iconst 1, 1) := by decide +kernel
theorem dX10_belowOf_42 : decode cX10_belowOf 42 = .ok (.invokestatic 330, 3) := by decide +kernel
theorem dX10_belowOf_45 : decode cX10_belowOf 45 = .ok (.ireturn, 1) := by decide +kernel
theorem dX10_isUnder_0 : decode cX10_isUnder 0 = .ok (.iload_n 0, 1) := by decide +kernel
theorem dX10_isUnder_1 : decode cX10_isUnder 1 = .ok (.istore_n 2, 1) := by decide +kernel
theorem dX10_isUnder_2 : decode cX10_isUnder 2 = .ok (.iconst 0, 1) := by decide +kernel
theorem dX10_isUnder_3 : decode cX10_isUnder 3 = .ok (.istore_n 3, 1) := by decide +kernel
theorem dX10_isUnder_4 : decode cX10_isUnder 4 = .ok (.iload_n 3, 1) := by decide +kernel
theorem dX10_isUnder_5 : decode cX10_isUnder 5 = .ok (.bipush 8, 2) := by decide +kernel
theorem dX10_isUnder_7 : decode cX10_isUnder 7 = .ok (.if_icmp .ge 29, 3) := by decide +kernel
theorem dX10_isUnder_10 : decode cX10_isUnder 10 = .ok (.iload_n 2, 1) := by decide +kernel
theorem dX10_isUnder_11 : decode cX10_isUnder 11 = .ok (.invokestatic 242, 3) := by decide +kernel
theorem dX10_isUnder_14 : decode cX10_isUnder 14 = .ok (.ifCond .eq 22, 3) := by decide +kernel
theorem dX10_isUnder_17 : decode cX10_isUnder 17 = .ok (.iload_n 2, 1) := by decide +kernel
theorem dX10_isUnder_18 : decode cX10_isUnder 18 = .ok (.iload_n 1, 1) := by decide +kernel
theorem dX10_isUnder_19 : decode cX10_isUnder 19 = .ok (.if_icmp .ne 5, 3) := by decide +kernel
theorem dX10_isUnder_22 : decode cX10_isUnder 22 = .ok (.iconst 1, 1) := by decide +kernel
theorem dX10_isUnder_23 : decode cX10_isUnder 23 = .ok (.ireturn, 1) := by decide +kernel
theorem dX10_isUnder_24 : decode cX10_isUnder 24 = .ok (.getstatic 334, 3) := by decide +kernel
theorem dX10_isUnder_27 : decode cX10_isUnder 27 = .ok (.iload_n 2, 1) := by decide +kernel
theorem dX10_isUnder_28 : decode cX10_isUnder 28 = .ok (.iaload, 1) := by decide +kernel
theorem dX10_isUnder_29 : decode cX10_isUnder 29 = .ok (.istore_n 2, 1) := by decide +kernel
theorem dX10_isUnder_30 : decode cX10_isUnder 30 = .ok (.iinc 3 1, 3) := by decide +kernel
theorem dX10_isUnder_33 : decode cX10_isUnder 33 = .ok (.goto (-29), 3) := by decide +kernel
theorem dX10_isUnder_36 : decode cX10_isUnder 36 = .ok (.iconst 0, 1) := by decide +kernel
theorem dX10_isUnder_37 : decode cX10_isUnder 37 = .ok (.ireturn, 1) := by decide +kernel
theorem dX10_countAbove0_0 : decode cX10_countAbove0 0 = .ok (.iconst 0, 1) := by decide +kernel
theorem dX10_countAbove0_1 : decode cX10_countAbove0 1 = .ok (.istore_n 1, 1) := by decide +kernel
theorem dX10_countAbove0_2 : decode cX10_countAbove0 2 = .ok (.aload_n 0, 1) := by decide +kernel
theorem dX10_countAbove0_3 : decode cX10_countAbove0 3 = .ok (.astore_n 2, 1) := by decide +kernel
theorem dX10_countAbove0_4 : decode cX10_countAbove0 4 = .ok (.aload_n 2, 1) := by decide +kernel
theorem dX10_countAbove0_5 : decode cX10_countAbove0 5 = .ok (.arraylength, 1) := by decide +kernel
theorem dX10_countAbove0_6 : decode cX10_countAbove0 6 = .ok (.istore_n 3, 1) := by decide +kernel
theorem dX10_countAbove0_7 : decode cX10_countAbove0 7 = .ok (.iconst 0, 1) := by decide +kernel
theorem dX10_countAbove0_8 : decode cX10_countAbove0 8 = .ok (.istore 4, 2) := by decide +kernel
theorem dX10_countAbove0_10 : decode cX10_countAbove0 10 = .ok (.iload 4, 2) := by decide +kernel
theorem dX10_countAbove0_12 : decode cX10_countAbove0 12 = .ok (.iload_n 3, 1) := by decide +kernel
theorem dX10_countAbove0_13 : decode cX10_countAbove0 13 = .ok (.if_icmp .ge 23, 3) := by decide +kernel
theorem dX10_countAbove0_16 : decode cX10_countAbove0 16 = .ok (.aload_n 2, 1) := by decide +kernel
theorem dX10_countAbove0_17 : decode cX10_countAbove0 17 = .ok (.iload 4, 2) := by decide +kernel
theorem dX10_countAbove0_19 : decode cX10_countAbove0 19 = .ok (.iaload, 1) := by decide +kernel
theorem dX10_countAbove0_20 : decode cX10_countAbove0 20 = .ok (.istore 5, 2) := by decide +kernel
theorem dX10_countAbove0_22 : decode cX10_countAbove0 22 = .ok (.iload 5, 2) := by decide +kernel
theorem dX10_countAbove0_24 : decode cX10_countAbove0 24 = .ok (.ifCond .le 6, 3) := by decide +kernel
theorem dX10_countAbove0_27 : decode cX10_countAbove0 27 = .ok (.iinc 1 1, 3) := by decide +kernel
theorem dX10_countAbove0_30 : decode cX10_countAbove0 30 = .ok (.iinc 4 1, 3) := by decide +kernel
theorem dX10_countAbove0_33 : decode cX10_countAbove0 33 = .ok (.goto (-23), 3) := by decide +kernel
theorem dX10_countAbove0_36 : decode cX10_countAbove0 36 = .ok (.iload_n 1, 1) := by decide +kernel
theorem dX10_countAbove0_37 : decode cX10_countAbove0 37 = .ok (.ireturn, 1) := by decide +kernel
theorem dX10_sumOf_0 : decode cX10_sumOf 0 = .ok (.iconst 0, 1) := by decide +kernel
theorem dX10_sumOf_1 : decode cX10_sumOf 1 = .ok (.istore_n 1, 1) := by decide +kernel
theorem dX10_sumOf_2 : decode cX10_sumOf 2 = .ok (.aload_n 0, 1) := by decide +kernel
theorem dX10_sumOf_3 : decode cX10_sumOf 3 = .ok (.astore_n 2, 1) := by decide +kernel
theorem dX10_sumOf_4 : decode cX10_sumOf 4 = .ok (.aload_n 2, 1) := by decide +kernel
theorem dX10_sumOf_5 : decode cX10_sumOf 5 = .ok (.arraylength, 1) := by decide +kernel
theorem dX10_sumOf_6 : decode cX10_sumOf 6 = .ok (.istore_n 3, 1) := by decide +kernel
theorem dX10_sumOf_7 : decode cX10_sumOf 7 = .ok (.iconst 0, 1) := by decide +kernel
theorem dX10_sumOf_8 : decode cX10_sumOf 8 = .ok (.istore 4, 2) := by decide +kernel
theorem dX10_sumOf_10 : decode cX10_sumOf 10 = .ok (.iload 4, 2) := by decide +kernel
theorem dX10_sumOf_12 : decode cX10_sumOf 12 = .ok (.iload_n 3, 1) := by decide +kernel
theorem dX10_sumOf_13 : decode cX10_sumOf 13 = .ok (.if_icmp .ge 20, 3) := by decide +kernel
theorem dX10_sumOf_16 : decode cX10_sumOf 16 = .ok (.aload_n 2, 1) := by decide +kernel
theorem dX10_sumOf_17 : decode cX10_sumOf 17 = .ok (.iload 4, 2) := by decide +kernel
theorem dX10_sumOf_19 : decode cX10_sumOf 19 = .ok (.iaload, 1) := by decide +kernel
theorem dX10_sumOf_20 : decode cX10_sumOf 20 = .ok (.istore 5, 2) := by decide +kernel
theorem dX10_sumOf_22 : decode cX10_sumOf 22 = .ok (.iload_n 1, 1) := by decide +kernel
theorem dX10_sumOf_23 : decode cX10_sumOf 23 = .ok (.iload 5, 2) := by decide +kernel
theorem dX10_sumOf_25 : decode cX10_sumOf 25 = .ok (.iadd, 1) := by decide +kernel
theorem dX10_sumOf_26 : decode cX10_sumOf 26 = .ok (.istore_n 1, 1) := by decide +kernel
theorem dX10_sumOf_27 : decode cX10_sumOf 27 = .ok (.iinc 4 1, 3) := by decide +kernel
theorem dX10_sumOf_30 : decode cX10_sumOf 30 = .ok (.goto (-20), 3) := by decide +kernel
theorem dX10_sumOf_33 : decode cX10_sumOf 33 = .ok (.iload_n 1, 1) := by decide +kernel
theorem dX10_sumOf_34 : decode cX10_sumOf 34 = .ok (.ireturn, 1) := by decide +kernel
theorem dX10_copyAll_0 : decode cX10_copyAll 0 = .ok (.aload_n 0, 1) := by decide +kernel
theorem dX10_copyAll_1 : decode cX10_copyAll 1 = .ok (.iconst 0, 1) := by decide +kernel
theorem dX10_copyAll_2 : decode cX10_copyAll 2 = .ok (.aload_n 1, 1) := by decide +kernel
theorem dX10_copyAll_3 : decode cX10_copyAll 3 = .ok (.iconst 0, 1) := by decide +kernel
theorem dX10_copyAll_4 : decode cX10_copyAll 4 = .ok (.aload_n 0, 1) := by decide +kernel
theorem dX10_copyAll_5 : decode cX10_copyAll 5 = .ok (.arraylength, 1) := by decide +kernel
theorem dX10_copyAll_6 : decode cX10_copyAll 6 = .ok (.aload_n 1, 1) := by decide +kernel
theorem dX10_copyAll_7 : decode cX10_copyAll 7 = .ok (.arraylength, 1) := by decide +kernel
theorem dX10_copyAll_8 : decode cX10_copyAll 8 = .ok (.invokestatic 337, 3) := by decide +kernel
theorem dX10_copyAll_11 : decode cX10_copyAll 11 = .ok (.invokestatic 312, 3) := by decide +kernel
theorem dX10_copyAll_14 : decode cX10_copyAll 14 = .ok (.return_, 1) := by decide +kernel
theorem dX11_init_0 : decode cX11_init 0 = .ok (.aload_n 0, 1) := by decide +kernel
theorem dX11_init_1 : decode cX11_init 1 = .ok (.invokespecial 3, 3) := by decide +kernel
theorem dX11_init_4 : decode cX11_init 4 = .ok (.aload_n 0, 1) := by decide +kernel
theorem dX11_init_5 : decode cX11_init 5 = .ok (.sipush 666, 3) := by decide +kernel
theorem dX11_init_8 : decode cX11_init 8 = .ok (.newarray .int, 2) := by decide +kernel
theorem dX11_init_10 : decode cX11_init 10 = .ok (.putfield 9, 3) := by decide +kernel
theorem dX11_init_13 : decode cX11_init 13 = .ok (.aload_n 0, 1) := by decide +kernel
theorem dX11_init_14 : decode cX11_init 14 = .ok (.sipush 666, 3) := by decide +kernel
theorem dX11_init_17 : decode cX11_init 17 = .ok (.newarray .int, 2) := by decide +kernel
theorem dX11_init_19 : decode cX11_init 19 = .ok (.putfield 13, 3) := by decide +kernel
theorem dX11_init_22 : decode cX11_init 22 = .ok (.aload_n 0, 1) := by decide +kernel
theorem dX11_init_23 : decode cX11_init 23 = .ok (.bipush 7, 2) := by decide +kernel
theorem dX11_init_25 : decode cX11_init 25 = .ok (.newarray .int, 2) := by decide +kernel
theorem dX11_init_27 : decode cX11_init 27 = .ok (.putfield 16, 3) := by decide +kernel
theorem dX11_init_30 : decode cX11_init 30 = .ok (.aload_n 0, 1) := by decide +kernel
theorem dX11_init_31 : decode cX11_init 31 = .ok (.bipush 100, 2) := by decide +kernel
theorem dX11_init_33 : decode cX11_init 33 = .ok (.newarray .int, 2) := by decide +kernel
theorem dX11_init_35 : decode cX11_init 35 = .ok (.putfield 19, 3) := by decide +kernel
theorem dX11_init_38 : decode cX11_init 38 = .ok (.aload_n 0, 1) := by decide +kernel
theorem dX11_init_39 : decode cX11_init 39 = .ok (.bipush 65, 2) := by decide +kernel
theorem dX11_init_41 : decode cX11_init 41 = .ok (.newarray .int, 2) := by decide +kernel
theorem dX11_init_43 : decode cX11_init 43 = .ok (.putfield 22, 3) := by decide +kernel
theorem dX11_init_46 : decode cX11_init 46 = .ok (.aload_n 0, 1) := by decide +kernel
theorem dX11_init_47 : decode cX11_init 47 = .ok (.bipush 65, 2) := by decide +kernel
theorem dX11_init_49 : decode cX11_init 49 = .ok (.newarray .int, 2) := by decide +kernel
theorem dX11_init_51 : decode cX11_init 51 = .ok (.putfield 25, 3) := by decide +kernel
theorem dX11_init_54 : decode cX11_init 54 = .ok (.aload_n 0, 1) := by decide +kernel
theorem dX11_init_55 : decode cX11_init 55 = .ok (.sipush 192, 3) := by decide +kernel
theorem dX11_init_58 : decode cX11_init 58 = .ok (.newarray .int, 2) := by decide +kernel
theorem dX11_init_60 : decode cX11_init 60 = .ok (.putfield 28, 3) := by decide +kernel
theorem dX11_init_63 : decode cX11_init 63 = .ok (.aload_n 0, 1) := by decide +kernel
theorem dX11_init_64 : decode cX11_init 64 = .ok (.iconst 4, 1) := by decide +kernel
theorem dX11_init_65 : decode cX11_init 65 = .ok (.newarray .int, 2) := by decide +kernel
theorem dX11_init_67 : decode cX11_init 67 = .ok (.putfield 31, 3) := by decide +kernel
theorem dX11_init_70 : decode cX11_init 70 = .ok (.aload_n 0, 1) := by decide +kernel
theorem dX11_init_71 : decode cX11_init 71 = .ok (.iconst 4, 1) := by decide +kernel
theorem dX11_init_72 : decode cX11_init 72 = .ok (.newarray .int, 2) := by decide +kernel
theorem dX11_init_74 : decode cX11_init 74 = .ok (.putfield 34, 3) := by decide +kernel
theorem dX11_init_77 : decode cX11_init 77 = .ok (.aload_n 0, 1) := by decide +kernel
theorem dX11_init_78 : decode cX11_init 78 = .ok (.sipush 160, 3) := by decide +kernel
theorem dX11_init_81 : decode cX11_init 81 = .ok (.newarray .int, 2) := by decide +kernel
theorem dX11_init_83 : decode cX11_init 83 = .ok (.putfield 37, 3) := by decide +kernel
theorem dX11_init_86 : decode cX11_init 86 = .ok (.aload_n 0, 1) := by decide +kernel
theorem dX11_init_87 : decode cX11_init 87 = .ok (.getfield 9, 3) := by decide +kernel
theorem dX11_init_90 : decode cX11_init 90 = .ok (.iconst 0, 1) := by decide +kernel
theorem dX11_init_91 : decode cX11_init 91 = .ok (.iconst 3, 1) := by decide +kernel
theorem dX11_init_92 : decode cX11_init 92 = .ok (.iastore, 1) := by decide +kernel
theorem dX11_init_93 : decode cX11_init 93 = .ok (.aload_n 0, 1) := by decide +kernel
theorem dX11_init_94 : decode cX11_init 94 = .ok (.getfield 9, 3) := by decide +kernel
theorem dX11_init_97 : decode cX11_init 97 = .ok (.iconst 2, 1) := by decide +kernel
theorem dX11_init_98 : decode cX11_init 98 = .ok (.iconst 1, 1) := by decide +kernel
theorem dX11_init_99 : decode cX11_init 99 = .ok (.iastore, 1) := by decide +kernel
theorem dX11_init_100 : decode cX11_init 100 = .ok (.aload_n 0, 1) := by decide +kernel
theorem dX11_init_101 : decode cX11_init 101 = .ok (.getfield 9, 3) := by decide +kernel
theorem dX11_init_104 : decode cX11_init 104 = .ok (.iconst 3, 1) := by decide +kernel
theorem dX11_init_105 : decode cX11_init 105 = .ok (.iconst 1, 1) := by decide +kernel
theorem dX11_init_106 : decode cX11_init 106 = .ok (.iastore, 1) := by decide +kernel
theorem dX11_init_107 : decode cX11_init 107 = .ok (.iconst 0, 1) := by decide +kernel
theorem dX11_init_108 : decode cX11_init 108 = .ok (.istore_n 1, 1) := by decide +kernel
theorem dX11_init_109 : decode cX11_init 109 = .ok (.iload_n 1, 1) := by decide +kernel
theorem dX11_init_110 : decode cX11_init 110 = .ok (.bipush 8, 2) := by decide +kernel
theorem dX11_init_112 : decode cX11_init 112 = .ok (.if_icmp .ge 22, 3) := by decide +kernel
theorem dX11_init_115 : decode cX11_init 115 = .ok (.aload_n 0, 1) := by decide +kernel
theorem dX11_init_116 : decode cX11_init 116 = .ok (.getfield 9, 3) := by decide +kernel
theorem dX11_init_119 : decode cX11_init 119 = .ok (.sipush 402, 3) := by decide +kernel
theorem dX11_init_122 : decode cX11_init 122 = .ok (.iconst 4, 1) := by decide +kernel
theorem dX11_init_123 : decode cX11_init 123 = .ok (.iload_n 1, 1) := by decide +kernel
theorem dX11_init_124 : decode cX11_init 124 = .ok (.imul, 1) := by decide +kernel
theorem dX11_init_125 : decode cX11_init 125 = .ok (.iadd, 1) := by decide +kernel
theorem dX11_init_126 : decode cX11_init 126 = .ok (.iconst (-1), 1) := by decide +kernel
theorem dX11_init_127 : decode cX11_init 127 = .ok (.iastore, 1) := by decide +kernel
theorem dX11_init_128 : decode cX11_init 128 = .ok (.iinc 1 1, 3) := by decide +kernel
theorem dX11_init_131 : decode cX11_init 131 = .ok (.goto (-22), 3) := by decide +kernel
theorem dX11_init_134 : decode cX11_init 134 = .ok (.iconst 0, 1) := by decide +kernel
theorem dX11_init_135 : decode cX11_init 135 = .ok (.istore_n 1, 1) := by decide +kernel
theorem dX11_init_136 : decode cX11_init 136 = .ok (.iload_n 1, 1) := by decide +kernel
theorem dX11_init_137 : decode cX11_init 137 = .ok (.bipush 10, 2) := by decide +kernel
theorem dX11_init_139 : decode cX11_init 139 = .ok (.if_icmp .ge 20, 3) := by decide +kernel
theorem dX11_init_142 : decode cX11_init 142 = .ok (.aload_n 0, 1) := by decide +kernel
theorem dX11_init_143 : decode cX11_init 143 = .ok (.getfield 9, 3) := by decide +kernel
theorem dX11_init_146 : decode cX11_init 146 = .ok (.sipush 656, 3) := by decide +kernel
theorem dX11_init_149 : decode cX11_init 149 = .ok (.iload_n 1, 1) := by decide +kernel
theorem dX11_init_150 : decode cX11_init 150 = .ok (.iadd, 1) := by decide +kernel
theorem dX11_init_151 : decode cX11_init 151 = .ok (.iconst (-1), 1) := by decide +kernel
theorem dX11_init_152 : decode cX11_init 152 = .ok (.iastore, 1) := by decide +kernel
theorem dX11_init_153 : decode cX11_init 153 = .ok (.iinc 1 1, 3) := by decide +kernel
theorem dX11_init_156 : decode cX11_init 156 = .ok (.goto (-20), 3) := by decide +kernel
theorem dX11_init_159 : decode cX11_init 159 = .ok (.return_, 1) := by decide +kernel
theorem dX11_finds_0 : decode cX11_finds 0 = .ok (.aload_n 0, 1) := by decide +kernel
theorem dX11_finds_1 : decode cX11_finds 1 = .ok (.getfield 16, 3) := by decide +kernel
theorem dX11_finds_4 : decode cX11_finds 4 = .ok (.ldc 40, 2) := by decide +kernel
theorem dX11_finds_6 : decode cX11_finds 6 = .ok (.iload_n 1, 1) := by decide +kernel
theorem dX11_finds_7 : decode cX11_finds 7 = .ok (.isub, 1) := by decide +kernel
theorem dX11_finds_8 : decode cX11_finds 8 = .ok (.dup2, 1) := by decide +kernel
theorem dX11_finds_9 : decode cX11_finds 9 = .ok (.iaload, 1) := by decide +kernel
theorem dX11_finds_10 : decode cX11_finds 10 = .ok (.iconst 1, 1) := by decide +kernel
theorem dX11_finds_11 : decode cX11_finds 11 = .ok (.iadd, 1) := by decide +kernel
theorem dX11_finds_12 : decode cX11_finds 12 = .ok (.iastore, 1) := by decide +kernel
theorem dX11_finds_13 : decode cX11_finds 13 = .ok (.iload_n 1, 1) := by decide +kernel
theorem dX11_finds_14 : decode cX11_finds 14 = .ok (.ireturn, 1) := by decide +kernel
theorem dX11_in_0 : decode cX11_in 0 = .ok (.lload_n 0, 1) := by decide +kernel
theorem dX11_in_1 : decode cX11_in 1 = .ok (.lload_n 2, 1) := by decide +kernel
theorem dX11_in_2 : decode cX11_in 2 = .ok (.lcmp, 1) := by decide +kernel
theorem dX11_in_3 : decode cX11_in 3 = .ok (.ifCond .lt 14, 3) := by decide +kernel
theorem dX11_in_6 : decode cX11_in 6 = .ok (.lload_n 0, 1) := by decide +kernel
theorem dX11_in_7 : decode cX11_in 7 = .ok (.lload 4, 2) := by decide +kernel
theorem dX11_in_9 : decode cX11_in 9 = .ok (.lcmp, 1) := by decide +kernel
theorem dX11_in_10 : decode cX11_in 10 = .ok (.ifCond .gt 7, 3) := by decide +kernel
theorem dX11_in_13 : decode cX11_in 13 = .ok (.iconst 1, 1) := by decide +kernel
theorem dX11_in_14 : decode cX11_in 14 = .ok (.goto 4, 3) := by decide +kernel
theorem dX11_in_17 : decode cX11_in 17 = .ok (.iconst 0, 1) := by decide +kernel
theorem dX11_in_18 : decode cX11_in 18 = .ok (.ireturn, 1) := by decide +kernel
theorem dX11_isCell_0 : decode cX11_isCell 0 = .ok (.iload_n 0, 1) := by decide +kernel
theorem dX11_isCell_1 : decode cX11_isCell 1 = .ok (.i2l, 1) := by decide +kernel
theorem dX11_isCell_2 : decode cX11_isCell 2 = .ok (.lconst 0, 1) := by decide +kernel
theorem dX11_isCell_3 : decode cX11_isCell 3 = .ok (.ldc2_w 41, 3) := by decide +kernel
theorem dX11_isCell_6 : decode cX11_isCell 6 = .ok (.invokestatic 43, 3) := by decide +kernel
theorem dX11_isCell_9 : decode cX11_isCell 9 = .ok (.ireturn, 1) := by decide +kernel
theorem dX11_isColumn_0 : decode cX11_isColumn 0 = .ok (.iload_n 0, 1) := by decide +kernel
theorem dX11_isColumn_1 : decode cX11_isColumn 1 = .ok (.i2l, 1) := by decide +kernel
theorem dX11_isColumn_2 : decode cX11_isColumn 2 = .ok (.lconst 0, 1) := by decide +kernel
theorem dX11_isColumn_3 : decode cX11_isColumn 3 = .ok (.ldc2_w 47, 3) := by decide +kernel
theorem dX11_isColumn_6 : decode cX11_isColumn 6 = .ok (.invokestatic 43, 3) := by decide +kernel
theorem dX11_isColumn_9 : decode cX11_isColumn 9 = .ok (.ireturn, 1) := by decide +kernel
theorem dX11_isWater_0 : decode cX11_isWater 0 = .ok (.iload_n 0, 1) := by decide +kernel
theorem dX11_isWater_1 : decode cX11_isWater 1 = .ok (.i2l, 1) := by decide +kernel
theorem dX11_isWater_2 : decode cX11_isWater 2 = .ok (.lconst 1, 1) := by decide +kernel
theorem dX11_isWater_3 : decode cX11_isWater 3 = .ok (.ldc2_w 49, 3) := by decide +kernel
theorem dX11_isWater_6 : decode cX11_isWater 6 = .ok (.invokestatic 43, 3) := by decide +kernel
theorem dX11_isWater_9 : decode cX11_isWater 9 = .ok (.ireturn, 1) := by decide +kernel
theorem dX11_isKind_0 : decode cX11_isKind 0 = .ok (.iload_n 0, 1) := by decide +kernel
theorem dX11_isKind_1 : decode cX11_isKind 1 = .ok (.i2l, 1) := by decide +kernel
theorem dX11_isKind_2 : decode cX11_isKind 2 = .ok (.lconst 0, 1) := by decide +kernel
theorem dX11_isKind_3 : decode cX11_isKind 3 = .ok (.ldc2_w 51, 3) := by decide +kernel
theorem dX11_isKind_6 : decode cX11_isKind 6 = .ok (.invokestatic 43, 3) := by decide +kernel
theorem dX11_isKind_9 : decode cX11_isKind 9 = .ok (.ireturn, 1) := by decide +kernel
theorem dX11_of_0 : decode cX11_of 0 = .ok (.aload_n 0, 1) := by decide +kernel
theorem dX11_of_1 : decode cX11_of 1 = .ok (.getfield 9, 3) := by decide +kernel
theorem dX11_of_4 : decode cX11_of 4 = .ok (.sipush 402, 3) := by decide +kernel
theorem dX11_of_7 : decode cX11_of 7 = .ok (.iconst 4, 1) := by decide +kernel
theorem dX11_of_8 : decode cX11_of 8 = .ok (.iload_n 1, 1) := by decide +kernel
theorem dX11_of_9 : decode cX11_of 9 = .ok (.imul, 1) := by decide +kernel
theorem dX11_of_10 : decode cX11_of 10 = .ok (.iadd, 1) := by decide +kernel
theorem dX11_of_11 : decode cX11_of 11 = .ok (.iload_n 2, 1) := by decide +kernel
theorem dX11_of_12 : decode cX11_of 12 = .ok (.iadd, 1) := by decide +kernel
theorem dX11_of_13 : decode cX11_of 13 = .ok (.iaload, 1) := by decide +kernel
theorem dX11_of_14 : decode cX11_of 14 = .ok (.ireturn, 1) := by decide +kernel
theorem dX11_isDrop_0 : decode cX11_isDrop 0 = .ok (.iload_n 1, 1) := by decide +kernel
theorem dX11_isDrop_1 : decode cX11_isDrop 1 = .ok (.i2l, 1) := by decide +kernel
theorem dX11_isDrop_2 : decode cX11_isDrop 2 = .ok (.lconst 0, 1) := by decide +kernel
theorem dX11_isDrop_3 : decode cX11_isDrop 3 = .ok (.ldc2_w 51, 3) := by decide +kernel
theorem dX11_isDrop_6 : decode cX11_isDrop 6 = .ok (.invokestatic 43, 3) := by decide +kernel
theorem dX11_isDrop_9 : decode cX11_isDrop 9 = .ok (.ifCond .eq 16, 3) := by decide +kernel
theorem dX11_isDrop_12 : decode cX11_isDrop 12 = .ok (.aload_n 0, 1) := by decide +kernel
theorem dX11_isDrop_13 : decode cX11_isDrop 13 = .ok (.iload_n 1, 1) := by decide +kernel
theorem dX11_isDrop_14 : decode cX11_isDrop 14 = .ok (.iconst 0, 1) := by decide +kernel
theorem dX11_isDrop_15 : decode cX11_isDrop 15 = .ok (.invokevirtual 53, 3) := by decide +kernel
theorem dX11_isDrop_18 : decode cX11_isDrop 18 = .ok (.ifCond .lt 7, 3) := by decide +kernel
theorem dX11_isDrop_21 : decode cX11_isDrop 21 = .ok (.iconst 1, 1) := by decide +kernel
theorem dX11_isDrop_22 : decode cX11_isDrop 22 = .ok (.goto 4, 3) := by decide +kernel
theorem dX11_isDrop_25 : decode cX11_isDrop 25 = .ok (.iconst 0, 1) := by decide +kernel
theorem dX11_isDrop_26 : decode cX11_isDrop 26 = .ok (.ireturn, 1) := by decide +kernel
theorem dX11_drops_0 : decode cX11_drops 0 = .ok (.iconst 0, 1) := by decide +kernel
theorem dX11_drops_1 : decode cX11_drops 1 = .ok (.istore_n 1, 1) := by decide +kernel
theorem dX11_drops_2 : decode cX11_drops 2 = .ok (.iconst 0, 1) := by decide +kernel
theorem dX11_drops_3 : decode cX11_drops 3 = .ok (.istore_n 2, 1) := by decide +kernel
theorem dX11_drops_4 : decode cX11_drops 4 = .ok (.iload_n 2, 1) := by decide +kernel
theorem dX11_drops_5 : decode cX11_drops 5 = .ok (.bipush 8, 2) := by decide +kernel
theorem dX11_drops_7 : decode cX11_drops 7 = .ok (.if_icmp .ge 26, 3) := by decide +kernel
theorem dX11_drops_10 : decode cX11_drops 10 = .ok (.iload_n 1, 1) := by decide +kernel
theorem dX11_drops_11 : decode cX11_drops 11 = .ok (.aload_n 0, 1) := by decide +kernel
theorem dX11_drops_12 : decode cX11_drops 12 = .ok (.iload_n 2, 1) := by decide +kernel
theorem dX11_drops_13 : decode cX11_drops 13 = .ok (.iconst 0, 1) := by decide +kernel
theorem dX11_drops_14 : decode cX11_drops 14 = .ok (.invokevirtual 53, 3) := by decide +kernel
theorem dX11_drops_17 : decode cX11_drops 17 = .ok (.ifCond .lt 7, 3) := by decide +kernel
theorem dX11_drops_20 : decode cX11_drops 20 = .ok (.iconst 1, 1) := by decide +kernel
theorem dX11_drops_21 : decode cX11_drops 21 = .ok (.goto 4, 3) := by decide +kernel
theorem dX11_drops_24 : decode cX11_drops 24 = .ok (.iconst 0, 1) := by decide +kernel
theorem dX11_drops_25 : decode cX11_drops 25 = .ok (.iadd, 1) := by decide +kernel
theorem dX11_drops_26 : decode cX11_drops 26 = .ok (.istore_n 1, 1) := by decide +kernel
theorem dX11_drops_27 : decode cX11_drops 27 = .ok (.iinc 2 1, 3) := by decide +kernel
theorem dX11_drops_30 : decode cX11_drops 30 = .ok (.goto (-26), 3) := by decide +kernel
theorem dX11_drops_33 : decode cX11_drops 33 = .ok (.iload_n 1, 1) := by decide +kernel
theorem dX11_drops_34 : decode cX11_drops 34 = .ok (.ireturn, 1) := by decide +kernel
theorem dX11_becomes_0 : decode cX11_becomes 0 = .ok (.aload_n 0, 1) := by decide +kernel
theorem dX11_becomes_1 : decode cX11_becomes 1 = .ok (.getfield 9, 3) := by decide +kernel
theorem dX11_becomes_4 : decode cX11_becomes 4 = .ok (.iload_n 1, 1) := by decide +kernel
theorem dX11_becomes_5 : decode cX11_becomes 5 = .ok (.iaload, 1) := by decide +kernel
theorem dX11_becomes_6 : decode cX11_becomes 6 = .ok (.istore_n 3, 1) := by decide +kernel
theorem dX11_becomes_7 : decode cX11_becomes 7 = .ok (.aload_n 0, 1) := by decide +kernel
theorem dX11_becomes_8 : decode cX11_becomes 8 = .ok (.getfield 9, 3) := by decide +kernel
theorem dX11_becomes_11 : decode cX11_becomes 11 = .ok (.iload_n 1, 1) := by decide +kernel
theorem dX11_becomes_12 : decode cX11_becomes 12 = .ok (.iload_n 2, 1) := by decide +kernel
theorem dX11_becomes_13 : decode cX11_becomes 13 = .ok (.iastore, 1) := by decide +kernel
theorem dX11_becomes_14 : decode cX11_becomes 14 = .ok (.iload_n 3, 1) := by decide +kernel
theorem dX11_becomes_15 : decode cX11_becomes 15 = .ok (.ireturn, 1) := by decide +kernel
theorem dX11_wetOf_0 : decode cX11_wetOf 0 = .ok (.aload_n 0, 1) := by decide +kernel
theorem dX11_wetOf_1 : decode cX11_wetOf 1 = .ok (.getfield 57, 3) := by decide +kernel
theorem dX11_wetOf_4 : decode cX11_wetOf 4 = .ok (.ifCond .eq 7, 3) := by decide +kernel
theorem dX11_wetOf_7 : decode cX11_wetOf 7 = .ok (.iconst 0, 1) := by decide +kernel
theorem dX11_wetOf_8 : decode cX11_wetOf 8 = .ok (.goto 13, 3) := by decide +kernel
theorem dX11_wetOf_11 : decode cX11_wetOf 11 = .ok (.aload_n 0, 1) := by decide +kernel
theorem dX11_wetOf_12 : decode cX11_wetOf 12 = .ok (.getfield 9, 3) := by decide +kernel
theorem dX11_wetOf_15 : decode cX11_wetOf 15 = .ok (.sipush 210, 3) := by decide +kernel
theorem dX11_wetOf_18 : decode cX11_wetOf 18 = .ok (.iload_n 1, 1) := by decide +kernel
theorem dX11_wetOf_19 : decode cX11_wetOf 19 = .ok (.iadd, 1) := by decide +kernel
theorem dX11_wetOf_20 : decode cX11_wetOf 20 = .ok (.iaload, 1) := by decide +kernel
theorem dX11_wetOf_21 : decode cX11_wetOf 21 = .ok (.ireturn, 1) := by decide +kernel
theorem dX11_holdOf_0 : decode cX11_holdOf 0 = .ok (.iconst 3, 1) := by decide +kernel
theorem dX11_holdOf_1 : decode cX11_holdOf 1 = .ok (.aload_n 0, 1) := by decide +kernel
theorem dX11_holdOf_2 : decode cX11_holdOf 2 = .ok (.getfield 9, 3) := by decide +kernel
theorem dX11_holdOf_5 : decode cX11_holdOf 5 = .ok (.bipush 18, 2) := by decide +kernel
theorem dX11_holdOf_7 : decode cX11_holdOf 7 = .ok (.iload_n 1, 1) := by decide +kernel
theorem dX11_holdOf_8 : decode cX11_holdOf 8 = .ok (.iadd, 1) := by decide +kernel
theorem dX11_holdOf_9 : decode cX11_holdOf 9 = .ok (.iaload, 1) := by decide +kernel
theorem dX11_holdOf_10 : decode cX11_holdOf 10 = .ok (.imul, 1) := by decide +kernel
theorem dX11_holdOf_11 : decode cX11_holdOf 11 = .ok (.aload_n 0, 1) := by decide +kernel
theorem dX11_holdOf_12 : decode cX11_holdOf 12 = .ok (.iload_n 1, 1) := by decide +kernel
theorem dX11_holdOf_13 : decode cX11_holdOf 13 = .ok (.invokevirtual 61, 3) := by decide +kernel
theorem dX11_holdOf_16 : decode cX11_holdOf 16 = .ok (.bipush 10, 2) := by decide +kernel
theorem dX11_holdOf_18 : decode cX11_holdOf 18 = .ok (.idiv, 1) := by decide +kernel
theorem dX11_holdOf_19 : decode cX11_holdOf 19 = .ok (.isub, 1) := by decide +kernel
theorem dX11_holdOf_20 : decode cX11_holdOf 20 = .ok (.istore_n 2, 1) := by decide +kernel
theorem dX11_holdOf_21 : decode cX11_holdOf 21 = .ok (.iload_n 2, 1) := by decide +kernel
theorem dX11_holdOf_22 : decode cX11_holdOf 22 = .ok (.ifCond .ge 7, 3) := by decide +kernel
theorem dX11_holdOf_25 : decode cX11_holdOf 25 = .ok (.iconst 0, 1) := by decide +kernel
theorem dX11_holdOf_26 : decode cX11_holdOf 26 = .ok (.goto 4, 3) := by decide +kernel
theorem dX11_holdOf_29 : decode cX11_holdOf 29 = .ok (.iload_n 2, 1) := by decide +kernel
theorem dX11_holdOf_30 : decode cX11_holdOf 30 = .ok (.ireturn, 1) := by decide +kernel
theorem dX11_can_0 : decode cX11_can 0 = .ok (.aload_n 0, 1) := by decide +kernel
theorem dX11_can_1 : decode cX11_can 1 = .ok (.iload_n 1, 1) := by decide +kernel
theorem dX11_can_2 : decode cX11_can 2 = .ok (.invokevirtual 65, 3) := by decide +kernel
theorem dX11_can_5 : decode cX11_can 5 = .ok (.iload_n 2, 1) := by decide +kernel
theorem dX11_can_6 : decode cX11_can 6 = .ok (.aload_n 0, 1) := by decide +kernel
theorem dX11_can_7 : decode cX11_can 7 = .ok (.getfield 9, 3) := by decide +kernel
theorem dX11_can_10 : decode cX11_can 10 = .ok (.iconst 0, 1) := by decide +kernel
theorem dX11_can_11 : decode cX11_can 11 = .ok (.iaload, 1) := by decide +kernel
theorem dX11_can_12 : decode cX11_can 12 = .ok (.iadd, 1) := by decide +kernel
theorem dX11_can_13 : decode cX11_can 13 = .ok (.if_icmp .gt 7, 3) := by decide +kernel
theorem dX11_can_16 : decode cX11_can 16 = .ok (.iconst 1, 1) := by decide +kernel
theorem dX11_can_17 : decode cX11_can 17 = .ok (.goto 4, 3) := by decide +kernel
theorem dX11_can_20 : decode cX11_can 20 = .ok (.iconst 0, 1) := by decide +kernel
theorem dX11_can_21 : decode cX11_can 21 = .ok (.ireturn, 1) := by decide +kernel
theorem dX11_below_0 : decode cX11_below 0 = .ok (.iload_n 0, 1) := by decide +kernel
theorem dX11_below_1 : decode cX11_below 1 = .ok (.bipush 12, 2) := by decide +kernel
theorem dX11_below_3 : decode cX11_below 3 = .ok (.irem, 1) := by decide +kernel
theorem dX11_below_4 : decode cX11_below 4 = .ok (.istore_n 2, 1) := by decide +kernel
theorem dX11_below_5 : decode cX11_below 5 = .ok (.iload_n 1, 1) := by decide +kernel
theorem dX11_below_6 : decode cX11_below 6 = .ok (.ifCond .ne 10, 3) := by decide +kernel
theorem dX11_below_9 : decode cX11_below 9 = .ok (.iload_n 0, 1) := by decide +kernel
theorem dX11_below_10 : decode cX11_below 10 = .ok (.bipush 12, 2) := by decide +kernel
theorem dX11_below_12 : decode cX11_below 12 = .ok (.iadd, 1) := by decide +kernel
theorem dX11_below_13 : decode cX11_below 13 = .ok (.goto 41, 3) := by decide +kernel
theorem dX11_below_16 : decode cX11_below 16 = .ok (.iload_n 1, 1) := by decide +kernel
theorem dX11_below_17 : decode cX11_below 17 = .ok (.iconst 1, 1) := by decide +kernel
theorem dX11_below_18 : decode cX11_below 18 = .ok (.if_icmp .ne 20, 3) := by decide +kernel
theorem dX11_below_21 : decode cX11_below 21 = .ok (.iload_n 2, 1) := by decide +kernel
theorem dX11_below_22 : decode cX11_below 22 = .ok (.ifCond .le 12, 3) := by decide +kernel
theorem dX11_below_25 : decode cX11_below 25 = .ok (.iload_n 0, 1) := by decide +kernel
theorem dX11_below_26 : decode cX11_below 26 = .ok (.bipush 12, 2) := by decide +kernel
theorem dX11_below_28 : decode cX11_below 28 = .ok (.iadd, 1) := by decide +kernel
theorem dX11_below_29 : decode cX11_below 29 = .ok (.iconst 1, 1) := by decide +kernel
theorem dX11_below_30 : decode cX11_below 30 = .ok (.isub, 1) := by decide +kernel
theorem dX11_below_31 : decode cX11_below 31 = .ok (.goto 23, 3) := by decide +kernel
theorem dX11_below_34 : decode cX11_below 34 = .ok (.iconst (-1), 1) := by decide +kernel
theorem dX11_below_35 : decode cX11_below 35 = .ok (.goto 19, 3) := by decide +kernel
theorem dX11_below_38 : decode cX11_below 38 = .ok (.iload_n 2, 1) := by decide +kernel
theorem dX11_below_39 : decode cX11_below 39 = .ok (.bipush 11, 2) := by decide +kernel
theorem dX11_below_41 : decode cX11_below 41 = .ok (.if_icmp .ge 12, 3) := by decide +kernel
theorem dX11_below_44 : decode cX11_below 44 = .ok (.iload_n 0, 1) := by decide +kernel
theorem dX11_below_45 : decode cX11_below 45 = .ok (.bipush 12, 2) := by decide +kernel
theorem dX11_below_47 : decode cX11_below 47 = .ok (.iadd, 1) := by decide +kernel
theorem dX11_below_48 : decode cX11_below 48 = .ok (.iconst 1, 1) := by decide +kernel
theorem dX11_below_49 : decode cX11_below 49 = .ok (.iadd, 1) := by decide +kernel
theorem dX11_below_50 : decode cX11_below 50 = .ok (.goto 4, 3) := by decide +kernel
theorem dX11_below_53 : decode cX11_below 53 = .ok (.iconst (-1), 1) := by decide +kernel
theorem dX11_below_54 : decode cX11_below 54 = .ok (.ireturn, 1) := by decide +kernel
theorem dX11_softest_0 : decode cX11_softest 0 = .ok (.iload_n 1, 1) := by decide +kernel
theorem dX11_softest_1 : decode cX11_softest 1 = .ok (.istore_n 3, 1) := by decide +kernel
theorem dX11_softest_2 : decode cX11_softest 2 = .ok (.iconst 0, 1) := by decide +kernel
theorem dX11_softest_3 : decode cX11_softest 3 = .ok (.istore 4, 2) := by decide +kernel
theorem dX11_softest_5 : decode cX11_softest 5 = .ok (.iload 4, 2) := by decide +kernel
theorem dX11_softest_7 : decode cX11_softest 7 = .ok (.iconst 3, 1) := by decide +kernel
theorem dX11_softest_8 : decode cX11_softest 8 = .ok (.if_icmp .ge 57, 3) := by decide +kernel
theorem dX11_softest_11 : decode cX11_softest 11 = .ok (.iload_n 1, 1) := by decide +kernel
theorem dX11_softest_12 : decode cX11_softest 12 = .ok (.iload 4, 2) := by decide +kernel
theorem dX11_softest_14 : decode cX11_softest 14 = .ok (.invokestatic 68, 3) := by decide +kernel
theorem dX11_softest_17 : decode cX11_softest 17 = .ok (.istore 5, 2) := by decide +kernel
theorem dX11_softest_19 : decode cX11_softest 19 = .ok (.iload 5, 2) := by decide +kernel
theorem dX11_softest_21 : decode cX11_softest 21 = .ok (.ifCond .lt 38, 3) := by decide +kernel
theorem dX11_softest_24 : decode cX11_softest 24 = .ok (.aload_n 0, 1) := by decide +kernel
theorem dX11_softest_25 : decode cX11_softest 25 = .ok (.iload 5, 2) := by decide +kernel
theorem dX11_softest_27 : decode cX11_softest 27 = .ok (.iload_n 2, 1) := by decide +kernel
theorem dX11_softest_28 : decode cX11_softest 28 = .ok (.invokevirtual 71, 3) := by decide +kernel
theorem dX11_softest_31 : decode cX11_softest 31 = .ok (.ifCond .ne 6, 3) := by decide +kernel
theorem dX11_softest_34 : decode cX11_softest 34 = .ok (.goto 25, 3) := by decide +kernel
theorem dX11_softest_37 : decode cX11_softest 37 = .ok (.iload_n 3, 1) := by decide +kernel
theorem dX11_softest_38 : decode cX11_softest 38 = .ok (.iload_n 1, 1) := by decide +kernel
theorem dX11_softest_39 : decode cX11_softest 39 = .ok (.if_icmp .eq 17, 3) := by decide +kernel
theorem dX11_softest_42 : decode cX11_softest 42 = .ok (.aload_n 0, 1) := by decide +kernel
theorem dX11_softest_43 : decode cX11_softest 43 = .ok (.iload 5, 2) := by decide +kernel
theorem dX11_softest_45 : decode cX11_softest 45 = .ok (.invokevirtual 65, 3) := by decide +kernel
theorem dX11_softest_48 : decode cX11_softest 48 = .ok (.aload_n 0, 1) := by decide +kernel
theorem dX11_softest_49 : decode cX11_softest 49 = .ok (.iload_n 3, 1) := by decide +kernel
theorem dX11_softest_50 : decode cX11_softest 50 = .ok (.invokevirtual 65, 3) := by decide +kernel
theorem dX11_softest_53 : decode cX11_softest 53 = .ok (.if_icmp .ge 6, 3) := by decide +kernel
theorem dX11_softest_56 : decode cX11_softest 56 = .ok (.iload 5, 2) := by decide +kernel
theorem dX11_softest_58 : decode cX11_softest 58 = .ok (.istore_n 3, 1) := by decide +kernel
theorem dX11_softest_59 : decode cX11_softest 59 = .ok (.iinc 4 1, 3) := by decide +kernel
theorem dX11_softest_62 : decode cX11_softest 62 = .ok (.goto (-57), 3) := by decide +kernel
theorem dX11_softest_65 : decode cX11_softest 65 = .ok (.iload_n 3, 1) := by decide +kernel
theorem dX11_softest_66 : decode cX11_softest 66 = .ok (.ireturn, 1) := by decide +kernel
theorem dX11_wettest_0 : decode cX11_wettest 0 = .ok (.iload_n 1, 1) := by decide +kernel
theorem dX11_wettest_1 : decode cX11_wettest 1 = .ok (.istore_n 3, 1) := by decide +kernel
theorem dX11_wettest_2 : decode cX11_wettest 2 = .ok (.iconst 0, 1) := by decide +kernel
theorem dX11_wettest_3 : decode cX11_wettest 3 = .ok (.istore 4, 2) := by decide +kernel
theorem dX11_wettest_5 : decode cX11_wettest 5 = .ok (.iload 4, 2) := by decide +kernel
theorem dX11_wettest_7 : decode cX11_wettest 7 = .ok (.iconst 3, 1) := by decide +kernel
theorem dX11_wettest_8 : decode cX11_wettest 8 = .ok (.if_icmp .ge 66, 3) := by decide +kernel
theorem dX11_wettest_11 : decode cX11_wettest 11 = .ok (.iload_n 1, 1) := by decide +kernel
theorem dX11_wettest_12 : decode cX11_wettest 12 = .ok (.iload 4, 2) := by decide +kernel
theorem dX11_wettest_14 : decode cX11_wettest 14 = .ok (.invokestatic 68, 3) := by decide +kernel
theorem dX11_wettest_17 : decode cX11_wettest 17 = .ok (.istore 5, 2) := by decide +kernel
theorem dX11_wettest_19 : decode cX11_wettest 19 = .ok (.iload 5, 2) := by decide +kernel
theorem dX11_wettest_21 : decode cX11_wettest 21 = .ok (.ifCond .lt 47, 3) := by decide +kernel
theorem dX11_wettest_24 : decode cX11_wettest 24 = .ok (.aload_n 0, 1) := by decide +kernel
theorem dX11_wettest_25 : decode cX11_wettest 25 = .ok (.iload 5, 2) := by decide +kernel
theorem dX11_wettest_27 : decode cX11_wettest 27 = .ok (.iload_n 2, 1) := by decide +kernel
theorem dX11_wettest_28 : decode cX11_wettest 28 = .ok (.invokevirtual 71, 3) := by decide +kernel
theorem dX11_wettest_31 : decode cX11_wettest 31 = .ok (.ifCond .eq 37, 3) := by decide +kernel
theorem dX11_wettest_34 : decode cX11_wettest 34 = .ok (.aload_n 0, 1) := by decide +kernel
theorem dX11_wettest_35 : decode cX11_wettest 35 = .ok (.iload 5, 2) := by decide +kernel
theorem dX11_wettest_37 : decode cX11_wettest 37 = .ok (.invokevirtual 61, 3) := by decide +kernel
theorem dX11_wettest_40 : decode cX11_wettest 40 = .ok (.ifCond .ne 6, 3) := by decide +kernel
theorem dX11_wettest_43 : decode cX11_wettest 43 = .ok (.goto 25, 3) := by decide +kernel
theorem dX11_wettest_46 : decode cX11_wettest 46 = .ok (.iload_n 3, 1) := by decide +kernel
theorem dX11_wettest_47 : decode cX11_wettest 47 = .ok (.iload_n 1, 1) := by decide +kernel
theorem dX11_wettest_48 : decode cX11_wettest 48 = .ok (.if_icmp .eq 17, 3) := by decide +kernel
theorem dX11_wettest_51 : decode cX11_wettest 51 = .ok (.aload_n 0, 1) := by decide +kernel
theorem dX11_wettest_52 : decode cX11_wettest 52 = .ok (.iload 5, 2) := by decide +kernel
theorem dX11_wettest_54 : decode cX11_wettest 54 = .ok (.invokevirtual 61, 3) := by decide +kernel
theorem dX11_wettest_57 : decode cX11_wettest 57 = .ok (.aload_n 0, 1) := by decide +kernel
theorem dX11_wettest_58 : decode cX11_wettest 58 = .ok (.iload_n 3, 1) := by decide +kernel
theorem dX11_wettest_59 : decode cX11_wettest 59 = .ok (.invokevirtual 61, 3) := by decide +kernel
theorem dX11_wettest_62 : decode cX11_wettest 62 = .ok (.if_icmp .le 6, 3) := by decide +kernel
theorem dX11_wettest_65 : decode cX11_wettest 65 = .ok (.iload 5, 2) := by decide +kernel
theorem dX11_wettest_67 : decode cX11_wettest 67 = .ok (.istore_n 3, 1) := by decide +kernel
theorem dX11_wettest_68 : decode cX11_wettest 68 = .ok (.iinc 4 1, 3) := by decide +kernel
theorem dX11_wettest_71 : decode cX11_wettest 71 = .ok (.goto (-66), 3) := by decide +kernel
theorem dX11_wettest_74 : decode cX11_wettest 74 = .ok (.iload_n 3, 1) := by decide +kernel
theorem dX11_wettest_75 : decode cX11_wettest 75 = .ok (.ireturn, 1) := by decide +kernel
theorem dX11_swung_0 : decode cX11_swung 0 = .ok (.iload_n 1, 1) := by decide +kernel
theorem dX11_swung_1 : decode cX11_swung 1 = .ok (.iload_n 3, 1) := by decide +kernel
theorem dX11_swung_2 : decode cX11_swung 2 = .ok (.iconst 2, 1) := by decide +kernel
theorem dX11_swung_3 : decode cX11_swung 3 = .ok (.irem, 1) := by decide +kernel
theorem dX11_swung_4 : decode cX11_swung 4 = .ok (.ifCond .ne 7, 3) := by decide +kernel
theorem dX11_swung_7 : decode cX11_swung 7 = .ok (.iconst 1, 1) := by decide +kernel
theorem dX11_swung_8 : decode cX11_swung 8 = .ok (.goto 4, 3) := by decide +kernel
theorem dX11_swung_11 : decode cX11_swung 11 = .ok (.iconst 2, 1) := by decide +kernel
theorem dX11_swung_12 : decode cX11_swung 12 = .ok (.invokestatic 68, 3) := by decide +kernel
theorem dX11_swung_15 : decode cX11_swung 15 = .ok (.istore 4, 2) := by decide +kernel
theorem dX11_swung_17 : decode cX11_swung 17 = .ok (.iload 4, 2) := by decide +kernel
theorem dX11_swung_19 : decode cX11_swung 19 = .ok (.ifCond .lt 18, 3) := by decide +kernel
theorem dX11_swung_22 : decode cX11_swung 22 = .ok (.aload_n 0, 1) := by decide +kernel
theorem dX11_swung_23 : decode cX11_swung 23 = .ok (.iload 4, 2) := by decide +kernel
theorem dX11_swung_25 : decode cX11_swung 25 = .ok (.iload_n 2, 1) := by decide +kernel
theorem dX11_swung_26 : decode cX11_swung 26 = .ok (.invokevirtual 71, 3) := by decide +kernel
theorem dX11_swung_29 : decode cX11_swung 29 = .ok (.ifCond .eq 8, 3) := by decide +kernel
theorem dX11_swung_32 : decode cX11_swung 32 = .ok (.iload 4, 2) := by decide +kernel
theorem dX11_swung_34 : decode cX11_swung 34 = .ok (.goto 9, 3) := by decide +kernel
theorem dX11_swung_37 : decode cX11_swung 37 = .ok (.aload_n 0, 1) := by decide +kernel
theorem dX11_swung_38 : decode cX11_swung 38 = .ok (.iload_n 1, 1) := by decide +kernel
theorem dX11_swung_39 : decode cX11_swung 39 = .ok (.iload_n 2, 1) := by decide +kernel
theorem dX11_swung_40 : decode cX11_swung 40 = .ok (.invokevirtual 75, 3) := by decide +kernel
theorem dX11_swung_43 : decode cX11_swung 43 = .ok (.ireturn, 1) := by decide +kernel
theorem dX11_aside_0 : decode cX11_aside 0 = .ok (.iload_n 1, 1) := by decide +kernel
theorem dX11_aside_1 : decode cX11_aside 1 = .ok (.bipush 12, 2) := by decide +kernel
theorem dX11_aside_3 : decode cX11_aside 3 = .ok (.irem, 1) := by decide +kernel
theorem dX11_aside_4 : decode cX11_aside 4 = .ok (.istore_n 3, 1) := by decide +kernel
theorem dX11_aside_5 : decode cX11_aside 5 = .ok (.iload_n 3, 1) := by decide +kernel
theorem dX11_aside_6 : decode cX11_aside 6 = .ok (.iconst 2, 1) := by decide +kernel
theorem dX11_aside_7 : decode cX11_aside 7 = .ok (.irem, 1) := by decide +kernel
theorem dX11_aside_8 : decode cX11_aside 8 = .ok (.ifCond .ne 17, 3) := by decide +kernel
theorem dX11_aside_11 : decode cX11_aside 11 = .ok (.iload_n 3, 1) := by decide +kernel
theorem dX11_aside_12 : decode cX11_aside 12 = .ok (.ifCond .le 9, 3) := by decide +kernel
theorem dX11_aside_15 : decode cX11_aside 15 = .ok (.iload_n 1, 1) := by decide +kernel
theorem dX11_aside_16 : decode cX11_aside 16 = .ok (.iconst 1, 1) := by decide +kernel
theorem dX11_aside_17 : decode cX11_aside 17 = .ok (.isub, 1) := by decide +kernel
theorem dX11_aside_18 : decode cX11_aside 18 = .ok (.goto 20, 3) := by decide +kernel
theorem dX11_aside_21 : decode cX11_aside 21 = .ok (.iconst (-1), 1) := by decide +kernel
theorem dX11_aside_22 : decode cX11_aside 22 = .ok (.goto 16, 3) := by decide +kernel
theorem dX11_aside_25 : decode cX11_aside 25 = .ok (.iload_n 3, 1) := by decide +kernel
theorem dX11_aside_26 : decode cX11_aside 26 = .ok (.bipush 11, 2) := by decide +kernel
theorem dX11_aside_28 : decode cX11_aside 28 = .ok (.if_icmp .ge 9, 3) := by decide +kernel
theorem dX11_aside_31 : decode cX11_aside 31 = .ok (.iload_n 1, 1) := by decide +kernel
theorem dX11_aside_32 : decode cX11_aside 32 = .ok (.iconst 1, 1) := by decide +kernel
theorem dX11_aside_33 : decode cX11_aside 33 = .ok (.iadd, 1) := by decide +kernel
theorem dX11_aside_34 : decode cX11_aside 34 = .ok (.goto 4, 3) := by decide +kernel
theorem dX11_aside_37 : decode cX11_aside 37 = .ok (.iconst (-1), 1) := by decide +kernel
theorem dX11_aside_38 : decode cX11_aside 38 = .ok (.istore 4, 2) := by decide +kernel
theorem dX11_aside_40 : decode cX11_aside 40 = .ok (.iload 4, 2) := by decide +kernel
theorem dX11_aside_42 : decode cX11_aside 42 = .ok (.ifCond .lt 18, 3) := by decide +kernel
theorem dX11_aside_45 : decode cX11_aside 45 = .ok (.aload_n 0, 1) := by decide +kernel
theorem dX11_aside_46 : decode cX11_aside 46 = .ok (.iload 4, 2) := by decide +kernel
theorem dX11_aside_48 : decode cX11_aside 48 = .ok (.iload_n 2, 1) := by decide +kernel
theorem dX11_aside_49 : decode cX11_aside 49 = .ok (.invokevirtual 71, 3) := by decide +kernel
theorem dX11_aside_52 : decode cX11_aside 52 = .ok (.ifCond .eq 8, 3) := by decide +kernel
theorem dX11_aside_55 : decode cX11_aside 55 = .ok (.iload 4, 2) := by decide +kernel
theorem dX11_aside_57 : decode cX11_aside 57 = .ok (.goto 4, 3) := by decide +kernel
theorem dX11_aside_60 : decode cX11_aside 60 = .ok (.iload_n 1, 1) := by decide +kernel
theorem dX11_aside_61 : decode cX11_aside 61 = .ok (.ireturn, 1) := by decide +kernel
theorem dX11_goesTo_0 : decode cX11_goesTo 0 = .ok (.iload_n 2, 1) := by decide +kernel
theorem dX11_goesTo_1 : decode cX11_goesTo 1 = .ok (.sipush 180, 3) := by decide +kernel
theorem dX11_goesTo_4 : decode cX11_goesTo 4 = .ok (.if_icmp .lt 5, 3) := by decide +kernel
theorem dX11_goesTo_7 : decode cX11_goesTo 7 = .ok (.iconst (-1), 1) := by decide +kernel
theorem dX11_goesTo_8 : decode cX11_goesTo 8 = .ok (.ireturn, 1) := by decide +kernel
theorem dX11_goesTo_9 : decode cX11_goesTo 9 = .ok (.aload_n 0, 1) := by decide +kernel
theorem dX11_goesTo_10 : decode cX11_goesTo 10 = .ok (.iload_n 2, 1) := by decide +kernel
theorem dX11_goesTo_11 : decode cX11_goesTo 11 = .ok (.bipush 12, 2) := by decide +kernel
theorem dX11_goesTo_13 : decode cX11_goesTo 13 = .ok (.iadd, 1) := by decide +kernel
theorem dX11_goesTo_14 : decode cX11_goesTo 14 = .ok (.iload_n 3, 1) := by decide +kernel
theorem dX11_goesTo_15 : decode cX11_goesTo 15 = .ok (.invokevirtual 71, 3) := by decide +kernel
theorem dX11_goesTo_18 : decode cX11_goesTo 18 = .ok (.istore 5, 2) := by decide +kernel
theorem dX11_goesTo_20 : decode cX11_goesTo 20 = .ok (.iload_n 1, 1) := by decide +kernel
theorem dX11_goesTo_21 : decode cX11_goesTo 21 = .ok (.bipush 7, 2) := by decide +kernel
theorem dX11_goesTo_23 : decode cX11_goesTo 23 = .ok (.if_icmp .ne 12, 3) := by decide +kernel
theorem dX11_goesTo_26 : decode cX11_goesTo 26 = .ok (.aload_n 0, 1) := by decide +kernel
theorem dX11_goesTo_27 : decode cX11_goesTo 27 = .ok (.iload_n 2, 1) := by decide +kernel
theorem dX11_goesTo_28 : decode cX11_goesTo 28 = .ok (.iload_n 3, 1) := by decide +kernel
theorem dX11_goesTo_29 : decode cX11_goesTo 29 = .ok (.invokevirtual 78, 3) := by decide +kernel
theorem dX11_goesTo_32 : decode cX11_goesTo 32 = .ok (.goto 4, 3) := by decide +kernel
theorem dX11_goesTo_35 : decode cX11_goesTo 35 = .ok (.iload_n 2, 1) := by decide +kernel
theorem dX11_goesTo_36 : decode cX11_goesTo 36 = .ok (.istore 6, 2) := by decide +kernel
theorem dX11_goesTo_38 : decode cX11_goesTo 38 = .ok (.iload_n 1, 1) := by decide +kernel
theorem dX11_goesTo_39 : decode cX11_goesTo 39 = .ok (.tableswitch 120 2 6 #[33, 47, 85, 94, 66], 33) := by decide +kernel
theorem dX11_goesTo_72 : decode cX11_goesTo 72 = .ok (.iload 5, 2) := by decide +kernel
theorem dX11_goesTo_74 : decode cX11_goesTo 74 = .ok (.ifCond .eq 10, 3) := by decide +kernel
theorem dX11_goesTo_77 : decode cX11_goesTo 77 = .ok (.iload_n 2, 1) := by decide +kernel
theorem dX11_goesTo_78 : decode cX11_goesTo 78 = .ok (.bipush 12, 2) := by decide +kernel
theorem dX11_goesTo_80 : decode cX11_goesTo 80 = .ok (.iadd, 1) := by decide +kernel
theorem dX11_goesTo_81 : decode cX11_goesTo 81 = .ok (.goto 4, 3) := by decide +kernel
theorem dX11_goesTo_84 : decode cX11_goesTo 84 = .ok (.iload_n 2, 1) := by decide +kernel
theorem dX11_goesTo_85 : decode cX11_goesTo 85 = .ok (.ireturn, 1) := by decide +kernel
theorem dX11_goesTo_86 : decode cX11_goesTo 86 = .ok (.iload 5, 2) := by decide +kernel
theorem dX11_goesTo_88 : decode cX11_goesTo 88 = .ok (.ifCond .eq 10, 3) := by decide +kernel
theorem dX11_goesTo_91 : decode cX11_goesTo 91 = .ok (.iload_n 2, 1) := by decide +kernel
theorem dX11_goesTo_92 : decode cX11_goesTo 92 = .ok (.bipush 12, 2) := by decide +kernel
theorem dX11_goesTo_94 : decode cX11_goesTo 94 = .ok (.iadd, 1) := by decide +kernel
theorem dX11_goesTo_95 : decode cX11_goesTo 95 = .ok (.goto 9, 3) := by decide +kernel
theorem dX11_goesTo_98 : decode cX11_goesTo 98 = .ok (.aload_n 0, 1) := by decide +kernel
theorem dX11_goesTo_99 : decode cX11_goesTo 99 = .ok (.iload_n 2, 1) := by decide +kernel
theorem dX11_goesTo_100 : decode cX11_goesTo 100 = .ok (.iload_n 3, 1) := by decide +kernel
theorem dX11_goesTo_101 : decode cX11_goesTo 101 = .ok (.invokevirtual 81, 3) := by decide +kernel
theorem dX11_goesTo_104 : decode cX11_goesTo 104 = .ok (.ireturn, 1) := by decide +kernel
theorem dX11_goesTo_105 : decode cX11_goesTo 105 = .ok (.iload 5, 2) := by decide +kernel
theorem dX11_goesTo_107 : decode cX11_goesTo 107 = .ok (.ifCond .eq 10, 3) := by decide +kernel
theorem dX11_goesTo_110 : decode cX11_goesTo 110 = .ok (.iload_n 2, 1) := by decide +kernel
theorem dX11_goesTo_111 : decode cX11_goesTo 111 = .ok (.bipush 12, 2) := by decide +kernel
theorem dX11_goesTo_113 : decode cX11_goesTo 113 = .ok (.iadd, 1) := by decide +kernel
theorem dX11_goesTo_114 : decode cX11_goesTo 114 = .ok (.goto 9, 3) := by decide +kernel
theorem dX11_goesTo_117 : decode cX11_goesTo 117 = .ok (.aload_n 0, 1) := by decide +kernel
theorem dX11_goesTo_118 : decode cX11_goesTo 118 = .ok (.iload_n 2, 1) := by decide +kernel
theorem dX11_goesTo_119 : decode cX11_goesTo 119 = .ok (.iload_n 3, 1) := by decide +kernel
theorem dX11_goesTo_120 : decode cX11_goesTo 120 = .ok (.invokevirtual 75, 3) := by decide +kernel
theorem dX11_goesTo_123 : decode cX11_goesTo 123 = .ok (.ireturn, 1) := by decide +kernel
theorem dX11_goesTo_124 : decode cX11_goesTo 124 = .ok (.aload_n 0, 1) := by decide +kernel
theorem dX11_goesTo_125 : decode cX11_goesTo 125 = .ok (.iload_n 2, 1) := by decide +kernel
theorem dX11_goesTo_126 : decode cX11_goesTo 126 = .ok (.iload_n 3, 1) := by decide +kernel
theorem dX11_goesTo_127 : decode cX11_goesTo 127 = .ok (.iload 4, 2) := by decide +kernel
theorem dX11_goesTo_129 : decode cX11_goesTo 129 = .ok (.invokevirtual 84, 3) := by decide +kernel
theorem dX11_goesTo_132 : decode cX11_goesTo 132 = .ok (.ireturn, 1) := by decide +kernel
theorem dX11_goesTo_133 : decode cX11_goesTo 133 = .ok (.iload 4, 2) := by decide +kernel
theorem dX11_goesTo_135 : decode cX11_goesTo 135 = .ok (.iconst 3, 1) := by decide +kernel
theorem dX11_goesTo_136 : decode cX11_goesTo 136 = .ok (.irem, 1) := by decide +kernel
theorem dX11_goesTo_137 : decode cX11_goesTo 137 = .ok (.iconst 2, 1) := by decide +kernel
theorem dX11_goesTo_138 : decode cX11_goesTo 138 = .ok (.if_icmp .ne 12, 3) := by decide +kernel
theorem dX11_goesTo_141 : decode cX11_goesTo 141 = .ok (.aload_n 0, 1) := by decide +kernel
theorem dX11_goesTo_142 : decode cX11_goesTo 142 = .ok (.iload_n 2, 1) := by decide +kernel
theorem dX11_goesTo_143 : decode cX11_goesTo 143 = .ok (.iload_n 3, 1) := by decide +kernel
theorem dX11_goesTo_144 : decode cX11_goesTo 144 = .ok (.invokevirtual 75, 3) := by decide +kernel
theorem dX11_goesTo_147 : decode cX11_goesTo 147 = .ok (.goto 11, 3) := by decide +kernel
theorem dX11_goesTo_150 : decode cX11_goesTo 150 = .ok (.aload_n 0, 1) := by decide +kernel
theorem dX11_goesTo_151 : decode cX11_goesTo 151 = .ok (.iload_n 2, 1) := by decide +kernel
theorem dX11_goesTo_152 : decode cX11_goesTo 152 = .ok (.iload_n 3, 1) := by decide +kernel
theorem dX11_goesTo_153 : decode cX11_goesTo 153 = .ok (.iload 4, 2) := by decide +kernel
theorem dX11_goesTo_155 : decode cX11_goesTo 155 = .ok (.invokevirtual 84, 3) := by decide +kernel
theorem dX11_goesTo_158 : decode cX11_goesTo 158 = .ok (.ireturn, 1) := by decide +kernel
theorem dX11_goesTo_159 : decode cX11_goesTo 159 = .ok (.iload 6, 2) := by decide +kernel
theorem dX11_goesTo_161 : decode cX11_goesTo 161 = .ok (.iload_n 2, 1) := by decide +kernel
theorem dX11_goesTo_162 : decode cX11_goesTo 162 = .ok (.if_icmp .eq 8, 3) := by decide +kernel
theorem dX11_goesTo_165 : decode cX11_goesTo 165 = .ok (.iload 6, 2) := by decide +kernel
theorem dX11_goesTo_167 : decode cX11_goesTo 167 = .ok (.goto 9, 3) := by decide +kernel
theorem dX11_goesTo_170 : decode cX11_goesTo 170 = .ok (.aload_n 0, 1) := by decide +kernel
theorem dX11_goesTo_171 : decode cX11_goesTo 171 = .ok (.iload_n 2, 1) := by decide +kernel
theorem dX11_goesTo_172 : decode cX11_goesTo 172 = .ok (.iload_n 3, 1) := by decide +kernel
theorem dX11_goesTo_173 : decode cX11_goesTo 173 = .ok (.invokevirtual 75, 3) := by decide +kernel
theorem dX11_goesTo_176 : decode cX11_goesTo 176 = .ok (.ireturn, 1) := by decide +kernel
theorem dX11_isLosing_0 : decode cX11_isLosing 0 = .ok (.iload_n 0, 1) := by decide +kernel
theorem dX11_isLosing_1 : decode cX11_isLosing 1 = .ok (.iconst 1, 1) := by decide +kernel
theorem dX11_isLosing_2 : decode cX11_isLosing 2 = .ok (.if_icmp .eq 9, 3) := by decide +kernel
theorem dX11_isLosing_5 : decode cX11_isLosing 5 = .ok (.iload_n 0, 1) := by decide +kernel
theorem dX11_isLosing_6 : decode cX11_isLosing 6 = .ok (.bipush 7, 2) := by decide +kernel
theorem dX11_isLosing_8 : decode cX11_isLosing 8 = .ok (.if_icmp .ne 7, 3) := by decide +kernel
theorem dX11_isLosing_11 : decode cX11_isLosing 11 = .ok (.iconst 1, 1) := by decide +kernel
theorem dX11_isLosing_12 : decode cX11_isLosing 12 = .ok (.goto 4, 3) := by decide +kernel
theorem dX11_isLosing_15 : decode cX11_isLosing 15 = .ok (.iconst 0, 1) := by decide +kernel
theorem dX11_isLosing_16 : decode cX11_isLosing 16 = .ok (.ireturn, 1) := by decide +kernel
theorem dX11_cellOf_0 : decode cX11_cellOf 0 = .ok (.iload_n 1, 1) := by decide +kernel
theorem dX11_cellOf_1 : decode cX11_cellOf 1 = .ok (.invokestatic 88, 3) := by decide +kernel
theorem dX11_cellOf_4 : decode cX11_cellOf 4 = .ok (.ifCond .eq 15, 3) := by decide +kernel
theorem dX11_cellOf_7 : decode cX11_cellOf 7 = .ok (.iload_n 2, 1) := by decide +kernel
theorem dX11_cellOf_8 : decode cX11_cellOf 8 = .ok (.i2l, 1) := by decide +kernel
theorem dX11_cellOf_9 : decode cX11_cellOf 9 = .ok (.lconst 0, 1) := by decide +kernel
theorem dX11_cellOf_10 : decode cX11_cellOf 10 = .ok (.ldc2_w 92, 3) := by decide +kernel
theorem dX11_cellOf_13 : decode cX11_cellOf 13 = .ok (.invokestatic 43, 3) := by decide +kernel
theorem dX11_cellOf_16 : decode cX11_cellOf 16 = .ok (.ifCond .ne 10, 3) := by decide +kernel
theorem dX11_cellOf_19 : decode cX11_cellOf 19 = .ok (.aload_n 0, 1) := by decide +kernel
theorem dX11_cellOf_20 : decode cX11_cellOf 20 = .ok (.ldc 40, 2) := by decide +kernel
theorem dX11_cellOf_22 : decode cX11_cellOf 22 = .ok (.invokevirtual 94, 3) := by decide +kernel
theorem dX11_cellOf_25 : decode cX11_cellOf 25 = .ok (.ireturn, 1) := by decide +kernel
theorem dX11_cellOf_26 : decode cX11_cellOf 26 = .ok (.iload_n 2, 1) := by decide +kernel
theorem dX11_cellOf_27 : decode cX11_cellOf 27 = .ok (.iconst 3, 1) := by decide +kernel
theorem dX11_cellOf_28 : decode cX11_cellOf 28 = .ok (.if_icmp .ge 43, 3) := by decide +kernel
theorem dX11_cellOf_31 : decode cX11_cellOf 31 = .ok (.iload_n 2, 1) := by decide +kernel
theorem dX11_cellOf_32 : decode cX11_cellOf 32 = .ok (.ifCond .ne 15, 3) := by decide +kernel
theorem dX11_cellOf_35 : decode cX11_cellOf 35 = .ok (.aload_n 0, 1) := by decide +kernel
theorem dX11_cellOf_36 : decode cX11_cellOf 36 = .ok (.getfield 9, 3) := by decide +kernel
theorem dX11_cellOf_39 : decode cX11_cellOf 39 = .ok (.bipush 18, 2) := by decide +kernel
theorem dX11_cellOf_41 : decode cX11_cellOf 41 = .ok (.iload_n 1, 1) := by decide +kernel
theorem dX11_cellOf_42 : decode cX11_cellOf 42 = .ok (.iadd, 1) := by decide +kernel
theorem dX11_cellOf_43 : decode cX11_cellOf 43 = .ok (.iaload, 1) := by decide +kernel
theorem dX11_cellOf_44 : decode cX11_cellOf 44 = .ok (.goto 26, 3) := by decide +kernel
theorem dX11_cellOf_47 : decode cX11_cellOf 47 = .ok (.iload_n 2, 1) := by decide +kernel
theorem dX11_cellOf_48 : decode cX11_cellOf 48 = .ok (.iconst 1, 1) := by decide +kernel
theorem dX11_cellOf_49 : decode cX11_cellOf 49 = .ok (.if_icmp .ne 16, 3) := by decide +kernel
theorem dX11_cellOf_52 : decode cX11_cellOf 52 = .ok (.aload_n 0, 1) := by decide +kernel
theorem dX11_cellOf_53 : decode cX11_cellOf 53 = .ok (.getfield 9, 3) := by decide +kernel
theorem dX11_cellOf_56 : decode cX11_cellOf 56 = .ok (.sipush 210, 3) := by decide +kernel
theorem dX11_cellOf_59 : decode cX11_cellOf 59 = .ok (.iload_n 1, 1) := by decide +kernel
theorem dX11_cellOf_60 : decode cX11_cellOf 60 = .ok (.iadd, 1) := by decide +kernel
theorem dX11_cellOf_61 : decode cX11_cellOf 61 = .ok (.iaload, 1) := by decide +kernel
theorem dX11_cellOf_62 : decode cX11_cellOf 62 = .ok (.goto 8, 3) := by decide +kernel
theorem dX11_cellOf_65 : decode cX11_cellOf 65 = .ok (.aload_n 0, 1) := by decide +kernel
theorem dX11_cellOf_66 : decode cX11_cellOf 66 = .ok (.iload_n 1, 1) := by decide +kernel
theorem dX11_cellOf_67 : decode cX11_cellOf 67 = .ok (.invokevirtual 65, 3) := by decide +kernel
theorem dX11_cellOf_70 : decode cX11_cellOf 70 = .ok (.ireturn, 1) := by decide +kernel
theorem dX11_cellOf_71 : decode cX11_cellOf 71 = .ok (.iconst 0, 1) := by decide +kernel
theorem dX11_cellOf_72 : decode cX11_cellOf 72 = .ok (.istore_n 3, 1) := by decide +kernel
theorem dX11_cellOf_73 : decode cX11_cellOf 73 = .ok (.iload_n 3, 1) := by decide +kernel
theorem dX11_cellOf_74 : decode cX11_cellOf 74 = .ok (.bipush 8, 2) := by decide +kernel
theorem dX11_cellOf_76 : decode cX11_cellOf 76 = .ok (.if_icmp .ge 30, 3) := by decide +kernel
theorem dX11_cellOf_79 : decode cX11_cellOf 79 = .ok (.aload_n 0, 1) := by decide +kernel
theorem dX11_cellOf_80 : decode cX11_cellOf 80 = .ok (.iload_n 3, 1) := by decide +kernel
theorem dX11_cellOf_81 : decode cX11_cellOf 81 = .ok (.iconst 0, 1) := by decide +kernel
theorem dX11_cellOf_82 : decode cX11_cellOf 82 = .ok (.invokevirtual 53, 3) := by decide +kernel
theorem dX11_cellOf_85 : decode cX11_cellOf 85 = .ok (.ifCond .lt 15, 3) := by decide +kernel
theorem dX11_cellOf_88 : decode cX11_cellOf 88 = .ok (.aload_n 0, 1) := by decide +kernel
theorem dX11_cellOf_89 : decode cX11_cellOf 89 = .ok (.iload_n 3, 1) := by decide +kernel
theorem dX11_cellOf_90 : decode cX11_cellOf 90 = .ok (.iconst 1, 1) := by decide +kernel
theorem dX11_cellOf_91 : decode cX11_cellOf 91 = .ok (.invokevirtual 53, 3) := by decide +kernel
theorem dX11_cellOf_94 : decode cX11_cellOf 94 = .ok (.iload_n 1, 1) := by decide +kernel
theorem dX11_cellOf_95 : decode cX11_cellOf 95 = .ok (.if_icmp .ne 5, 3) := by decide +kernel
theorem dX11_cellOf_98 : decode cX11_cellOf 98 = .ok (.iload_n 3, 1) := by decide +kernel
theorem dX11_cellOf_99 : decode cX11_cellOf 99 = .ok (.ireturn, 1) := by decide +kernel
theorem dX11_cellOf_100 : decode cX11_cellOf 100 = .ok (.iinc 3 1, 3) := by decide +kernel
theorem dX11_cellOf_103 : decode cX11_cellOf 103 = .ok (.goto (-30), 3) := by decide +kernel
theorem dX11_cellOf_106 : decode cX11_cellOf 106 = .ok (.iconst (-1), 1) := by decide +kernel
theorem dX11_cellOf_107 : decode cX11_cellOf 107 = .ok (.ireturn, 1) := by decide +kernel
theorem dX11_dirt_0 : decode cX11_dirt 0 = .ok (.iload_n 1, 1) := by decide +kernel
theorem dX11_dirt_1 : decode cX11_dirt 1 = .ok (.invokestatic 88, 3) := by decide +kernel
theorem dX11_dirt_4 : decode cX11_dirt 4 = .ok (.ifCond .eq 27, 3) := by decide +kernel
theorem dX11_dirt_7 : decode cX11_dirt 7 = .ok (.iload_n 2, 1) := by decide +kernel
theorem dX11_dirt_8 : decode cX11_dirt 8 = .ok (.i2l, 1) := by decide +kernel
theorem dX11_dirt_9 : decode cX11_dirt 9 = .ok (.lconst 0, 1) := by decide +kernel
theorem dX11_dirt_10 : decode cX11_dirt 10 = .ok (.ldc2_w 97, 3) := by decide +kernel
theorem dX11_dirt_13 : decode cX11_dirt 13 = .ok (.invokestatic 43, 3) := by decide +kernel
theorem dX11_dirt_16 : decode cX11_dirt 16 = .ok (.ifCond .eq 15, 3) := by decide +kernel
theorem dX11_dirt_19 : decode cX11_dirt 19 = .ok (.aload_n 0, 1) := by decide +kernel
theorem dX11_dirt_20 : decode cX11_dirt 20 = .ok (.bipush 18, 2) := by decide +kernel
theorem dX11_dirt_22 : decode cX11_dirt 22 = .ok (.iload_n 1, 1) := by decide +kernel
theorem dX11_dirt_23 : decode cX11_dirt 23 = .ok (.iadd, 1) := by decide +kernel
theorem dX11_dirt_24 : decode cX11_dirt 24 = .ok (.iload_n 2, 1) := by decide +kernel
theorem dX11_dirt_25 : decode cX11_dirt 25 = .ok (.invokevirtual 99, 3) := by decide +kernel
theorem dX11_dirt_28 : decode cX11_dirt 28 = .ok (.goto 9, 3) := by decide +kernel
theorem dX11_dirt_31 : decode cX11_dirt 31 = .ok (.aload_n 0, 1) := by decide +kernel
theorem dX11_dirt_32 : decode cX11_dirt 32 = .ok (.ldc 40, 2) := by decide +kernel
theorem dX11_dirt_34 : decode cX11_dirt 34 = .ok (.invokevirtual 94, 3) := by decide +kernel
theorem dX11_dirt_37 : decode cX11_dirt 37 = .ok (.ireturn, 1) := by decide +kernel
theorem dX11_set_0 : decode cX11_set 0 = .ok (.iload_n 1, 1) := by decide +kernel
theorem dX11_set_1 : decode cX11_set 1 = .ok (.i2l, 1) := by decide +kernel
theorem dX11_set_2 : decode cX11_set 2 = .ok (.lconst 0, 1) := by decide +kernel
theorem dX11_set_3 : decode cX11_set 3 = .ok (.ldc2_w 102, 3) := by decide +kernel
theorem dX11_set_6 : decode cX11_set 6 = .ok (.invokestatic 43, 3) := by decide +kernel
theorem dX11_set_9 : decode cX11_set 9 = .ok (.ifCond .eq 37, 3) := by decide +kernel
theorem dX11_set_12 : decode cX11_set 12 = .ok (.iload_n 2, 1) := by decide +kernel
theorem dX11_set_13 : decode cX11_set 13 = .ok (.i2l, 1) := by decide +kernel
theorem dX11_set_14 : decode cX11_set 14 = .ok (.iload_n 1, 1) := by decide +kernel
theorem dX11_set_15 : decode cX11_set 15 = .ok (.iconst 1, 1) := by decide +kernel
theorem dX11_set_16 : decode cX11_set 16 = .ok (.if_icmp .ne 9, 3) := by decide +kernel
theorem dX11_set_19 : decode cX11_set 19 = .ok (.ldc2_w 104, 3) := by decide +kernel
theorem dX11_set_22 : decode cX11_set 22 = .ok (.goto 4, 3) := by decide +kernel
theorem dX11_set_25 : decode cX11_set 25 = .ok (.lconst 0, 1) := by decide +kernel
theorem dX11_set_26 : decode cX11_set 26 = .ok (.iload_n 1, 1) := by decide +kernel
theorem dX11_set_27 : decode cX11_set 27 = .ok (.iconst 1, 1) := by decide +kernel
theorem dX11_set_28 : decode cX11_set 28 = .ok (.if_icmp .ne 9, 3) := by decide +kernel
theorem dX11_set_31 : decode cX11_set 31 = .ok (.ldc2_w 106, 3) := by decide +kernel
theorem dX11_set_34 : decode cX11_set 34 = .ok (.goto 6, 3) := by decide +kernel
theorem dX11_set_37 : decode cX11_set 37 = .ok (.ldc2_w 97, 3) := by decide +kernel
theorem dX11_set_40 : decode cX11_set 40 = .ok (.invokestatic 43, 3) := by decide +kernel
theorem dX11_set_43 : decode cX11_set 43 = .ok (.ifCond .ne 10, 3) := by decide +kernel
theorem dX11_set_46 : decode cX11_set 46 = .ok (.aload_n 0, 1) := by decide +kernel
theorem dX11_set_47 : decode cX11_set 47 = .ok (.ldc 40, 2) := by decide +kernel
theorem dX11_set_49 : decode cX11_set 49 = .ok (.invokevirtual 94, 3) := by decide +kernel
theorem dX11_set_52 : decode cX11_set 52 = .ok (.ireturn, 1) := by decide +kernel
theorem dX11_set_53 : decode cX11_set 53 = .ok (.aload_n 0, 1) := by decide +kernel
theorem dX11_set_54 : decode cX11_set 54 = .ok (.iconst 0, 1) := by decide +kernel
theorem dX11_set_55 : decode cX11_set 55 = .ok (.iload_n 1, 1) := by decide +kernel
