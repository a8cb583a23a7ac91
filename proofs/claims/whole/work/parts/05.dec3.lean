theorem dX11_set_56 : decode cX11_set 56 = .ok (.iadd, 1) := by decide +kernel
theorem dX11_set_57 : decode cX11_set 57 = .ok (.iload_n 2, 1) := by decide +kernel
theorem dX11_set_58 : decode cX11_set 58 = .ok (.invokevirtual 99, 3) := by decide +kernel
theorem dX11_set_61 : decode cX11_set 61 = .ok (.ireturn, 1) := by decide +kernel
theorem dX11_draw_0 : decode cX11_draw 0 = .ok (.aload_n 0, 1) := by decide +kernel
theorem dX11_draw_1 : decode cX11_draw 1 = .ok (.getfield 9, 3) := by decide +kernel
theorem dX11_draw_4 : decode cX11_draw 4 = .ok (.iconst 3, 1) := by decide +kernel
theorem dX11_draw_5 : decode cX11_draw 5 = .ok (.aload_n 0, 1) := by decide +kernel
theorem dX11_draw_6 : decode cX11_draw 6 = .ok (.getfield 9, 3) := by decide +kernel
theorem dX11_draw_9 : decode cX11_draw 9 = .ok (.iconst 3, 1) := by decide +kernel
theorem dX11_draw_10 : decode cX11_draw 10 = .ok (.iaload, 1) := by decide +kernel
theorem dX11_draw_11 : decode cX11_draw 11 = .ok (.ldc 108, 2) := by decide +kernel
theorem dX11_draw_13 : decode cX11_draw 13 = .ok (.imul, 1) := by decide +kernel
theorem dX11_draw_14 : decode cX11_draw 14 = .ok (.sipush 12345, 3) := by decide +kernel
theorem dX11_draw_17 : decode cX11_draw 17 = .ok (.iadd, 1) := by decide +kernel
theorem dX11_draw_18 : decode cX11_draw 18 = .ok (.iastore, 1) := by decide +kernel
theorem dX11_draw_19 : decode cX11_draw 19 = .ok (.aload_n 0, 1) := by decide +kernel
theorem dX11_draw_20 : decode cX11_draw 20 = .ok (.getfield 9, 3) := by decide +kernel
theorem dX11_draw_23 : decode cX11_draw 23 = .ok (.iconst 3, 1) := by decide +kernel
theorem dX11_draw_24 : decode cX11_draw 24 = .ok (.iaload, 1) := by decide +kernel
theorem dX11_draw_25 : decode cX11_draw 25 = .ok (.bipush 8, 2) := by decide +kernel
theorem dX11_draw_27 : decode cX11_draw 27 = .ok (.iushr, 1) := by decide +kernel
theorem dX11_draw_28 : decode cX11_draw 28 = .ok (.ireturn, 1) := by decide +kernel
theorem dX11_dirty_0 : decode cX11_dirty 0 = .ok (.iconst 0, 1) := by decide +kernel
theorem dX11_dirty_1 : decode cX11_dirty 1 = .ok (.istore_n 1, 1) := by decide +kernel
theorem dX11_dirty_2 : decode cX11_dirty 2 = .ok (.iconst 0, 1) := by decide +kernel
theorem dX11_dirty_3 : decode cX11_dirty 3 = .ok (.istore_n 2, 1) := by decide +kernel
theorem dX11_dirty_4 : decode cX11_dirty 4 = .ok (.iload_n 2, 1) := by decide +kernel
theorem dX11_dirty_5 : decode cX11_dirty 5 = .ok (.sipush 192, 3) := by decide +kernel
theorem dX11_dirty_8 : decode cX11_dirty 8 = .ok (.if_icmp .ge 29, 3) := by decide +kernel
theorem dX11_dirty_11 : decode cX11_dirty 11 = .ok (.iload_n 1, 1) := by decide +kernel
theorem dX11_dirty_12 : decode cX11_dirty 12 = .ok (.aload_n 0, 1) := by decide +kernel
theorem dX11_dirty_13 : decode cX11_dirty 13 = .ok (.getfield 9, 3) := by decide +kernel
theorem dX11_dirty_16 : decode cX11_dirty 16 = .ok (.bipush 18, 2) := by decide +kernel
theorem dX11_dirty_18 : decode cX11_dirty 18 = .ok (.iload_n 2, 1) := by decide +kernel
theorem dX11_dirty_19 : decode cX11_dirty 19 = .ok (.iadd, 1) := by decide +kernel
theorem dX11_dirty_20 : decode cX11_dirty 20 = .ok (.iaload, 1) := by decide +kernel
theorem dX11_dirty_21 : decode cX11_dirty 21 = .ok (.ifCond .le 7, 3) := by decide +kernel
theorem dX11_dirty_24 : decode cX11_dirty 24 = .ok (.iconst 1, 1) := by decide +kernel
theorem dX11_dirty_25 : decode cX11_dirty 25 = .ok (.goto 4, 3) := by decide +kernel
theorem dX11_dirty_28 : decode cX11_dirty 28 = .ok (.iconst 0, 1) := by decide +kernel
theorem dX11_dirty_29 : decode cX11_dirty 29 = .ok (.iadd, 1) := by decide +kernel
theorem dX11_dirty_30 : decode cX11_dirty 30 = .ok (.istore_n 1, 1) := by decide +kernel
theorem dX11_dirty_31 : decode cX11_dirty 31 = .ok (.iinc 2 1, 3) := by decide +kernel
theorem dX11_dirty_34 : decode cX11_dirty 34 = .ok (.goto (-30), 3) := by decide +kernel
theorem dX11_dirty_37 : decode cX11_dirty 37 = .ok (.iload_n 1, 1) := by decide +kernel
theorem dX11_dirty_38 : decode cX11_dirty 38 = .ok (.ireturn, 1) := by decide +kernel
theorem dX11_scatter_0 : decode cX11_scatter 0 = .ok (.iload_n 1, 1) := by decide +kernel
theorem dX11_scatter_1 : decode cX11_scatter 1 = .ok (.i2l, 1) := by decide +kernel
theorem dX11_scatter_2 : decode cX11_scatter 2 = .ok (.lconst 1, 1) := by decide +kernel
theorem dX11_scatter_3 : decode cX11_scatter 3 = .ok (.ldc2_w 109, 3) := by decide +kernel
theorem dX11_scatter_6 : decode cX11_scatter 6 = .ok (.invokestatic 43, 3) := by decide +kernel
theorem dX11_scatter_9 : decode cX11_scatter 9 = .ok (.ifCond .ne 10, 3) := by decide +kernel
theorem dX11_scatter_12 : decode cX11_scatter 12 = .ok (.aload_n 0, 1) := by decide +kernel
theorem dX11_scatter_13 : decode cX11_scatter 13 = .ok (.ldc 40, 2) := by decide +kernel
theorem dX11_scatter_15 : decode cX11_scatter 15 = .ok (.invokevirtual 94, 3) := by decide +kernel
theorem dX11_scatter_18 : decode cX11_scatter 18 = .ok (.ireturn, 1) := by decide +kernel
theorem dX11_scatter_19 : decode cX11_scatter 19 = .ok (.iconst 0, 1) := by decide +kernel
theorem dX11_scatter_20 : decode cX11_scatter 20 = .ok (.istore_n 2, 1) := by decide +kernel
theorem dX11_scatter_21 : decode cX11_scatter 21 = .ok (.iload_n 2, 1) := by decide +kernel
theorem dX11_scatter_22 : decode cX11_scatter 22 = .ok (.iload_n 1, 1) := by decide +kernel
theorem dX11_scatter_23 : decode cX11_scatter 23 = .ok (.if_icmp .ge 34, 3) := by decide +kernel
theorem dX11_scatter_26 : decode cX11_scatter 26 = .ok (.aload_n 0, 1) := by decide +kernel
theorem dX11_scatter_27 : decode cX11_scatter 27 = .ok (.invokevirtual 111, 3) := by decide +kernel
theorem dX11_scatter_30 : decode cX11_scatter 30 = .ok (.sipush 192, 3) := by decide +kernel
theorem dX11_scatter_33 : decode cX11_scatter 33 = .ok (.irem, 1) := by decide +kernel
theorem dX11_scatter_34 : decode cX11_scatter 34 = .ok (.istore_n 3, 1) := by decide +kernel
theorem dX11_scatter_35 : decode cX11_scatter 35 = .ok (.aload_n 0, 1) := by decide +kernel
theorem dX11_scatter_36 : decode cX11_scatter 36 = .ok (.getfield 9, 3) := by decide +kernel
theorem dX11_scatter_39 : decode cX11_scatter 39 = .ok (.bipush 18, 2) := by decide +kernel
theorem dX11_scatter_41 : decode cX11_scatter 41 = .ok (.iload_n 3, 1) := by decide +kernel
theorem dX11_scatter_42 : decode cX11_scatter 42 = .ok (.iadd, 1) := by decide +kernel
theorem dX11_scatter_43 : decode cX11_scatter 43 = .ok (.aload_n 0, 1) := by decide +kernel
theorem dX11_scatter_44 : decode cX11_scatter 44 = .ok (.invokevirtual 111, 3) := by decide +kernel
theorem dX11_scatter_47 : decode cX11_scatter 47 = .ok (.bipush 10, 2) := by decide +kernel
theorem dX11_scatter_49 : decode cX11_scatter 49 = .ok (.irem, 1) := by decide +kernel
theorem dX11_scatter_50 : decode cX11_scatter 50 = .ok (.iastore, 1) := by decide +kernel
theorem dX11_scatter_51 : decode cX11_scatter 51 = .ok (.iinc 2 1, 3) := by decide +kernel
theorem dX11_scatter_54 : decode cX11_scatter 54 = .ok (.goto (-33), 3) := by decide +kernel
theorem dX11_scatter_57 : decode cX11_scatter 57 = .ok (.aload_n 0, 1) := by decide +kernel
theorem dX11_scatter_58 : decode cX11_scatter 58 = .ok (.invokevirtual 115, 3) := by decide +kernel
theorem dX11_scatter_61 : decode cX11_scatter 61 = .ok (.ireturn, 1) := by decide +kernel
theorem dX11_clean_0 : decode cX11_clean 0 = .ok (.iload_n 1, 1) := by decide +kernel
theorem dX11_clean_1 : decode cX11_clean 1 = .ok (.i2l, 1) := by decide +kernel
theorem dX11_clean_2 : decode cX11_clean 2 = .ok (.lconst 0, 1) := by decide +kernel
theorem dX11_clean_3 : decode cX11_clean 3 = .ok (.ldc2_w 118, 3) := by decide +kernel
theorem dX11_clean_6 : decode cX11_clean 6 = .ok (.invokestatic 43, 3) := by decide +kernel
theorem dX11_clean_9 : decode cX11_clean 9 = .ok (.ifCond .ne 10, 3) := by decide +kernel
theorem dX11_clean_12 : decode cX11_clean 12 = .ok (.aload_n 0, 1) := by decide +kernel
theorem dX11_clean_13 : decode cX11_clean 13 = .ok (.ldc 40, 2) := by decide +kernel
theorem dX11_clean_15 : decode cX11_clean 15 = .ok (.invokevirtual 94, 3) := by decide +kernel
theorem dX11_clean_18 : decode cX11_clean 18 = .ok (.ireturn, 1) := by decide +kernel
theorem dX11_clean_19 : decode cX11_clean 19 = .ok (.iconst 0, 1) := by decide +kernel
theorem dX11_clean_20 : decode cX11_clean 20 = .ok (.istore_n 2, 1) := by decide +kernel
theorem dX11_clean_21 : decode cX11_clean 21 = .ok (.bipush 12, 2) := by decide +kernel
theorem dX11_clean_23 : decode cX11_clean 23 = .ok (.iload_n 1, 1) := by decide +kernel
theorem dX11_clean_24 : decode cX11_clean 24 = .ok (.imul, 1) := by decide +kernel
theorem dX11_clean_25 : decode cX11_clean 25 = .ok (.istore_n 3, 1) := by decide +kernel
theorem dX11_clean_26 : decode cX11_clean 26 = .ok (.iload_n 3, 1) := by decide +kernel
theorem dX11_clean_27 : decode cX11_clean 27 = .ok (.bipush 12, 2) := by decide +kernel
theorem dX11_clean_29 : decode cX11_clean 29 = .ok (.iload_n 1, 1) := by decide +kernel
theorem dX11_clean_30 : decode cX11_clean 30 = .ok (.imul, 1) := by decide +kernel
theorem dX11_clean_31 : decode cX11_clean 31 = .ok (.bipush 12, 2) := by decide +kernel
theorem dX11_clean_33 : decode cX11_clean 33 = .ok (.iadd, 1) := by decide +kernel
theorem dX11_clean_34 : decode cX11_clean 34 = .ok (.if_icmp .ge 50, 3) := by decide +kernel
theorem dX11_clean_37 : decode cX11_clean 37 = .ok (.iload_n 2, 1) := by decide +kernel
theorem dX11_clean_38 : decode cX11_clean 38 = .ok (.aload_n 0, 1) := by decide +kernel
theorem dX11_clean_39 : decode cX11_clean 39 = .ok (.getfield 9, 3) := by decide +kernel
theorem dX11_clean_42 : decode cX11_clean 42 = .ok (.bipush 18, 2) := by decide +kernel
theorem dX11_clean_44 : decode cX11_clean 44 = .ok (.iload_n 3, 1) := by decide +kernel
theorem dX11_clean_45 : decode cX11_clean 45 = .ok (.iadd, 1) := by decide +kernel
theorem dX11_clean_46 : decode cX11_clean 46 = .ok (.iaload, 1) := by decide +kernel
theorem dX11_clean_47 : decode cX11_clean 47 = .ok (.ifCond .le 7, 3) := by decide +kernel
theorem dX11_clean_50 : decode cX11_clean 50 = .ok (.iconst 1, 1) := by decide +kernel
theorem dX11_clean_51 : decode cX11_clean 51 = .ok (.goto 4, 3) := by decide +kernel
theorem dX11_clean_54 : decode cX11_clean 54 = .ok (.iconst 0, 1) := by decide +kernel
theorem dX11_clean_55 : decode cX11_clean 55 = .ok (.iadd, 1) := by decide +kernel
theorem dX11_clean_56 : decode cX11_clean 56 = .ok (.istore_n 2, 1) := by decide +kernel
theorem dX11_clean_57 : decode cX11_clean 57 = .ok (.aload_n 0, 1) := by decide +kernel
theorem dX11_clean_58 : decode cX11_clean 58 = .ok (.getfield 9, 3) := by decide +kernel
theorem dX11_clean_61 : decode cX11_clean 61 = .ok (.bipush 18, 2) := by decide +kernel
theorem dX11_clean_63 : decode cX11_clean 63 = .ok (.iload_n 3, 1) := by decide +kernel
theorem dX11_clean_64 : decode cX11_clean 64 = .ok (.iadd, 1) := by decide +kernel
theorem dX11_clean_65 : decode cX11_clean 65 = .ok (.iconst 0, 1) := by decide +kernel
theorem dX11_clean_66 : decode cX11_clean 66 = .ok (.iastore, 1) := by decide +kernel
theorem dX11_clean_67 : decode cX11_clean 67 = .ok (.aload_n 0, 1) := by decide +kernel
theorem dX11_clean_68 : decode cX11_clean 68 = .ok (.getfield 9, 3) := by decide +kernel
theorem dX11_clean_71 : decode cX11_clean 71 = .ok (.sipush 210, 3) := by decide +kernel
theorem dX11_clean_74 : decode cX11_clean 74 = .ok (.iload_n 3, 1) := by decide +kernel
theorem dX11_clean_75 : decode cX11_clean 75 = .ok (.iadd, 1) := by decide +kernel
theorem dX11_clean_76 : decode cX11_clean 76 = .ok (.iconst 0, 1) := by decide +kernel
theorem dX11_clean_77 : decode cX11_clean 77 = .ok (.iastore, 1) := by decide +kernel
theorem dX11_clean_78 : decode cX11_clean 78 = .ok (.iinc 3 1, 3) := by decide +kernel
theorem dX11_clean_81 : decode cX11_clean 81 = .ok (.goto (-55), 3) := by decide +kernel
theorem dX11_clean_84 : decode cX11_clean 84 = .ok (.iload_n 2, 1) := by decide +kernel
theorem dX11_clean_85 : decode cX11_clean 85 = .ok (.ireturn, 1) := by decide +kernel
theorem dX11_fingers_0 : decode cX11_fingers 0 = .ok (.iconst 0, 1) := by decide +kernel
theorem dX11_fingers_1 : decode cX11_fingers 1 = .ok (.istore_n 2, 1) := by decide +kernel
theorem dX11_fingers_2 : decode cX11_fingers 2 = .ok (.iload_n 1, 1) := by decide +kernel
theorem dX11_fingers_3 : decode cX11_fingers 3 = .ok (.istore_n 3, 1) := by decide +kernel
theorem dX11_fingers_4 : decode cX11_fingers 4 = .ok (.iload_n 3, 1) := by decide +kernel
theorem dX11_fingers_5 : decode cX11_fingers 5 = .ok (.sipush 192, 3) := by decide +kernel
theorem dX11_fingers_8 : decode cX11_fingers 8 = .ok (.if_icmp .ge 33, 3) := by decide +kernel
theorem dX11_fingers_11 : decode cX11_fingers 11 = .ok (.iload_n 2, 1) := by decide +kernel
theorem dX11_fingers_12 : decode cX11_fingers 12 = .ok (.aload_n 0, 1) := by decide +kernel
theorem dX11_fingers_13 : decode cX11_fingers 13 = .ok (.sipush 210, 3) := by decide +kernel
theorem dX11_fingers_16 : decode cX11_fingers 16 = .ok (.iload_n 3, 1) := by decide +kernel
theorem dX11_fingers_17 : decode cX11_fingers 17 = .ok (.iadd, 1) := by decide +kernel
theorem dX11_fingers_18 : decode cX11_fingers 18 = .ok (.bipush 99, 2) := by decide +kernel
theorem dX11_fingers_20 : decode cX11_fingers 20 = .ok (.invokevirtual 99, 3) := by decide +kernel
theorem dX11_fingers_23 : decode cX11_fingers 23 = .ok (.bipush 99, 2) := by decide +kernel
theorem dX11_fingers_25 : decode cX11_fingers 25 = .ok (.if_icmp .ne 7, 3) := by decide +kernel
theorem dX11_fingers_28 : decode cX11_fingers 28 = .ok (.iconst 0, 1) := by decide +kernel
theorem dX11_fingers_29 : decode cX11_fingers 29 = .ok (.goto 4, 3) := by decide +kernel
theorem dX11_fingers_32 : decode cX11_fingers 32 = .ok (.iconst 1, 1) := by decide +kernel
theorem dX11_fingers_33 : decode cX11_fingers 33 = .ok (.iadd, 1) := by decide +kernel
theorem dX11_fingers_34 : decode cX11_fingers 34 = .ok (.istore_n 2, 1) := by decide +kernel
theorem dX11_fingers_35 : decode cX11_fingers 35 = .ok (.iinc 3 12, 3) := by decide +kernel
theorem dX11_fingers_38 : decode cX11_fingers 38 = .ok (.goto (-34), 3) := by decide +kernel
theorem dX11_fingers_41 : decode cX11_fingers 41 = .ok (.iload_n 2, 1) := by decide +kernel
theorem dX11_fingers_42 : decode cX11_fingers 42 = .ok (.ireturn, 1) := by decide +kernel
theorem dX11_finger_0 : decode cX11_finger 0 = .ok (.iload_n 1, 1) := by decide +kernel
theorem dX11_finger_1 : decode cX11_finger 1 = .ok (.invokestatic 120, 3) := by decide +kernel
theorem dX11_finger_4 : decode cX11_finger 4 = .ok (.ifCond .eq 11, 3) := by decide +kernel
theorem dX11_finger_7 : decode cX11_finger 7 = .ok (.aload_n 0, 1) := by decide +kernel
theorem dX11_finger_8 : decode cX11_finger 8 = .ok (.iload_n 1, 1) := by decide +kernel
theorem dX11_finger_9 : decode cX11_finger 9 = .ok (.invokevirtual 123, 3) := by decide +kernel
theorem dX11_finger_12 : decode cX11_finger 12 = .ok (.goto 9, 3) := by decide +kernel
theorem dX11_finger_15 : decode cX11_finger 15 = .ok (.aload_n 0, 1) := by decide +kernel
theorem dX11_finger_16 : decode cX11_finger 16 = .ok (.ldc 40, 2) := by decide +kernel
theorem dX11_finger_18 : decode cX11_finger 18 = .ok (.invokevirtual 94, 3) := by decide +kernel
theorem dX11_finger_21 : decode cX11_finger 21 = .ok (.ireturn, 1) := by decide +kernel
theorem dX11_fades_0 : decode cX11_fades 0 = .ok (.iload_n 1, 1) := by decide +kernel
theorem dX11_fades_1 : decode cX11_fades 1 = .ok (.invokestatic 88, 3) := by decide +kernel
theorem dX11_fades_4 : decode cX11_fades 4 = .ok (.ifCond .ne 10, 3) := by decide +kernel
theorem dX11_fades_7 : decode cX11_fades 7 = .ok (.aload_n 0, 1) := by decide +kernel
theorem dX11_fades_8 : decode cX11_fades 8 = .ok (.ldc 40, 2) := by decide +kernel
theorem dX11_fades_10 : decode cX11_fades 10 = .ok (.invokevirtual 94, 3) := by decide +kernel
theorem dX11_fades_13 : decode cX11_fades 13 = .ok (.ireturn, 1) := by decide +kernel
theorem dX11_fades_14 : decode cX11_fades 14 = .ok (.aload_n 0, 1) := by decide +kernel
theorem dX11_fades_15 : decode cX11_fades 15 = .ok (.getfield 9, 3) := by decide +kernel
theorem dX11_fades_18 : decode cX11_fades 18 = .ok (.sipush 210, 3) := by decide +kernel
theorem dX11_fades_21 : decode cX11_fades 21 = .ok (.iload_n 1, 1) := by decide +kernel
theorem dX11_fades_22 : decode cX11_fades 22 = .ok (.iadd, 1) := by decide +kernel
theorem dX11_fades_23 : decode cX11_fades 23 = .ok (.iaload, 1) := by decide +kernel
theorem dX11_fades_24 : decode cX11_fades 24 = .ok (.istore_n 2, 1) := by decide +kernel
theorem dX11_fades_25 : decode cX11_fades 25 = .ok (.iload_n 2, 1) := by decide +kernel
theorem dX11_fades_26 : decode cX11_fades 26 = .ok (.ifCond .ne 5, 3) := by decide +kernel
theorem dX11_fades_29 : decode cX11_fades 29 = .ok (.iconst 0, 1) := by decide +kernel
theorem dX11_fades_30 : decode cX11_fades 30 = .ok (.ireturn, 1) := by decide +kernel
theorem dX11_fades_31 : decode cX11_fades 31 = .ok (.aload_n 0, 1) := by decide +kernel
theorem dX11_fades_32 : decode cX11_fades 32 = .ok (.getfield 9, 3) := by decide +kernel
theorem dX11_fades_35 : decode cX11_fades 35 = .ok (.iconst 2, 1) := by decide +kernel
theorem dX11_fades_36 : decode cX11_fades 36 = .ok (.iaload, 1) := by decide +kernel
theorem dX11_fades_37 : decode cX11_fades 37 = .ok (.ifCond .ne 12, 3) := by decide +kernel
theorem dX11_fades_40 : decode cX11_fades 40 = .ok (.aload_n 0, 1) := by decide +kernel
theorem dX11_fades_41 : decode cX11_fades 41 = .ok (.ldc 126, 2) := by decide +kernel
theorem dX11_fades_43 : decode cX11_fades 43 = .ok (.invokevirtual 94, 3) := by decide +kernel
theorem dX11_fades_46 : decode cX11_fades 46 = .ok (.goto 20, 3) := by decide +kernel
theorem dX11_fades_49 : decode cX11_fades 49 = .ok (.iload_n 2, 1) := by decide +kernel
theorem dX11_fades_50 : decode cX11_fades 50 = .ok (.aload_n 0, 1) := by decide +kernel
theorem dX11_fades_51 : decode cX11_fades 51 = .ok (.getfield 9, 3) := by decide +kernel
theorem dX11_fades_54 : decode cX11_fades 54 = .ok (.iconst 2, 1) := by decide +kernel
theorem dX11_fades_55 : decode cX11_fades 55 = .ok (.iaload, 1) := by decide +kernel
theorem dX11_fades_56 : decode cX11_fades 56 = .ok (.iadd, 1) := by decide +kernel
theorem dX11_fades_57 : decode cX11_fades 57 = .ok (.iconst 1, 1) := by decide +kernel
theorem dX11_fades_58 : decode cX11_fades 58 = .ok (.isub, 1) := by decide +kernel
theorem dX11_fades_59 : decode cX11_fades 59 = .ok (.aload_n 0, 1) := by decide +kernel
theorem dX11_fades_60 : decode cX11_fades 60 = .ok (.getfield 9, 3) := by decide +kernel
theorem dX11_fades_63 : decode cX11_fades 63 = .ok (.iconst 2, 1) := by decide +kernel
theorem dX11_fades_64 : decode cX11_fades 64 = .ok (.iaload, 1) := by decide +kernel
theorem dX11_fades_65 : decode cX11_fades 65 = .ok (.idiv, 1) := by decide +kernel
theorem dX11_fades_66 : decode cX11_fades 66 = .ok (.ireturn, 1) := by decide +kernel
theorem dX11_comes_0 : decode cX11_comes 0 = .ok (.iconst 0, 1) := by decide +kernel
theorem dX11_comes_1 : decode cX11_comes 1 = .ok (.istore 4, 2) := by decide +kernel
theorem dX11_comes_3 : decode cX11_comes 3 = .ok (.iload 4, 2) := by decide +kernel
theorem dX11_comes_5 : decode cX11_comes 5 = .ok (.bipush 8, 2) := by decide +kernel
theorem dX11_comes_7 : decode cX11_comes 7 = .ok (.if_icmp .ge 99, 3) := by decide +kernel
theorem dX11_comes_10 : decode cX11_comes 10 = .ok (.aload_n 0, 1) := by decide +kernel
theorem dX11_comes_11 : decode cX11_comes 11 = .ok (.iload 4, 2) := by decide +kernel
theorem dX11_comes_13 : decode cX11_comes 13 = .ok (.iconst 0, 1) := by decide +kernel
theorem dX11_comes_14 : decode cX11_comes 14 = .ok (.invokevirtual 53, 3) := by decide +kernel
theorem dX11_comes_17 : decode cX11_comes 17 = .ok (.ifCond .lt 6, 3) := by decide +kernel
theorem dX11_comes_20 : decode cX11_comes 20 = .ok (.goto 80, 3) := by decide +kernel
theorem dX11_comes_23 : decode cX11_comes 23 = .ok (.aload_n 0, 1) := by decide +kernel
theorem dX11_comes_24 : decode cX11_comes 24 = .ok (.getfield 9, 3) := by decide +kernel
theorem dX11_comes_27 : decode cX11_comes 27 = .ok (.sipush 402, 3) := by decide +kernel
theorem dX11_comes_30 : decode cX11_comes 30 = .ok (.iconst 4, 1) := by decide +kernel
theorem dX11_comes_31 : decode cX11_comes 31 = .ok (.iload 4, 2) := by decide +kernel
theorem dX11_comes_33 : decode cX11_comes 33 = .ok (.imul, 1) := by decide +kernel
theorem dX11_comes_34 : decode cX11_comes 34 = .ok (.iadd, 1) := by decide +kernel
theorem dX11_comes_35 : decode cX11_comes 35 = .ok (.iload_n 1, 1) := by decide +kernel
theorem dX11_comes_36 : decode cX11_comes 36 = .ok (.iastore, 1) := by decide +kernel
theorem dX11_comes_37 : decode cX11_comes 37 = .ok (.aload_n 0, 1) := by decide +kernel
theorem dX11_comes_38 : decode cX11_comes 38 = .ok (.getfield 9, 3) := by decide +kernel
theorem dX11_comes_41 : decode cX11_comes 41 = .ok (.sipush 402, 3) := by decide +kernel
theorem dX11_comes_44 : decode cX11_comes 44 = .ok (.iconst 4, 1) := by decide +kernel
theorem dX11_comes_45 : decode cX11_comes 45 = .ok (.iload 4, 2) := by decide +kernel
theorem dX11_comes_47 : decode cX11_comes 47 = .ok (.imul, 1) := by decide +kernel
theorem dX11_comes_48 : decode cX11_comes 48 = .ok (.iadd, 1) := by decide +kernel
theorem dX11_comes_49 : decode cX11_comes 49 = .ok (.iconst 1, 1) := by decide +kernel
theorem dX11_comes_50 : decode cX11_comes 50 = .ok (.iadd, 1) := by decide +kernel
theorem dX11_comes_51 : decode cX11_comes 51 = .ok (.iload_n 2, 1) := by decide +kernel
theorem dX11_comes_52 : decode cX11_comes 52 = .ok (.iastore, 1) := by decide +kernel
theorem dX11_comes_53 : decode cX11_comes 53 = .ok (.aload_n 0, 1) := by decide +kernel
theorem dX11_comes_54 : decode cX11_comes 54 = .ok (.getfield 9, 3) := by decide +kernel
theorem dX11_comes_57 : decode cX11_comes 57 = .ok (.sipush 402, 3) := by decide +kernel
theorem dX11_comes_60 : decode cX11_comes 60 = .ok (.iconst 4, 1) := by decide +kernel
theorem dX11_comes_61 : decode cX11_comes 61 = .ok (.iload 4, 2) := by decide +kernel
theorem dX11_comes_63 : decode cX11_comes 63 = .ok (.imul, 1) := by decide +kernel
theorem dX11_comes_64 : decode cX11_comes 64 = .ok (.iadd, 1) := by decide +kernel
theorem dX11_comes_65 : decode cX11_comes 65 = .ok (.iconst 2, 1) := by decide +kernel
theorem dX11_comes_66 : decode cX11_comes 66 = .ok (.iadd, 1) := by decide +kernel
theorem dX11_comes_67 : decode cX11_comes 67 = .ok (.iload_n 3, 1) := by decide +kernel
theorem dX11_comes_68 : decode cX11_comes 68 = .ok (.iastore, 1) := by decide +kernel
theorem dX11_comes_69 : decode cX11_comes 69 = .ok (.aload_n 0, 1) := by decide +kernel
theorem dX11_comes_70 : decode cX11_comes 70 = .ok (.getfield 9, 3) := by decide +kernel
theorem dX11_comes_73 : decode cX11_comes 73 = .ok (.sipush 402, 3) := by decide +kernel
theorem dX11_comes_76 : decode cX11_comes 76 = .ok (.iconst 4, 1) := by decide +kernel
theorem dX11_comes_77 : decode cX11_comes 77 = .ok (.iload 4, 2) := by decide +kernel
theorem dX11_comes_79 : decode cX11_comes 79 = .ok (.imul, 1) := by decide +kernel
theorem dX11_comes_80 : decode cX11_comes 80 = .ok (.iadd, 1) := by decide +kernel
theorem dX11_comes_81 : decode cX11_comes 81 = .ok (.iconst 3, 1) := by decide +kernel
theorem dX11_comes_82 : decode cX11_comes 82 = .ok (.iadd, 1) := by decide +kernel
theorem dX11_comes_83 : decode cX11_comes 83 = .ok (.iconst 0, 1) := by decide +kernel
theorem dX11_comes_84 : decode cX11_comes 84 = .ok (.iastore, 1) := by decide +kernel
theorem dX11_comes_85 : decode cX11_comes 85 = .ok (.aload_n 0, 1) := by decide +kernel
theorem dX11_comes_86 : decode cX11_comes 86 = .ok (.getfield 9, 3) := by decide +kernel
theorem dX11_comes_89 : decode cX11_comes 89 = .ok (.sipush 210, 3) := by decide +kernel
theorem dX11_comes_92 : decode cX11_comes 92 = .ok (.iload_n 2, 1) := by decide +kernel
theorem dX11_comes_93 : decode cX11_comes 93 = .ok (.iadd, 1) := by decide +kernel
theorem dX11_comes_94 : decode cX11_comes 94 = .ok (.bipush 99, 2) := by decide +kernel
theorem dX11_comes_96 : decode cX11_comes 96 = .ok (.iastore, 1) := by decide +kernel
theorem dX11_comes_97 : decode cX11_comes 97 = .ok (.iload 4, 2) := by decide +kernel
theorem dX11_comes_99 : decode cX11_comes 99 = .ok (.ireturn, 1) := by decide +kernel
theorem dX11_comes_100 : decode cX11_comes 100 = .ok (.iinc 4 1, 3) := by decide +kernel
theorem dX11_comes_103 : decode cX11_comes 103 = .ok (.goto (-100), 3) := by decide +kernel
theorem dX11_comes_106 : decode cX11_comes 106 = .ok (.iconst (-1), 1) := by decide +kernel
theorem dX11_comes_107 : decode cX11_comes 107 = .ok (.ireturn, 1) := by decide +kernel
theorem dX11_drop_0 : decode cX11_drop 0 = .ok (.iload_n 1, 1) := by decide +kernel
theorem dX11_drop_1 : decode cX11_drop 1 = .ok (.invokestatic 127, 3) := by decide +kernel
theorem dX11_drop_4 : decode cX11_drop 4 = .ok (.ifCond .eq 17, 3) := by decide +kernel
theorem dX11_drop_7 : decode cX11_drop 7 = .ok (.iload_n 2, 1) := by decide +kernel
theorem dX11_drop_8 : decode cX11_drop 8 = .ok (.invokestatic 120, 3) := by decide +kernel
theorem dX11_drop_11 : decode cX11_drop 11 = .ok (.ifCond .eq 10, 3) := by decide +kernel
theorem dX11_drop_14 : decode cX11_drop 14 = .ok (.iload_n 3, 1) := by decide +kernel
theorem dX11_drop_15 : decode cX11_drop 15 = .ok (.invokestatic 130, 3) := by decide +kernel
theorem dX11_drop_18 : decode cX11_drop 18 = .ok (.ifCond .ne 10, 3) := by decide +kernel
theorem dX11_drop_21 : decode cX11_drop 21 = .ok (.aload_n 0, 1) := by decide +kernel
theorem dX11_drop_22 : decode cX11_drop 22 = .ok (.ldc 40, 2) := by decide +kernel
theorem dX11_drop_24 : decode cX11_drop 24 = .ok (.invokevirtual 94, 3) := by decide +kernel
theorem dX11_drop_27 : decode cX11_drop 27 = .ok (.ireturn, 1) := by decide +kernel
theorem dX11_drop_28 : decode cX11_drop 28 = .ok (.aload_n 0, 1) := by decide +kernel
theorem dX11_drop_29 : decode cX11_drop 29 = .ok (.iload_n 1, 1) := by decide +kernel
theorem dX11_drop_30 : decode cX11_drop 30 = .ok (.iload_n 2, 1) := by decide +kernel
theorem dX11_drop_31 : decode cX11_drop 31 = .ok (.iload_n 3, 1) := by decide +kernel
theorem dX11_drop_32 : decode cX11_drop 32 = .ok (.invokevirtual 133, 3) := by decide +kernel
theorem dX11_drop_35 : decode cX11_drop 35 = .ok (.istore 4, 2) := by decide +kernel
theorem dX11_drop_37 : decode cX11_drop 37 = .ok (.iload 4, 2) := by decide +kernel
theorem dX11_drop_39 : decode cX11_drop 39 = .ok (.ifCond .ge 12, 3) := by decide +kernel
theorem dX11_drop_42 : decode cX11_drop 42 = .ok (.aload_n 0, 1) := by decide +kernel
theorem dX11_drop_43 : decode cX11_drop 43 = .ok (.ldc 136, 2) := by decide +kernel
theorem dX11_drop_45 : decode cX11_drop 45 = .ok (.invokevirtual 94, 3) := by decide +kernel
theorem dX11_drop_48 : decode cX11_drop 48 = .ok (.goto 5, 3) := by decide +kernel
theorem dX11_drop_51 : decode cX11_drop 51 = .ok (.iload 4, 2) := by decide +kernel
theorem dX11_drop_53 : decode cX11_drop 53 = .ok (.ireturn, 1) := by decide +kernel
theorem dX11_dropOf_0 : decode cX11_dropOf 0 = .ok (.iload_n 1, 1) := by decide +kernel
theorem dX11_dropOf_1 : decode cX11_dropOf 1 = .ok (.i2l, 1) := by decide +kernel
theorem dX11_dropOf_2 : decode cX11_dropOf 2 = .ok (.lconst 0, 1) := by decide +kernel
theorem dX11_dropOf_3 : decode cX11_dropOf 3 = .ok (.ldc2_w 51, 3) := by decide +kernel
theorem dX11_dropOf_6 : decode cX11_dropOf 6 = .ok (.invokestatic 43, 3) := by decide +kernel
theorem dX11_dropOf_9 : decode cX11_dropOf 9 = .ok (.ifCond .eq 15, 3) := by decide +kernel
theorem dX11_dropOf_12 : decode cX11_dropOf 12 = .ok (.iload_n 2, 1) := by decide +kernel
theorem dX11_dropOf_13 : decode cX11_dropOf 13 = .ok (.i2l, 1) := by decide +kernel
theorem dX11_dropOf_14 : decode cX11_dropOf 14 = .ok (.lconst 0, 1) := by decide +kernel
theorem dX11_dropOf_15 : decode cX11_dropOf 15 = .ok (.ldc2_w 92, 3) := by decide +kernel
theorem dX11_dropOf_18 : decode cX11_dropOf 18 = .ok (.invokestatic 43, 3) := by decide +kernel
theorem dX11_dropOf_21 : decode cX11_dropOf 21 = .ok (.ifCond .ne 10, 3) := by decide +kernel
theorem dX11_dropOf_24 : decode cX11_dropOf 24 = .ok (.aload_n 0, 1) := by decide +kernel
theorem dX11_dropOf_25 : decode cX11_dropOf 25 = .ok (.ldc 40, 2) := by decide +kernel
theorem dX11_dropOf_27 : decode cX11_dropOf 27 = .ok (.invokevirtual 94, 3) := by decide +kernel
theorem dX11_dropOf_30 : decode cX11_dropOf 30 = .ok (.ireturn, 1) := by decide +kernel
theorem dX11_dropOf_31 : decode cX11_dropOf 31 = .ok (.aload_n 0, 1) := by decide +kernel
theorem dX11_dropOf_32 : decode cX11_dropOf 32 = .ok (.iload_n 1, 1) := by decide +kernel
theorem dX11_dropOf_33 : decode cX11_dropOf 33 = .ok (.invokevirtual 137, 3) := by decide +kernel
theorem dX11_dropOf_36 : decode cX11_dropOf 36 = .ok (.ifCond .eq 12, 3) := by decide +kernel
theorem dX11_dropOf_39 : decode cX11_dropOf 39 = .ok (.aload_n 0, 1) := by decide +kernel
theorem dX11_dropOf_40 : decode cX11_dropOf 40 = .ok (.iload_n 1, 1) := by decide +kernel
theorem dX11_dropOf_41 : decode cX11_dropOf 41 = .ok (.iload_n 2, 1) := by decide +kernel
theorem dX11_dropOf_42 : decode cX11_dropOf 42 = .ok (.invokevirtual 53, 3) := by decide +kernel
theorem dX11_dropOf_45 : decode cX11_dropOf 45 = .ok (.goto 9, 3) := by decide +kernel
theorem dX11_dropOf_48 : decode cX11_dropOf 48 = .ok (.aload_n 0, 1) := by decide +kernel
theorem dX11_dropOf_49 : decode cX11_dropOf 49 = .ok (.ldc 126, 2) := by decide +kernel
theorem dX11_dropOf_51 : decode cX11_dropOf 51 = .ok (.invokevirtual 94, 3) := by decide +kernel
theorem dX11_dropOf_54 : decode cX11_dropOf 54 = .ok (.ireturn, 1) := by decide +kernel
theorem dX11_nextOf_0 : decode cX11_nextOf 0 = .ok (.aload_n 0, 1) := by decide +kernel
theorem dX11_nextOf_1 : decode cX11_nextOf 1 = .ok (.aload_n 0, 1) := by decide +kernel
theorem dX11_nextOf_2 : decode cX11_nextOf 2 = .ok (.iload_n 1, 1) := by decide +kernel
theorem dX11_nextOf_3 : decode cX11_nextOf 3 = .ok (.iconst 0, 1) := by decide +kernel
theorem dX11_nextOf_4 : decode cX11_nextOf 4 = .ok (.invokevirtual 53, 3) := by decide +kernel
theorem dX11_nextOf_7 : decode cX11_nextOf 7 = .ok (.aload_n 0, 1) := by decide +kernel
theorem dX11_nextOf_8 : decode cX11_nextOf 8 = .ok (.iload_n 1, 1) := by decide +kernel
theorem dX11_nextOf_9 : decode cX11_nextOf 9 = .ok (.iconst 1, 1) := by decide +kernel
theorem dX11_nextOf_10 : decode cX11_nextOf 10 = .ok (.invokevirtual 53, 3) := by decide +kernel
theorem dX11_nextOf_13 : decode cX11_nextOf 13 = .ok (.aload_n 0, 1) := by decide +kernel
theorem dX11_nextOf_14 : decode cX11_nextOf 14 = .ok (.iload_n 1, 1) := by decide +kernel
theorem dX11_nextOf_15 : decode cX11_nextOf 15 = .ok (.iconst 2, 1) := by decide +kernel
theorem dX11_nextOf_16 : decode cX11_nextOf 16 = .ok (.invokevirtual 53, 3) := by decide +kernel
theorem dX11_nextOf_19 : decode cX11_nextOf 19 = .ok (.aload_n 0, 1) := by decide +kernel
theorem dX11_nextOf_20 : decode cX11_nextOf 20 = .ok (.iload_n 1, 1) := by decide +kernel
theorem dX11_nextOf_21 : decode cX11_nextOf 21 = .ok (.iconst 3, 1) := by decide +kernel
theorem dX11_nextOf_22 : decode cX11_nextOf 22 = .ok (.invokevirtual 53, 3) := by decide +kernel
theorem dX11_nextOf_25 : decode cX11_nextOf 25 = .ok (.invokevirtual 140, 3) := by decide +kernel
theorem dX11_nextOf_28 : decode cX11_nextOf 28 = .ok (.ireturn, 1) := by decide +kernel
theorem dX11_goes_0 : decode cX11_goes 0 = .ok (.sipush 402, 3) := by decide +kernel
theorem dX11_goes_3 : decode cX11_goes 3 = .ok (.iconst 4, 1) := by decide +kernel
theorem dX11_goes_4 : decode cX11_goes 4 = .ok (.iload_n 1, 1) := by decide +kernel
theorem dX11_goes_5 : decode cX11_goes 5 = .ok (.imul, 1) := by decide +kernel
theorem dX11_goes_6 : decode cX11_goes 6 = .ok (.iadd, 1) := by decide +kernel
theorem dX11_goes_7 : decode cX11_goes 7 = .ok (.istore_n 2, 1) := by decide +kernel
theorem dX11_goes_8 : decode cX11_goes 8 = .ok (.aload_n 0, 1) := by decide +kernel
theorem dX11_goes_9 : decode cX11_goes 9 = .ok (.iload_n 1, 1) := by decide +kernel
theorem dX11_goes_10 : decode cX11_goes 10 = .ok (.invokevirtual 144, 3) := by decide +kernel
theorem dX11_goes_13 : decode cX11_goes 13 = .ok (.istore_n 3, 1) := by decide +kernel
theorem dX11_goes_14 : decode cX11_goes 14 = .ok (.iload_n 3, 1) := by decide +kernel
theorem dX11_goes_15 : decode cX11_goes 15 = .ok (.aload_n 0, 1) := by decide +kernel
theorem dX11_goes_16 : decode cX11_goes 16 = .ok (.getfield 9, 3) := by decide +kernel
theorem dX11_goes_19 : decode cX11_goes 19 = .ok (.iload_n 2, 1) := by decide +kernel
theorem dX11_goes_20 : decode cX11_goes 20 = .ok (.iconst 1, 1) := by decide +kernel
theorem dX11_goes_21 : decode cX11_goes 21 = .ok (.iadd, 1) := by decide +kernel
theorem dX11_goes_22 : decode cX11_goes 22 = .ok (.iaload, 1) := by decide +kernel
theorem dX11_goes_23 : decode cX11_goes 23 = .ok (.if_icmp .ne 4, 3) := by decide +kernel
theorem dX11_goes_26 : decode cX11_goes 26 = .ok (.return_, 1) := by decide +kernel
theorem dX11_goes_27 : decode cX11_goes 27 = .ok (.iload_n 3, 1) := by decide +kernel
theorem dX11_goes_28 : decode cX11_goes 28 = .ok (.ifCond .ge 41, 3) := by decide +kernel
theorem dX11_goes_31 : decode cX11_goes 31 = .ok (.aload_n 0, 1) := by decide +kernel
theorem dX11_goes_32 : decode cX11_goes 32 = .ok (.getfield 9, 3) := by decide +kernel
theorem dX11_goes_35 : decode cX11_goes 35 = .ok (.bipush 6, 2) := by decide +kernel
theorem dX11_goes_37 : decode cX11_goes 37 = .ok (.aload_n 0, 1) := by decide +kernel
theorem dX11_goes_38 : decode cX11_goes 38 = .ok (.getfield 9, 3) := by decide +kernel
theorem dX11_goes_41 : decode cX11_goes 41 = .ok (.iload_n 2, 1) := by decide +kernel
theorem dX11_goes_42 : decode cX11_goes 42 = .ok (.iconst 1, 1) := by decide +kernel
theorem dX11_goes_43 : decode cX11_goes 43 = .ok (.iadd, 1) := by decide +kernel
theorem dX11_goes_44 : decode cX11_goes 44 = .ok (.iaload, 1) := by decide +kernel
theorem dX11_goes_45 : decode cX11_goes 45 = .ok (.bipush 12, 2) := by decide +kernel
theorem dX11_goes_47 : decode cX11_goes 47 = .ok (.irem, 1) := by decide +kernel
theorem dX11_goes_48 : decode cX11_goes 48 = .ok (.iadd, 1) := by decide +kernel
theorem dX11_goes_49 : decode cX11_goes 49 = .ok (.dup2, 1) := by decide +kernel
theorem dX11_goes_50 : decode cX11_goes 50 = .ok (.iaload, 1) := by decide +kernel
theorem dX11_goes_51 : decode cX11_goes 51 = .ok (.aload_n 0, 1) := by decide +kernel
theorem dX11_goes_52 : decode cX11_goes 52 = .ok (.getfield 9, 3) := by decide +kernel
theorem dX11_goes_55 : decode cX11_goes 55 = .ok (.iload_n 2, 1) := by decide +kernel
theorem dX11_goes_56 : decode cX11_goes 56 = .ok (.iconst 2, 1) := by decide +kernel
theorem dX11_goes_57 : decode cX11_goes 57 = .ok (.iadd, 1) := by decide +kernel
theorem dX11_goes_58 : decode cX11_goes 58 = .ok (.iaload, 1) := by decide +kernel
theorem dX11_goes_59 : decode cX11_goes 59 = .ok (.iadd, 1) := by decide +kernel
theorem dX11_goes_60 : decode cX11_goes 60 = .ok (.iastore, 1) := by decide +kernel
theorem dX11_goes_61 : decode cX11_goes 61 = .ok (.aload_n 0, 1) := by decide +kernel
theorem dX11_goes_62 : decode cX11_goes 62 = .ok (.getfield 9, 3) := by decide +kernel
theorem dX11_goes_65 : decode cX11_goes 65 = .ok (.iload_n 2, 1) := by decide +kernel
theorem dX11_goes_66 : decode cX11_goes 66 = .ok (.iconst (-1), 1) := by decide +kernel
theorem dX11_goes_67 : decode cX11_goes 67 = .ok (.iastore, 1) := by decide +kernel
theorem dX11_goes_68 : decode cX11_goes 68 = .ok (.return_, 1) := by decide +kernel
theorem dX11_goes_69 : decode cX11_goes 69 = .ok (.aload_n 0, 1) := by decide +kernel
theorem dX11_goes_70 : decode cX11_goes 70 = .ok (.getfield 9, 3) := by decide +kernel
theorem dX11_goes_73 : decode cX11_goes 73 = .ok (.iload_n 2, 1) := by decide +kernel
theorem dX11_goes_74 : decode cX11_goes 74 = .ok (.iconst 1, 1) := by decide +kernel
theorem dX11_goes_75 : decode cX11_goes 75 = .ok (.iadd, 1) := by decide +kernel
theorem dX11_goes_76 : decode cX11_goes 76 = .ok (.iload_n 3, 1) := by decide +kernel
theorem dX11_goes_77 : decode cX11_goes 77 = .ok (.iastore, 1) := by decide +kernel
theorem dX11_goes_78 : decode cX11_goes 78 = .ok (.aload_n 0, 1) := by decide +kernel
theorem dX11_goes_79 : decode cX11_goes 79 = .ok (.getfield 9, 3) := by decide +kernel
theorem dX11_goes_82 : decode cX11_goes 82 = .ok (.iload_n 2, 1) := by decide +kernel
theorem dX11_goes_83 : decode cX11_goes 83 = .ok (.iconst 3, 1) := by decide +kernel
theorem dX11_goes_84 : decode cX11_goes 84 = .ok (.iadd, 1) := by decide +kernel
theorem dX11_goes_85 : decode cX11_goes 85 = .ok (.dup2, 1) := by decide +kernel
theorem dX11_goes_86 : decode cX11_goes 86 = .ok (.iaload, 1) := by decide +kernel
theorem dX11_goes_87 : decode cX11_goes 87 = .ok (.iconst 1, 1) := by decide +kernel
theorem dX11_goes_88 : decode cX11_goes 88 = .ok (.iadd, 1) := by decide +kernel
theorem dX11_goes_89 : decode cX11_goes 89 = .ok (.iastore, 1) := by decide +kernel
theorem dX11_goes_90 : decode cX11_goes 90 = .ok (.aload_n 0, 1) := by decide +kernel
theorem dX11_goes_91 : decode cX11_goes 91 = .ok (.getfield 9, 3) := by decide +kernel
theorem dX11_goes_94 : decode cX11_goes 94 = .ok (.sipush 210, 3) := by decide +kernel
theorem dX11_goes_97 : decode cX11_goes 97 = .ok (.iload_n 3, 1) := by decide +kernel
theorem dX11_goes_98 : decode cX11_goes 98 = .ok (.iadd, 1) := by decide +kernel
theorem dX11_goes_99 : decode cX11_goes 99 = .ok (.bipush 99, 2) := by decide +kernel
theorem dX11_goes_101 : decode cX11_goes 101 = .ok (.iastore, 1) := by decide +kernel
theorem dX11_goes_102 : decode cX11_goes 102 = .ok (.aload_n 0, 1) := by decide +kernel
theorem dX11_goes_103 : decode cX11_goes 103 = .ok (.getfield 9, 3) := by decide +kernel
theorem dX11_goes_106 : decode cX11_goes 106 = .ok (.iload_n 2, 1) := by decide +kernel
theorem dX11_goes_107 : decode cX11_goes 107 = .ok (.iaload, 1) := by decide +kernel
theorem dX11_goes_108 : decode cX11_goes 108 = .ok (.invokestatic 147, 3) := by decide +kernel
theorem dX11_goes_111 : decode cX11_goes 111 = .ok (.ifCond .ne 4, 3) := by decide +kernel
theorem dX11_goes_114 : decode cX11_goes 114 = .ok (.return_, 1) := by decide +kernel
theorem dX11_goes_115 : decode cX11_goes 115 = .ok (.aload_n 0, 1) := by decide +kernel
theorem dX11_goes_116 : decode cX11_goes 116 = .ok (.getfield 9, 3) := by decide +kernel
theorem dX11_goes_119 : decode cX11_goes 119 = .ok (.iload_n 2, 1) := by decide +kernel
theorem dX11_goes_120 : decode cX11_goes 120 = .ok (.iconst 2, 1) := by decide +kernel
theorem dX11_goes_121 : decode cX11_goes 121 = .ok (.iadd, 1) := by decide +kernel
theorem dX11_goes_122 : decode cX11_goes 122 = .ok (.dup2, 1) := by decide +kernel
theorem dX11_goes_123 : decode cX11_goes 123 = .ok (.iaload, 1) := by decide +kernel
theorem dX11_goes_124 : decode cX11_goes 124 = .ok (.iconst 1, 1) := by decide +kernel
theorem dX11_goes_125 : decode cX11_goes 125 = .ok (.isub, 1) := by decide +kernel
theorem dX11_goes_126 : decode cX11_goes 126 = .ok (.iastore, 1) := by decide +kernel
theorem dX11_goes_127 : decode cX11_goes 127 = .ok (.aload_n 0, 1) := by decide +kernel
theorem dX11_goes_128 : decode cX11_goes 128 = .ok (.getfield 9, 3) := by decide +kernel
theorem dX11_goes_131 : decode cX11_goes 131 = .ok (.iload_n 2, 1) := by decide +kernel
theorem dX11_goes_132 : decode cX11_goes 132 = .ok (.iconst 2, 1) := by decide +kernel
theorem dX11_goes_133 : decode cX11_goes 133 = .ok (.iadd, 1) := by decide +kernel
theorem dX11_goes_134 : decode cX11_goes 134 = .ok (.iaload, 1) := by decide +kernel
theorem dX11_goes_135 : decode cX11_goes 135 = .ok (.ifCond .ne 10, 3) := by decide +kernel
theorem dX11_goes_138 : decode cX11_goes 138 = .ok (.aload_n 0, 1) := by decide +kernel
theorem dX11_goes_139 : decode cX11_goes 139 = .ok (.getfield 9, 3) := by decide +kernel
theorem dX11_goes_142 : decode cX11_goes 142 = .ok (.iload_n 2, 1) := by decide +kernel
theorem dX11_goes_143 : decode cX11_goes 143 = .ok (.iconst (-1), 1) := by decide +kernel
theorem dX11_goes_144 : decode cX11_goes 144 = .ok (.iastore, 1) := by decide +kernel
theorem dX11_goes_145 : decode cX11_goes 145 = .ok (.return_, 1) := by decide +kernel
theorem dX11_blown_0 : decode cX11_blown 0 = .ok (.sipush 402, 3) := by decide +kernel
theorem dX11_blown_3 : decode cX11_blown 3 = .ok (.iconst 4, 1) := by decide +kernel
theorem dX11_blown_4 : decode cX11_blown 4 = .ok (.iload_n 1, 1) := by decide +kernel
theorem dX11_blown_5 : decode cX11_blown 5 = .ok (.imul, 1) := by decide +kernel
theorem dX11_blown_6 : decode cX11_blown 6 = .ok (.iadd, 1) := by decide +kernel
theorem dX11_blown_7 : decode cX11_blown 7 = .ok (.istore_n 2, 1) := by decide +kernel
theorem dX11_blown_8 : decode cX11_blown 8 = .ok (.aload_n 0, 1) := by decide +kernel
theorem dX11_blown_9 : decode cX11_blown 9 = .ok (.getfield 9, 3) := by decide +kernel
theorem dX11_blown_12 : decode cX11_blown 12 = .ok (.iconst 1, 1) := by decide +kernel
theorem dX11_blown_13 : decode cX11_blown 13 = .ok (.iaload, 1) := by decide +kernel
theorem dX11_blown_14 : decode cX11_blown 14 = .ok (.istore_n 3, 1) := by decide +kernel
theorem dX11_blown_15 : decode cX11_blown 15 = .ok (.aload_n 0, 1) := by decide +kernel
theorem dX11_blown_16 : decode cX11_blown 16 = .ok (.getfield 9, 3) := by decide +kernel
theorem dX11_blown_19 : decode cX11_blown 19 = .ok (.iload_n 2, 1) := by decide +kernel
theorem dX11_blown_20 : decode cX11_blown 20 = .ok (.iconst 2, 1) := by decide +kernel
theorem dX11_blown_21 : decode cX11_blown 21 = .ok (.iadd, 1) := by decide +kernel
theorem dX11_blown_22 : decode cX11_blown 22 = .ok (.iaload, 1) := by decide +kernel
theorem dX11_blown_23 : decode cX11_blown 23 = .ok (.iload_n 3, 1) := by decide +kernel
theorem dX11_blown_24 : decode cX11_blown 24 = .ok (.ifCond .ge 8, 3) := by decide +kernel
theorem dX11_blown_27 : decode cX11_blown 27 = .ok (.iload_n 3, 1) := by decide +kernel
theorem dX11_blown_28 : decode cX11_blown 28 = .ok (.ineg, 1) := by decide +kernel
theorem dX11_blown_29 : decode cX11_blown 29 = .ok (.goto 4, 3) := by decide +kernel
theorem dX11_blown_32 : decode cX11_blown 32 = .ok (.iload_n 3, 1) := by decide +kernel
theorem dX11_blown_33 : decode cX11_blown 33 = .ok (.if_icmp .lt 4, 3) := by decide +kernel
theorem dX11_blown_36 : decode cX11_blown 36 = .ok (.return_, 1) := by decide +kernel
theorem dX11_blown_37 : decode cX11_blown 37 = .ok (.aload_n 0, 1) := by decide +kernel
theorem dX11_blown_38 : decode cX11_blown 38 = .ok (.getfield 9, 3) := by decide +kernel
theorem dX11_blown_41 : decode cX11_blown 41 = .ok (.iload_n 2, 1) := by decide +kernel
theorem dX11_blown_42 : decode cX11_blown 42 = .ok (.iconst 1, 1) := by decide +kernel
theorem dX11_blown_43 : decode cX11_blown 43 = .ok (.iadd, 1) := by decide +kernel
theorem dX11_blown_44 : decode cX11_blown 44 = .ok (.iaload, 1) := by decide +kernel
theorem dX11_blown_45 : decode cX11_blown 45 = .ok (.bipush 12, 2) := by decide +kernel
theorem dX11_blown_47 : decode cX11_blown 47 = .ok (.irem, 1) := by decide +kernel
theorem dX11_blown_48 : decode cX11_blown 48 = .ok (.iload_n 3, 1) := by decide +kernel
theorem dX11_blown_49 : decode cX11_blown 49 = .ok (.ifCond .ge 7, 3) := by decide +kernel
theorem dX11_blown_52 : decode cX11_blown 52 = .ok (.iconst (-1), 1) := by decide +kernel
theorem dX11_blown_53 : decode cX11_blown 53 = .ok (.goto 4, 3) := by decide +kernel
theorem dX11_blown_56 : decode cX11_blown 56 = .ok (.iconst 1, 1) := by decide +kernel
theorem dX11_blown_57 : decode cX11_blown 57 = .ok (.iadd, 1) := by decide +kernel
theorem dX11_blown_58 : decode cX11_blown 58 = .ok (.istore 4, 2) := by decide +kernel
theorem dX11_blown_60 : decode cX11_blown 60 = .ok (.iload 4, 2) := by decide +kernel
theorem dX11_blown_62 : decode cX11_blown 62 = .ok (.invokestatic 120, 3) := by decide +kernel
theorem dX11_blown_65 : decode cX11_blown 65 = .ok (.ifCond .ne 4, 3) := by decide +kernel
theorem dX11_blown_68 : decode cX11_blown 68 = .ok (.return_, 1) := by decide +kernel
theorem dX11_blown_69 : decode cX11_blown 69 = .ok (.aload_n 0, 1) := by decide +kernel
theorem dX11_blown_70 : decode cX11_blown 70 = .ok (.getfield 9, 3) := by decide +kernel
theorem dX11_blown_73 : decode cX11_blown 73 = .ok (.iload_n 2, 1) := by decide +kernel
theorem dX11_blown_74 : decode cX11_blown 74 = .ok (.iconst 1, 1) := by decide +kernel
theorem dX11_blown_75 : decode cX11_blown 75 = .ok (.iadd, 1) := by decide +kernel
theorem dX11_blown_76 : decode cX11_blown 76 = .ok (.dup2, 1) := by decide +kernel
theorem dX11_blown_77 : decode cX11_blown 77 = .ok (.iaload, 1) := by decide +kernel
theorem dX11_blown_78 : decode cX11_blown 78 = .ok (.iload_n 3, 1) := by decide +kernel
theorem dX11_blown_79 : decode cX11_blown 79 = .ok (.ifCond .ge 7, 3) := by decide +kernel
theorem dX11_blown_82 : decode cX11_blown 82 = .ok (.iconst (-1), 1) := by decide +kernel
theorem dX11_blown_83 : decode cX11_blown 83 = .ok (.goto 4, 3) := by decide +kernel
theorem dX11_blown_86 : decode cX11_blown 86 = .ok (.iconst 1, 1) := by decide +kernel
theorem dX11_blown_87 : decode cX11_blown 87 = .ok (.iadd, 1) := by decide +kernel
theorem dX11_blown_88 : decode cX11_blown 88 = .ok (.iastore, 1) := by decide +kernel
theorem dX11_blown_89 : decode cX11_blown 89 = .ok (.aload_n 0, 1) := by decide +kernel
theorem dX11_blown_90 : decode cX11_blown 90 = .ok (.getfield 9, 3) := by decide +kernel
theorem dX11_blown_93 : decode cX11_blown 93 = .ok (.sipush 210, 3) := by decide +kernel
theorem dX11_blown_96 : decode cX11_blown 96 = .ok (.aload_n 0, 1) := by decide +kernel
theorem dX11_blown_97 : decode cX11_blown 97 = .ok (.getfield 9, 3) := by decide +kernel
theorem dX11_blown_100 : decode cX11_blown 100 = .ok (.iload_n 2, 1) := by decide +kernel
theorem dX11_blown_101 : decode cX11_blown 101 = .ok (.iconst 1, 1) := by decide +kernel
theorem dX11_blown_102 : decode cX11_blown 102 = .ok (.iadd, 1) := by decide +kernel
theorem dX11_blown_103 : decode cX11_blown 103 = .ok (.iaload, 1) := by decide +kernel
theorem dX11_blown_104 : decode cX11_blown 104 = .ok (.iadd, 1) := by decide +kernel
theorem dX11_blown_105 : decode cX11_blown 105 = .ok (.bipush 99, 2) := by decide +kernel
theorem dX11_blown_107 : decode cX11_blown 107 = .ok (.iastore, 1) := by decide +kernel
theorem dX11_blown_108 : decode cX11_blown 108 = .ok (.return_, 1) := by decide +kernel
theorem dX11_joins_0 : decode cX11_joins 0 = .ok (.iconst 0, 1) := by decide +kernel
theorem dX11_joins_1 : decode cX11_joins 1 = .ok (.istore_n 1, 1) := by decide +kernel
theorem dX11_joins_2 : decode cX11_joins 2 = .ok (.iload_n 1, 1) := by decide +kernel
theorem dX11_joins_3 : decode cX11_joins 3 = .ok (.bipush 8, 2) := by decide +kernel
theorem dX11_joins_5 : decode cX11_joins 5 = .ok (.if_icmp .ge 114, 3) := by decide +kernel
theorem dX11_joins_8 : decode cX11_joins 8 = .ok (.iload_n 1, 1) := by decide +kernel
theorem dX11_joins_9 : decode cX11_joins 9 = .ok (.iconst 1, 1) := by decide +kernel
theorem dX11_joins_10 : decode cX11_joins 10 = .ok (.iadd, 1) := by decide +kernel
theorem dX11_joins_11 : decode cX11_joins 11 = .ok (.istore_n 2, 1) := by decide +kernel
theorem dX11_joins_12 : decode cX11_joins 12 = .ok (.iload_n 2, 1) := by decide +kernel
theorem dX11_joins_13 : decode cX11_joins 13 = .ok (.bipush 8, 2) := by decide +kernel
theorem dX11_joins_15 : decode cX11_joins 15 = .ok (.if_icmp .ge 98, 3) := by decide +kernel
theorem dX11_joins_18 : decode cX11_joins 18 = .ok (.aload_n 0, 1) := by decide +kernel
theorem dX11_joins_19 : decode cX11_joins 19 = .ok (.iload_n 1, 1) := by decide +kernel
theorem dX11_joins_20 : decode cX11_joins 20 = .ok (.iconst 0, 1) := by decide +kernel
theorem dX11_joins_21 : decode cX11_joins 21 = .ok (.invokevirtual 53, 3) := by decide +kernel
theorem dX11_joins_24 : decode cX11_joins 24 = .ok (.ifCond .lt 83, 3) := by decide +kernel
theorem dX11_joins_27 : decode cX11_joins 27 = .ok (.aload_n 0, 1) := by decide +kernel
theorem dX11_joins_28 : decode cX11_joins 28 = .ok (.iload_n 2, 1) := by decide +kernel
theorem dX11_joins_29 : decode cX11_joins 29 = .ok (.iconst 0, 1) := by decide +kernel
theorem dX11_joins_30 : decode cX11_joins 30 = .ok (.invokevirtual 53, 3) := by decide +kernel
theorem dX11_joins_33 : decode cX11_joins 33 = .ok (.ifCond .lt 74, 3) := by decide +kernel
theorem dX11_joins_36 : decode cX11_joins 36 = .ok (.aload_n 0, 1) := by decide +kernel
theorem dX11_joins_37 : decode cX11_joins 37 = .ok (.iload_n 1, 1) := by decide +kernel
theorem dX11_joins_38 : decode cX11_joins 38 = .ok (.iconst 1, 1) := by decide +kernel
theorem dX11_joins_39 : decode cX11_joins 39 = .ok (.invokevirtual 53, 3) := by decide +kernel
theorem dX11_joins_42 : decode cX11_joins 42 = .ok (.aload_n 0, 1) := by decide +kernel
theorem dX11_joins_43 : decode cX11_joins 43 = .ok (.iload_n 2, 1) := by decide +kernel
theorem dX11_joins_44 : decode cX11_joins 44 = .ok (.iconst 1, 1) := by decide +kernel
theorem dX11_joins_45 : decode cX11_joins 45 = .ok (.invokevirtual 53, 3) := by decide +kernel
theorem dX11_joins_48 : decode cX11_joins 48 = .ok (.if_icmp .eq 6, 3) := by decide +kernel
theorem dX11_joins_51 : decode cX11_joins 51 = .ok (.goto 56, 3) := by decide +kernel
theorem dX11_joins_54 : decode cX11_joins 54 = .ok (.aload_n 0, 1) := by decide +kernel
theorem dX11_joins_55 : decode cX11_joins 55 = .ok (.iload_n 1, 1) := by decide +kernel
theorem dX11_joins_56 : decode cX11_joins 56 = .ok (.iconst 2, 1) := by decide +kernel
theorem dX11_joins_57 : decode cX11_joins 57 = .ok (.invokevirtual 53, 3) := by decide +kernel
theorem dX11_joins_60 : decode cX11_joins 60 = .ok (.aload_n 0, 1) := by decide +kernel
theorem dX11_joins_61 : decode cX11_joins 61 = .ok (.iload_n 2, 1) := by decide +kernel
theorem dX11_joins_62 : decode cX11_joins 62 = .ok (.iconst 2, 1) := by decide +kernel
theorem dX11_joins_63 : decode cX11_joins 63 = .ok (.invokevirtual 53, 3) := by decide +kernel
theorem dX11_joins_66 : decode cX11_joins 66 = .ok (.iadd, 1) := by decide +kernel
theorem dX11_joins_67 : decode cX11_joins 67 = .ok (.istore_n 3, 1) := by decide +kernel
theorem dX11_joins_68 : decode cX11_joins 68 = .ok (.aload_n 0, 1) := by decide +kernel
theorem dX11_joins_69 : decode cX11_joins 69 = .ok (.getfield 9, 3) := by decide +kernel
theorem dX11_joins_72 : decode cX11_joins 72 = .ok (.sipush 402, 3) := by decide +kernel
theorem dX11_joins_75 : decode cX11_joins 75 = .ok (.iconst 4, 1) := by decide +kernel
theorem dX11_joins_76 : decode cX11_joins 76 = .ok (.iload_n 1, 1) := by decide +kernel
theorem dX11_joins_77 : decode cX11_joins 77 = .ok (.imul, 1) := by decide +kernel
theorem dX11_joins_78 : decode cX11_joins 78 = .ok (.iadd, 1) := by decide +kernel
theorem dX11_joins_79 : decode cX11_joins 79 = .ok (.iconst 2, 1) := by decide +kernel
theorem dX11_joins_80 : decode cX11_joins 80 = .ok (.iadd, 1) := by decide +kernel
theorem dX11_joins_81 : decode cX11_joins 81 = .ok (.iload_n 3, 1) := by decide +kernel
theorem dX11_joins_82 : decode cX11_joins 82 = .ok (.bipush 99, 2) := by decide +kernel
theorem dX11_joins_84 : decode cX11_joins 84 = .ok (.if_icmp .le 8, 3) := by decide +kernel
theorem dX11_joins_87 : decode cX11_joins 87 = .ok (.bipush 99, 2) := by decide +kernel
theorem dX11_joins_89 : decode cX11_joins 89 = .ok (.goto 4, 3) := by decide +kernel
theorem dX11_joins_92 : decode cX11_joins 92 = .ok (.iload_n 3, 1) := by decide +kernel
theorem dX11_joins_93 : decode cX11_joins 93 = .ok (.iastore, 1) := by decide +kernel
theorem dX11_joins_94 : decode cX11_joins 94 = .ok (.aload_n 0, 1) := by decide +kernel
theorem dX11_joins_95 : decode cX11_joins 95 = .ok (.getfield 9, 3) := by decide +kernel
theorem dX11_joins_98 : decode cX11_joins 98 = .ok (.sipush 402, 3) := by decide +kernel
theorem dX11_joins_101 : decode cX11_joins 101 = .ok (.iconst 4, 1) := by decide +kernel
theorem dX11_joins_102 : decode cX11_joins 102 = .ok (.iload_n 2, 1) := by decide +kernel
theorem dX11_joins_103 : decode cX11_joins 103 = .ok (.imul, 1) := by decide +kernel
theorem dX11_joins_104 : decode cX11_joins 104 = .ok (.iadd, 1) := by decide +kernel
theorem dX11_joins_105 : decode cX11_joins 105 = .ok (.iconst (-1), 1) := by decide +kernel
theorem dX11_joins_106 : decode cX11_joins 106 = .ok (.iastore, 1) := by decide +kernel
theorem dX11_joins_107 : decode cX11_joins 107 = .ok (.iinc 2 1, 3) := by decide +kernel
theorem dX11_joins_110 : decode cX11_joins 110 = .ok (.goto (-98), 3) := by decide +kernel
theorem dX11_joins_113 : decode cX11_joins 113 = .ok (.iinc 1 1, 3) := by decide +kernel
theorem dX11_joins_116 : decode cX11_joins 116 = .ok (.goto (-114), 3) := by decide +kernel
theorem dX11_joins_119 : decode cX11_joins 119 = .ok (.return_, 1) := by decide +kernel
theorem dX11_ticks_0 : decode cX11_ticks 0 = .ok (.iconst 0, 1) := by decide +kernel
theorem dX11_ticks_1 : decode cX11_ticks 1 = .ok (.istore_n 2, 1) := by decide +kernel
theorem dX11_ticks_2 : decode cX11_ticks 2 = .ok (.iload_n 2, 1) := by decide +kernel
theorem dX11_ticks_3 : decode cX11_ticks 3 = .ok (.iload_n 1, 1) := by decide +kernel
theorem dX11_ticks_4 : decode cX11_ticks 4 = .ok (.if_icmp .ge 142, 3) := by decide +kernel
theorem dX11_ticks_7 : decode cX11_ticks 7 = .ok (.iconst 0, 1) := by decide +kernel
theorem dX11_ticks_8 : decode cX11_ticks 8 = .ok (.istore_n 3, 1) := by decide +kernel
theorem dX11_ticks_9 : decode cX11_ticks 9 = .ok (.iload_n 3, 1) := by decide +kernel
theorem dX11_ticks_10 : decode cX11_ticks 10 = .ok (.bipush 8, 2) := by decide +kernel
theorem dX11_ticks_12 : decode cX11_ticks 12 = .ok (.if_icmp .ge 22, 3) := by decide +kernel
theorem dX11_ticks_15 : decode cX11_ticks 15 = .ok (.aload_n 0, 1) := by decide +kernel
theorem dX11_ticks_16 : decode cX11_ticks 16 = .ok (.iload_n 3, 1) := by decide +kernel
theorem dX11_ticks_17 : decode cX11_ticks 17 = .ok (.invokevirtual 137, 3) := by decide +kernel
theorem dX11_ticks_20 : decode cX11_ticks 20 = .ok (.ifCond .eq 8, 3) := by decide +kernel
theorem dX11_ticks_23 : decode cX11_ticks 23 = .ok (.aload_n 0, 1) := by decide +kernel
theorem dX11_ticks_24 : decode cX11_ticks 24 = .ok (.iload_n 3, 1) := by decide +kernel
theorem dX11_ticks_25 : decode cX11_ticks 25 = .ok (.invokevirtual 150, 3) := by decide +kernel
theorem dX11_ticks_28 : decode cX11_ticks 28 = .ok (.iinc 3 1, 3) := by decide +kernel
theorem dX11_ticks_31 : decode cX11_ticks 31 = .ok (.goto (-22), 3) := by decide +kernel
theorem dX11_ticks_34 : decode cX11_ticks 34 = .ok (.iconst 0, 1) := by decide +kernel
theorem dX11_ticks_35 : decode cX11_ticks 35 = .ok (.istore_n 3, 1) := by decide +kernel
theorem dX11_ticks_36 : decode cX11_ticks 36 = .ok (.iload_n 3, 1) := by decide +kernel
theorem dX11_ticks_37 : decode cX11_ticks 37 = .ok (.bipush 8, 2) := by decide +kernel
theorem dX11_ticks_39 : decode cX11_ticks 39 = .ok (.if_icmp .ge 22, 3) := by decide +kernel
theorem dX11_ticks_42 : decode cX11_ticks 42 = .ok (.aload_n 0, 1) := by decide +kernel
theorem dX11_ticks_43 : decode cX11_ticks 43 = .ok (.iload_n 3, 1) := by decide +kernel
theorem dX11_ticks_44 : decode cX11_ticks 44 = .ok (.invokevirtual 137, 3) := by decide +kernel
theorem dX11_ticks_47 : decode cX11_ticks 47 = .ok (.ifCond .eq 8, 3) := by decide +kernel
theorem dX11_ticks_50 : decode cX11_ticks 50 = .ok (.aload_n 0, 1) := by decide +kernel
theorem dX11_ticks_51 : decode cX11_ticks 51 = .ok (.iload_n 3, 1) := by decide +kernel
theorem dX11_ticks_52 : decode cX11_ticks 52 = .ok (.invokevirtual 154, 3) := by decide +kernel
theorem dX11_ticks_55 : decode cX11_ticks 55 = .ok (.iinc 3 1, 3) := by decide +kernel
theorem dX11_ticks_58 : decode cX11_ticks 58 = .ok (.goto (-22), 3) := by decide +kernel
theorem dX11_ticks_61 : decode cX11_ticks 61 = .ok (.aload_n 0, 1) := by decide +kernel
theorem dX11_ticks_62 : decode cX11_ticks 62 = .ok (.invokevirtual 157, 3) := by decide +kernel
theorem dX11_ticks_65 : decode cX11_ticks 65 = .ok (.iconst 0, 1) := by decide +kernel
theorem dX11_ticks_66 : decode cX11_ticks 66 = .ok (.istore_n 3, 1) := by decide +kernel
theorem dX11_ticks_67 : decode cX11_ticks 67 = .ok (.iload_n 3, 1) := by decide +kernel
theorem dX11_ticks_68 : decode cX11_ticks 68 = .ok (.sipush 192, 3) := by decide +kernel
theorem dX11_ticks_71 : decode cX11_ticks 71 = .ok (.if_icmp .ge 59, 3) := by decide +kernel
theorem dX11_ticks_74 : decode cX11_ticks 74 = .ok (.aload_n 0, 1) := by decide +kernel
theorem dX11_ticks_75 : decode cX11_ticks 75 = .ok (.getfield 9, 3) := by decide +kernel
theorem dX11_ticks_78 : decode cX11_ticks 78 = .ok (.sipush 210, 3) := by decide +kernel
theorem dX11_ticks_81 : decode cX11_ticks 81 = .ok (.iload_n 3, 1) := by decide +kernel
theorem dX11_ticks_82 : decode cX11_ticks 82 = .ok (.iadd, 1) := by decide +kernel
theorem dX11_ticks_83 : decode cX11_ticks 83 = .ok (.aload_n 0, 1) := by decide +kernel
theorem dX11_ticks_84 : decode cX11_ticks 84 = .ok (.getfield 9, 3) := by decide +kernel
theorem dX11_ticks_87 : decode cX11_ticks 87 = .ok (.sipush 210, 3) := by decide +kernel
theorem dX11_ticks_90 : decode cX11_ticks 90 = .ok (.iload_n 3, 1) := by decide +kernel
theorem dX11_ticks_91 : decode cX11_ticks 91 = .ok (.iadd, 1) := by decide +kernel
theorem dX11_ticks_92 : decode cX11_ticks 92 = .ok (.iaload, 1) := by decide +kernel
theorem dX11_ticks_93 : decode cX11_ticks 93 = .ok (.aload_n 0, 1) := by decide +kernel
theorem dX11_ticks_94 : decode cX11_ticks 94 = .ok (.getfield 9, 3) := by decide +kernel
theorem dX11_ticks_97 : decode cX11_ticks 97 = .ok (.iconst 2, 1) := by decide +kernel
theorem dX11_ticks_98 : decode cX11_ticks 98 = .ok (.iaload, 1) := by decide +kernel
theorem dX11_ticks_99 : decode cX11_ticks 99 = .ok (.if_icmp .le 23, 3) := by decide +kernel
theorem dX11_ticks_102 : decode cX11_ticks 102 = .ok (.aload_n 0, 1) := by decide +kernel
theorem dX11_ticks_103 : decode cX11_ticks 103 = .ok (.getfield 9, 3) := by decide +kernel
theorem dX11_ticks_106 : decode cX11_ticks 106 = .ok (.sipush 210, 3) := by decide +kernel
theorem dX11_ticks_109 : decode cX11_ticks 109 = .ok (.iload_n 3, 1) := by decide +kernel
theorem dX11_ticks_110 : decode cX11_ticks 110 = .ok (.iadd, 1) := by decide +kernel
theorem dX11_ticks_111 : decode cX11_ticks 111 = .ok (.iaload, 1) := by decide +kernel
theorem dX11_ticks_112 : decode cX11_ticks 112 = .ok (.aload_n 0, 1) := by decide +kernel
theorem dX11_ticks_113 : decode cX11_ticks 113 = .ok (.getfield 9, 3) := by decide +kernel
theorem dX11_ticks_116 : decode cX11_ticks 116 = .ok (.iconst 2, 1) := by decide +kernel
theorem dX11_ticks_117 : decode cX11_ticks 117 = .ok (.iaload, 1) := by decide +kernel
theorem dX11_ticks_118 : decode cX11_ticks 118 = .ok (.isub, 1) := by decide +kernel
theorem dX11_ticks_119 : decode cX11_ticks 119 = .ok (.goto 4, 3) := by decide +kernel
theorem dX11_ticks_122 : decode cX11_ticks 122 = .ok (.iconst 0, 1) := by decide +kernel
theorem dX11_ticks_123 : decode cX11_ticks 123 = .ok (.iastore, 1) := by decide +kernel
theorem dX11_ticks_124 : decode cX11_ticks 124 = .ok (.iinc 3 1, 3) := by decide +kernel
theorem dX11_ticks_127 : decode cX11_ticks 127 = .ok (.goto (-60), 3) := by decide +kernel
theorem dX11_ticks_130 : decode cX11_ticks 130 = .ok (.aload_n 0, 1) := by decide +kernel
theorem dX11_ticks_131 : decode cX11_ticks 131 = .ok (.getfield 9, 3) := by decide +kernel
theorem dX11_ticks_134 : decode cX11_ticks 134 = .ok (.iconst 4, 1) := by decide +kernel
theorem dX11_ticks_135 : decode cX11_ticks 135 = .ok (.dup2, 1) := by decide +kernel
theorem dX11_ticks_136 : decode cX11_ticks 136 = .ok (.iaload, 1) := by decide +kernel
theorem dX11_ticks_137 : decode cX11_ticks 137 = .ok (.iconst 1, 1) := by decide +kernel
theorem dX11_ticks_138 : decode cX11_ticks 138 = .ok (.iadd, 1) := by decide +kernel
theorem dX11_ticks_139 : decode cX11_ticks 139 = .ok (.iastore, 1) := by decide +kernel
theorem dX11_ticks_140 : decode cX11_ticks 140 = .ok (.iinc 2 1, 3) := by decide +kernel
theorem dX11_ticks_143 : decode cX11_ticks 143 = .ok (.goto (-141), 3) := by decide +kernel
theorem dX11_ticks_146 : decode cX11_ticks 146 = .ok (.return_, 1) := by decide +kernel
theorem dX11_tick_0 : decode cX11_tick 0 = .ok (.iload_n 1, 1) := by decide +kernel
theorem dX11_tick_1 : decode cX11_tick 1 = .ok (.i2l, 1) := by decide +kernel
theorem dX11_tick_2 : decode cX11_tick 2 = .ok (.lconst 1, 1) := by decide +kernel
theorem dX11_tick_3 : decode cX11_tick 3 = .ok (.ldc2_w 160, 3) := by decide +kernel
theorem dX11_tick_6 : decode cX11_tick 6 = .ok (.invokestatic 43, 3) := by decide +kernel
theorem dX11_tick_9 : decode cX11_tick 9 = .ok (.ifCond .ne 10, 3) := by decide +kernel
theorem dX11_tick_12 : decode cX11_tick 12 = .ok (.aload_n 0, 1) := by decide +kernel
theorem dX11_tick_13 : decode cX11_tick 13 = .ok (.ldc 40, 2) := by decide +kernel
theorem dX11_tick_15 : decode cX11_tick 15 = .ok (.invokevirtual 94, 3) := by decide +kernel
theorem dX11_tick_18 : decode cX11_tick 18 = .ok (.ireturn, 1) := by decide +kernel
theorem dX11_tick_19 : decode cX11_tick 19 = .ok (.aload_n 0, 1) := by decide +kernel
theorem dX11_tick_20 : decode cX11_tick 20 = .ok (.iload_n 1, 1) := by decide +kernel
theorem dX11_tick_21 : decode cX11_tick 21 = .ok (.invokevirtual 162, 3) := by decide +kernel
theorem dX11_tick_24 : decode cX11_tick 24 = .ok (.aload_n 0, 1) := by decide +kernel
theorem dX11_tick_25 : decode cX11_tick 25 = .ok (.invokevirtual 165, 3) := by decide +kernel
theorem dX11_tick_28 : decode cX11_tick 28 = .ok (.ireturn, 1) := by decide +kernel
theorem dX11_next_0 : decode cX11_next 0 = .ok (.iload_n 1, 1) := by decide +kernel
theorem dX11_next_1 : decode cX11_next 1 = .ok (.i2l, 1) := by decide +kernel
theorem dX11_next_2 : decode cX11_next 2 = .ok (.lconst 0, 1) := by decide +kernel
theorem dX11_next_3 : decode cX11_next 3 = .ok (.ldc2_w 51, 3) := by decide +kernel
theorem dX11_next_6 : decode cX11_next 6 = .ok (.invokestatic 43, 3) := by decide +kernel
theorem dX11_next_9 : decode cX11_next 9 = .ok (.ifCond .ne 10, 3) := by decide +kernel
theorem dX11_next_12 : decode cX11_next 12 = .ok (.aload_n 0, 1) := by decide +kernel
theorem dX11_next_13 : decode cX11_next 13 = .ok (.ldc 40, 2) := by decide +kernel
theorem dX11_next_15 : decode cX11_next 15 = .ok (.invokevirtual 94, 3) := by decide +kernel
theorem dX11_next_18 : decode cX11_next 18 = .ok (.ireturn, 1) := by decide +kernel
theorem dX11_next_19 : decode cX11_next 19 = .ok (.aload_n 0, 1) := by decide +kernel
theorem dX11_next_20 : decode cX11_next 20 = .ok (.iload_n 1, 1) := by decide +kernel
theorem dX11_next_21 : decode cX11_next 21 = .ok (.invokevirtual 137, 3) := by decide +kernel
theorem dX11_next_24 : decode cX11_next 24 = .ok (.ifCond .eq 11, 3) := by decide +kernel
theorem dX11_next_27 : decode cX11_next 27 = .ok (.aload_n 0, 1) := by decide +kernel
theorem dX11_next_28 : decode cX11_next 28 = .ok (.iload_n 1, 1) := by decide +kernel
theorem dX11_next_29 : decode cX11_next 29 = .ok (.invokevirtual 144, 3) := by decide +kernel
theorem dX11_next_32 : decode cX11_next 32 = .ok (.goto 9, 3) := by decide +kernel
theorem dX11_next_35 : decode cX11_next 35 = .ok (.aload_n 0, 1) := by decide +kernel
theorem dX11_next_36 : decode cX11_next 36 = .ok (.ldc 126, 2) := by decide +kernel
theorem dX11_next_38 : decode cX11_next 38 = .ok (.invokevirtual 94, 3) := by decide +kernel
theorem dX11_next_41 : decode cX11_next 41 = .ok (.ireturn, 1) := by decide +kernel
theorem dX11_pour_0 : decode cX11_pour 0 = .ok (.iload_n 1, 1) := by decide +kernel
theorem dX11_pour_1 : decode cX11_pour 1 = .ok (.i2l, 1) := by decide +kernel
theorem dX11_pour_2 : decode cX11_pour 2 = .ok (.lconst 0, 1) := by decide +kernel
theorem dX11_pour_3 : decode cX11_pour 3 = .ok (.ldc2_w 51, 3) := by decide +kernel
theorem dX11_pour_6 : decode cX11_pour 6 = .ok (.invokestatic 43, 3) := by decide +kernel
theorem dX11_pour_9 : decode cX11_pour 9 = .ok (.ifCond .eq 10, 3) := by decide +kernel
theorem dX11_pour_12 : decode cX11_pour 12 = .ok (.iload_n 2, 1) := by decide +kernel
theorem dX11_pour_13 : decode cX11_pour 13 = .ok (.invokestatic 130, 3) := by decide +kernel
theorem dX11_pour_16 : decode cX11_pour 16 = .ok (.ifCond .ne 10, 3) := by decide +kernel
theorem dX11_pour_19 : decode cX11_pour 19 = .ok (.aload_n 0, 1) := by decide +kernel
theorem dX11_pour_20 : decode cX11_pour 20 = .ok (.ldc 40, 2) := by decide +kernel
theorem dX11_pour_22 : decode cX11_pour 22 = .ok (.invokevirtual 94, 3) := by decide +kernel
theorem dX11_pour_25 : decode cX11_pour 25 = .ok (.ireturn, 1) := by decide +kernel
theorem dX11_pour_26 : decode cX11_pour 26 = .ok (.aload_n 0, 1) := by decide +kernel
theorem dX11_pour_27 : decode cX11_pour 27 = .ok (.iload_n 1, 1) := by decide +kernel
theorem dX11_pour_28 : decode cX11_pour 28 = .ok (.invokevirtual 137, 3) := by decide +kernel
theorem dX11_pour_31 : decode cX11_pour 31 = .ok (.ifCond .ne 10, 3) := by decide +kernel
theorem dX11_pour_34 : decode cX11_pour 34 = .ok (.aload_n 0, 1) := by decide +kernel
theorem dX11_pour_35 : decode cX11_pour 35 = .ok (.ldc 126, 2) := by decide +kernel
theorem dX11_pour_37 : decode cX11_pour 37 = .ok (.invokevirtual 94, 3) := by decide +kernel
theorem dX11_pour_40 : decode cX11_pour 40 = .ok (.ireturn, 1) := by decide +kernel
theorem dX11_pour_41 : decode cX11_pour 41 = .ok (.aload_n 0, 1) := by decide +kernel
theorem dX11_pour_42 : decode cX11_pour 42 = .ok (.iload_n 1, 1) := by decide +kernel
theorem dX11_pour_43 : decode cX11_pour 43 = .ok (.iconst 2, 1) := by decide +kernel
theorem dX11_pour_44 : decode cX11_pour 44 = .ok (.invokevirtual 53, 3) := by decide +kernel
theorem dX11_pour_47 : decode cX11_pour 47 = .ok (.iload_n 2, 1) := by decide +kernel
theorem dX11_pour_48 : decode cX11_pour 48 = .ok (.iadd, 1) := by decide +kernel
theorem dX11_pour_49 : decode cX11_pour 49 = .ok (.istore_n 3, 1) := by decide +kernel
theorem dX11_pour_50 : decode cX11_pour 50 = .ok (.aload_n 0, 1) := by decide +kernel
theorem dX11_pour_51 : decode cX11_pour 51 = .ok (.getfield 9, 3) := by decide +kernel
theorem dX11_pour_54 : decode cX11_pour 54 = .ok (.sipush 402, 3) := by decide +kernel
theorem dX11_pour_57 : decode cX11_pour 57 = .ok (.iconst 4, 1) := by decide +kernel
theorem dX11_pour_58 : decode cX11_pour 58 = .ok (.iload_n 1, 1) := by decide +kernel
theorem dX11_pour_59 : decode cX11_pour 59 = .ok (.imul, 1) := by decide +kernel
theorem dX11_pour_60 : decode cX11_pour 60 = .ok (.iadd, 1) := by decide +kernel
theorem dX11_pour_61 : decode cX11_pour 61 = .ok (.iconst 2, 1) := by decide +kernel
theorem dX11_pour_62 : decode cX11_pour 62 = .ok (.iadd, 1) := by decide +kernel
theorem dX11_pour_63 : decode cX11_pour 63 = .ok (.iload_n 3, 1) := by decide +kernel
theorem dX11_pour_64 : decode cX11_pour 64 = .ok (.bipush 99, 2) := by decide +kernel
theorem dX11_pour_66 : decode cX11_pour 66 = .ok (.if_icmp .le 8, 3) := by decide +kernel
theorem dX11_pour_69 : decode cX11_pour 69 = .ok (.bipush 99, 2) := by decide +kernel
theorem dX11_pour_71 : decode cX11_pour 71 = .ok (.goto 4, 3) := by decide +kernel
theorem dX11_pour_74 : decode cX11_pour 74 = .ok (.iload_n 3, 1) := by decide +kernel
theorem dX11_pour_75 : decode cX11_pour 75 = .ok (.iastore, 1) := by decide +kernel
theorem dX11_pour_76 : decode cX11_pour 76 = .ok (.aload_n 0, 1) := by decide +kernel
theorem dX11_pour_77 : decode cX11_pour 77 = .ok (.iload_n 1, 1) := by decide +kernel
theorem dX11_pour_78 : decode cX11_pour 78 = .ok (.iconst 2, 1) := by decide +kernel
theorem dX11_pour_79 : decode cX11_pour 79 = .ok (.invokevirtual 53, 3) := by decide +kernel
theorem dX11_pour_82 : decode cX11_pour 82 = .ok (.ireturn, 1) := by decide +kernel
theorem dX11_shed_0 : decode cX11_shed 0 = .ok (.iload_n 1, 1) := by decide +kernel
theorem dX11_shed_1 : decode cX11_shed 1 = .ok (.i2l, 1) := by decide +kernel
theorem dX11_shed_2 : decode cX11_shed 2 = .ok (.ldc2_w 168, 3) := by decide +kernel
theorem dX11_shed_5 : decode cX11_shed 5 = .ok (.ldc2_w 47, 3) := by decide +kernel
theorem dX11_shed_8 : decode cX11_shed 8 = .ok (.invokestatic 43, 3) := by decide +kernel
theorem dX11_shed_11 : decode cX11_shed 11 = .ok (.ifCond .ne 10, 3) := by decide +kernel
theorem dX11_shed_14 : decode cX11_shed 14 = .ok (.aload_n 0, 1) := by decide +kernel
theorem dX11_shed_15 : decode cX11_shed 15 = .ok (.ldc 40, 2) := by decide +kernel
theorem dX11_shed_17 : decode cX11_shed 17 = .ok (.invokevirtual 94, 3) := by decide +kernel
theorem dX11_shed_20 : decode cX11_shed 20 = .ok (.ireturn, 1) := by decide +kernel
theorem dX11_shed_21 : decode cX11_shed 21 = .ok (.iconst 0, 1) := by decide +kernel
theorem dX11_shed_22 : decode cX11_shed 22 = .ok (.istore_n 2, 1) := by decide +kernel
theorem dX11_shed_23 : decode cX11_shed 23 = .ok (.iconst 0, 1) := by decide +kernel
theorem dX11_shed_24 : decode cX11_shed 24 = .ok (.istore_n 3, 1) := by decide +kernel
theorem dX11_shed_25 : decode cX11_shed 25 = .ok (.iload_n 3, 1) := by decide +kernel
theorem dX11_shed_26 : decode cX11_shed 26 = .ok (.bipush 12, 2) := by decide +kernel
theorem dX11_shed_28 : decode cX11_shed 28 = .ok (.if_icmp .ge 34, 3) := by decide +kernel
theorem dX11_shed_31 : decode cX11_shed 31 = .ok (.iload_n 2, 1) := by decide +kernel
theorem dX11_shed_32 : decode cX11_shed 32 = .ok (.iload_n 1, 1) := by decide +kernel
theorem dX11_shed_33 : decode cX11_shed 33 = .ok (.ifCond .lt 8, 3) := by decide +kernel
theorem dX11_shed_36 : decode cX11_shed 36 = .ok (.iload_n 3, 1) := by decide +kernel
theorem dX11_shed_37 : decode cX11_shed 37 = .ok (.iload_n 1, 1) := by decide +kernel
theorem dX11_shed_38 : decode cX11_shed 38 = .ok (.if_icmp .ne 15, 3) := by decide +kernel
theorem dX11_shed_41 : decode cX11_shed 41 = .ok (.aload_n 0, 1) := by decide +kernel
theorem dX11_shed_42 : decode cX11_shed 42 = .ok (.getfield 9, 3) := by decide +kernel
theorem dX11_shed_45 : decode cX11_shed 45 = .ok (.bipush 6, 2) := by decide +kernel
theorem dX11_shed_47 : decode cX11_shed 47 = .ok (.iload_n 3, 1) := by decide +kernel
theorem dX11_shed_48 : decode cX11_shed 48 = .ok (.iadd, 1) := by decide +kernel
theorem dX11_shed_49 : decode cX11_shed 49 = .ok (.iaload, 1) := by decide +kernel
theorem dX11_shed_50 : decode cX11_shed 50 = .ok (.goto 4, 3) := by decide +kernel
theorem dX11_shed_53 : decode cX11_shed 53 = .ok (.iconst 0, 1) := by decide +kernel
theorem dX11_shed_54 : decode cX11_shed 54 = .ok (.iadd, 1) := by decide +kernel
theorem dX11_shed_55 : decode cX11_shed 55 = .ok (.istore_n 2, 1) := by decide +kernel
theorem dX11_shed_56 : decode cX11_shed 56 = .ok (.iinc 3 1, 3) := by decide +kernel
theorem dX11_shed_59 : decode cX11_shed 59 = .ok (.goto (-34), 3) := by decide +kernel
theorem dX11_shed_62 : decode cX11_shed 62 = .ok (.iload_n 2, 1) := by decide +kernel
theorem dX11_shed_63 : decode cX11_shed 63 = .ok (.ireturn, 1) := by decide +kernel
theorem dX11_feed_0 : decode cX11_feed 0 = .ok (.iload_n 2, 1) := by decide +kernel
theorem dX11_feed_1 : decode cX11_feed 1 = .ok (.i2l, 1) := by decide +kernel
theorem dX11_feed_2 : decode cX11_feed 2 = .ok (.lconst 1, 1) := by decide +kernel
theorem dX11_feed_3 : decode cX11_feed 3 = .ok (.ldc2_w 170, 3) := by decide +kernel
theorem dX11_feed_6 : decode cX11_feed 6 = .ok (.invokestatic 43, 3) := by decide +kernel
theorem dX11_feed_9 : decode cX11_feed 9 = .ok (.ifCond .ne 10, 3) := by decide +kernel
theorem dX11_feed_12 : decode cX11_feed 12 = .ok (.aload_n 0, 1) := by decide +kernel
theorem dX11_feed_13 : decode cX11_feed 13 = .ok (.ldc 40, 2) := by decide +kernel
theorem dX11_feed_15 : decode cX11_feed 15 = .ok (.invokevirtual 94, 3) := by decide +kernel
theorem dX11_feed_18 : decode cX11_feed 18 = .ok (.ireturn, 1) := by decide +kernel
theorem dX11_feed_19 : decode cX11_feed 19 = .ok (.aload_n 0, 1) := by decide +kernel
theorem dX11_feed_20 : decode cX11_feed 20 = .ok (.getfield 172, 3) := by decide +kernel
theorem dX11_feed_23 : decode cX11_feed 23 = .ok (.iload_n 2, 1) := by decide +kernel
theorem dX11_feed_24 : decode cX11_feed 24 = .ok (.iadd, 1) := by decide +kernel
theorem dX11_feed_25 : decode cX11_feed 25 = .ok (.bipush 100, 2) := by decide +kernel
theorem dX11_feed_27 : decode cX11_feed 27 = .ok (.if_icmp .le 10, 3) := by decide +kernel
theorem dX11_feed_30 : decode cX11_feed 30 = .ok (.aload_n 0, 1) := by decide +kernel
theorem dX11_feed_31 : decode cX11_feed 31 = .ok (.ldc 136, 2) := by decide +kernel
theorem dX11_feed_33 : decode cX11_feed 33 = .ok (.invokevirtual 94, 3) := by decide +kernel
theorem dX11_feed_36 : decode cX11_feed 36 = .ok (.ireturn, 1) := by decide +kernel
theorem dX11_feed_37 : decode cX11_feed 37 = .ok (.iload_n 2, 1) := by decide +kernel
theorem dX11_feed_38 : decode cX11_feed 38 = .ok (.iconst 1, 1) := by decide +kernel
theorem dX11_feed_39 : decode cX11_feed 39 = .ok (.isub, 1) := by decide +kernel
theorem dX11_feed_40 : decode cX11_feed 40 = .ok (.istore_n 3, 1) := by decide +kernel
theorem dX11_feed_41 : decode cX11_feed 41 = .ok (.iload_n 3, 1) := by decide +kernel
theorem dX11_feed_42 : decode cX11_feed 42 = .ok (.ifCond .lt 38, 3) := by decide +kernel
theorem dX11_feed_45 : decode cX11_feed 45 = .ok (.aload_n 0, 1) := by decide +kernel
theorem dX11_feed_46 : decode cX11_feed 46 = .ok (.getfield 19, 3) := by decide +kernel
theorem dX11_feed_49 : decode cX11_feed 49 = .ok (.aload_n 0, 1) := by decide +kernel
theorem dX11_feed_50 : decode cX11_feed 50 = .ok (.getfield 172, 3) := by decide +kernel
theorem dX11_feed_53 : decode cX11_feed 53 = .ok (.iload_n 1, 1) := by decide +kernel
theorem dX11_feed_54 : decode cX11_feed 54 = .ok (.bipush 8, 2) := by decide +kernel
theorem dX11_feed_56 : decode cX11_feed 56 = .ok (.iload_n 3, 1) := by decide +kernel
theorem dX11_feed_57 : decode cX11_feed 57 = .ok (.imul, 1) := by decide +kernel
theorem dX11_feed_58 : decode cX11_feed 58 = .ok (.ishr, 1) := by decide +kernel
theorem dX11_feed_59 : decode cX11_feed 59 = .ok (.sipush 255, 3) := by decide +kernel
theorem dX11_feed_62 : decode cX11_feed 62 = .ok (.iand, 1) := by decide +kernel
theorem dX11_feed_63 : decode cX11_feed 63 = .ok (.iastore, 1) := by decide +kernel
theorem dX11_feed_64 : decode cX11_feed 64 = .ok (.aload_n 0, 1) := by decide +kernel
theorem dX11_feed_65 : decode cX11_feed 65 = .ok (.dup, 1) := by decide +kernel
theorem dX11_feed_66 : decode cX11_feed 66 = .ok (.getfield 172, 3) := by decide +kernel
theorem dX11_feed_69 : decode cX11_feed 69 = .ok (.iconst 1, 1) := by decide +kernel
theorem dX11_feed_70 : decode cX11_feed 70 = .ok (.iadd, 1) := by decide +kernel
theorem dX11_feed_71 : decode cX11_feed 71 = .ok (.putfield 172, 3) := by decide +kernel
theorem dX11_feed_74 : decode cX11_feed 74 = .ok (.iinc 3 (-1), 3) := by decide +kernel
theorem dX11_feed_77 : decode cX11_feed 77 = .ok (.goto (-36), 3) := by decide +kernel
theorem dX11_feed_80 : decode cX11_feed 80 = .ok (.aload_n 0, 1) := by decide +kernel
theorem dX11_feed_81 : decode cX11_feed 81 = .ok (.getfield 172, 3) := by decide +kernel
theorem dX11_feed_84 : decode cX11_feed 84 = .ok (.ireturn, 1) := by decide +kernel
theorem dX11_wipe_0 : decode cX11_wipe 0 = .ok (.aload_n 0, 1) := by decide +kernel
theorem dX11_wipe_1 : decode cX11_wipe 1 = .ok (.getfield 172, 3) := by decide +kernel
theorem dX11_wipe_4 : decode cX11_wipe 4 = .ok (.istore_n 1, 1) := by decide +kernel
theorem dX11_wipe_5 : decode cX11_wipe 5 = .ok (.aload_n 0, 1) := by decide +kernel
theorem dX11_wipe_6 : decode cX11_wipe 6 = .ok (.iconst 0, 1) := by decide +kernel
theorem dX11_wipe_7 : decode cX11_wipe 7 = .ok (.putfield 172, 3) := by decide +kernel
theorem dX11_wipe_10 : decode cX11_wipe 10 = .ok (.iload_n 1, 1) := by decide +kernel
theorem dX11_wipe_11 : decode cX11_wipe 11 = .ok (.ireturn, 1) := by decide +kernel
theorem dX11_isByte_0 : decode cX11_isByte 0 = .ok (.iload_n 1, 1) := by decide +kernel
theorem dX11_isByte_1 : decode cX11_isByte 1 = .ok (.aload_n 0, 1) := by decide +kernel
theorem dX11_isByte_2 : decode cX11_isByte 2 = .ok (.getfield 172, 3) := by decide +kernel
theorem dX11_isByte_5 : decode cX11_isByte 5 = .ok (.if_icmp .ge 24, 3) := by decide +kernel
theorem dX11_isByte_8 : decode cX11_isByte 8 = .ok (.aload_n 0, 1) := by decide +kernel
theorem dX11_isByte_9 : decode cX11_isByte 9 = .ok (.getfield 19, 3) := by decide +kernel
theorem dX11_isByte_12 : decode cX11_isByte 12 = .ok (.iload_n 1, 1) := by decide +kernel
theorem dX11_isByte_13 : decode cX11_isByte 13 = .ok (.iaload, 1) := by decide +kernel
theorem dX11_isByte_14 : decode cX11_isByte 14 = .ok (.i2l, 1) := by decide +kernel
theorem dX11_isByte_15 : decode cX11_isByte 15 = .ok (.iload_n 2, 1) := by decide +kernel
theorem dX11_isByte_16 : decode cX11_isByte 16 = .ok (.i2l, 1) := by decide +kernel
theorem dX11_isByte_17 : decode cX11_isByte 17 = .ok (.iload_n 3, 1) := by decide +kernel
theorem dX11_isByte_18 : decode cX11_isByte 18 = .ok (.i2l, 1) := by decide +kernel
theorem dX11_isByte_19 : decode cX11_isByte 19 = .ok (.invokestatic 43, 3) := by decide +kernel
theorem dX11_isByte_22 : decode cX11_isByte 22 = .ok (.ifCond .eq 7, 3) := by decide +kernel
theorem dX11_isByte_25 : decode cX11_isByte 25 = .ok (.iconst 1, 1) := by decide +kernel
theorem dX11_isByte_26 : decode cX11_isByte 26 = .ok (.goto 4, 3) := by decide +kernel
theorem dX11_isByte_29 : decode cX11_isByte 29 = .ok (.iconst 0, 1) := by decide +kernel
theorem dX11_isByte_30 : decode cX11_isByte 30 = .ok (.ireturn, 1) := by decide +kernel
theorem dX11_token_0 : decode cX11_token 0 = .ok (.aload_n 0, 1) := by decide +kernel
theorem dX11_token_1 : decode cX11_token 1 = .ok (.aload_n 0, 1) := by decide +kernel
theorem dX11_token_2 : decode cX11_token 2 = .ok (.getfield 176, 3) := by decide +kernel
theorem dX11_token_5 : decode cX11_token 5 = .ok (.putfield 179, 3) := by decide +kernel
theorem dX11_token_8 : decode cX11_token 8 = .ok (.aload_n 0, 1) := by decide +kernel
theorem dX11_token_9 : decode cX11_token 9 = .ok (.aload_n 0, 1) := by decide +kernel
theorem dX11_token_10 : decode cX11_token 10 = .ok (.getfield 179, 3) := by decide +kernel
theorem dX11_token_13 : decode cX11_token 13 = .ok (.bipush 32, 2) := by decide +kernel
theorem dX11_token_15 : decode cX11_token 15 = .ok (.bipush 32, 2) := by decide +kernel
theorem dX11_token_17 : decode cX11_token 17 = .ok (.invokevirtual 182, 3) := by decide +kernel
theorem dX11_token_20 : decode cX11_token 20 = .ok (.ifCond .eq 16, 3) := by decide +kernel
theorem dX11_token_23 : decode cX11_token 23 = .ok (.aload_n 0, 1) := by decide +kernel
theorem dX11_token_24 : decode cX11_token 24 = .ok (.dup, 1) := by decide +kernel
theorem dX11_token_25 : decode cX11_token 25 = .ok (.getfield 179, 3) := by decide +kernel
theorem dX11_token_28 : decode cX11_token 28 = .ok (.iconst 1, 1) := by decide +kernel
theorem dX11_token_29 : decode cX11_token 29 = .ok (.iadd, 1) := by decide +kernel
theorem dX11_token_30 : decode cX11_token 30 = .ok (.putfield 179, 3) := by decide +kernel
theorem dX11_token_33 : decode cX11_token 33 = .ok (.goto (-25), 3) := by decide +kernel
theorem dX11_token_36 : decode cX11_token 36 = .ok (.aload_n 0, 1) := by decide +kernel
theorem dX11_token_37 : decode cX11_token 37 = .ok (.aload_n 0, 1) := by decide +kernel
theorem dX11_token_38 : decode cX11_token 38 = .ok (.getfield 179, 3) := by decide +kernel
theorem dX11_token_41 : decode cX11_token 41 = .ok (.putfield 176, 3) := by decide +kernel
theorem dX11_token_44 : decode cX11_token 44 = .ok (.aload_n 0, 1) := by decide +kernel
theorem dX11_token_45 : decode cX11_token 45 = .ok (.iconst 0, 1) := by decide +kernel
theorem dX11_token_46 : decode cX11_token 46 = .ok (.putfield 186, 3) := by decide +kernel
theorem dX11_token_49 : decode cX11_token 49 = .ok (.aload_n 0, 1) := by decide +kernel
theorem dX11_token_50 : decode cX11_token 50 = .ok (.aload_n 0, 1) := by decide +kernel
theorem dX11_token_51 : decode cX11_token 51 = .ok (.getfield 179, 3) := by decide +kernel
theorem dX11_token_54 : decode cX11_token 54 = .ok (.aload_n 0, 1) := by decide +kernel
theorem dX11_token_55 : decode cX11_token 55 = .ok (.getfield 172, 3) := by decide +kernel
theorem dX11_token_58 : decode cX11_token 58 = .ok (.if_icmp .ne 7, 3) := by decide +kernel
theorem dX11_token_61 : decode cX11_token 61 = .ok (.iconst 0, 1) := by decide +kernel
theorem dX11_token_62 : decode cX11_token 62 = .ok (.goto 42, 3) := by decide +kernel
theorem dX11_token_65 : decode cX11_token 65 = .ok (.aload_n 0, 1) := by decide +kernel
theorem dX11_token_66 : decode cX11_token 66 = .ok (.aload_n 0, 1) := by decide +kernel
theorem dX11_token_67 : decode cX11_token 67 = .ok (.getfield 179, 3) := by decide +kernel
theorem dX11_token_70 : decode cX11_token 70 = .ok (.bipush 97, 2) := by decide +kernel
theorem dX11_token_72 : decode cX11_token 72 = .ok (.bipush 122, 2) := by decide +kernel
theorem dX11_token_74 : decode cX11_token 74 = .ok (.invokevirtual 182, 3) := by decide +kernel
theorem dX11_token_77 : decode cX11_token 77 = .ok (.ifCond .eq 7, 3) := by decide +kernel
theorem dX11_token_80 : decode cX11_token 80 = .ok (.iconst 1, 1) := by decide +kernel
theorem dX11_token_81 : decode cX11_token 81 = .ok (.goto 23, 3) := by decide +kernel
theorem dX11_token_84 : decode cX11_token 84 = .ok (.aload_n 0, 1) := by decide +kernel
theorem dX11_token_85 : decode cX11_token 85 = .ok (.aload_n 0, 1) := by decide +kernel
theorem dX11_token_86 : decode cX11_token 86 = .ok (.getfield 179, 3) := by decide +kernel
theorem dX11_token_89 : decode cX11_token 89 = .ok (.bipush 48, 2) := by decide +kernel
theorem dX11_token_91 : decode cX11_token 91 = .ok (.bipush 57, 2) := by decide +kernel
theorem dX11_token_93 : decode cX11_token 93 = .ok (.invokevirtual 182, 3) := by decide +kernel
theorem dX11_token_96 : decode cX11_token 96 = .ok (.ifCond .eq 7, 3) := by decide +kernel
theorem dX11_token_99 : decode cX11_token 99 = .ok (.iconst 2, 1) := by decide +kernel
theorem dX11_token_100 : decode cX11_token 100 = .ok (.goto 4, 3) := by decide +kernel
theorem dX11_token_103 : decode cX11_token 103 = .ok (.iconst 3, 1) := by decide +kernel
theorem dX11_token_104 : decode cX11_token 104 = .ok (.putfield 189, 3) := by decide +kernel
theorem dX11_token_107 : decode cX11_token 107 = .ok (.aload_n 0, 1) := by decide +kernel
theorem dX11_token_108 : decode cX11_token 108 = .ok (.getfield 189, 3) := by decide +kernel
theorem dX11_token_111 : decode cX11_token 111 = .ok (.iconst 3, 1) := by decide +kernel
theorem dX11_token_112 : decode cX11_token 112 = .ok (.if_icmp .ne 13, 3) := by decide +kernel
theorem dX11_token_115 : decode cX11_token 115 = .ok (.aload_n 0, 1) := by decide +kernel
theorem dX11_token_116 : decode cX11_token 116 = .ok (.dup, 1) := by decide +kernel
theorem dX11_token_117 : decode cX11_token 117 = .ok (.getfield 176, 3) := by decide +kernel
theorem dX11_token_120 : decode cX11_token 120 = .ok (.iconst 1, 1) := by decide +kernel
theorem dX11_token_121 : decode cX11_token 121 = .ok (.iadd, 1) := by decide +kernel
theorem dX11_token_122 : decode cX11_token 122 = .ok (.putfield 176, 3) := by decide +kernel
theorem dX11_token_125 : decode cX11_token 125 = .ok (.aload_n 0, 1) := by decide +kernel
theorem dX11_token_126 : decode cX11_token 126 = .ok (.getfield 189, 3) := by decide +kernel
theorem dX11_token_129 : decode cX11_token 129 = .ok (.iconst 1, 1) := by decide +kernel
theorem dX11_token_130 : decode cX11_token 130 = .ok (.if_icmp .ne 31, 3) := by decide +kernel
theorem dX11_token_133 : decode cX11_token 133 = .ok (.aload_n 0, 1) := by decide +kernel
theorem dX11_token_134 : decode cX11_token 134 = .ok (.aload_n 0, 1) := by decide +kernel
theorem dX11_token_135 : decode cX11_token 135 = .ok (.getfield 176, 3) := by decide +kernel
theorem dX11_token_138 : decode cX11_token 138 = .ok (.bipush 97, 2) := by decide +kernel
theorem dX11_token_140 : decode cX11_token 140 = .ok (.bipush 122, 2) := by decide +kernel
theorem dX11_token_142 : decode cX11_token 142 = .ok (.invokevirtual 182, 3) := by decide +kernel
theorem dX11_token_145 : decode cX11_token 145 = .ok (.ifCond .eq 16, 3) := by decide +kernel
theorem dX11_token_148 : decode cX11_token 148 = .ok (.aload_n 0, 1) := by decide +kernel
theorem dX11_token_149 : decode cX11_token 149 = .ok (.dup, 1) := by decide +kernel
theorem dX11_token_150 : decode cX11_token 150 = .ok (.getfield 176, 3) := by decide +kernel
theorem dX11_token_153 : decode cX11_token 153 = .ok (.iconst 1, 1) := by decide +kernel
theorem dX11_token_154 : decode cX11_token 154 = .ok (.iadd, 1) := by decide +kernel
theorem dX11_token_155 : decode cX11_token 155 = .ok (.putfield 176, 3) := by decide +kernel
theorem dX11_token_158 : decode cX11_token 158 = .ok (.goto (-33), 3) := by decide +kernel
theorem dX11_token_161 : decode cX11_token 161 = .ok (.aload_n 0, 1) := by decide +kernel
theorem dX11_token_162 : decode cX11_token 162 = .ok (.getfield 189, 3) := by decide +kernel
theorem dX11_token_165 : decode cX11_token 165 = .ok (.iconst 2, 1) := by decide +kernel
theorem dX11_token_166 : decode cX11_token 166 = .ok (.if_icmp .ne 72, 3) := by decide +kernel
theorem dX11_token_169 : decode cX11_token 169 = .ok (.aload_n 0, 1) := by decide +kernel
theorem dX11_token_170 : decode cX11_token 170 = .ok (.aload_n 0, 1) := by decide +kernel
theorem dX11_token_171 : decode cX11_token 171 = .ok (.getfield 176, 3) := by decide +kernel
theorem dX11_token_174 : decode cX11_token 174 = .ok (.bipush 48, 2) := by decide +kernel
theorem dX11_token_176 : decode cX11_token 176 = .ok (.bipush 57, 2) := by decide +kernel
theorem dX11_token_178 : decode cX11_token 178 = .ok (.invokevirtual 182, 3) := by decide +kernel
theorem dX11_token_181 : decode cX11_token 181 = .ok (.ifCond .eq 57, 3) := by decide +kernel
theorem dX11_token_184 : decode cX11_token 184 = .ok (.aload_n 0, 1) := by decide +kernel
theorem dX11_token_185 : decode cX11_token 185 = .ok (.aload_n 0, 1) := by decide +kernel
theorem dX11_token_186 : decode cX11_token 186 = .ok (.getfield 186, 3) := by decide +kernel
theorem dX11_token_189 : decode cX11_token 189 = .ok (.sipush 999, 3) := by decide +kernel
theorem dX11_token_192 : decode cX11_token 192 = .ok (.if_icmp .le 10, 3) := by decide +kernel
theorem dX11_token_195 : decode cX11_token 195 = .ok (.aload_n 0, 1) := by decide +kernel
theorem dX11_token_196 : decode cX11_token 196 = .ok (.getfield 186, 3) := by decide +kernel
theorem dX11_token_199 : decode cX11_token 199 = .ok (.goto 23, 3) := by decide +kernel
theorem dX11_token_202 : decode cX11_token 202 = .ok (.bipush 10, 2) := by decide +kernel
theorem dX11_token_204 : decode cX11_token 204 = .ok (.aload_n 0, 1) := by decide +kernel
theorem dX11_token_205 : decode cX11_token 205 = .ok (.getfield 186, 3) := by decide +kernel
theorem dX11_token_208 : decode cX11_token 208 = .ok (.imul, 1) := by decide +kernel
theorem dX11_token_209 : decode cX11_token 209 = .ok (.aload_n 0, 1) := by decide +kernel
theorem dX11_token_210 : decode cX11_token 210 = .ok (.getfield 19, 3) := by decide +kernel
theorem dX11_token_213 : decode cX11_token 213 = .ok (.aload_n 0, 1) := by decide +kernel
theorem dX11_token_214 : decode cX11_token 214 = .ok (.getfield 176, 3) := by decide +kernel
theorem dX11_token_217 : decode cX11_token 217 = .ok (.iaload, 1) := by decide +kernel
theorem dX11_token_218 : decode cX11_token 218 = .ok (.iadd, 1) := by decide +kernel
theorem dX11_token_219 : decode cX11_token 219 = .ok (.bipush 48, 2) := by decide +kernel
theorem dX11_token_221 : decode cX11_token 221 = .ok (.isub, 1) := by decide +kernel
theorem dX11_token_222 : decode cX11_token 222 = .ok (.putfield 186, 3) := by decide +kernel
theorem dX11_token_225 : decode cX11_token 225 = .ok (.aload_n 0, 1) := by decide +kernel
theorem dX11_token_226 : decode cX11_token 226 = .ok (.dup, 1) := by decide +kernel
theorem dX11_token_227 : decode cX11_token 227 = .ok (.getfield 176, 3) := by decide +kernel
theorem dX11_token_230 : decode cX11_token 230 = .ok (.iconst 1, 1) := by decide +kernel
theorem dX11_token_231 : decode cX11_token 231 = .ok (.iadd, 1) := by decide +kernel
theorem dX11_token_232 : decode cX11_token 232 = .ok (.putfield 176, 3) := by decide +kernel
theorem dX11_token_235 : decode cX11_token 235 = .ok (.goto (-74), 3) := by decide +kernel
theorem dX11_token_238 : decode cX11_token 238 = .ok (.return_, 1) := by decide +kernel
theorem dX11_isWord_0 : decode cX11_isWord 0 = .ok (.aload_n 0, 1) := by decide +kernel
theorem dX11_isWord_1 : decode cX11_isWord 1 = .ok (.getfield 192, 3) := by decide +kernel
theorem dX11_isWord_4 : decode cX11_isWord 4 = .ok (.ifCond .ne 31, 3) := by decide +kernel
theorem dX11_isWord_7 : decode cX11_isWord 7 = .ok (.aload_n 0, 1) := by decide +kernel
theorem dX11_isWord_8 : decode cX11_isWord 8 = .ok (.getfield 189, 3) := by decide +kernel
theorem dX11_isWord_11 : decode cX11_isWord 11 = .ok (.iconst 1, 1) := by decide +kernel
theorem dX11_isWord_12 : decode cX11_isWord 12 = .ok (.if_icmp .ne 23, 3) := by decide +kernel
theorem dX11_isWord_15 : decode cX11_isWord 15 = .ok (.aload_n 0, 1) := by decide +kernel
theorem dX11_isWord_16 : decode cX11_isWord 16 = .ok (.getfield 176, 3) := by decide +kernel
theorem dX11_isWord_19 : decode cX11_isWord 19 = .ok (.aload_n 0, 1) := by decide +kernel
theorem dX11_isWord_20 : decode cX11_isWord 20 = .ok (.getfield 179, 3) := by decide +kernel
theorem dX11_isWord_23 : decode cX11_isWord 23 = .ok (.isub, 1) := by decide +kernel
theorem dX11_isWord_24 : decode cX11_isWord 24 = .ok (.aload_n 1, 1) := by decide +kernel
theorem dX11_isWord_25 : decode cX11_isWord 25 = .ok (.invokevirtual 195, 3) := by decide +kernel
theorem dX11_isWord_28 : decode cX11_isWord 28 = .ok (.if_icmp .ne 7, 3) := by decide +kernel
theorem dX11_isWord_31 : decode cX11_isWord 31 = .ok (.iconst 1, 1) := by decide +kernel
theorem dX11_isWord_32 : decode cX11_isWord 32 = .ok (.goto 4, 3) := by decide +kernel
theorem dX11_isWord_35 : decode cX11_isWord 35 = .ok (.iconst 0, 1) := by decide +kernel
theorem dX11_isWord_36 : decode cX11_isWord 36 = .ok (.istore_n 2, 1) := by decide +kernel
theorem dX11_isWord_37 : decode cX11_isWord 37 = .ok (.iconst 0, 1) := by decide +kernel
theorem dX11_isWord_38 : decode cX11_isWord 38 = .ok (.istore_n 3, 1) := by decide +kernel
theorem dX11_isWord_39 : decode cX11_isWord 39 = .ok (.iload_n 2, 1) := by decide +kernel
theorem dX11_isWord_40 : decode cX11_isWord 40 = .ok (.ifCond .eq 42, 3) := by decide +kernel
theorem dX11_isWord_43 : decode cX11_isWord 43 = .ok (.iload_n 3, 1) := by decide +kernel
theorem dX11_isWord_44 : decode cX11_isWord 44 = .ok (.aload_n 1, 1) := by decide +kernel
theorem dX11_isWord_45 : decode cX11_isWord 45 = .ok (.invokevirtual 195, 3) := by decide +kernel
theorem dX11_isWord_48 : decode cX11_isWord 48 = .ok (.if_icmp .ge 34, 3) := by decide +kernel
theorem dX11_isWord_51 : decode cX11_isWord 51 = .ok (.aload_n 0, 1) := by decide +kernel
theorem dX11_isWord_52 : decode cX11_isWord 52 = .ok (.getfield 19, 3) := by decide +kernel
theorem dX11_isWord_55 : decode cX11_isWord 55 = .ok (.aload_n 0, 1) := by decide +kernel
theorem dX11_isWord_56 : decode cX11_isWord 56 = .ok (.getfield 179, 3) := by decide +kernel
theorem dX11_isWord_59 : decode cX11_isWord 59 = .ok (.iload_n 3, 1) := by decide +kernel
theorem dX11_isWord_60 : decode cX11_isWord 60 = .ok (.iadd, 1) := by decide +kernel
theorem dX11_isWord_61 : decode cX11_isWord 61 = .ok (.iaload, 1) := by decide +kernel
theorem dX11_isWord_62 : decode cX11_isWord 62 = .ok (.aload_n 1, 1) := by decide +kernel
theorem dX11_isWord_63 : decode cX11_isWord 63 = .ok (.iload_n 3, 1) := by decide +kernel
theorem dX11_isWord_64 : decode cX11_isWord 64 = .ok (.invokevirtual 200, 3) := by decide +kernel
theorem dX11_isWord_67 : decode cX11_isWord 67 = .ok (.if_icmp .ne 7, 3) := by decide +kernel
theorem dX11_isWord_70 : decode cX11_isWord 70 = .ok (.iconst 1, 1) := by decide +kernel
theorem dX11_isWord_71 : decode cX11_isWord 71 = .ok (.goto 4, 3) := by decide +kernel
theorem dX11_isWord_74 : decode cX11_isWord 74 = .ok (.iconst 0, 1) := by decide +kernel
theorem dX11_isWord_75 : decode cX11_isWord 75 = .ok (.istore_n 2, 1) := by decide +kernel
theorem dX11_isWord_76 : decode cX11_isWord 76 = .ok (.iinc 3 1, 3) := by decide +kernel
theorem dX11_isWord_79 : decode cX11_isWord 79 = .ok (.goto (-40), 3) := by decide +kernel
theorem dX11_isWord_82 : decode cX11_isWord 82 = .ok (.iload_n 2, 1) := by decide +kernel
theorem dX11_isWord_83 : decode cX11_isWord 83 = .ok (.ireturn, 1) := by decide +kernel
theorem dX11_isSign_0 : decode cX11_isSign 0 = .ok (.aload_n 0, 1) := by decide +kernel
theorem dX11_isSign_1 : decode cX11_isSign 1 = .ok (.getfield 192, 3) := by decide +kernel
theorem dX11_isSign_4 : decode cX11_isSign 4 = .ok (.ifCond .ne 28, 3) := by decide +kernel
theorem dX11_isSign_7 : decode cX11_isSign 7 = .ok (.aload_n 0, 1) := by decide +kernel
theorem dX11_isSign_8 : decode cX11_isSign 8 = .ok (.getfield 189, 3) := by decide +kernel
theorem dX11_isSign_11 : decode cX11_isSign 11 = .ok (.iconst 3, 1) := by decide +kernel
theorem dX11_isSign_12 : decode cX11_isSign 12 = .ok (.if_icmp .ne 20, 3) := by decide +kernel
theorem dX11_isSign_15 : decode cX11_isSign 15 = .ok (.aload_n 0, 1) := by decide +kernel
theorem dX11_isSign_16 : decode cX11_isSign 16 = .ok (.getfield 19, 3) := by decide +kernel
theorem dX11_isSign_19 : decode cX11_isSign 19 = .ok (.aload_n 0, 1) := by decide +kernel
theorem dX11_isSign_20 : decode cX11_isSign 20 = .ok (.getfield 179, 3) := by decide +kernel
theorem dX11_isSign_23 : decode cX11_isSign 23 = .ok (.iaload, 1) := by decide +kernel
theorem dX11_isSign_24 : decode cX11_isSign 24 = .ok (.iload_n 1, 1) := by decide +kernel
theorem dX11_isSign_25 : decode cX11_isSign 25 = .ok (.if_icmp .ne 7, 3) := by decide +kernel
theorem dX11_isSign_28 : decode cX11_isSign 28 = .ok (.iconst 1, 1) := by decide +kernel
theorem dX11_isSign_29 : decode cX11_isSign 29 = .ok (.goto 4, 3) := by decide +kernel
theorem dX11_isSign_32 : decode cX11_isSign 32 = .ok (.iconst 0, 1) := by decide +kernel
theorem dX11_isSign_33 : decode cX11_isSign 33 = .ok (.ireturn, 1) := by decide +kernel
theorem dX11_number_0 : decode cX11_number 0 = .ok (.aload_n 0, 1) := by decide +kernel
theorem dX11_number_1 : decode cX11_number 1 = .ok (.aload_n 0, 1) := by decide +kernel
theorem dX11_number_2 : decode cX11_number 2 = .ok (.getfield 192, 3) := by decide +kernel
theorem dX11_number_5 : decode cX11_number 5 = .ok (.ifCond .ne 26, 3) := by decide +kernel
theorem dX11_number_8 : decode cX11_number 8 = .ok (.aload_n 0, 1) := by decide +kernel
theorem dX11_number_9 : decode cX11_number 9 = .ok (.getfield 189, 3) := by decide +kernel
theorem dX11_number_12 : decode cX11_number 12 = .ok (.iconst 2, 1) := by decide +kernel
theorem dX11_number_13 : decode cX11_number 13 = .ok (.if_icmp .ne 18, 3) := by decide +kernel
theorem dX11_number_16 : decode cX11_number 16 = .ok (.aload_n 0, 1) := by decide +kernel
theorem dX11_number_17 : decode cX11_number 17 = .ok (.getfield 186, 3) := by decide +kernel
theorem dX11_number_20 : decode cX11_number 20 = .ok (.i2l, 1) := by decide +kernel
theorem dX11_number_21 : decode cX11_number 21 = .ok (.iload_n 1, 1) := by decide +kernel
theorem dX11_number_22 : decode cX11_number 22 = .ok (.i2l, 1) := by decide +kernel
theorem dX11_number_23 : decode cX11_number 23 = .ok (.iload_n 2, 1) := by decide +kernel
theorem dX11_number_24 : decode cX11_number 24 = .ok (.i2l, 1) := by decide +kernel
theorem dX11_number_25 : decode cX11_number 25 = .ok (.invokestatic 43, 3) := by decide +kernel
theorem dX11_number_28 : decode cX11_number 28 = .ok (.ifCond .ne 7, 3) := by decide +kernel
theorem dX11_number_31 : decode cX11_number 31 = .ok (.iconst 1, 1) := by decide +kernel
theorem dX11_number_32 : decode cX11_number 32 = .ok (.goto 4, 3) := by decide +kernel
theorem dX11_number_35 : decode cX11_number 35 = .ok (.iconst 0, 1) := by decide +kernel
theorem dX11_number_36 : decode cX11_number 36 = .ok (.putfield 192, 3) := by decide +kernel
theorem dX11_number_39 : decode cX11_number 39 = .ok (.aload_n 0, 1) := by decide +kernel
theorem dX11_number_40 : decode cX11_number 40 = .ok (.getfield 186, 3) := by decide +kernel
theorem dX11_number_43 : decode cX11_number 43 = .ok (.istore_n 3, 1) := by decide +kernel
theorem dX11_number_44 : decode cX11_number 44 = .ok (.aload_n 0, 1) := by decide +kernel
theorem dX11_number_45 : decode cX11_number 45 = .ok (.getfield 192, 3) := by decide +kernel
theorem dX11_number_48 : decode cX11_number 48 = .ok (.ifCond .ne 7, 3) := by decide +kernel
theorem dX11_number_51 : decode cX11_number 51 = .ok (.aload_n 0, 1) := by decide +kernel
theorem dX11_number_52 : decode cX11_number 52 = .ok (.invokevirtual 204, 3) := by decide +kernel
theorem dX11_number_55 : decode cX11_number 55 = .ok (.iload_n 3, 1) := by decide +kernel
theorem dX11_number_56 : decode cX11_number 56 = .ok (.ireturn, 1) := by decide +kernel
theorem dX11_deedHere_0 : decode cX11_deedHere 0 = .ok (.aload_n 0, 1) := by decide +kernel
theorem dX11_deedHere_1 : decode cX11_deedHere 1 = .ok (.ldc 207, 2) := by decide +kernel
theorem dX11_deedHere_3 : decode cX11_deedHere 3 = .ok (.invokevirtual 209, 3) := by decide +kernel
theorem dX11_deedHere_6 : decode cX11_deedHere 6 = .ok (.ifCond .eq 5, 3) := by decide +kernel
theorem dX11_deedHere_9 : decode cX11_deedHere 9 = .ok (.iconst 0, 1) := by decide +kernel
theorem dX11_deedHere_10 : decode cX11_deedHere 10 = .ok (.ireturn, 1) := by decide +kernel
theorem dX11_deedHere_11 : decode cX11_deedHere 11 = .ok (.aload_n 0, 1) := by decide +kernel
theorem dX11_deedHere_12 : decode cX11_deedHere 12 = .ok (.ldc 213, 2) := by decide +kernel
theorem dX11_deedHere_14 : decode cX11_deedHere 14 = .ok (.invokevirtual 209, 3) := by decide +kernel
theorem dX11_deedHere_17 : decode cX11_deedHere 17 = .ok (.ifCond .eq 5, 3) := by decide +kernel
theorem dX11_deedHere_20 : decode cX11_deedHere 20 = .ok (.iconst 1, 1) := by decide +kernel
theorem dX11_deedHere_21 : decode cX11_deedHere 21 = .ok (.ireturn, 1) := by decide +kernel
theorem dX11_deedHere_22 : decode cX11_deedHere 22 = .ok (.aload_n 0, 1) := by decide +kernel
theorem dX11_deedHere_23 : decode cX11_deedHere 23 = .ok (.ldc 215, 2) := by decide +kernel
theorem dX11_deedHere_25 : decode cX11_deedHere 25 = .ok (.invokevirtual 209, 3) := by decide +kernel
theorem dX11_deedHere_28 : decode cX11_deedHere 28 = .ok (.ifCond .eq 5, 3) := by decide +kernel
theorem dX11_deedHere_31 : decode cX11_deedHere 31 = .ok (.iconst 2, 1) := by decide +kernel
theorem dX11_deedHere_32 : decode cX11_deedHere 32 = .ok (.ireturn, 1) := by decide +kernel
theorem dX11_deedHere_33 : decode cX11_deedHere 33 = .ok (.aload_n 0, 1) := by decide +kernel
theorem dX11_deedHere_34 : decode cX11_deedHere 34 = .ok (.ldc 217, 2) := by decide +kernel
theorem dX11_deedHere_36 : decode cX11_deedHere 36 = .ok (.invokevirtual 209, 3) := by decide +kernel
theorem dX11_deedHere_39 : decode cX11_deedHere 39 = .ok (.ifCond .eq 5, 3) := by decide +kernel
theorem dX11_deedHere_42 : decode cX11_deedHere 42 = .ok (.iconst 3, 1) := by decide +kernel
theorem dX11_deedHere_43 : decode cX11_deedHere 43 = .ok (.ireturn, 1) := by decide +kernel
theorem dX11_deedHere_44 : decode cX11_deedHere 44 = .ok (.aload_n 0, 1) := by decide +kernel
theorem dX11_deedHere_45 : decode cX11_deedHere 45 = .ok (.ldc 219, 2) := by decide +kernel
theorem dX11_deedHere_47 : decode cX11_deedHere 47 = .ok (.invokevirtual 209, 3) := by decide +kernel
theorem dX11_deedHere_50 : decode cX11_deedHere 50 = .ok (.ifCond .eq 5, 3) := by decide +kernel
theorem dX11_deedHere_53 : decode cX11_deedHere 53 = .ok (.iconst 4, 1) := by decide +kernel
theorem dX11_deedHere_54 : decode cX11_deedHere 54 = .ok (.ireturn, 1) := by decide +kernel
theorem dX11_deedHere_55 : decode cX11_deedHere 55 = .ok (.aload_n 0, 1) := by decide +kernel
theorem dX11_deedHere_56 : decode cX11_deedHere 56 = .ok (.ldc 221, 2) := by decide +kernel
theorem dX11_deedHere_58 : decode cX11_deedHere 58 = .ok (.invokevirtual 209, 3) := by decide +kernel
theorem dX11_deedHere_61 : decode cX11_deedHere 61 = .ok (.ifCond .eq 5, 3) := by decide +kernel
theorem dX11_deedHere_64 : decode cX11_deedHere 64 = .ok (.iconst 5, 1) := by decide +kernel
theorem dX11_deedHere_65 : decode cX11_deedHere 65 = .ok (.ireturn, 1) := by decide +kernel
theorem dX11_deedHere_66 : decode cX11_deedHere 66 = .ok (.aload_n 0, 1) := by decide +kernel
theorem dX11_deedHere_67 : decode cX11_deedHere 67 = .ok (.ldc 223, 2) := by decide +kernel
theorem dX11_deedHere_69 : decode cX11_deedHere 69 = .ok (.invokevirtual 209, 3) := by decide +kernel
theorem dX11_deedHere_72 : decode cX11_deedHere 72 = .ok (.ifCond .eq 6, 3) := by decide +kernel
theorem dX11_deedHere_75 : decode cX11_deedHere 75 = .ok (.bipush 6, 2) := by decide +kernel
theorem dX11_deedHere_77 : decode cX11_deedHere 77 = .ok (.ireturn, 1) := by decide +kernel
theorem dX11_deedHere_78 : decode cX11_deedHere 78 = .ok (.aload_n 0, 1) := by decide +kernel
theorem dX11_deedHere_79 : decode cX11_deedHere 79 = .ok (.ldc 225, 2) := by decide +kernel
theorem dX11_deedHere_81 : decode cX11_deedHere 81 = .ok (.invokevirtual 209, 3) := by decide +kernel
theorem dX11_deedHere_84 : decode cX11_deedHere 84 = .ok (.ifCond .eq 6, 3) := by decide +kernel
theorem dX11_deedHere_87 : decode cX11_deedHere 87 = .ok (.bipush 7, 2) := by decide +kernel
theorem dX11_deedHere_89 : decode cX11_deedHere 89 = .ok (.ireturn, 1) := by decide +kernel
theorem dX11_deedHere_90 : decode cX11_deedHere 90 = .ok (.aload_n 0, 1) := by decide +kernel
theorem dX11_deedHere_91 : decode cX11_deedHere 91 = .ok (.ldc 227, 2) := by decide +kernel
theorem dX11_deedHere_93 : decode cX11_deedHere 93 = .ok (.invokevirtual 209, 3) := by decide +kernel
theorem dX11_deedHere_96 : decode cX11_deedHere 96 = .ok (.ifCond .eq 6, 3) := by decide +kernel
theorem dX11_deedHere_99 : decode cX11_deedHere 99 = .ok (.bipush 8, 2) := by decide +kernel
theorem dX11_deedHere_101 : decode cX11_deedHere 101 = .ok (.ireturn, 1) := by decide +kernel
theorem dX11_deedHere_102 : decode cX11_deedHere 102 = .ok (.aload_n 0, 1) := by decide +kernel
theorem dX11_deedHere_103 : decode cX11_deedHere 103 = .ok (.ldc 229, 2) := by decide +kernel
theorem dX11_deedHere_105 : decode cX11_deedHere 105 = .ok (.invokevirtual 209, 3) := by decide +kernel
theorem dX11_deedHere_108 : decode cX11_deedHere 108 = .ok (.ifCond .eq 6, 3) := by decide +kernel
theorem dX11_deedHere_111 : decode cX11_deedHere 111 = .ok (.bipush 9, 2) := by decide +kernel
theorem dX11_deedHere_113 : decode cX11_deedHere 113 = .ok (.ireturn, 1) := by decide +kernel
theorem dX11_deedHere_114 : decode cX11_deedHere 114 = .ok (.aload_n 0, 1) := by decide +kernel
theorem dX11_deedHere_115 : decode cX11_deedHere 115 = .ok (.ldc 231, 2) := by decide +kernel
theorem dX11_deedHere_117 : decode cX11_deedHere 117 = .ok (.invokevirtual 209, 3) := by decide +kernel
theorem dX11_deedHere_120 : decode cX11_deedHere 120 = .ok (.ifCond .eq 6, 3) := by decide +kernel
theorem dX11_deedHere_123 : decode cX11_deedHere 123 = .ok (.bipush 10, 2) := by decide +kernel
theorem dX11_deedHere_125 : decode cX11_deedHere 125 = .ok (.ireturn, 1) := by decide +kernel
theorem dX11_deedHere_126 : decode cX11_deedHere 126 = .ok (.aload_n 0, 1) := by decide +kernel
theorem dX11_deedHere_127 : decode cX11_deedHere 127 = .ok (.ldc 233, 2) := by decide +kernel
theorem dX11_deedHere_129 : decode cX11_deedHere 129 = .ok (.invokevirtual 209, 3) := by decide +kernel
theorem dX11_deedHere_132 : decode cX11_deedHere 132 = .ok (.ifCond .eq 8, 3) := by decide +kernel
theorem dX11_deedHere_135 : decode cX11_deedHere 135 = .ok (.bipush 11, 2) := by decide +kernel
theorem dX11_deedHere_137 : decode cX11_deedHere 137 = .ok (.goto 18, 3) := by decide +kernel
theorem dX11_deedHere_140 : decode cX11_deedHere 140 = .ok (.aload_n 0, 1) := by decide +kernel
theorem dX11_deedHere_141 : decode cX11_deedHere 141 = .ok (.ldc 235, 2) := by decide +kernel
theorem dX11_deedHere_143 : decode cX11_deedHere 143 = .ok (.invokevirtual 209, 3) := by decide +kernel
theorem dX11_deedHere_146 : decode cX11_deedHere 146 = .ok (.ifCond .eq 8, 3) := by decide +kernel
theorem dX11_deedHere_149 : decode cX11_deedHere 149 = .ok (.bipush 12, 2) := by decide +kernel
theorem dX11_deedHere_151 : decode cX11_deedHere 151 = .ok (.goto 4, 3) := by decide +kernel
theorem dX11_deedHere_154 : decode cX11_deedHere 154 = .ok (.iconst (-1), 1) := by decide +kernel
theorem dX11_deedHere_155 : decode cX11_deedHere 155 = .ok (.ireturn, 1) := by decide +kernel
theorem dX11_wind_0 : decode cX11_wind 0 = .ok (.aload_n 0, 1) := by decide +kernel
theorem dX11_wind_1 : decode cX11_wind 1 = .ok (.bipush 45, 2) := by decide +kernel
theorem dX11_wind_3 : decode cX11_wind 3 = .ok (.invokevirtual 237, 3) := by decide +kernel
theorem dX11_wind_6 : decode cX11_wind 6 = .ok (.istore_n 1, 1) := by decide +kernel
theorem dX11_wind_7 : decode cX11_wind 7 = .ok (.iload_n 1, 1) := by decide +kernel
theorem dX11_wind_8 : decode cX11_wind 8 = .ok (.ifCond .eq 7, 3) := by decide +kernel
theorem dX11_wind_11 : decode cX11_wind 11 = .ok (.aload_n 0, 1) := by decide +kernel
theorem dX11_wind_12 : decode cX11_wind 12 = .ok (.invokevirtual 204, 3) := by decide +kernel
theorem dX11_wind_15 : decode cX11_wind 15 = .ok (.aload_n 0, 1) := by decide +kernel
theorem dX11_wind_16 : decode cX11_wind 16 = .ok (.iconst 0, 1) := by decide +kernel
theorem dX11_wind_17 : decode cX11_wind 17 = .ok (.bipush 20, 2) := by decide +kernel
theorem dX11_wind_19 : decode cX11_wind 19 = .ok (.invokevirtual 240, 3) := by decide +kernel
theorem dX11_wind_22 : decode cX11_wind 22 = .ok (.istore_n 2, 1) := by decide +kernel
theorem dX11_wind_23 : decode cX11_wind 23 = .ok (.iload_n 1, 1) := by decide +kernel
theorem dX11_wind_24 : decode cX11_wind 24 = .ok (.ifCond .eq 8, 3) := by decide +kernel
theorem dX11_wind_27 : decode cX11_wind 27 = .ok (.iload_n 2, 1) := by decide +kernel
theorem dX11_wind_28 : decode cX11_wind 28 = .ok (.ineg, 1) := by decide +kernel
theorem dX11_wind_29 : decode cX11_wind 29 = .ok (.goto 4, 3) := by decide +kernel
theorem dX11_wind_32 : decode cX11_wind 32 = .ok (.iload_n 2, 1) := by decide +kernel
theorem dX11_wind_33 : decode cX11_wind 33 = .ok (.ireturn, 1) := by decide +kernel
theorem dX11_deed_0 : decode cX11_deed 0 = .ok (.aload_n 0, 1) := by decide +kernel
theorem dX11_deed_1 : decode cX11_deed 1 = .ok (.invokevirtual 242, 3) := by decide +kernel
theorem dX11_deed_4 : decode cX11_deed 4 = .ok (.istore_n 2, 1) := by decide +kernel
theorem dX11_deed_5 : decode cX11_deed 5 = .ok (.aload_n 0, 1) := by decide +kernel
theorem dX11_deed_6 : decode cX11_deed 6 = .ok (.aload_n 0, 1) := by decide +kernel
theorem dX11_deed_7 : decode cX11_deed 7 = .ok (.getfield 192, 3) := by decide +kernel
theorem dX11_deed_10 : decode cX11_deed 10 = .ok (.ifCond .ne 7, 3) := by decide +kernel
theorem dX11_deed_13 : decode cX11_deed 13 = .ok (.iload_n 2, 1) := by decide +kernel
theorem dX11_deed_14 : decode cX11_deed 14 = .ok (.ifCond .ge 7, 3) := by decide +kernel
theorem dX11_deed_17 : decode cX11_deed 17 = .ok (.iconst 1, 1) := by decide +kernel
theorem dX11_deed_18 : decode cX11_deed 18 = .ok (.goto 4, 3) := by decide +kernel
theorem dX11_deed_21 : decode cX11_deed 21 = .ok (.iconst 0, 1) := by decide +kernel
theorem dX11_deed_22 : decode cX11_deed 22 = .ok (.putfield 192, 3) := by decide +kernel
theorem dX11_deed_25 : decode cX11_deed 25 = .ok (.aload_n 0, 1) := by decide +kernel
theorem dX11_deed_26 : decode cX11_deed 26 = .ok (.getfield 192, 3) := by decide +kernel
theorem dX11_deed_29 : decode cX11_deed 29 = .ok (.ifCond .eq 4, 3) := by decide +kernel
theorem dX11_deed_32 : decode cX11_deed 32 = .ok (.return_, 1) := by decide +kernel
theorem dX11_deed_33 : decode cX11_deed 33 = .ok (.aload_n 0, 1) := by decide +kernel
theorem dX11_deed_34 : decode cX11_deed 34 = .ok (.invokevirtual 204, 3) := by decide +kernel
theorem dX11_deed_37 : decode cX11_deed 37 = .ok (.aload_n 0, 1) := by decide +kernel
theorem dX11_deed_38 : decode cX11_deed 38 = .ok (.getfield 9, 3) := by decide +kernel
theorem dX11_deed_41 : decode cX11_deed 41 = .ok (.iload_n 1, 1) := by decide +kernel
theorem dX11_deed_42 : decode cX11_deed 42 = .ok (.iload_n 2, 1) := by decide +kernel
theorem dX11_deed_43 : decode cX11_deed 43 = .ok (.iastore, 1) := by decide +kernel
theorem dX11_deed_44 : decode cX11_deed 44 = .ok (.iload_n 2, 1) := by decide +kernel
theorem dX11_deed_45 : decode cX11_deed 45 = .ok (.bipush 8, 2) := by decide +kernel
theorem dX11_deed_47 : decode cX11_deed 47 = .ok (.if_icmp .ge 73, 3) := by decide +kernel
theorem dX11_deed_50 : decode cX11_deed 50 = .ok (.aload_n 0, 1) := by decide +kernel
theorem dX11_deed_51 : decode cX11_deed 51 = .ok (.getfield 9, 3) := by decide +kernel
theorem dX11_deed_54 : decode cX11_deed 54 = .ok (.iload_n 1, 1) := by decide +kernel
theorem dX11_deed_55 : decode cX11_deed 55 = .ok (.iconst 1, 1) := by decide +kernel
theorem dX11_deed_56 : decode cX11_deed 56 = .ok (.iadd, 1) := by decide +kernel
theorem dX11_deed_57 : decode cX11_deed 57 = .ok (.aload_n 0, 1) := by decide +kernel
theorem dX11_deed_58 : decode cX11_deed 58 = .ok (.iconst 1, 1) := by decide +kernel
theorem dX11_deed_59 : decode cX11_deed 59 = .ok (.bipush 99, 2) := by decide +kernel
theorem dX11_deed_61 : decode cX11_deed 61 = .ok (.invokevirtual 240, 3) := by decide +kernel
theorem dX11_deed_64 : decode cX11_deed 64 = .ok (.iastore, 1) := by decide +kernel
theorem dX11_deed_65 : decode cX11_deed 65 = .ok (.aload_n 0, 1) := by decide +kernel
theorem dX11_deed_66 : decode cX11_deed 66 = .ok (.aload_n 0, 1) := by decide +kernel
theorem dX11_deed_67 : decode cX11_deed 67 = .ok (.getfield 192, 3) := by decide +kernel
theorem dX11_deed_70 : decode cX11_deed 70 = .ok (.ifCond .ne 12, 3) := by decide +kernel
theorem dX11_deed_73 : decode cX11_deed 73 = .ok (.aload_n 0, 1) := by decide +kernel
theorem dX11_deed_74 : decode cX11_deed 74 = .ok (.ldc 245, 2) := by decide +kernel
theorem dX11_deed_76 : decode cX11_deed 76 = .ok (.invokevirtual 209, 3) := by decide +kernel
theorem dX11_deed_79 : decode cX11_deed 79 = .ok (.ifCond .ne 7, 3) := by decide +kernel
theorem dX11_deed_82 : decode cX11_deed 82 = .ok (.iconst 1, 1) := by decide +kernel
theorem dX11_deed_83 : decode cX11_deed 83 = .ok (.goto 4, 3) := by decide +kernel
theorem dX11_deed_86 : decode cX11_deed 86 = .ok (.iconst 0, 1) := by decide +kernel
theorem dX11_deed_87 : decode cX11_deed 87 = .ok (.putfield 192, 3) := by decide +kernel
theorem dX11_deed_90 : decode cX11_deed 90 = .ok (.aload_n 0, 1) := by decide +kernel
theorem dX11_deed_91 : decode cX11_deed 91 = .ok (.getfield 192, 3) := by decide +kernel
theorem dX11_deed_94 : decode cX11_deed 94 = .ok (.ifCond .eq 4, 3) := by decide +kernel
theorem dX11_deed_97 : decode cX11_deed 97 = .ok (.return_, 1) := by decide +kernel
theorem dX11_deed_98 : decode cX11_deed 98 = .ok (.aload_n 0, 1) := by decide +kernel
theorem dX11_deed_99 : decode cX11_deed 99 = .ok (.invokevirtual 204, 3) := by decide +kernel
theorem dX11_deed_102 : decode cX11_deed 102 = .ok (.aload_n 0, 1) := by decide +kernel
theorem dX11_deed_103 : decode cX11_deed 103 = .ok (.getfield 9, 3) := by decide +kernel
theorem dX11_deed_106 : decode cX11_deed 106 = .ok (.iload_n 1, 1) := by decide +kernel
theorem dX11_deed_107 : decode cX11_deed 107 = .ok (.iconst 2, 1) := by decide +kernel
theorem dX11_deed_108 : decode cX11_deed 108 = .ok (.iadd, 1) := by decide +kernel
theorem dX11_deed_109 : decode cX11_deed 109 = .ok (.aload_n 0, 1) := by decide +kernel
theorem dX11_deed_110 : decode cX11_deed 110 = .ok (.iconst 0, 1) := by decide +kernel
theorem dX11_deed_111 : decode cX11_deed 111 = .ok (.bipush 11, 2) := by decide +kernel
theorem dX11_deed_113 : decode cX11_deed 113 = .ok (.invokevirtual 240, 3) := by decide +kernel
theorem dX11_deed_116 : decode cX11_deed 116 = .ok (.iastore, 1) := by decide +kernel
theorem dX11_deed_117 : decode cX11_deed 117 = .ok (.goto 71, 3) := by decide +kernel
theorem dX11_deed_120 : decode cX11_deed 120 = .ok (.iload_n 2, 1) := by decide +kernel
theorem dX11_deed_121 : decode cX11_deed 121 = .ok (.bipush 10, 2) := by decide +kernel
theorem dX11_deed_123 : decode cX11_deed 123 = .ok (.if_icmp .ne 18, 3) := by decide +kernel
theorem dX11_deed_126 : decode cX11_deed 126 = .ok (.aload_n 0, 1) := by decide +kernel
theorem dX11_deed_127 : decode cX11_deed 127 = .ok (.getfield 9, 3) := by decide +kernel
theorem dX11_deed_130 : decode cX11_deed 130 = .ok (.iload_n 1, 1) := by decide +kernel
theorem dX11_deed_131 : decode cX11_deed 131 = .ok (.iconst 1, 1) := by decide +kernel
theorem dX11_deed_132 : decode cX11_deed 132 = .ok (.iadd, 1) := by decide +kernel
theorem dX11_deed_133 : decode cX11_deed 133 = .ok (.aload_n 0, 1) := by decide +kernel
theorem dX11_deed_134 : decode cX11_deed 134 = .ok (.invokevirtual 247, 3) := by decide +kernel
theorem dX11_deed_137 : decode cX11_deed 137 = .ok (.iastore, 1) := by decide +kernel
theorem dX11_deed_138 : decode cX11_deed 138 = .ok (.goto 50, 3) := by decide +kernel
theorem dX11_deed_141 : decode cX11_deed 141 = .ok (.aload_n 0, 1) := by decide +kernel
theorem dX11_deed_142 : decode cX11_deed 142 = .ok (.getfield 9, 3) := by decide +kernel
theorem dX11_deed_145 : decode cX11_deed 145 = .ok (.iload_n 1, 1) := by decide +kernel
theorem dX11_deed_146 : decode cX11_deed 146 = .ok (.iconst 1, 1) := by decide +kernel
theorem dX11_deed_147 : decode cX11_deed 147 = .ok (.iadd, 1) := by decide +kernel
theorem dX11_deed_148 : decode cX11_deed 148 = .ok (.aload_n 0, 1) := by decide +kernel
theorem dX11_deed_149 : decode cX11_deed 149 = .ok (.iload_n 2, 1) := by decide +kernel
theorem dX11_deed_150 : decode cX11_deed 150 = .ok (.bipush 8, 2) := by decide +kernel
theorem dX11_deed_152 : decode cX11_deed 152 = .ok (.if_icmp .ne 7, 3) := by decide +kernel
theorem dX11_deed_155 : decode cX11_deed 155 = .ok (.iconst 1, 1) := by decide +kernel
theorem dX11_deed_156 : decode cX11_deed 156 = .ok (.goto 4, 3) := by decide +kernel
theorem dX11_deed_159 : decode cX11_deed 159 = .ok (.iconst 0, 1) := by decide +kernel
theorem dX11_deed_160 : decode cX11_deed 160 = .ok (.iload_n 2, 1) := by decide +kernel
theorem dX11_deed_161 : decode cX11_deed 161 = .ok (.bipush 8, 2) := by decide +kernel
theorem dX11_deed_163 : decode cX11_deed 163 = .ok (.if_icmp .ne 8, 3) := by decide +kernel
theorem dX11_deed_166 : decode cX11_deed 166 = .ok (.bipush 50, 2) := by decide +kernel
theorem dX11_deed_168 : decode cX11_deed 168 = .ok (.goto 16, 3) := by decide +kernel
theorem dX11_deed_171 : decode cX11_deed 171 = .ok (.iload_n 2, 1) := by decide +kernel
theorem dX11_deed_172 : decode cX11_deed 172 = .ok (.bipush 12, 2) := by decide +kernel
theorem dX11_deed_174 : decode cX11_deed 174 = .ok (.if_icmp .ne 8, 3) := by decide +kernel
theorem dX11_deed_177 : decode cX11_deed 177 = .ok (.bipush 11, 2) := by decide +kernel
theorem dX11_deed_179 : decode cX11_deed 179 = .ok (.goto 5, 3) := by decide +kernel
theorem dX11_deed_182 : decode cX11_deed 182 = .ok (.bipush 9, 2) := by decide +kernel
theorem dX11_deed_184 : decode cX11_deed 184 = .ok (.invokevirtual 240, 3) := by decide +kernel
theorem dX11_deed_187 : decode cX11_deed 187 = .ok (.iastore, 1) := by decide +kernel
theorem dX11_deed_188 : decode cX11_deed 188 = .ok (.return_, 1) := by decide +kernel
theorem dX11_program_0 : decode cX11_program 0 = .ok (.aload_n 0, 1) := by decide +kernel
theorem dX11_program_1 : decode cX11_program 1 = .ok (.getfield 9, 3) := by decide +kernel
theorem dX11_program_4 : decode cX11_program 4 = .ok (.iconst 5, 1) := by decide +kernel
theorem dX11_program_5 : decode cX11_program 5 = .ok (.iaload, 1) := by decide +kernel
theorem dX11_program_6 : decode cX11_program 6 = .ok (.bipush 6, 2) := by decide +kernel
theorem dX11_program_8 : decode cX11_program 8 = .ok (.if_icmp .ne 10, 3) := by decide +kernel
theorem dX11_program_11 : decode cX11_program 11 = .ok (.aload_n 0, 1) := by decide +kernel
theorem dX11_program_12 : decode cX11_program 12 = .ok (.ldc 136, 2) := by decide +kernel
theorem dX11_program_14 : decode cX11_program 14 = .ok (.invokevirtual 94, 3) := by decide +kernel
theorem dX11_program_17 : decode cX11_program 17 = .ok (.ireturn, 1) := by decide +kernel
theorem dX11_program_18 : decode cX11_program 18 = .ok (.sipush 434, 3) := by decide +kernel
theorem dX11_program_21 : decode cX11_program 21 = .ok (.bipush 37, 2) := by decide +kernel
theorem dX11_program_23 : decode cX11_program 23 = .ok (.aload_n 0, 1) := by decide +kernel
theorem dX11_program_24 : decode cX11_program 24 = .ok (.getfield 9, 3) := by decide +kernel
theorem dX11_program_27 : decode cX11_program 27 = .ok (.iconst 5, 1) := by decide +kernel
theorem dX11_program_28 : decode cX11_program 28 = .ok (.iaload, 1) := by decide +kernel
theorem dX11_program_29 : decode cX11_program 29 = .ok (.imul, 1) := by decide +kernel
theorem dX11_program_30 : decode cX11_program 30 = .ok (.iadd, 1) := by decide +kernel
theorem dX11_program_31 : decode cX11_program 31 = .ok (.istore_n 1, 1) := by decide +kernel
theorem dX11_program_32 : decode cX11_program 32 = .ok (.aload_n 0, 1) := by decide +kernel
theorem dX11_program_33 : decode cX11_program 33 = .ok (.iconst 0, 1) := by decide +kernel
theorem dX11_program_34 : decode cX11_program 34 = .ok (.putfield 176, 3) := by decide +kernel
theorem dX11_program_37 : decode cX11_program 37 = .ok (.aload_n 0, 1) := by decide +kernel
theorem dX11_program_38 : decode cX11_program 38 = .ok (.iconst 0, 1) := by decide +kernel
theorem dX11_program_39 : decode cX11_program 39 = .ok (.putfield 192, 3) := by decide +kernel
theorem dX11_program_42 : decode cX11_program 42 = .ok (.aload_n 0, 1) := by decide +kernel
theorem dX11_program_43 : decode cX11_program 43 = .ok (.invokevirtual 204, 3) := by decide +kernel
theorem dX11_program_46 : decode cX11_program 46 = .ok (.iconst 0, 1) := by decide +kernel
theorem dX11_program_47 : decode cX11_program 47 = .ok (.istore_n 2, 1) := by decide +kernel
theorem dX11_program_48 : decode cX11_program 48 = .ok (.iconst 1, 1) := by decide +kernel
theorem dX11_program_49 : decode cX11_program 49 = .ok (.istore_n 3, 1) := by decide +kernel
theorem dX11_program_50 : decode cX11_program 50 = .ok (.iload_n 3, 1) := by decide +kernel
theorem dX11_program_51 : decode cX11_program 51 = .ok (.ifCond .eq 57, 3) := by decide +kernel
theorem dX11_program_54 : decode cX11_program 54 = .ok (.aload_n 0, 1) := by decide +kernel
theorem dX11_program_55 : decode cX11_program 55 = .ok (.iload_n 2, 1) := by decide +kernel
theorem dX11_program_56 : decode cX11_program 56 = .ok (.bipush 12, 2) := by decide +kernel
theorem dX11_program_58 : decode cX11_program 58 = .ok (.if_icmp .ne 7, 3) := by decide +kernel
theorem dX11_program_61 : decode cX11_program 61 = .ok (.iconst 1, 1) := by decide +kernel
theorem dX11_program_62 : decode cX11_program 62 = .ok (.goto 4, 3) := by decide +kernel
theorem dX11_program_65 : decode cX11_program 65 = .ok (.iconst 0, 1) := by decide +kernel
theorem dX11_program_66 : decode cX11_program 66 = .ok (.putfield 192, 3) := by decide +kernel
theorem dX11_program_69 : decode cX11_program 69 = .ok (.aload_n 0, 1) := by decide +kernel
theorem dX11_program_70 : decode cX11_program 70 = .ok (.getfield 192, 3) := by decide +kernel
theorem dX11_program_73 : decode cX11_program 73 = .ok (.ifCond .ne 14, 3) := by decide +kernel
theorem dX11_program_76 : decode cX11_program 76 = .ok (.aload_n 0, 1) := by decide +kernel
theorem dX11_program_77 : decode cX11_program 77 = .ok (.iload_n 1, 1) := by decide +kernel
theorem dX11_program_78 : decode cX11_program 78 = .ok (.iconst 1, 1) := by decide +kernel
theorem dX11_program_79 : decode cX11_program 79 = .ok (.iadd, 1) := by decide +kernel
theorem dX11_program_80 : decode cX11_program 80 = .ok (.iconst 3, 1) := by decide +kernel
theorem dX11_program_81 : decode cX11_program 81 = .ok (.iload_n 2, 1) := by decide +kernel
theorem dX11_program_82 : decode cX11_program 82 = .ok (.imul, 1) := by decide +kernel
theorem dX11_program_83 : decode cX11_program 83 = .ok (.iadd, 1) := by decide +kernel
theorem dX11_program_84 : decode cX11_program 84 = .ok (.invokevirtual 249, 3) := by decide +kernel
theorem dX11_program_87 : decode cX11_program 87 = .ok (.iinc 2 1, 3) := by decide +kernel
theorem dX11_program_90 : decode cX11_program 90 = .ok (.aload_n 0, 1) := by decide +kernel
theorem dX11_program_91 : decode cX11_program 91 = .ok (.bipush 59, 2) := by decide +kernel
theorem dX11_program_93 : decode cX11_program 93 = .ok (.invokevirtual 237, 3) := by decide +kernel
theorem dX11_program_96 : decode cX11_program 96 = .ok (.istore_n 3, 1) := by decide +kernel
theorem dX11_program_97 : decode cX11_program 97 = .ok (.iload_n 3, 1) := by decide +kernel
theorem dX11_program_98 : decode cX11_program 98 = .ok (.ifCond .eq (-48), 3) := by decide +kernel
theorem dX11_program_101 : decode cX11_program 101 = .ok (.aload_n 0, 1) := by decide +kernel
theorem dX11_program_102 : decode cX11_program 102 = .ok (.invokevirtual 204, 3) := by decide +kernel
theorem dX11_program_105 : decode cX11_program 105 = .ok (.goto (-55), 3) := by decide +kernel
theorem dX11_program_108 : decode cX11_program 108 = .ok (.aload_n 0, 1) := by decide +kernel
theorem dX11_program_109 : decode cX11_program 109 = .ok (.aload_n 0, 1) := by decide +kernel
theorem dX11_program_110 : decode cX11_program 110 = .ok (.getfield 192, 3) := by decide +kernel
theorem dX11_program_113 : decode cX11_program 113 = .ok (.ifCond .ne 10, 3) := by decide +kernel
theorem dX11_program_116 : decode cX11_program 116 = .ok (.aload_n 0, 1) := by decide +kernel
theorem dX11_program_117 : decode cX11_program 117 = .ok (.getfield 189, 3) := by decide +kernel
theorem dX11_program_120 : decode cX11_program 120 = .ok (.ifCond .eq 7, 3) := by decide +kernel
theorem dX11_program_123 : decode cX11_program 123 = .ok (.iconst 1, 1) := by decide +kernel
theorem dX11_program_124 : decode cX11_program 124 = .ok (.goto 4, 3) := by decide +kernel
theorem dX11_program_127 : decode cX11_program 127 = .ok (.iconst 0, 1) := by decide +kernel
theorem dX11_program_128 : decode cX11_program 128 = .ok (.putfield 192, 3) := by decide +kernel
theorem dX11_program_131 : decode cX11_program 131 = .ok (.aload_n 0, 1) := by decide +kernel
theorem dX11_program_132 : decode cX11_program 132 = .ok (.getfield 179, 3) := by decide +kernel
theorem dX11_program_135 : decode cX11_program 135 = .ok (.istore 4, 2) := by decide +kernel
theorem dX11_program_137 : decode cX11_program 137 = .ok (.aload_n 0, 1) := by decide +kernel
theorem dX11_program_138 : decode cX11_program 138 = .ok (.iconst 0, 1) := by decide +kernel
theorem dX11_program_139 : decode cX11_program 139 = .ok (.putfield 172, 3) := by decide +kernel
theorem dX11_program_142 : decode cX11_program 142 = .ok (.aload_n 0, 1) := by decide +kernel
theorem dX11_program_143 : decode cX11_program 143 = .ok (.getfield 192, 3) := by decide +kernel
theorem dX11_program_146 : decode cX11_program 146 = .ok (.ifCond .eq 8, 3) := by decide +kernel
theorem dX11_program_149 : decode cX11_program 149 = .ok (.iconst (-1), 1) := by decide +kernel
theorem dX11_program_150 : decode cX11_program 150 = .ok (.iload 4, 2) := by decide +kernel
theorem dX11_program_152 : decode cX11_program 152 = .ok (.isub, 1) := by decide +kernel
theorem dX11_program_153 : decode cX11_program 153 = .ok (.ireturn, 1) := by decide +kernel
theorem dX11_program_154 : decode cX11_program 154 = .ok (.aload_n 0, 1) := by decide +kernel
theorem dX11_program_155 : decode cX11_program 155 = .ok (.getfield 9, 3) := by decide +kernel
theorem dX11_program_158 : decode cX11_program 158 = .ok (.iload_n 1, 1) := by decide +kernel
theorem dX11_program_159 : decode cX11_program 159 = .ok (.iload_n 2, 1) := by decide +kernel
theorem dX11_program_160 : decode cX11_program 160 = .ok (.iastore, 1) := by decide +kernel
theorem dX11_program_161 : decode cX11_program 161 = .ok (.aload_n 0, 1) := by decide +kernel
theorem dX11_program_162 : decode cX11_program 162 = .ok (.getfield 9, 3) := by decide +kernel
theorem dX11_program_165 : decode cX11_program 165 = .ok (.iconst 5, 1) := by decide +kernel
theorem dX11_program_166 : decode cX11_program 166 = .ok (.dup2, 1) := by decide +kernel
theorem dX11_program_167 : decode cX11_program 167 = .ok (.iaload, 1) := by decide +kernel
theorem dX11_program_168 : decode cX11_program 168 = .ok (.iconst 1, 1) := by decide +kernel
theorem dX11_program_169 : decode cX11_program 169 = .ok (.iadd, 1) := by decide +kernel
theorem dX11_program_170 : decode cX11_program 170 = .ok (.iastore, 1) := by decide +kernel
theorem dX11_program_171 : decode cX11_program 171 = .ok (.aload_n 0, 1) := by decide +kernel
theorem dX11_program_172 : decode cX11_program 172 = .ok (.getfield 9, 3) := by decide +kernel
theorem dX11_program_175 : decode cX11_program 175 = .ok (.iconst 5, 1) := by decide +kernel
theorem dX11_program_176 : decode cX11_program 176 = .ok (.iaload, 1) := by decide +kernel
theorem dX11_program_177 : decode cX11_program 177 = .ok (.iconst 1, 1) := by decide +kernel
theorem dX11_program_178 : decode cX11_program 178 = .ok (.isub, 1) := by decide +kernel
theorem dX11_program_179 : decode cX11_program 179 = .ok (.ireturn, 1) := by decide +kernel
theorem dX11_isProgram_0 : decode cX11_isProgram 0 = .ok (.iload_n 1, 1) := by decide +kernel
theorem dX11_isProgram_1 : decode cX11_isProgram 1 = .ok (.i2l, 1) := by decide +kernel
theorem dX11_isProgram_2 : decode cX11_isProgram 2 = .ok (.lconst 0, 1) := by decide +kernel
theorem dX11_isProgram_3 : decode cX11_isProgram 3 = .ok (.aload_n 0, 1) := by decide +kernel
theorem dX11_isProgram_4 : decode cX11_isProgram 4 = .ok (.getfield 9, 3) := by decide +kernel
theorem dX11_isProgram_7 : decode cX11_isProgram 7 = .ok (.iconst 5, 1) := by decide +kernel
theorem dX11_isProgram_8 : decode cX11_isProgram 8 = .ok (.iaload, 1) := by decide +kernel
theorem dX11_isProgram_9 : decode cX11_isProgram 9 = .ok (.iconst 1, 1) := by decide +kernel
theorem dX11_isProgram_10 : decode cX11_isProgram 10 = .ok (.isub, 1) := by decide +kernel
theorem dX11_isProgram_11 : decode cX11_isProgram 11 = .ok (.i2l, 1) := by decide +kernel
theorem dX11_isProgram_12 : decode cX11_isProgram 12 = .ok (.invokestatic 43, 3) := by decide +kernel
theorem dX11_isProgram_15 : decode cX11_isProgram 15 = .ok (.ireturn, 1) := by decide +kernel
theorem dX11_programOf_0 : decode cX11_programOf 0 = .ok (.aload_n 0, 1) := by decide +kernel
theorem dX11_programOf_1 : decode cX11_programOf 1 = .ok (.iload_n 1, 1) := by decide +kernel
theorem dX11_programOf_2 : decode cX11_programOf 2 = .ok (.invokevirtual 252, 3) := by decide +kernel
theorem dX11_programOf_5 : decode cX11_programOf 5 = .ok (.ifCond .eq 13, 3) := by decide +kernel
theorem dX11_programOf_8 : decode cX11_programOf 8 = .ok (.iload_n 2, 1) := by decide +kernel
theorem dX11_programOf_9 : decode cX11_programOf 9 = .ok (.i2l, 1) := by decide +kernel
theorem dX11_programOf_10 : decode cX11_programOf 10 = .ok (.lconst 0, 1) := by decide +kernel
theorem dX11_programOf_11 : decode cX11_programOf 11 = .ok (.lconst 1, 1) := by decide +kernel
theorem dX11_programOf_12 : decode cX11_programOf 12 = .ok (.invokestatic 43, 3) := by decide +kernel
theorem dX11_programOf_15 : decode cX11_programOf 15 = .ok (.ifCond .ne 10, 3) := by decide +kernel
theorem dX11_programOf_18 : decode cX11_programOf 18 = .ok (.aload_n 0, 1) := by decide +kernel
theorem dX11_programOf_19 : decode cX11_programOf 19 = .ok (.ldc 40, 2) := by decide +kernel
theorem dX11_programOf_21 : decode cX11_programOf 21 = .ok (.invokevirtual 94, 3) := by decide +kernel
theorem dX11_programOf_24 : decode cX11_programOf 24 = .ok (.ireturn, 1) := by decide +kernel
theorem dX11_programOf_25 : decode cX11_programOf 25 = .ok (.sipush 434, 3) := by decide +kernel
theorem dX11_programOf_28 : decode cX11_programOf 28 = .ok (.bipush 37, 2) := by decide +kernel
theorem dX11_programOf_30 : decode cX11_programOf 30 = .ok (.iload_n 1, 1) := by decide +kernel
theorem dX11_programOf_31 : decode cX11_programOf 31 = .ok (.imul, 1) := by decide +kernel
theorem dX11_programOf_32 : decode cX11_programOf 32 = .ok (.iadd, 1) := by decide +kernel
theorem dX11_programOf_33 : decode cX11_programOf 33 = .ok (.istore_n 3, 1) := by decide +kernel
theorem dX11_programOf_34 : decode cX11_programOf 34 = .ok (.iconst 0, 1) := by decide +kernel
theorem dX11_programOf_35 : decode cX11_programOf 35 = .ok (.istore 4, 2) := by decide +kernel
theorem dX11_programOf_37 : decode cX11_programOf 37 = .ok (.iconst 0, 1) := by decide +kernel
theorem dX11_programOf_38 : decode cX11_programOf 38 = .ok (.istore 5, 2) := by decide +kernel
theorem dX11_programOf_40 : decode cX11_programOf 40 = .ok (.iload 5, 2) := by decide +kernel
theorem dX11_programOf_42 : decode cX11_programOf 42 = .ok (.aload_n 0, 1) := by decide +kernel
theorem dX11_programOf_43 : decode cX11_programOf 43 = .ok (.getfield 9, 3) := by decide +kernel
theorem dX11_programOf_46 : decode cX11_programOf 46 = .ok (.iload_n 3, 1) := by decide +kernel
theorem dX11_programOf_47 : decode cX11_programOf 47 = .ok (.iaload, 1) := by decide +kernel
theorem dX11_programOf_48 : decode cX11_programOf 48 = .ok (.if_icmp .ge 49, 3) := by decide +kernel
theorem dX11_programOf_51 : decode cX11_programOf 51 = .ok (.iload 4, 2) := by decide +kernel
theorem dX11_programOf_53 : decode cX11_programOf 53 = .ok (.aload_n 0, 1) := by decide +kernel
theorem dX11_programOf_54 : decode cX11_programOf 54 = .ok (.getfield 9, 3) := by decide +kernel
theorem dX11_programOf_57 : decode cX11_programOf 57 = .ok (.iload_n 3, 1) := by decide +kernel
theorem dX11_programOf_58 : decode cX11_programOf 58 = .ok (.iconst 1, 1) := by decide +kernel
theorem dX11_programOf_59 : decode cX11_programOf 59 = .ok (.iadd, 1) := by decide +kernel
theorem dX11_programOf_60 : decode cX11_programOf 60 = .ok (.iconst 3, 1) := by decide +kernel
theorem dX11_programOf_61 : decode cX11_programOf 61 = .ok (.iload 5, 2) := by decide +kernel
theorem dX11_programOf_63 : decode cX11_programOf 63 = .ok (.imul, 1) := by decide +kernel
theorem dX11_programOf_64 : decode cX11_programOf 64 = .ok (.iadd, 1) := by decide +kernel
theorem dX11_programOf_65 : decode cX11_programOf 65 = .ok (.iaload, 1) := by decide +kernel
theorem dX11_programOf_66 : decode cX11_programOf 66 = .ok (.bipush 8, 2) := by decide +kernel
theorem dX11_programOf_68 : decode cX11_programOf 68 = .ok (.if_icmp .ne 19, 3) := by decide +kernel
theorem dX11_programOf_71 : decode cX11_programOf 71 = .ok (.aload_n 0, 1) := by decide +kernel
theorem dX11_programOf_72 : decode cX11_programOf 72 = .ok (.getfield 9, 3) := by decide +kernel
theorem dX11_programOf_75 : decode cX11_programOf 75 = .ok (.iload_n 3, 1) := by decide +kernel
theorem dX11_programOf_76 : decode cX11_programOf 76 = .ok (.iconst 2, 1) := by decide +kernel
theorem dX11_programOf_77 : decode cX11_programOf 77 = .ok (.iadd, 1) := by decide +kernel
theorem dX11_programOf_78 : decode cX11_programOf 78 = .ok (.iconst 3, 1) := by decide +kernel
theorem dX11_programOf_79 : decode cX11_programOf 79 = .ok (.iload 5, 2) := by decide +kernel
theorem dX11_programOf_81 : decode cX11_programOf 81 = .ok (.imul, 1) := by decide +kernel
theorem dX11_programOf_82 : decode cX11_programOf 82 = .ok (.iadd, 1) := by decide +kernel
theorem dX11_programOf_83 : decode cX11_programOf 83 = .ok (.iaload, 1) := by decide +kernel
theorem dX11_programOf_84 : decode cX11_programOf 84 = .ok (.goto 4, 3) := by decide +kernel
theorem dX11_programOf_87 : decode cX11_programOf 87 = .ok (.iconst 0, 1) := by decide +kernel
theorem dX11_programOf_88 : decode cX11_programOf 88 = .ok (.iadd, 1) := by decide +kernel
theorem dX11_programOf_89 : decode cX11_programOf 89 = .ok (.istore 4, 2) := by decide +kernel
theorem dX11_programOf_91 : decode cX11_programOf 91 = .ok (.iinc 5 1, 3) := by decide +kernel
theorem dX11_programOf_94 : decode cX11_programOf 94 = .ok (.goto (-54), 3) := by decide +kernel
theorem dX11_programOf_97 : decode cX11_programOf 97 = .ok (.iload_n 2, 1) := by decide +kernel
theorem dX11_programOf_98 : decode cX11_programOf 98 = .ok (.ifCond .ne 12, 3) := by decide +kernel
theorem dX11_programOf_101 : decode cX11_programOf 101 = .ok (.aload_n 0, 1) := by decide +kernel
theorem dX11_programOf_102 : decode cX11_programOf 102 = .ok (.getfield 9, 3) := by decide +kernel
theorem dX11_programOf_105 : decode cX11_programOf 105 = .ok (.iload_n 3, 1) := by decide +kernel
theorem dX11_programOf_106 : decode cX11_programOf 106 = .ok (.iaload, 1) := by decide +kernel
theorem dX11_programOf_107 : decode cX11_programOf 107 = .ok (.goto 5, 3) := by decide +kernel
theorem dX11_programOf_110 : decode cX11_programOf 110 = .ok (.iload 4, 2) := by decide +kernel
theorem dX11_programOf_112 : decode cX11_programOf 112 = .ok (.ireturn, 1) := by decide +kernel
theorem dX11_does_0 : decode cX11_does 0 = .ok (.iload_n 1, 1) := by decide +kernel
theorem dX11_does_1 : decode cX11_does 1 = .ok (.bipush 8, 2) := by decide +kernel
theorem dX11_does_3 : decode cX11_does 3 = .ok (.if_icmp .ge 14, 3) := by decide +kernel
theorem dX11_does_6 : decode cX11_does 6 = .ok (.aload_n 0, 1) := by decide +kernel
theorem dX11_does_7 : decode cX11_does 7 = .ok (.iload_n 1, 1) := by decide +kernel
theorem dX11_does_8 : decode cX11_does 8 = .ok (.iload_n 3, 1) := by decide +kernel
theorem dX11_does_9 : decode cX11_does 9 = .ok (.iload_n 2, 1) := by decide +kernel
theorem dX11_does_10 : decode cX11_does 10 = .ok (.invokevirtual 133, 3) := by decide +kernel
theorem dX11_does_13 : decode cX11_does 13 = .ok (.pop, 1) := by decide +kernel
theorem dX11_does_14 : decode cX11_does 14 = .ok (.goto 44, 3) := by decide +kernel
theorem dX11_does_17 : decode cX11_does 17 = .ok (.iload_n 1, 1) := by decide +kernel
theorem dX11_does_18 : decode cX11_does 18 = .ok (.bipush 8, 2) := by decide +kernel
theorem dX11_does_20 : decode cX11_does 20 = .ok (.if_icmp .ne 11, 3) := by decide +kernel
theorem dX11_does_23 : decode cX11_does 23 = .ok (.aload_n 0, 1) := by decide +kernel
theorem dX11_does_24 : decode cX11_does 24 = .ok (.iload_n 2, 1) := by decide +kernel
theorem dX11_does_25 : decode cX11_does 25 = .ok (.invokevirtual 162, 3) := by decide +kernel
theorem dX11_does_28 : decode cX11_does 28 = .ok (.goto 30, 3) := by decide +kernel
theorem dX11_does_31 : decode cX11_does 31 = .ok (.iload_n 1, 1) := by decide +kernel
theorem dX11_does_32 : decode cX11_does 32 = .ok (.bipush 12, 2) := by decide +kernel
theorem dX11_does_34 : decode cX11_does 34 = .ok (.if_icmp .ne 12, 3) := by decide +kernel
theorem dX11_does_37 : decode cX11_does 37 = .ok (.aload_n 0, 1) := by decide +kernel
theorem dX11_does_38 : decode cX11_does 38 = .ok (.iload_n 2, 1) := by decide +kernel
theorem dX11_does_39 : decode cX11_does 39 = .ok (.invokevirtual 123, 3) := by decide +kernel
theorem dX11_does_42 : decode cX11_does 42 = .ok (.pop, 1) := by decide +kernel
theorem dX11_does_43 : decode cX11_does 43 = .ok (.goto 15, 3) := by decide +kernel
theorem dX11_does_46 : decode cX11_does 46 = .ok (.aload_n 0, 1) := by decide +kernel
theorem dX11_does_47 : decode cX11_does 47 = .ok (.getfield 9, 3) := by decide +kernel
theorem dX11_does_50 : decode cX11_does 50 = .ok (.iconst 0, 1) := by decide +kernel
theorem dX11_does_51 : decode cX11_does 51 = .ok (.iload_n 1, 1) := by decide +kernel
theorem dX11_does_52 : decode cX11_does 52 = .ok (.iadd, 1) := by decide +kernel
theorem dX11_does_53 : decode cX11_does 53 = .ok (.bipush 9, 2) := by decide +kernel
theorem dX11_does_55 : decode cX11_does 55 = .ok (.isub, 1) := by decide +kernel
theorem dX11_does_56 : decode cX11_does 56 = .ok (.iload_n 2, 1) := by decide +kernel
theorem dX11_does_57 : decode cX11_does 57 = .ok (.iastore, 1) := by decide +kernel
theorem dX11_does_58 : decode cX11_does 58 = .ok (.return_, 1) := by decide +kernel
theorem dX11_play_0 : decode cX11_play 0 = .ok (.aload_n 0, 1) := by decide +kernel
theorem dX11_play_1 : decode cX11_play 1 = .ok (.iload_n 1, 1) := by decide +kernel
theorem dX11_play_2 : decode cX11_play 2 = .ok (.invokevirtual 252, 3) := by decide +kernel
theorem dX11_play_5 : decode cX11_play 5 = .ok (.ifCond .ne 10, 3) := by decide +kernel
theorem dX11_play_8 : decode cX11_play 8 = .ok (.aload_n 0, 1) := by decide +kernel
theorem dX11_play_9 : decode cX11_play 9 = .ok (.ldc 40, 2) := by decide +kernel
theorem dX11_play_11 : decode cX11_play 11 = .ok (.invokevirtual 94, 3) := by decide +kernel
theorem dX11_play_14 : decode cX11_play 14 = .ok (.ireturn, 1) := by decide +kernel
theorem dX11_play_15 : decode cX11_play 15 = .ok (.sipush 434, 3) := by decide +kernel
theorem dX11_play_18 : decode cX11_play 18 = .ok (.bipush 37, 2) := by decide +kernel
theorem dX11_play_20 : decode cX11_play 20 = .ok (.iload_n 1, 1) := by decide +kernel
theorem dX11_play_21 : decode cX11_play 21 = .ok (.imul, 1) := by decide +kernel
theorem dX11_play_22 : decode cX11_play 22 = .ok (.iadd, 1) := by decide +kernel
theorem dX11_play_23 : decode cX11_play 23 = .ok (.istore_n 2, 1) := by decide +kernel
theorem dX11_play_24 : decode cX11_play 24 = .ok (.iconst 0, 1) := by decide +kernel
theorem dX11_play_25 : decode cX11_play 25 = .ok (.istore_n 3, 1) := by decide +kernel
theorem dX11_play_26 : decode cX11_play 26 = .ok (.iload_n 3, 1) := by decide +kernel
theorem dX11_play_27 : decode cX11_play 27 = .ok (.aload_n 0, 1) := by decide +kernel
theorem dX11_play_28 : decode cX11_play 28 = .ok (.getfield 9, 3) := by decide +kernel
theorem dX11_play_31 : decode cX11_play 31 = .ok (.iload_n 2, 1) := by decide +kernel
theorem dX11_play_32 : decode cX11_play 32 = .ok (.iaload, 1) := by decide +kernel
theorem dX11_play_33 : decode cX11_play 33 = .ok (.if_icmp .ge 49, 3) := by decide +kernel
theorem dX11_play_36 : decode cX11_play 36 = .ok (.aload_n 0, 1) := by decide +kernel
theorem dX11_play_37 : decode cX11_play 37 = .ok (.aload_n 0, 1) := by decide +kernel
theorem dX11_play_38 : decode cX11_play 38 = .ok (.getfield 9, 3) := by decide +kernel
theorem dX11_play_41 : decode cX11_play 41 = .ok (.iload_n 2, 1) := by decide +kernel
theorem dX11_play_42 : decode cX11_play 42 = .ok (.iconst 1, 1) := by decide +kernel
theorem dX11_play_43 : decode cX11_play 43 = .ok (.iadd, 1) := by decide +kernel
theorem dX11_play_44 : decode cX11_play 44 = .ok (.iconst 3, 1) := by decide +kernel
theorem dX11_play_45 : decode cX11_play 45 = .ok (.iload_n 3, 1) := by decide +kernel
theorem dX11_play_46 : decode cX11_play 46 = .ok (.imul, 1) := by decide +kernel
theorem dX11_play_47 : decode cX11_play 47 = .ok (.iadd, 1) := by decide +kernel
theorem dX11_play_48 : decode cX11_play 48 = .ok (.iaload, 1) := by decide +kernel
theorem dX11_play_49 : decode cX11_play 49 = .ok (.aload_n 0, 1) := by decide +kernel
theorem dX11_play_50 : decode cX11_play 50 = .ok (.getfield 9, 3) := by decide +kernel
theorem dX11_play_53 : decode cX11_play 53 = .ok (.iload_n 2, 1) := by decide +kernel
theorem dX11_play_54 : decode cX11_play 54 = .ok (.iconst 2, 1) := by decide +kernel
theorem dX11_play_55 : decode cX11_play 55 = .ok (.iadd, 1) := by decide +kernel
theorem dX11_play_56 : decode cX11_play 56 = .ok (.iconst 3, 1) := by decide +kernel
theorem dX11_play_57 : decode cX11_play 57 = .ok (.iload_n 3, 1) := by decide +kernel
theorem dX11_play_58 : decode cX11_play 58 = .ok (.imul, 1) := by decide +kernel
theorem dX11_play_59 : decode cX11_play 59 = .ok (.iadd, 1) := by decide +kernel
theorem dX11_play_60 : decode cX11_play 60 = .ok (.iaload, 1) := by decide +kernel
theorem dX11_play_61 : decode cX11_play 61 = .ok (.aload_n 0, 1) := by decide +kernel
theorem dX11_play_62 : decode cX11_play 62 = .ok (.getfield 9, 3) := by decide +kernel
theorem dX11_play_65 : decode cX11_play 65 = .ok (.iload_n 2, 1) := by decide +kernel
theorem dX11_play_66 : decode cX11_play 66 = .ok (.iconst 3, 1) := by decide +kernel
theorem dX11_play_67 : decode cX11_play 67 = .ok (.iadd, 1) := by decide +kernel
theorem dX11_play_68 : decode cX11_play 68 = .ok (.iconst 3, 1) := by decide +kernel
theorem dX11_play_69 : decode cX11_play 69 = .ok (.iload_n 3, 1) := by decide +kernel
theorem dX11_play_70 : decode cX11_play 70 = .ok (.imul, 1) := by decide +kernel
theorem dX11_play_71 : decode cX11_play 71 = .ok (.iadd, 1) := by decide +kernel
theorem dX11_play_72 : decode cX11_play 72 = .ok (.iaload, 1) := by decide +kernel
theorem dX11_play_73 : decode cX11_play 73 = .ok (.invokevirtual 255, 3) := by decide +kernel
theorem dX11_play_76 : decode cX11_play 76 = .ok (.iinc 3 1, 3) := by decide +kernel
theorem dX11_play_79 : decode cX11_play 79 = .ok (.goto (-53), 3) := by decide +kernel
theorem dX11_play_82 : decode cX11_play 82 = .ok (.aload_n 0, 1) := by decide +kernel
theorem dX11_play_83 : decode cX11_play 83 = .ok (.invokevirtual 165, 3) := by decide +kernel
theorem dX11_play_86 : decode cX11_play 86 = .ok (.ireturn, 1) := by decide +kernel
theorem dX11_goesAll_0 : decode cX11_goesAll 0 = .ok (.iload_n 2, 1) := by decide +kernel
theorem dX11_goesAll_1 : decode cX11_goesAll 1 = .ok (.istore 4, 2) := by decide +kernel
theorem dX11_goesAll_3 : decode cX11_goesAll 3 = .ok (.aload_n 0, 1) := by decide +kernel
theorem dX11_goesAll_4 : decode cX11_goesAll 4 = .ok (.iconst 0, 1) := by decide +kernel
theorem dX11_goesAll_5 : decode cX11_goesAll 5 = .ok (.putfield 259, 3) := by decide +kernel
theorem dX11_goesAll_8 : decode cX11_goesAll 8 = .ok (.aload_n 0, 1) := by decide +kernel
theorem dX11_goesAll_9 : decode cX11_goesAll 9 = .ok (.iconst (-1), 1) := by decide +kernel
theorem dX11_goesAll_10 : decode cX11_goesAll 10 = .ok (.putfield 262, 3) := by decide +kernel
theorem dX11_goesAll_13 : decode cX11_goesAll 13 = .ok (.aload_n 0, 1) := by decide +kernel
theorem dX11_goesAll_14 : decode cX11_goesAll 14 = .ok (.iload_n 3, 1) := by decide +kernel
theorem dX11_goesAll_15 : decode cX11_goesAll 15 = .ok (.putfield 265, 3) := by decide +kernel
theorem dX11_goesAll_18 : decode cX11_goesAll 18 = .ok (.aload_n 0, 1) := by decide +kernel
theorem dX11_goesAll_19 : decode cX11_goesAll 19 = .ok (.getfield 22, 3) := by decide +kernel
theorem dX11_goesAll_22 : decode cX11_goesAll 22 = .ok (.iconst 0, 1) := by decide +kernel
theorem dX11_goesAll_23 : decode cX11_goesAll 23 = .ok (.iload 4, 2) := by decide +kernel
theorem dX11_goesAll_25 : decode cX11_goesAll 25 = .ok (.iastore, 1) := by decide +kernel
theorem dX11_goesAll_26 : decode cX11_goesAll 26 = .ok (.aload_n 0, 1) := by decide +kernel
theorem dX11_goesAll_27 : decode cX11_goesAll 27 = .ok (.getfield 259, 3) := by decide +kernel
theorem dX11_goesAll_30 : decode cX11_goesAll 30 = .ok (.bipush 64, 2) := by decide +kernel
theorem dX11_goesAll_32 : decode cX11_goesAll 32 = .ok (.if_icmp .ge 99, 3) := by decide +kernel
theorem dX11_goesAll_35 : decode cX11_goesAll 35 = .ok (.aload_n 0, 1) := by decide +kernel
theorem dX11_goesAll_36 : decode cX11_goesAll 36 = .ok (.getfield 265, 3) := by decide +kernel
theorem dX11_goesAll_39 : decode cX11_goesAll 39 = .ok (.ifCond .le 92, 3) := by decide +kernel
theorem dX11_goesAll_42 : decode cX11_goesAll 42 = .ok (.aload_n 0, 1) := by decide +kernel
theorem dX11_goesAll_43 : decode cX11_goesAll 43 = .ok (.iload_n 1, 1) := by decide +kernel
theorem dX11_goesAll_44 : decode cX11_goesAll 44 = .ok (.iload 4, 2) := by decide +kernel
theorem dX11_goesAll_46 : decode cX11_goesAll 46 = .ok (.aload_n 0, 1) := by decide +kernel
theorem dX11_goesAll_47 : decode cX11_goesAll 47 = .ok (.getfield 265, 3) := by decide +kernel
theorem dX11_goesAll_50 : decode cX11_goesAll 50 = .ok (.aload_n 0, 1) := by decide +kernel
theorem dX11_goesAll_51 : decode cX11_goesAll 51 = .ok (.getfield 259, 3) := by decide +kernel
theorem dX11_goesAll_54 : decode cX11_goesAll 54 = .ok (.invokevirtual 140, 3) := by decide +kernel
theorem dX11_goesAll_57 : decode cX11_goesAll 57 = .ok (.istore 5, 2) := by decide +kernel
theorem dX11_goesAll_59 : decode cX11_goesAll 59 = .ok (.iload 5, 2) := by decide +kernel
theorem dX11_goesAll_61 : decode cX11_goesAll 61 = .ok (.iload 4, 2) := by decide +kernel
theorem dX11_goesAll_63 : decode cX11_goesAll 63 = .ok (.if_icmp .ne 4, 3) := by decide +kernel
theorem dX11_goesAll_66 : decode cX11_goesAll 66 = .ok (.return_, 1) := by decide +kernel
theorem dX11_goesAll_67 : decode cX11_goesAll 67 = .ok (.aload_n 0, 1) := by decide +kernel
theorem dX11_goesAll_68 : decode cX11_goesAll 68 = .ok (.dup, 1) := by decide +kernel
theorem dX11_goesAll_69 : decode cX11_goesAll 69 = .ok (.getfield 259, 3) := by decide +kernel
theorem dX11_goesAll_72 : decode cX11_goesAll 72 = .ok (.iconst 1, 1) := by decide +kernel
theorem dX11_goesAll_73 : decode cX11_goesAll 73 = .ok (.iadd, 1) := by decide +kernel
theorem dX11_goesAll_74 : decode cX11_goesAll 74 = .ok (.putfield 259, 3) := by decide +kernel
theorem dX11_goesAll_77 : decode cX11_goesAll 77 = .ok (.iload 5, 2) := by decide +kernel
theorem dX11_goesAll_79 : decode cX11_goesAll 79 = .ok (.ifCond .ge 13, 3) := by decide +kernel
theorem dX11_goesAll_82 : decode cX11_goesAll 82 = .ok (.aload_n 0, 1) := by decide +kernel
theorem dX11_goesAll_83 : decode cX11_goesAll 83 = .ok (.iload 4, 2) := by decide +kernel
theorem dX11_goesAll_85 : decode cX11_goesAll 85 = .ok (.bipush 12, 2) := by decide +kernel
theorem dX11_goesAll_87 : decode cX11_goesAll 87 = .ok (.irem, 1) := by decide +kernel
theorem dX11_goesAll_88 : decode cX11_goesAll 88 = .ok (.putfield 262, 3) := by decide +kernel
theorem dX11_goesAll_91 : decode cX11_goesAll 91 = .ok (.return_, 1) := by decide +kernel
theorem dX11_goesAll_92 : decode cX11_goesAll 92 = .ok (.iload 5, 2) := by decide +kernel
theorem dX11_goesAll_94 : decode cX11_goesAll 94 = .ok (.istore 4, 2) := by decide +kernel
theorem dX11_goesAll_96 : decode cX11_goesAll 96 = .ok (.aload_n 0, 1) := by decide +kernel
theorem dX11_goesAll_97 : decode cX11_goesAll 97 = .ok (.getfield 22, 3) := by decide +kernel
theorem dX11_goesAll_100 : decode cX11_goesAll 100 = .ok (.aload_n 0, 1) := by decide +kernel
theorem dX11_goesAll_101 : decode cX11_goesAll 101 = .ok (.getfield 259, 3) := by decide +kernel
theorem dX11_goesAll_104 : decode cX11_goesAll 104 = .ok (.iload 4, 2) := by decide +kernel
theorem dX11_goesAll_106 : decode cX11_goesAll 106 = .ok (.iastore, 1) := by decide +kernel
theorem dX11_goesAll_107 : decode cX11_goesAll 107 = .ok (.aload_n 0, 1) := by decide +kernel
theorem dX11_goesAll_108 : decode cX11_goesAll 108 = .ok (.dup, 1) := by decide +kernel
theorem dX11_goesAll_109 : decode cX11_goesAll 109 = .ok (.getfield 265, 3) := by decide +kernel
theorem dX11_goesAll_112 : decode cX11_goesAll 112 = .ok (.iload_n 1, 1) := by decide +kernel
theorem dX11_goesAll_113 : decode cX11_goesAll 113 = .ok (.invokestatic 147, 3) := by decide +kernel
theorem dX11_goesAll_116 : decode cX11_goesAll 116 = .ok (.ifCond .eq 7, 3) := by decide +kernel
theorem dX11_goesAll_119 : decode cX11_goesAll 119 = .ok (.iconst 1, 1) := by decide +kernel
theorem dX11_goesAll_120 : decode cX11_goesAll 120 = .ok (.goto 4, 3) := by decide +kernel
theorem dX11_goesAll_123 : decode cX11_goesAll 123 = .ok (.iconst 0, 1) := by decide +kernel
theorem dX11_goesAll_124 : decode cX11_goesAll 124 = .ok (.isub, 1) := by decide +kernel
theorem dX11_goesAll_125 : decode cX11_goesAll 125 = .ok (.putfield 265, 3) := by decide +kernel
theorem dX11_goesAll_128 : decode cX11_goesAll 128 = .ok (.goto (-102), 3) := by decide +kernel
theorem dX11_goesAll_131 : decode cX11_goesAll 131 = .ok (.return_, 1) := by decide +kernel
theorem dX11_onCells_0 : decode cX11_onCells 0 = .ok (.aload_n 0, 1) := by decide +kernel
theorem dX11_onCells_1 : decode cX11_onCells 1 = .ok (.getfield 262, 3) := by decide +kernel
theorem dX11_onCells_4 : decode cX11_onCells 4 = .ok (.ifCond .ge 10, 3) := by decide +kernel
theorem dX11_onCells_7 : decode cX11_onCells 7 = .ok (.aload_n 0, 1) := by decide +kernel
theorem dX11_onCells_8 : decode cX11_onCells 8 = .ok (.getfield 259, 3) := by decide +kernel
theorem dX11_onCells_11 : decode cX11_onCells 11 = .ok (.goto 9, 3) := by decide +kernel
theorem dX11_onCells_14 : decode cX11_onCells 14 = .ok (.aload_n 0, 1) := by decide +kernel
theorem dX11_onCells_15 : decode cX11_onCells 15 = .ok (.getfield 259, 3) := by decide +kernel
theorem dX11_onCells_18 : decode cX11_onCells 18 = .ok (.iconst 1, 1) := by decide +kernel
theorem dX11_onCells_19 : decode cX11_onCells 19 = .ok (.isub, 1) := by decide +kernel
theorem dX11_onCells_20 : decode cX11_onCells 20 = .ok (.ireturn, 1) := by decide +kernel
theorem dX11_isPath_0 : decode cX11_isPath 0 = .ok (.iload_n 0, 1) := by decide +kernel
theorem dX11_isPath_1 : decode cX11_isPath 1 = .ok (.invokestatic 127, 3) := by decide +kernel
theorem dX11_isPath_4 : decode cX11_isPath 4 = .ok (.ifCond .eq 21, 3) := by decide +kernel
theorem dX11_isPath_7 : decode cX11_isPath 7 = .ok (.iload_n 1, 1) := by decide +kernel
theorem dX11_isPath_8 : decode cX11_isPath 8 = .ok (.invokestatic 120, 3) := by decide +kernel
theorem dX11_isPath_11 : decode cX11_isPath 11 = .ok (.ifCond .eq 14, 3) := by decide +kernel
theorem dX11_isPath_14 : decode cX11_isPath 14 = .ok (.iload_n 2, 1) := by decide +kernel
theorem dX11_isPath_15 : decode cX11_isPath 15 = .ok (.invokestatic 130, 3) := by decide +kernel
theorem dX11_isPath_18 : decode cX11_isPath 18 = .ok (.ifCond .eq 7, 3) := by decide +kernel
theorem dX11_isPath_21 : decode cX11_isPath 21 = .ok (.iconst 1, 1) := by decide +kernel
theorem dX11_isPath_22 : decode cX11_isPath 22 = .ok (.goto 4, 3) := by decide +kernel
theorem dX11_isPath_25 : decode cX11_isPath 25 = .ok (.iconst 0, 1) := by decide +kernel
theorem dX11_isPath_26 : decode cX11_isPath 26 = .ok (.ireturn, 1) := by decide +kernel
theorem dX11_path_0 : decode cX11_path 0 = .ok (.iload_n 1, 1) := by decide +kernel
theorem dX11_path_1 : decode cX11_path 1 = .ok (.iload_n 2, 1) := by decide +kernel
theorem dX11_path_2 : decode cX11_path 2 = .ok (.iload_n 3, 1) := by decide +kernel
theorem dX11_path_3 : decode cX11_path 3 = .ok (.invokestatic 268, 3) := by decide +kernel
theorem dX11_path_6 : decode cX11_path 6 = .ok (.ifCond .eq 16, 3) := by decide +kernel
theorem dX11_path_9 : decode cX11_path 9 = .ok (.iload 4, 2) := by decide +kernel
theorem dX11_path_11 : decode cX11_path 11 = .ok (.i2l, 1) := by decide +kernel
theorem dX11_path_12 : decode cX11_path 12 = .ok (.lconst 0, 1) := by decide +kernel
theorem dX11_path_13 : decode cX11_path 13 = .ok (.ldc2_w 92, 3) := by decide +kernel
theorem dX11_path_16 : decode cX11_path 16 = .ok (.invokestatic 43, 3) := by decide +kernel
theorem dX11_path_19 : decode cX11_path 19 = .ok (.ifCond .ne 10, 3) := by decide +kernel
theorem dX11_path_22 : decode cX11_path 22 = .ok (.aload_n 0, 1) := by decide +kernel
theorem dX11_path_23 : decode cX11_path 23 = .ok (.ldc 40, 2) := by decide +kernel
theorem dX11_path_25 : decode cX11_path 25 = .ok (.invokevirtual 94, 3) := by decide +kernel
theorem dX11_path_28 : decode cX11_path 28 = .ok (.ireturn, 1) := by decide +kernel
theorem dX11_path_29 : decode cX11_path 29 = .ok (.aload_n 0, 1) := by decide +kernel
theorem dX11_path_30 : decode cX11_path 30 = .ok (.iload_n 1, 1) := by decide +kernel
theorem dX11_path_31 : decode cX11_path 31 = .ok (.iload_n 2, 1) := by decide +kernel
theorem dX11_path_32 : decode cX11_path 32 = .ok (.iload_n 3, 1) := by decide +kernel
theorem dX11_path_33 : decode cX11_path 33 = .ok (.invokevirtual 271, 3) := by decide +kernel
theorem dX11_path_36 : decode cX11_path 36 = .ok (.iload 4, 2) := by decide +kernel
theorem dX11_path_38 : decode cX11_path 38 = .ok (.ifCond .ne 10, 3) := by decide +kernel
theorem dX11_path_41 : decode cX11_path 41 = .ok (.aload_n 0, 1) := by decide +kernel
theorem dX11_path_42 : decode cX11_path 42 = .ok (.getfield 262, 3) := by decide +kernel
theorem dX11_path_45 : decode cX11_path 45 = .ok (.goto 38, 3) := by decide +kernel
theorem dX11_path_48 : decode cX11_path 48 = .ok (.iload 4, 2) := by decide +kernel
theorem dX11_path_50 : decode cX11_path 50 = .ok (.iconst 1, 1) := by decide +kernel
theorem dX11_path_51 : decode cX11_path 51 = .ok (.if_icmp .ne 10, 3) := by decide +kernel
theorem dX11_path_54 : decode cX11_path 54 = .ok (.aload_n 0, 1) := by decide +kernel
theorem dX11_path_55 : decode cX11_path 55 = .ok (.getfield 259, 3) := by decide +kernel
theorem dX11_path_58 : decode cX11_path 58 = .ok (.goto 25, 3) := by decide +kernel
theorem dX11_path_61 : decode cX11_path 61 = .ok (.iload 4, 2) := by decide +kernel
theorem dX11_path_63 : decode cX11_path 63 = .ok (.iconst 2, 1) := by decide +kernel
theorem dX11_path_64 : decode cX11_path 64 = .ok (.if_icmp .ne 15, 3) := by decide +kernel
theorem dX11_path_67 : decode cX11_path 67 = .ok (.aload_n 0, 1) := by decide +kernel
theorem dX11_path_68 : decode cX11_path 68 = .ok (.getfield 22, 3) := by decide +kernel
theorem dX11_path_71 : decode cX11_path 71 = .ok (.aload_n 0, 1) := by decide +kernel
theorem dX11_path_72 : decode cX11_path 72 = .ok (.invokevirtual 274, 3) := by decide +kernel
theorem dX11_path_75 : decode cX11_path 75 = .ok (.iaload, 1) := by decide +kernel
theorem dX11_path_76 : decode cX11_path 76 = .ok (.goto 7, 3) := by decide +kernel
theorem dX11_path_79 : decode cX11_path 79 = .ok (.aload_n 0, 1) := by decide +kernel
theorem dX11_path_80 : decode cX11_path 80 = .ok (.getfield 265, 3) := by decide +kernel
theorem dX11_path_83 : decode cX11_path 83 = .ok (.ireturn, 1) := by decide +kernel
theorem dX11_along_0 : decode cX11_along 0 = .ok (.iload_n 1, 1) := by decide +kernel
theorem dX11_along_1 : decode cX11_along 1 = .ok (.iload_n 2, 1) := by decide +kernel
theorem dX11_along_2 : decode cX11_along 2 = .ok (.iload_n 3, 1) := by decide +kernel
theorem dX11_along_3 : decode cX11_along 3 = .ok (.invokestatic 268, 3) := by decide +kernel
theorem dX11_along_6 : decode cX11_along 6 = .ok (.ifCond .eq 16, 3) := by decide +kernel
theorem dX11_along_9 : decode cX11_along 9 = .ok (.iload 4, 2) := by decide +kernel
theorem dX11_along_11 : decode cX11_along 11 = .ok (.i2l, 1) := by decide +kernel
theorem dX11_along_12 : decode cX11_along 12 = .ok (.lconst 0, 1) := by decide +kernel
theorem dX11_along_13 : decode cX11_along 13 = .ok (.ldc2_w 277, 3) := by decide +kernel
theorem dX11_along_16 : decode cX11_along 16 = .ok (.invokestatic 43, 3) := by decide +kernel
theorem dX11_along_19 : decode cX11_along 19 = .ok (.ifCond .ne 10, 3) := by decide +kernel
theorem dX11_along_22 : decode cX11_along 22 = .ok (.aload_n 0, 1) := by decide +kernel
theorem dX11_along_23 : decode cX11_along 23 = .ok (.ldc 40, 2) := by decide +kernel
theorem dX11_along_25 : decode cX11_along 25 = .ok (.invokevirtual 94, 3) := by decide +kernel
theorem dX11_along_28 : decode cX11_along 28 = .ok (.ireturn, 1) := by decide +kernel
theorem dX11_along_29 : decode cX11_along 29 = .ok (.aload_n 0, 1) := by decide +kernel
theorem dX11_along_30 : decode cX11_along 30 = .ok (.iload_n 1, 1) := by decide +kernel
theorem dX11_along_31 : decode cX11_along 31 = .ok (.iload_n 2, 1) := by decide +kernel
theorem dX11_along_32 : decode cX11_along 32 = .ok (.iload_n 3, 1) := by decide +kernel
theorem dX11_along_33 : decode cX11_along 33 = .ok (.invokevirtual 271, 3) := by decide +kernel
theorem dX11_along_36 : decode cX11_along 36 = .ok (.iload 4, 2) := by decide +kernel
theorem dX11_along_38 : decode cX11_along 38 = .ok (.aload_n 0, 1) := by decide +kernel
theorem dX11_along_39 : decode cX11_along 39 = .ok (.invokevirtual 274, 3) := by decide +kernel
theorem dX11_along_42 : decode cX11_along 42 = .ok (.if_icmp .le 12, 3) := by decide +kernel
theorem dX11_along_45 : decode cX11_along 45 = .ok (.aload_n 0, 1) := by decide +kernel
theorem dX11_along_46 : decode cX11_along 46 = .ok (.ldc 126, 2) := by decide +kernel
theorem dX11_along_48 : decode cX11_along 48 = .ok (.invokevirtual 94, 3) := by decide +kernel
theorem dX11_along_51 : decode cX11_along 51 = .ok (.goto 10, 3) := by decide +kernel
theorem dX11_along_54 : decode cX11_along 54 = .ok (.aload_n 0, 1) := by decide +kernel
theorem dX11_along_55 : decode cX11_along 55 = .ok (.getfield 22, 3) := by decide +kernel
theorem dX11_along_58 : decode cX11_along 58 = .ok (.iload 4, 2) := by decide +kernel
theorem dX11_along_60 : decode cX11_along 60 = .ok (.iaload, 1) := by decide +kernel
theorem dX11_along_61 : decode cX11_along 61 = .ok (.ireturn, 1) := by decide +kernel
theorem dX11_least_0 : decode cX11_least 0 = .ok (.iload_n 1, 1) := by decide +kernel
theorem dX11_least_1 : decode cX11_least 1 = .ok (.iload_n 2, 1) := by decide +kernel
theorem dX11_least_2 : decode cX11_least 2 = .ok (.iconst 1, 1) := by decide +kernel
theorem dX11_least_3 : decode cX11_least 3 = .ok (.invokestatic 268, 3) := by decide +kernel
theorem dX11_least_6 : decode cX11_least 6 = .ok (.ifCond .ne 10, 3) := by decide +kernel
theorem dX11_least_9 : decode cX11_least 9 = .ok (.aload_n 0, 1) := by decide +kernel
theorem dX11_least_10 : decode cX11_least 10 = .ok (.ldc 40, 2) := by decide +kernel
theorem dX11_least_12 : decode cX11_least 12 = .ok (.invokevirtual 94, 3) := by decide +kernel
theorem dX11_least_15 : decode cX11_least 15 = .ok (.ireturn, 1) := by decide +kernel
theorem dX11_least_16 : decode cX11_least 16 = .ok (.iconst (-1), 1) := by decide +kernel
theorem dX11_least_17 : decode cX11_least 17 = .ok (.istore 4, 2) := by decide +kernel
theorem dX11_least_19 : decode cX11_least 19 = .ok (.aload_n 0, 1) := by decide +kernel
theorem dX11_least_20 : decode cX11_least 20 = .ok (.iload_n 3, 1) := by decide +kernel
theorem dX11_least_21 : decode cX11_least 21 = .ok (.putfield 57, 3) := by decide +kernel
theorem dX11_least_24 : decode cX11_least 24 = .ok (.iconst 1, 1) := by decide +kernel
theorem dX11_least_25 : decode cX11_least 25 = .ok (.istore 5, 2) := by decide +kernel
theorem dX11_least_27 : decode cX11_least 27 = .ok (.iload 5, 2) := by decide +kernel
theorem dX11_least_29 : decode cX11_least 29 = .ok (.bipush 100, 2) := by decide +kernel
theorem dX11_least_31 : decode cX11_least 31 = .ok (.if_icmp .ge 37, 3) := by decide +kernel
theorem dX11_least_34 : decode cX11_least 34 = .ok (.iload 4, 2) := by decide +kernel
theorem dX11_least_36 : decode cX11_least 36 = .ok (.ifCond .ge 32, 3) := by decide +kernel
theorem dX11_least_39 : decode cX11_least 39 = .ok (.aload_n 0, 1) := by decide +kernel
theorem dX11_least_40 : decode cX11_least 40 = .ok (.iload_n 1, 1) := by decide +kernel
theorem dX11_least_41 : decode cX11_least 41 = .ok (.iload_n 2, 1) := by decide +kernel
theorem dX11_least_42 : decode cX11_least 42 = .ok (.iload 5, 2) := by decide +kernel
theorem dX11_least_44 : decode cX11_least 44 = .ok (.invokevirtual 271, 3) := by decide +kernel
theorem dX11_least_47 : decode cX11_least 47 = .ok (.aload_n 0, 1) := by decide +kernel
theorem dX11_least_48 : decode cX11_least 48 = .ok (.getfield 262, 3) := by decide +kernel
theorem dX11_least_51 : decode cX11_least 51 = .ok (.ifCond .ge 7, 3) := by decide +kernel
theorem dX11_least_54 : decode cX11_least 54 = .ok (.iconst (-1), 1) := by decide +kernel
theorem dX11_least_55 : decode cX11_least 55 = .ok (.goto 5, 3) := by decide +kernel
theorem dX11_least_58 : decode cX11_least 58 = .ok (.iload 5, 2) := by decide +kernel
theorem dX11_least_60 : decode cX11_least 60 = .ok (.istore 4, 2) := by decide +kernel
theorem dX11_least_62 : decode cX11_least 62 = .ok (.iinc 5 1, 3) := by decide +kernel
theorem dX11_least_65 : decode cX11_least 65 = .ok (.goto (-38), 3) := by decide +kernel
theorem dX11_least_68 : decode cX11_least 68 = .ok (.aload_n 0, 1) := by decide +kernel
theorem dX11_least_69 : decode cX11_least 69 = .ok (.iconst 0, 1) := by decide +kernel
theorem dX11_least_70 : decode cX11_least 70 = .ok (.putfield 57, 3) := by decide +kernel
theorem dX11_least_73 : decode cX11_least 73 = .ok (.iload 4, 2) := by decide +kernel
theorem dX11_least_75 : decode cX11_least 75 = .ok (.ifCond .ge 12, 3) := by decide +kernel
theorem dX11_least_78 : decode cX11_least 78 = .ok (.aload_n 0, 1) := by decide +kernel
theorem dX11_least_79 : decode cX11_least 79 = .ok (.ldc 126, 2) := by decide +kernel
theorem dX11_least_81 : decode cX11_least 81 = .ok (.invokevirtual 94, 3) := by decide +kernel
theorem dX11_least_84 : decode cX11_least 84 = .ok (.goto 5, 3) := by decide +kernel
theorem dX11_least_87 : decode cX11_least 87 = .ok (.iload 4, 2) := by decide +kernel
theorem dX11_least_89 : decode cX11_least 89 = .ok (.ireturn, 1) := by decide +kernel
theorem dX11_basin_0 : decode cX11_basin 0 = .ok (.iload_n 1, 1) := by decide +kernel
theorem dX11_basin_1 : decode cX11_basin 1 = .ok (.iload_n 3, 1) := by decide +kernel
theorem dX11_basin_2 : decode cX11_basin 2 = .ok (.iload_n 2, 1) := by decide +kernel
theorem dX11_basin_3 : decode cX11_basin 3 = .ok (.invokestatic 268, 3) := by decide +kernel
theorem dX11_basin_6 : decode cX11_basin 6 = .ok (.ifCond .ne 10, 3) := by decide +kernel
theorem dX11_basin_9 : decode cX11_basin 9 = .ok (.aload_n 0, 1) := by decide +kernel
theorem dX11_basin_10 : decode cX11_basin 10 = .ok (.ldc 40, 2) := by decide +kernel
theorem dX11_basin_12 : decode cX11_basin 12 = .ok (.invokevirtual 94, 3) := by decide +kernel
theorem dX11_basin_15 : decode cX11_basin 15 = .ok (.ireturn, 1) := by decide +kernel
theorem dX11_basin_16 : decode cX11_basin 16 = .ok (.iconst 0, 1) := by decide +kernel
theorem dX11_basin_17 : decode cX11_basin 17 = .ok (.istore 4, 2) := by decide +kernel
theorem dX11_basin_19 : decode cX11_basin 19 = .ok (.iconst 0, 1) := by decide +kernel
theorem dX11_basin_20 : decode cX11_basin 20 = .ok (.istore 5, 2) := by decide +kernel
theorem dX11_basin_22 : decode cX11_basin 22 = .ok (.iload 5, 2) := by decide +kernel
theorem dX11_basin_24 : decode cX11_basin 24 = .ok (.bipush 12, 2) := by decide +kernel
theorem dX11_basin_26 : decode cX11_basin 26 = .ok (.if_icmp .ge 38, 3) := by decide +kernel
theorem dX11_basin_29 : decode cX11_basin 29 = .ok (.aload_n 0, 1) := by decide +kernel
theorem dX11_basin_30 : decode cX11_basin 30 = .ok (.iload_n 1, 1) := by decide +kernel
theorem dX11_basin_31 : decode cX11_basin 31 = .ok (.iload 5, 2) := by decide +kernel
theorem dX11_basin_33 : decode cX11_basin 33 = .ok (.iload_n 2, 1) := by decide +kernel
theorem dX11_basin_34 : decode cX11_basin 34 = .ok (.invokevirtual 271, 3) := by decide +kernel
theorem dX11_basin_37 : decode cX11_basin 37 = .ok (.iload 4, 2) := by decide +kernel
theorem dX11_basin_39 : decode cX11_basin 39 = .ok (.aload_n 0, 1) := by decide +kernel
theorem dX11_basin_40 : decode cX11_basin 40 = .ok (.getfield 262, 3) := by decide +kernel
theorem dX11_basin_43 : decode cX11_basin 43 = .ok (.iload_n 3, 1) := by decide +kernel
theorem dX11_basin_44 : decode cX11_basin 44 = .ok (.if_icmp .ne 10, 3) := by decide +kernel
theorem dX11_basin_47 : decode cX11_basin 47 = .ok (.iconst 1, 1) := by decide +kernel
theorem dX11_basin_48 : decode cX11_basin 48 = .ok (.iload 5, 2) := by decide +kernel
theorem dX11_basin_50 : decode cX11_basin 50 = .ok (.ishl, 1) := by decide +kernel
theorem dX11_basin_51 : decode cX11_basin 51 = .ok (.goto 4, 3) := by decide +kernel
theorem dX11_basin_54 : decode cX11_basin 54 = .ok (.iconst 0, 1) := by decide +kernel
theorem dX11_basin_55 : decode cX11_basin 55 = .ok (.ior, 1) := by decide +kernel
theorem dX11_basin_56 : decode cX11_basin 56 = .ok (.istore 4, 2) := by decide +kernel
theorem dX11_basin_58 : decode cX11_basin 58 = .ok (.iinc 5 1, 3) := by decide +kernel
theorem dX11_basin_61 : decode cX11_basin 61 = .ok (.goto (-39), 3) := by decide +kernel
theorem dX11_basin_64 : decode cX11_basin 64 = .ok (.iload 4, 2) := by decide +kernel
theorem dX11_basin_66 : decode cX11_basin 66 = .ok (.ireturn, 1) := by decide +kernel
theorem dX11_ways_0 : decode cX11_ways 0 = .ok (.iload_n 1, 1) := by decide +kernel
theorem dX11_ways_1 : decode cX11_ways 1 = .ok (.iconst 0, 1) := by decide +kernel
theorem dX11_ways_2 : decode cX11_ways 2 = .ok (.iload_n 2, 1) := by decide +kernel
theorem dX11_ways_3 : decode cX11_ways 3 = .ok (.invokestatic 268, 3) := by decide +kernel
theorem dX11_ways_6 : decode cX11_ways 6 = .ok (.ifCond .ne 10, 3) := by decide +kernel
theorem dX11_ways_9 : decode cX11_ways 9 = .ok (.aload_n 0, 1) := by decide +kernel
theorem dX11_ways_10 : decode cX11_ways 10 = .ok (.ldc 40, 2) := by decide +kernel
theorem dX11_ways_12 : decode cX11_ways 12 = .ok (.invokevirtual 94, 3) := by decide +kernel
theorem dX11_ways_15 : decode cX11_ways 15 = .ok (.ireturn, 1) := by decide +kernel
theorem dX11_ways_16 : decode cX11_ways 16 = .ok (.iconst 0, 1) := by decide +kernel
theorem dX11_ways_17 : decode cX11_ways 17 = .ok (.istore_n 3, 1) := by decide +kernel
theorem dX11_ways_18 : decode cX11_ways 18 = .ok (.iconst 0, 1) := by decide +kernel
theorem dX11_ways_19 : decode cX11_ways 19 = .ok (.istore 4, 2) := by decide +kernel
theorem dX11_ways_21 : decode cX11_ways 21 = .ok (.iload 4, 2) := by decide +kernel
theorem dX11_ways_23 : decode cX11_ways 23 = .ok (.bipush 12, 2) := by decide +kernel
theorem dX11_ways_25 : decode cX11_ways 25 = .ok (.if_icmp .ge 37, 3) := by decide +kernel
theorem dX11_ways_28 : decode cX11_ways 28 = .ok (.aload_n 0, 1) := by decide +kernel
theorem dX11_ways_29 : decode cX11_ways 29 = .ok (.iload_n 1, 1) := by decide +kernel
theorem dX11_ways_30 : decode cX11_ways 30 = .ok (.iload 4, 2) := by decide +kernel
theorem dX11_ways_32 : decode cX11_ways 32 = .ok (.iload_n 2, 1) := by decide +kernel
theorem dX11_ways_33 : decode cX11_ways 33 = .ok (.invokevirtual 271, 3) := by decide +kernel
theorem dX11_ways_36 : decode cX11_ways 36 = .ok (.iload_n 3, 1) := by decide +kernel
theorem dX11_ways_37 : decode cX11_ways 37 = .ok (.aload_n 0, 1) := by decide +kernel
theorem dX11_ways_38 : decode cX11_ways 38 = .ok (.getfield 262, 3) := by decide +kernel
theorem dX11_ways_41 : decode cX11_ways 41 = .ok (.ifCond .ge 7, 3) := by decide +kernel
theorem dX11_ways_44 : decode cX11_ways 44 = .ok (.iconst 0, 1) := by decide +kernel
theorem dX11_ways_45 : decode cX11_ways 45 = .ok (.goto 9, 3) := by decide +kernel
theorem dX11_ways_48 : decode cX11_ways 48 = .ok (.iconst 1, 1) := by decide +kernel
theorem dX11_ways_49 : decode cX11_ways 49 = .ok (.aload_n 0, 1) := by decide +kernel
theorem dX11_ways_50 : decode cX11_ways 50 = .ok (.getfield 262, 3) := by decide +kernel
theorem dX11_ways_53 : decode cX11_ways 53 = .ok (.ishl, 1) := by decide +kernel
theorem dX11_ways_54 : decode cX11_ways 54 = .ok (.ior, 1) := by decide +kernel
theorem dX11_ways_55 : decode cX11_ways 55 = .ok (.istore_n 3, 1) := by decide +kernel
theorem dX11_ways_56 : decode cX11_ways 56 = .ok (.iinc 4 1, 3) := by decide +kernel
theorem dX11_ways_59 : decode cX11_ways 59 = .ok (.goto (-38), 3) := by decide +kernel
theorem dX11_ways_62 : decode cX11_ways 62 = .ok (.iload_n 3, 1) := by decide +kernel
theorem dX11_ways_63 : decode cX11_ways 63 = .ok (.ireturn, 1) := by decide +kernel
theorem dX11_soonest_0 : decode cX11_soonest 0 = .ok (.iload_n 1, 1) := by decide +kernel
theorem dX11_soonest_1 : decode cX11_soonest 1 = .ok (.iload_n 2, 1) := by decide +kernel
theorem dX11_soonest_2 : decode cX11_soonest 2 = .ok (.iload_n 3, 1) := by decide +kernel
theorem dX11_soonest_3 : decode cX11_soonest 3 = .ok (.invokestatic 268, 3) := by decide +kernel
theorem dX11_soonest_6 : decode cX11_soonest 6 = .ok (.ifCond .ne 10, 3) := by decide +kernel
theorem dX11_soonest_9 : decode cX11_soonest 9 = .ok (.aload_n 0, 1) := by decide +kernel
theorem dX11_soonest_10 : decode cX11_soonest 10 = .ok (.ldc 40, 2) := by decide +kernel
theorem dX11_soonest_12 : decode cX11_soonest 12 = .ok (.invokevirtual 94, 3) := by decide +kernel
theorem dX11_soonest_15 : decode cX11_soonest 15 = .ok (.ireturn, 1) := by decide +kernel
theorem dX11_soonest_16 : decode cX11_soonest 16 = .ok (.aload_n 0, 1) := by decide +kernel
theorem dX11_soonest_17 : decode cX11_soonest 17 = .ok (.getfield 9, 3) := by decide +kernel
theorem dX11_soonest_20 : decode cX11_soonest 20 = .ok (.iconst 0, 1) := by decide +kernel
theorem dX11_soonest_21 : decode cX11_soonest 21 = .ok (.iaload, 1) := by decide +kernel
theorem dX11_soonest_22 : decode cX11_soonest 22 = .ok (.istore 4, 2) := by decide +kernel
theorem dX11_soonest_24 : decode cX11_soonest 24 = .ok (.iconst (-1), 1) := by decide +kernel
theorem dX11_soonest_25 : decode cX11_soonest 25 = .ok (.istore 5, 2) := by decide +kernel
theorem dX11_soonest_27 : decode cX11_soonest 27 = .ok (.iconst 0, 1) := by decide +kernel
theorem dX11_soonest_28 : decode cX11_soonest 28 = .ok (.istore 6, 2) := by decide +kernel
theorem dX11_soonest_30 : decode cX11_soonest 30 = .ok (.iconst 0, 1) := by decide +kernel
theorem dX11_soonest_31 : decode cX11_soonest 31 = .ok (.istore 7, 2) := by decide +kernel
theorem dX11_soonest_33 : decode cX11_soonest 33 = .ok (.iload 7, 2) := by decide +kernel
theorem dX11_soonest_35 : decode cX11_soonest 35 = .ok (.bipush 10, 2) := by decide +kernel
theorem dX11_soonest_37 : decode cX11_soonest 37 = .ok (.if_icmp .ge 58, 3) := by decide +kernel
theorem dX11_soonest_40 : decode cX11_soonest 40 = .ok (.aload_n 0, 1) := by decide +kernel
theorem dX11_soonest_41 : decode cX11_soonest 41 = .ok (.getfield 9, 3) := by decide +kernel
theorem dX11_soonest_44 : decode cX11_soonest 44 = .ok (.iconst 0, 1) := by decide +kernel
theorem dX11_soonest_45 : decode cX11_soonest 45 = .ok (.iload 7, 2) := by decide +kernel
theorem dX11_soonest_47 : decode cX11_soonest 47 = .ok (.iastore, 1) := by decide +kernel
theorem dX11_soonest_48 : decode cX11_soonest 48 = .ok (.aload_n 0, 1) := by decide +kernel
theorem dX11_soonest_49 : decode cX11_soonest 49 = .ok (.iload_n 1, 1) := by decide +kernel
theorem dX11_soonest_50 : decode cX11_soonest 50 = .ok (.iload_n 2, 1) := by decide +kernel
theorem dX11_soonest_51 : decode cX11_soonest 51 = .ok (.iload_n 3, 1) := by decide +kernel
theorem dX11_soonest_52 : decode cX11_soonest 52 = .ok (.invokevirtual 271, 3) := by decide +kernel
theorem dX11_soonest_55 : decode cX11_soonest 55 = .ok (.aload_n 0, 1) := by decide +kernel
theorem dX11_soonest_56 : decode cX11_soonest 56 = .ok (.getfield 262, 3) := by decide +kernel
theorem dX11_soonest_59 : decode cX11_soonest 59 = .ok (.ifCond .lt 30, 3) := by decide +kernel
theorem dX11_soonest_62 : decode cX11_soonest 62 = .ok (.iload 5, 2) := by decide +kernel
theorem dX11_soonest_64 : decode cX11_soonest 64 = .ok (.ifCond .lt 15, 3) := by decide +kernel
theorem dX11_soonest_67 : decode cX11_soonest 67 = .ok (.aload_n 0, 1) := by decide +kernel
theorem dX11_soonest_68 : decode cX11_soonest 68 = .ok (.getfield 259, 3) := by decide +kernel
theorem dX11_soonest_71 : decode cX11_soonest 71 = .ok (.iload 6, 2) := by decide +kernel
theorem dX11_soonest_73 : decode cX11_soonest 73 = .ok (.if_icmp .lt 6, 3) := by decide +kernel
theorem dX11_soonest_76 : decode cX11_soonest 76 = .ok (.goto 13, 3) := by decide +kernel
theorem dX11_soonest_79 : decode cX11_soonest 79 = .ok (.iload 7, 2) := by decide +kernel
theorem dX11_soonest_81 : decode cX11_soonest 81 = .ok (.istore 5, 2) := by decide +kernel
theorem dX11_soonest_83 : decode cX11_soonest 83 = .ok (.aload_n 0, 1) := by decide +kernel
theorem dX11_soonest_84 : decode cX11_soonest 84 = .ok (.getfield 259, 3) := by decide +kernel
theorem dX11_soonest_87 : decode cX11_soonest 87 = .ok (.istore 6, 2) := by decide +kernel
theorem dX11_soonest_89 : decode cX11_soonest 89 = .ok (.iinc 7 1, 3) := by decide +kernel
theorem dX11_soonest_92 : decode cX11_soonest 92 = .ok (.goto (-59), 3) := by decide +kernel
theorem dX11_soonest_95 : decode cX11_soonest 95 = .ok (.aload_n 0, 1) := by decide +kernel
theorem dX11_soonest_96 : decode cX11_soonest 96 = .ok (.getfield 9, 3) := by decide +kernel
theorem dX11_soonest_99 : decode cX11_soonest 99 = .ok (.iconst 0, 1) := by decide +kernel
theorem dX11_soonest_100 : decode cX11_soonest 100 = .ok (.iload 4, 2) := by decide +kernel
theorem dX11_soonest_102 : decode cX11_soonest 102 = .ok (.iastore, 1) := by decide +kernel
theorem dX11_soonest_103 : decode cX11_soonest 103 = .ok (.iload 5, 2) := by decide +kernel
theorem dX11_soonest_105 : decode cX11_soonest 105 = .ok (.ifCond .ge 12, 3) := by decide +kernel
theorem dX11_soonest_108 : decode cX11_soonest 108 = .ok (.aload_n 0, 1) := by decide +kernel
theorem dX11_soonest_109 : decode cX11_soonest 109 = .ok (.ldc 126, 2) := by decide +kernel
theorem dX11_soonest_111 : decode cX11_soonest 111 = .ok (.invokevirtual 94, 3) := by decide +kernel
theorem dX11_soonest_114 : decode cX11_soonest 114 = .ok (.goto 5, 3) := by decide +kernel
theorem dX11_soonest_117 : decode cX11_soonest 117 = .ok (.iload 5, 2) := by decide +kernel
theorem dX11_soonest_119 : decode cX11_soonest 119 = .ok (.ireturn, 1) := by decide +kernel
theorem dX11_meet_0 : decode cX11_meet 0 = .ok (.iload_n 1, 1) := by decide +kernel
theorem dX11_meet_1 : decode cX11_meet 1 = .ok (.iload_n 2, 1) := by decide +kernel
theorem dX11_meet_2 : decode cX11_meet 2 = .ok (.iload 4, 2) := by decide +kernel
theorem dX11_meet_4 : decode cX11_meet 4 = .ok (.invokestatic 268, 3) := by decide +kernel
theorem dX11_meet_7 : decode cX11_meet 7 = .ok (.ifCond .eq 15, 3) := by decide +kernel
theorem dX11_meet_10 : decode cX11_meet 10 = .ok (.iload_n 3, 1) := by decide +kernel
theorem dX11_meet_11 : decode cX11_meet 11 = .ok (.invokestatic 120, 3) := by decide +kernel
theorem dX11_meet_14 : decode cX11_meet 14 = .ok (.ifCond .eq 8, 3) := by decide +kernel
theorem dX11_meet_17 : decode cX11_meet 17 = .ok (.iload_n 2, 1) := by decide +kernel
theorem dX11_meet_18 : decode cX11_meet 18 = .ok (.iload_n 3, 1) := by decide +kernel
theorem dX11_meet_19 : decode cX11_meet 19 = .ok (.if_icmp .ne 10, 3) := by decide +kernel
theorem dX11_meet_22 : decode cX11_meet 22 = .ok (.aload_n 0, 1) := by decide +kernel
theorem dX11_meet_23 : decode cX11_meet 23 = .ok (.ldc 40, 2) := by decide +kernel
theorem dX11_meet_25 : decode cX11_meet 25 = .ok (.invokevirtual 94, 3) := by decide +kernel
theorem dX11_meet_28 : decode cX11_meet 28 = .ok (.ireturn, 1) := by decide +kernel
theorem dX11_meet_29 : decode cX11_meet 29 = .ok (.aload_n 0, 1) := by decide +kernel
theorem dX11_meet_30 : decode cX11_meet 30 = .ok (.iload_n 1, 1) := by decide +kernel
theorem dX11_meet_31 : decode cX11_meet 31 = .ok (.iload_n 2, 1) := by decide +kernel
theorem dX11_meet_32 : decode cX11_meet 32 = .ok (.iload 4, 2) := by decide +kernel
theorem dX11_meet_34 : decode cX11_meet 34 = .ok (.invokevirtual 271, 3) := by decide +kernel
theorem dX11_meet_37 : decode cX11_meet 37 = .ok (.aload_n 0, 1) := by decide +kernel
theorem dX11_meet_38 : decode cX11_meet 38 = .ok (.invokevirtual 274, 3) := by decide +kernel
theorem dX11_meet_41 : decode cX11_meet 41 = .ok (.istore 5, 2) := by decide +kernel
theorem dX11_meet_43 : decode cX11_meet 43 = .ok (.iconst 0, 1) := by decide +kernel
theorem dX11_meet_44 : decode cX11_meet 44 = .ok (.istore 6, 2) := by decide +kernel
theorem dX11_meet_46 : decode cX11_meet 46 = .ok (.iload 6, 2) := by decide +kernel
theorem dX11_meet_48 : decode cX11_meet 48 = .ok (.iload 5, 2) := by decide +kernel
theorem dX11_meet_50 : decode cX11_meet 50 = .ok (.if_icmp .gt 23, 3) := by decide +kernel
theorem dX11_meet_53 : decode cX11_meet 53 = .ok (.aload_n 0, 1) := by decide +kernel
theorem dX11_meet_54 : decode cX11_meet 54 = .ok (.getfield 25, 3) := by decide +kernel
theorem dX11_meet_57 : decode cX11_meet 57 = .ok (.iload 6, 2) := by decide +kernel
theorem dX11_meet_59 : decode cX11_meet 59 = .ok (.aload_n 0, 1) := by decide +kernel
theorem dX11_meet_60 : decode cX11_meet 60 = .ok (.getfield 22, 3) := by decide +kernel
theorem dX11_meet_63 : decode cX11_meet 63 = .ok (.iload 6, 2) := by decide +kernel
theorem dX11_meet_65 : decode cX11_meet 65 = .ok (.iaload, 1) := by decide +kernel
theorem dX11_meet_66 : decode cX11_meet 66 = .ok (.iastore, 1) := by decide +kernel
theorem dX11_meet_67 : decode cX11_meet 67 = .ok (.iinc 6 1, 3) := by decide +kernel
theorem dX11_meet_70 : decode cX11_meet 70 = .ok (.goto (-24), 3) := by decide +kernel
theorem dX11_meet_73 : decode cX11_meet 73 = .ok (.aload_n 0, 1) := by decide +kernel
theorem dX11_meet_74 : decode cX11_meet 74 = .ok (.iload_n 1, 1) := by decide +kernel
theorem dX11_meet_75 : decode cX11_meet 75 = .ok (.iload_n 3, 1) := by decide +kernel
theorem dX11_meet_76 : decode cX11_meet 76 = .ok (.iload 4, 2) := by decide +kernel
theorem dX11_meet_78 : decode cX11_meet 78 = .ok (.invokevirtual 271, 3) := by decide +kernel
theorem dX11_meet_81 : decode cX11_meet 81 = .ok (.iconst 0, 1) := by decide +kernel
theorem dX11_meet_82 : decode cX11_meet 82 = .ok (.istore 6, 2) := by decide +kernel
theorem dX11_meet_84 : decode cX11_meet 84 = .ok (.iload 6, 2) := by decide +kernel
theorem dX11_meet_86 : decode cX11_meet 86 = .ok (.iload 5, 2) := by decide +kernel
theorem dX11_meet_88 : decode cX11_meet 88 = .ok (.if_icmp .gt 38, 3) := by decide +kernel
theorem dX11_meet_91 : decode cX11_meet 91 = .ok (.iload 6, 2) := by decide +kernel
theorem dX11_meet_93 : decode cX11_meet 93 = .ok (.aload_n 0, 1) := by decide +kernel
theorem dX11_meet_94 : decode cX11_meet 94 = .ok (.invokevirtual 274, 3) := by decide +kernel
theorem dX11_meet_97 : decode cX11_meet 97 = .ok (.if_icmp .gt 29, 3) := by decide +kernel
theorem dX11_meet_100 : decode cX11_meet 100 = .ok (.aload_n 0, 1) := by decide +kernel
theorem dX11_meet_101 : decode cX11_meet 101 = .ok (.getfield 25, 3) := by decide +kernel
theorem dX11_meet_104 : decode cX11_meet 104 = .ok (.iload 6, 2) := by decide +kernel
theorem dX11_meet_106 : decode cX11_meet 106 = .ok (.iaload, 1) := by decide +kernel
theorem dX11_meet_107 : decode cX11_meet 107 = .ok (.aload_n 0, 1) := by decide +kernel
theorem dX11_meet_108 : decode cX11_meet 108 = .ok (.getfield 22, 3) := by decide +kernel
theorem dX11_meet_111 : decode cX11_meet 111 = .ok (.iload 6, 2) := by decide +kernel
theorem dX11_meet_113 : decode cX11_meet 113 = .ok (.iaload, 1) := by decide +kernel
theorem dX11_meet_114 : decode cX11_meet 114 = .ok (.if_icmp .ne 6, 3) := by decide +kernel
theorem dX11_meet_117 : decode cX11_meet 117 = .ok (.iload 6, 2) := by decide +kernel
theorem dX11_meet_119 : decode cX11_meet 119 = .ok (.ireturn, 1) := by decide +kernel
theorem dX11_meet_120 : decode cX11_meet 120 = .ok (.iinc 6 1, 3) := by decide +kernel
theorem dX11_meet_123 : decode cX11_meet 123 = .ok (.goto (-39), 3) := by decide +kernel
theorem dX11_meet_126 : decode cX11_meet 126 = .ok (.aload_n 0, 1) := by decide +kernel
theorem dX11_meet_127 : decode cX11_meet 127 = .ok (.ldc 126, 2) := by decide +kernel
theorem dX11_meet_129 : decode cX11_meet 129 = .ok (.invokevirtual 94, 3) := by decide +kernel
theorem dX11_meet_132 : decode cX11_meet 132 = .ok (.ireturn, 1) := by decide +kernel
theorem dX11_edge_0 : decode cX11_edge 0 = .ok (.iload_n 1, 1) := by decide +kernel
theorem dX11_edge_1 : decode cX11_edge 1 = .ok (.invokestatic 88, 3) := by decide +kernel
theorem dX11_edge_4 : decode cX11_edge 4 = .ok (.ifCond .eq 13, 3) := by decide +kernel
theorem dX11_edge_7 : decode cX11_edge 7 = .ok (.iload_n 2, 1) := by decide +kernel
theorem dX11_edge_8 : decode cX11_edge 8 = .ok (.iload_n 3, 1) := by decide +kernel
theorem dX11_edge_9 : decode cX11_edge 9 = .ok (.bipush 20, 2) := by decide +kernel
theorem dX11_edge_11 : decode cX11_edge 11 = .ok (.invokestatic 268, 3) := by decide +kernel
theorem dX11_edge_14 : decode cX11_edge 14 = .ok (.ifCond .ne 10, 3) := by decide +kernel
theorem dX11_edge_17 : decode cX11_edge 17 = .ok (.aload_n 0, 1) := by decide +kernel
theorem dX11_edge_18 : decode cX11_edge 18 = .ok (.ldc 40, 2) := by decide +kernel
theorem dX11_edge_20 : decode cX11_edge 20 = .ok (.invokevirtual 94, 3) := by decide +kernel
theorem dX11_edge_23 : decode cX11_edge 23 = .ok (.ireturn, 1) := by decide +kernel
theorem dX11_edge_24 : decode cX11_edge 24 = .ok (.aload_n 0, 1) := by decide +kernel
theorem dX11_edge_25 : decode cX11_edge 25 = .ok (.getfield 9, 3) := by decide +kernel
theorem dX11_edge_28 : decode cX11_edge 28 = .ok (.bipush 18, 2) := by decide +kernel
theorem dX11_edge_30 : decode cX11_edge 30 = .ok (.iload_n 1, 1) := by decide +kernel
theorem dX11_edge_31 : decode cX11_edge 31 = .ok (.iadd, 1) := by decide +kernel
theorem dX11_edge_32 : decode cX11_edge 32 = .ok (.iaload, 1) := by decide +kernel
theorem dX11_edge_33 : decode cX11_edge 33 = .ok (.istore 4, 2) := by decide +kernel
theorem dX11_edge_35 : decode cX11_edge 35 = .ok (.iconst (-1), 1) := by decide +kernel
theorem dX11_edge_36 : decode cX11_edge 36 = .ok (.istore 5, 2) := by decide +kernel
theorem dX11_edge_38 : decode cX11_edge 38 = .ok (.iconst 0, 1) := by decide +kernel
theorem dX11_edge_39 : decode cX11_edge 39 = .ok (.istore 6, 2) := by decide +kernel
theorem dX11_edge_41 : decode cX11_edge 41 = .ok (.iload 6, 2) := by decide +kernel
theorem dX11_edge_43 : decode cX11_edge 43 = .ok (.bipush 10, 2) := by decide +kernel
theorem dX11_edge_45 : decode cX11_edge 45 = .ok (.if_icmp .ge 44, 3) := by decide +kernel
theorem dX11_edge_48 : decode cX11_edge 48 = .ok (.aload_n 0, 1) := by decide +kernel
theorem dX11_edge_49 : decode cX11_edge 49 = .ok (.getfield 9, 3) := by decide +kernel
theorem dX11_edge_52 : decode cX11_edge 52 = .ok (.bipush 18, 2) := by decide +kernel
theorem dX11_edge_54 : decode cX11_edge 54 = .ok (.iload_n 1, 1) := by decide +kernel
theorem dX11_edge_55 : decode cX11_edge 55 = .ok (.iadd, 1) := by decide +kernel
theorem dX11_edge_56 : decode cX11_edge 56 = .ok (.iload 6, 2) := by decide +kernel
theorem dX11_edge_58 : decode cX11_edge 58 = .ok (.iastore, 1) := by decide +kernel
theorem dX11_edge_59 : decode cX11_edge 59 = .ok (.aload_n 0, 1) := by decide +kernel
theorem dX11_edge_60 : decode cX11_edge 60 = .ok (.iload_n 2, 1) := by decide +kernel
theorem dX11_edge_61 : decode cX11_edge 61 = .ok (.iload_n 3, 1) := by decide +kernel
theorem dX11_edge_62 : decode cX11_edge 62 = .ok (.bipush 20, 2) := by decide +kernel
theorem dX11_edge_64 : decode cX11_edge 64 = .ok (.invokevirtual 271, 3) := by decide +kernel
theorem dX11_edge_67 : decode cX11_edge 67 = .ok (.aload_n 0, 1) := by decide +kernel
theorem dX11_edge_68 : decode cX11_edge 68 = .ok (.getfield 262, 3) := by decide +kernel
theorem dX11_edge_71 : decode cX11_edge 71 = .ok (.ifCond .ge 8, 3) := by decide +kernel
theorem dX11_edge_74 : decode cX11_edge 74 = .ok (.iload 5, 2) := by decide +kernel
theorem dX11_edge_76 : decode cX11_edge 76 = .ok (.goto 5, 3) := by decide +kernel
theorem dX11_edge_79 : decode cX11_edge 79 = .ok (.iload 6, 2) := by decide +kernel
theorem dX11_edge_81 : decode cX11_edge 81 = .ok (.istore 5, 2) := by decide +kernel
theorem dX11_edge_83 : decode cX11_edge 83 = .ok (.iinc 6 1, 3) := by decide +kernel
theorem dX11_edge_86 : decode cX11_edge 86 = .ok (.goto (-45), 3) := by decide +kernel
theorem dX11_edge_89 : decode cX11_edge 89 = .ok (.aload_n 0, 1) := by decide +kernel
theorem dX11_edge_90 : decode cX11_edge 90 = .ok (.getfield 9, 3) := by decide +kernel
theorem dX11_edge_93 : decode cX11_edge 93 = .ok (.bipush 18, 2) := by decide +kernel
theorem dX11_edge_95 : decode cX11_edge 95 = .ok (.iload_n 1, 1) := by decide +kernel
theorem dX11_edge_96 : decode cX11_edge 96 = .ok (.iadd, 1) := by decide +kernel
theorem dX11_edge_97 : decode cX11_edge 97 = .ok (.iload 4, 2) := by decide +kernel
theorem dX11_edge_99 : decode cX11_edge 99 = .ok (.iastore, 1) := by decide +kernel
theorem dX11_edge_100 : decode cX11_edge 100 = .ok (.iload 5, 2) := by decide +kernel
theorem dX11_edge_102 : decode cX11_edge 102 = .ok (.ifCond .ge 12, 3) := by decide +kernel
theorem dX11_edge_105 : decode cX11_edge 105 = .ok (.aload_n 0, 1) := by decide +kernel
theorem dX11_edge_106 : decode cX11_edge 106 = .ok (.ldc 126, 2) := by decide +kernel
theorem dX11_edge_108 : decode cX11_edge 108 = .ok (.invokevirtual 94, 3) := by decide +kernel
theorem dX11_edge_111 : decode cX11_edge 111 = .ok (.goto 5, 3) := by decide +kernel
theorem dX11_edge_114 : decode cX11_edge 114 = .ok (.iload 5, 2) := by decide +kernel
theorem dX11_edge_116 : decode cX11_edge 116 = .ok (.ireturn, 1) := by decide +kernel
theorem dX11_findSums_0 : decode cX11_findSums 0 = .ok (.sipush 191, 3) := by decide +kernel
theorem dX11_findSums_3 : decode cX11_findSums 3 = .ok (.istore_n 1, 1) := by decide +kernel
theorem dX11_findSums_4 : decode cX11_findSums 4 = .ok (.iload_n 1, 1) := by decide +kernel
theorem dX11_findSums_5 : decode cX11_findSums 5 = .ok (.ifCond .lt 97, 3) := by decide +kernel
theorem dX11_findSums_8 : decode cX11_findSums 8 = .ok (.aload_n 0, 1) := by decide +kernel
theorem dX11_findSums_9 : decode cX11_findSums 9 = .ok (.getfield 28, 3) := by decide +kernel
theorem dX11_findSums_12 : decode cX11_findSums 12 = .ok (.iload_n 1, 1) := by decide +kernel
theorem dX11_findSums_13 : decode cX11_findSums 13 = .ok (.iconst 0, 1) := by decide +kernel
theorem dX11_findSums_14 : decode cX11_findSums 14 = .ok (.iastore, 1) := by decide +kernel
theorem dX11_findSums_15 : decode cX11_findSums 15 = .ok (.iload_n 1, 1) := by decide +kernel
theorem dX11_findSums_16 : decode cX11_findSums 16 = .ok (.sipush 180, 3) := by decide +kernel
theorem dX11_findSums_19 : decode cX11_findSums 19 = .ok (.if_icmp .lt 6, 3) := by decide +kernel
theorem dX11_findSums_22 : decode cX11_findSums 22 = .ok (.goto 74, 3) := by decide +kernel
theorem dX11_findSums_25 : decode cX11_findSums 25 = .ok (.aload_n 0, 1) := by decide +kernel
theorem dX11_findSums_26 : decode cX11_findSums 26 = .ok (.getfield 28, 3) := by decide +kernel
theorem dX11_findSums_29 : decode cX11_findSums 29 = .ok (.iload_n 1, 1) := by decide +kernel
theorem dX11_findSums_30 : decode cX11_findSums 30 = .ok (.ldc_w 281, 3) := by decide +kernel
theorem dX11_findSums_33 : decode cX11_findSums 33 = .ok (.iastore, 1) := by decide +kernel
theorem dX11_findSums_34 : decode cX11_findSums 34 = .ok (.iconst 0, 1) := by decide +kernel
theorem dX11_findSums_35 : decode cX11_findSums 35 = .ok (.istore_n 2, 1) := by decide +kernel
theorem dX11_findSums_36 : decode cX11_findSums 36 = .ok (.iload_n 2, 1) := by decide +kernel
theorem dX11_findSums_37 : decode cX11_findSums 37 = .ok (.iconst 3, 1) := by decide +kernel
theorem dX11_findSums_38 : decode cX11_findSums 38 = .ok (.if_icmp .ge 58, 3) := by decide +kernel
theorem dX11_findSums_41 : decode cX11_findSums 41 = .ok (.iload_n 1, 1) := by decide +kernel
theorem dX11_findSums_42 : decode cX11_findSums 42 = .ok (.iload_n 2, 1) := by decide +kernel
theorem dX11_findSums_43 : decode cX11_findSums 43 = .ok (.invokestatic 68, 3) := by decide +kernel
theorem dX11_findSums_46 : decode cX11_findSums 46 = .ok (.istore_n 3, 1) := by decide +kernel
theorem dX11_findSums_47 : decode cX11_findSums 47 = .ok (.iload_n 3, 1) := by decide +kernel
theorem dX11_findSums_48 : decode cX11_findSums 48 = .ok (.ifCond .lt 42, 3) := by decide +kernel
theorem dX11_findSums_51 : decode cX11_findSums 51 = .ok (.aload_n 0, 1) := by decide +kernel
theorem dX11_findSums_52 : decode cX11_findSums 52 = .ok (.iload_n 3, 1) := by decide +kernel
theorem dX11_findSums_53 : decode cX11_findSums 53 = .ok (.invokevirtual 65, 3) := by decide +kernel
theorem dX11_findSums_56 : decode cX11_findSums 56 = .ok (.aload_n 0, 1) := by decide +kernel
theorem dX11_findSums_57 : decode cX11_findSums 57 = .ok (.getfield 28, 3) := by decide +kernel
theorem dX11_findSums_60 : decode cX11_findSums 60 = .ok (.iload_n 3, 1) := by decide +kernel
theorem dX11_findSums_61 : decode cX11_findSums 61 = .ok (.iaload, 1) := by decide +kernel
theorem dX11_findSums_62 : decode cX11_findSums 62 = .ok (.iadd, 1) := by decide +kernel
theorem dX11_findSums_63 : decode cX11_findSums 63 = .ok (.aload_n 0, 1) := by decide +kernel
theorem dX11_findSums_64 : decode cX11_findSums 64 = .ok (.getfield 28, 3) := by decide +kernel
theorem dX11_findSums_67 : decode cX11_findSums 67 = .ok (.iload_n 1, 1) := by decide +kernel
theorem dX11_findSums_68 : decode cX11_findSums 68 = .ok (.iaload, 1) := by decide +kernel
theorem dX11_findSums_69 : decode cX11_findSums 69 = .ok (.if_icmp .ge 21, 3) := by decide +kernel
theorem dX11_findSums_72 : decode cX11_findSums 72 = .ok (.aload_n 0, 1) := by decide +kernel
theorem dX11_findSums_73 : decode cX11_findSums 73 = .ok (.getfield 28, 3) := by decide +kernel
