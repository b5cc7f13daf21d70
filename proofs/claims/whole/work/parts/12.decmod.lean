theorem dX6_init_0 : decode cX6_init 0 = .ok (.aload_n 0, 1) := by decide +kernel
theorem dX6_init_1 : decode cX6_init 1 = .ok (.invokespecial 1, 3) := by decide +kernel
theorem dX6_init_4 : decode cX6_init 4 = .ok (.aload_n 0, 1) := by decide +kernel
theorem dX6_init_5 : decode cX6_init 5 = .ok (.sipush 800, 3) := by decide +kernel
theorem dX6_init_8 : decode cX6_init 8 = .ok (.newarray .int, 2) := by decide +kernel
theorem dX6_init_10 : decode cX6_init 10 = .ok (.putfield 7, 3) := by decide +kernel
theorem dX6_init_13 : decode cX6_init 13 = .ok (.aload_n 0, 1) := by decide +kernel
theorem dX6_init_14 : decode cX6_init 14 = .ok (.sipush 200, 3) := by decide +kernel
theorem dX6_init_17 : decode cX6_init 17 = .ok (.newarray .int, 2) := by decide +kernel
theorem dX6_init_19 : decode cX6_init 19 = .ok (.putfield 13, 3) := by decide +kernel
theorem dX6_init_22 : decode cX6_init 22 = .ok (.aload_n 0, 1) := by decide +kernel
theorem dX6_init_23 : decode cX6_init 23 = .ok (.sipush 200, 3) := by decide +kernel
theorem dX6_init_26 : decode cX6_init 26 = .ok (.newarray .int, 2) := by decide +kernel
theorem dX6_init_28 : decode cX6_init 28 = .ok (.putfield 16, 3) := by decide +kernel
theorem dX6_init_31 : decode cX6_init 31 = .ok (.aload_n 0, 1) := by decide +kernel
theorem dX6_init_32 : decode cX6_init 32 = .ok (.bipush 48, 2) := by decide +kernel
theorem dX6_init_34 : decode cX6_init 34 = .ok (.newarray .int, 2) := by decide +kernel
theorem dX6_init_36 : decode cX6_init 36 = .ok (.putfield 19, 3) := by decide +kernel
theorem dX6_init_39 : decode cX6_init 39 = .ok (.aload_n 0, 1) := by decide +kernel
theorem dX6_init_40 : decode cX6_init 40 = .ok (.bipush 16, 2) := by decide +kernel
theorem dX6_init_42 : decode cX6_init 42 = .ok (.newarray .int, 2) := by decide +kernel
theorem dX6_init_44 : decode cX6_init 44 = .ok (.putfield 22, 3) := by decide +kernel
theorem dX6_init_47 : decode cX6_init 47 = .ok (.aload_n 0, 1) := by decide +kernel
theorem dX6_init_48 : decode cX6_init 48 = .ok (.bipush 8, 2) := by decide +kernel
theorem dX6_init_50 : decode cX6_init 50 = .ok (.newarray .int, 2) := by decide +kernel
theorem dX6_init_52 : decode cX6_init 52 = .ok (.putfield 25, 3) := by decide +kernel
theorem dX6_init_55 : decode cX6_init 55 = .ok (.aload_n 0, 1) := by decide +kernel
theorem dX6_init_56 : decode cX6_init 56 = .ok (.iconst 4, 1) := by decide +kernel
theorem dX6_init_57 : decode cX6_init 57 = .ok (.newarray .int, 2) := by decide +kernel
theorem dX6_init_59 : decode cX6_init 59 = .ok (.putfield 28, 3) := by decide +kernel
theorem dX6_init_62 : decode cX6_init 62 = .ok (.aload_n 0, 1) := by decide +kernel
theorem dX6_init_63 : decode cX6_init 63 = .ok (.bipush 48, 2) := by decide +kernel
theorem dX6_init_65 : decode cX6_init 65 = .ok (.newarray .int, 2) := by decide +kernel
theorem dX6_init_67 : decode cX6_init 67 = .ok (.putfield 31, 3) := by decide +kernel
theorem dX6_init_70 : decode cX6_init 70 = .ok (.aload_n 0, 1) := by decide +kernel
theorem dX6_init_71 : decode cX6_init 71 = .ok (.bipush 48, 2) := by decide +kernel
theorem dX6_init_73 : decode cX6_init 73 = .ok (.newarray .int, 2) := by decide +kernel
theorem dX6_init_75 : decode cX6_init 75 = .ok (.putfield 34, 3) := by decide +kernel
theorem dX6_init_78 : decode cX6_init 78 = .ok (.aload_n 0, 1) := by decide +kernel
theorem dX6_init_79 : decode cX6_init 79 = .ok (.iconst 3, 1) := by decide +kernel
theorem dX6_init_80 : decode cX6_init 80 = .ok (.newarray .int, 2) := by decide +kernel
theorem dX6_init_82 : decode cX6_init 82 = .ok (.putfield 37, 3) := by decide +kernel
theorem dX6_init_85 : decode cX6_init 85 = .ok (.aload_n 0, 1) := by decide +kernel
theorem dX6_init_86 : decode cX6_init 86 = .ok (.bipush 30, 2) := by decide +kernel
theorem dX6_init_88 : decode cX6_init 88 = .ok (.newarray .int, 2) := by decide +kernel
theorem dX6_init_90 : decode cX6_init 90 = .ok (.putfield 40, 3) := by decide +kernel
theorem dX6_init_93 : decode cX6_init 93 = .ok (.aload_n 0, 1) := by decide +kernel
theorem dX6_init_94 : decode cX6_init 94 = .ok (.bipush 30, 2) := by decide +kernel
theorem dX6_init_96 : decode cX6_init 96 = .ok (.newarray .int, 2) := by decide +kernel
theorem dX6_init_98 : decode cX6_init 98 = .ok (.putfield 43, 3) := by decide +kernel
theorem dX6_init_101 : decode cX6_init 101 = .ok (.aload_n 0, 1) := by decide +kernel
theorem dX6_init_102 : decode cX6_init 102 = .ok (.bipush 10, 2) := by decide +kernel
theorem dX6_init_104 : decode cX6_init 104 = .ok (.newarray .int, 2) := by decide +kernel
theorem dX6_init_106 : decode cX6_init 106 = .ok (.putfield 46, 3) := by decide +kernel
theorem dX6_init_109 : decode cX6_init 109 = .ok (.aload_n 0, 1) := by decide +kernel
theorem dX6_init_110 : decode cX6_init 110 = .ok (.bipush 10, 2) := by decide +kernel
theorem dX6_init_112 : decode cX6_init 112 = .ok (.newarray .int, 2) := by decide +kernel
theorem dX6_init_114 : decode cX6_init 114 = .ok (.putfield 49, 3) := by decide +kernel
theorem dX6_init_117 : decode cX6_init 117 = .ok (.return_, 1) := by decide +kernel
theorem dX6_thrown_0 : decode cX6_thrown 0 = .ok (.aload_n 0, 1) := by decide +kernel
theorem dX6_thrown_1 : decode cX6_thrown 1 = .ok (.getfield 52, 3) := by decide +kernel
theorem dX6_thrown_4 : decode cX6_thrown 4 = .ok (.ireturn, 1) := by decide +kernel
theorem dX6_throwing_0 : decode cX6_throwing 0 = .ok (.aload_n 0, 1) := by decide +kernel
theorem dX6_throwing_1 : decode cX6_throwing 1 = .ok (.iload_n 1, 1) := by decide +kernel
theorem dX6_throwing_2 : decode cX6_throwing 2 = .ok (.ifCond .eq 7, 3) := by decide +kernel
theorem dX6_throwing_5 : decode cX6_throwing 5 = .ok (.iconst 1, 1) := by decide +kernel
theorem dX6_throwing_6 : decode cX6_throwing 6 = .ok (.goto 29, 3) := by decide +kernel
theorem dX6_throwing_9 : decode cX6_throwing 9 = .ok (.iload_n 2, 1) := by decide +kernel
theorem dX6_throwing_10 : decode cX6_throwing 10 = .ok (.ifCond .eq 7, 3) := by decide +kernel
theorem dX6_throwing_13 : decode cX6_throwing 13 = .ok (.iconst 2, 1) := by decide +kernel
theorem dX6_throwing_14 : decode cX6_throwing 14 = .ok (.goto 21, 3) := by decide +kernel
theorem dX6_throwing_17 : decode cX6_throwing 17 = .ok (.iload_n 3, 1) := by decide +kernel
theorem dX6_throwing_18 : decode cX6_throwing 18 = .ok (.ifCond .eq 7, 3) := by decide +kernel
theorem dX6_throwing_21 : decode cX6_throwing 21 = .ok (.iconst 3, 1) := by decide +kernel
theorem dX6_throwing_22 : decode cX6_throwing 22 = .ok (.goto 13, 3) := by decide +kernel
theorem dX6_throwing_25 : decode cX6_throwing 25 = .ok (.iload 4, 2) := by decide +kernel
theorem dX6_throwing_27 : decode cX6_throwing 27 = .ok (.ifCond .eq 7, 3) := by decide +kernel
theorem dX6_throwing_30 : decode cX6_throwing 30 = .ok (.iconst 4, 1) := by decide +kernel
theorem dX6_throwing_31 : decode cX6_throwing 31 = .ok (.goto 4, 3) := by decide +kernel
theorem dX6_throwing_34 : decode cX6_throwing 34 = .ok (.iconst 0, 1) := by decide +kernel
theorem dX6_throwing_35 : decode cX6_throwing 35 = .ok (.putfield 52, 3) := by decide +kernel
theorem dX6_throwing_38 : decode cX6_throwing 38 = .ok (.aload_n 0, 1) := by decide +kernel
theorem dX6_throwing_39 : decode cX6_throwing 39 = .ok (.getfield 52, 3) := by decide +kernel
theorem dX6_throwing_42 : decode cX6_throwing 42 = .ok (.ifCond .le 7, 3) := by decide +kernel
theorem dX6_throwing_45 : decode cX6_throwing 45 = .ok (.iconst 1, 1) := by decide +kernel
theorem dX6_throwing_46 : decode cX6_throwing 46 = .ok (.goto 4, 3) := by decide +kernel
theorem dX6_throwing_49 : decode cX6_throwing 49 = .ok (.iconst 0, 1) := by decide +kernel
theorem dX6_throwing_50 : decode cX6_throwing 50 = .ok (.ireturn, 1) := by decide +kernel
theorem dX6_lies_0 : decode cX6_lies 0 = .ok (.lload_n 0, 1) := by decide +kernel
theorem dX6_lies_1 : decode cX6_lies 1 = .ok (.lload_n 2, 1) := by decide +kernel
theorem dX6_lies_2 : decode cX6_lies 2 = .ok (.lcmp, 1) := by decide +kernel
theorem dX6_lies_3 : decode cX6_lies 3 = .ok (.ifCond .lt 14, 3) := by decide +kernel
theorem dX6_lies_6 : decode cX6_lies 6 = .ok (.lload_n 0, 1) := by decide +kernel
theorem dX6_lies_7 : decode cX6_lies 7 = .ok (.lload 4, 2) := by decide +kernel
theorem dX6_lies_9 : decode cX6_lies 9 = .ok (.lcmp, 1) := by decide +kernel
theorem dX6_lies_10 : decode cX6_lies 10 = .ok (.ifCond .gt 7, 3) := by decide +kernel
theorem dX6_lies_13 : decode cX6_lies 13 = .ok (.iconst 1, 1) := by decide +kernel
theorem dX6_lies_14 : decode cX6_lies 14 = .ok (.goto 4, 3) := by decide +kernel
theorem dX6_lies_17 : decode cX6_lies 17 = .ok (.iconst 0, 1) := by decide +kernel
theorem dX6_lies_18 : decode cX6_lies 18 = .ok (.ireturn, 1) := by decide +kernel
theorem dX6_areThere_0 : decode cX6_areThere 0 = .ok (.iload_n 0, 1) := by decide +kernel
theorem dX6_areThere_1 : decode cX6_areThere 1 = .ok (.i2l, 1) := by decide +kernel
theorem dX6_areThere_2 : decode cX6_areThere 2 = .ok (.lconst 0, 1) := by decide +kernel
theorem dX6_areThere_3 : decode cX6_areThere 3 = .ok (.ldc2_w 56, 3) := by decide +kernel
theorem dX6_areThere_6 : decode cX6_areThere 6 = .ok (.invokestatic 58, 3) := by decide +kernel
theorem dX6_areThere_9 : decode cX6_areThere 9 = .ok (.ifCond .eq 31, 3) := by decide +kernel
theorem dX6_areThere_12 : decode cX6_areThere 12 = .ok (.iload_n 1, 1) := by decide +kernel
theorem dX6_areThere_13 : decode cX6_areThere 13 = .ok (.i2l, 1) := by decide +kernel
theorem dX6_areThere_14 : decode cX6_areThere 14 = .ok (.lconst 0, 1) := by decide +kernel
theorem dX6_areThere_15 : decode cX6_areThere 15 = .ok (.ldc2_w 56, 3) := by decide +kernel
theorem dX6_areThere_18 : decode cX6_areThere 18 = .ok (.invokestatic 58, 3) := by decide +kernel
theorem dX6_areThere_21 : decode cX6_areThere 21 = .ok (.ifCond .eq 19, 3) := by decide +kernel
theorem dX6_areThere_24 : decode cX6_areThere 24 = .ok (.iload_n 2, 1) := by decide +kernel
theorem dX6_areThere_25 : decode cX6_areThere 25 = .ok (.i2l, 1) := by decide +kernel
theorem dX6_areThere_26 : decode cX6_areThere 26 = .ok (.lconst 0, 1) := by decide +kernel
theorem dX6_areThere_27 : decode cX6_areThere 27 = .ok (.ldc2_w 62, 3) := by decide +kernel
theorem dX6_areThere_30 : decode cX6_areThere 30 = .ok (.invokestatic 58, 3) := by decide +kernel
theorem dX6_areThere_33 : decode cX6_areThere 33 = .ok (.ifCond .eq 7, 3) := by decide +kernel
theorem dX6_areThere_36 : decode cX6_areThere 36 = .ok (.iconst 1, 1) := by decide +kernel
theorem dX6_areThere_37 : decode cX6_areThere 37 = .ok (.goto 4, 3) := by decide +kernel
theorem dX6_areThere_40 : decode cX6_areThere 40 = .ok (.iconst 0, 1) := by decide +kernel
theorem dX6_areThere_41 : decode cX6_areThere 41 = .ok (.ireturn, 1) := by decide +kernel
theorem dX6_enter_0 : decode cX6_enter 0 = .ok (.aload_n 0, 1) := by decide +kernel
theorem dX6_enter_1 : decode cX6_enter 1 = .ok (.getfield 7, 3) := by decide +kernel
theorem dX6_enter_4 : decode cX6_enter 4 = .ok (.iconst 4, 1) := by decide +kernel
theorem dX6_enter_5 : decode cX6_enter 5 = .ok (.aload_n 0, 1) := by decide +kernel
theorem dX6_enter_6 : decode cX6_enter 6 = .ok (.getfield 64, 3) := by decide +kernel
theorem dX6_enter_9 : decode cX6_enter 9 = .ok (.imul, 1) := by decide +kernel
theorem dX6_enter_10 : decode cX6_enter 10 = .ok (.iload_n 1, 1) := by decide +kernel
theorem dX6_enter_11 : decode cX6_enter 11 = .ok (.iastore, 1) := by decide +kernel
theorem dX6_enter_12 : decode cX6_enter 12 = .ok (.aload_n 0, 1) := by decide +kernel
theorem dX6_enter_13 : decode cX6_enter 13 = .ok (.getfield 7, 3) := by decide +kernel
theorem dX6_enter_16 : decode cX6_enter 16 = .ok (.iconst 4, 1) := by decide +kernel
theorem dX6_enter_17 : decode cX6_enter 17 = .ok (.aload_n 0, 1) := by decide +kernel
theorem dX6_enter_18 : decode cX6_enter 18 = .ok (.getfield 64, 3) := by decide +kernel
theorem dX6_enter_21 : decode cX6_enter 21 = .ok (.imul, 1) := by decide +kernel
theorem dX6_enter_22 : decode cX6_enter 22 = .ok (.iconst 1, 1) := by decide +kernel
theorem dX6_enter_23 : decode cX6_enter 23 = .ok (.iadd, 1) := by decide +kernel
theorem dX6_enter_24 : decode cX6_enter 24 = .ok (.iload_n 2, 1) := by decide +kernel
theorem dX6_enter_25 : decode cX6_enter 25 = .ok (.iastore, 1) := by decide +kernel
theorem dX6_enter_26 : decode cX6_enter 26 = .ok (.aload_n 0, 1) := by decide +kernel
theorem dX6_enter_27 : decode cX6_enter 27 = .ok (.getfield 7, 3) := by decide +kernel
theorem dX6_enter_30 : decode cX6_enter 30 = .ok (.iconst 4, 1) := by decide +kernel
theorem dX6_enter_31 : decode cX6_enter 31 = .ok (.aload_n 0, 1) := by decide +kernel
theorem dX6_enter_32 : decode cX6_enter 32 = .ok (.getfield 64, 3) := by decide +kernel
theorem dX6_enter_35 : decode cX6_enter 35 = .ok (.imul, 1) := by decide +kernel
theorem dX6_enter_36 : decode cX6_enter 36 = .ok (.iconst 2, 1) := by decide +kernel
theorem dX6_enter_37 : decode cX6_enter 37 = .ok (.iadd, 1) := by decide +kernel
theorem dX6_enter_38 : decode cX6_enter 38 = .ok (.iload_n 3, 1) := by decide +kernel
theorem dX6_enter_39 : decode cX6_enter 39 = .ok (.iastore, 1) := by decide +kernel
theorem dX6_enter_40 : decode cX6_enter 40 = .ok (.aload_n 0, 1) := by decide +kernel
theorem dX6_enter_41 : decode cX6_enter 41 = .ok (.getfield 7, 3) := by decide +kernel
theorem dX6_enter_44 : decode cX6_enter 44 = .ok (.iconst 4, 1) := by decide +kernel
theorem dX6_enter_45 : decode cX6_enter 45 = .ok (.aload_n 0, 1) := by decide +kernel
theorem dX6_enter_46 : decode cX6_enter 46 = .ok (.getfield 64, 3) := by decide +kernel
theorem dX6_enter_49 : decode cX6_enter 49 = .ok (.imul, 1) := by decide +kernel
theorem dX6_enter_50 : decode cX6_enter 50 = .ok (.iconst 3, 1) := by decide +kernel
theorem dX6_enter_51 : decode cX6_enter 51 = .ok (.iadd, 1) := by decide +kernel
theorem dX6_enter_52 : decode cX6_enter 52 = .ok (.aload_n 0, 1) := by decide +kernel
theorem dX6_enter_53 : decode cX6_enter 53 = .ok (.getfield 67, 3) := by decide +kernel
theorem dX6_enter_56 : decode cX6_enter 56 = .ok (.iastore, 1) := by decide +kernel
theorem dX6_enter_57 : decode cX6_enter 57 = .ok (.aload_n 0, 1) := by decide +kernel
theorem dX6_enter_58 : decode cX6_enter 58 = .ok (.getfield 13, 3) := by decide +kernel
theorem dX6_enter_61 : decode cX6_enter 61 = .ok (.aload_n 0, 1) := by decide +kernel
theorem dX6_enter_62 : decode cX6_enter 62 = .ok (.getfield 64, 3) := by decide +kernel
theorem dX6_enter_65 : decode cX6_enter 65 = .ok (.iload 4, 2) := by decide +kernel
theorem dX6_enter_67 : decode cX6_enter 67 = .ok (.iastore, 1) := by decide +kernel
theorem dX6_enter_68 : decode cX6_enter 68 = .ok (.aload_n 0, 1) := by decide +kernel
theorem dX6_enter_69 : decode cX6_enter 69 = .ok (.dup, 1) := by decide +kernel
theorem dX6_enter_70 : decode cX6_enter 70 = .ok (.getfield 64, 3) := by decide +kernel
theorem dX6_enter_73 : decode cX6_enter 73 = .ok (.iconst 1, 1) := by decide +kernel
theorem dX6_enter_74 : decode cX6_enter 74 = .ok (.iadd, 1) := by decide +kernel
theorem dX6_enter_75 : decode cX6_enter 75 = .ok (.putfield 64, 3) := by decide +kernel
theorem dX6_enter_78 : decode cX6_enter 78 = .ok (.return_, 1) := by decide +kernel
theorem dX6_endBatch_0 : decode cX6_endBatch 0 = .ok (.aload_n 0, 1) := by decide +kernel
theorem dX6_endBatch_1 : decode cX6_endBatch 1 = .ok (.getfield 16, 3) := by decide +kernel
theorem dX6_endBatch_4 : decode cX6_endBatch 4 = .ok (.aload_n 0, 1) := by decide +kernel
theorem dX6_endBatch_5 : decode cX6_endBatch 5 = .ok (.getfield 67, 3) := by decide +kernel
theorem dX6_endBatch_8 : decode cX6_endBatch 8 = .ok (.iload_n 1, 1) := by decide +kernel
theorem dX6_endBatch_9 : decode cX6_endBatch 9 = .ok (.iastore, 1) := by decide +kernel
theorem dX6_endBatch_10 : decode cX6_endBatch 10 = .ok (.aload_n 0, 1) := by decide +kernel
theorem dX6_endBatch_11 : decode cX6_endBatch 11 = .ok (.dup, 1) := by decide +kernel
theorem dX6_endBatch_12 : decode cX6_endBatch 12 = .ok (.getfield 67, 3) := by decide +kernel
theorem dX6_endBatch_15 : decode cX6_endBatch 15 = .ok (.iconst 1, 1) := by decide +kernel
theorem dX6_endBatch_16 : decode cX6_endBatch 16 = .ok (.iadd, 1) := by decide +kernel
theorem dX6_endBatch_17 : decode cX6_endBatch 17 = .ok (.putfield 67, 3) := by decide +kernel
theorem dX6_endBatch_20 : decode cX6_endBatch 20 = .ok (.aload_n 0, 1) := by decide +kernel
theorem dX6_endBatch_21 : decode cX6_endBatch 21 = .ok (.getfield 67, 3) := by decide +kernel
theorem dX6_endBatch_24 : decode cX6_endBatch 24 = .ok (.iconst 1, 1) := by decide +kernel
theorem dX6_endBatch_25 : decode cX6_endBatch 25 = .ok (.isub, 1) := by decide +kernel
theorem dX6_endBatch_26 : decode cX6_endBatch 26 = .ok (.ireturn, 1) := by decide +kernel
theorem dX6_line_0 : decode cX6_line 0 = .ok (.iload 4, 2) := by decide +kernel
theorem dX6_line_2 : decode cX6_line 2 = .ok (.ifCond .eq 18, 3) := by decide +kernel
theorem dX6_line_5 : decode cX6_line 5 = .ok (.iload 4, 2) := by decide +kernel
theorem dX6_line_7 : decode cX6_line 7 = .ok (.i2l, 1) := by decide +kernel
theorem dX6_line_8 : decode cX6_line 8 = .ok (.ldc2_w 70, 3) := by decide +kernel
theorem dX6_line_11 : decode cX6_line 11 = .ok (.ldc2_w 72, 3) := by decide +kernel
theorem dX6_line_14 : decode cX6_line 14 = .ok (.invokestatic 58, 3) := by decide +kernel
theorem dX6_line_17 : decode cX6_line 17 = .ok (.ifCond .ne 7, 3) := by decide +kernel
theorem dX6_line_20 : decode cX6_line 20 = .ok (.iconst 1, 1) := by decide +kernel
theorem dX6_line_21 : decode cX6_line 21 = .ok (.goto 4, 3) := by decide +kernel
theorem dX6_line_24 : decode cX6_line 24 = .ok (.iconst 0, 1) := by decide +kernel
theorem dX6_line_25 : decode cX6_line 25 = .ok (.istore 5, 2) := by decide +kernel
theorem dX6_line_27 : decode cX6_line 27 = .ok (.aload_n 0, 1) := by decide +kernel
theorem dX6_line_28 : decode cX6_line 28 = .ok (.iload_n 1, 1) := by decide +kernel
theorem dX6_line_29 : decode cX6_line 29 = .ok (.iload_n 2, 1) := by decide +kernel
theorem dX6_line_30 : decode cX6_line 30 = .ok (.iload_n 3, 1) := by decide +kernel
theorem dX6_line_31 : decode cX6_line 31 = .ok (.invokestatic 74, 3) := by decide +kernel
theorem dX6_line_34 : decode cX6_line 34 = .ok (.ifCond .ne 7, 3) := by decide +kernel
theorem dX6_line_37 : decode cX6_line 37 = .ok (.iconst 1, 1) := by decide +kernel
theorem dX6_line_38 : decode cX6_line 38 = .ok (.goto 4, 3) := by decide +kernel
theorem dX6_line_41 : decode cX6_line 41 = .ok (.iconst 0, 1) := by decide +kernel
theorem dX6_line_42 : decode cX6_line 42 = .ok (.aload_n 0, 1) := by decide +kernel
theorem dX6_line_43 : decode cX6_line 43 = .ok (.getfield 78, 3) := by decide +kernel
theorem dX6_line_46 : decode cX6_line 46 = .ok (.bipush 16, 2) := by decide +kernel
theorem dX6_line_48 : decode cX6_line 48 = .ok (.if_icmp .ne 7, 3) := by decide +kernel
theorem dX6_line_51 : decode cX6_line 51 = .ok (.iconst 1, 1) := by decide +kernel
theorem dX6_line_52 : decode cX6_line 52 = .ok (.goto 4, 3) := by decide +kernel
theorem dX6_line_55 : decode cX6_line 55 = .ok (.iconst 0, 1) := by decide +kernel
theorem dX6_line_56 : decode cX6_line 56 = .ok (.iload 5, 2) := by decide +kernel
theorem dX6_line_58 : decode cX6_line 58 = .ok (.iconst 0, 1) := by decide +kernel
theorem dX6_line_59 : decode cX6_line 59 = .ok (.invokevirtual 81, 3) := by decide +kernel
theorem dX6_line_62 : decode cX6_line 62 = .ok (.ifCond .eq 5, 3) := by decide +kernel
theorem dX6_line_65 : decode cX6_line 65 = .ok (.iconst 0, 1) := by decide +kernel
theorem dX6_line_66 : decode cX6_line 66 = .ok (.ireturn, 1) := by decide +kernel
theorem dX6_line_67 : decode cX6_line 67 = .ok (.aload_n 0, 1) := by decide +kernel
theorem dX6_line_68 : decode cX6_line 68 = .ok (.getfield 19, 3) := by decide +kernel
theorem dX6_line_71 : decode cX6_line 71 = .ok (.iconst 3, 1) := by decide +kernel
theorem dX6_line_72 : decode cX6_line 72 = .ok (.aload_n 0, 1) := by decide +kernel
theorem dX6_line_73 : decode cX6_line 73 = .ok (.getfield 78, 3) := by decide +kernel
theorem dX6_line_76 : decode cX6_line 76 = .ok (.imul, 1) := by decide +kernel
theorem dX6_line_77 : decode cX6_line 77 = .ok (.iload_n 1, 1) := by decide +kernel
theorem dX6_line_78 : decode cX6_line 78 = .ok (.iastore, 1) := by decide +kernel
theorem dX6_line_79 : decode cX6_line 79 = .ok (.aload_n 0, 1) := by decide +kernel
theorem dX6_line_80 : decode cX6_line 80 = .ok (.getfield 19, 3) := by decide +kernel
theorem dX6_line_83 : decode cX6_line 83 = .ok (.iconst 3, 1) := by decide +kernel
theorem dX6_line_84 : decode cX6_line 84 = .ok (.aload_n 0, 1) := by decide +kernel
theorem dX6_line_85 : decode cX6_line 85 = .ok (.getfield 78, 3) := by decide +kernel
theorem dX6_line_88 : decode cX6_line 88 = .ok (.imul, 1) := by decide +kernel
theorem dX6_line_89 : decode cX6_line 89 = .ok (.iconst 1, 1) := by decide +kernel
theorem dX6_line_90 : decode cX6_line 90 = .ok (.iadd, 1) := by decide +kernel
theorem dX6_line_91 : decode cX6_line 91 = .ok (.iload_n 2, 1) := by decide +kernel
theorem dX6_line_92 : decode cX6_line 92 = .ok (.iastore, 1) := by decide +kernel
theorem dX6_line_93 : decode cX6_line 93 = .ok (.aload_n 0, 1) := by decide +kernel
theorem dX6_line_94 : decode cX6_line 94 = .ok (.getfield 19, 3) := by decide +kernel
theorem dX6_line_97 : decode cX6_line 97 = .ok (.iconst 3, 1) := by decide +kernel
theorem dX6_line_98 : decode cX6_line 98 = .ok (.aload_n 0, 1) := by decide +kernel
theorem dX6_line_99 : decode cX6_line 99 = .ok (.getfield 78, 3) := by decide +kernel
theorem dX6_line_102 : decode cX6_line 102 = .ok (.imul, 1) := by decide +kernel
theorem dX6_line_103 : decode cX6_line 103 = .ok (.iconst 2, 1) := by decide +kernel
theorem dX6_line_104 : decode cX6_line 104 = .ok (.iadd, 1) := by decide +kernel
theorem dX6_line_105 : decode cX6_line 105 = .ok (.iload_n 3, 1) := by decide +kernel
theorem dX6_line_106 : decode cX6_line 106 = .ok (.iastore, 1) := by decide +kernel
theorem dX6_line_107 : decode cX6_line 107 = .ok (.aload_n 0, 1) := by decide +kernel
theorem dX6_line_108 : decode cX6_line 108 = .ok (.getfield 22, 3) := by decide +kernel
theorem dX6_line_111 : decode cX6_line 111 = .ok (.aload_n 0, 1) := by decide +kernel
theorem dX6_line_112 : decode cX6_line 112 = .ok (.getfield 78, 3) := by decide +kernel
theorem dX6_line_115 : decode cX6_line 115 = .ok (.iload 4, 2) := by decide +kernel
theorem dX6_line_117 : decode cX6_line 117 = .ok (.iastore, 1) := by decide +kernel
theorem dX6_line_118 : decode cX6_line 118 = .ok (.aload_n 0, 1) := by decide +kernel
theorem dX6_line_119 : decode cX6_line 119 = .ok (.dup, 1) := by decide +kernel
theorem dX6_line_120 : decode cX6_line 120 = .ok (.getfield 78, 3) := by decide +kernel
theorem dX6_line_123 : decode cX6_line 123 = .ok (.iconst 1, 1) := by decide +kernel
theorem dX6_line_124 : decode cX6_line 124 = .ok (.iadd, 1) := by decide +kernel
theorem dX6_line_125 : decode cX6_line 125 = .ok (.putfield 78, 3) := by decide +kernel
theorem dX6_line_128 : decode cX6_line 128 = .ok (.aload_n 0, 1) := by decide +kernel
theorem dX6_line_129 : decode cX6_line 129 = .ok (.getfield 78, 3) := by decide +kernel
theorem dX6_line_132 : decode cX6_line 132 = .ok (.ireturn, 1) := by decide +kernel
theorem dX6_put_0 : decode cX6_put 0 = .ok (.aload_n 0, 1) := by decide +kernel
theorem dX6_put_1 : decode cX6_put 1 = .ok (.getfield 78, 3) := by decide +kernel
theorem dX6_put_4 : decode cX6_put 4 = .ok (.istore_n 1, 1) := by decide +kernel
theorem dX6_put_5 : decode cX6_put 5 = .ok (.aload_n 0, 1) := by decide +kernel
theorem dX6_put_6 : decode cX6_put 6 = .ok (.iconst 0, 1) := by decide +kernel
theorem dX6_put_7 : decode cX6_put 7 = .ok (.putfield 78, 3) := by decide +kernel
theorem dX6_put_10 : decode cX6_put 10 = .ok (.lconst 0, 1) := by decide +kernel
theorem dX6_put_11 : decode cX6_put 11 = .ok (.lstore_n 2, 1) := by decide +kernel
theorem dX6_put_12 : decode cX6_put 12 = .ok (.iconst 0, 1) := by decide +kernel
theorem dX6_put_13 : decode cX6_put 13 = .ok (.istore 4, 2) := by decide +kernel
theorem dX6_put_15 : decode cX6_put 15 = .ok (.iconst 0, 1) := by decide +kernel
theorem dX6_put_16 : decode cX6_put 16 = .ok (.istore 5, 2) := by decide +kernel
theorem dX6_put_18 : decode cX6_put 18 = .ok (.iload 5, 2) := by decide +kernel
theorem dX6_put_20 : decode cX6_put 20 = .ok (.iload_n 1, 1) := by decide +kernel
theorem dX6_put_21 : decode cX6_put 21 = .ok (.if_icmp .ge 50, 3) := by decide +kernel
theorem dX6_put_24 : decode cX6_put 24 = .ok (.lload_n 2, 1) := by decide +kernel
theorem dX6_put_25 : decode cX6_put 25 = .ok (.aload_n 0, 1) := by decide +kernel
theorem dX6_put_26 : decode cX6_put 26 = .ok (.getfield 22, 3) := by decide +kernel
theorem dX6_put_29 : decode cX6_put 29 = .ok (.iload 5, 2) := by decide +kernel
theorem dX6_put_31 : decode cX6_put 31 = .ok (.iaload, 1) := by decide +kernel
theorem dX6_put_32 : decode cX6_put 32 = .ok (.i2l, 1) := by decide +kernel
theorem dX6_put_33 : decode cX6_put 33 = .ok (.ladd, 1) := by decide +kernel
theorem dX6_put_34 : decode cX6_put 34 = .ok (.lstore_n 2, 1) := by decide +kernel
theorem dX6_put_35 : decode cX6_put 35 = .ok (.iload 4, 2) := by decide +kernel
theorem dX6_put_37 : decode cX6_put 37 = .ok (.ifCond .ne 21, 3) := by decide +kernel
theorem dX6_put_40 : decode cX6_put 40 = .ok (.aload_n 0, 1) := by decide +kernel
theorem dX6_put_41 : decode cX6_put 41 = .ok (.getfield 19, 3) := by decide +kernel
theorem dX6_put_44 : decode cX6_put 44 = .ok (.iconst 3, 1) := by decide +kernel
theorem dX6_put_45 : decode cX6_put 45 = .ok (.iload 5, 2) := by decide +kernel
theorem dX6_put_47 : decode cX6_put 47 = .ok (.imul, 1) := by decide +kernel
theorem dX6_put_48 : decode cX6_put 48 = .ok (.iconst 2, 1) := by decide +kernel
theorem dX6_put_49 : decode cX6_put 49 = .ok (.iadd, 1) := by decide +kernel
theorem dX6_put_50 : decode cX6_put 50 = .ok (.iaload, 1) := by decide +kernel
theorem dX6_put_51 : decode cX6_put 51 = .ok (.aload_n 0, 1) := by decide +kernel
theorem dX6_put_52 : decode cX6_put 52 = .ok (.getfield 85, 3) := by decide +kernel
theorem dX6_put_55 : decode cX6_put 55 = .ok (.if_icmp .ge 7, 3) := by decide +kernel
theorem dX6_put_58 : decode cX6_put 58 = .ok (.iconst 1, 1) := by decide +kernel
theorem dX6_put_59 : decode cX6_put 59 = .ok (.goto 4, 3) := by decide +kernel
theorem dX6_put_62 : decode cX6_put 62 = .ok (.iconst 0, 1) := by decide +kernel
theorem dX6_put_63 : decode cX6_put 63 = .ok (.istore 4, 2) := by decide +kernel
theorem dX6_put_65 : decode cX6_put 65 = .ok (.iinc 5 1, 3) := by decide +kernel
theorem dX6_put_68 : decode cX6_put 68 = .ok (.goto (-50), 3) := by decide +kernel
theorem dX6_put_71 : decode cX6_put 71 = .ok (.aload_n 0, 1) := by decide +kernel
theorem dX6_put_72 : decode cX6_put 72 = .ok (.iload 4, 2) := by decide +kernel
theorem dX6_put_74 : decode cX6_put 74 = .ok (.iload_n 1, 1) := by decide +kernel
theorem dX6_put_75 : decode cX6_put 75 = .ok (.ifCond .eq 21, 3) := by decide +kernel
theorem dX6_put_78 : decode cX6_put 78 = .ok (.lload_n 2, 1) := by decide +kernel
theorem dX6_put_79 : decode cX6_put 79 = .ok (.lconst 0, 1) := by decide +kernel
theorem dX6_put_80 : decode cX6_put 80 = .ok (.lcmp, 1) := by decide +kernel
theorem dX6_put_81 : decode cX6_put 81 = .ok (.ifCond .ne 15, 3) := by decide +kernel
theorem dX6_put_84 : decode cX6_put 84 = .ok (.aload_n 0, 1) := by decide +kernel
theorem dX6_put_85 : decode cX6_put 85 = .ok (.getfield 64, 3) := by decide +kernel
theorem dX6_put_88 : decode cX6_put 88 = .ok (.iload_n 1, 1) := by decide +kernel
theorem dX6_put_89 : decode cX6_put 89 = .ok (.iadd, 1) := by decide +kernel
theorem dX6_put_90 : decode cX6_put 90 = .ok (.sipush 200, 3) := by decide +kernel
theorem dX6_put_93 : decode cX6_put 93 = .ok (.if_icmp .le 7, 3) := by decide +kernel
theorem dX6_put_96 : decode cX6_put 96 = .ok (.iconst 1, 1) := by decide +kernel
theorem dX6_put_97 : decode cX6_put 97 = .ok (.goto 4, 3) := by decide +kernel
theorem dX6_put_100 : decode cX6_put 100 = .ok (.iconst 0, 1) := by decide +kernel
theorem dX6_put_101 : decode cX6_put 101 = .ok (.iconst 0, 1) := by decide +kernel
theorem dX6_put_102 : decode cX6_put 102 = .ok (.iconst 0, 1) := by decide +kernel
theorem dX6_put_103 : decode cX6_put 103 = .ok (.invokevirtual 81, 3) := by decide +kernel
theorem dX6_put_106 : decode cX6_put 106 = .ok (.ifCond .eq 5, 3) := by decide +kernel
theorem dX6_put_109 : decode cX6_put 109 = .ok (.iconst 0, 1) := by decide +kernel
theorem dX6_put_110 : decode cX6_put 110 = .ok (.ireturn, 1) := by decide +kernel
theorem dX6_put_111 : decode cX6_put 111 = .ok (.iconst 0, 1) := by decide +kernel
theorem dX6_put_112 : decode cX6_put 112 = .ok (.istore 5, 2) := by decide +kernel
theorem dX6_put_114 : decode cX6_put 114 = .ok (.iload 5, 2) := by decide +kernel
theorem dX6_put_116 : decode cX6_put 116 = .ok (.iload_n 1, 1) := by decide +kernel
theorem dX6_put_117 : decode cX6_put 117 = .ok (.if_icmp .ge 51, 3) := by decide +kernel
theorem dX6_put_120 : decode cX6_put 120 = .ok (.aload_n 0, 1) := by decide +kernel
theorem dX6_put_121 : decode cX6_put 121 = .ok (.aload_n 0, 1) := by decide +kernel
theorem dX6_put_122 : decode cX6_put 122 = .ok (.getfield 19, 3) := by decide +kernel
theorem dX6_put_125 : decode cX6_put 125 = .ok (.iconst 3, 1) := by decide +kernel
theorem dX6_put_126 : decode cX6_put 126 = .ok (.iload 5, 2) := by decide +kernel
theorem dX6_put_128 : decode cX6_put 128 = .ok (.imul, 1) := by decide +kernel
theorem dX6_put_129 : decode cX6_put 129 = .ok (.iaload, 1) := by decide +kernel
theorem dX6_put_130 : decode cX6_put 130 = .ok (.aload_n 0, 1) := by decide +kernel
theorem dX6_put_131 : decode cX6_put 131 = .ok (.getfield 19, 3) := by decide +kernel
theorem dX6_put_134 : decode cX6_put 134 = .ok (.iconst 3, 1) := by decide +kernel
theorem dX6_put_135 : decode cX6_put 135 = .ok (.iload 5, 2) := by decide +kernel
theorem dX6_put_137 : decode cX6_put 137 = .ok (.imul, 1) := by decide +kernel
theorem dX6_put_138 : decode cX6_put 138 = .ok (.iconst 1, 1) := by decide +kernel
theorem dX6_put_139 : decode cX6_put 139 = .ok (.iadd, 1) := by decide +kernel
theorem dX6_put_140 : decode cX6_put 140 = .ok (.iaload, 1) := by decide +kernel
theorem dX6_put_141 : decode cX6_put 141 = .ok (.aload_n 0, 1) := by decide +kernel
theorem dX6_put_142 : decode cX6_put 142 = .ok (.getfield 19, 3) := by decide +kernel
theorem dX6_put_145 : decode cX6_put 145 = .ok (.iconst 3, 1) := by decide +kernel
theorem dX6_put_146 : decode cX6_put 146 = .ok (.iload 5, 2) := by decide +kernel
theorem dX6_put_148 : decode cX6_put 148 = .ok (.imul, 1) := by decide +kernel
theorem dX6_put_149 : decode cX6_put 149 = .ok (.iconst 2, 1) := by decide +kernel
theorem dX6_put_150 : decode cX6_put 150 = .ok (.iadd, 1) := by decide +kernel
theorem dX6_put_151 : decode cX6_put 151 = .ok (.iaload, 1) := by decide +kernel
theorem dX6_put_152 : decode cX6_put 152 = .ok (.aload_n 0, 1) := by decide +kernel
theorem dX6_put_153 : decode cX6_put 153 = .ok (.getfield 22, 3) := by decide +kernel
theorem dX6_put_156 : decode cX6_put 156 = .ok (.iload 5, 2) := by decide +kernel
theorem dX6_put_158 : decode cX6_put 158 = .ok (.iaload, 1) := by decide +kernel
theorem dX6_put_159 : decode cX6_put 159 = .ok (.invokevirtual 88, 3) := by decide +kernel
theorem dX6_put_162 : decode cX6_put 162 = .ok (.iinc 5 1, 3) := by decide +kernel
theorem dX6_put_165 : decode cX6_put 165 = .ok (.goto (-51), 3) := by decide +kernel
theorem dX6_put_168 : decode cX6_put 168 = .ok (.aload_n 0, 1) := by decide +kernel
theorem dX6_put_169 : decode cX6_put 169 = .ok (.iconst 0, 1) := by decide +kernel
theorem dX6_put_170 : decode cX6_put 170 = .ok (.invokevirtual 92, 3) := by decide +kernel
theorem dX6_put_173 : decode cX6_put 173 = .ok (.ireturn, 1) := by decide +kernel
theorem dX6_drop_0 : decode cX6_drop 0 = .ok (.aload_n 0, 1) := by decide +kernel
theorem dX6_drop_1 : decode cX6_drop 1 = .ok (.iconst 0, 1) := by decide +kernel
theorem dX6_drop_2 : decode cX6_drop 2 = .ok (.putfield 52, 3) := by decide +kernel
theorem dX6_drop_5 : decode cX6_drop 5 = .ok (.aload_n 0, 1) := by decide +kernel
theorem dX6_drop_6 : decode cX6_drop 6 = .ok (.iconst 0, 1) := by decide +kernel
theorem dX6_drop_7 : decode cX6_drop 7 = .ok (.putfield 78, 3) := by decide +kernel
theorem dX6_drop_10 : decode cX6_drop 10 = .ok (.return_, 1) := by decide +kernel
theorem dX6_correct_0 : decode cX6_correct 0 = .ok (.iload_n 1, 1) := by decide +kernel
theorem dX6_correct_1 : decode cX6_correct 1 = .ok (.iload_n 3, 1) := by decide +kernel
theorem dX6_correct_2 : decode cX6_correct 2 = .ok (.iload 4, 2) := by decide +kernel
theorem dX6_correct_4 : decode cX6_correct 4 = .ok (.invokestatic 74, 3) := by decide +kernel
theorem dX6_correct_7 : decode cX6_correct 7 = .ok (.ifCond .eq 20, 3) := by decide +kernel
theorem dX6_correct_10 : decode cX6_correct 10 = .ok (.iload_n 2, 1) := by decide +kernel
theorem dX6_correct_11 : decode cX6_correct 11 = .ok (.i2l, 1) := by decide +kernel
theorem dX6_correct_12 : decode cX6_correct 12 = .ok (.lconst 0, 1) := by decide +kernel
theorem dX6_correct_13 : decode cX6_correct 13 = .ok (.ldc2_w 56, 3) := by decide +kernel
theorem dX6_correct_16 : decode cX6_correct 16 = .ok (.invokestatic 58, 3) := by decide +kernel
theorem dX6_correct_19 : decode cX6_correct 19 = .ok (.ifCond .eq 8, 3) := by decide +kernel
theorem dX6_correct_22 : decode cX6_correct 22 = .ok (.iload_n 1, 1) := by decide +kernel
theorem dX6_correct_23 : decode cX6_correct 23 = .ok (.iload_n 2, 1) := by decide +kernel
theorem dX6_correct_24 : decode cX6_correct 24 = .ok (.if_icmp .ne 7, 3) := by decide +kernel
theorem dX6_correct_27 : decode cX6_correct 27 = .ok (.iconst 1, 1) := by decide +kernel
theorem dX6_correct_28 : decode cX6_correct 28 = .ok (.goto 4, 3) := by decide +kernel
theorem dX6_correct_31 : decode cX6_correct 31 = .ok (.iconst 0, 1) := by decide +kernel
theorem dX6_correct_32 : decode cX6_correct 32 = .ok (.istore 6, 2) := by decide +kernel
theorem dX6_correct_34 : decode cX6_correct 34 = .ok (.aload_n 0, 1) := by decide +kernel
theorem dX6_correct_35 : decode cX6_correct 35 = .ok (.iload 6, 2) := by decide +kernel
theorem dX6_correct_37 : decode cX6_correct 37 = .ok (.iload 4, 2) := by decide +kernel
theorem dX6_correct_39 : decode cX6_correct 39 = .ok (.aload_n 0, 1) := by decide +kernel
theorem dX6_correct_40 : decode cX6_correct 40 = .ok (.getfield 85, 3) := by decide +kernel
theorem dX6_correct_43 : decode cX6_correct 43 = .ok (.iconst 1, 1) := by decide +kernel
theorem dX6_correct_44 : decode cX6_correct 44 = .ok (.isub, 1) := by decide +kernel
theorem dX6_correct_45 : decode cX6_correct 45 = .ok (.if_icmp .ge 7, 3) := by decide +kernel
theorem dX6_correct_48 : decode cX6_correct 48 = .ok (.iconst 1, 1) := by decide +kernel
theorem dX6_correct_49 : decode cX6_correct 49 = .ok (.goto 4, 3) := by decide +kernel
theorem dX6_correct_52 : decode cX6_correct 52 = .ok (.iconst 0, 1) := by decide +kernel
theorem dX6_correct_53 : decode cX6_correct 53 = .ok (.iload 5, 2) := by decide +kernel
theorem dX6_correct_55 : decode cX6_correct 55 = .ok (.i2l, 1) := by decide +kernel
theorem dX6_correct_56 : decode cX6_correct 56 = .ok (.lconst 1, 1) := by decide +kernel
theorem dX6_correct_57 : decode cX6_correct 57 = .ok (.ldc2_w 72, 3) := by decide +kernel
theorem dX6_correct_60 : decode cX6_correct 60 = .ok (.invokestatic 58, 3) := by decide +kernel
theorem dX6_correct_63 : decode cX6_correct 63 = .ok (.ifCond .ne 7, 3) := by decide +kernel
theorem dX6_correct_66 : decode cX6_correct 66 = .ok (.iconst 1, 1) := by decide +kernel
theorem dX6_correct_67 : decode cX6_correct 67 = .ok (.goto 4, 3) := by decide +kernel
theorem dX6_correct_70 : decode cX6_correct 70 = .ok (.iconst 0, 1) := by decide +kernel
theorem dX6_correct_71 : decode cX6_correct 71 = .ok (.aload_n 0, 1) := by decide +kernel
theorem dX6_correct_72 : decode cX6_correct 72 = .ok (.getfield 64, 3) := by decide +kernel
theorem dX6_correct_75 : decode cX6_correct 75 = .ok (.iconst 2, 1) := by decide +kernel
theorem dX6_correct_76 : decode cX6_correct 76 = .ok (.iadd, 1) := by decide +kernel
theorem dX6_correct_77 : decode cX6_correct 77 = .ok (.sipush 200, 3) := by decide +kernel
theorem dX6_correct_80 : decode cX6_correct 80 = .ok (.if_icmp .le 7, 3) := by decide +kernel
theorem dX6_correct_83 : decode cX6_correct 83 = .ok (.iconst 1, 1) := by decide +kernel
theorem dX6_correct_84 : decode cX6_correct 84 = .ok (.goto 4, 3) := by decide +kernel
theorem dX6_correct_87 : decode cX6_correct 87 = .ok (.iconst 0, 1) := by decide +kernel
theorem dX6_correct_88 : decode cX6_correct 88 = .ok (.invokevirtual 81, 3) := by decide +kernel
theorem dX6_correct_91 : decode cX6_correct 91 = .ok (.ifCond .eq 5, 3) := by decide +kernel
theorem dX6_correct_94 : decode cX6_correct 94 = .ok (.iconst 0, 1) := by decide +kernel
theorem dX6_correct_95 : decode cX6_correct 95 = .ok (.ireturn, 1) := by decide +kernel
theorem dX6_correct_96 : decode cX6_correct 96 = .ok (.aload_n 0, 1) := by decide +kernel
theorem dX6_correct_97 : decode cX6_correct 97 = .ok (.iload_n 1, 1) := by decide +kernel
theorem dX6_correct_98 : decode cX6_correct 98 = .ok (.iload_n 3, 1) := by decide +kernel
theorem dX6_correct_99 : decode cX6_correct 99 = .ok (.iload 4, 2) := by decide +kernel
theorem dX6_correct_101 : decode cX6_correct 101 = .ok (.iload 5, 2) := by decide +kernel
theorem dX6_correct_103 : decode cX6_correct 103 = .ok (.ineg, 1) := by decide +kernel
theorem dX6_correct_104 : decode cX6_correct 104 = .ok (.invokevirtual 88, 3) := by decide +kernel
theorem dX6_correct_107 : decode cX6_correct 107 = .ok (.aload_n 0, 1) := by decide +kernel
theorem dX6_correct_108 : decode cX6_correct 108 = .ok (.iload_n 2, 1) := by decide +kernel
theorem dX6_correct_109 : decode cX6_correct 109 = .ok (.iload_n 3, 1) := by decide +kernel
theorem dX6_correct_110 : decode cX6_correct 110 = .ok (.iload 4, 2) := by decide +kernel
theorem dX6_correct_112 : decode cX6_correct 112 = .ok (.iload 5, 2) := by decide +kernel
theorem dX6_correct_114 : decode cX6_correct 114 = .ok (.invokevirtual 88, 3) := by decide +kernel
theorem dX6_correct_117 : decode cX6_correct 117 = .ok (.aload_n 0, 1) := by decide +kernel
theorem dX6_correct_118 : decode cX6_correct 118 = .ok (.iconst 0, 1) := by decide +kernel
theorem dX6_correct_119 : decode cX6_correct 119 = .ok (.invokevirtual 92, 3) := by decide +kernel
theorem dX6_correct_122 : decode cX6_correct 122 = .ok (.ireturn, 1) := by decide +kernel
theorem dX6_reverse_0 : decode cX6_reverse 0 = .ok (.iload_n 1, 1) := by decide +kernel
theorem dX6_reverse_1 : decode cX6_reverse 1 = .ok (.i2l, 1) := by decide +kernel
theorem dX6_reverse_2 : decode cX6_reverse 2 = .ok (.lconst 0, 1) := by decide +kernel
theorem dX6_reverse_3 : decode cX6_reverse 3 = .ok (.aload_n 0, 1) := by decide +kernel
theorem dX6_reverse_4 : decode cX6_reverse 4 = .ok (.getfield 67, 3) := by decide +kernel
theorem dX6_reverse_7 : decode cX6_reverse 7 = .ok (.iconst 1, 1) := by decide +kernel
theorem dX6_reverse_8 : decode cX6_reverse 8 = .ok (.isub, 1) := by decide +kernel
theorem dX6_reverse_9 : decode cX6_reverse 9 = .ok (.i2l, 1) := by decide +kernel
theorem dX6_reverse_10 : decode cX6_reverse 10 = .ok (.invokestatic 58, 3) := by decide +kernel
theorem dX6_reverse_13 : decode cX6_reverse 13 = .ok (.ifCond .eq 15, 3) := by decide +kernel
theorem dX6_reverse_16 : decode cX6_reverse 16 = .ok (.iload_n 2, 1) := by decide +kernel
theorem dX6_reverse_17 : decode cX6_reverse 17 = .ok (.i2l, 1) := by decide +kernel
theorem dX6_reverse_18 : decode cX6_reverse 18 = .ok (.lconst 0, 1) := by decide +kernel
theorem dX6_reverse_19 : decode cX6_reverse 19 = .ok (.ldc2_w 62, 3) := by decide +kernel
theorem dX6_reverse_22 : decode cX6_reverse 22 = .ok (.invokestatic 58, 3) := by decide +kernel
theorem dX6_reverse_25 : decode cX6_reverse 25 = .ok (.ifCond .ne 7, 3) := by decide +kernel
theorem dX6_reverse_28 : decode cX6_reverse 28 = .ok (.iconst 1, 1) := by decide +kernel
theorem dX6_reverse_29 : decode cX6_reverse 29 = .ok (.goto 4, 3) := by decide +kernel
theorem dX6_reverse_32 : decode cX6_reverse 32 = .ok (.iconst 0, 1) := by decide +kernel
theorem dX6_reverse_33 : decode cX6_reverse 33 = .ok (.istore_n 3, 1) := by decide +kernel
theorem dX6_reverse_34 : decode cX6_reverse 34 = .ok (.iconst 0, 1) := by decide +kernel
theorem dX6_reverse_35 : decode cX6_reverse 35 = .ok (.istore 4, 2) := by decide +kernel
theorem dX6_reverse_37 : decode cX6_reverse 37 = .ok (.iconst 0, 1) := by decide +kernel
theorem dX6_reverse_38 : decode cX6_reverse 38 = .ok (.istore 5, 2) := by decide +kernel
theorem dX6_reverse_40 : decode cX6_reverse 40 = .ok (.iload 5, 2) := by decide +kernel
theorem dX6_reverse_42 : decode cX6_reverse 42 = .ok (.aload_n 0, 1) := by decide +kernel
theorem dX6_reverse_43 : decode cX6_reverse 43 = .ok (.getfield 64, 3) := by decide +kernel
theorem dX6_reverse_46 : decode cX6_reverse 46 = .ok (.if_icmp .ge 34, 3) := by decide +kernel
theorem dX6_reverse_49 : decode cX6_reverse 49 = .ok (.iload 4, 2) := by decide +kernel
theorem dX6_reverse_51 : decode cX6_reverse 51 = .ok (.aload_n 0, 1) := by decide +kernel
theorem dX6_reverse_52 : decode cX6_reverse 52 = .ok (.getfield 7, 3) := by decide +kernel
theorem dX6_reverse_55 : decode cX6_reverse 55 = .ok (.iconst 4, 1) := by decide +kernel
theorem dX6_reverse_56 : decode cX6_reverse 56 = .ok (.iload 5, 2) := by decide +kernel
theorem dX6_reverse_58 : decode cX6_reverse 58 = .ok (.imul, 1) := by decide +kernel
theorem dX6_reverse_59 : decode cX6_reverse 59 = .ok (.iconst 3, 1) := by decide +kernel
theorem dX6_reverse_60 : decode cX6_reverse 60 = .ok (.iadd, 1) := by decide +kernel
theorem dX6_reverse_61 : decode cX6_reverse 61 = .ok (.iaload, 1) := by decide +kernel
theorem dX6_reverse_62 : decode cX6_reverse 62 = .ok (.iload_n 1, 1) := by decide +kernel
theorem dX6_reverse_63 : decode cX6_reverse 63 = .ok (.if_icmp .ne 7, 3) := by decide +kernel
theorem dX6_reverse_66 : decode cX6_reverse 66 = .ok (.iconst 1, 1) := by decide +kernel
theorem dX6_reverse_67 : decode cX6_reverse 67 = .ok (.goto 4, 3) := by decide +kernel
theorem dX6_reverse_70 : decode cX6_reverse 70 = .ok (.iconst 0, 1) := by decide +kernel
theorem dX6_reverse_71 : decode cX6_reverse 71 = .ok (.iadd, 1) := by decide +kernel
theorem dX6_reverse_72 : decode cX6_reverse 72 = .ok (.istore 4, 2) := by decide +kernel
theorem dX6_reverse_74 : decode cX6_reverse 74 = .ok (.iinc 5 1, 3) := by decide +kernel
theorem dX6_reverse_77 : decode cX6_reverse 77 = .ok (.goto (-37), 3) := by decide +kernel
theorem dX6_reverse_80 : decode cX6_reverse 80 = .ok (.iload_n 3, 1) := by decide +kernel
theorem dX6_reverse_81 : decode cX6_reverse 81 = .ok (.ifCond .ne 20, 3) := by decide +kernel
theorem dX6_reverse_84 : decode cX6_reverse 84 = .ok (.aload_n 0, 1) := by decide +kernel
theorem dX6_reverse_85 : decode cX6_reverse 85 = .ok (.getfield 16, 3) := by decide +kernel
theorem dX6_reverse_88 : decode cX6_reverse 88 = .ok (.iload_n 3, 1) := by decide +kernel
theorem dX6_reverse_89 : decode cX6_reverse 89 = .ok (.ifCond .eq 7, 3) := by decide +kernel
theorem dX6_reverse_92 : decode cX6_reverse 92 = .ok (.iconst 0, 1) := by decide +kernel
theorem dX6_reverse_93 : decode cX6_reverse 93 = .ok (.goto 4, 3) := by decide +kernel
theorem dX6_reverse_96 : decode cX6_reverse 96 = .ok (.iload_n 1, 1) := by decide +kernel
theorem dX6_reverse_97 : decode cX6_reverse 97 = .ok (.iaload, 1) := by decide +kernel
theorem dX6_reverse_98 : decode cX6_reverse 98 = .ok (.ifCond .gt 16, 3) := by decide +kernel
theorem dX6_reverse_101 : decode cX6_reverse 101 = .ok (.aload_n 0, 1) := by decide +kernel
theorem dX6_reverse_102 : decode cX6_reverse 102 = .ok (.getfield 64, 3) := by decide +kernel
theorem dX6_reverse_105 : decode cX6_reverse 105 = .ok (.iload 4, 2) := by decide +kernel
theorem dX6_reverse_107 : decode cX6_reverse 107 = .ok (.iadd, 1) := by decide +kernel
theorem dX6_reverse_108 : decode cX6_reverse 108 = .ok (.sipush 200, 3) := by decide +kernel
theorem dX6_reverse_111 : decode cX6_reverse 111 = .ok (.if_icmp .le 7, 3) := by decide +kernel
theorem dX6_reverse_114 : decode cX6_reverse 114 = .ok (.iconst 1, 1) := by decide +kernel
theorem dX6_reverse_115 : decode cX6_reverse 115 = .ok (.goto 4, 3) := by decide +kernel
theorem dX6_reverse_118 : decode cX6_reverse 118 = .ok (.iconst 0, 1) := by decide +kernel
theorem dX6_reverse_119 : decode cX6_reverse 119 = .ok (.istore 5, 2) := by decide +kernel
theorem dX6_reverse_121 : decode cX6_reverse 121 = .ok (.aload_n 0, 1) := by decide +kernel
theorem dX6_reverse_122 : decode cX6_reverse 122 = .ok (.iload_n 3, 1) := by decide +kernel
theorem dX6_reverse_123 : decode cX6_reverse 123 = .ok (.iload_n 2, 1) := by decide +kernel
theorem dX6_reverse_124 : decode cX6_reverse 124 = .ok (.aload_n 0, 1) := by decide +kernel
theorem dX6_reverse_125 : decode cX6_reverse 125 = .ok (.getfield 85, 3) := by decide +kernel
theorem dX6_reverse_128 : decode cX6_reverse 128 = .ok (.if_icmp .ge 7, 3) := by decide +kernel
theorem dX6_reverse_131 : decode cX6_reverse 131 = .ok (.iconst 1, 1) := by decide +kernel
theorem dX6_reverse_132 : decode cX6_reverse 132 = .ok (.goto 4, 3) := by decide +kernel
theorem dX6_reverse_135 : decode cX6_reverse 135 = .ok (.iconst 0, 1) := by decide +kernel
theorem dX6_reverse_136 : decode cX6_reverse 136 = .ok (.iload 5, 2) := by decide +kernel
theorem dX6_reverse_138 : decode cX6_reverse 138 = .ok (.iconst 0, 1) := by decide +kernel
theorem dX6_reverse_139 : decode cX6_reverse 139 = .ok (.invokevirtual 81, 3) := by decide +kernel
theorem dX6_reverse_142 : decode cX6_reverse 142 = .ok (.ifCond .eq 5, 3) := by decide +kernel
theorem dX6_reverse_145 : decode cX6_reverse 145 = .ok (.iconst 0, 1) := by decide +kernel
theorem dX6_reverse_146 : decode cX6_reverse 146 = .ok (.ireturn, 1) := by decide +kernel
theorem dX6_reverse_147 : decode cX6_reverse 147 = .ok (.aload_n 0, 1) := by decide +kernel
theorem dX6_reverse_148 : decode cX6_reverse 148 = .ok (.getfield 16, 3) := by decide +kernel
theorem dX6_reverse_151 : decode cX6_reverse 151 = .ok (.iload_n 1, 1) := by decide +kernel
theorem dX6_reverse_152 : decode cX6_reverse 152 = .ok (.iconst 1, 1) := by decide +kernel
theorem dX6_reverse_153 : decode cX6_reverse 153 = .ok (.iastore, 1) := by decide +kernel
theorem dX6_reverse_154 : decode cX6_reverse 154 = .ok (.aload_n 0, 1) := by decide +kernel
theorem dX6_reverse_155 : decode cX6_reverse 155 = .ok (.getfield 64, 3) := by decide +kernel
theorem dX6_reverse_158 : decode cX6_reverse 158 = .ok (.istore 6, 2) := by decide +kernel
theorem dX6_reverse_160 : decode cX6_reverse 160 = .ok (.iconst 0, 1) := by decide +kernel
theorem dX6_reverse_161 : decode cX6_reverse 161 = .ok (.istore 7, 2) := by decide +kernel
theorem dX6_reverse_163 : decode cX6_reverse 163 = .ok (.iload 7, 2) := by decide +kernel
theorem dX6_reverse_165 : decode cX6_reverse 165 = .ok (.iload 6, 2) := by decide +kernel
theorem dX6_reverse_167 : decode cX6_reverse 167 = .ok (.if_icmp .ge 57, 3) := by decide +kernel
theorem dX6_reverse_170 : decode cX6_reverse 170 = .ok (.aload_n 0, 1) := by decide +kernel
theorem dX6_reverse_171 : decode cX6_reverse 171 = .ok (.getfield 7, 3) := by decide +kernel
theorem dX6_reverse_174 : decode cX6_reverse 174 = .ok (.iconst 4, 1) := by decide +kernel
theorem dX6_reverse_175 : decode cX6_reverse 175 = .ok (.iload 7, 2) := by decide +kernel
theorem dX6_reverse_177 : decode cX6_reverse 177 = .ok (.imul, 1) := by decide +kernel
theorem dX6_reverse_178 : decode cX6_reverse 178 = .ok (.iconst 3, 1) := by decide +kernel
theorem dX6_reverse_179 : decode cX6_reverse 179 = .ok (.iadd, 1) := by decide +kernel
theorem dX6_reverse_180 : decode cX6_reverse 180 = .ok (.iaload, 1) := by decide +kernel
theorem dX6_reverse_181 : decode cX6_reverse 181 = .ok (.iload_n 1, 1) := by decide +kernel
theorem dX6_reverse_182 : decode cX6_reverse 182 = .ok (.if_icmp .ne 36, 3) := by decide +kernel
theorem dX6_reverse_185 : decode cX6_reverse 185 = .ok (.aload_n 0, 1) := by decide +kernel
theorem dX6_reverse_186 : decode cX6_reverse 186 = .ok (.aload_n 0, 1) := by decide +kernel
theorem dX6_reverse_187 : decode cX6_reverse 187 = .ok (.getfield 7, 3) := by decide +kernel
theorem dX6_reverse_190 : decode cX6_reverse 190 = .ok (.iconst 4, 1) := by decide +kernel
theorem dX6_reverse_191 : decode cX6_reverse 191 = .ok (.iload 7, 2) := by decide +kernel
theorem dX6_reverse_193 : decode cX6_reverse 193 = .ok (.imul, 1) := by decide +kernel
theorem dX6_reverse_194 : decode cX6_reverse 194 = .ok (.iaload, 1) := by decide +kernel
theorem dX6_reverse_195 : decode cX6_reverse 195 = .ok (.aload_n 0, 1) := by decide +kernel
theorem dX6_reverse_196 : decode cX6_reverse 196 = .ok (.getfield 7, 3) := by decide +kernel
theorem dX6_reverse_199 : decode cX6_reverse 199 = .ok (.iconst 4, 1) := by decide +kernel
theorem dX6_reverse_200 : decode cX6_reverse 200 = .ok (.iload 7, 2) := by decide +kernel
theorem dX6_reverse_202 : decode cX6_reverse 202 = .ok (.imul, 1) := by decide +kernel
theorem dX6_reverse_203 : decode cX6_reverse 203 = .ok (.iconst 1, 1) := by decide +kernel
theorem dX6_reverse_204 : decode cX6_reverse 204 = .ok (.iadd, 1) := by decide +kernel
theorem dX6_reverse_205 : decode cX6_reverse 205 = .ok (.iaload, 1) := by decide +kernel
theorem dX6_reverse_206 : decode cX6_reverse 206 = .ok (.iload_n 2, 1) := by decide +kernel
theorem dX6_reverse_207 : decode cX6_reverse 207 = .ok (.aload_n 0, 1) := by decide +kernel
theorem dX6_reverse_208 : decode cX6_reverse 208 = .ok (.getfield 13, 3) := by decide +kernel
theorem dX6_reverse_211 : decode cX6_reverse 211 = .ok (.iload 7, 2) := by decide +kernel
theorem dX6_reverse_213 : decode cX6_reverse 213 = .ok (.iaload, 1) := by decide +kernel
theorem dX6_reverse_214 : decode cX6_reverse 214 = .ok (.ineg, 1) := by decide +kernel
theorem dX6_reverse_215 : decode cX6_reverse 215 = .ok (.invokevirtual 88, 3) := by decide +kernel
theorem dX6_reverse_218 : decode cX6_reverse 218 = .ok (.iinc 7 1, 3) := by decide +kernel
theorem dX6_reverse_221 : decode cX6_reverse 221 = .ok (.goto (-58), 3) := by decide +kernel
theorem dX6_reverse_224 : decode cX6_reverse 224 = .ok (.aload_n 0, 1) := by decide +kernel
theorem dX6_reverse_225 : decode cX6_reverse 225 = .ok (.iconst 2, 1) := by decide +kernel
theorem dX6_reverse_226 : decode cX6_reverse 226 = .ok (.invokevirtual 92, 3) := by decide +kernel
theorem dX6_reverse_229 : decode cX6_reverse 229 = .ok (.ireturn, 1) := by decide +kernel
theorem dX6_close_0 : decode cX6_close 0 = .ok (.aload_n 0, 1) := by decide +kernel
theorem dX6_close_1 : decode cX6_close 1 = .ok (.aload_n 0, 1) := by decide +kernel
theorem dX6_close_2 : decode cX6_close 2 = .ok (.getfield 85, 3) := by decide +kernel
theorem dX6_close_5 : decode cX6_close 5 = .ok (.bipush 12, 2) := by decide +kernel
theorem dX6_close_7 : decode cX6_close 7 = .ok (.if_icmp .ne 7, 3) := by decide +kernel
theorem dX6_close_10 : decode cX6_close 10 = .ok (.iconst 1, 1) := by decide +kernel
theorem dX6_close_11 : decode cX6_close 11 = .ok (.goto 4, 3) := by decide +kernel
theorem dX6_close_14 : decode cX6_close 14 = .ok (.iconst 0, 1) := by decide +kernel
theorem dX6_close_15 : decode cX6_close 15 = .ok (.iconst 0, 1) := by decide +kernel
theorem dX6_close_16 : decode cX6_close 16 = .ok (.iconst 0, 1) := by decide +kernel
theorem dX6_close_17 : decode cX6_close 17 = .ok (.iconst 0, 1) := by decide +kernel
theorem dX6_close_18 : decode cX6_close 18 = .ok (.invokevirtual 81, 3) := by decide +kernel
theorem dX6_close_21 : decode cX6_close 21 = .ok (.ifCond .eq 5, 3) := by decide +kernel
theorem dX6_close_24 : decode cX6_close 24 = .ok (.iconst 0, 1) := by decide +kernel
theorem dX6_close_25 : decode cX6_close 25 = .ok (.ireturn, 1) := by decide +kernel
theorem dX6_close_26 : decode cX6_close 26 = .ok (.aload_n 0, 1) := by decide +kernel
theorem dX6_close_27 : decode cX6_close 27 = .ok (.dup, 1) := by decide +kernel
theorem dX6_close_28 : decode cX6_close 28 = .ok (.getfield 85, 3) := by decide +kernel
theorem dX6_close_31 : decode cX6_close 31 = .ok (.iconst 1, 1) := by decide +kernel
theorem dX6_close_32 : decode cX6_close 32 = .ok (.iadd, 1) := by decide +kernel
theorem dX6_close_33 : decode cX6_close 33 = .ok (.putfield 85, 3) := by decide +kernel
theorem dX6_close_36 : decode cX6_close 36 = .ok (.aload_n 0, 1) := by decide +kernel
theorem dX6_close_37 : decode cX6_close 37 = .ok (.getfield 85, 3) := by decide +kernel
theorem dX6_close_40 : decode cX6_close 40 = .ok (.iconst 1, 1) := by decide +kernel
theorem dX6_close_41 : decode cX6_close 41 = .ok (.isub, 1) := by decide +kernel
theorem dX6_close_42 : decode cX6_close 42 = .ok (.ireturn, 1) := by decide +kernel
theorem dX6_balance_0 : decode cX6_balance 0 = .ok (.lconst 0, 1) := by decide +kernel
theorem dX6_balance_1 : decode cX6_balance 1 = .ok (.lstore_n 3, 1) := by decide +kernel
theorem dX6_balance_2 : decode cX6_balance 2 = .ok (.iconst 0, 1) := by decide +kernel
theorem dX6_balance_3 : decode cX6_balance 3 = .ok (.istore 5, 2) := by decide +kernel
theorem dX6_balance_5 : decode cX6_balance 5 = .ok (.iload 5, 2) := by decide +kernel
theorem dX6_balance_7 : decode cX6_balance 7 = .ok (.aload_n 0, 1) := by decide +kernel
theorem dX6_balance_8 : decode cX6_balance 8 = .ok (.getfield 64, 3) := by decide +kernel
theorem dX6_balance_11 : decode cX6_balance 11 = .ok (.if_icmp .ge 39, 3) := by decide +kernel
theorem dX6_balance_14 : decode cX6_balance 14 = .ok (.lload_n 3, 1) := by decide +kernel
theorem dX6_balance_15 : decode cX6_balance 15 = .ok (.aload_n 0, 1) := by decide +kernel
theorem dX6_balance_16 : decode cX6_balance 16 = .ok (.getfield 7, 3) := by decide +kernel
theorem dX6_balance_19 : decode cX6_balance 19 = .ok (.iconst 4, 1) := by decide +kernel
theorem dX6_balance_20 : decode cX6_balance 20 = .ok (.iload 5, 2) := by decide +kernel
theorem dX6_balance_22 : decode cX6_balance 22 = .ok (.imul, 1) := by decide +kernel
theorem dX6_balance_23 : decode cX6_balance 23 = .ok (.iload_n 1, 1) := by decide +kernel
theorem dX6_balance_24 : decode cX6_balance 24 = .ok (.iadd, 1) := by decide +kernel
theorem dX6_balance_25 : decode cX6_balance 25 = .ok (.iaload, 1) := by decide +kernel
theorem dX6_balance_26 : decode cX6_balance 26 = .ok (.iload_n 2, 1) := by decide +kernel
theorem dX6_balance_27 : decode cX6_balance 27 = .ok (.if_icmp .ne 14, 3) := by decide +kernel
theorem dX6_balance_30 : decode cX6_balance 30 = .ok (.aload_n 0, 1) := by decide +kernel
theorem dX6_balance_31 : decode cX6_balance 31 = .ok (.getfield 13, 3) := by decide +kernel
theorem dX6_balance_34 : decode cX6_balance 34 = .ok (.iload 5, 2) := by decide +kernel
theorem dX6_balance_36 : decode cX6_balance 36 = .ok (.iaload, 1) := by decide +kernel
theorem dX6_balance_37 : decode cX6_balance 37 = .ok (.i2l, 1) := by decide +kernel
theorem dX6_balance_38 : decode cX6_balance 38 = .ok (.goto 4, 3) := by decide +kernel
theorem dX6_balance_41 : decode cX6_balance 41 = .ok (.lconst 0, 1) := by decide +kernel
theorem dX6_balance_42 : decode cX6_balance 42 = .ok (.ladd, 1) := by decide +kernel
theorem dX6_balance_43 : decode cX6_balance 43 = .ok (.lstore_n 3, 1) := by decide +kernel
theorem dX6_balance_44 : decode cX6_balance 44 = .ok (.iinc 5 1, 3) := by decide +kernel
theorem dX6_balance_47 : decode cX6_balance 47 = .ok (.goto (-42), 3) := by decide +kernel
theorem dX6_balance_50 : decode cX6_balance 50 = .ok (.lload_n 3, 1) := by decide +kernel
theorem dX6_balance_51 : decode cX6_balance 51 = .ok (.lreturn, 1) := by decide +kernel
theorem dX6_told_0 : decode cX6_told 0 = .ok (.iload_n 1, 1) := by decide +kernel
theorem dX6_told_1 : decode cX6_told 1 = .ok (.iconst 2, 1) := by decide +kernel
theorem dX6_told_2 : decode cX6_told 2 = .ok (.if_icmp .ge 8, 3) := by decide +kernel
theorem dX6_told_5 : decode cX6_told 5 = .ok (.bipush 7, 2) := by decide +kernel
theorem dX6_told_7 : decode cX6_told 7 = .ok (.goto 19, 3) := by decide +kernel
theorem dX6_told_10 : decode cX6_told 10 = .ok (.iload_n 1, 1) := by decide +kernel
theorem dX6_told_11 : decode cX6_told 11 = .ok (.iconst 2, 1) := by decide +kernel
theorem dX6_told_12 : decode cX6_told 12 = .ok (.if_icmp .ne 8, 3) := by decide +kernel
theorem dX6_told_15 : decode cX6_told 15 = .ok (.bipush 11, 2) := by decide +kernel
theorem dX6_told_17 : decode cX6_told 17 = .ok (.goto 9, 3) := by decide +kernel
theorem dX6_told_20 : decode cX6_told 20 = .ok (.aload_n 0, 1) := by decide +kernel
theorem dX6_told_21 : decode cX6_told 21 = .ok (.getfield 64, 3) := by decide +kernel
theorem dX6_told_24 : decode cX6_told 24 = .ok (.iconst 1, 1) := by decide +kernel
theorem dX6_told_25 : decode cX6_told 25 = .ok (.isub, 1) := by decide +kernel
theorem dX6_told_26 : decode cX6_told 26 = .ok (.istore_n 3, 1) := by decide +kernel
theorem dX6_told_27 : decode cX6_told 27 = .ok (.aload_n 0, 1) := by decide +kernel
theorem dX6_told_28 : decode cX6_told 28 = .ok (.iload_n 1, 1) := by decide +kernel
theorem dX6_told_29 : decode cX6_told 29 = .ok (.i2l, 1) := by decide +kernel
theorem dX6_told_30 : decode cX6_told 30 = .ok (.lconst 0, 1) := by decide +kernel
theorem dX6_told_31 : decode cX6_told 31 = .ok (.ldc2_w 56, 3) := by decide +kernel
theorem dX6_told_34 : decode cX6_told 34 = .ok (.invokestatic 58, 3) := by decide +kernel
theorem dX6_told_37 : decode cX6_told 37 = .ok (.ifCond .eq 14, 3) := by decide +kernel
theorem dX6_told_40 : decode cX6_told 40 = .ok (.iload_n 2, 1) := by decide +kernel
theorem dX6_told_41 : decode cX6_told 41 = .ok (.i2l, 1) := by decide +kernel
theorem dX6_told_42 : decode cX6_told 42 = .ok (.lconst 0, 1) := by decide +kernel
theorem dX6_told_43 : decode cX6_told 43 = .ok (.iload_n 3, 1) := by decide +kernel
theorem dX6_told_44 : decode cX6_told 44 = .ok (.i2l, 1) := by decide +kernel
theorem dX6_told_45 : decode cX6_told 45 = .ok (.invokestatic 58, 3) := by decide +kernel
theorem dX6_told_48 : decode cX6_told 48 = .ok (.ifCond .ne 7, 3) := by decide +kernel
theorem dX6_told_51 : decode cX6_told 51 = .ok (.iconst 1, 1) := by decide +kernel
theorem dX6_told_52 : decode cX6_told 52 = .ok (.goto 4, 3) := by decide +kernel
theorem dX6_told_55 : decode cX6_told 55 = .ok (.iconst 0, 1) := by decide +kernel
theorem dX6_told_56 : decode cX6_told 56 = .ok (.iconst 0, 1) := by decide +kernel
theorem dX6_told_57 : decode cX6_told 57 = .ok (.iconst 0, 1) := by decide +kernel
theorem dX6_told_58 : decode cX6_told 58 = .ok (.iconst 0, 1) := by decide +kernel
theorem dX6_told_59 : decode cX6_told 59 = .ok (.invokevirtual 81, 3) := by decide +kernel
theorem dX6_told_62 : decode cX6_told 62 = .ok (.ifCond .eq 5, 3) := by decide +kernel
theorem dX6_told_65 : decode cX6_told 65 = .ok (.lconst 0, 1) := by decide +kernel
theorem dX6_told_66 : decode cX6_told 66 = .ok (.lreturn, 1) := by decide +kernel
theorem dX6_told_67 : decode cX6_told 67 = .ok (.iload_n 1, 1) := by decide +kernel
theorem dX6_told_68 : decode cX6_told 68 = .ok (.iconst 3, 1) := by decide +kernel
theorem dX6_told_69 : decode cX6_told 69 = .ok (.if_icmp .ge 10, 3) := by decide +kernel
theorem dX6_told_72 : decode cX6_told 72 = .ok (.aload_n 0, 1) := by decide +kernel
theorem dX6_told_73 : decode cX6_told 73 = .ok (.iload_n 1, 1) := by decide +kernel
theorem dX6_told_74 : decode cX6_told 74 = .ok (.iload_n 2, 1) := by decide +kernel
theorem dX6_told_75 : decode cX6_told 75 = .ok (.invokevirtual 96, 3) := by decide +kernel
theorem dX6_told_78 : decode cX6_told 78 = .ok (.lreturn, 1) := by decide +kernel
theorem dX6_told_79 : decode cX6_told 79 = .ok (.iload_n 1, 1) := by decide +kernel
theorem dX6_told_80 : decode cX6_told 80 = .ok (.iconst 3, 1) := by decide +kernel
theorem dX6_told_81 : decode cX6_told 81 = .ok (.if_icmp .ne 13, 3) := by decide +kernel
theorem dX6_told_84 : decode cX6_told 84 = .ok (.aload_n 0, 1) := by decide +kernel
theorem dX6_told_85 : decode cX6_told 85 = .ok (.getfield 13, 3) := by decide +kernel
theorem dX6_told_88 : decode cX6_told 88 = .ok (.iload_n 2, 1) := by decide +kernel
theorem dX6_told_89 : decode cX6_told 89 = .ok (.iaload, 1) := by decide +kernel
theorem dX6_told_90 : decode cX6_told 90 = .ok (.i2l, 1) := by decide +kernel
theorem dX6_told_91 : decode cX6_told 91 = .ok (.goto 16, 3) := by decide +kernel
theorem dX6_told_94 : decode cX6_told 94 = .ok (.aload_n 0, 1) := by decide +kernel
theorem dX6_told_95 : decode cX6_told 95 = .ok (.getfield 7, 3) := by decide +kernel
theorem dX6_told_98 : decode cX6_told 98 = .ok (.iconst 4, 1) := by decide +kernel
theorem dX6_told_99 : decode cX6_told 99 = .ok (.iload_n 2, 1) := by decide +kernel
theorem dX6_told_100 : decode cX6_told 100 = .ok (.imul, 1) := by decide +kernel
theorem dX6_told_101 : decode cX6_told 101 = .ok (.iload_n 1, 1) := by decide +kernel
theorem dX6_told_102 : decode cX6_told 102 = .ok (.iadd, 1) := by decide +kernel
theorem dX6_told_103 : decode cX6_told 103 = .ok (.iconst 4, 1) := by decide +kernel
theorem dX6_told_104 : decode cX6_told 104 = .ok (.isub, 1) := by decide +kernel
theorem dX6_told_105 : decode cX6_told 105 = .ok (.iaload, 1) := by decide +kernel
theorem dX6_told_106 : decode cX6_told 106 = .ok (.i2l, 1) := by decide +kernel
theorem dX6_told_107 : decode cX6_told 107 = .ok (.lreturn, 1) := by decide +kernel
theorem dX6_many_0 : decode cX6_many 0 = .ok (.aload_n 0, 1) := by decide +kernel
theorem dX6_many_1 : decode cX6_many 1 = .ok (.iload_n 1, 1) := by decide +kernel
theorem dX6_many_2 : decode cX6_many 2 = .ok (.i2l, 1) := by decide +kernel
theorem dX6_many_3 : decode cX6_many 3 = .ok (.lconst 0, 1) := by decide +kernel
theorem dX6_many_4 : decode cX6_many 4 = .ok (.ldc2_w 100, 3) := by decide +kernel
theorem dX6_many_7 : decode cX6_many 7 = .ok (.invokestatic 58, 3) := by decide +kernel
theorem dX6_many_10 : decode cX6_many 10 = .ok (.ifCond .ne 7, 3) := by decide +kernel
theorem dX6_many_13 : decode cX6_many 13 = .ok (.iconst 1, 1) := by decide +kernel
theorem dX6_many_14 : decode cX6_many 14 = .ok (.goto 4, 3) := by decide +kernel
theorem dX6_many_17 : decode cX6_many 17 = .ok (.iconst 0, 1) := by decide +kernel
theorem dX6_many_18 : decode cX6_many 18 = .ok (.iconst 0, 1) := by decide +kernel
theorem dX6_many_19 : decode cX6_many 19 = .ok (.iconst 0, 1) := by decide +kernel
theorem dX6_many_20 : decode cX6_many 20 = .ok (.iconst 0, 1) := by decide +kernel
theorem dX6_many_21 : decode cX6_many 21 = .ok (.invokevirtual 81, 3) := by decide +kernel
theorem dX6_many_24 : decode cX6_many 24 = .ok (.ifCond .eq 5, 3) := by decide +kernel
theorem dX6_many_27 : decode cX6_many 27 = .ok (.iconst 0, 1) := by decide +kernel
theorem dX6_many_28 : decode cX6_many 28 = .ok (.ireturn, 1) := by decide +kernel
theorem dX6_many_29 : decode cX6_many 29 = .ok (.iload_n 1, 1) := by decide +kernel
theorem dX6_many_30 : decode cX6_many 30 = .ok (.ifCond .ne 10, 3) := by decide +kernel
theorem dX6_many_33 : decode cX6_many 33 = .ok (.aload_n 0, 1) := by decide +kernel
theorem dX6_many_34 : decode cX6_many 34 = .ok (.getfield 64, 3) := by decide +kernel
theorem dX6_many_37 : decode cX6_many 37 = .ok (.goto 43, 3) := by decide +kernel
theorem dX6_many_40 : decode cX6_many 40 = .ok (.iload_n 1, 1) := by decide +kernel
theorem dX6_many_41 : decode cX6_many 41 = .ok (.iconst 1, 1) := by decide +kernel
theorem dX6_many_42 : decode cX6_many 42 = .ok (.if_icmp .ne 10, 3) := by decide +kernel
theorem dX6_many_45 : decode cX6_many 45 = .ok (.aload_n 0, 1) := by decide +kernel
theorem dX6_many_46 : decode cX6_many 46 = .ok (.getfield 67, 3) := by decide +kernel
theorem dX6_many_49 : decode cX6_many 49 = .ok (.goto 31, 3) := by decide +kernel
theorem dX6_many_52 : decode cX6_many 52 = .ok (.iload_n 1, 1) := by decide +kernel
theorem dX6_many_53 : decode cX6_many 53 = .ok (.iconst 2, 1) := by decide +kernel
theorem dX6_many_54 : decode cX6_many 54 = .ok (.if_icmp .ne 10, 3) := by decide +kernel
theorem dX6_many_57 : decode cX6_many 57 = .ok (.aload_n 0, 1) := by decide +kernel
theorem dX6_many_58 : decode cX6_many 58 = .ok (.getfield 78, 3) := by decide +kernel
theorem dX6_many_61 : decode cX6_many 61 = .ok (.goto 19, 3) := by decide +kernel
theorem dX6_many_64 : decode cX6_many 64 = .ok (.iload_n 1, 1) := by decide +kernel
theorem dX6_many_65 : decode cX6_many 65 = .ok (.iconst 3, 1) := by decide +kernel
theorem dX6_many_66 : decode cX6_many 66 = .ok (.if_icmp .ne 10, 3) := by decide +kernel
theorem dX6_many_69 : decode cX6_many 69 = .ok (.aload_n 0, 1) := by decide +kernel
theorem dX6_many_70 : decode cX6_many 70 = .ok (.getfield 85, 3) := by decide +kernel
theorem dX6_many_73 : decode cX6_many 73 = .ok (.goto 7, 3) := by decide +kernel
theorem dX6_many_76 : decode cX6_many 76 = .ok (.aload_n 0, 1) := by decide +kernel
theorem dX6_many_77 : decode cX6_many 77 = .ok (.getfield 102, 3) := by decide +kernel
theorem dX6_many_80 : decode cX6_many 80 = .ok (.ireturn, 1) := by decide +kernel
theorem dX6_weight_0 : decode cX6_weight 0 = .ok (.aload_n 0, 1) := by decide +kernel
theorem dX6_weight_1 : decode cX6_weight 1 = .ok (.iload_n 1, 1) := by decide +kernel
theorem dX6_weight_2 : decode cX6_weight 2 = .ok (.i2l, 1) := by decide +kernel
theorem dX6_weight_3 : decode cX6_weight 3 = .ok (.lconst 0, 1) := by decide +kernel
theorem dX6_weight_4 : decode cX6_weight 4 = .ok (.ldc2_w 56, 3) := by decide +kernel
theorem dX6_weight_7 : decode cX6_weight 7 = .ok (.invokestatic 58, 3) := by decide +kernel
theorem dX6_weight_10 : decode cX6_weight 10 = .ok (.ifCond .ne 7, 3) := by decide +kernel
theorem dX6_weight_13 : decode cX6_weight 13 = .ok (.iconst 1, 1) := by decide +kernel
theorem dX6_weight_14 : decode cX6_weight 14 = .ok (.goto 4, 3) := by decide +kernel
theorem dX6_weight_17 : decode cX6_weight 17 = .ok (.iconst 0, 1) := by decide +kernel
theorem dX6_weight_18 : decode cX6_weight 18 = .ok (.iload_n 2, 1) := by decide +kernel
theorem dX6_weight_19 : decode cX6_weight 19 = .ok (.i2l, 1) := by decide +kernel
theorem dX6_weight_20 : decode cX6_weight 20 = .ok (.lconst 0, 1) := by decide +kernel
theorem dX6_weight_21 : decode cX6_weight 21 = .ok (.ldc2_w 105, 3) := by decide +kernel
theorem dX6_weight_24 : decode cX6_weight 24 = .ok (.invokestatic 58, 3) := by decide +kernel
theorem dX6_weight_27 : decode cX6_weight 27 = .ok (.ifCond .ne 7, 3) := by decide +kernel
theorem dX6_weight_30 : decode cX6_weight 30 = .ok (.iconst 1, 1) := by decide +kernel
theorem dX6_weight_31 : decode cX6_weight 31 = .ok (.goto 4, 3) := by decide +kernel
theorem dX6_weight_34 : decode cX6_weight 34 = .ok (.iconst 0, 1) := by decide +kernel
theorem dX6_weight_35 : decode cX6_weight 35 = .ok (.iconst 0, 1) := by decide +kernel
theorem dX6_weight_36 : decode cX6_weight 36 = .ok (.iconst 0, 1) := by decide +kernel
theorem dX6_weight_37 : decode cX6_weight 37 = .ok (.invokevirtual 81, 3) := by decide +kernel
theorem dX6_weight_40 : decode cX6_weight 40 = .ok (.ifCond .eq 4, 3) := by decide +kernel
theorem dX6_weight_43 : decode cX6_weight 43 = .ok (.return_, 1) := by decide +kernel
theorem dX6_weight_44 : decode cX6_weight 44 = .ok (.aload_n 0, 1) := by decide +kernel
theorem dX6_weight_45 : decode cX6_weight 45 = .ok (.getfield 25, 3) := by decide +kernel
theorem dX6_weight_48 : decode cX6_weight 48 = .ok (.iload_n 1, 1) := by decide +kernel
theorem dX6_weight_49 : decode cX6_weight 49 = .ok (.iload_n 2, 1) := by decide +kernel
theorem dX6_weight_50 : decode cX6_weight 50 = .ok (.iastore, 1) := by decide +kernel
theorem dX6_weight_51 : decode cX6_weight 51 = .ok (.return_, 1) := by decide +kernel
theorem dX6_share_0 : decode cX6_share 0 = .ok (.lconst 0, 1) := by decide +kernel
theorem dX6_share_1 : decode cX6_share 1 = .ok (.lstore_n 3, 1) := by decide +kernel
theorem dX6_share_2 : decode cX6_share 2 = .ok (.lconst 0, 1) := by decide +kernel
theorem dX6_share_3 : decode cX6_share 3 = .ok (.lstore 5, 2) := by decide +kernel
theorem dX6_share_5 : decode cX6_share 5 = .ok (.iconst 0, 1) := by decide +kernel
theorem dX6_share_6 : decode cX6_share 6 = .ok (.istore 7, 2) := by decide +kernel
theorem dX6_share_8 : decode cX6_share 8 = .ok (.iload 7, 2) := by decide +kernel
theorem dX6_share_10 : decode cX6_share 10 = .ok (.bipush 8, 2) := by decide +kernel
theorem dX6_share_12 : decode cX6_share 12 = .ok (.if_icmp .ge 43, 3) := by decide +kernel
theorem dX6_share_15 : decode cX6_share 15 = .ok (.lload_n 3, 1) := by decide +kernel
theorem dX6_share_16 : decode cX6_share 16 = .ok (.aload_n 0, 1) := by decide +kernel
theorem dX6_share_17 : decode cX6_share 17 = .ok (.getfield 25, 3) := by decide +kernel
theorem dX6_share_20 : decode cX6_share 20 = .ok (.iload 7, 2) := by decide +kernel
theorem dX6_share_22 : decode cX6_share 22 = .ok (.iaload, 1) := by decide +kernel
theorem dX6_share_23 : decode cX6_share 23 = .ok (.i2l, 1) := by decide +kernel
theorem dX6_share_24 : decode cX6_share 24 = .ok (.ladd, 1) := by decide +kernel
theorem dX6_share_25 : decode cX6_share 25 = .ok (.lstore_n 3, 1) := by decide +kernel
theorem dX6_share_26 : decode cX6_share 26 = .ok (.lload 5, 2) := by decide +kernel
theorem dX6_share_28 : decode cX6_share 28 = .ok (.iload 7, 2) := by decide +kernel
theorem dX6_share_30 : decode cX6_share 30 = .ok (.iload_n 1, 1) := by decide +kernel
theorem dX6_share_31 : decode cX6_share 31 = .ok (.if_icmp .gt 14, 3) := by decide +kernel
theorem dX6_share_34 : decode cX6_share 34 = .ok (.aload_n 0, 1) := by decide +kernel
theorem dX6_share_35 : decode cX6_share 35 = .ok (.getfield 25, 3) := by decide +kernel
theorem dX6_share_38 : decode cX6_share 38 = .ok (.iload 7, 2) := by decide +kernel
theorem dX6_share_40 : decode cX6_share 40 = .ok (.iaload, 1) := by decide +kernel
theorem dX6_share_41 : decode cX6_share 41 = .ok (.i2l, 1) := by decide +kernel
theorem dX6_share_42 : decode cX6_share 42 = .ok (.goto 4, 3) := by decide +kernel
theorem dX6_share_45 : decode cX6_share 45 = .ok (.lconst 0, 1) := by decide +kernel
theorem dX6_share_46 : decode cX6_share 46 = .ok (.ladd, 1) := by decide +kernel
theorem dX6_share_47 : decode cX6_share 47 = .ok (.lstore 5, 2) := by decide +kernel
theorem dX6_share_49 : decode cX6_share 49 = .ok (.iinc 7 1, 3) := by decide +kernel
theorem dX6_share_52 : decode cX6_share 52 = .ok (.goto (-44), 3) := by decide +kernel
theorem dX6_share_55 : decode cX6_share 55 = .ok (.aload_n 0, 1) := by decide +kernel
theorem dX6_share_56 : decode cX6_share 56 = .ok (.iload_n 1, 1) := by decide +kernel
theorem dX6_share_57 : decode cX6_share 57 = .ok (.i2l, 1) := by decide +kernel
theorem dX6_share_58 : decode cX6_share 58 = .ok (.lconst 0, 1) := by decide +kernel
theorem dX6_share_59 : decode cX6_share 59 = .ok (.ldc2_w 56, 3) := by decide +kernel
theorem dX6_share_62 : decode cX6_share 62 = .ok (.invokestatic 58, 3) := by decide +kernel
theorem dX6_share_65 : decode cX6_share 65 = .ok (.ifCond .ne 7, 3) := by decide +kernel
theorem dX6_share_68 : decode cX6_share 68 = .ok (.iconst 1, 1) := by decide +kernel
theorem dX6_share_69 : decode cX6_share 69 = .ok (.goto 4, 3) := by decide +kernel
theorem dX6_share_72 : decode cX6_share 72 = .ok (.iconst 0, 1) := by decide +kernel
theorem dX6_share_73 : decode cX6_share 73 = .ok (.iload_n 2, 1) := by decide +kernel
theorem dX6_share_74 : decode cX6_share 74 = .ok (.i2l, 1) := by decide +kernel
theorem dX6_share_75 : decode cX6_share 75 = .ok (.lconst 0, 1) := by decide +kernel
theorem dX6_share_76 : decode cX6_share 76 = .ok (.ldc2_w 72, 3) := by decide +kernel
theorem dX6_share_79 : decode cX6_share 79 = .ok (.invokestatic 58, 3) := by decide +kernel
theorem dX6_share_82 : decode cX6_share 82 = .ok (.ifCond .ne 7, 3) := by decide +kernel
theorem dX6_share_85 : decode cX6_share 85 = .ok (.iconst 1, 1) := by decide +kernel
theorem dX6_share_86 : decode cX6_share 86 = .ok (.goto 4, 3) := by decide +kernel
theorem dX6_share_89 : decode cX6_share 89 = .ok (.iconst 0, 1) := by decide +kernel
theorem dX6_share_90 : decode cX6_share 90 = .ok (.lload_n 3, 1) := by decide +kernel
theorem dX6_share_91 : decode cX6_share 91 = .ok (.lconst 0, 1) := by decide +kernel
theorem dX6_share_92 : decode cX6_share 92 = .ok (.lcmp, 1) := by decide +kernel
theorem dX6_share_93 : decode cX6_share 93 = .ok (.ifCond .ne 7, 3) := by decide +kernel
theorem dX6_share_96 : decode cX6_share 96 = .ok (.iconst 1, 1) := by decide +kernel
theorem dX6_share_97 : decode cX6_share 97 = .ok (.goto 4, 3) := by decide +kernel
theorem dX6_share_100 : decode cX6_share 100 = .ok (.iconst 0, 1) := by decide +kernel
theorem dX6_share_101 : decode cX6_share 101 = .ok (.iconst 0, 1) := by decide +kernel
theorem dX6_share_102 : decode cX6_share 102 = .ok (.invokevirtual 81, 3) := by decide +kernel
theorem dX6_share_105 : decode cX6_share 105 = .ok (.ifCond .eq 5, 3) := by decide +kernel
theorem dX6_share_108 : decode cX6_share 108 = .ok (.lconst 0, 1) := by decide +kernel
theorem dX6_share_109 : decode cX6_share 109 = .ok (.lreturn, 1) := by decide +kernel
theorem dX6_share_110 : decode cX6_share 110 = .ok (.iload_n 2, 1) := by decide +kernel
theorem dX6_share_111 : decode cX6_share 111 = .ok (.i2l, 1) := by decide +kernel
theorem dX6_share_112 : decode cX6_share 112 = .ok (.lload 5, 2) := by decide +kernel
theorem dX6_share_114 : decode cX6_share 114 = .ok (.lmul, 1) := by decide +kernel
theorem dX6_share_115 : decode cX6_share 115 = .ok (.lload_n 3, 1) := by decide +kernel
theorem dX6_share_116 : decode cX6_share 116 = .ok (.ldiv, 1) := by decide +kernel
theorem dX6_share_117 : decode cX6_share 117 = .ok (.iload_n 2, 1) := by decide +kernel
theorem dX6_share_118 : decode cX6_share 118 = .ok (.i2l, 1) := by decide +kernel
theorem dX6_share_119 : decode cX6_share 119 = .ok (.lload 5, 2) := by decide +kernel
theorem dX6_share_121 : decode cX6_share 121 = .ok (.aload_n 0, 1) := by decide +kernel
theorem dX6_share_122 : decode cX6_share 122 = .ok (.getfield 25, 3) := by decide +kernel
theorem dX6_share_125 : decode cX6_share 125 = .ok (.iload_n 1, 1) := by decide +kernel
theorem dX6_share_126 : decode cX6_share 126 = .ok (.iaload, 1) := by decide +kernel
theorem dX6_share_127 : decode cX6_share 127 = .ok (.i2l, 1) := by decide +kernel
theorem dX6_share_128 : decode cX6_share 128 = .ok (.lsub, 1) := by decide +kernel
theorem dX6_share_129 : decode cX6_share 129 = .ok (.lmul, 1) := by decide +kernel
theorem dX6_share_130 : decode cX6_share 130 = .ok (.lload_n 3, 1) := by decide +kernel
theorem dX6_share_131 : decode cX6_share 131 = .ok (.ldiv, 1) := by decide +kernel
theorem dX6_share_132 : decode cX6_share 132 = .ok (.lsub, 1) := by decide +kernel
theorem dX6_share_133 : decode cX6_share 133 = .ok (.lreturn, 1) := by decide +kernel
theorem dX6_stocked_0 : decode cX6_stocked 0 = .ok (.lconst 0, 1) := by decide +kernel
theorem dX6_stocked_1 : decode cX6_stocked 1 = .ok (.lstore_n 2, 1) := by decide +kernel
theorem dX6_stocked_2 : decode cX6_stocked 2 = .ok (.iconst 0, 1) := by decide +kernel
theorem dX6_stocked_3 : decode cX6_stocked 3 = .ok (.istore 4, 2) := by decide +kernel
theorem dX6_stocked_5 : decode cX6_stocked 5 = .ok (.iload 4, 2) := by decide +kernel
theorem dX6_stocked_7 : decode cX6_stocked 7 = .ok (.aload_n 0, 1) := by decide +kernel
theorem dX6_stocked_8 : decode cX6_stocked 8 = .ok (.getfield 28, 3) := by decide +kernel
theorem dX6_stocked_11 : decode cX6_stocked 11 = .ok (.iload_n 1, 1) := by decide +kernel
theorem dX6_stocked_12 : decode cX6_stocked 12 = .ok (.iaload, 1) := by decide +kernel
theorem dX6_stocked_13 : decode cX6_stocked 13 = .ok (.if_icmp .ge 25, 3) := by decide +kernel
theorem dX6_stocked_16 : decode cX6_stocked 16 = .ok (.lload_n 2, 1) := by decide +kernel
theorem dX6_stocked_17 : decode cX6_stocked 17 = .ok (.aload_n 0, 1) := by decide +kernel
theorem dX6_stocked_18 : decode cX6_stocked 18 = .ok (.getfield 31, 3) := by decide +kernel
theorem dX6_stocked_21 : decode cX6_stocked 21 = .ok (.bipush 12, 2) := by decide +kernel
theorem dX6_stocked_23 : decode cX6_stocked 23 = .ok (.iload_n 1, 1) := by decide +kernel
theorem dX6_stocked_24 : decode cX6_stocked 24 = .ok (.imul, 1) := by decide +kernel
theorem dX6_stocked_25 : decode cX6_stocked 25 = .ok (.iload 4, 2) := by decide +kernel
theorem dX6_stocked_27 : decode cX6_stocked 27 = .ok (.iadd, 1) := by decide +kernel
theorem dX6_stocked_28 : decode cX6_stocked 28 = .ok (.iaload, 1) := by decide +kernel
theorem dX6_stocked_29 : decode cX6_stocked 29 = .ok (.i2l, 1) := by decide +kernel
theorem dX6_stocked_30 : decode cX6_stocked 30 = .ok (.ladd, 1) := by decide +kernel
theorem dX6_stocked_31 : decode cX6_stocked 31 = .ok (.lstore_n 2, 1) := by decide +kernel
theorem dX6_stocked_32 : decode cX6_stocked 32 = .ok (.iinc 4 1, 3) := by decide +kernel
theorem dX6_stocked_35 : decode cX6_stocked 35 = .ok (.goto (-30), 3) := by decide +kernel
theorem dX6_stocked_38 : decode cX6_stocked 38 = .ok (.lload_n 2, 1) := by decide +kernel
theorem dX6_stocked_39 : decode cX6_stocked 39 = .ok (.lreturn, 1) := by decide +kernel
theorem dX6_stock_0 : decode cX6_stock 0 = .ok (.iload_n 1, 1) := by decide +kernel
theorem dX6_stock_1 : decode cX6_stock 1 = .ok (.i2l, 1) := by decide +kernel
theorem dX6_stock_2 : decode cX6_stock 2 = .ok (.lconst 0, 1) := by decide +kernel
theorem dX6_stock_3 : decode cX6_stock 3 = .ok (.ldc2_w 107, 3) := by decide +kernel
theorem dX6_stock_6 : decode cX6_stock 6 = .ok (.invokestatic 58, 3) := by decide +kernel
theorem dX6_stock_9 : decode cX6_stock 9 = .ok (.ifCond .ne 7, 3) := by decide +kernel
theorem dX6_stock_12 : decode cX6_stock 12 = .ok (.iconst 1, 1) := by decide +kernel
theorem dX6_stock_13 : decode cX6_stock 13 = .ok (.goto 4, 3) := by decide +kernel
theorem dX6_stock_16 : decode cX6_stock 16 = .ok (.iconst 0, 1) := by decide +kernel
theorem dX6_stock_17 : decode cX6_stock 17 = .ok (.istore 4, 2) := by decide +kernel
theorem dX6_stock_19 : decode cX6_stock 19 = .ok (.iload_n 2, 1) := by decide +kernel
theorem dX6_stock_20 : decode cX6_stock 20 = .ok (.i2l, 1) := by decide +kernel
theorem dX6_stock_21 : decode cX6_stock 21 = .ok (.lconst 1, 1) := by decide +kernel
theorem dX6_stock_22 : decode cX6_stock 22 = .ok (.ldc2_w 105, 3) := by decide +kernel
theorem dX6_stock_25 : decode cX6_stock 25 = .ok (.invokestatic 58, 3) := by decide +kernel
theorem dX6_stock_28 : decode cX6_stock 28 = .ok (.ifCond .eq 15, 3) := by decide +kernel
theorem dX6_stock_31 : decode cX6_stock 31 = .ok (.iload_n 3, 1) := by decide +kernel
theorem dX6_stock_32 : decode cX6_stock 32 = .ok (.i2l, 1) := by decide +kernel
theorem dX6_stock_33 : decode cX6_stock 33 = .ok (.lconst 0, 1) := by decide +kernel
theorem dX6_stock_34 : decode cX6_stock 34 = .ok (.ldc2_w 105, 3) := by decide +kernel
theorem dX6_stock_37 : decode cX6_stock 37 = .ok (.invokestatic 58, 3) := by decide +kernel
theorem dX6_stock_40 : decode cX6_stock 40 = .ok (.ifCond .ne 7, 3) := by decide +kernel
theorem dX6_stock_43 : decode cX6_stock 43 = .ok (.iconst 1, 1) := by decide +kernel
theorem dX6_stock_44 : decode cX6_stock 44 = .ok (.goto 4, 3) := by decide +kernel
theorem dX6_stock_47 : decode cX6_stock 47 = .ok (.iconst 0, 1) := by decide +kernel
theorem dX6_stock_48 : decode cX6_stock 48 = .ok (.istore 5, 2) := by decide +kernel
theorem dX6_stock_50 : decode cX6_stock 50 = .ok (.aload_n 0, 1) := by decide +kernel
theorem dX6_stock_51 : decode cX6_stock 51 = .ok (.iload 4, 2) := by decide +kernel
theorem dX6_stock_53 : decode cX6_stock 53 = .ok (.iload 4, 2) := by decide +kernel
theorem dX6_stock_55 : decode cX6_stock 55 = .ok (.ifCond .ne 27, 3) := by decide +kernel
theorem dX6_stock_58 : decode cX6_stock 58 = .ok (.aload_n 0, 1) := by decide +kernel
theorem dX6_stock_59 : decode cX6_stock 59 = .ok (.getfield 28, 3) := by decide +kernel
theorem dX6_stock_62 : decode cX6_stock 62 = .ok (.iload 4, 2) := by decide +kernel
theorem dX6_stock_64 : decode cX6_stock 64 = .ok (.ifCond .eq 7, 3) := by decide +kernel
theorem dX6_stock_67 : decode cX6_stock 67 = .ok (.iconst 0, 1) := by decide +kernel
theorem dX6_stock_68 : decode cX6_stock 68 = .ok (.goto 4, 3) := by decide +kernel
theorem dX6_stock_71 : decode cX6_stock 71 = .ok (.iload_n 1, 1) := by decide +kernel
theorem dX6_stock_72 : decode cX6_stock 72 = .ok (.iaload, 1) := by decide +kernel
theorem dX6_stock_73 : decode cX6_stock 73 = .ok (.bipush 12, 2) := by decide +kernel
theorem dX6_stock_75 : decode cX6_stock 75 = .ok (.if_icmp .ne 7, 3) := by decide +kernel
theorem dX6_stock_78 : decode cX6_stock 78 = .ok (.iconst 1, 1) := by decide +kernel
theorem dX6_stock_79 : decode cX6_stock 79 = .ok (.goto 4, 3) := by decide +kernel
theorem dX6_stock_82 : decode cX6_stock 82 = .ok (.iconst 0, 1) := by decide +kernel
theorem dX6_stock_83 : decode cX6_stock 83 = .ok (.iload 5, 2) := by decide +kernel
theorem dX6_stock_85 : decode cX6_stock 85 = .ok (.iconst 0, 1) := by decide +kernel
theorem dX6_stock_86 : decode cX6_stock 86 = .ok (.invokevirtual 81, 3) := by decide +kernel
theorem dX6_stock_89 : decode cX6_stock 89 = .ok (.ifCond .eq 5, 3) := by decide +kernel
theorem dX6_stock_92 : decode cX6_stock 92 = .ok (.iconst 0, 1) := by decide +kernel
theorem dX6_stock_93 : decode cX6_stock 93 = .ok (.ireturn, 1) := by decide +kernel
theorem dX6_stock_94 : decode cX6_stock 94 = .ok (.aload_n 0, 1) := by decide +kernel
theorem dX6_stock_95 : decode cX6_stock 95 = .ok (.getfield 31, 3) := by decide +kernel
theorem dX6_stock_98 : decode cX6_stock 98 = .ok (.bipush 12, 2) := by decide +kernel
theorem dX6_stock_100 : decode cX6_stock 100 = .ok (.iload_n 1, 1) := by decide +kernel
theorem dX6_stock_101 : decode cX6_stock 101 = .ok (.imul, 1) := by decide +kernel
theorem dX6_stock_102 : decode cX6_stock 102 = .ok (.aload_n 0, 1) := by decide +kernel
theorem dX6_stock_103 : decode cX6_stock 103 = .ok (.getfield 28, 3) := by decide +kernel
theorem dX6_stock_106 : decode cX6_stock 106 = .ok (.iload_n 1, 1) := by decide +kernel
theorem dX6_stock_107 : decode cX6_stock 107 = .ok (.iaload, 1) := by decide +kernel
theorem dX6_stock_108 : decode cX6_stock 108 = .ok (.iadd, 1) := by decide +kernel
theorem dX6_stock_109 : decode cX6_stock 109 = .ok (.iload_n 2, 1) := by decide +kernel
theorem dX6_stock_110 : decode cX6_stock 110 = .ok (.iastore, 1) := by decide +kernel
theorem dX6_stock_111 : decode cX6_stock 111 = .ok (.aload_n 0, 1) := by decide +kernel
theorem dX6_stock_112 : decode cX6_stock 112 = .ok (.getfield 34, 3) := by decide +kernel
theorem dX6_stock_115 : decode cX6_stock 115 = .ok (.bipush 12, 2) := by decide +kernel
theorem dX6_stock_117 : decode cX6_stock 117 = .ok (.iload_n 1, 1) := by decide +kernel
theorem dX6_stock_118 : decode cX6_stock 118 = .ok (.imul, 1) := by decide +kernel
theorem dX6_stock_119 : decode cX6_stock 119 = .ok (.aload_n 0, 1) := by decide +kernel
theorem dX6_stock_120 : decode cX6_stock 120 = .ok (.getfield 28, 3) := by decide +kernel
theorem dX6_stock_123 : decode cX6_stock 123 = .ok (.iload_n 1, 1) := by decide +kernel
theorem dX6_stock_124 : decode cX6_stock 124 = .ok (.iaload, 1) := by decide +kernel
theorem dX6_stock_125 : decode cX6_stock 125 = .ok (.iadd, 1) := by decide +kernel
theorem dX6_stock_126 : decode cX6_stock 126 = .ok (.iload_n 3, 1) := by decide +kernel
theorem dX6_stock_127 : decode cX6_stock 127 = .ok (.iastore, 1) := by decide +kernel
theorem dX6_stock_128 : decode cX6_stock 128 = .ok (.aload_n 0, 1) := by decide +kernel
theorem dX6_stock_129 : decode cX6_stock 129 = .ok (.getfield 28, 3) := by decide +kernel
theorem dX6_stock_132 : decode cX6_stock 132 = .ok (.iload_n 1, 1) := by decide +kernel
theorem dX6_stock_133 : decode cX6_stock 133 = .ok (.dup2, 1) := by decide +kernel
theorem dX6_stock_134 : decode cX6_stock 134 = .ok (.iaload, 1) := by decide +kernel
theorem dX6_stock_135 : decode cX6_stock 135 = .ok (.iconst 1, 1) := by decide +kernel
theorem dX6_stock_136 : decode cX6_stock 136 = .ok (.iadd, 1) := by decide +kernel
theorem dX6_stock_137 : decode cX6_stock 137 = .ok (.iastore, 1) := by decide +kernel
theorem dX6_stock_138 : decode cX6_stock 138 = .ok (.aload_n 0, 1) := by decide +kernel
theorem dX6_stock_139 : decode cX6_stock 139 = .ok (.getfield 28, 3) := by decide +kernel
theorem dX6_stock_142 : decode cX6_stock 142 = .ok (.iload_n 1, 1) := by decide +kernel
theorem dX6_stock_143 : decode cX6_stock 143 = .ok (.iaload, 1) := by decide +kernel
theorem dX6_stock_144 : decode cX6_stock 144 = .ok (.ireturn, 1) := by decide +kernel
theorem dX6_take_0 : decode cX6_take 0 = .ok (.iload_n 1, 1) := by decide +kernel
theorem dX6_take_1 : decode cX6_take 1 = .ok (.i2l, 1) := by decide +kernel
theorem dX6_take_2 : decode cX6_take 2 = .ok (.lconst 0, 1) := by decide +kernel
theorem dX6_take_3 : decode cX6_take 3 = .ok (.ldc2_w 107, 3) := by decide +kernel
theorem dX6_take_6 : decode cX6_take 6 = .ok (.invokestatic 58, 3) := by decide +kernel
theorem dX6_take_9 : decode cX6_take 9 = .ok (.ifCond .ne 7, 3) := by decide +kernel
theorem dX6_take_12 : decode cX6_take 12 = .ok (.iconst 1, 1) := by decide +kernel
theorem dX6_take_13 : decode cX6_take 13 = .ok (.goto 4, 3) := by decide +kernel
theorem dX6_take_16 : decode cX6_take 16 = .ok (.iconst 0, 1) := by decide +kernel
theorem dX6_take_17 : decode cX6_take 17 = .ok (.istore_n 3, 1) := by decide +kernel
theorem dX6_take_18 : decode cX6_take 18 = .ok (.aload_n 0, 1) := by decide +kernel
theorem dX6_take_19 : decode cX6_take 19 = .ok (.iload_n 3, 1) := by decide +kernel
theorem dX6_take_20 : decode cX6_take 20 = .ok (.iload_n 2, 1) := by decide +kernel
theorem dX6_take_21 : decode cX6_take 21 = .ok (.i2l, 1) := by decide +kernel
theorem dX6_take_22 : decode cX6_take 22 = .ok (.lconst 1, 1) := by decide +kernel
theorem dX6_take_23 : decode cX6_take 23 = .ok (.ldc2_w 105, 3) := by decide +kernel
theorem dX6_take_26 : decode cX6_take 26 = .ok (.invokestatic 58, 3) := by decide +kernel
theorem dX6_take_29 : decode cX6_take 29 = .ok (.ifCond .ne 7, 3) := by decide +kernel
theorem dX6_take_32 : decode cX6_take 32 = .ok (.iconst 1, 1) := by decide +kernel
theorem dX6_take_33 : decode cX6_take 33 = .ok (.goto 4, 3) := by decide +kernel
theorem dX6_take_36 : decode cX6_take 36 = .ok (.iconst 0, 1) := by decide +kernel
theorem dX6_take_37 : decode cX6_take 37 = .ok (.iload_n 3, 1) := by decide +kernel
theorem dX6_take_38 : decode cX6_take 38 = .ok (.ifCond .ne 26, 3) := by decide +kernel
theorem dX6_take_41 : decode cX6_take 41 = .ok (.aload_n 0, 1) := by decide +kernel
theorem dX6_take_42 : decode cX6_take 42 = .ok (.iload_n 3, 1) := by decide +kernel
theorem dX6_take_43 : decode cX6_take 43 = .ok (.ifCond .eq 7, 3) := by decide +kernel
theorem dX6_take_46 : decode cX6_take 46 = .ok (.iconst 0, 1) := by decide +kernel
theorem dX6_take_47 : decode cX6_take 47 = .ok (.goto 4, 3) := by decide +kernel
theorem dX6_take_50 : decode cX6_take 50 = .ok (.iload_n 1, 1) := by decide +kernel
theorem dX6_take_51 : decode cX6_take 51 = .ok (.invokevirtual 109, 3) := by decide +kernel
theorem dX6_take_54 : decode cX6_take 54 = .ok (.iload_n 2, 1) := by decide +kernel
theorem dX6_take_55 : decode cX6_take 55 = .ok (.i2l, 1) := by decide +kernel
theorem dX6_take_56 : decode cX6_take 56 = .ok (.lcmp, 1) := by decide +kernel
theorem dX6_take_57 : decode cX6_take 57 = .ok (.ifCond .ge 7, 3) := by decide +kernel
theorem dX6_take_60 : decode cX6_take 60 = .ok (.iconst 1, 1) := by decide +kernel
theorem dX6_take_61 : decode cX6_take 61 = .ok (.goto 4, 3) := by decide +kernel
theorem dX6_take_64 : decode cX6_take 64 = .ok (.iconst 0, 1) := by decide +kernel
theorem dX6_take_65 : decode cX6_take 65 = .ok (.iconst 0, 1) := by decide +kernel
theorem dX6_take_66 : decode cX6_take 66 = .ok (.invokevirtual 81, 3) := by decide +kernel
theorem dX6_take_69 : decode cX6_take 69 = .ok (.ifCond .eq 5, 3) := by decide +kernel
theorem dX6_take_72 : decode cX6_take 72 = .ok (.lconst 0, 1) := by decide +kernel
theorem dX6_take_73 : decode cX6_take 73 = .ok (.lreturn, 1) := by decide +kernel
theorem dX6_take_74 : decode cX6_take 74 = .ok (.lconst 0, 1) := by decide +kernel
theorem dX6_take_75 : decode cX6_take 75 = .ok (.lstore 4, 2) := by decide +kernel
theorem dX6_take_77 : decode cX6_take 77 = .ok (.iload_n 2, 1) := by decide +kernel
theorem dX6_take_78 : decode cX6_take 78 = .ok (.istore 6, 2) := by decide +kernel
theorem dX6_take_80 : decode cX6_take 80 = .ok (.bipush 12, 2) := by decide +kernel
theorem dX6_take_82 : decode cX6_take 82 = .ok (.iload_n 1, 1) := by decide +kernel
theorem dX6_take_83 : decode cX6_take 83 = .ok (.imul, 1) := by decide +kernel
theorem dX6_take_84 : decode cX6_take 84 = .ok (.istore 7, 2) := by decide +kernel
theorem dX6_take_86 : decode cX6_take 86 = .ok (.iload 6, 2) := by decide +kernel
theorem dX6_take_88 : decode cX6_take 88 = .ok (.ifCond .le 152, 3) := by decide +kernel
theorem dX6_take_91 : decode cX6_take 91 = .ok (.aload_n 0, 1) := by decide +kernel
theorem dX6_take_92 : decode cX6_take 92 = .ok (.getfield 31, 3) := by decide +kernel
theorem dX6_take_95 : decode cX6_take 95 = .ok (.iload 7, 2) := by decide +kernel
theorem dX6_take_97 : decode cX6_take 97 = .ok (.iaload, 1) := by decide +kernel
theorem dX6_take_98 : decode cX6_take 98 = .ok (.iload 6, 2) := by decide +kernel
theorem dX6_take_100 : decode cX6_take 100 = .ok (.if_icmp .ge 13, 3) := by decide +kernel
theorem dX6_take_103 : decode cX6_take 103 = .ok (.aload_n 0, 1) := by decide +kernel
theorem dX6_take_104 : decode cX6_take 104 = .ok (.getfield 31, 3) := by decide +kernel
theorem dX6_take_107 : decode cX6_take 107 = .ok (.iload 7, 2) := by decide +kernel
theorem dX6_take_109 : decode cX6_take 109 = .ok (.iaload, 1) := by decide +kernel
theorem dX6_take_110 : decode cX6_take 110 = .ok (.goto 5, 3) := by decide +kernel
theorem dX6_take_113 : decode cX6_take 113 = .ok (.iload 6, 2) := by decide +kernel
theorem dX6_take_115 : decode cX6_take 115 = .ok (.istore 8, 2) := by decide +kernel
theorem dX6_take_117 : decode cX6_take 117 = .ok (.lload 4, 2) := by decide +kernel
theorem dX6_take_119 : decode cX6_take 119 = .ok (.iload 8, 2) := by decide +kernel
theorem dX6_take_121 : decode cX6_take 121 = .ok (.i2l, 1) := by decide +kernel
theorem dX6_take_122 : decode cX6_take 122 = .ok (.aload_n 0, 1) := by decide +kernel
theorem dX6_take_123 : decode cX6_take 123 = .ok (.getfield 34, 3) := by decide +kernel
theorem dX6_take_126 : decode cX6_take 126 = .ok (.iload 7, 2) := by decide +kernel
theorem dX6_take_128 : decode cX6_take 128 = .ok (.iaload, 1) := by decide +kernel
theorem dX6_take_129 : decode cX6_take 129 = .ok (.i2l, 1) := by decide +kernel
theorem dX6_take_130 : decode cX6_take 130 = .ok (.lmul, 1) := by decide +kernel
theorem dX6_take_131 : decode cX6_take 131 = .ok (.ladd, 1) := by decide +kernel
theorem dX6_take_132 : decode cX6_take 132 = .ok (.lstore 4, 2) := by decide +kernel
theorem dX6_take_134 : decode cX6_take 134 = .ok (.iload 6, 2) := by decide +kernel
theorem dX6_take_136 : decode cX6_take 136 = .ok (.iload 8, 2) := by decide +kernel
theorem dX6_take_138 : decode cX6_take 138 = .ok (.isub, 1) := by decide +kernel
theorem dX6_take_139 : decode cX6_take 139 = .ok (.istore 6, 2) := by decide +kernel
theorem dX6_take_141 : decode cX6_take 141 = .ok (.aload_n 0, 1) := by decide +kernel
theorem dX6_take_142 : decode cX6_take 142 = .ok (.getfield 31, 3) := by decide +kernel
theorem dX6_take_145 : decode cX6_take 145 = .ok (.iload 7, 2) := by decide +kernel
theorem dX6_take_147 : decode cX6_take 147 = .ok (.dup2, 1) := by decide +kernel
theorem dX6_take_148 : decode cX6_take 148 = .ok (.iaload, 1) := by decide +kernel
theorem dX6_take_149 : decode cX6_take 149 = .ok (.iload 8, 2) := by decide +kernel
theorem dX6_take_151 : decode cX6_take 151 = .ok (.isub, 1) := by decide +kernel
theorem dX6_take_152 : decode cX6_take 152 = .ok (.iastore, 1) := by decide +kernel
theorem dX6_take_153 : decode cX6_take 153 = .ok (.aload_n 0, 1) := by decide +kernel
theorem dX6_take_154 : decode cX6_take 154 = .ok (.getfield 31, 3) := by decide +kernel
theorem dX6_take_157 : decode cX6_take 157 = .ok (.iload 7, 2) := by decide +kernel
theorem dX6_take_159 : decode cX6_take 159 = .ok (.iaload, 1) := by decide +kernel
theorem dX6_take_160 : decode cX6_take 160 = .ok (.ifCond .ne 77, 3) := by decide +kernel
theorem dX6_take_163 : decode cX6_take 163 = .ok (.aload_n 0, 1) := by decide +kernel
theorem dX6_take_164 : decode cX6_take 164 = .ok (.getfield 28, 3) := by decide +kernel
theorem dX6_take_167 : decode cX6_take 167 = .ok (.iload_n 1, 1) := by decide +kernel
theorem dX6_take_168 : decode cX6_take 168 = .ok (.dup2, 1) := by decide +kernel
theorem dX6_take_169 : decode cX6_take 169 = .ok (.iaload, 1) := by decide +kernel
theorem dX6_take_170 : decode cX6_take 170 = .ok (.iconst 1, 1) := by decide +kernel
theorem dX6_take_171 : decode cX6_take 171 = .ok (.isub, 1) := by decide +kernel
theorem dX6_take_172 : decode cX6_take 172 = .ok (.iastore, 1) := by decide +kernel
theorem dX6_take_173 : decode cX6_take 173 = .ok (.iconst 0, 1) := by decide +kernel
theorem dX6_take_174 : decode cX6_take 174 = .ok (.istore 9, 2) := by decide +kernel
theorem dX6_take_176 : decode cX6_take 176 = .ok (.iload 9, 2) := by decide +kernel
theorem dX6_take_178 : decode cX6_take 178 = .ok (.aload_n 0, 1) := by decide +kernel
theorem dX6_take_179 : decode cX6_take 179 = .ok (.getfield 28, 3) := by decide +kernel
theorem dX6_take_182 : decode cX6_take 182 = .ok (.iload_n 1, 1) := by decide +kernel
theorem dX6_take_183 : decode cX6_take 183 = .ok (.iaload, 1) := by decide +kernel
theorem dX6_take_184 : decode cX6_take 184 = .ok (.if_icmp .ge 53, 3) := by decide +kernel
theorem dX6_take_187 : decode cX6_take 187 = .ok (.aload_n 0, 1) := by decide +kernel
theorem dX6_take_188 : decode cX6_take 188 = .ok (.getfield 31, 3) := by decide +kernel
theorem dX6_take_191 : decode cX6_take 191 = .ok (.iload 7, 2) := by decide +kernel
theorem dX6_take_193 : decode cX6_take 193 = .ok (.iload 9, 2) := by decide +kernel
theorem dX6_take_195 : decode cX6_take 195 = .ok (.iadd, 1) := by decide +kernel
theorem dX6_take_196 : decode cX6_take 196 = .ok (.aload_n 0, 1) := by decide +kernel
theorem dX6_take_197 : decode cX6_take 197 = .ok (.getfield 31, 3) := by decide +kernel
theorem dX6_take_200 : decode cX6_take 200 = .ok (.iload 7, 2) := by decide +kernel
theorem dX6_take_202 : decode cX6_take 202 = .ok (.iload 9, 2) := by decide +kernel
theorem dX6_take_204 : decode cX6_take 204 = .ok (.iadd, 1) := by decide +kernel
theorem dX6_take_205 : decode cX6_take 205 = .ok (.iconst 1, 1) := by decide +kernel
theorem dX6_take_206 : decode cX6_take 206 = .ok (.iadd, 1) := by decide +kernel
theorem dX6_take_207 : decode cX6_take 207 = .ok (.iaload, 1) := by decide +kernel
theorem dX6_take_208 : decode cX6_take 208 = .ok (.iastore, 1) := by decide +kernel
theorem dX6_take_209 : decode cX6_take 209 = .ok (.aload_n 0, 1) := by decide +kernel
theorem dX6_take_210 : decode cX6_take 210 = .ok (.getfield 34, 3) := by decide +kernel
theorem dX6_take_213 : decode cX6_take 213 = .ok (.iload 7, 2) := by decide +kernel
theorem dX6_take_215 : decode cX6_take 215 = .ok (.iload 9, 2) := by decide +kernel
theorem dX6_take_217 : decode cX6_take 217 = .ok (.iadd, 1) := by decide +kernel
theorem dX6_take_218 : decode cX6_take 218 = .ok (.aload_n 0, 1) := by decide +kernel
theorem dX6_take_219 : decode cX6_take 219 = .ok (.getfield 34, 3) := by decide +kernel
theorem dX6_take_222 : decode cX6_take 222 = .ok (.iload 7, 2) := by decide +kernel
theorem dX6_take_224 : decode cX6_take 224 = .ok (.iload 9, 2) := by decide +kernel
theorem dX6_take_226 : decode cX6_take 226 = .ok (.iadd, 1) := by decide +kernel
theorem dX6_take_227 : decode cX6_take 227 = .ok (.iconst 1, 1) := by decide +kernel
theorem dX6_take_228 : decode cX6_take 228 = .ok (.iadd, 1) := by decide +kernel
theorem dX6_take_229 : decode cX6_take 229 = .ok (.iaload, 1) := by decide +kernel
theorem dX6_take_230 : decode cX6_take 230 = .ok (.iastore, 1) := by decide +kernel
theorem dX6_take_231 : decode cX6_take 231 = .ok (.iinc 9 1, 3) := by decide +kernel
theorem dX6_take_234 : decode cX6_take 234 = .ok (.goto (-58), 3) := by decide +kernel
theorem dX6_take_237 : decode cX6_take 237 = .ok (.goto (-151), 3) := by decide +kernel
theorem dX6_take_240 : decode cX6_take 240 = .ok (.lload 4, 2) := by decide +kernel
theorem dX6_take_242 : decode cX6_take 242 = .ok (.lreturn, 1) := by decide +kernel
theorem dX6_in_0 : decode cX6_in 0 = .ok (.aload_n 0, 1) := by decide +kernel
theorem dX6_in_1 : decode cX6_in 1 = .ok (.iload_n 1, 1) := by decide +kernel
theorem dX6_in_2 : decode cX6_in 2 = .ok (.i2l, 1) := by decide +kernel
theorem dX6_in_3 : decode cX6_in 3 = .ok (.lconst 0, 1) := by decide +kernel
theorem dX6_in_4 : decode cX6_in 4 = .ok (.ldc2_w 107, 3) := by decide +kernel
theorem dX6_in_7 : decode cX6_in 7 = .ok (.invokestatic 58, 3) := by decide +kernel
theorem dX6_in_10 : decode cX6_in 10 = .ok (.ifCond .eq 15, 3) := by decide +kernel
theorem dX6_in_13 : decode cX6_in 13 = .ok (.iload_n 2, 1) := by decide +kernel
theorem dX6_in_14 : decode cX6_in 14 = .ok (.i2l, 1) := by decide +kernel
theorem dX6_in_15 : decode cX6_in 15 = .ok (.lconst 0, 1) := by decide +kernel
theorem dX6_in_16 : decode cX6_in 16 = .ok (.ldc2_w 113, 3) := by decide +kernel
theorem dX6_in_19 : decode cX6_in 19 = .ok (.invokestatic 58, 3) := by decide +kernel
theorem dX6_in_22 : decode cX6_in 22 = .ok (.ifCond .ne 7, 3) := by decide +kernel
theorem dX6_in_25 : decode cX6_in 25 = .ok (.iconst 1, 1) := by decide +kernel
theorem dX6_in_26 : decode cX6_in 26 = .ok (.goto 4, 3) := by decide +kernel
theorem dX6_in_29 : decode cX6_in 29 = .ok (.iconst 0, 1) := by decide +kernel
theorem dX6_in_30 : decode cX6_in 30 = .ok (.iconst 0, 1) := by decide +kernel
theorem dX6_in_31 : decode cX6_in 31 = .ok (.iconst 0, 1) := by decide +kernel
theorem dX6_in_32 : decode cX6_in 32 = .ok (.iconst 0, 1) := by decide +kernel
theorem dX6_in_33 : decode cX6_in 33 = .ok (.invokevirtual 81, 3) := by decide +kernel
theorem dX6_in_36 : decode cX6_in 36 = .ok (.ifCond .eq 5, 3) := by decide +kernel
theorem dX6_in_39 : decode cX6_in 39 = .ok (.lconst 0, 1) := by decide +kernel
theorem dX6_in_40 : decode cX6_in 40 = .ok (.lreturn, 1) := by decide +kernel
theorem dX6_in_41 : decode cX6_in 41 = .ok (.iload_n 2, 1) := by decide +kernel
theorem dX6_in_42 : decode cX6_in 42 = .ok (.ifCond .ne 9, 3) := by decide +kernel
theorem dX6_in_45 : decode cX6_in 45 = .ok (.aload_n 0, 1) := by decide +kernel
theorem dX6_in_46 : decode cX6_in 46 = .ok (.iload_n 1, 1) := by decide +kernel
theorem dX6_in_47 : decode cX6_in 47 = .ok (.invokevirtual 109, 3) := by decide +kernel
theorem dX6_in_50 : decode cX6_in 50 = .ok (.lreturn, 1) := by decide +kernel
theorem dX6_in_51 : decode cX6_in 51 = .ok (.iload_n 2, 1) := by decide +kernel
theorem dX6_in_52 : decode cX6_in 52 = .ok (.iconst 2, 1) := by decide +kernel
theorem dX6_in_53 : decode cX6_in 53 = .ok (.if_icmp .ne 11, 3) := by decide +kernel
theorem dX6_in_56 : decode cX6_in 56 = .ok (.aload_n 0, 1) := by decide +kernel
theorem dX6_in_57 : decode cX6_in 57 = .ok (.getfield 28, 3) := by decide +kernel
theorem dX6_in_60 : decode cX6_in 60 = .ok (.iload_n 1, 1) := by decide +kernel
theorem dX6_in_61 : decode cX6_in 61 = .ok (.iaload, 1) := by decide +kernel
theorem dX6_in_62 : decode cX6_in 62 = .ok (.i2l, 1) := by decide +kernel
theorem dX6_in_63 : decode cX6_in 63 = .ok (.lreturn, 1) := by decide +kernel
theorem dX6_in_64 : decode cX6_in 64 = .ok (.lconst 0, 1) := by decide +kernel
theorem dX6_in_65 : decode cX6_in 65 = .ok (.lstore_n 3, 1) := by decide +kernel
theorem dX6_in_66 : decode cX6_in 66 = .ok (.iconst 0, 1) := by decide +kernel
theorem dX6_in_67 : decode cX6_in 67 = .ok (.istore 5, 2) := by decide +kernel
theorem dX6_in_69 : decode cX6_in 69 = .ok (.iload 5, 2) := by decide +kernel
theorem dX6_in_71 : decode cX6_in 71 = .ok (.aload_n 0, 1) := by decide +kernel
theorem dX6_in_72 : decode cX6_in 72 = .ok (.getfield 28, 3) := by decide +kernel
theorem dX6_in_75 : decode cX6_in 75 = .ok (.iload_n 1, 1) := by decide +kernel
theorem dX6_in_76 : decode cX6_in 76 = .ok (.iaload, 1) := by decide +kernel
theorem dX6_in_77 : decode cX6_in 77 = .ok (.if_icmp .ge 39, 3) := by decide +kernel
theorem dX6_in_80 : decode cX6_in 80 = .ok (.lload_n 3, 1) := by decide +kernel
theorem dX6_in_81 : decode cX6_in 81 = .ok (.aload_n 0, 1) := by decide +kernel
theorem dX6_in_82 : decode cX6_in 82 = .ok (.getfield 31, 3) := by decide +kernel
theorem dX6_in_85 : decode cX6_in 85 = .ok (.bipush 12, 2) := by decide +kernel
theorem dX6_in_87 : decode cX6_in 87 = .ok (.iload_n 1, 1) := by decide +kernel
theorem dX6_in_88 : decode cX6_in 88 = .ok (.imul, 1) := by decide +kernel
theorem dX6_in_89 : decode cX6_in 89 = .ok (.iload 5, 2) := by decide +kernel
theorem dX6_in_91 : decode cX6_in 91 = .ok (.iadd, 1) := by decide +kernel
theorem dX6_in_92 : decode cX6_in 92 = .ok (.iaload, 1) := by decide +kernel
theorem dX6_in_93 : decode cX6_in 93 = .ok (.i2l, 1) := by decide +kernel
theorem dX6_in_94 : decode cX6_in 94 = .ok (.aload_n 0, 1) := by decide +kernel
theorem dX6_in_95 : decode cX6_in 95 = .ok (.getfield 34, 3) := by decide +kernel
theorem dX6_in_98 : decode cX6_in 98 = .ok (.bipush 12, 2) := by decide +kernel
theorem dX6_in_100 : decode cX6_in 100 = .ok (.iload_n 1, 1) := by decide +kernel
theorem dX6_in_101 : decode cX6_in 101 = .ok (.imul, 1) := by decide +kernel
theorem dX6_in_102 : decode cX6_in 102 = .ok (.iload 5, 2) := by decide +kernel
theorem dX6_in_104 : decode cX6_in 104 = .ok (.iadd, 1) := by decide +kernel
theorem dX6_in_105 : decode cX6_in 105 = .ok (.iaload, 1) := by decide +kernel
theorem dX6_in_106 : decode cX6_in 106 = .ok (.i2l, 1) := by decide +kernel
theorem dX6_in_107 : decode cX6_in 107 = .ok (.lmul, 1) := by decide +kernel
theorem dX6_in_108 : decode cX6_in 108 = .ok (.ladd, 1) := by decide +kernel
theorem dX6_in_109 : decode cX6_in 109 = .ok (.lstore_n 3, 1) := by decide +kernel
theorem dX6_in_110 : decode cX6_in 110 = .ok (.iinc 5 1, 3) := by decide +kernel
theorem dX6_in_113 : decode cX6_in 113 = .ok (.goto (-44), 3) := by decide +kernel
theorem dX6_in_116 : decode cX6_in 116 = .ok (.lload_n 3, 1) := by decide +kernel
theorem dX6_in_117 : decode cX6_in 117 = .ok (.lreturn, 1) := by decide +kernel
theorem dX6_rate_0 : decode cX6_rate 0 = .ok (.iload_n 1, 1) := by decide +kernel
theorem dX6_rate_1 : decode cX6_rate 1 = .ok (.i2l, 1) := by decide +kernel
theorem dX6_rate_2 : decode cX6_rate 2 = .ok (.lconst 0, 1) := by decide +kernel
theorem dX6_rate_3 : decode cX6_rate 3 = .ok (.ldc2_w 113, 3) := by decide +kernel
theorem dX6_rate_6 : decode cX6_rate 6 = .ok (.invokestatic 58, 3) := by decide +kernel
theorem dX6_rate_9 : decode cX6_rate 9 = .ok (.ifCond .ne 7, 3) := by decide +kernel
theorem dX6_rate_12 : decode cX6_rate 12 = .ok (.iconst 1, 1) := by decide +kernel
theorem dX6_rate_13 : decode cX6_rate 13 = .ok (.goto 4, 3) := by decide +kernel
theorem dX6_rate_16 : decode cX6_rate 16 = .ok (.iconst 0, 1) := by decide +kernel
theorem dX6_rate_17 : decode cX6_rate 17 = .ok (.istore 4, 2) := by decide +kernel
theorem dX6_rate_19 : decode cX6_rate 19 = .ok (.iload 4, 2) := by decide +kernel
theorem dX6_rate_21 : decode cX6_rate 21 = .ok (.ifCond .eq 7, 3) := by decide +kernel
theorem dX6_rate_24 : decode cX6_rate 24 = .ok (.iconst 0, 1) := by decide +kernel
theorem dX6_rate_25 : decode cX6_rate 25 = .ok (.goto 9, 3) := by decide +kernel
theorem dX6_rate_28 : decode cX6_rate 28 = .ok (.aload_n 0, 1) := by decide +kernel
theorem dX6_rate_29 : decode cX6_rate 29 = .ok (.getfield 37, 3) := by decide +kernel
theorem dX6_rate_32 : decode cX6_rate 32 = .ok (.iload_n 1, 1) := by decide +kernel
theorem dX6_rate_33 : decode cX6_rate 33 = .ok (.iaload, 1) := by decide +kernel
theorem dX6_rate_34 : decode cX6_rate 34 = .ok (.istore 5, 2) := by decide +kernel
theorem dX6_rate_36 : decode cX6_rate 36 = .ok (.iload 5, 2) := by decide +kernel
theorem dX6_rate_38 : decode cX6_rate 38 = .ok (.ifCond .le 43, 3) := by decide +kernel
theorem dX6_rate_41 : decode cX6_rate 41 = .ok (.iload_n 2, 1) := by decide +kernel
theorem dX6_rate_42 : decode cX6_rate 42 = .ok (.aload_n 0, 1) := by decide +kernel
theorem dX6_rate_43 : decode cX6_rate 43 = .ok (.getfield 40, 3) := by decide +kernel
theorem dX6_rate_46 : decode cX6_rate 46 = .ok (.bipush 10, 2) := by decide +kernel
theorem dX6_rate_48 : decode cX6_rate 48 = .ok (.iload 4, 2) := by decide +kernel
theorem dX6_rate_50 : decode cX6_rate 50 = .ok (.ifCond .eq 7, 3) := by decide +kernel
theorem dX6_rate_53 : decode cX6_rate 53 = .ok (.iconst 0, 1) := by decide +kernel
theorem dX6_rate_54 : decode cX6_rate 54 = .ok (.goto 4, 3) := by decide +kernel
theorem dX6_rate_57 : decode cX6_rate 57 = .ok (.iload_n 1, 1) := by decide +kernel
theorem dX6_rate_58 : decode cX6_rate 58 = .ok (.imul, 1) := by decide +kernel
theorem dX6_rate_59 : decode cX6_rate 59 = .ok (.iload 5, 2) := by decide +kernel
theorem dX6_rate_61 : decode cX6_rate 61 = .ok (.ifCond .le 10, 3) := by decide +kernel
theorem dX6_rate_64 : decode cX6_rate 64 = .ok (.iload 5, 2) := by decide +kernel
theorem dX6_rate_66 : decode cX6_rate 66 = .ok (.iconst 1, 1) := by decide +kernel
theorem dX6_rate_67 : decode cX6_rate 67 = .ok (.isub, 1) := by decide +kernel
theorem dX6_rate_68 : decode cX6_rate 68 = .ok (.goto 4, 3) := by decide +kernel
theorem dX6_rate_71 : decode cX6_rate 71 = .ok (.iconst 0, 1) := by decide +kernel
theorem dX6_rate_72 : decode cX6_rate 72 = .ok (.iadd, 1) := by decide +kernel
theorem dX6_rate_73 : decode cX6_rate 73 = .ok (.iaload, 1) := by decide +kernel
theorem dX6_rate_74 : decode cX6_rate 74 = .ok (.if_icmp .gt 7, 3) := by decide +kernel
theorem dX6_rate_77 : decode cX6_rate 77 = .ok (.iconst 1, 1) := by decide +kernel
theorem dX6_rate_78 : decode cX6_rate 78 = .ok (.goto 4, 3) := by decide +kernel
theorem dX6_rate_81 : decode cX6_rate 81 = .ok (.iconst 0, 1) := by decide +kernel
theorem dX6_rate_82 : decode cX6_rate 82 = .ok (.istore 6, 2) := by decide +kernel
theorem dX6_rate_84 : decode cX6_rate 84 = .ok (.aload_n 0, 1) := by decide +kernel
theorem dX6_rate_85 : decode cX6_rate 85 = .ok (.iload 4, 2) := by decide +kernel
theorem dX6_rate_87 : decode cX6_rate 87 = .ok (.iload 5, 2) := by decide +kernel
theorem dX6_rate_89 : decode cX6_rate 89 = .ok (.bipush 10, 2) := by decide +kernel
theorem dX6_rate_91 : decode cX6_rate 91 = .ok (.if_icmp .ne 7, 3) := by decide +kernel
theorem dX6_rate_94 : decode cX6_rate 94 = .ok (.iconst 1, 1) := by decide +kernel
theorem dX6_rate_95 : decode cX6_rate 95 = .ok (.goto 4, 3) := by decide +kernel
theorem dX6_rate_98 : decode cX6_rate 98 = .ok (.iconst 0, 1) := by decide +kernel
theorem dX6_rate_99 : decode cX6_rate 99 = .ok (.iload_n 2, 1) := by decide +kernel
theorem dX6_rate_100 : decode cX6_rate 100 = .ok (.i2l, 1) := by decide +kernel
theorem dX6_rate_101 : decode cX6_rate 101 = .ok (.lconst 0, 1) := by decide +kernel
theorem dX6_rate_102 : decode cX6_rate 102 = .ok (.ldc2_w 115, 3) := by decide +kernel
theorem dX6_rate_105 : decode cX6_rate 105 = .ok (.invokestatic 58, 3) := by decide +kernel
theorem dX6_rate_108 : decode cX6_rate 108 = .ok (.ifCond .eq 20, 3) := by decide +kernel
theorem dX6_rate_111 : decode cX6_rate 111 = .ok (.iload_n 3, 1) := by decide +kernel
theorem dX6_rate_112 : decode cX6_rate 112 = .ok (.i2l, 1) := by decide +kernel
theorem dX6_rate_113 : decode cX6_rate 113 = .ok (.lconst 1, 1) := by decide +kernel
theorem dX6_rate_114 : decode cX6_rate 114 = .ok (.ldc2_w 117, 3) := by decide +kernel
theorem dX6_rate_117 : decode cX6_rate 117 = .ok (.invokestatic 58, 3) := by decide +kernel
theorem dX6_rate_120 : decode cX6_rate 120 = .ok (.ifCond .eq 8, 3) := by decide +kernel
theorem dX6_rate_123 : decode cX6_rate 123 = .ok (.iload 6, 2) := by decide +kernel
theorem dX6_rate_125 : decode cX6_rate 125 = .ok (.ifCond .eq 7, 3) := by decide +kernel
theorem dX6_rate_128 : decode cX6_rate 128 = .ok (.iconst 1, 1) := by decide +kernel
theorem dX6_rate_129 : decode cX6_rate 129 = .ok (.goto 4, 3) := by decide +kernel
theorem dX6_rate_132 : decode cX6_rate 132 = .ok (.iconst 0, 1) := by decide +kernel
theorem dX6_rate_133 : decode cX6_rate 133 = .ok (.iconst 0, 1) := by decide +kernel
theorem dX6_rate_134 : decode cX6_rate 134 = .ok (.invokevirtual 81, 3) := by decide +kernel
theorem dX6_rate_137 : decode cX6_rate 137 = .ok (.ifCond .eq 5, 3) := by decide +kernel
theorem dX6_rate_140 : decode cX6_rate 140 = .ok (.iconst 0, 1) := by decide +kernel
theorem dX6_rate_141 : decode cX6_rate 141 = .ok (.ireturn, 1) := by decide +kernel
theorem dX6_rate_142 : decode cX6_rate 142 = .ok (.aload_n 0, 1) := by decide +kernel
theorem dX6_rate_143 : decode cX6_rate 143 = .ok (.getfield 40, 3) := by decide +kernel
theorem dX6_rate_146 : decode cX6_rate 146 = .ok (.bipush 10, 2) := by decide +kernel
theorem dX6_rate_148 : decode cX6_rate 148 = .ok (.iload_n 1, 1) := by decide +kernel
theorem dX6_rate_149 : decode cX6_rate 149 = .ok (.imul, 1) := by decide +kernel
theorem dX6_rate_150 : decode cX6_rate 150 = .ok (.iload 5, 2) := by decide +kernel
theorem dX6_rate_152 : decode cX6_rate 152 = .ok (.iadd, 1) := by decide +kernel
theorem dX6_rate_153 : decode cX6_rate 153 = .ok (.iload_n 2, 1) := by decide +kernel
theorem dX6_rate_154 : decode cX6_rate 154 = .ok (.iastore, 1) := by decide +kernel
theorem dX6_rate_155 : decode cX6_rate 155 = .ok (.aload_n 0, 1) := by decide +kernel
theorem dX6_rate_156 : decode cX6_rate 156 = .ok (.getfield 43, 3) := by decide +kernel
theorem dX6_rate_159 : decode cX6_rate 159 = .ok (.bipush 10, 2) := by decide +kernel
theorem dX6_rate_161 : decode cX6_rate 161 = .ok (.iload_n 1, 1) := by decide +kernel
theorem dX6_rate_162 : decode cX6_rate 162 = .ok (.imul, 1) := by decide +kernel
theorem dX6_rate_163 : decode cX6_rate 163 = .ok (.iload 5, 2) := by decide +kernel
theorem dX6_rate_165 : decode cX6_rate 165 = .ok (.iadd, 1) := by decide +kernel
theorem dX6_rate_166 : decode cX6_rate 166 = .ok (.iload_n 3, 1) := by decide +kernel
theorem dX6_rate_167 : decode cX6_rate 167 = .ok (.iastore, 1) := by decide +kernel
theorem dX6_rate_168 : decode cX6_rate 168 = .ok (.aload_n 0, 1) := by decide +kernel
theorem dX6_rate_169 : decode cX6_rate 169 = .ok (.getfield 37, 3) := by decide +kernel
theorem dX6_rate_172 : decode cX6_rate 172 = .ok (.iload_n 1, 1) := by decide +kernel
theorem dX6_rate_173 : decode cX6_rate 173 = .ok (.dup2, 1) := by decide +kernel
theorem dX6_rate_174 : decode cX6_rate 174 = .ok (.iaload, 1) := by decide +kernel
theorem dX6_rate_175 : decode cX6_rate 175 = .ok (.iconst 1, 1) := by decide +kernel
theorem dX6_rate_176 : decode cX6_rate 176 = .ok (.iadd, 1) := by decide +kernel
theorem dX6_rate_177 : decode cX6_rate 177 = .ok (.iastore, 1) := by decide +kernel
theorem dX6_rate_178 : decode cX6_rate 178 = .ok (.aload_n 0, 1) := by decide +kernel
theorem dX6_rate_179 : decode cX6_rate 179 = .ok (.getfield 37, 3) := by decide +kernel
theorem dX6_rate_182 : decode cX6_rate 182 = .ok (.iload_n 1, 1) := by decide +kernel
theorem dX6_rate_183 : decode cX6_rate 183 = .ok (.iaload, 1) := by decide +kernel
theorem dX6_rate_184 : decode cX6_rate 184 = .ok (.ireturn, 1) := by decide +kernel
theorem dX6_foreign_0 : decode cX6_foreign 0 = .ok (.iload_n 1, 1) := by decide +kernel
theorem dX6_foreign_1 : decode cX6_foreign 1 = .ok (.i2l, 1) := by decide +kernel
theorem dX6_foreign_2 : decode cX6_foreign 2 = .ok (.lconst 0, 1) := by decide +kernel
theorem dX6_foreign_3 : decode cX6_foreign 3 = .ok (.ldc2_w 113, 3) := by decide +kernel
theorem dX6_foreign_6 : decode cX6_foreign 6 = .ok (.invokestatic 58, 3) := by decide +kernel
theorem dX6_foreign_9 : decode cX6_foreign 9 = .ok (.ifCond .ne 7, 3) := by decide +kernel
theorem dX6_foreign_12 : decode cX6_foreign 12 = .ok (.iconst 1, 1) := by decide +kernel
theorem dX6_foreign_13 : decode cX6_foreign 13 = .ok (.goto 4, 3) := by decide +kernel
theorem dX6_foreign_16 : decode cX6_foreign 16 = .ok (.iconst 0, 1) := by decide +kernel
theorem dX6_foreign_17 : decode cX6_foreign 17 = .ok (.istore 4, 2) := by decide +kernel
theorem dX6_foreign_19 : decode cX6_foreign 19 = .ok (.iconst 0, 1) := by decide +kernel
theorem dX6_foreign_20 : decode cX6_foreign 20 = .ok (.istore 5, 2) := by decide +kernel
theorem dX6_foreign_22 : decode cX6_foreign 22 = .ok (.iconst 0, 1) := by decide +kernel
theorem dX6_foreign_23 : decode cX6_foreign 23 = .ok (.istore 6, 2) := by decide +kernel
theorem dX6_foreign_25 : decode cX6_foreign 25 = .ok (.iload 6, 2) := by decide +kernel
theorem dX6_foreign_27 : decode cX6_foreign 27 = .ok (.iload 4, 2) := by decide +kernel
theorem dX6_foreign_29 : decode cX6_foreign 29 = .ok (.ifCond .eq 7, 3) := by decide +kernel
theorem dX6_foreign_32 : decode cX6_foreign 32 = .ok (.iconst 0, 1) := by decide +kernel
theorem dX6_foreign_33 : decode cX6_foreign 33 = .ok (.goto 9, 3) := by decide +kernel
theorem dX6_foreign_36 : decode cX6_foreign 36 = .ok (.aload_n 0, 1) := by decide +kernel
theorem dX6_foreign_37 : decode cX6_foreign 37 = .ok (.getfield 37, 3) := by decide +kernel
theorem dX6_foreign_40 : decode cX6_foreign 40 = .ok (.iload_n 1, 1) := by decide +kernel
theorem dX6_foreign_41 : decode cX6_foreign 41 = .ok (.iaload, 1) := by decide +kernel
theorem dX6_foreign_42 : decode cX6_foreign 42 = .ok (.if_icmp .ge 44, 3) := by decide +kernel
theorem dX6_foreign_45 : decode cX6_foreign 45 = .ok (.aload_n 0, 1) := by decide +kernel
theorem dX6_foreign_46 : decode cX6_foreign 46 = .ok (.getfield 40, 3) := by decide +kernel
theorem dX6_foreign_49 : decode cX6_foreign 49 = .ok (.bipush 10, 2) := by decide +kernel
theorem dX6_foreign_51 : decode cX6_foreign 51 = .ok (.iload_n 1, 1) := by decide +kernel
theorem dX6_foreign_52 : decode cX6_foreign 52 = .ok (.imul, 1) := by decide +kernel
theorem dX6_foreign_53 : decode cX6_foreign 53 = .ok (.iload 6, 2) := by decide +kernel
theorem dX6_foreign_55 : decode cX6_foreign 55 = .ok (.iadd, 1) := by decide +kernel
theorem dX6_foreign_56 : decode cX6_foreign 56 = .ok (.iaload, 1) := by decide +kernel
theorem dX6_foreign_57 : decode cX6_foreign 57 = .ok (.iload_n 2, 1) := by decide +kernel
theorem dX6_foreign_58 : decode cX6_foreign 58 = .ok (.if_icmp .gt 18, 3) := by decide +kernel
theorem dX6_foreign_61 : decode cX6_foreign 61 = .ok (.aload_n 0, 1) := by decide +kernel
theorem dX6_foreign_62 : decode cX6_foreign 62 = .ok (.getfield 43, 3) := by decide +kernel
theorem dX6_foreign_65 : decode cX6_foreign 65 = .ok (.bipush 10, 2) := by decide +kernel
theorem dX6_foreign_67 : decode cX6_foreign 67 = .ok (.iload_n 1, 1) := by decide +kernel
theorem dX6_foreign_68 : decode cX6_foreign 68 = .ok (.imul, 1) := by decide +kernel
theorem dX6_foreign_69 : decode cX6_foreign 69 = .ok (.iload 6, 2) := by decide +kernel
theorem dX6_foreign_71 : decode cX6_foreign 71 = .ok (.iadd, 1) := by decide +kernel
theorem dX6_foreign_72 : decode cX6_foreign 72 = .ok (.iaload, 1) := by decide +kernel
theorem dX6_foreign_73 : decode cX6_foreign 73 = .ok (.goto 5, 3) := by decide +kernel
theorem dX6_foreign_76 : decode cX6_foreign 76 = .ok (.iload 5, 2) := by decide +kernel
theorem dX6_foreign_78 : decode cX6_foreign 78 = .ok (.istore 5, 2) := by decide +kernel
theorem dX6_foreign_80 : decode cX6_foreign 80 = .ok (.iinc 6 1, 3) := by decide +kernel
theorem dX6_foreign_83 : decode cX6_foreign 83 = .ok (.goto (-58), 3) := by decide +kernel
theorem dX6_foreign_86 : decode cX6_foreign 86 = .ok (.aload_n 0, 1) := by decide +kernel
theorem dX6_foreign_87 : decode cX6_foreign 87 = .ok (.iload 4, 2) := by decide +kernel
theorem dX6_foreign_89 : decode cX6_foreign 89 = .ok (.iload_n 2, 1) := by decide +kernel
theorem dX6_foreign_90 : decode cX6_foreign 90 = .ok (.i2l, 1) := by decide +kernel
theorem dX6_foreign_91 : decode cX6_foreign 91 = .ok (.lconst 0, 1) := by decide +kernel
theorem dX6_foreign_92 : decode cX6_foreign 92 = .ok (.ldc2_w 115, 3) := by decide +kernel
theorem dX6_foreign_95 : decode cX6_foreign 95 = .ok (.invokestatic 58, 3) := by decide +kernel
theorem dX6_foreign_98 : decode cX6_foreign 98 = .ok (.ifCond .eq 15, 3) := by decide +kernel
theorem dX6_foreign_101 : decode cX6_foreign 101 = .ok (.iload_n 3, 1) := by decide +kernel
theorem dX6_foreign_102 : decode cX6_foreign 102 = .ok (.i2l, 1) := by decide +kernel
theorem dX6_foreign_103 : decode cX6_foreign 103 = .ok (.lconst 0, 1) := by decide +kernel
theorem dX6_foreign_104 : decode cX6_foreign 104 = .ok (.ldc2_w 72, 3) := by decide +kernel
theorem dX6_foreign_107 : decode cX6_foreign 107 = .ok (.invokestatic 58, 3) := by decide +kernel
theorem dX6_foreign_110 : decode cX6_foreign 110 = .ok (.ifCond .ne 7, 3) := by decide +kernel
theorem dX6_foreign_113 : decode cX6_foreign 113 = .ok (.iconst 1, 1) := by decide +kernel
theorem dX6_foreign_114 : decode cX6_foreign 114 = .ok (.goto 4, 3) := by decide +kernel
theorem dX6_foreign_117 : decode cX6_foreign 117 = .ok (.iconst 0, 1) := by decide +kernel
theorem dX6_foreign_118 : decode cX6_foreign 118 = .ok (.iload 5, 2) := by decide +kernel
theorem dX6_foreign_120 : decode cX6_foreign 120 = .ok (.ifCond .ne 7, 3) := by decide +kernel
theorem dX6_foreign_123 : decode cX6_foreign 123 = .ok (.iconst 1, 1) := by decide +kernel
theorem dX6_foreign_124 : decode cX6_foreign 124 = .ok (.goto 4, 3) := by decide +kernel
theorem dX6_foreign_127 : decode cX6_foreign 127 = .ok (.iconst 0, 1) := by decide +kernel
theorem dX6_foreign_128 : decode cX6_foreign 128 = .ok (.iconst 0, 1) := by decide +kernel
theorem dX6_foreign_129 : decode cX6_foreign 129 = .ok (.invokevirtual 81, 3) := by decide +kernel
theorem dX6_foreign_132 : decode cX6_foreign 132 = .ok (.ifCond .eq 5, 3) := by decide +kernel
theorem dX6_foreign_135 : decode cX6_foreign 135 = .ok (.lconst 0, 1) := by decide +kernel
theorem dX6_foreign_136 : decode cX6_foreign 136 = .ok (.lreturn, 1) := by decide +kernel
theorem dX6_foreign_137 : decode cX6_foreign 137 = .ok (.ldc2_w 113, 3) := by decide +kernel
theorem dX6_foreign_140 : decode cX6_foreign 140 = .ok (.iload_n 3, 1) := by decide +kernel
theorem dX6_foreign_141 : decode cX6_foreign 141 = .ok (.i2l, 1) := by decide +kernel
theorem dX6_foreign_142 : decode cX6_foreign 142 = .ok (.lmul, 1) := by decide +kernel
theorem dX6_foreign_143 : decode cX6_foreign 143 = .ok (.iload 5, 2) := by decide +kernel
theorem dX6_foreign_145 : decode cX6_foreign 145 = .ok (.i2l, 1) := by decide +kernel
theorem dX6_foreign_146 : decode cX6_foreign 146 = .ok (.lmul, 1) := by decide +kernel
theorem dX6_foreign_147 : decode cX6_foreign 147 = .ok (.ldc2_w 119, 3) := by decide +kernel
theorem dX6_foreign_150 : decode cX6_foreign 150 = .ok (.ladd, 1) := by decide +kernel
theorem dX6_foreign_151 : decode cX6_foreign 151 = .ok (.ldc2_w 121, 3) := by decide +kernel
theorem dX6_foreign_154 : decode cX6_foreign 154 = .ok (.ldiv, 1) := by decide +kernel
theorem dX6_foreign_155 : decode cX6_foreign 155 = .ok (.lreturn, 1) := by decide +kernel
theorem dX6_piece_0 : decode cX6_piece 0 = .ok (.aload_n 0, 1) := by decide +kernel
theorem dX6_piece_1 : decode cX6_piece 1 = .ok (.iload_n 1, 1) := by decide +kernel
theorem dX6_piece_2 : decode cX6_piece 2 = .ok (.i2l, 1) := by decide +kernel
theorem dX6_piece_3 : decode cX6_piece 3 = .ok (.lconst 0, 1) := by decide +kernel
theorem dX6_piece_4 : decode cX6_piece 4 = .ok (.ldc2_w 56, 3) := by decide +kernel
theorem dX6_piece_7 : decode cX6_piece 7 = .ok (.invokestatic 58, 3) := by decide +kernel
theorem dX6_piece_10 : decode cX6_piece 10 = .ok (.ifCond .ne 7, 3) := by decide +kernel
theorem dX6_piece_13 : decode cX6_piece 13 = .ok (.iconst 1, 1) := by decide +kernel
theorem dX6_piece_14 : decode cX6_piece 14 = .ok (.goto 4, 3) := by decide +kernel
theorem dX6_piece_17 : decode cX6_piece 17 = .ok (.iconst 0, 1) := by decide +kernel
theorem dX6_piece_18 : decode cX6_piece 18 = .ok (.aload_n 0, 1) := by decide +kernel
theorem dX6_piece_19 : decode cX6_piece 19 = .ok (.getfield 102, 3) := by decide +kernel
theorem dX6_piece_22 : decode cX6_piece 22 = .ok (.bipush 10, 2) := by decide +kernel
theorem dX6_piece_24 : decode cX6_piece 24 = .ok (.if_icmp .ne 7, 3) := by decide +kernel
theorem dX6_piece_27 : decode cX6_piece 27 = .ok (.iconst 1, 1) := by decide +kernel
theorem dX6_piece_28 : decode cX6_piece 28 = .ok (.goto 4, 3) := by decide +kernel
theorem dX6_piece_31 : decode cX6_piece 31 = .ok (.iconst 0, 1) := by decide +kernel
theorem dX6_piece_32 : decode cX6_piece 32 = .ok (.iload_n 2, 1) := by decide +kernel
theorem dX6_piece_33 : decode cX6_piece 33 = .ok (.i2l, 1) := by decide +kernel
theorem dX6_piece_34 : decode cX6_piece 34 = .ok (.lconst 1, 1) := by decide +kernel
theorem dX6_piece_35 : decode cX6_piece 35 = .ok (.ldc2_w 105, 3) := by decide +kernel
theorem dX6_piece_38 : decode cX6_piece 38 = .ok (.invokestatic 58, 3) := by decide +kernel
theorem dX6_piece_41 : decode cX6_piece 41 = .ok (.ifCond .ne 7, 3) := by decide +kernel
theorem dX6_piece_44 : decode cX6_piece 44 = .ok (.iconst 1, 1) := by decide +kernel
theorem dX6_piece_45 : decode cX6_piece 45 = .ok (.goto 4, 3) := by decide +kernel
theorem dX6_piece_48 : decode cX6_piece 48 = .ok (.iconst 0, 1) := by decide +kernel
theorem dX6_piece_49 : decode cX6_piece 49 = .ok (.iconst 0, 1) := by decide +kernel
theorem dX6_piece_50 : decode cX6_piece 50 = .ok (.invokevirtual 81, 3) := by decide +kernel
theorem dX6_piece_53 : decode cX6_piece 53 = .ok (.ifCond .eq 5, 3) := by decide +kernel
theorem dX6_piece_56 : decode cX6_piece 56 = .ok (.iconst 0, 1) := by decide +kernel
theorem dX6_piece_57 : decode cX6_piece 57 = .ok (.ireturn, 1) := by decide +kernel
theorem dX6_piece_58 : decode cX6_piece 58 = .ok (.aload_n 0, 1) := by decide +kernel
theorem dX6_piece_59 : decode cX6_piece 59 = .ok (.getfield 46, 3) := by decide +kernel
theorem dX6_piece_62 : decode cX6_piece 62 = .ok (.aload_n 0, 1) := by decide +kernel
theorem dX6_piece_63 : decode cX6_piece 63 = .ok (.getfield 102, 3) := by decide +kernel
theorem dX6_piece_66 : decode cX6_piece 66 = .ok (.iload_n 1, 1) := by decide +kernel
theorem dX6_piece_67 : decode cX6_piece 67 = .ok (.iastore, 1) := by decide +kernel
theorem dX6_piece_68 : decode cX6_piece 68 = .ok (.aload_n 0, 1) := by decide +kernel
theorem dX6_piece_69 : decode cX6_piece 69 = .ok (.getfield 49, 3) := by decide +kernel
theorem dX6_piece_72 : decode cX6_piece 72 = .ok (.aload_n 0, 1) := by decide +kernel
theorem dX6_piece_73 : decode cX6_piece 73 = .ok (.getfield 102, 3) := by decide +kernel
theorem dX6_piece_76 : decode cX6_piece 76 = .ok (.iload_n 2, 1) := by decide +kernel
theorem dX6_piece_77 : decode cX6_piece 77 = .ok (.iastore, 1) := by decide +kernel
theorem dX6_piece_78 : decode cX6_piece 78 = .ok (.aload_n 0, 1) := by decide +kernel
theorem dX6_piece_79 : decode cX6_piece 79 = .ok (.dup, 1) := by decide +kernel
theorem dX6_piece_80 : decode cX6_piece 80 = .ok (.getfield 102, 3) := by decide +kernel
theorem dX6_piece_83 : decode cX6_piece 83 = .ok (.iconst 1, 1) := by decide +kernel
theorem dX6_piece_84 : decode cX6_piece 84 = .ok (.iadd, 1) := by decide +kernel
theorem dX6_piece_85 : decode cX6_piece 85 = .ok (.putfield 102, 3) := by decide +kernel
theorem dX6_piece_88 : decode cX6_piece 88 = .ok (.aload_n 0, 1) := by decide +kernel
theorem dX6_piece_89 : decode cX6_piece 89 = .ok (.getfield 102, 3) := by decide +kernel
theorem dX6_piece_92 : decode cX6_piece 92 = .ok (.iconst 1, 1) := by decide +kernel
theorem dX6_piece_93 : decode cX6_piece 93 = .ok (.isub, 1) := by decide +kernel
theorem dX6_piece_94 : decode cX6_piece 94 = .ok (.ireturn, 1) := by decide +kernel
theorem dX6_opened_0 : decode cX6_opened 0 = .ok (.aload_n 0, 1) := by decide +kernel
theorem dX6_opened_1 : decode cX6_opened 1 = .ok (.iload_n 1, 1) := by decide +kernel
theorem dX6_opened_2 : decode cX6_opened 2 = .ok (.i2l, 1) := by decide +kernel
theorem dX6_opened_3 : decode cX6_opened 3 = .ok (.lconst 0, 1) := by decide +kernel
theorem dX6_opened_4 : decode cX6_opened 4 = .ok (.aload_n 0, 1) := by decide +kernel
theorem dX6_opened_5 : decode cX6_opened 5 = .ok (.getfield 102, 3) := by decide +kernel
theorem dX6_opened_8 : decode cX6_opened 8 = .ok (.iconst 1, 1) := by decide +kernel
theorem dX6_opened_9 : decode cX6_opened 9 = .ok (.isub, 1) := by decide +kernel
theorem dX6_opened_10 : decode cX6_opened 10 = .ok (.i2l, 1) := by decide +kernel
theorem dX6_opened_11 : decode cX6_opened 11 = .ok (.invokestatic 58, 3) := by decide +kernel
theorem dX6_opened_14 : decode cX6_opened 14 = .ok (.ifCond .ne 7, 3) := by decide +kernel
theorem dX6_opened_17 : decode cX6_opened 17 = .ok (.iconst 1, 1) := by decide +kernel
theorem dX6_opened_18 : decode cX6_opened 18 = .ok (.goto 4, 3) := by decide +kernel
theorem dX6_opened_21 : decode cX6_opened 21 = .ok (.iconst 0, 1) := by decide +kernel
theorem dX6_opened_22 : decode cX6_opened 22 = .ok (.iconst 0, 1) := by decide +kernel
theorem dX6_opened_23 : decode cX6_opened 23 = .ok (.iconst 0, 1) := by decide +kernel
theorem dX6_opened_24 : decode cX6_opened 24 = .ok (.iconst 0, 1) := by decide +kernel
theorem dX6_opened_25 : decode cX6_opened 25 = .ok (.invokevirtual 81, 3) := by decide +kernel
theorem dX6_opened_28 : decode cX6_opened 28 = .ok (.ifCond .eq 5, 3) := by decide +kernel
theorem dX6_opened_31 : decode cX6_opened 31 = .ok (.lconst 0, 1) := by decide +kernel
theorem dX6_opened_32 : decode cX6_opened 32 = .ok (.lreturn, 1) := by decide +kernel
theorem dX6_opened_33 : decode cX6_opened 33 = .ok (.lconst 0, 1) := by decide +kernel
theorem dX6_opened_34 : decode cX6_opened 34 = .ok (.lstore_n 2, 1) := by decide +kernel
theorem dX6_opened_35 : decode cX6_opened 35 = .ok (.lconst 0, 1) := by decide +kernel
theorem dX6_opened_36 : decode cX6_opened 36 = .ok (.lstore 4, 2) := by decide +kernel
theorem dX6_opened_38 : decode cX6_opened 38 = .ok (.iconst 0, 1) := by decide +kernel
theorem dX6_opened_39 : decode cX6_opened 39 = .ok (.istore 6, 2) := by decide +kernel
theorem dX6_opened_41 : decode cX6_opened 41 = .ok (.iload 6, 2) := by decide +kernel
theorem dX6_opened_43 : decode cX6_opened 43 = .ok (.aload_n 0, 1) := by decide +kernel
theorem dX6_opened_44 : decode cX6_opened 44 = .ok (.getfield 102, 3) := by decide +kernel
theorem dX6_opened_47 : decode cX6_opened 47 = .ok (.if_icmp .ge 62, 3) := by decide +kernel
theorem dX6_opened_50 : decode cX6_opened 50 = .ok (.aload_n 0, 1) := by decide +kernel
theorem dX6_opened_51 : decode cX6_opened 51 = .ok (.getfield 46, 3) := by decide +kernel
theorem dX6_opened_54 : decode cX6_opened 54 = .ok (.iload 6, 2) := by decide +kernel
theorem dX6_opened_56 : decode cX6_opened 56 = .ok (.iaload, 1) := by decide +kernel
theorem dX6_opened_57 : decode cX6_opened 57 = .ok (.aload_n 0, 1) := by decide +kernel
theorem dX6_opened_58 : decode cX6_opened 58 = .ok (.getfield 46, 3) := by decide +kernel
theorem dX6_opened_61 : decode cX6_opened 61 = .ok (.iload_n 1, 1) := by decide +kernel
theorem dX6_opened_62 : decode cX6_opened 62 = .ok (.iaload, 1) := by decide +kernel
theorem dX6_opened_63 : decode cX6_opened 63 = .ok (.if_icmp .ne 13, 3) := by decide +kernel
theorem dX6_opened_66 : decode cX6_opened 66 = .ok (.aload_n 0, 1) := by decide +kernel
theorem dX6_opened_67 : decode cX6_opened 67 = .ok (.getfield 49, 3) := by decide +kernel
theorem dX6_opened_70 : decode cX6_opened 70 = .ok (.iload 6, 2) := by decide +kernel
theorem dX6_opened_72 : decode cX6_opened 72 = .ok (.iaload, 1) := by decide +kernel
theorem dX6_opened_73 : decode cX6_opened 73 = .ok (.goto 4, 3) := by decide +kernel
theorem dX6_opened_76 : decode cX6_opened 76 = .ok (.iconst 0, 1) := by decide +kernel
theorem dX6_opened_77 : decode cX6_opened 77 = .ok (.istore 7, 2) := by decide +kernel
theorem dX6_opened_79 : decode cX6_opened 79 = .ok (.lload_n 2, 1) := by decide +kernel
theorem dX6_opened_80 : decode cX6_opened 80 = .ok (.iload 7, 2) := by decide +kernel
theorem dX6_opened_82 : decode cX6_opened 82 = .ok (.i2l, 1) := by decide +kernel
theorem dX6_opened_83 : decode cX6_opened 83 = .ok (.ladd, 1) := by decide +kernel
theorem dX6_opened_84 : decode cX6_opened 84 = .ok (.lstore_n 2, 1) := by decide +kernel
theorem dX6_opened_85 : decode cX6_opened 85 = .ok (.lload 4, 2) := by decide +kernel
theorem dX6_opened_87 : decode cX6_opened 87 = .ok (.iload 6, 2) := by decide +kernel
theorem dX6_opened_89 : decode cX6_opened 89 = .ok (.iload_n 1, 1) := by decide +kernel
theorem dX6_opened_90 : decode cX6_opened 90 = .ok (.if_icmp .gt 9, 3) := by decide +kernel
theorem dX6_opened_93 : decode cX6_opened 93 = .ok (.iload 7, 2) := by decide +kernel
theorem dX6_opened_95 : decode cX6_opened 95 = .ok (.i2l, 1) := by decide +kernel
theorem dX6_opened_96 : decode cX6_opened 96 = .ok (.goto 4, 3) := by decide +kernel
theorem dX6_opened_99 : decode cX6_opened 99 = .ok (.lconst 0, 1) := by decide +kernel
theorem dX6_opened_100 : decode cX6_opened 100 = .ok (.ladd, 1) := by decide +kernel
theorem dX6_opened_101 : decode cX6_opened 101 = .ok (.lstore 4, 2) := by decide +kernel
theorem dX6_opened_103 : decode cX6_opened 103 = .ok (.iinc 6 1, 3) := by decide +kernel
theorem dX6_opened_106 : decode cX6_opened 106 = .ok (.goto (-65), 3) := by decide +kernel
theorem dX6_opened_109 : decode cX6_opened 109 = .ok (.aload_n 0, 1) := by decide +kernel
theorem dX6_opened_110 : decode cX6_opened 110 = .ok (.iconst 1, 1) := by decide +kernel
theorem dX6_opened_111 : decode cX6_opened 111 = .ok (.aload_n 0, 1) := by decide +kernel
theorem dX6_opened_112 : decode cX6_opened 112 = .ok (.getfield 46, 3) := by decide +kernel
theorem dX6_opened_115 : decode cX6_opened 115 = .ok (.iload_n 1, 1) := by decide +kernel
theorem dX6_opened_116 : decode cX6_opened 116 = .ok (.iaload, 1) := by decide +kernel
theorem dX6_opened_117 : decode cX6_opened 117 = .ok (.invokevirtual 96, 3) := by decide +kernel
theorem dX6_opened_120 : decode cX6_opened 120 = .ok (.lstore 6, 2) := by decide +kernel
theorem dX6_opened_122 : decode cX6_opened 122 = .ok (.lload 6, 2) := by decide +kernel
theorem dX6_opened_124 : decode cX6_opened 124 = .ok (.lconst 0, 1) := by decide +kernel
theorem dX6_opened_125 : decode cX6_opened 125 = .ok (.lcmp, 1) := by decide +kernel
theorem dX6_opened_126 : decode cX6_opened 126 = .ok (.ifCond .ge 9, 3) := by decide +kernel
theorem dX6_opened_129 : decode cX6_opened 129 = .ok (.lload 6, 2) := by decide +kernel
theorem dX6_opened_131 : decode cX6_opened 131 = .ok (.lneg, 1) := by decide +kernel
theorem dX6_opened_132 : decode cX6_opened 132 = .ok (.goto 5, 3) := by decide +kernel
theorem dX6_opened_135 : decode cX6_opened 135 = .ok (.lload 6, 2) := by decide +kernel
theorem dX6_opened_137 : decode cX6_opened 137 = .ok (.lstore 8, 2) := by decide +kernel
theorem dX6_opened_139 : decode cX6_opened 139 = .ok (.lload 8, 2) := by decide +kernel
theorem dX6_opened_141 : decode cX6_opened 141 = .ok (.lload 4, 2) := by decide +kernel
theorem dX6_opened_143 : decode cX6_opened 143 = .ok (.lmul, 1) := by decide +kernel
theorem dX6_opened_144 : decode cX6_opened 144 = .ok (.lload_n 2, 1) := by decide +kernel
theorem dX6_opened_145 : decode cX6_opened 145 = .ok (.ldiv, 1) := by decide +kernel
theorem dX6_opened_146 : decode cX6_opened 146 = .ok (.lload 8, 2) := by decide +kernel
theorem dX6_opened_148 : decode cX6_opened 148 = .ok (.lload 4, 2) := by decide +kernel
theorem dX6_opened_150 : decode cX6_opened 150 = .ok (.aload_n 0, 1) := by decide +kernel
theorem dX6_opened_151 : decode cX6_opened 151 = .ok (.getfield 49, 3) := by decide +kernel
theorem dX6_opened_154 : decode cX6_opened 154 = .ok (.iload_n 1, 1) := by decide +kernel
theorem dX6_opened_155 : decode cX6_opened 155 = .ok (.iaload, 1) := by decide +kernel
theorem dX6_opened_156 : decode cX6_opened 156 = .ok (.i2l, 1) := by decide +kernel
theorem dX6_opened_157 : decode cX6_opened 157 = .ok (.lsub, 1) := by decide +kernel
theorem dX6_opened_158 : decode cX6_opened 158 = .ok (.lmul, 1) := by decide +kernel
theorem dX6_opened_159 : decode cX6_opened 159 = .ok (.lload_n 2, 1) := by decide +kernel
theorem dX6_opened_160 : decode cX6_opened 160 = .ok (.ldiv, 1) := by decide +kernel
theorem dX6_opened_161 : decode cX6_opened 161 = .ok (.lsub, 1) := by decide +kernel
theorem dX6_opened_162 : decode cX6_opened 162 = .ok (.lstore 10, 2) := by decide +kernel
theorem dX6_opened_164 : decode cX6_opened 164 = .ok (.lload 6, 2) := by decide +kernel
theorem dX6_opened_166 : decode cX6_opened 166 = .ok (.lconst 0, 1) := by decide +kernel
theorem dX6_opened_167 : decode cX6_opened 167 = .ok (.lcmp, 1) := by decide +kernel
theorem dX6_opened_168 : decode cX6_opened 168 = .ok (.ifCond .ge 9, 3) := by decide +kernel
theorem dX6_opened_171 : decode cX6_opened 171 = .ok (.lload 10, 2) := by decide +kernel
theorem dX6_opened_173 : decode cX6_opened 173 = .ok (.lneg, 1) := by decide +kernel
theorem dX6_opened_174 : decode cX6_opened 174 = .ok (.goto 5, 3) := by decide +kernel
theorem dX6_opened_177 : decode cX6_opened 177 = .ok (.lload 10, 2) := by decide +kernel
theorem dX6_opened_179 : decode cX6_opened 179 = .ok (.lreturn, 1) := by decide +kernel
