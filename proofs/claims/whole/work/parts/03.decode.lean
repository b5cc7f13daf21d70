theorem dX5_init_0 : decode cX5_init 0 = .ok (.aload_n 0, 1) := by decide +kernel
theorem dX5_init_1 : decode cX5_init 1 = .ok (.invokespecial 1, 3) := by decide +kernel
theorem dX5_init_4 : decode cX5_init 4 = .ok (.aload_n 0, 1) := by decide +kernel
theorem dX5_init_5 : decode cX5_init 5 = .ok (.new 7, 3) := by decide +kernel
theorem dX5_init_8 : decode cX5_init 8 = .ok (.dup, 1) := by decide +kernel
theorem dX5_init_9 : decode cX5_init 9 = .ok (.invokespecial 9, 3) := by decide +kernel
theorem dX5_init_12 : decode cX5_init 12 = .ok (.putfield 10, 3) := by decide +kernel
theorem dX5_init_15 : decode cX5_init 15 = .ok (.aload_n 0, 1) := by decide +kernel
theorem dX5_init_16 : decode cX5_init 16 = .ok (.new 16, 3) := by decide +kernel
theorem dX5_init_19 : decode cX5_init 19 = .ok (.dup, 1) := by decide +kernel
theorem dX5_init_20 : decode cX5_init 20 = .ok (.invokespecial 18, 3) := by decide +kernel
theorem dX5_init_23 : decode cX5_init 23 = .ok (.putfield 19, 3) := by decide +kernel
theorem dX5_init_26 : decode cX5_init 26 = .ok (.aload_n 0, 1) := by decide +kernel
theorem dX5_init_27 : decode cX5_init 27 = .ok (.bipush 8, 2) := by decide +kernel
theorem dX5_init_29 : decode cX5_init 29 = .ok (.newarray .int, 2) := by decide +kernel
theorem dX5_init_31 : decode cX5_init 31 = .ok (.putfield 23, 3) := by decide +kernel
theorem dX5_init_34 : decode cX5_init 34 = .ok (.aload_n 0, 1) := by decide +kernel
theorem dX5_init_35 : decode cX5_init 35 = .ok (.iconst 4, 1) := by decide +kernel
theorem dX5_init_36 : decode cX5_init 36 = .ok (.anewarray 27, 3) := by decide +kernel
theorem dX5_init_39 : decode cX5_init 39 = .ok (.putfield 29, 3) := by decide +kernel
theorem dX5_init_42 : decode cX5_init 42 = .ok (.iconst 0, 1) := by decide +kernel
theorem dX5_init_43 : decode cX5_init 43 = .ok (.istore_n 1, 1) := by decide +kernel
theorem dX5_init_44 : decode cX5_init 44 = .ok (.iload_n 1, 1) := by decide +kernel
theorem dX5_init_45 : decode cX5_init 45 = .ok (.iconst 4, 1) := by decide +kernel
theorem dX5_init_46 : decode cX5_init 46 = .ok (.if_icmp .ge 22, 3) := by decide +kernel
theorem dX5_init_49 : decode cX5_init 49 = .ok (.aload_n 0, 1) := by decide +kernel
theorem dX5_init_50 : decode cX5_init 50 = .ok (.getfield 29, 3) := by decide +kernel
theorem dX5_init_53 : decode cX5_init 53 = .ok (.iload_n 1, 1) := by decide +kernel
theorem dX5_init_54 : decode cX5_init 54 = .ok (.new 27, 3) := by decide +kernel
theorem dX5_init_57 : decode cX5_init 57 = .ok (.dup, 1) := by decide +kernel
theorem dX5_init_58 : decode cX5_init 58 = .ok (.invokespecial 33, 3) := by decide +kernel
theorem dX5_init_61 : decode cX5_init 61 = .ok (.aastore, 1) := by decide +kernel
theorem dX5_init_62 : decode cX5_init 62 = .ok (.iinc 1 1, 3) := by decide +kernel
theorem dX5_init_65 : decode cX5_init 65 = .ok (.goto (-21), 3) := by decide +kernel
theorem dX5_init_68 : decode cX5_init 68 = .ok (.aload_n 0, 1) := by decide +kernel
theorem dX5_init_69 : decode cX5_init 69 = .ok (.iconst 3, 1) := by decide +kernel
theorem dX5_init_70 : decode cX5_init 70 = .ok (.anewarray 34, 3) := by decide +kernel
theorem dX5_init_73 : decode cX5_init 73 = .ok (.putfield 36, 3) := by decide +kernel
theorem dX5_init_76 : decode cX5_init 76 = .ok (.iconst 0, 1) := by decide +kernel
theorem dX5_init_77 : decode cX5_init 77 = .ok (.istore_n 1, 1) := by decide +kernel
theorem dX5_init_78 : decode cX5_init 78 = .ok (.iload_n 1, 1) := by decide +kernel
theorem dX5_init_79 : decode cX5_init 79 = .ok (.iconst 3, 1) := by decide +kernel
theorem dX5_init_80 : decode cX5_init 80 = .ok (.if_icmp .ge 22, 3) := by decide +kernel
theorem dX5_init_83 : decode cX5_init 83 = .ok (.aload_n 0, 1) := by decide +kernel
theorem dX5_init_84 : decode cX5_init 84 = .ok (.getfield 36, 3) := by decide +kernel
theorem dX5_init_87 : decode cX5_init 87 = .ok (.iload_n 1, 1) := by decide +kernel
theorem dX5_init_88 : decode cX5_init 88 = .ok (.new 34, 3) := by decide +kernel
theorem dX5_init_91 : decode cX5_init 91 = .ok (.dup, 1) := by decide +kernel
theorem dX5_init_92 : decode cX5_init 92 = .ok (.invokespecial 40, 3) := by decide +kernel
theorem dX5_init_95 : decode cX5_init 95 = .ok (.aastore, 1) := by decide +kernel
theorem dX5_init_96 : decode cX5_init 96 = .ok (.iinc 1 1, 3) := by decide +kernel
theorem dX5_init_99 : decode cX5_init 99 = .ok (.goto (-21), 3) := by decide +kernel
theorem dX5_init_102 : decode cX5_init 102 = .ok (.aload_n 0, 1) := by decide +kernel
theorem dX5_init_103 : decode cX5_init 103 = .ok (.new 41, 3) := by decide +kernel
theorem dX5_init_106 : decode cX5_init 106 = .ok (.dup, 1) := by decide +kernel
theorem dX5_init_107 : decode cX5_init 107 = .ok (.invokespecial 43, 3) := by decide +kernel
theorem dX5_init_110 : decode cX5_init 110 = .ok (.putfield 44, 3) := by decide +kernel
theorem dX5_init_113 : decode cX5_init 113 = .ok (.aload_n 0, 1) := by decide +kernel
theorem dX5_init_114 : decode cX5_init 114 = .ok (.iconst 0, 1) := by decide +kernel
theorem dX5_init_115 : decode cX5_init 115 = .ok (.putfield 48, 3) := by decide +kernel
theorem dX5_init_118 : decode cX5_init 118 = .ok (.return_, 1) := by decide +kernel
theorem dX5_line_0 : decode cX5_line 0 = .ok (.iload_n 1, 1) := by decide +kernel
theorem dX5_line_1 : decode cX5_line 1 = .ok (.bipush 8, 2) := by decide +kernel
theorem dX5_line_3 : decode cX5_line 3 = .ok (.invokestatic 52, 3) := by decide +kernel
theorem dX5_line_6 : decode cX5_line 6 = .ok (.iload_n 2, 1) := by decide +kernel
theorem dX5_line_7 : decode cX5_line 7 = .ok (.bipush 8, 2) := by decide +kernel
theorem dX5_line_9 : decode cX5_line 9 = .ok (.invokestatic 52, 3) := by decide +kernel
theorem dX5_line_12 : decode cX5_line 12 = .ok (.iload_n 3, 1) := by decide +kernel
theorem dX5_line_13 : decode cX5_line 13 = .ok (.bipush 12, 2) := by decide +kernel
theorem dX5_line_15 : decode cX5_line 15 = .ok (.invokestatic 52, 3) := by decide +kernel
theorem dX5_line_18 : decode cX5_line 18 = .ok (.aload_n 0, 1) := by decide +kernel
theorem dX5_line_19 : decode cX5_line 19 = .ok (.getfield 10, 3) := by decide +kernel
theorem dX5_line_22 : decode cX5_line 22 = .ok (.getfield 56, 3) := by decide +kernel
theorem dX5_line_25 : decode cX5_line 25 = .ok (.bipush 16, 2) := by decide +kernel
theorem dX5_line_27 : decode cX5_line 27 = .ok (.if_icmp .ge 7, 3) := by decide +kernel
theorem dX5_line_30 : decode cX5_line 30 = .ok (.iconst 1, 1) := by decide +kernel
theorem dX5_line_31 : decode cX5_line 31 = .ok (.goto 4, 3) := by decide +kernel
theorem dX5_line_34 : decode cX5_line 34 = .ok (.iconst 0, 1) := by decide +kernel
theorem dX5_line_35 : decode cX5_line 35 = .ok (.invokestatic 59, 3) := by decide +kernel
theorem dX5_line_38 : decode cX5_line 38 = .ok (.iload 4, 2) := by decide +kernel
theorem dX5_line_40 : decode cX5_line 40 = .ok (.ldc 63, 2) := by decide +kernel
theorem dX5_line_42 : decode cX5_line 42 = .ok (.ldc 64, 2) := by decide +kernel
theorem dX5_line_44 : decode cX5_line 44 = .ok (.invokestatic 65, 3) := by decide +kernel
theorem dX5_line_47 : decode cX5_line 47 = .ok (.iload 4, 2) := by decide +kernel
theorem dX5_line_49 : decode cX5_line 49 = .ok (.ifCond .ne 13, 3) := by decide +kernel
theorem dX5_line_52 : decode cX5_line 52 = .ok (.new 69, 3) := by decide +kernel
theorem dX5_line_55 : decode cX5_line 55 = .ok (.dup, 1) := by decide +kernel
theorem dX5_line_56 : decode cX5_line 56 = .ok (.ldc 71, 2) := by decide +kernel
theorem dX5_line_58 : decode cX5_line 58 = .ok (.invokespecial 73, 3) := by decide +kernel
theorem dX5_line_61 : decode cX5_line 61 = .ok (.athrow, 1) := by decide +kernel
theorem dX5_line_62 : decode cX5_line 62 = .ok (.aload_n 0, 1) := by decide +kernel
theorem dX5_line_63 : decode cX5_line 63 = .ok (.getfield 10, 3) := by decide +kernel
theorem dX5_line_66 : decode cX5_line 66 = .ok (.iload_n 1, 1) := by decide +kernel
theorem dX5_line_67 : decode cX5_line 67 = .ok (.iload_n 2, 1) := by decide +kernel
theorem dX5_line_68 : decode cX5_line 68 = .ok (.iload_n 3, 1) := by decide +kernel
theorem dX5_line_69 : decode cX5_line 69 = .ok (.iload 4, 2) := by decide +kernel
theorem dX5_line_71 : decode cX5_line 71 = .ok (.invokevirtual 76, 3) := by decide +kernel
theorem dX5_line_74 : decode cX5_line 74 = .ok (.ireturn, 1) := by decide +kernel
theorem dX5_put_0 : decode cX5_put 0 = .ok (.aload_n 0, 1) := by decide +kernel
theorem dX5_put_1 : decode cX5_put 1 = .ok (.getfield 10, 3) := by decide +kernel
theorem dX5_put_4 : decode cX5_put 4 = .ok (.getfield 56, 3) := by decide +kernel
theorem dX5_put_7 : decode cX5_put 7 = .ok (.istore_n 1, 1) := by decide +kernel
theorem dX5_put_8 : decode cX5_put 8 = .ok (.aload_n 0, 1) := by decide +kernel
theorem dX5_put_9 : decode cX5_put 9 = .ok (.getfield 10, 3) := by decide +kernel
theorem dX5_put_12 : decode cX5_put 12 = .ok (.iconst 0, 1) := by decide +kernel
theorem dX5_put_13 : decode cX5_put 13 = .ok (.putfield 56, 3) := by decide +kernel
theorem dX5_put_16 : decode cX5_put 16 = .ok (.aload_n 0, 1) := by decide +kernel
theorem dX5_put_17 : decode cX5_put 17 = .ok (.getfield 10, 3) := by decide +kernel
theorem dX5_put_20 : decode cX5_put 20 = .ok (.aload_n 0, 1) := by decide +kernel
theorem dX5_put_21 : decode cX5_put 21 = .ok (.getfield 48, 3) := by decide +kernel
theorem dX5_put_24 : decode cX5_put 24 = .ok (.iload_n 1, 1) := by decide +kernel
theorem dX5_put_25 : decode cX5_put 25 = .ok (.invokevirtual 80, 3) := by decide +kernel
theorem dX5_put_28 : decode cX5_put 28 = .ok (.ifCond .ne 7, 3) := by decide +kernel
theorem dX5_put_31 : decode cX5_put 31 = .ok (.iconst 1, 1) := by decide +kernel
theorem dX5_put_32 : decode cX5_put 32 = .ok (.goto 4, 3) := by decide +kernel
theorem dX5_put_35 : decode cX5_put 35 = .ok (.iconst 0, 1) := by decide +kernel
theorem dX5_put_36 : decode cX5_put 36 = .ok (.invokestatic 59, 3) := by decide +kernel
theorem dX5_put_39 : decode cX5_put 39 = .ok (.iload_n 1, 1) := by decide +kernel
theorem dX5_put_40 : decode cX5_put 40 = .ok (.ifCond .eq 16, 3) := by decide +kernel
theorem dX5_put_43 : decode cX5_put 43 = .ok (.aload_n 0, 1) := by decide +kernel
theorem dX5_put_44 : decode cX5_put 44 = .ok (.getfield 10, 3) := by decide +kernel
theorem dX5_put_47 : decode cX5_put 47 = .ok (.iload_n 1, 1) := by decide +kernel
theorem dX5_put_48 : decode cX5_put 48 = .ok (.invokevirtual 84, 3) := by decide +kernel
theorem dX5_put_51 : decode cX5_put 51 = .ok (.lconst 0, 1) := by decide +kernel
theorem dX5_put_52 : decode cX5_put 52 = .ok (.lcmp, 1) := by decide +kernel
theorem dX5_put_53 : decode cX5_put 53 = .ok (.ifCond .eq 13, 3) := by decide +kernel
theorem dX5_put_56 : decode cX5_put 56 = .ok (.new 88, 3) := by decide +kernel
theorem dX5_put_59 : decode cX5_put 59 = .ok (.dup, 1) := by decide +kernel
theorem dX5_put_60 : decode cX5_put 60 = .ok (.ldc 90, 2) := by decide +kernel
theorem dX5_put_62 : decode cX5_put 62 = .ok (.invokespecial 92, 3) := by decide +kernel
theorem dX5_put_65 : decode cX5_put 65 = .ok (.athrow, 1) := by decide +kernel
theorem dX5_put_66 : decode cX5_put 66 = .ok (.aload_n 0, 1) := by decide +kernel
theorem dX5_put_67 : decode cX5_put 67 = .ok (.iload_n 1, 1) := by decide +kernel
theorem dX5_put_68 : decode cX5_put 68 = .ok (.invokevirtual 93, 3) := by decide +kernel
theorem dX5_put_71 : decode cX5_put 71 = .ok (.iconst 0, 1) := by decide +kernel
theorem dX5_put_72 : decode cX5_put 72 = .ok (.istore_n 2, 1) := by decide +kernel
theorem dX5_put_73 : decode cX5_put 73 = .ok (.iload_n 2, 1) := by decide +kernel
theorem dX5_put_74 : decode cX5_put 74 = .ok (.iload_n 1, 1) := by decide +kernel
theorem dX5_put_75 : decode cX5_put 75 = .ok (.if_icmp .ge 52, 3) := by decide +kernel
theorem dX5_put_78 : decode cX5_put 78 = .ok (.aload_n 0, 1) := by decide +kernel
theorem dX5_put_79 : decode cX5_put 79 = .ok (.getfield 19, 3) := by decide +kernel
theorem dX5_put_82 : decode cX5_put 82 = .ok (.aload_n 0, 1) := by decide +kernel
theorem dX5_put_83 : decode cX5_put 83 = .ok (.getfield 10, 3) := by decide +kernel
theorem dX5_put_86 : decode cX5_put 86 = .ok (.getfield 97, 3) := by decide +kernel
theorem dX5_put_89 : decode cX5_put 89 = .ok (.iload_n 2, 1) := by decide +kernel
theorem dX5_put_90 : decode cX5_put 90 = .ok (.iaload, 1) := by decide +kernel
theorem dX5_put_91 : decode cX5_put 91 = .ok (.aload_n 0, 1) := by decide +kernel
theorem dX5_put_92 : decode cX5_put 92 = .ok (.getfield 10, 3) := by decide +kernel
theorem dX5_put_95 : decode cX5_put 95 = .ok (.getfield 100, 3) := by decide +kernel
theorem dX5_put_98 : decode cX5_put 98 = .ok (.iload_n 2, 1) := by decide +kernel
theorem dX5_put_99 : decode cX5_put 99 = .ok (.iaload, 1) := by decide +kernel
theorem dX5_put_100 : decode cX5_put 100 = .ok (.aload_n 0, 1) := by decide +kernel
theorem dX5_put_101 : decode cX5_put 101 = .ok (.getfield 10, 3) := by decide +kernel
theorem dX5_put_104 : decode cX5_put 104 = .ok (.getfield 103, 3) := by decide +kernel
theorem dX5_put_107 : decode cX5_put 107 = .ok (.iload_n 2, 1) := by decide +kernel
theorem dX5_put_108 : decode cX5_put 108 = .ok (.iaload, 1) := by decide +kernel
theorem dX5_put_109 : decode cX5_put 109 = .ok (.aload_n 0, 1) := by decide +kernel
theorem dX5_put_110 : decode cX5_put 110 = .ok (.getfield 10, 3) := by decide +kernel
theorem dX5_put_113 : decode cX5_put 113 = .ok (.getfield 106, 3) := by decide +kernel
theorem dX5_put_116 : decode cX5_put 116 = .ok (.iload_n 2, 1) := by decide +kernel
theorem dX5_put_117 : decode cX5_put 117 = .ok (.iaload, 1) := by decide +kernel
theorem dX5_put_118 : decode cX5_put 118 = .ok (.invokevirtual 109, 3) := by decide +kernel
theorem dX5_put_121 : decode cX5_put 121 = .ok (.iinc 2 1, 3) := by decide +kernel
theorem dX5_put_124 : decode cX5_put 124 = .ok (.goto (-51), 3) := by decide +kernel
theorem dX5_put_127 : decode cX5_put 127 = .ok (.aload_n 0, 1) := by decide +kernel
theorem dX5_put_128 : decode cX5_put 128 = .ok (.getfield 19, 3) := by decide +kernel
theorem dX5_put_131 : decode cX5_put 131 = .ok (.invokevirtual 113, 3) := by decide +kernel
theorem dX5_put_134 : decode cX5_put 134 = .ok (.ireturn, 1) := by decide +kernel
theorem dX5_drop_0 : decode cX5_drop 0 = .ok (.aload_n 0, 1) := by decide +kernel
theorem dX5_drop_1 : decode cX5_drop 1 = .ok (.getfield 10, 3) := by decide +kernel
theorem dX5_drop_4 : decode cX5_drop 4 = .ok (.iconst 0, 1) := by decide +kernel
theorem dX5_drop_5 : decode cX5_drop 5 = .ok (.putfield 56, 3) := by decide +kernel
theorem dX5_drop_8 : decode cX5_drop 8 = .ok (.return_, 1) := by decide +kernel
theorem dX5_correct_0 : decode cX5_correct 0 = .ok (.iload_n 1, 1) := by decide +kernel
theorem dX5_correct_1 : decode cX5_correct 1 = .ok (.bipush 8, 2) := by decide +kernel
theorem dX5_correct_3 : decode cX5_correct 3 = .ok (.invokestatic 52, 3) := by decide +kernel
theorem dX5_correct_6 : decode cX5_correct 6 = .ok (.iload_n 2, 1) := by decide +kernel
theorem dX5_correct_7 : decode cX5_correct 7 = .ok (.bipush 8, 2) := by decide +kernel
theorem dX5_correct_9 : decode cX5_correct 9 = .ok (.invokestatic 52, 3) := by decide +kernel
theorem dX5_correct_12 : decode cX5_correct 12 = .ok (.iload_n 1, 1) := by decide +kernel
theorem dX5_correct_13 : decode cX5_correct 13 = .ok (.iload_n 2, 1) := by decide +kernel
theorem dX5_correct_14 : decode cX5_correct 14 = .ok (.if_icmp .ne 13, 3) := by decide +kernel
theorem dX5_correct_17 : decode cX5_correct 17 = .ok (.new 117, 3) := by decide +kernel
theorem dX5_correct_20 : decode cX5_correct 20 = .ok (.dup, 1) := by decide +kernel
theorem dX5_correct_21 : decode cX5_correct 21 = .ok (.ldc 119, 2) := by decide +kernel
theorem dX5_correct_23 : decode cX5_correct 23 = .ok (.invokespecial 121, 3) := by decide +kernel
theorem dX5_correct_26 : decode cX5_correct 26 = .ok (.athrow, 1) := by decide +kernel
theorem dX5_correct_27 : decode cX5_correct 27 = .ok (.iload_n 3, 1) := by decide +kernel
theorem dX5_correct_28 : decode cX5_correct 28 = .ok (.bipush 8, 2) := by decide +kernel
theorem dX5_correct_30 : decode cX5_correct 30 = .ok (.invokestatic 52, 3) := by decide +kernel
theorem dX5_correct_33 : decode cX5_correct 33 = .ok (.iload 4, 2) := by decide +kernel
theorem dX5_correct_35 : decode cX5_correct 35 = .ok (.bipush 12, 2) := by decide +kernel
theorem dX5_correct_37 : decode cX5_correct 37 = .ok (.invokestatic 52, 3) := by decide +kernel
theorem dX5_correct_40 : decode cX5_correct 40 = .ok (.iload 4, 2) := by decide +kernel
theorem dX5_correct_42 : decode cX5_correct 42 = .ok (.aload_n 0, 1) := by decide +kernel
theorem dX5_correct_43 : decode cX5_correct 43 = .ok (.getfield 48, 3) := by decide +kernel
theorem dX5_correct_46 : decode cX5_correct 46 = .ok (.iconst 1, 1) := by decide +kernel
theorem dX5_correct_47 : decode cX5_correct 47 = .ok (.isub, 1) := by decide +kernel
theorem dX5_correct_48 : decode cX5_correct 48 = .ok (.if_icmp .lt 7, 3) := by decide +kernel
theorem dX5_correct_51 : decode cX5_correct 51 = .ok (.iconst 1, 1) := by decide +kernel
theorem dX5_correct_52 : decode cX5_correct 52 = .ok (.goto 4, 3) := by decide +kernel
theorem dX5_correct_55 : decode cX5_correct 55 = .ok (.iconst 0, 1) := by decide +kernel
theorem dX5_correct_56 : decode cX5_correct 56 = .ok (.invokestatic 59, 3) := by decide +kernel
theorem dX5_correct_59 : decode cX5_correct 59 = .ok (.iload 5, 2) := by decide +kernel
theorem dX5_correct_61 : decode cX5_correct 61 = .ok (.iconst 1, 1) := by decide +kernel
theorem dX5_correct_62 : decode cX5_correct 62 = .ok (.ldc 64, 2) := by decide +kernel
theorem dX5_correct_64 : decode cX5_correct 64 = .ok (.invokestatic 65, 3) := by decide +kernel
theorem dX5_correct_67 : decode cX5_correct 67 = .ok (.aload_n 0, 1) := by decide +kernel
theorem dX5_correct_68 : decode cX5_correct 68 = .ok (.iconst 2, 1) := by decide +kernel
theorem dX5_correct_69 : decode cX5_correct 69 = .ok (.invokevirtual 93, 3) := by decide +kernel
theorem dX5_correct_72 : decode cX5_correct 72 = .ok (.aload_n 0, 1) := by decide +kernel
theorem dX5_correct_73 : decode cX5_correct 73 = .ok (.getfield 19, 3) := by decide +kernel
theorem dX5_correct_76 : decode cX5_correct 76 = .ok (.iload_n 1, 1) := by decide +kernel
theorem dX5_correct_77 : decode cX5_correct 77 = .ok (.iload_n 3, 1) := by decide +kernel
theorem dX5_correct_78 : decode cX5_correct 78 = .ok (.iload 4, 2) := by decide +kernel
theorem dX5_correct_80 : decode cX5_correct 80 = .ok (.iload 5, 2) := by decide +kernel
theorem dX5_correct_82 : decode cX5_correct 82 = .ok (.ineg, 1) := by decide +kernel
theorem dX5_correct_83 : decode cX5_correct 83 = .ok (.invokevirtual 109, 3) := by decide +kernel
theorem dX5_correct_86 : decode cX5_correct 86 = .ok (.aload_n 0, 1) := by decide +kernel
theorem dX5_correct_87 : decode cX5_correct 87 = .ok (.getfield 19, 3) := by decide +kernel
theorem dX5_correct_90 : decode cX5_correct 90 = .ok (.iload_n 2, 1) := by decide +kernel
theorem dX5_correct_91 : decode cX5_correct 91 = .ok (.iload_n 3, 1) := by decide +kernel
theorem dX5_correct_92 : decode cX5_correct 92 = .ok (.iload 4, 2) := by decide +kernel
theorem dX5_correct_94 : decode cX5_correct 94 = .ok (.iload 5, 2) := by decide +kernel
theorem dX5_correct_96 : decode cX5_correct 96 = .ok (.invokevirtual 109, 3) := by decide +kernel
theorem dX5_correct_99 : decode cX5_correct 99 = .ok (.aload_n 0, 1) := by decide +kernel
theorem dX5_correct_100 : decode cX5_correct 100 = .ok (.getfield 19, 3) := by decide +kernel
theorem dX5_correct_103 : decode cX5_correct 103 = .ok (.invokevirtual 113, 3) := by decide +kernel
theorem dX5_correct_106 : decode cX5_correct 106 = .ok (.ireturn, 1) := by decide +kernel
theorem dX5_reverse_0 : decode cX5_reverse 0 = .ok (.iload_n 1, 1) := by decide +kernel
theorem dX5_reverse_1 : decode cX5_reverse 1 = .ok (.aload_n 0, 1) := by decide +kernel
theorem dX5_reverse_2 : decode cX5_reverse 2 = .ok (.getfield 19, 3) := by decide +kernel
theorem dX5_reverse_5 : decode cX5_reverse 5 = .ok (.getfield 122, 3) := by decide +kernel
theorem dX5_reverse_8 : decode cX5_reverse 8 = .ok (.invokestatic 52, 3) := by decide +kernel
theorem dX5_reverse_11 : decode cX5_reverse 11 = .ok (.iload_n 2, 1) := by decide +kernel
theorem dX5_reverse_12 : decode cX5_reverse 12 = .ok (.bipush 12, 2) := by decide +kernel
theorem dX5_reverse_14 : decode cX5_reverse 14 = .ok (.invokestatic 52, 3) := by decide +kernel
theorem dX5_reverse_17 : decode cX5_reverse 17 = .ok (.iload_n 2, 1) := by decide +kernel
theorem dX5_reverse_18 : decode cX5_reverse 18 = .ok (.aload_n 0, 1) := by decide +kernel
theorem dX5_reverse_19 : decode cX5_reverse 19 = .ok (.getfield 48, 3) := by decide +kernel
theorem dX5_reverse_22 : decode cX5_reverse 22 = .ok (.if_icmp .lt 7, 3) := by decide +kernel
theorem dX5_reverse_25 : decode cX5_reverse 25 = .ok (.iconst 1, 1) := by decide +kernel
theorem dX5_reverse_26 : decode cX5_reverse 26 = .ok (.goto 4, 3) := by decide +kernel
theorem dX5_reverse_29 : decode cX5_reverse 29 = .ok (.iconst 0, 1) := by decide +kernel
theorem dX5_reverse_30 : decode cX5_reverse 30 = .ok (.invokestatic 59, 3) := by decide +kernel
theorem dX5_reverse_33 : decode cX5_reverse 33 = .ok (.aload_n 0, 1) := by decide +kernel
theorem dX5_reverse_34 : decode cX5_reverse 34 = .ok (.getfield 19, 3) := by decide +kernel
theorem dX5_reverse_37 : decode cX5_reverse 37 = .ok (.getfield 125, 3) := by decide +kernel
theorem dX5_reverse_40 : decode cX5_reverse 40 = .ok (.iload_n 1, 1) := by decide +kernel
theorem dX5_reverse_41 : decode cX5_reverse 41 = .ok (.baload, 1) := by decide +kernel
theorem dX5_reverse_42 : decode cX5_reverse 42 = .ok (.ifCond .eq 13, 3) := by decide +kernel
theorem dX5_reverse_45 : decode cX5_reverse 45 = .ok (.new 88, 3) := by decide +kernel
theorem dX5_reverse_48 : decode cX5_reverse 48 = .ok (.dup, 1) := by decide +kernel
theorem dX5_reverse_49 : decode cX5_reverse 49 = .ok (.ldc 129, 2) := by decide +kernel
theorem dX5_reverse_51 : decode cX5_reverse 51 = .ok (.invokespecial 92, 3) := by decide +kernel
theorem dX5_reverse_54 : decode cX5_reverse 54 = .ok (.athrow, 1) := by decide +kernel
theorem dX5_reverse_55 : decode cX5_reverse 55 = .ok (.aload_n 0, 1) := by decide +kernel
theorem dX5_reverse_56 : decode cX5_reverse 56 = .ok (.aload_n 0, 1) := by decide +kernel
theorem dX5_reverse_57 : decode cX5_reverse 57 = .ok (.getfield 19, 3) := by decide +kernel
theorem dX5_reverse_60 : decode cX5_reverse 60 = .ok (.iload_n 1, 1) := by decide +kernel
theorem dX5_reverse_61 : decode cX5_reverse 61 = .ok (.invokevirtual 131, 3) := by decide +kernel
theorem dX5_reverse_64 : decode cX5_reverse 64 = .ok (.invokevirtual 93, 3) := by decide +kernel
theorem dX5_reverse_67 : decode cX5_reverse 67 = .ok (.aload_n 0, 1) := by decide +kernel
theorem dX5_reverse_68 : decode cX5_reverse 68 = .ok (.getfield 19, 3) := by decide +kernel
theorem dX5_reverse_71 : decode cX5_reverse 71 = .ok (.iload_n 1, 1) := by decide +kernel
theorem dX5_reverse_72 : decode cX5_reverse 72 = .ok (.iload_n 2, 1) := by decide +kernel
theorem dX5_reverse_73 : decode cX5_reverse 73 = .ok (.invokevirtual 135, 3) := by decide +kernel
theorem dX5_reverse_76 : decode cX5_reverse 76 = .ok (.ireturn, 1) := by decide +kernel
theorem dX5_close_0 : decode cX5_close 0 = .ok (.aload_n 0, 1) := by decide +kernel
theorem dX5_close_1 : decode cX5_close 1 = .ok (.getfield 48, 3) := by decide +kernel
theorem dX5_close_4 : decode cX5_close 4 = .ok (.bipush 12, 2) := by decide +kernel
theorem dX5_close_6 : decode cX5_close 6 = .ok (.if_icmp .ge 7, 3) := by decide +kernel
theorem dX5_close_9 : decode cX5_close 9 = .ok (.iconst 1, 1) := by decide +kernel
theorem dX5_close_10 : decode cX5_close 10 = .ok (.goto 4, 3) := by decide +kernel
theorem dX5_close_13 : decode cX5_close 13 = .ok (.iconst 0, 1) := by decide +kernel
theorem dX5_close_14 : decode cX5_close 14 = .ok (.invokestatic 59, 3) := by decide +kernel
theorem dX5_close_17 : decode cX5_close 17 = .ok (.aload_n 0, 1) := by decide +kernel
theorem dX5_close_18 : decode cX5_close 18 = .ok (.dup, 1) := by decide +kernel
theorem dX5_close_19 : decode cX5_close 19 = .ok (.getfield 48, 3) := by decide +kernel
theorem dX5_close_22 : decode cX5_close 22 = .ok (.iconst 1, 1) := by decide +kernel
theorem dX5_close_23 : decode cX5_close 23 = .ok (.iadd, 1) := by decide +kernel
theorem dX5_close_24 : decode cX5_close 24 = .ok (.putfield 48, 3) := by decide +kernel
theorem dX5_close_27 : decode cX5_close 27 = .ok (.aload_n 0, 1) := by decide +kernel
theorem dX5_close_28 : decode cX5_close 28 = .ok (.getfield 48, 3) := by decide +kernel
theorem dX5_close_31 : decode cX5_close 31 = .ok (.iconst 1, 1) := by decide +kernel
theorem dX5_close_32 : decode cX5_close 32 = .ok (.isub, 1) := by decide +kernel
theorem dX5_close_33 : decode cX5_close 33 = .ok (.ireturn, 1) := by decide +kernel
theorem dX5_told_0 : decode cX5_told 0 = .ok (.iload_n 1, 1) := by decide +kernel
theorem dX5_told_1 : decode cX5_told 1 = .ok (.tableswitch 63 0 2 #[27, 39, 51], 27) := by decide +kernel
theorem dX5_told_28 : decode cX5_told 28 = .ok (.aload_n 0, 1) := by decide +kernel
theorem dX5_told_29 : decode cX5_told 29 = .ok (.getfield 19, 3) := by decide +kernel
theorem dX5_told_32 : decode cX5_told 32 = .ok (.getfield 139, 3) := by decide +kernel
theorem dX5_told_35 : decode cX5_told 35 = .ok (.iload_n 2, 1) := by decide +kernel
theorem dX5_told_36 : decode cX5_told 36 = .ok (.invokestatic 143, 3) := by decide +kernel
theorem dX5_told_39 : decode cX5_told 39 = .ok (.lreturn, 1) := by decide +kernel
theorem dX5_told_40 : decode cX5_told 40 = .ok (.aload_n 0, 1) := by decide +kernel
theorem dX5_told_41 : decode cX5_told 41 = .ok (.getfield 19, 3) := by decide +kernel
theorem dX5_told_44 : decode cX5_told 44 = .ok (.getfield 147, 3) := by decide +kernel
theorem dX5_told_47 : decode cX5_told 47 = .ok (.iload_n 2, 1) := by decide +kernel
theorem dX5_told_48 : decode cX5_told 48 = .ok (.invokestatic 143, 3) := by decide +kernel
theorem dX5_told_51 : decode cX5_told 51 = .ok (.lreturn, 1) := by decide +kernel
theorem dX5_told_52 : decode cX5_told 52 = .ok (.aload_n 0, 1) := by decide +kernel
theorem dX5_told_53 : decode cX5_told 53 = .ok (.getfield 19, 3) := by decide +kernel
theorem dX5_told_56 : decode cX5_told 56 = .ok (.getfield 150, 3) := by decide +kernel
theorem dX5_told_59 : decode cX5_told 59 = .ok (.iload_n 2, 1) := by decide +kernel
theorem dX5_told_60 : decode cX5_told 60 = .ok (.invokestatic 143, 3) := by decide +kernel
theorem dX5_told_63 : decode cX5_told 63 = .ok (.lreturn, 1) := by decide +kernel
theorem dX5_told_64 : decode cX5_told 64 = .ok (.aload_n 0, 1) := by decide +kernel
theorem dX5_told_65 : decode cX5_told 65 = .ok (.iload_n 1, 1) := by decide +kernel
theorem dX5_told_66 : decode cX5_told 66 = .ok (.iload_n 2, 1) := by decide +kernel
theorem dX5_told_67 : decode cX5_told 67 = .ok (.invokevirtual 153, 3) := by decide +kernel
theorem dX5_told_70 : decode cX5_told 70 = .ok (.lreturn, 1) := by decide +kernel
theorem dX5_many_0 : decode cX5_many 0 = .ok (.iload_n 1, 1) := by decide +kernel
theorem dX5_many_1 : decode cX5_many 1 = .ok (.tableswitch 72 0 4 #[35, 43, 51, 59, 64], 35) := by decide +kernel
theorem dX5_many_36 : decode cX5_many 36 = .ok (.aload_n 0, 1) := by decide +kernel
theorem dX5_many_37 : decode cX5_many 37 = .ok (.getfield 19, 3) := by decide +kernel
theorem dX5_many_40 : decode cX5_many 40 = .ok (.getfield 157, 3) := by decide +kernel
theorem dX5_many_43 : decode cX5_many 43 = .ok (.ireturn, 1) := by decide +kernel
theorem dX5_many_44 : decode cX5_many 44 = .ok (.aload_n 0, 1) := by decide +kernel
theorem dX5_many_45 : decode cX5_many 45 = .ok (.getfield 19, 3) := by decide +kernel
theorem dX5_many_48 : decode cX5_many 48 = .ok (.getfield 122, 3) := by decide +kernel
theorem dX5_many_51 : decode cX5_many 51 = .ok (.ireturn, 1) := by decide +kernel
theorem dX5_many_52 : decode cX5_many 52 = .ok (.aload_n 0, 1) := by decide +kernel
theorem dX5_many_53 : decode cX5_many 53 = .ok (.getfield 10, 3) := by decide +kernel
theorem dX5_many_56 : decode cX5_many 56 = .ok (.getfield 56, 3) := by decide +kernel
theorem dX5_many_59 : decode cX5_many 59 = .ok (.ireturn, 1) := by decide +kernel
theorem dX5_many_60 : decode cX5_many 60 = .ok (.aload_n 0, 1) := by decide +kernel
theorem dX5_many_61 : decode cX5_many 61 = .ok (.getfield 48, 3) := by decide +kernel
theorem dX5_many_64 : decode cX5_many 64 = .ok (.ireturn, 1) := by decide +kernel
theorem dX5_many_65 : decode cX5_many 65 = .ok (.aload_n 0, 1) := by decide +kernel
theorem dX5_many_66 : decode cX5_many 66 = .ok (.getfield 44, 3) := by decide +kernel
theorem dX5_many_69 : decode cX5_many 69 = .ok (.getfield 158, 3) := by decide +kernel
theorem dX5_many_72 : decode cX5_many 72 = .ok (.ireturn, 1) := by decide +kernel
theorem dX5_many_73 : decode cX5_many 73 = .ok (.new 117, 3) := by decide +kernel
theorem dX5_many_76 : decode cX5_many 76 = .ok (.dup, 1) := by decide +kernel
theorem dX5_many_77 : decode cX5_many 77 = .ok (.ldc 159, 2) := by decide +kernel
theorem dX5_many_79 : decode cX5_many 79 = .ok (.invokespecial 121, 3) := by decide +kernel
theorem dX5_many_82 : decode cX5_many 82 = .ok (.athrow, 1) := by decide +kernel
theorem dX5_weight_0 : decode cX5_weight 0 = .ok (.iload_n 1, 1) := by decide +kernel
theorem dX5_weight_1 : decode cX5_weight 1 = .ok (.bipush 8, 2) := by decide +kernel
theorem dX5_weight_3 : decode cX5_weight 3 = .ok (.invokestatic 52, 3) := by decide +kernel
theorem dX5_weight_6 : decode cX5_weight 6 = .ok (.iload_n 2, 1) := by decide +kernel
theorem dX5_weight_7 : decode cX5_weight 7 = .ok (.iconst 0, 1) := by decide +kernel
theorem dX5_weight_8 : decode cX5_weight 8 = .ok (.ldc 161, 2) := by decide +kernel
theorem dX5_weight_10 : decode cX5_weight 10 = .ok (.invokestatic 65, 3) := by decide +kernel
theorem dX5_weight_13 : decode cX5_weight 13 = .ok (.aload_n 0, 1) := by decide +kernel
theorem dX5_weight_14 : decode cX5_weight 14 = .ok (.getfield 23, 3) := by decide +kernel
theorem dX5_weight_17 : decode cX5_weight 17 = .ok (.iload_n 1, 1) := by decide +kernel
theorem dX5_weight_18 : decode cX5_weight 18 = .ok (.iload_n 2, 1) := by decide +kernel
theorem dX5_weight_19 : decode cX5_weight 19 = .ok (.iastore, 1) := by decide +kernel
theorem dX5_weight_20 : decode cX5_weight 20 = .ok (.return_, 1) := by decide +kernel
theorem dX5_share_0 : decode cX5_share 0 = .ok (.iload_n 1, 1) := by decide +kernel
theorem dX5_share_1 : decode cX5_share 1 = .ok (.bipush 8, 2) := by decide +kernel
theorem dX5_share_3 : decode cX5_share 3 = .ok (.invokestatic 52, 3) := by decide +kernel
theorem dX5_share_6 : decode cX5_share 6 = .ok (.iload_n 2, 1) := by decide +kernel
theorem dX5_share_7 : decode cX5_share 7 = .ok (.iconst 0, 1) := by decide +kernel
theorem dX5_share_8 : decode cX5_share 8 = .ok (.ldc 64, 2) := by decide +kernel
theorem dX5_share_10 : decode cX5_share 10 = .ok (.invokestatic 65, 3) := by decide +kernel
theorem dX5_share_13 : decode cX5_share 13 = .ok (.lconst 0, 1) := by decide +kernel
theorem dX5_share_14 : decode cX5_share 14 = .ok (.lstore_n 3, 1) := by decide +kernel
theorem dX5_share_15 : decode cX5_share 15 = .ok (.lconst 0, 1) := by decide +kernel
theorem dX5_share_16 : decode cX5_share 16 = .ok (.lstore 5, 2) := by decide +kernel
theorem dX5_share_18 : decode cX5_share 18 = .ok (.iconst 0, 1) := by decide +kernel
theorem dX5_share_19 : decode cX5_share 19 = .ok (.istore 7, 2) := by decide +kernel
theorem dX5_share_21 : decode cX5_share 21 = .ok (.iload 7, 2) := by decide +kernel
theorem dX5_share_23 : decode cX5_share 23 = .ok (.bipush 8, 2) := by decide +kernel
theorem dX5_share_25 : decode cX5_share 25 = .ok (.if_icmp .ge 39, 3) := by decide +kernel
theorem dX5_share_28 : decode cX5_share 28 = .ok (.iload 7, 2) := by decide +kernel
theorem dX5_share_30 : decode cX5_share 30 = .ok (.iload_n 1, 1) := by decide +kernel
theorem dX5_share_31 : decode cX5_share 31 = .ok (.if_icmp .ge 14, 3) := by decide +kernel
theorem dX5_share_34 : decode cX5_share 34 = .ok (.lload_n 3, 1) := by decide +kernel
theorem dX5_share_35 : decode cX5_share 35 = .ok (.aload_n 0, 1) := by decide +kernel
theorem dX5_share_36 : decode cX5_share 36 = .ok (.getfield 23, 3) := by decide +kernel
theorem dX5_share_39 : decode cX5_share 39 = .ok (.iload 7, 2) := by decide +kernel
theorem dX5_share_41 : decode cX5_share 41 = .ok (.iaload, 1) := by decide +kernel
theorem dX5_share_42 : decode cX5_share 42 = .ok (.i2l, 1) := by decide +kernel
theorem dX5_share_43 : decode cX5_share 43 = .ok (.ladd, 1) := by decide +kernel
theorem dX5_share_44 : decode cX5_share 44 = .ok (.lstore_n 3, 1) := by decide +kernel
theorem dX5_share_45 : decode cX5_share 45 = .ok (.lload 5, 2) := by decide +kernel
theorem dX5_share_47 : decode cX5_share 47 = .ok (.aload_n 0, 1) := by decide +kernel
theorem dX5_share_48 : decode cX5_share 48 = .ok (.getfield 23, 3) := by decide +kernel
theorem dX5_share_51 : decode cX5_share 51 = .ok (.iload 7, 2) := by decide +kernel
theorem dX5_share_53 : decode cX5_share 53 = .ok (.iaload, 1) := by decide +kernel
theorem dX5_share_54 : decode cX5_share 54 = .ok (.i2l, 1) := by decide +kernel
theorem dX5_share_55 : decode cX5_share 55 = .ok (.ladd, 1) := by decide +kernel
theorem dX5_share_56 : decode cX5_share 56 = .ok (.lstore 5, 2) := by decide +kernel
theorem dX5_share_58 : decode cX5_share 58 = .ok (.iinc 7 1, 3) := by decide +kernel
theorem dX5_share_61 : decode cX5_share 61 = .ok (.goto (-40), 3) := by decide +kernel
theorem dX5_share_64 : decode cX5_share 64 = .ok (.lload 5, 2) := by decide +kernel
theorem dX5_share_66 : decode cX5_share 66 = .ok (.lconst 0, 1) := by decide +kernel
theorem dX5_share_67 : decode cX5_share 67 = .ok (.lcmp, 1) := by decide +kernel
theorem dX5_share_68 : decode cX5_share 68 = .ok (.ifCond .ne 13, 3) := by decide +kernel
theorem dX5_share_71 : decode cX5_share 71 = .ok (.new 88, 3) := by decide +kernel
theorem dX5_share_74 : decode cX5_share 74 = .ok (.dup, 1) := by decide +kernel
theorem dX5_share_75 : decode cX5_share 75 = .ok (.ldc 162, 2) := by decide +kernel
theorem dX5_share_77 : decode cX5_share 77 = .ok (.invokespecial 92, 3) := by decide +kernel
theorem dX5_share_80 : decode cX5_share 80 = .ok (.athrow, 1) := by decide +kernel
theorem dX5_share_81 : decode cX5_share 81 = .ok (.iload_n 2, 1) := by decide +kernel
theorem dX5_share_82 : decode cX5_share 82 = .ok (.i2l, 1) := by decide +kernel
theorem dX5_share_83 : decode cX5_share 83 = .ok (.lload_n 3, 1) := by decide +kernel
theorem dX5_share_84 : decode cX5_share 84 = .ok (.aload_n 0, 1) := by decide +kernel
theorem dX5_share_85 : decode cX5_share 85 = .ok (.getfield 23, 3) := by decide +kernel
theorem dX5_share_88 : decode cX5_share 88 = .ok (.iload_n 1, 1) := by decide +kernel
theorem dX5_share_89 : decode cX5_share 89 = .ok (.iaload, 1) := by decide +kernel
theorem dX5_share_90 : decode cX5_share 90 = .ok (.i2l, 1) := by decide +kernel
theorem dX5_share_91 : decode cX5_share 91 = .ok (.lload 5, 2) := by decide +kernel
theorem dX5_share_93 : decode cX5_share 93 = .ok (.invokestatic 164, 3) := by decide +kernel
theorem dX5_share_96 : decode cX5_share 96 = .ok (.lreturn, 1) := by decide +kernel
theorem dX5_stock_0 : decode cX5_stock 0 = .ok (.iload_n 1, 1) := by decide +kernel
theorem dX5_stock_1 : decode cX5_stock 1 = .ok (.iconst 4, 1) := by decide +kernel
theorem dX5_stock_2 : decode cX5_stock 2 = .ok (.invokestatic 52, 3) := by decide +kernel
theorem dX5_stock_5 : decode cX5_stock 5 = .ok (.aload_n 0, 1) := by decide +kernel
theorem dX5_stock_6 : decode cX5_stock 6 = .ok (.getfield 29, 3) := by decide +kernel
theorem dX5_stock_9 : decode cX5_stock 9 = .ok (.iload_n 1, 1) := by decide +kernel
theorem dX5_stock_10 : decode cX5_stock 10 = .ok (.aaload, 1) := by decide +kernel
theorem dX5_stock_11 : decode cX5_stock 11 = .ok (.getfield 168, 3) := by decide +kernel
theorem dX5_stock_14 : decode cX5_stock 14 = .ok (.bipush 12, 2) := by decide +kernel
theorem dX5_stock_16 : decode cX5_stock 16 = .ok (.if_icmp .ge 7, 3) := by decide +kernel
theorem dX5_stock_19 : decode cX5_stock 19 = .ok (.iconst 1, 1) := by decide +kernel
theorem dX5_stock_20 : decode cX5_stock 20 = .ok (.goto 4, 3) := by decide +kernel
theorem dX5_stock_23 : decode cX5_stock 23 = .ok (.iconst 0, 1) := by decide +kernel
theorem dX5_stock_24 : decode cX5_stock 24 = .ok (.invokestatic 59, 3) := by decide +kernel
theorem dX5_stock_27 : decode cX5_stock 27 = .ok (.iload_n 2, 1) := by decide +kernel
theorem dX5_stock_28 : decode cX5_stock 28 = .ok (.iconst 1, 1) := by decide +kernel
theorem dX5_stock_29 : decode cX5_stock 29 = .ok (.ldc 161, 2) := by decide +kernel
theorem dX5_stock_31 : decode cX5_stock 31 = .ok (.invokestatic 65, 3) := by decide +kernel
theorem dX5_stock_34 : decode cX5_stock 34 = .ok (.iload_n 3, 1) := by decide +kernel
theorem dX5_stock_35 : decode cX5_stock 35 = .ok (.iconst 0, 1) := by decide +kernel
theorem dX5_stock_36 : decode cX5_stock 36 = .ok (.ldc 161, 2) := by decide +kernel
theorem dX5_stock_38 : decode cX5_stock 38 = .ok (.invokestatic 65, 3) := by decide +kernel
theorem dX5_stock_41 : decode cX5_stock 41 = .ok (.aload_n 0, 1) := by decide +kernel
theorem dX5_stock_42 : decode cX5_stock 42 = .ok (.getfield 29, 3) := by decide +kernel
theorem dX5_stock_45 : decode cX5_stock 45 = .ok (.iload_n 1, 1) := by decide +kernel
theorem dX5_stock_46 : decode cX5_stock 46 = .ok (.aaload, 1) := by decide +kernel
theorem dX5_stock_47 : decode cX5_stock 47 = .ok (.iload_n 2, 1) := by decide +kernel
theorem dX5_stock_48 : decode cX5_stock 48 = .ok (.iload_n 3, 1) := by decide +kernel
theorem dX5_stock_49 : decode cX5_stock 49 = .ok (.invokevirtual 171, 3) := by decide +kernel
theorem dX5_stock_52 : decode cX5_stock 52 = .ok (.ireturn, 1) := by decide +kernel
theorem dX5_take_0 : decode cX5_take 0 = .ok (.iload_n 1, 1) := by decide +kernel
theorem dX5_take_1 : decode cX5_take 1 = .ok (.iconst 4, 1) := by decide +kernel
theorem dX5_take_2 : decode cX5_take 2 = .ok (.invokestatic 52, 3) := by decide +kernel
theorem dX5_take_5 : decode cX5_take 5 = .ok (.iload_n 2, 1) := by decide +kernel
theorem dX5_take_6 : decode cX5_take 6 = .ok (.iconst 1, 1) := by decide +kernel
theorem dX5_take_7 : decode cX5_take 7 = .ok (.ldc 161, 2) := by decide +kernel
theorem dX5_take_9 : decode cX5_take 9 = .ok (.invokestatic 65, 3) := by decide +kernel
theorem dX5_take_12 : decode cX5_take 12 = .ok (.iload_n 2, 1) := by decide +kernel
theorem dX5_take_13 : decode cX5_take 13 = .ok (.aload_n 0, 1) := by decide +kernel
theorem dX5_take_14 : decode cX5_take 14 = .ok (.getfield 29, 3) := by decide +kernel
theorem dX5_take_17 : decode cX5_take 17 = .ok (.iload_n 1, 1) := by decide +kernel
theorem dX5_take_18 : decode cX5_take 18 = .ok (.aaload, 1) := by decide +kernel
theorem dX5_take_19 : decode cX5_take 19 = .ok (.invokevirtual 174, 3) := by decide +kernel
theorem dX5_take_22 : decode cX5_take 22 = .ok (.if_icmp .le 13, 3) := by decide +kernel
theorem dX5_take_25 : decode cX5_take 25 = .ok (.new 88, 3) := by decide +kernel
theorem dX5_take_28 : decode cX5_take 28 = .ok (.dup, 1) := by decide +kernel
theorem dX5_take_29 : decode cX5_take 29 = .ok (.ldc 177, 2) := by decide +kernel
theorem dX5_take_31 : decode cX5_take 31 = .ok (.invokespecial 92, 3) := by decide +kernel
theorem dX5_take_34 : decode cX5_take 34 = .ok (.athrow, 1) := by decide +kernel
theorem dX5_take_35 : decode cX5_take 35 = .ok (.aload_n 0, 1) := by decide +kernel
theorem dX5_take_36 : decode cX5_take 36 = .ok (.getfield 29, 3) := by decide +kernel
theorem dX5_take_39 : decode cX5_take 39 = .ok (.iload_n 1, 1) := by decide +kernel
theorem dX5_take_40 : decode cX5_take 40 = .ok (.aaload, 1) := by decide +kernel
theorem dX5_take_41 : decode cX5_take 41 = .ok (.iload_n 2, 1) := by decide +kernel
theorem dX5_take_42 : decode cX5_take 42 = .ok (.invokevirtual 179, 3) := by decide +kernel
theorem dX5_take_45 : decode cX5_take 45 = .ok (.lreturn, 1) := by decide +kernel
theorem dX5_in_0 : decode cX5_in 0 = .ok (.iload_n 1, 1) := by decide +kernel
theorem dX5_in_1 : decode cX5_in 1 = .ok (.iconst 4, 1) := by decide +kernel
theorem dX5_in_2 : decode cX5_in 2 = .ok (.invokestatic 52, 3) := by decide +kernel
theorem dX5_in_5 : decode cX5_in 5 = .ok (.iload_n 2, 1) := by decide +kernel
theorem dX5_in_6 : decode cX5_in 6 = .ok (.tableswitch 58 0 2 #[26, 37, 47], 26) := by decide +kernel
theorem dX5_in_32 : decode cX5_in 32 = .ok (.aload_n 0, 1) := by decide +kernel
theorem dX5_in_33 : decode cX5_in 33 = .ok (.getfield 29, 3) := by decide +kernel
theorem dX5_in_36 : decode cX5_in 36 = .ok (.iload_n 1, 1) := by decide +kernel
theorem dX5_in_37 : decode cX5_in 37 = .ok (.aaload, 1) := by decide +kernel
theorem dX5_in_38 : decode cX5_in 38 = .ok (.invokevirtual 174, 3) := by decide +kernel
theorem dX5_in_41 : decode cX5_in 41 = .ok (.i2l, 1) := by decide +kernel
theorem dX5_in_42 : decode cX5_in 42 = .ok (.lreturn, 1) := by decide +kernel
theorem dX5_in_43 : decode cX5_in 43 = .ok (.aload_n 0, 1) := by decide +kernel
theorem dX5_in_44 : decode cX5_in 44 = .ok (.getfield 29, 3) := by decide +kernel
theorem dX5_in_47 : decode cX5_in 47 = .ok (.iload_n 1, 1) := by decide +kernel
theorem dX5_in_48 : decode cX5_in 48 = .ok (.aaload, 1) := by decide +kernel
theorem dX5_in_49 : decode cX5_in 49 = .ok (.invokevirtual 182, 3) := by decide +kernel
theorem dX5_in_52 : decode cX5_in 52 = .ok (.lreturn, 1) := by decide +kernel
theorem dX5_in_53 : decode cX5_in 53 = .ok (.aload_n 0, 1) := by decide +kernel
theorem dX5_in_54 : decode cX5_in 54 = .ok (.getfield 29, 3) := by decide +kernel
theorem dX5_in_57 : decode cX5_in 57 = .ok (.iload_n 1, 1) := by decide +kernel
theorem dX5_in_58 : decode cX5_in 58 = .ok (.aaload, 1) := by decide +kernel
theorem dX5_in_59 : decode cX5_in 59 = .ok (.getfield 168, 3) := by decide +kernel
theorem dX5_in_62 : decode cX5_in 62 = .ok (.i2l, 1) := by decide +kernel
theorem dX5_in_63 : decode cX5_in 63 = .ok (.lreturn, 1) := by decide +kernel
theorem dX5_in_64 : decode cX5_in 64 = .ok (.new 117, 3) := by decide +kernel
theorem dX5_in_67 : decode cX5_in 67 = .ok (.dup, 1) := by decide +kernel
theorem dX5_in_68 : decode cX5_in 68 = .ok (.ldc 159, 2) := by decide +kernel
theorem dX5_in_70 : decode cX5_in 70 = .ok (.invokespecial 121, 3) := by decide +kernel
theorem dX5_in_73 : decode cX5_in 73 = .ok (.athrow, 1) := by decide +kernel
theorem dX5_rate_0 : decode cX5_rate 0 = .ok (.iload_n 1, 1) := by decide +kernel
theorem dX5_rate_1 : decode cX5_rate 1 = .ok (.iconst 3, 1) := by decide +kernel
theorem dX5_rate_2 : decode cX5_rate 2 = .ok (.invokestatic 52, 3) := by decide +kernel
theorem dX5_rate_5 : decode cX5_rate 5 = .ok (.aload_n 0, 1) := by decide +kernel
theorem dX5_rate_6 : decode cX5_rate 6 = .ok (.getfield 36, 3) := by decide +kernel
theorem dX5_rate_9 : decode cX5_rate 9 = .ok (.iload_n 1, 1) := by decide +kernel
theorem dX5_rate_10 : decode cX5_rate 10 = .ok (.aaload, 1) := by decide +kernel
theorem dX5_rate_11 : decode cX5_rate 11 = .ok (.getfield 186, 3) := by decide +kernel
theorem dX5_rate_14 : decode cX5_rate 14 = .ok (.bipush 10, 2) := by decide +kernel
theorem dX5_rate_16 : decode cX5_rate 16 = .ok (.if_icmp .ge 7, 3) := by decide +kernel
theorem dX5_rate_19 : decode cX5_rate 19 = .ok (.iconst 1, 1) := by decide +kernel
theorem dX5_rate_20 : decode cX5_rate 20 = .ok (.goto 4, 3) := by decide +kernel
theorem dX5_rate_23 : decode cX5_rate 23 = .ok (.iconst 0, 1) := by decide +kernel
theorem dX5_rate_24 : decode cX5_rate 24 = .ok (.invokestatic 59, 3) := by decide +kernel
theorem dX5_rate_27 : decode cX5_rate 27 = .ok (.iload_n 2, 1) := by decide +kernel
theorem dX5_rate_28 : decode cX5_rate 28 = .ok (.iconst 0, 1) := by decide +kernel
theorem dX5_rate_29 : decode cX5_rate 29 = .ok (.sipush 365, 3) := by decide +kernel
theorem dX5_rate_32 : decode cX5_rate 32 = .ok (.invokestatic 65, 3) := by decide +kernel
theorem dX5_rate_35 : decode cX5_rate 35 = .ok (.iload_n 3, 1) := by decide +kernel
theorem dX5_rate_36 : decode cX5_rate 36 = .ok (.iconst 1, 1) := by decide +kernel
theorem dX5_rate_37 : decode cX5_rate 37 = .ok (.ldc 187, 2) := by decide +kernel
theorem dX5_rate_39 : decode cX5_rate 39 = .ok (.invokestatic 65, 3) := by decide +kernel
theorem dX5_rate_42 : decode cX5_rate 42 = .ok (.iload_n 2, 1) := by decide +kernel
theorem dX5_rate_43 : decode cX5_rate 43 = .ok (.aload_n 0, 1) := by decide +kernel
theorem dX5_rate_44 : decode cX5_rate 44 = .ok (.getfield 36, 3) := by decide +kernel
theorem dX5_rate_47 : decode cX5_rate 47 = .ok (.iload_n 1, 1) := by decide +kernel
theorem dX5_rate_48 : decode cX5_rate 48 = .ok (.aaload, 1) := by decide +kernel
theorem dX5_rate_49 : decode cX5_rate 49 = .ok (.invokevirtual 188, 3) := by decide +kernel
theorem dX5_rate_52 : decode cX5_rate 52 = .ok (.if_icmp .gt 13, 3) := by decide +kernel
theorem dX5_rate_55 : decode cX5_rate 55 = .ok (.new 69, 3) := by decide +kernel
theorem dX5_rate_58 : decode cX5_rate 58 = .ok (.dup, 1) := by decide +kernel
theorem dX5_rate_59 : decode cX5_rate 59 = .ok (.ldc 191, 2) := by decide +kernel
theorem dX5_rate_61 : decode cX5_rate 61 = .ok (.invokespecial 73, 3) := by decide +kernel
theorem dX5_rate_64 : decode cX5_rate 64 = .ok (.athrow, 1) := by decide +kernel
theorem dX5_rate_65 : decode cX5_rate 65 = .ok (.aload_n 0, 1) := by decide +kernel
theorem dX5_rate_66 : decode cX5_rate 66 = .ok (.getfield 36, 3) := by decide +kernel
theorem dX5_rate_69 : decode cX5_rate 69 = .ok (.iload_n 1, 1) := by decide +kernel
theorem dX5_rate_70 : decode cX5_rate 70 = .ok (.aaload, 1) := by decide +kernel
theorem dX5_rate_71 : decode cX5_rate 71 = .ok (.iload_n 2, 1) := by decide +kernel
theorem dX5_rate_72 : decode cX5_rate 72 = .ok (.iload_n 3, 1) := by decide +kernel
theorem dX5_rate_73 : decode cX5_rate 73 = .ok (.invokevirtual 193, 3) := by decide +kernel
theorem dX5_rate_76 : decode cX5_rate 76 = .ok (.ireturn, 1) := by decide +kernel
theorem dX5_foreign_0 : decode cX5_foreign 0 = .ok (.iload_n 1, 1) := by decide +kernel
theorem dX5_foreign_1 : decode cX5_foreign 1 = .ok (.iconst 3, 1) := by decide +kernel
theorem dX5_foreign_2 : decode cX5_foreign 2 = .ok (.invokestatic 52, 3) := by decide +kernel
theorem dX5_foreign_5 : decode cX5_foreign 5 = .ok (.iload_n 2, 1) := by decide +kernel
theorem dX5_foreign_6 : decode cX5_foreign 6 = .ok (.iconst 0, 1) := by decide +kernel
theorem dX5_foreign_7 : decode cX5_foreign 7 = .ok (.sipush 365, 3) := by decide +kernel
theorem dX5_foreign_10 : decode cX5_foreign 10 = .ok (.invokestatic 65, 3) := by decide +kernel
theorem dX5_foreign_13 : decode cX5_foreign 13 = .ok (.iload_n 3, 1) := by decide +kernel
theorem dX5_foreign_14 : decode cX5_foreign 14 = .ok (.iconst 0, 1) := by decide +kernel
theorem dX5_foreign_15 : decode cX5_foreign 15 = .ok (.ldc 64, 2) := by decide +kernel
theorem dX5_foreign_17 : decode cX5_foreign 17 = .ok (.invokestatic 65, 3) := by decide +kernel
theorem dX5_foreign_20 : decode cX5_foreign 20 = .ok (.aload_n 0, 1) := by decide +kernel
theorem dX5_foreign_21 : decode cX5_foreign 21 = .ok (.getfield 36, 3) := by decide +kernel
theorem dX5_foreign_24 : decode cX5_foreign 24 = .ok (.iload_n 1, 1) := by decide +kernel
theorem dX5_foreign_25 : decode cX5_foreign 25 = .ok (.aaload, 1) := by decide +kernel
theorem dX5_foreign_26 : decode cX5_foreign 26 = .ok (.iload_n 2, 1) := by decide +kernel
theorem dX5_foreign_27 : decode cX5_foreign 27 = .ok (.invokevirtual 195, 3) := by decide +kernel
theorem dX5_foreign_30 : decode cX5_foreign 30 = .ok (.i2l, 1) := by decide +kernel
theorem dX5_foreign_31 : decode cX5_foreign 31 = .ok (.lstore 4, 2) := by decide +kernel
theorem dX5_foreign_33 : decode cX5_foreign 33 = .ok (.lload 4, 2) := by decide +kernel
theorem dX5_foreign_35 : decode cX5_foreign 35 = .ok (.lconst 0, 1) := by decide +kernel
theorem dX5_foreign_36 : decode cX5_foreign 36 = .ok (.lcmp, 1) := by decide +kernel
theorem dX5_foreign_37 : decode cX5_foreign 37 = .ok (.ifCond .ne 13, 3) := by decide +kernel
theorem dX5_foreign_40 : decode cX5_foreign 40 = .ok (.new 88, 3) := by decide +kernel
theorem dX5_foreign_43 : decode cX5_foreign 43 = .ok (.dup, 1) := by decide +kernel
theorem dX5_foreign_44 : decode cX5_foreign 44 = .ok (.ldc 198, 2) := by decide +kernel
theorem dX5_foreign_46 : decode cX5_foreign 46 = .ok (.invokespecial 92, 3) := by decide +kernel
theorem dX5_foreign_49 : decode cX5_foreign 49 = .ok (.athrow, 1) := by decide +kernel
theorem dX5_foreign_50 : decode cX5_foreign 50 = .ok (.iload_n 3, 1) := by decide +kernel
theorem dX5_foreign_51 : decode cX5_foreign 51 = .ok (.i2l, 1) := by decide +kernel
theorem dX5_foreign_52 : decode cX5_foreign 52 = .ok (.lload 4, 2) := by decide +kernel
theorem dX5_foreign_54 : decode cX5_foreign 54 = .ok (.lmul, 1) := by decide +kernel
theorem dX5_foreign_55 : decode cX5_foreign 55 = .ok (.ldc2_w 200, 3) := by decide +kernel
theorem dX5_foreign_58 : decode cX5_foreign 58 = .ok (.ladd, 1) := by decide +kernel
theorem dX5_foreign_59 : decode cX5_foreign 59 = .ok (.ldc2_w 202, 3) := by decide +kernel
theorem dX5_foreign_62 : decode cX5_foreign 62 = .ok (.ldiv, 1) := by decide +kernel
theorem dX5_foreign_63 : decode cX5_foreign 63 = .ok (.lreturn, 1) := by decide +kernel
theorem dX5_piece_0 : decode cX5_piece 0 = .ok (.iload_n 1, 1) := by decide +kernel
theorem dX5_piece_1 : decode cX5_piece 1 = .ok (.bipush 8, 2) := by decide +kernel
theorem dX5_piece_3 : decode cX5_piece 3 = .ok (.invokestatic 52, 3) := by decide +kernel
theorem dX5_piece_6 : decode cX5_piece 6 = .ok (.aload_n 0, 1) := by decide +kernel
theorem dX5_piece_7 : decode cX5_piece 7 = .ok (.getfield 44, 3) := by decide +kernel
theorem dX5_piece_10 : decode cX5_piece 10 = .ok (.getfield 158, 3) := by decide +kernel
theorem dX5_piece_13 : decode cX5_piece 13 = .ok (.bipush 10, 2) := by decide +kernel
theorem dX5_piece_15 : decode cX5_piece 15 = .ok (.if_icmp .ge 7, 3) := by decide +kernel
theorem dX5_piece_18 : decode cX5_piece 18 = .ok (.iconst 1, 1) := by decide +kernel
theorem dX5_piece_19 : decode cX5_piece 19 = .ok (.goto 4, 3) := by decide +kernel
theorem dX5_piece_22 : decode cX5_piece 22 = .ok (.iconst 0, 1) := by decide +kernel
theorem dX5_piece_23 : decode cX5_piece 23 = .ok (.invokestatic 59, 3) := by decide +kernel
theorem dX5_piece_26 : decode cX5_piece 26 = .ok (.iload_n 2, 1) := by decide +kernel
theorem dX5_piece_27 : decode cX5_piece 27 = .ok (.iconst 1, 1) := by decide +kernel
theorem dX5_piece_28 : decode cX5_piece 28 = .ok (.ldc 161, 2) := by decide +kernel
theorem dX5_piece_30 : decode cX5_piece 30 = .ok (.invokestatic 65, 3) := by decide +kernel
theorem dX5_piece_33 : decode cX5_piece 33 = .ok (.aload_n 0, 1) := by decide +kernel
theorem dX5_piece_34 : decode cX5_piece 34 = .ok (.getfield 44, 3) := by decide +kernel
theorem dX5_piece_37 : decode cX5_piece 37 = .ok (.iload_n 1, 1) := by decide +kernel
theorem dX5_piece_38 : decode cX5_piece 38 = .ok (.iload_n 2, 1) := by decide +kernel
theorem dX5_piece_39 : decode cX5_piece 39 = .ok (.invokevirtual 204, 3) := by decide +kernel
theorem dX5_piece_42 : decode cX5_piece 42 = .ok (.ireturn, 1) := by decide +kernel
theorem dX5_opened_0 : decode cX5_opened 0 = .ok (.iload_n 1, 1) := by decide +kernel
theorem dX5_opened_1 : decode cX5_opened 1 = .ok (.aload_n 0, 1) := by decide +kernel
theorem dX5_opened_2 : decode cX5_opened 2 = .ok (.getfield 44, 3) := by decide +kernel
theorem dX5_opened_5 : decode cX5_opened 5 = .ok (.getfield 158, 3) := by decide +kernel
theorem dX5_opened_8 : decode cX5_opened 8 = .ok (.invokestatic 52, 3) := by decide +kernel
theorem dX5_opened_11 : decode cX5_opened 11 = .ok (.aload_n 0, 1) := by decide +kernel
theorem dX5_opened_12 : decode cX5_opened 12 = .ok (.getfield 19, 3) := by decide +kernel
theorem dX5_opened_15 : decode cX5_opened 15 = .ok (.getfield 147, 3) := by decide +kernel
theorem dX5_opened_18 : decode cX5_opened 18 = .ok (.aload_n 0, 1) := by decide +kernel
theorem dX5_opened_19 : decode cX5_opened 19 = .ok (.getfield 44, 3) := by decide +kernel
theorem dX5_opened_22 : decode cX5_opened 22 = .ok (.getfield 205, 3) := by decide +kernel
theorem dX5_opened_25 : decode cX5_opened 25 = .ok (.iload_n 1, 1) := by decide +kernel
theorem dX5_opened_26 : decode cX5_opened 26 = .ok (.iaload, 1) := by decide +kernel
theorem dX5_opened_27 : decode cX5_opened 27 = .ok (.laload, 1) := by decide +kernel
theorem dX5_opened_28 : decode cX5_opened 28 = .ok (.lstore_n 2, 1) := by decide +kernel
theorem dX5_opened_29 : decode cX5_opened 29 = .ok (.aload_n 0, 1) := by decide +kernel
theorem dX5_opened_30 : decode cX5_opened 30 = .ok (.getfield 44, 3) := by decide +kernel
theorem dX5_opened_33 : decode cX5_opened 33 = .ok (.iload_n 1, 1) := by decide +kernel
theorem dX5_opened_34 : decode cX5_opened 34 = .ok (.iload_n 1, 1) := by decide +kernel
theorem dX5_opened_35 : decode cX5_opened 35 = .ok (.invokevirtual 206, 3) := by decide +kernel
theorem dX5_opened_38 : decode cX5_opened 38 = .ok (.lstore 4, 2) := by decide +kernel
theorem dX5_opened_40 : decode cX5_opened 40 = .ok (.aload_n 0, 1) := by decide +kernel
theorem dX5_opened_41 : decode cX5_opened 41 = .ok (.getfield 44, 3) := by decide +kernel
theorem dX5_opened_44 : decode cX5_opened 44 = .ok (.iload_n 1, 1) := by decide +kernel
theorem dX5_opened_45 : decode cX5_opened 45 = .ok (.aload_n 0, 1) := by decide +kernel
theorem dX5_opened_46 : decode cX5_opened 46 = .ok (.getfield 44, 3) := by decide +kernel
theorem dX5_opened_49 : decode cX5_opened 49 = .ok (.getfield 158, 3) := by decide +kernel
theorem dX5_opened_52 : decode cX5_opened 52 = .ok (.invokevirtual 206, 3) := by decide +kernel
theorem dX5_opened_55 : decode cX5_opened 55 = .ok (.lstore 6, 2) := by decide +kernel
theorem dX5_opened_57 : decode cX5_opened 57 = .ok (.lload_n 2, 1) := by decide +kernel
theorem dX5_opened_58 : decode cX5_opened 58 = .ok (.lload 4, 2) := by decide +kernel
theorem dX5_opened_60 : decode cX5_opened 60 = .ok (.aload_n 0, 1) := by decide +kernel
theorem dX5_opened_61 : decode cX5_opened 61 = .ok (.getfield 44, 3) := by decide +kernel
theorem dX5_opened_64 : decode cX5_opened 64 = .ok (.getfield 209, 3) := by decide +kernel
theorem dX5_opened_67 : decode cX5_opened 67 = .ok (.iload_n 1, 1) := by decide +kernel
theorem dX5_opened_68 : decode cX5_opened 68 = .ok (.iaload, 1) := by decide +kernel
theorem dX5_opened_69 : decode cX5_opened 69 = .ok (.i2l, 1) := by decide +kernel
theorem dX5_opened_70 : decode cX5_opened 70 = .ok (.lload 6, 2) := by decide +kernel
theorem dX5_opened_72 : decode cX5_opened 72 = .ok (.invokestatic 164, 3) := by decide +kernel
theorem dX5_opened_75 : decode cX5_opened 75 = .ok (.lreturn, 1) := by decide +kernel
theorem dX5_entryFact_0 : decode cX5_entryFact 0 = .ok (.iload_n 2, 1) := by decide +kernel
theorem dX5_entryFact_1 : decode cX5_entryFact 1 = .ok (.aload_n 0, 1) := by decide +kernel
theorem dX5_entryFact_2 : decode cX5_entryFact 2 = .ok (.getfield 19, 3) := by decide +kernel
theorem dX5_entryFact_5 : decode cX5_entryFact 5 = .ok (.getfield 157, 3) := by decide +kernel
theorem dX5_entryFact_8 : decode cX5_entryFact 8 = .ok (.invokestatic 52, 3) := by decide +kernel
theorem dX5_entryFact_11 : decode cX5_entryFact 11 = .ok (.iload_n 1, 1) := by decide +kernel
theorem dX5_entryFact_12 : decode cX5_entryFact 12 = .ok (.tableswitch 91 3 7 #[36, 47, 58, 69, 80], 36) := by decide +kernel
theorem dX5_entryFact_48 : decode cX5_entryFact 48 = .ok (.aload_n 0, 1) := by decide +kernel
theorem dX5_entryFact_49 : decode cX5_entryFact 49 = .ok (.getfield 19, 3) := by decide +kernel
theorem dX5_entryFact_52 : decode cX5_entryFact 52 = .ok (.getfield 212, 3) := by decide +kernel
theorem dX5_entryFact_55 : decode cX5_entryFact 55 = .ok (.iload_n 2, 1) := by decide +kernel
theorem dX5_entryFact_56 : decode cX5_entryFact 56 = .ok (.iaload, 1) := by decide +kernel
theorem dX5_entryFact_57 : decode cX5_entryFact 57 = .ok (.i2l, 1) := by decide +kernel
theorem dX5_entryFact_58 : decode cX5_entryFact 58 = .ok (.lreturn, 1) := by decide +kernel
theorem dX5_entryFact_59 : decode cX5_entryFact 59 = .ok (.aload_n 0, 1) := by decide +kernel
theorem dX5_entryFact_60 : decode cX5_entryFact 60 = .ok (.getfield 19, 3) := by decide +kernel
theorem dX5_entryFact_63 : decode cX5_entryFact 63 = .ok (.getfield 213, 3) := by decide +kernel
theorem dX5_entryFact_66 : decode cX5_entryFact 66 = .ok (.iload_n 2, 1) := by decide +kernel
theorem dX5_entryFact_67 : decode cX5_entryFact 67 = .ok (.iaload, 1) := by decide +kernel
theorem dX5_entryFact_68 : decode cX5_entryFact 68 = .ok (.i2l, 1) := by decide +kernel
theorem dX5_entryFact_69 : decode cX5_entryFact 69 = .ok (.lreturn, 1) := by decide +kernel
theorem dX5_entryFact_70 : decode cX5_entryFact 70 = .ok (.aload_n 0, 1) := by decide +kernel
theorem dX5_entryFact_71 : decode cX5_entryFact 71 = .ok (.getfield 19, 3) := by decide +kernel
theorem dX5_entryFact_74 : decode cX5_entryFact 74 = .ok (.getfield 214, 3) := by decide +kernel
theorem dX5_entryFact_77 : decode cX5_entryFact 77 = .ok (.iload_n 2, 1) := by decide +kernel
theorem dX5_entryFact_78 : decode cX5_entryFact 78 = .ok (.iaload, 1) := by decide +kernel
theorem dX5_entryFact_79 : decode cX5_entryFact 79 = .ok (.i2l, 1) := by decide +kernel
theorem dX5_entryFact_80 : decode cX5_entryFact 80 = .ok (.lreturn, 1) := by decide +kernel
theorem dX5_entryFact_81 : decode cX5_entryFact 81 = .ok (.aload_n 0, 1) := by decide +kernel
theorem dX5_entryFact_82 : decode cX5_entryFact 82 = .ok (.getfield 19, 3) := by decide +kernel
theorem dX5_entryFact_85 : decode cX5_entryFact 85 = .ok (.getfield 215, 3) := by decide +kernel
theorem dX5_entryFact_88 : decode cX5_entryFact 88 = .ok (.iload_n 2, 1) := by decide +kernel
theorem dX5_entryFact_89 : decode cX5_entryFact 89 = .ok (.iaload, 1) := by decide +kernel
theorem dX5_entryFact_90 : decode cX5_entryFact 90 = .ok (.i2l, 1) := by decide +kernel
theorem dX5_entryFact_91 : decode cX5_entryFact 91 = .ok (.lreturn, 1) := by decide +kernel
theorem dX5_entryFact_92 : decode cX5_entryFact 92 = .ok (.aload_n 0, 1) := by decide +kernel
theorem dX5_entryFact_93 : decode cX5_entryFact 93 = .ok (.getfield 19, 3) := by decide +kernel
theorem dX5_entryFact_96 : decode cX5_entryFact 96 = .ok (.getfield 216, 3) := by decide +kernel
theorem dX5_entryFact_99 : decode cX5_entryFact 99 = .ok (.iload_n 2, 1) := by decide +kernel
theorem dX5_entryFact_100 : decode cX5_entryFact 100 = .ok (.iaload, 1) := by decide +kernel
theorem dX5_entryFact_101 : decode cX5_entryFact 101 = .ok (.i2l, 1) := by decide +kernel
theorem dX5_entryFact_102 : decode cX5_entryFact 102 = .ok (.lreturn, 1) := by decide +kernel
theorem dX5_entryFact_103 : decode cX5_entryFact 103 = .ok (.new 117, 3) := by decide +kernel
theorem dX5_entryFact_106 : decode cX5_entryFact 106 = .ok (.dup, 1) := by decide +kernel
theorem dX5_entryFact_107 : decode cX5_entryFact 107 = .ok (.ldc 159, 2) := by decide +kernel
theorem dX5_entryFact_109 : decode cX5_entryFact 109 = .ok (.invokespecial 121, 3) := by decide +kernel
theorem dX5_entryFact_112 : decode cX5_entryFact 112 = .ok (.athrow, 1) := by decide +kernel
theorem dX5_at_0 : decode cX5_at 0 = .ok (.iload_n 1, 1) := by decide +kernel
theorem dX5_at_1 : decode cX5_at 1 = .ok (.aload_n 0, 1) := by decide +kernel
theorem dX5_at_2 : decode cX5_at 2 = .ok (.arraylength, 1) := by decide +kernel
theorem dX5_at_3 : decode cX5_at 3 = .ok (.invokestatic 52, 3) := by decide +kernel
theorem dX5_at_6 : decode cX5_at 6 = .ok (.aload_n 0, 1) := by decide +kernel
theorem dX5_at_7 : decode cX5_at 7 = .ok (.iload_n 1, 1) := by decide +kernel
theorem dX5_at_8 : decode cX5_at 8 = .ok (.laload, 1) := by decide +kernel
theorem dX5_at_9 : decode cX5_at 9 = .ok (.lreturn, 1) := by decide +kernel
theorem dX5_partOf_0 : decode cX5_partOf 0 = .ok (.lload 6, 2) := by decide +kernel
theorem dX5_partOf_2 : decode cX5_partOf 2 = .ok (.lconst 0, 1) := by decide +kernel
theorem dX5_partOf_3 : decode cX5_partOf 3 = .ok (.lcmp, 1) := by decide +kernel
theorem dX5_partOf_4 : decode cX5_partOf 4 = .ok (.ifCond .ne 5, 3) := by decide +kernel
theorem dX5_partOf_7 : decode cX5_partOf 7 = .ok (.lconst 0, 1) := by decide +kernel
theorem dX5_partOf_8 : decode cX5_partOf 8 = .ok (.lreturn, 1) := by decide +kernel
theorem dX5_partOf_9 : decode cX5_partOf 9 = .ok (.lload_n 0, 1) := by decide +kernel
theorem dX5_partOf_10 : decode cX5_partOf 10 = .ok (.lload_n 2, 1) := by decide +kernel
theorem dX5_partOf_11 : decode cX5_partOf 11 = .ok (.lload 4, 2) := by decide +kernel
theorem dX5_partOf_13 : decode cX5_partOf 13 = .ok (.ladd, 1) := by decide +kernel
theorem dX5_partOf_14 : decode cX5_partOf 14 = .ok (.lmul, 1) := by decide +kernel
theorem dX5_partOf_15 : decode cX5_partOf 15 = .ok (.lload 6, 2) := by decide +kernel
theorem dX5_partOf_17 : decode cX5_partOf 17 = .ok (.ldiv, 1) := by decide +kernel
theorem dX5_partOf_18 : decode cX5_partOf 18 = .ok (.lload_n 0, 1) := by decide +kernel
theorem dX5_partOf_19 : decode cX5_partOf 19 = .ok (.lload_n 2, 1) := by decide +kernel
theorem dX5_partOf_20 : decode cX5_partOf 20 = .ok (.lmul, 1) := by decide +kernel
theorem dX5_partOf_21 : decode cX5_partOf 21 = .ok (.lload 6, 2) := by decide +kernel
theorem dX5_partOf_23 : decode cX5_partOf 23 = .ok (.ldiv, 1) := by decide +kernel
theorem dX5_partOf_24 : decode cX5_partOf 24 = .ok (.lsub, 1) := by decide +kernel
theorem dX5_partOf_25 : decode cX5_partOf 25 = .ok (.lreturn, 1) := by decide +kernel
theorem dX5_checkRoom_0 : decode cX5_checkRoom 0 = .ok (.iload_n 1, 1) := by decide +kernel
theorem dX5_checkRoom_1 : decode cX5_checkRoom 1 = .ok (.sipush 200, 3) := by decide +kernel
theorem dX5_checkRoom_4 : decode cX5_checkRoom 4 = .ok (.aload_n 0, 1) := by decide +kernel
theorem dX5_checkRoom_5 : decode cX5_checkRoom 5 = .ok (.getfield 19, 3) := by decide +kernel
theorem dX5_checkRoom_8 : decode cX5_checkRoom 8 = .ok (.getfield 157, 3) := by decide +kernel
theorem dX5_checkRoom_11 : decode cX5_checkRoom 11 = .ok (.isub, 1) := by decide +kernel
theorem dX5_checkRoom_12 : decode cX5_checkRoom 12 = .ok (.if_icmp .le 13, 3) := by decide +kernel
theorem dX5_checkRoom_15 : decode cX5_checkRoom 15 = .ok (.new 88, 3) := by decide +kernel
theorem dX5_checkRoom_18 : decode cX5_checkRoom 18 = .ok (.dup, 1) := by decide +kernel
theorem dX5_checkRoom_19 : decode cX5_checkRoom 19 = .ok (.ldc 219, 2) := by decide +kernel
theorem dX5_checkRoom_21 : decode cX5_checkRoom 21 = .ok (.invokespecial 92, 3) := by decide +kernel
theorem dX5_checkRoom_24 : decode cX5_checkRoom 24 = .ok (.athrow, 1) := by decide +kernel
theorem dX5_checkRoom_25 : decode cX5_checkRoom 25 = .ok (.return_, 1) := by decide +kernel
theorem dX5_checkIndex_0 : decode cX5_checkIndex 0 = .ok (.iload_n 0, 1) := by decide +kernel
theorem dX5_checkIndex_1 : decode cX5_checkIndex 1 = .ok (.ifCond .lt 8, 3) := by decide +kernel
theorem dX5_checkIndex_4 : decode cX5_checkIndex 4 = .ok (.iload_n 0, 1) := by decide +kernel
theorem dX5_checkIndex_5 : decode cX5_checkIndex 5 = .ok (.iload_n 1, 1) := by decide +kernel
theorem dX5_checkIndex_6 : decode cX5_checkIndex 6 = .ok (.if_icmp .lt 13, 3) := by decide +kernel
theorem dX5_checkIndex_9 : decode cX5_checkIndex 9 = .ok (.new 117, 3) := by decide +kernel
theorem dX5_checkIndex_12 : decode cX5_checkIndex 12 = .ok (.dup, 1) := by decide +kernel
theorem dX5_checkIndex_13 : decode cX5_checkIndex 13 = .ok (.ldc 221, 2) := by decide +kernel
theorem dX5_checkIndex_15 : decode cX5_checkIndex 15 = .ok (.invokespecial 121, 3) := by decide +kernel
theorem dX5_checkIndex_18 : decode cX5_checkIndex 18 = .ok (.athrow, 1) := by decide +kernel
theorem dX5_checkIndex_19 : decode cX5_checkIndex 19 = .ok (.return_, 1) := by decide +kernel
theorem dX5_checkTurn_0 : decode cX5_checkTurn 0 = .ok (.iload_n 0, 1) := by decide +kernel
theorem dX5_checkTurn_1 : decode cX5_checkTurn 1 = .ok (.ifCond .ne 13, 3) := by decide +kernel
theorem dX5_checkTurn_4 : decode cX5_checkTurn 4 = .ok (.new 223, 3) := by decide +kernel
theorem dX5_checkTurn_7 : decode cX5_checkTurn 7 = .ok (.dup, 1) := by decide +kernel
theorem dX5_checkTurn_8 : decode cX5_checkTurn 8 = .ok (.ldc 225, 2) := by decide +kernel
theorem dX5_checkTurn_10 : decode cX5_checkTurn 10 = .ok (.invokespecial 227, 3) := by decide +kernel
theorem dX5_checkTurn_13 : decode cX5_checkTurn 13 = .ok (.athrow, 1) := by decide +kernel
theorem dX5_checkTurn_14 : decode cX5_checkTurn 14 = .ok (.return_, 1) := by decide +kernel
theorem dX5_checkRange_0 : decode cX5_checkRange 0 = .ok (.iload_n 0, 1) := by decide +kernel
theorem dX5_checkRange_1 : decode cX5_checkRange 1 = .ok (.iload_n 1, 1) := by decide +kernel
theorem dX5_checkRange_2 : decode cX5_checkRange 2 = .ok (.if_icmp .lt 8, 3) := by decide +kernel
theorem dX5_checkRange_5 : decode cX5_checkRange 5 = .ok (.iload_n 0, 1) := by decide +kernel
theorem dX5_checkRange_6 : decode cX5_checkRange 6 = .ok (.iload_n 2, 1) := by decide +kernel
theorem dX5_checkRange_7 : decode cX5_checkRange 7 = .ok (.if_icmp .le 13, 3) := by decide +kernel
theorem dX5_checkRange_10 : decode cX5_checkRange 10 = .ok (.new 69, 3) := by decide +kernel
theorem dX5_checkRange_13 : decode cX5_checkRange 13 = .ok (.dup, 1) := by decide +kernel
theorem dX5_checkRange_14 : decode cX5_checkRange 14 = .ok (.ldc 228, 2) := by decide +kernel
theorem dX5_checkRange_16 : decode cX5_checkRange 16 = .ok (.invokespecial 73, 3) := by decide +kernel
theorem dX5_checkRange_19 : decode cX5_checkRange 19 = .ok (.athrow, 1) := by decide +kernel
theorem dX5_checkRange_20 : decode cX5_checkRange 20 = .ok (.return_, 1) := by decide +kernel
theorem dX0_init_0 : decode cX0_init 0 = .ok (.aload_n 0, 1) := by decide +kernel
theorem dX0_init_1 : decode cX0_init 1 = .ok (.invokespecial 3, 3) := by decide +kernel
theorem dX0_init_4 : decode cX0_init 4 = .ok (.aload_n 0, 1) := by decide +kernel
theorem dX0_init_5 : decode cX0_init 5 = .ok (.sipush 200, 3) := by decide +kernel
theorem dX0_init_8 : decode cX0_init 8 = .ok (.newarray .int, 2) := by decide +kernel
theorem dX0_init_10 : decode cX0_init 10 = .ok (.putfield 9, 3) := by decide +kernel
theorem dX0_init_13 : decode cX0_init 13 = .ok (.aload_n 0, 1) := by decide +kernel
theorem dX0_init_14 : decode cX0_init 14 = .ok (.sipush 200, 3) := by decide +kernel
theorem dX0_init_17 : decode cX0_init 17 = .ok (.newarray .int, 2) := by decide +kernel
theorem dX0_init_19 : decode cX0_init 19 = .ok (.putfield 15, 3) := by decide +kernel
theorem dX0_init_22 : decode cX0_init 22 = .ok (.aload_n 0, 1) := by decide +kernel
theorem dX0_init_23 : decode cX0_init 23 = .ok (.sipush 200, 3) := by decide +kernel
theorem dX0_init_26 : decode cX0_init 26 = .ok (.newarray .int, 2) := by decide +kernel
theorem dX0_init_28 : decode cX0_init 28 = .ok (.putfield 18, 3) := by decide +kernel
theorem dX0_init_31 : decode cX0_init 31 = .ok (.aload_n 0, 1) := by decide +kernel
theorem dX0_init_32 : decode cX0_init 32 = .ok (.sipush 200, 3) := by decide +kernel
theorem dX0_init_35 : decode cX0_init 35 = .ok (.newarray .int, 2) := by decide +kernel
theorem dX0_init_37 : decode cX0_init 37 = .ok (.putfield 21, 3) := by decide +kernel
theorem dX0_init_40 : decode cX0_init 40 = .ok (.aload_n 0, 1) := by decide +kernel
theorem dX0_init_41 : decode cX0_init 41 = .ok (.sipush 200, 3) := by decide +kernel
theorem dX0_init_44 : decode cX0_init 44 = .ok (.newarray .int, 2) := by decide +kernel
theorem dX0_init_46 : decode cX0_init 46 = .ok (.putfield 24, 3) := by decide +kernel
theorem dX0_init_49 : decode cX0_init 49 = .ok (.aload_n 0, 1) := by decide +kernel
theorem dX0_init_50 : decode cX0_init 50 = .ok (.iconst 0, 1) := by decide +kernel
theorem dX0_init_51 : decode cX0_init 51 = .ok (.putfield 27, 3) := by decide +kernel
theorem dX0_init_54 : decode cX0_init 54 = .ok (.aload_n 0, 1) := by decide +kernel
theorem dX0_init_55 : decode cX0_init 55 = .ok (.bipush 8, 2) := by decide +kernel
theorem dX0_init_57 : decode cX0_init 57 = .ok (.newarray .long, 2) := by decide +kernel
theorem dX0_init_59 : decode cX0_init 59 = .ok (.putfield 31, 3) := by decide +kernel
theorem dX0_init_62 : decode cX0_init 62 = .ok (.aload_n 0, 1) := by decide +kernel
theorem dX0_init_63 : decode cX0_init 63 = .ok (.bipush 8, 2) := by decide +kernel
theorem dX0_init_65 : decode cX0_init 65 = .ok (.newarray .long, 2) := by decide +kernel
theorem dX0_init_67 : decode cX0_init 67 = .ok (.putfield 35, 3) := by decide +kernel
theorem dX0_init_70 : decode cX0_init 70 = .ok (.aload_n 0, 1) := by decide +kernel
theorem dX0_init_71 : decode cX0_init 71 = .ok (.bipush 12, 2) := by decide +kernel
theorem dX0_init_73 : decode cX0_init 73 = .ok (.newarray .long, 2) := by decide +kernel
theorem dX0_init_75 : decode cX0_init 75 = .ok (.putfield 38, 3) := by decide +kernel
theorem dX0_init_78 : decode cX0_init 78 = .ok (.aload_n 0, 1) := by decide +kernel
theorem dX0_init_79 : decode cX0_init 79 = .ok (.sipush 200, 3) := by decide +kernel
theorem dX0_init_82 : decode cX0_init 82 = .ok (.newarray .boolean, 2) := by decide +kernel
theorem dX0_init_84 : decode cX0_init 84 = .ok (.putfield 41, 3) := by decide +kernel
theorem dX0_init_87 : decode cX0_init 87 = .ok (.aload_n 0, 1) := by decide +kernel
theorem dX0_init_88 : decode cX0_init 88 = .ok (.iconst 0, 1) := by decide +kernel
theorem dX0_init_89 : decode cX0_init 89 = .ok (.putfield 45, 3) := by decide +kernel
theorem dX0_init_92 : decode cX0_init 92 = .ok (.return_, 1) := by decide +kernel
theorem dX0_enter_0 : decode cX0_enter 0 = .ok (.aload_n 0, 1) := by decide +kernel
theorem dX0_enter_1 : decode cX0_enter 1 = .ok (.getfield 9, 3) := by decide +kernel
theorem dX0_enter_4 : decode cX0_enter 4 = .ok (.aload_n 0, 1) := by decide +kernel
theorem dX0_enter_5 : decode cX0_enter 5 = .ok (.getfield 27, 3) := by decide +kernel
theorem dX0_enter_8 : decode cX0_enter 8 = .ok (.iload_n 1, 1) := by decide +kernel
theorem dX0_enter_9 : decode cX0_enter 9 = .ok (.iastore, 1) := by decide +kernel
theorem dX0_enter_10 : decode cX0_enter 10 = .ok (.aload_n 0, 1) := by decide +kernel
theorem dX0_enter_11 : decode cX0_enter 11 = .ok (.getfield 15, 3) := by decide +kernel
theorem dX0_enter_14 : decode cX0_enter 14 = .ok (.aload_n 0, 1) := by decide +kernel
theorem dX0_enter_15 : decode cX0_enter 15 = .ok (.getfield 27, 3) := by decide +kernel
theorem dX0_enter_18 : decode cX0_enter 18 = .ok (.iload_n 2, 1) := by decide +kernel
theorem dX0_enter_19 : decode cX0_enter 19 = .ok (.iastore, 1) := by decide +kernel
theorem dX0_enter_20 : decode cX0_enter 20 = .ok (.aload_n 0, 1) := by decide +kernel
theorem dX0_enter_21 : decode cX0_enter 21 = .ok (.getfield 18, 3) := by decide +kernel
theorem dX0_enter_24 : decode cX0_enter 24 = .ok (.aload_n 0, 1) := by decide +kernel
theorem dX0_enter_25 : decode cX0_enter 25 = .ok (.getfield 27, 3) := by decide +kernel
theorem dX0_enter_28 : decode cX0_enter 28 = .ok (.iload_n 3, 1) := by decide +kernel
theorem dX0_enter_29 : decode cX0_enter 29 = .ok (.iastore, 1) := by decide +kernel
theorem dX0_enter_30 : decode cX0_enter 30 = .ok (.aload_n 0, 1) := by decide +kernel
theorem dX0_enter_31 : decode cX0_enter 31 = .ok (.getfield 21, 3) := by decide +kernel
theorem dX0_enter_34 : decode cX0_enter 34 = .ok (.aload_n 0, 1) := by decide +kernel
theorem dX0_enter_35 : decode cX0_enter 35 = .ok (.getfield 27, 3) := by decide +kernel
theorem dX0_enter_38 : decode cX0_enter 38 = .ok (.iload 4, 2) := by decide +kernel
theorem dX0_enter_40 : decode cX0_enter 40 = .ok (.iastore, 1) := by decide +kernel
theorem dX0_enter_41 : decode cX0_enter 41 = .ok (.aload_n 0, 1) := by decide +kernel
theorem dX0_enter_42 : decode cX0_enter 42 = .ok (.getfield 24, 3) := by decide +kernel
theorem dX0_enter_45 : decode cX0_enter 45 = .ok (.aload_n 0, 1) := by decide +kernel
theorem dX0_enter_46 : decode cX0_enter 46 = .ok (.getfield 27, 3) := by decide +kernel
theorem dX0_enter_49 : decode cX0_enter 49 = .ok (.aload_n 0, 1) := by decide +kernel
theorem dX0_enter_50 : decode cX0_enter 50 = .ok (.getfield 45, 3) := by decide +kernel
theorem dX0_enter_53 : decode cX0_enter 53 = .ok (.iastore, 1) := by decide +kernel
theorem dX0_enter_54 : decode cX0_enter 54 = .ok (.aload_n 0, 1) := by decide +kernel
theorem dX0_enter_55 : decode cX0_enter 55 = .ok (.dup, 1) := by decide +kernel
theorem dX0_enter_56 : decode cX0_enter 56 = .ok (.getfield 27, 3) := by decide +kernel
theorem dX0_enter_59 : decode cX0_enter 59 = .ok (.iconst 1, 1) := by decide +kernel
theorem dX0_enter_60 : decode cX0_enter 60 = .ok (.iadd, 1) := by decide +kernel
theorem dX0_enter_61 : decode cX0_enter 61 = .ok (.putfield 27, 3) := by decide +kernel
theorem dX0_enter_64 : decode cX0_enter 64 = .ok (.aload_n 0, 1) := by decide +kernel
theorem dX0_enter_65 : decode cX0_enter 65 = .ok (.getfield 31, 3) := by decide +kernel
theorem dX0_enter_68 : decode cX0_enter 68 = .ok (.iload_n 1, 1) := by decide +kernel
theorem dX0_enter_69 : decode cX0_enter 69 = .ok (.dup2, 1) := by decide +kernel
theorem dX0_enter_70 : decode cX0_enter 70 = .ok (.laload, 1) := by decide +kernel
theorem dX0_enter_71 : decode cX0_enter 71 = .ok (.iload 4, 2) := by decide +kernel
theorem dX0_enter_73 : decode cX0_enter 73 = .ok (.i2l, 1) := by decide +kernel
theorem dX0_enter_74 : decode cX0_enter 74 = .ok (.ladd, 1) := by decide +kernel
theorem dX0_enter_75 : decode cX0_enter 75 = .ok (.lastore, 1) := by decide +kernel
theorem dX0_enter_76 : decode cX0_enter 76 = .ok (.aload_n 0, 1) := by decide +kernel
theorem dX0_enter_77 : decode cX0_enter 77 = .ok (.getfield 35, 3) := by decide +kernel
theorem dX0_enter_80 : decode cX0_enter 80 = .ok (.iload_n 2, 1) := by decide +kernel
theorem dX0_enter_81 : decode cX0_enter 81 = .ok (.dup2, 1) := by decide +kernel
theorem dX0_enter_82 : decode cX0_enter 82 = .ok (.laload, 1) := by decide +kernel
theorem dX0_enter_83 : decode cX0_enter 83 = .ok (.iload 4, 2) := by decide +kernel
theorem dX0_enter_85 : decode cX0_enter 85 = .ok (.i2l, 1) := by decide +kernel
theorem dX0_enter_86 : decode cX0_enter 86 = .ok (.ladd, 1) := by decide +kernel
theorem dX0_enter_87 : decode cX0_enter 87 = .ok (.lastore, 1) := by decide +kernel
theorem dX0_enter_88 : decode cX0_enter 88 = .ok (.aload_n 0, 1) := by decide +kernel
theorem dX0_enter_89 : decode cX0_enter 89 = .ok (.getfield 38, 3) := by decide +kernel
theorem dX0_enter_92 : decode cX0_enter 92 = .ok (.iload_n 3, 1) := by decide +kernel
theorem dX0_enter_93 : decode cX0_enter 93 = .ok (.dup2, 1) := by decide +kernel
theorem dX0_enter_94 : decode cX0_enter 94 = .ok (.laload, 1) := by decide +kernel
theorem dX0_enter_95 : decode cX0_enter 95 = .ok (.iload 4, 2) := by decide +kernel
theorem dX0_enter_97 : decode cX0_enter 97 = .ok (.i2l, 1) := by decide +kernel
theorem dX0_enter_98 : decode cX0_enter 98 = .ok (.ladd, 1) := by decide +kernel
theorem dX0_enter_99 : decode cX0_enter 99 = .ok (.lastore, 1) := by decide +kernel
theorem dX0_enter_100 : decode cX0_enter 100 = .ok (.return_, 1) := by decide +kernel
theorem dX0_endBatch_0 : decode cX0_endBatch 0 = .ok (.aload_n 0, 1) := by decide +kernel
theorem dX0_endBatch_1 : decode cX0_endBatch 1 = .ok (.dup, 1) := by decide +kernel
theorem dX0_endBatch_2 : decode cX0_endBatch 2 = .ok (.getfield 45, 3) := by decide +kernel
theorem dX0_endBatch_5 : decode cX0_endBatch 5 = .ok (.iconst 1, 1) := by decide +kernel
theorem dX0_endBatch_6 : decode cX0_endBatch 6 = .ok (.iadd, 1) := by decide +kernel
theorem dX0_endBatch_7 : decode cX0_endBatch 7 = .ok (.putfield 45, 3) := by decide +kernel
theorem dX0_endBatch_10 : decode cX0_endBatch 10 = .ok (.aload_n 0, 1) := by decide +kernel
theorem dX0_endBatch_11 : decode cX0_endBatch 11 = .ok (.getfield 45, 3) := by decide +kernel
theorem dX0_endBatch_14 : decode cX0_endBatch 14 = .ok (.iconst 1, 1) := by decide +kernel
theorem dX0_endBatch_15 : decode cX0_endBatch 15 = .ok (.isub, 1) := by decide +kernel
theorem dX0_endBatch_16 : decode cX0_endBatch 16 = .ok (.ireturn, 1) := by decide +kernel
theorem dX0_sizeOf_0 : decode cX0_sizeOf 0 = .ok (.iconst 0, 1) := by decide +kernel
theorem dX0_sizeOf_1 : decode cX0_sizeOf 1 = .ok (.istore_n 2, 1) := by decide +kernel
theorem dX0_sizeOf_2 : decode cX0_sizeOf 2 = .ok (.iconst 0, 1) := by decide +kernel
theorem dX0_sizeOf_3 : decode cX0_sizeOf 3 = .ok (.istore_n 3, 1) := by decide +kernel
theorem dX0_sizeOf_4 : decode cX0_sizeOf 4 = .ok (.iload_n 3, 1) := by decide +kernel
theorem dX0_sizeOf_5 : decode cX0_sizeOf 5 = .ok (.aload_n 0, 1) := by decide +kernel
theorem dX0_sizeOf_6 : decode cX0_sizeOf 6 = .ok (.getfield 27, 3) := by decide +kernel
theorem dX0_sizeOf_9 : decode cX0_sizeOf 9 = .ok (.if_icmp .ge 22, 3) := by decide +kernel
theorem dX0_sizeOf_12 : decode cX0_sizeOf 12 = .ok (.aload_n 0, 1) := by decide +kernel
theorem dX0_sizeOf_13 : decode cX0_sizeOf 13 = .ok (.getfield 24, 3) := by decide +kernel
theorem dX0_sizeOf_16 : decode cX0_sizeOf 16 = .ok (.iload_n 3, 1) := by decide +kernel
theorem dX0_sizeOf_17 : decode cX0_sizeOf 17 = .ok (.iaload, 1) := by decide +kernel
theorem dX0_sizeOf_18 : decode cX0_sizeOf 18 = .ok (.iload_n 1, 1) := by decide +kernel
theorem dX0_sizeOf_19 : decode cX0_sizeOf 19 = .ok (.if_icmp .ne 6, 3) := by decide +kernel
theorem dX0_sizeOf_22 : decode cX0_sizeOf 22 = .ok (.iinc 2 1, 3) := by decide +kernel
theorem dX0_sizeOf_25 : decode cX0_sizeOf 25 = .ok (.iinc 3 1, 3) := by decide +kernel
theorem dX0_sizeOf_28 : decode cX0_sizeOf 28 = .ok (.goto (-24), 3) := by decide +kernel
theorem dX0_sizeOf_31 : decode cX0_sizeOf 31 = .ok (.iload_n 2, 1) := by decide +kernel
theorem dX0_sizeOf_32 : decode cX0_sizeOf 32 = .ok (.ireturn, 1) := by decide +kernel
theorem dX0_turnRound_0 : decode cX0_turnRound 0 = .ok (.aload_n 0, 1) := by decide +kernel
theorem dX0_turnRound_1 : decode cX0_turnRound 1 = .ok (.getfield 27, 3) := by decide +kernel
theorem dX0_turnRound_4 : decode cX0_turnRound 4 = .ok (.istore_n 3, 1) := by decide +kernel
theorem dX0_turnRound_5 : decode cX0_turnRound 5 = .ok (.iconst 0, 1) := by decide +kernel
theorem dX0_turnRound_6 : decode cX0_turnRound 6 = .ok (.istore 4, 2) := by decide +kernel
theorem dX0_turnRound_8 : decode cX0_turnRound 8 = .ok (.iload 4, 2) := by decide +kernel
theorem dX0_turnRound_10 : decode cX0_turnRound 10 = .ok (.iload_n 3, 1) := by decide +kernel
theorem dX0_turnRound_11 : decode cX0_turnRound 11 = .ok (.if_icmp .ge 47, 3) := by decide +kernel
theorem dX0_turnRound_14 : decode cX0_turnRound 14 = .ok (.aload_n 0, 1) := by decide +kernel
theorem dX0_turnRound_15 : decode cX0_turnRound 15 = .ok (.getfield 24, 3) := by decide +kernel
theorem dX0_turnRound_18 : decode cX0_turnRound 18 = .ok (.iload 4, 2) := by decide +kernel
theorem dX0_turnRound_20 : decode cX0_turnRound 20 = .ok (.iaload, 1) := by decide +kernel
theorem dX0_turnRound_21 : decode cX0_turnRound 21 = .ok (.iload_n 1, 1) := by decide +kernel
theorem dX0_turnRound_22 : decode cX0_turnRound 22 = .ok (.if_icmp .ne 30, 3) := by decide +kernel
theorem dX0_turnRound_25 : decode cX0_turnRound 25 = .ok (.aload_n 0, 1) := by decide +kernel
theorem dX0_turnRound_26 : decode cX0_turnRound 26 = .ok (.aload_n 0, 1) := by decide +kernel
theorem dX0_turnRound_27 : decode cX0_turnRound 27 = .ok (.getfield 9, 3) := by decide +kernel
theorem dX0_turnRound_30 : decode cX0_turnRound 30 = .ok (.iload 4, 2) := by decide +kernel
theorem dX0_turnRound_32 : decode cX0_turnRound 32 = .ok (.iaload, 1) := by decide +kernel
theorem dX0_turnRound_33 : decode cX0_turnRound 33 = .ok (.aload_n 0, 1) := by decide +kernel
theorem dX0_turnRound_34 : decode cX0_turnRound 34 = .ok (.getfield 15, 3) := by decide +kernel
theorem dX0_turnRound_37 : decode cX0_turnRound 37 = .ok (.iload 4, 2) := by decide +kernel
theorem dX0_turnRound_39 : decode cX0_turnRound 39 = .ok (.iaload, 1) := by decide +kernel
theorem dX0_turnRound_40 : decode cX0_turnRound 40 = .ok (.iload_n 2, 1) := by decide +kernel
theorem dX0_turnRound_41 : decode cX0_turnRound 41 = .ok (.aload_n 0, 1) := by decide +kernel
theorem dX0_turnRound_42 : decode cX0_turnRound 42 = .ok (.getfield 21, 3) := by decide +kernel
theorem dX0_turnRound_45 : decode cX0_turnRound 45 = .ok (.iload 4, 2) := by decide +kernel
theorem dX0_turnRound_47 : decode cX0_turnRound 47 = .ok (.iaload, 1) := by decide +kernel
theorem dX0_turnRound_48 : decode cX0_turnRound 48 = .ok (.ineg, 1) := by decide +kernel
theorem dX0_turnRound_49 : decode cX0_turnRound 49 = .ok (.invokevirtual 48, 3) := by decide +kernel
theorem dX0_turnRound_52 : decode cX0_turnRound 52 = .ok (.iinc 4 1, 3) := by decide +kernel
theorem dX0_turnRound_55 : decode cX0_turnRound 55 = .ok (.goto (-47), 3) := by decide +kernel
theorem dX0_turnRound_58 : decode cX0_turnRound 58 = .ok (.aload_n 0, 1) := by decide +kernel
theorem dX0_turnRound_59 : decode cX0_turnRound 59 = .ok (.invokevirtual 52, 3) := by decide +kernel
theorem dX0_turnRound_62 : decode cX0_turnRound 62 = .ok (.istore 4, 2) := by decide +kernel
theorem dX0_turnRound_64 : decode cX0_turnRound 64 = .ok (.aload_n 0, 1) := by decide +kernel
theorem dX0_turnRound_65 : decode cX0_turnRound 65 = .ok (.getfield 41, 3) := by decide +kernel
theorem dX0_turnRound_68 : decode cX0_turnRound 68 = .ok (.iload_n 1, 1) := by decide +kernel
theorem dX0_turnRound_69 : decode cX0_turnRound 69 = .ok (.iconst 1, 1) := by decide +kernel
theorem dX0_turnRound_70 : decode cX0_turnRound 70 = .ok (.bastore, 1) := by decide +kernel
theorem dX0_turnRound_71 : decode cX0_turnRound 71 = .ok (.aload_n 0, 1) := by decide +kernel
theorem dX0_turnRound_72 : decode cX0_turnRound 72 = .ok (.getfield 41, 3) := by decide +kernel
theorem dX0_turnRound_75 : decode cX0_turnRound 75 = .ok (.iload 4, 2) := by decide +kernel
theorem dX0_turnRound_77 : decode cX0_turnRound 77 = .ok (.iconst 1, 1) := by decide +kernel
theorem dX0_turnRound_78 : decode cX0_turnRound 78 = .ok (.bastore, 1) := by decide +kernel
theorem dX0_turnRound_79 : decode cX0_turnRound 79 = .ok (.iload 4, 2) := by decide +kernel
theorem dX0_turnRound_81 : decode cX0_turnRound 81 = .ok (.ireturn, 1) := by decide +kernel
theorem dX1_init_0 : decode cX1_init 0 = .ok (.aload_n 0, 1) := by decide +kernel
theorem dX1_init_1 : decode cX1_init 1 = .ok (.invokespecial 3, 3) := by decide +kernel
theorem dX1_init_4 : decode cX1_init 4 = .ok (.aload_n 0, 1) := by decide +kernel
theorem dX1_init_5 : decode cX1_init 5 = .ok (.bipush 16, 2) := by decide +kernel
theorem dX1_init_7 : decode cX1_init 7 = .ok (.newarray .int, 2) := by decide +kernel
theorem dX1_init_9 : decode cX1_init 9 = .ok (.putfield 9, 3) := by decide +kernel
theorem dX1_init_12 : decode cX1_init 12 = .ok (.aload_n 0, 1) := by decide +kernel
theorem dX1_init_13 : decode cX1_init 13 = .ok (.bipush 16, 2) := by decide +kernel
theorem dX1_init_15 : decode cX1_init 15 = .ok (.newarray .int, 2) := by decide +kernel
theorem dX1_init_17 : decode cX1_init 17 = .ok (.putfield 15, 3) := by decide +kernel
theorem dX1_init_20 : decode cX1_init 20 = .ok (.aload_n 0, 1) := by decide +kernel
theorem dX1_init_21 : decode cX1_init 21 = .ok (.bipush 16, 2) := by decide +kernel
theorem dX1_init_23 : decode cX1_init 23 = .ok (.newarray .int, 2) := by decide +kernel
theorem dX1_init_25 : decode cX1_init 25 = .ok (.putfield 18, 3) := by decide +kernel
theorem dX1_init_28 : decode cX1_init 28 = .ok (.aload_n 0, 1) := by decide +kernel
theorem dX1_init_29 : decode cX1_init 29 = .ok (.bipush 16, 2) := by decide +kernel
theorem dX1_init_31 : decode cX1_init 31 = .ok (.newarray .int, 2) := by decide +kernel
theorem dX1_init_33 : decode cX1_init 33 = .ok (.putfield 21, 3) := by decide +kernel
theorem dX1_init_36 : decode cX1_init 36 = .ok (.aload_n 0, 1) := by decide +kernel
theorem dX1_init_37 : decode cX1_init 37 = .ok (.iconst 0, 1) := by decide +kernel
theorem dX1_init_38 : decode cX1_init 38 = .ok (.putfield 24, 3) := by decide +kernel
theorem dX1_init_41 : decode cX1_init 41 = .ok (.return_, 1) := by decide +kernel
theorem dX1_add_0 : decode cX1_add 0 = .ok (.aload_n 0, 1) := by decide +kernel
theorem dX1_add_1 : decode cX1_add 1 = .ok (.getfield 9, 3) := by decide +kernel
theorem dX1_add_4 : decode cX1_add 4 = .ok (.aload_n 0, 1) := by decide +kernel
theorem dX1_add_5 : decode cX1_add 5 = .ok (.getfield 24, 3) := by decide +kernel
theorem dX1_add_8 : decode cX1_add 8 = .ok (.iload_n 1, 1) := by decide +kernel
theorem dX1_add_9 : decode cX1_add 9 = .ok (.iastore, 1) := by decide +kernel
theorem dX1_add_10 : decode cX1_add 10 = .ok (.aload_n 0, 1) := by decide +kernel
theorem dX1_add_11 : decode cX1_add 11 = .ok (.getfield 15, 3) := by decide +kernel
theorem dX1_add_14 : decode cX1_add 14 = .ok (.aload_n 0, 1) := by decide +kernel
theorem dX1_add_15 : decode cX1_add 15 = .ok (.getfield 24, 3) := by decide +kernel
theorem dX1_add_18 : decode cX1_add 18 = .ok (.iload_n 2, 1) := by decide +kernel
theorem dX1_add_19 : decode cX1_add 19 = .ok (.iastore, 1) := by decide +kernel
theorem dX1_add_20 : decode cX1_add 20 = .ok (.aload_n 0, 1) := by decide +kernel
theorem dX1_add_21 : decode cX1_add 21 = .ok (.getfield 18, 3) := by decide +kernel
theorem dX1_add_24 : decode cX1_add 24 = .ok (.aload_n 0, 1) := by decide +kernel
theorem dX1_add_25 : decode cX1_add 25 = .ok (.getfield 24, 3) := by decide +kernel
theorem dX1_add_28 : decode cX1_add 28 = .ok (.iload_n 3, 1) := by decide +kernel
theorem dX1_add_29 : decode cX1_add 29 = .ok (.iastore, 1) := by decide +kernel
theorem dX1_add_30 : decode cX1_add 30 = .ok (.aload_n 0, 1) := by decide +kernel
theorem dX1_add_31 : decode cX1_add 31 = .ok (.getfield 21, 3) := by decide +kernel
theorem dX1_add_34 : decode cX1_add 34 = .ok (.aload_n 0, 1) := by decide +kernel
theorem dX1_add_35 : decode cX1_add 35 = .ok (.getfield 24, 3) := by decide +kernel
theorem dX1_add_38 : decode cX1_add 38 = .ok (.iload 4, 2) := by decide +kernel
theorem dX1_add_40 : decode cX1_add 40 = .ok (.iastore, 1) := by decide +kernel
theorem dX1_add_41 : decode cX1_add 41 = .ok (.aload_n 0, 1) := by decide +kernel
theorem dX1_add_42 : decode cX1_add 42 = .ok (.dup, 1) := by decide +kernel
theorem dX1_add_43 : decode cX1_add 43 = .ok (.getfield 24, 3) := by decide +kernel
theorem dX1_add_46 : decode cX1_add 46 = .ok (.iconst 1, 1) := by decide +kernel
theorem dX1_add_47 : decode cX1_add 47 = .ok (.iadd, 1) := by decide +kernel
theorem dX1_add_48 : decode cX1_add 48 = .ok (.putfield 24, 3) := by decide +kernel
theorem dX1_add_51 : decode cX1_add 51 = .ok (.aload_n 0, 1) := by decide +kernel
theorem dX1_add_52 : decode cX1_add 52 = .ok (.getfield 24, 3) := by decide +kernel
theorem dX1_add_55 : decode cX1_add 55 = .ok (.ireturn, 1) := by decide +kernel
theorem dX1_anyBefore_0 : decode cX1_anyBefore 0 = .ok (.iconst 0, 1) := by decide +kernel
theorem dX1_anyBefore_1 : decode cX1_anyBefore 1 = .ok (.istore_n 3, 1) := by decide +kernel
theorem dX1_anyBefore_2 : decode cX1_anyBefore 2 = .ok (.iload_n 3, 1) := by decide +kernel
theorem dX1_anyBefore_3 : decode cX1_anyBefore 3 = .ok (.iload_n 2, 1) := by decide +kernel
theorem dX1_anyBefore_4 : decode cX1_anyBefore 4 = .ok (.if_icmp .ge 21, 3) := by decide +kernel
theorem dX1_anyBefore_7 : decode cX1_anyBefore 7 = .ok (.aload_n 0, 1) := by decide +kernel
theorem dX1_anyBefore_8 : decode cX1_anyBefore 8 = .ok (.getfield 18, 3) := by decide +kernel
theorem dX1_anyBefore_11 : decode cX1_anyBefore 11 = .ok (.iload_n 3, 1) := by decide +kernel
theorem dX1_anyBefore_12 : decode cX1_anyBefore 12 = .ok (.iaload, 1) := by decide +kernel
theorem dX1_anyBefore_13 : decode cX1_anyBefore 13 = .ok (.iload_n 1, 1) := by decide +kernel
theorem dX1_anyBefore_14 : decode cX1_anyBefore 14 = .ok (.if_icmp .ge 5, 3) := by decide +kernel
theorem dX1_anyBefore_17 : decode cX1_anyBefore 17 = .ok (.iconst 1, 1) := by decide +kernel
theorem dX1_anyBefore_18 : decode cX1_anyBefore 18 = .ok (.ireturn, 1) := by decide +kernel
theorem dX1_anyBefore_19 : decode cX1_anyBefore 19 = .ok (.iinc 3 1, 3) := by decide +kernel
theorem dX1_anyBefore_22 : decode cX1_anyBefore 22 = .ok (.goto (-20), 3) := by decide +kernel
theorem dX1_anyBefore_25 : decode cX1_anyBefore 25 = .ok (.iconst 0, 1) := by decide +kernel
theorem dX1_anyBefore_26 : decode cX1_anyBefore 26 = .ok (.ireturn, 1) := by decide +kernel
theorem dX1_sum_0 : decode cX1_sum 0 = .ok (.lconst 0, 1) := by decide +kernel
theorem dX1_sum_1 : decode cX1_sum 1 = .ok (.lstore_n 2, 1) := by decide +kernel
theorem dX1_sum_2 : decode cX1_sum 2 = .ok (.iconst 0, 1) := by decide +kernel
theorem dX1_sum_3 : decode cX1_sum 3 = .ok (.istore 4, 2) := by decide +kernel
theorem dX1_sum_5 : decode cX1_sum 5 = .ok (.iload 4, 2) := by decide +kernel
theorem dX1_sum_7 : decode cX1_sum 7 = .ok (.iload_n 1, 1) := by decide +kernel
theorem dX1_sum_8 : decode cX1_sum 8 = .ok (.if_icmp .ge 20, 3) := by decide +kernel
theorem dX1_sum_11 : decode cX1_sum 11 = .ok (.lload_n 2, 1) := by decide +kernel
theorem dX1_sum_12 : decode cX1_sum 12 = .ok (.aload_n 0, 1) := by decide +kernel
theorem dX1_sum_13 : decode cX1_sum 13 = .ok (.getfield 21, 3) := by decide +kernel
theorem dX1_sum_16 : decode cX1_sum 16 = .ok (.iload 4, 2) := by decide +kernel
theorem dX1_sum_18 : decode cX1_sum 18 = .ok (.iaload, 1) := by decide +kernel
theorem dX1_sum_19 : decode cX1_sum 19 = .ok (.i2l, 1) := by decide +kernel
theorem dX1_sum_20 : decode cX1_sum 20 = .ok (.ladd, 1) := by decide +kernel
theorem dX1_sum_21 : decode cX1_sum 21 = .ok (.lstore_n 2, 1) := by decide +kernel
theorem dX1_sum_22 : decode cX1_sum 22 = .ok (.iinc 4 1, 3) := by decide +kernel
theorem dX1_sum_25 : decode cX1_sum 25 = .ok (.goto (-20), 3) := by decide +kernel
theorem dX1_sum_28 : decode cX1_sum 28 = .ok (.lload_n 2, 1) := by decide +kernel
theorem dX1_sum_29 : decode cX1_sum 29 = .ok (.lreturn, 1) := by decide +kernel
theorem dX2_init_0 : decode cX2_init 0 = .ok (.aload_n 0, 1) := by decide +kernel
theorem dX2_init_1 : decode cX2_init 1 = .ok (.invokespecial 3, 3) := by decide +kernel
theorem dX2_init_4 : decode cX2_init 4 = .ok (.aload_n 0, 1) := by decide +kernel
theorem dX2_init_5 : decode cX2_init 5 = .ok (.bipush 10, 2) := by decide +kernel
theorem dX2_init_7 : decode cX2_init 7 = .ok (.newarray .int, 2) := by decide +kernel
theorem dX2_init_9 : decode cX2_init 9 = .ok (.putfield 9, 3) := by decide +kernel
theorem dX2_init_12 : decode cX2_init 12 = .ok (.aload_n 0, 1) := by decide +kernel
theorem dX2_init_13 : decode cX2_init 13 = .ok (.bipush 10, 2) := by decide +kernel
theorem dX2_init_15 : decode cX2_init 15 = .ok (.newarray .int, 2) := by decide +kernel
theorem dX2_init_17 : decode cX2_init 17 = .ok (.putfield 15, 3) := by decide +kernel
theorem dX2_init_20 : decode cX2_init 20 = .ok (.aload_n 0, 1) := by decide +kernel
theorem dX2_init_21 : decode cX2_init 21 = .ok (.iconst 0, 1) := by decide +kernel
theorem dX2_init_22 : decode cX2_init 22 = .ok (.putfield 18, 3) := by decide +kernel
theorem dX2_init_25 : decode cX2_init 25 = .ok (.return_, 1) := by decide +kernel
theorem dX2_latestDay_0 : decode cX2_latestDay 0 = .ok (.aload_n 0, 1) := by decide +kernel
theorem dX2_latestDay_1 : decode cX2_latestDay 1 = .ok (.getfield 18, 3) := by decide +kernel
theorem dX2_latestDay_4 : decode cX2_latestDay 4 = .ok (.ifCond .ne 7, 3) := by decide +kernel
theorem dX2_latestDay_7 : decode cX2_latestDay 7 = .ok (.iconst (-1), 1) := by decide +kernel
theorem dX2_latestDay_8 : decode cX2_latestDay 8 = .ok (.goto 14, 3) := by decide +kernel
theorem dX2_latestDay_11 : decode cX2_latestDay 11 = .ok (.aload_n 0, 1) := by decide +kernel
theorem dX2_latestDay_12 : decode cX2_latestDay 12 = .ok (.getfield 9, 3) := by decide +kernel
theorem dX2_latestDay_15 : decode cX2_latestDay 15 = .ok (.aload_n 0, 1) := by decide +kernel
theorem dX2_latestDay_16 : decode cX2_latestDay 16 = .ok (.getfield 18, 3) := by decide +kernel
theorem dX2_latestDay_19 : decode cX2_latestDay 19 = .ok (.iconst 1, 1) := by decide +kernel
theorem dX2_latestDay_20 : decode cX2_latestDay 20 = .ok (.isub, 1) := by decide +kernel
theorem dX2_latestDay_21 : decode cX2_latestDay 21 = .ok (.iaload, 1) := by decide +kernel
theorem dX2_latestDay_22 : decode cX2_latestDay 22 = .ok (.ireturn, 1) := by decide +kernel
theorem dX2_add_0 : decode cX2_add 0 = .ok (.aload_n 0, 1) := by decide +kernel
theorem dX2_add_1 : decode cX2_add 1 = .ok (.getfield 9, 3) := by decide +kernel
theorem dX2_add_4 : decode cX2_add 4 = .ok (.aload_n 0, 1) := by decide +kernel
theorem dX2_add_5 : decode cX2_add 5 = .ok (.getfield 18, 3) := by decide +kernel
theorem dX2_add_8 : decode cX2_add 8 = .ok (.iload_n 1, 1) := by decide +kernel
theorem dX2_add_9 : decode cX2_add 9 = .ok (.iastore, 1) := by decide +kernel
theorem dX2_add_10 : decode cX2_add 10 = .ok (.aload_n 0, 1) := by decide +kernel
theorem dX2_add_11 : decode cX2_add 11 = .ok (.getfield 15, 3) := by decide +kernel
theorem dX2_add_14 : decode cX2_add 14 = .ok (.aload_n 0, 1) := by decide +kernel
theorem dX2_add_15 : decode cX2_add 15 = .ok (.getfield 18, 3) := by decide +kernel
theorem dX2_add_18 : decode cX2_add 18 = .ok (.iload_n 2, 1) := by decide +kernel
theorem dX2_add_19 : decode cX2_add 19 = .ok (.iastore, 1) := by decide +kernel
theorem dX2_add_20 : decode cX2_add 20 = .ok (.aload_n 0, 1) := by decide +kernel
theorem dX2_add_21 : decode cX2_add 21 = .ok (.dup, 1) := by decide +kernel
theorem dX2_add_22 : decode cX2_add 22 = .ok (.getfield 18, 3) := by decide +kernel
theorem dX2_add_25 : decode cX2_add 25 = .ok (.iconst 1, 1) := by decide +kernel
theorem dX2_add_26 : decode cX2_add 26 = .ok (.iadd, 1) := by decide +kernel
theorem dX2_add_27 : decode cX2_add 27 = .ok (.putfield 18, 3) := by decide +kernel
theorem dX2_add_30 : decode cX2_add 30 = .ok (.aload_n 0, 1) := by decide +kernel
theorem dX2_add_31 : decode cX2_add 31 = .ok (.getfield 18, 3) := by decide +kernel
theorem dX2_add_34 : decode cX2_add 34 = .ok (.ireturn, 1) := by decide +kernel
theorem dX2_rateOn_0 : decode cX2_rateOn 0 = .ok (.iconst 0, 1) := by decide +kernel
theorem dX2_rateOn_1 : decode cX2_rateOn 1 = .ok (.istore_n 2, 1) := by decide +kernel
theorem dX2_rateOn_2 : decode cX2_rateOn 2 = .ok (.iconst 0, 1) := by decide +kernel
theorem dX2_rateOn_3 : decode cX2_rateOn 3 = .ok (.istore_n 3, 1) := by decide +kernel
theorem dX2_rateOn_4 : decode cX2_rateOn 4 = .ok (.iload_n 3, 1) := by decide +kernel
theorem dX2_rateOn_5 : decode cX2_rateOn 5 = .ok (.aload_n 0, 1) := by decide +kernel
theorem dX2_rateOn_6 : decode cX2_rateOn 6 = .ok (.getfield 18, 3) := by decide +kernel
theorem dX2_rateOn_9 : decode cX2_rateOn 9 = .ok (.if_icmp .ge 26, 3) := by decide +kernel
theorem dX2_rateOn_12 : decode cX2_rateOn 12 = .ok (.aload_n 0, 1) := by decide +kernel
theorem dX2_rateOn_13 : decode cX2_rateOn 13 = .ok (.getfield 9, 3) := by decide +kernel
theorem dX2_rateOn_16 : decode cX2_rateOn 16 = .ok (.iload_n 3, 1) := by decide +kernel
theorem dX2_rateOn_17 : decode cX2_rateOn 17 = .ok (.iaload, 1) := by decide +kernel
theorem dX2_rateOn_18 : decode cX2_rateOn 18 = .ok (.iload_n 1, 1) := by decide +kernel
theorem dX2_rateOn_19 : decode cX2_rateOn 19 = .ok (.if_icmp .gt 10, 3) := by decide +kernel
theorem dX2_rateOn_22 : decode cX2_rateOn 22 = .ok (.aload_n 0, 1) := by decide +kernel
theorem dX2_rateOn_23 : decode cX2_rateOn 23 = .ok (.getfield 15, 3) := by decide +kernel
theorem dX2_rateOn_26 : decode cX2_rateOn 26 = .ok (.iload_n 3, 1) := by decide +kernel
theorem dX2_rateOn_27 : decode cX2_rateOn 27 = .ok (.iaload, 1) := by decide +kernel
theorem dX2_rateOn_28 : decode cX2_rateOn 28 = .ok (.istore_n 2, 1) := by decide +kernel
theorem dX2_rateOn_29 : decode cX2_rateOn 29 = .ok (.iinc 3 1, 3) := by decide +kernel
theorem dX2_rateOn_32 : decode cX2_rateOn 32 = .ok (.goto (-28), 3) := by decide +kernel
theorem dX2_rateOn_35 : decode cX2_rateOn 35 = .ok (.iload_n 2, 1) := by decide +kernel
theorem dX2_rateOn_36 : decode cX2_rateOn 36 = .ok (.ireturn, 1) := by decide +kernel
theorem dX3_init_0 : decode cX3_init 0 = .ok (.aload_n 0, 1) := by decide +kernel
theorem dX3_init_1 : decode cX3_init 1 = .ok (.invokespecial 3, 3) := by decide +kernel
theorem dX3_init_4 : decode cX3_init 4 = .ok (.aload_n 0, 1) := by decide +kernel
theorem dX3_init_5 : decode cX3_init 5 = .ok (.bipush 10, 2) := by decide +kernel
theorem dX3_init_7 : decode cX3_init 7 = .ok (.newarray .int, 2) := by decide +kernel
theorem dX3_init_9 : decode cX3_init 9 = .ok (.putfield 9, 3) := by decide +kernel
theorem dX3_init_12 : decode cX3_init 12 = .ok (.aload_n 0, 1) := by decide +kernel
theorem dX3_init_13 : decode cX3_init 13 = .ok (.bipush 10, 2) := by decide +kernel
theorem dX3_init_15 : decode cX3_init 15 = .ok (.newarray .int, 2) := by decide +kernel
theorem dX3_init_17 : decode cX3_init 17 = .ok (.putfield 15, 3) := by decide +kernel
theorem dX3_init_20 : decode cX3_init 20 = .ok (.aload_n 0, 1) := by decide +kernel
theorem dX3_init_21 : decode cX3_init 21 = .ok (.iconst 0, 1) := by decide +kernel
theorem dX3_init_22 : decode cX3_init 22 = .ok (.putfield 18, 3) := by decide +kernel
theorem dX3_init_25 : decode cX3_init 25 = .ok (.return_, 1) := by decide +kernel
theorem dX3_add_0 : decode cX3_add 0 = .ok (.aload_n 0, 1) := by decide +kernel
theorem dX3_add_1 : decode cX3_add 1 = .ok (.getfield 9, 3) := by decide +kernel
theorem dX3_add_4 : decode cX3_add 4 = .ok (.aload_n 0, 1) := by decide +kernel
theorem dX3_add_5 : decode cX3_add 5 = .ok (.getfield 18, 3) := by decide +kernel
theorem dX3_add_8 : decode cX3_add 8 = .ok (.iload_n 1, 1) := by decide +kernel
theorem dX3_add_9 : decode cX3_add 9 = .ok (.iastore, 1) := by decide +kernel
theorem dX3_add_10 : decode cX3_add 10 = .ok (.aload_n 0, 1) := by decide +kernel
theorem dX3_add_11 : decode cX3_add 11 = .ok (.getfield 15, 3) := by decide +kernel
theorem dX3_add_14 : decode cX3_add 14 = .ok (.aload_n 0, 1) := by decide +kernel
theorem dX3_add_15 : decode cX3_add 15 = .ok (.getfield 18, 3) := by decide +kernel
theorem dX3_add_18 : decode cX3_add 18 = .ok (.iload_n 2, 1) := by decide +kernel
theorem dX3_add_19 : decode cX3_add 19 = .ok (.iastore, 1) := by decide +kernel
theorem dX3_add_20 : decode cX3_add 20 = .ok (.aload_n 0, 1) := by decide +kernel
theorem dX3_add_21 : decode cX3_add 21 = .ok (.dup, 1) := by decide +kernel
theorem dX3_add_22 : decode cX3_add 22 = .ok (.getfield 18, 3) := by decide +kernel
theorem dX3_add_25 : decode cX3_add 25 = .ok (.iconst 1, 1) := by decide +kernel
theorem dX3_add_26 : decode cX3_add 26 = .ok (.iadd, 1) := by decide +kernel
theorem dX3_add_27 : decode cX3_add 27 = .ok (.putfield 18, 3) := by decide +kernel
theorem dX3_add_30 : decode cX3_add 30 = .ok (.aload_n 0, 1) := by decide +kernel
theorem dX3_add_31 : decode cX3_add 31 = .ok (.getfield 18, 3) := by decide +kernel
theorem dX3_add_34 : decode cX3_add 34 = .ok (.iconst 1, 1) := by decide +kernel
theorem dX3_add_35 : decode cX3_add 35 = .ok (.isub, 1) := by decide +kernel
theorem dX3_add_36 : decode cX3_add 36 = .ok (.ireturn, 1) := by decide +kernel
theorem dX3_weightOfOrder_0 : decode cX3_weightOfOrder 0 = .ok (.lconst 0, 1) := by decide +kernel
theorem dX3_weightOfOrder_1 : decode cX3_weightOfOrder 1 = .ok (.lstore_n 3, 1) := by decide +kernel
theorem dX3_weightOfOrder_2 : decode cX3_weightOfOrder 2 = .ok (.iconst 0, 1) := by decide +kernel
theorem dX3_weightOfOrder_3 : decode cX3_weightOfOrder 3 = .ok (.istore 5, 2) := by decide +kernel
theorem dX3_weightOfOrder_5 : decode cX3_weightOfOrder 5 = .ok (.iload 5, 2) := by decide +kernel
theorem dX3_weightOfOrder_7 : decode cX3_weightOfOrder 7 = .ok (.iload_n 2, 1) := by decide +kernel
theorem dX3_weightOfOrder_8 : decode cX3_weightOfOrder 8 = .ok (.if_icmp .ge 36, 3) := by decide +kernel
theorem dX3_weightOfOrder_11 : decode cX3_weightOfOrder 11 = .ok (.aload_n 0, 1) := by decide +kernel
theorem dX3_weightOfOrder_12 : decode cX3_weightOfOrder 12 = .ok (.getfield 9, 3) := by decide +kernel
theorem dX3_weightOfOrder_15 : decode cX3_weightOfOrder 15 = .ok (.iload 5, 2) := by decide +kernel
theorem dX3_weightOfOrder_17 : decode cX3_weightOfOrder 17 = .ok (.iaload, 1) := by decide +kernel
theorem dX3_weightOfOrder_18 : decode cX3_weightOfOrder 18 = .ok (.aload_n 0, 1) := by decide +kernel
theorem dX3_weightOfOrder_19 : decode cX3_weightOfOrder 19 = .ok (.getfield 9, 3) := by decide +kernel
theorem dX3_weightOfOrder_22 : decode cX3_weightOfOrder 22 = .ok (.iload_n 1, 1) := by decide +kernel
theorem dX3_weightOfOrder_23 : decode cX3_weightOfOrder 23 = .ok (.iaload, 1) := by decide +kernel
theorem dX3_weightOfOrder_24 : decode cX3_weightOfOrder 24 = .ok (.if_icmp .ne 14, 3) := by decide +kernel
theorem dX3_weightOfOrder_27 : decode cX3_weightOfOrder 27 = .ok (.lload_n 3, 1) := by decide +kernel
theorem dX3_weightOfOrder_28 : decode cX3_weightOfOrder 28 = .ok (.aload_n 0, 1) := by decide +kernel
theorem dX3_weightOfOrder_29 : decode cX3_weightOfOrder 29 = .ok (.getfield 15, 3) := by decide +kernel
theorem dX3_weightOfOrder_32 : decode cX3_weightOfOrder 32 = .ok (.iload 5, 2) := by decide +kernel
theorem dX3_weightOfOrder_34 : decode cX3_weightOfOrder 34 = .ok (.iaload, 1) := by decide +kernel
theorem dX3_weightOfOrder_35 : decode cX3_weightOfOrder 35 = .ok (.i2l, 1) := by decide +kernel
theorem dX3_weightOfOrder_36 : decode cX3_weightOfOrder 36 = .ok (.ladd, 1) := by decide +kernel
theorem dX3_weightOfOrder_37 : decode cX3_weightOfOrder 37 = .ok (.lstore_n 3, 1) := by decide +kernel
theorem dX3_weightOfOrder_38 : decode cX3_weightOfOrder 38 = .ok (.iinc 5 1, 3) := by decide +kernel
theorem dX3_weightOfOrder_41 : decode cX3_weightOfOrder 41 = .ok (.goto (-36), 3) := by decide +kernel
theorem dX3_weightOfOrder_44 : decode cX3_weightOfOrder 44 = .ok (.lload_n 3, 1) := by decide +kernel
theorem dX3_weightOfOrder_45 : decode cX3_weightOfOrder 45 = .ok (.lreturn, 1) := by decide +kernel
theorem dX4_init_0 : decode cX4_init 0 = .ok (.aload_n 0, 1) := by decide +kernel
theorem dX4_init_1 : decode cX4_init 1 = .ok (.invokespecial 3, 3) := by decide +kernel
theorem dX4_init_4 : decode cX4_init 4 = .ok (.aload_n 0, 1) := by decide +kernel
theorem dX4_init_5 : decode cX4_init 5 = .ok (.bipush 12, 2) := by decide +kernel
theorem dX4_init_7 : decode cX4_init 7 = .ok (.newarray .int, 2) := by decide +kernel
theorem dX4_init_9 : decode cX4_init 9 = .ok (.putfield 9, 3) := by decide +kernel
theorem dX4_init_12 : decode cX4_init 12 = .ok (.aload_n 0, 1) := by decide +kernel
theorem dX4_init_13 : decode cX4_init 13 = .ok (.bipush 12, 2) := by decide +kernel
theorem dX4_init_15 : decode cX4_init 15 = .ok (.newarray .int, 2) := by decide +kernel
theorem dX4_init_17 : decode cX4_init 17 = .ok (.putfield 15, 3) := by decide +kernel
theorem dX4_init_20 : decode cX4_init 20 = .ok (.aload_n 0, 1) := by decide +kernel
theorem dX4_init_21 : decode cX4_init 21 = .ok (.iconst 0, 1) := by decide +kernel
theorem dX4_init_22 : decode cX4_init 22 = .ok (.putfield 18, 3) := by decide +kernel
theorem dX4_init_25 : decode cX4_init 25 = .ok (.return_, 1) := by decide +kernel
theorem dX4_addLayer_0 : decode cX4_addLayer 0 = .ok (.aload_n 0, 1) := by decide +kernel
theorem dX4_addLayer_1 : decode cX4_addLayer 1 = .ok (.getfield 9, 3) := by decide +kernel
theorem dX4_addLayer_4 : decode cX4_addLayer 4 = .ok (.aload_n 0, 1) := by decide +kernel
theorem dX4_addLayer_5 : decode cX4_addLayer 5 = .ok (.getfield 18, 3) := by decide +kernel
theorem dX4_addLayer_8 : decode cX4_addLayer 8 = .ok (.iload_n 1, 1) := by decide +kernel
theorem dX4_addLayer_9 : decode cX4_addLayer 9 = .ok (.iastore, 1) := by decide +kernel
theorem dX4_addLayer_10 : decode cX4_addLayer 10 = .ok (.aload_n 0, 1) := by decide +kernel
theorem dX4_addLayer_11 : decode cX4_addLayer 11 = .ok (.getfield 15, 3) := by decide +kernel
theorem dX4_addLayer_14 : decode cX4_addLayer 14 = .ok (.aload_n 0, 1) := by decide +kernel
theorem dX4_addLayer_15 : decode cX4_addLayer 15 = .ok (.getfield 18, 3) := by decide +kernel
theorem dX4_addLayer_18 : decode cX4_addLayer 18 = .ok (.iload_n 2, 1) := by decide +kernel
theorem dX4_addLayer_19 : decode cX4_addLayer 19 = .ok (.iastore, 1) := by decide +kernel
theorem dX4_addLayer_20 : decode cX4_addLayer 20 = .ok (.aload_n 0, 1) := by decide +kernel
theorem dX4_addLayer_21 : decode cX4_addLayer 21 = .ok (.dup, 1) := by decide +kernel
theorem dX4_addLayer_22 : decode cX4_addLayer 22 = .ok (.getfield 18, 3) := by decide +kernel
theorem dX4_addLayer_25 : decode cX4_addLayer 25 = .ok (.iconst 1, 1) := by decide +kernel
theorem dX4_addLayer_26 : decode cX4_addLayer 26 = .ok (.iadd, 1) := by decide +kernel
theorem dX4_addLayer_27 : decode cX4_addLayer 27 = .ok (.putfield 18, 3) := by decide +kernel
theorem dX4_addLayer_30 : decode cX4_addLayer 30 = .ok (.aload_n 0, 1) := by decide +kernel
theorem dX4_addLayer_31 : decode cX4_addLayer 31 = .ok (.getfield 18, 3) := by decide +kernel
theorem dX4_addLayer_34 : decode cX4_addLayer 34 = .ok (.ireturn, 1) := by decide +kernel
theorem dX4_allPieces_0 : decode cX4_allPieces 0 = .ok (.iconst 0, 1) := by decide +kernel
theorem dX4_allPieces_1 : decode cX4_allPieces 1 = .ok (.istore_n 1, 1) := by decide +kernel
theorem dX4_allPieces_2 : decode cX4_allPieces 2 = .ok (.iconst 0, 1) := by decide +kernel
theorem dX4_allPieces_3 : decode cX4_allPieces 3 = .ok (.istore_n 2, 1) := by decide +kernel
theorem dX4_allPieces_4 : decode cX4_allPieces 4 = .ok (.iload_n 2, 1) := by decide +kernel
theorem dX4_allPieces_5 : decode cX4_allPieces 5 = .ok (.aload_n 0, 1) := by decide +kernel
theorem dX4_allPieces_6 : decode cX4_allPieces 6 = .ok (.getfield 18, 3) := by decide +kernel
theorem dX4_allPieces_9 : decode cX4_allPieces 9 = .ok (.if_icmp .ge 18, 3) := by decide +kernel
theorem dX4_allPieces_12 : decode cX4_allPieces 12 = .ok (.iload_n 1, 1) := by decide +kernel
theorem dX4_allPieces_13 : decode cX4_allPieces 13 = .ok (.aload_n 0, 1) := by decide +kernel
theorem dX4_allPieces_14 : decode cX4_allPieces 14 = .ok (.getfield 9, 3) := by decide +kernel
theorem dX4_allPieces_17 : decode cX4_allPieces 17 = .ok (.iload_n 2, 1) := by decide +kernel
theorem dX4_allPieces_18 : decode cX4_allPieces 18 = .ok (.iaload, 1) := by decide +kernel
theorem dX4_allPieces_19 : decode cX4_allPieces 19 = .ok (.iadd, 1) := by decide +kernel
theorem dX4_allPieces_20 : decode cX4_allPieces 20 = .ok (.istore_n 1, 1) := by decide +kernel
theorem dX4_allPieces_21 : decode cX4_allPieces 21 = .ok (.iinc 2 1, 3) := by decide +kernel
theorem dX4_allPieces_24 : decode cX4_allPieces 24 = .ok (.goto (-20), 3) := by decide +kernel
theorem dX4_allPieces_27 : decode cX4_allPieces 27 = .ok (.iload_n 1, 1) := by decide +kernel
theorem dX4_allPieces_28 : decode cX4_allPieces 28 = .ok (.ireturn, 1) := by decide +kernel
theorem dX4_worth_0 : decode cX4_worth 0 = .ok (.lconst 0, 1) := by decide +kernel
theorem dX4_worth_1 : decode cX4_worth 1 = .ok (.lstore_n 1, 1) := by decide +kernel
theorem dX4_worth_2 : decode cX4_worth 2 = .ok (.iconst 0, 1) := by decide +kernel
theorem dX4_worth_3 : decode cX4_worth 3 = .ok (.istore_n 3, 1) := by decide +kernel
theorem dX4_worth_4 : decode cX4_worth 4 = .ok (.iload_n 3, 1) := by decide +kernel
theorem dX4_worth_5 : decode cX4_worth 5 = .ok (.aload_n 0, 1) := by decide +kernel
theorem dX4_worth_6 : decode cX4_worth 6 = .ok (.getfield 18, 3) := by decide +kernel
theorem dX4_worth_9 : decode cX4_worth 9 = .ok (.if_icmp .ge 27, 3) := by decide +kernel
theorem dX4_worth_12 : decode cX4_worth 12 = .ok (.lload_n 1, 1) := by decide +kernel
theorem dX4_worth_13 : decode cX4_worth 13 = .ok (.aload_n 0, 1) := by decide +kernel
theorem dX4_worth_14 : decode cX4_worth 14 = .ok (.getfield 9, 3) := by decide +kernel
theorem dX4_worth_17 : decode cX4_worth 17 = .ok (.iload_n 3, 1) := by decide +kernel
theorem dX4_worth_18 : decode cX4_worth 18 = .ok (.iaload, 1) := by decide +kernel
theorem dX4_worth_19 : decode cX4_worth 19 = .ok (.i2l, 1) := by decide +kernel
theorem dX4_worth_20 : decode cX4_worth 20 = .ok (.aload_n 0, 1) := by decide +kernel
theorem dX4_worth_21 : decode cX4_worth 21 = .ok (.getfield 15, 3) := by decide +kernel
theorem dX4_worth_24 : decode cX4_worth 24 = .ok (.iload_n 3, 1) := by decide +kernel
theorem dX4_worth_25 : decode cX4_worth 25 = .ok (.iaload, 1) := by decide +kernel
theorem dX4_worth_26 : decode cX4_worth 26 = .ok (.i2l, 1) := by decide +kernel
theorem dX4_worth_27 : decode cX4_worth 27 = .ok (.lmul, 1) := by decide +kernel
theorem dX4_worth_28 : decode cX4_worth 28 = .ok (.ladd, 1) := by decide +kernel
theorem dX4_worth_29 : decode cX4_worth 29 = .ok (.lstore_n 1, 1) := by decide +kernel
theorem dX4_worth_30 : decode cX4_worth 30 = .ok (.iinc 3 1, 3) := by decide +kernel
theorem dX4_worth_33 : decode cX4_worth 33 = .ok (.goto (-29), 3) := by decide +kernel
theorem dX4_worth_36 : decode cX4_worth 36 = .ok (.lload_n 1, 1) := by decide +kernel
theorem dX4_worth_37 : decode cX4_worth 37 = .ok (.lreturn, 1) := by decide +kernel
theorem dX4_takeOut_0 : decode cX4_takeOut 0 = .ok (.iload_n 1, 1) := by decide +kernel
theorem dX4_takeOut_1 : decode cX4_takeOut 1 = .ok (.istore_n 2, 1) := by decide +kernel
theorem dX4_takeOut_2 : decode cX4_takeOut 2 = .ok (.lconst 0, 1) := by decide +kernel
theorem dX4_takeOut_3 : decode cX4_takeOut 3 = .ok (.lstore_n 3, 1) := by decide +kernel
theorem dX4_takeOut_4 : decode cX4_takeOut 4 = .ok (.iconst 0, 1) := by decide +kernel
theorem dX4_takeOut_5 : decode cX4_takeOut 5 = .ok (.istore 5, 2) := by decide +kernel
theorem dX4_takeOut_7 : decode cX4_takeOut 7 = .ok (.iconst 0, 1) := by decide +kernel
theorem dX4_takeOut_8 : decode cX4_takeOut 8 = .ok (.istore 6, 2) := by decide +kernel
theorem dX4_takeOut_10 : decode cX4_takeOut 10 = .ok (.iload 6, 2) := by decide +kernel
theorem dX4_takeOut_12 : decode cX4_takeOut 12 = .ok (.aload_n 0, 1) := by decide +kernel
theorem dX4_takeOut_13 : decode cX4_takeOut 13 = .ok (.getfield 18, 3) := by decide +kernel
theorem dX4_takeOut_16 : decode cX4_takeOut 16 = .ok (.if_icmp .ge 67, 3) := by decide +kernel
theorem dX4_takeOut_19 : decode cX4_takeOut 19 = .ok (.iload_n 2, 1) := by decide +kernel
theorem dX4_takeOut_20 : decode cX4_takeOut 20 = .ok (.aload_n 0, 1) := by decide +kernel
theorem dX4_takeOut_21 : decode cX4_takeOut 21 = .ok (.getfield 9, 3) := by decide +kernel
theorem dX4_takeOut_24 : decode cX4_takeOut 24 = .ok (.iload 6, 2) := by decide +kernel
theorem dX4_takeOut_26 : decode cX4_takeOut 26 = .ok (.iaload, 1) := by decide +kernel
theorem dX4_takeOut_27 : decode cX4_takeOut 27 = .ok (.invokestatic 22, 3) := by decide +kernel
theorem dX4_takeOut_30 : decode cX4_takeOut 30 = .ok (.istore 7, 2) := by decide +kernel
theorem dX4_takeOut_32 : decode cX4_takeOut 32 = .ok (.aload_n 0, 1) := by decide +kernel
theorem dX4_takeOut_33 : decode cX4_takeOut 33 = .ok (.getfield 9, 3) := by decide +kernel
theorem dX4_takeOut_36 : decode cX4_takeOut 36 = .ok (.iload 6, 2) := by decide +kernel
theorem dX4_takeOut_38 : decode cX4_takeOut 38 = .ok (.dup2, 1) := by decide +kernel
theorem dX4_takeOut_39 : decode cX4_takeOut 39 = .ok (.iaload, 1) := by decide +kernel
theorem dX4_takeOut_40 : decode cX4_takeOut 40 = .ok (.iload 7, 2) := by decide +kernel
theorem dX4_takeOut_42 : decode cX4_takeOut 42 = .ok (.isub, 1) := by decide +kernel
theorem dX4_takeOut_43 : decode cX4_takeOut 43 = .ok (.iastore, 1) := by decide +kernel
theorem dX4_takeOut_44 : decode cX4_takeOut 44 = .ok (.iload_n 2, 1) := by decide +kernel
theorem dX4_takeOut_45 : decode cX4_takeOut 45 = .ok (.iload 7, 2) := by decide +kernel
theorem dX4_takeOut_47 : decode cX4_takeOut 47 = .ok (.isub, 1) := by decide +kernel
theorem dX4_takeOut_48 : decode cX4_takeOut 48 = .ok (.istore_n 2, 1) := by decide +kernel
theorem dX4_takeOut_49 : decode cX4_takeOut 49 = .ok (.lload_n 3, 1) := by decide +kernel
theorem dX4_takeOut_50 : decode cX4_takeOut 50 = .ok (.iload 7, 2) := by decide +kernel
theorem dX4_takeOut_52 : decode cX4_takeOut 52 = .ok (.i2l, 1) := by decide +kernel
theorem dX4_takeOut_53 : decode cX4_takeOut 53 = .ok (.aload_n 0, 1) := by decide +kernel
theorem dX4_takeOut_54 : decode cX4_takeOut 54 = .ok (.getfield 15, 3) := by decide +kernel
theorem dX4_takeOut_57 : decode cX4_takeOut 57 = .ok (.iload 6, 2) := by decide +kernel
theorem dX4_takeOut_59 : decode cX4_takeOut 59 = .ok (.iaload, 1) := by decide +kernel
theorem dX4_takeOut_60 : decode cX4_takeOut 60 = .ok (.i2l, 1) := by decide +kernel
theorem dX4_takeOut_61 : decode cX4_takeOut 61 = .ok (.lmul, 1) := by decide +kernel
theorem dX4_takeOut_62 : decode cX4_takeOut 62 = .ok (.ladd, 1) := by decide +kernel
theorem dX4_takeOut_63 : decode cX4_takeOut 63 = .ok (.lstore_n 3, 1) := by decide +kernel
theorem dX4_takeOut_64 : decode cX4_takeOut 64 = .ok (.aload_n 0, 1) := by decide +kernel
theorem dX4_takeOut_65 : decode cX4_takeOut 65 = .ok (.getfield 9, 3) := by decide +kernel
theorem dX4_takeOut_68 : decode cX4_takeOut 68 = .ok (.iload 6, 2) := by decide +kernel
theorem dX4_takeOut_70 : decode cX4_takeOut 70 = .ok (.iaload, 1) := by decide +kernel
theorem dX4_takeOut_71 : decode cX4_takeOut 71 = .ok (.ifCond .ne 6, 3) := by decide +kernel
theorem dX4_takeOut_74 : decode cX4_takeOut 74 = .ok (.iinc 5 1, 3) := by decide +kernel
theorem dX4_takeOut_77 : decode cX4_takeOut 77 = .ok (.iinc 6 1, 3) := by decide +kernel
theorem dX4_takeOut_80 : decode cX4_takeOut 80 = .ok (.goto (-70), 3) := by decide +kernel
theorem dX4_takeOut_83 : decode cX4_takeOut 83 = .ok (.aload_n 0, 1) := by decide +kernel
theorem dX4_takeOut_84 : decode cX4_takeOut 84 = .ok (.iload 5, 2) := by decide +kernel
theorem dX4_takeOut_86 : decode cX4_takeOut 86 = .ok (.invokevirtual 28, 3) := by decide +kernel
theorem dX4_takeOut_89 : decode cX4_takeOut 89 = .ok (.lload_n 3, 1) := by decide +kernel
theorem dX4_takeOut_90 : decode cX4_takeOut 90 = .ok (.lreturn, 1) := by decide +kernel
theorem dX4_moveUp_0 : decode cX4_moveUp 0 = .ok (.iload_n 1, 1) := by decide +kernel
theorem dX4_moveUp_1 : decode cX4_moveUp 1 = .ok (.istore_n 2, 1) := by decide +kernel
theorem dX4_moveUp_2 : decode cX4_moveUp 2 = .ok (.iload_n 2, 1) := by decide +kernel
theorem dX4_moveUp_3 : decode cX4_moveUp 3 = .ok (.aload_n 0, 1) := by decide +kernel
theorem dX4_moveUp_4 : decode cX4_moveUp 4 = .ok (.getfield 18, 3) := by decide +kernel
theorem dX4_moveUp_7 : decode cX4_moveUp 7 = .ok (.if_icmp .ge 37, 3) := by decide +kernel
theorem dX4_moveUp_10 : decode cX4_moveUp 10 = .ok (.aload_n 0, 1) := by decide +kernel
theorem dX4_moveUp_11 : decode cX4_moveUp 11 = .ok (.getfield 9, 3) := by decide +kernel
theorem dX4_moveUp_14 : decode cX4_moveUp 14 = .ok (.iload_n 2, 1) := by decide +kernel
theorem dX4_moveUp_15 : decode cX4_moveUp 15 = .ok (.iload_n 1, 1) := by decide +kernel
theorem dX4_moveUp_16 : decode cX4_moveUp 16 = .ok (.isub, 1) := by decide +kernel
theorem dX4_moveUp_17 : decode cX4_moveUp 17 = .ok (.aload_n 0, 1) := by decide +kernel
theorem dX4_moveUp_18 : decode cX4_moveUp 18 = .ok (.getfield 9, 3) := by decide +kernel
theorem dX4_moveUp_21 : decode cX4_moveUp 21 = .ok (.iload_n 2, 1) := by decide +kernel
theorem dX4_moveUp_22 : decode cX4_moveUp 22 = .ok (.iaload, 1) := by decide +kernel
theorem dX4_moveUp_23 : decode cX4_moveUp 23 = .ok (.iastore, 1) := by decide +kernel
theorem dX4_moveUp_24 : decode cX4_moveUp 24 = .ok (.aload_n 0, 1) := by decide +kernel
theorem dX4_moveUp_25 : decode cX4_moveUp 25 = .ok (.getfield 15, 3) := by decide +kernel
theorem dX4_moveUp_28 : decode cX4_moveUp 28 = .ok (.iload_n 2, 1) := by decide +kernel
theorem dX4_moveUp_29 : decode cX4_moveUp 29 = .ok (.iload_n 1, 1) := by decide +kernel
theorem dX4_moveUp_30 : decode cX4_moveUp 30 = .ok (.isub, 1) := by decide +kernel
theorem dX4_moveUp_31 : decode cX4_moveUp 31 = .ok (.aload_n 0, 1) := by decide +kernel
theorem dX4_moveUp_32 : decode cX4_moveUp 32 = .ok (.getfield 15, 3) := by decide +kernel
theorem dX4_moveUp_35 : decode cX4_moveUp 35 = .ok (.iload_n 2, 1) := by decide +kernel
theorem dX4_moveUp_36 : decode cX4_moveUp 36 = .ok (.iaload, 1) := by decide +kernel
theorem dX4_moveUp_37 : decode cX4_moveUp 37 = .ok (.iastore, 1) := by decide +kernel
theorem dX4_moveUp_38 : decode cX4_moveUp 38 = .ok (.iinc 2 1, 3) := by decide +kernel
theorem dX4_moveUp_41 : decode cX4_moveUp 41 = .ok (.goto (-39), 3) := by decide +kernel
theorem dX4_moveUp_44 : decode cX4_moveUp 44 = .ok (.aload_n 0, 1) := by decide +kernel
theorem dX4_moveUp_45 : decode cX4_moveUp 45 = .ok (.dup, 1) := by decide +kernel
theorem dX4_moveUp_46 : decode cX4_moveUp 46 = .ok (.getfield 18, 3) := by decide +kernel
theorem dX4_moveUp_49 : decode cX4_moveUp 49 = .ok (.iload_n 1, 1) := by decide +kernel
theorem dX4_moveUp_50 : decode cX4_moveUp 50 = .ok (.isub, 1) := by decide +kernel
theorem dX4_moveUp_51 : decode cX4_moveUp 51 = .ok (.putfield 18, 3) := by decide +kernel
theorem dX4_moveUp_54 : decode cX4_moveUp 54 = .ok (.return_, 1) := by decide +kernel
