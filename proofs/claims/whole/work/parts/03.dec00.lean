theorem dX0_init_0 : decode cX0_init 0 = .ok (.aload_n 0, 1) := by decide +kernel
theorem dX0_init_1 : decode cX0_init 1 = .ok (.invokespecial 3, 3) := by decide +kernel
theorem dX0_init_4 : decode cX0_init 4 = .ok (.aload_n 0, 1) := by decide +kernel
theorem dX0_init_5 : decode cX0_init 5 = .ok (.new 9, 3) := by decide +kernel
theorem dX0_init_8 : decode cX0_init 8 = .ok (.dup, 1) := by decide +kernel
theorem dX0_init_9 : decode cX0_init 9 = .ok (.invokespecial 11, 3) := by decide +kernel
theorem dX0_init_12 : decode cX0_init 12 = .ok (.putfield 12, 3) := by decide +kernel
theorem dX0_init_15 : decode cX0_init 15 = .ok (.aload_n 0, 1) := by decide +kernel
theorem dX0_init_16 : decode cX0_init 16 = .ok (.iconst 4, 1) := by decide +kernel
theorem dX0_init_17 : decode cX0_init 17 = .ok (.anewarray 9, 3) := by decide +kernel
theorem dX0_init_20 : decode cX0_init 20 = .ok (.putfield 18, 3) := by decide +kernel
theorem dX0_init_23 : decode cX0_init 23 = .ok (.aload_n 0, 1) := by decide +kernel
theorem dX0_init_24 : decode cX0_init 24 = .ok (.iconst 3, 1) := by decide +kernel
theorem dX0_init_25 : decode cX0_init 25 = .ok (.newarray .int, 2) := by decide +kernel
theorem dX0_init_27 : decode cX0_init 27 = .ok (.putfield 22, 3) := by decide +kernel
theorem dX0_init_30 : decode cX0_init 30 = .ok (.aload_n 0, 1) := by decide +kernel
theorem dX0_init_31 : decode cX0_init 31 = .ok (.iconst 3, 1) := by decide +kernel
theorem dX0_init_32 : decode cX0_init 32 = .ok (.newarray .int, 2) := by decide +kernel
theorem dX0_init_34 : decode cX0_init 34 = .ok (.putfield 26, 3) := by decide +kernel
theorem dX0_init_37 : decode cX0_init 37 = .ok (.iconst 0, 1) := by decide +kernel
theorem dX0_init_38 : decode cX0_init 38 = .ok (.istore_n 1, 1) := by decide +kernel
theorem dX0_init_39 : decode cX0_init 39 = .ok (.iload_n 1, 1) := by decide +kernel
theorem dX0_init_40 : decode cX0_init 40 = .ok (.iconst 3, 1) := by decide +kernel
theorem dX0_init_41 : decode cX0_init 41 = .ok (.if_icmp .gt 22, 3) := by decide +kernel
theorem dX0_init_44 : decode cX0_init 44 = .ok (.aload_n 0, 1) := by decide +kernel
theorem dX0_init_45 : decode cX0_init 45 = .ok (.getfield 18, 3) := by decide +kernel
theorem dX0_init_48 : decode cX0_init 48 = .ok (.iload_n 1, 1) := by decide +kernel
theorem dX0_init_49 : decode cX0_init 49 = .ok (.new 9, 3) := by decide +kernel
theorem dX0_init_52 : decode cX0_init 52 = .ok (.dup, 1) := by decide +kernel
theorem dX0_init_53 : decode cX0_init 53 = .ok (.invokespecial 11, 3) := by decide +kernel
theorem dX0_init_56 : decode cX0_init 56 = .ok (.aastore, 1) := by decide +kernel
theorem dX0_init_57 : decode cX0_init 57 = .ok (.iinc 1 1, 3) := by decide +kernel
theorem dX0_init_60 : decode cX0_init 60 = .ok (.goto (-21), 3) := by decide +kernel
theorem dX0_init_63 : decode cX0_init 63 = .ok (.return_, 1) := by decide +kernel
theorem dX0_judge_0 : decode cX0_judge 0 = .ok (.iconst (-1), 1) := by decide +kernel
theorem dX0_judge_1 : decode cX0_judge 1 = .ok (.istore 4, 2) := by decide +kernel
theorem dX0_judge_3 : decode cX0_judge 3 = .ok (.aload_n 0, 1) := by decide +kernel
theorem dX0_judge_4 : decode cX0_judge 4 = .ok (.getfield 12, 3) := by decide +kernel
theorem dX0_judge_7 : decode cX0_judge 7 = .ok (.aload_n 1, 1) := by decide +kernel
theorem dX0_judge_8 : decode cX0_judge 8 = .ok (.invokevirtual 29, 3) := by decide +kernel
theorem dX0_judge_11 : decode cX0_judge 11 = .ok (.iconst 0, 1) := by decide +kernel
theorem dX0_judge_12 : decode cX0_judge 12 = .ok (.istore 5, 2) := by decide +kernel
theorem dX0_judge_14 : decode cX0_judge 14 = .ok (.iload 5, 2) := by decide +kernel
theorem dX0_judge_16 : decode cX0_judge 16 = .ok (.aload_n 2, 1) := by decide +kernel
theorem dX0_judge_17 : decode cX0_judge 17 = .ok (.getfield 33, 3) := by decide +kernel
theorem dX0_judge_20 : decode cX0_judge 20 = .ok (.if_icmp .ge 83, 3) := by decide +kernel
theorem dX0_judge_23 : decode cX0_judge 23 = .ok (.aload_n 0, 1) := by decide +kernel
theorem dX0_judge_24 : decode cX0_judge 24 = .ok (.getfield 12, 3) := by decide +kernel
theorem dX0_judge_27 : decode cX0_judge 27 = .ok (.aload_n 1, 1) := by decide +kernel
theorem dX0_judge_28 : decode cX0_judge 28 = .ok (.aload_n 2, 1) := by decide +kernel
theorem dX0_judge_29 : decode cX0_judge 29 = .ok (.getfield 39, 3) := by decide +kernel
theorem dX0_judge_32 : decode cX0_judge 32 = .ok (.iload 5, 2) := by decide +kernel
theorem dX0_judge_34 : decode cX0_judge 34 = .ok (.iaload, 1) := by decide +kernel
theorem dX0_judge_35 : decode cX0_judge 35 = .ok (.aload_n 2, 1) := by decide +kernel
theorem dX0_judge_36 : decode cX0_judge 36 = .ok (.getfield 42, 3) := by decide +kernel
theorem dX0_judge_39 : decode cX0_judge 39 = .ok (.iload 5, 2) := by decide +kernel
theorem dX0_judge_41 : decode cX0_judge 41 = .ok (.iaload, 1) := by decide +kernel
theorem dX0_judge_42 : decode cX0_judge 42 = .ok (.aload_n 2, 1) := by decide +kernel
theorem dX0_judge_43 : decode cX0_judge 43 = .ok (.getfield 45, 3) := by decide +kernel
theorem dX0_judge_46 : decode cX0_judge 46 = .ok (.iload 5, 2) := by decide +kernel
theorem dX0_judge_48 : decode cX0_judge 48 = .ok (.iaload, 1) := by decide +kernel
theorem dX0_judge_49 : decode cX0_judge 49 = .ok (.invokevirtual 48, 3) := by decide +kernel
theorem dX0_judge_52 : decode cX0_judge 52 = .ok (.ifCond .eq 35, 3) := by decide +kernel
theorem dX0_judge_55 : decode cX0_judge 55 = .ok (.aload_n 0, 1) := by decide +kernel
theorem dX0_judge_56 : decode cX0_judge 56 = .ok (.getfield 12, 3) := by decide +kernel
theorem dX0_judge_59 : decode cX0_judge 59 = .ok (.aload_n 1, 1) := by decide +kernel
theorem dX0_judge_60 : decode cX0_judge 60 = .ok (.aload_n 2, 1) := by decide +kernel
theorem dX0_judge_61 : decode cX0_judge 61 = .ok (.getfield 39, 3) := by decide +kernel
theorem dX0_judge_64 : decode cX0_judge 64 = .ok (.iload 5, 2) := by decide +kernel
theorem dX0_judge_66 : decode cX0_judge 66 = .ok (.iaload, 1) := by decide +kernel
theorem dX0_judge_67 : decode cX0_judge 67 = .ok (.aload_n 2, 1) := by decide +kernel
theorem dX0_judge_68 : decode cX0_judge 68 = .ok (.getfield 42, 3) := by decide +kernel
theorem dX0_judge_71 : decode cX0_judge 71 = .ok (.iload 5, 2) := by decide +kernel
theorem dX0_judge_73 : decode cX0_judge 73 = .ok (.iaload, 1) := by decide +kernel
theorem dX0_judge_74 : decode cX0_judge 74 = .ok (.aload_n 2, 1) := by decide +kernel
theorem dX0_judge_75 : decode cX0_judge 75 = .ok (.getfield 45, 3) := by decide +kernel
theorem dX0_judge_78 : decode cX0_judge 78 = .ok (.iload 5, 2) := by decide +kernel
theorem dX0_judge_80 : decode cX0_judge 80 = .ok (.iaload, 1) := by decide +kernel
theorem dX0_judge_81 : decode cX0_judge 81 = .ok (.invokevirtual 52, 3) := by decide +kernel
theorem dX0_judge_84 : decode cX0_judge 84 = .ok (.goto 13, 3) := by decide +kernel
theorem dX0_judge_87 : decode cX0_judge 87 = .ok (.iload 4, 2) := by decide +kernel
theorem dX0_judge_89 : decode cX0_judge 89 = .ok (.iconst (-1), 1) := by decide +kernel
theorem dX0_judge_90 : decode cX0_judge 90 = .ok (.if_icmp .ne 7, 3) := by decide +kernel
theorem dX0_judge_93 : decode cX0_judge 93 = .ok (.iload 5, 2) := by decide +kernel
theorem dX0_judge_95 : decode cX0_judge 95 = .ok (.istore 4, 2) := by decide +kernel
theorem dX0_judge_97 : decode cX0_judge 97 = .ok (.iinc 5 1, 3) := by decide +kernel
theorem dX0_judge_100 : decode cX0_judge 100 = .ok (.goto (-86), 3) := by decide +kernel
theorem dX0_judge_103 : decode cX0_judge 103 = .ok (.iload_n 3, 1) := by decide +kernel
theorem dX0_judge_104 : decode cX0_judge 104 = .ok (.ifCond .ne 6, 3) := by decide +kernel
theorem dX0_judge_107 : decode cX0_judge 107 = .ok (.iload 4, 2) := by decide +kernel
theorem dX0_judge_109 : decode cX0_judge 109 = .ok (.ireturn, 1) := by decide +kernel
theorem dX0_judge_110 : decode cX0_judge 110 = .ok (.iload_n 3, 1) := by decide +kernel
theorem dX0_judge_111 : decode cX0_judge 111 = .ok (.iconst 1, 1) := by decide +kernel
theorem dX0_judge_112 : decode cX0_judge 112 = .ok (.if_icmp .ne 16, 3) := by decide +kernel
theorem dX0_judge_115 : decode cX0_judge 115 = .ok (.aload_n 0, 1) := by decide +kernel
theorem dX0_judge_116 : decode cX0_judge 116 = .ok (.getfield 12, 3) := by decide +kernel
theorem dX0_judge_119 : decode cX0_judge 119 = .ok (.getfield 56, 3) := by decide +kernel
theorem dX0_judge_122 : decode cX0_judge 122 = .ok (.invokestatic 59, 3) := by decide +kernel
theorem dX0_judge_125 : decode cX0_judge 125 = .ok (.goto 10, 3) := by decide +kernel
theorem dX0_judge_128 : decode cX0_judge 128 = .ok (.aload_n 0, 1) := by decide +kernel
theorem dX0_judge_129 : decode cX0_judge 129 = .ok (.getfield 12, 3) := by decide +kernel
theorem dX0_judge_132 : decode cX0_judge 132 = .ok (.getfield 65, 3) := by decide +kernel
theorem dX0_judge_135 : decode cX0_judge 135 = .ok (.ireturn, 1) := by decide +kernel
theorem dX0_bestAsks_0 : decode cX0_bestAsks 0 = .ok (.aload_n 0, 1) := by decide +kernel
theorem dX0_bestAsks_1 : decode cX0_bestAsks 1 = .ok (.ldc 68, 2) := by decide +kernel
theorem dX0_bestAsks_3 : decode cX0_bestAsks 3 = .ok (.putfield 69, 3) := by decide +kernel
theorem dX0_bestAsks_6 : decode cX0_bestAsks 6 = .ok (.aload_n 0, 1) := by decide +kernel
theorem dX0_bestAsks_7 : decode cX0_bestAsks 7 = .ok (.getfield 18, 3) := by decide +kernel
theorem dX0_bestAsks_10 : decode cX0_bestAsks 10 = .ok (.iconst 0, 1) := by decide +kernel
theorem dX0_bestAsks_11 : decode cX0_bestAsks 11 = .ok (.aaload, 1) := by decide +kernel
theorem dX0_bestAsks_12 : decode cX0_bestAsks 12 = .ok (.aload_n 2, 1) := by decide +kernel
theorem dX0_bestAsks_13 : decode cX0_bestAsks 13 = .ok (.invokevirtual 72, 3) := by decide +kernel
theorem dX0_bestAsks_16 : decode cX0_bestAsks 16 = .ok (.aload_n 0, 1) := by decide +kernel
theorem dX0_bestAsks_17 : decode cX0_bestAsks 17 = .ok (.getfield 18, 3) := by decide +kernel
theorem dX0_bestAsks_20 : decode cX0_bestAsks 20 = .ok (.iconst 0, 1) := by decide +kernel
theorem dX0_bestAsks_21 : decode cX0_bestAsks 21 = .ok (.aaload, 1) := by decide +kernel
theorem dX0_bestAsks_22 : decode cX0_bestAsks 22 = .ok (.iconst 0, 1) := by decide +kernel
theorem dX0_bestAsks_23 : decode cX0_bestAsks 23 = .ok (.putfield 65, 3) := by decide +kernel
theorem dX0_bestAsks_26 : decode cX0_bestAsks 26 = .ok (.aload_n 0, 1) := by decide +kernel
theorem dX0_bestAsks_27 : decode cX0_bestAsks 27 = .ok (.aload_n 1, 1) := by decide +kernel
theorem dX0_bestAsks_28 : decode cX0_bestAsks 28 = .ok (.iconst 0, 1) := by decide +kernel
theorem dX0_bestAsks_29 : decode cX0_bestAsks 29 = .ok (.iload_n 3, 1) := by decide +kernel
theorem dX0_bestAsks_30 : decode cX0_bestAsks 30 = .ok (.invokevirtual 76, 3) := by decide +kernel
theorem dX0_bestAsks_33 : decode cX0_bestAsks 33 = .ok (.iload 4, 2) := by decide +kernel
theorem dX0_bestAsks_35 : decode cX0_bestAsks 35 = .ok (.ifCond .ne 10, 3) := by decide +kernel
theorem dX0_bestAsks_38 : decode cX0_bestAsks 38 = .ok (.aload_n 0, 1) := by decide +kernel
theorem dX0_bestAsks_39 : decode cX0_bestAsks 39 = .ok (.getfield 69, 3) := by decide +kernel
theorem dX0_bestAsks_42 : decode cX0_bestAsks 42 = .ok (.goto 12, 3) := by decide +kernel
theorem dX0_bestAsks_45 : decode cX0_bestAsks 45 = .ok (.aload_n 0, 1) := by decide +kernel
theorem dX0_bestAsks_46 : decode cX0_bestAsks 46 = .ok (.getfield 26, 3) := by decide +kernel
theorem dX0_bestAsks_49 : decode cX0_bestAsks 49 = .ok (.iload 4, 2) := by decide +kernel
theorem dX0_bestAsks_51 : decode cX0_bestAsks 51 = .ok (.iconst 1, 1) := by decide +kernel
theorem dX0_bestAsks_52 : decode cX0_bestAsks 52 = .ok (.isub, 1) := by decide +kernel
theorem dX0_bestAsks_53 : decode cX0_bestAsks 53 = .ok (.iaload, 1) := by decide +kernel
theorem dX0_bestAsks_54 : decode cX0_bestAsks 54 = .ok (.ireturn, 1) := by decide +kernel
theorem dX0_tryAsks_0 : decode cX0_tryAsks 0 = .ok (.iload_n 2, 1) := by decide +kernel
theorem dX0_tryAsks_1 : decode cX0_tryAsks 1 = .ok (.iload_n 3, 1) := by decide +kernel
theorem dX0_tryAsks_2 : decode cX0_tryAsks 2 = .ok (.if_icmp .ge 8, 3) := by decide +kernel
theorem dX0_tryAsks_5 : decode cX0_tryAsks 5 = .ok (.iload_n 2, 1) := by decide +kernel
theorem dX0_tryAsks_6 : decode cX0_tryAsks 6 = .ok (.iconst 3, 1) := by decide +kernel
theorem dX0_tryAsks_7 : decode cX0_tryAsks 7 = .ok (.if_icmp .lt 31, 3) := by decide +kernel
theorem dX0_tryAsks_10 : decode cX0_tryAsks 10 = .ok (.aload_n 0, 1) := by decide +kernel
theorem dX0_tryAsks_11 : decode cX0_tryAsks 11 = .ok (.aload_n 0, 1) := by decide +kernel
theorem dX0_tryAsks_12 : decode cX0_tryAsks 12 = .ok (.getfield 18, 3) := by decide +kernel
theorem dX0_tryAsks_15 : decode cX0_tryAsks 15 = .ok (.iload_n 2, 1) := by decide +kernel
theorem dX0_tryAsks_16 : decode cX0_tryAsks 16 = .ok (.aaload, 1) := by decide +kernel
theorem dX0_tryAsks_17 : decode cX0_tryAsks 17 = .ok (.getfield 65, 3) := by decide +kernel
theorem dX0_tryAsks_20 : decode cX0_tryAsks 20 = .ok (.putfield 69, 3) := by decide +kernel
theorem dX0_tryAsks_23 : decode cX0_tryAsks 23 = .ok (.aload_n 0, 1) := by decide +kernel
theorem dX0_tryAsks_24 : decode cX0_tryAsks 24 = .ok (.getfield 22, 3) := by decide +kernel
theorem dX0_tryAsks_27 : decode cX0_tryAsks 27 = .ok (.iconst 0, 1) := by decide +kernel
theorem dX0_tryAsks_28 : decode cX0_tryAsks 28 = .ok (.aload_n 0, 1) := by decide +kernel
theorem dX0_tryAsks_29 : decode cX0_tryAsks 29 = .ok (.getfield 26, 3) := by decide +kernel
theorem dX0_tryAsks_32 : decode cX0_tryAsks 32 = .ok (.iconst 0, 1) := by decide +kernel
theorem dX0_tryAsks_33 : decode cX0_tryAsks 33 = .ok (.iconst 3, 1) := by decide +kernel
theorem dX0_tryAsks_34 : decode cX0_tryAsks 34 = .ok (.invokestatic 80, 3) := by decide +kernel
theorem dX0_tryAsks_37 : decode cX0_tryAsks 37 = .ok (.return_, 1) := by decide +kernel
theorem dX0_tryAsks_38 : decode cX0_tryAsks 38 = .ok (.aload_n 0, 1) := by decide +kernel
theorem dX0_tryAsks_39 : decode cX0_tryAsks 39 = .ok (.getfield 18, 3) := by decide +kernel
theorem dX0_tryAsks_42 : decode cX0_tryAsks 42 = .ok (.iload_n 2, 1) := by decide +kernel
theorem dX0_tryAsks_43 : decode cX0_tryAsks 43 = .ok (.aaload, 1) := by decide +kernel
theorem dX0_tryAsks_44 : decode cX0_tryAsks 44 = .ok (.astore 4, 2) := by decide +kernel
theorem dX0_tryAsks_46 : decode cX0_tryAsks 46 = .ok (.aload_n 0, 1) := by decide +kernel
theorem dX0_tryAsks_47 : decode cX0_tryAsks 47 = .ok (.getfield 18, 3) := by decide +kernel
theorem dX0_tryAsks_50 : decode cX0_tryAsks 50 = .ok (.iload_n 2, 1) := by decide +kernel
theorem dX0_tryAsks_51 : decode cX0_tryAsks 51 = .ok (.iconst 1, 1) := by decide +kernel
theorem dX0_tryAsks_52 : decode cX0_tryAsks 52 = .ok (.iadd, 1) := by decide +kernel
theorem dX0_tryAsks_53 : decode cX0_tryAsks 53 = .ok (.aaload, 1) := by decide +kernel
theorem dX0_tryAsks_54 : decode cX0_tryAsks 54 = .ok (.astore 5, 2) := by decide +kernel
theorem dX0_tryAsks_56 : decode cX0_tryAsks 56 = .ok (.iconst 0, 1) := by decide +kernel
theorem dX0_tryAsks_57 : decode cX0_tryAsks 57 = .ok (.istore 6, 2) := by decide +kernel
theorem dX0_tryAsks_59 : decode cX0_tryAsks 59 = .ok (.iload 6, 2) := by decide +kernel
theorem dX0_tryAsks_61 : decode cX0_tryAsks 61 = .ok (.aload_n 1, 1) := by decide +kernel
theorem dX0_tryAsks_62 : decode cX0_tryAsks 62 = .ok (.getfield 86, 3) := by decide +kernel
theorem dX0_tryAsks_65 : decode cX0_tryAsks 65 = .ok (.if_icmp .gt 108, 3) := by decide +kernel
theorem dX0_tryAsks_68 : decode cX0_tryAsks 68 = .ok (.iload 6, 2) := by decide +kernel
theorem dX0_tryAsks_70 : decode cX0_tryAsks 70 = .ok (.aload_n 1, 1) := by decide +kernel
theorem dX0_tryAsks_71 : decode cX0_tryAsks 71 = .ok (.getfield 86, 3) := by decide +kernel
theorem dX0_tryAsks_74 : decode cX0_tryAsks 74 = .ok (.if_icmp .ge 7, 3) := by decide +kernel
theorem dX0_tryAsks_77 : decode cX0_tryAsks 77 = .ok (.iconst 1, 1) := by decide +kernel
theorem dX0_tryAsks_78 : decode cX0_tryAsks 78 = .ok (.goto 4, 3) := by decide +kernel
theorem dX0_tryAsks_81 : decode cX0_tryAsks 81 = .ok (.iconst 0, 1) := by decide +kernel
theorem dX0_tryAsks_82 : decode cX0_tryAsks 82 = .ok (.istore 7, 2) := by decide +kernel
theorem dX0_tryAsks_84 : decode cX0_tryAsks 84 = .ok (.iload 7, 2) := by decide +kernel
theorem dX0_tryAsks_86 : decode cX0_tryAsks 86 = .ok (.ifCond .eq 16, 3) := by decide +kernel
theorem dX0_tryAsks_89 : decode cX0_tryAsks 89 = .ok (.aload 4, 2) := by decide +kernel
theorem dX0_tryAsks_91 : decode cX0_tryAsks 91 = .ok (.iload 6, 2) := by decide +kernel
theorem dX0_tryAsks_93 : decode cX0_tryAsks 93 = .ok (.invokevirtual 91, 3) := by decide +kernel
theorem dX0_tryAsks_96 : decode cX0_tryAsks 96 = .ok (.ifCond .eq 6, 3) := by decide +kernel
theorem dX0_tryAsks_99 : decode cX0_tryAsks 99 = .ok (.goto 68, 3) := by decide +kernel
theorem dX0_tryAsks_102 : decode cX0_tryAsks 102 = .ok (.aload 5, 2) := by decide +kernel
theorem dX0_tryAsks_104 : decode cX0_tryAsks 104 = .ok (.aload 4, 2) := by decide +kernel
theorem dX0_tryAsks_106 : decode cX0_tryAsks 106 = .ok (.invokevirtual 72, 3) := by decide +kernel
theorem dX0_tryAsks_109 : decode cX0_tryAsks 109 = .ok (.iload 7, 2) := by decide +kernel
theorem dX0_tryAsks_111 : decode cX0_tryAsks 111 = .ok (.ifCond .eq 12, 3) := by decide +kernel
theorem dX0_tryAsks_114 : decode cX0_tryAsks 114 = .ok (.aload 5, 2) := by decide +kernel
theorem dX0_tryAsks_116 : decode cX0_tryAsks 116 = .ok (.aload_n 1, 1) := by decide +kernel
theorem dX0_tryAsks_117 : decode cX0_tryAsks 117 = .ok (.iload 6, 2) := by decide +kernel
theorem dX0_tryAsks_119 : decode cX0_tryAsks 119 = .ok (.iconst 0, 1) := by decide +kernel
theorem dX0_tryAsks_120 : decode cX0_tryAsks 120 = .ok (.invokevirtual 95, 3) := by decide +kernel
theorem dX0_tryAsks_123 : decode cX0_tryAsks 123 = .ok (.aload 5, 2) := by decide +kernel
theorem dX0_tryAsks_125 : decode cX0_tryAsks 125 = .ok (.aload_n 1, 1) := by decide +kernel
theorem dX0_tryAsks_126 : decode cX0_tryAsks 126 = .ok (.invokevirtual 98, 3) := by decide +kernel
theorem dX0_tryAsks_129 : decode cX0_tryAsks 129 = .ok (.aload_n 0, 1) := by decide +kernel
theorem dX0_tryAsks_130 : decode cX0_tryAsks 130 = .ok (.getfield 22, 3) := by decide +kernel
theorem dX0_tryAsks_133 : decode cX0_tryAsks 133 = .ok (.iload_n 2, 1) := by decide +kernel
theorem dX0_tryAsks_134 : decode cX0_tryAsks 134 = .ok (.iload 7, 2) := by decide +kernel
theorem dX0_tryAsks_136 : decode cX0_tryAsks 136 = .ok (.ifCond .eq 8, 3) := by decide +kernel
theorem dX0_tryAsks_139 : decode cX0_tryAsks 139 = .ok (.iload 6, 2) := by decide +kernel
theorem dX0_tryAsks_141 : decode cX0_tryAsks 141 = .ok (.goto 4, 3) := by decide +kernel
theorem dX0_tryAsks_144 : decode cX0_tryAsks 144 = .ok (.iconst (-1), 1) := by decide +kernel
theorem dX0_tryAsks_145 : decode cX0_tryAsks 145 = .ok (.iastore, 1) := by decide +kernel
theorem dX0_tryAsks_146 : decode cX0_tryAsks 146 = .ok (.aload 5, 2) := by decide +kernel
theorem dX0_tryAsks_148 : decode cX0_tryAsks 148 = .ok (.getfield 65, 3) := by decide +kernel
theorem dX0_tryAsks_151 : decode cX0_tryAsks 151 = .ok (.aload_n 0, 1) := by decide +kernel
theorem dX0_tryAsks_152 : decode cX0_tryAsks 152 = .ok (.getfield 69, 3) := by decide +kernel
theorem dX0_tryAsks_155 : decode cX0_tryAsks 155 = .ok (.if_icmp .ge 12, 3) := by decide +kernel
theorem dX0_tryAsks_158 : decode cX0_tryAsks 158 = .ok (.aload_n 0, 1) := by decide +kernel
theorem dX0_tryAsks_159 : decode cX0_tryAsks 159 = .ok (.aload_n 1, 1) := by decide +kernel
theorem dX0_tryAsks_160 : decode cX0_tryAsks 160 = .ok (.iload_n 2, 1) := by decide +kernel
theorem dX0_tryAsks_161 : decode cX0_tryAsks 161 = .ok (.iconst 1, 1) := by decide +kernel
theorem dX0_tryAsks_162 : decode cX0_tryAsks 162 = .ok (.iadd, 1) := by decide +kernel
theorem dX0_tryAsks_163 : decode cX0_tryAsks 163 = .ok (.iload_n 3, 1) := by decide +kernel
theorem dX0_tryAsks_164 : decode cX0_tryAsks 164 = .ok (.invokevirtual 76, 3) := by decide +kernel
theorem dX0_tryAsks_167 : decode cX0_tryAsks 167 = .ok (.iinc 6 1, 3) := by decide +kernel
theorem dX0_tryAsks_170 : decode cX0_tryAsks 170 = .ok (.goto (-111), 3) := by decide +kernel
theorem dX0_tryAsks_173 : decode cX0_tryAsks 173 = .ok (.return_, 1) := by decide +kernel
theorem dX0_nightsUntilRipe_0 : decode cX0_nightsUntilRipe 0 = .ok (.aload_n 2, 1) := by decide +kernel
theorem dX0_nightsUntilRipe_1 : decode cX0_nightsUntilRipe 1 = .ok (.getfield 101, 3) := by decide +kernel
theorem dX0_nightsUntilRipe_4 : decode cX0_nightsUntilRipe 4 = .ok (.iload_n 3, 1) := by decide +kernel
theorem dX0_nightsUntilRipe_5 : decode cX0_nightsUntilRipe 5 = .ok (.iaload, 1) := by decide +kernel
theorem dX0_nightsUntilRipe_6 : decode cX0_nightsUntilRipe 6 = .ok (.istore 4, 2) := by decide +kernel
theorem dX0_nightsUntilRipe_8 : decode cX0_nightsUntilRipe 8 = .ok (.iconst 0, 1) := by decide +kernel
theorem dX0_nightsUntilRipe_9 : decode cX0_nightsUntilRipe 9 = .ok (.istore 5, 2) := by decide +kernel
theorem dX0_nightsUntilRipe_11 : decode cX0_nightsUntilRipe 11 = .ok (.iload 5, 2) := by decide +kernel
theorem dX0_nightsUntilRipe_13 : decode cX0_nightsUntilRipe 13 = .ok (.bipush 60, 2) := by decide +kernel
theorem dX0_nightsUntilRipe_15 : decode cX0_nightsUntilRipe 15 = .ok (.if_icmp .gt 38, 3) := by decide +kernel
theorem dX0_nightsUntilRipe_18 : decode cX0_nightsUntilRipe 18 = .ok (.iload 4, 2) := by decide +kernel
theorem dX0_nightsUntilRipe_20 : decode cX0_nightsUntilRipe 20 = .ok (.aload_n 1, 1) := by decide +kernel
theorem dX0_nightsUntilRipe_21 : decode cX0_nightsUntilRipe 21 = .ok (.iload_n 3, 1) := by decide +kernel
theorem dX0_nightsUntilRipe_22 : decode cX0_nightsUntilRipe 22 = .ok (.invokevirtual 104, 3) := by decide +kernel
theorem dX0_nightsUntilRipe_25 : decode cX0_nightsUntilRipe 25 = .ok (.if_icmp .gt 6, 3) := by decide +kernel
theorem dX0_nightsUntilRipe_28 : decode cX0_nightsUntilRipe 28 = .ok (.iload 5, 2) := by decide +kernel
theorem dX0_nightsUntilRipe_30 : decode cX0_nightsUntilRipe 30 = .ok (.ireturn, 1) := by decide +kernel
theorem dX0_nightsUntilRipe_31 : decode cX0_nightsUntilRipe 31 = .ok (.aload_n 1, 1) := by decide +kernel
theorem dX0_nightsUntilRipe_32 : decode cX0_nightsUntilRipe 32 = .ok (.iload_n 3, 1) := by decide +kernel
theorem dX0_nightsUntilRipe_33 : decode cX0_nightsUntilRipe 33 = .ok (.iload 4, 2) := by decide +kernel
theorem dX0_nightsUntilRipe_35 : decode cX0_nightsUntilRipe 35 = .ok (.aload_n 2, 1) := by decide +kernel
theorem dX0_nightsUntilRipe_36 : decode cX0_nightsUntilRipe 36 = .ok (.getfield 107, 3) := by decide +kernel
theorem dX0_nightsUntilRipe_39 : decode cX0_nightsUntilRipe 39 = .ok (.iload 5, 2) := by decide +kernel
theorem dX0_nightsUntilRipe_41 : decode cX0_nightsUntilRipe 41 = .ok (.iadd, 1) := by decide +kernel
theorem dX0_nightsUntilRipe_42 : decode cX0_nightsUntilRipe 42 = .ok (.invokevirtual 110, 3) := by decide +kernel
theorem dX0_nightsUntilRipe_45 : decode cX0_nightsUntilRipe 45 = .ok (.istore 4, 2) := by decide +kernel
theorem dX0_nightsUntilRipe_47 : decode cX0_nightsUntilRipe 47 = .ok (.iinc 5 1, 3) := by decide +kernel
theorem dX0_nightsUntilRipe_50 : decode cX0_nightsUntilRipe 50 = .ok (.goto (-39), 3) := by decide +kernel
theorem dX0_nightsUntilRipe_53 : decode cX0_nightsUntilRipe 53 = .ok (.iconst (-1), 1) := by decide +kernel
theorem dX0_nightsUntilRipe_54 : decode cX0_nightsUntilRipe 54 = .ok (.ireturn, 1) := by decide +kernel
theorem dX0_priceBehindWords_0 : decode cX0_priceBehindWords 0 = .ok (.aload_n 2, 1) := by decide +kernel
theorem dX0_priceBehindWords_1 : decode cX0_priceBehindWords 1 = .ok (.getfield 101, 3) := by decide +kernel
theorem dX0_priceBehindWords_4 : decode cX0_priceBehindWords 4 = .ok (.iload_n 3, 1) := by decide +kernel
theorem dX0_priceBehindWords_5 : decode cX0_priceBehindWords 5 = .ok (.iaload, 1) := by decide +kernel
theorem dX0_priceBehindWords_6 : decode cX0_priceBehindWords 6 = .ok (.istore 5, 2) := by decide +kernel
theorem dX0_priceBehindWords_8 : decode cX0_priceBehindWords 8 = .ok (.iconst 0, 1) := by decide +kernel
theorem dX0_priceBehindWords_9 : decode cX0_priceBehindWords 9 = .ok (.istore 6, 2) := by decide +kernel
theorem dX0_priceBehindWords_11 : decode cX0_priceBehindWords 11 = .ok (.iload 6, 2) := by decide +kernel
theorem dX0_priceBehindWords_13 : decode cX0_priceBehindWords 13 = .ok (.iload 4, 2) := by decide +kernel
theorem dX0_priceBehindWords_15 : decode cX0_priceBehindWords 15 = .ok (.if_icmp .ge 54, 3) := by decide +kernel
theorem dX0_priceBehindWords_18 : decode cX0_priceBehindWords 18 = .ok (.iload 6, 2) := by decide +kernel
theorem dX0_priceBehindWords_20 : decode cX0_priceBehindWords 20 = .ok (.ifCond .gt 11, 3) := by decide +kernel
theorem dX0_priceBehindWords_23 : decode cX0_priceBehindWords 23 = .ok (.aload_n 2, 1) := by decide +kernel
theorem dX0_priceBehindWords_24 : decode cX0_priceBehindWords 24 = .ok (.iload_n 3, 1) := by decide +kernel
theorem dX0_priceBehindWords_25 : decode cX0_priceBehindWords 25 = .ok (.invokevirtual 114, 3) := by decide +kernel
theorem dX0_priceBehindWords_28 : decode cX0_priceBehindWords 28 = .ok (.ifCond .ne 19, 3) := by decide +kernel
theorem dX0_priceBehindWords_31 : decode cX0_priceBehindWords 31 = .ok (.aload_n 1, 1) := by decide +kernel
theorem dX0_priceBehindWords_32 : decode cX0_priceBehindWords 32 = .ok (.iload_n 3, 1) := by decide +kernel
theorem dX0_priceBehindWords_33 : decode cX0_priceBehindWords 33 = .ok (.iload 5, 2) := by decide +kernel
theorem dX0_priceBehindWords_35 : decode cX0_priceBehindWords 35 = .ok (.aload_n 2, 1) := by decide +kernel
theorem dX0_priceBehindWords_36 : decode cX0_priceBehindWords 36 = .ok (.getfield 107, 3) := by decide +kernel
theorem dX0_priceBehindWords_39 : decode cX0_priceBehindWords 39 = .ok (.iload 6, 2) := by decide +kernel
theorem dX0_priceBehindWords_41 : decode cX0_priceBehindWords 41 = .ok (.iadd, 1) := by decide +kernel
theorem dX0_priceBehindWords_42 : decode cX0_priceBehindWords 42 = .ok (.invokevirtual 117, 3) := by decide +kernel
theorem dX0_priceBehindWords_45 : decode cX0_priceBehindWords 45 = .ok (.istore 5, 2) := by decide +kernel
theorem dX0_priceBehindWords_47 : decode cX0_priceBehindWords 47 = .ok (.aload_n 1, 1) := by decide +kernel
theorem dX0_priceBehindWords_48 : decode cX0_priceBehindWords 48 = .ok (.iload_n 3, 1) := by decide +kernel
theorem dX0_priceBehindWords_49 : decode cX0_priceBehindWords 49 = .ok (.iload 5, 2) := by decide +kernel
theorem dX0_priceBehindWords_51 : decode cX0_priceBehindWords 51 = .ok (.aload_n 2, 1) := by decide +kernel
theorem dX0_priceBehindWords_52 : decode cX0_priceBehindWords 52 = .ok (.getfield 107, 3) := by decide +kernel
theorem dX0_priceBehindWords_55 : decode cX0_priceBehindWords 55 = .ok (.iload 6, 2) := by decide +kernel
theorem dX0_priceBehindWords_57 : decode cX0_priceBehindWords 57 = .ok (.iadd, 1) := by decide +kernel
theorem dX0_priceBehindWords_58 : decode cX0_priceBehindWords 58 = .ok (.invokevirtual 110, 3) := by decide +kernel
theorem dX0_priceBehindWords_61 : decode cX0_priceBehindWords 61 = .ok (.istore 5, 2) := by decide +kernel
theorem dX0_priceBehindWords_63 : decode cX0_priceBehindWords 63 = .ok (.iinc 6 1, 3) := by decide +kernel
theorem dX0_priceBehindWords_66 : decode cX0_priceBehindWords 66 = .ok (.goto (-55), 3) := by decide +kernel
theorem dX0_priceBehindWords_69 : decode cX0_priceBehindWords 69 = .ok (.iconst 0, 1) := by decide +kernel
theorem dX0_priceBehindWords_70 : decode cX0_priceBehindWords 70 = .ok (.iload 5, 2) := by decide +kernel
theorem dX0_priceBehindWords_72 : decode cX0_priceBehindWords 72 = .ok (.aload_n 1, 1) := by decide +kernel
theorem dX0_priceBehindWords_73 : decode cX0_priceBehindWords 73 = .ok (.iload_n 3, 1) := by decide +kernel
theorem dX0_priceBehindWords_74 : decode cX0_priceBehindWords 74 = .ok (.invokevirtual 104, 3) := by decide +kernel
theorem dX0_priceBehindWords_77 : decode cX0_priceBehindWords 77 = .ok (.isub, 1) := by decide +kernel
theorem dX0_priceBehindWords_78 : decode cX0_priceBehindWords 78 = .ok (.invokestatic 120, 3) := by decide +kernel
theorem dX0_priceBehindWords_81 : decode cX0_priceBehindWords 81 = .ok (.ireturn, 1) := by decide +kernel
theorem dX0_harmByLaw_0 : decode cX0_harmByLaw 0 = .ok (.aload_n 0, 1) := by decide +kernel
theorem dX0_harmByLaw_1 : decode cX0_harmByLaw 1 = .ok (.getfield 12, 3) := by decide +kernel
theorem dX0_harmByLaw_4 : decode cX0_harmByLaw 4 = .ok (.aload_n 2, 1) := by decide +kernel
theorem dX0_harmByLaw_5 : decode cX0_harmByLaw 5 = .ok (.invokevirtual 72, 3) := by decide +kernel
theorem dX0_harmByLaw_8 : decode cX0_harmByLaw 8 = .ok (.aload_n 0, 1) := by decide +kernel
theorem dX0_harmByLaw_9 : decode cX0_harmByLaw 9 = .ok (.getfield 12, 3) := by decide +kernel
theorem dX0_harmByLaw_12 : decode cX0_harmByLaw 12 = .ok (.iconst 0, 1) := by decide +kernel
theorem dX0_harmByLaw_13 : decode cX0_harmByLaw 13 = .ok (.putfield 65, 3) := by decide +kernel
theorem dX0_harmByLaw_16 : decode cX0_harmByLaw 16 = .ok (.iconst 0, 1) := by decide +kernel
theorem dX0_harmByLaw_17 : decode cX0_harmByLaw 17 = .ok (.istore 5, 2) := by decide +kernel
theorem dX0_harmByLaw_19 : decode cX0_harmByLaw 19 = .ok (.iload 5, 2) := by decide +kernel
theorem dX0_harmByLaw_21 : decode cX0_harmByLaw 21 = .ok (.iload_n 3, 1) := by decide +kernel
theorem dX0_harmByLaw_22 : decode cX0_harmByLaw 22 = .ok (.if_icmp .ge 60, 3) := by decide +kernel
theorem dX0_harmByLaw_25 : decode cX0_harmByLaw 25 = .ok (.iconst 0, 1) := by decide +kernel
theorem dX0_harmByLaw_26 : decode cX0_harmByLaw 26 = .ok (.istore 6, 2) := by decide +kernel
theorem dX0_harmByLaw_28 : decode cX0_harmByLaw 28 = .ok (.iload 6, 2) := by decide +kernel
theorem dX0_harmByLaw_30 : decode cX0_harmByLaw 30 = .ok (.aload_n 1, 1) := by decide +kernel
theorem dX0_harmByLaw_31 : decode cX0_harmByLaw 31 = .ok (.getfield 86, 3) := by decide +kernel
theorem dX0_harmByLaw_34 : decode cX0_harmByLaw 34 = .ok (.if_icmp .ge 34, 3) := by decide +kernel
theorem dX0_harmByLaw_37 : decode cX0_harmByLaw 37 = .ok (.aload_n 0, 1) := by decide +kernel
theorem dX0_harmByLaw_38 : decode cX0_harmByLaw 38 = .ok (.getfield 12, 3) := by decide +kernel
theorem dX0_harmByLaw_41 : decode cX0_harmByLaw 41 = .ok (.aload_n 1, 1) := by decide +kernel
theorem dX0_harmByLaw_42 : decode cX0_harmByLaw 42 = .ok (.iload 6, 2) := by decide +kernel
theorem dX0_harmByLaw_44 : decode cX0_harmByLaw 44 = .ok (.invokevirtual 126, 3) := by decide +kernel
theorem dX0_harmByLaw_47 : decode cX0_harmByLaw 47 = .ok (.ifCond .eq 15, 3) := by decide +kernel
theorem dX0_harmByLaw_50 : decode cX0_harmByLaw 50 = .ok (.aload_n 0, 1) := by decide +kernel
theorem dX0_harmByLaw_51 : decode cX0_harmByLaw 51 = .ok (.getfield 12, 3) := by decide +kernel
theorem dX0_harmByLaw_54 : decode cX0_harmByLaw 54 = .ok (.aload_n 1, 1) := by decide +kernel
theorem dX0_harmByLaw_55 : decode cX0_harmByLaw 55 = .ok (.iload 6, 2) := by decide +kernel
theorem dX0_harmByLaw_57 : decode cX0_harmByLaw 57 = .ok (.iload 4, 2) := by decide +kernel
theorem dX0_harmByLaw_59 : decode cX0_harmByLaw 59 = .ok (.invokevirtual 95, 3) := by decide +kernel
theorem dX0_harmByLaw_62 : decode cX0_harmByLaw 62 = .ok (.iinc 6 1, 3) := by decide +kernel
theorem dX0_harmByLaw_65 : decode cX0_harmByLaw 65 = .ok (.goto (-37), 3) := by decide +kernel
theorem dX0_harmByLaw_68 : decode cX0_harmByLaw 68 = .ok (.aload_n 0, 1) := by decide +kernel
theorem dX0_harmByLaw_69 : decode cX0_harmByLaw 69 = .ok (.getfield 12, 3) := by decide +kernel
theorem dX0_harmByLaw_72 : decode cX0_harmByLaw 72 = .ok (.aload_n 1, 1) := by decide +kernel
theorem dX0_harmByLaw_73 : decode cX0_harmByLaw 73 = .ok (.invokevirtual 98, 3) := by decide +kernel
theorem dX0_harmByLaw_76 : decode cX0_harmByLaw 76 = .ok (.iinc 5 1, 3) := by decide +kernel
theorem dX0_harmByLaw_79 : decode cX0_harmByLaw 79 = .ok (.goto (-60), 3) := by decide +kernel
theorem dX0_harmByLaw_82 : decode cX0_harmByLaw 82 = .ok (.aload_n 0, 1) := by decide +kernel
theorem dX0_harmByLaw_83 : decode cX0_harmByLaw 83 = .ok (.getfield 12, 3) := by decide +kernel
theorem dX0_harmByLaw_86 : decode cX0_harmByLaw 86 = .ok (.getfield 65, 3) := by decide +kernel
theorem dX0_harmByLaw_89 : decode cX0_harmByLaw 89 = .ok (.ireturn, 1) := by decide +kernel
theorem dX0_yearsByDraws_0 : decode cX0_yearsByDraws 0 = .ok (.aload_n 0, 1) := by decide +kernel
theorem dX0_yearsByDraws_1 : decode cX0_yearsByDraws 1 = .ok (.getfield 12, 3) := by decide +kernel
theorem dX0_yearsByDraws_4 : decode cX0_yearsByDraws 4 = .ok (.aload_n 2, 1) := by decide +kernel
theorem dX0_yearsByDraws_5 : decode cX0_yearsByDraws 5 = .ok (.invokevirtual 72, 3) := by decide +kernel
theorem dX0_yearsByDraws_8 : decode cX0_yearsByDraws 8 = .ok (.aload_n 0, 1) := by decide +kernel
theorem dX0_yearsByDraws_9 : decode cX0_yearsByDraws 9 = .ok (.getfield 12, 3) := by decide +kernel
theorem dX0_yearsByDraws_12 : decode cX0_yearsByDraws 12 = .ok (.iconst 0, 1) := by decide +kernel
theorem dX0_yearsByDraws_13 : decode cX0_yearsByDraws 13 = .ok (.putfield 65, 3) := by decide +kernel
theorem dX0_yearsByDraws_16 : decode cX0_yearsByDraws 16 = .ok (.iload_n 3, 1) := by decide +kernel
theorem dX0_yearsByDraws_17 : decode cX0_yearsByDraws 17 = .ok (.i2l, 1) := by decide +kernel
theorem dX0_yearsByDraws_18 : decode cX0_yearsByDraws 18 = .ok (.lstore 6, 2) := by decide +kernel
theorem dX0_yearsByDraws_20 : decode cX0_yearsByDraws 20 = .ok (.iconst 0, 1) := by decide +kernel
theorem dX0_yearsByDraws_21 : decode cX0_yearsByDraws 21 = .ok (.istore 8, 2) := by decide +kernel
theorem dX0_yearsByDraws_23 : decode cX0_yearsByDraws 23 = .ok (.iload 8, 2) := by decide +kernel
theorem dX0_yearsByDraws_25 : decode cX0_yearsByDraws 25 = .ok (.iload 4, 2) := by decide +kernel
theorem dX0_yearsByDraws_27 : decode cX0_yearsByDraws 27 = .ok (.if_icmp .ge 86, 3) := by decide +kernel
theorem dX0_yearsByDraws_30 : decode cX0_yearsByDraws 30 = .ok (.aload_n 1, 1) := by decide +kernel
theorem dX0_yearsByDraws_31 : decode cX0_yearsByDraws 31 = .ok (.getfield 86, 3) := by decide +kernel
theorem dX0_yearsByDraws_34 : decode cX0_yearsByDraws 34 = .ok (.ifCond .le 65, 3) := by decide +kernel
theorem dX0_yearsByDraws_37 : decode cX0_yearsByDraws 37 = .ok (.lload 6, 2) := by decide +kernel
theorem dX0_yearsByDraws_39 : decode cX0_yearsByDraws 39 = .ok (.invokestatic 130, 3) := by decide +kernel
theorem dX0_yearsByDraws_42 : decode cX0_yearsByDraws 42 = .ok (.lstore 6, 2) := by decide +kernel
theorem dX0_yearsByDraws_44 : decode cX0_yearsByDraws 44 = .ok (.lload 6, 2) := by decide +kernel
theorem dX0_yearsByDraws_46 : decode cX0_yearsByDraws 46 = .ok (.aload_n 1, 1) := by decide +kernel
theorem dX0_yearsByDraws_47 : decode cX0_yearsByDraws 47 = .ok (.getfield 86, 3) := by decide +kernel
theorem dX0_yearsByDraws_50 : decode cX0_yearsByDraws 50 = .ok (.invokestatic 134, 3) := by decide +kernel
theorem dX0_yearsByDraws_53 : decode cX0_yearsByDraws 53 = .ok (.istore 9, 2) := by decide +kernel
theorem dX0_yearsByDraws_55 : decode cX0_yearsByDraws 55 = .ok (.lload 6, 2) := by decide +kernel
theorem dX0_yearsByDraws_57 : decode cX0_yearsByDraws 57 = .ok (.invokestatic 130, 3) := by decide +kernel
theorem dX0_yearsByDraws_60 : decode cX0_yearsByDraws 60 = .ok (.lstore 6, 2) := by decide +kernel
theorem dX0_yearsByDraws_62 : decode cX0_yearsByDraws 62 = .ok (.lload 6, 2) := by decide +kernel
theorem dX0_yearsByDraws_64 : decode cX0_yearsByDraws 64 = .ok (.iconst 3, 1) := by decide +kernel
theorem dX0_yearsByDraws_65 : decode cX0_yearsByDraws 65 = .ok (.invokestatic 134, 3) := by decide +kernel
theorem dX0_yearsByDraws_68 : decode cX0_yearsByDraws 68 = .ok (.istore 10, 2) := by decide +kernel
theorem dX0_yearsByDraws_70 : decode cX0_yearsByDraws 70 = .ok (.aload_n 0, 1) := by decide +kernel
theorem dX0_yearsByDraws_71 : decode cX0_yearsByDraws 71 = .ok (.getfield 12, 3) := by decide +kernel
theorem dX0_yearsByDraws_74 : decode cX0_yearsByDraws 74 = .ok (.aload_n 1, 1) := by decide +kernel
theorem dX0_yearsByDraws_75 : decode cX0_yearsByDraws 75 = .ok (.iload 10, 2) := by decide +kernel
theorem dX0_yearsByDraws_77 : decode cX0_yearsByDraws 77 = .ok (.iload 9, 2) := by decide +kernel
theorem dX0_yearsByDraws_79 : decode cX0_yearsByDraws 79 = .ok (.iconst 1, 1) := by decide +kernel
theorem dX0_yearsByDraws_80 : decode cX0_yearsByDraws 80 = .ok (.invokevirtual 48, 3) := by decide +kernel
theorem dX0_yearsByDraws_83 : decode cX0_yearsByDraws 83 = .ok (.ifCond .eq 16, 3) := by decide +kernel
theorem dX0_yearsByDraws_86 : decode cX0_yearsByDraws 86 = .ok (.aload_n 0, 1) := by decide +kernel
theorem dX0_yearsByDraws_87 : decode cX0_yearsByDraws 87 = .ok (.getfield 12, 3) := by decide +kernel
theorem dX0_yearsByDraws_90 : decode cX0_yearsByDraws 90 = .ok (.aload_n 1, 1) := by decide +kernel
theorem dX0_yearsByDraws_91 : decode cX0_yearsByDraws 91 = .ok (.iload 10, 2) := by decide +kernel
theorem dX0_yearsByDraws_93 : decode cX0_yearsByDraws 93 = .ok (.iload 9, 2) := by decide +kernel
theorem dX0_yearsByDraws_95 : decode cX0_yearsByDraws 95 = .ok (.iconst 1, 1) := by decide +kernel
theorem dX0_yearsByDraws_96 : decode cX0_yearsByDraws 96 = .ok (.invokevirtual 52, 3) := by decide +kernel
theorem dX0_yearsByDraws_99 : decode cX0_yearsByDraws 99 = .ok (.aload_n 0, 1) := by decide +kernel
theorem dX0_yearsByDraws_100 : decode cX0_yearsByDraws 100 = .ok (.getfield 12, 3) := by decide +kernel
theorem dX0_yearsByDraws_103 : decode cX0_yearsByDraws 103 = .ok (.aload_n 1, 1) := by decide +kernel
theorem dX0_yearsByDraws_104 : decode cX0_yearsByDraws 104 = .ok (.invokevirtual 98, 3) := by decide +kernel
theorem dX0_yearsByDraws_107 : decode cX0_yearsByDraws 107 = .ok (.iinc 8 1, 3) := by decide +kernel
theorem dX0_yearsByDraws_110 : decode cX0_yearsByDraws 110 = .ok (.goto (-87), 3) := by decide +kernel
theorem dX0_yearsByDraws_113 : decode cX0_yearsByDraws 113 = .ok (.iload 5, 2) := by decide +kernel
theorem dX0_yearsByDraws_115 : decode cX0_yearsByDraws 115 = .ok (.ifCond .ne 11, 3) := by decide +kernel
theorem dX0_yearsByDraws_118 : decode cX0_yearsByDraws 118 = .ok (.aload_n 0, 1) := by decide +kernel
theorem dX0_yearsByDraws_119 : decode cX0_yearsByDraws 119 = .ok (.getfield 12, 3) := by decide +kernel
theorem dX0_yearsByDraws_122 : decode cX0_yearsByDraws 122 = .ok (.getfield 65, 3) := by decide +kernel
theorem dX0_yearsByDraws_125 : decode cX0_yearsByDraws 125 = .ok (.ireturn, 1) := by decide +kernel
theorem dX0_yearsByDraws_126 : decode cX0_yearsByDraws 126 = .ok (.iload 5, 2) := by decide +kernel
theorem dX0_yearsByDraws_128 : decode cX0_yearsByDraws 128 = .ok (.iconst 1, 1) := by decide +kernel
theorem dX0_yearsByDraws_129 : decode cX0_yearsByDraws 129 = .ok (.if_icmp .ne 16, 3) := by decide +kernel
theorem dX0_yearsByDraws_132 : decode cX0_yearsByDraws 132 = .ok (.aload_n 0, 1) := by decide +kernel
theorem dX0_yearsByDraws_133 : decode cX0_yearsByDraws 133 = .ok (.getfield 12, 3) := by decide +kernel
theorem dX0_yearsByDraws_136 : decode cX0_yearsByDraws 136 = .ok (.getfield 56, 3) := by decide +kernel
theorem dX0_yearsByDraws_139 : decode cX0_yearsByDraws 139 = .ok (.invokestatic 59, 3) := by decide +kernel
theorem dX0_yearsByDraws_142 : decode cX0_yearsByDraws 142 = .ok (.goto 10, 3) := by decide +kernel
theorem dX0_yearsByDraws_145 : decode cX0_yearsByDraws 145 = .ok (.aload_n 0, 1) := by decide +kernel
theorem dX0_yearsByDraws_146 : decode cX0_yearsByDraws 146 = .ok (.getfield 12, 3) := by decide +kernel
theorem dX0_yearsByDraws_149 : decode cX0_yearsByDraws 149 = .ok (.invokevirtual 138, 3) := by decide +kernel
theorem dX0_yearsByDraws_152 : decode cX0_yearsByDraws 152 = .ok (.ireturn, 1) := by decide +kernel
theorem dX0_nextDraw_0 : decode cX0_nextDraw 0 = .ok (.lload_n 0, 1) := by decide +kernel
theorem dX0_nextDraw_1 : decode cX0_nextDraw 1 = .ok (.ldc2_w 142, 3) := by decide +kernel
theorem dX0_nextDraw_4 : decode cX0_nextDraw 4 = .ok (.lmul, 1) := by decide +kernel
theorem dX0_nextDraw_5 : decode cX0_nextDraw 5 = .ok (.ldc2_w 144, 3) := by decide +kernel
theorem dX0_nextDraw_8 : decode cX0_nextDraw 8 = .ok (.ladd, 1) := by decide +kernel
theorem dX0_nextDraw_9 : decode cX0_nextDraw 9 = .ok (.ldc2_w 146, 3) := by decide +kernel
theorem dX0_nextDraw_12 : decode cX0_nextDraw 12 = .ok (.lrem, 1) := by decide +kernel
theorem dX0_nextDraw_13 : decode cX0_nextDraw 13 = .ok (.lreturn, 1) := by decide +kernel
theorem dX0_drawBelow_0 : decode cX0_drawBelow 0 = .ok (.iload_n 2, 1) := by decide +kernel
theorem dX0_drawBelow_1 : decode cX0_drawBelow 1 = .ok (.ifCond .le 15, 3) := by decide +kernel
theorem dX0_drawBelow_4 : decode cX0_drawBelow 4 = .ok (.lload_n 0, 1) := by decide +kernel
theorem dX0_drawBelow_5 : decode cX0_drawBelow 5 = .ok (.ldc2_w 148, 3) := by decide +kernel
theorem dX0_drawBelow_8 : decode cX0_drawBelow 8 = .ok (.ldiv, 1) := by decide +kernel
theorem dX0_drawBelow_9 : decode cX0_drawBelow 9 = .ok (.iload_n 2, 1) := by decide +kernel
theorem dX0_drawBelow_10 : decode cX0_drawBelow 10 = .ok (.i2l, 1) := by decide +kernel
theorem dX0_drawBelow_11 : decode cX0_drawBelow 11 = .ok (.lrem, 1) := by decide +kernel
theorem dX0_drawBelow_12 : decode cX0_drawBelow 12 = .ok (.l2i, 1) := by decide +kernel
theorem dX0_drawBelow_13 : decode cX0_drawBelow 13 = .ok (.goto 4, 3) := by decide +kernel
theorem dX0_drawBelow_16 : decode cX0_drawBelow 16 = .ok (.iconst 0, 1) := by decide +kernel
theorem dX0_drawBelow_17 : decode cX0_drawBelow 17 = .ok (.ireturn, 1) := by decide +kernel
theorem dX1_init_0 : decode cX1_init 0 = .ok (.aload_n 0, 1) := by decide +kernel
theorem dX1_init_1 : decode cX1_init 1 = .ok (.invokespecial 1, 3) := by decide +kernel
theorem dX1_init_4 : decode cX1_init 4 = .ok (.aload_n 0, 1) := by decide +kernel
theorem dX1_init_5 : decode cX1_init 5 = .ok (.sipush 1003, 3) := by decide +kernel
theorem dX1_init_8 : decode cX1_init 8 = .ok (.newarray .int, 2) := by decide +kernel
theorem dX1_init_10 : decode cX1_init 10 = .ok (.putfield 11, 3) := by decide +kernel
theorem dX1_init_13 : decode cX1_init 13 = .ok (.aload_n 0, 1) := by decide +kernel
theorem dX1_init_14 : decode cX1_init 14 = .ok (.iconst 3, 1) := by decide +kernel
theorem dX1_init_15 : decode cX1_init 15 = .ok (.newarray .int, 2) := by decide +kernel
theorem dX1_init_17 : decode cX1_init 17 = .ok (.putfield 15, 3) := by decide +kernel
theorem dX1_init_20 : decode cX1_init 20 = .ok (.aload_n 0, 1) := by decide +kernel
theorem dX1_init_21 : decode cX1_init 21 = .ok (.iconst 3, 1) := by decide +kernel
theorem dX1_init_22 : decode cX1_init 22 = .ok (.newarray .int, 2) := by decide +kernel
theorem dX1_init_24 : decode cX1_init 24 = .ok (.putfield 18, 3) := by decide +kernel
theorem dX1_init_27 : decode cX1_init 27 = .ok (.aload_n 0, 1) := by decide +kernel
theorem dX1_init_28 : decode cX1_init 28 = .ok (.bipush 40, 2) := by decide +kernel
theorem dX1_init_30 : decode cX1_init 30 = .ok (.newarray .int, 2) := by decide +kernel
theorem dX1_init_32 : decode cX1_init 32 = .ok (.putfield 21, 3) := by decide +kernel
theorem dX1_init_35 : decode cX1_init 35 = .ok (.return_, 1) := by decide +kernel
theorem dX1_clear_0 : decode cX1_clear 0 = .ok (.aload_n 0, 1) := by decide +kernel
theorem dX1_clear_1 : decode cX1_clear 1 = .ok (.iconst 0, 1) := by decide +kernel
theorem dX1_clear_2 : decode cX1_clear 2 = .ok (.putfield 24, 3) := by decide +kernel
theorem dX1_clear_5 : decode cX1_clear 5 = .ok (.aload_n 0, 1) := by decide +kernel
theorem dX1_clear_6 : decode cX1_clear 6 = .ok (.iconst 0, 1) := by decide +kernel
theorem dX1_clear_7 : decode cX1_clear 7 = .ok (.invokevirtual 28, 3) := by decide +kernel
theorem dX1_clear_10 : decode cX1_clear 10 = .ok (.aload_n 0, 1) := by decide +kernel
theorem dX1_clear_11 : decode cX1_clear 11 = .ok (.iconst 2, 1) := by decide +kernel
theorem dX1_clear_12 : decode cX1_clear 12 = .ok (.invokevirtual 32, 3) := by decide +kernel
theorem dX1_clear_15 : decode cX1_clear 15 = .ok (.aload_n 0, 1) := by decide +kernel
theorem dX1_clear_16 : decode cX1_clear 16 = .ok (.iconst 0, 1) := by decide +kernel
theorem dX1_clear_17 : decode cX1_clear 17 = .ok (.invokevirtual 35, 3) := by decide +kernel
theorem dX1_clear_20 : decode cX1_clear 20 = .ok (.aload_n 0, 1) := by decide +kernel
theorem dX1_clear_21 : decode cX1_clear 21 = .ok (.iconst 1, 1) := by decide +kernel
theorem dX1_clear_22 : decode cX1_clear 22 = .ok (.invokevirtual 28, 3) := by decide +kernel
theorem dX1_clear_25 : decode cX1_clear 25 = .ok (.aload_n 0, 1) := by decide +kernel
theorem dX1_clear_26 : decode cX1_clear 26 = .ok (.iconst 1, 1) := by decide +kernel
theorem dX1_clear_27 : decode cX1_clear 27 = .ok (.invokevirtual 32, 3) := by decide +kernel
theorem dX1_clear_30 : decode cX1_clear 30 = .ok (.aload_n 0, 1) := by decide +kernel
theorem dX1_clear_31 : decode cX1_clear 31 = .ok (.iconst 1, 1) := by decide +kernel
theorem dX1_clear_32 : decode cX1_clear 32 = .ok (.invokevirtual 35, 3) := by decide +kernel
theorem dX1_clear_35 : decode cX1_clear 35 = .ok (.aload_n 0, 1) := by decide +kernel
theorem dX1_clear_36 : decode cX1_clear 36 = .ok (.iconst 2, 1) := by decide +kernel
theorem dX1_clear_37 : decode cX1_clear 37 = .ok (.invokevirtual 28, 3) := by decide +kernel
theorem dX1_clear_40 : decode cX1_clear 40 = .ok (.aload_n 0, 1) := by decide +kernel
theorem dX1_clear_41 : decode cX1_clear 41 = .ok (.iconst (-1), 1) := by decide +kernel
theorem dX1_clear_42 : decode cX1_clear 42 = .ok (.invokevirtual 32, 3) := by decide +kernel
theorem dX1_clear_45 : decode cX1_clear 45 = .ok (.aload_n 0, 1) := by decide +kernel
theorem dX1_clear_46 : decode cX1_clear 46 = .ok (.iconst 2, 1) := by decide +kernel
theorem dX1_clear_47 : decode cX1_clear 47 = .ok (.invokevirtual 35, 3) := by decide +kernel
theorem dX1_clear_50 : decode cX1_clear 50 = .ok (.return_, 1) := by decide +kernel
theorem dX1_begin_0 : decode cX1_begin 0 = .ok (.aload_n 0, 1) := by decide +kernel
theorem dX1_begin_1 : decode cX1_begin 1 = .ok (.getfield 15, 3) := by decide +kernel
theorem dX1_begin_4 : decode cX1_begin 4 = .ok (.iload_n 1, 1) := by decide +kernel
theorem dX1_begin_5 : decode cX1_begin 5 = .ok (.aload_n 0, 1) := by decide +kernel
theorem dX1_begin_6 : decode cX1_begin 6 = .ok (.getfield 24, 3) := by decide +kernel
theorem dX1_begin_9 : decode cX1_begin 9 = .ok (.iastore, 1) := by decide +kernel
theorem dX1_begin_10 : decode cX1_begin 10 = .ok (.return_, 1) := by decide +kernel
theorem dX1_put_0 : decode cX1_put 0 = .ok (.aload_n 0, 1) := by decide +kernel
theorem dX1_put_1 : decode cX1_put 1 = .ok (.getfield 24, 3) := by decide +kernel
theorem dX1_put_4 : decode cX1_put 4 = .ok (.aload_n 0, 1) := by decide +kernel
theorem dX1_put_5 : decode cX1_put 5 = .ok (.getfield 11, 3) := by decide +kernel
theorem dX1_put_8 : decode cX1_put 8 = .ok (.arraylength, 1) := by decide +kernel
theorem dX1_put_9 : decode cX1_put 9 = .ok (.if_icmp .ge 23, 3) := by decide +kernel
theorem dX1_put_12 : decode cX1_put 12 = .ok (.aload_n 0, 1) := by decide +kernel
theorem dX1_put_13 : decode cX1_put 13 = .ok (.getfield 11, 3) := by decide +kernel
theorem dX1_put_16 : decode cX1_put 16 = .ok (.aload_n 0, 1) := by decide +kernel
theorem dX1_put_17 : decode cX1_put 17 = .ok (.getfield 24, 3) := by decide +kernel
theorem dX1_put_20 : decode cX1_put 20 = .ok (.iload_n 1, 1) := by decide +kernel
theorem dX1_put_21 : decode cX1_put 21 = .ok (.iastore, 1) := by decide +kernel
theorem dX1_put_22 : decode cX1_put 22 = .ok (.aload_n 0, 1) := by decide +kernel
theorem dX1_put_23 : decode cX1_put 23 = .ok (.dup, 1) := by decide +kernel
theorem dX1_put_24 : decode cX1_put 24 = .ok (.getfield 24, 3) := by decide +kernel
theorem dX1_put_27 : decode cX1_put 27 = .ok (.iconst 1, 1) := by decide +kernel
theorem dX1_put_28 : decode cX1_put 28 = .ok (.iadd, 1) := by decide +kernel
theorem dX1_put_29 : decode cX1_put 29 = .ok (.putfield 24, 3) := by decide +kernel
theorem dX1_put_32 : decode cX1_put 32 = .ok (.return_, 1) := by decide +kernel
theorem dX1_end_0 : decode cX1_end 0 = .ok (.aload_n 0, 1) := by decide +kernel
theorem dX1_end_1 : decode cX1_end 1 = .ok (.getfield 18, 3) := by decide +kernel
theorem dX1_end_4 : decode cX1_end 4 = .ok (.iload_n 1, 1) := by decide +kernel
theorem dX1_end_5 : decode cX1_end 5 = .ok (.aload_n 0, 1) := by decide +kernel
theorem dX1_end_6 : decode cX1_end 6 = .ok (.getfield 24, 3) := by decide +kernel
theorem dX1_end_9 : decode cX1_end 9 = .ok (.iastore, 1) := by decide +kernel
theorem dX1_end_10 : decode cX1_end 10 = .ok (.return_, 1) := by decide +kernel
theorem dX1_worth_0 : decode cX1_worth 0 = .ok (.iconst 0, 1) := by decide +kernel
theorem dX1_worth_1 : decode cX1_worth 1 = .ok (.istore 5, 2) := by decide +kernel
theorem dX1_worth_3 : decode cX1_worth 3 = .ok (.aload_n 0, 1) := by decide +kernel
theorem dX1_worth_4 : decode cX1_worth 4 = .ok (.getfield 15, 3) := by decide +kernel
theorem dX1_worth_7 : decode cX1_worth 7 = .ok (.iload_n 1, 1) := by decide +kernel
theorem dX1_worth_8 : decode cX1_worth 8 = .ok (.iaload, 1) := by decide +kernel
theorem dX1_worth_9 : decode cX1_worth 9 = .ok (.istore 6, 2) := by decide +kernel
theorem dX1_worth_11 : decode cX1_worth 11 = .ok (.iload 6, 2) := by decide +kernel
theorem dX1_worth_13 : decode cX1_worth 13 = .ok (.aload_n 0, 1) := by decide +kernel
theorem dX1_worth_14 : decode cX1_worth 14 = .ok (.getfield 18, 3) := by decide +kernel
theorem dX1_worth_17 : decode cX1_worth 17 = .ok (.iload_n 1, 1) := by decide +kernel
theorem dX1_worth_18 : decode cX1_worth 18 = .ok (.iaload, 1) := by decide +kernel
theorem dX1_worth_19 : decode cX1_worth 19 = .ok (.if_icmp .ge 141, 3) := by decide +kernel
theorem dX1_worth_22 : decode cX1_worth 22 = .ok (.aload_n 0, 1) := by decide +kernel
theorem dX1_worth_23 : decode cX1_worth 23 = .ok (.getfield 11, 3) := by decide +kernel
theorem dX1_worth_26 : decode cX1_worth 26 = .ok (.iload 6, 2) := by decide +kernel
theorem dX1_worth_28 : decode cX1_worth 28 = .ok (.iaload, 1) := by decide +kernel
theorem dX1_worth_29 : decode cX1_worth 29 = .ok (.istore 7, 2) := by decide +kernel
theorem dX1_worth_31 : decode cX1_worth 31 = .ok (.iload 7, 2) := by decide +kernel
theorem dX1_worth_33 : decode cX1_worth 33 = .ok (.bipush (-3), 2) := by decide +kernel
theorem dX1_worth_35 : decode cX1_worth 35 = .ok (.if_icmp .lt 35, 3) := by decide +kernel
theorem dX1_worth_38 : decode cX1_worth 38 = .ok (.iload 5, 2) := by decide +kernel
theorem dX1_worth_40 : decode cX1_worth 40 = .ok (.aload_n 0, 1) := by decide +kernel
theorem dX1_worth_41 : decode cX1_worth 41 = .ok (.getfield 21, 3) := by decide +kernel
theorem dX1_worth_44 : decode cX1_worth 44 = .ok (.arraylength, 1) := by decide +kernel
theorem dX1_worth_45 : decode cX1_worth 45 = .ok (.if_icmp .ge 109, 3) := by decide +kernel
theorem dX1_worth_48 : decode cX1_worth 48 = .ok (.aload_n 0, 1) := by decide +kernel
theorem dX1_worth_49 : decode cX1_worth 49 = .ok (.getfield 21, 3) := by decide +kernel
theorem dX1_worth_52 : decode cX1_worth 52 = .ok (.iload 5, 2) := by decide +kernel
theorem dX1_worth_54 : decode cX1_worth 54 = .ok (.iload 7, 2) := by decide +kernel
theorem dX1_worth_56 : decode cX1_worth 56 = .ok (.iload_n 2, 1) := by decide +kernel
theorem dX1_worth_57 : decode cX1_worth 57 = .ok (.iload_n 3, 1) := by decide +kernel
theorem dX1_worth_58 : decode cX1_worth 58 = .ok (.iload 4, 2) := by decide +kernel
theorem dX1_worth_60 : decode cX1_worth 60 = .ok (.invokestatic 38, 3) := by decide +kernel
theorem dX1_worth_63 : decode cX1_worth 63 = .ok (.iastore, 1) := by decide +kernel
theorem dX1_worth_64 : decode cX1_worth 64 = .ok (.iinc 5 1, 3) := by decide +kernel
theorem dX1_worth_67 : decode cX1_worth 67 = .ok (.goto 87, 3) := by decide +kernel
theorem dX1_worth_70 : decode cX1_worth 70 = .ok (.iload 7, 2) := by decide +kernel
theorem dX1_worth_72 : decode cX1_worth 72 = .ok (.bipush (-4), 2) := by decide +kernel
theorem dX1_worth_74 : decode cX1_worth 74 = .ok (.if_icmp .ne 41, 3) := by decide +kernel
theorem dX1_worth_77 : decode cX1_worth 77 = .ok (.iload 5, 2) := by decide +kernel
theorem dX1_worth_79 : decode cX1_worth 79 = .ok (.iconst 1, 1) := by decide +kernel
theorem dX1_worth_80 : decode cX1_worth 80 = .ok (.if_icmp .lt 74, 3) := by decide +kernel
theorem dX1_worth_83 : decode cX1_worth 83 = .ok (.aload_n 0, 1) := by decide +kernel
theorem dX1_worth_84 : decode cX1_worth 84 = .ok (.getfield 21, 3) := by decide +kernel
theorem dX1_worth_87 : decode cX1_worth 87 = .ok (.iload 5, 2) := by decide +kernel
theorem dX1_worth_89 : decode cX1_worth 89 = .ok (.iconst 1, 1) := by decide +kernel
theorem dX1_worth_90 : decode cX1_worth 90 = .ok (.isub, 1) := by decide +kernel
theorem dX1_worth_91 : decode cX1_worth 91 = .ok (.aload_n 0, 1) := by decide +kernel
theorem dX1_worth_92 : decode cX1_worth 92 = .ok (.getfield 21, 3) := by decide +kernel
theorem dX1_worth_95 : decode cX1_worth 95 = .ok (.iload 5, 2) := by decide +kernel
theorem dX1_worth_97 : decode cX1_worth 97 = .ok (.iconst 1, 1) := by decide +kernel
theorem dX1_worth_98 : decode cX1_worth 98 = .ok (.isub, 1) := by decide +kernel
theorem dX1_worth_99 : decode cX1_worth 99 = .ok (.iaload, 1) := by decide +kernel
theorem dX1_worth_100 : decode cX1_worth 100 = .ok (.ifCond .ne 7, 3) := by decide +kernel
theorem dX1_worth_103 : decode cX1_worth 103 = .ok (.iconst 1, 1) := by decide +kernel
theorem dX1_worth_104 : decode cX1_worth 104 = .ok (.goto 4, 3) := by decide +kernel
theorem dX1_worth_107 : decode cX1_worth 107 = .ok (.iconst 0, 1) := by decide +kernel
theorem dX1_worth_108 : decode cX1_worth 108 = .ok (.invokestatic 42, 3) := by decide +kernel
theorem dX1_worth_111 : decode cX1_worth 111 = .ok (.iastore, 1) := by decide +kernel
theorem dX1_worth_112 : decode cX1_worth 112 = .ok (.goto 42, 3) := by decide +kernel
theorem dX1_worth_115 : decode cX1_worth 115 = .ok (.iload 5, 2) := by decide +kernel
theorem dX1_worth_117 : decode cX1_worth 117 = .ok (.iconst 2, 1) := by decide +kernel
theorem dX1_worth_118 : decode cX1_worth 118 = .ok (.if_icmp .lt 36, 3) := by decide +kernel
theorem dX1_worth_121 : decode cX1_worth 121 = .ok (.iinc 5 (-1), 3) := by decide +kernel
theorem dX1_worth_124 : decode cX1_worth 124 = .ok (.aload_n 0, 1) := by decide +kernel
theorem dX1_worth_125 : decode cX1_worth 125 = .ok (.getfield 21, 3) := by decide +kernel
theorem dX1_worth_128 : decode cX1_worth 128 = .ok (.iload 5, 2) := by decide +kernel
theorem dX1_worth_130 : decode cX1_worth 130 = .ok (.iconst 1, 1) := by decide +kernel
theorem dX1_worth_131 : decode cX1_worth 131 = .ok (.isub, 1) := by decide +kernel
theorem dX1_worth_132 : decode cX1_worth 132 = .ok (.iload 7, 2) := by decide +kernel
theorem dX1_worth_134 : decode cX1_worth 134 = .ok (.aload_n 0, 1) := by decide +kernel
theorem dX1_worth_135 : decode cX1_worth 135 = .ok (.getfield 21, 3) := by decide +kernel
theorem dX1_worth_138 : decode cX1_worth 138 = .ok (.iload 5, 2) := by decide +kernel
theorem dX1_worth_140 : decode cX1_worth 140 = .ok (.iconst 1, 1) := by decide +kernel
theorem dX1_worth_141 : decode cX1_worth 141 = .ok (.isub, 1) := by decide +kernel
theorem dX1_worth_142 : decode cX1_worth 142 = .ok (.iaload, 1) := by decide +kernel
theorem dX1_worth_143 : decode cX1_worth 143 = .ok (.aload_n 0, 1) := by decide +kernel
theorem dX1_worth_144 : decode cX1_worth 144 = .ok (.getfield 21, 3) := by decide +kernel
theorem dX1_worth_147 : decode cX1_worth 147 = .ok (.iload 5, 2) := by decide +kernel
theorem dX1_worth_149 : decode cX1_worth 149 = .ok (.iaload, 1) := by decide +kernel
theorem dX1_worth_150 : decode cX1_worth 150 = .ok (.invokestatic 46, 3) := by decide +kernel
theorem dX1_worth_153 : decode cX1_worth 153 = .ok (.iastore, 1) := by decide +kernel
theorem dX1_worth_154 : decode cX1_worth 154 = .ok (.iinc 6 1, 3) := by decide +kernel
theorem dX1_worth_157 : decode cX1_worth 157 = .ok (.goto (-146), 3) := by decide +kernel
theorem dX1_worth_160 : decode cX1_worth 160 = .ok (.iload 5, 2) := by decide +kernel
theorem dX1_worth_162 : decode cX1_worth 162 = .ok (.ifCond .le 12, 3) := by decide +kernel
theorem dX1_worth_165 : decode cX1_worth 165 = .ok (.aload_n 0, 1) := by decide +kernel
theorem dX1_worth_166 : decode cX1_worth 166 = .ok (.getfield 21, 3) := by decide +kernel
theorem dX1_worth_169 : decode cX1_worth 169 = .ok (.iconst 0, 1) := by decide +kernel
theorem dX1_worth_170 : decode cX1_worth 170 = .ok (.iaload, 1) := by decide +kernel
theorem dX1_worth_171 : decode cX1_worth 171 = .ok (.goto 4, 3) := by decide +kernel
theorem dX1_worth_174 : decode cX1_worth 174 = .ok (.iconst 0, 1) := by decide +kernel
theorem dX1_worth_175 : decode cX1_worth 175 = .ok (.ireturn, 1) := by decide +kernel
theorem dX1_fact_0 : decode cX1_fact 0 = .ok (.iload_n 0, 1) := by decide +kernel
theorem dX1_fact_1 : decode cX1_fact 1 = .ok (.tableswitch 33 (-3) (-1) #[31, 29, 27], 27) := by decide +kernel
theorem dX1_fact_28 : decode cX1_fact 28 = .ok (.iload_n 1, 1) := by decide +kernel
theorem dX1_fact_29 : decode cX1_fact 29 = .ok (.ireturn, 1) := by decide +kernel
theorem dX1_fact_30 : decode cX1_fact 30 = .ok (.iload_n 2, 1) := by decide +kernel
theorem dX1_fact_31 : decode cX1_fact 31 = .ok (.ireturn, 1) := by decide +kernel
theorem dX1_fact_32 : decode cX1_fact 32 = .ok (.iload_n 3, 1) := by decide +kernel
theorem dX1_fact_33 : decode cX1_fact 33 = .ok (.ireturn, 1) := by decide +kernel
theorem dX1_fact_34 : decode cX1_fact 34 = .ok (.iload_n 0, 1) := by decide +kernel
theorem dX1_fact_35 : decode cX1_fact 35 = .ok (.ireturn, 1) := by decide +kernel
theorem dX1_joined_0 : decode cX1_joined 0 = .ok (.iload_n 0, 1) := by decide +kernel
theorem dX1_joined_1 : decode cX1_joined 1 = .ok (.tableswitch 109 (-10) (-5) #[105, 101, 87, 73, 56, 39], 39) := by decide +kernel
theorem dX1_joined_40 : decode cX1_joined 40 = .ok (.iload_n 1, 1) := by decide +kernel
theorem dX1_joined_41 : decode cX1_joined 41 = .ok (.ifCond .eq 11, 3) := by decide +kernel
theorem dX1_joined_44 : decode cX1_joined 44 = .ok (.iload_n 2, 1) := by decide +kernel
theorem dX1_joined_45 : decode cX1_joined 45 = .ok (.ifCond .eq 7, 3) := by decide +kernel
theorem dX1_joined_48 : decode cX1_joined 48 = .ok (.iconst 1, 1) := by decide +kernel
theorem dX1_joined_49 : decode cX1_joined 49 = .ok (.goto 4, 3) := by decide +kernel
theorem dX1_joined_52 : decode cX1_joined 52 = .ok (.iconst 0, 1) := by decide +kernel
theorem dX1_joined_53 : decode cX1_joined 53 = .ok (.invokestatic 42, 3) := by decide +kernel
theorem dX1_joined_56 : decode cX1_joined 56 = .ok (.ireturn, 1) := by decide +kernel
theorem dX1_joined_57 : decode cX1_joined 57 = .ok (.iload_n 1, 1) := by decide +kernel
theorem dX1_joined_58 : decode cX1_joined 58 = .ok (.ifCond .ne 7, 3) := by decide +kernel
theorem dX1_joined_61 : decode cX1_joined 61 = .ok (.iload_n 2, 1) := by decide +kernel
theorem dX1_joined_62 : decode cX1_joined 62 = .ok (.ifCond .eq 7, 3) := by decide +kernel
theorem dX1_joined_65 : decode cX1_joined 65 = .ok (.iconst 1, 1) := by decide +kernel
theorem dX1_joined_66 : decode cX1_joined 66 = .ok (.goto 4, 3) := by decide +kernel
theorem dX1_joined_69 : decode cX1_joined 69 = .ok (.iconst 0, 1) := by decide +kernel
theorem dX1_joined_70 : decode cX1_joined 70 = .ok (.invokestatic 42, 3) := by decide +kernel
theorem dX1_joined_73 : decode cX1_joined 73 = .ok (.ireturn, 1) := by decide +kernel
theorem dX1_joined_74 : decode cX1_joined 74 = .ok (.iload_n 1, 1) := by decide +kernel
theorem dX1_joined_75 : decode cX1_joined 75 = .ok (.iload_n 2, 1) := by decide +kernel
theorem dX1_joined_76 : decode cX1_joined 76 = .ok (.if_icmp .ge 7, 3) := by decide +kernel
theorem dX1_joined_79 : decode cX1_joined 79 = .ok (.iconst 1, 1) := by decide +kernel
theorem dX1_joined_80 : decode cX1_joined 80 = .ok (.goto 4, 3) := by decide +kernel
theorem dX1_joined_83 : decode cX1_joined 83 = .ok (.iconst 0, 1) := by decide +kernel
theorem dX1_joined_84 : decode cX1_joined 84 = .ok (.invokestatic 42, 3) := by decide +kernel
theorem dX1_joined_87 : decode cX1_joined 87 = .ok (.ireturn, 1) := by decide +kernel
theorem dX1_joined_88 : decode cX1_joined 88 = .ok (.iload_n 1, 1) := by decide +kernel
theorem dX1_joined_89 : decode cX1_joined 89 = .ok (.iload_n 2, 1) := by decide +kernel
theorem dX1_joined_90 : decode cX1_joined 90 = .ok (.if_icmp .ne 7, 3) := by decide +kernel
theorem dX1_joined_93 : decode cX1_joined 93 = .ok (.iconst 1, 1) := by decide +kernel
theorem dX1_joined_94 : decode cX1_joined 94 = .ok (.goto 4, 3) := by decide +kernel
theorem dX1_joined_97 : decode cX1_joined 97 = .ok (.iconst 0, 1) := by decide +kernel
theorem dX1_joined_98 : decode cX1_joined 98 = .ok (.invokestatic 42, 3) := by decide +kernel
theorem dX1_joined_101 : decode cX1_joined 101 = .ok (.ireturn, 1) := by decide +kernel
theorem dX1_joined_102 : decode cX1_joined 102 = .ok (.iload_n 1, 1) := by decide +kernel
theorem dX1_joined_103 : decode cX1_joined 103 = .ok (.iload_n 2, 1) := by decide +kernel
theorem dX1_joined_104 : decode cX1_joined 104 = .ok (.iadd, 1) := by decide +kernel
theorem dX1_joined_105 : decode cX1_joined 105 = .ok (.ireturn, 1) := by decide +kernel
theorem dX1_joined_106 : decode cX1_joined 106 = .ok (.iload_n 1, 1) := by decide +kernel
theorem dX1_joined_107 : decode cX1_joined 107 = .ok (.iload_n 2, 1) := by decide +kernel
theorem dX1_joined_108 : decode cX1_joined 108 = .ok (.isub, 1) := by decide +kernel
theorem dX1_joined_109 : decode cX1_joined 109 = .ok (.ireturn, 1) := by decide +kernel
theorem dX1_joined_110 : decode cX1_joined 110 = .ok (.iload_n 1, 1) := by decide +kernel
theorem dX1_joined_111 : decode cX1_joined 111 = .ok (.iload_n 2, 1) := by decide +kernel
theorem dX1_joined_112 : decode cX1_joined 112 = .ok (.imul, 1) := by decide +kernel
theorem dX1_joined_113 : decode cX1_joined 113 = .ok (.ireturn, 1) := by decide +kernel
theorem dX1_truth_0 : decode cX1_truth 0 = .ok (.iload_n 0, 1) := by decide +kernel
theorem dX1_truth_1 : decode cX1_truth 1 = .ok (.ifCond .eq 7, 3) := by decide +kernel
theorem dX1_truth_4 : decode cX1_truth 4 = .ok (.iconst 1, 1) := by decide +kernel
theorem dX1_truth_5 : decode cX1_truth 5 = .ok (.goto 4, 3) := by decide +kernel
theorem dX1_truth_8 : decode cX1_truth 8 = .ok (.iconst 0, 1) := by decide +kernel
theorem dX1_truth_9 : decode cX1_truth 9 = .ok (.ireturn, 1) := by decide +kernel
theorem dX2_init_0 : decode cX2_init 0 = .ok (.aload_n 0, 1) := by decide +kernel
theorem dX2_init_1 : decode cX2_init 1 = .ok (.invokespecial 3, 3) := by decide +kernel
theorem dX2_init_4 : decode cX2_init 4 = .ok (.aload_n 0, 1) := by decide +kernel
theorem dX2_init_5 : decode cX2_init 5 = .ok (.bipush 8, 2) := by decide +kernel
theorem dX2_init_7 : decode cX2_init 7 = .ok (.newarray .int, 2) := by decide +kernel
theorem dX2_init_9 : decode cX2_init 9 = .ok (.putfield 9, 3) := by decide +kernel
theorem dX2_init_12 : decode cX2_init 12 = .ok (.aload_n 0, 1) := by decide +kernel
theorem dX2_init_13 : decode cX2_init 13 = .ok (.bipush 8, 2) := by decide +kernel
theorem dX2_init_15 : decode cX2_init 15 = .ok (.newarray .int, 2) := by decide +kernel
theorem dX2_init_17 : decode cX2_init 17 = .ok (.putfield 15, 3) := by decide +kernel
theorem dX2_init_20 : decode cX2_init 20 = .ok (.aload_n 0, 1) := by decide +kernel
theorem dX2_init_21 : decode cX2_init 21 = .ok (.bipush 6, 2) := by decide +kernel
theorem dX2_init_23 : decode cX2_init 23 = .ok (.newarray .int, 2) := by decide +kernel
theorem dX2_init_25 : decode cX2_init 25 = .ok (.putfield 18, 3) := by decide +kernel
theorem dX2_init_28 : decode cX2_init 28 = .ok (.aload_n 0, 1) := by decide +kernel
theorem dX2_init_29 : decode cX2_init 29 = .ok (.bipush 6, 2) := by decide +kernel
theorem dX2_init_31 : decode cX2_init 31 = .ok (.newarray .int, 2) := by decide +kernel
theorem dX2_init_33 : decode cX2_init 33 = .ok (.putfield 21, 3) := by decide +kernel
theorem dX2_init_36 : decode cX2_init 36 = .ok (.aload_n 0, 1) := by decide +kernel
theorem dX2_init_37 : decode cX2_init 37 = .ok (.bipush 6, 2) := by decide +kernel
theorem dX2_init_39 : decode cX2_init 39 = .ok (.newarray .int, 2) := by decide +kernel
theorem dX2_init_41 : decode cX2_init 41 = .ok (.putfield 24, 3) := by decide +kernel
theorem dX2_init_44 : decode cX2_init 44 = .ok (.aload_n 0, 1) := by decide +kernel
theorem dX2_init_45 : decode cX2_init 45 = .ok (.sipush 384, 3) := by decide +kernel
theorem dX2_init_48 : decode cX2_init 48 = .ok (.newarray .int, 2) := by decide +kernel
theorem dX2_init_50 : decode cX2_init 50 = .ok (.putfield 27, 3) := by decide +kernel
theorem dX2_init_53 : decode cX2_init 53 = .ok (.aload_n 0, 1) := by decide +kernel
theorem dX2_init_54 : decode cX2_init 54 = .ok (.bipush 60, 2) := by decide +kernel
theorem dX2_init_56 : decode cX2_init 56 = .ok (.newarray .int, 2) := by decide +kernel
theorem dX2_init_58 : decode cX2_init 58 = .ok (.putfield 30, 3) := by decide +kernel
theorem dX2_init_61 : decode cX2_init 61 = .ok (.aload_n 0, 1) := by decide +kernel
theorem dX2_init_62 : decode cX2_init 62 = .ok (.iconst 3, 1) := by decide +kernel
theorem dX2_init_63 : decode cX2_init 63 = .ok (.newarray .int, 2) := by decide +kernel
theorem dX2_init_65 : decode cX2_init 65 = .ok (.putfield 33, 3) := by decide +kernel
theorem dX2_init_68 : decode cX2_init 68 = .ok (.return_, 1) := by decide +kernel
theorem dX2_fewestCoins_0 : decode cX2_fewestCoins 0 = .ok (.aload_n 0, 1) := by decide +kernel
theorem dX2_fewestCoins_1 : decode cX2_fewestCoins 1 = .ok (.aload_n 1, 1) := by decide +kernel
theorem dX2_fewestCoins_2 : decode cX2_fewestCoins 2 = .ok (.aload_n 2, 1) := by decide +kernel
theorem dX2_fewestCoins_3 : decode cX2_fewestCoins 3 = .ok (.invokevirtual 36, 3) := by decide +kernel
theorem dX2_fewestCoins_6 : decode cX2_fewestCoins 6 = .ok (.aload_n 0, 1) := by decide +kernel
theorem dX2_fewestCoins_7 : decode cX2_fewestCoins 7 = .ok (.getfield 33, 3) := by decide +kernel
theorem dX2_fewestCoins_10 : decode cX2_fewestCoins 10 = .ok (.iconst 0, 1) := by decide +kernel
theorem dX2_fewestCoins_11 : decode cX2_fewestCoins 11 = .ok (.iconst (-1), 1) := by decide +kernel
theorem dX2_fewestCoins_12 : decode cX2_fewestCoins 12 = .ok (.iastore, 1) := by decide +kernel
theorem dX2_fewestCoins_13 : decode cX2_fewestCoins 13 = .ok (.aload_n 0, 1) := by decide +kernel
theorem dX2_fewestCoins_14 : decode cX2_fewestCoins 14 = .ok (.getfield 33, 3) := by decide +kernel
theorem dX2_fewestCoins_17 : decode cX2_fewestCoins 17 = .ok (.iconst 1, 1) := by decide +kernel
theorem dX2_fewestCoins_18 : decode cX2_fewestCoins 18 = .ok (.iconst (-1), 1) := by decide +kernel
theorem dX2_fewestCoins_19 : decode cX2_fewestCoins 19 = .ok (.iastore, 1) := by decide +kernel
theorem dX2_fewestCoins_20 : decode cX2_fewestCoins 20 = .ok (.iconst 0, 1) := by decide +kernel
theorem dX2_fewestCoins_21 : decode cX2_fewestCoins 21 = .ok (.istore 6, 2) := by decide +kernel
theorem dX2_fewestCoins_23 : decode cX2_fewestCoins 23 = .ok (.iload 6, 2) := by decide +kernel
theorem dX2_fewestCoins_25 : decode cX2_fewestCoins 25 = .ok (.iconst 1, 1) := by decide +kernel
theorem dX2_fewestCoins_26 : decode cX2_fewestCoins 26 = .ok (.aload_n 1, 1) := by decide +kernel
theorem dX2_fewestCoins_27 : decode cX2_fewestCoins 27 = .ok (.getfield 40, 3) := by decide +kernel
theorem dX2_fewestCoins_30 : decode cX2_fewestCoins 30 = .ok (.ishl, 1) := by decide +kernel
theorem dX2_fewestCoins_31 : decode cX2_fewestCoins 31 = .ok (.if_icmp .ge 100, 3) := by decide +kernel
theorem dX2_fewestCoins_34 : decode cX2_fewestCoins 34 = .ok (.iload 6, 2) := by decide +kernel
theorem dX2_fewestCoins_36 : decode cX2_fewestCoins 36 = .ok (.aload_n 2, 1) := by decide +kernel
theorem dX2_fewestCoins_37 : decode cX2_fewestCoins 37 = .ok (.getfield 46, 3) := by decide +kernel
theorem dX2_fewestCoins_40 : decode cX2_fewestCoins 40 = .ok (.iand, 1) := by decide +kernel
theorem dX2_fewestCoins_41 : decode cX2_fewestCoins 41 = .ok (.ifCond .ne 84, 3) := by decide +kernel
theorem dX2_fewestCoins_44 : decode cX2_fewestCoins 44 = .ok (.aload_n 0, 1) := by decide +kernel
theorem dX2_fewestCoins_45 : decode cX2_fewestCoins 45 = .ok (.aload_n 1, 1) := by decide +kernel
theorem dX2_fewestCoins_46 : decode cX2_fewestCoins 46 = .ok (.aload_n 2, 1) := by decide +kernel
theorem dX2_fewestCoins_47 : decode cX2_fewestCoins 47 = .ok (.iload 6, 2) := by decide +kernel
theorem dX2_fewestCoins_49 : decode cX2_fewestCoins 49 = .ok (.invokevirtual 51, 3) := by decide +kernel
theorem dX2_fewestCoins_52 : decode cX2_fewestCoins 52 = .ok (.ifCond .ne 6, 3) := by decide +kernel
theorem dX2_fewestCoins_55 : decode cX2_fewestCoins 55 = .ok (.goto 70, 3) := by decide +kernel
theorem dX2_fewestCoins_58 : decode cX2_fewestCoins 58 = .ok (.aload_n 0, 1) := by decide +kernel
theorem dX2_fewestCoins_59 : decode cX2_fewestCoins 59 = .ok (.aload_n 1, 1) := by decide +kernel
theorem dX2_fewestCoins_60 : decode cX2_fewestCoins 60 = .ok (.iload 6, 2) := by decide +kernel
theorem dX2_fewestCoins_62 : decode cX2_fewestCoins 62 = .ok (.invokevirtual 55, 3) := by decide +kernel
theorem dX2_fewestCoins_65 : decode cX2_fewestCoins 65 = .ok (.istore 7, 2) := by decide +kernel
theorem dX2_fewestCoins_67 : decode cX2_fewestCoins 67 = .ok (.aload_n 0, 1) := by decide +kernel
theorem dX2_fewestCoins_68 : decode cX2_fewestCoins 68 = .ok (.getfield 33, 3) := by decide +kernel
theorem dX2_fewestCoins_71 : decode cX2_fewestCoins 71 = .ok (.iconst 0, 1) := by decide +kernel
theorem dX2_fewestCoins_72 : decode cX2_fewestCoins 72 = .ok (.iaload, 1) := by decide +kernel
theorem dX2_fewestCoins_73 : decode cX2_fewestCoins 73 = .ok (.iconst (-1), 1) := by decide +kernel
theorem dX2_fewestCoins_74 : decode cX2_fewestCoins 74 = .ok (.if_icmp .eq 14, 3) := by decide +kernel
theorem dX2_fewestCoins_77 : decode cX2_fewestCoins 77 = .ok (.iload 7, 2) := by decide +kernel
theorem dX2_fewestCoins_79 : decode cX2_fewestCoins 79 = .ok (.aload_n 0, 1) := by decide +kernel
theorem dX2_fewestCoins_80 : decode cX2_fewestCoins 80 = .ok (.getfield 33, 3) := by decide +kernel
theorem dX2_fewestCoins_83 : decode cX2_fewestCoins 83 = .ok (.iconst 0, 1) := by decide +kernel
theorem dX2_fewestCoins_84 : decode cX2_fewestCoins 84 = .ok (.iaload, 1) := by decide +kernel
theorem dX2_fewestCoins_85 : decode cX2_fewestCoins 85 = .ok (.if_icmp .ge 40, 3) := by decide +kernel
theorem dX2_fewestCoins_88 : decode cX2_fewestCoins 88 = .ok (.aload_n 1, 1) := by decide +kernel
theorem dX2_fewestCoins_89 : decode cX2_fewestCoins 89 = .ok (.getfield 59, 3) := by decide +kernel
theorem dX2_fewestCoins_92 : decode cX2_fewestCoins 92 = .ok (.aload_n 0, 1) := by decide +kernel
theorem dX2_fewestCoins_93 : decode cX2_fewestCoins 93 = .ok (.aload_n 1, 1) := by decide +kernel
theorem dX2_fewestCoins_94 : decode cX2_fewestCoins 94 = .ok (.aload_n 2, 1) := by decide +kernel
theorem dX2_fewestCoins_95 : decode cX2_fewestCoins 95 = .ok (.iload 6, 2) := by decide +kernel
theorem dX2_fewestCoins_97 : decode cX2_fewestCoins 97 = .ok (.invokevirtual 63, 3) := by decide +kernel
theorem dX2_fewestCoins_100 : decode cX2_fewestCoins 100 = .ok (.iload_n 3, 1) := by decide +kernel
theorem dX2_fewestCoins_101 : decode cX2_fewestCoins 101 = .ok (.iload 4, 2) := by decide +kernel
theorem dX2_fewestCoins_103 : decode cX2_fewestCoins 103 = .ok (.invokevirtual 67, 3) := by decide +kernel
theorem dX2_fewestCoins_106 : decode cX2_fewestCoins 106 = .ok (.ifCond .eq 19, 3) := by decide +kernel
theorem dX2_fewestCoins_109 : decode cX2_fewestCoins 109 = .ok (.aload_n 0, 1) := by decide +kernel
theorem dX2_fewestCoins_110 : decode cX2_fewestCoins 110 = .ok (.getfield 33, 3) := by decide +kernel
theorem dX2_fewestCoins_113 : decode cX2_fewestCoins 113 = .ok (.iconst 0, 1) := by decide +kernel
theorem dX2_fewestCoins_114 : decode cX2_fewestCoins 114 = .ok (.iload 7, 2) := by decide +kernel
theorem dX2_fewestCoins_116 : decode cX2_fewestCoins 116 = .ok (.iastore, 1) := by decide +kernel
theorem dX2_fewestCoins_117 : decode cX2_fewestCoins 117 = .ok (.aload_n 0, 1) := by decide +kernel
theorem dX2_fewestCoins_118 : decode cX2_fewestCoins 118 = .ok (.getfield 33, 3) := by decide +kernel
theorem dX2_fewestCoins_121 : decode cX2_fewestCoins 121 = .ok (.iconst 1, 1) := by decide +kernel
theorem dX2_fewestCoins_122 : decode cX2_fewestCoins 122 = .ok (.iload 6, 2) := by decide +kernel
theorem dX2_fewestCoins_124 : decode cX2_fewestCoins 124 = .ok (.iastore, 1) := by decide +kernel
theorem dX2_fewestCoins_125 : decode cX2_fewestCoins 125 = .ok (.iinc 6 1, 3) := by decide +kernel
theorem dX2_fewestCoins_128 : decode cX2_fewestCoins 128 = .ok (.goto (-105), 3) := by decide +kernel
theorem dX2_fewestCoins_131 : decode cX2_fewestCoins 131 = .ok (.aload_n 0, 1) := by decide +kernel
theorem dX2_fewestCoins_132 : decode cX2_fewestCoins 132 = .ok (.getfield 33, 3) := by decide +kernel
theorem dX2_fewestCoins_135 : decode cX2_fewestCoins 135 = .ok (.iload 5, 2) := by decide +kernel
theorem dX2_fewestCoins_137 : decode cX2_fewestCoins 137 = .ok (.iaload, 1) := by decide +kernel
theorem dX2_fewestCoins_138 : decode cX2_fewestCoins 138 = .ok (.ireturn, 1) := by decide +kernel
theorem dX2_weighPardons_0 : decode cX2_weighPardons 0 = .ok (.iconst 0, 1) := by decide +kernel
theorem dX2_weighPardons_1 : decode cX2_weighPardons 1 = .ok (.istore_n 3, 1) := by decide +kernel
theorem dX2_weighPardons_2 : decode cX2_weighPardons 2 = .ok (.iload_n 3, 1) := by decide +kernel
theorem dX2_weighPardons_3 : decode cX2_weighPardons 3 = .ok (.aload_n 1, 1) := by decide +kernel
theorem dX2_weighPardons_4 : decode cX2_weighPardons 4 = .ok (.getfield 40, 3) := by decide +kernel
theorem dX2_weighPardons_7 : decode cX2_weighPardons 7 = .ok (.if_icmp .ge 59, 3) := by decide +kernel
theorem dX2_weighPardons_10 : decode cX2_weighPardons 10 = .ok (.aload_n 0, 1) := by decide +kernel
theorem dX2_weighPardons_11 : decode cX2_weighPardons 11 = .ok (.getfield 9, 3) := by decide +kernel
theorem dX2_weighPardons_14 : decode cX2_weighPardons 14 = .ok (.iload_n 3, 1) := by decide +kernel
theorem dX2_weighPardons_15 : decode cX2_weighPardons 15 = .ok (.iconst 0, 1) := by decide +kernel
theorem dX2_weighPardons_16 : decode cX2_weighPardons 16 = .ok (.aload_n 2, 1) := by decide +kernel
theorem dX2_weighPardons_17 : decode cX2_weighPardons 17 = .ok (.getfield 73, 3) := by decide +kernel
theorem dX2_weighPardons_20 : decode cX2_weighPardons 20 = .ok (.iload_n 3, 1) := by decide +kernel
theorem dX2_weighPardons_21 : decode cX2_weighPardons 21 = .ok (.iaload, 1) := by decide +kernel
theorem dX2_weighPardons_22 : decode cX2_weighPardons 22 = .ok (.aload_n 1, 1) := by decide +kernel
theorem dX2_weighPardons_23 : decode cX2_weighPardons 23 = .ok (.iload_n 3, 1) := by decide +kernel
theorem dX2_weighPardons_24 : decode cX2_weighPardons 24 = .ok (.invokevirtual 76, 3) := by decide +kernel
theorem dX2_weighPardons_27 : decode cX2_weighPardons 27 = .ok (.isub, 1) := by decide +kernel
theorem dX2_weighPardons_28 : decode cX2_weighPardons 28 = .ok (.invokestatic 80, 3) := by decide +kernel
theorem dX2_weighPardons_31 : decode cX2_weighPardons 31 = .ok (.iastore, 1) := by decide +kernel
theorem dX2_weighPardons_32 : decode cX2_weighPardons 32 = .ok (.aload_n 0, 1) := by decide +kernel
theorem dX2_weighPardons_33 : decode cX2_weighPardons 33 = .ok (.getfield 15, 3) := by decide +kernel
theorem dX2_weighPardons_36 : decode cX2_weighPardons 36 = .ok (.iload_n 3, 1) := by decide +kernel
theorem dX2_weighPardons_37 : decode cX2_weighPardons 37 = .ok (.aload_n 1, 1) := by decide +kernel
theorem dX2_weighPardons_38 : decode cX2_weighPardons 38 = .ok (.iload_n 3, 1) := by decide +kernel
theorem dX2_weighPardons_39 : decode cX2_weighPardons 39 = .ok (.aload_n 2, 1) := by decide +kernel
theorem dX2_weighPardons_40 : decode cX2_weighPardons 40 = .ok (.getfield 73, 3) := by decide +kernel
theorem dX2_weighPardons_43 : decode cX2_weighPardons 43 = .ok (.iload_n 3, 1) := by decide +kernel
theorem dX2_weighPardons_44 : decode cX2_weighPardons 44 = .ok (.iaload, 1) := by decide +kernel
theorem dX2_weighPardons_45 : decode cX2_weighPardons 45 = .ok (.aload_n 0, 1) := by decide +kernel
theorem dX2_weighPardons_46 : decode cX2_weighPardons 46 = .ok (.getfield 9, 3) := by decide +kernel
theorem dX2_weighPardons_49 : decode cX2_weighPardons 49 = .ok (.iload_n 3, 1) := by decide +kernel
theorem dX2_weighPardons_50 : decode cX2_weighPardons 50 = .ok (.iaload, 1) := by decide +kernel
theorem dX2_weighPardons_51 : decode cX2_weighPardons 51 = .ok (.isub, 1) := by decide +kernel
theorem dX2_weighPardons_52 : decode cX2_weighPardons 52 = .ok (.aload_n 2, 1) := by decide +kernel
theorem dX2_weighPardons_53 : decode cX2_weighPardons 53 = .ok (.getfield 86, 3) := by decide +kernel
theorem dX2_weighPardons_56 : decode cX2_weighPardons 56 = .ok (.invokevirtual 89, 3) := by decide +kernel
theorem dX2_weighPardons_59 : decode cX2_weighPardons 59 = .ok (.iastore, 1) := by decide +kernel
theorem dX2_weighPardons_60 : decode cX2_weighPardons 60 = .ok (.iinc 3 1, 3) := by decide +kernel
theorem dX2_weighPardons_63 : decode cX2_weighPardons 63 = .ok (.goto (-61), 3) := by decide +kernel
theorem dX2_weighPardons_66 : decode cX2_weighPardons 66 = .ok (.return_, 1) := by decide +kernel
theorem dX2_areAfforded_0 : decode cX2_areAfforded 0 = .ok (.iconst 0, 1) := by decide +kernel
theorem dX2_areAfforded_1 : decode cX2_areAfforded 1 = .ok (.istore 4, 2) := by decide +kernel
theorem dX2_areAfforded_3 : decode cX2_areAfforded 3 = .ok (.iload 4, 2) := by decide +kernel
theorem dX2_areAfforded_5 : decode cX2_areAfforded 5 = .ok (.aload_n 1, 1) := by decide +kernel
theorem dX2_areAfforded_6 : decode cX2_areAfforded 6 = .ok (.getfield 93, 3) := by decide +kernel
theorem dX2_areAfforded_9 : decode cX2_areAfforded 9 = .ok (.if_icmp .ge 17, 3) := by decide +kernel
theorem dX2_areAfforded_12 : decode cX2_areAfforded 12 = .ok (.aload_n 0, 1) := by decide +kernel
theorem dX2_areAfforded_13 : decode cX2_areAfforded 13 = .ok (.getfield 18, 3) := by decide +kernel
theorem dX2_areAfforded_16 : decode cX2_areAfforded 16 = .ok (.iload 4, 2) := by decide +kernel
theorem dX2_areAfforded_18 : decode cX2_areAfforded 18 = .ok (.iconst 0, 1) := by decide +kernel
theorem dX2_areAfforded_19 : decode cX2_areAfforded 19 = .ok (.iastore, 1) := by decide +kernel
theorem dX2_areAfforded_20 : decode cX2_areAfforded 20 = .ok (.iinc 4 1, 3) := by decide +kernel
theorem dX2_areAfforded_23 : decode cX2_areAfforded 23 = .ok (.goto (-20), 3) := by decide +kernel
theorem dX2_areAfforded_26 : decode cX2_areAfforded 26 = .ok (.iconst 0, 1) := by decide +kernel
theorem dX2_areAfforded_27 : decode cX2_areAfforded 27 = .ok (.istore 4, 2) := by decide +kernel
theorem dX2_areAfforded_29 : decode cX2_areAfforded 29 = .ok (.iload 4, 2) := by decide +kernel
theorem dX2_areAfforded_31 : decode cX2_areAfforded 31 = .ok (.aload_n 1, 1) := by decide +kernel
theorem dX2_areAfforded_32 : decode cX2_areAfforded 32 = .ok (.getfield 40, 3) := by decide +kernel
theorem dX2_areAfforded_35 : decode cX2_areAfforded 35 = .ok (.if_icmp .ge 40, 3) := by decide +kernel
theorem dX2_areAfforded_38 : decode cX2_areAfforded 38 = .ok (.iload_n 3, 1) := by decide +kernel
theorem dX2_areAfforded_39 : decode cX2_areAfforded 39 = .ok (.iload 4, 2) := by decide +kernel
theorem dX2_areAfforded_41 : decode cX2_areAfforded 41 = .ok (.invokestatic 96, 3) := by decide +kernel
theorem dX2_areAfforded_44 : decode cX2_areAfforded 44 = .ok (.ifCond .eq 25, 3) := by decide +kernel
theorem dX2_areAfforded_47 : decode cX2_areAfforded 47 = .ok (.aload_n 0, 1) := by decide +kernel
theorem dX2_areAfforded_48 : decode cX2_areAfforded 48 = .ok (.getfield 18, 3) := by decide +kernel
theorem dX2_areAfforded_51 : decode cX2_areAfforded 51 = .ok (.aload_n 1, 1) := by decide +kernel
theorem dX2_areAfforded_52 : decode cX2_areAfforded 52 = .ok (.getfield 100, 3) := by decide +kernel
theorem dX2_areAfforded_55 : decode cX2_areAfforded 55 = .ok (.iload 4, 2) := by decide +kernel
theorem dX2_areAfforded_57 : decode cX2_areAfforded 57 = .ok (.iaload, 1) := by decide +kernel
theorem dX2_areAfforded_58 : decode cX2_areAfforded 58 = .ok (.dup2, 1) := by decide +kernel
theorem dX2_areAfforded_59 : decode cX2_areAfforded 59 = .ok (.iaload, 1) := by decide +kernel
theorem dX2_areAfforded_60 : decode cX2_areAfforded 60 = .ok (.aload_n 0, 1) := by decide +kernel
theorem dX2_areAfforded_61 : decode cX2_areAfforded 61 = .ok (.getfield 9, 3) := by decide +kernel
theorem dX2_areAfforded_64 : decode cX2_areAfforded 64 = .ok (.iload 4, 2) := by decide +kernel
theorem dX2_areAfforded_66 : decode cX2_areAfforded 66 = .ok (.iaload, 1) := by decide +kernel
theorem dX2_areAfforded_67 : decode cX2_areAfforded 67 = .ok (.iadd, 1) := by decide +kernel
theorem dX2_areAfforded_68 : decode cX2_areAfforded 68 = .ok (.iastore, 1) := by decide +kernel
theorem dX2_areAfforded_69 : decode cX2_areAfforded 69 = .ok (.iinc 4 1, 3) := by decide +kernel
theorem dX2_areAfforded_72 : decode cX2_areAfforded 72 = .ok (.goto (-43), 3) := by decide +kernel
theorem dX2_areAfforded_75 : decode cX2_areAfforded 75 = .ok (.iconst 0, 1) := by decide +kernel
theorem dX2_areAfforded_76 : decode cX2_areAfforded 76 = .ok (.istore 4, 2) := by decide +kernel
theorem dX2_areAfforded_78 : decode cX2_areAfforded 78 = .ok (.iload 4, 2) := by decide +kernel
theorem dX2_areAfforded_80 : decode cX2_areAfforded 80 = .ok (.aload_n 1, 1) := by decide +kernel
theorem dX2_areAfforded_81 : decode cX2_areAfforded 81 = .ok (.getfield 93, 3) := by decide +kernel
theorem dX2_areAfforded_84 : decode cX2_areAfforded 84 = .ok (.if_icmp .ge 28, 3) := by decide +kernel
theorem dX2_areAfforded_87 : decode cX2_areAfforded 87 = .ok (.aload_n 0, 1) := by decide +kernel
theorem dX2_areAfforded_88 : decode cX2_areAfforded 88 = .ok (.getfield 18, 3) := by decide +kernel
theorem dX2_areAfforded_91 : decode cX2_areAfforded 91 = .ok (.iload 4, 2) := by decide +kernel
theorem dX2_areAfforded_93 : decode cX2_areAfforded 93 = .ok (.iaload, 1) := by decide +kernel
theorem dX2_areAfforded_94 : decode cX2_areAfforded 94 = .ok (.aload_n 2, 1) := by decide +kernel
theorem dX2_areAfforded_95 : decode cX2_areAfforded 95 = .ok (.getfield 103, 3) := by decide +kernel
theorem dX2_areAfforded_98 : decode cX2_areAfforded 98 = .ok (.iload 4, 2) := by decide +kernel
theorem dX2_areAfforded_100 : decode cX2_areAfforded 100 = .ok (.iaload, 1) := by decide +kernel
theorem dX2_areAfforded_101 : decode cX2_areAfforded 101 = .ok (.if_icmp .le 5, 3) := by decide +kernel
theorem dX2_areAfforded_104 : decode cX2_areAfforded 104 = .ok (.iconst 0, 1) := by decide +kernel
theorem dX2_areAfforded_105 : decode cX2_areAfforded 105 = .ok (.ireturn, 1) := by decide +kernel
theorem dX2_areAfforded_106 : decode cX2_areAfforded 106 = .ok (.iinc 4 1, 3) := by decide +kernel
theorem dX2_areAfforded_109 : decode cX2_areAfforded 109 = .ok (.goto (-31), 3) := by decide +kernel
theorem dX2_areAfforded_112 : decode cX2_areAfforded 112 = .ok (.iconst 1, 1) := by decide +kernel
theorem dX2_areAfforded_113 : decode cX2_areAfforded 113 = .ok (.ireturn, 1) := by decide +kernel
theorem dX2_coinsFor_0 : decode cX2_coinsFor 0 = .ok (.iconst 0, 1) := by decide +kernel
theorem dX2_coinsFor_1 : decode cX2_coinsFor 1 = .ok (.istore_n 3, 1) := by decide +kernel
theorem dX2_coinsFor_2 : decode cX2_coinsFor 2 = .ok (.iconst 0, 1) := by decide +kernel
theorem dX2_coinsFor_3 : decode cX2_coinsFor 3 = .ok (.istore 4, 2) := by decide +kernel
theorem dX2_coinsFor_5 : decode cX2_coinsFor 5 = .ok (.iload 4, 2) := by decide +kernel
theorem dX2_coinsFor_7 : decode cX2_coinsFor 7 = .ok (.aload_n 1, 1) := by decide +kernel
theorem dX2_coinsFor_8 : decode cX2_coinsFor 8 = .ok (.getfield 40, 3) := by decide +kernel
theorem dX2_coinsFor_11 : decode cX2_coinsFor 11 = .ok (.if_icmp .ge 28, 3) := by decide +kernel
theorem dX2_coinsFor_14 : decode cX2_coinsFor 14 = .ok (.iload_n 2, 1) := by decide +kernel
theorem dX2_coinsFor_15 : decode cX2_coinsFor 15 = .ok (.iload 4, 2) := by decide +kernel
theorem dX2_coinsFor_17 : decode cX2_coinsFor 17 = .ok (.invokestatic 96, 3) := by decide +kernel
theorem dX2_coinsFor_20 : decode cX2_coinsFor 20 = .ok (.ifCond .eq 13, 3) := by decide +kernel
theorem dX2_coinsFor_23 : decode cX2_coinsFor 23 = .ok (.iload_n 3, 1) := by decide +kernel
theorem dX2_coinsFor_24 : decode cX2_coinsFor 24 = .ok (.aload_n 0, 1) := by decide +kernel
theorem dX2_coinsFor_25 : decode cX2_coinsFor 25 = .ok (.getfield 9, 3) := by decide +kernel
theorem dX2_coinsFor_28 : decode cX2_coinsFor 28 = .ok (.iload 4, 2) := by decide +kernel
theorem dX2_coinsFor_30 : decode cX2_coinsFor 30 = .ok (.iaload, 1) := by decide +kernel
theorem dX2_coinsFor_31 : decode cX2_coinsFor 31 = .ok (.iadd, 1) := by decide +kernel
theorem dX2_coinsFor_32 : decode cX2_coinsFor 32 = .ok (.istore_n 3, 1) := by decide +kernel
theorem dX2_coinsFor_33 : decode cX2_coinsFor 33 = .ok (.iinc 4 1, 3) := by decide +kernel
theorem dX2_coinsFor_36 : decode cX2_coinsFor 36 = .ok (.goto (-31), 3) := by decide +kernel
theorem dX2_coinsFor_39 : decode cX2_coinsFor 39 = .ok (.iload_n 3, 1) := by decide +kernel
theorem dX2_coinsFor_40 : decode cX2_coinsFor 40 = .ok (.ireturn, 1) := by decide +kernel
theorem dX2_burningBy_0 : decode cX2_burningBy 0 = .ok (.aload_n 2, 1) := by decide +kernel
theorem dX2_burningBy_1 : decode cX2_burningBy 1 = .ok (.iconst 0, 1) := by decide +kernel
theorem dX2_burningBy_2 : decode cX2_burningBy 2 = .ok (.invokevirtual 106, 3) := by decide +kernel
theorem dX2_burningBy_5 : decode cX2_burningBy 5 = .ok (.istore 4, 2) := by decide +kernel
theorem dX2_burningBy_7 : decode cX2_burningBy 7 = .ok (.iconst 0, 1) := by decide +kernel
theorem dX2_burningBy_8 : decode cX2_burningBy 8 = .ok (.istore 5, 2) := by decide +kernel
theorem dX2_burningBy_10 : decode cX2_burningBy 10 = .ok (.iload 5, 2) := by decide +kernel
theorem dX2_burningBy_12 : decode cX2_burningBy 12 = .ok (.aload_n 1, 1) := by decide +kernel
theorem dX2_burningBy_13 : decode cX2_burningBy 13 = .ok (.getfield 40, 3) := by decide +kernel
theorem dX2_burningBy_16 : decode cX2_burningBy 16 = .ok (.if_icmp .ge 42, 3) := by decide +kernel
theorem dX2_burningBy_19 : decode cX2_burningBy 19 = .ok (.iload_n 3, 1) := by decide +kernel
theorem dX2_burningBy_20 : decode cX2_burningBy 20 = .ok (.iload 5, 2) := by decide +kernel
theorem dX2_burningBy_22 : decode cX2_burningBy 22 = .ok (.invokestatic 96, 3) := by decide +kernel
theorem dX2_burningBy_25 : decode cX2_burningBy 25 = .ok (.ifCond .eq 27, 3) := by decide +kernel
theorem dX2_burningBy_28 : decode cX2_burningBy 28 = .ok (.aload_n 0, 1) := by decide +kernel
theorem dX2_burningBy_29 : decode cX2_burningBy 29 = .ok (.getfield 15, 3) := by decide +kernel
theorem dX2_burningBy_32 : decode cX2_burningBy 32 = .ok (.iload 5, 2) := by decide +kernel
theorem dX2_burningBy_34 : decode cX2_burningBy 34 = .ok (.iaload, 1) := by decide +kernel
theorem dX2_burningBy_35 : decode cX2_burningBy 35 = .ok (.ifCond .le 17, 3) := by decide +kernel
theorem dX2_burningBy_38 : decode cX2_burningBy 38 = .ok (.iload 4, 2) := by decide +kernel
theorem dX2_burningBy_40 : decode cX2_burningBy 40 = .ok (.iconst 1, 1) := by decide +kernel
theorem dX2_burningBy_41 : decode cX2_burningBy 41 = .ok (.aload_n 1, 1) := by decide +kernel
theorem dX2_burningBy_42 : decode cX2_burningBy 42 = .ok (.getfield 109, 3) := by decide +kernel
theorem dX2_burningBy_45 : decode cX2_burningBy 45 = .ok (.iload 5, 2) := by decide +kernel
theorem dX2_burningBy_47 : decode cX2_burningBy 47 = .ok (.iaload, 1) := by decide +kernel
theorem dX2_burningBy_48 : decode cX2_burningBy 48 = .ok (.ishl, 1) := by decide +kernel
theorem dX2_burningBy_49 : decode cX2_burningBy 49 = .ok (.ior, 1) := by decide +kernel
theorem dX2_burningBy_50 : decode cX2_burningBy 50 = .ok (.istore 4, 2) := by decide +kernel
theorem dX2_burningBy_52 : decode cX2_burningBy 52 = .ok (.iinc 5 1, 3) := by decide +kernel
theorem dX2_burningBy_55 : decode cX2_burningBy 55 = .ok (.goto (-45), 3) := by decide +kernel
theorem dX2_burningBy_58 : decode cX2_burningBy 58 = .ok (.iload 4, 2) := by decide +kernel
theorem dX2_burningBy_60 : decode cX2_burningBy 60 = .ok (.ireturn, 1) := by decide +kernel
theorem dX2_nightsLit_0 : decode cX2_nightsLit 0 = .ok (.iconst 0, 1) := by decide +kernel
theorem dX2_nightsLit_1 : decode cX2_nightsLit 1 = .ok (.istore 5, 2) := by decide +kernel
theorem dX2_nightsLit_3 : decode cX2_nightsLit 3 = .ok (.iload 5, 2) := by decide +kernel
theorem dX2_nightsLit_5 : decode cX2_nightsLit 5 = .ok (.bipush 99, 2) := by decide +kernel
theorem dX2_nightsLit_7 : decode cX2_nightsLit 7 = .ok (.if_icmp .ge 31, 3) := by decide +kernel
theorem dX2_nightsLit_10 : decode cX2_nightsLit 10 = .ok (.aload_n 1, 1) := by decide +kernel
theorem dX2_nightsLit_11 : decode cX2_nightsLit 11 = .ok (.getfield 59, 3) := by decide +kernel
theorem dX2_nightsLit_14 : decode cX2_nightsLit 14 = .ok (.aload_n 2, 1) := by decide +kernel
theorem dX2_nightsLit_15 : decode cX2_nightsLit 15 = .ok (.iload 5, 2) := by decide +kernel
theorem dX2_nightsLit_17 : decode cX2_nightsLit 17 = .ok (.invokevirtual 106, 3) := by decide +kernel
theorem dX2_nightsLit_20 : decode cX2_nightsLit 20 = .ok (.iload_n 3, 1) := by decide +kernel
theorem dX2_nightsLit_21 : decode cX2_nightsLit 21 = .ok (.iload 4, 2) := by decide +kernel
theorem dX2_nightsLit_23 : decode cX2_nightsLit 23 = .ok (.invokevirtual 67, 3) := by decide +kernel
theorem dX2_nightsLit_26 : decode cX2_nightsLit 26 = .ok (.ifCond .ne 6, 3) := by decide +kernel
theorem dX2_nightsLit_29 : decode cX2_nightsLit 29 = .ok (.iload 5, 2) := by decide +kernel
theorem dX2_nightsLit_31 : decode cX2_nightsLit 31 = .ok (.ireturn, 1) := by decide +kernel
theorem dX2_nightsLit_32 : decode cX2_nightsLit 32 = .ok (.iinc 5 1, 3) := by decide +kernel
theorem dX2_nightsLit_35 : decode cX2_nightsLit 35 = .ok (.goto (-32), 3) := by decide +kernel
theorem dX2_nightsLit_38 : decode cX2_nightsLit 38 = .ok (.bipush 99, 2) := by decide +kernel
theorem dX2_nightsLit_40 : decode cX2_nightsLit 40 = .ok (.ireturn, 1) := by decide +kernel
theorem dX2_chanceInWind_0 : decode cX2_chanceInWind 0 = .ok (.aload_n 2, 1) := by decide +kernel
theorem dX2_chanceInWind_1 : decode cX2_chanceInWind 1 = .ok (.iconst 0, 1) := by decide +kernel
theorem dX2_chanceInWind_2 : decode cX2_chanceInWind 2 = .ok (.invokevirtual 106, 3) := by decide +kernel
theorem dX2_chanceInWind_5 : decode cX2_chanceInWind 5 = .ok (.istore 5, 2) := by decide +kernel
theorem dX2_chanceInWind_7 : decode cX2_chanceInWind 7 = .ok (.iconst 0, 1) := by decide +kernel
theorem dX2_chanceInWind_8 : decode cX2_chanceInWind 8 = .ok (.istore 6, 2) := by decide +kernel
theorem dX2_chanceInWind_10 : decode cX2_chanceInWind 10 = .ok (.iconst 0, 1) := by decide +kernel
theorem dX2_chanceInWind_11 : decode cX2_chanceInWind 11 = .ok (.istore 7, 2) := by decide +kernel
theorem dX2_chanceInWind_13 : decode cX2_chanceInWind 13 = .ok (.iload 7, 2) := by decide +kernel
theorem dX2_chanceInWind_15 : decode cX2_chanceInWind 15 = .ok (.bipush 64, 2) := by decide +kernel
theorem dX2_chanceInWind_17 : decode cX2_chanceInWind 17 = .ok (.if_icmp .ge 50, 3) := by decide +kernel
theorem dX2_chanceInWind_20 : decode cX2_chanceInWind 20 = .ok (.iload 7, 2) := by decide +kernel
theorem dX2_chanceInWind_22 : decode cX2_chanceInWind 22 = .ok (.iload 5, 2) := by decide +kernel
theorem dX2_chanceInWind_24 : decode cX2_chanceInWind 24 = .ok (.invokestatic 112, 3) := by decide +kernel
theorem dX2_chanceInWind_27 : decode cX2_chanceInWind 27 = .ok (.ifCond .eq 34, 3) := by decide +kernel
theorem dX2_chanceInWind_30 : decode cX2_chanceInWind 30 = .ok (.aload_n 1, 1) := by decide +kernel
theorem dX2_chanceInWind_31 : decode cX2_chanceInWind 31 = .ok (.getfield 59, 3) := by decide +kernel
theorem dX2_chanceInWind_34 : decode cX2_chanceInWind 34 = .ok (.iload 7, 2) := by decide +kernel
theorem dX2_chanceInWind_36 : decode cX2_chanceInWind 36 = .ok (.iload_n 3, 1) := by decide +kernel
theorem dX2_chanceInWind_37 : decode cX2_chanceInWind 37 = .ok (.iload 4, 2) := by decide +kernel
theorem dX2_chanceInWind_39 : decode cX2_chanceInWind 39 = .ok (.invokevirtual 67, 3) := by decide +kernel
theorem dX2_chanceInWind_42 : decode cX2_chanceInWind 42 = .ok (.ifCond .eq 19, 3) := by decide +kernel
theorem dX2_chanceInWind_45 : decode cX2_chanceInWind 45 = .ok (.iload 6, 2) := by decide +kernel
theorem dX2_chanceInWind_47 : decode cX2_chanceInWind 47 = .ok (.aload_n 1, 1) := by decide +kernel
theorem dX2_chanceInWind_48 : decode cX2_chanceInWind 48 = .ok (.getfield 115, 3) := by decide +kernel
theorem dX2_chanceInWind_51 : decode cX2_chanceInWind 51 = .ok (.iload 5, 2) := by decide +kernel
theorem dX2_chanceInWind_53 : decode cX2_chanceInWind 53 = .ok (.iload 7, 2) := by decide +kernel
theorem dX2_chanceInWind_55 : decode cX2_chanceInWind 55 = .ok (.invokestatic 118, 3) := by decide +kernel
theorem dX2_chanceInWind_58 : decode cX2_chanceInWind 58 = .ok (.iadd, 1) := by decide +kernel
theorem dX2_chanceInWind_59 : decode cX2_chanceInWind 59 = .ok (.istore 6, 2) := by decide +kernel
theorem dX2_chanceInWind_61 : decode cX2_chanceInWind 61 = .ok (.iinc 7 1, 3) := by decide +kernel
theorem dX2_chanceInWind_64 : decode cX2_chanceInWind 64 = .ok (.goto (-51), 3) := by decide +kernel
theorem dX2_chanceInWind_67 : decode cX2_chanceInWind 67 = .ok (.iload 6, 2) := by decide +kernel
theorem dX2_chanceInWind_69 : decode cX2_chanceInWind 69 = .ok (.ireturn, 1) := by decide +kernel
theorem dX2_chanceOf_0 : decode cX2_chanceOf 0 = .ok (.iconst 1, 1) := by decide +kernel
theorem dX2_chanceOf_1 : decode cX2_chanceOf 1 = .ok (.istore_n 3, 1) := by decide +kernel
theorem dX2_chanceOf_2 : decode cX2_chanceOf 2 = .ok (.iconst 0, 1) := by decide +kernel
theorem dX2_chanceOf_3 : decode cX2_chanceOf 3 = .ok (.istore 4, 2) := by decide +kernel
theorem dX2_chanceOf_5 : decode cX2_chanceOf 5 = .ok (.iload 4, 2) := by decide +kernel
theorem dX2_chanceOf_7 : decode cX2_chanceOf 7 = .ok (.bipush 6, 2) := by decide +kernel
theorem dX2_chanceOf_9 : decode cX2_chanceOf 9 = .ok (.if_icmp .ge 46, 3) := by decide +kernel
theorem dX2_chanceOf_12 : decode cX2_chanceOf 12 = .ok (.iload_n 1, 1) := by decide +kernel
theorem dX2_chanceOf_13 : decode cX2_chanceOf 13 = .ok (.iload 4, 2) := by decide +kernel
theorem dX2_chanceOf_15 : decode cX2_chanceOf 15 = .ok (.invokestatic 96, 3) := by decide +kernel
theorem dX2_chanceOf_18 : decode cX2_chanceOf 18 = .ok (.ifCond .ne 11, 3) := by decide +kernel
theorem dX2_chanceOf_21 : decode cX2_chanceOf 21 = .ok (.iload_n 3, 1) := by decide +kernel
theorem dX2_chanceOf_22 : decode cX2_chanceOf 22 = .ok (.bipush 10, 2) := by decide +kernel
theorem dX2_chanceOf_24 : decode cX2_chanceOf 24 = .ok (.imul, 1) := by decide +kernel
theorem dX2_chanceOf_25 : decode cX2_chanceOf 25 = .ok (.istore_n 3, 1) := by decide +kernel
theorem dX2_chanceOf_26 : decode cX2_chanceOf 26 = .ok (.goto 23, 3) := by decide +kernel
theorem dX2_chanceOf_29 : decode cX2_chanceOf 29 = .ok (.iload_n 3, 1) := by decide +kernel
theorem dX2_chanceOf_30 : decode cX2_chanceOf 30 = .ok (.iload_n 2, 1) := by decide +kernel
theorem dX2_chanceOf_31 : decode cX2_chanceOf 31 = .ok (.iload 4, 2) := by decide +kernel
theorem dX2_chanceOf_33 : decode cX2_chanceOf 33 = .ok (.invokestatic 96, 3) := by decide +kernel
theorem dX2_chanceOf_36 : decode cX2_chanceOf 36 = .ok (.ifCond .eq 10, 3) := by decide +kernel
theorem dX2_chanceOf_39 : decode cX2_chanceOf 39 = .ok (.bipush 10, 2) := by decide +kernel
theorem dX2_chanceOf_41 : decode cX2_chanceOf 41 = .ok (.iload_n 0, 1) := by decide +kernel
theorem dX2_chanceOf_42 : decode cX2_chanceOf 42 = .ok (.isub, 1) := by decide +kernel
theorem dX2_chanceOf_43 : decode cX2_chanceOf 43 = .ok (.goto 4, 3) := by decide +kernel
theorem dX2_chanceOf_46 : decode cX2_chanceOf 46 = .ok (.iload_n 0, 1) := by decide +kernel
theorem dX2_chanceOf_47 : decode cX2_chanceOf 47 = .ok (.imul, 1) := by decide +kernel
theorem dX2_chanceOf_48 : decode cX2_chanceOf 48 = .ok (.istore_n 3, 1) := by decide +kernel
theorem dX2_chanceOf_49 : decode cX2_chanceOf 49 = .ok (.iinc 4 1, 3) := by decide +kernel
theorem dX2_chanceOf_52 : decode cX2_chanceOf 52 = .ok (.goto (-47), 3) := by decide +kernel
theorem dX2_chanceOf_55 : decode cX2_chanceOf 55 = .ok (.iload_n 3, 1) := by decide +kernel
theorem dX2_chanceOf_56 : decode cX2_chanceOf 56 = .ok (.ireturn, 1) := by decide +kernel
theorem dX2_leastCircle_0 : decode cX2_leastCircle 0 = .ok (.iconst (-1), 1) := by decide +kernel
theorem dX2_leastCircle_1 : decode cX2_leastCircle 1 = .ok (.istore_n 3, 1) := by decide +kernel
theorem dX2_leastCircle_2 : decode cX2_leastCircle 2 = .ok (.iconst 1, 1) := by decide +kernel
theorem dX2_leastCircle_3 : decode cX2_leastCircle 3 = .ok (.istore 4, 2) := by decide +kernel
theorem dX2_leastCircle_5 : decode cX2_leastCircle 5 = .ok (.iload 4, 2) := by decide +kernel
theorem dX2_leastCircle_7 : decode cX2_leastCircle 7 = .ok (.iconst 1, 1) := by decide +kernel
theorem dX2_leastCircle_8 : decode cX2_leastCircle 8 = .ok (.aload_n 1, 1) := by decide +kernel
theorem dX2_leastCircle_9 : decode cX2_leastCircle 9 = .ok (.getfield 40, 3) := by decide +kernel
theorem dX2_leastCircle_12 : decode cX2_leastCircle 12 = .ok (.ishl, 1) := by decide +kernel
theorem dX2_leastCircle_13 : decode cX2_leastCircle 13 = .ok (.if_icmp .ge 48, 3) := by decide +kernel
theorem dX2_leastCircle_16 : decode cX2_leastCircle 16 = .ok (.iload 4, 2) := by decide +kernel
theorem dX2_leastCircle_18 : decode cX2_leastCircle 18 = .ok (.aload_n 2, 1) := by decide +kernel
theorem dX2_leastCircle_19 : decode cX2_leastCircle 19 = .ok (.getfield 46, 3) := by decide +kernel
theorem dX2_leastCircle_22 : decode cX2_leastCircle 22 = .ok (.iand, 1) := by decide +kernel
theorem dX2_leastCircle_23 : decode cX2_leastCircle 23 = .ok (.ifCond .ne 32, 3) := by decide +kernel
theorem dX2_leastCircle_26 : decode cX2_leastCircle 26 = .ok (.iload_n 3, 1) := by decide +kernel
theorem dX2_leastCircle_27 : decode cX2_leastCircle 27 = .ok (.iconst (-1), 1) := by decide +kernel
theorem dX2_leastCircle_28 : decode cX2_leastCircle 28 = .ok (.if_icmp .eq 15, 3) := by decide +kernel
theorem dX2_leastCircle_31 : decode cX2_leastCircle 31 = .ok (.iload 4, 2) := by decide +kernel
theorem dX2_leastCircle_33 : decode cX2_leastCircle 33 = .ok (.invokestatic 121, 3) := by decide +kernel
theorem dX2_leastCircle_36 : decode cX2_leastCircle 36 = .ok (.iload_n 3, 1) := by decide +kernel
theorem dX2_leastCircle_37 : decode cX2_leastCircle 37 = .ok (.invokestatic 121, 3) := by decide +kernel
theorem dX2_leastCircle_40 : decode cX2_leastCircle 40 = .ok (.if_icmp .ge 15, 3) := by decide +kernel
theorem dX2_leastCircle_43 : decode cX2_leastCircle 43 = .ok (.aload_n 1, 1) := by decide +kernel
theorem dX2_leastCircle_44 : decode cX2_leastCircle 44 = .ok (.iload 4, 2) := by decide +kernel
theorem dX2_leastCircle_46 : decode cX2_leastCircle 46 = .ok (.invokestatic 126, 3) := by decide +kernel
theorem dX2_leastCircle_49 : decode cX2_leastCircle 49 = .ok (.ifCond .eq 6, 3) := by decide +kernel
theorem dX2_leastCircle_52 : decode cX2_leastCircle 52 = .ok (.iload 4, 2) := by decide +kernel
theorem dX2_leastCircle_54 : decode cX2_leastCircle 54 = .ok (.istore_n 3, 1) := by decide +kernel
theorem dX2_leastCircle_55 : decode cX2_leastCircle 55 = .ok (.iinc 4 1, 3) := by decide +kernel
theorem dX2_leastCircle_58 : decode cX2_leastCircle 58 = .ok (.goto (-53), 3) := by decide +kernel
theorem dX2_leastCircle_61 : decode cX2_leastCircle 61 = .ok (.iload_n 3, 1) := by decide +kernel
theorem dX2_leastCircle_62 : decode cX2_leastCircle 62 = .ok (.ireturn, 1) := by decide +kernel
theorem dX2_goesRound_0 : decode cX2_goesRound 0 = .ok (.iconst (-1), 1) := by decide +kernel
theorem dX2_goesRound_1 : decode cX2_goesRound 1 = .ok (.istore_n 2, 1) := by decide +kernel
theorem dX2_goesRound_2 : decode cX2_goesRound 2 = .ok (.iconst (-1), 1) := by decide +kernel
theorem dX2_goesRound_3 : decode cX2_goesRound 3 = .ok (.istore_n 3, 1) := by decide +kernel
theorem dX2_goesRound_4 : decode cX2_goesRound 4 = .ok (.iload_n 1, 1) := by decide +kernel
theorem dX2_goesRound_5 : decode cX2_goesRound 5 = .ok (.istore 4, 2) := by decide +kernel
theorem dX2_goesRound_7 : decode cX2_goesRound 7 = .ok (.iconst 0, 1) := by decide +kernel
theorem dX2_goesRound_8 : decode cX2_goesRound 8 = .ok (.istore 5, 2) := by decide +kernel
theorem dX2_goesRound_10 : decode cX2_goesRound 10 = .ok (.iload 5, 2) := by decide +kernel
theorem dX2_goesRound_12 : decode cX2_goesRound 12 = .ok (.bipush 8, 2) := by decide +kernel
theorem dX2_goesRound_14 : decode cX2_goesRound 14 = .ok (.if_icmp .ge 63, 3) := by decide +kernel
theorem dX2_goesRound_17 : decode cX2_goesRound 17 = .ok (.iload 4, 2) := by decide +kernel
theorem dX2_goesRound_19 : decode cX2_goesRound 19 = .ok (.ifCond .eq 58, 3) := by decide +kernel
theorem dX2_goesRound_22 : decode cX2_goesRound 22 = .ok (.aload_n 0, 1) := by decide +kernel
theorem dX2_goesRound_23 : decode cX2_goesRound 23 = .ok (.iload 4, 2) := by decide +kernel
theorem dX2_goesRound_25 : decode cX2_goesRound 25 = .ok (.iload_n 3, 1) := by decide +kernel
theorem dX2_goesRound_26 : decode cX2_goesRound 26 = .ok (.invokestatic 130, 3) := by decide +kernel
theorem dX2_goesRound_29 : decode cX2_goesRound 29 = .ok (.istore 6, 2) := by decide +kernel
theorem dX2_goesRound_31 : decode cX2_goesRound 31 = .ok (.iload 6, 2) := by decide +kernel
theorem dX2_goesRound_33 : decode cX2_goesRound 33 = .ok (.iconst (-1), 1) := by decide +kernel
theorem dX2_goesRound_34 : decode cX2_goesRound 34 = .ok (.if_icmp .ne 5, 3) := by decide +kernel
theorem dX2_goesRound_37 : decode cX2_goesRound 37 = .ok (.iconst 0, 1) := by decide +kernel
theorem dX2_goesRound_38 : decode cX2_goesRound 38 = .ok (.ireturn, 1) := by decide +kernel
theorem dX2_goesRound_39 : decode cX2_goesRound 39 = .ok (.iload_n 2, 1) := by decide +kernel
theorem dX2_goesRound_40 : decode cX2_goesRound 40 = .ok (.iconst (-1), 1) := by decide +kernel
theorem dX2_goesRound_41 : decode cX2_goesRound 41 = .ok (.if_icmp .ne 11, 3) := by decide +kernel
theorem dX2_goesRound_44 : decode cX2_goesRound 44 = .ok (.aload_n 0, 1) := by decide +kernel
theorem dX2_goesRound_45 : decode cX2_goesRound 45 = .ok (.getfield 100, 3) := by decide +kernel
theorem dX2_goesRound_48 : decode cX2_goesRound 48 = .ok (.iload 6, 2) := by decide +kernel
theorem dX2_goesRound_50 : decode cX2_goesRound 50 = .ok (.iaload, 1) := by decide +kernel
theorem dX2_goesRound_51 : decode cX2_goesRound 51 = .ok (.istore_n 2, 1) := by decide +kernel
theorem dX2_goesRound_52 : decode cX2_goesRound 52 = .ok (.aload_n 0, 1) := by decide +kernel
theorem dX2_goesRound_53 : decode cX2_goesRound 53 = .ok (.getfield 109, 3) := by decide +kernel
theorem dX2_goesRound_56 : decode cX2_goesRound 56 = .ok (.iload 6, 2) := by decide +kernel
theorem dX2_goesRound_58 : decode cX2_goesRound 58 = .ok (.iaload, 1) := by decide +kernel
theorem dX2_goesRound_59 : decode cX2_goesRound 59 = .ok (.istore_n 3, 1) := by decide +kernel
theorem dX2_goesRound_60 : decode cX2_goesRound 60 = .ok (.iload 4, 2) := by decide +kernel
theorem dX2_goesRound_62 : decode cX2_goesRound 62 = .ok (.iconst 1, 1) := by decide +kernel
theorem dX2_goesRound_63 : decode cX2_goesRound 63 = .ok (.iload 6, 2) := by decide +kernel
theorem dX2_goesRound_65 : decode cX2_goesRound 65 = .ok (.ishl, 1) := by decide +kernel
theorem dX2_goesRound_66 : decode cX2_goesRound 66 = .ok (.iconst (-1), 1) := by decide +kernel
theorem dX2_goesRound_67 : decode cX2_goesRound 67 = .ok (.ixor, 1) := by decide +kernel
theorem dX2_goesRound_68 : decode cX2_goesRound 68 = .ok (.iand, 1) := by decide +kernel
theorem dX2_goesRound_69 : decode cX2_goesRound 69 = .ok (.istore 4, 2) := by decide +kernel
theorem dX2_goesRound_71 : decode cX2_goesRound 71 = .ok (.iinc 5 1, 3) := by decide +kernel
theorem dX2_goesRound_74 : decode cX2_goesRound 74 = .ok (.goto (-64), 3) := by decide +kernel
theorem dX2_goesRound_77 : decode cX2_goesRound 77 = .ok (.iload 4, 2) := by decide +kernel
theorem dX2_goesRound_79 : decode cX2_goesRound 79 = .ok (.ifCond .ne 12, 3) := by decide +kernel
theorem dX2_goesRound_82 : decode cX2_goesRound 82 = .ok (.iload_n 3, 1) := by decide +kernel
theorem dX2_goesRound_83 : decode cX2_goesRound 83 = .ok (.iload_n 2, 1) := by decide +kernel
theorem dX2_goesRound_84 : decode cX2_goesRound 84 = .ok (.if_icmp .ne 7, 3) := by decide +kernel
theorem dX2_goesRound_87 : decode cX2_goesRound 87 = .ok (.iconst 1, 1) := by decide +kernel
theorem dX2_goesRound_88 : decode cX2_goesRound 88 = .ok (.goto 4, 3) := by decide +kernel
theorem dX2_goesRound_91 : decode cX2_goesRound 91 = .ok (.iconst 0, 1) := by decide +kernel
theorem dX2_goesRound_92 : decode cX2_goesRound 92 = .ok (.ireturn, 1) := by decide +kernel
theorem dX2_firstBy_0 : decode cX2_firstBy 0 = .ok (.iconst 0, 1) := by decide +kernel
theorem dX2_firstBy_1 : decode cX2_firstBy 1 = .ok (.istore_n 3, 1) := by decide +kernel
theorem dX2_firstBy_2 : decode cX2_firstBy 2 = .ok (.iload_n 3, 1) := by decide +kernel
theorem dX2_firstBy_3 : decode cX2_firstBy 3 = .ok (.aload_n 0, 1) := by decide +kernel
theorem dX2_firstBy_4 : decode cX2_firstBy 4 = .ok (.getfield 40, 3) := by decide +kernel
theorem dX2_firstBy_7 : decode cX2_firstBy 7 = .ok (.if_icmp .ge 34, 3) := by decide +kernel
theorem dX2_firstBy_10 : decode cX2_firstBy 10 = .ok (.iload_n 1, 1) := by decide +kernel
theorem dX2_firstBy_11 : decode cX2_firstBy 11 = .ok (.iload_n 3, 1) := by decide +kernel
theorem dX2_firstBy_12 : decode cX2_firstBy 12 = .ok (.invokestatic 96, 3) := by decide +kernel
theorem dX2_firstBy_15 : decode cX2_firstBy 15 = .ok (.ifCond .eq 20, 3) := by decide +kernel
theorem dX2_firstBy_18 : decode cX2_firstBy 18 = .ok (.iload_n 2, 1) := by decide +kernel
theorem dX2_firstBy_19 : decode cX2_firstBy 19 = .ok (.iconst (-1), 1) := by decide +kernel
theorem dX2_firstBy_20 : decode cX2_firstBy 20 = .ok (.if_icmp .eq 13, 3) := by decide +kernel
theorem dX2_firstBy_23 : decode cX2_firstBy 23 = .ok (.aload_n 0, 1) := by decide +kernel
theorem dX2_firstBy_24 : decode cX2_firstBy 24 = .ok (.getfield 100, 3) := by decide +kernel
theorem dX2_firstBy_27 : decode cX2_firstBy 27 = .ok (.iload_n 3, 1) := by decide +kernel
theorem dX2_firstBy_28 : decode cX2_firstBy 28 = .ok (.iaload, 1) := by decide +kernel
theorem dX2_firstBy_29 : decode cX2_firstBy 29 = .ok (.iload_n 2, 1) := by decide +kernel
theorem dX2_firstBy_30 : decode cX2_firstBy 30 = .ok (.if_icmp .ne 5, 3) := by decide +kernel
theorem dX2_firstBy_33 : decode cX2_firstBy 33 = .ok (.iload_n 3, 1) := by decide +kernel
theorem dX2_firstBy_34 : decode cX2_firstBy 34 = .ok (.ireturn, 1) := by decide +kernel
theorem dX2_firstBy_35 : decode cX2_firstBy 35 = .ok (.iinc 3 1, 3) := by decide +kernel
theorem dX2_firstBy_38 : decode cX2_firstBy 38 = .ok (.goto (-36), 3) := by decide +kernel
theorem dX2_firstBy_41 : decode cX2_firstBy 41 = .ok (.iconst (-1), 1) := by decide +kernel
theorem dX2_firstBy_42 : decode cX2_firstBy 42 = .ok (.ireturn, 1) := by decide +kernel
theorem dX2_bestRound_0 : decode cX2_bestRound 0 = .ok (.aload_n 0, 1) := by decide +kernel
theorem dX2_bestRound_1 : decode cX2_bestRound 1 = .ok (.aload_n 1, 1) := by decide +kernel
theorem dX2_bestRound_2 : decode cX2_bestRound 2 = .ok (.aload_n 2, 1) := by decide +kernel
theorem dX2_bestRound_3 : decode cX2_bestRound 3 = .ok (.invokevirtual 134, 3) := by decide +kernel
theorem dX2_bestRound_6 : decode cX2_bestRound 6 = .ok (.aload_n 0, 1) := by decide +kernel
theorem dX2_bestRound_7 : decode cX2_bestRound 7 = .ok (.aload_n 1, 1) := by decide +kernel
theorem dX2_bestRound_8 : decode cX2_bestRound 8 = .ok (.iload_n 3, 1) := by decide +kernel
theorem dX2_bestRound_9 : decode cX2_bestRound 9 = .ok (.iload 4, 2) := by decide +kernel
theorem dX2_bestRound_11 : decode cX2_bestRound 11 = .ok (.invokevirtual 137, 3) := by decide +kernel
theorem dX2_bestRound_14 : decode cX2_bestRound 14 = .ok (.aload_n 0, 1) := by decide +kernel
theorem dX2_bestRound_15 : decode cX2_bestRound 15 = .ok (.getfield 33, 3) := by decide +kernel
theorem dX2_bestRound_18 : decode cX2_bestRound 18 = .ok (.iconst 0, 1) := by decide +kernel
theorem dX2_bestRound_19 : decode cX2_bestRound 19 = .ok (.iconst (-1), 1) := by decide +kernel
theorem dX2_bestRound_20 : decode cX2_bestRound 20 = .ok (.iastore, 1) := by decide +kernel
theorem dX2_bestRound_21 : decode cX2_bestRound 21 = .ok (.iconst 0, 1) := by decide +kernel
theorem dX2_bestRound_22 : decode cX2_bestRound 22 = .ok (.istore 6, 2) := by decide +kernel
theorem dX2_bestRound_24 : decode cX2_bestRound 24 = .ok (.iload 6, 2) := by decide +kernel
theorem dX2_bestRound_26 : decode cX2_bestRound 26 = .ok (.bipush 64, 2) := by decide +kernel
theorem dX2_bestRound_28 : decode cX2_bestRound 28 = .ok (.if_icmp .ge 89, 3) := by decide +kernel
theorem dX2_bestRound_31 : decode cX2_bestRound 31 = .ok (.aload_n 0, 1) := by decide +kernel
theorem dX2_bestRound_32 : decode cX2_bestRound 32 = .ok (.iload 6, 2) := by decide +kernel
theorem dX2_bestRound_34 : decode cX2_bestRound 34 = .ok (.invokevirtual 141, 3) := by decide +kernel
theorem dX2_bestRound_37 : decode cX2_bestRound 37 = .ok (.istore 7, 2) := by decide +kernel
theorem dX2_bestRound_39 : decode cX2_bestRound 39 = .ok (.aload_n 0, 1) := by decide +kernel
theorem dX2_bestRound_40 : decode cX2_bestRound 40 = .ok (.iload 6, 2) := by decide +kernel
theorem dX2_bestRound_42 : decode cX2_bestRound 42 = .ok (.invokevirtual 144, 3) := by decide +kernel
theorem dX2_bestRound_45 : decode cX2_bestRound 45 = .ok (.istore 8, 2) := by decide +kernel
theorem dX2_bestRound_47 : decode cX2_bestRound 47 = .ok (.iload 7, 2) := by decide +kernel
theorem dX2_bestRound_49 : decode cX2_bestRound 49 = .ok (.ldc 147, 2) := by decide +kernel
theorem dX2_bestRound_51 : decode cX2_bestRound 51 = .ok (.if_icmp .ge 60, 3) := by decide +kernel
theorem dX2_bestRound_54 : decode cX2_bestRound 54 = .ok (.iload 8, 2) := by decide +kernel
theorem dX2_bestRound_56 : decode cX2_bestRound 56 = .ok (.aload_n 0, 1) := by decide +kernel
theorem dX2_bestRound_57 : decode cX2_bestRound 57 = .ok (.getfield 33, 3) := by decide +kernel
theorem dX2_bestRound_60 : decode cX2_bestRound 60 = .ok (.iconst 0, 1) := by decide +kernel
theorem dX2_bestRound_61 : decode cX2_bestRound 61 = .ok (.iaload, 1) := by decide +kernel
theorem dX2_bestRound_62 : decode cX2_bestRound 62 = .ok (.if_icmp .gt 25, 3) := by decide +kernel
theorem dX2_bestRound_65 : decode cX2_bestRound 65 = .ok (.iload 8, 2) := by decide +kernel
theorem dX2_bestRound_67 : decode cX2_bestRound 67 = .ok (.aload_n 0, 1) := by decide +kernel
theorem dX2_bestRound_68 : decode cX2_bestRound 68 = .ok (.getfield 33, 3) := by decide +kernel
theorem dX2_bestRound_71 : decode cX2_bestRound 71 = .ok (.iconst 0, 1) := by decide +kernel
theorem dX2_bestRound_72 : decode cX2_bestRound 72 = .ok (.iaload, 1) := by decide +kernel
theorem dX2_bestRound_73 : decode cX2_bestRound 73 = .ok (.if_icmp .ne 38, 3) := by decide +kernel
theorem dX2_bestRound_76 : decode cX2_bestRound 76 = .ok (.iload 7, 2) := by decide +kernel
theorem dX2_bestRound_78 : decode cX2_bestRound 78 = .ok (.aload_n 0, 1) := by decide +kernel
theorem dX2_bestRound_79 : decode cX2_bestRound 79 = .ok (.getfield 33, 3) := by decide +kernel
theorem dX2_bestRound_82 : decode cX2_bestRound 82 = .ok (.iconst 1, 1) := by decide +kernel
theorem dX2_bestRound_83 : decode cX2_bestRound 83 = .ok (.iaload, 1) := by decide +kernel
theorem dX2_bestRound_84 : decode cX2_bestRound 84 = .ok (.if_icmp .ge 27, 3) := by decide +kernel
theorem dX2_bestRound_87 : decode cX2_bestRound 87 = .ok (.aload_n 0, 1) := by decide +kernel
theorem dX2_bestRound_88 : decode cX2_bestRound 88 = .ok (.getfield 33, 3) := by decide +kernel
theorem dX2_bestRound_91 : decode cX2_bestRound 91 = .ok (.iconst 0, 1) := by decide +kernel
theorem dX2_bestRound_92 : decode cX2_bestRound 92 = .ok (.iload 8, 2) := by decide +kernel
theorem dX2_bestRound_94 : decode cX2_bestRound 94 = .ok (.iastore, 1) := by decide +kernel
theorem dX2_bestRound_95 : decode cX2_bestRound 95 = .ok (.aload_n 0, 1) := by decide +kernel
theorem dX2_bestRound_96 : decode cX2_bestRound 96 = .ok (.getfield 33, 3) := by decide +kernel
theorem dX2_bestRound_99 : decode cX2_bestRound 99 = .ok (.iconst 1, 1) := by decide +kernel
theorem dX2_bestRound_100 : decode cX2_bestRound 100 = .ok (.iload 7, 2) := by decide +kernel
theorem dX2_bestRound_102 : decode cX2_bestRound 102 = .ok (.iastore, 1) := by decide +kernel
theorem dX2_bestRound_103 : decode cX2_bestRound 103 = .ok (.aload_n 0, 1) := by decide +kernel
theorem dX2_bestRound_104 : decode cX2_bestRound 104 = .ok (.getfield 33, 3) := by decide +kernel
theorem dX2_bestRound_107 : decode cX2_bestRound 107 = .ok (.iconst 2, 1) := by decide +kernel
theorem dX2_bestRound_108 : decode cX2_bestRound 108 = .ok (.iload 6, 2) := by decide +kernel
theorem dX2_bestRound_110 : decode cX2_bestRound 110 = .ok (.iastore, 1) := by decide +kernel
theorem dX2_bestRound_111 : decode cX2_bestRound 111 = .ok (.iinc 6 1, 3) := by decide +kernel
theorem dX2_bestRound_114 : decode cX2_bestRound 114 = .ok (.goto (-90), 3) := by decide +kernel
theorem dX2_bestRound_117 : decode cX2_bestRound 117 = .ok (.aload_n 0, 1) := by decide +kernel
theorem dX2_bestRound_118 : decode cX2_bestRound 118 = .ok (.getfield 33, 3) := by decide +kernel
theorem dX2_bestRound_121 : decode cX2_bestRound 121 = .ok (.iload 5, 2) := by decide +kernel
theorem dX2_bestRound_123 : decode cX2_bestRound 123 = .ok (.iaload, 1) := by decide +kernel
theorem dX2_bestRound_124 : decode cX2_bestRound 124 = .ok (.ireturn, 1) := by decide +kernel
theorem dX2_countRipe_0 : decode cX2_countRipe 0 = .ok (.iconst 0, 1) := by decide +kernel
theorem dX2_countRipe_1 : decode cX2_countRipe 1 = .ok (.istore_n 3, 1) := by decide +kernel
theorem dX2_countRipe_2 : decode cX2_countRipe 2 = .ok (.iload_n 3, 1) := by decide +kernel
theorem dX2_countRipe_3 : decode cX2_countRipe 3 = .ok (.bipush 6, 2) := by decide +kernel
theorem dX2_countRipe_5 : decode cX2_countRipe 5 = .ok (.if_icmp .ge 16, 3) := by decide +kernel
theorem dX2_countRipe_8 : decode cX2_countRipe 8 = .ok (.aload_n 0, 1) := by decide +kernel
theorem dX2_countRipe_9 : decode cX2_countRipe 9 = .ok (.getfield 24, 3) := by decide +kernel
theorem dX2_countRipe_12 : decode cX2_countRipe 12 = .ok (.iload_n 3, 1) := by decide +kernel
theorem dX2_countRipe_13 : decode cX2_countRipe 13 = .ok (.iconst 0, 1) := by decide +kernel
theorem dX2_countRipe_14 : decode cX2_countRipe 14 = .ok (.iastore, 1) := by decide +kernel
theorem dX2_countRipe_15 : decode cX2_countRipe 15 = .ok (.iinc 3 1, 3) := by decide +kernel
theorem dX2_countRipe_18 : decode cX2_countRipe 18 = .ok (.goto (-16), 3) := by decide +kernel
theorem dX2_countRipe_21 : decode cX2_countRipe 21 = .ok (.iconst 0, 1) := by decide +kernel
theorem dX2_countRipe_22 : decode cX2_countRipe 22 = .ok (.istore_n 3, 1) := by decide +kernel
theorem dX2_countRipe_23 : decode cX2_countRipe 23 = .ok (.iload_n 3, 1) := by decide +kernel
theorem dX2_countRipe_24 : decode cX2_countRipe 24 = .ok (.aload_n 1, 1) := by decide +kernel
theorem dX2_countRipe_25 : decode cX2_countRipe 25 = .ok (.getfield 40, 3) := by decide +kernel
theorem dX2_countRipe_28 : decode cX2_countRipe 28 = .ok (.if_icmp .ge 33, 3) := by decide +kernel
theorem dX2_countRipe_31 : decode cX2_countRipe 31 = .ok (.aload_n 2, 1) := by decide +kernel
theorem dX2_countRipe_32 : decode cX2_countRipe 32 = .ok (.aload_n 1, 1) := by decide +kernel
theorem dX2_countRipe_33 : decode cX2_countRipe 33 = .ok (.iload_n 3, 1) := by decide +kernel
theorem dX2_countRipe_34 : decode cX2_countRipe 34 = .ok (.invokevirtual 148, 3) := by decide +kernel
theorem dX2_countRipe_37 : decode cX2_countRipe 37 = .ok (.ifCond .eq 18, 3) := by decide +kernel
theorem dX2_countRipe_40 : decode cX2_countRipe 40 = .ok (.aload_n 0, 1) := by decide +kernel
theorem dX2_countRipe_41 : decode cX2_countRipe 41 = .ok (.getfield 24, 3) := by decide +kernel
theorem dX2_countRipe_44 : decode cX2_countRipe 44 = .ok (.aload_n 1, 1) := by decide +kernel
theorem dX2_countRipe_45 : decode cX2_countRipe 45 = .ok (.getfield 109, 3) := by decide +kernel
theorem dX2_countRipe_48 : decode cX2_countRipe 48 = .ok (.iload_n 3, 1) := by decide +kernel
theorem dX2_countRipe_49 : decode cX2_countRipe 49 = .ok (.iaload, 1) := by decide +kernel
theorem dX2_countRipe_50 : decode cX2_countRipe 50 = .ok (.dup2, 1) := by decide +kernel
theorem dX2_countRipe_51 : decode cX2_countRipe 51 = .ok (.iaload, 1) := by decide +kernel
theorem dX2_countRipe_52 : decode cX2_countRipe 52 = .ok (.iconst 1, 1) := by decide +kernel
theorem dX2_countRipe_53 : decode cX2_countRipe 53 = .ok (.iadd, 1) := by decide +kernel
theorem dX2_countRipe_54 : decode cX2_countRipe 54 = .ok (.iastore, 1) := by decide +kernel
theorem dX2_countRipe_55 : decode cX2_countRipe 55 = .ok (.iinc 3 1, 3) := by decide +kernel
theorem dX2_countRipe_58 : decode cX2_countRipe 58 = .ok (.goto (-35), 3) := by decide +kernel
theorem dX2_countRipe_61 : decode cX2_countRipe 61 = .ok (.return_, 1) := by decide +kernel
theorem dX2_walkRounds_0 : decode cX2_walkRounds 0 = .ok (.iconst 0, 1) := by decide +kernel
theorem dX2_walkRounds_1 : decode cX2_walkRounds 1 = .ok (.istore 4, 2) := by decide +kernel
theorem dX2_walkRounds_3 : decode cX2_walkRounds 3 = .ok (.iload 4, 2) := by decide +kernel
theorem dX2_walkRounds_5 : decode cX2_walkRounds 5 = .ok (.aload_n 0, 1) := by decide +kernel
theorem dX2_walkRounds_6 : decode cX2_walkRounds 6 = .ok (.getfield 27, 3) := by decide +kernel
theorem dX2_walkRounds_9 : decode cX2_walkRounds 9 = .ok (.arraylength, 1) := by decide +kernel
theorem dX2_walkRounds_10 : decode cX2_walkRounds 10 = .ok (.if_icmp .ge 18, 3) := by decide +kernel
theorem dX2_walkRounds_13 : decode cX2_walkRounds 13 = .ok (.aload_n 0, 1) := by decide +kernel
theorem dX2_walkRounds_14 : decode cX2_walkRounds 14 = .ok (.getfield 27, 3) := by decide +kernel
theorem dX2_walkRounds_17 : decode cX2_walkRounds 17 = .ok (.iload 4, 2) := by decide +kernel
theorem dX2_walkRounds_19 : decode cX2_walkRounds 19 = .ok (.ldc 147, 2) := by decide +kernel
theorem dX2_walkRounds_21 : decode cX2_walkRounds 21 = .ok (.iastore, 1) := by decide +kernel
theorem dX2_walkRounds_22 : decode cX2_walkRounds 22 = .ok (.iinc 4 1, 3) := by decide +kernel
theorem dX2_walkRounds_25 : decode cX2_walkRounds 25 = .ok (.goto (-22), 3) := by decide +kernel
theorem dX2_walkRounds_28 : decode cX2_walkRounds 28 = .ok (.aload_n 0, 1) := by decide +kernel
theorem dX2_walkRounds_29 : decode cX2_walkRounds 29 = .ok (.getfield 24, 3) := by decide +kernel
theorem dX2_walkRounds_32 : decode cX2_walkRounds 32 = .ok (.iload_n 2, 1) := by decide +kernel
theorem dX2_walkRounds_33 : decode cX2_walkRounds 33 = .ok (.iaload, 1) := by decide +kernel
theorem dX2_walkRounds_34 : decode cX2_walkRounds 34 = .ok (.ifCond .le 9, 3) := by decide +kernel
theorem dX2_walkRounds_37 : decode cX2_walkRounds 37 = .ok (.iconst 1, 1) := by decide +kernel
theorem dX2_walkRounds_38 : decode cX2_walkRounds 38 = .ok (.iload_n 2, 1) := by decide +kernel
theorem dX2_walkRounds_39 : decode cX2_walkRounds 39 = .ok (.ishl, 1) := by decide +kernel
theorem dX2_walkRounds_40 : decode cX2_walkRounds 40 = .ok (.goto 4, 3) := by decide +kernel
theorem dX2_walkRounds_43 : decode cX2_walkRounds 43 = .ok (.iconst 0, 1) := by decide +kernel
theorem dX2_walkRounds_44 : decode cX2_walkRounds 44 = .ok (.istore 4, 2) := by decide +kernel
theorem dX2_walkRounds_46 : decode cX2_walkRounds 46 = .ok (.aload_n 0, 1) := by decide +kernel
theorem dX2_walkRounds_47 : decode cX2_walkRounds 47 = .ok (.getfield 27, 3) := by decide +kernel
theorem dX2_walkRounds_50 : decode cX2_walkRounds 50 = .ok (.iload 4, 2) := by decide +kernel
theorem dX2_walkRounds_52 : decode cX2_walkRounds 52 = .ok (.bipush 6, 2) := by decide +kernel
theorem dX2_walkRounds_54 : decode cX2_walkRounds 54 = .ok (.imul, 1) := by decide +kernel
theorem dX2_walkRounds_55 : decode cX2_walkRounds 55 = .ok (.iload_n 2, 1) := by decide +kernel
theorem dX2_walkRounds_56 : decode cX2_walkRounds 56 = .ok (.iadd, 1) := by decide +kernel
theorem dX2_walkRounds_57 : decode cX2_walkRounds 57 = .ok (.iconst 0, 1) := by decide +kernel
theorem dX2_walkRounds_58 : decode cX2_walkRounds 58 = .ok (.iastore, 1) := by decide +kernel
theorem dX2_walkRounds_59 : decode cX2_walkRounds 59 = .ok (.iload 4, 2) := by decide +kernel
theorem dX2_walkRounds_61 : decode cX2_walkRounds 61 = .ok (.istore 5, 2) := by decide +kernel
theorem dX2_walkRounds_63 : decode cX2_walkRounds 63 = .ok (.iload 5, 2) := by decide +kernel
theorem dX2_walkRounds_65 : decode cX2_walkRounds 65 = .ok (.bipush 64, 2) := by decide +kernel
theorem dX2_walkRounds_67 : decode cX2_walkRounds 67 = .ok (.if_icmp .ge 55, 3) := by decide +kernel
theorem dX2_walkRounds_70 : decode cX2_walkRounds 70 = .ok (.iconst 0, 1) := by decide +kernel
theorem dX2_walkRounds_71 : decode cX2_walkRounds 71 = .ok (.istore 6, 2) := by decide +kernel
theorem dX2_walkRounds_73 : decode cX2_walkRounds 73 = .ok (.iload 6, 2) := by decide +kernel
theorem dX2_walkRounds_75 : decode cX2_walkRounds 75 = .ok (.aload_n 1, 1) := by decide +kernel
theorem dX2_walkRounds_76 : decode cX2_walkRounds 76 = .ok (.getfield 93, 3) := by decide +kernel
theorem dX2_walkRounds_79 : decode cX2_walkRounds 79 = .ok (.if_icmp .ge 37, 3) := by decide +kernel
theorem dX2_walkRounds_82 : decode cX2_walkRounds 82 = .ok (.aload_n 0, 1) := by decide +kernel
theorem dX2_walkRounds_83 : decode cX2_walkRounds 83 = .ok (.getfield 27, 3) := by decide +kernel
theorem dX2_walkRounds_86 : decode cX2_walkRounds 86 = .ok (.iload 5, 2) := by decide +kernel
theorem dX2_walkRounds_88 : decode cX2_walkRounds 88 = .ok (.bipush 6, 2) := by decide +kernel
theorem dX2_walkRounds_90 : decode cX2_walkRounds 90 = .ok (.imul, 1) := by decide +kernel
theorem dX2_walkRounds_91 : decode cX2_walkRounds 91 = .ok (.iload 6, 2) := by decide +kernel
theorem dX2_walkRounds_93 : decode cX2_walkRounds 93 = .ok (.iadd, 1) := by decide +kernel
theorem dX2_walkRounds_94 : decode cX2_walkRounds 94 = .ok (.iaload, 1) := by decide +kernel
theorem dX2_walkRounds_95 : decode cX2_walkRounds 95 = .ok (.ldc 147, 2) := by decide +kernel
theorem dX2_walkRounds_97 : decode cX2_walkRounds 97 = .ok (.if_icmp .ge 13, 3) := by decide +kernel
theorem dX2_walkRounds_100 : decode cX2_walkRounds 100 = .ok (.aload_n 0, 1) := by decide +kernel
theorem dX2_walkRounds_101 : decode cX2_walkRounds 101 = .ok (.aload_n 1, 1) := by decide +kernel
theorem dX2_walkRounds_102 : decode cX2_walkRounds 102 = .ok (.iload 5, 2) := by decide +kernel
theorem dX2_walkRounds_104 : decode cX2_walkRounds 104 = .ok (.iload 6, 2) := by decide +kernel
theorem dX2_walkRounds_106 : decode cX2_walkRounds 106 = .ok (.iload_n 3, 1) := by decide +kernel
theorem dX2_walkRounds_107 : decode cX2_walkRounds 107 = .ok (.invokevirtual 151, 3) := by decide +kernel
theorem dX2_walkRounds_110 : decode cX2_walkRounds 110 = .ok (.iinc 6 1, 3) := by decide +kernel
theorem dX2_walkRounds_113 : decode cX2_walkRounds 113 = .ok (.goto (-40), 3) := by decide +kernel
theorem dX2_walkRounds_116 : decode cX2_walkRounds 116 = .ok (.iinc 5 1, 3) := by decide +kernel
theorem dX2_walkRounds_119 : decode cX2_walkRounds 119 = .ok (.goto (-56), 3) := by decide +kernel
theorem dX2_walkRounds_122 : decode cX2_walkRounds 122 = .ok (.return_, 1) := by decide +kernel
theorem dX2_walkOn_0 : decode cX2_walkOn 0 = .ok (.iconst 0, 1) := by decide +kernel
theorem dX2_walkOn_1 : decode cX2_walkOn 1 = .ok (.istore 5, 2) := by decide +kernel
theorem dX2_walkOn_3 : decode cX2_walkOn 3 = .ok (.iload 5, 2) := by decide +kernel
theorem dX2_walkOn_5 : decode cX2_walkOn 5 = .ok (.aload_n 1, 1) := by decide +kernel
theorem dX2_walkOn_6 : decode cX2_walkOn 6 = .ok (.getfield 93, 3) := by decide +kernel
theorem dX2_walkOn_9 : decode cX2_walkOn 9 = .ok (.if_icmp .ge 112, 3) := by decide +kernel
theorem dX2_walkOn_12 : decode cX2_walkOn 12 = .ok (.aload_n 0, 1) := by decide +kernel
theorem dX2_walkOn_13 : decode cX2_walkOn 13 = .ok (.getfield 24, 3) := by decide +kernel
theorem dX2_walkOn_16 : decode cX2_walkOn 16 = .ok (.iload 5, 2) := by decide +kernel
theorem dX2_walkOn_18 : decode cX2_walkOn 18 = .ok (.iaload, 1) := by decide +kernel
theorem dX2_walkOn_19 : decode cX2_walkOn 19 = .ok (.ifCond .eq 96, 3) := by decide +kernel
theorem dX2_walkOn_22 : decode cX2_walkOn 22 = .ok (.iload_n 2, 1) := by decide +kernel
theorem dX2_walkOn_23 : decode cX2_walkOn 23 = .ok (.iload 5, 2) := by decide +kernel
theorem dX2_walkOn_25 : decode cX2_walkOn 25 = .ok (.invokestatic 96, 3) := by decide +kernel
theorem dX2_walkOn_28 : decode cX2_walkOn 28 = .ok (.ifCond .ne 87, 3) := by decide +kernel
theorem dX2_walkOn_31 : decode cX2_walkOn 31 = .ok (.aload_n 1, 1) := by decide +kernel
theorem dX2_walkOn_32 : decode cX2_walkOn 32 = .ok (.getfield 59, 3) := by decide +kernel
theorem dX2_walkOn_35 : decode cX2_walkOn 35 = .ok (.bipush 63, 2) := by decide +kernel
theorem dX2_walkOn_37 : decode cX2_walkOn 37 = .ok (.iload_n 3, 1) := by decide +kernel
theorem dX2_walkOn_38 : decode cX2_walkOn 38 = .ok (.iload 5, 2) := by decide +kernel
theorem dX2_walkOn_40 : decode cX2_walkOn 40 = .ok (.invokevirtual 155, 3) := by decide +kernel
theorem dX2_walkOn_43 : decode cX2_walkOn 43 = .ok (.ifCond .ne 6, 3) := by decide +kernel
theorem dX2_walkOn_46 : decode cX2_walkOn 46 = .ok (.goto 69, 3) := by decide +kernel
theorem dX2_walkOn_49 : decode cX2_walkOn 49 = .ok (.aload_n 0, 1) := by decide +kernel
theorem dX2_walkOn_50 : decode cX2_walkOn 50 = .ok (.getfield 27, 3) := by decide +kernel
theorem dX2_walkOn_53 : decode cX2_walkOn 53 = .ok (.iload_n 2, 1) := by decide +kernel
theorem dX2_walkOn_54 : decode cX2_walkOn 54 = .ok (.bipush 6, 2) := by decide +kernel
theorem dX2_walkOn_56 : decode cX2_walkOn 56 = .ok (.imul, 1) := by decide +kernel
theorem dX2_walkOn_57 : decode cX2_walkOn 57 = .ok (.iload_n 3, 1) := by decide +kernel
theorem dX2_walkOn_58 : decode cX2_walkOn 58 = .ok (.iadd, 1) := by decide +kernel
theorem dX2_walkOn_59 : decode cX2_walkOn 59 = .ok (.iaload, 1) := by decide +kernel
theorem dX2_walkOn_60 : decode cX2_walkOn 60 = .ok (.aload_n 1, 1) := by decide +kernel
theorem dX2_walkOn_61 : decode cX2_walkOn 61 = .ok (.getfield 59, 3) := by decide +kernel
theorem dX2_walkOn_64 : decode cX2_walkOn 64 = .ok (.bipush 63, 2) := by decide +kernel
theorem dX2_walkOn_66 : decode cX2_walkOn 66 = .ok (.iload_n 3, 1) := by decide +kernel
theorem dX2_walkOn_67 : decode cX2_walkOn 67 = .ok (.iload 5, 2) := by decide +kernel
theorem dX2_walkOn_69 : decode cX2_walkOn 69 = .ok (.invokevirtual 158, 3) := by decide +kernel
theorem dX2_walkOn_72 : decode cX2_walkOn 72 = .ok (.iadd, 1) := by decide +kernel
theorem dX2_walkOn_73 : decode cX2_walkOn 73 = .ok (.istore 6, 2) := by decide +kernel
theorem dX2_walkOn_75 : decode cX2_walkOn 75 = .ok (.iload_n 2, 1) := by decide +kernel
theorem dX2_walkOn_76 : decode cX2_walkOn 76 = .ok (.iconst 1, 1) := by decide +kernel
theorem dX2_walkOn_77 : decode cX2_walkOn 77 = .ok (.iload 5, 2) := by decide +kernel
theorem dX2_walkOn_79 : decode cX2_walkOn 79 = .ok (.ishl, 1) := by decide +kernel
theorem dX2_walkOn_80 : decode cX2_walkOn 80 = .ok (.ior, 1) := by decide +kernel
theorem dX2_walkOn_81 : decode cX2_walkOn 81 = .ok (.bipush 6, 2) := by decide +kernel
theorem dX2_walkOn_83 : decode cX2_walkOn 83 = .ok (.imul, 1) := by decide +kernel
theorem dX2_walkOn_84 : decode cX2_walkOn 84 = .ok (.iload 5, 2) := by decide +kernel
theorem dX2_walkOn_86 : decode cX2_walkOn 86 = .ok (.iadd, 1) := by decide +kernel
theorem dX2_walkOn_87 : decode cX2_walkOn 87 = .ok (.istore 7, 2) := by decide +kernel
theorem dX2_walkOn_89 : decode cX2_walkOn 89 = .ok (.iload 6, 2) := by decide +kernel
theorem dX2_walkOn_91 : decode cX2_walkOn 91 = .ok (.iload 4, 2) := by decide +kernel
theorem dX2_walkOn_93 : decode cX2_walkOn 93 = .ok (.if_icmp .gt 22, 3) := by decide +kernel
theorem dX2_walkOn_96 : decode cX2_walkOn 96 = .ok (.aload_n 0, 1) := by decide +kernel
theorem dX2_walkOn_97 : decode cX2_walkOn 97 = .ok (.getfield 27, 3) := by decide +kernel
theorem dX2_walkOn_100 : decode cX2_walkOn 100 = .ok (.iload 7, 2) := by decide +kernel
theorem dX2_walkOn_102 : decode cX2_walkOn 102 = .ok (.aload_n 0, 1) := by decide +kernel
theorem dX2_walkOn_103 : decode cX2_walkOn 103 = .ok (.getfield 27, 3) := by decide +kernel
theorem dX2_walkOn_106 : decode cX2_walkOn 106 = .ok (.iload 7, 2) := by decide +kernel
theorem dX2_walkOn_108 : decode cX2_walkOn 108 = .ok (.iaload, 1) := by decide +kernel
theorem dX2_walkOn_109 : decode cX2_walkOn 109 = .ok (.iload 6, 2) := by decide +kernel
theorem dX2_walkOn_111 : decode cX2_walkOn 111 = .ok (.invokestatic 161, 3) := by decide +kernel
theorem dX2_walkOn_114 : decode cX2_walkOn 114 = .ok (.iastore, 1) := by decide +kernel
theorem dX2_walkOn_115 : decode cX2_walkOn 115 = .ok (.iinc 5 1, 3) := by decide +kernel
theorem dX2_walkOn_118 : decode cX2_walkOn 118 = .ok (.goto (-115), 3) := by decide +kernel
theorem dX2_walkOn_121 : decode cX2_walkOn 121 = .ok (.return_, 1) := by decide +kernel
theorem dX2_leastWalked_0 : decode cX2_leastWalked 0 = .ok (.ldc 147, 2) := by decide +kernel
theorem dX2_leastWalked_2 : decode cX2_leastWalked 2 = .ok (.istore_n 2, 1) := by decide +kernel
theorem dX2_leastWalked_3 : decode cX2_leastWalked 3 = .ok (.iconst 0, 1) := by decide +kernel
theorem dX2_leastWalked_4 : decode cX2_leastWalked 4 = .ok (.istore_n 3, 1) := by decide +kernel
theorem dX2_leastWalked_5 : decode cX2_leastWalked 5 = .ok (.iload_n 3, 1) := by decide +kernel
theorem dX2_leastWalked_6 : decode cX2_leastWalked 6 = .ok (.bipush 6, 2) := by decide +kernel
theorem dX2_leastWalked_8 : decode cX2_leastWalked 8 = .ok (.if_icmp .ge 25, 3) := by decide +kernel
theorem dX2_leastWalked_11 : decode cX2_leastWalked 11 = .ok (.iload_n 2, 1) := by decide +kernel
theorem dX2_leastWalked_12 : decode cX2_leastWalked 12 = .ok (.aload_n 0, 1) := by decide +kernel
theorem dX2_leastWalked_13 : decode cX2_leastWalked 13 = .ok (.getfield 27, 3) := by decide +kernel
theorem dX2_leastWalked_16 : decode cX2_leastWalked 16 = .ok (.iload_n 1, 1) := by decide +kernel
theorem dX2_leastWalked_17 : decode cX2_leastWalked 17 = .ok (.bipush 6, 2) := by decide +kernel
theorem dX2_leastWalked_19 : decode cX2_leastWalked 19 = .ok (.imul, 1) := by decide +kernel
theorem dX2_leastWalked_20 : decode cX2_leastWalked 20 = .ok (.iload_n 3, 1) := by decide +kernel
theorem dX2_leastWalked_21 : decode cX2_leastWalked 21 = .ok (.iadd, 1) := by decide +kernel
theorem dX2_leastWalked_22 : decode cX2_leastWalked 22 = .ok (.iaload, 1) := by decide +kernel
theorem dX2_leastWalked_23 : decode cX2_leastWalked 23 = .ok (.invokestatic 161, 3) := by decide +kernel
theorem dX2_leastWalked_26 : decode cX2_leastWalked 26 = .ok (.istore_n 2, 1) := by decide +kernel
theorem dX2_leastWalked_27 : decode cX2_leastWalked 27 = .ok (.iinc 3 1, 3) := by decide +kernel
theorem dX2_leastWalked_30 : decode cX2_leastWalked 30 = .ok (.goto (-25), 3) := by decide +kernel
theorem dX2_leastWalked_33 : decode cX2_leastWalked 33 = .ok (.iload_n 2, 1) := by decide +kernel
theorem dX2_leastWalked_34 : decode cX2_leastWalked 34 = .ok (.ireturn, 1) := by decide +kernel
theorem dX2_ripeOf_0 : decode cX2_ripeOf 0 = .ok (.iconst 0, 1) := by decide +kernel
theorem dX2_ripeOf_1 : decode cX2_ripeOf 1 = .ok (.istore_n 2, 1) := by decide +kernel
theorem dX2_ripeOf_2 : decode cX2_ripeOf 2 = .ok (.iconst 0, 1) := by decide +kernel
theorem dX2_ripeOf_3 : decode cX2_ripeOf 3 = .ok (.istore_n 3, 1) := by decide +kernel
theorem dX2_ripeOf_4 : decode cX2_ripeOf 4 = .ok (.iload_n 3, 1) := by decide +kernel
theorem dX2_ripeOf_5 : decode cX2_ripeOf 5 = .ok (.bipush 6, 2) := by decide +kernel
theorem dX2_ripeOf_7 : decode cX2_ripeOf 7 = .ok (.if_icmp .ge 26, 3) := by decide +kernel
theorem dX2_ripeOf_10 : decode cX2_ripeOf 10 = .ok (.iload_n 1, 1) := by decide +kernel
theorem dX2_ripeOf_11 : decode cX2_ripeOf 11 = .ok (.iload_n 3, 1) := by decide +kernel
theorem dX2_ripeOf_12 : decode cX2_ripeOf 12 = .ok (.invokestatic 96, 3) := by decide +kernel
theorem dX2_ripeOf_15 : decode cX2_ripeOf 15 = .ok (.ifCond .eq 12, 3) := by decide +kernel
theorem dX2_ripeOf_18 : decode cX2_ripeOf 18 = .ok (.iload_n 2, 1) := by decide +kernel
theorem dX2_ripeOf_19 : decode cX2_ripeOf 19 = .ok (.aload_n 0, 1) := by decide +kernel
theorem dX2_ripeOf_20 : decode cX2_ripeOf 20 = .ok (.getfield 24, 3) := by decide +kernel
theorem dX2_ripeOf_23 : decode cX2_ripeOf 23 = .ok (.iload_n 3, 1) := by decide +kernel
theorem dX2_ripeOf_24 : decode cX2_ripeOf 24 = .ok (.iaload, 1) := by decide +kernel
theorem dX2_ripeOf_25 : decode cX2_ripeOf 25 = .ok (.iadd, 1) := by decide +kernel
theorem dX2_ripeOf_26 : decode cX2_ripeOf 26 = .ok (.istore_n 2, 1) := by decide +kernel
theorem dX2_ripeOf_27 : decode cX2_ripeOf 27 = .ok (.iinc 3 1, 3) := by decide +kernel
theorem dX2_ripeOf_30 : decode cX2_ripeOf 30 = .ok (.goto (-26), 3) := by decide +kernel
theorem dX2_ripeOf_33 : decode cX2_ripeOf 33 = .ok (.iload_n 2, 1) := by decide +kernel
theorem dX2_ripeOf_34 : decode cX2_ripeOf 34 = .ok (.ireturn, 1) := by decide +kernel
theorem dX2_setsSeen_0 : decode cX2_setsSeen 0 = .ok (.aload_n 0, 1) := by decide +kernel
theorem dX2_setsSeen_1 : decode cX2_setsSeen 1 = .ok (.aload_n 1, 1) := by decide +kernel
theorem dX2_setsSeen_2 : decode cX2_setsSeen 2 = .ok (.aload_n 2, 1) := by decide +kernel
theorem dX2_setsSeen_3 : decode cX2_setsSeen 3 = .ok (.aload_n 3, 1) := by decide +kernel
theorem dX2_setsSeen_4 : decode cX2_setsSeen 4 = .ok (.invokevirtual 164, 3) := by decide +kernel
theorem dX2_setsSeen_7 : decode cX2_setsSeen 7 = .ok (.iload 4, 2) := by decide +kernel
theorem dX2_setsSeen_9 : decode cX2_setsSeen 9 = .ok (.ifCond .eq 12, 3) := by decide +kernel
theorem dX2_setsSeen_12 : decode cX2_setsSeen 12 = .ok (.aload_n 0, 1) := by decide +kernel
theorem dX2_setsSeen_13 : decode cX2_setsSeen 13 = .ok (.getfield 33, 3) := by decide +kernel
theorem dX2_setsSeen_16 : decode cX2_setsSeen 16 = .ok (.iconst 0, 1) := by decide +kernel
theorem dX2_setsSeen_17 : decode cX2_setsSeen 17 = .ok (.iaload, 1) := by decide +kernel
theorem dX2_setsSeen_18 : decode cX2_setsSeen 18 = .ok (.ifCond .le 13, 3) := by decide +kernel
theorem dX2_setsSeen_21 : decode cX2_setsSeen 21 = .ok (.aload_n 0, 1) := by decide +kernel
theorem dX2_setsSeen_22 : decode cX2_setsSeen 22 = .ok (.getfield 33, 3) := by decide +kernel
theorem dX2_setsSeen_25 : decode cX2_setsSeen 25 = .ok (.iload 4, 2) := by decide +kernel
theorem dX2_setsSeen_27 : decode cX2_setsSeen 27 = .ok (.iaload, 1) := by decide +kernel
theorem dX2_setsSeen_28 : decode cX2_setsSeen 28 = .ok (.goto 4, 3) := by decide +kernel
theorem dX2_setsSeen_31 : decode cX2_setsSeen 31 = .ok (.iconst (-1), 1) := by decide +kernel
theorem dX2_setsSeen_32 : decode cX2_setsSeen 32 = .ok (.ireturn, 1) := by decide +kernel
theorem dX2_bestLook_0 : decode cX2_bestLook 0 = .ok (.aload_n 0, 1) := by decide +kernel
theorem dX2_bestLook_1 : decode cX2_bestLook 1 = .ok (.aload_n 1, 1) := by decide +kernel
theorem dX2_bestLook_2 : decode cX2_bestLook 2 = .ok (.aload_n 2, 1) := by decide +kernel
theorem dX2_bestLook_3 : decode cX2_bestLook 3 = .ok (.aload_n 3, 1) := by decide +kernel
theorem dX2_bestLook_4 : decode cX2_bestLook 4 = .ok (.invokevirtual 164, 3) := by decide +kernel
theorem dX2_bestLook_7 : decode cX2_bestLook 7 = .ok (.iconst (-1), 1) := by decide +kernel
theorem dX2_bestLook_8 : decode cX2_bestLook 8 = .ok (.istore 4, 2) := by decide +kernel
theorem dX2_bestLook_10 : decode cX2_bestLook 10 = .ok (.aload_n 0, 1) := by decide +kernel
theorem dX2_bestLook_11 : decode cX2_bestLook 11 = .ok (.getfield 33, 3) := by decide +kernel
theorem dX2_bestLook_14 : decode cX2_bestLook 14 = .ok (.iconst 0, 1) := by decide +kernel
theorem dX2_bestLook_15 : decode cX2_bestLook 15 = .ok (.iaload, 1) := by decide +kernel
theorem dX2_bestLook_16 : decode cX2_bestLook 16 = .ok (.istore 5, 2) := by decide +kernel
theorem dX2_bestLook_18 : decode cX2_bestLook 18 = .ok (.iconst 0, 1) := by decide +kernel
theorem dX2_bestLook_19 : decode cX2_bestLook 19 = .ok (.istore 6, 2) := by decide +kernel
theorem dX2_bestLook_21 : decode cX2_bestLook 21 = .ok (.iload 6, 2) := by decide +kernel
theorem dX2_bestLook_23 : decode cX2_bestLook 23 = .ok (.aload_n 1, 1) := by decide +kernel
theorem dX2_bestLook_24 : decode cX2_bestLook 24 = .ok (.getfield 93, 3) := by decide +kernel
theorem dX2_bestLook_27 : decode cX2_bestLook 27 = .ok (.bipush 10, 2) := by decide +kernel
theorem dX2_bestLook_29 : decode cX2_bestLook 29 = .ok (.imul, 1) := by decide +kernel
theorem dX2_bestLook_30 : decode cX2_bestLook 30 = .ok (.if_icmp .ge 50, 3) := by decide +kernel
theorem dX2_bestLook_33 : decode cX2_bestLook 33 = .ok (.aload_n 0, 1) := by decide +kernel
theorem dX2_bestLook_34 : decode cX2_bestLook 34 = .ok (.getfield 30, 3) := by decide +kernel
theorem dX2_bestLook_37 : decode cX2_bestLook 37 = .ok (.iload 6, 2) := by decide +kernel
theorem dX2_bestLook_39 : decode cX2_bestLook 39 = .ok (.iaload, 1) := by decide +kernel
theorem dX2_bestLook_40 : decode cX2_bestLook 40 = .ok (.aload_n 0, 1) := by decide +kernel
theorem dX2_bestLook_41 : decode cX2_bestLook 41 = .ok (.getfield 33, 3) := by decide +kernel
theorem dX2_bestLook_44 : decode cX2_bestLook 44 = .ok (.iconst 0, 1) := by decide +kernel
theorem dX2_bestLook_45 : decode cX2_bestLook 45 = .ok (.iaload, 1) := by decide +kernel
theorem dX2_bestLook_46 : decode cX2_bestLook 46 = .ok (.aload_n 0, 1) := by decide +kernel
theorem dX2_bestLook_47 : decode cX2_bestLook 47 = .ok (.getfield 30, 3) := by decide +kernel
theorem dX2_bestLook_50 : decode cX2_bestLook 50 = .ok (.iload 6, 2) := by decide +kernel
theorem dX2_bestLook_52 : decode cX2_bestLook 52 = .ok (.iaload, 1) := by decide +kernel
theorem dX2_bestLook_53 : decode cX2_bestLook 53 = .ok (.isub, 1) := by decide +kernel
theorem dX2_bestLook_54 : decode cX2_bestLook 54 = .ok (.invokestatic 80, 3) := by decide +kernel
theorem dX2_bestLook_57 : decode cX2_bestLook 57 = .ok (.istore 7, 2) := by decide +kernel
theorem dX2_bestLook_59 : decode cX2_bestLook 59 = .ok (.iload 7, 2) := by decide +kernel
theorem dX2_bestLook_61 : decode cX2_bestLook 61 = .ok (.iload 5, 2) := by decide +kernel
theorem dX2_bestLook_63 : decode cX2_bestLook 63 = .ok (.if_icmp .ge 11, 3) := by decide +kernel
theorem dX2_bestLook_66 : decode cX2_bestLook 66 = .ok (.iload 6, 2) := by decide +kernel
theorem dX2_bestLook_68 : decode cX2_bestLook 68 = .ok (.istore 4, 2) := by decide +kernel
theorem dX2_bestLook_70 : decode cX2_bestLook 70 = .ok (.iload 7, 2) := by decide +kernel
theorem dX2_bestLook_72 : decode cX2_bestLook 72 = .ok (.istore 5, 2) := by decide +kernel
theorem dX2_bestLook_74 : decode cX2_bestLook 74 = .ok (.iinc 6 1, 3) := by decide +kernel
theorem dX2_bestLook_77 : decode cX2_bestLook 77 = .ok (.goto (-56), 3) := by decide +kernel
theorem dX2_bestLook_80 : decode cX2_bestLook 80 = .ok (.iload 4, 2) := by decide +kernel
theorem dX2_bestLook_82 : decode cX2_bestLook 82 = .ok (.ireturn, 1) := by decide +kernel
theorem dX2_sortSets_0 : decode cX2_sortSets 0 = .ok (.aload_n 0, 1) := by decide +kernel
theorem dX2_sortSets_1 : decode cX2_sortSets 1 = .ok (.aload_n 1, 1) := by decide +kernel
theorem dX2_sortSets_2 : decode cX2_sortSets 2 = .ok (.aload_n 2, 1) := by decide +kernel
theorem dX2_sortSets_3 : decode cX2_sortSets 3 = .ok (.invokevirtual 36, 3) := by decide +kernel
theorem dX2_sortSets_6 : decode cX2_sortSets 6 = .ok (.aload_n 1, 1) := by decide +kernel
theorem dX2_sortSets_7 : decode cX2_sortSets 7 = .ok (.aload_n 2, 1) := by decide +kernel
theorem dX2_sortSets_8 : decode cX2_sortSets 8 = .ok (.invokestatic 168, 3) := by decide +kernel
theorem dX2_sortSets_11 : decode cX2_sortSets 11 = .ok (.istore 4, 2) := by decide +kernel
theorem dX2_sortSets_13 : decode cX2_sortSets 13 = .ok (.iconst 0, 1) := by decide +kernel
theorem dX2_sortSets_14 : decode cX2_sortSets 14 = .ok (.istore 5, 2) := by decide +kernel
theorem dX2_sortSets_16 : decode cX2_sortSets 16 = .ok (.iload 5, 2) := by decide +kernel
theorem dX2_sortSets_18 : decode cX2_sortSets 18 = .ok (.aload_n 0, 1) := by decide +kernel
theorem dX2_sortSets_19 : decode cX2_sortSets 19 = .ok (.getfield 30, 3) := by decide +kernel
theorem dX2_sortSets_22 : decode cX2_sortSets 22 = .ok (.arraylength, 1) := by decide +kernel
theorem dX2_sortSets_23 : decode cX2_sortSets 23 = .ok (.if_icmp .ge 17, 3) := by decide +kernel
theorem dX2_sortSets_26 : decode cX2_sortSets 26 = .ok (.aload_n 0, 1) := by decide +kernel
theorem dX2_sortSets_27 : decode cX2_sortSets 27 = .ok (.getfield 30, 3) := by decide +kernel
theorem dX2_sortSets_30 : decode cX2_sortSets 30 = .ok (.iload 5, 2) := by decide +kernel
theorem dX2_sortSets_32 : decode cX2_sortSets 32 = .ok (.iconst 0, 1) := by decide +kernel
theorem dX2_sortSets_33 : decode cX2_sortSets 33 = .ok (.iastore, 1) := by decide +kernel
theorem dX2_sortSets_34 : decode cX2_sortSets 34 = .ok (.iinc 5 1, 3) := by decide +kernel
theorem dX2_sortSets_37 : decode cX2_sortSets 37 = .ok (.goto (-21), 3) := by decide +kernel
theorem dX2_sortSets_40 : decode cX2_sortSets 40 = .ok (.aload_n 0, 1) := by decide +kernel
theorem dX2_sortSets_41 : decode cX2_sortSets 41 = .ok (.getfield 33, 3) := by decide +kernel
theorem dX2_sortSets_44 : decode cX2_sortSets 44 = .ok (.iconst 0, 1) := by decide +kernel
theorem dX2_sortSets_45 : decode cX2_sortSets 45 = .ok (.iconst 0, 1) := by decide +kernel
theorem dX2_sortSets_46 : decode cX2_sortSets 46 = .ok (.iastore, 1) := by decide +kernel
theorem dX2_sortSets_47 : decode cX2_sortSets 47 = .ok (.aload_n 0, 1) := by decide +kernel
theorem dX2_sortSets_48 : decode cX2_sortSets 48 = .ok (.getfield 33, 3) := by decide +kernel
theorem dX2_sortSets_51 : decode cX2_sortSets 51 = .ok (.iconst 1, 1) := by decide +kernel
theorem dX2_sortSets_52 : decode cX2_sortSets 52 = .ok (.iload 4, 2) := by decide +kernel
theorem dX2_sortSets_54 : decode cX2_sortSets 54 = .ok (.iastore, 1) := by decide +kernel
theorem dX2_sortSets_55 : decode cX2_sortSets 55 = .ok (.aload_n 0, 1) := by decide +kernel
theorem dX2_sortSets_56 : decode cX2_sortSets 56 = .ok (.getfield 33, 3) := by decide +kernel
theorem dX2_sortSets_59 : decode cX2_sortSets 59 = .ok (.iconst 2, 1) := by decide +kernel
theorem dX2_sortSets_60 : decode cX2_sortSets 60 = .ok (.iconst 0, 1) := by decide +kernel
theorem dX2_sortSets_61 : decode cX2_sortSets 61 = .ok (.iastore, 1) := by decide +kernel
theorem dX2_sortSets_62 : decode cX2_sortSets 62 = .ok (.iconst 0, 1) := by decide +kernel
theorem dX2_sortSets_63 : decode cX2_sortSets 63 = .ok (.istore 5, 2) := by decide +kernel
theorem dX2_sortSets_65 : decode cX2_sortSets 65 = .ok (.iload 5, 2) := by decide +kernel
theorem dX2_sortSets_67 : decode cX2_sortSets 67 = .ok (.iconst 1, 1) := by decide +kernel
theorem dX2_sortSets_68 : decode cX2_sortSets 68 = .ok (.aload_n 1, 1) := by decide +kernel
theorem dX2_sortSets_69 : decode cX2_sortSets 69 = .ok (.getfield 40, 3) := by decide +kernel
theorem dX2_sortSets_72 : decode cX2_sortSets 72 = .ok (.ishl, 1) := by decide +kernel
theorem dX2_sortSets_73 : decode cX2_sortSets 73 = .ok (.if_icmp .ge 74, 3) := by decide +kernel
theorem dX2_sortSets_76 : decode cX2_sortSets 76 = .ok (.iload 5, 2) := by decide +kernel
theorem dX2_sortSets_78 : decode cX2_sortSets 78 = .ok (.iload 4, 2) := by decide +kernel
theorem dX2_sortSets_80 : decode cX2_sortSets 80 = .ok (.invokestatic 112, 3) := by decide +kernel
theorem dX2_sortSets_83 : decode cX2_sortSets 83 = .ok (.ifCond .eq 58, 3) := by decide +kernel
theorem dX2_sortSets_86 : decode cX2_sortSets 86 = .ok (.aload_n 0, 1) := by decide +kernel
theorem dX2_sortSets_87 : decode cX2_sortSets 87 = .ok (.aload_n 1, 1) := by decide +kernel
theorem dX2_sortSets_88 : decode cX2_sortSets 88 = .ok (.aload_n 2, 1) := by decide +kernel
theorem dX2_sortSets_89 : decode cX2_sortSets 89 = .ok (.iload 5, 2) := by decide +kernel
theorem dX2_sortSets_91 : decode cX2_sortSets 91 = .ok (.invokevirtual 172, 3) := by decide +kernel
theorem dX2_sortSets_94 : decode cX2_sortSets 94 = .ok (.aload_n 3, 1) := by decide +kernel
theorem dX2_sortSets_95 : decode cX2_sortSets 95 = .ok (.aload_n 0, 1) := by decide +kernel
theorem dX2_sortSets_96 : decode cX2_sortSets 96 = .ok (.getfield 21, 3) := by decide +kernel
theorem dX2_sortSets_99 : decode cX2_sortSets 99 = .ok (.invokevirtual 176, 3) := by decide +kernel
theorem dX2_sortSets_102 : decode cX2_sortSets 102 = .ok (.ifCond .eq 39, 3) := by decide +kernel
theorem dX2_sortSets_105 : decode cX2_sortSets 105 = .ok (.aload_n 0, 1) := by decide +kernel
theorem dX2_sortSets_106 : decode cX2_sortSets 106 = .ok (.getfield 33, 3) := by decide +kernel
theorem dX2_sortSets_109 : decode cX2_sortSets 109 = .ok (.iconst 0, 1) := by decide +kernel
theorem dX2_sortSets_110 : decode cX2_sortSets 110 = .ok (.dup2, 1) := by decide +kernel
theorem dX2_sortSets_111 : decode cX2_sortSets 111 = .ok (.iaload, 1) := by decide +kernel
theorem dX2_sortSets_112 : decode cX2_sortSets 112 = .ok (.iconst 1, 1) := by decide +kernel
theorem dX2_sortSets_113 : decode cX2_sortSets 113 = .ok (.iadd, 1) := by decide +kernel
theorem dX2_sortSets_114 : decode cX2_sortSets 114 = .ok (.iastore, 1) := by decide +kernel
theorem dX2_sortSets_115 : decode cX2_sortSets 115 = .ok (.aload_n 0, 1) := by decide +kernel
theorem dX2_sortSets_116 : decode cX2_sortSets 116 = .ok (.getfield 33, 3) := by decide +kernel
theorem dX2_sortSets_119 : decode cX2_sortSets 119 = .ok (.iconst 1, 1) := by decide +kernel
theorem dX2_sortSets_120 : decode cX2_sortSets 120 = .ok (.dup2, 1) := by decide +kernel
theorem dX2_sortSets_121 : decode cX2_sortSets 121 = .ok (.iaload, 1) := by decide +kernel
theorem dX2_sortSets_122 : decode cX2_sortSets 122 = .ok (.iload 5, 2) := by decide +kernel
theorem dX2_sortSets_124 : decode cX2_sortSets 124 = .ok (.iand, 1) := by decide +kernel
theorem dX2_sortSets_125 : decode cX2_sortSets 125 = .ok (.iastore, 1) := by decide +kernel
theorem dX2_sortSets_126 : decode cX2_sortSets 126 = .ok (.aload_n 0, 1) := by decide +kernel
theorem dX2_sortSets_127 : decode cX2_sortSets 127 = .ok (.getfield 33, 3) := by decide +kernel
theorem dX2_sortSets_130 : decode cX2_sortSets 130 = .ok (.iconst 2, 1) := by decide +kernel
theorem dX2_sortSets_131 : decode cX2_sortSets 131 = .ok (.dup2, 1) := by decide +kernel
theorem dX2_sortSets_132 : decode cX2_sortSets 132 = .ok (.iaload, 1) := by decide +kernel
theorem dX2_sortSets_133 : decode cX2_sortSets 133 = .ok (.iload 5, 2) := by decide +kernel
theorem dX2_sortSets_135 : decode cX2_sortSets 135 = .ok (.ior, 1) := by decide +kernel
theorem dX2_sortSets_136 : decode cX2_sortSets 136 = .ok (.iastore, 1) := by decide +kernel
theorem dX2_sortSets_137 : decode cX2_sortSets 137 = .ok (.aload_n 0, 1) := by decide +kernel
theorem dX2_sortSets_138 : decode cX2_sortSets 138 = .ok (.invokevirtual 182, 3) := by decide +kernel
theorem dX2_sortSets_141 : decode cX2_sortSets 141 = .ok (.iinc 5 1, 3) := by decide +kernel
theorem dX2_sortSets_144 : decode cX2_sortSets 144 = .ok (.goto (-79), 3) := by decide +kernel
theorem dX2_sortSets_147 : decode cX2_sortSets 147 = .ok (.return_, 1) := by decide +kernel
theorem dX2_ripeWrongs_0 : decode cX2_ripeWrongs 0 = .ok (.iconst 0, 1) := by decide +kernel
theorem dX2_ripeWrongs_1 : decode cX2_ripeWrongs 1 = .ok (.istore_n 2, 1) := by decide +kernel
theorem dX2_ripeWrongs_2 : decode cX2_ripeWrongs 2 = .ok (.iconst 0, 1) := by decide +kernel
theorem dX2_ripeWrongs_3 : decode cX2_ripeWrongs 3 = .ok (.istore_n 3, 1) := by decide +kernel
theorem dX2_ripeWrongs_4 : decode cX2_ripeWrongs 4 = .ok (.iload_n 3, 1) := by decide +kernel
theorem dX2_ripeWrongs_5 : decode cX2_ripeWrongs 5 = .ok (.aload_n 0, 1) := by decide +kernel
theorem dX2_ripeWrongs_6 : decode cX2_ripeWrongs 6 = .ok (.getfield 40, 3) := by decide +kernel
theorem dX2_ripeWrongs_9 : decode cX2_ripeWrongs 9 = .ok (.if_icmp .ge 24, 3) := by decide +kernel
theorem dX2_ripeWrongs_12 : decode cX2_ripeWrongs 12 = .ok (.aload_n 1, 1) := by decide +kernel
theorem dX2_ripeWrongs_13 : decode cX2_ripeWrongs 13 = .ok (.aload_n 0, 1) := by decide +kernel
theorem dX2_ripeWrongs_14 : decode cX2_ripeWrongs 14 = .ok (.iload_n 3, 1) := by decide +kernel
theorem dX2_ripeWrongs_15 : decode cX2_ripeWrongs 15 = .ok (.invokevirtual 148, 3) := by decide +kernel
theorem dX2_ripeWrongs_18 : decode cX2_ripeWrongs 18 = .ok (.ifCond .eq 9, 3) := by decide +kernel
theorem dX2_ripeWrongs_21 : decode cX2_ripeWrongs 21 = .ok (.iload_n 2, 1) := by decide +kernel
theorem dX2_ripeWrongs_22 : decode cX2_ripeWrongs 22 = .ok (.iconst 1, 1) := by decide +kernel
theorem dX2_ripeWrongs_23 : decode cX2_ripeWrongs 23 = .ok (.iload_n 3, 1) := by decide +kernel
theorem dX2_ripeWrongs_24 : decode cX2_ripeWrongs 24 = .ok (.ishl, 1) := by decide +kernel
theorem dX2_ripeWrongs_25 : decode cX2_ripeWrongs 25 = .ok (.ior, 1) := by decide +kernel
theorem dX2_ripeWrongs_26 : decode cX2_ripeWrongs 26 = .ok (.istore_n 2, 1) := by decide +kernel
theorem dX2_ripeWrongs_27 : decode cX2_ripeWrongs 27 = .ok (.iinc 3 1, 3) := by decide +kernel
theorem dX2_ripeWrongs_30 : decode cX2_ripeWrongs 30 = .ok (.goto (-26), 3) := by decide +kernel
theorem dX2_ripeWrongs_33 : decode cX2_ripeWrongs 33 = .ok (.iload_n 2, 1) := by decide +kernel
theorem dX2_ripeWrongs_34 : decode cX2_ripeWrongs 34 = .ok (.ireturn, 1) := by decide +kernel
theorem dX2_lightBy_0 : decode cX2_lightBy 0 = .ok (.aload_n 2, 1) := by decide +kernel
theorem dX2_lightBy_1 : decode cX2_lightBy 1 = .ok (.getfield 185, 3) := by decide +kernel
theorem dX2_lightBy_4 : decode cX2_lightBy 4 = .ok (.iconst 0, 1) := by decide +kernel
theorem dX2_lightBy_5 : decode cX2_lightBy 5 = .ok (.aload_n 0, 1) := by decide +kernel
theorem dX2_lightBy_6 : decode cX2_lightBy 6 = .ok (.getfield 21, 3) := by decide +kernel
theorem dX2_lightBy_9 : decode cX2_lightBy 9 = .ok (.iconst 0, 1) := by decide +kernel
theorem dX2_lightBy_10 : decode cX2_lightBy 10 = .ok (.bipush 6, 2) := by decide +kernel
theorem dX2_lightBy_12 : decode cX2_lightBy 12 = .ok (.invokestatic 186, 3) := by decide +kernel
theorem dX2_lightBy_15 : decode cX2_lightBy 15 = .ok (.iconst 0, 1) := by decide +kernel
theorem dX2_lightBy_16 : decode cX2_lightBy 16 = .ok (.istore 4, 2) := by decide +kernel
theorem dX2_lightBy_18 : decode cX2_lightBy 18 = .ok (.iload 4, 2) := by decide +kernel
theorem dX2_lightBy_20 : decode cX2_lightBy 20 = .ok (.aload_n 1, 1) := by decide +kernel
theorem dX2_lightBy_21 : decode cX2_lightBy 21 = .ok (.getfield 40, 3) := by decide +kernel
theorem dX2_lightBy_24 : decode cX2_lightBy 24 = .ok (.if_icmp .ge 54, 3) := by decide +kernel
theorem dX2_lightBy_27 : decode cX2_lightBy 27 = .ok (.iload_n 3, 1) := by decide +kernel
theorem dX2_lightBy_28 : decode cX2_lightBy 28 = .ok (.iload 4, 2) := by decide +kernel
theorem dX2_lightBy_30 : decode cX2_lightBy 30 = .ok (.invokestatic 96, 3) := by decide +kernel
theorem dX2_lightBy_33 : decode cX2_lightBy 33 = .ok (.ifCond .eq 39, 3) := by decide +kernel
theorem dX2_lightBy_36 : decode cX2_lightBy 36 = .ok (.aload_n 1, 1) := by decide +kernel
theorem dX2_lightBy_37 : decode cX2_lightBy 37 = .ok (.getfield 109, 3) := by decide +kernel
theorem dX2_lightBy_40 : decode cX2_lightBy 40 = .ok (.iload 4, 2) := by decide +kernel
theorem dX2_lightBy_42 : decode cX2_lightBy 42 = .ok (.iaload, 1) := by decide +kernel
theorem dX2_lightBy_43 : decode cX2_lightBy 43 = .ok (.istore 5, 2) := by decide +kernel
theorem dX2_lightBy_45 : decode cX2_lightBy 45 = .ok (.aload_n 0, 1) := by decide +kernel
theorem dX2_lightBy_46 : decode cX2_lightBy 46 = .ok (.getfield 21, 3) := by decide +kernel
theorem dX2_lightBy_49 : decode cX2_lightBy 49 = .ok (.iload 5, 2) := by decide +kernel
theorem dX2_lightBy_51 : decode cX2_lightBy 51 = .ok (.bipush 99, 2) := by decide +kernel
theorem dX2_lightBy_53 : decode cX2_lightBy 53 = .ok (.aload_n 0, 1) := by decide +kernel
theorem dX2_lightBy_54 : decode cX2_lightBy 54 = .ok (.getfield 21, 3) := by decide +kernel
theorem dX2_lightBy_57 : decode cX2_lightBy 57 = .ok (.iload 5, 2) := by decide +kernel
theorem dX2_lightBy_59 : decode cX2_lightBy 59 = .ok (.iaload, 1) := by decide +kernel
theorem dX2_lightBy_60 : decode cX2_lightBy 60 = .ok (.aload_n 0, 1) := by decide +kernel
theorem dX2_lightBy_61 : decode cX2_lightBy 61 = .ok (.getfield 15, 3) := by decide +kernel
theorem dX2_lightBy_64 : decode cX2_lightBy 64 = .ok (.iload 4, 2) := by decide +kernel
theorem dX2_lightBy_66 : decode cX2_lightBy 66 = .ok (.iaload, 1) := by decide +kernel
theorem dX2_lightBy_67 : decode cX2_lightBy 67 = .ok (.iadd, 1) := by decide +kernel
theorem dX2_lightBy_68 : decode cX2_lightBy 68 = .ok (.invokestatic 161, 3) := by decide +kernel
theorem dX2_lightBy_71 : decode cX2_lightBy 71 = .ok (.iastore, 1) := by decide +kernel
theorem dX2_lightBy_72 : decode cX2_lightBy 72 = .ok (.iinc 4 1, 3) := by decide +kernel
theorem dX2_lightBy_75 : decode cX2_lightBy 75 = .ok (.goto (-57), 3) := by decide +kernel
theorem dX2_lightBy_78 : decode cX2_lightBy 78 = .ok (.return_, 1) := by decide +kernel
theorem dX2_countBurning_0 : decode cX2_countBurning 0 = .ok (.iconst 0, 1) := by decide +kernel
theorem dX2_countBurning_1 : decode cX2_countBurning 1 = .ok (.istore_n 1, 1) := by decide +kernel
theorem dX2_countBurning_2 : decode cX2_countBurning 2 = .ok (.iload_n 1, 1) := by decide +kernel
theorem dX2_countBurning_3 : decode cX2_countBurning 3 = .ok (.bipush 6, 2) := by decide +kernel
theorem dX2_countBurning_5 : decode cX2_countBurning 5 = .ok (.if_icmp .ge 48, 3) := by decide +kernel
theorem dX2_countBurning_8 : decode cX2_countBurning 8 = .ok (.iconst 0, 1) := by decide +kernel
theorem dX2_countBurning_9 : decode cX2_countBurning 9 = .ok (.istore_n 2, 1) := by decide +kernel
theorem dX2_countBurning_10 : decode cX2_countBurning 10 = .ok (.iload_n 2, 1) := by decide +kernel
theorem dX2_countBurning_11 : decode cX2_countBurning 11 = .ok (.bipush 10, 2) := by decide +kernel
theorem dX2_countBurning_13 : decode cX2_countBurning 13 = .ok (.if_icmp .ge 34, 3) := by decide +kernel
theorem dX2_countBurning_16 : decode cX2_countBurning 16 = .ok (.iload_n 2, 1) := by decide +kernel
theorem dX2_countBurning_17 : decode cX2_countBurning 17 = .ok (.aload_n 0, 1) := by decide +kernel
theorem dX2_countBurning_18 : decode cX2_countBurning 18 = .ok (.getfield 21, 3) := by decide +kernel
theorem dX2_countBurning_21 : decode cX2_countBurning 21 = .ok (.iload_n 1, 1) := by decide +kernel
theorem dX2_countBurning_22 : decode cX2_countBurning 22 = .ok (.iaload, 1) := by decide +kernel
theorem dX2_countBurning_23 : decode cX2_countBurning 23 = .ok (.if_icmp .ge 24, 3) := by decide +kernel
theorem dX2_countBurning_26 : decode cX2_countBurning 26 = .ok (.aload_n 0, 1) := by decide +kernel
theorem dX2_countBurning_27 : decode cX2_countBurning 27 = .ok (.getfield 30, 3) := by decide +kernel
theorem dX2_countBurning_30 : decode cX2_countBurning 30 = .ok (.iload_n 1, 1) := by decide +kernel
theorem dX2_countBurning_31 : decode cX2_countBurning 31 = .ok (.bipush 10, 2) := by decide +kernel
theorem dX2_countBurning_33 : decode cX2_countBurning 33 = .ok (.imul, 1) := by decide +kernel
theorem dX2_countBurning_34 : decode cX2_countBurning 34 = .ok (.iload_n 2, 1) := by decide +kernel
theorem dX2_countBurning_35 : decode cX2_countBurning 35 = .ok (.iadd, 1) := by decide +kernel
theorem dX2_countBurning_36 : decode cX2_countBurning 36 = .ok (.dup2, 1) := by decide +kernel
theorem dX2_countBurning_37 : decode cX2_countBurning 37 = .ok (.iaload, 1) := by decide +kernel
theorem dX2_countBurning_38 : decode cX2_countBurning 38 = .ok (.iconst 1, 1) := by decide +kernel
theorem dX2_countBurning_39 : decode cX2_countBurning 39 = .ok (.iadd, 1) := by decide +kernel
theorem dX2_countBurning_40 : decode cX2_countBurning 40 = .ok (.iastore, 1) := by decide +kernel
theorem dX2_countBurning_41 : decode cX2_countBurning 41 = .ok (.iinc 2 1, 3) := by decide +kernel
theorem dX2_countBurning_44 : decode cX2_countBurning 44 = .ok (.goto (-34), 3) := by decide +kernel
theorem dX2_countBurning_47 : decode cX2_countBurning 47 = .ok (.iinc 1 1, 3) := by decide +kernel
theorem dX2_countBurning_50 : decode cX2_countBurning 50 = .ok (.goto (-48), 3) := by decide +kernel
theorem dX2_countBurning_53 : decode cX2_countBurning 53 = .ok (.return_, 1) := by decide +kernel
theorem dX3_init_0 : decode cX3_init 0 = .ok (.aload_n 0, 1) := by decide +kernel
theorem dX3_init_1 : decode cX3_init 1 = .ok (.invokespecial 3, 3) := by decide +kernel
theorem dX3_init_4 : decode cX3_init 4 = .ok (.aload_n 0, 1) := by decide +kernel
theorem dX3_init_5 : decode cX3_init 5 = .ok (.bipush 16, 2) := by decide +kernel
theorem dX3_init_7 : decode cX3_init 7 = .ok (.anewarray 9, 3) := by decide +kernel
theorem dX3_init_10 : decode cX3_init 10 = .ok (.putfield 11, 3) := by decide +kernel
theorem dX3_init_13 : decode cX3_init 13 = .ok (.aload_n 0, 1) := by decide +kernel
theorem dX3_init_14 : decode cX3_init 14 = .ok (.iconst 4, 1) := by decide +kernel
theorem dX3_init_15 : decode cX3_init 15 = .ok (.anewarray 9, 3) := by decide +kernel
theorem dX3_init_18 : decode cX3_init 18 = .ok (.putfield 17, 3) := by decide +kernel
theorem dX3_init_21 : decode cX3_init 21 = .ok (.aload_n 0, 1) := by decide +kernel
theorem dX3_init_22 : decode cX3_init 22 = .ok (.iconst 4, 1) := by decide +kernel
theorem dX3_init_23 : decode cX3_init 23 = .ok (.anewarray 20, 3) := by decide +kernel
theorem dX3_init_26 : decode cX3_init 26 = .ok (.putfield 22, 3) := by decide +kernel
theorem dX3_init_29 : decode cX3_init 29 = .ok (.iconst 0, 1) := by decide +kernel
theorem dX3_init_30 : decode cX3_init 30 = .ok (.istore_n 1, 1) := by decide +kernel
theorem dX3_init_31 : decode cX3_init 31 = .ok (.iload_n 1, 1) := by decide +kernel
theorem dX3_init_32 : decode cX3_init 32 = .ok (.bipush 16, 2) := by decide +kernel
theorem dX3_init_34 : decode cX3_init 34 = .ok (.if_icmp .ge 22, 3) := by decide +kernel
theorem dX3_init_37 : decode cX3_init 37 = .ok (.aload_n 0, 1) := by decide +kernel
theorem dX3_init_38 : decode cX3_init 38 = .ok (.getfield 11, 3) := by decide +kernel
theorem dX3_init_41 : decode cX3_init 41 = .ok (.iload_n 1, 1) := by decide +kernel
theorem dX3_init_42 : decode cX3_init 42 = .ok (.new 9, 3) := by decide +kernel
theorem dX3_init_45 : decode cX3_init 45 = .ok (.dup, 1) := by decide +kernel
theorem dX3_init_46 : decode cX3_init 46 = .ok (.invokespecial 26, 3) := by decide +kernel
theorem dX3_init_49 : decode cX3_init 49 = .ok (.aastore, 1) := by decide +kernel
theorem dX3_init_50 : decode cX3_init 50 = .ok (.iinc 1 1, 3) := by decide +kernel
theorem dX3_init_53 : decode cX3_init 53 = .ok (.goto (-22), 3) := by decide +kernel
theorem dX3_init_56 : decode cX3_init 56 = .ok (.iconst 0, 1) := by decide +kernel
theorem dX3_init_57 : decode cX3_init 57 = .ok (.istore_n 1, 1) := by decide +kernel
theorem dX3_init_58 : decode cX3_init 58 = .ok (.iload_n 1, 1) := by decide +kernel
theorem dX3_init_59 : decode cX3_init 59 = .ok (.iconst 4, 1) := by decide +kernel
theorem dX3_init_60 : decode cX3_init 60 = .ok (.if_icmp .ge 35, 3) := by decide +kernel
theorem dX3_init_63 : decode cX3_init 63 = .ok (.aload_n 0, 1) := by decide +kernel
theorem dX3_init_64 : decode cX3_init 64 = .ok (.getfield 17, 3) := by decide +kernel
theorem dX3_init_67 : decode cX3_init 67 = .ok (.iload_n 1, 1) := by decide +kernel
theorem dX3_init_68 : decode cX3_init 68 = .ok (.new 9, 3) := by decide +kernel
theorem dX3_init_71 : decode cX3_init 71 = .ok (.dup, 1) := by decide +kernel
theorem dX3_init_72 : decode cX3_init 72 = .ok (.invokespecial 26, 3) := by decide +kernel
theorem dX3_init_75 : decode cX3_init 75 = .ok (.aastore, 1) := by decide +kernel
theorem dX3_init_76 : decode cX3_init 76 = .ok (.aload_n 0, 1) := by decide +kernel
theorem dX3_init_77 : decode cX3_init 77 = .ok (.getfield 22, 3) := by decide +kernel
theorem dX3_init_80 : decode cX3_init 80 = .ok (.iload_n 1, 1) := by decide +kernel
theorem dX3_init_81 : decode cX3_init 81 = .ok (.new 20, 3) := by decide +kernel
theorem dX3_init_84 : decode cX3_init 84 = .ok (.dup, 1) := by decide +kernel
theorem dX3_init_85 : decode cX3_init 85 = .ok (.invokespecial 27, 3) := by decide +kernel
theorem dX3_init_88 : decode cX3_init 88 = .ok (.aastore, 1) := by decide +kernel
theorem dX3_init_89 : decode cX3_init 89 = .ok (.iinc 1 1, 3) := by decide +kernel
theorem dX3_init_92 : decode cX3_init 92 = .ok (.goto (-34), 3) := by decide +kernel
theorem dX3_init_95 : decode cX3_init 95 = .ok (.return_, 1) := by decide +kernel
theorem dX3_forget_0 : decode cX3_forget 0 = .ok (.aload_n 0, 1) := by decide +kernel
theorem dX3_forget_1 : decode cX3_forget 1 = .ok (.iconst 0, 1) := by decide +kernel
theorem dX3_forget_2 : decode cX3_forget 2 = .ok (.putfield 28, 3) := by decide +kernel
theorem dX3_forget_5 : decode cX3_forget 5 = .ok (.aload_n 0, 1) := by decide +kernel
theorem dX3_forget_6 : decode cX3_forget 6 = .ok (.iconst 0, 1) := by decide +kernel
theorem dX3_forget_7 : decode cX3_forget 7 = .ok (.putfield 32, 3) := by decide +kernel
theorem dX3_forget_10 : decode cX3_forget 10 = .ok (.return_, 1) := by decide +kernel
theorem dX3_keep_0 : decode cX3_keep 0 = .ok (.aload_n 0, 1) := by decide +kernel
theorem dX3_keep_1 : decode cX3_keep 1 = .ok (.getfield 11, 3) := by decide +kernel
theorem dX3_keep_4 : decode cX3_keep 4 = .ok (.aload_n 0, 1) := by decide +kernel
theorem dX3_keep_5 : decode cX3_keep 5 = .ok (.getfield 35, 3) := by decide +kernel
theorem dX3_keep_8 : decode cX3_keep 8 = .ok (.aaload, 1) := by decide +kernel
theorem dX3_keep_9 : decode cX3_keep 9 = .ok (.aload_n 1, 1) := by decide +kernel
theorem dX3_keep_10 : decode cX3_keep 10 = .ok (.invokevirtual 38, 3) := by decide +kernel
theorem dX3_keep_13 : decode cX3_keep 13 = .ok (.aload_n 0, 1) := by decide +kernel
theorem dX3_keep_14 : decode cX3_keep 14 = .ok (.aload_n 0, 1) := by decide +kernel
theorem dX3_keep_15 : decode cX3_keep 15 = .ok (.getfield 35, 3) := by decide +kernel
theorem dX3_keep_18 : decode cX3_keep 18 = .ok (.iconst 1, 1) := by decide +kernel
theorem dX3_keep_19 : decode cX3_keep 19 = .ok (.iadd, 1) := by decide +kernel
theorem dX3_keep_20 : decode cX3_keep 20 = .ok (.bipush 16, 2) := by decide +kernel
theorem dX3_keep_22 : decode cX3_keep 22 = .ok (.irem, 1) := by decide +kernel
theorem dX3_keep_23 : decode cX3_keep 23 = .ok (.putfield 35, 3) := by decide +kernel
theorem dX3_keep_26 : decode cX3_keep 26 = .ok (.aload_n 0, 1) := by decide +kernel
theorem dX3_keep_27 : decode cX3_keep 27 = .ok (.bipush 16, 2) := by decide +kernel
theorem dX3_keep_29 : decode cX3_keep 29 = .ok (.aload_n 0, 1) := by decide +kernel
theorem dX3_keep_30 : decode cX3_keep 30 = .ok (.getfield 28, 3) := by decide +kernel
theorem dX3_keep_33 : decode cX3_keep 33 = .ok (.iconst 1, 1) := by decide +kernel
theorem dX3_keep_34 : decode cX3_keep 34 = .ok (.iadd, 1) := by decide +kernel
theorem dX3_keep_35 : decode cX3_keep 35 = .ok (.invokestatic 42, 3) := by decide +kernel
theorem dX3_keep_38 : decode cX3_keep 38 = .ok (.putfield 28, 3) := by decide +kernel
theorem dX3_keep_41 : decode cX3_keep 41 = .ok (.return_, 1) := by decide +kernel
theorem dX3_stepBack_0 : decode cX3_stepBack 0 = .ok (.aload_n 0, 1) := by decide +kernel
theorem dX3_stepBack_1 : decode cX3_stepBack 1 = .ok (.getfield 28, 3) := by decide +kernel
theorem dX3_stepBack_4 : decode cX3_stepBack 4 = .ok (.ifCond .ne 5, 3) := by decide +kernel
theorem dX3_stepBack_7 : decode cX3_stepBack 7 = .ok (.iconst 0, 1) := by decide +kernel
theorem dX3_stepBack_8 : decode cX3_stepBack 8 = .ok (.ireturn, 1) := by decide +kernel
theorem dX3_stepBack_9 : decode cX3_stepBack 9 = .ok (.aload_n 0, 1) := by decide +kernel
theorem dX3_stepBack_10 : decode cX3_stepBack 10 = .ok (.aload_n 0, 1) := by decide +kernel
theorem dX3_stepBack_11 : decode cX3_stepBack 11 = .ok (.getfield 35, 3) := by decide +kernel
theorem dX3_stepBack_14 : decode cX3_stepBack 14 = .ok (.bipush 16, 2) := by decide +kernel
theorem dX3_stepBack_16 : decode cX3_stepBack 16 = .ok (.iadd, 1) := by decide +kernel
theorem dX3_stepBack_17 : decode cX3_stepBack 17 = .ok (.iconst 1, 1) := by decide +kernel
theorem dX3_stepBack_18 : decode cX3_stepBack 18 = .ok (.isub, 1) := by decide +kernel
theorem dX3_stepBack_19 : decode cX3_stepBack 19 = .ok (.bipush 16, 2) := by decide +kernel
theorem dX3_stepBack_21 : decode cX3_stepBack 21 = .ok (.irem, 1) := by decide +kernel
theorem dX3_stepBack_22 : decode cX3_stepBack 22 = .ok (.putfield 35, 3) := by decide +kernel
theorem dX3_stepBack_25 : decode cX3_stepBack 25 = .ok (.aload_n 0, 1) := by decide +kernel
theorem dX3_stepBack_26 : decode cX3_stepBack 26 = .ok (.dup, 1) := by decide +kernel
theorem dX3_stepBack_27 : decode cX3_stepBack 27 = .ok (.getfield 28, 3) := by decide +kernel
theorem dX3_stepBack_30 : decode cX3_stepBack 30 = .ok (.iconst 1, 1) := by decide +kernel
theorem dX3_stepBack_31 : decode cX3_stepBack 31 = .ok (.isub, 1) := by decide +kernel
theorem dX3_stepBack_32 : decode cX3_stepBack 32 = .ok (.putfield 28, 3) := by decide +kernel
theorem dX3_stepBack_35 : decode cX3_stepBack 35 = .ok (.aload_n 1, 1) := by decide +kernel
theorem dX3_stepBack_36 : decode cX3_stepBack 36 = .ok (.aload_n 0, 1) := by decide +kernel
theorem dX3_stepBack_37 : decode cX3_stepBack 37 = .ok (.getfield 11, 3) := by decide +kernel
theorem dX3_stepBack_40 : decode cX3_stepBack 40 = .ok (.aload_n 0, 1) := by decide +kernel
theorem dX3_stepBack_41 : decode cX3_stepBack 41 = .ok (.getfield 35, 3) := by decide +kernel
theorem dX3_stepBack_44 : decode cX3_stepBack 44 = .ok (.aaload, 1) := by decide +kernel
theorem dX3_stepBack_45 : decode cX3_stepBack 45 = .ok (.invokevirtual 38, 3) := by decide +kernel
theorem dX3_stepBack_48 : decode cX3_stepBack 48 = .ok (.iconst 1, 1) := by decide +kernel
theorem dX3_stepBack_49 : decode cX3_stepBack 49 = .ok (.ireturn, 1) := by decide +kernel
theorem dX3_lay_0 : decode cX3_lay 0 = .ok (.aload_n 0, 1) := by decide +kernel
theorem dX3_lay_1 : decode cX3_lay 1 = .ok (.getfield 17, 3) := by decide +kernel
theorem dX3_lay_4 : decode cX3_lay 4 = .ok (.iload_n 1, 1) := by decide +kernel
theorem dX3_lay_5 : decode cX3_lay 5 = .ok (.aaload, 1) := by decide +kernel
theorem dX3_lay_6 : decode cX3_lay 6 = .ok (.aload_n 2, 1) := by decide +kernel
theorem dX3_lay_7 : decode cX3_lay 7 = .ok (.invokevirtual 38, 3) := by decide +kernel
theorem dX3_lay_10 : decode cX3_lay 10 = .ok (.aload_n 0, 1) := by decide +kernel
theorem dX3_lay_11 : decode cX3_lay 11 = .ok (.getfield 22, 3) := by decide +kernel
theorem dX3_lay_14 : decode cX3_lay 14 = .ok (.iload_n 1, 1) := by decide +kernel
theorem dX3_lay_15 : decode cX3_lay 15 = .ok (.aaload, 1) := by decide +kernel
theorem dX3_lay_16 : decode cX3_lay 16 = .ok (.aload_n 3, 1) := by decide +kernel
theorem dX3_lay_17 : decode cX3_lay 17 = .ok (.invokevirtual 48, 3) := by decide +kernel
theorem dX3_lay_20 : decode cX3_lay 20 = .ok (.aload_n 0, 1) := by decide +kernel
theorem dX3_lay_21 : decode cX3_lay 21 = .ok (.dup, 1) := by decide +kernel
theorem dX3_lay_22 : decode cX3_lay 22 = .ok (.getfield 32, 3) := by decide +kernel
theorem dX3_lay_25 : decode cX3_lay 25 = .ok (.iconst 1, 1) := by decide +kernel
theorem dX3_lay_26 : decode cX3_lay 26 = .ok (.iload_n 1, 1) := by decide +kernel
theorem dX3_lay_27 : decode cX3_lay 27 = .ok (.ishl, 1) := by decide +kernel
theorem dX3_lay_28 : decode cX3_lay 28 = .ok (.ior, 1) := by decide +kernel
theorem dX3_lay_29 : decode cX3_lay 29 = .ok (.putfield 32, 3) := by decide +kernel
theorem dX3_lay_32 : decode cX3_lay 32 = .ok (.return_, 1) := by decide +kernel
theorem dX3_goBack_0 : decode cX3_goBack 0 = .ok (.aload_n 0, 1) := by decide +kernel
theorem dX3_goBack_1 : decode cX3_goBack 1 = .ok (.getfield 32, 3) := by decide +kernel
theorem dX3_goBack_4 : decode cX3_goBack 4 = .ok (.iload_n 1, 1) := by decide +kernel
theorem dX3_goBack_5 : decode cX3_goBack 5 = .ok (.invokestatic 51, 3) := by decide +kernel
theorem dX3_goBack_8 : decode cX3_goBack 8 = .ok (.ifCond .ne 5, 3) := by decide +kernel
theorem dX3_goBack_11 : decode cX3_goBack 11 = .ok (.iconst 0, 1) := by decide +kernel
theorem dX3_goBack_12 : decode cX3_goBack 12 = .ok (.ireturn, 1) := by decide +kernel
theorem dX3_goBack_13 : decode cX3_goBack 13 = .ok (.aload_n 2, 1) := by decide +kernel
theorem dX3_goBack_14 : decode cX3_goBack 14 = .ok (.aload_n 0, 1) := by decide +kernel
theorem dX3_goBack_15 : decode cX3_goBack 15 = .ok (.getfield 17, 3) := by decide +kernel
theorem dX3_goBack_18 : decode cX3_goBack 18 = .ok (.iload_n 1, 1) := by decide +kernel
theorem dX3_goBack_19 : decode cX3_goBack 19 = .ok (.aaload, 1) := by decide +kernel
theorem dX3_goBack_20 : decode cX3_goBack 20 = .ok (.invokevirtual 38, 3) := by decide +kernel
theorem dX3_goBack_23 : decode cX3_goBack 23 = .ok (.aload_n 3, 1) := by decide +kernel
theorem dX3_goBack_24 : decode cX3_goBack 24 = .ok (.aload_n 0, 1) := by decide +kernel
theorem dX3_goBack_25 : decode cX3_goBack 25 = .ok (.getfield 22, 3) := by decide +kernel
theorem dX3_goBack_28 : decode cX3_goBack 28 = .ok (.iload_n 1, 1) := by decide +kernel
theorem dX3_goBack_29 : decode cX3_goBack 29 = .ok (.aaload, 1) := by decide +kernel
theorem dX3_goBack_30 : decode cX3_goBack 30 = .ok (.invokevirtual 48, 3) := by decide +kernel
theorem dX3_goBack_33 : decode cX3_goBack 33 = .ok (.aload_n 0, 1) := by decide +kernel
theorem dX3_goBack_34 : decode cX3_goBack 34 = .ok (.iconst 0, 1) := by decide +kernel
theorem dX3_goBack_35 : decode cX3_goBack 35 = .ok (.putfield 28, 3) := by decide +kernel
theorem dX3_goBack_38 : decode cX3_goBack 38 = .ok (.iconst 1, 1) := by decide +kernel
theorem dX3_goBack_39 : decode cX3_goBack 39 = .ok (.ireturn, 1) := by decide +kernel
theorem dX4_init_0 : decode cX4_init 0 = .ok (.aload_n 0, 1) := by decide +kernel
theorem dX4_init_1 : decode cX4_init 1 = .ok (.invokespecial 3, 3) := by decide +kernel
theorem dX4_init_4 : decode cX4_init 4 = .ok (.aload_n 0, 1) := by decide +kernel
theorem dX4_init_5 : decode cX4_init 5 = .ok (.bipush 8, 2) := by decide +kernel
theorem dX4_init_7 : decode cX4_init 7 = .ok (.newarray .int, 2) := by decide +kernel
theorem dX4_init_9 : decode cX4_init 9 = .ok (.putfield 9, 3) := by decide +kernel
theorem dX4_init_12 : decode cX4_init 12 = .ok (.aload_n 0, 1) := by decide +kernel
theorem dX4_init_13 : decode cX4_init 13 = .ok (.bipush 8, 2) := by decide +kernel
theorem dX4_init_15 : decode cX4_init 15 = .ok (.newarray .int, 2) := by decide +kernel
theorem dX4_init_17 : decode cX4_init 17 = .ok (.putfield 15, 3) := by decide +kernel
theorem dX4_init_20 : decode cX4_init 20 = .ok (.aload_n 0, 1) := by decide +kernel
theorem dX4_init_21 : decode cX4_init 21 = .ok (.bipush 8, 2) := by decide +kernel
theorem dX4_init_23 : decode cX4_init 23 = .ok (.newarray .boolean, 2) := by decide +kernel
theorem dX4_init_25 : decode cX4_init 25 = .ok (.putfield 18, 3) := by decide +kernel
theorem dX4_init_28 : decode cX4_init 28 = .ok (.return_, 1) := by decide +kernel
theorem dX4_add_0 : decode cX4_add 0 = .ok (.aload_n 0, 1) := by decide +kernel
theorem dX4_add_1 : decode cX4_add 1 = .ok (.getfield 22, 3) := by decide +kernel
theorem dX4_add_4 : decode cX4_add 4 = .ok (.bipush 8, 2) := by decide +kernel
theorem dX4_add_6 : decode cX4_add 6 = .ok (.if_icmp .lt 5, 3) := by decide +kernel
theorem dX4_add_9 : decode cX4_add 9 = .ok (.iconst 0, 1) := by decide +kernel
theorem dX4_add_10 : decode cX4_add 10 = .ok (.ireturn, 1) := by decide +kernel
theorem dX4_add_11 : decode cX4_add 11 = .ok (.aload_n 0, 1) := by decide +kernel
theorem dX4_add_12 : decode cX4_add 12 = .ok (.getfield 9, 3) := by decide +kernel
theorem dX4_add_15 : decode cX4_add 15 = .ok (.aload_n 0, 1) := by decide +kernel
theorem dX4_add_16 : decode cX4_add 16 = .ok (.getfield 22, 3) := by decide +kernel
theorem dX4_add_19 : decode cX4_add 19 = .ok (.iload_n 1, 1) := by decide +kernel
theorem dX4_add_20 : decode cX4_add 20 = .ok (.iastore, 1) := by decide +kernel
theorem dX4_add_21 : decode cX4_add 21 = .ok (.aload_n 0, 1) := by decide +kernel
theorem dX4_add_22 : decode cX4_add 22 = .ok (.getfield 15, 3) := by decide +kernel
theorem dX4_add_25 : decode cX4_add 25 = .ok (.aload_n 0, 1) := by decide +kernel
theorem dX4_add_26 : decode cX4_add 26 = .ok (.getfield 22, 3) := by decide +kernel
theorem dX4_add_29 : decode cX4_add 29 = .ok (.iload_n 2, 1) := by decide +kernel
theorem dX4_add_30 : decode cX4_add 30 = .ok (.iastore, 1) := by decide +kernel
theorem dX4_add_31 : decode cX4_add 31 = .ok (.aload_n 0, 1) := by decide +kernel
theorem dX4_add_32 : decode cX4_add 32 = .ok (.getfield 18, 3) := by decide +kernel
theorem dX4_add_35 : decode cX4_add 35 = .ok (.aload_n 0, 1) := by decide +kernel
theorem dX4_add_36 : decode cX4_add 36 = .ok (.getfield 22, 3) := by decide +kernel
theorem dX4_add_39 : decode cX4_add 39 = .ok (.iload_n 3, 1) := by decide +kernel
theorem dX4_add_40 : decode cX4_add 40 = .ok (.bastore, 1) := by decide +kernel
theorem dX4_add_41 : decode cX4_add 41 = .ok (.aload_n 0, 1) := by decide +kernel
theorem dX4_add_42 : decode cX4_add 42 = .ok (.dup, 1) := by decide +kernel
theorem dX4_add_43 : decode cX4_add 43 = .ok (.getfield 22, 3) := by decide +kernel
theorem dX4_add_46 : decode cX4_add 46 = .ok (.iconst 1, 1) := by decide +kernel
theorem dX4_add_47 : decode cX4_add 47 = .ok (.iadd, 1) := by decide +kernel
theorem dX4_add_48 : decode cX4_add 48 = .ok (.putfield 22, 3) := by decide +kernel
theorem dX4_add_51 : decode cX4_add 51 = .ok (.iconst 1, 1) := by decide +kernel
theorem dX4_add_52 : decode cX4_add 52 = .ok (.ireturn, 1) := by decide +kernel
theorem dX4_become_0 : decode cX4_become 0 = .ok (.aload_n 0, 1) := by decide +kernel
theorem dX4_become_1 : decode cX4_become 1 = .ok (.aload_n 1, 1) := by decide +kernel
theorem dX4_become_2 : decode cX4_become 2 = .ok (.getfield 22, 3) := by decide +kernel
theorem dX4_become_5 : decode cX4_become 5 = .ok (.putfield 22, 3) := by decide +kernel
theorem dX4_become_8 : decode cX4_become 8 = .ok (.iconst 0, 1) := by decide +kernel
theorem dX4_become_9 : decode cX4_become 9 = .ok (.istore_n 2, 1) := by decide +kernel
theorem dX4_become_10 : decode cX4_become 10 = .ok (.iload_n 2, 1) := by decide +kernel
theorem dX4_become_11 : decode cX4_become 11 = .ok (.bipush 8, 2) := by decide +kernel
theorem dX4_become_13 : decode cX4_become 13 = .ok (.if_icmp .ge 45, 3) := by decide +kernel
theorem dX4_become_16 : decode cX4_become 16 = .ok (.aload_n 0, 1) := by decide +kernel
theorem dX4_become_17 : decode cX4_become 17 = .ok (.getfield 9, 3) := by decide +kernel
theorem dX4_become_20 : decode cX4_become 20 = .ok (.iload_n 2, 1) := by decide +kernel
theorem dX4_become_21 : decode cX4_become 21 = .ok (.aload_n 1, 1) := by decide +kernel
theorem dX4_become_22 : decode cX4_become 22 = .ok (.getfield 9, 3) := by decide +kernel
theorem dX4_become_25 : decode cX4_become 25 = .ok (.iload_n 2, 1) := by decide +kernel
theorem dX4_become_26 : decode cX4_become 26 = .ok (.iaload, 1) := by decide +kernel
theorem dX4_become_27 : decode cX4_become 27 = .ok (.iastore, 1) := by decide +kernel
theorem dX4_become_28 : decode cX4_become 28 = .ok (.aload_n 0, 1) := by decide +kernel
theorem dX4_become_29 : decode cX4_become 29 = .ok (.getfield 15, 3) := by decide +kernel
theorem dX4_become_32 : decode cX4_become 32 = .ok (.iload_n 2, 1) := by decide +kernel
theorem dX4_become_33 : decode cX4_become 33 = .ok (.aload_n 1, 1) := by decide +kernel
theorem dX4_become_34 : decode cX4_become 34 = .ok (.getfield 15, 3) := by decide +kernel
theorem dX4_become_37 : decode cX4_become 37 = .ok (.iload_n 2, 1) := by decide +kernel
theorem dX4_become_38 : decode cX4_become 38 = .ok (.iaload, 1) := by decide +kernel
theorem dX4_become_39 : decode cX4_become 39 = .ok (.iastore, 1) := by decide +kernel
theorem dX4_become_40 : decode cX4_become 40 = .ok (.aload_n 0, 1) := by decide +kernel
theorem dX4_become_41 : decode cX4_become 41 = .ok (.getfield 18, 3) := by decide +kernel
theorem dX4_become_44 : decode cX4_become 44 = .ok (.iload_n 2, 1) := by decide +kernel
theorem dX4_become_45 : decode cX4_become 45 = .ok (.aload_n 1, 1) := by decide +kernel
theorem dX4_become_46 : decode cX4_become 46 = .ok (.getfield 18, 3) := by decide +kernel
theorem dX4_become_49 : decode cX4_become 49 = .ok (.iload_n 2, 1) := by decide +kernel
theorem dX4_become_50 : decode cX4_become 50 = .ok (.baload, 1) := by decide +kernel
theorem dX4_become_51 : decode cX4_become 51 = .ok (.bastore, 1) := by decide +kernel
theorem dX4_become_52 : decode cX4_become 52 = .ok (.iinc 2 1, 3) := by decide +kernel
theorem dX4_become_55 : decode cX4_become 55 = .ok (.goto (-45), 3) := by decide +kernel
theorem dX4_become_58 : decode cX4_become 58 = .ok (.return_, 1) := by decide +kernel
theorem dX4_agreeWith_0 : decode cX4_agreeWith 0 = .ok (.iconst 0, 1) := by decide +kernel
theorem dX4_agreeWith_1 : decode cX4_agreeWith 1 = .ok (.istore_n 2, 1) := by decide +kernel
theorem dX4_agreeWith_2 : decode cX4_agreeWith 2 = .ok (.iload_n 2, 1) := by decide +kernel
theorem dX4_agreeWith_3 : decode cX4_agreeWith 3 = .ok (.aload_n 0, 1) := by decide +kernel
theorem dX4_agreeWith_4 : decode cX4_agreeWith 4 = .ok (.getfield 22, 3) := by decide +kernel
theorem dX4_agreeWith_7 : decode cX4_agreeWith 7 = .ok (.if_icmp .ge 42, 3) := by decide +kernel
theorem dX4_agreeWith_10 : decode cX4_agreeWith 10 = .ok (.aload_n 1, 1) := by decide +kernel
theorem dX4_agreeWith_11 : decode cX4_agreeWith 11 = .ok (.aload_n 0, 1) := by decide +kernel
theorem dX4_agreeWith_12 : decode cX4_agreeWith 12 = .ok (.getfield 9, 3) := by decide +kernel
theorem dX4_agreeWith_15 : decode cX4_agreeWith 15 = .ok (.iload_n 2, 1) := by decide +kernel
theorem dX4_agreeWith_16 : decode cX4_agreeWith 16 = .ok (.iaload, 1) := by decide +kernel
theorem dX4_agreeWith_17 : decode cX4_agreeWith 17 = .ok (.iaload, 1) := by decide +kernel
theorem dX4_agreeWith_18 : decode cX4_agreeWith 18 = .ok (.aload_n 0, 1) := by decide +kernel
theorem dX4_agreeWith_19 : decode cX4_agreeWith 19 = .ok (.getfield 15, 3) := by decide +kernel
theorem dX4_agreeWith_22 : decode cX4_agreeWith 22 = .ok (.iload_n 2, 1) := by decide +kernel
theorem dX4_agreeWith_23 : decode cX4_agreeWith 23 = .ok (.iaload, 1) := by decide +kernel
theorem dX4_agreeWith_24 : decode cX4_agreeWith 24 = .ok (.if_icmp .le 7, 3) := by decide +kernel
theorem dX4_agreeWith_27 : decode cX4_agreeWith 27 = .ok (.iconst 1, 1) := by decide +kernel
theorem dX4_agreeWith_28 : decode cX4_agreeWith 28 = .ok (.goto 4, 3) := by decide +kernel
theorem dX4_agreeWith_31 : decode cX4_agreeWith 31 = .ok (.iconst 0, 1) := by decide +kernel
theorem dX4_agreeWith_32 : decode cX4_agreeWith 32 = .ok (.aload_n 0, 1) := by decide +kernel
theorem dX4_agreeWith_33 : decode cX4_agreeWith 33 = .ok (.getfield 18, 3) := by decide +kernel
theorem dX4_agreeWith_36 : decode cX4_agreeWith 36 = .ok (.iload_n 2, 1) := by decide +kernel
theorem dX4_agreeWith_37 : decode cX4_agreeWith 37 = .ok (.baload, 1) := by decide +kernel
theorem dX4_agreeWith_38 : decode cX4_agreeWith 38 = .ok (.if_icmp .eq 5, 3) := by decide +kernel
theorem dX4_agreeWith_41 : decode cX4_agreeWith 41 = .ok (.iconst 0, 1) := by decide +kernel
theorem dX4_agreeWith_42 : decode cX4_agreeWith 42 = .ok (.ireturn, 1) := by decide +kernel
theorem dX4_agreeWith_43 : decode cX4_agreeWith 43 = .ok (.iinc 2 1, 3) := by decide +kernel
theorem dX4_agreeWith_46 : decode cX4_agreeWith 46 = .ok (.goto (-44), 3) := by decide +kernel
theorem dX4_agreeWith_49 : decode cX4_agreeWith 49 = .ok (.iconst 1, 1) := by decide +kernel
theorem dX4_agreeWith_50 : decode cX4_agreeWith 50 = .ok (.ireturn, 1) := by decide +kernel
theorem dX5_init_0 : decode cX5_init 0 = .ok (.aload_n 0, 1) := by decide +kernel
theorem dX5_init_1 : decode cX5_init 1 = .ok (.invokespecial 3, 3) := by decide +kernel
theorem dX5_init_4 : decode cX5_init 4 = .ok (.aload_n 0, 1) := by decide +kernel
theorem dX5_init_5 : decode cX5_init 5 = .ok (.bipush 8, 2) := by decide +kernel
theorem dX5_init_7 : decode cX5_init 7 = .ok (.newarray .int, 2) := by decide +kernel
theorem dX5_init_9 : decode cX5_init 9 = .ok (.putfield 9, 3) := by decide +kernel
theorem dX5_init_12 : decode cX5_init 12 = .ok (.aload_n 0, 1) := by decide +kernel
theorem dX5_init_13 : decode cX5_init 13 = .ok (.bipush 6, 2) := by decide +kernel
theorem dX5_init_15 : decode cX5_init 15 = .ok (.newarray .int, 2) := by decide +kernel
theorem dX5_init_17 : decode cX5_init 17 = .ok (.putfield 15, 3) := by decide +kernel
theorem dX5_init_20 : decode cX5_init 20 = .ok (.aload_n 0, 1) := by decide +kernel
theorem dX5_init_21 : decode cX5_init 21 = .ok (.bipush 6, 2) := by decide +kernel
theorem dX5_init_23 : decode cX5_init 23 = .ok (.newarray .int, 2) := by decide +kernel
theorem dX5_init_25 : decode cX5_init 25 = .ok (.putfield 18, 3) := by decide +kernel
theorem dX5_init_28 : decode cX5_init 28 = .ok (.return_, 1) := by decide +kernel
theorem dX5_begin_0 : decode cX5_begin 0 = .ok (.aload_n 0, 1) := by decide +kernel
theorem dX5_begin_1 : decode cX5_begin 1 = .ok (.iconst 0, 1) := by decide +kernel
theorem dX5_begin_2 : decode cX5_begin 2 = .ok (.putfield 21, 3) := by decide +kernel
theorem dX5_begin_5 : decode cX5_begin 5 = .ok (.aload_n 0, 1) := by decide +kernel
theorem dX5_begin_6 : decode cX5_begin 6 = .ok (.iconst 0, 1) := by decide +kernel
theorem dX5_begin_7 : decode cX5_begin 7 = .ok (.putfield 25, 3) := by decide +kernel
theorem dX5_begin_10 : decode cX5_begin 10 = .ok (.aload_n 0, 1) := by decide +kernel
theorem dX5_begin_11 : decode cX5_begin 11 = .ok (.iconst 0, 1) := by decide +kernel
theorem dX5_begin_12 : decode cX5_begin 12 = .ok (.putfield 28, 3) := by decide +kernel
theorem dX5_begin_15 : decode cX5_begin 15 = .ok (.aload_n 0, 1) := by decide +kernel
theorem dX5_begin_16 : decode cX5_begin 16 = .ok (.iconst 0, 1) := by decide +kernel
theorem dX5_begin_17 : decode cX5_begin 17 = .ok (.putfield 31, 3) := by decide +kernel
theorem dX5_begin_20 : decode cX5_begin 20 = .ok (.iconst 0, 1) := by decide +kernel
theorem dX5_begin_21 : decode cX5_begin 21 = .ok (.istore_n 2, 1) := by decide +kernel
theorem dX5_begin_22 : decode cX5_begin 22 = .ok (.iload_n 2, 1) := by decide +kernel
theorem dX5_begin_23 : decode cX5_begin 23 = .ok (.bipush 8, 2) := by decide +kernel
theorem dX5_begin_25 : decode cX5_begin 25 = .ok (.if_icmp .ge 35, 3) := by decide +kernel
theorem dX5_begin_28 : decode cX5_begin 28 = .ok (.aload_n 0, 1) := by decide +kernel
theorem dX5_begin_29 : decode cX5_begin 29 = .ok (.getfield 9, 3) := by decide +kernel
theorem dX5_begin_32 : decode cX5_begin 32 = .ok (.iload_n 2, 1) := by decide +kernel
theorem dX5_begin_33 : decode cX5_begin 33 = .ok (.iload_n 2, 1) := by decide +kernel
theorem dX5_begin_34 : decode cX5_begin 34 = .ok (.aload_n 1, 1) := by decide +kernel
theorem dX5_begin_35 : decode cX5_begin 35 = .ok (.getfield 34, 3) := by decide +kernel
theorem dX5_begin_38 : decode cX5_begin 38 = .ok (.if_icmp .ge 14, 3) := by decide +kernel
theorem dX5_begin_41 : decode cX5_begin 41 = .ok (.iconst 3, 1) := by decide +kernel
theorem dX5_begin_42 : decode cX5_begin 42 = .ok (.aload_n 1, 1) := by decide +kernel
theorem dX5_begin_43 : decode cX5_begin 43 = .ok (.getfield 39, 3) := by decide +kernel
theorem dX5_begin_46 : decode cX5_begin 46 = .ok (.iload_n 2, 1) := by decide +kernel
theorem dX5_begin_47 : decode cX5_begin 47 = .ok (.iaload, 1) := by decide +kernel
theorem dX5_begin_48 : decode cX5_begin 48 = .ok (.imul, 1) := by decide +kernel
theorem dX5_begin_49 : decode cX5_begin 49 = .ok (.goto 4, 3) := by decide +kernel
theorem dX5_begin_52 : decode cX5_begin 52 = .ok (.iconst 0, 1) := by decide +kernel
theorem dX5_begin_53 : decode cX5_begin 53 = .ok (.iastore, 1) := by decide +kernel
theorem dX5_begin_54 : decode cX5_begin 54 = .ok (.iinc 2 1, 3) := by decide +kernel
theorem dX5_begin_57 : decode cX5_begin 57 = .ok (.goto (-35), 3) := by decide +kernel
theorem dX5_begin_60 : decode cX5_begin 60 = .ok (.iconst 0, 1) := by decide +kernel
theorem dX5_begin_61 : decode cX5_begin 61 = .ok (.istore_n 2, 1) := by decide +kernel
theorem dX5_begin_62 : decode cX5_begin 62 = .ok (.iload_n 2, 1) := by decide +kernel
theorem dX5_begin_63 : decode cX5_begin 63 = .ok (.bipush 6, 2) := by decide +kernel
theorem dX5_begin_65 : decode cX5_begin 65 = .ok (.if_icmp .ge 40, 3) := by decide +kernel
theorem dX5_begin_68 : decode cX5_begin 68 = .ok (.aload_n 0, 1) := by decide +kernel
theorem dX5_begin_69 : decode cX5_begin 69 = .ok (.getfield 15, 3) := by decide +kernel
theorem dX5_begin_72 : decode cX5_begin 72 = .ok (.iload_n 2, 1) := by decide +kernel
theorem dX5_begin_73 : decode cX5_begin 73 = .ok (.iconst 0, 1) := by decide +kernel
theorem dX5_begin_74 : decode cX5_begin 74 = .ok (.iastore, 1) := by decide +kernel
theorem dX5_begin_75 : decode cX5_begin 75 = .ok (.aload_n 0, 1) := by decide +kernel
theorem dX5_begin_76 : decode cX5_begin 76 = .ok (.getfield 18, 3) := by decide +kernel
theorem dX5_begin_79 : decode cX5_begin 79 = .ok (.iload_n 2, 1) := by decide +kernel
theorem dX5_begin_80 : decode cX5_begin 80 = .ok (.iload_n 2, 1) := by decide +kernel
theorem dX5_begin_81 : decode cX5_begin 81 = .ok (.aload_n 1, 1) := by decide +kernel
theorem dX5_begin_82 : decode cX5_begin 82 = .ok (.getfield 42, 3) := by decide +kernel
theorem dX5_begin_85 : decode cX5_begin 85 = .ok (.if_icmp .ge 12, 3) := by decide +kernel
theorem dX5_begin_88 : decode cX5_begin 88 = .ok (.aload_n 1, 1) := by decide +kernel
theorem dX5_begin_89 : decode cX5_begin 89 = .ok (.getfield 45, 3) := by decide +kernel
theorem dX5_begin_92 : decode cX5_begin 92 = .ok (.iload_n 2, 1) := by decide +kernel
theorem dX5_begin_93 : decode cX5_begin 93 = .ok (.iaload, 1) := by decide +kernel
theorem dX5_begin_94 : decode cX5_begin 94 = .ok (.goto 4, 3) := by decide +kernel
theorem dX5_begin_97 : decode cX5_begin 97 = .ok (.iconst 0, 1) := by decide +kernel
theorem dX5_begin_98 : decode cX5_begin 98 = .ok (.iastore, 1) := by decide +kernel
theorem dX5_begin_99 : decode cX5_begin 99 = .ok (.iinc 2 1, 3) := by decide +kernel
theorem dX5_begin_102 : decode cX5_begin 102 = .ok (.goto (-40), 3) := by decide +kernel
theorem dX5_begin_105 : decode cX5_begin 105 = .ok (.return_, 1) := by decide +kernel
theorem dX5_become_0 : decode cX5_become 0 = .ok (.aload_n 0, 1) := by decide +kernel
theorem dX5_become_1 : decode cX5_become 1 = .ok (.aload_n 1, 1) := by decide +kernel
theorem dX5_become_2 : decode cX5_become 2 = .ok (.getfield 21, 3) := by decide +kernel
theorem dX5_become_5 : decode cX5_become 5 = .ok (.putfield 21, 3) := by decide +kernel
theorem dX5_become_8 : decode cX5_become 8 = .ok (.aload_n 0, 1) := by decide +kernel
theorem dX5_become_9 : decode cX5_become 9 = .ok (.aload_n 1, 1) := by decide +kernel
theorem dX5_become_10 : decode cX5_become 10 = .ok (.getfield 25, 3) := by decide +kernel
theorem dX5_become_13 : decode cX5_become 13 = .ok (.putfield 25, 3) := by decide +kernel
theorem dX5_become_16 : decode cX5_become 16 = .ok (.aload_n 0, 1) := by decide +kernel
theorem dX5_become_17 : decode cX5_become 17 = .ok (.aload_n 1, 1) := by decide +kernel
theorem dX5_become_18 : decode cX5_become 18 = .ok (.getfield 28, 3) := by decide +kernel
theorem dX5_become_21 : decode cX5_become 21 = .ok (.putfield 28, 3) := by decide +kernel
theorem dX5_become_24 : decode cX5_become 24 = .ok (.aload_n 0, 1) := by decide +kernel
theorem dX5_become_25 : decode cX5_become 25 = .ok (.aload_n 1, 1) := by decide +kernel
theorem dX5_become_26 : decode cX5_become 26 = .ok (.getfield 31, 3) := by decide +kernel
theorem dX5_become_29 : decode cX5_become 29 = .ok (.putfield 31, 3) := by decide +kernel
theorem dX5_become_32 : decode cX5_become 32 = .ok (.aload_n 1, 1) := by decide +kernel
theorem dX5_become_33 : decode cX5_become 33 = .ok (.getfield 9, 3) := by decide +kernel
theorem dX5_become_36 : decode cX5_become 36 = .ok (.iconst 0, 1) := by decide +kernel
theorem dX5_become_37 : decode cX5_become 37 = .ok (.aload_n 0, 1) := by decide +kernel
theorem dX5_become_38 : decode cX5_become 38 = .ok (.getfield 9, 3) := by decide +kernel
theorem dX5_become_41 : decode cX5_become 41 = .ok (.iconst 0, 1) := by decide +kernel
theorem dX5_become_42 : decode cX5_become 42 = .ok (.bipush 8, 2) := by decide +kernel
theorem dX5_become_44 : decode cX5_become 44 = .ok (.invokestatic 46, 3) := by decide +kernel
theorem dX5_become_47 : decode cX5_become 47 = .ok (.aload_n 1, 1) := by decide +kernel
theorem dX5_become_48 : decode cX5_become 48 = .ok (.getfield 15, 3) := by decide +kernel
theorem dX5_become_51 : decode cX5_become 51 = .ok (.iconst 0, 1) := by decide +kernel
theorem dX5_become_52 : decode cX5_become 52 = .ok (.aload_n 0, 1) := by decide +kernel
theorem dX5_become_53 : decode cX5_become 53 = .ok (.getfield 15, 3) := by decide +kernel
theorem dX5_become_56 : decode cX5_become 56 = .ok (.iconst 0, 1) := by decide +kernel
theorem dX5_become_57 : decode cX5_become 57 = .ok (.bipush 6, 2) := by decide +kernel
theorem dX5_become_59 : decode cX5_become 59 = .ok (.invokestatic 46, 3) := by decide +kernel
theorem dX5_become_62 : decode cX5_become 62 = .ok (.aload_n 1, 1) := by decide +kernel
theorem dX5_become_63 : decode cX5_become 63 = .ok (.getfield 18, 3) := by decide +kernel
theorem dX5_become_66 : decode cX5_become 66 = .ok (.iconst 0, 1) := by decide +kernel
theorem dX5_become_67 : decode cX5_become 67 = .ok (.aload_n 0, 1) := by decide +kernel
theorem dX5_become_68 : decode cX5_become 68 = .ok (.getfield 18, 3) := by decide +kernel
theorem dX5_become_71 : decode cX5_become 71 = .ok (.iconst 0, 1) := by decide +kernel
theorem dX5_become_72 : decode cX5_become 72 = .ok (.bipush 6, 2) := by decide +kernel
theorem dX5_become_74 : decode cX5_become 74 = .ok (.invokestatic 46, 3) := by decide +kernel
theorem dX5_become_77 : decode cX5_become 77 = .ok (.return_, 1) := by decide +kernel
theorem dX5_isForgiven_0 : decode cX5_isForgiven 0 = .ok (.aload_n 0, 1) := by decide +kernel
theorem dX5_isForgiven_1 : decode cX5_isForgiven 1 = .ok (.getfield 28, 3) := by decide +kernel
theorem dX5_isForgiven_4 : decode cX5_isForgiven 4 = .ok (.iload_n 1, 1) := by decide +kernel
theorem dX5_isForgiven_5 : decode cX5_isForgiven 5 = .ok (.invokestatic 52, 3) := by decide +kernel
theorem dX5_isForgiven_8 : decode cX5_isForgiven 8 = .ok (.ireturn, 1) := by decide +kernel
theorem dX5_isSaid_0 : decode cX5_isSaid 0 = .ok (.aload_n 0, 1) := by decide +kernel
theorem dX5_isSaid_1 : decode cX5_isSaid 1 = .ok (.getfield 31, 3) := by decide +kernel
theorem dX5_isSaid_4 : decode cX5_isSaid 4 = .ok (.iload_n 1, 1) := by decide +kernel
theorem dX5_isSaid_5 : decode cX5_isSaid 5 = .ok (.invokestatic 52, 3) := by decide +kernel
theorem dX5_isSaid_8 : decode cX5_isSaid 8 = .ok (.ireturn, 1) := by decide +kernel
theorem dX5_isRipe_0 : decode cX5_isRipe 0 = .ok (.aload_n 0, 1) := by decide +kernel
theorem dX5_isRipe_1 : decode cX5_isRipe 1 = .ok (.iload_n 2, 1) := by decide +kernel
theorem dX5_isRipe_2 : decode cX5_isRipe 2 = .ok (.invokevirtual 56, 3) := by decide +kernel
theorem dX5_isRipe_5 : decode cX5_isRipe 5 = .ok (.ifCond .ne 21, 3) := by decide +kernel
theorem dX5_isRipe_8 : decode cX5_isRipe 8 = .ok (.aload_n 0, 1) := by decide +kernel
theorem dX5_isRipe_9 : decode cX5_isRipe 9 = .ok (.getfield 9, 3) := by decide +kernel
theorem dX5_isRipe_12 : decode cX5_isRipe 12 = .ok (.iload_n 2, 1) := by decide +kernel
theorem dX5_isRipe_13 : decode cX5_isRipe 13 = .ok (.iaload, 1) := by decide +kernel
theorem dX5_isRipe_14 : decode cX5_isRipe 14 = .ok (.aload_n 1, 1) := by decide +kernel
theorem dX5_isRipe_15 : decode cX5_isRipe 15 = .ok (.iload_n 2, 1) := by decide +kernel
theorem dX5_isRipe_16 : decode cX5_isRipe 16 = .ok (.invokevirtual 60, 3) := by decide +kernel
theorem dX5_isRipe_19 : decode cX5_isRipe 19 = .ok (.if_icmp .gt 7, 3) := by decide +kernel
theorem dX5_isRipe_22 : decode cX5_isRipe 22 = .ok (.iconst 1, 1) := by decide +kernel
theorem dX5_isRipe_23 : decode cX5_isRipe 23 = .ok (.goto 4, 3) := by decide +kernel
theorem dX5_isRipe_26 : decode cX5_isRipe 26 = .ok (.iconst 0, 1) := by decide +kernel
theorem dX5_isRipe_27 : decode cX5_isRipe 27 = .ok (.ireturn, 1) := by decide +kernel
theorem dX5_burningBehind_0 : decode cX5_burningBehind 0 = .ok (.iconst 0, 1) := by decide +kernel
theorem dX5_burningBehind_1 : decode cX5_burningBehind 1 = .ok (.istore_n 2, 1) := by decide +kernel
theorem dX5_burningBehind_2 : decode cX5_burningBehind 2 = .ok (.iconst 0, 1) := by decide +kernel
theorem dX5_burningBehind_3 : decode cX5_burningBehind 3 = .ok (.istore_n 3, 1) := by decide +kernel
theorem dX5_burningBehind_4 : decode cX5_burningBehind 4 = .ok (.iload_n 3, 1) := by decide +kernel
theorem dX5_burningBehind_5 : decode cX5_burningBehind 5 = .ok (.bipush 6, 2) := by decide +kernel
theorem dX5_burningBehind_7 : decode cX5_burningBehind 7 = .ok (.if_icmp .ge 25, 3) := by decide +kernel
theorem dX5_burningBehind_10 : decode cX5_burningBehind 10 = .ok (.aload_n 0, 1) := by decide +kernel
theorem dX5_burningBehind_11 : decode cX5_burningBehind 11 = .ok (.getfield 15, 3) := by decide +kernel
theorem dX5_burningBehind_14 : decode cX5_burningBehind 14 = .ok (.iload_n 3, 1) := by decide +kernel
theorem dX5_burningBehind_15 : decode cX5_burningBehind 15 = .ok (.iaload, 1) := by decide +kernel
theorem dX5_burningBehind_16 : decode cX5_burningBehind 16 = .ok (.iload_n 1, 1) := by decide +kernel
theorem dX5_burningBehind_17 : decode cX5_burningBehind 17 = .ok (.if_icmp .le 9, 3) := by decide +kernel
theorem dX5_burningBehind_20 : decode cX5_burningBehind 20 = .ok (.iload_n 2, 1) := by decide +kernel
theorem dX5_burningBehind_21 : decode cX5_burningBehind 21 = .ok (.iconst 1, 1) := by decide +kernel
theorem dX5_burningBehind_22 : decode cX5_burningBehind 22 = .ok (.iload_n 3, 1) := by decide +kernel
theorem dX5_burningBehind_23 : decode cX5_burningBehind 23 = .ok (.ishl, 1) := by decide +kernel
theorem dX5_burningBehind_24 : decode cX5_burningBehind 24 = .ok (.ior, 1) := by decide +kernel
theorem dX5_burningBehind_25 : decode cX5_burningBehind 25 = .ok (.istore_n 2, 1) := by decide +kernel
theorem dX5_burningBehind_26 : decode cX5_burningBehind 26 = .ok (.iinc 3 1, 3) := by decide +kernel
theorem dX5_burningBehind_29 : decode cX5_burningBehind 29 = .ok (.goto (-25), 3) := by decide +kernel
theorem dX5_burningBehind_32 : decode cX5_burningBehind 32 = .ok (.iload_n 2, 1) := by decide +kernel
theorem dX5_burningBehind_33 : decode cX5_burningBehind 33 = .ok (.ireturn, 1) := by decide +kernel
theorem dX5_coinsOfAll_0 : decode cX5_coinsOfAll 0 = .ok (.iconst 0, 1) := by decide +kernel
theorem dX5_coinsOfAll_1 : decode cX5_coinsOfAll 1 = .ok (.istore_n 1, 1) := by decide +kernel
theorem dX5_coinsOfAll_2 : decode cX5_coinsOfAll 2 = .ok (.iconst 0, 1) := by decide +kernel
theorem dX5_coinsOfAll_3 : decode cX5_coinsOfAll 3 = .ok (.istore_n 2, 1) := by decide +kernel
theorem dX5_coinsOfAll_4 : decode cX5_coinsOfAll 4 = .ok (.iload_n 2, 1) := by decide +kernel
theorem dX5_coinsOfAll_5 : decode cX5_coinsOfAll 5 = .ok (.bipush 6, 2) := by decide +kernel
theorem dX5_coinsOfAll_7 : decode cX5_coinsOfAll 7 = .ok (.if_icmp .ge 18, 3) := by decide +kernel
theorem dX5_coinsOfAll_10 : decode cX5_coinsOfAll 10 = .ok (.iload_n 1, 1) := by decide +kernel
theorem dX5_coinsOfAll_11 : decode cX5_coinsOfAll 11 = .ok (.aload_n 0, 1) := by decide +kernel
theorem dX5_coinsOfAll_12 : decode cX5_coinsOfAll 12 = .ok (.getfield 18, 3) := by decide +kernel
theorem dX5_coinsOfAll_15 : decode cX5_coinsOfAll 15 = .ok (.iload_n 2, 1) := by decide +kernel
theorem dX5_coinsOfAll_16 : decode cX5_coinsOfAll 16 = .ok (.iaload, 1) := by decide +kernel
theorem dX5_coinsOfAll_17 : decode cX5_coinsOfAll 17 = .ok (.iadd, 1) := by decide +kernel
theorem dX5_coinsOfAll_18 : decode cX5_coinsOfAll 18 = .ok (.istore_n 1, 1) := by decide +kernel
theorem dX5_coinsOfAll_19 : decode cX5_coinsOfAll 19 = .ok (.iinc 2 1, 3) := by decide +kernel
theorem dX5_coinsOfAll_22 : decode cX5_coinsOfAll 22 = .ok (.goto (-18), 3) := by decide +kernel
theorem dX5_coinsOfAll_25 : decode cX5_coinsOfAll 25 = .ok (.iload_n 1, 1) := by decide +kernel
theorem dX5_coinsOfAll_26 : decode cX5_coinsOfAll 26 = .ok (.ireturn, 1) := by decide +kernel
theorem dX5_lampNights_0 : decode cX5_lampNights 0 = .ok (.iconst 0, 1) := by decide +kernel
theorem dX5_lampNights_1 : decode cX5_lampNights 1 = .ok (.istore_n 1, 1) := by decide +kernel
theorem dX5_lampNights_2 : decode cX5_lampNights 2 = .ok (.iconst 0, 1) := by decide +kernel
theorem dX5_lampNights_3 : decode cX5_lampNights 3 = .ok (.istore_n 2, 1) := by decide +kernel
theorem dX5_lampNights_4 : decode cX5_lampNights 4 = .ok (.iload_n 2, 1) := by decide +kernel
theorem dX5_lampNights_5 : decode cX5_lampNights 5 = .ok (.bipush 6, 2) := by decide +kernel
theorem dX5_lampNights_7 : decode cX5_lampNights 7 = .ok (.if_icmp .ge 18, 3) := by decide +kernel
theorem dX5_lampNights_10 : decode cX5_lampNights 10 = .ok (.iload_n 1, 1) := by decide +kernel
theorem dX5_lampNights_11 : decode cX5_lampNights 11 = .ok (.aload_n 0, 1) := by decide +kernel
theorem dX5_lampNights_12 : decode cX5_lampNights 12 = .ok (.getfield 15, 3) := by decide +kernel
theorem dX5_lampNights_15 : decode cX5_lampNights 15 = .ok (.iload_n 2, 1) := by decide +kernel
theorem dX5_lampNights_16 : decode cX5_lampNights 16 = .ok (.iaload, 1) := by decide +kernel
theorem dX5_lampNights_17 : decode cX5_lampNights 17 = .ok (.iadd, 1) := by decide +kernel
theorem dX5_lampNights_18 : decode cX5_lampNights 18 = .ok (.istore_n 1, 1) := by decide +kernel
theorem dX5_lampNights_19 : decode cX5_lampNights 19 = .ok (.iinc 2 1, 3) := by decide +kernel
theorem dX5_lampNights_22 : decode cX5_lampNights 22 = .ok (.goto (-18), 3) := by decide +kernel
theorem dX5_lampNights_25 : decode cX5_lampNights 25 = .ok (.iload_n 1, 1) := by decide +kernel
theorem dX5_lampNights_26 : decode cX5_lampNights 26 = .ok (.ireturn, 1) := by decide +kernel
theorem dX5_may_0 : decode cX5_may 0 = .ok (.iload_n 2, 1) := by decide +kernel
theorem dX5_may_1 : decode cX5_may 1 = .ok (.tableswitch 93 0 2 #[27, 49, 79], 27) := by decide +kernel
theorem dX5_may_28 : decode cX5_may 28 = .ok (.aload_n 0, 1) := by decide +kernel
theorem dX5_may_29 : decode cX5_may 29 = .ok (.iload_n 3, 1) := by decide +kernel
theorem dX5_may_30 : decode cX5_may 30 = .ok (.invokevirtual 56, 3) := by decide +kernel
theorem dX5_may_33 : decode cX5_may 33 = .ok (.ifCond .ne 15, 3) := by decide +kernel
theorem dX5_may_36 : decode cX5_may 36 = .ok (.aload_n 0, 1) := by decide +kernel
theorem dX5_may_37 : decode cX5_may 37 = .ok (.iload_n 3, 1) := by decide +kernel
theorem dX5_may_38 : decode cX5_may 38 = .ok (.invokevirtual 64, 3) := by decide +kernel
theorem dX5_may_41 : decode cX5_may 41 = .ok (.ifCond .ne 7, 3) := by decide +kernel
theorem dX5_may_44 : decode cX5_may 44 = .ok (.iconst 1, 1) := by decide +kernel
theorem dX5_may_45 : decode cX5_may 45 = .ok (.goto 4, 3) := by decide +kernel
theorem dX5_may_48 : decode cX5_may 48 = .ok (.iconst 0, 1) := by decide +kernel
theorem dX5_may_49 : decode cX5_may 49 = .ok (.ireturn, 1) := by decide +kernel
theorem dX5_may_50 : decode cX5_may 50 = .ok (.aload_n 0, 1) := by decide +kernel
theorem dX5_may_51 : decode cX5_may 51 = .ok (.iload_n 3, 1) := by decide +kernel
theorem dX5_may_52 : decode cX5_may 52 = .ok (.invokevirtual 56, 3) := by decide +kernel
theorem dX5_may_55 : decode cX5_may 55 = .ok (.ifCond .ne 23, 3) := by decide +kernel
theorem dX5_may_58 : decode cX5_may 58 = .ok (.aload_n 0, 1) := by decide +kernel
theorem dX5_may_59 : decode cX5_may 59 = .ok (.getfield 18, 3) := by decide +kernel
theorem dX5_may_62 : decode cX5_may 62 = .ok (.aload_n 1, 1) := by decide +kernel
theorem dX5_may_63 : decode cX5_may 63 = .ok (.getfield 67, 3) := by decide +kernel
theorem dX5_may_66 : decode cX5_may 66 = .ok (.iload_n 3, 1) := by decide +kernel
theorem dX5_may_67 : decode cX5_may 67 = .ok (.iaload, 1) := by decide +kernel
theorem dX5_may_68 : decode cX5_may 68 = .ok (.iaload, 1) := by decide +kernel
theorem dX5_may_69 : decode cX5_may 69 = .ok (.iload 4, 2) := by decide +kernel
theorem dX5_may_71 : decode cX5_may 71 = .ok (.if_icmp .lt 7, 3) := by decide +kernel
theorem dX5_may_74 : decode cX5_may 74 = .ok (.iconst 1, 1) := by decide +kernel
theorem dX5_may_75 : decode cX5_may 75 = .ok (.goto 4, 3) := by decide +kernel
theorem dX5_may_78 : decode cX5_may 78 = .ok (.iconst 0, 1) := by decide +kernel
theorem dX5_may_79 : decode cX5_may 79 = .ok (.ireturn, 1) := by decide +kernel
theorem dX5_may_80 : decode cX5_may 80 = .ok (.aload_n 0, 1) := by decide +kernel
theorem dX5_may_81 : decode cX5_may 81 = .ok (.iload_n 3, 1) := by decide +kernel
theorem dX5_may_82 : decode cX5_may 82 = .ok (.invokevirtual 56, 3) := by decide +kernel
theorem dX5_may_85 : decode cX5_may 85 = .ok (.ifCond .ne 7, 3) := by decide +kernel
theorem dX5_may_88 : decode cX5_may 88 = .ok (.iconst 1, 1) := by decide +kernel
theorem dX5_may_89 : decode cX5_may 89 = .ok (.goto 4, 3) := by decide +kernel
theorem dX5_may_92 : decode cX5_may 92 = .ok (.iconst 0, 1) := by decide +kernel
theorem dX5_may_93 : decode cX5_may 93 = .ok (.ireturn, 1) := by decide +kernel
theorem dX5_may_94 : decode cX5_may 94 = .ok (.iconst 1, 1) := by decide +kernel
theorem dX5_may_95 : decode cX5_may 95 = .ok (.ireturn, 1) := by decide +kernel
theorem dX5_act_0 : decode cX5_act 0 = .ok (.iload_n 2, 1) := by decide +kernel
theorem dX5_act_1 : decode cX5_act 1 = .ok (.tableswitch 127 0 2 #[27, 63, 117], 27) := by decide +kernel
theorem dX5_act_28 : decode cX5_act 28 = .ok (.aload_n 0, 1) := by decide +kernel
theorem dX5_act_29 : decode cX5_act 29 = .ok (.getfield 9, 3) := by decide +kernel
theorem dX5_act_32 : decode cX5_act 32 = .ok (.iload_n 3, 1) := by decide +kernel
theorem dX5_act_33 : decode cX5_act 33 = .ok (.aload_n 1, 1) := by decide +kernel
theorem dX5_act_34 : decode cX5_act 34 = .ok (.iload_n 3, 1) := by decide +kernel
