theorem dX12_costOf_40 : decode cX12_costOf 40 = .ok (.ishr, 1) := by decide +kernel
theorem dX12_costOf_41 : decode cX12_costOf 41 = .ok (.iconst 1, 1) := by decide +kernel
theorem dX12_costOf_42 : decode cX12_costOf 42 = .ok (.iand, 1) := by decide +kernel
theorem dX12_costOf_43 : decode cX12_costOf 43 = .ok (.iconst 1, 1) := by decide +kernel
theorem dX12_costOf_44 : decode cX12_costOf 44 = .ok (.if_icmp .ne 107, 3) := by decide +kernel
theorem dX12_costOf_47 : decode cX12_costOf 47 = .ok (.aload_n 0, 1) := by decide +kernel
theorem dX12_costOf_48 : decode cX12_costOf 48 = .ok (.getfield 113, 3) := by decide +kernel
theorem dX12_costOf_51 : decode cX12_costOf 51 = .ok (.bipush 14, 2) := by decide +kernel
theorem dX12_costOf_53 : decode cX12_costOf 53 = .ok (.iload 4, 2) := by decide +kernel
theorem dX12_costOf_55 : decode cX12_costOf 55 = .ok (.iadd, 1) := by decide +kernel
theorem dX12_costOf_56 : decode cX12_costOf 56 = .ok (.iaload, 1) := by decide +kernel
theorem dX12_costOf_57 : decode cX12_costOf 57 = .ok (.aload_n 0, 1) := by decide +kernel
theorem dX12_costOf_58 : decode cX12_costOf 58 = .ok (.iload 4, 2) := by decide +kernel
theorem dX12_costOf_60 : decode cX12_costOf 60 = .ok (.invokevirtual 323, 3) := by decide +kernel
theorem dX12_costOf_63 : decode cX12_costOf 63 = .ok (.isub, 1) := by decide +kernel
theorem dX12_costOf_64 : decode cX12_costOf 64 = .ok (.istore 5, 2) := by decide +kernel
theorem dX12_costOf_66 : decode cX12_costOf 66 = .ok (.iload 5, 2) := by decide +kernel
theorem dX12_costOf_68 : decode cX12_costOf 68 = .ok (.ifCond .ge 7, 3) := by decide +kernel
theorem dX12_costOf_71 : decode cX12_costOf 71 = .ok (.iconst 0, 1) := by decide +kernel
theorem dX12_costOf_72 : decode cX12_costOf 72 = .ok (.goto 5, 3) := by decide +kernel
theorem dX12_costOf_75 : decode cX12_costOf 75 = .ok (.iload 5, 2) := by decide +kernel
theorem dX12_costOf_77 : decode cX12_costOf 77 = .ok (.istore 5, 2) := by decide +kernel
theorem dX12_costOf_79 : decode cX12_costOf 79 = .ok (.aload_n 0, 1) := by decide +kernel
theorem dX12_costOf_80 : decode cX12_costOf 80 = .ok (.getfield 129, 3) := by decide +kernel
theorem dX12_costOf_83 : decode cX12_costOf 83 = .ok (.aload_n 0, 1) := by decide +kernel
theorem dX12_costOf_84 : decode cX12_costOf 84 = .ok (.iload 4, 2) := by decide +kernel
theorem dX12_costOf_86 : decode cX12_costOf 86 = .ok (.iconst 0, 1) := by decide +kernel
theorem dX12_costOf_87 : decode cX12_costOf 87 = .ok (.invokevirtual 297, 3) := by decide +kernel
theorem dX12_costOf_90 : decode cX12_costOf 90 = .ok (.dup2, 1) := by decide +kernel
theorem dX12_costOf_91 : decode cX12_costOf 91 = .ok (.iaload, 1) := by decide +kernel
theorem dX12_costOf_92 : decode cX12_costOf 92 = .ok (.iload 5, 2) := by decide +kernel
theorem dX12_costOf_94 : decode cX12_costOf 94 = .ok (.iadd, 1) := by decide +kernel
theorem dX12_costOf_95 : decode cX12_costOf 95 = .ok (.iastore, 1) := by decide +kernel
theorem dX12_costOf_96 : decode cX12_costOf 96 = .ok (.iload_n 2, 1) := by decide +kernel
theorem dX12_costOf_97 : decode cX12_costOf 97 = .ok (.iload 5, 2) := by decide +kernel
theorem dX12_costOf_99 : decode cX12_costOf 99 = .ok (.iadd, 1) := by decide +kernel
theorem dX12_costOf_100 : decode cX12_costOf 100 = .ok (.istore_n 2, 1) := by decide +kernel
theorem dX12_costOf_101 : decode cX12_costOf 101 = .ok (.iload_n 3, 1) := by decide +kernel
theorem dX12_costOf_102 : decode cX12_costOf 102 = .ok (.ifCond .eq 47, 3) := by decide +kernel
theorem dX12_costOf_105 : decode cX12_costOf 105 = .ok (.aload_n 0, 1) := by decide +kernel
theorem dX12_costOf_106 : decode cX12_costOf 106 = .ok (.iconst 0, 1) := by decide +kernel
theorem dX12_costOf_107 : decode cX12_costOf 107 = .ok (.iload 4, 2) := by decide +kernel
theorem dX12_costOf_109 : decode cX12_costOf 109 = .ok (.invokevirtual 319, 3) := by decide +kernel
theorem dX12_costOf_112 : decode cX12_costOf 112 = .ok (.ifCond .eq 37, 3) := by decide +kernel
theorem dX12_costOf_115 : decode cX12_costOf 115 = .ok (.aload_n 0, 1) := by decide +kernel
theorem dX12_costOf_116 : decode cX12_costOf 116 = .ok (.getfield 129, 3) := by decide +kernel
theorem dX12_costOf_119 : decode cX12_costOf 119 = .ok (.aload_n 0, 1) := by decide +kernel
theorem dX12_costOf_120 : decode cX12_costOf 120 = .ok (.iload 4, 2) := by decide +kernel
theorem dX12_costOf_122 : decode cX12_costOf 122 = .ok (.iconst 0, 1) := by decide +kernel
theorem dX12_costOf_123 : decode cX12_costOf 123 = .ok (.invokevirtual 297, 3) := by decide +kernel
theorem dX12_costOf_126 : decode cX12_costOf 126 = .ok (.iaload, 1) := by decide +kernel
theorem dX12_costOf_127 : decode cX12_costOf 127 = .ok (.aload_n 0, 1) := by decide +kernel
theorem dX12_costOf_128 : decode cX12_costOf 128 = .ok (.getfield 113, 3) := by decide +kernel
theorem dX12_costOf_131 : decode cX12_costOf 131 = .ok (.bipush 8, 2) := by decide +kernel
theorem dX12_costOf_133 : decode cX12_costOf 133 = .ok (.aload_n 0, 1) := by decide +kernel
theorem dX12_costOf_134 : decode cX12_costOf 134 = .ok (.iload 4, 2) := by decide +kernel
theorem dX12_costOf_136 : decode cX12_costOf 136 = .ok (.iconst 0, 1) := by decide +kernel
theorem dX12_costOf_137 : decode cX12_costOf 137 = .ok (.invokevirtual 297, 3) := by decide +kernel
theorem dX12_costOf_140 : decode cX12_costOf 140 = .ok (.iadd, 1) := by decide +kernel
theorem dX12_costOf_141 : decode cX12_costOf 141 = .ok (.iaload, 1) := by decide +kernel
theorem dX12_costOf_142 : decode cX12_costOf 142 = .ok (.if_icmp .gt 7, 3) := by decide +kernel
theorem dX12_costOf_145 : decode cX12_costOf 145 = .ok (.iconst 1, 1) := by decide +kernel
theorem dX12_costOf_146 : decode cX12_costOf 146 = .ok (.goto 4, 3) := by decide +kernel
theorem dX12_costOf_149 : decode cX12_costOf 149 = .ok (.iconst 0, 1) := by decide +kernel
theorem dX12_costOf_150 : decode cX12_costOf 150 = .ok (.istore_n 3, 1) := by decide +kernel
theorem dX12_costOf_151 : decode cX12_costOf 151 = .ok (.iinc 4 1, 3) := by decide +kernel
theorem dX12_costOf_154 : decode cX12_costOf 154 = .ok (.goto (-126), 3) := by decide +kernel
theorem dX12_costOf_157 : decode cX12_costOf 157 = .ok (.iload_n 3, 1) := by decide +kernel
theorem dX12_costOf_158 : decode cX12_costOf 158 = .ok (.ifCond .eq 7, 3) := by decide +kernel
theorem dX12_costOf_161 : decode cX12_costOf 161 = .ok (.iload_n 2, 1) := by decide +kernel
theorem dX12_costOf_162 : decode cX12_costOf 162 = .ok (.goto 4, 3) := by decide +kernel
theorem dX12_costOf_165 : decode cX12_costOf 165 = .ok (.iconst (-1), 1) := by decide +kernel
theorem dX12_costOf_166 : decode cX12_costOf 166 = .ok (.ireturn, 1) := by decide +kernel
theorem dX12_lampsWith_0 : decode cX12_lampsWith 0 = .ok (.aload_n 0, 1) := by decide +kernel
theorem dX12_lampsWith_1 : decode cX12_lampsWith 1 = .ok (.iconst 0, 1) := by decide +kernel
theorem dX12_lampsWith_2 : decode cX12_lampsWith 2 = .ok (.invokevirtual 353, 3) := by decide +kernel
theorem dX12_lampsWith_5 : decode cX12_lampsWith 5 = .ok (.istore_n 2, 1) := by decide +kernel
theorem dX12_lampsWith_6 : decode cX12_lampsWith 6 = .ok (.iconst 0, 1) := by decide +kernel
theorem dX12_lampsWith_7 : decode cX12_lampsWith 7 = .ok (.istore_n 3, 1) := by decide +kernel
theorem dX12_lampsWith_8 : decode cX12_lampsWith 8 = .ok (.iload_n 3, 1) := by decide +kernel
theorem dX12_lampsWith_9 : decode cX12_lampsWith 9 = .ok (.aload_n 0, 1) := by decide +kernel
theorem dX12_lampsWith_10 : decode cX12_lampsWith 10 = .ok (.invokevirtual 273, 3) := by decide +kernel
theorem dX12_lampsWith_13 : decode cX12_lampsWith 13 = .ok (.if_icmp .ge 97, 3) := by decide +kernel
theorem dX12_lampsWith_16 : decode cX12_lampsWith 16 = .ok (.aload_n 0, 1) := by decide +kernel
theorem dX12_lampsWith_17 : decode cX12_lampsWith 17 = .ok (.getfield 113, 3) := by decide +kernel
theorem dX12_lampsWith_20 : decode cX12_lampsWith 20 = .ok (.bipush 14, 2) := by decide +kernel
theorem dX12_lampsWith_22 : decode cX12_lampsWith 22 = .ok (.iload_n 3, 1) := by decide +kernel
theorem dX12_lampsWith_23 : decode cX12_lampsWith 23 = .ok (.iadd, 1) := by decide +kernel
theorem dX12_lampsWith_24 : decode cX12_lampsWith 24 = .ok (.iaload, 1) := by decide +kernel
theorem dX12_lampsWith_25 : decode cX12_lampsWith 25 = .ok (.aload_n 0, 1) := by decide +kernel
theorem dX12_lampsWith_26 : decode cX12_lampsWith 26 = .ok (.iload_n 3, 1) := by decide +kernel
theorem dX12_lampsWith_27 : decode cX12_lampsWith 27 = .ok (.invokevirtual 323, 3) := by decide +kernel
theorem dX12_lampsWith_30 : decode cX12_lampsWith 30 = .ok (.if_icmp .ge 15, 3) := by decide +kernel
theorem dX12_lampsWith_33 : decode cX12_lampsWith 33 = .ok (.aload_n 0, 1) := by decide +kernel
theorem dX12_lampsWith_34 : decode cX12_lampsWith 34 = .ok (.getfield 113, 3) := by decide +kernel
theorem dX12_lampsWith_37 : decode cX12_lampsWith 37 = .ok (.bipush 14, 2) := by decide +kernel
theorem dX12_lampsWith_39 : decode cX12_lampsWith 39 = .ok (.iload_n 3, 1) := by decide +kernel
theorem dX12_lampsWith_40 : decode cX12_lampsWith 40 = .ok (.iadd, 1) := by decide +kernel
theorem dX12_lampsWith_41 : decode cX12_lampsWith 41 = .ok (.iaload, 1) := by decide +kernel
theorem dX12_lampsWith_42 : decode cX12_lampsWith 42 = .ok (.goto 8, 3) := by decide +kernel
theorem dX12_lampsWith_45 : decode cX12_lampsWith 45 = .ok (.aload_n 0, 1) := by decide +kernel
theorem dX12_lampsWith_46 : decode cX12_lampsWith 46 = .ok (.iload_n 3, 1) := by decide +kernel
theorem dX12_lampsWith_47 : decode cX12_lampsWith 47 = .ok (.invokevirtual 323, 3) := by decide +kernel
theorem dX12_lampsWith_50 : decode cX12_lampsWith 50 = .ok (.istore 4, 2) := by decide +kernel
theorem dX12_lampsWith_52 : decode cX12_lampsWith 52 = .ok (.iload_n 1, 1) := by decide +kernel
theorem dX12_lampsWith_53 : decode cX12_lampsWith 53 = .ok (.iload_n 3, 1) := by decide +kernel
theorem dX12_lampsWith_54 : decode cX12_lampsWith 54 = .ok (.ishr, 1) := by decide +kernel
theorem dX12_lampsWith_55 : decode cX12_lampsWith 55 = .ok (.iconst 1, 1) := by decide +kernel
theorem dX12_lampsWith_56 : decode cX12_lampsWith 56 = .ok (.iand, 1) := by decide +kernel
theorem dX12_lampsWith_57 : decode cX12_lampsWith 57 = .ok (.iconst 1, 1) := by decide +kernel
theorem dX12_lampsWith_58 : decode cX12_lampsWith 58 = .ok (.if_icmp .ne 23, 3) := by decide +kernel
theorem dX12_lampsWith_61 : decode cX12_lampsWith 61 = .ok (.aload_n 0, 1) := by decide +kernel
theorem dX12_lampsWith_62 : decode cX12_lampsWith 62 = .ok (.iload_n 3, 1) := by decide +kernel
theorem dX12_lampsWith_63 : decode cX12_lampsWith 63 = .ok (.iload 4, 2) := by decide +kernel
theorem dX12_lampsWith_65 : decode cX12_lampsWith 65 = .ok (.aload_n 0, 1) := by decide +kernel
theorem dX12_lampsWith_66 : decode cX12_lampsWith 66 = .ok (.getfield 113, 3) := by decide +kernel
theorem dX12_lampsWith_69 : decode cX12_lampsWith 69 = .ok (.iconst 0, 1) := by decide +kernel
theorem dX12_lampsWith_70 : decode cX12_lampsWith 70 = .ok (.iaload, 1) := by decide +kernel
theorem dX12_lampsWith_71 : decode cX12_lampsWith 71 = .ok (.invokevirtual 339, 3) := by decide +kernel
theorem dX12_lampsWith_74 : decode cX12_lampsWith 74 = .ok (.ifCond .le 7, 3) := by decide +kernel
theorem dX12_lampsWith_77 : decode cX12_lampsWith 77 = .ok (.iconst 1, 1) := by decide +kernel
theorem dX12_lampsWith_78 : decode cX12_lampsWith 78 = .ok (.goto 4, 3) := by decide +kernel
theorem dX12_lampsWith_81 : decode cX12_lampsWith 81 = .ok (.iconst 0, 1) := by decide +kernel
theorem dX12_lampsWith_82 : decode cX12_lampsWith 82 = .ok (.istore 5, 2) := by decide +kernel
theorem dX12_lampsWith_84 : decode cX12_lampsWith 84 = .ok (.iload_n 2, 1) := by decide +kernel
theorem dX12_lampsWith_85 : decode cX12_lampsWith 85 = .ok (.iload 5, 2) := by decide +kernel
theorem dX12_lampsWith_87 : decode cX12_lampsWith 87 = .ok (.ifCond .eq 14, 3) := by decide +kernel
theorem dX12_lampsWith_90 : decode cX12_lampsWith 90 = .ok (.iconst 1, 1) := by decide +kernel
theorem dX12_lampsWith_91 : decode cX12_lampsWith 91 = .ok (.aload_n 0, 1) := by decide +kernel
theorem dX12_lampsWith_92 : decode cX12_lampsWith 92 = .ok (.iload_n 3, 1) := by decide +kernel
theorem dX12_lampsWith_93 : decode cX12_lampsWith 93 = .ok (.iconst 1, 1) := by decide +kernel
theorem dX12_lampsWith_94 : decode cX12_lampsWith 94 = .ok (.invokevirtual 297, 3) := by decide +kernel
theorem dX12_lampsWith_97 : decode cX12_lampsWith 97 = .ok (.ishl, 1) := by decide +kernel
theorem dX12_lampsWith_98 : decode cX12_lampsWith 98 = .ok (.goto 4, 3) := by decide +kernel
theorem dX12_lampsWith_101 : decode cX12_lampsWith 101 = .ok (.iconst 0, 1) := by decide +kernel
theorem dX12_lampsWith_102 : decode cX12_lampsWith 102 = .ok (.ior, 1) := by decide +kernel
theorem dX12_lampsWith_103 : decode cX12_lampsWith 103 = .ok (.istore_n 2, 1) := by decide +kernel
theorem dX12_lampsWith_104 : decode cX12_lampsWith 104 = .ok (.iinc 3 1, 3) := by decide +kernel
theorem dX12_lampsWith_107 : decode cX12_lampsWith 107 = .ok (.goto (-99), 3) := by decide +kernel
theorem dX12_lampsWith_110 : decode cX12_lampsWith 110 = .ok (.iload_n 2, 1) := by decide +kernel
theorem dX12_lampsWith_111 : decode cX12_lampsWith 111 = .ok (.ireturn, 1) := by decide +kernel
theorem dX12_pay_0 : decode cX12_pay 0 = .ok (.aload_n 0, 1) := by decide +kernel
theorem dX12_pay_1 : decode cX12_pay 1 = .ok (.iconst 0, 1) := by decide +kernel
theorem dX12_pay_2 : decode cX12_pay 2 = .ok (.putfield 1, 3) := by decide +kernel
theorem dX12_pay_5 : decode cX12_pay 5 = .ok (.aload_n 0, 1) := by decide +kernel
theorem dX12_pay_6 : decode cX12_pay 6 = .ok (.iload_n 1, 1) := by decide +kernel
theorem dX12_pay_7 : decode cX12_pay 7 = .ok (.iload_n 2, 1) := by decide +kernel
theorem dX12_pay_8 : decode cX12_pay 8 = .ok (.invokevirtual 365, 3) := by decide +kernel
theorem dX12_pay_11 : decode cX12_pay 11 = .ok (.ifCond .eq 12, 3) := by decide +kernel
theorem dX12_pay_14 : decode cX12_pay 14 = .ok (.iload_n 3, 1) := by decide +kernel
theorem dX12_pay_15 : decode cX12_pay 15 = .ok (.iconst 0, 1) := by decide +kernel
theorem dX12_pay_16 : decode cX12_pay 16 = .ok (.iconst 1, 1) := by decide +kernel
theorem dX12_pay_17 : decode cX12_pay 17 = .ok (.invokestatic 362, 3) := by decide +kernel
theorem dX12_pay_20 : decode cX12_pay 20 = .ok (.ifCond .ne 5, 3) := by decide +kernel
theorem dX12_pay_23 : decode cX12_pay 23 = .ok (.iconst (-1), 1) := by decide +kernel
theorem dX12_pay_24 : decode cX12_pay 24 = .ok (.ireturn, 1) := by decide +kernel
theorem dX12_pay_25 : decode cX12_pay 25 = .ok (.iconst (-1), 1) := by decide +kernel
theorem dX12_pay_26 : decode cX12_pay 26 = .ok (.istore 4, 2) := by decide +kernel
theorem dX12_pay_28 : decode cX12_pay 28 = .ok (.iconst (-1), 1) := by decide +kernel
theorem dX12_pay_29 : decode cX12_pay 29 = .ok (.istore 5, 2) := by decide +kernel
theorem dX12_pay_31 : decode cX12_pay 31 = .ok (.iconst 0, 1) := by decide +kernel
theorem dX12_pay_32 : decode cX12_pay 32 = .ok (.istore 6, 2) := by decide +kernel
theorem dX12_pay_34 : decode cX12_pay 34 = .ok (.iload 6, 2) := by decide +kernel
theorem dX12_pay_36 : decode cX12_pay 36 = .ok (.iconst 1, 1) := by decide +kernel
theorem dX12_pay_37 : decode cX12_pay 37 = .ok (.aload_n 0, 1) := by decide +kernel
theorem dX12_pay_38 : decode cX12_pay 38 = .ok (.invokevirtual 273, 3) := by decide +kernel
theorem dX12_pay_41 : decode cX12_pay 41 = .ok (.ishl, 1) := by decide +kernel
theorem dX12_pay_42 : decode cX12_pay 42 = .ok (.if_icmp .ge 57, 3) := by decide +kernel
theorem dX12_pay_45 : decode cX12_pay 45 = .ok (.aload_n 0, 1) := by decide +kernel
theorem dX12_pay_46 : decode cX12_pay 46 = .ok (.iload 6, 2) := by decide +kernel
theorem dX12_pay_48 : decode cX12_pay 48 = .ok (.invokevirtual 395, 3) := by decide +kernel
theorem dX12_pay_51 : decode cX12_pay 51 = .ok (.istore 7, 2) := by decide +kernel
theorem dX12_pay_53 : decode cX12_pay 53 = .ok (.iload 7, 2) := by decide +kernel
theorem dX12_pay_55 : decode cX12_pay 55 = .ok (.ifCond .lt 38, 3) := by decide +kernel
theorem dX12_pay_58 : decode cX12_pay 58 = .ok (.iload 4, 2) := by decide +kernel
theorem dX12_pay_60 : decode cX12_pay 60 = .ok (.ifCond .lt 10, 3) := by decide +kernel
theorem dX12_pay_63 : decode cX12_pay 63 = .ok (.iload 7, 2) := by decide +kernel
theorem dX12_pay_65 : decode cX12_pay 65 = .ok (.iload 5, 2) := by decide +kernel
theorem dX12_pay_67 : decode cX12_pay 67 = .ok (.if_icmp .ge 26, 3) := by decide +kernel
theorem dX12_pay_70 : decode cX12_pay 70 = .ok (.aload_n 0, 1) := by decide +kernel
theorem dX12_pay_71 : decode cX12_pay 71 = .ok (.aload_n 0, 1) := by decide +kernel
theorem dX12_pay_72 : decode cX12_pay 72 = .ok (.iload 6, 2) := by decide +kernel
theorem dX12_pay_74 : decode cX12_pay 74 = .ok (.invokevirtual 398, 3) := by decide +kernel
theorem dX12_pay_77 : decode cX12_pay 77 = .ok (.iload_n 1, 1) := by decide +kernel
theorem dX12_pay_78 : decode cX12_pay 78 = .ok (.iload_n 2, 1) := by decide +kernel
theorem dX12_pay_79 : decode cX12_pay 79 = .ok (.invokevirtual 401, 3) := by decide +kernel
theorem dX12_pay_82 : decode cX12_pay 82 = .ok (.ifCond .eq 11, 3) := by decide +kernel
theorem dX12_pay_85 : decode cX12_pay 85 = .ok (.iload 6, 2) := by decide +kernel
theorem dX12_pay_87 : decode cX12_pay 87 = .ok (.istore 4, 2) := by decide +kernel
theorem dX12_pay_89 : decode cX12_pay 89 = .ok (.iload 7, 2) := by decide +kernel
theorem dX12_pay_91 : decode cX12_pay 91 = .ok (.istore 5, 2) := by decide +kernel
theorem dX12_pay_93 : decode cX12_pay 93 = .ok (.iinc 6 1, 3) := by decide +kernel
theorem dX12_pay_96 : decode cX12_pay 96 = .ok (.goto (-62), 3) := by decide +kernel
theorem dX12_pay_99 : decode cX12_pay 99 = .ok (.iload_n 3, 1) := by decide +kernel
theorem dX12_pay_100 : decode cX12_pay 100 = .ok (.ifCond .ne 8, 3) := by decide +kernel
theorem dX12_pay_103 : decode cX12_pay 103 = .ok (.iload 5, 2) := by decide +kernel
theorem dX12_pay_105 : decode cX12_pay 105 = .ok (.goto 5, 3) := by decide +kernel
theorem dX12_pay_108 : decode cX12_pay 108 = .ok (.iload 4, 2) := by decide +kernel
theorem dX12_pay_110 : decode cX12_pay 110 = .ok (.ireturn, 1) := by decide +kernel
theorem dX12_whens_0 : decode cX12_whens 0 = .ok (.iload_n 2, 1) := by decide +kernel
theorem dX12_whens_1 : decode cX12_whens 1 = .ok (.iload_n 1, 1) := by decide +kernel
theorem dX12_whens_2 : decode cX12_whens 2 = .ok (.if_icmp .ne 143, 3) := by decide +kernel
theorem dX12_whens_5 : decode cX12_whens 5 = .ok (.aload_n 0, 1) := by decide +kernel
theorem dX12_whens_6 : decode cX12_whens 6 = .ok (.iconst 0, 1) := by decide +kernel
theorem dX12_whens_7 : decode cX12_whens 7 = .ok (.sipush 1323, 3) := by decide +kernel
theorem dX12_whens_10 : decode cX12_whens 10 = .ok (.bipush 38, 2) := by decide +kernel
theorem dX12_whens_12 : decode cX12_whens 12 = .ok (.invokevirtual 309, 3) := by decide +kernel
theorem dX12_whens_15 : decode cX12_whens 15 = .ok (.iconst 0, 1) := by decide +kernel
theorem dX12_whens_16 : decode cX12_whens 16 = .ok (.istore_n 3, 1) := by decide +kernel
theorem dX12_whens_17 : decode cX12_whens 17 = .ok (.iconst 0, 1) := by decide +kernel
theorem dX12_whens_18 : decode cX12_whens 18 = .ok (.istore 4, 2) := by decide +kernel
theorem dX12_whens_20 : decode cX12_whens 20 = .ok (.iload 4, 2) := by decide +kernel
theorem dX12_whens_22 : decode cX12_whens 22 = .ok (.iload_n 1, 1) := by decide +kernel
theorem dX12_whens_23 : decode cX12_whens 23 = .ok (.if_icmp .ge 72, 3) := by decide +kernel
theorem dX12_whens_26 : decode cX12_whens 26 = .ok (.aload_n 0, 1) := by decide +kernel
theorem dX12_whens_27 : decode cX12_whens 27 = .ok (.getfield 132, 3) := by decide +kernel
theorem dX12_whens_30 : decode cX12_whens 30 = .ok (.iload 4, 2) := by decide +kernel
theorem dX12_whens_32 : decode cX12_whens 32 = .ok (.iaload, 1) := by decide +kernel
theorem dX12_whens_33 : decode cX12_whens 33 = .ok (.ifCond .lt 21, 3) := by decide +kernel
theorem dX12_whens_36 : decode cX12_whens 36 = .ok (.aload_n 0, 1) := by decide +kernel
theorem dX12_whens_37 : decode cX12_whens 37 = .ok (.sipush 1323, 3) := by decide +kernel
theorem dX12_whens_40 : decode cX12_whens 40 = .ok (.aload_n 0, 1) := by decide +kernel
theorem dX12_whens_41 : decode cX12_whens 41 = .ok (.getfield 132, 3) := by decide +kernel
theorem dX12_whens_44 : decode cX12_whens 44 = .ok (.iload 4, 2) := by decide +kernel
theorem dX12_whens_46 : decode cX12_whens 46 = .ok (.iaload, 1) := by decide +kernel
theorem dX12_whens_47 : decode cX12_whens 47 = .ok (.invokevirtual 319, 3) := by decide +kernel
theorem dX12_whens_50 : decode cX12_whens 50 = .ok (.ifCond .ne 4, 3) := by decide +kernel
theorem dX12_whens_53 : decode cX12_whens 53 = .ok (.return_, 1) := by decide +kernel
theorem dX12_whens_54 : decode cX12_whens 54 = .ok (.aload_n 0, 1) := by decide +kernel
theorem dX12_whens_55 : decode cX12_whens 55 = .ok (.getfield 132, 3) := by decide +kernel
theorem dX12_whens_58 : decode cX12_whens 58 = .ok (.iload 4, 2) := by decide +kernel
theorem dX12_whens_60 : decode cX12_whens 60 = .ok (.iaload, 1) := by decide +kernel
theorem dX12_whens_61 : decode cX12_whens 61 = .ok (.ifCond .lt 18, 3) := by decide +kernel
theorem dX12_whens_64 : decode cX12_whens 64 = .ok (.aload_n 0, 1) := by decide +kernel
theorem dX12_whens_65 : decode cX12_whens 65 = .ok (.sipush 1323, 3) := by decide +kernel
theorem dX12_whens_68 : decode cX12_whens 68 = .ok (.aload_n 0, 1) := by decide +kernel
theorem dX12_whens_69 : decode cX12_whens 69 = .ok (.getfield 132, 3) := by decide +kernel
theorem dX12_whens_72 : decode cX12_whens 72 = .ok (.iload 4, 2) := by decide +kernel
theorem dX12_whens_74 : decode cX12_whens 74 = .ok (.iaload, 1) := by decide +kernel
theorem dX12_whens_75 : decode cX12_whens 75 = .ok (.invokevirtual 383, 3) := by decide +kernel
theorem dX12_whens_78 : decode cX12_whens 78 = .ok (.pop, 1) := by decide +kernel
theorem dX12_whens_79 : decode cX12_whens 79 = .ok (.iload_n 3, 1) := by decide +kernel
theorem dX12_whens_80 : decode cX12_whens 80 = .ok (.aload_n 0, 1) := by decide +kernel
theorem dX12_whens_81 : decode cX12_whens 81 = .ok (.sipush 1323, 3) := by decide +kernel
theorem dX12_whens_84 : decode cX12_whens 84 = .ok (.invokevirtual 386, 3) := by decide +kernel
theorem dX12_whens_87 : decode cX12_whens 87 = .ok (.iadd, 1) := by decide +kernel
theorem dX12_whens_88 : decode cX12_whens 88 = .ok (.istore_n 3, 1) := by decide +kernel
theorem dX12_whens_89 : decode cX12_whens 89 = .ok (.iinc 4 1, 3) := by decide +kernel
theorem dX12_whens_92 : decode cX12_whens 92 = .ok (.goto (-72), 3) := by decide +kernel
theorem dX12_whens_95 : decode cX12_whens 95 = .ok (.aload_n 0, 1) := by decide +kernel
theorem dX12_whens_96 : decode cX12_whens 96 = .ok (.getfield 404, 3) := by decide +kernel
theorem dX12_whens_99 : decode cX12_whens 99 = .ok (.ifCond .lt 11, 3) := by decide +kernel
theorem dX12_whens_102 : decode cX12_whens 102 = .ok (.iload_n 3, 1) := by decide +kernel
theorem dX12_whens_103 : decode cX12_whens 103 = .ok (.aload_n 0, 1) := by decide +kernel
theorem dX12_whens_104 : decode cX12_whens 104 = .ok (.getfield 404, 3) := by decide +kernel
theorem dX12_whens_107 : decode cX12_whens 107 = .ok (.if_icmp .ge 37, 3) := by decide +kernel
theorem dX12_whens_110 : decode cX12_whens 110 = .ok (.aload_n 0, 1) := by decide +kernel
theorem dX12_whens_111 : decode cX12_whens 111 = .ok (.iload_n 3, 1) := by decide +kernel
theorem dX12_whens_112 : decode cX12_whens 112 = .ok (.putfield 404, 3) := by decide +kernel
theorem dX12_whens_115 : decode cX12_whens 115 = .ok (.iconst 0, 1) := by decide +kernel
theorem dX12_whens_116 : decode cX12_whens 116 = .ok (.istore 4, 2) := by decide +kernel
theorem dX12_whens_118 : decode cX12_whens 118 = .ok (.iload 4, 2) := by decide +kernel
theorem dX12_whens_120 : decode cX12_whens 120 = .ok (.iload_n 1, 1) := by decide +kernel
theorem dX12_whens_121 : decode cX12_whens 121 = .ok (.if_icmp .ge 23, 3) := by decide +kernel
theorem dX12_whens_124 : decode cX12_whens 124 = .ok (.aload_n 0, 1) := by decide +kernel
theorem dX12_whens_125 : decode cX12_whens 125 = .ok (.getfield 135, 3) := by decide +kernel
theorem dX12_whens_128 : decode cX12_whens 128 = .ok (.iload 4, 2) := by decide +kernel
theorem dX12_whens_130 : decode cX12_whens 130 = .ok (.aload_n 0, 1) := by decide +kernel
theorem dX12_whens_131 : decode cX12_whens 131 = .ok (.getfield 132, 3) := by decide +kernel
theorem dX12_whens_134 : decode cX12_whens 134 = .ok (.iload 4, 2) := by decide +kernel
theorem dX12_whens_136 : decode cX12_whens 136 = .ok (.iaload, 1) := by decide +kernel
theorem dX12_whens_137 : decode cX12_whens 137 = .ok (.iastore, 1) := by decide +kernel
theorem dX12_whens_138 : decode cX12_whens 138 = .ok (.iinc 4 1, 3) := by decide +kernel
theorem dX12_whens_141 : decode cX12_whens 141 = .ok (.goto (-23), 3) := by decide +kernel
theorem dX12_whens_144 : decode cX12_whens 144 = .ok (.return_, 1) := by decide +kernel
theorem dX12_whens_145 : decode cX12_whens 145 = .ok (.iconst 0, 1) := by decide +kernel
theorem dX12_whens_146 : decode cX12_whens 146 = .ok (.istore_n 3, 1) := by decide +kernel
theorem dX12_whens_147 : decode cX12_whens 147 = .ok (.iload_n 3, 1) := by decide +kernel
theorem dX12_whens_148 : decode cX12_whens 148 = .ok (.aload_n 0, 1) := by decide +kernel
theorem dX12_whens_149 : decode cX12_whens 149 = .ok (.invokevirtual 273, 3) := by decide +kernel
theorem dX12_whens_152 : decode cX12_whens 152 = .ok (.if_icmp .ge 33, 3) := by decide +kernel
theorem dX12_whens_155 : decode cX12_whens 155 = .ok (.aload_n 0, 1) := by decide +kernel
theorem dX12_whens_156 : decode cX12_whens 156 = .ok (.iconst 0, 1) := by decide +kernel
theorem dX12_whens_157 : decode cX12_whens 157 = .ok (.iload_n 3, 1) := by decide +kernel
theorem dX12_whens_158 : decode cX12_whens 158 = .ok (.invokevirtual 319, 3) := by decide +kernel
theorem dX12_whens_161 : decode cX12_whens 161 = .ok (.ifCond .eq 18, 3) := by decide +kernel
theorem dX12_whens_164 : decode cX12_whens 164 = .ok (.aload_n 0, 1) := by decide +kernel
theorem dX12_whens_165 : decode cX12_whens 165 = .ok (.getfield 132, 3) := by decide +kernel
theorem dX12_whens_168 : decode cX12_whens 168 = .ok (.iload_n 2, 1) := by decide +kernel
theorem dX12_whens_169 : decode cX12_whens 169 = .ok (.iload_n 3, 1) := by decide +kernel
theorem dX12_whens_170 : decode cX12_whens 170 = .ok (.iastore, 1) := by decide +kernel
theorem dX12_whens_171 : decode cX12_whens 171 = .ok (.aload_n 0, 1) := by decide +kernel
theorem dX12_whens_172 : decode cX12_whens 172 = .ok (.iload_n 1, 1) := by decide +kernel
theorem dX12_whens_173 : decode cX12_whens 173 = .ok (.iload_n 2, 1) := by decide +kernel
theorem dX12_whens_174 : decode cX12_whens 174 = .ok (.iconst 1, 1) := by decide +kernel
theorem dX12_whens_175 : decode cX12_whens 175 = .ok (.iadd, 1) := by decide +kernel
theorem dX12_whens_176 : decode cX12_whens 176 = .ok (.invokevirtual 407, 3) := by decide +kernel
theorem dX12_whens_179 : decode cX12_whens 179 = .ok (.iinc 3 1, 3) := by decide +kernel
theorem dX12_whens_182 : decode cX12_whens 182 = .ok (.goto (-35), 3) := by decide +kernel
theorem dX12_whens_185 : decode cX12_whens 185 = .ok (.aload_n 0, 1) := by decide +kernel
theorem dX12_whens_186 : decode cX12_whens 186 = .ok (.getfield 132, 3) := by decide +kernel
theorem dX12_whens_189 : decode cX12_whens 189 = .ok (.iload_n 2, 1) := by decide +kernel
theorem dX12_whens_190 : decode cX12_whens 190 = .ok (.iconst (-1), 1) := by decide +kernel
theorem dX12_whens_191 : decode cX12_whens 191 = .ok (.iastore, 1) := by decide +kernel
theorem dX12_whens_192 : decode cX12_whens 192 = .ok (.aload_n 0, 1) := by decide +kernel
theorem dX12_whens_193 : decode cX12_whens 193 = .ok (.iload_n 1, 1) := by decide +kernel
theorem dX12_whens_194 : decode cX12_whens 194 = .ok (.iload_n 2, 1) := by decide +kernel
theorem dX12_whens_195 : decode cX12_whens 195 = .ok (.iconst 1, 1) := by decide +kernel
theorem dX12_whens_196 : decode cX12_whens 196 = .ok (.iadd, 1) := by decide +kernel
theorem dX12_whens_197 : decode cX12_whens 197 = .ok (.invokevirtual 407, 3) := by decide +kernel
theorem dX12_whens_200 : decode cX12_whens 200 = .ok (.return_, 1) := by decide +kernel
theorem dX12_when_0 : decode cX12_when 0 = .ok (.aload_n 0, 1) := by decide +kernel
theorem dX12_when_1 : decode cX12_when 1 = .ok (.iconst 0, 1) := by decide +kernel
theorem dX12_when_2 : decode cX12_when 2 = .ok (.putfield 1, 3) := by decide +kernel
theorem dX12_when_5 : decode cX12_when 5 = .ok (.iload_n 1, 1) := by decide +kernel
theorem dX12_when_6 : decode cX12_when 6 = .ok (.iconst 1, 1) := by decide +kernel
theorem dX12_when_7 : decode cX12_when 7 = .ok (.iconst 3, 1) := by decide +kernel
theorem dX12_when_8 : decode cX12_when 8 = .ok (.invokestatic 362, 3) := by decide +kernel
theorem dX12_when_11 : decode cX12_when 11 = .ok (.ifCond .eq 12, 3) := by decide +kernel
theorem dX12_when_14 : decode cX12_when 14 = .ok (.iload_n 2, 1) := by decide +kernel
theorem dX12_when_15 : decode cX12_when 15 = .ok (.iconst 0, 1) := by decide +kernel
theorem dX12_when_16 : decode cX12_when 16 = .ok (.iload_n 1, 1) := by decide +kernel
theorem dX12_when_17 : decode cX12_when 17 = .ok (.invokestatic 362, 3) := by decide +kernel
theorem dX12_when_20 : decode cX12_when 20 = .ok (.ifCond .ne 6, 3) := by decide +kernel
theorem dX12_when_23 : decode cX12_when 23 = .ok (.bipush (-2), 2) := by decide +kernel
theorem dX12_when_25 : decode cX12_when 25 = .ok (.ireturn, 1) := by decide +kernel
theorem dX12_when_26 : decode cX12_when 26 = .ok (.aload_n 0, 1) := by decide +kernel
theorem dX12_when_27 : decode cX12_when 27 = .ok (.iconst (-1), 1) := by decide +kernel
theorem dX12_when_28 : decode cX12_when 28 = .ok (.putfield 404, 3) := by decide +kernel
theorem dX12_when_31 : decode cX12_when 31 = .ok (.aload_n 0, 1) := by decide +kernel
theorem dX12_when_32 : decode cX12_when 32 = .ok (.iload_n 1, 1) := by decide +kernel
theorem dX12_when_33 : decode cX12_when 33 = .ok (.iconst 0, 1) := by decide +kernel
theorem dX12_when_34 : decode cX12_when 34 = .ok (.invokevirtual 407, 3) := by decide +kernel
theorem dX12_when_37 : decode cX12_when 37 = .ok (.iload_n 2, 1) := by decide +kernel
theorem dX12_when_38 : decode cX12_when 38 = .ok (.ifCond .ne 10, 3) := by decide +kernel
theorem dX12_when_41 : decode cX12_when 41 = .ok (.aload_n 0, 1) := by decide +kernel
theorem dX12_when_42 : decode cX12_when 42 = .ok (.getfield 404, 3) := by decide +kernel
theorem dX12_when_45 : decode cX12_when 45 = .ok (.goto 11, 3) := by decide +kernel
theorem dX12_when_48 : decode cX12_when 48 = .ok (.aload_n 0, 1) := by decide +kernel
theorem dX12_when_49 : decode cX12_when 49 = .ok (.getfield 135, 3) := by decide +kernel
theorem dX12_when_52 : decode cX12_when 52 = .ok (.iload_n 2, 1) := by decide +kernel
theorem dX12_when_53 : decode cX12_when 53 = .ok (.iconst 1, 1) := by decide +kernel
theorem dX12_when_54 : decode cX12_when 54 = .ok (.isub, 1) := by decide +kernel
theorem dX12_when_55 : decode cX12_when 55 = .ok (.iaload, 1) := by decide +kernel
theorem dX12_when_56 : decode cX12_when 56 = .ok (.ireturn, 1) := by decide +kernel
theorem dX12_grudges_0 : decode cX12_grudges 0 = .ok (.aload_n 0, 1) := by decide +kernel
theorem dX12_grudges_1 : decode cX12_grudges 1 = .ok (.iconst 0, 1) := by decide +kernel
theorem dX12_grudges_2 : decode cX12_grudges 2 = .ok (.putfield 1, 3) := by decide +kernel
theorem dX12_grudges_5 : decode cX12_grudges 5 = .ok (.aload_n 0, 1) := by decide +kernel
theorem dX12_grudges_6 : decode cX12_grudges 6 = .ok (.iload_n 1, 1) := by decide +kernel
theorem dX12_grudges_7 : decode cX12_grudges 7 = .ok (.invokevirtual 359, 3) := by decide +kernel
theorem dX12_grudges_10 : decode cX12_grudges 10 = .ok (.ifCond .ne 5, 3) := by decide +kernel
theorem dX12_grudges_13 : decode cX12_grudges 13 = .ok (.iconst (-1), 1) := by decide +kernel
theorem dX12_grudges_14 : decode cX12_grudges 14 = .ok (.ireturn, 1) := by decide +kernel
theorem dX12_grudges_15 : decode cX12_grudges 15 = .ok (.iconst 0, 1) := by decide +kernel
theorem dX12_grudges_16 : decode cX12_grudges 16 = .ok (.istore_n 3, 1) := by decide +kernel
theorem dX12_grudges_17 : decode cX12_grudges 17 = .ok (.iconst 0, 1) := by decide +kernel
theorem dX12_grudges_18 : decode cX12_grudges 18 = .ok (.istore 4, 2) := by decide +kernel
theorem dX12_grudges_20 : decode cX12_grudges 20 = .ok (.iload 4, 2) := by decide +kernel
theorem dX12_grudges_22 : decode cX12_grudges 22 = .ok (.aload_n 0, 1) := by decide +kernel
theorem dX12_grudges_23 : decode cX12_grudges 23 = .ok (.invokevirtual 273, 3) := by decide +kernel
theorem dX12_grudges_26 : decode cX12_grudges 26 = .ok (.if_icmp .ge 49, 3) := by decide +kernel
theorem dX12_grudges_29 : decode cX12_grudges 29 = .ok (.iload_n 3, 1) := by decide +kernel
theorem dX12_grudges_30 : decode cX12_grudges 30 = .ok (.aload_n 0, 1) := by decide +kernel
theorem dX12_grudges_31 : decode cX12_grudges 31 = .ok (.iconst 0, 1) := by decide +kernel
theorem dX12_grudges_32 : decode cX12_grudges 32 = .ok (.iload 4, 2) := by decide +kernel
theorem dX12_grudges_34 : decode cX12_grudges 34 = .ok (.invokevirtual 319, 3) := by decide +kernel
theorem dX12_grudges_37 : decode cX12_grudges 37 = .ok (.ifCond .eq 29, 3) := by decide +kernel
theorem dX12_grudges_40 : decode cX12_grudges 40 = .ok (.aload_n 0, 1) := by decide +kernel
theorem dX12_grudges_41 : decode cX12_grudges 41 = .ok (.iload 4, 2) := by decide +kernel
theorem dX12_grudges_43 : decode cX12_grudges 43 = .ok (.iload_n 2, 1) := by decide +kernel
theorem dX12_grudges_44 : decode cX12_grudges 44 = .ok (.ifCond .eq 7, 3) := by decide +kernel
theorem dX12_grudges_47 : decode cX12_grudges 47 = .ok (.iconst 0, 1) := by decide +kernel
theorem dX12_grudges_48 : decode cX12_grudges 48 = .ok (.goto 4, 3) := by decide +kernel
theorem dX12_grudges_51 : decode cX12_grudges 51 = .ok (.iconst 1, 1) := by decide +kernel
theorem dX12_grudges_52 : decode cX12_grudges 52 = .ok (.invokevirtual 297, 3) := by decide +kernel
theorem dX12_grudges_55 : decode cX12_grudges 55 = .ok (.iload_n 1, 1) := by decide +kernel
theorem dX12_grudges_56 : decode cX12_grudges 56 = .ok (.if_icmp .ne 10, 3) := by decide +kernel
theorem dX12_grudges_59 : decode cX12_grudges 59 = .ok (.iconst 1, 1) := by decide +kernel
theorem dX12_grudges_60 : decode cX12_grudges 60 = .ok (.iload 4, 2) := by decide +kernel
theorem dX12_grudges_62 : decode cX12_grudges 62 = .ok (.ishl, 1) := by decide +kernel
theorem dX12_grudges_63 : decode cX12_grudges 63 = .ok (.goto 4, 3) := by decide +kernel
theorem dX12_grudges_66 : decode cX12_grudges 66 = .ok (.iconst 0, 1) := by decide +kernel
theorem dX12_grudges_67 : decode cX12_grudges 67 = .ok (.ior, 1) := by decide +kernel
theorem dX12_grudges_68 : decode cX12_grudges 68 = .ok (.istore_n 3, 1) := by decide +kernel
theorem dX12_grudges_69 : decode cX12_grudges 69 = .ok (.iinc 4 1, 3) := by decide +kernel
theorem dX12_grudges_72 : decode cX12_grudges 72 = .ok (.goto (-52), 3) := by decide +kernel
theorem dX12_grudges_75 : decode cX12_grudges 75 = .ok (.iload_n 3, 1) := by decide +kernel
theorem dX12_grudges_76 : decode cX12_grudges 76 = .ok (.ireturn, 1) := by decide +kernel
theorem dX12_ripe_0 : decode cX12_ripe 0 = .ok (.aload_n 0, 1) := by decide +kernel
theorem dX12_ripe_1 : decode cX12_ripe 1 = .ok (.iconst 0, 1) := by decide +kernel
theorem dX12_ripe_2 : decode cX12_ripe 2 = .ok (.putfield 1, 3) := by decide +kernel
theorem dX12_ripe_5 : decode cX12_ripe 5 = .ok (.aload_n 0, 1) := by decide +kernel
theorem dX12_ripe_6 : decode cX12_ripe 6 = .ok (.iconst 0, 1) := by decide +kernel
theorem dX12_ripe_7 : decode cX12_ripe 7 = .ok (.iload_n 1, 1) := by decide +kernel
theorem dX12_ripe_8 : decode cX12_ripe 8 = .ok (.invokevirtual 319, 3) := by decide +kernel
theorem dX12_ripe_11 : decode cX12_ripe 11 = .ok (.ifCond .ne 5, 3) := by decide +kernel
theorem dX12_ripe_14 : decode cX12_ripe 14 = .ok (.iconst (-1), 1) := by decide +kernel
theorem dX12_ripe_15 : decode cX12_ripe 15 = .ok (.ireturn, 1) := by decide +kernel
theorem dX12_ripe_16 : decode cX12_ripe 16 = .ok (.aload_n 0, 1) := by decide +kernel
theorem dX12_ripe_17 : decode cX12_ripe 17 = .ok (.iconst 0, 1) := by decide +kernel
theorem dX12_ripe_18 : decode cX12_ripe 18 = .ok (.sipush 1323, 3) := by decide +kernel
theorem dX12_ripe_21 : decode cX12_ripe 21 = .ok (.bipush 38, 2) := by decide +kernel
theorem dX12_ripe_23 : decode cX12_ripe 23 = .ok (.invokevirtual 309, 3) := by decide +kernel
theorem dX12_ripe_26 : decode cX12_ripe 26 = .ok (.iconst 0, 1) := by decide +kernel
theorem dX12_ripe_27 : decode cX12_ripe 27 = .ok (.istore_n 2, 1) := by decide +kernel
theorem dX12_ripe_28 : decode cX12_ripe 28 = .ok (.iload_n 2, 1) := by decide +kernel
theorem dX12_ripe_29 : decode cX12_ripe 29 = .ok (.bipush 60, 2) := by decide +kernel
theorem dX12_ripe_31 : decode cX12_ripe 31 = .ok (.if_icmp .gt 30, 3) := by decide +kernel
theorem dX12_ripe_34 : decode cX12_ripe 34 = .ok (.aload_n 0, 1) := by decide +kernel
theorem dX12_ripe_35 : decode cX12_ripe 35 = .ok (.sipush 1323, 3) := by decide +kernel
theorem dX12_ripe_38 : decode cX12_ripe 38 = .ok (.iload_n 1, 1) := by decide +kernel
theorem dX12_ripe_39 : decode cX12_ripe 39 = .ok (.invokevirtual 336, 3) := by decide +kernel
theorem dX12_ripe_42 : decode cX12_ripe 42 = .ok (.ifCond .eq 5, 3) := by decide +kernel
theorem dX12_ripe_45 : decode cX12_ripe 45 = .ok (.iload_n 2, 1) := by decide +kernel
theorem dX12_ripe_46 : decode cX12_ripe 46 = .ok (.ireturn, 1) := by decide +kernel
theorem dX12_ripe_47 : decode cX12_ripe 47 = .ok (.aload_n 0, 1) := by decide +kernel
theorem dX12_ripe_48 : decode cX12_ripe 48 = .ok (.sipush 1323, 3) := by decide +kernel
theorem dX12_ripe_51 : decode cX12_ripe 51 = .ok (.invokevirtual 386, 3) := by decide +kernel
theorem dX12_ripe_54 : decode cX12_ripe 54 = .ok (.pop, 1) := by decide +kernel
theorem dX12_ripe_55 : decode cX12_ripe 55 = .ok (.iinc 2 1, 3) := by decide +kernel
theorem dX12_ripe_58 : decode cX12_ripe 58 = .ok (.goto (-30), 3) := by decide +kernel
theorem dX12_ripe_61 : decode cX12_ripe 61 = .ok (.iconst (-1), 1) := by decide +kernel
theorem dX12_ripe_62 : decode cX12_ripe 62 = .ok (.ireturn, 1) := by decide +kernel
theorem dX12_price_0 : decode cX12_price 0 = .ok (.aload_n 0, 1) := by decide +kernel
theorem dX12_price_1 : decode cX12_price 1 = .ok (.iconst 0, 1) := by decide +kernel
theorem dX12_price_2 : decode cX12_price 2 = .ok (.putfield 1, 3) := by decide +kernel
theorem dX12_price_5 : decode cX12_price 5 = .ok (.aload_n 0, 1) := by decide +kernel
theorem dX12_price_6 : decode cX12_price 6 = .ok (.iconst 0, 1) := by decide +kernel
theorem dX12_price_7 : decode cX12_price 7 = .ok (.iload_n 1, 1) := by decide +kernel
theorem dX12_price_8 : decode cX12_price 8 = .ok (.invokevirtual 319, 3) := by decide +kernel
theorem dX12_price_11 : decode cX12_price 11 = .ok (.ifCond .eq 13, 3) := by decide +kernel
theorem dX12_price_14 : decode cX12_price 14 = .ok (.iload_n 2, 1) := by decide +kernel
theorem dX12_price_15 : decode cX12_price 15 = .ok (.iconst 0, 1) := by decide +kernel
theorem dX12_price_16 : decode cX12_price 16 = .ok (.bipush 30, 2) := by decide +kernel
theorem dX12_price_18 : decode cX12_price 18 = .ok (.invokestatic 362, 3) := by decide +kernel
theorem dX12_price_21 : decode cX12_price 21 = .ok (.ifCond .ne 5, 3) := by decide +kernel
theorem dX12_price_24 : decode cX12_price 24 = .ok (.iconst (-1), 1) := by decide +kernel
theorem dX12_price_25 : decode cX12_price 25 = .ok (.ireturn, 1) := by decide +kernel
theorem dX12_price_26 : decode cX12_price 26 = .ok (.aload_n 0, 1) := by decide +kernel
theorem dX12_price_27 : decode cX12_price 27 = .ok (.iconst 0, 1) := by decide +kernel
theorem dX12_price_28 : decode cX12_price 28 = .ok (.sipush 1323, 3) := by decide +kernel
theorem dX12_price_31 : decode cX12_price 31 = .ok (.bipush 38, 2) := by decide +kernel
theorem dX12_price_33 : decode cX12_price 33 = .ok (.invokevirtual 309, 3) := by decide +kernel
theorem dX12_price_36 : decode cX12_price 36 = .ok (.iconst 0, 1) := by decide +kernel
theorem dX12_price_37 : decode cX12_price 37 = .ok (.istore_n 3, 1) := by decide +kernel
theorem dX12_price_38 : decode cX12_price 38 = .ok (.iload_n 3, 1) := by decide +kernel
theorem dX12_price_39 : decode cX12_price 39 = .ok (.iload_n 2, 1) := by decide +kernel
theorem dX12_price_40 : decode cX12_price 40 = .ok (.if_icmp .ge 37, 3) := by decide +kernel
theorem dX12_price_43 : decode cX12_price 43 = .ok (.aload_n 0, 1) := by decide +kernel
theorem dX12_price_44 : decode cX12_price 44 = .ok (.sipush 1323, 3) := by decide +kernel
theorem dX12_price_47 : decode cX12_price 47 = .ok (.iload_n 1, 1) := by decide +kernel
theorem dX12_price_48 : decode cX12_price 48 = .ok (.invokevirtual 368, 3) := by decide +kernel
theorem dX12_price_51 : decode cX12_price 51 = .ok (.ifCond .eq 12, 3) := by decide +kernel
theorem dX12_price_54 : decode cX12_price 54 = .ok (.aload_n 0, 1) := by decide +kernel
theorem dX12_price_55 : decode cX12_price 55 = .ok (.sipush 1323, 3) := by decide +kernel
theorem dX12_price_58 : decode cX12_price 58 = .ok (.iload_n 1, 1) := by decide +kernel
theorem dX12_price_59 : decode cX12_price 59 = .ok (.invokevirtual 374, 3) := by decide +kernel
theorem dX12_price_62 : decode cX12_price 62 = .ok (.pop, 1) := by decide +kernel
theorem dX12_price_63 : decode cX12_price 63 = .ok (.aload_n 0, 1) := by decide +kernel
theorem dX12_price_64 : decode cX12_price 64 = .ok (.sipush 1323, 3) := by decide +kernel
theorem dX12_price_67 : decode cX12_price 67 = .ok (.invokevirtual 386, 3) := by decide +kernel
theorem dX12_price_70 : decode cX12_price 70 = .ok (.pop, 1) := by decide +kernel
theorem dX12_price_71 : decode cX12_price 71 = .ok (.iinc 3 1, 3) := by decide +kernel
theorem dX12_price_74 : decode cX12_price 74 = .ok (.goto (-36), 3) := by decide +kernel
theorem dX12_price_77 : decode cX12_price 77 = .ok (.aload_n 0, 1) := by decide +kernel
theorem dX12_price_78 : decode cX12_price 78 = .ok (.getfield 113, 3) := by decide +kernel
theorem dX12_price_81 : decode cX12_price 81 = .ok (.sipush 1337, 3) := by decide +kernel
theorem dX12_price_84 : decode cX12_price 84 = .ok (.iload_n 1, 1) := by decide +kernel
theorem dX12_price_85 : decode cX12_price 85 = .ok (.iadd, 1) := by decide +kernel
theorem dX12_price_86 : decode cX12_price 86 = .ok (.iaload, 1) := by decide +kernel
theorem dX12_price_87 : decode cX12_price 87 = .ok (.aload_n 0, 1) := by decide +kernel
theorem dX12_price_88 : decode cX12_price 88 = .ok (.iload_n 1, 1) := by decide +kernel
theorem dX12_price_89 : decode cX12_price 89 = .ok (.invokevirtual 323, 3) := by decide +kernel
theorem dX12_price_92 : decode cX12_price 92 = .ok (.isub, 1) := by decide +kernel
theorem dX12_price_93 : decode cX12_price 93 = .ok (.istore_n 3, 1) := by decide +kernel
theorem dX12_price_94 : decode cX12_price 94 = .ok (.iload_n 3, 1) := by decide +kernel
theorem dX12_price_95 : decode cX12_price 95 = .ok (.ifCond .ge 7, 3) := by decide +kernel
theorem dX12_price_98 : decode cX12_price 98 = .ok (.iconst 0, 1) := by decide +kernel
theorem dX12_price_99 : decode cX12_price 99 = .ok (.goto 4, 3) := by decide +kernel
theorem dX12_price_102 : decode cX12_price 102 = .ok (.iload_n 3, 1) := by decide +kernel
theorem dX12_price_103 : decode cX12_price 103 = .ok (.ireturn, 1) := by decide +kernel
theorem dX12_lampsBehind_0 : decode cX12_lampsBehind 0 = .ok (.iconst 0, 1) := by decide +kernel
theorem dX12_lampsBehind_1 : decode cX12_lampsBehind 1 = .ok (.istore_n 2, 1) := by decide +kernel
theorem dX12_lampsBehind_2 : decode cX12_lampsBehind 2 = .ok (.iconst 0, 1) := by decide +kernel
theorem dX12_lampsBehind_3 : decode cX12_lampsBehind 3 = .ok (.istore_n 3, 1) := by decide +kernel
theorem dX12_lampsBehind_4 : decode cX12_lampsBehind 4 = .ok (.iload_n 3, 1) := by decide +kernel
theorem dX12_lampsBehind_5 : decode cX12_lampsBehind 5 = .ok (.aload_n 0, 1) := by decide +kernel
theorem dX12_lampsBehind_6 : decode cX12_lampsBehind 6 = .ok (.invokevirtual 294, 3) := by decide +kernel
theorem dX12_lampsBehind_9 : decode cX12_lampsBehind 9 = .ok (.if_icmp .ge 31, 3) := by decide +kernel
theorem dX12_lampsBehind_12 : decode cX12_lampsBehind 12 = .ok (.iload_n 2, 1) := by decide +kernel
theorem dX12_lampsBehind_13 : decode cX12_lampsBehind 13 = .ok (.aload_n 0, 1) := by decide +kernel
theorem dX12_lampsBehind_14 : decode cX12_lampsBehind 14 = .ok (.getfield 113, 3) := by decide +kernel
theorem dX12_lampsBehind_17 : decode cX12_lampsBehind 17 = .ok (.iconst 2, 1) := by decide +kernel
theorem dX12_lampsBehind_18 : decode cX12_lampsBehind 18 = .ok (.iload_n 3, 1) := by decide +kernel
theorem dX12_lampsBehind_19 : decode cX12_lampsBehind 19 = .ok (.iadd, 1) := by decide +kernel
theorem dX12_lampsBehind_20 : decode cX12_lampsBehind 20 = .ok (.iaload, 1) := by decide +kernel
theorem dX12_lampsBehind_21 : decode cX12_lampsBehind 21 = .ok (.iload_n 1, 1) := by decide +kernel
theorem dX12_lampsBehind_22 : decode cX12_lampsBehind 22 = .ok (.if_icmp .le 9, 3) := by decide +kernel
theorem dX12_lampsBehind_25 : decode cX12_lampsBehind 25 = .ok (.iconst 1, 1) := by decide +kernel
theorem dX12_lampsBehind_26 : decode cX12_lampsBehind 26 = .ok (.iload_n 3, 1) := by decide +kernel
theorem dX12_lampsBehind_27 : decode cX12_lampsBehind 27 = .ok (.ishl, 1) := by decide +kernel
theorem dX12_lampsBehind_28 : decode cX12_lampsBehind 28 = .ok (.goto 4, 3) := by decide +kernel
theorem dX12_lampsBehind_31 : decode cX12_lampsBehind 31 = .ok (.iconst 0, 1) := by decide +kernel
theorem dX12_lampsBehind_32 : decode cX12_lampsBehind 32 = .ok (.ior, 1) := by decide +kernel
theorem dX12_lampsBehind_33 : decode cX12_lampsBehind 33 = .ok (.istore_n 2, 1) := by decide +kernel
theorem dX12_lampsBehind_34 : decode cX12_lampsBehind 34 = .ok (.iinc 3 1, 3) := by decide +kernel
theorem dX12_lampsBehind_37 : decode cX12_lampsBehind 37 = .ok (.goto (-33), 3) := by decide +kernel
theorem dX12_lampsBehind_40 : decode cX12_lampsBehind 40 = .ok (.iload_n 2, 1) := by decide +kernel
theorem dX12_lampsBehind_41 : decode cX12_lampsBehind 41 = .ok (.ireturn, 1) := by decide +kernel
theorem dX12_stays_0 : decode cX12_stays 0 = .ok (.aload_n 0, 1) := by decide +kernel
theorem dX12_stays_1 : decode cX12_stays 1 = .ok (.iconst 0, 1) := by decide +kernel
theorem dX12_stays_2 : decode cX12_stays 2 = .ok (.putfield 1, 3) := by decide +kernel
theorem dX12_stays_5 : decode cX12_stays 5 = .ok (.aload_n 0, 1) := by decide +kernel
theorem dX12_stays_6 : decode cX12_stays 6 = .ok (.iload_n 1, 1) := by decide +kernel
theorem dX12_stays_7 : decode cX12_stays 7 = .ok (.iload_n 2, 1) := by decide +kernel
theorem dX12_stays_8 : decode cX12_stays 8 = .ok (.invokevirtual 365, 3) := by decide +kernel
theorem dX12_stays_11 : decode cX12_stays 11 = .ok (.ifCond .ne 5, 3) := by decide +kernel
theorem dX12_stays_14 : decode cX12_stays 14 = .ok (.iconst (-1), 1) := by decide +kernel
theorem dX12_stays_15 : decode cX12_stays 15 = .ok (.ireturn, 1) := by decide +kernel
theorem dX12_stays_16 : decode cX12_stays 16 = .ok (.iconst 0, 1) := by decide +kernel
theorem dX12_stays_17 : decode cX12_stays 17 = .ok (.istore_n 3, 1) := by decide +kernel
theorem dX12_stays_18 : decode cX12_stays 18 = .ok (.iload_n 3, 1) := by decide +kernel
theorem dX12_stays_19 : decode cX12_stays 19 = .ok (.bipush 99, 2) := by decide +kernel
theorem dX12_stays_21 : decode cX12_stays 21 = .ok (.if_icmp .ge 23, 3) := by decide +kernel
theorem dX12_stays_24 : decode cX12_stays 24 = .ok (.aload_n 0, 1) := by decide +kernel
theorem dX12_stays_25 : decode cX12_stays 25 = .ok (.aload_n 0, 1) := by decide +kernel
theorem dX12_stays_26 : decode cX12_stays 26 = .ok (.iload_n 3, 1) := by decide +kernel
theorem dX12_stays_27 : decode cX12_stays 27 = .ok (.invokevirtual 410, 3) := by decide +kernel
theorem dX12_stays_30 : decode cX12_stays 30 = .ok (.iload_n 1, 1) := by decide +kernel
theorem dX12_stays_31 : decode cX12_stays 31 = .ok (.iload_n 2, 1) := by decide +kernel
theorem dX12_stays_32 : decode cX12_stays 32 = .ok (.invokevirtual 401, 3) := by decide +kernel
theorem dX12_stays_35 : decode cX12_stays 35 = .ok (.ifCond .eq 9, 3) := by decide +kernel
theorem dX12_stays_38 : decode cX12_stays 38 = .ok (.iinc 3 1, 3) := by decide +kernel
theorem dX12_stays_41 : decode cX12_stays 41 = .ok (.goto (-23), 3) := by decide +kernel
theorem dX12_stays_44 : decode cX12_stays 44 = .ok (.iload_n 3, 1) := by decide +kernel
theorem dX12_stays_45 : decode cX12_stays 45 = .ok (.ireturn, 1) := by decide +kernel
theorem dX12_middle_0 : decode cX12_middle 0 = .ok (.aload_n 0, 1) := by decide +kernel
theorem dX12_middle_1 : decode cX12_middle 1 = .ok (.iconst 0, 1) := by decide +kernel
theorem dX12_middle_2 : decode cX12_middle 2 = .ok (.putfield 1, 3) := by decide +kernel
theorem dX12_middle_5 : decode cX12_middle 5 = .ok (.aload_n 0, 1) := by decide +kernel
theorem dX12_middle_6 : decode cX12_middle 6 = .ok (.aload_n 0, 1) := by decide +kernel
theorem dX12_middle_7 : decode cX12_middle 7 = .ok (.iconst 0, 1) := by decide +kernel
theorem dX12_middle_8 : decode cX12_middle 8 = .ok (.invokevirtual 353, 3) := by decide +kernel
theorem dX12_middle_11 : decode cX12_middle 11 = .ok (.invokevirtual 347, 3) := by decide +kernel
theorem dX12_middle_14 : decode cX12_middle 14 = .ok (.iconst (-1), 1) := by decide +kernel
theorem dX12_middle_15 : decode cX12_middle 15 = .ok (.istore_n 1, 1) := by decide +kernel
theorem dX12_middle_16 : decode cX12_middle 16 = .ok (.iconst 0, 1) := by decide +kernel
theorem dX12_middle_17 : decode cX12_middle 17 = .ok (.istore_n 2, 1) := by decide +kernel
theorem dX12_middle_18 : decode cX12_middle 18 = .ok (.iconst 0, 1) := by decide +kernel
theorem dX12_middle_19 : decode cX12_middle 19 = .ok (.istore_n 3, 1) := by decide +kernel
theorem dX12_middle_20 : decode cX12_middle 20 = .ok (.iload_n 3, 1) := by decide +kernel
theorem dX12_middle_21 : decode cX12_middle 21 = .ok (.aload_n 0, 1) := by decide +kernel
theorem dX12_middle_22 : decode cX12_middle 22 = .ok (.invokevirtual 294, 3) := by decide +kernel
theorem dX12_middle_25 : decode cX12_middle 25 = .ok (.if_icmp .ge 110, 3) := by decide +kernel
theorem dX12_middle_28 : decode cX12_middle 28 = .ok (.iconst 0, 1) := by decide +kernel
theorem dX12_middle_29 : decode cX12_middle 29 = .ok (.istore 4, 2) := by decide +kernel
theorem dX12_middle_31 : decode cX12_middle 31 = .ok (.iconst 0, 1) := by decide +kernel
theorem dX12_middle_32 : decode cX12_middle 32 = .ok (.istore 5, 2) := by decide +kernel
theorem dX12_middle_34 : decode cX12_middle 34 = .ok (.iload 5, 2) := by decide +kernel
theorem dX12_middle_36 : decode cX12_middle 36 = .ok (.aload_n 0, 1) := by decide +kernel
theorem dX12_middle_37 : decode cX12_middle 37 = .ok (.invokevirtual 294, 3) := by decide +kernel
theorem dX12_middle_40 : decode cX12_middle 40 = .ok (.if_icmp .ge 49, 3) := by decide +kernel
theorem dX12_middle_43 : decode cX12_middle 43 = .ok (.iload 4, 2) := by decide +kernel
theorem dX12_middle_45 : decode cX12_middle 45 = .ok (.aload_n 0, 1) := by decide +kernel
theorem dX12_middle_46 : decode cX12_middle 46 = .ok (.getfield 120, 3) := by decide +kernel
theorem dX12_middle_49 : decode cX12_middle 49 = .ok (.bipush 6, 2) := by decide +kernel
theorem dX12_middle_51 : decode cX12_middle 51 = .ok (.iload_n 3, 1) := by decide +kernel
theorem dX12_middle_52 : decode cX12_middle 52 = .ok (.imul, 1) := by decide +kernel
theorem dX12_middle_53 : decode cX12_middle 53 = .ok (.iload 5, 2) := by decide +kernel
theorem dX12_middle_55 : decode cX12_middle 55 = .ok (.iadd, 1) := by decide +kernel
theorem dX12_middle_56 : decode cX12_middle 56 = .ok (.iaload, 1) := by decide +kernel
theorem dX12_middle_57 : decode cX12_middle 57 = .ok (.ldc_w 342, 3) := by decide +kernel
theorem dX12_middle_60 : decode cX12_middle 60 = .ok (.if_icmp .lt 8, 3) := by decide +kernel
theorem dX12_middle_63 : decode cX12_middle 63 = .ok (.bipush 100, 2) := by decide +kernel
theorem dX12_middle_65 : decode cX12_middle 65 = .ok (.goto 15, 3) := by decide +kernel
theorem dX12_middle_68 : decode cX12_middle 68 = .ok (.aload_n 0, 1) := by decide +kernel
theorem dX12_middle_69 : decode cX12_middle 69 = .ok (.getfield 120, 3) := by decide +kernel
theorem dX12_middle_72 : decode cX12_middle 72 = .ok (.bipush 6, 2) := by decide +kernel
theorem dX12_middle_74 : decode cX12_middle 74 = .ok (.iload_n 3, 1) := by decide +kernel
theorem dX12_middle_75 : decode cX12_middle 75 = .ok (.imul, 1) := by decide +kernel
theorem dX12_middle_76 : decode cX12_middle 76 = .ok (.iload 5, 2) := by decide +kernel
theorem dX12_middle_78 : decode cX12_middle 78 = .ok (.iadd, 1) := by decide +kernel
theorem dX12_middle_79 : decode cX12_middle 79 = .ok (.iaload, 1) := by decide +kernel
theorem dX12_middle_80 : decode cX12_middle 80 = .ok (.iadd, 1) := by decide +kernel
theorem dX12_middle_81 : decode cX12_middle 81 = .ok (.istore 4, 2) := by decide +kernel
theorem dX12_middle_83 : decode cX12_middle 83 = .ok (.iinc 5 1, 3) := by decide +kernel
theorem dX12_middle_86 : decode cX12_middle 86 = .ok (.goto (-52), 3) := by decide +kernel
theorem dX12_middle_89 : decode cX12_middle 89 = .ok (.iload_n 1, 1) := by decide +kernel
theorem dX12_middle_90 : decode cX12_middle 90 = .ok (.ifCond .lt 9, 3) := by decide +kernel
theorem dX12_middle_93 : decode cX12_middle 93 = .ok (.iload 4, 2) := by decide +kernel
theorem dX12_middle_95 : decode cX12_middle 95 = .ok (.iload_n 2, 1) := by decide +kernel
theorem dX12_middle_96 : decode cX12_middle 96 = .ok (.if_icmp .ge 7, 3) := by decide +kernel
theorem dX12_middle_99 : decode cX12_middle 99 = .ok (.iconst 1, 1) := by decide +kernel
theorem dX12_middle_100 : decode cX12_middle 100 = .ok (.goto 4, 3) := by decide +kernel
theorem dX12_middle_103 : decode cX12_middle 103 = .ok (.iconst 0, 1) := by decide +kernel
theorem dX12_middle_104 : decode cX12_middle 104 = .ok (.istore 5, 2) := by decide +kernel
theorem dX12_middle_106 : decode cX12_middle 106 = .ok (.iload 5, 2) := by decide +kernel
theorem dX12_middle_108 : decode cX12_middle 108 = .ok (.ifCond .eq 7, 3) := by decide +kernel
theorem dX12_middle_111 : decode cX12_middle 111 = .ok (.iload_n 3, 1) := by decide +kernel
theorem dX12_middle_112 : decode cX12_middle 112 = .ok (.goto 4, 3) := by decide +kernel
theorem dX12_middle_115 : decode cX12_middle 115 = .ok (.iload_n 1, 1) := by decide +kernel
theorem dX12_middle_116 : decode cX12_middle 116 = .ok (.istore_n 1, 1) := by decide +kernel
theorem dX12_middle_117 : decode cX12_middle 117 = .ok (.iload 5, 2) := by decide +kernel
theorem dX12_middle_119 : decode cX12_middle 119 = .ok (.ifCond .eq 8, 3) := by decide +kernel
theorem dX12_middle_122 : decode cX12_middle 122 = .ok (.iload 4, 2) := by decide +kernel
theorem dX12_middle_124 : decode cX12_middle 124 = .ok (.goto 4, 3) := by decide +kernel
theorem dX12_middle_127 : decode cX12_middle 127 = .ok (.iload_n 2, 1) := by decide +kernel
theorem dX12_middle_128 : decode cX12_middle 128 = .ok (.istore_n 2, 1) := by decide +kernel
theorem dX12_middle_129 : decode cX12_middle 129 = .ok (.iinc 3 1, 3) := by decide +kernel
theorem dX12_middle_132 : decode cX12_middle 132 = .ok (.goto (-112), 3) := by decide +kernel
theorem dX12_middle_135 : decode cX12_middle 135 = .ok (.iload_n 1, 1) := by decide +kernel
theorem dX12_middle_136 : decode cX12_middle 136 = .ok (.ireturn, 1) := by decide +kernel
theorem dX12_laysSteps_0 : decode cX12_laysSteps 0 = .ok (.iconst 0, 1) := by decide +kernel
theorem dX12_laysSteps_1 : decode cX12_laysSteps 1 = .ok (.istore_n 1, 1) := by decide +kernel
theorem dX12_laysSteps_2 : decode cX12_laysSteps 2 = .ok (.iload_n 1, 1) := by decide +kernel
theorem dX12_laysSteps_3 : decode cX12_laysSteps 3 = .ok (.bipush 36, 2) := by decide +kernel
theorem dX12_laysSteps_5 : decode cX12_laysSteps 5 = .ok (.if_icmp .ge 51, 3) := by decide +kernel
theorem dX12_laysSteps_8 : decode cX12_laysSteps 8 = .ok (.aload_n 0, 1) := by decide +kernel
theorem dX12_laysSteps_9 : decode cX12_laysSteps 9 = .ok (.getfield 89, 3) := by decide +kernel
theorem dX12_laysSteps_12 : decode cX12_laysSteps 12 = .ok (.bipush 21, 2) := by decide +kernel
theorem dX12_laysSteps_14 : decode cX12_laysSteps 14 = .ok (.iload_n 1, 1) := by decide +kernel
theorem dX12_laysSteps_15 : decode cX12_laysSteps 15 = .ok (.iadd, 1) := by decide +kernel
theorem dX12_laysSteps_16 : decode cX12_laysSteps 16 = .ok (.iaload, 1) := by decide +kernel
theorem dX12_laysSteps_17 : decode cX12_laysSteps 17 = .ok (.istore_n 2, 1) := by decide +kernel
theorem dX12_laysSteps_18 : decode cX12_laysSteps 18 = .ok (.aload_n 0, 1) := by decide +kernel
theorem dX12_laysSteps_19 : decode cX12_laysSteps 19 = .ok (.getfield 138, 3) := by decide +kernel
theorem dX12_laysSteps_22 : decode cX12_laysSteps 22 = .ok (.iload_n 1, 1) := by decide +kernel
theorem dX12_laysSteps_23 : decode cX12_laysSteps 23 = .ok (.iload_n 1, 1) := by decide +kernel
theorem dX12_laysSteps_24 : decode cX12_laysSteps 24 = .ok (.bipush 6, 2) := by decide +kernel
theorem dX12_laysSteps_26 : decode cX12_laysSteps 26 = .ok (.idiv, 1) := by decide +kernel
theorem dX12_laysSteps_27 : decode cX12_laysSteps 27 = .ok (.iload_n 1, 1) := by decide +kernel
theorem dX12_laysSteps_28 : decode cX12_laysSteps 28 = .ok (.bipush 6, 2) := by decide +kernel
theorem dX12_laysSteps_30 : decode cX12_laysSteps 30 = .ok (.irem, 1) := by decide +kernel
theorem dX12_laysSteps_31 : decode cX12_laysSteps 31 = .ok (.if_icmp .ne 7, 3) := by decide +kernel
theorem dX12_laysSteps_34 : decode cX12_laysSteps 34 = .ok (.iconst 0, 1) := by decide +kernel
theorem dX12_laysSteps_35 : decode cX12_laysSteps 35 = .ok (.goto 14, 3) := by decide +kernel
theorem dX12_laysSteps_38 : decode cX12_laysSteps 38 = .ok (.iload_n 2, 1) := by decide +kernel
theorem dX12_laysSteps_39 : decode cX12_laysSteps 39 = .ok (.ifCond .ne 9, 3) := by decide +kernel
theorem dX12_laysSteps_42 : decode cX12_laysSteps 42 = .ok (.ldc_w 342, 3) := by decide +kernel
theorem dX12_laysSteps_45 : decode cX12_laysSteps 45 = .ok (.goto 4, 3) := by decide +kernel
theorem dX12_laysSteps_48 : decode cX12_laysSteps 48 = .ok (.iload_n 2, 1) := by decide +kernel
theorem dX12_laysSteps_49 : decode cX12_laysSteps 49 = .ok (.iastore, 1) := by decide +kernel
theorem dX12_laysSteps_50 : decode cX12_laysSteps 50 = .ok (.iinc 1 1, 3) := by decide +kernel
theorem dX12_laysSteps_53 : decode cX12_laysSteps 53 = .ok (.goto (-51), 3) := by decide +kernel
theorem dX12_laysSteps_56 : decode cX12_laysSteps 56 = .ok (.iconst 0, 1) := by decide +kernel
theorem dX12_laysSteps_57 : decode cX12_laysSteps 57 = .ok (.istore_n 1, 1) := by decide +kernel
theorem dX12_laysSteps_58 : decode cX12_laysSteps 58 = .ok (.iload_n 1, 1) := by decide +kernel
theorem dX12_laysSteps_59 : decode cX12_laysSteps 59 = .ok (.aload_n 0, 1) := by decide +kernel
theorem dX12_laysSteps_60 : decode cX12_laysSteps 60 = .ok (.invokevirtual 294, 3) := by decide +kernel
theorem dX12_laysSteps_63 : decode cX12_laysSteps 63 = .ok (.if_icmp .ge 79, 3) := by decide +kernel
theorem dX12_laysSteps_66 : decode cX12_laysSteps 66 = .ok (.iconst 0, 1) := by decide +kernel
theorem dX12_laysSteps_67 : decode cX12_laysSteps 67 = .ok (.istore_n 2, 1) := by decide +kernel
theorem dX12_laysSteps_68 : decode cX12_laysSteps 68 = .ok (.iload_n 2, 1) := by decide +kernel
theorem dX12_laysSteps_69 : decode cX12_laysSteps 69 = .ok (.bipush 36, 2) := by decide +kernel
theorem dX12_laysSteps_71 : decode cX12_laysSteps 71 = .ok (.if_icmp .ge 65, 3) := by decide +kernel
theorem dX12_laysSteps_74 : decode cX12_laysSteps 74 = .ok (.aload_n 0, 1) := by decide +kernel
theorem dX12_laysSteps_75 : decode cX12_laysSteps 75 = .ok (.getfield 138, 3) := by decide +kernel
theorem dX12_laysSteps_78 : decode cX12_laysSteps 78 = .ok (.bipush 6, 2) := by decide +kernel
theorem dX12_laysSteps_80 : decode cX12_laysSteps 80 = .ok (.iload_n 2, 1) := by decide +kernel
theorem dX12_laysSteps_81 : decode cX12_laysSteps 81 = .ok (.bipush 6, 2) := by decide +kernel
theorem dX12_laysSteps_83 : decode cX12_laysSteps 83 = .ok (.idiv, 1) := by decide +kernel
theorem dX12_laysSteps_84 : decode cX12_laysSteps 84 = .ok (.imul, 1) := by decide +kernel
theorem dX12_laysSteps_85 : decode cX12_laysSteps 85 = .ok (.iload_n 1, 1) := by decide +kernel
theorem dX12_laysSteps_86 : decode cX12_laysSteps 86 = .ok (.iadd, 1) := by decide +kernel
theorem dX12_laysSteps_87 : decode cX12_laysSteps 87 = .ok (.iaload, 1) := by decide +kernel
theorem dX12_laysSteps_88 : decode cX12_laysSteps 88 = .ok (.aload_n 0, 1) := by decide +kernel
theorem dX12_laysSteps_89 : decode cX12_laysSteps 89 = .ok (.getfield 138, 3) := by decide +kernel
theorem dX12_laysSteps_92 : decode cX12_laysSteps 92 = .ok (.bipush 6, 2) := by decide +kernel
theorem dX12_laysSteps_94 : decode cX12_laysSteps 94 = .ok (.iload_n 1, 1) := by decide +kernel
theorem dX12_laysSteps_95 : decode cX12_laysSteps 95 = .ok (.imul, 1) := by decide +kernel
theorem dX12_laysSteps_96 : decode cX12_laysSteps 96 = .ok (.iload_n 2, 1) := by decide +kernel
theorem dX12_laysSteps_97 : decode cX12_laysSteps 97 = .ok (.bipush 6, 2) := by decide +kernel
theorem dX12_laysSteps_99 : decode cX12_laysSteps 99 = .ok (.irem, 1) := by decide +kernel
theorem dX12_laysSteps_100 : decode cX12_laysSteps 100 = .ok (.iadd, 1) := by decide +kernel
theorem dX12_laysSteps_101 : decode cX12_laysSteps 101 = .ok (.iaload, 1) := by decide +kernel
theorem dX12_laysSteps_102 : decode cX12_laysSteps 102 = .ok (.iadd, 1) := by decide +kernel
theorem dX12_laysSteps_103 : decode cX12_laysSteps 103 = .ok (.istore_n 3, 1) := by decide +kernel
theorem dX12_laysSteps_104 : decode cX12_laysSteps 104 = .ok (.aload_n 0, 1) := by decide +kernel
theorem dX12_laysSteps_105 : decode cX12_laysSteps 105 = .ok (.getfield 138, 3) := by decide +kernel
theorem dX12_laysSteps_108 : decode cX12_laysSteps 108 = .ok (.iload_n 2, 1) := by decide +kernel
theorem dX12_laysSteps_109 : decode cX12_laysSteps 109 = .ok (.iload_n 3, 1) := by decide +kernel
theorem dX12_laysSteps_110 : decode cX12_laysSteps 110 = .ok (.aload_n 0, 1) := by decide +kernel
theorem dX12_laysSteps_111 : decode cX12_laysSteps 111 = .ok (.getfield 138, 3) := by decide +kernel
theorem dX12_laysSteps_114 : decode cX12_laysSteps 114 = .ok (.iload_n 2, 1) := by decide +kernel
theorem dX12_laysSteps_115 : decode cX12_laysSteps 115 = .ok (.iaload, 1) := by decide +kernel
theorem dX12_laysSteps_116 : decode cX12_laysSteps 116 = .ok (.if_icmp .ge 7, 3) := by decide +kernel
theorem dX12_laysSteps_119 : decode cX12_laysSteps 119 = .ok (.iload_n 3, 1) := by decide +kernel
theorem dX12_laysSteps_120 : decode cX12_laysSteps 120 = .ok (.goto 9, 3) := by decide +kernel
theorem dX12_laysSteps_123 : decode cX12_laysSteps 123 = .ok (.aload_n 0, 1) := by decide +kernel
theorem dX12_laysSteps_124 : decode cX12_laysSteps 124 = .ok (.getfield 138, 3) := by decide +kernel
theorem dX12_laysSteps_127 : decode cX12_laysSteps 127 = .ok (.iload_n 2, 1) := by decide +kernel
theorem dX12_laysSteps_128 : decode cX12_laysSteps 128 = .ok (.iaload, 1) := by decide +kernel
theorem dX12_laysSteps_129 : decode cX12_laysSteps 129 = .ok (.iastore, 1) := by decide +kernel
theorem dX12_laysSteps_130 : decode cX12_laysSteps 130 = .ok (.iinc 2 1, 3) := by decide +kernel
theorem dX12_laysSteps_133 : decode cX12_laysSteps 133 = .ok (.goto (-65), 3) := by decide +kernel
theorem dX12_laysSteps_136 : decode cX12_laysSteps 136 = .ok (.iinc 1 1, 3) := by decide +kernel
theorem dX12_laysSteps_139 : decode cX12_laysSteps 139 = .ok (.goto (-81), 3) := by decide +kernel
theorem dX12_laysSteps_142 : decode cX12_laysSteps 142 = .ok (.return_, 1) := by decide +kernel
theorem dX12_rounds_0 : decode cX12_rounds 0 = .ok (.iload 4, 2) := by decide +kernel
theorem dX12_rounds_2 : decode cX12_rounds 2 = .ok (.aload_n 0, 1) := by decide +kernel
theorem dX12_rounds_3 : decode cX12_rounds 3 = .ok (.getfield 413, 3) := by decide +kernel
theorem dX12_rounds_6 : decode cX12_rounds 6 = .ok (.if_icmp .gt 20, 3) := by decide +kernel
theorem dX12_rounds_9 : decode cX12_rounds 9 = .ok (.iload 4, 2) := by decide +kernel
theorem dX12_rounds_11 : decode cX12_rounds 11 = .ok (.aload_n 0, 1) := by decide +kernel
theorem dX12_rounds_12 : decode cX12_rounds 12 = .ok (.getfield 413, 3) := by decide +kernel
theorem dX12_rounds_15 : decode cX12_rounds 15 = .ok (.if_icmp .ne 15, 3) := by decide +kernel
theorem dX12_rounds_18 : decode cX12_rounds 18 = .ok (.iload_n 3, 1) := by decide +kernel
theorem dX12_rounds_19 : decode cX12_rounds 19 = .ok (.aload_n 0, 1) := by decide +kernel
theorem dX12_rounds_20 : decode cX12_rounds 20 = .ok (.getfield 416, 3) := by decide +kernel
theorem dX12_rounds_23 : decode cX12_rounds 23 = .ok (.if_icmp .ge 7, 3) := by decide +kernel
theorem dX12_rounds_26 : decode cX12_rounds 26 = .ok (.iconst 1, 1) := by decide +kernel
theorem dX12_rounds_27 : decode cX12_rounds 27 = .ok (.goto 4, 3) := by decide +kernel
theorem dX12_rounds_30 : decode cX12_rounds 30 = .ok (.iconst 0, 1) := by decide +kernel
theorem dX12_rounds_31 : decode cX12_rounds 31 = .ok (.istore 6, 2) := by decide +kernel
theorem dX12_rounds_33 : decode cX12_rounds 33 = .ok (.iload 6, 2) := by decide +kernel
theorem dX12_rounds_35 : decode cX12_rounds 35 = .ok (.ifCond .ne 28, 3) := by decide +kernel
theorem dX12_rounds_38 : decode cX12_rounds 38 = .ok (.iload 4, 2) := by decide +kernel
theorem dX12_rounds_40 : decode cX12_rounds 40 = .ok (.aload_n 0, 1) := by decide +kernel
theorem dX12_rounds_41 : decode cX12_rounds 41 = .ok (.getfield 413, 3) := by decide +kernel
theorem dX12_rounds_44 : decode cX12_rounds 44 = .ok (.if_icmp .ne 23, 3) := by decide +kernel
theorem dX12_rounds_47 : decode cX12_rounds 47 = .ok (.iload_n 3, 1) := by decide +kernel
theorem dX12_rounds_48 : decode cX12_rounds 48 = .ok (.aload_n 0, 1) := by decide +kernel
theorem dX12_rounds_49 : decode cX12_rounds 49 = .ok (.getfield 416, 3) := by decide +kernel
theorem dX12_rounds_52 : decode cX12_rounds 52 = .ok (.if_icmp .ne 15, 3) := by decide +kernel
theorem dX12_rounds_55 : decode cX12_rounds 55 = .ok (.iload_n 2, 1) := by decide +kernel
theorem dX12_rounds_56 : decode cX12_rounds 56 = .ok (.aload_n 0, 1) := by decide +kernel
theorem dX12_rounds_57 : decode cX12_rounds 57 = .ok (.getfield 419, 3) := by decide +kernel
theorem dX12_rounds_60 : decode cX12_rounds 60 = .ok (.if_icmp .ge 7, 3) := by decide +kernel
theorem dX12_rounds_63 : decode cX12_rounds 63 = .ok (.iconst 1, 1) := by decide +kernel
theorem dX12_rounds_64 : decode cX12_rounds 64 = .ok (.goto 4, 3) := by decide +kernel
theorem dX12_rounds_67 : decode cX12_rounds 67 = .ok (.iconst 0, 1) := by decide +kernel
theorem dX12_rounds_68 : decode cX12_rounds 68 = .ok (.istore 6, 2) := by decide +kernel
theorem dX12_rounds_70 : decode cX12_rounds 70 = .ok (.iload 6, 2) := by decide +kernel
theorem dX12_rounds_72 : decode cX12_rounds 72 = .ok (.ifCond .eq 19, 3) := by decide +kernel
theorem dX12_rounds_75 : decode cX12_rounds 75 = .ok (.aload_n 0, 1) := by decide +kernel
theorem dX12_rounds_76 : decode cX12_rounds 76 = .ok (.iload 4, 2) := by decide +kernel
theorem dX12_rounds_78 : decode cX12_rounds 78 = .ok (.putfield 413, 3) := by decide +kernel
theorem dX12_rounds_81 : decode cX12_rounds 81 = .ok (.aload_n 0, 1) := by decide +kernel
theorem dX12_rounds_82 : decode cX12_rounds 82 = .ok (.iload_n 3, 1) := by decide +kernel
theorem dX12_rounds_83 : decode cX12_rounds 83 = .ok (.putfield 416, 3) := by decide +kernel
theorem dX12_rounds_86 : decode cX12_rounds 86 = .ok (.aload_n 0, 1) := by decide +kernel
theorem dX12_rounds_87 : decode cX12_rounds 87 = .ok (.iload_n 2, 1) := by decide +kernel
theorem dX12_rounds_88 : decode cX12_rounds 88 = .ok (.putfield 419, 3) := by decide +kernel
theorem dX12_rounds_91 : decode cX12_rounds 91 = .ok (.iconst 0, 1) := by decide +kernel
theorem dX12_rounds_92 : decode cX12_rounds 92 = .ok (.istore 7, 2) := by decide +kernel
theorem dX12_rounds_94 : decode cX12_rounds 94 = .ok (.iload 7, 2) := by decide +kernel
theorem dX12_rounds_96 : decode cX12_rounds 96 = .ok (.aload_n 0, 1) := by decide +kernel
theorem dX12_rounds_97 : decode cX12_rounds 97 = .ok (.invokevirtual 294, 3) := by decide +kernel
theorem dX12_rounds_100 : decode cX12_rounds 100 = .ok (.if_icmp .ge 77, 3) := by decide +kernel
theorem dX12_rounds_103 : decode cX12_rounds 103 = .ok (.iload_n 3, 1) := by decide +kernel
theorem dX12_rounds_104 : decode cX12_rounds 104 = .ok (.aload_n 0, 1) := by decide +kernel
theorem dX12_rounds_105 : decode cX12_rounds 105 = .ok (.getfield 138, 3) := by decide +kernel
theorem dX12_rounds_108 : decode cX12_rounds 108 = .ok (.bipush 6, 2) := by decide +kernel
theorem dX12_rounds_110 : decode cX12_rounds 110 = .ok (.iload_n 1, 1) := by decide +kernel
theorem dX12_rounds_111 : decode cX12_rounds 111 = .ok (.imul, 1) := by decide +kernel
theorem dX12_rounds_112 : decode cX12_rounds 112 = .ok (.iload 7, 2) := by decide +kernel
theorem dX12_rounds_114 : decode cX12_rounds 114 = .ok (.iadd, 1) := by decide +kernel
theorem dX12_rounds_115 : decode cX12_rounds 115 = .ok (.iaload, 1) := by decide +kernel
theorem dX12_rounds_116 : decode cX12_rounds 116 = .ok (.iadd, 1) := by decide +kernel
theorem dX12_rounds_117 : decode cX12_rounds 117 = .ok (.istore 8, 2) := by decide +kernel
theorem dX12_rounds_119 : decode cX12_rounds 119 = .ok (.iload_n 2, 1) := by decide +kernel
theorem dX12_rounds_120 : decode cX12_rounds 120 = .ok (.iload 7, 2) := by decide +kernel
theorem dX12_rounds_122 : decode cX12_rounds 122 = .ok (.ishr, 1) := by decide +kernel
theorem dX12_rounds_123 : decode cX12_rounds 123 = .ok (.iconst 1, 1) := by decide +kernel
theorem dX12_rounds_124 : decode cX12_rounds 124 = .ok (.iand, 1) := by decide +kernel
theorem dX12_rounds_125 : decode cX12_rounds 125 = .ok (.ifCond .ne 46, 3) := by decide +kernel
theorem dX12_rounds_128 : decode cX12_rounds 128 = .ok (.aload_n 0, 1) := by decide +kernel
theorem dX12_rounds_129 : decode cX12_rounds 129 = .ok (.getfield 141, 3) := by decide +kernel
theorem dX12_rounds_132 : decode cX12_rounds 132 = .ok (.iload 7, 2) := by decide +kernel
theorem dX12_rounds_134 : decode cX12_rounds 134 = .ok (.iaload, 1) := by decide +kernel
theorem dX12_rounds_135 : decode cX12_rounds 135 = .ok (.ifCond .le 36, 3) := by decide +kernel
theorem dX12_rounds_138 : decode cX12_rounds 138 = .ok (.iload 8, 2) := by decide +kernel
theorem dX12_rounds_140 : decode cX12_rounds 140 = .ok (.iload 5, 2) := by decide +kernel
theorem dX12_rounds_142 : decode cX12_rounds 142 = .ok (.if_icmp .gt 29, 3) := by decide +kernel
theorem dX12_rounds_145 : decode cX12_rounds 145 = .ok (.aload_n 0, 1) := by decide +kernel
theorem dX12_rounds_146 : decode cX12_rounds 146 = .ok (.iload 7, 2) := by decide +kernel
theorem dX12_rounds_148 : decode cX12_rounds 148 = .ok (.iload_n 2, 1) := by decide +kernel
theorem dX12_rounds_149 : decode cX12_rounds 149 = .ok (.iconst 1, 1) := by decide +kernel
theorem dX12_rounds_150 : decode cX12_rounds 150 = .ok (.iload 7, 2) := by decide +kernel
theorem dX12_rounds_152 : decode cX12_rounds 152 = .ok (.ishl, 1) := by decide +kernel
theorem dX12_rounds_153 : decode cX12_rounds 153 = .ok (.ior, 1) := by decide +kernel
theorem dX12_rounds_154 : decode cX12_rounds 154 = .ok (.iload 8, 2) := by decide +kernel
theorem dX12_rounds_156 : decode cX12_rounds 156 = .ok (.iload 4, 2) := by decide +kernel
theorem dX12_rounds_158 : decode cX12_rounds 158 = .ok (.aload_n 0, 1) := by decide +kernel
theorem dX12_rounds_159 : decode cX12_rounds 159 = .ok (.getfield 141, 3) := by decide +kernel
theorem dX12_rounds_162 : decode cX12_rounds 162 = .ok (.iload 7, 2) := by decide +kernel
theorem dX12_rounds_164 : decode cX12_rounds 164 = .ok (.iaload, 1) := by decide +kernel
theorem dX12_rounds_165 : decode cX12_rounds 165 = .ok (.iadd, 1) := by decide +kernel
theorem dX12_rounds_166 : decode cX12_rounds 166 = .ok (.iload 5, 2) := by decide +kernel
theorem dX12_rounds_168 : decode cX12_rounds 168 = .ok (.invokevirtual 422, 3) := by decide +kernel
theorem dX12_rounds_171 : decode cX12_rounds 171 = .ok (.iinc 7 1, 3) := by decide +kernel
theorem dX12_rounds_174 : decode cX12_rounds 174 = .ok (.goto (-80), 3) := by decide +kernel
theorem dX12_rounds_177 : decode cX12_rounds 177 = .ok (.return_, 1) := by decide +kernel
theorem dX12_round_0 : decode cX12_round 0 = .ok (.aload_n 0, 1) := by decide +kernel
theorem dX12_round_1 : decode cX12_round 1 = .ok (.iconst 0, 1) := by decide +kernel
theorem dX12_round_2 : decode cX12_round 2 = .ok (.putfield 1, 3) := by decide +kernel
theorem dX12_round_5 : decode cX12_round 5 = .ok (.aload_n 0, 1) := by decide +kernel
theorem dX12_round_6 : decode cX12_round 6 = .ok (.iload_n 1, 1) := by decide +kernel
theorem dX12_round_7 : decode cX12_round 7 = .ok (.invokevirtual 359, 3) := by decide +kernel
theorem dX12_round_10 : decode cX12_round 10 = .ok (.ifCond .eq 23, 3) := by decide +kernel
theorem dX12_round_13 : decode cX12_round 13 = .ok (.iload_n 2, 1) := by decide +kernel
theorem dX12_round_14 : decode cX12_round 14 = .ok (.iconst 0, 1) := by decide +kernel
theorem dX12_round_15 : decode cX12_round 15 = .ok (.sipush 200, 3) := by decide +kernel
theorem dX12_round_18 : decode cX12_round 18 = .ok (.invokestatic 362, 3) := by decide +kernel
theorem dX12_round_21 : decode cX12_round 21 = .ok (.ifCond .eq 12, 3) := by decide +kernel
theorem dX12_round_24 : decode cX12_round 24 = .ok (.iload_n 3, 1) := by decide +kernel
theorem dX12_round_25 : decode cX12_round 25 = .ok (.iconst 0, 1) := by decide +kernel
theorem dX12_round_26 : decode cX12_round 26 = .ok (.iconst 2, 1) := by decide +kernel
theorem dX12_round_27 : decode cX12_round 27 = .ok (.invokestatic 362, 3) := by decide +kernel
theorem dX12_round_30 : decode cX12_round 30 = .ok (.ifCond .ne 5, 3) := by decide +kernel
theorem dX12_round_33 : decode cX12_round 33 = .ok (.iconst (-1), 1) := by decide +kernel
theorem dX12_round_34 : decode cX12_round 34 = .ok (.ireturn, 1) := by decide +kernel
theorem dX12_round_35 : decode cX12_round 35 = .ok (.aload_n 0, 1) := by decide +kernel
theorem dX12_round_36 : decode cX12_round 36 = .ok (.invokevirtual 426, 3) := by decide +kernel
theorem dX12_round_39 : decode cX12_round 39 = .ok (.iconst 0, 1) := by decide +kernel
theorem dX12_round_40 : decode cX12_round 40 = .ok (.istore 4, 2) := by decide +kernel
theorem dX12_round_42 : decode cX12_round 42 = .ok (.iload 4, 2) := by decide +kernel
theorem dX12_round_44 : decode cX12_round 44 = .ok (.aload_n 0, 1) := by decide +kernel
theorem dX12_round_45 : decode cX12_round 45 = .ok (.invokevirtual 294, 3) := by decide +kernel
theorem dX12_round_48 : decode cX12_round 48 = .ok (.if_icmp .ge 17, 3) := by decide +kernel
theorem dX12_round_51 : decode cX12_round 51 = .ok (.aload_n 0, 1) := by decide +kernel
theorem dX12_round_52 : decode cX12_round 52 = .ok (.getfield 141, 3) := by decide +kernel
theorem dX12_round_55 : decode cX12_round 55 = .ok (.iload 4, 2) := by decide +kernel
theorem dX12_round_57 : decode cX12_round 57 = .ok (.iconst 0, 1) := by decide +kernel
theorem dX12_round_58 : decode cX12_round 58 = .ok (.iastore, 1) := by decide +kernel
theorem dX12_round_59 : decode cX12_round 59 = .ok (.iinc 4 1, 3) := by decide +kernel
theorem dX12_round_62 : decode cX12_round 62 = .ok (.goto (-20), 3) := by decide +kernel
theorem dX12_round_65 : decode cX12_round 65 = .ok (.iconst 0, 1) := by decide +kernel
theorem dX12_round_66 : decode cX12_round 66 = .ok (.istore 4, 2) := by decide +kernel
theorem dX12_round_68 : decode cX12_round 68 = .ok (.iload 4, 2) := by decide +kernel
theorem dX12_round_70 : decode cX12_round 70 = .ok (.aload_n 0, 1) := by decide +kernel
theorem dX12_round_71 : decode cX12_round 71 = .ok (.invokevirtual 273, 3) := by decide +kernel
theorem dX12_round_74 : decode cX12_round 74 = .ok (.if_icmp .ge 39, 3) := by decide +kernel
theorem dX12_round_77 : decode cX12_round 77 = .ok (.aload_n 0, 1) := by decide +kernel
theorem dX12_round_78 : decode cX12_round 78 = .ok (.getfield 141, 3) := by decide +kernel
theorem dX12_round_81 : decode cX12_round 81 = .ok (.aload_n 0, 1) := by decide +kernel
theorem dX12_round_82 : decode cX12_round 82 = .ok (.iload 4, 2) := by decide +kernel
theorem dX12_round_84 : decode cX12_round 84 = .ok (.iconst 1, 1) := by decide +kernel
theorem dX12_round_85 : decode cX12_round 85 = .ok (.invokevirtual 297, 3) := by decide +kernel
theorem dX12_round_88 : decode cX12_round 88 = .ok (.dup2, 1) := by decide +kernel
theorem dX12_round_89 : decode cX12_round 89 = .ok (.iaload, 1) := by decide +kernel
theorem dX12_round_90 : decode cX12_round 90 = .ok (.aload_n 0, 1) := by decide +kernel
theorem dX12_round_91 : decode cX12_round 91 = .ok (.iconst 0, 1) := by decide +kernel
theorem dX12_round_92 : decode cX12_round 92 = .ok (.iload 4, 2) := by decide +kernel
theorem dX12_round_94 : decode cX12_round 94 = .ok (.invokevirtual 336, 3) := by decide +kernel
theorem dX12_round_97 : decode cX12_round 97 = .ok (.ifCond .eq 7, 3) := by decide +kernel
theorem dX12_round_100 : decode cX12_round 100 = .ok (.iconst 1, 1) := by decide +kernel
theorem dX12_round_101 : decode cX12_round 101 = .ok (.goto 4, 3) := by decide +kernel
theorem dX12_round_104 : decode cX12_round 104 = .ok (.iconst 0, 1) := by decide +kernel
theorem dX12_round_105 : decode cX12_round 105 = .ok (.iadd, 1) := by decide +kernel
theorem dX12_round_106 : decode cX12_round 106 = .ok (.iastore, 1) := by decide +kernel
theorem dX12_round_107 : decode cX12_round 107 = .ok (.iinc 4 1, 3) := by decide +kernel
theorem dX12_round_110 : decode cX12_round 110 = .ok (.goto (-42), 3) := by decide +kernel
theorem dX12_round_113 : decode cX12_round 113 = .ok (.aload_n 0, 1) := by decide +kernel
theorem dX12_round_114 : decode cX12_round 114 = .ok (.iconst (-1), 1) := by decide +kernel
theorem dX12_round_115 : decode cX12_round 115 = .ok (.putfield 413, 3) := by decide +kernel
theorem dX12_round_118 : decode cX12_round 118 = .ok (.aload_n 0, 1) := by decide +kernel
theorem dX12_round_119 : decode cX12_round 119 = .ok (.iconst 0, 1) := by decide +kernel
theorem dX12_round_120 : decode cX12_round 120 = .ok (.putfield 416, 3) := by decide +kernel
theorem dX12_round_123 : decode cX12_round 123 = .ok (.aload_n 0, 1) := by decide +kernel
theorem dX12_round_124 : decode cX12_round 124 = .ok (.iconst 0, 1) := by decide +kernel
theorem dX12_round_125 : decode cX12_round 125 = .ok (.putfield 419, 3) := by decide +kernel
theorem dX12_round_128 : decode cX12_round 128 = .ok (.aload_n 0, 1) := by decide +kernel
theorem dX12_round_129 : decode cX12_round 129 = .ok (.iload_n 1, 1) := by decide +kernel
theorem dX12_round_130 : decode cX12_round 130 = .ok (.aload_n 0, 1) := by decide +kernel
theorem dX12_round_131 : decode cX12_round 131 = .ok (.getfield 141, 3) := by decide +kernel
theorem dX12_round_134 : decode cX12_round 134 = .ok (.iload_n 1, 1) := by decide +kernel
theorem dX12_round_135 : decode cX12_round 135 = .ok (.iaload, 1) := by decide +kernel
theorem dX12_round_136 : decode cX12_round 136 = .ok (.ifCond .le 9, 3) := by decide +kernel
theorem dX12_round_139 : decode cX12_round 139 = .ok (.iconst 1, 1) := by decide +kernel
theorem dX12_round_140 : decode cX12_round 140 = .ok (.iload_n 1, 1) := by decide +kernel
theorem dX12_round_141 : decode cX12_round 141 = .ok (.ishl, 1) := by decide +kernel
theorem dX12_round_142 : decode cX12_round 142 = .ok (.goto 4, 3) := by decide +kernel
theorem dX12_round_145 : decode cX12_round 145 = .ok (.iconst 0, 1) := by decide +kernel
theorem dX12_round_146 : decode cX12_round 146 = .ok (.iconst 0, 1) := by decide +kernel
theorem dX12_round_147 : decode cX12_round 147 = .ok (.aload_n 0, 1) := by decide +kernel
theorem dX12_round_148 : decode cX12_round 148 = .ok (.getfield 141, 3) := by decide +kernel
theorem dX12_round_151 : decode cX12_round 151 = .ok (.iload_n 1, 1) := by decide +kernel
theorem dX12_round_152 : decode cX12_round 152 = .ok (.iaload, 1) := by decide +kernel
theorem dX12_round_153 : decode cX12_round 153 = .ok (.iload_n 2, 1) := by decide +kernel
theorem dX12_round_154 : decode cX12_round 154 = .ok (.invokevirtual 422, 3) := by decide +kernel
theorem dX12_round_157 : decode cX12_round 157 = .ok (.iload_n 3, 1) := by decide +kernel
theorem dX12_round_158 : decode cX12_round 158 = .ok (.ifCond .ne 10, 3) := by decide +kernel
theorem dX12_round_161 : decode cX12_round 161 = .ok (.aload_n 0, 1) := by decide +kernel
theorem dX12_round_162 : decode cX12_round 162 = .ok (.getfield 413, 3) := by decide +kernel
theorem dX12_round_165 : decode cX12_round 165 = .ok (.goto 19, 3) := by decide +kernel
theorem dX12_round_168 : decode cX12_round 168 = .ok (.iload_n 3, 1) := by decide +kernel
theorem dX12_round_169 : decode cX12_round 169 = .ok (.iconst 1, 1) := by decide +kernel
theorem dX12_round_170 : decode cX12_round 170 = .ok (.if_icmp .ne 10, 3) := by decide +kernel
theorem dX12_round_173 : decode cX12_round 173 = .ok (.aload_n 0, 1) := by decide +kernel
theorem dX12_round_174 : decode cX12_round 174 = .ok (.getfield 416, 3) := by decide +kernel
theorem dX12_round_177 : decode cX12_round 177 = .ok (.goto 7, 3) := by decide +kernel
theorem dX12_round_180 : decode cX12_round 180 = .ok (.aload_n 0, 1) := by decide +kernel
theorem dX12_round_181 : decode cX12_round 181 = .ok (.getfield 419, 3) := by decide +kernel
theorem dX12_round_184 : decode cX12_round 184 = .ok (.ireturn, 1) := by decide +kernel
theorem dX12_bits_0 : decode cX12_bits 0 = .ok (.iconst 0, 1) := by decide +kernel
theorem dX12_bits_1 : decode cX12_bits 1 = .ok (.istore_n 1, 1) := by decide +kernel
theorem dX12_bits_2 : decode cX12_bits 2 = .ok (.iconst 0, 1) := by decide +kernel
theorem dX12_bits_3 : decode cX12_bits 3 = .ok (.istore_n 2, 1) := by decide +kernel
theorem dX12_bits_4 : decode cX12_bits 4 = .ok (.iload_n 2, 1) := by decide +kernel
theorem dX12_bits_5 : decode cX12_bits 5 = .ok (.bipush 30, 2) := by decide +kernel
theorem dX12_bits_7 : decode cX12_bits 7 = .ok (.if_icmp .ge 17, 3) := by decide +kernel
theorem dX12_bits_10 : decode cX12_bits 10 = .ok (.iload_n 1, 1) := by decide +kernel
theorem dX12_bits_11 : decode cX12_bits 11 = .ok (.iload_n 0, 1) := by decide +kernel
theorem dX12_bits_12 : decode cX12_bits 12 = .ok (.iload_n 2, 1) := by decide +kernel
theorem dX12_bits_13 : decode cX12_bits 13 = .ok (.ishr, 1) := by decide +kernel
theorem dX12_bits_14 : decode cX12_bits 14 = .ok (.iconst 1, 1) := by decide +kernel
theorem dX12_bits_15 : decode cX12_bits 15 = .ok (.iand, 1) := by decide +kernel
theorem dX12_bits_16 : decode cX12_bits 16 = .ok (.iadd, 1) := by decide +kernel
theorem dX12_bits_17 : decode cX12_bits 17 = .ok (.istore_n 1, 1) := by decide +kernel
theorem dX12_bits_18 : decode cX12_bits 18 = .ok (.iinc 2 1, 3) := by decide +kernel
theorem dX12_bits_21 : decode cX12_bits 21 = .ok (.goto (-17), 3) := by decide +kernel
theorem dX12_bits_24 : decode cX12_bits 24 = .ok (.iload_n 1, 1) := by decide +kernel
theorem dX12_bits_25 : decode cX12_bits 25 = .ok (.ireturn, 1) := by decide +kernel
theorem dX12_isCircle_0 : decode cX12_isCircle 0 = .ok (.iconst (-1), 1) := by decide +kernel
theorem dX12_isCircle_1 : decode cX12_isCircle 1 = .ok (.istore_n 2, 1) := by decide +kernel
theorem dX12_isCircle_2 : decode cX12_isCircle 2 = .ok (.aload_n 0, 1) := by decide +kernel
theorem dX12_isCircle_3 : decode cX12_isCircle 3 = .ok (.invokevirtual 273, 3) := by decide +kernel
theorem dX12_isCircle_6 : decode cX12_isCircle 6 = .ok (.iconst 1, 1) := by decide +kernel
theorem dX12_isCircle_7 : decode cX12_isCircle 7 = .ok (.isub, 1) := by decide +kernel
theorem dX12_isCircle_8 : decode cX12_isCircle 8 = .ok (.istore_n 3, 1) := by decide +kernel
theorem dX12_isCircle_9 : decode cX12_isCircle 9 = .ok (.iload_n 3, 1) := by decide +kernel
theorem dX12_isCircle_10 : decode cX12_isCircle 10 = .ok (.ifCond .lt 24, 3) := by decide +kernel
theorem dX12_isCircle_13 : decode cX12_isCircle 13 = .ok (.iload_n 1, 1) := by decide +kernel
theorem dX12_isCircle_14 : decode cX12_isCircle 14 = .ok (.iload_n 3, 1) := by decide +kernel
theorem dX12_isCircle_15 : decode cX12_isCircle 15 = .ok (.ishr, 1) := by decide +kernel
theorem dX12_isCircle_16 : decode cX12_isCircle 16 = .ok (.iconst 1, 1) := by decide +kernel
theorem dX12_isCircle_17 : decode cX12_isCircle 17 = .ok (.iand, 1) := by decide +kernel
theorem dX12_isCircle_18 : decode cX12_isCircle 18 = .ok (.iconst 1, 1) := by decide +kernel
theorem dX12_isCircle_19 : decode cX12_isCircle 19 = .ok (.if_icmp .ne 7, 3) := by decide +kernel
theorem dX12_isCircle_22 : decode cX12_isCircle 22 = .ok (.iload_n 3, 1) := by decide +kernel
theorem dX12_isCircle_23 : decode cX12_isCircle 23 = .ok (.goto 4, 3) := by decide +kernel
theorem dX12_isCircle_26 : decode cX12_isCircle 26 = .ok (.iload_n 2, 1) := by decide +kernel
theorem dX12_isCircle_27 : decode cX12_isCircle 27 = .ok (.istore_n 2, 1) := by decide +kernel
theorem dX12_isCircle_28 : decode cX12_isCircle 28 = .ok (.iinc 3 (-1), 3) := by decide +kernel
theorem dX12_isCircle_31 : decode cX12_isCircle 31 = .ok (.goto (-22), 3) := by decide +kernel
theorem dX12_isCircle_34 : decode cX12_isCircle 34 = .ok (.iload_n 2, 1) := by decide +kernel
theorem dX12_isCircle_35 : decode cX12_isCircle 35 = .ok (.ifCond .ge 7, 3) := by decide +kernel
theorem dX12_isCircle_38 : decode cX12_isCircle 38 = .ok (.iconst 0, 1) := by decide +kernel
theorem dX12_isCircle_39 : decode cX12_isCircle 39 = .ok (.goto 9, 3) := by decide +kernel
theorem dX12_isCircle_42 : decode cX12_isCircle 42 = .ok (.aload_n 0, 1) := by decide +kernel
theorem dX12_isCircle_43 : decode cX12_isCircle 43 = .ok (.iload_n 2, 1) := by decide +kernel
theorem dX12_isCircle_44 : decode cX12_isCircle 44 = .ok (.iconst 0, 1) := by decide +kernel
theorem dX12_isCircle_45 : decode cX12_isCircle 45 = .ok (.invokevirtual 297, 3) := by decide +kernel
theorem dX12_isCircle_48 : decode cX12_isCircle 48 = .ok (.istore_n 3, 1) := by decide +kernel
theorem dX12_isCircle_49 : decode cX12_isCircle 49 = .ok (.iconst 0, 1) := by decide +kernel
theorem dX12_isCircle_50 : decode cX12_isCircle 50 = .ok (.istore 4, 2) := by decide +kernel
theorem dX12_isCircle_52 : decode cX12_isCircle 52 = .ok (.iconst 0, 1) := by decide +kernel
theorem dX12_isCircle_53 : decode cX12_isCircle 53 = .ok (.istore 5, 2) := by decide +kernel
theorem dX12_isCircle_55 : decode cX12_isCircle 55 = .ok (.iload_n 2, 1) := by decide +kernel
theorem dX12_isCircle_56 : decode cX12_isCircle 56 = .ok (.ifCond .lt 142, 3) := by decide +kernel
theorem dX12_isCircle_59 : decode cX12_isCircle 59 = .ok (.iload 5, 2) := by decide +kernel
theorem dX12_isCircle_61 : decode cX12_isCircle 61 = .ok (.iload_n 2, 1) := by decide +kernel
theorem dX12_isCircle_62 : decode cX12_isCircle 62 = .ok (.ishr, 1) := by decide +kernel
theorem dX12_isCircle_63 : decode cX12_isCircle 63 = .ok (.iconst 1, 1) := by decide +kernel
theorem dX12_isCircle_64 : decode cX12_isCircle 64 = .ok (.iand, 1) := by decide +kernel
theorem dX12_isCircle_65 : decode cX12_isCircle 65 = .ok (.ifCond .ne 133, 3) := by decide +kernel
theorem dX12_isCircle_68 : decode cX12_isCircle 68 = .ok (.iload 5, 2) := by decide +kernel
theorem dX12_isCircle_70 : decode cX12_isCircle 70 = .ok (.iconst 1, 1) := by decide +kernel
theorem dX12_isCircle_71 : decode cX12_isCircle 71 = .ok (.iload_n 2, 1) := by decide +kernel
theorem dX12_isCircle_72 : decode cX12_isCircle 72 = .ok (.ishl, 1) := by decide +kernel
theorem dX12_isCircle_73 : decode cX12_isCircle 73 = .ok (.ior, 1) := by decide +kernel
theorem dX12_isCircle_74 : decode cX12_isCircle 74 = .ok (.istore 5, 2) := by decide +kernel
theorem dX12_isCircle_76 : decode cX12_isCircle 76 = .ok (.iinc 4 1, 3) := by decide +kernel
theorem dX12_isCircle_79 : decode cX12_isCircle 79 = .ok (.aload_n 0, 1) := by decide +kernel
theorem dX12_isCircle_80 : decode cX12_isCircle 80 = .ok (.iload_n 2, 1) := by decide +kernel
theorem dX12_isCircle_81 : decode cX12_isCircle 81 = .ok (.iconst 1, 1) := by decide +kernel
theorem dX12_isCircle_82 : decode cX12_isCircle 82 = .ok (.invokevirtual 297, 3) := by decide +kernel
theorem dX12_isCircle_85 : decode cX12_isCircle 85 = .ok (.istore 6, 2) := by decide +kernel
theorem dX12_isCircle_87 : decode cX12_isCircle 87 = .ok (.iconst (-1), 1) := by decide +kernel
theorem dX12_isCircle_88 : decode cX12_isCircle 88 = .ok (.istore_n 2, 1) := by decide +kernel
theorem dX12_isCircle_89 : decode cX12_isCircle 89 = .ok (.iconst 0, 1) := by decide +kernel
theorem dX12_isCircle_90 : decode cX12_isCircle 90 = .ok (.istore 7, 2) := by decide +kernel
theorem dX12_isCircle_92 : decode cX12_isCircle 92 = .ok (.iconst 0, 1) := by decide +kernel
theorem dX12_isCircle_93 : decode cX12_isCircle 93 = .ok (.istore 8, 2) := by decide +kernel
theorem dX12_isCircle_95 : decode cX12_isCircle 95 = .ok (.iload 8, 2) := by decide +kernel
theorem dX12_isCircle_97 : decode cX12_isCircle 97 = .ok (.aload_n 0, 1) := by decide +kernel
theorem dX12_isCircle_98 : decode cX12_isCircle 98 = .ok (.invokevirtual 273, 3) := by decide +kernel
theorem dX12_isCircle_101 : decode cX12_isCircle 101 = .ok (.if_icmp .ge 65, 3) := by decide +kernel
theorem dX12_isCircle_104 : decode cX12_isCircle 104 = .ok (.iload_n 1, 1) := by decide +kernel
theorem dX12_isCircle_105 : decode cX12_isCircle 105 = .ok (.iload 8, 2) := by decide +kernel
theorem dX12_isCircle_107 : decode cX12_isCircle 107 = .ok (.ishr, 1) := by decide +kernel
theorem dX12_isCircle_108 : decode cX12_isCircle 108 = .ok (.iconst 1, 1) := by decide +kernel
theorem dX12_isCircle_109 : decode cX12_isCircle 109 = .ok (.iand, 1) := by decide +kernel
theorem dX12_isCircle_110 : decode cX12_isCircle 110 = .ok (.iconst 1, 1) := by decide +kernel
theorem dX12_isCircle_111 : decode cX12_isCircle 111 = .ok (.if_icmp .ne 19, 3) := by decide +kernel
theorem dX12_isCircle_114 : decode cX12_isCircle 114 = .ok (.aload_n 0, 1) := by decide +kernel
theorem dX12_isCircle_115 : decode cX12_isCircle 115 = .ok (.iload 8, 2) := by decide +kernel
theorem dX12_isCircle_117 : decode cX12_isCircle 117 = .ok (.iconst 0, 1) := by decide +kernel
theorem dX12_isCircle_118 : decode cX12_isCircle 118 = .ok (.invokevirtual 297, 3) := by decide +kernel
theorem dX12_isCircle_121 : decode cX12_isCircle 121 = .ok (.iload 6, 2) := by decide +kernel
theorem dX12_isCircle_123 : decode cX12_isCircle 123 = .ok (.if_icmp .ne 7, 3) := by decide +kernel
theorem dX12_isCircle_126 : decode cX12_isCircle 126 = .ok (.iconst 1, 1) := by decide +kernel
theorem dX12_isCircle_127 : decode cX12_isCircle 127 = .ok (.goto 4, 3) := by decide +kernel
theorem dX12_isCircle_130 : decode cX12_isCircle 130 = .ok (.iconst 0, 1) := by decide +kernel
theorem dX12_isCircle_131 : decode cX12_isCircle 131 = .ok (.istore 9, 2) := by decide +kernel
theorem dX12_isCircle_133 : decode cX12_isCircle 133 = .ok (.iload 9, 2) := by decide +kernel
theorem dX12_isCircle_135 : decode cX12_isCircle 135 = .ok (.ifCond .eq 8, 3) := by decide +kernel
theorem dX12_isCircle_138 : decode cX12_isCircle 138 = .ok (.iload 8, 2) := by decide +kernel
theorem dX12_isCircle_140 : decode cX12_isCircle 140 = .ok (.goto 4, 3) := by decide +kernel
theorem dX12_isCircle_143 : decode cX12_isCircle 143 = .ok (.iload_n 2, 1) := by decide +kernel
theorem dX12_isCircle_144 : decode cX12_isCircle 144 = .ok (.istore_n 2, 1) := by decide +kernel
theorem dX12_isCircle_145 : decode cX12_isCircle 145 = .ok (.iload 7, 2) := by decide +kernel
theorem dX12_isCircle_147 : decode cX12_isCircle 147 = .ok (.iload 9, 2) := by decide +kernel
theorem dX12_isCircle_149 : decode cX12_isCircle 149 = .ok (.ifCond .eq 7, 3) := by decide +kernel
theorem dX12_isCircle_152 : decode cX12_isCircle 152 = .ok (.iconst 1, 1) := by decide +kernel
theorem dX12_isCircle_153 : decode cX12_isCircle 153 = .ok (.goto 4, 3) := by decide +kernel
theorem dX12_isCircle_156 : decode cX12_isCircle 156 = .ok (.iconst 0, 1) := by decide +kernel
theorem dX12_isCircle_157 : decode cX12_isCircle 157 = .ok (.iadd, 1) := by decide +kernel
theorem dX12_isCircle_158 : decode cX12_isCircle 158 = .ok (.istore 7, 2) := by decide +kernel
theorem dX12_isCircle_160 : decode cX12_isCircle 160 = .ok (.iinc 8 1, 3) := by decide +kernel
theorem dX12_isCircle_163 : decode cX12_isCircle 163 = .ok (.goto (-68), 3) := by decide +kernel
theorem dX12_isCircle_166 : decode cX12_isCircle 166 = .ok (.iload 7, 2) := by decide +kernel
theorem dX12_isCircle_168 : decode cX12_isCircle 168 = .ok (.iconst 1, 1) := by decide +kernel
theorem dX12_isCircle_169 : decode cX12_isCircle 169 = .ok (.if_icmp .eq 5, 3) := by decide +kernel
theorem dX12_isCircle_172 : decode cX12_isCircle 172 = .ok (.iconst 0, 1) := by decide +kernel
theorem dX12_isCircle_173 : decode cX12_isCircle 173 = .ok (.ireturn, 1) := by decide +kernel
theorem dX12_isCircle_174 : decode cX12_isCircle 174 = .ok (.iload 6, 2) := by decide +kernel
theorem dX12_isCircle_176 : decode cX12_isCircle 176 = .ok (.iload_n 3, 1) := by decide +kernel
theorem dX12_isCircle_177 : decode cX12_isCircle 177 = .ok (.if_icmp .ne 18, 3) := by decide +kernel
theorem dX12_isCircle_180 : decode cX12_isCircle 180 = .ok (.iload 4, 2) := by decide +kernel
theorem dX12_isCircle_182 : decode cX12_isCircle 182 = .ok (.iload_n 1, 1) := by decide +kernel
theorem dX12_isCircle_183 : decode cX12_isCircle 183 = .ok (.invokestatic 429, 3) := by decide +kernel
theorem dX12_isCircle_186 : decode cX12_isCircle 186 = .ok (.if_icmp .ne 7, 3) := by decide +kernel
theorem dX12_isCircle_189 : decode cX12_isCircle 189 = .ok (.iconst 1, 1) := by decide +kernel
theorem dX12_isCircle_190 : decode cX12_isCircle 190 = .ok (.goto 4, 3) := by decide +kernel
theorem dX12_isCircle_193 : decode cX12_isCircle 193 = .ok (.iconst 0, 1) := by decide +kernel
theorem dX12_isCircle_194 : decode cX12_isCircle 194 = .ok (.ireturn, 1) := by decide +kernel
theorem dX12_isCircle_195 : decode cX12_isCircle 195 = .ok (.goto (-140), 3) := by decide +kernel
theorem dX12_isCircle_198 : decode cX12_isCircle 198 = .ok (.iconst 0, 1) := by decide +kernel
theorem dX12_isCircle_199 : decode cX12_isCircle 199 = .ok (.ireturn, 1) := by decide +kernel
theorem dX12_circle_0 : decode cX12_circle 0 = .ok (.aload_n 0, 1) := by decide +kernel
theorem dX12_circle_1 : decode cX12_circle 1 = .ok (.iconst 0, 1) := by decide +kernel
theorem dX12_circle_2 : decode cX12_circle 2 = .ok (.putfield 1, 3) := by decide +kernel
theorem dX12_circle_5 : decode cX12_circle 5 = .ok (.iconst (-1), 1) := by decide +kernel
theorem dX12_circle_6 : decode cX12_circle 6 = .ok (.istore_n 1, 1) := by decide +kernel
theorem dX12_circle_7 : decode cX12_circle 7 = .ok (.iconst 1, 1) := by decide +kernel
theorem dX12_circle_8 : decode cX12_circle 8 = .ok (.istore_n 2, 1) := by decide +kernel
theorem dX12_circle_9 : decode cX12_circle 9 = .ok (.iload_n 2, 1) := by decide +kernel
theorem dX12_circle_10 : decode cX12_circle 10 = .ok (.iconst 1, 1) := by decide +kernel
theorem dX12_circle_11 : decode cX12_circle 11 = .ok (.aload_n 0, 1) := by decide +kernel
theorem dX12_circle_12 : decode cX12_circle 12 = .ok (.invokevirtual 273, 3) := by decide +kernel
theorem dX12_circle_15 : decode cX12_circle 15 = .ok (.ishl, 1) := by decide +kernel
theorem dX12_circle_16 : decode cX12_circle 16 = .ok (.if_icmp .ge 91, 3) := by decide +kernel
theorem dX12_circle_19 : decode cX12_circle 19 = .ok (.iconst 1, 1) := by decide +kernel
theorem dX12_circle_20 : decode cX12_circle 20 = .ok (.istore_n 3, 1) := by decide +kernel
theorem dX12_circle_21 : decode cX12_circle 21 = .ok (.iconst 0, 1) := by decide +kernel
theorem dX12_circle_22 : decode cX12_circle 22 = .ok (.istore 4, 2) := by decide +kernel
theorem dX12_circle_24 : decode cX12_circle 24 = .ok (.iload 4, 2) := by decide +kernel
theorem dX12_circle_26 : decode cX12_circle 26 = .ok (.aload_n 0, 1) := by decide +kernel
theorem dX12_circle_27 : decode cX12_circle 27 = .ok (.invokevirtual 273, 3) := by decide +kernel
theorem dX12_circle_30 : decode cX12_circle 30 = .ok (.if_icmp .ge 38, 3) := by decide +kernel
theorem dX12_circle_33 : decode cX12_circle 33 = .ok (.iload_n 3, 1) := by decide +kernel
theorem dX12_circle_34 : decode cX12_circle 34 = .ok (.ifCond .eq 26, 3) := by decide +kernel
theorem dX12_circle_37 : decode cX12_circle 37 = .ok (.iload_n 2, 1) := by decide +kernel
theorem dX12_circle_38 : decode cX12_circle 38 = .ok (.iload 4, 2) := by decide +kernel
theorem dX12_circle_40 : decode cX12_circle 40 = .ok (.ishr, 1) := by decide +kernel
theorem dX12_circle_41 : decode cX12_circle 41 = .ok (.iconst 1, 1) := by decide +kernel
theorem dX12_circle_42 : decode cX12_circle 42 = .ok (.iand, 1) := by decide +kernel
theorem dX12_circle_43 : decode cX12_circle 43 = .ok (.ifCond .eq 13, 3) := by decide +kernel
theorem dX12_circle_46 : decode cX12_circle 46 = .ok (.aload_n 0, 1) := by decide +kernel
theorem dX12_circle_47 : decode cX12_circle 47 = .ok (.iconst 0, 1) := by decide +kernel
theorem dX12_circle_48 : decode cX12_circle 48 = .ok (.iload 4, 2) := by decide +kernel
theorem dX12_circle_50 : decode cX12_circle 50 = .ok (.invokevirtual 319, 3) := by decide +kernel
theorem dX12_circle_53 : decode cX12_circle 53 = .ok (.ifCond .eq 7, 3) := by decide +kernel
theorem dX12_circle_56 : decode cX12_circle 56 = .ok (.iconst 1, 1) := by decide +kernel
theorem dX12_circle_57 : decode cX12_circle 57 = .ok (.goto 4, 3) := by decide +kernel
theorem dX12_circle_60 : decode cX12_circle 60 = .ok (.iconst 0, 1) := by decide +kernel
theorem dX12_circle_61 : decode cX12_circle 61 = .ok (.istore_n 3, 1) := by decide +kernel
theorem dX12_circle_62 : decode cX12_circle 62 = .ok (.iinc 4 1, 3) := by decide +kernel
theorem dX12_circle_65 : decode cX12_circle 65 = .ok (.goto (-41), 3) := by decide +kernel
theorem dX12_circle_68 : decode cX12_circle 68 = .ok (.iload_n 3, 1) := by decide +kernel
theorem dX12_circle_69 : decode cX12_circle 69 = .ok (.ifCond .eq 30, 3) := by decide +kernel
theorem dX12_circle_72 : decode cX12_circle 72 = .ok (.iload_n 1, 1) := by decide +kernel
theorem dX12_circle_73 : decode cX12_circle 73 = .ok (.ifCond .lt 14, 3) := by decide +kernel
theorem dX12_circle_76 : decode cX12_circle 76 = .ok (.iload_n 2, 1) := by decide +kernel
theorem dX12_circle_77 : decode cX12_circle 77 = .ok (.invokestatic 429, 3) := by decide +kernel
theorem dX12_circle_80 : decode cX12_circle 80 = .ok (.iload_n 1, 1) := by decide +kernel
theorem dX12_circle_81 : decode cX12_circle 81 = .ok (.invokestatic 429, 3) := by decide +kernel
theorem dX12_circle_84 : decode cX12_circle 84 = .ok (.if_icmp .ge 15, 3) := by decide +kernel
theorem dX12_circle_87 : decode cX12_circle 87 = .ok (.aload_n 0, 1) := by decide +kernel
theorem dX12_circle_88 : decode cX12_circle 88 = .ok (.iload_n 2, 1) := by decide +kernel
theorem dX12_circle_89 : decode cX12_circle 89 = .ok (.invokevirtual 432, 3) := by decide +kernel
theorem dX12_circle_92 : decode cX12_circle 92 = .ok (.ifCond .eq 7, 3) := by decide +kernel
theorem dX12_circle_95 : decode cX12_circle 95 = .ok (.iload_n 2, 1) := by decide +kernel
theorem dX12_circle_96 : decode cX12_circle 96 = .ok (.goto 4, 3) := by decide +kernel
theorem dX12_circle_99 : decode cX12_circle 99 = .ok (.iload_n 1, 1) := by decide +kernel
theorem dX12_circle_100 : decode cX12_circle 100 = .ok (.istore_n 1, 1) := by decide +kernel
theorem dX12_circle_101 : decode cX12_circle 101 = .ok (.iinc 2 1, 3) := by decide +kernel
theorem dX12_circle_104 : decode cX12_circle 104 = .ok (.goto (-95), 3) := by decide +kernel
theorem dX12_circle_107 : decode cX12_circle 107 = .ok (.iload_n 1, 1) := by decide +kernel
theorem dX12_circle_108 : decode cX12_circle 108 = .ok (.ireturn, 1) := by decide +kernel
theorem dX12_allLit_0 : decode cX12_allLit 0 = .ok (.aload_n 0, 1) := by decide +kernel
theorem dX12_allLit_1 : decode cX12_allLit 1 = .ok (.iload_n 1, 1) := by decide +kernel
theorem dX12_allLit_2 : decode cX12_allLit 2 = .ok (.invokevirtual 347, 3) := by decide +kernel
theorem dX12_allLit_5 : decode cX12_allLit 5 = .ok (.iconst 1, 1) := by decide +kernel
theorem dX12_allLit_6 : decode cX12_allLit 6 = .ok (.istore_n 2, 1) := by decide +kernel
theorem dX12_allLit_7 : decode cX12_allLit 7 = .ok (.iconst 0, 1) := by decide +kernel
theorem dX12_allLit_8 : decode cX12_allLit 8 = .ok (.istore_n 3, 1) := by decide +kernel
theorem dX12_allLit_9 : decode cX12_allLit 9 = .ok (.iload_n 3, 1) := by decide +kernel
theorem dX12_allLit_10 : decode cX12_allLit 10 = .ok (.aload_n 0, 1) := by decide +kernel
theorem dX12_allLit_11 : decode cX12_allLit 11 = .ok (.invokevirtual 350, 3) := by decide +kernel
theorem dX12_allLit_14 : decode cX12_allLit 14 = .ok (.if_icmp .ge 67, 3) := by decide +kernel
theorem dX12_allLit_17 : decode cX12_allLit 17 = .ok (.aload_n 0, 1) := by decide +kernel
theorem dX12_allLit_18 : decode cX12_allLit 18 = .ok (.getfield 120, 3) := by decide +kernel
theorem dX12_allLit_21 : decode cX12_allLit 21 = .ok (.bipush 6, 2) := by decide +kernel
theorem dX12_allLit_23 : decode cX12_allLit 23 = .ok (.aload_n 0, 1) := by decide +kernel
theorem dX12_allLit_24 : decode cX12_allLit 24 = .ok (.getfield 89, 3) := by decide +kernel
theorem dX12_allLit_27 : decode cX12_allLit 27 = .ok (.bipush 81, 2) := by decide +kernel
theorem dX12_allLit_29 : decode cX12_allLit 29 = .ok (.iconst 2, 1) := by decide +kernel
theorem dX12_allLit_30 : decode cX12_allLit 30 = .ok (.iload_n 3, 1) := by decide +kernel
theorem dX12_allLit_31 : decode cX12_allLit 31 = .ok (.imul, 1) := by decide +kernel
theorem dX12_allLit_32 : decode cX12_allLit 32 = .ok (.iadd, 1) := by decide +kernel
theorem dX12_allLit_33 : decode cX12_allLit 33 = .ok (.iaload, 1) := by decide +kernel
theorem dX12_allLit_34 : decode cX12_allLit 34 = .ok (.imul, 1) := by decide +kernel
theorem dX12_allLit_35 : decode cX12_allLit 35 = .ok (.aload_n 0, 1) := by decide +kernel
theorem dX12_allLit_36 : decode cX12_allLit 36 = .ok (.getfield 89, 3) := by decide +kernel
theorem dX12_allLit_39 : decode cX12_allLit 39 = .ok (.bipush 81, 2) := by decide +kernel
theorem dX12_allLit_41 : decode cX12_allLit 41 = .ok (.iconst 2, 1) := by decide +kernel
theorem dX12_allLit_42 : decode cX12_allLit 42 = .ok (.iload_n 3, 1) := by decide +kernel
theorem dX12_allLit_43 : decode cX12_allLit 43 = .ok (.imul, 1) := by decide +kernel
theorem dX12_allLit_44 : decode cX12_allLit 44 = .ok (.iadd, 1) := by decide +kernel
theorem dX12_allLit_45 : decode cX12_allLit 45 = .ok (.iconst 1, 1) := by decide +kernel
theorem dX12_allLit_46 : decode cX12_allLit 46 = .ok (.iadd, 1) := by decide +kernel
theorem dX12_allLit_47 : decode cX12_allLit 47 = .ok (.iaload, 1) := by decide +kernel
theorem dX12_allLit_48 : decode cX12_allLit 48 = .ok (.iadd, 1) := by decide +kernel
theorem dX12_allLit_49 : decode cX12_allLit 49 = .ok (.iaload, 1) := by decide +kernel
theorem dX12_allLit_50 : decode cX12_allLit 50 = .ok (.istore 4, 2) := by decide +kernel
theorem dX12_allLit_52 : decode cX12_allLit 52 = .ok (.iload_n 2, 1) := by decide +kernel
theorem dX12_allLit_53 : decode cX12_allLit 53 = .ok (.ifCond .eq 20, 3) := by decide +kernel
theorem dX12_allLit_56 : decode cX12_allLit 56 = .ok (.iload 4, 2) := by decide +kernel
theorem dX12_allLit_58 : decode cX12_allLit 58 = .ok (.ifCond .eq 11, 3) := by decide +kernel
theorem dX12_allLit_61 : decode cX12_allLit 61 = .ok (.iload 4, 2) := by decide +kernel
theorem dX12_allLit_63 : decode cX12_allLit 63 = .ok (.ldc_w 342, 3) := by decide +kernel
theorem dX12_allLit_66 : decode cX12_allLit 66 = .ok (.if_icmp .lt 7, 3) := by decide +kernel
theorem dX12_allLit_69 : decode cX12_allLit 69 = .ok (.iconst 1, 1) := by decide +kernel
theorem dX12_allLit_70 : decode cX12_allLit 70 = .ok (.goto 4, 3) := by decide +kernel
theorem dX12_allLit_73 : decode cX12_allLit 73 = .ok (.iconst 0, 1) := by decide +kernel
theorem dX12_allLit_74 : decode cX12_allLit 74 = .ok (.istore_n 2, 1) := by decide +kernel
theorem dX12_allLit_75 : decode cX12_allLit 75 = .ok (.iinc 3 1, 3) := by decide +kernel
theorem dX12_allLit_78 : decode cX12_allLit 78 = .ok (.goto (-69), 3) := by decide +kernel
theorem dX12_allLit_81 : decode cX12_allLit 81 = .ok (.iload_n 2, 1) := by decide +kernel
theorem dX12_allLit_82 : decode cX12_allLit 82 = .ok (.ireturn, 1) := by decide +kernel
theorem dX12_need_0 : decode cX12_need 0 = .ok (.aload_n 0, 1) := by decide +kernel
theorem dX12_need_1 : decode cX12_need 1 = .ok (.iconst 0, 1) := by decide +kernel
theorem dX12_need_2 : decode cX12_need 2 = .ok (.putfield 1, 3) := by decide +kernel
theorem dX12_need_5 : decode cX12_need 5 = .ok (.iconst (-1), 1) := by decide +kernel
theorem dX12_need_6 : decode cX12_need 6 = .ok (.istore_n 1, 1) := by decide +kernel
theorem dX12_need_7 : decode cX12_need 7 = .ok (.iconst 0, 1) := by decide +kernel
theorem dX12_need_8 : decode cX12_need 8 = .ok (.istore_n 2, 1) := by decide +kernel
theorem dX12_need_9 : decode cX12_need 9 = .ok (.iload_n 2, 1) := by decide +kernel
theorem dX12_need_10 : decode cX12_need 10 = .ok (.iconst 1, 1) := by decide +kernel
theorem dX12_need_11 : decode cX12_need 11 = .ok (.aload_n 0, 1) := by decide +kernel
theorem dX12_need_12 : decode cX12_need 12 = .ok (.invokevirtual 294, 3) := by decide +kernel
theorem dX12_need_15 : decode cX12_need 15 = .ok (.ishl, 1) := by decide +kernel
theorem dX12_need_16 : decode cX12_need 16 = .ok (.if_icmp .ge 38, 3) := by decide +kernel
theorem dX12_need_19 : decode cX12_need 19 = .ok (.iload_n 1, 1) := by decide +kernel
theorem dX12_need_20 : decode cX12_need 20 = .ok (.ifCond .lt 14, 3) := by decide +kernel
theorem dX12_need_23 : decode cX12_need 23 = .ok (.iload_n 2, 1) := by decide +kernel
theorem dX12_need_24 : decode cX12_need 24 = .ok (.invokestatic 429, 3) := by decide +kernel
theorem dX12_need_27 : decode cX12_need 27 = .ok (.iload_n 1, 1) := by decide +kernel
theorem dX12_need_28 : decode cX12_need 28 = .ok (.invokestatic 429, 3) := by decide +kernel
theorem dX12_need_31 : decode cX12_need 31 = .ok (.if_icmp .ge 15, 3) := by decide +kernel
theorem dX12_need_34 : decode cX12_need 34 = .ok (.aload_n 0, 1) := by decide +kernel
theorem dX12_need_35 : decode cX12_need 35 = .ok (.iload_n 2, 1) := by decide +kernel
theorem dX12_need_36 : decode cX12_need 36 = .ok (.invokevirtual 435, 3) := by decide +kernel
theorem dX12_need_39 : decode cX12_need 39 = .ok (.ifCond .eq 7, 3) := by decide +kernel
theorem dX12_need_42 : decode cX12_need 42 = .ok (.iload_n 2, 1) := by decide +kernel
theorem dX12_need_43 : decode cX12_need 43 = .ok (.goto 4, 3) := by decide +kernel
theorem dX12_need_46 : decode cX12_need 46 = .ok (.iload_n 1, 1) := by decide +kernel
theorem dX12_need_47 : decode cX12_need 47 = .ok (.istore_n 1, 1) := by decide +kernel
theorem dX12_need_48 : decode cX12_need 48 = .ok (.iinc 2 1, 3) := by decide +kernel
theorem dX12_need_51 : decode cX12_need 51 = .ok (.goto (-42), 3) := by decide +kernel
theorem dX12_need_54 : decode cX12_need 54 = .ok (.iload_n 1, 1) := by decide +kernel
theorem dX12_need_55 : decode cX12_need 55 = .ok (.ireturn, 1) := by decide +kernel
theorem dX12_wind_0 : decode cX12_wind 0 = .ok (.aload_n 0, 1) := by decide +kernel
theorem dX12_wind_1 : decode cX12_wind 1 = .ok (.iconst 0, 1) := by decide +kernel
theorem dX12_wind_2 : decode cX12_wind 2 = .ok (.putfield 1, 3) := by decide +kernel
theorem dX12_wind_5 : decode cX12_wind 5 = .ok (.aload_n 0, 1) := by decide +kernel
theorem dX12_wind_6 : decode cX12_wind 6 = .ok (.iload_n 1, 1) := by decide +kernel
theorem dX12_wind_7 : decode cX12_wind 7 = .ok (.iload_n 2, 1) := by decide +kernel
theorem dX12_wind_8 : decode cX12_wind 8 = .ok (.invokevirtual 365, 3) := by decide +kernel
theorem dX12_wind_11 : decode cX12_wind 11 = .ok (.ifCond .ne 5, 3) := by decide +kernel
theorem dX12_wind_14 : decode cX12_wind 14 = .ok (.iconst (-1), 1) := by decide +kernel
theorem dX12_wind_15 : decode cX12_wind 15 = .ok (.ireturn, 1) := by decide +kernel
theorem dX12_wind_16 : decode cX12_wind 16 = .ok (.aload_n 0, 1) := by decide +kernel
theorem dX12_wind_17 : decode cX12_wind 17 = .ok (.iconst 0, 1) := by decide +kernel
theorem dX12_wind_18 : decode cX12_wind 18 = .ok (.invokevirtual 353, 3) := by decide +kernel
theorem dX12_wind_21 : decode cX12_wind 21 = .ok (.istore_n 3, 1) := by decide +kernel
theorem dX12_wind_22 : decode cX12_wind 22 = .ok (.lconst 0, 1) := by decide +kernel
theorem dX12_wind_23 : decode cX12_wind 23 = .ok (.lstore 4, 2) := by decide +kernel
theorem dX12_wind_25 : decode cX12_wind 25 = .ok (.lconst 1, 1) := by decide +kernel
theorem dX12_wind_26 : decode cX12_wind 26 = .ok (.lstore 6, 2) := by decide +kernel
theorem dX12_wind_28 : decode cX12_wind 28 = .ok (.iconst 0, 1) := by decide +kernel
theorem dX12_wind_29 : decode cX12_wind 29 = .ok (.istore 8, 2) := by decide +kernel
theorem dX12_wind_31 : decode cX12_wind 31 = .ok (.iload 8, 2) := by decide +kernel
theorem dX12_wind_33 : decode cX12_wind 33 = .ok (.iload_n 3, 1) := by decide +kernel
theorem dX12_wind_34 : decode cX12_wind 34 = .ok (.invokestatic 429, 3) := by decide +kernel
theorem dX12_wind_37 : decode cX12_wind 37 = .ok (.if_icmp .ge 17, 3) := by decide +kernel
theorem dX12_wind_40 : decode cX12_wind 40 = .ok (.lload 6, 2) := by decide +kernel
theorem dX12_wind_42 : decode cX12_wind 42 = .ok (.ldc2_w 173, 3) := by decide +kernel
theorem dX12_wind_45 : decode cX12_wind 45 = .ok (.lmul, 1) := by decide +kernel
theorem dX12_wind_46 : decode cX12_wind 46 = .ok (.lstore 6, 2) := by decide +kernel
theorem dX12_wind_48 : decode cX12_wind 48 = .ok (.iinc 8 1, 3) := by decide +kernel
theorem dX12_wind_51 : decode cX12_wind 51 = .ok (.goto (-20), 3) := by decide +kernel
theorem dX12_wind_54 : decode cX12_wind 54 = .ok (.iconst 0, 1) := by decide +kernel
theorem dX12_wind_55 : decode cX12_wind 55 = .ok (.istore 8, 2) := by decide +kernel
theorem dX12_wind_57 : decode cX12_wind 57 = .ok (.iload 8, 2) := by decide +kernel
theorem dX12_wind_59 : decode cX12_wind 59 = .ok (.iconst 1, 1) := by decide +kernel
theorem dX12_wind_60 : decode cX12_wind 60 = .ok (.aload_n 0, 1) := by decide +kernel
theorem dX12_wind_61 : decode cX12_wind 61 = .ok (.invokevirtual 294, 3) := by decide +kernel
theorem dX12_wind_64 : decode cX12_wind 64 = .ok (.ishl, 1) := by decide +kernel
theorem dX12_wind_65 : decode cX12_wind 65 = .ok (.if_icmp .ge 106, 3) := by decide +kernel
theorem dX12_wind_68 : decode cX12_wind 68 = .ok (.iload 8, 2) := by decide +kernel
theorem dX12_wind_70 : decode cX12_wind 70 = .ok (.iload_n 3, 1) := by decide +kernel
theorem dX12_wind_71 : decode cX12_wind 71 = .ok (.iconst (-1), 1) := by decide +kernel
theorem dX12_wind_72 : decode cX12_wind 72 = .ok (.ixor, 1) := by decide +kernel
theorem dX12_wind_73 : decode cX12_wind 73 = .ok (.iand, 1) := by decide +kernel
theorem dX12_wind_74 : decode cX12_wind 74 = .ok (.ifCond .ne 91, 3) := by decide +kernel
theorem dX12_wind_77 : decode cX12_wind 77 = .ok (.aload_n 0, 1) := by decide +kernel
theorem dX12_wind_78 : decode cX12_wind 78 = .ok (.iload 8, 2) := by decide +kernel
theorem dX12_wind_80 : decode cX12_wind 80 = .ok (.iload_n 1, 1) := by decide +kernel
theorem dX12_wind_81 : decode cX12_wind 81 = .ok (.iload_n 2, 1) := by decide +kernel
theorem dX12_wind_82 : decode cX12_wind 82 = .ok (.invokevirtual 401, 3) := by decide +kernel
theorem dX12_wind_85 : decode cX12_wind 85 = .ok (.ifCond .eq 80, 3) := by decide +kernel
theorem dX12_wind_88 : decode cX12_wind 88 = .ok (.lconst 1, 1) := by decide +kernel
theorem dX12_wind_89 : decode cX12_wind 89 = .ok (.lstore 9, 2) := by decide +kernel
theorem dX12_wind_91 : decode cX12_wind 91 = .ok (.iconst 0, 1) := by decide +kernel
theorem dX12_wind_92 : decode cX12_wind 92 = .ok (.istore 11, 2) := by decide +kernel
theorem dX12_wind_94 : decode cX12_wind 94 = .ok (.iload 11, 2) := by decide +kernel
theorem dX12_wind_96 : decode cX12_wind 96 = .ok (.aload_n 0, 1) := by decide +kernel
theorem dX12_wind_97 : decode cX12_wind 97 = .ok (.invokevirtual 294, 3) := by decide +kernel
theorem dX12_wind_100 : decode cX12_wind 100 = .ok (.if_icmp .ge 58, 3) := by decide +kernel
theorem dX12_wind_103 : decode cX12_wind 103 = .ok (.iload_n 3, 1) := by decide +kernel
theorem dX12_wind_104 : decode cX12_wind 104 = .ok (.iload 11, 2) := by decide +kernel
theorem dX12_wind_106 : decode cX12_wind 106 = .ok (.ishr, 1) := by decide +kernel
theorem dX12_wind_107 : decode cX12_wind 107 = .ok (.iconst 1, 1) := by decide +kernel
theorem dX12_wind_108 : decode cX12_wind 108 = .ok (.iand, 1) := by decide +kernel
theorem dX12_wind_109 : decode cX12_wind 109 = .ok (.ifCond .ne 8, 3) := by decide +kernel
theorem dX12_wind_112 : decode cX12_wind 112 = .ok (.lload 9, 2) := by decide +kernel
theorem dX12_wind_114 : decode cX12_wind 114 = .ok (.goto 36, 3) := by decide +kernel
theorem dX12_wind_117 : decode cX12_wind 117 = .ok (.lload 9, 2) := by decide +kernel
theorem dX12_wind_119 : decode cX12_wind 119 = .ok (.iload 8, 2) := by decide +kernel
theorem dX12_wind_121 : decode cX12_wind 121 = .ok (.iload 11, 2) := by decide +kernel
theorem dX12_wind_123 : decode cX12_wind 123 = .ok (.ishr, 1) := by decide +kernel
theorem dX12_wind_124 : decode cX12_wind 124 = .ok (.iconst 1, 1) := by decide +kernel
theorem dX12_wind_125 : decode cX12_wind 125 = .ok (.iand, 1) := by decide +kernel
theorem dX12_wind_126 : decode cX12_wind 126 = .ok (.iconst 1, 1) := by decide +kernel
theorem dX12_wind_127 : decode cX12_wind 127 = .ok (.if_icmp .ne 15, 3) := by decide +kernel
theorem dX12_wind_130 : decode cX12_wind 130 = .ok (.bipush 10, 2) := by decide +kernel
theorem dX12_wind_132 : decode cX12_wind 132 = .ok (.aload_n 0, 1) := by decide +kernel
theorem dX12_wind_133 : decode cX12_wind 133 = .ok (.getfield 89, 3) := by decide +kernel
theorem dX12_wind_136 : decode cX12_wind 136 = .ok (.iconst 5, 1) := by decide +kernel
theorem dX12_wind_137 : decode cX12_wind 137 = .ok (.iaload, 1) := by decide +kernel
theorem dX12_wind_138 : decode cX12_wind 138 = .ok (.isub, 1) := by decide +kernel
theorem dX12_wind_139 : decode cX12_wind 139 = .ok (.goto 9, 3) := by decide +kernel
theorem dX12_wind_142 : decode cX12_wind 142 = .ok (.aload_n 0, 1) := by decide +kernel
theorem dX12_wind_143 : decode cX12_wind 143 = .ok (.getfield 89, 3) := by decide +kernel
theorem dX12_wind_146 : decode cX12_wind 146 = .ok (.iconst 5, 1) := by decide +kernel
theorem dX12_wind_147 : decode cX12_wind 147 = .ok (.iaload, 1) := by decide +kernel
theorem dX12_wind_148 : decode cX12_wind 148 = .ok (.i2l, 1) := by decide +kernel
theorem dX12_wind_149 : decode cX12_wind 149 = .ok (.lmul, 1) := by decide +kernel
theorem dX12_wind_150 : decode cX12_wind 150 = .ok (.lstore 9, 2) := by decide +kernel
theorem dX12_wind_152 : decode cX12_wind 152 = .ok (.iinc 11 1, 3) := by decide +kernel
theorem dX12_wind_155 : decode cX12_wind 155 = .ok (.goto (-61), 3) := by decide +kernel
theorem dX12_wind_158 : decode cX12_wind 158 = .ok (.lload 4, 2) := by decide +kernel
theorem dX12_wind_160 : decode cX12_wind 160 = .ok (.lload 9, 2) := by decide +kernel
theorem dX12_wind_162 : decode cX12_wind 162 = .ok (.ladd, 1) := by decide +kernel
theorem dX12_wind_163 : decode cX12_wind 163 = .ok (.lstore 4, 2) := by decide +kernel
theorem dX12_wind_165 : decode cX12_wind 165 = .ok (.iinc 8 1, 3) := by decide +kernel
theorem dX12_wind_168 : decode cX12_wind 168 = .ok (.goto (-111), 3) := by decide +kernel
theorem dX12_wind_171 : decode cX12_wind 171 = .ok (.lload 4, 2) := by decide +kernel
theorem dX12_wind_173 : decode cX12_wind 173 = .ok (.ldc2_w 438, 3) := by decide +kernel
theorem dX12_wind_176 : decode cX12_wind 176 = .ok (.lmul, 1) := by decide +kernel
theorem dX12_wind_177 : decode cX12_wind 177 = .ok (.lload 6, 2) := by decide +kernel
theorem dX12_wind_179 : decode cX12_wind 179 = .ok (.ldiv, 1) := by decide +kernel
theorem dX12_wind_180 : decode cX12_wind 180 = .ok (.l2i, 1) := by decide +kernel
theorem dX12_wind_181 : decode cX12_wind 181 = .ok (.ireturn, 1) := by decide +kernel
theorem dX12_see_0 : decode cX12_see 0 = .ok (.aload_n 0, 1) := by decide +kernel
theorem dX12_see_1 : decode cX12_see 1 = .ok (.iconst 0, 1) := by decide +kernel
theorem dX12_see_2 : decode cX12_see 2 = .ok (.putfield 1, 3) := by decide +kernel
theorem dX12_see_5 : decode cX12_see 5 = .ok (.aload_n 0, 1) := by decide +kernel
theorem dX12_see_6 : decode cX12_see 6 = .ok (.iload_n 1, 1) := by decide +kernel
theorem dX12_see_7 : decode cX12_see 7 = .ok (.invokevirtual 359, 3) := by decide +kernel
theorem dX12_see_10 : decode cX12_see 10 = .ok (.ifCond .eq 25, 3) := by decide +kernel
theorem dX12_see_13 : decode cX12_see 13 = .ok (.iload_n 2, 1) := by decide +kernel
theorem dX12_see_14 : decode cX12_see 14 = .ok (.iconst 0, 1) := by decide +kernel
theorem dX12_see_15 : decode cX12_see 15 = .ok (.bipush 9, 2) := by decide +kernel
theorem dX12_see_17 : decode cX12_see 17 = .ok (.invokestatic 362, 3) := by decide +kernel
theorem dX12_see_20 : decode cX12_see 20 = .ok (.ifCond .eq 15, 3) := by decide +kernel
theorem dX12_see_23 : decode cX12_see 23 = .ok (.aload_n 0, 1) := by decide +kernel
theorem dX12_see_24 : decode cX12_see 24 = .ok (.getfield 113, 3) := by decide +kernel
theorem dX12_see_27 : decode cX12_see 27 = .ok (.bipush 38, 2) := by decide +kernel
theorem dX12_see_29 : decode cX12_see 29 = .ok (.iaload, 1) := by decide +kernel
theorem dX12_see_30 : decode cX12_see 30 = .ok (.bipush 8, 2) := by decide +kernel
theorem dX12_see_32 : decode cX12_see 32 = .ok (.if_icmp .ne 5, 3) := by decide +kernel
theorem dX12_see_35 : decode cX12_see 35 = .ok (.iconst 0, 1) := by decide +kernel
theorem dX12_see_36 : decode cX12_see 36 = .ok (.ireturn, 1) := by decide +kernel
theorem dX12_see_37 : decode cX12_see 37 = .ok (.bipush 39, 2) := by decide +kernel
theorem dX12_see_39 : decode cX12_see 39 = .ok (.iconst 3, 1) := by decide +kernel
theorem dX12_see_40 : decode cX12_see 40 = .ok (.aload_n 0, 1) := by decide +kernel
theorem dX12_see_41 : decode cX12_see 41 = .ok (.getfield 113, 3) := by decide +kernel
theorem dX12_see_44 : decode cX12_see 44 = .ok (.bipush 38, 2) := by decide +kernel
theorem dX12_see_46 : decode cX12_see 46 = .ok (.iaload, 1) := by decide +kernel
theorem dX12_see_47 : decode cX12_see 47 = .ok (.imul, 1) := by decide +kernel
theorem dX12_see_48 : decode cX12_see 48 = .ok (.iadd, 1) := by decide +kernel
theorem dX12_see_49 : decode cX12_see 49 = .ok (.istore 4, 2) := by decide +kernel
theorem dX12_see_51 : decode cX12_see 51 = .ok (.aload_n 0, 1) := by decide +kernel
theorem dX12_see_52 : decode cX12_see 52 = .ok (.getfield 113, 3) := by decide +kernel
theorem dX12_see_55 : decode cX12_see 55 = .ok (.iload 4, 2) := by decide +kernel
theorem dX12_see_57 : decode cX12_see 57 = .ok (.iload_n 1, 1) := by decide +kernel
theorem dX12_see_58 : decode cX12_see 58 = .ok (.iastore, 1) := by decide +kernel
theorem dX12_see_59 : decode cX12_see 59 = .ok (.aload_n 0, 1) := by decide +kernel
theorem dX12_see_60 : decode cX12_see 60 = .ok (.getfield 113, 3) := by decide +kernel
theorem dX12_see_63 : decode cX12_see 63 = .ok (.iload 4, 2) := by decide +kernel
theorem dX12_see_65 : decode cX12_see 65 = .ok (.iconst 1, 1) := by decide +kernel
theorem dX12_see_66 : decode cX12_see 66 = .ok (.iadd, 1) := by decide +kernel
theorem dX12_see_67 : decode cX12_see 67 = .ok (.iload_n 2, 1) := by decide +kernel
theorem dX12_see_68 : decode cX12_see 68 = .ok (.iastore, 1) := by decide +kernel
theorem dX12_see_69 : decode cX12_see 69 = .ok (.aload_n 0, 1) := by decide +kernel
theorem dX12_see_70 : decode cX12_see 70 = .ok (.getfield 113, 3) := by decide +kernel
theorem dX12_see_73 : decode cX12_see 73 = .ok (.iload 4, 2) := by decide +kernel
theorem dX12_see_75 : decode cX12_see 75 = .ok (.iconst 2, 1) := by decide +kernel
theorem dX12_see_76 : decode cX12_see 76 = .ok (.iadd, 1) := by decide +kernel
theorem dX12_see_77 : decode cX12_see 77 = .ok (.iload_n 3, 1) := by decide +kernel
theorem dX12_see_78 : decode cX12_see 78 = .ok (.ifCond .eq 7, 3) := by decide +kernel
theorem dX12_see_81 : decode cX12_see 81 = .ok (.iconst 1, 1) := by decide +kernel
theorem dX12_see_82 : decode cX12_see 82 = .ok (.goto 4, 3) := by decide +kernel
theorem dX12_see_85 : decode cX12_see 85 = .ok (.iconst 0, 1) := by decide +kernel
theorem dX12_see_86 : decode cX12_see 86 = .ok (.iastore, 1) := by decide +kernel
theorem dX12_see_87 : decode cX12_see 87 = .ok (.aload_n 0, 1) := by decide +kernel
theorem dX12_see_88 : decode cX12_see 88 = .ok (.getfield 113, 3) := by decide +kernel
theorem dX12_see_91 : decode cX12_see 91 = .ok (.bipush 38, 2) := by decide +kernel
theorem dX12_see_93 : decode cX12_see 93 = .ok (.dup2, 1) := by decide +kernel
theorem dX12_see_94 : decode cX12_see 94 = .ok (.iaload, 1) := by decide +kernel
theorem dX12_see_95 : decode cX12_see 95 = .ok (.iconst 1, 1) := by decide +kernel
theorem dX12_see_96 : decode cX12_see 96 = .ok (.iadd, 1) := by decide +kernel
theorem dX12_see_97 : decode cX12_see 97 = .ok (.iastore, 1) := by decide +kernel
theorem dX12_see_98 : decode cX12_see 98 = .ok (.iconst 1, 1) := by decide +kernel
theorem dX12_see_99 : decode cX12_see 99 = .ok (.ireturn, 1) := by decide +kernel
theorem dX12_fitsSights_0 : decode cX12_fitsSights 0 = .ok (.iconst 0, 1) := by decide +kernel
theorem dX12_fitsSights_1 : decode cX12_fitsSights 1 = .ok (.istore_n 2, 1) := by decide +kernel
theorem dX12_fitsSights_2 : decode cX12_fitsSights 2 = .ok (.iload_n 2, 1) := by decide +kernel
theorem dX12_fitsSights_3 : decode cX12_fitsSights 3 = .ok (.aload_n 0, 1) := by decide +kernel
theorem dX12_fitsSights_4 : decode cX12_fitsSights 4 = .ok (.invokevirtual 294, 3) := by decide +kernel
theorem dX12_fitsSights_7 : decode cX12_fitsSights 7 = .ok (.if_icmp .ge 23, 3) := by decide +kernel
theorem dX12_fitsSights_10 : decode cX12_fitsSights 10 = .ok (.aload_n 0, 1) := by decide +kernel
theorem dX12_fitsSights_11 : decode cX12_fitsSights 11 = .ok (.getfield 144, 3) := by decide +kernel
theorem dX12_fitsSights_14 : decode cX12_fitsSights 14 = .ok (.iload_n 2, 1) := by decide +kernel
theorem dX12_fitsSights_15 : decode cX12_fitsSights 15 = .ok (.aload_n 0, 1) := by decide +kernel
theorem dX12_fitsSights_16 : decode cX12_fitsSights 16 = .ok (.getfield 113, 3) := by decide +kernel
theorem dX12_fitsSights_19 : decode cX12_fitsSights 19 = .ok (.iconst 2, 1) := by decide +kernel
theorem dX12_fitsSights_20 : decode cX12_fitsSights 20 = .ok (.iload_n 2, 1) := by decide +kernel
theorem dX12_fitsSights_21 : decode cX12_fitsSights 21 = .ok (.iadd, 1) := by decide +kernel
theorem dX12_fitsSights_22 : decode cX12_fitsSights 22 = .ok (.iaload, 1) := by decide +kernel
theorem dX12_fitsSights_23 : decode cX12_fitsSights 23 = .ok (.iastore, 1) := by decide +kernel
theorem dX12_fitsSights_24 : decode cX12_fitsSights 24 = .ok (.iinc 2 1, 3) := by decide +kernel
theorem dX12_fitsSights_27 : decode cX12_fitsSights 27 = .ok (.goto (-25), 3) := by decide +kernel
theorem dX12_fitsSights_30 : decode cX12_fitsSights 30 = .ok (.iconst 1, 1) := by decide +kernel
theorem dX12_fitsSights_31 : decode cX12_fitsSights 31 = .ok (.istore_n 2, 1) := by decide +kernel
theorem dX12_fitsSights_32 : decode cX12_fitsSights 32 = .ok (.iconst 0, 1) := by decide +kernel
theorem dX12_fitsSights_33 : decode cX12_fitsSights 33 = .ok (.istore_n 3, 1) := by decide +kernel
theorem dX12_fitsSights_34 : decode cX12_fitsSights 34 = .ok (.iload_n 3, 1) := by decide +kernel
theorem dX12_fitsSights_35 : decode cX12_fitsSights 35 = .ok (.aload_n 0, 1) := by decide +kernel
theorem dX12_fitsSights_36 : decode cX12_fitsSights 36 = .ok (.invokevirtual 273, 3) := by decide +kernel
theorem dX12_fitsSights_39 : decode cX12_fitsSights 39 = .ok (.if_icmp .ge 83, 3) := by decide +kernel
theorem dX12_fitsSights_42 : decode cX12_fitsSights 42 = .ok (.iload_n 1, 1) := by decide +kernel
theorem dX12_fitsSights_43 : decode cX12_fitsSights 43 = .ok (.iload_n 3, 1) := by decide +kernel
theorem dX12_fitsSights_44 : decode cX12_fitsSights 44 = .ok (.ishr, 1) := by decide +kernel
theorem dX12_fitsSights_45 : decode cX12_fitsSights 45 = .ok (.iconst 1, 1) := by decide +kernel
theorem dX12_fitsSights_46 : decode cX12_fitsSights 46 = .ok (.iand, 1) := by decide +kernel
theorem dX12_fitsSights_47 : decode cX12_fitsSights 47 = .ok (.iconst 1, 1) := by decide +kernel
theorem dX12_fitsSights_48 : decode cX12_fitsSights 48 = .ok (.if_icmp .ne 68, 3) := by decide +kernel
theorem dX12_fitsSights_51 : decode cX12_fitsSights 51 = .ok (.iload_n 2, 1) := by decide +kernel
theorem dX12_fitsSights_52 : decode cX12_fitsSights 52 = .ok (.ifCond .eq 16, 3) := by decide +kernel
theorem dX12_fitsSights_55 : decode cX12_fitsSights 55 = .ok (.aload_n 0, 1) := by decide +kernel
theorem dX12_fitsSights_56 : decode cX12_fitsSights 56 = .ok (.iconst 0, 1) := by decide +kernel
theorem dX12_fitsSights_57 : decode cX12_fitsSights 57 = .ok (.iload_n 3, 1) := by decide +kernel
theorem dX12_fitsSights_58 : decode cX12_fitsSights 58 = .ok (.invokevirtual 336, 3) := by decide +kernel
theorem dX12_fitsSights_61 : decode cX12_fitsSights 61 = .ok (.ifCond .eq 7, 3) := by decide +kernel
theorem dX12_fitsSights_64 : decode cX12_fitsSights 64 = .ok (.iconst 1, 1) := by decide +kernel
theorem dX12_fitsSights_65 : decode cX12_fitsSights 65 = .ok (.goto 4, 3) := by decide +kernel
theorem dX12_fitsSights_68 : decode cX12_fitsSights 68 = .ok (.iconst 0, 1) := by decide +kernel
theorem dX12_fitsSights_69 : decode cX12_fitsSights 69 = .ok (.istore_n 2, 1) := by decide +kernel
theorem dX12_fitsSights_70 : decode cX12_fitsSights 70 = .ok (.aload_n 0, 1) := by decide +kernel
theorem dX12_fitsSights_71 : decode cX12_fitsSights 71 = .ok (.iload_n 3, 1) := by decide +kernel
theorem dX12_fitsSights_72 : decode cX12_fitsSights 72 = .ok (.iconst 1, 1) := by decide +kernel
theorem dX12_fitsSights_73 : decode cX12_fitsSights 73 = .ok (.invokevirtual 297, 3) := by decide +kernel
theorem dX12_fitsSights_76 : decode cX12_fitsSights 76 = .ok (.istore 4, 2) := by decide +kernel
theorem dX12_fitsSights_78 : decode cX12_fitsSights 78 = .ok (.aload_n 0, 1) := by decide +kernel
theorem dX12_fitsSights_79 : decode cX12_fitsSights 79 = .ok (.getfield 144, 3) := by decide +kernel
theorem dX12_fitsSights_82 : decode cX12_fitsSights 82 = .ok (.iload 4, 2) := by decide +kernel
theorem dX12_fitsSights_84 : decode cX12_fitsSights 84 = .ok (.aload_n 0, 1) := by decide +kernel
theorem dX12_fitsSights_85 : decode cX12_fitsSights 85 = .ok (.getfield 144, 3) := by decide +kernel
theorem dX12_fitsSights_88 : decode cX12_fitsSights 88 = .ok (.iload 4, 2) := by decide +kernel
theorem dX12_fitsSights_90 : decode cX12_fitsSights 90 = .ok (.iaload, 1) := by decide +kernel
theorem dX12_fitsSights_91 : decode cX12_fitsSights 91 = .ok (.aload_n 0, 1) := by decide +kernel
theorem dX12_fitsSights_92 : decode cX12_fitsSights 92 = .ok (.iload_n 3, 1) := by decide +kernel
theorem dX12_fitsSights_93 : decode cX12_fitsSights 93 = .ok (.aload_n 0, 1) := by decide +kernel
theorem dX12_fitsSights_94 : decode cX12_fitsSights 94 = .ok (.getfield 113, 3) := by decide +kernel
theorem dX12_fitsSights_97 : decode cX12_fitsSights 97 = .ok (.bipush 14, 2) := by decide +kernel
theorem dX12_fitsSights_99 : decode cX12_fitsSights 99 = .ok (.iload_n 3, 1) := by decide +kernel
theorem dX12_fitsSights_100 : decode cX12_fitsSights 100 = .ok (.iadd, 1) := by decide +kernel
theorem dX12_fitsSights_101 : decode cX12_fitsSights 101 = .ok (.iaload, 1) := by decide +kernel
theorem dX12_fitsSights_102 : decode cX12_fitsSights 102 = .ok (.aload_n 0, 1) := by decide +kernel
theorem dX12_fitsSights_103 : decode cX12_fitsSights 103 = .ok (.getfield 113, 3) := by decide +kernel
theorem dX12_fitsSights_106 : decode cX12_fitsSights 106 = .ok (.iconst 0, 1) := by decide +kernel
theorem dX12_fitsSights_107 : decode cX12_fitsSights 107 = .ok (.iaload, 1) := by decide +kernel
theorem dX12_fitsSights_108 : decode cX12_fitsSights 108 = .ok (.invokevirtual 339, 3) := by decide +kernel
theorem dX12_fitsSights_111 : decode cX12_fitsSights 111 = .ok (.iadd, 1) := by decide +kernel
theorem dX12_fitsSights_112 : decode cX12_fitsSights 112 = .ok (.invokestatic 333, 3) := by decide +kernel
theorem dX12_fitsSights_115 : decode cX12_fitsSights 115 = .ok (.iastore, 1) := by decide +kernel
theorem dX12_fitsSights_116 : decode cX12_fitsSights 116 = .ok (.iinc 3 1, 3) := by decide +kernel
theorem dX12_fitsSights_119 : decode cX12_fitsSights 119 = .ok (.goto (-85), 3) := by decide +kernel
theorem dX12_fitsSights_122 : decode cX12_fitsSights 122 = .ok (.iconst 0, 1) := by decide +kernel
theorem dX12_fitsSights_123 : decode cX12_fitsSights 123 = .ok (.istore_n 3, 1) := by decide +kernel
theorem dX12_fitsSights_124 : decode cX12_fitsSights 124 = .ok (.iload_n 3, 1) := by decide +kernel
theorem dX12_fitsSights_125 : decode cX12_fitsSights 125 = .ok (.aload_n 0, 1) := by decide +kernel
theorem dX12_fitsSights_126 : decode cX12_fitsSights 126 = .ok (.getfield 113, 3) := by decide +kernel
theorem dX12_fitsSights_129 : decode cX12_fitsSights 129 = .ok (.bipush 38, 2) := by decide +kernel
theorem dX12_fitsSights_131 : decode cX12_fitsSights 131 = .ok (.iaload, 1) := by decide +kernel
theorem dX12_fitsSights_132 : decode cX12_fitsSights 132 = .ok (.if_icmp .ge 77, 3) := by decide +kernel
theorem dX12_fitsSights_135 : decode cX12_fitsSights 135 = .ok (.bipush 39, 2) := by decide +kernel
theorem dX12_fitsSights_137 : decode cX12_fitsSights 137 = .ok (.iconst 3, 1) := by decide +kernel
theorem dX12_fitsSights_138 : decode cX12_fitsSights 138 = .ok (.iload_n 3, 1) := by decide +kernel
theorem dX12_fitsSights_139 : decode cX12_fitsSights 139 = .ok (.imul, 1) := by decide +kernel
theorem dX12_fitsSights_140 : decode cX12_fitsSights 140 = .ok (.iadd, 1) := by decide +kernel
theorem dX12_fitsSights_141 : decode cX12_fitsSights 141 = .ok (.istore 4, 2) := by decide +kernel
theorem dX12_fitsSights_143 : decode cX12_fitsSights 143 = .ok (.iload_n 2, 1) := by decide +kernel
theorem dX12_fitsSights_144 : decode cX12_fitsSights 144 = .ok (.ifCond .eq 57, 3) := by decide +kernel
theorem dX12_fitsSights_147 : decode cX12_fitsSights 147 = .ok (.aload_n 0, 1) := by decide +kernel
theorem dX12_fitsSights_148 : decode cX12_fitsSights 148 = .ok (.getfield 144, 3) := by decide +kernel
theorem dX12_fitsSights_151 : decode cX12_fitsSights 151 = .ok (.aload_n 0, 1) := by decide +kernel
theorem dX12_fitsSights_152 : decode cX12_fitsSights 152 = .ok (.getfield 113, 3) := by decide +kernel
theorem dX12_fitsSights_155 : decode cX12_fitsSights 155 = .ok (.iload 4, 2) := by decide +kernel
theorem dX12_fitsSights_157 : decode cX12_fitsSights 157 = .ok (.iaload, 1) := by decide +kernel
theorem dX12_fitsSights_158 : decode cX12_fitsSights 158 = .ok (.iaload, 1) := by decide +kernel
theorem dX12_fitsSights_159 : decode cX12_fitsSights 159 = .ok (.aload_n 0, 1) := by decide +kernel
theorem dX12_fitsSights_160 : decode cX12_fitsSights 160 = .ok (.getfield 113, 3) := by decide +kernel
theorem dX12_fitsSights_163 : decode cX12_fitsSights 163 = .ok (.iload 4, 2) := by decide +kernel
theorem dX12_fitsSights_165 : decode cX12_fitsSights 165 = .ok (.iconst 1, 1) := by decide +kernel
theorem dX12_fitsSights_166 : decode cX12_fitsSights 166 = .ok (.iadd, 1) := by decide +kernel
theorem dX12_fitsSights_167 : decode cX12_fitsSights 167 = .ok (.iaload, 1) := by decide +kernel
theorem dX12_fitsSights_168 : decode cX12_fitsSights 168 = .ok (.if_icmp .le 7, 3) := by decide +kernel
theorem dX12_fitsSights_171 : decode cX12_fitsSights 171 = .ok (.iconst 1, 1) := by decide +kernel
theorem dX12_fitsSights_172 : decode cX12_fitsSights 172 = .ok (.goto 4, 3) := by decide +kernel
theorem dX12_fitsSights_175 : decode cX12_fitsSights 175 = .ok (.iconst 0, 1) := by decide +kernel
theorem dX12_fitsSights_176 : decode cX12_fitsSights 176 = .ok (.aload_n 0, 1) := by decide +kernel
theorem dX12_fitsSights_177 : decode cX12_fitsSights 177 = .ok (.getfield 113, 3) := by decide +kernel
theorem dX12_fitsSights_180 : decode cX12_fitsSights 180 = .ok (.iload 4, 2) := by decide +kernel
theorem dX12_fitsSights_182 : decode cX12_fitsSights 182 = .ok (.iconst 2, 1) := by decide +kernel
theorem dX12_fitsSights_183 : decode cX12_fitsSights 183 = .ok (.iadd, 1) := by decide +kernel
theorem dX12_fitsSights_184 : decode cX12_fitsSights 184 = .ok (.iaload, 1) := by decide +kernel
theorem dX12_fitsSights_185 : decode cX12_fitsSights 185 = .ok (.iconst 1, 1) := by decide +kernel
theorem dX12_fitsSights_186 : decode cX12_fitsSights 186 = .ok (.if_icmp .ne 7, 3) := by decide +kernel
theorem dX12_fitsSights_189 : decode cX12_fitsSights 189 = .ok (.iconst 1, 1) := by decide +kernel
theorem dX12_fitsSights_190 : decode cX12_fitsSights 190 = .ok (.goto 4, 3) := by decide +kernel
theorem dX12_fitsSights_193 : decode cX12_fitsSights 193 = .ok (.iconst 0, 1) := by decide +kernel
theorem dX12_fitsSights_194 : decode cX12_fitsSights 194 = .ok (.if_icmp .ne 7, 3) := by decide +kernel
theorem dX12_fitsSights_197 : decode cX12_fitsSights 197 = .ok (.iconst 1, 1) := by decide +kernel
theorem dX12_fitsSights_198 : decode cX12_fitsSights 198 = .ok (.goto 4, 3) := by decide +kernel
theorem dX12_fitsSights_201 : decode cX12_fitsSights 201 = .ok (.iconst 0, 1) := by decide +kernel
theorem dX12_fitsSights_202 : decode cX12_fitsSights 202 = .ok (.istore_n 2, 1) := by decide +kernel
theorem dX12_fitsSights_203 : decode cX12_fitsSights 203 = .ok (.iinc 3 1, 3) := by decide +kernel
theorem dX12_fitsSights_206 : decode cX12_fitsSights 206 = .ok (.goto (-82), 3) := by decide +kernel
theorem dX12_fitsSights_209 : decode cX12_fitsSights 209 = .ok (.iload_n 2, 1) := by decide +kernel
theorem dX12_fitsSights_210 : decode cX12_fitsSights 210 = .ok (.ireturn, 1) := by decide +kernel
theorem dX12_sets_0 : decode cX12_sets 0 = .ok (.aload_n 0, 1) := by decide +kernel
theorem dX12_sets_1 : decode cX12_sets 1 = .ok (.iconst 0, 1) := by decide +kernel
theorem dX12_sets_2 : decode cX12_sets 2 = .ok (.putfield 1, 3) := by decide +kernel
theorem dX12_sets_5 : decode cX12_sets 5 = .ok (.iload_n 1, 1) := by decide +kernel
theorem dX12_sets_6 : decode cX12_sets 6 = .ok (.iconst 0, 1) := by decide +kernel
theorem dX12_sets_7 : decode cX12_sets 7 = .ok (.iconst 2, 1) := by decide +kernel
theorem dX12_sets_8 : decode cX12_sets 8 = .ok (.invokestatic 362, 3) := by decide +kernel
theorem dX12_sets_11 : decode cX12_sets 11 = .ok (.ifCond .ne 5, 3) := by decide +kernel
theorem dX12_sets_14 : decode cX12_sets 14 = .ok (.iconst (-1), 1) := by decide +kernel
theorem dX12_sets_15 : decode cX12_sets 15 = .ok (.ireturn, 1) := by decide +kernel
theorem dX12_sets_16 : decode cX12_sets 16 = .ok (.iconst 0, 1) := by decide +kernel
theorem dX12_sets_17 : decode cX12_sets 17 = .ok (.istore_n 2, 1) := by decide +kernel
theorem dX12_sets_18 : decode cX12_sets 18 = .ok (.iconst 1, 1) := by decide +kernel
theorem dX12_sets_19 : decode cX12_sets 19 = .ok (.aload_n 0, 1) := by decide +kernel
theorem dX12_sets_20 : decode cX12_sets 20 = .ok (.invokevirtual 273, 3) := by decide +kernel
theorem dX12_sets_23 : decode cX12_sets 23 = .ok (.ishl, 1) := by decide +kernel
theorem dX12_sets_24 : decode cX12_sets 24 = .ok (.iconst 1, 1) := by decide +kernel
theorem dX12_sets_25 : decode cX12_sets 25 = .ok (.isub, 1) := by decide +kernel
theorem dX12_sets_26 : decode cX12_sets 26 = .ok (.istore_n 3, 1) := by decide +kernel
theorem dX12_sets_27 : decode cX12_sets 27 = .ok (.iconst 0, 1) := by decide +kernel
theorem dX12_sets_28 : decode cX12_sets 28 = .ok (.istore 4, 2) := by decide +kernel
theorem dX12_sets_30 : decode cX12_sets 30 = .ok (.iconst 0, 1) := by decide +kernel
theorem dX12_sets_31 : decode cX12_sets 31 = .ok (.istore 5, 2) := by decide +kernel
theorem dX12_sets_33 : decode cX12_sets 33 = .ok (.iload 5, 2) := by decide +kernel
theorem dX12_sets_35 : decode cX12_sets 35 = .ok (.iconst 1, 1) := by decide +kernel
theorem dX12_sets_36 : decode cX12_sets 36 = .ok (.aload_n 0, 1) := by decide +kernel
theorem dX12_sets_37 : decode cX12_sets 37 = .ok (.invokevirtual 273, 3) := by decide +kernel
theorem dX12_sets_40 : decode cX12_sets 40 = .ok (.ishl, 1) := by decide +kernel
theorem dX12_sets_41 : decode cX12_sets 41 = .ok (.if_icmp .ge 33, 3) := by decide +kernel
theorem dX12_sets_44 : decode cX12_sets 44 = .ok (.aload_n 0, 1) := by decide +kernel
theorem dX12_sets_45 : decode cX12_sets 45 = .ok (.iload 5, 2) := by decide +kernel
theorem dX12_sets_47 : decode cX12_sets 47 = .ok (.invokevirtual 440, 3) := by decide +kernel
theorem dX12_sets_50 : decode cX12_sets 50 = .ok (.ifCond .eq 18, 3) := by decide +kernel
theorem dX12_sets_53 : decode cX12_sets 53 = .ok (.iinc 2 1, 3) := by decide +kernel
theorem dX12_sets_56 : decode cX12_sets 56 = .ok (.iload_n 3, 1) := by decide +kernel
theorem dX12_sets_57 : decode cX12_sets 57 = .ok (.iload 5, 2) := by decide +kernel
theorem dX12_sets_59 : decode cX12_sets 59 = .ok (.iand, 1) := by decide +kernel
theorem dX12_sets_60 : decode cX12_sets 60 = .ok (.istore_n 3, 1) := by decide +kernel
theorem dX12_sets_61 : decode cX12_sets 61 = .ok (.iload 4, 2) := by decide +kernel
theorem dX12_sets_63 : decode cX12_sets 63 = .ok (.iload 5, 2) := by decide +kernel
theorem dX12_sets_65 : decode cX12_sets 65 = .ok (.ior, 1) := by decide +kernel
theorem dX12_sets_66 : decode cX12_sets 66 = .ok (.istore 4, 2) := by decide +kernel
theorem dX12_sets_68 : decode cX12_sets 68 = .ok (.iinc 5 1, 3) := by decide +kernel
theorem dX12_sets_71 : decode cX12_sets 71 = .ok (.goto (-38), 3) := by decide +kernel
theorem dX12_sets_74 : decode cX12_sets 74 = .ok (.iload_n 1, 1) := by decide +kernel
theorem dX12_sets_75 : decode cX12_sets 75 = .ok (.ifCond .ne 7, 3) := by decide +kernel
theorem dX12_sets_78 : decode cX12_sets 78 = .ok (.iload_n 2, 1) := by decide +kernel
theorem dX12_sets_79 : decode cX12_sets 79 = .ok (.goto 22, 3) := by decide +kernel
theorem dX12_sets_82 : decode cX12_sets 82 = .ok (.iload_n 2, 1) := by decide +kernel
theorem dX12_sets_83 : decode cX12_sets 83 = .ok (.ifCond .ne 7, 3) := by decide +kernel
theorem dX12_sets_86 : decode cX12_sets 86 = .ok (.iconst (-1), 1) := by decide +kernel
theorem dX12_sets_87 : decode cX12_sets 87 = .ok (.goto 14, 3) := by decide +kernel
theorem dX12_sets_90 : decode cX12_sets 90 = .ok (.iload_n 1, 1) := by decide +kernel
theorem dX12_sets_91 : decode cX12_sets 91 = .ok (.iconst 1, 1) := by decide +kernel
theorem dX12_sets_92 : decode cX12_sets 92 = .ok (.if_icmp .ne 7, 3) := by decide +kernel
theorem dX12_sets_95 : decode cX12_sets 95 = .ok (.iload_n 3, 1) := by decide +kernel
theorem dX12_sets_96 : decode cX12_sets 96 = .ok (.goto 5, 3) := by decide +kernel
theorem dX12_sets_99 : decode cX12_sets 99 = .ok (.iload 4, 2) := by decide +kernel
theorem dX12_sets_101 : decode cX12_sets 101 = .ok (.ireturn, 1) := by decide +kernel
theorem dX12_look_0 : decode cX12_look 0 = .ok (.aload_n 0, 1) := by decide +kernel
theorem dX12_look_1 : decode cX12_look 1 = .ok (.iconst 0, 1) := by decide +kernel
theorem dX12_look_2 : decode cX12_look 2 = .ok (.putfield 1, 3) := by decide +kernel
theorem dX12_look_5 : decode cX12_look 5 = .ok (.iconst 0, 1) := by decide +kernel
theorem dX12_look_6 : decode cX12_look 6 = .ok (.istore_n 1, 1) := by decide +kernel
theorem dX12_look_7 : decode cX12_look 7 = .ok (.iload_n 1, 1) := by decide +kernel
theorem dX12_look_8 : decode cX12_look 8 = .ok (.bipush 60, 2) := by decide +kernel
theorem dX12_look_10 : decode cX12_look 10 = .ok (.if_icmp .ge 16, 3) := by decide +kernel
theorem dX12_look_13 : decode cX12_look 13 = .ok (.aload_n 0, 1) := by decide +kernel
theorem dX12_look_14 : decode cX12_look 14 = .ok (.getfield 147, 3) := by decide +kernel
theorem dX12_look_17 : decode cX12_look 17 = .ok (.iload_n 1, 1) := by decide +kernel
theorem dX12_look_18 : decode cX12_look 18 = .ok (.iconst 0, 1) := by decide +kernel
theorem dX12_look_19 : decode cX12_look 19 = .ok (.iastore, 1) := by decide +kernel
theorem dX12_look_20 : decode cX12_look 20 = .ok (.iinc 1 1, 3) := by decide +kernel
theorem dX12_look_23 : decode cX12_look 23 = .ok (.goto (-16), 3) := by decide +kernel
theorem dX12_look_26 : decode cX12_look 26 = .ok (.iconst 0, 1) := by decide +kernel
theorem dX12_look_27 : decode cX12_look 27 = .ok (.istore_n 1, 1) := by decide +kernel
theorem dX12_look_28 : decode cX12_look 28 = .ok (.iconst 0, 1) := by decide +kernel
theorem dX12_look_29 : decode cX12_look 29 = .ok (.istore_n 2, 1) := by decide +kernel
theorem dX12_look_30 : decode cX12_look 30 = .ok (.iload_n 2, 1) := by decide +kernel
theorem dX12_look_31 : decode cX12_look 31 = .ok (.iconst 1, 1) := by decide +kernel
theorem dX12_look_32 : decode cX12_look 32 = .ok (.aload_n 0, 1) := by decide +kernel
theorem dX12_look_33 : decode cX12_look 33 = .ok (.invokevirtual 273, 3) := by decide +kernel
theorem dX12_look_36 : decode cX12_look 36 = .ok (.ishl, 1) := by decide +kernel
theorem dX12_look_37 : decode cX12_look 37 = .ok (.if_icmp .ge 69, 3) := by decide +kernel
theorem dX12_look_40 : decode cX12_look 40 = .ok (.aload_n 0, 1) := by decide +kernel
theorem dX12_look_41 : decode cX12_look 41 = .ok (.iload_n 2, 1) := by decide +kernel
theorem dX12_look_42 : decode cX12_look 42 = .ok (.invokevirtual 440, 3) := by decide +kernel
theorem dX12_look_45 : decode cX12_look 45 = .ok (.ifCond .eq 55, 3) := by decide +kernel
theorem dX12_look_48 : decode cX12_look 48 = .ok (.iinc 1 1, 3) := by decide +kernel
theorem dX12_look_51 : decode cX12_look 51 = .ok (.iconst 0, 1) := by decide +kernel
theorem dX12_look_52 : decode cX12_look 52 = .ok (.istore_n 3, 1) := by decide +kernel
theorem dX12_look_53 : decode cX12_look 53 = .ok (.iload_n 3, 1) := by decide +kernel
theorem dX12_look_54 : decode cX12_look 54 = .ok (.bipush 10, 2) := by decide +kernel
theorem dX12_look_56 : decode cX12_look 56 = .ok (.aload_n 0, 1) := by decide +kernel
theorem dX12_look_57 : decode cX12_look 57 = .ok (.invokevirtual 294, 3) := by decide +kernel
theorem dX12_look_60 : decode cX12_look 60 = .ok (.imul, 1) := by decide +kernel
theorem dX12_look_61 : decode cX12_look 61 = .ok (.if_icmp .ge 39, 3) := by decide +kernel
theorem dX12_look_64 : decode cX12_look 64 = .ok (.aload_n 0, 1) := by decide +kernel
theorem dX12_look_65 : decode cX12_look 65 = .ok (.getfield 147, 3) := by decide +kernel
theorem dX12_look_68 : decode cX12_look 68 = .ok (.iload_n 3, 1) := by decide +kernel
theorem dX12_look_69 : decode cX12_look 69 = .ok (.dup2, 1) := by decide +kernel
theorem dX12_look_70 : decode cX12_look 70 = .ok (.iaload, 1) := by decide +kernel
theorem dX12_look_71 : decode cX12_look 71 = .ok (.aload_n 0, 1) := by decide +kernel
theorem dX12_look_72 : decode cX12_look 72 = .ok (.getfield 144, 3) := by decide +kernel
theorem dX12_look_75 : decode cX12_look 75 = .ok (.iload_n 3, 1) := by decide +kernel
theorem dX12_look_76 : decode cX12_look 76 = .ok (.bipush 10, 2) := by decide +kernel
theorem dX12_look_78 : decode cX12_look 78 = .ok (.idiv, 1) := by decide +kernel
theorem dX12_look_79 : decode cX12_look 79 = .ok (.iaload, 1) := by decide +kernel
theorem dX12_look_80 : decode cX12_look 80 = .ok (.iload_n 3, 1) := by decide +kernel
theorem dX12_look_81 : decode cX12_look 81 = .ok (.bipush 10, 2) := by decide +kernel
theorem dX12_look_83 : decode cX12_look 83 = .ok (.irem, 1) := by decide +kernel
theorem dX12_look_84 : decode cX12_look 84 = .ok (.if_icmp .le 7, 3) := by decide +kernel
theorem dX12_look_87 : decode cX12_look 87 = .ok (.iconst 1, 1) := by decide +kernel
theorem dX12_look_88 : decode cX12_look 88 = .ok (.goto 4, 3) := by decide +kernel
theorem dX12_look_91 : decode cX12_look 91 = .ok (.iconst 0, 1) := by decide +kernel
theorem dX12_look_92 : decode cX12_look 92 = .ok (.iadd, 1) := by decide +kernel
theorem dX12_look_93 : decode cX12_look 93 = .ok (.iastore, 1) := by decide +kernel
theorem dX12_look_94 : decode cX12_look 94 = .ok (.iinc 3 1, 3) := by decide +kernel
theorem dX12_look_97 : decode cX12_look 97 = .ok (.goto (-44), 3) := by decide +kernel
theorem dX12_look_100 : decode cX12_look 100 = .ok (.iinc 2 1, 3) := by decide +kernel
theorem dX12_look_103 : decode cX12_look 103 = .ok (.goto (-73), 3) := by decide +kernel
theorem dX12_look_106 : decode cX12_look 106 = .ok (.iconst (-1), 1) := by decide +kernel
theorem dX12_look_107 : decode cX12_look 107 = .ok (.istore_n 2, 1) := by decide +kernel
theorem dX12_look_108 : decode cX12_look 108 = .ok (.iload_n 1, 1) := by decide +kernel
theorem dX12_look_109 : decode cX12_look 109 = .ok (.istore_n 3, 1) := by decide +kernel
theorem dX12_look_110 : decode cX12_look 110 = .ok (.iconst 0, 1) := by decide +kernel
theorem dX12_look_111 : decode cX12_look 111 = .ok (.istore 4, 2) := by decide +kernel
theorem dX12_look_113 : decode cX12_look 113 = .ok (.iload 4, 2) := by decide +kernel
theorem dX12_look_115 : decode cX12_look 115 = .ok (.bipush 10, 2) := by decide +kernel
theorem dX12_look_117 : decode cX12_look 117 = .ok (.aload_n 0, 1) := by decide +kernel
theorem dX12_look_118 : decode cX12_look 118 = .ok (.invokevirtual 294, 3) := by decide +kernel
theorem dX12_look_121 : decode cX12_look 121 = .ok (.imul, 1) := by decide +kernel
theorem dX12_look_122 : decode cX12_look 122 = .ok (.if_icmp .ge 75, 3) := by decide +kernel
theorem dX12_look_125 : decode cX12_look 125 = .ok (.aload_n 0, 1) := by decide +kernel
theorem dX12_look_126 : decode cX12_look 126 = .ok (.getfield 147, 3) := by decide +kernel
theorem dX12_look_129 : decode cX12_look 129 = .ok (.iload 4, 2) := by decide +kernel
theorem dX12_look_131 : decode cX12_look 131 = .ok (.iaload, 1) := by decide +kernel
theorem dX12_look_132 : decode cX12_look 132 = .ok (.iload_n 1, 1) := by decide +kernel
theorem dX12_look_133 : decode cX12_look 133 = .ok (.aload_n 0, 1) := by decide +kernel
theorem dX12_look_134 : decode cX12_look 134 = .ok (.getfield 147, 3) := by decide +kernel
theorem dX12_look_137 : decode cX12_look 137 = .ok (.iload 4, 2) := by decide +kernel
theorem dX12_look_139 : decode cX12_look 139 = .ok (.iaload, 1) := by decide +kernel
theorem dX12_look_140 : decode cX12_look 140 = .ok (.isub, 1) := by decide +kernel
theorem dX12_look_141 : decode cX12_look 141 = .ok (.if_icmp .le 13, 3) := by decide +kernel
theorem dX12_look_144 : decode cX12_look 144 = .ok (.aload_n 0, 1) := by decide +kernel
theorem dX12_look_145 : decode cX12_look 145 = .ok (.getfield 147, 3) := by decide +kernel
theorem dX12_look_148 : decode cX12_look 148 = .ok (.iload 4, 2) := by decide +kernel
theorem dX12_look_150 : decode cX12_look 150 = .ok (.iaload, 1) := by decide +kernel
theorem dX12_look_151 : decode cX12_look 151 = .ok (.goto 12, 3) := by decide +kernel
theorem dX12_look_154 : decode cX12_look 154 = .ok (.iload_n 1, 1) := by decide +kernel
theorem dX12_look_155 : decode cX12_look 155 = .ok (.aload_n 0, 1) := by decide +kernel
theorem dX12_look_156 : decode cX12_look 156 = .ok (.getfield 147, 3) := by decide +kernel
theorem dX12_look_159 : decode cX12_look 159 = .ok (.iload 4, 2) := by decide +kernel
theorem dX12_look_161 : decode cX12_look 161 = .ok (.iaload, 1) := by decide +kernel
theorem dX12_look_162 : decode cX12_look 162 = .ok (.isub, 1) := by decide +kernel
theorem dX12_look_163 : decode cX12_look 163 = .ok (.istore 5, 2) := by decide +kernel
theorem dX12_look_165 : decode cX12_look 165 = .ok (.iload 5, 2) := by decide +kernel
theorem dX12_look_167 : decode cX12_look 167 = .ok (.iload_n 3, 1) := by decide +kernel
theorem dX12_look_168 : decode cX12_look 168 = .ok (.if_icmp .ge 8, 3) := by decide +kernel
theorem dX12_look_171 : decode cX12_look 171 = .ok (.iload 4, 2) := by decide +kernel
theorem dX12_look_173 : decode cX12_look 173 = .ok (.goto 4, 3) := by decide +kernel
theorem dX12_look_176 : decode cX12_look 176 = .ok (.iload_n 2, 1) := by decide +kernel
theorem dX12_look_177 : decode cX12_look 177 = .ok (.istore_n 2, 1) := by decide +kernel
theorem dX12_look_178 : decode cX12_look 178 = .ok (.iload 5, 2) := by decide +kernel
theorem dX12_look_180 : decode cX12_look 180 = .ok (.iload_n 3, 1) := by decide +kernel
theorem dX12_look_181 : decode cX12_look 181 = .ok (.if_icmp .ge 8, 3) := by decide +kernel
theorem dX12_look_184 : decode cX12_look 184 = .ok (.iload 5, 2) := by decide +kernel
theorem dX12_look_186 : decode cX12_look 186 = .ok (.goto 4, 3) := by decide +kernel
theorem dX12_look_189 : decode cX12_look 189 = .ok (.iload_n 3, 1) := by decide +kernel
theorem dX12_look_190 : decode cX12_look 190 = .ok (.istore_n 3, 1) := by decide +kernel
theorem dX12_look_191 : decode cX12_look 191 = .ok (.iinc 4 1, 3) := by decide +kernel
theorem dX12_look_194 : decode cX12_look 194 = .ok (.goto (-81), 3) := by decide +kernel
theorem dX12_look_197 : decode cX12_look 197 = .ok (.iload_n 2, 1) := by decide +kernel
theorem dX12_look_198 : decode cX12_look 198 = .ok (.ireturn, 1) := by decide +kernel
theorem dX12_law_0 : decode cX12_law 0 = .ok (.aload_n 0, 1) := by decide +kernel
theorem dX12_law_1 : decode cX12_law 1 = .ok (.iconst 0, 1) := by decide +kernel
theorem dX12_law_2 : decode cX12_law 2 = .ok (.putfield 1, 3) := by decide +kernel
theorem dX12_law_5 : decode cX12_law 5 = .ok (.iload_n 1, 1) := by decide +kernel
theorem dX12_law_6 : decode cX12_law 6 = .ok (.iconst 1, 1) := by decide +kernel
theorem dX12_law_7 : decode cX12_law 7 = .ok (.bipush 30, 2) := by decide +kernel
theorem dX12_law_9 : decode cX12_law 9 = .ok (.invokestatic 362, 3) := by decide +kernel
theorem dX12_law_12 : decode cX12_law 12 = .ok (.ifCond .eq 13, 3) := by decide +kernel
theorem dX12_law_15 : decode cX12_law 15 = .ok (.iload_n 2, 1) := by decide +kernel
theorem dX12_law_16 : decode cX12_law 16 = .ok (.iconst 0, 1) := by decide +kernel
theorem dX12_law_17 : decode cX12_law 17 = .ok (.bipush 9, 2) := by decide +kernel
theorem dX12_law_19 : decode cX12_law 19 = .ok (.invokestatic 362, 3) := by decide +kernel
theorem dX12_law_22 : decode cX12_law 22 = .ok (.ifCond .ne 5, 3) := by decide +kernel
theorem dX12_law_25 : decode cX12_law 25 = .ok (.iconst (-1), 1) := by decide +kernel
theorem dX12_law_26 : decode cX12_law 26 = .ok (.ireturn, 1) := by decide +kernel
theorem dX12_law_27 : decode cX12_law 27 = .ok (.aload_n 0, 1) := by decide +kernel
theorem dX12_law_28 : decode cX12_law 28 = .ok (.iconst 0, 1) := by decide +kernel
theorem dX12_law_29 : decode cX12_law 29 = .ok (.sipush 1323, 3) := by decide +kernel
theorem dX12_law_32 : decode cX12_law 32 = .ok (.bipush 38, 2) := by decide +kernel
theorem dX12_law_34 : decode cX12_law 34 = .ok (.invokevirtual 309, 3) := by decide +kernel
theorem dX12_law_37 : decode cX12_law 37 = .ok (.aload_n 0, 1) := by decide +kernel
theorem dX12_law_38 : decode cX12_law 38 = .ok (.iload_n 2, 1) := by decide +kernel
theorem dX12_law_39 : decode cX12_law 39 = .ok (.putfield 300, 3) := by decide +kernel
theorem dX12_law_42 : decode cX12_law 42 = .ok (.iconst 0, 1) := by decide +kernel
theorem dX12_law_43 : decode cX12_law 43 = .ok (.istore_n 3, 1) := by decide +kernel
theorem dX12_law_44 : decode cX12_law 44 = .ok (.iconst 0, 1) := by decide +kernel
theorem dX12_law_45 : decode cX12_law 45 = .ok (.istore 4, 2) := by decide +kernel
theorem dX12_law_47 : decode cX12_law 47 = .ok (.iload 4, 2) := by decide +kernel
theorem dX12_law_49 : decode cX12_law 49 = .ok (.iload_n 1, 1) := by decide +kernel
theorem dX12_law_50 : decode cX12_law 50 = .ok (.if_icmp .ge 59, 3) := by decide +kernel
theorem dX12_law_53 : decode cX12_law 53 = .ok (.iconst 0, 1) := by decide +kernel
theorem dX12_law_54 : decode cX12_law 54 = .ok (.istore 5, 2) := by decide +kernel
theorem dX12_law_56 : decode cX12_law 56 = .ok (.iload 5, 2) := by decide +kernel
theorem dX12_law_58 : decode cX12_law 58 = .ok (.aload_n 0, 1) := by decide +kernel
theorem dX12_law_59 : decode cX12_law 59 = .ok (.invokevirtual 273, 3) := by decide +kernel
theorem dX12_law_62 : decode cX12_law 62 = .ok (.if_icmp .ge 31, 3) := by decide +kernel
theorem dX12_law_65 : decode cX12_law 65 = .ok (.aload_n 0, 1) := by decide +kernel
theorem dX12_law_66 : decode cX12_law 66 = .ok (.sipush 1323, 3) := by decide +kernel
theorem dX12_law_69 : decode cX12_law 69 = .ok (.iload 5, 2) := by decide +kernel
theorem dX12_law_71 : decode cX12_law 71 = .ok (.invokevirtual 336, 3) := by decide +kernel
theorem dX12_law_74 : decode cX12_law 74 = .ok (.ifCond .eq 13, 3) := by decide +kernel
theorem dX12_law_77 : decode cX12_law 77 = .ok (.aload_n 0, 1) := by decide +kernel
theorem dX12_law_78 : decode cX12_law 78 = .ok (.sipush 1323, 3) := by decide +kernel
theorem dX12_law_81 : decode cX12_law 81 = .ok (.iload 5, 2) := by decide +kernel
theorem dX12_law_83 : decode cX12_law 83 = .ok (.invokevirtual 383, 3) := by decide +kernel
theorem dX12_law_86 : decode cX12_law 86 = .ok (.pop, 1) := by decide +kernel
theorem dX12_law_87 : decode cX12_law 87 = .ok (.iinc 5 1, 3) := by decide +kernel
theorem dX12_law_90 : decode cX12_law 90 = .ok (.goto (-34), 3) := by decide +kernel
theorem dX12_law_93 : decode cX12_law 93 = .ok (.iload_n 3, 1) := by decide +kernel
theorem dX12_law_94 : decode cX12_law 94 = .ok (.aload_n 0, 1) := by decide +kernel
theorem dX12_law_95 : decode cX12_law 95 = .ok (.sipush 1323, 3) := by decide +kernel
theorem dX12_law_98 : decode cX12_law 98 = .ok (.invokevirtual 386, 3) := by decide +kernel
theorem dX12_law_101 : decode cX12_law 101 = .ok (.iadd, 1) := by decide +kernel
theorem dX12_law_102 : decode cX12_law 102 = .ok (.istore_n 3, 1) := by decide +kernel
theorem dX12_law_103 : decode cX12_law 103 = .ok (.iinc 4 1, 3) := by decide +kernel
theorem dX12_law_106 : decode cX12_law 106 = .ok (.goto (-59), 3) := by decide +kernel
theorem dX12_law_109 : decode cX12_law 109 = .ok (.aload_n 0, 1) := by decide +kernel
theorem dX12_law_110 : decode cX12_law 110 = .ok (.iconst 0, 1) := by decide +kernel
theorem dX12_law_111 : decode cX12_law 111 = .ok (.putfield 300, 3) := by decide +kernel
theorem dX12_law_114 : decode cX12_law 114 = .ok (.iload_n 3, 1) := by decide +kernel
theorem dX12_law_115 : decode cX12_law 115 = .ok (.ireturn, 1) := by decide +kernel
theorem dX12_losesBy_0 : decode cX12_losesBy 0 = .ok (.iload_n 0, 1) := by decide +kernel
theorem dX12_losesBy_1 : decode cX12_losesBy 1 = .ok (.iconst 1, 1) := by decide +kernel
theorem dX12_losesBy_2 : decode cX12_losesBy 2 = .ok (.if_icmp .ne 7, 3) := by decide +kernel
theorem dX12_losesBy_5 : decode cX12_losesBy 5 = .ok (.iload_n 3, 1) := by decide +kernel
theorem dX12_losesBy_6 : decode cX12_losesBy 6 = .ok (.goto 13, 3) := by decide +kernel
theorem dX12_losesBy_9 : decode cX12_losesBy 9 = .ok (.iload_n 1, 1) := by decide +kernel
theorem dX12_losesBy_10 : decode cX12_losesBy 10 = .ok (.iconst 1, 1) := by decide +kernel
theorem dX12_losesBy_11 : decode cX12_losesBy 11 = .ok (.if_icmp .ne 7, 3) := by decide +kernel
theorem dX12_losesBy_14 : decode cX12_losesBy 14 = .ok (.iconst 0, 1) := by decide +kernel
theorem dX12_losesBy_15 : decode cX12_losesBy 15 = .ok (.goto 4, 3) := by decide +kernel
theorem dX12_losesBy_18 : decode cX12_losesBy 18 = .ok (.iload_n 2, 1) := by decide +kernel
theorem dX12_losesBy_19 : decode cX12_losesBy 19 = .ok (.ireturn, 1) := by decide +kernel
theorem dX12_rests_0 : decode cX12_rests 0 = .ok (.iload_n 1, 1) := by decide +kernel
theorem dX12_rests_1 : decode cX12_rests 1 = .ok (.iconst 0, 1) := by decide +kernel
theorem dX12_rests_2 : decode cX12_rests 2 = .ok (.bipush 9, 2) := by decide +kernel
theorem dX12_rests_4 : decode cX12_rests 4 = .ok (.invokestatic 362, 3) := by decide +kernel
theorem dX12_rests_7 : decode cX12_rests 7 = .ok (.ifCond .eq 22, 3) := by decide +kernel
theorem dX12_rests_10 : decode cX12_rests 10 = .ok (.iload_n 2, 1) := by decide +kernel
theorem dX12_rests_11 : decode cX12_rests 11 = .ok (.iconst 0, 1) := by decide +kernel
theorem dX12_rests_12 : decode cX12_rests 12 = .ok (.bipush 9, 2) := by decide +kernel
theorem dX12_rests_14 : decode cX12_rests 14 = .ok (.invokestatic 362, 3) := by decide +kernel
theorem dX12_rests_17 : decode cX12_rests 17 = .ok (.ifCond .eq 12, 3) := by decide +kernel
theorem dX12_rests_20 : decode cX12_rests 20 = .ok (.iload_n 3, 1) := by decide +kernel
theorem dX12_rests_21 : decode cX12_rests 21 = .ok (.iconst (-1), 1) := by decide +kernel
theorem dX12_rests_22 : decode cX12_rests 22 = .ok (.if_icmp .lt 7, 3) := by decide +kernel
theorem dX12_rests_25 : decode cX12_rests 25 = .ok (.iconst 1, 1) := by decide +kernel
theorem dX12_rests_26 : decode cX12_rests 26 = .ok (.goto 4, 3) := by decide +kernel
theorem dX12_rests_29 : decode cX12_rests 29 = .ok (.iconst 0, 1) := by decide +kernel
theorem dX12_rests_30 : decode cX12_rests 30 = .ok (.istore 4, 2) := by decide +kernel
theorem dX12_rests_32 : decode cX12_rests 32 = .ok (.iconst 0, 1) := by decide +kernel
theorem dX12_rests_33 : decode cX12_rests 33 = .ok (.istore 5, 2) := by decide +kernel
theorem dX12_rests_35 : decode cX12_rests 35 = .ok (.iconst (-1), 1) := by decide +kernel
theorem dX12_rests_36 : decode cX12_rests 36 = .ok (.istore 6, 2) := by decide +kernel
theorem dX12_rests_38 : decode cX12_rests 38 = .ok (.iconst 0, 1) := by decide +kernel
theorem dX12_rests_39 : decode cX12_rests 39 = .ok (.istore 7, 2) := by decide +kernel
theorem dX12_rests_41 : decode cX12_rests 41 = .ok (.iload 7, 2) := by decide +kernel
theorem dX12_rests_43 : decode cX12_rests 43 = .ok (.iconst 4, 1) := by decide +kernel
theorem dX12_rests_44 : decode cX12_rests 44 = .ok (.if_icmp .ge 114, 3) := by decide +kernel
theorem dX12_rests_47 : decode cX12_rests 47 = .ok (.iload 4, 2) := by decide +kernel
theorem dX12_rests_49 : decode cX12_rests 49 = .ok (.ifCond .eq 109, 3) := by decide +kernel
theorem dX12_rests_52 : decode cX12_rests 52 = .ok (.iload 7, 2) := by decide +kernel
theorem dX12_rests_54 : decode cX12_rests 54 = .ok (.iconst 2, 1) := by decide +kernel
theorem dX12_rests_55 : decode cX12_rests 55 = .ok (.idiv, 1) := by decide +kernel
theorem dX12_rests_56 : decode cX12_rests 56 = .ok (.istore 8, 2) := by decide +kernel
theorem dX12_rests_58 : decode cX12_rests 58 = .ok (.iload 7, 2) := by decide +kernel
theorem dX12_rests_60 : decode cX12_rests 60 = .ok (.iconst 2, 1) := by decide +kernel
theorem dX12_rests_61 : decode cX12_rests 61 = .ok (.irem, 1) := by decide +kernel
theorem dX12_rests_62 : decode cX12_rests 62 = .ok (.istore 9, 2) := by decide +kernel
theorem dX12_rests_64 : decode cX12_rests 64 = .ok (.iconst 1, 1) := by decide +kernel
theorem dX12_rests_65 : decode cX12_rests 65 = .ok (.iload 8, 2) := by decide +kernel
theorem dX12_rests_67 : decode cX12_rests 67 = .ok (.isub, 1) := by decide +kernel
theorem dX12_rests_68 : decode cX12_rests 68 = .ok (.iload 9, 2) := by decide +kernel
theorem dX12_rests_70 : decode cX12_rests 70 = .ok (.iload_n 1, 1) := by decide +kernel
theorem dX12_rests_71 : decode cX12_rests 71 = .ok (.iload_n 2, 1) := by decide +kernel
theorem dX12_rests_72 : decode cX12_rests 72 = .ok (.invokestatic 443, 3) := by decide +kernel
theorem dX12_rests_75 : decode cX12_rests 75 = .ok (.iload 8, 2) := by decide +kernel
theorem dX12_rests_77 : decode cX12_rests 77 = .ok (.iload 9, 2) := by decide +kernel
theorem dX12_rests_79 : decode cX12_rests 79 = .ok (.iload_n 1, 1) := by decide +kernel
theorem dX12_rests_80 : decode cX12_rests 80 = .ok (.iload_n 2, 1) := by decide +kernel
theorem dX12_rests_81 : decode cX12_rests 81 = .ok (.invokestatic 443, 3) := by decide +kernel
theorem dX12_rests_84 : decode cX12_rests 84 = .ok (.if_icmp .lt 30, 3) := by decide +kernel
theorem dX12_rests_87 : decode cX12_rests 87 = .ok (.iconst 1, 1) := by decide +kernel
theorem dX12_rests_88 : decode cX12_rests 88 = .ok (.iload 9, 2) := by decide +kernel
theorem dX12_rests_90 : decode cX12_rests 90 = .ok (.isub, 1) := by decide +kernel
theorem dX12_rests_91 : decode cX12_rests 91 = .ok (.iload 8, 2) := by decide +kernel
theorem dX12_rests_93 : decode cX12_rests 93 = .ok (.iload_n 1, 1) := by decide +kernel
theorem dX12_rests_94 : decode cX12_rests 94 = .ok (.iload_n 2, 1) := by decide +kernel
theorem dX12_rests_95 : decode cX12_rests 95 = .ok (.invokestatic 443, 3) := by decide +kernel
theorem dX12_rests_98 : decode cX12_rests 98 = .ok (.iload 9, 2) := by decide +kernel
theorem dX12_rests_100 : decode cX12_rests 100 = .ok (.iload 8, 2) := by decide +kernel
theorem dX12_rests_102 : decode cX12_rests 102 = .ok (.iload_n 1, 1) := by decide +kernel
theorem dX12_rests_103 : decode cX12_rests 103 = .ok (.iload_n 2, 1) := by decide +kernel
theorem dX12_rests_104 : decode cX12_rests 104 = .ok (.invokestatic 443, 3) := by decide +kernel
theorem dX12_rests_107 : decode cX12_rests 107 = .ok (.if_icmp .lt 7, 3) := by decide +kernel
theorem dX12_rests_110 : decode cX12_rests 110 = .ok (.iconst 1, 1) := by decide +kernel
theorem dX12_rests_111 : decode cX12_rests 111 = .ok (.goto 4, 3) := by decide +kernel
theorem dX12_rests_114 : decode cX12_rests 114 = .ok (.iconst 0, 1) := by decide +kernel
theorem dX12_rests_115 : decode cX12_rests 115 = .ok (.istore 10, 2) := by decide +kernel
theorem dX12_rests_117 : decode cX12_rests 117 = .ok (.iload 10, 2) := by decide +kernel
theorem dX12_rests_119 : decode cX12_rests 119 = .ok (.ifCond .eq 14, 3) := by decide +kernel
theorem dX12_rests_122 : decode cX12_rests 122 = .ok (.iload 5, 2) := by decide +kernel
theorem dX12_rests_124 : decode cX12_rests 124 = .ok (.iload_n 3, 1) := by decide +kernel
theorem dX12_rests_125 : decode cX12_rests 125 = .ok (.if_icmp .ne 8, 3) := by decide +kernel
theorem dX12_rests_128 : decode cX12_rests 128 = .ok (.iload 7, 2) := by decide +kernel
theorem dX12_rests_130 : decode cX12_rests 130 = .ok (.goto 5, 3) := by decide +kernel
theorem dX12_rests_133 : decode cX12_rests 133 = .ok (.iload 6, 2) := by decide +kernel
theorem dX12_rests_135 : decode cX12_rests 135 = .ok (.istore 6, 2) := by decide +kernel
theorem dX12_rests_137 : decode cX12_rests 137 = .ok (.iload 5, 2) := by decide +kernel
theorem dX12_rests_139 : decode cX12_rests 139 = .ok (.iload 10, 2) := by decide +kernel
theorem dX12_rests_141 : decode cX12_rests 141 = .ok (.ifCond .eq 7, 3) := by decide +kernel
theorem dX12_rests_144 : decode cX12_rests 144 = .ok (.iconst 1, 1) := by decide +kernel
theorem dX12_rests_145 : decode cX12_rests 145 = .ok (.goto 4, 3) := by decide +kernel
theorem dX12_rests_148 : decode cX12_rests 148 = .ok (.iconst 0, 1) := by decide +kernel
theorem dX12_rests_149 : decode cX12_rests 149 = .ok (.iadd, 1) := by decide +kernel
theorem dX12_rests_150 : decode cX12_rests 150 = .ok (.istore 5, 2) := by decide +kernel
theorem dX12_rests_152 : decode cX12_rests 152 = .ok (.iinc 7 1, 3) := by decide +kernel
theorem dX12_rests_155 : decode cX12_rests 155 = .ok (.goto (-114), 3) := by decide +kernel
theorem dX12_rests_158 : decode cX12_rests 158 = .ok (.aload_n 0, 1) := by decide +kernel
theorem dX12_rests_159 : decode cX12_rests 159 = .ok (.iload 4, 2) := by decide +kernel
theorem dX12_rests_161 : decode cX12_rests 161 = .ok (.ifCond .eq 16, 3) := by decide +kernel
theorem dX12_rests_164 : decode cX12_rests 164 = .ok (.iload_n 3, 1) := by decide +kernel
theorem dX12_rests_165 : decode cX12_rests 165 = .ok (.ifCond .lt 8, 3) := by decide +kernel
theorem dX12_rests_168 : decode cX12_rests 168 = .ok (.iload 6, 2) := by decide +kernel
theorem dX12_rests_170 : decode cX12_rests 170 = .ok (.ifCond .lt 7, 3) := by decide +kernel
theorem dX12_rests_173 : decode cX12_rests 173 = .ok (.iconst 0, 1) := by decide +kernel
theorem dX12_rests_174 : decode cX12_rests 174 = .ok (.goto 4, 3) := by decide +kernel
theorem dX12_rests_177 : decode cX12_rests 177 = .ok (.iconst 1, 1) := by decide +kernel
theorem dX12_rests_178 : decode cX12_rests 178 = .ok (.putfield 1, 3) := by decide +kernel
theorem dX12_rests_181 : decode cX12_rests 181 = .ok (.aload_n 0, 1) := by decide +kernel
theorem dX12_rests_182 : decode cX12_rests 182 = .ok (.getfield 1, 3) := by decide +kernel
theorem dX12_rests_185 : decode cX12_rests 185 = .ok (.ifCond .le 7, 3) := by decide +kernel
theorem dX12_rests_188 : decode cX12_rests 188 = .ok (.iconst 0, 1) := by decide +kernel
theorem dX12_rests_189 : decode cX12_rests 189 = .ok (.goto 14, 3) := by decide +kernel
theorem dX12_rests_192 : decode cX12_rests 192 = .ok (.iload_n 3, 1) := by decide +kernel
theorem dX12_rests_193 : decode cX12_rests 193 = .ok (.ifCond .ge 8, 3) := by decide +kernel
theorem dX12_rests_196 : decode cX12_rests 196 = .ok (.iload 5, 2) := by decide +kernel
theorem dX12_rests_198 : decode cX12_rests 198 = .ok (.goto 5, 3) := by decide +kernel
theorem dX12_rests_201 : decode cX12_rests 201 = .ok (.iload 6, 2) := by decide +kernel
theorem dX12_rests_203 : decode cX12_rests 203 = .ok (.ireturn, 1) := by decide +kernel
theorem dX12_draw_0 : decode cX12_draw 0 = .ok (.aload_n 0, 1) := by decide +kernel
theorem dX12_draw_1 : decode cX12_draw 1 = .ok (.aload_n 0, 1) := by decide +kernel
theorem dX12_draw_2 : decode cX12_draw 2 = .ok (.getfield 447, 3) := by decide +kernel
theorem dX12_draw_5 : decode cX12_draw 5 = .ok (.ldc2_w 451, 3) := by decide +kernel
theorem dX12_draw_8 : decode cX12_draw 8 = .ok (.lmul, 1) := by decide +kernel
theorem dX12_draw_9 : decode cX12_draw 9 = .ok (.ldc2_w 453, 3) := by decide +kernel
theorem dX12_draw_12 : decode cX12_draw 12 = .ok (.ladd, 1) := by decide +kernel
theorem dX12_draw_13 : decode cX12_draw 13 = .ok (.ldc2_w 455, 3) := by decide +kernel
theorem dX12_draw_16 : decode cX12_draw 16 = .ok (.lrem, 1) := by decide +kernel
theorem dX12_draw_17 : decode cX12_draw 17 = .ok (.putfield 447, 3) := by decide +kernel
theorem dX12_draw_20 : decode cX12_draw 20 = .ok (.aload_n 0, 1) := by decide +kernel
theorem dX12_draw_21 : decode cX12_draw 21 = .ok (.getfield 447, 3) := by decide +kernel
theorem dX12_draw_24 : decode cX12_draw 24 = .ok (.ldc2_w 457, 3) := by decide +kernel
theorem dX12_draw_27 : decode cX12_draw 27 = .ok (.ldiv, 1) := by decide +kernel
theorem dX12_draw_28 : decode cX12_draw 28 = .ok (.iload_n 1, 1) := by decide +kernel
theorem dX12_draw_29 : decode cX12_draw 29 = .ok (.i2l, 1) := by decide +kernel
theorem dX12_draw_30 : decode cX12_draw 30 = .ok (.lrem, 1) := by decide +kernel
theorem dX12_draw_31 : decode cX12_draw 31 = .ok (.l2i, 1) := by decide +kernel
theorem dX12_draw_32 : decode cX12_draw 32 = .ok (.ireturn, 1) := by decide +kernel
theorem dX12_drawsDeed_0 : decode cX12_drawsDeed 0 = .ok (.aload_n 0, 1) := by decide +kernel
theorem dX12_drawsDeed_1 : decode cX12_drawsDeed 1 = .ok (.aload_n 0, 1) := by decide +kernel
theorem dX12_drawsDeed_2 : decode cX12_drawsDeed 2 = .ok (.invokevirtual 273, 3) := by decide +kernel
theorem dX12_drawsDeed_5 : decode cX12_drawsDeed 5 = .ok (.invokevirtual 459, 3) := by decide +kernel
theorem dX12_drawsDeed_8 : decode cX12_drawsDeed 8 = .ok (.istore_n 1, 1) := by decide +kernel
theorem dX12_drawsDeed_9 : decode cX12_drawsDeed 9 = .ok (.aload_n 0, 1) := by decide +kernel
theorem dX12_drawsDeed_10 : decode cX12_drawsDeed 10 = .ok (.iconst 3, 1) := by decide +kernel
theorem dX12_drawsDeed_11 : decode cX12_drawsDeed 11 = .ok (.invokevirtual 459, 3) := by decide +kernel
theorem dX12_drawsDeed_14 : decode cX12_drawsDeed 14 = .ok (.istore_n 2, 1) := by decide +kernel
theorem dX12_drawsDeed_15 : decode cX12_drawsDeed 15 = .ok (.iload_n 2, 1) := by decide +kernel
theorem dX12_drawsDeed_16 : decode cX12_drawsDeed 16 = .ok (.ifCond .ne 26, 3) := by decide +kernel
theorem dX12_drawsDeed_19 : decode cX12_drawsDeed 19 = .ok (.aload_n 0, 1) := by decide +kernel
theorem dX12_drawsDeed_20 : decode cX12_drawsDeed 20 = .ok (.sipush 1386, 3) := by decide +kernel
theorem dX12_drawsDeed_23 : decode cX12_drawsDeed 23 = .ok (.iload_n 1, 1) := by decide +kernel
theorem dX12_drawsDeed_24 : decode cX12_drawsDeed 24 = .ok (.invokevirtual 368, 3) := by decide +kernel
theorem dX12_drawsDeed_27 : decode cX12_drawsDeed 27 = .ok (.ifCond .eq 15, 3) := by decide +kernel
theorem dX12_drawsDeed_30 : decode cX12_drawsDeed 30 = .ok (.aload_n 0, 1) := by decide +kernel
theorem dX12_drawsDeed_31 : decode cX12_drawsDeed 31 = .ok (.sipush 1386, 3) := by decide +kernel
theorem dX12_drawsDeed_34 : decode cX12_drawsDeed 34 = .ok (.iload_n 1, 1) := by decide +kernel
theorem dX12_drawsDeed_35 : decode cX12_drawsDeed 35 = .ok (.invokevirtual 374, 3) := by decide +kernel
theorem dX12_drawsDeed_38 : decode cX12_drawsDeed 38 = .ok (.pop, 1) := by decide +kernel
theorem dX12_drawsDeed_39 : decode cX12_drawsDeed 39 = .ok (.goto 58, 3) := by decide +kernel
theorem dX12_drawsDeed_42 : decode cX12_drawsDeed 42 = .ok (.iload_n 2, 1) := by decide +kernel
theorem dX12_drawsDeed_43 : decode cX12_drawsDeed 43 = .ok (.iconst 1, 1) := by decide +kernel
theorem dX12_drawsDeed_44 : decode cX12_drawsDeed 44 = .ok (.if_icmp .ne 28, 3) := by decide +kernel
theorem dX12_drawsDeed_47 : decode cX12_drawsDeed 47 = .ok (.aload_n 0, 1) := by decide +kernel
theorem dX12_drawsDeed_48 : decode cX12_drawsDeed 48 = .ok (.sipush 1386, 3) := by decide +kernel
theorem dX12_drawsDeed_51 : decode cX12_drawsDeed 51 = .ok (.iload_n 1, 1) := by decide +kernel
theorem dX12_drawsDeed_52 : decode cX12_drawsDeed 52 = .ok (.iconst 1, 1) := by decide +kernel
theorem dX12_drawsDeed_53 : decode cX12_drawsDeed 53 = .ok (.invokevirtual 377, 3) := by decide +kernel
theorem dX12_drawsDeed_56 : decode cX12_drawsDeed 56 = .ok (.ifCond .eq 16, 3) := by decide +kernel
theorem dX12_drawsDeed_59 : decode cX12_drawsDeed 59 = .ok (.aload_n 0, 1) := by decide +kernel
theorem dX12_drawsDeed_60 : decode cX12_drawsDeed 60 = .ok (.sipush 1386, 3) := by decide +kernel
theorem dX12_drawsDeed_63 : decode cX12_drawsDeed 63 = .ok (.iload_n 1, 1) := by decide +kernel
theorem dX12_drawsDeed_64 : decode cX12_drawsDeed 64 = .ok (.iconst 1, 1) := by decide +kernel
theorem dX12_drawsDeed_65 : decode cX12_drawsDeed 65 = .ok (.invokevirtual 380, 3) := by decide +kernel
theorem dX12_drawsDeed_68 : decode cX12_drawsDeed 68 = .ok (.pop, 1) := by decide +kernel
theorem dX12_drawsDeed_69 : decode cX12_drawsDeed 69 = .ok (.goto 28, 3) := by decide +kernel
theorem dX12_drawsDeed_72 : decode cX12_drawsDeed 72 = .ok (.iload_n 2, 1) := by decide +kernel
theorem dX12_drawsDeed_73 : decode cX12_drawsDeed 73 = .ok (.iconst 2, 1) := by decide +kernel
theorem dX12_drawsDeed_74 : decode cX12_drawsDeed 74 = .ok (.if_icmp .ne 23, 3) := by decide +kernel
theorem dX12_drawsDeed_77 : decode cX12_drawsDeed 77 = .ok (.aload_n 0, 1) := by decide +kernel
theorem dX12_drawsDeed_78 : decode cX12_drawsDeed 78 = .ok (.sipush 1386, 3) := by decide +kernel
theorem dX12_drawsDeed_81 : decode cX12_drawsDeed 81 = .ok (.iload_n 1, 1) := by decide +kernel
theorem dX12_drawsDeed_82 : decode cX12_drawsDeed 82 = .ok (.invokevirtual 319, 3) := by decide +kernel
theorem dX12_drawsDeed_85 : decode cX12_drawsDeed 85 = .ok (.ifCond .eq 12, 3) := by decide +kernel
theorem dX12_drawsDeed_88 : decode cX12_drawsDeed 88 = .ok (.aload_n 0, 1) := by decide +kernel
theorem dX12_drawsDeed_89 : decode cX12_drawsDeed 89 = .ok (.sipush 1386, 3) := by decide +kernel
theorem dX12_drawsDeed_92 : decode cX12_drawsDeed 92 = .ok (.iload_n 1, 1) := by decide +kernel
theorem dX12_drawsDeed_93 : decode cX12_drawsDeed 93 = .ok (.invokevirtual 383, 3) := by decide +kernel
theorem dX12_drawsDeed_96 : decode cX12_drawsDeed 96 = .ok (.pop, 1) := by decide +kernel
theorem dX12_drawsDeed_97 : decode cX12_drawsDeed 97 = .ok (.return_, 1) := by decide +kernel
theorem dX12_years_0 : decode cX12_years 0 = .ok (.aload_n 0, 1) := by decide +kernel
theorem dX12_years_1 : decode cX12_years 1 = .ok (.iconst 0, 1) := by decide +kernel
theorem dX12_years_2 : decode cX12_years 2 = .ok (.putfield 1, 3) := by decide +kernel
theorem dX12_years_5 : decode cX12_years 5 = .ok (.iload_n 1, 1) := by decide +kernel
theorem dX12_years_6 : decode cX12_years 6 = .ok (.iconst 0, 1) := by decide +kernel
theorem dX12_years_7 : decode cX12_years 7 = .ok (.sipush 9999, 3) := by decide +kernel
theorem dX12_years_10 : decode cX12_years 10 = .ok (.invokestatic 362, 3) := by decide +kernel
theorem dX12_years_13 : decode cX12_years 13 = .ok (.ifCond .eq 22, 3) := by decide +kernel
theorem dX12_years_16 : decode cX12_years 16 = .ok (.iload_n 2, 1) := by decide +kernel
theorem dX12_years_17 : decode cX12_years 17 = .ok (.iconst 1, 1) := by decide +kernel
theorem dX12_years_18 : decode cX12_years 18 = .ok (.bipush 100, 2) := by decide +kernel
theorem dX12_years_20 : decode cX12_years 20 = .ok (.invokestatic 362, 3) := by decide +kernel
theorem dX12_years_23 : decode cX12_years 23 = .ok (.ifCond .eq 12, 3) := by decide +kernel
theorem dX12_years_26 : decode cX12_years 26 = .ok (.iload_n 3, 1) := by decide +kernel
theorem dX12_years_27 : decode cX12_years 27 = .ok (.iconst 0, 1) := by decide +kernel
theorem dX12_years_28 : decode cX12_years 28 = .ok (.iconst 2, 1) := by decide +kernel
theorem dX12_years_29 : decode cX12_years 29 = .ok (.invokestatic 362, 3) := by decide +kernel
theorem dX12_years_32 : decode cX12_years 32 = .ok (.ifCond .ne 5, 3) := by decide +kernel
theorem dX12_years_35 : decode cX12_years 35 = .ok (.iconst (-1), 1) := by decide +kernel
theorem dX12_years_36 : decode cX12_years 36 = .ok (.ireturn, 1) := by decide +kernel
theorem dX12_years_37 : decode cX12_years 37 = .ok (.aload_n 0, 1) := by decide +kernel
theorem dX12_years_38 : decode cX12_years 38 = .ok (.iconst 0, 1) := by decide +kernel
theorem dX12_years_39 : decode cX12_years 39 = .ok (.sipush 1386, 3) := by decide +kernel
theorem dX12_years_42 : decode cX12_years 42 = .ok (.bipush 38, 2) := by decide +kernel
theorem dX12_years_44 : decode cX12_years 44 = .ok (.invokevirtual 309, 3) := by decide +kernel
theorem dX12_years_47 : decode cX12_years 47 = .ok (.aload_n 0, 1) := by decide +kernel
theorem dX12_years_48 : decode cX12_years 48 = .ok (.iload_n 1, 1) := by decide +kernel
theorem dX12_years_49 : decode cX12_years 49 = .ok (.i2l, 1) := by decide +kernel
theorem dX12_years_50 : decode cX12_years 50 = .ok (.putfield 447, 3) := by decide +kernel
theorem dX12_years_53 : decode cX12_years 53 = .ok (.iconst 0, 1) := by decide +kernel
theorem dX12_years_54 : decode cX12_years 54 = .ok (.istore 4, 2) := by decide +kernel
theorem dX12_years_56 : decode cX12_years 56 = .ok (.iconst 0, 1) := by decide +kernel
theorem dX12_years_57 : decode cX12_years 57 = .ok (.istore 5, 2) := by decide +kernel
theorem dX12_years_59 : decode cX12_years 59 = .ok (.iload 5, 2) := by decide +kernel
theorem dX12_years_61 : decode cX12_years 61 = .ok (.iload_n 2, 1) := by decide +kernel
theorem dX12_years_62 : decode cX12_years 62 = .ok (.if_icmp .ge 32, 3) := by decide +kernel
theorem dX12_years_65 : decode cX12_years 65 = .ok (.aload_n 0, 1) := by decide +kernel
theorem dX12_years_66 : decode cX12_years 66 = .ok (.invokevirtual 273, 3) := by decide +kernel
theorem dX12_years_69 : decode cX12_years 69 = .ok (.ifCond .le 7, 3) := by decide +kernel
theorem dX12_years_72 : decode cX12_years 72 = .ok (.aload_n 0, 1) := by decide +kernel
theorem dX12_years_73 : decode cX12_years 73 = .ok (.invokevirtual 462, 3) := by decide +kernel
theorem dX12_years_76 : decode cX12_years 76 = .ok (.iload 4, 2) := by decide +kernel
theorem dX12_years_78 : decode cX12_years 78 = .ok (.aload_n 0, 1) := by decide +kernel
theorem dX12_years_79 : decode cX12_years 79 = .ok (.sipush 1386, 3) := by decide +kernel
theorem dX12_years_82 : decode cX12_years 82 = .ok (.invokevirtual 386, 3) := by decide +kernel
theorem dX12_years_85 : decode cX12_years 85 = .ok (.iadd, 1) := by decide +kernel
theorem dX12_years_86 : decode cX12_years 86 = .ok (.istore 4, 2) := by decide +kernel
theorem dX12_years_88 : decode cX12_years 88 = .ok (.iinc 5 1, 3) := by decide +kernel
theorem dX12_years_91 : decode cX12_years 91 = .ok (.goto (-32), 3) := by decide +kernel
theorem dX12_years_94 : decode cX12_years 94 = .ok (.iconst 0, 1) := by decide +kernel
theorem dX12_years_95 : decode cX12_years 95 = .ok (.istore 5, 2) := by decide +kernel
theorem dX12_years_97 : decode cX12_years 97 = .ok (.iconst 0, 1) := by decide +kernel
theorem dX12_years_98 : decode cX12_years 98 = .ok (.istore 6, 2) := by decide +kernel
theorem dX12_years_100 : decode cX12_years 100 = .ok (.iload 6, 2) := by decide +kernel
theorem dX12_years_102 : decode cX12_years 102 = .ok (.aload_n 0, 1) := by decide +kernel
theorem dX12_years_103 : decode cX12_years 103 = .ok (.invokevirtual 294, 3) := by decide +kernel
theorem dX12_years_106 : decode cX12_years 106 = .ok (.if_icmp .ge 25, 3) := by decide +kernel
theorem dX12_years_109 : decode cX12_years 109 = .ok (.iload 5, 2) := by decide +kernel
theorem dX12_years_111 : decode cX12_years 111 = .ok (.aload_n 0, 1) := by decide +kernel
theorem dX12_years_112 : decode cX12_years 112 = .ok (.getfield 113, 3) := by decide +kernel
theorem dX12_years_115 : decode cX12_years 115 = .ok (.sipush 1388, 3) := by decide +kernel
theorem dX12_years_118 : decode cX12_years 118 = .ok (.iload 6, 2) := by decide +kernel
theorem dX12_years_120 : decode cX12_years 120 = .ok (.iadd, 1) := by decide +kernel
theorem dX12_years_121 : decode cX12_years 121 = .ok (.iaload, 1) := by decide +kernel
theorem dX12_years_122 : decode cX12_years 122 = .ok (.iadd, 1) := by decide +kernel
theorem dX12_years_123 : decode cX12_years 123 = .ok (.istore 5, 2) := by decide +kernel
theorem dX12_years_125 : decode cX12_years 125 = .ok (.iinc 6 1, 3) := by decide +kernel
theorem dX12_years_128 : decode cX12_years 128 = .ok (.goto (-28), 3) := by decide +kernel
theorem dX12_years_131 : decode cX12_years 131 = .ok (.iload_n 3, 1) := by decide +kernel
theorem dX12_years_132 : decode cX12_years 132 = .ok (.ifCond .ne 8, 3) := by decide +kernel
theorem dX12_years_135 : decode cX12_years 135 = .ok (.iload 4, 2) := by decide +kernel
theorem dX12_years_137 : decode cX12_years 137 = .ok (.goto 20, 3) := by decide +kernel
theorem dX12_years_140 : decode cX12_years 140 = .ok (.iload_n 3, 1) := by decide +kernel
theorem dX12_years_141 : decode cX12_years 141 = .ok (.iconst 1, 1) := by decide +kernel
theorem dX12_years_142 : decode cX12_years 142 = .ok (.if_icmp .ne 13, 3) := by decide +kernel
theorem dX12_years_145 : decode cX12_years 145 = .ok (.aload_n 0, 1) := by decide +kernel
theorem dX12_years_146 : decode cX12_years 146 = .ok (.sipush 1386, 3) := by decide +kernel
theorem dX12_years_149 : decode cX12_years 149 = .ok (.invokevirtual 392, 3) := by decide +kernel
theorem dX12_years_152 : decode cX12_years 152 = .ok (.goto 5, 3) := by decide +kernel
theorem dX12_years_155 : decode cX12_years 155 = .ok (.iload 5, 2) := by decide +kernel
theorem dX12_years_157 : decode cX12_years 157 = .ok (.ireturn, 1) := by decide +kernel
theorem dX12_mark_0 : decode cX12_mark 0 = .ok (.aload_n 0, 1) := by decide +kernel
theorem dX12_mark_1 : decode cX12_mark 1 = .ok (.iconst 0, 1) := by decide +kernel
theorem dX12_mark_2 : decode cX12_mark 2 = .ok (.putfield 1, 3) := by decide +kernel
theorem dX12_mark_5 : decode cX12_mark 5 = .ok (.iload_n 1, 1) := by decide +kernel
theorem dX12_mark_6 : decode cX12_mark 6 = .ok (.iconst 0, 1) := by decide +kernel
theorem dX12_mark_7 : decode cX12_mark 7 = .ok (.iconst 3, 1) := by decide +kernel
theorem dX12_mark_8 : decode cX12_mark 8 = .ok (.invokestatic 362, 3) := by decide +kernel
theorem dX12_mark_11 : decode cX12_mark 11 = .ok (.ifCond .eq 16, 3) := by decide +kernel
theorem dX12_mark_14 : decode cX12_mark 14 = .ok (.iload_n 2, 1) := by decide +kernel
theorem dX12_mark_15 : decode cX12_mark 15 = .ok (.ifCond .eq 14, 3) := by decide +kernel
theorem dX12_mark_18 : decode cX12_mark 18 = .ok (.aload_n 0, 1) := by decide +kernel
theorem dX12_mark_19 : decode cX12_mark 19 = .ok (.getfield 116, 3) := by decide +kernel
theorem dX12_mark_22 : decode cX12_mark 22 = .ok (.iload_n 1, 1) := by decide +kernel
theorem dX12_mark_23 : decode cX12_mark 23 = .ok (.baload, 1) := by decide +kernel
theorem dX12_mark_24 : decode cX12_mark 24 = .ok (.ifCond .ne 5, 3) := by decide +kernel
theorem dX12_mark_27 : decode cX12_mark 27 = .ok (.iconst 0, 1) := by decide +kernel
theorem dX12_mark_28 : decode cX12_mark 28 = .ok (.ireturn, 1) := by decide +kernel
theorem dX12_mark_29 : decode cX12_mark 29 = .ok (.aload_n 0, 1) := by decide +kernel
theorem dX12_mark_30 : decode cX12_mark 30 = .ok (.getfield 116, 3) := by decide +kernel
theorem dX12_mark_33 : decode cX12_mark 33 = .ok (.iload_n 1, 1) := by decide +kernel
theorem dX12_mark_34 : decode cX12_mark 34 = .ok (.iconst 1, 1) := by decide +kernel
theorem dX12_mark_35 : decode cX12_mark 35 = .ok (.bastore, 1) := by decide +kernel
theorem dX12_mark_36 : decode cX12_mark 36 = .ok (.aload_n 0, 1) := by decide +kernel
theorem dX12_mark_37 : decode cX12_mark 37 = .ok (.iload_n 2, 1) := by decide +kernel
theorem dX12_mark_38 : decode cX12_mark 38 = .ok (.ifCond .eq 12, 3) := by decide +kernel
theorem dX12_mark_41 : decode cX12_mark 41 = .ok (.bipush 63, 2) := by decide +kernel
theorem dX12_mark_43 : decode cX12_mark 43 = .ok (.iconst 1, 1) := by decide +kernel
theorem dX12_mark_44 : decode cX12_mark 44 = .ok (.iload_n 1, 1) := by decide +kernel
theorem dX12_mark_45 : decode cX12_mark 45 = .ok (.iadd, 1) := by decide +kernel
theorem dX12_mark_46 : decode cX12_mark 46 = .ok (.imul, 1) := by decide +kernel
theorem dX12_mark_47 : decode cX12_mark 47 = .ok (.goto 4, 3) := by decide +kernel
theorem dX12_mark_50 : decode cX12_mark 50 = .ok (.iconst 0, 1) := by decide +kernel
theorem dX12_mark_51 : decode cX12_mark 51 = .ok (.iload_n 2, 1) := by decide +kernel
theorem dX12_mark_52 : decode cX12_mark 52 = .ok (.ifCond .eq 7, 3) := by decide +kernel
theorem dX12_mark_55 : decode cX12_mark 55 = .ok (.iconst 0, 1) := by decide +kernel
theorem dX12_mark_56 : decode cX12_mark 56 = .ok (.goto 9, 3) := by decide +kernel
theorem dX12_mark_59 : decode cX12_mark 59 = .ok (.bipush 63, 2) := by decide +kernel
theorem dX12_mark_61 : decode cX12_mark 61 = .ok (.iconst 1, 1) := by decide +kernel
theorem dX12_mark_62 : decode cX12_mark 62 = .ok (.iload_n 1, 1) := by decide +kernel
theorem dX12_mark_63 : decode cX12_mark 63 = .ok (.iadd, 1) := by decide +kernel
theorem dX12_mark_64 : decode cX12_mark 64 = .ok (.imul, 1) := by decide +kernel
theorem dX12_mark_65 : decode cX12_mark 65 = .ok (.bipush 63, 2) := by decide +kernel
theorem dX12_mark_67 : decode cX12_mark 67 = .ok (.invokevirtual 309, 3) := by decide +kernel
theorem dX12_mark_70 : decode cX12_mark 70 = .ok (.aload_n 0, 1) := by decide +kernel
theorem dX12_mark_71 : decode cX12_mark 71 = .ok (.iload_n 2, 1) := by decide +kernel
theorem dX12_mark_72 : decode cX12_mark 72 = .ok (.ifCond .eq 7, 3) := by decide +kernel
theorem dX12_mark_75 : decode cX12_mark 75 = .ok (.iconst 0, 1) := by decide +kernel
theorem dX12_mark_76 : decode cX12_mark 76 = .ok (.goto 7, 3) := by decide +kernel
theorem dX12_mark_79 : decode cX12_mark 79 = .ok (.aload_n 0, 1) := by decide +kernel
theorem dX12_mark_80 : decode cX12_mark 80 = .ok (.getfield 306, 3) := by decide +kernel
theorem dX12_mark_83 : decode cX12_mark 83 = .ok (.putfield 306, 3) := by decide +kernel
theorem dX12_mark_86 : decode cX12_mark 86 = .ok (.iconst 1, 1) := by decide +kernel
theorem dX12_mark_87 : decode cX12_mark 87 = .ok (.ireturn, 1) := by decide +kernel
theorem dX12_overSet_0 : decode cX12_overSet 0 = .ok (.iconst 0, 1) := by decide +kernel
theorem dX12_overSet_1 : decode cX12_overSet 1 = .ok (.istore_n 1, 1) := by decide +kernel
theorem dX12_overSet_2 : decode cX12_overSet 2 = .ok (.iconst 0, 1) := by decide +kernel
theorem dX12_overSet_3 : decode cX12_overSet 3 = .ok (.istore_n 2, 1) := by decide +kernel
theorem dX12_overSet_4 : decode cX12_overSet 4 = .ok (.iload_n 2, 1) := by decide +kernel
theorem dX12_overSet_5 : decode cX12_overSet 5 = .ok (.aload_n 0, 1) := by decide +kernel
theorem dX12_overSet_6 : decode cX12_overSet 6 = .ok (.invokevirtual 273, 3) := by decide +kernel
theorem dX12_overSet_9 : decode cX12_overSet 9 = .ok (.if_icmp .ge 32, 3) := by decide +kernel
theorem dX12_overSet_12 : decode cX12_overSet 12 = .ok (.iload_n 1, 1) := by decide +kernel
theorem dX12_overSet_13 : decode cX12_overSet 13 = .ok (.aload_n 0, 1) := by decide +kernel
theorem dX12_overSet_14 : decode cX12_overSet 14 = .ok (.getfield 113, 3) := by decide +kernel
theorem dX12_overSet_17 : decode cX12_overSet 17 = .ok (.bipush 22, 2) := by decide +kernel
theorem dX12_overSet_19 : decode cX12_overSet 19 = .ok (.iload_n 2, 1) := by decide +kernel
theorem dX12_overSet_20 : decode cX12_overSet 20 = .ok (.iadd, 1) := by decide +kernel
theorem dX12_overSet_21 : decode cX12_overSet 21 = .ok (.iaload, 1) := by decide +kernel
theorem dX12_overSet_22 : decode cX12_overSet 22 = .ok (.iconst 1, 1) := by decide +kernel
theorem dX12_overSet_23 : decode cX12_overSet 23 = .ok (.if_icmp .ne 9, 3) := by decide +kernel
theorem dX12_overSet_26 : decode cX12_overSet 26 = .ok (.iconst 1, 1) := by decide +kernel
theorem dX12_overSet_27 : decode cX12_overSet 27 = .ok (.iload_n 2, 1) := by decide +kernel
theorem dX12_overSet_28 : decode cX12_overSet 28 = .ok (.ishl, 1) := by decide +kernel
theorem dX12_overSet_29 : decode cX12_overSet 29 = .ok (.goto 4, 3) := by decide +kernel
theorem dX12_overSet_32 : decode cX12_overSet 32 = .ok (.iconst 0, 1) := by decide +kernel
theorem dX12_overSet_33 : decode cX12_overSet 33 = .ok (.ior, 1) := by decide +kernel
theorem dX12_overSet_34 : decode cX12_overSet 34 = .ok (.istore_n 1, 1) := by decide +kernel
theorem dX12_overSet_35 : decode cX12_overSet 35 = .ok (.iinc 2 1, 3) := by decide +kernel
theorem dX12_overSet_38 : decode cX12_overSet 38 = .ok (.goto (-34), 3) := by decide +kernel
theorem dX12_overSet_41 : decode cX12_overSet 41 = .ok (.iload_n 1, 1) := by decide +kernel
theorem dX12_overSet_42 : decode cX12_overSet 42 = .ok (.ireturn, 1) := by decide +kernel
theorem dX12_coinsOf_0 : decode cX12_coinsOf 0 = .ok (.iconst 0, 1) := by decide +kernel
theorem dX12_coinsOf_1 : decode cX12_coinsOf 1 = .ok (.istore_n 1, 1) := by decide +kernel
theorem dX12_coinsOf_2 : decode cX12_coinsOf 2 = .ok (.iconst 0, 1) := by decide +kernel
theorem dX12_coinsOf_3 : decode cX12_coinsOf 3 = .ok (.istore_n 2, 1) := by decide +kernel
theorem dX12_coinsOf_4 : decode cX12_coinsOf 4 = .ok (.iload_n 2, 1) := by decide +kernel
theorem dX12_coinsOf_5 : decode cX12_coinsOf 5 = .ok (.aload_n 0, 1) := by decide +kernel
theorem dX12_coinsOf_6 : decode cX12_coinsOf 6 = .ok (.invokevirtual 294, 3) := by decide +kernel
theorem dX12_coinsOf_9 : decode cX12_coinsOf 9 = .ok (.if_icmp .ge 21, 3) := by decide +kernel
theorem dX12_coinsOf_12 : decode cX12_coinsOf 12 = .ok (.iload_n 1, 1) := by decide +kernel
theorem dX12_coinsOf_13 : decode cX12_coinsOf 13 = .ok (.aload_n 0, 1) := by decide +kernel
theorem dX12_coinsOf_14 : decode cX12_coinsOf 14 = .ok (.getfield 113, 3) := by decide +kernel
theorem dX12_coinsOf_17 : decode cX12_coinsOf 17 = .ok (.bipush 8, 2) := by decide +kernel
theorem dX12_coinsOf_19 : decode cX12_coinsOf 19 = .ok (.iload_n 2, 1) := by decide +kernel
theorem dX12_coinsOf_20 : decode cX12_coinsOf 20 = .ok (.iadd, 1) := by decide +kernel
theorem dX12_coinsOf_21 : decode cX12_coinsOf 21 = .ok (.iaload, 1) := by decide +kernel
theorem dX12_coinsOf_22 : decode cX12_coinsOf 22 = .ok (.iadd, 1) := by decide +kernel
theorem dX12_coinsOf_23 : decode cX12_coinsOf 23 = .ok (.istore_n 1, 1) := by decide +kernel
theorem dX12_coinsOf_24 : decode cX12_coinsOf 24 = .ok (.iinc 2 1, 3) := by decide +kernel
theorem dX12_coinsOf_27 : decode cX12_coinsOf 27 = .ok (.goto (-23), 3) := by decide +kernel
theorem dX12_coinsOf_30 : decode cX12_coinsOf 30 = .ok (.iload_n 1, 1) := by decide +kernel
theorem dX12_coinsOf_31 : decode cX12_coinsOf 31 = .ok (.ireturn, 1) := by decide +kernel
theorem dX12_count_0 : decode cX12_count 0 = .ok (.aload_n 0, 1) := by decide +kernel
theorem dX12_count_1 : decode cX12_count 1 = .ok (.iconst 0, 1) := by decide +kernel
theorem dX12_count_2 : decode cX12_count 2 = .ok (.putfield 1, 3) := by decide +kernel
theorem dX12_count_5 : decode cX12_count 5 = .ok (.iload_n 1, 1) := by decide +kernel
theorem dX12_count_6 : decode cX12_count 6 = .ok (.tableswitch 118 0 11 #[62, 62, 62, 62, 69, 76, 81, 88, 93, 100, 108, 113], 62) := by decide +kernel
theorem dX12_count_68 : decode cX12_count 68 = .ok (.aload_n 0, 1) := by decide +kernel
theorem dX12_count_69 : decode cX12_count 69 = .ok (.getfield 89, 3) := by decide +kernel
theorem dX12_count_72 : decode cX12_count 72 = .ok (.iload_n 1, 1) := by decide +kernel
theorem dX12_count_73 : decode cX12_count 73 = .ok (.iaload, 1) := by decide +kernel
theorem dX12_count_74 : decode cX12_count 74 = .ok (.ireturn, 1) := by decide +kernel
theorem dX12_count_75 : decode cX12_count 75 = .ok (.aload_n 0, 1) := by decide +kernel
theorem dX12_count_76 : decode cX12_count 76 = .ok (.getfield 113, 3) := by decide +kernel
theorem dX12_count_79 : decode cX12_count 79 = .ok (.iconst 0, 1) := by decide +kernel
theorem dX12_count_80 : decode cX12_count 80 = .ok (.iaload, 1) := by decide +kernel
theorem dX12_count_81 : decode cX12_count 81 = .ok (.ireturn, 1) := by decide +kernel
theorem dX12_count_82 : decode cX12_count 82 = .ok (.aload_n 0, 1) := by decide +kernel
theorem dX12_count_83 : decode cX12_count 83 = .ok (.invokevirtual 465, 3) := by decide +kernel
theorem dX12_count_86 : decode cX12_count 86 = .ok (.ireturn, 1) := by decide +kernel
theorem dX12_count_87 : decode cX12_count 87 = .ok (.aload_n 0, 1) := by decide +kernel
theorem dX12_count_88 : decode cX12_count 88 = .ok (.getfield 113, 3) := by decide +kernel
theorem dX12_count_91 : decode cX12_count 91 = .ok (.iconst 1, 1) := by decide +kernel
theorem dX12_count_92 : decode cX12_count 92 = .ok (.iaload, 1) := by decide +kernel
theorem dX12_count_93 : decode cX12_count 93 = .ok (.ireturn, 1) := by decide +kernel
theorem dX12_count_94 : decode cX12_count 94 = .ok (.aload_n 0, 1) := by decide +kernel
theorem dX12_count_95 : decode cX12_count 95 = .ok (.invokevirtual 468, 3) := by decide +kernel
theorem dX12_count_98 : decode cX12_count 98 = .ok (.ireturn, 1) := by decide +kernel
theorem dX12_count_99 : decode cX12_count 99 = .ok (.aload_n 0, 1) := by decide +kernel
theorem dX12_count_100 : decode cX12_count 100 = .ok (.getfield 104, 3) := by decide +kernel
theorem dX12_count_103 : decode cX12_count 103 = .ok (.iconst 0, 1) := by decide +kernel
theorem dX12_count_104 : decode cX12_count 104 = .ok (.iaload, 1) := by decide +kernel
theorem dX12_count_105 : decode cX12_count 105 = .ok (.ireturn, 1) := by decide +kernel
theorem dX12_count_106 : decode cX12_count 106 = .ok (.aload_n 0, 1) := by decide +kernel
theorem dX12_count_107 : decode cX12_count 107 = .ok (.getfield 113, 3) := by decide +kernel
theorem dX12_count_110 : decode cX12_count 110 = .ok (.bipush 38, 2) := by decide +kernel
theorem dX12_count_112 : decode cX12_count 112 = .ok (.iaload, 1) := by decide +kernel
theorem dX12_count_113 : decode cX12_count 113 = .ok (.ireturn, 1) := by decide +kernel
theorem dX12_count_114 : decode cX12_count 114 = .ok (.aload_n 0, 1) := by decide +kernel
theorem dX12_count_115 : decode cX12_count 115 = .ok (.getfield 306, 3) := by decide +kernel
theorem dX12_count_118 : decode cX12_count 118 = .ok (.ireturn, 1) := by decide +kernel
theorem dX12_count_119 : decode cX12_count 119 = .ok (.aload_n 0, 1) := by decide +kernel
theorem dX12_count_120 : decode cX12_count 120 = .ok (.getfield 11, 3) := by decide +kernel
theorem dX12_count_123 : decode cX12_count 123 = .ok (.ireturn, 1) := by decide +kernel
theorem dX12_count_124 : decode cX12_count 124 = .ok (.iconst (-1), 1) := by decide +kernel
theorem dX12_count_125 : decode cX12_count 125 = .ok (.ireturn, 1) := by decide +kernel
theorem dJ11_isValidCodePoint_9a6ad_0 : decode cJ11_isValidCodePoint_9a6ad 0 = .ok (.iload_n 0, 1) := by decide +kernel
theorem dJ11_isValidCodePoint_9a6ad_1 : decode cJ11_isValidCodePoint_9a6ad 1 = .ok (.bipush 16, 2) := by decide +kernel
theorem dJ11_isValidCodePoint_9a6ad_3 : decode cJ11_isValidCodePoint_9a6ad 3 = .ok (.iushr, 1) := by decide +kernel
theorem dJ11_isValidCodePoint_9a6ad_4 : decode cJ11_isValidCodePoint_9a6ad 4 = .ok (.istore_n 1, 1) := by decide +kernel
theorem dJ11_isValidCodePoint_9a6ad_5 : decode cJ11_isValidCodePoint_9a6ad 5 = .ok (.iload_n 1, 1) := by decide +kernel
theorem dJ11_isValidCodePoint_9a6ad_6 : decode cJ11_isValidCodePoint_9a6ad 6 = .ok (.bipush 17, 2) := by decide +kernel
theorem dJ11_isValidCodePoint_9a6ad_8 : decode cJ11_isValidCodePoint_9a6ad 8 = .ok (.if_icmp .ge 7, 3) := by decide +kernel
theorem dJ11_isValidCodePoint_9a6ad_11 : decode cJ11_isValidCodePoint_9a6ad 11 = .ok (.iconst 1, 1) := by decide +kernel
theorem dJ11_isValidCodePoint_9a6ad_12 : decode cJ11_isValidCodePoint_9a6ad 12 = .ok (.goto 4, 3) := by decide +kernel
theorem dJ11_isValidCodePoint_9a6ad_15 : decode cJ11_isValidCodePoint_9a6ad 15 = .ok (.iconst 0, 1) := by decide +kernel
theorem dJ11_isValidCodePoint_9a6ad_16 : decode cJ11_isValidCodePoint_9a6ad 16 = .ok (.ireturn, 1) := by decide +kernel
theorem dJ11_highSurrogate_5068e_0 : decode cJ11_highSurrogate_5068e 0 = .ok (.iload_n 0, 1) := by decide +kernel
theorem dJ11_highSurrogate_5068e_1 : decode cJ11_highSurrogate_5068e 1 = .ok (.bipush 10, 2) := by decide +kernel
theorem dJ11_highSurrogate_5068e_3 : decode cJ11_highSurrogate_5068e 3 = .ok (.iushr, 1) := by decide +kernel
theorem dJ11_highSurrogate_5068e_4 : decode cJ11_highSurrogate_5068e 4 = .ok (.ldc 110, 2) := by decide +kernel
theorem dJ11_highSurrogate_5068e_6 : decode cJ11_highSurrogate_5068e 6 = .ok (.iadd, 1) := by decide +kernel
theorem dJ11_highSurrogate_5068e_7 : decode cJ11_highSurrogate_5068e 7 = .ok (.i2c, 1) := by decide +kernel
theorem dJ11_highSurrogate_5068e_8 : decode cJ11_highSurrogate_5068e 8 = .ok (.ireturn, 1) := by decide +kernel
theorem dJ11_lowSurrogate_5068e_0 : decode cJ11_lowSurrogate_5068e 0 = .ok (.iload_n 0, 1) := by decide +kernel
theorem dJ11_lowSurrogate_5068e_1 : decode cJ11_lowSurrogate_5068e 1 = .ok (.sipush 1023, 3) := by decide +kernel
theorem dJ11_lowSurrogate_5068e_4 : decode cJ11_lowSurrogate_5068e 4 = .ok (.iand, 1) := by decide +kernel
theorem dJ11_lowSurrogate_5068e_5 : decode cJ11_lowSurrogate_5068e 5 = .ok (.ldc 76, 2) := by decide +kernel
theorem dJ11_lowSurrogate_5068e_7 : decode cJ11_lowSurrogate_5068e 7 = .ok (.iadd, 1) := by decide +kernel
theorem dJ11_lowSurrogate_5068e_8 : decode cJ11_lowSurrogate_5068e 8 = .ok (.i2c, 1) := by decide +kernel
theorem dJ11_lowSurrogate_5068e_9 : decode cJ11_lowSurrogate_5068e 9 = .ok (.ireturn, 1) := by decide +kernel
theorem dJ6_bitCount_0f7a4_0 : decode cJ6_bitCount_0f7a4 0 = .ok (.iload_n 0, 1) := by decide +kernel
theorem dJ6_bitCount_0f7a4_1 : decode cJ6_bitCount_0f7a4 1 = .ok (.iload_n 0, 1) := by decide +kernel
theorem dJ6_bitCount_0f7a4_2 : decode cJ6_bitCount_0f7a4 2 = .ok (.iconst 1, 1) := by decide +kernel
theorem dJ6_bitCount_0f7a4_3 : decode cJ6_bitCount_0f7a4 3 = .ok (.iushr, 1) := by decide +kernel
theorem dJ6_bitCount_0f7a4_4 : decode cJ6_bitCount_0f7a4 4 = .ok (.ldc_w 265, 3) := by decide +kernel
theorem dJ6_bitCount_0f7a4_7 : decode cJ6_bitCount_0f7a4 7 = .ok (.iand, 1) := by decide +kernel
theorem dJ6_bitCount_0f7a4_8 : decode cJ6_bitCount_0f7a4 8 = .ok (.isub, 1) := by decide +kernel
theorem dJ6_bitCount_0f7a4_9 : decode cJ6_bitCount_0f7a4 9 = .ok (.istore_n 0, 1) := by decide +kernel
theorem dJ6_bitCount_0f7a4_10 : decode cJ6_bitCount_0f7a4 10 = .ok (.iload_n 0, 1) := by decide +kernel
theorem dJ6_bitCount_0f7a4_11 : decode cJ6_bitCount_0f7a4 11 = .ok (.ldc_w 266, 3) := by decide +kernel
theorem dJ6_bitCount_0f7a4_14 : decode cJ6_bitCount_0f7a4 14 = .ok (.iand, 1) := by decide +kernel
theorem dJ6_bitCount_0f7a4_15 : decode cJ6_bitCount_0f7a4 15 = .ok (.iload_n 0, 1) := by decide +kernel
theorem dJ6_bitCount_0f7a4_16 : decode cJ6_bitCount_0f7a4 16 = .ok (.iconst 2, 1) := by decide +kernel
theorem dJ6_bitCount_0f7a4_17 : decode cJ6_bitCount_0f7a4 17 = .ok (.iushr, 1) := by decide +kernel
theorem dJ6_bitCount_0f7a4_18 : decode cJ6_bitCount_0f7a4 18 = .ok (.ldc_w 266, 3) := by decide +kernel
theorem dJ6_bitCount_0f7a4_21 : decode cJ6_bitCount_0f7a4 21 = .ok (.iand, 1) := by decide +kernel
theorem dJ6_bitCount_0f7a4_22 : decode cJ6_bitCount_0f7a4 22 = .ok (.iadd, 1) := by decide +kernel
theorem dJ6_bitCount_0f7a4_23 : decode cJ6_bitCount_0f7a4 23 = .ok (.istore_n 0, 1) := by decide +kernel
theorem dJ6_bitCount_0f7a4_24 : decode cJ6_bitCount_0f7a4 24 = .ok (.iload_n 0, 1) := by decide +kernel
theorem dJ6_bitCount_0f7a4_25 : decode cJ6_bitCount_0f7a4 25 = .ok (.iload_n 0, 1) := by decide +kernel
theorem dJ6_bitCount_0f7a4_26 : decode cJ6_bitCount_0f7a4 26 = .ok (.iconst 4, 1) := by decide +kernel
theorem dJ6_bitCount_0f7a4_27 : decode cJ6_bitCount_0f7a4 27 = .ok (.iushr, 1) := by decide +kernel
theorem dJ6_bitCount_0f7a4_28 : decode cJ6_bitCount_0f7a4 28 = .ok (.iadd, 1) := by decide +kernel
theorem dJ6_bitCount_0f7a4_29 : decode cJ6_bitCount_0f7a4 29 = .ok (.ldc_w 267, 3) := by decide +kernel
theorem dJ6_bitCount_0f7a4_32 : decode cJ6_bitCount_0f7a4 32 = .ok (.iand, 1) := by decide +kernel
theorem dJ6_bitCount_0f7a4_33 : decode cJ6_bitCount_0f7a4 33 = .ok (.istore_n 0, 1) := by decide +kernel
theorem dJ6_bitCount_0f7a4_34 : decode cJ6_bitCount_0f7a4 34 = .ok (.iload_n 0, 1) := by decide +kernel
theorem dJ6_bitCount_0f7a4_35 : decode cJ6_bitCount_0f7a4 35 = .ok (.iload_n 0, 1) := by decide +kernel
theorem dJ6_bitCount_0f7a4_36 : decode cJ6_bitCount_0f7a4 36 = .ok (.bipush 8, 2) := by decide +kernel
theorem dJ6_bitCount_0f7a4_38 : decode cJ6_bitCount_0f7a4 38 = .ok (.iushr, 1) := by decide +kernel
theorem dJ6_bitCount_0f7a4_39 : decode cJ6_bitCount_0f7a4 39 = .ok (.iadd, 1) := by decide +kernel
theorem dJ6_bitCount_0f7a4_40 : decode cJ6_bitCount_0f7a4 40 = .ok (.istore_n 0, 1) := by decide +kernel
theorem dJ6_bitCount_0f7a4_41 : decode cJ6_bitCount_0f7a4 41 = .ok (.iload_n 0, 1) := by decide +kernel
theorem dJ6_bitCount_0f7a4_42 : decode cJ6_bitCount_0f7a4 42 = .ok (.iload_n 0, 1) := by decide +kernel
theorem dJ6_bitCount_0f7a4_43 : decode cJ6_bitCount_0f7a4 43 = .ok (.bipush 16, 2) := by decide +kernel
theorem dJ6_bitCount_0f7a4_45 : decode cJ6_bitCount_0f7a4 45 = .ok (.iushr, 1) := by decide +kernel
theorem dJ6_bitCount_0f7a4_46 : decode cJ6_bitCount_0f7a4 46 = .ok (.iadd, 1) := by decide +kernel
theorem dJ6_bitCount_0f7a4_47 : decode cJ6_bitCount_0f7a4 47 = .ok (.istore_n 0, 1) := by decide +kernel
theorem dJ6_bitCount_0f7a4_48 : decode cJ6_bitCount_0f7a4 48 = .ok (.iload_n 0, 1) := by decide +kernel
theorem dJ6_bitCount_0f7a4_49 : decode cJ6_bitCount_0f7a4 49 = .ok (.bipush 63, 2) := by decide +kernel
theorem dJ6_bitCount_0f7a4_51 : decode cJ6_bitCount_0f7a4 51 = .ok (.iand, 1) := by decide +kernel
theorem dJ6_bitCount_0f7a4_52 : decode cJ6_bitCount_0f7a4 52 = .ok (.ireturn, 1) := by decide +kernel
theorem dJ9_max_7cf53_0 : decode cJ9_max_7cf53 0 = .ok (.iload_n 0, 1) := by decide +kernel
theorem dJ9_max_7cf53_1 : decode cJ9_max_7cf53 1 = .ok (.iload_n 1, 1) := by decide +kernel
theorem dJ9_max_7cf53_2 : decode cJ9_max_7cf53 2 = .ok (.if_icmp .lt 7, 3) := by decide +kernel
theorem dJ9_max_7cf53_5 : decode cJ9_max_7cf53 5 = .ok (.iload_n 0, 1) := by decide +kernel
theorem dJ9_max_7cf53_6 : decode cJ9_max_7cf53 6 = .ok (.goto 4, 3) := by decide +kernel
theorem dJ9_max_7cf53_9 : decode cJ9_max_7cf53 9 = .ok (.iload_n 1, 1) := by decide +kernel
theorem dJ9_max_7cf53_10 : decode cJ9_max_7cf53 10 = .ok (.ireturn, 1) := by decide +kernel
theorem dJ9_min_7cf53_0 : decode cJ9_min_7cf53 0 = .ok (.iload_n 0, 1) := by decide +kernel
theorem dJ9_min_7cf53_1 : decode cJ9_min_7cf53 1 = .ok (.iload_n 1, 1) := by decide +kernel
theorem dJ9_min_7cf53_2 : decode cJ9_min_7cf53 2 = .ok (.if_icmp .gt 7, 3) := by decide +kernel
theorem dJ9_min_7cf53_5 : decode cJ9_min_7cf53 5 = .ok (.iload_n 0, 1) := by decide +kernel
theorem dJ9_min_7cf53_6 : decode cJ9_min_7cf53 6 = .ok (.goto 4, 3) := by decide +kernel
theorem dJ9_min_7cf53_9 : decode cJ9_min_7cf53 9 = .ok (.iload_n 1, 1) := by decide +kernel
