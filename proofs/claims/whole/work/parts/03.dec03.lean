theorem dX12_readWalk_21 : decode cX12_readWalk 21 = .ok (.getfield 180, 3) := by decide +kernel
theorem dX12_readWalk_24 : decode cX12_readWalk 24 = .ok (.iconst 1, 1) := by decide +kernel
theorem dX12_readWalk_25 : decode cX12_readWalk 25 = .ok (.iadd, 1) := by decide +kernel
theorem dX12_readWalk_26 : decode cX12_readWalk 26 = .ok (.putfield 180, 3) := by decide +kernel
theorem dX12_readWalk_29 : decode cX12_readWalk 29 = .ok (.sipush 181, 3) := by decide +kernel
theorem dX12_readWalk_32 : decode cX12_readWalk 32 = .ok (.iconst 2, 1) := by decide +kernel
theorem dX12_readWalk_33 : decode cX12_readWalk 33 = .ok (.iload_n 1, 1) := by decide +kernel
theorem dX12_readWalk_34 : decode cX12_readWalk 34 = .ok (.imul, 1) := by decide +kernel
theorem dX12_readWalk_35 : decode cX12_readWalk 35 = .ok (.iadd, 1) := by decide +kernel
theorem dX12_readWalk_36 : decode cX12_readWalk 36 = .ok (.istore_n 2, 1) := by decide +kernel
theorem dX12_readWalk_37 : decode cX12_readWalk 37 = .ok (.aload_n 0, 1) := by decide +kernel
theorem dX12_readWalk_38 : decode cX12_readWalk 38 = .ok (.getfield 89, 3) := by decide +kernel
theorem dX12_readWalk_41 : decode cX12_readWalk 41 = .ok (.iload_n 2, 1) := by decide +kernel
theorem dX12_readWalk_42 : decode cX12_readWalk 42 = .ok (.aload_n 0, 1) := by decide +kernel
theorem dX12_readWalk_43 : decode cX12_readWalk 43 = .ok (.invokevirtual 259, 3) := by decide +kernel
theorem dX12_readWalk_46 : decode cX12_readWalk 46 = .ok (.iastore, 1) := by decide +kernel
theorem dX12_readWalk_47 : decode cX12_readWalk 47 = .ok (.aload_n 0, 1) := by decide +kernel
theorem dX12_readWalk_48 : decode cX12_readWalk 48 = .ok (.iconst 4, 1) := by decide +kernel
theorem dX12_readWalk_49 : decode cX12_readWalk 49 = .ok (.invokevirtual 198, 3) := by decide +kernel
theorem dX12_readWalk_52 : decode cX12_readWalk 52 = .ok (.aload_n 0, 1) := by decide +kernel
theorem dX12_readWalk_53 : decode cX12_readWalk 53 = .ok (.getfield 89, 3) := by decide +kernel
theorem dX12_readWalk_56 : decode cX12_readWalk 56 = .ok (.iload_n 2, 1) := by decide +kernel
theorem dX12_readWalk_57 : decode cX12_readWalk 57 = .ok (.iconst 1, 1) := by decide +kernel
theorem dX12_readWalk_58 : decode cX12_readWalk 58 = .ok (.iadd, 1) := by decide +kernel
theorem dX12_readWalk_59 : decode cX12_readWalk 59 = .ok (.aload_n 0, 1) := by decide +kernel
theorem dX12_readWalk_60 : decode cX12_readWalk 60 = .ok (.aload_n 0, 1) := by decide +kernel
theorem dX12_readWalk_61 : decode cX12_readWalk 61 = .ok (.getfield 89, 3) := by decide +kernel
theorem dX12_readWalk_64 : decode cX12_readWalk 64 = .ok (.iload_n 2, 1) := by decide +kernel
theorem dX12_readWalk_65 : decode cX12_readWalk 65 = .ok (.iaload, 1) := by decide +kernel
theorem dX12_readWalk_66 : decode cX12_readWalk 66 = .ok (.iconst 0, 1) := by decide +kernel
theorem dX12_readWalk_67 : decode cX12_readWalk 67 = .ok (.invokevirtual 262, 3) := by decide +kernel
theorem dX12_readWalk_70 : decode cX12_readWalk 70 = .ok (.iastore, 1) := by decide +kernel
theorem dX12_readWalk_71 : decode cX12_readWalk 71 = .ok (.aload_n 0, 1) := by decide +kernel
theorem dX12_readWalk_72 : decode cX12_readWalk 72 = .ok (.getfield 89, 3) := by decide +kernel
theorem dX12_readWalk_75 : decode cX12_readWalk 75 = .ok (.bipush 103, 2) := by decide +kernel
theorem dX12_readWalk_77 : decode cX12_readWalk 77 = .ok (.dup2, 1) := by decide +kernel
theorem dX12_readWalk_78 : decode cX12_readWalk 78 = .ok (.iaload, 1) := by decide +kernel
theorem dX12_readWalk_79 : decode cX12_readWalk 79 = .ok (.iconst 1, 1) := by decide +kernel
theorem dX12_readWalk_80 : decode cX12_readWalk 80 = .ok (.iadd, 1) := by decide +kernel
theorem dX12_readWalk_81 : decode cX12_readWalk 81 = .ok (.iastore, 1) := by decide +kernel
theorem dX12_readWalk_82 : decode cX12_readWalk 82 = .ok (.return_, 1) := by decide +kernel
theorem dX12_readOnce_0 : decode cX12_readOnce 0 = .ok (.aload_n 0, 1) := by decide +kernel
theorem dX12_readOnce_1 : decode cX12_readOnce 1 = .ok (.bipush 7, 2) := by decide +kernel
theorem dX12_readOnce_3 : decode cX12_readOnce 3 = .ok (.iconst 5, 1) := by decide +kernel
theorem dX12_readOnce_4 : decode cX12_readOnce 4 = .ok (.invokevirtual 205, 3) := by decide +kernel
theorem dX12_readOnce_7 : decode cX12_readOnce 7 = .ok (.istore_n 1, 1) := by decide +kernel
theorem dX12_readOnce_8 : decode cX12_readOnce 8 = .ok (.iload_n 1, 1) := by decide +kernel
theorem dX12_readOnce_9 : decode cX12_readOnce 9 = .ok (.ifCond .ge 11, 3) := by decide +kernel
theorem dX12_readOnce_12 : decode cX12_readOnce 12 = .ok (.aload_n 0, 1) := by decide +kernel
theorem dX12_readOnce_13 : decode cX12_readOnce 13 = .ok (.iconst 1, 1) := by decide +kernel
theorem dX12_readOnce_14 : decode cX12_readOnce 14 = .ok (.invokevirtual 189, 3) := by decide +kernel
theorem dX12_readOnce_17 : decode cX12_readOnce 17 = .ok (.goto 20, 3) := by decide +kernel
theorem dX12_readOnce_20 : decode cX12_readOnce 20 = .ok (.aload_n 0, 1) := by decide +kernel
theorem dX12_readOnce_21 : decode cX12_readOnce 21 = .ok (.getfield 228, 3) := by decide +kernel
theorem dX12_readOnce_24 : decode cX12_readOnce 24 = .ok (.iload_n 1, 1) := by decide +kernel
theorem dX12_readOnce_25 : decode cX12_readOnce 25 = .ok (.ishr, 1) := by decide +kernel
theorem dX12_readOnce_26 : decode cX12_readOnce 26 = .ok (.iconst 1, 1) := by decide +kernel
theorem dX12_readOnce_27 : decode cX12_readOnce 27 = .ok (.iand, 1) := by decide +kernel
theorem dX12_readOnce_28 : decode cX12_readOnce 28 = .ok (.iconst 1, 1) := by decide +kernel
theorem dX12_readOnce_29 : decode cX12_readOnce 29 = .ok (.if_icmp .ne 8, 3) := by decide +kernel
theorem dX12_readOnce_32 : decode cX12_readOnce 32 = .ok (.aload_n 0, 1) := by decide +kernel
theorem dX12_readOnce_33 : decode cX12_readOnce 33 = .ok (.iconst 3, 1) := by decide +kernel
theorem dX12_readOnce_34 : decode cX12_readOnce 34 = .ok (.invokevirtual 189, 3) := by decide +kernel
theorem dX12_readOnce_37 : decode cX12_readOnce 37 = .ok (.aload_n 0, 1) := by decide +kernel
theorem dX12_readOnce_38 : decode cX12_readOnce 38 = .ok (.getfield 183, 3) := by decide +kernel
theorem dX12_readOnce_41 : decode cX12_readOnce 41 = .ok (.ifCond .le 4, 3) := by decide +kernel
theorem dX12_readOnce_44 : decode cX12_readOnce 44 = .ok (.return_, 1) := by decide +kernel
theorem dX12_readOnce_45 : decode cX12_readOnce 45 = .ok (.aload_n 0, 1) := by decide +kernel
theorem dX12_readOnce_46 : decode cX12_readOnce 46 = .ok (.dup, 1) := by decide +kernel
theorem dX12_readOnce_47 : decode cX12_readOnce 47 = .ok (.getfield 228, 3) := by decide +kernel
theorem dX12_readOnce_50 : decode cX12_readOnce 50 = .ok (.iconst 1, 1) := by decide +kernel
theorem dX12_readOnce_51 : decode cX12_readOnce 51 = .ok (.iload_n 1, 1) := by decide +kernel
theorem dX12_readOnce_52 : decode cX12_readOnce 52 = .ok (.ishl, 1) := by decide +kernel
theorem dX12_readOnce_53 : decode cX12_readOnce 53 = .ok (.ior, 1) := by decide +kernel
theorem dX12_readOnce_54 : decode cX12_readOnce 54 = .ok (.putfield 228, 3) := by decide +kernel
theorem dX12_readOnce_57 : decode cX12_readOnce 57 = .ok (.aload_n 0, 1) := by decide +kernel
theorem dX12_readOnce_58 : decode cX12_readOnce 58 = .ok (.dup, 1) := by decide +kernel
theorem dX12_readOnce_59 : decode cX12_readOnce 59 = .ok (.getfield 180, 3) := by decide +kernel
theorem dX12_readOnce_62 : decode cX12_readOnce 62 = .ok (.iconst 1, 1) := by decide +kernel
theorem dX12_readOnce_63 : decode cX12_readOnce 63 = .ok (.iadd, 1) := by decide +kernel
theorem dX12_readOnce_64 : decode cX12_readOnce 64 = .ok (.putfield 180, 3) := by decide +kernel
theorem dX12_readOnce_67 : decode cX12_readOnce 67 = .ok (.iload_n 1, 1) := by decide +kernel
theorem dX12_readOnce_68 : decode cX12_readOnce 68 = .ok (.iconst 2, 1) := by decide +kernel
theorem dX12_readOnce_69 : decode cX12_readOnce 69 = .ok (.if_icmp .ge 31, 3) := by decide +kernel
theorem dX12_readOnce_72 : decode cX12_readOnce 72 = .ok (.aload_n 0, 1) := by decide +kernel
theorem dX12_readOnce_73 : decode cX12_readOnce 73 = .ok (.getfield 89, 3) := by decide +kernel
theorem dX12_readOnce_76 : decode cX12_readOnce 76 = .ok (.bipush 104, 2) := by decide +kernel
theorem dX12_readOnce_78 : decode cX12_readOnce 78 = .ok (.iload_n 1, 1) := by decide +kernel
theorem dX12_readOnce_79 : decode cX12_readOnce 79 = .ok (.iadd, 1) := by decide +kernel
theorem dX12_readOnce_80 : decode cX12_readOnce 80 = .ok (.aload_n 0, 1) := by decide +kernel
theorem dX12_readOnce_81 : decode cX12_readOnce 81 = .ok (.iconst 0, 1) := by decide +kernel
theorem dX12_readOnce_82 : decode cX12_readOnce 82 = .ok (.iload_n 1, 1) := by decide +kernel
theorem dX12_readOnce_83 : decode cX12_readOnce 83 = .ok (.ifCond .ne 8, 3) := by decide +kernel
theorem dX12_readOnce_86 : decode cX12_readOnce 86 = .ok (.bipush 30, 2) := by decide +kernel
theorem dX12_readOnce_88 : decode cX12_readOnce 88 = .ok (.goto 5, 3) := by decide +kernel
theorem dX12_readOnce_91 : decode cX12_readOnce 91 = .ok (.bipush 10, 2) := by decide +kernel
theorem dX12_readOnce_93 : decode cX12_readOnce 93 = .ok (.invokevirtual 201, 3) := by decide +kernel
theorem dX12_readOnce_96 : decode cX12_readOnce 96 = .ok (.iastore, 1) := by decide +kernel
theorem dX12_readOnce_97 : decode cX12_readOnce 97 = .ok (.goto 29, 3) := by decide +kernel
theorem dX12_readOnce_100 : decode cX12_readOnce 100 = .ok (.aload_n 0, 1) := by decide +kernel
theorem dX12_readOnce_101 : decode cX12_readOnce 101 = .ok (.getfield 89, 3) := by decide +kernel
theorem dX12_readOnce_104 : decode cX12_readOnce 104 = .ok (.bipush 106, 2) := by decide +kernel
theorem dX12_readOnce_106 : decode cX12_readOnce 106 = .ok (.iload_n 1, 1) := by decide +kernel
theorem dX12_readOnce_107 : decode cX12_readOnce 107 = .ok (.iadd, 1) := by decide +kernel
theorem dX12_readOnce_108 : decode cX12_readOnce 108 = .ok (.iconst 2, 1) := by decide +kernel
theorem dX12_readOnce_109 : decode cX12_readOnce 109 = .ok (.isub, 1) := by decide +kernel
theorem dX12_readOnce_110 : decode cX12_readOnce 110 = .ok (.aload_n 0, 1) := by decide +kernel
theorem dX12_readOnce_111 : decode cX12_readOnce 111 = .ok (.getfield 225, 3) := by decide +kernel
theorem dX12_readOnce_114 : decode cX12_readOnce 114 = .ok (.iastore, 1) := by decide +kernel
theorem dX12_readOnce_115 : decode cX12_readOnce 115 = .ok (.aload_n 0, 1) := by decide +kernel
theorem dX12_readOnce_116 : decode cX12_readOnce 116 = .ok (.iconst 0, 1) := by decide +kernel
theorem dX12_readOnce_117 : decode cX12_readOnce 117 = .ok (.invokevirtual 266, 3) := by decide +kernel
theorem dX12_readOnce_120 : decode cX12_readOnce 120 = .ok (.aload_n 0, 1) := by decide +kernel
theorem dX12_readOnce_121 : decode cX12_readOnce 121 = .ok (.iconst 0, 1) := by decide +kernel
theorem dX12_readOnce_122 : decode cX12_readOnce 122 = .ok (.iconst 0, 1) := by decide +kernel
theorem dX12_readOnce_123 : decode cX12_readOnce 123 = .ok (.invokevirtual 269, 3) := by decide +kernel
theorem dX12_readOnce_126 : decode cX12_readOnce 126 = .ok (.return_, 1) := by decide +kernel
theorem dX12_year_0 : decode cX12_year 0 = .ok (.aload_n 0, 1) := by decide +kernel
theorem dX12_year_1 : decode cX12_year 1 = .ok (.iconst 0, 1) := by decide +kernel
theorem dX12_year_2 : decode cX12_year 2 = .ok (.putfield 1, 3) := by decide +kernel
theorem dX12_year_5 : decode cX12_year 5 = .ok (.aload_n 0, 1) := by decide +kernel
theorem dX12_year_6 : decode cX12_year 6 = .ok (.invokevirtual 222, 3) := by decide +kernel
theorem dX12_year_9 : decode cX12_year 9 = .ok (.iconst 0, 1) := by decide +kernel
theorem dX12_year_10 : decode cX12_year 10 = .ok (.istore_n 1, 1) := by decide +kernel
theorem dX12_year_11 : decode cX12_year 11 = .ok (.aload_n 0, 1) := by decide +kernel
theorem dX12_year_12 : decode cX12_year 12 = .ok (.getfield 183, 3) := by decide +kernel
theorem dX12_year_15 : decode cX12_year 15 = .ok (.ifCond .ne 141, 3) := by decide +kernel
theorem dX12_year_18 : decode cX12_year 18 = .ok (.aload_n 0, 1) := by decide +kernel
theorem dX12_year_19 : decode cX12_year 19 = .ok (.getfield 24, 3) := by decide +kernel
theorem dX12_year_22 : decode cX12_year 22 = .ok (.aload_n 0, 1) := by decide +kernel
theorem dX12_year_23 : decode cX12_year 23 = .ok (.getfield 180, 3) := by decide +kernel
theorem dX12_year_26 : decode cX12_year 26 = .ok (.iaload, 1) := by decide +kernel
theorem dX12_year_27 : decode cX12_year 27 = .ok (.ifCond .eq 129, 3) := by decide +kernel
theorem dX12_year_30 : decode cX12_year 30 = .ok (.aload_n 0, 1) := by decide +kernel
theorem dX12_year_31 : decode cX12_year 31 = .ok (.bipush 12, 2) := by decide +kernel
theorem dX12_year_33 : decode cX12_year 33 = .ok (.iconst 4, 1) := by decide +kernel
theorem dX12_year_34 : decode cX12_year 34 = .ok (.invokevirtual 205, 3) := by decide +kernel
theorem dX12_year_37 : decode cX12_year 37 = .ok (.istore_n 2, 1) := by decide +kernel
theorem dX12_year_38 : decode cX12_year 38 = .ok (.iload_n 2, 1) := by decide +kernel
theorem dX12_year_39 : decode cX12_year 39 = .ok (.ifCond .ge 11, 3) := by decide +kernel
theorem dX12_year_42 : decode cX12_year 42 = .ok (.aload_n 0, 1) := by decide +kernel
theorem dX12_year_43 : decode cX12_year 43 = .ok (.iconst 1, 1) := by decide +kernel
theorem dX12_year_44 : decode cX12_year 44 = .ok (.invokevirtual 189, 3) := by decide +kernel
theorem dX12_year_47 : decode cX12_year 47 = .ok (.goto 100, 3) := by decide +kernel
theorem dX12_year_50 : decode cX12_year 50 = .ok (.iload_n 1, 1) := by decide +kernel
theorem dX12_year_51 : decode cX12_year 51 = .ok (.bipush 30, 2) := by decide +kernel
theorem dX12_year_53 : decode cX12_year 53 = .ok (.if_icmp .ne 11, 3) := by decide +kernel
theorem dX12_year_56 : decode cX12_year 56 = .ok (.aload_n 0, 1) := by decide +kernel
theorem dX12_year_57 : decode cX12_year 57 = .ok (.iconst 5, 1) := by decide +kernel
theorem dX12_year_58 : decode cX12_year 58 = .ok (.invokevirtual 189, 3) := by decide +kernel
theorem dX12_year_61 : decode cX12_year 61 = .ok (.goto 86, 3) := by decide +kernel
theorem dX12_year_64 : decode cX12_year 64 = .ok (.aload_n 0, 1) := by decide +kernel
theorem dX12_year_65 : decode cX12_year 65 = .ok (.dup, 1) := by decide +kernel
theorem dX12_year_66 : decode cX12_year 66 = .ok (.getfield 180, 3) := by decide +kernel
theorem dX12_year_69 : decode cX12_year 69 = .ok (.iconst 1, 1) := by decide +kernel
theorem dX12_year_70 : decode cX12_year 70 = .ok (.iadd, 1) := by decide +kernel
theorem dX12_year_71 : decode cX12_year 71 = .ok (.putfield 180, 3) := by decide +kernel
theorem dX12_year_74 : decode cX12_year 74 = .ok (.aload_n 0, 1) := by decide +kernel
theorem dX12_year_75 : decode cX12_year 75 = .ok (.getfield 104, 3) := by decide +kernel
theorem dX12_year_78 : decode cX12_year 78 = .ok (.bipush 100, 2) := by decide +kernel
theorem dX12_year_80 : decode cX12_year 80 = .ok (.iconst 3, 1) := by decide +kernel
theorem dX12_year_81 : decode cX12_year 81 = .ok (.iload_n 1, 1) := by decide +kernel
theorem dX12_year_82 : decode cX12_year 82 = .ok (.imul, 1) := by decide +kernel
theorem dX12_year_83 : decode cX12_year 83 = .ok (.iadd, 1) := by decide +kernel
theorem dX12_year_84 : decode cX12_year 84 = .ok (.iload_n 2, 1) := by decide +kernel
theorem dX12_year_85 : decode cX12_year 85 = .ok (.iastore, 1) := by decide +kernel
theorem dX12_year_86 : decode cX12_year 86 = .ok (.aload_n 0, 1) := by decide +kernel
theorem dX12_year_87 : decode cX12_year 87 = .ok (.getfield 104, 3) := by decide +kernel
theorem dX12_year_90 : decode cX12_year 90 = .ok (.bipush 101, 2) := by decide +kernel
theorem dX12_year_92 : decode cX12_year 92 = .ok (.iconst 3, 1) := by decide +kernel
theorem dX12_year_93 : decode cX12_year 93 = .ok (.iload_n 1, 1) := by decide +kernel
theorem dX12_year_94 : decode cX12_year 94 = .ok (.imul, 1) := by decide +kernel
theorem dX12_year_95 : decode cX12_year 95 = .ok (.iadd, 1) := by decide +kernel
theorem dX12_year_96 : decode cX12_year 96 = .ok (.iload_n 2, 1) := by decide +kernel
theorem dX12_year_97 : decode cX12_year 97 = .ok (.iconst 3, 1) := by decide +kernel
theorem dX12_year_98 : decode cX12_year 98 = .ok (.if_icmp .ge 17, 3) := by decide +kernel
theorem dX12_year_101 : decode cX12_year 101 = .ok (.aload_n 0, 1) := by decide +kernel
theorem dX12_year_102 : decode cX12_year 102 = .ok (.iconst 0, 1) := by decide +kernel
theorem dX12_year_103 : decode cX12_year 103 = .ok (.aload_n 0, 1) := by decide +kernel
theorem dX12_year_104 : decode cX12_year 104 = .ok (.invokevirtual 273, 3) := by decide +kernel
theorem dX12_year_107 : decode cX12_year 107 = .ok (.iconst 1, 1) := by decide +kernel
theorem dX12_year_108 : decode cX12_year 108 = .ok (.isub, 1) := by decide +kernel
theorem dX12_year_109 : decode cX12_year 109 = .ok (.invokevirtual 201, 3) := by decide +kernel
theorem dX12_year_112 : decode cX12_year 112 = .ok (.goto 4, 3) := by decide +kernel
theorem dX12_year_115 : decode cX12_year 115 = .ok (.iconst 0, 1) := by decide +kernel
theorem dX12_year_116 : decode cX12_year 116 = .ok (.iastore, 1) := by decide +kernel
theorem dX12_year_117 : decode cX12_year 117 = .ok (.aload_n 0, 1) := by decide +kernel
theorem dX12_year_118 : decode cX12_year 118 = .ok (.getfield 104, 3) := by decide +kernel
theorem dX12_year_121 : decode cX12_year 121 = .ok (.bipush 102, 2) := by decide +kernel
theorem dX12_year_123 : decode cX12_year 123 = .ok (.iconst 3, 1) := by decide +kernel
theorem dX12_year_124 : decode cX12_year 124 = .ok (.iload_n 1, 1) := by decide +kernel
theorem dX12_year_125 : decode cX12_year 125 = .ok (.imul, 1) := by decide +kernel
theorem dX12_year_126 : decode cX12_year 126 = .ok (.iadd, 1) := by decide +kernel
theorem dX12_year_127 : decode cX12_year 127 = .ok (.iload_n 2, 1) := by decide +kernel
theorem dX12_year_128 : decode cX12_year 128 = .ok (.iconst 1, 1) := by decide +kernel
theorem dX12_year_129 : decode cX12_year 129 = .ok (.if_icmp .ne 13, 3) := by decide +kernel
theorem dX12_year_132 : decode cX12_year 132 = .ok (.aload_n 0, 1) := by decide +kernel
theorem dX12_year_133 : decode cX12_year 133 = .ok (.iconst 1, 1) := by decide +kernel
theorem dX12_year_134 : decode cX12_year 134 = .ok (.bipush 99, 2) := by decide +kernel
theorem dX12_year_136 : decode cX12_year 136 = .ok (.invokevirtual 201, 3) := by decide +kernel
theorem dX12_year_139 : decode cX12_year 139 = .ok (.goto 4, 3) := by decide +kernel
theorem dX12_year_142 : decode cX12_year 142 = .ok (.iconst 0, 1) := by decide +kernel
theorem dX12_year_143 : decode cX12_year 143 = .ok (.iastore, 1) := by decide +kernel
theorem dX12_year_144 : decode cX12_year 144 = .ok (.iinc 1 1, 3) := by decide +kernel
theorem dX12_year_147 : decode cX12_year 147 = .ok (.aload_n 0, 1) := by decide +kernel
theorem dX12_year_148 : decode cX12_year 148 = .ok (.bipush 59, 2) := by decide +kernel
theorem dX12_year_150 : decode cX12_year 150 = .ok (.invokevirtual 234, 3) := by decide +kernel
theorem dX12_year_153 : decode cX12_year 153 = .ok (.goto (-142), 3) := by decide +kernel
theorem dX12_year_156 : decode cX12_year 156 = .ok (.aload_n 0, 1) := by decide +kernel
theorem dX12_year_157 : decode cX12_year 157 = .ok (.getfield 183, 3) := by decide +kernel
theorem dX12_year_160 : decode cX12_year 160 = .ok (.ifCond .le 8, 3) := by decide +kernel
theorem dX12_year_163 : decode cX12_year 163 = .ok (.aload_n 0, 1) := by decide +kernel
theorem dX12_year_164 : decode cX12_year 164 = .ok (.getfield 183, 3) := by decide +kernel
theorem dX12_year_167 : decode cX12_year 167 = .ok (.ireturn, 1) := by decide +kernel
theorem dX12_year_168 : decode cX12_year 168 = .ok (.aload_n 0, 1) := by decide +kernel
theorem dX12_year_169 : decode cX12_year 169 = .ok (.getfield 104, 3) := by decide +kernel
theorem dX12_year_172 : decode cX12_year 172 = .ok (.iconst 0, 1) := by decide +kernel
theorem dX12_year_173 : decode cX12_year 173 = .ok (.iload_n 1, 1) := by decide +kernel
theorem dX12_year_174 : decode cX12_year 174 = .ok (.iastore, 1) := by decide +kernel
theorem dX12_year_175 : decode cX12_year 175 = .ok (.iconst 0, 1) := by decide +kernel
theorem dX12_year_176 : decode cX12_year 176 = .ok (.istore_n 2, 1) := by decide +kernel
theorem dX12_year_177 : decode cX12_year 177 = .ok (.iload_n 2, 1) := by decide +kernel
theorem dX12_year_178 : decode cX12_year 178 = .ok (.iconst 3, 1) := by decide +kernel
theorem dX12_year_179 : decode cX12_year 179 = .ok (.iload_n 1, 1) := by decide +kernel
theorem dX12_year_180 : decode cX12_year 180 = .ok (.imul, 1) := by decide +kernel
theorem dX12_year_181 : decode cX12_year 181 = .ok (.if_icmp .ge 26, 3) := by decide +kernel
theorem dX12_year_184 : decode cX12_year 184 = .ok (.aload_n 0, 1) := by decide +kernel
theorem dX12_year_185 : decode cX12_year 185 = .ok (.getfield 104, 3) := by decide +kernel
theorem dX12_year_188 : decode cX12_year 188 = .ok (.iconst 1, 1) := by decide +kernel
theorem dX12_year_189 : decode cX12_year 189 = .ok (.iload_n 2, 1) := by decide +kernel
theorem dX12_year_190 : decode cX12_year 190 = .ok (.iadd, 1) := by decide +kernel
theorem dX12_year_191 : decode cX12_year 191 = .ok (.aload_n 0, 1) := by decide +kernel
theorem dX12_year_192 : decode cX12_year 192 = .ok (.getfield 104, 3) := by decide +kernel
theorem dX12_year_195 : decode cX12_year 195 = .ok (.bipush 100, 2) := by decide +kernel
theorem dX12_year_197 : decode cX12_year 197 = .ok (.iload_n 2, 1) := by decide +kernel
theorem dX12_year_198 : decode cX12_year 198 = .ok (.iadd, 1) := by decide +kernel
theorem dX12_year_199 : decode cX12_year 199 = .ok (.iaload, 1) := by decide +kernel
theorem dX12_year_200 : decode cX12_year 200 = .ok (.iastore, 1) := by decide +kernel
theorem dX12_year_201 : decode cX12_year 201 = .ok (.iinc 2 1, 3) := by decide +kernel
theorem dX12_year_204 : decode cX12_year 204 = .ok (.goto (-27), 3) := by decide +kernel
theorem dX12_year_207 : decode cX12_year 207 = .ok (.iconst 0, 1) := by decide +kernel
theorem dX12_year_208 : decode cX12_year 208 = .ok (.ireturn, 1) := by decide +kernel
theorem dX12_emit_0 : decode cX12_emit 0 = .ok (.aload_n 0, 1) := by decide +kernel
theorem dX12_emit_1 : decode cX12_emit 1 = .ok (.getfield 92, 3) := by decide +kernel
theorem dX12_emit_4 : decode cX12_emit 4 = .ok (.sipush 1100, 3) := by decide +kernel
theorem dX12_emit_7 : decode cX12_emit 7 = .ok (.aload_n 0, 1) := by decide +kernel
theorem dX12_emit_8 : decode cX12_emit 8 = .ok (.getfield 225, 3) := by decide +kernel
theorem dX12_emit_11 : decode cX12_emit 11 = .ok (.iadd, 1) := by decide +kernel
theorem dX12_emit_12 : decode cX12_emit 12 = .ok (.iload_n 1, 1) := by decide +kernel
theorem dX12_emit_13 : decode cX12_emit 13 = .ok (.iastore, 1) := by decide +kernel
theorem dX12_emit_14 : decode cX12_emit 14 = .ok (.aload_n 0, 1) := by decide +kernel
theorem dX12_emit_15 : decode cX12_emit 15 = .ok (.getfield 95, 3) := by decide +kernel
theorem dX12_emit_18 : decode cX12_emit 18 = .ok (.sipush 1100, 3) := by decide +kernel
theorem dX12_emit_21 : decode cX12_emit 21 = .ok (.aload_n 0, 1) := by decide +kernel
theorem dX12_emit_22 : decode cX12_emit 22 = .ok (.getfield 225, 3) := by decide +kernel
theorem dX12_emit_25 : decode cX12_emit 25 = .ok (.iadd, 1) := by decide +kernel
theorem dX12_emit_26 : decode cX12_emit 26 = .ok (.iload_n 2, 1) := by decide +kernel
theorem dX12_emit_27 : decode cX12_emit 27 = .ok (.iastore, 1) := by decide +kernel
theorem dX12_emit_28 : decode cX12_emit 28 = .ok (.aload_n 0, 1) := by decide +kernel
theorem dX12_emit_29 : decode cX12_emit 29 = .ok (.dup, 1) := by decide +kernel
theorem dX12_emit_30 : decode cX12_emit 30 = .ok (.getfield 225, 3) := by decide +kernel
theorem dX12_emit_33 : decode cX12_emit 33 = .ok (.iconst 1, 1) := by decide +kernel
theorem dX12_emit_34 : decode cX12_emit 34 = .ok (.iadd, 1) := by decide +kernel
theorem dX12_emit_35 : decode cX12_emit 35 = .ok (.putfield 225, 3) := by decide +kernel
theorem dX12_emit_38 : decode cX12_emit 38 = .ok (.return_, 1) := by decide +kernel
theorem dX12_all_0 : decode cX12_all 0 = .ok (.aload_n 0, 1) := by decide +kernel
theorem dX12_all_1 : decode cX12_all 1 = .ok (.iload_n 1, 1) := by decide +kernel
theorem dX12_all_2 : decode cX12_all 2 = .ok (.invokevirtual 276, 3) := by decide +kernel
theorem dX12_all_5 : decode cX12_all 5 = .ok (.aload_n 0, 1) := by decide +kernel
theorem dX12_all_6 : decode cX12_all 6 = .ok (.bipush 21, 2) := by decide +kernel
theorem dX12_all_8 : decode cX12_all 8 = .ok (.invokevirtual 192, 3) := by decide +kernel
theorem dX12_all_11 : decode cX12_all 11 = .ok (.ifCond .ne 12, 3) := by decide +kernel
theorem dX12_all_14 : decode cX12_all 14 = .ok (.aload_n 0, 1) := by decide +kernel
theorem dX12_all_15 : decode cX12_all 15 = .ok (.bipush 22, 2) := by decide +kernel
theorem dX12_all_17 : decode cX12_all 17 = .ok (.invokevirtual 192, 3) := by decide +kernel
theorem dX12_all_20 : decode cX12_all 20 = .ok (.ifCond .eq 44, 3) := by decide +kernel
theorem dX12_all_23 : decode cX12_all 23 = .ok (.aload_n 0, 1) := by decide +kernel
theorem dX12_all_24 : decode cX12_all 24 = .ok (.bipush 21, 2) := by decide +kernel
theorem dX12_all_26 : decode cX12_all 26 = .ok (.invokevirtual 192, 3) := by decide +kernel
theorem dX12_all_29 : decode cX12_all 29 = .ok (.istore_n 2, 1) := by decide +kernel
theorem dX12_all_30 : decode cX12_all 30 = .ok (.aload_n 0, 1) := by decide +kernel
theorem dX12_all_31 : decode cX12_all 31 = .ok (.dup, 1) := by decide +kernel
theorem dX12_all_32 : decode cX12_all 32 = .ok (.getfield 180, 3) := by decide +kernel
theorem dX12_all_35 : decode cX12_all 35 = .ok (.iconst 1, 1) := by decide +kernel
theorem dX12_all_36 : decode cX12_all 36 = .ok (.iadd, 1) := by decide +kernel
theorem dX12_all_37 : decode cX12_all 37 = .ok (.putfield 180, 3) := by decide +kernel
theorem dX12_all_40 : decode cX12_all 40 = .ok (.aload_n 0, 1) := by decide +kernel
theorem dX12_all_41 : decode cX12_all 41 = .ok (.iload_n 1, 1) := by decide +kernel
theorem dX12_all_42 : decode cX12_all 42 = .ok (.invokevirtual 276, 3) := by decide +kernel
theorem dX12_all_45 : decode cX12_all 45 = .ok (.aload_n 0, 1) := by decide +kernel
theorem dX12_all_46 : decode cX12_all 46 = .ok (.iload_n 2, 1) := by decide +kernel
theorem dX12_all_47 : decode cX12_all 47 = .ok (.ifCond .eq 8, 3) := by decide +kernel
theorem dX12_all_50 : decode cX12_all 50 = .ok (.bipush 9, 2) := by decide +kernel
theorem dX12_all_52 : decode cX12_all 52 = .ok (.goto 5, 3) := by decide +kernel
theorem dX12_all_55 : decode cX12_all 55 = .ok (.bipush 10, 2) := by decide +kernel
theorem dX12_all_57 : decode cX12_all 57 = .ok (.iconst 0, 1) := by decide +kernel
theorem dX12_all_58 : decode cX12_all 58 = .ok (.invokevirtual 269, 3) := by decide +kernel
theorem dX12_all_61 : decode cX12_all 61 = .ok (.goto (-56), 3) := by decide +kernel
theorem dX12_all_64 : decode cX12_all 64 = .ok (.return_, 1) := by decide +kernel
theorem dX12_test_0 : decode cX12_test 0 = .ok (.aload_n 0, 1) := by decide +kernel
theorem dX12_test_1 : decode cX12_test 1 = .ok (.iload_n 1, 1) := by decide +kernel
theorem dX12_test_2 : decode cX12_test 2 = .ok (.invokevirtual 279, 3) := by decide +kernel
theorem dX12_test_5 : decode cX12_test 5 = .ok (.aload_n 0, 1) := by decide +kernel
theorem dX12_test_6 : decode cX12_test 6 = .ok (.bipush 60, 2) := by decide +kernel
theorem dX12_test_8 : decode cX12_test 8 = .ok (.invokevirtual 186, 3) := by decide +kernel
theorem dX12_test_11 : decode cX12_test 11 = .ok (.istore_n 2, 1) := by decide +kernel
theorem dX12_test_12 : decode cX12_test 12 = .ok (.aload_n 0, 1) := by decide +kernel
theorem dX12_test_13 : decode cX12_test 13 = .ok (.bipush 60, 2) := by decide +kernel
theorem dX12_test_15 : decode cX12_test 15 = .ok (.invokevirtual 282, 3) := by decide +kernel
theorem dX12_test_18 : decode cX12_test 18 = .ok (.ifCond .ne 12, 3) := by decide +kernel
theorem dX12_test_21 : decode cX12_test 21 = .ok (.aload_n 0, 1) := by decide +kernel
theorem dX12_test_22 : decode cX12_test 22 = .ok (.bipush 61, 2) := by decide +kernel
theorem dX12_test_24 : decode cX12_test 24 = .ok (.invokevirtual 282, 3) := by decide +kernel
theorem dX12_test_27 : decode cX12_test 27 = .ok (.ifCond .eq 24, 3) := by decide +kernel
theorem dX12_test_30 : decode cX12_test 30 = .ok (.aload_n 0, 1) := by decide +kernel
theorem dX12_test_31 : decode cX12_test 31 = .ok (.iload_n 1, 1) := by decide +kernel
theorem dX12_test_32 : decode cX12_test 32 = .ok (.invokevirtual 279, 3) := by decide +kernel
theorem dX12_test_35 : decode cX12_test 35 = .ok (.aload_n 0, 1) := by decide +kernel
theorem dX12_test_36 : decode cX12_test 36 = .ok (.iload_n 2, 1) := by decide +kernel
theorem dX12_test_37 : decode cX12_test 37 = .ok (.ifCond .eq 8, 3) := by decide +kernel
theorem dX12_test_40 : decode cX12_test 40 = .ok (.bipush 7, 2) := by decide +kernel
theorem dX12_test_42 : decode cX12_test 42 = .ok (.goto 5, 3) := by decide +kernel
theorem dX12_test_45 : decode cX12_test 45 = .ok (.bipush 8, 2) := by decide +kernel
theorem dX12_test_47 : decode cX12_test 47 = .ok (.iconst 0, 1) := by decide +kernel
theorem dX12_test_48 : decode cX12_test 48 = .ok (.invokevirtual 269, 3) := by decide +kernel
theorem dX12_test_51 : decode cX12_test 51 = .ok (.return_, 1) := by decide +kernel
theorem dX12_sums_0 : decode cX12_sums 0 = .ok (.aload_n 0, 1) := by decide +kernel
theorem dX12_sums_1 : decode cX12_sums 1 = .ok (.iload_n 1, 1) := by decide +kernel
theorem dX12_sums_2 : decode cX12_sums 2 = .ok (.invokevirtual 285, 3) := by decide +kernel
theorem dX12_sums_5 : decode cX12_sums 5 = .ok (.aload_n 0, 1) := by decide +kernel
theorem dX12_sums_6 : decode cX12_sums 6 = .ok (.bipush 43, 2) := by decide +kernel
theorem dX12_sums_8 : decode cX12_sums 8 = .ok (.invokevirtual 186, 3) := by decide +kernel
theorem dX12_sums_11 : decode cX12_sums 11 = .ok (.ifCond .ne 12, 3) := by decide +kernel
theorem dX12_sums_14 : decode cX12_sums 14 = .ok (.aload_n 0, 1) := by decide +kernel
theorem dX12_sums_15 : decode cX12_sums 15 = .ok (.bipush 45, 2) := by decide +kernel
theorem dX12_sums_17 : decode cX12_sums 17 = .ok (.invokevirtual 186, 3) := by decide +kernel
theorem dX12_sums_20 : decode cX12_sums 20 = .ok (.ifCond .eq 42, 3) := by decide +kernel
theorem dX12_sums_23 : decode cX12_sums 23 = .ok (.aload_n 0, 1) := by decide +kernel
theorem dX12_sums_24 : decode cX12_sums 24 = .ok (.bipush 43, 2) := by decide +kernel
theorem dX12_sums_26 : decode cX12_sums 26 = .ok (.invokevirtual 186, 3) := by decide +kernel
theorem dX12_sums_29 : decode cX12_sums 29 = .ok (.istore_n 2, 1) := by decide +kernel
theorem dX12_sums_30 : decode cX12_sums 30 = .ok (.aload_n 0, 1) := by decide +kernel
theorem dX12_sums_31 : decode cX12_sums 31 = .ok (.dup, 1) := by decide +kernel
theorem dX12_sums_32 : decode cX12_sums 32 = .ok (.getfield 180, 3) := by decide +kernel
theorem dX12_sums_35 : decode cX12_sums 35 = .ok (.iconst 1, 1) := by decide +kernel
theorem dX12_sums_36 : decode cX12_sums 36 = .ok (.iadd, 1) := by decide +kernel
theorem dX12_sums_37 : decode cX12_sums 37 = .ok (.putfield 180, 3) := by decide +kernel
theorem dX12_sums_40 : decode cX12_sums 40 = .ok (.aload_n 0, 1) := by decide +kernel
theorem dX12_sums_41 : decode cX12_sums 41 = .ok (.iload_n 1, 1) := by decide +kernel
theorem dX12_sums_42 : decode cX12_sums 42 = .ok (.invokevirtual 285, 3) := by decide +kernel
theorem dX12_sums_45 : decode cX12_sums 45 = .ok (.aload_n 0, 1) := by decide +kernel
theorem dX12_sums_46 : decode cX12_sums 46 = .ok (.iload_n 2, 1) := by decide +kernel
theorem dX12_sums_47 : decode cX12_sums 47 = .ok (.ifCond .eq 7, 3) := by decide +kernel
theorem dX12_sums_50 : decode cX12_sums 50 = .ok (.iconst 4, 1) := by decide +kernel
theorem dX12_sums_51 : decode cX12_sums 51 = .ok (.goto 4, 3) := by decide +kernel
theorem dX12_sums_54 : decode cX12_sums 54 = .ok (.iconst 5, 1) := by decide +kernel
theorem dX12_sums_55 : decode cX12_sums 55 = .ok (.iconst 0, 1) := by decide +kernel
theorem dX12_sums_56 : decode cX12_sums 56 = .ok (.invokevirtual 269, 3) := by decide +kernel
theorem dX12_sums_59 : decode cX12_sums 59 = .ok (.goto (-54), 3) := by decide +kernel
theorem dX12_sums_62 : decode cX12_sums 62 = .ok (.return_, 1) := by decide +kernel
theorem dX12_products_0 : decode cX12_products 0 = .ok (.aload_n 0, 1) := by decide +kernel
theorem dX12_products_1 : decode cX12_products 1 = .ok (.iload_n 1, 1) := by decide +kernel
theorem dX12_products_2 : decode cX12_products 2 = .ok (.invokevirtual 288, 3) := by decide +kernel
theorem dX12_products_5 : decode cX12_products 5 = .ok (.aload_n 0, 1) := by decide +kernel
theorem dX12_products_6 : decode cX12_products 6 = .ok (.bipush 42, 2) := by decide +kernel
theorem dX12_products_8 : decode cX12_products 8 = .ok (.invokevirtual 282, 3) := by decide +kernel
theorem dX12_products_11 : decode cX12_products 11 = .ok (.ifCond .eq 18, 3) := by decide +kernel
theorem dX12_products_14 : decode cX12_products 14 = .ok (.aload_n 0, 1) := by decide +kernel
theorem dX12_products_15 : decode cX12_products 15 = .ok (.iload_n 1, 1) := by decide +kernel
theorem dX12_products_16 : decode cX12_products 16 = .ok (.invokevirtual 288, 3) := by decide +kernel
theorem dX12_products_19 : decode cX12_products 19 = .ok (.aload_n 0, 1) := by decide +kernel
theorem dX12_products_20 : decode cX12_products 20 = .ok (.bipush 6, 2) := by decide +kernel
theorem dX12_products_22 : decode cX12_products 22 = .ok (.iconst 0, 1) := by decide +kernel
theorem dX12_products_23 : decode cX12_products 23 = .ok (.invokevirtual 269, 3) := by decide +kernel
theorem dX12_products_26 : decode cX12_products 26 = .ok (.goto (-21), 3) := by decide +kernel
theorem dX12_products_29 : decode cX12_products 29 = .ok (.return_, 1) := by decide +kernel
theorem dX12_takePart_0 : decode cX12_takePart 0 = .ok (.aload_n 0, 1) := by decide +kernel
theorem dX12_takePart_1 : decode cX12_takePart 1 = .ok (.getfield 183, 3) := by decide +kernel
theorem dX12_takePart_4 : decode cX12_takePart 4 = .ok (.ifCond .le 4, 3) := by decide +kernel
theorem dX12_takePart_7 : decode cX12_takePart 7 = .ok (.return_, 1) := by decide +kernel
theorem dX12_takePart_8 : decode cX12_takePart 8 = .ok (.aload_n 0, 1) := by decide +kernel
theorem dX12_takePart_9 : decode cX12_takePart 9 = .ok (.getfield 24, 3) := by decide +kernel
theorem dX12_takePart_12 : decode cX12_takePart 12 = .ok (.aload_n 0, 1) := by decide +kernel
theorem dX12_takePart_13 : decode cX12_takePart 13 = .ok (.getfield 180, 3) := by decide +kernel
theorem dX12_takePart_16 : decode cX12_takePart 16 = .ok (.iaload, 1) := by decide +kernel
theorem dX12_takePart_17 : decode cX12_takePart 17 = .ok (.iconst 2, 1) := by decide +kernel
theorem dX12_takePart_18 : decode cX12_takePart 18 = .ok (.if_icmp .ne 7, 3) := by decide +kernel
theorem dX12_takePart_21 : decode cX12_takePart 21 = .ok (.iconst 1, 1) := by decide +kernel
theorem dX12_takePart_22 : decode cX12_takePart 22 = .ok (.goto 4, 3) := by decide +kernel
theorem dX12_takePart_25 : decode cX12_takePart 25 = .ok (.iconst 0, 1) := by decide +kernel
theorem dX12_takePart_26 : decode cX12_takePart 26 = .ok (.istore_n 2, 1) := by decide +kernel
theorem dX12_takePart_27 : decode cX12_takePart 27 = .ok (.aload_n 0, 1) := by decide +kernel
theorem dX12_takePart_28 : decode cX12_takePart 28 = .ok (.bipush 23, 2) := by decide +kernel
theorem dX12_takePart_30 : decode cX12_takePart 30 = .ok (.iconst 3, 1) := by decide +kernel
theorem dX12_takePart_31 : decode cX12_takePart 31 = .ok (.invokevirtual 205, 3) := by decide +kernel
theorem dX12_takePart_34 : decode cX12_takePart 34 = .ok (.istore_n 3, 1) := by decide +kernel
theorem dX12_takePart_35 : decode cX12_takePart 35 = .ok (.iload_n 3, 1) := by decide +kernel
theorem dX12_takePart_36 : decode cX12_takePart 36 = .ok (.ifCond .ge 33, 3) := by decide +kernel
theorem dX12_takePart_39 : decode cX12_takePart 39 = .ok (.iload_n 2, 1) := by decide +kernel
theorem dX12_takePart_40 : decode cX12_takePart 40 = .ok (.ifCond .ne 29, 3) := by decide +kernel
theorem dX12_takePart_43 : decode cX12_takePart 43 = .ok (.aload_n 0, 1) := by decide +kernel
theorem dX12_takePart_44 : decode cX12_takePart 44 = .ok (.bipush 40, 2) := by decide +kernel
theorem dX12_takePart_46 : decode cX12_takePart 46 = .ok (.invokevirtual 186, 3) := by decide +kernel
theorem dX12_takePart_49 : decode cX12_takePart 49 = .ok (.ifCond .ne 20, 3) := by decide +kernel
theorem dX12_takePart_52 : decode cX12_takePart 52 = .ok (.aload_n 0, 1) := by decide +kernel
theorem dX12_takePart_53 : decode cX12_takePart 53 = .ok (.bipush 20, 2) := by decide +kernel
theorem dX12_takePart_55 : decode cX12_takePart 55 = .ok (.invokevirtual 192, 3) := by decide +kernel
theorem dX12_takePart_58 : decode cX12_takePart 58 = .ok (.ifCond .ne 11, 3) := by decide +kernel
theorem dX12_takePart_61 : decode cX12_takePart 61 = .ok (.aload_n 0, 1) := by decide +kernel
theorem dX12_takePart_62 : decode cX12_takePart 62 = .ok (.iconst 1, 1) := by decide +kernel
theorem dX12_takePart_63 : decode cX12_takePart 63 = .ok (.invokevirtual 189, 3) := by decide +kernel
theorem dX12_takePart_66 : decode cX12_takePart 66 = .ok (.goto 13, 3) := by decide +kernel
theorem dX12_takePart_69 : decode cX12_takePart 69 = .ok (.iload_n 1, 1) := by decide +kernel
theorem dX12_takePart_70 : decode cX12_takePart 70 = .ok (.iconst 5, 1) := by decide +kernel
theorem dX12_takePart_71 : decode cX12_takePart 71 = .ok (.if_icmp .ne 8, 3) := by decide +kernel
theorem dX12_takePart_74 : decode cX12_takePart 74 = .ok (.aload_n 0, 1) := by decide +kernel
theorem dX12_takePart_75 : decode cX12_takePart 75 = .ok (.iconst 5, 1) := by decide +kernel
theorem dX12_takePart_76 : decode cX12_takePart 76 = .ok (.invokevirtual 189, 3) := by decide +kernel
theorem dX12_takePart_79 : decode cX12_takePart 79 = .ok (.aload_n 0, 1) := by decide +kernel
theorem dX12_takePart_80 : decode cX12_takePart 80 = .ok (.getfield 183, 3) := by decide +kernel
theorem dX12_takePart_83 : decode cX12_takePart 83 = .ok (.ifCond .le 4, 3) := by decide +kernel
theorem dX12_takePart_86 : decode cX12_takePart 86 = .ok (.return_, 1) := by decide +kernel
theorem dX12_takePart_87 : decode cX12_takePart 87 = .ok (.aload_n 0, 1) := by decide +kernel
theorem dX12_takePart_88 : decode cX12_takePart 88 = .ok (.bipush 20, 2) := by decide +kernel
theorem dX12_takePart_90 : decode cX12_takePart 90 = .ok (.invokevirtual 195, 3) := by decide +kernel
theorem dX12_takePart_93 : decode cX12_takePart 93 = .ok (.ifCond .eq 19, 3) := by decide +kernel
theorem dX12_takePart_96 : decode cX12_takePart 96 = .ok (.aload_n 0, 1) := by decide +kernel
theorem dX12_takePart_97 : decode cX12_takePart 97 = .ok (.iload_n 1, 1) := by decide +kernel
theorem dX12_takePart_98 : decode cX12_takePart 98 = .ok (.iconst 1, 1) := by decide +kernel
theorem dX12_takePart_99 : decode cX12_takePart 99 = .ok (.iadd, 1) := by decide +kernel
theorem dX12_takePart_100 : decode cX12_takePart 100 = .ok (.invokevirtual 288, 3) := by decide +kernel
theorem dX12_takePart_103 : decode cX12_takePart 103 = .ok (.aload_n 0, 1) := by decide +kernel
theorem dX12_takePart_104 : decode cX12_takePart 104 = .ok (.iconst 3, 1) := by decide +kernel
theorem dX12_takePart_105 : decode cX12_takePart 105 = .ok (.iconst 0, 1) := by decide +kernel
theorem dX12_takePart_106 : decode cX12_takePart 106 = .ok (.invokevirtual 269, 3) := by decide +kernel
theorem dX12_takePart_109 : decode cX12_takePart 109 = .ok (.goto 69, 3) := by decide +kernel
theorem dX12_takePart_112 : decode cX12_takePart 112 = .ok (.aload_n 0, 1) := by decide +kernel
theorem dX12_takePart_113 : decode cX12_takePart 113 = .ok (.bipush 40, 2) := by decide +kernel
theorem dX12_takePart_115 : decode cX12_takePart 115 = .ok (.invokevirtual 282, 3) := by decide +kernel
theorem dX12_takePart_118 : decode cX12_takePart 118 = .ok (.ifCond .eq 19, 3) := by decide +kernel
theorem dX12_takePart_121 : decode cX12_takePart 121 = .ok (.aload_n 0, 1) := by decide +kernel
theorem dX12_takePart_122 : decode cX12_takePart 122 = .ok (.iload_n 1, 1) := by decide +kernel
theorem dX12_takePart_123 : decode cX12_takePart 123 = .ok (.iconst 1, 1) := by decide +kernel
theorem dX12_takePart_124 : decode cX12_takePart 124 = .ok (.iadd, 1) := by decide +kernel
theorem dX12_takePart_125 : decode cX12_takePart 125 = .ok (.invokevirtual 266, 3) := by decide +kernel
theorem dX12_takePart_128 : decode cX12_takePart 128 = .ok (.aload_n 0, 1) := by decide +kernel
theorem dX12_takePart_129 : decode cX12_takePart 129 = .ok (.bipush 41, 2) := by decide +kernel
theorem dX12_takePart_131 : decode cX12_takePart 131 = .ok (.invokevirtual 234, 3) := by decide +kernel
theorem dX12_takePart_134 : decode cX12_takePart 134 = .ok (.goto 44, 3) := by decide +kernel
theorem dX12_takePart_137 : decode cX12_takePart 137 = .ok (.aload_n 0, 1) := by decide +kernel
theorem dX12_takePart_138 : decode cX12_takePart 138 = .ok (.iload_n 2, 1) := by decide +kernel
theorem dX12_takePart_139 : decode cX12_takePart 139 = .ok (.ifCond .eq 7, 3) := by decide +kernel
theorem dX12_takePart_142 : decode cX12_takePart 142 = .ok (.iconst 1, 1) := by decide +kernel
theorem dX12_takePart_143 : decode cX12_takePart 143 = .ok (.goto 4, 3) := by decide +kernel
theorem dX12_takePart_146 : decode cX12_takePart 146 = .ok (.iconst 2, 1) := by decide +kernel
theorem dX12_takePart_147 : decode cX12_takePart 147 = .ok (.iload_n 2, 1) := by decide +kernel
theorem dX12_takePart_148 : decode cX12_takePart 148 = .ok (.ifCond .eq 16, 3) := by decide +kernel
theorem dX12_takePart_151 : decode cX12_takePart 151 = .ok (.aload_n 0, 1) := by decide +kernel
theorem dX12_takePart_152 : decode cX12_takePart 152 = .ok (.getfield 30, 3) := by decide +kernel
theorem dX12_takePart_155 : decode cX12_takePart 155 = .ok (.aload_n 0, 1) := by decide +kernel
theorem dX12_takePart_156 : decode cX12_takePart 156 = .ok (.getfield 180, 3) := by decide +kernel
theorem dX12_takePart_159 : decode cX12_takePart 159 = .ok (.laload, 1) := by decide +kernel
theorem dX12_takePart_160 : decode cX12_takePart 160 = .ok (.l2i, 1) := by decide +kernel
theorem dX12_takePart_161 : decode cX12_takePart 161 = .ok (.goto 4, 3) := by decide +kernel
theorem dX12_takePart_164 : decode cX12_takePart 164 = .ok (.iload_n 3, 1) := by decide +kernel
theorem dX12_takePart_165 : decode cX12_takePart 165 = .ok (.invokevirtual 269, 3) := by decide +kernel
theorem dX12_takePart_168 : decode cX12_takePart 168 = .ok (.aload_n 0, 1) := by decide +kernel
theorem dX12_takePart_169 : decode cX12_takePart 169 = .ok (.dup, 1) := by decide +kernel
theorem dX12_takePart_170 : decode cX12_takePart 170 = .ok (.getfield 180, 3) := by decide +kernel
theorem dX12_takePart_173 : decode cX12_takePart 173 = .ok (.iconst 1, 1) := by decide +kernel
theorem dX12_takePart_174 : decode cX12_takePart 174 = .ok (.iadd, 1) := by decide +kernel
theorem dX12_takePart_175 : decode cX12_takePart 175 = .ok (.putfield 180, 3) := by decide +kernel
theorem dX12_takePart_178 : decode cX12_takePart 178 = .ok (.return_, 1) := by decide +kernel
theorem dX12_worthAt_0 : decode cX12_worthAt 0 = .ok (.iconst 0, 1) := by decide +kernel
theorem dX12_worthAt_1 : decode cX12_worthAt 1 = .ok (.istore_n 2, 1) := by decide +kernel
theorem dX12_worthAt_2 : decode cX12_worthAt 2 = .ok (.iload_n 1, 1) := by decide +kernel
theorem dX12_worthAt_3 : decode cX12_worthAt 3 = .ok (.istore_n 3, 1) := by decide +kernel
theorem dX12_worthAt_4 : decode cX12_worthAt 4 = .ok (.aload_n 0, 1) := by decide +kernel
theorem dX12_worthAt_5 : decode cX12_worthAt 5 = .ok (.getfield 92, 3) := by decide +kernel
theorem dX12_worthAt_8 : decode cX12_worthAt 8 = .ok (.iload_n 3, 1) := by decide +kernel
theorem dX12_worthAt_9 : decode cX12_worthAt 9 = .ok (.iaload, 1) := by decide +kernel
theorem dX12_worthAt_10 : decode cX12_worthAt 10 = .ok (.ifCond .eq 130, 3) := by decide +kernel
theorem dX12_worthAt_13 : decode cX12_worthAt 13 = .ok (.aload_n 0, 1) := by decide +kernel
theorem dX12_worthAt_14 : decode cX12_worthAt 14 = .ok (.getfield 92, 3) := by decide +kernel
theorem dX12_worthAt_17 : decode cX12_worthAt 17 = .ok (.iload_n 3, 1) := by decide +kernel
theorem dX12_worthAt_18 : decode cX12_worthAt 18 = .ok (.iaload, 1) := by decide +kernel
theorem dX12_worthAt_19 : decode cX12_worthAt 19 = .ok (.istore 4, 2) := by decide +kernel
theorem dX12_worthAt_21 : decode cX12_worthAt 21 = .ok (.iload 4, 2) := by decide +kernel
theorem dX12_worthAt_23 : decode cX12_worthAt 23 = .ok (.iconst 1, 1) := by decide +kernel
theorem dX12_worthAt_24 : decode cX12_worthAt 24 = .ok (.if_icmp .eq 9, 3) := by decide +kernel
theorem dX12_worthAt_27 : decode cX12_worthAt 27 = .ok (.iload 4, 2) := by decide +kernel
theorem dX12_worthAt_29 : decode cX12_worthAt 29 = .ok (.iconst 2, 1) := by decide +kernel
theorem dX12_worthAt_30 : decode cX12_worthAt 30 = .ok (.if_icmp .ne 41, 3) := by decide +kernel
theorem dX12_worthAt_33 : decode cX12_worthAt 33 = .ok (.aload_n 0, 1) := by decide +kernel
theorem dX12_worthAt_34 : decode cX12_worthAt 34 = .ok (.getfield 110, 3) := by decide +kernel
theorem dX12_worthAt_37 : decode cX12_worthAt 37 = .ok (.iload_n 2, 1) := by decide +kernel
theorem dX12_worthAt_38 : decode cX12_worthAt 38 = .ok (.iload 4, 2) := by decide +kernel
theorem dX12_worthAt_40 : decode cX12_worthAt 40 = .ok (.iconst 1, 1) := by decide +kernel
theorem dX12_worthAt_41 : decode cX12_worthAt 41 = .ok (.if_icmp .ne 12, 3) := by decide +kernel
theorem dX12_worthAt_44 : decode cX12_worthAt 44 = .ok (.aload_n 0, 1) := by decide +kernel
theorem dX12_worthAt_45 : decode cX12_worthAt 45 = .ok (.getfield 95, 3) := by decide +kernel
theorem dX12_worthAt_48 : decode cX12_worthAt 48 = .ok (.iload_n 3, 1) := by decide +kernel
theorem dX12_worthAt_49 : decode cX12_worthAt 49 = .ok (.iaload, 1) := by decide +kernel
theorem dX12_worthAt_50 : decode cX12_worthAt 50 = .ok (.goto 14, 3) := by decide +kernel
theorem dX12_worthAt_53 : decode cX12_worthAt 53 = .ok (.aload_n 0, 1) := by decide +kernel
theorem dX12_worthAt_54 : decode cX12_worthAt 54 = .ok (.getfield 107, 3) := by decide +kernel
theorem dX12_worthAt_57 : decode cX12_worthAt 57 = .ok (.aload_n 0, 1) := by decide +kernel
theorem dX12_worthAt_58 : decode cX12_worthAt 58 = .ok (.getfield 95, 3) := by decide +kernel
theorem dX12_worthAt_61 : decode cX12_worthAt 61 = .ok (.iload_n 3, 1) := by decide +kernel
theorem dX12_worthAt_62 : decode cX12_worthAt 62 = .ok (.iaload, 1) := by decide +kernel
theorem dX12_worthAt_63 : decode cX12_worthAt 63 = .ok (.iaload, 1) := by decide +kernel
theorem dX12_worthAt_64 : decode cX12_worthAt 64 = .ok (.iastore, 1) := by decide +kernel
theorem dX12_worthAt_65 : decode cX12_worthAt 65 = .ok (.iinc 2 1, 3) := by decide +kernel
theorem dX12_worthAt_68 : decode cX12_worthAt 68 = .ok (.goto 66, 3) := by decide +kernel
theorem dX12_worthAt_71 : decode cX12_worthAt 71 = .ok (.iload 4, 2) := by decide +kernel
theorem dX12_worthAt_73 : decode cX12_worthAt 73 = .ok (.iconst 3, 1) := by decide +kernel
theorem dX12_worthAt_74 : decode cX12_worthAt 74 = .ok (.if_icmp .ne 30, 3) := by decide +kernel
theorem dX12_worthAt_77 : decode cX12_worthAt 77 = .ok (.aload_n 0, 1) := by decide +kernel
theorem dX12_worthAt_78 : decode cX12_worthAt 78 = .ok (.getfield 110, 3) := by decide +kernel
theorem dX12_worthAt_81 : decode cX12_worthAt 81 = .ok (.iload_n 2, 1) := by decide +kernel
theorem dX12_worthAt_82 : decode cX12_worthAt 82 = .ok (.iconst 1, 1) := by decide +kernel
theorem dX12_worthAt_83 : decode cX12_worthAt 83 = .ok (.isub, 1) := by decide +kernel
theorem dX12_worthAt_84 : decode cX12_worthAt 84 = .ok (.aload_n 0, 1) := by decide +kernel
theorem dX12_worthAt_85 : decode cX12_worthAt 85 = .ok (.getfield 110, 3) := by decide +kernel
theorem dX12_worthAt_88 : decode cX12_worthAt 88 = .ok (.iload_n 2, 1) := by decide +kernel
theorem dX12_worthAt_89 : decode cX12_worthAt 89 = .ok (.iconst 1, 1) := by decide +kernel
theorem dX12_worthAt_90 : decode cX12_worthAt 90 = .ok (.isub, 1) := by decide +kernel
theorem dX12_worthAt_91 : decode cX12_worthAt 91 = .ok (.iaload, 1) := by decide +kernel
theorem dX12_worthAt_92 : decode cX12_worthAt 92 = .ok (.ifCond .ne 7, 3) := by decide +kernel
theorem dX12_worthAt_95 : decode cX12_worthAt 95 = .ok (.iconst 1, 1) := by decide +kernel
theorem dX12_worthAt_96 : decode cX12_worthAt 96 = .ok (.goto 4, 3) := by decide +kernel
theorem dX12_worthAt_99 : decode cX12_worthAt 99 = .ok (.iconst 0, 1) := by decide +kernel
theorem dX12_worthAt_100 : decode cX12_worthAt 100 = .ok (.iastore, 1) := by decide +kernel
theorem dX12_worthAt_101 : decode cX12_worthAt 101 = .ok (.goto 33, 3) := by decide +kernel
theorem dX12_worthAt_104 : decode cX12_worthAt 104 = .ok (.iinc 2 (-1), 3) := by decide +kernel
theorem dX12_worthAt_107 : decode cX12_worthAt 107 = .ok (.aload_n 0, 1) := by decide +kernel
theorem dX12_worthAt_108 : decode cX12_worthAt 108 = .ok (.getfield 110, 3) := by decide +kernel
theorem dX12_worthAt_111 : decode cX12_worthAt 111 = .ok (.iload_n 2, 1) := by decide +kernel
theorem dX12_worthAt_112 : decode cX12_worthAt 112 = .ok (.iconst 1, 1) := by decide +kernel
theorem dX12_worthAt_113 : decode cX12_worthAt 113 = .ok (.isub, 1) := by decide +kernel
theorem dX12_worthAt_114 : decode cX12_worthAt 114 = .ok (.iload 4, 2) := by decide +kernel
theorem dX12_worthAt_116 : decode cX12_worthAt 116 = .ok (.aload_n 0, 1) := by decide +kernel
theorem dX12_worthAt_117 : decode cX12_worthAt 117 = .ok (.getfield 110, 3) := by decide +kernel
theorem dX12_worthAt_120 : decode cX12_worthAt 120 = .ok (.iload_n 2, 1) := by decide +kernel
theorem dX12_worthAt_121 : decode cX12_worthAt 121 = .ok (.iconst 1, 1) := by decide +kernel
theorem dX12_worthAt_122 : decode cX12_worthAt 122 = .ok (.isub, 1) := by decide +kernel
theorem dX12_worthAt_123 : decode cX12_worthAt 123 = .ok (.iaload, 1) := by decide +kernel
theorem dX12_worthAt_124 : decode cX12_worthAt 124 = .ok (.aload_n 0, 1) := by decide +kernel
theorem dX12_worthAt_125 : decode cX12_worthAt 125 = .ok (.getfield 110, 3) := by decide +kernel
theorem dX12_worthAt_128 : decode cX12_worthAt 128 = .ok (.iload_n 2, 1) := by decide +kernel
theorem dX12_worthAt_129 : decode cX12_worthAt 129 = .ok (.iaload, 1) := by decide +kernel
theorem dX12_worthAt_130 : decode cX12_worthAt 130 = .ok (.invokestatic 291, 3) := by decide +kernel
theorem dX12_worthAt_133 : decode cX12_worthAt 133 = .ok (.iastore, 1) := by decide +kernel
theorem dX12_worthAt_134 : decode cX12_worthAt 134 = .ok (.iinc 3 1, 3) := by decide +kernel
theorem dX12_worthAt_137 : decode cX12_worthAt 137 = .ok (.goto (-133), 3) := by decide +kernel
theorem dX12_worthAt_140 : decode cX12_worthAt 140 = .ok (.aload_n 0, 1) := by decide +kernel
theorem dX12_worthAt_141 : decode cX12_worthAt 141 = .ok (.getfield 110, 3) := by decide +kernel
theorem dX12_worthAt_144 : decode cX12_worthAt 144 = .ok (.iconst 0, 1) := by decide +kernel
theorem dX12_worthAt_145 : decode cX12_worthAt 145 = .ok (.iaload, 1) := by decide +kernel
theorem dX12_worthAt_146 : decode cX12_worthAt 146 = .ok (.ireturn, 1) := by decide +kernel
theorem dX12_both_0 : decode cX12_both 0 = .ok (.iload_n 0, 1) := by decide +kernel
theorem dX12_both_1 : decode cX12_both 1 = .ok (.tableswitch 87 4 9 #[39, 43, 47, 51, 62, 73], 39) := by decide +kernel
theorem dX12_both_40 : decode cX12_both 40 = .ok (.iload_n 1, 1) := by decide +kernel
theorem dX12_both_41 : decode cX12_both 41 = .ok (.iload_n 2, 1) := by decide +kernel
theorem dX12_both_42 : decode cX12_both 42 = .ok (.iadd, 1) := by decide +kernel
theorem dX12_both_43 : decode cX12_both 43 = .ok (.ireturn, 1) := by decide +kernel
theorem dX12_both_44 : decode cX12_both 44 = .ok (.iload_n 1, 1) := by decide +kernel
theorem dX12_both_45 : decode cX12_both 45 = .ok (.iload_n 2, 1) := by decide +kernel
theorem dX12_both_46 : decode cX12_both 46 = .ok (.isub, 1) := by decide +kernel
theorem dX12_both_47 : decode cX12_both 47 = .ok (.ireturn, 1) := by decide +kernel
theorem dX12_both_48 : decode cX12_both 48 = .ok (.iload_n 1, 1) := by decide +kernel
theorem dX12_both_49 : decode cX12_both 49 = .ok (.iload_n 2, 1) := by decide +kernel
theorem dX12_both_50 : decode cX12_both 50 = .ok (.imul, 1) := by decide +kernel
theorem dX12_both_51 : decode cX12_both 51 = .ok (.ireturn, 1) := by decide +kernel
theorem dX12_both_52 : decode cX12_both 52 = .ok (.iload_n 1, 1) := by decide +kernel
theorem dX12_both_53 : decode cX12_both 53 = .ok (.iload_n 2, 1) := by decide +kernel
theorem dX12_both_54 : decode cX12_both 54 = .ok (.if_icmp .ge 7, 3) := by decide +kernel
theorem dX12_both_57 : decode cX12_both 57 = .ok (.iconst 1, 1) := by decide +kernel
theorem dX12_both_58 : decode cX12_both 58 = .ok (.goto 4, 3) := by decide +kernel
theorem dX12_both_61 : decode cX12_both 61 = .ok (.iconst 0, 1) := by decide +kernel
theorem dX12_both_62 : decode cX12_both 62 = .ok (.ireturn, 1) := by decide +kernel
theorem dX12_both_63 : decode cX12_both 63 = .ok (.iload_n 1, 1) := by decide +kernel
theorem dX12_both_64 : decode cX12_both 64 = .ok (.iload_n 2, 1) := by decide +kernel
theorem dX12_both_65 : decode cX12_both 65 = .ok (.if_icmp .ne 7, 3) := by decide +kernel
theorem dX12_both_68 : decode cX12_both 68 = .ok (.iconst 1, 1) := by decide +kernel
theorem dX12_both_69 : decode cX12_both 69 = .ok (.goto 4, 3) := by decide +kernel
theorem dX12_both_72 : decode cX12_both 72 = .ok (.iconst 0, 1) := by decide +kernel
theorem dX12_both_73 : decode cX12_both 73 = .ok (.ireturn, 1) := by decide +kernel
theorem dX12_both_74 : decode cX12_both 74 = .ok (.iload_n 1, 1) := by decide +kernel
theorem dX12_both_75 : decode cX12_both 75 = .ok (.ifCond .eq 11, 3) := by decide +kernel
theorem dX12_both_78 : decode cX12_both 78 = .ok (.iload_n 2, 1) := by decide +kernel
theorem dX12_both_79 : decode cX12_both 79 = .ok (.ifCond .eq 7, 3) := by decide +kernel
theorem dX12_both_82 : decode cX12_both 82 = .ok (.iconst 1, 1) := by decide +kernel
theorem dX12_both_83 : decode cX12_both 83 = .ok (.goto 4, 3) := by decide +kernel
theorem dX12_both_86 : decode cX12_both 86 = .ok (.iconst 0, 1) := by decide +kernel
theorem dX12_both_87 : decode cX12_both 87 = .ok (.ireturn, 1) := by decide +kernel
theorem dX12_both_88 : decode cX12_both 88 = .ok (.iload_n 1, 1) := by decide +kernel
theorem dX12_both_89 : decode cX12_both 89 = .ok (.ifCond .ne 7, 3) := by decide +kernel
theorem dX12_both_92 : decode cX12_both 92 = .ok (.iload_n 2, 1) := by decide +kernel
theorem dX12_both_93 : decode cX12_both 93 = .ok (.ifCond .eq 7, 3) := by decide +kernel
theorem dX12_both_96 : decode cX12_both 96 = .ok (.iconst 1, 1) := by decide +kernel
theorem dX12_both_97 : decode cX12_both 97 = .ok (.goto 4, 3) := by decide +kernel
theorem dX12_both_100 : decode cX12_both 100 = .ok (.iconst 0, 1) := by decide +kernel
theorem dX12_both_101 : decode cX12_both 101 = .ok (.ireturn, 1) := by decide +kernel
theorem dX12_copies_0 : decode cX12_copies 0 = .ok (.iconst 0, 1) := by decide +kernel
theorem dX12_copies_1 : decode cX12_copies 1 = .ok (.istore 4, 2) := by decide +kernel
theorem dX12_copies_3 : decode cX12_copies 3 = .ok (.iload 4, 2) := by decide +kernel
theorem dX12_copies_5 : decode cX12_copies 5 = .ok (.iload_n 3, 1) := by decide +kernel
theorem dX12_copies_6 : decode cX12_copies 6 = .ok (.if_icmp .ge 27, 3) := by decide +kernel
theorem dX12_copies_9 : decode cX12_copies 9 = .ok (.aload_n 0, 1) := by decide +kernel
theorem dX12_copies_10 : decode cX12_copies 10 = .ok (.getfield 113, 3) := by decide +kernel
theorem dX12_copies_13 : decode cX12_copies 13 = .ok (.iload_n 2, 1) := by decide +kernel
theorem dX12_copies_14 : decode cX12_copies 14 = .ok (.iload 4, 2) := by decide +kernel
theorem dX12_copies_16 : decode cX12_copies 16 = .ok (.iadd, 1) := by decide +kernel
theorem dX12_copies_17 : decode cX12_copies 17 = .ok (.aload_n 0, 1) := by decide +kernel
theorem dX12_copies_18 : decode cX12_copies 18 = .ok (.getfield 113, 3) := by decide +kernel
theorem dX12_copies_21 : decode cX12_copies 21 = .ok (.iload_n 1, 1) := by decide +kernel
theorem dX12_copies_22 : decode cX12_copies 22 = .ok (.iload 4, 2) := by decide +kernel
theorem dX12_copies_24 : decode cX12_copies 24 = .ok (.iadd, 1) := by decide +kernel
theorem dX12_copies_25 : decode cX12_copies 25 = .ok (.iaload, 1) := by decide +kernel
theorem dX12_copies_26 : decode cX12_copies 26 = .ok (.iastore, 1) := by decide +kernel
theorem dX12_copies_27 : decode cX12_copies 27 = .ok (.iinc 4 1, 3) := by decide +kernel
theorem dX12_copies_30 : decode cX12_copies 30 = .ok (.goto (-27), 3) := by decide +kernel
theorem dX12_copies_33 : decode cX12_copies 33 = .ok (.return_, 1) := by decide +kernel
theorem dX12_starts_0 : decode cX12_starts 0 = .ok (.iconst 0, 1) := by decide +kernel
theorem dX12_starts_1 : decode cX12_starts 1 = .ok (.istore_n 2, 1) := by decide +kernel
theorem dX12_starts_2 : decode cX12_starts 2 = .ok (.iload_n 2, 1) := by decide +kernel
theorem dX12_starts_3 : decode cX12_starts 3 = .ok (.bipush 38, 2) := by decide +kernel
theorem dX12_starts_5 : decode cX12_starts 5 = .ok (.if_icmp .ge 18, 3) := by decide +kernel
theorem dX12_starts_8 : decode cX12_starts 8 = .ok (.aload_n 0, 1) := by decide +kernel
theorem dX12_starts_9 : decode cX12_starts 9 = .ok (.getfield 113, 3) := by decide +kernel
theorem dX12_starts_12 : decode cX12_starts 12 = .ok (.iload_n 1, 1) := by decide +kernel
theorem dX12_starts_13 : decode cX12_starts 13 = .ok (.iload_n 2, 1) := by decide +kernel
theorem dX12_starts_14 : decode cX12_starts 14 = .ok (.iadd, 1) := by decide +kernel
theorem dX12_starts_15 : decode cX12_starts 15 = .ok (.iconst 0, 1) := by decide +kernel
theorem dX12_starts_16 : decode cX12_starts 16 = .ok (.iastore, 1) := by decide +kernel
theorem dX12_starts_17 : decode cX12_starts 17 = .ok (.iinc 2 1, 3) := by decide +kernel
theorem dX12_starts_20 : decode cX12_starts 20 = .ok (.goto (-18), 3) := by decide +kernel
theorem dX12_starts_23 : decode cX12_starts 23 = .ok (.iconst 0, 1) := by decide +kernel
theorem dX12_starts_24 : decode cX12_starts 24 = .ok (.istore_n 2, 1) := by decide +kernel
theorem dX12_starts_25 : decode cX12_starts 25 = .ok (.iload_n 2, 1) := by decide +kernel
theorem dX12_starts_26 : decode cX12_starts 26 = .ok (.aload_n 0, 1) := by decide +kernel
theorem dX12_starts_27 : decode cX12_starts 27 = .ok (.invokevirtual 294, 3) := by decide +kernel
theorem dX12_starts_30 : decode cX12_starts 30 = .ok (.if_icmp .ge 33, 3) := by decide +kernel
theorem dX12_starts_33 : decode cX12_starts 33 = .ok (.aload_n 0, 1) := by decide +kernel
theorem dX12_starts_34 : decode cX12_starts 34 = .ok (.getfield 113, 3) := by decide +kernel
theorem dX12_starts_37 : decode cX12_starts 37 = .ok (.iload_n 1, 1) := by decide +kernel
theorem dX12_starts_38 : decode cX12_starts 38 = .ok (.bipush 8, 2) := by decide +kernel
theorem dX12_starts_40 : decode cX12_starts 40 = .ok (.iadd, 1) := by decide +kernel
theorem dX12_starts_41 : decode cX12_starts 41 = .ok (.iload_n 2, 1) := by decide +kernel
theorem dX12_starts_42 : decode cX12_starts 42 = .ok (.iadd, 1) := by decide +kernel
theorem dX12_starts_43 : decode cX12_starts 43 = .ok (.aload_n 0, 1) := by decide +kernel
theorem dX12_starts_44 : decode cX12_starts 44 = .ok (.getfield 89, 3) := by decide +kernel
theorem dX12_starts_47 : decode cX12_starts 47 = .ok (.bipush 9, 2) := by decide +kernel
theorem dX12_starts_49 : decode cX12_starts 49 = .ok (.iconst 2, 1) := by decide +kernel
theorem dX12_starts_50 : decode cX12_starts 50 = .ok (.iload_n 2, 1) := by decide +kernel
theorem dX12_starts_51 : decode cX12_starts 51 = .ok (.imul, 1) := by decide +kernel
theorem dX12_starts_52 : decode cX12_starts 52 = .ok (.iadd, 1) := by decide +kernel
theorem dX12_starts_53 : decode cX12_starts 53 = .ok (.iconst 1, 1) := by decide +kernel
theorem dX12_starts_54 : decode cX12_starts 54 = .ok (.iadd, 1) := by decide +kernel
theorem dX12_starts_55 : decode cX12_starts 55 = .ok (.iaload, 1) := by decide +kernel
theorem dX12_starts_56 : decode cX12_starts 56 = .ok (.iastore, 1) := by decide +kernel
theorem dX12_starts_57 : decode cX12_starts 57 = .ok (.iinc 2 1, 3) := by decide +kernel
theorem dX12_starts_60 : decode cX12_starts 60 = .ok (.goto (-35), 3) := by decide +kernel
theorem dX12_starts_63 : decode cX12_starts 63 = .ok (.iconst 0, 1) := by decide +kernel
theorem dX12_starts_64 : decode cX12_starts 64 = .ok (.istore_n 2, 1) := by decide +kernel
theorem dX12_starts_65 : decode cX12_starts 65 = .ok (.iload_n 2, 1) := by decide +kernel
theorem dX12_starts_66 : decode cX12_starts 66 = .ok (.aload_n 0, 1) := by decide +kernel
theorem dX12_starts_67 : decode cX12_starts 67 = .ok (.invokevirtual 273, 3) := by decide +kernel
theorem dX12_starts_70 : decode cX12_starts 70 = .ok (.if_icmp .ge 28, 3) := by decide +kernel
theorem dX12_starts_73 : decode cX12_starts 73 = .ok (.aload_n 0, 1) := by decide +kernel
theorem dX12_starts_74 : decode cX12_starts 74 = .ok (.getfield 113, 3) := by decide +kernel
theorem dX12_starts_77 : decode cX12_starts 77 = .ok (.iload_n 1, 1) := by decide +kernel
theorem dX12_starts_78 : decode cX12_starts 78 = .ok (.bipush 14, 2) := by decide +kernel
theorem dX12_starts_80 : decode cX12_starts 80 = .ok (.iadd, 1) := by decide +kernel
theorem dX12_starts_81 : decode cX12_starts 81 = .ok (.iload_n 2, 1) := by decide +kernel
theorem dX12_starts_82 : decode cX12_starts 82 = .ok (.iadd, 1) := by decide +kernel
theorem dX12_starts_83 : decode cX12_starts 83 = .ok (.iconst 3, 1) := by decide +kernel
theorem dX12_starts_84 : decode cX12_starts 84 = .ok (.aload_n 0, 1) := by decide +kernel
theorem dX12_starts_85 : decode cX12_starts 85 = .ok (.iload_n 2, 1) := by decide +kernel
theorem dX12_starts_86 : decode cX12_starts 86 = .ok (.iconst 2, 1) := by decide +kernel
theorem dX12_starts_87 : decode cX12_starts 87 = .ok (.invokevirtual 297, 3) := by decide +kernel
theorem dX12_starts_90 : decode cX12_starts 90 = .ok (.imul, 1) := by decide +kernel
theorem dX12_starts_91 : decode cX12_starts 91 = .ok (.iastore, 1) := by decide +kernel
theorem dX12_starts_92 : decode cX12_starts 92 = .ok (.iinc 2 1, 3) := by decide +kernel
theorem dX12_starts_95 : decode cX12_starts 95 = .ok (.goto (-30), 3) := by decide +kernel
theorem dX12_starts_98 : decode cX12_starts 98 = .ok (.return_, 1) := by decide +kernel
theorem dX12_begins_0 : decode cX12_begins 0 = .ok (.aload_n 0, 1) := by decide +kernel
theorem dX12_begins_1 : decode cX12_begins 1 = .ok (.iconst 0, 1) := by decide +kernel
theorem dX12_begins_2 : decode cX12_begins 2 = .ok (.putfield 300, 3) := by decide +kernel
theorem dX12_begins_5 : decode cX12_begins 5 = .ok (.aload_n 0, 1) := by decide +kernel
theorem dX12_begins_6 : decode cX12_begins 6 = .ok (.iconst 0, 1) := by decide +kernel
theorem dX12_begins_7 : decode cX12_begins 7 = .ok (.invokevirtual 303, 3) := by decide +kernel
theorem dX12_begins_10 : decode cX12_begins 10 = .ok (.aload_n 0, 1) := by decide +kernel
theorem dX12_begins_11 : decode cX12_begins 11 = .ok (.getfield 113, 3) := by decide +kernel
theorem dX12_begins_14 : decode cX12_begins 14 = .ok (.bipush 38, 2) := by decide +kernel
theorem dX12_begins_16 : decode cX12_begins 16 = .ok (.iconst 0, 1) := by decide +kernel
theorem dX12_begins_17 : decode cX12_begins 17 = .ok (.iastore, 1) := by decide +kernel
theorem dX12_begins_18 : decode cX12_begins 18 = .ok (.aload_n 0, 1) := by decide +kernel
theorem dX12_begins_19 : decode cX12_begins 19 = .ok (.getfield 104, 3) := by decide +kernel
theorem dX12_begins_22 : decode cX12_begins 22 = .ok (.iconst 0, 1) := by decide +kernel
theorem dX12_begins_23 : decode cX12_begins 23 = .ok (.iconst 0, 1) := by decide +kernel
theorem dX12_begins_24 : decode cX12_begins 24 = .ok (.iastore, 1) := by decide +kernel
theorem dX12_begins_25 : decode cX12_begins 25 = .ok (.aload_n 0, 1) := by decide +kernel
theorem dX12_begins_26 : decode cX12_begins 26 = .ok (.iconst 0, 1) := by decide +kernel
theorem dX12_begins_27 : decode cX12_begins 27 = .ok (.putfield 306, 3) := by decide +kernel
theorem dX12_begins_30 : decode cX12_begins 30 = .ok (.iconst 0, 1) := by decide +kernel
theorem dX12_begins_31 : decode cX12_begins 31 = .ok (.istore_n 1, 1) := by decide +kernel
theorem dX12_begins_32 : decode cX12_begins 32 = .ok (.iload_n 1, 1) := by decide +kernel
theorem dX12_begins_33 : decode cX12_begins 33 = .ok (.iconst 4, 1) := by decide +kernel
theorem dX12_begins_34 : decode cX12_begins 34 = .ok (.if_icmp .ge 16, 3) := by decide +kernel
theorem dX12_begins_37 : decode cX12_begins 37 = .ok (.aload_n 0, 1) := by decide +kernel
theorem dX12_begins_38 : decode cX12_begins 38 = .ok (.getfield 116, 3) := by decide +kernel
theorem dX12_begins_41 : decode cX12_begins 41 = .ok (.iload_n 1, 1) := by decide +kernel
theorem dX12_begins_42 : decode cX12_begins 42 = .ok (.iconst 0, 1) := by decide +kernel
theorem dX12_begins_43 : decode cX12_begins 43 = .ok (.bastore, 1) := by decide +kernel
theorem dX12_begins_44 : decode cX12_begins 44 = .ok (.iinc 1 1, 3) := by decide +kernel
theorem dX12_begins_47 : decode cX12_begins 47 = .ok (.goto (-15), 3) := by decide +kernel
theorem dX12_begins_50 : decode cX12_begins 50 = .ok (.return_, 1) := by decide +kernel
theorem dX12_keeps_0 : decode cX12_keeps 0 = .ok (.aload_n 0, 1) := by decide +kernel
theorem dX12_keeps_1 : decode cX12_keeps 1 = .ok (.getfield 306, 3) := by decide +kernel
theorem dX12_keeps_4 : decode cX12_keeps 4 = .ok (.bipush 16, 2) := by decide +kernel
theorem dX12_keeps_6 : decode cX12_keeps 6 = .ok (.if_icmp .ne 47, 3) := by decide +kernel
theorem dX12_keeps_9 : decode cX12_keeps 9 = .ok (.iconst 1, 1) := by decide +kernel
theorem dX12_keeps_10 : decode cX12_keeps 10 = .ok (.istore_n 1, 1) := by decide +kernel
theorem dX12_keeps_11 : decode cX12_keeps 11 = .ok (.iload_n 1, 1) := by decide +kernel
theorem dX12_keeps_12 : decode cX12_keeps 12 = .ok (.bipush 16, 2) := by decide +kernel
theorem dX12_keeps_14 : decode cX12_keeps 14 = .ok (.if_icmp .ge 29, 3) := by decide +kernel
theorem dX12_keeps_17 : decode cX12_keeps 17 = .ok (.aload_n 0, 1) := by decide +kernel
theorem dX12_keeps_18 : decode cX12_keeps 18 = .ok (.bipush 63, 2) := by decide +kernel
theorem dX12_keeps_20 : decode cX12_keeps 20 = .ok (.iconst 5, 1) := by decide +kernel
theorem dX12_keeps_21 : decode cX12_keeps 21 = .ok (.iload_n 1, 1) := by decide +kernel
theorem dX12_keeps_22 : decode cX12_keeps 22 = .ok (.iadd, 1) := by decide +kernel
theorem dX12_keeps_23 : decode cX12_keeps 23 = .ok (.imul, 1) := by decide +kernel
theorem dX12_keeps_24 : decode cX12_keeps 24 = .ok (.bipush 63, 2) := by decide +kernel
theorem dX12_keeps_26 : decode cX12_keeps 26 = .ok (.iconst 5, 1) := by decide +kernel
theorem dX12_keeps_27 : decode cX12_keeps 27 = .ok (.iload_n 1, 1) := by decide +kernel
theorem dX12_keeps_28 : decode cX12_keeps 28 = .ok (.iadd, 1) := by decide +kernel
theorem dX12_keeps_29 : decode cX12_keeps 29 = .ok (.iconst 1, 1) := by decide +kernel
theorem dX12_keeps_30 : decode cX12_keeps 30 = .ok (.isub, 1) := by decide +kernel
theorem dX12_keeps_31 : decode cX12_keeps 31 = .ok (.imul, 1) := by decide +kernel
theorem dX12_keeps_32 : decode cX12_keeps 32 = .ok (.bipush 38, 2) := by decide +kernel
theorem dX12_keeps_34 : decode cX12_keeps 34 = .ok (.invokevirtual 309, 3) := by decide +kernel
theorem dX12_keeps_37 : decode cX12_keeps 37 = .ok (.iinc 1 1, 3) := by decide +kernel
theorem dX12_keeps_40 : decode cX12_keeps 40 = .ok (.goto (-29), 3) := by decide +kernel
theorem dX12_keeps_43 : decode cX12_keeps 43 = .ok (.aload_n 0, 1) := by decide +kernel
theorem dX12_keeps_44 : decode cX12_keeps 44 = .ok (.dup, 1) := by decide +kernel
theorem dX12_keeps_45 : decode cX12_keeps 45 = .ok (.getfield 306, 3) := by decide +kernel
theorem dX12_keeps_48 : decode cX12_keeps 48 = .ok (.iconst 1, 1) := by decide +kernel
theorem dX12_keeps_49 : decode cX12_keeps 49 = .ok (.isub, 1) := by decide +kernel
theorem dX12_keeps_50 : decode cX12_keeps 50 = .ok (.putfield 306, 3) := by decide +kernel
theorem dX12_keeps_53 : decode cX12_keeps 53 = .ok (.aload_n 0, 1) := by decide +kernel
theorem dX12_keeps_54 : decode cX12_keeps 54 = .ok (.iconst 0, 1) := by decide +kernel
theorem dX12_keeps_55 : decode cX12_keeps 55 = .ok (.bipush 63, 2) := by decide +kernel
theorem dX12_keeps_57 : decode cX12_keeps 57 = .ok (.iconst 5, 1) := by decide +kernel
theorem dX12_keeps_58 : decode cX12_keeps 58 = .ok (.aload_n 0, 1) := by decide +kernel
theorem dX12_keeps_59 : decode cX12_keeps 59 = .ok (.getfield 306, 3) := by decide +kernel
theorem dX12_keeps_62 : decode cX12_keeps 62 = .ok (.iadd, 1) := by decide +kernel
theorem dX12_keeps_63 : decode cX12_keeps 63 = .ok (.imul, 1) := by decide +kernel
theorem dX12_keeps_64 : decode cX12_keeps 64 = .ok (.bipush 38, 2) := by decide +kernel
theorem dX12_keeps_66 : decode cX12_keeps 66 = .ok (.invokevirtual 309, 3) := by decide +kernel
theorem dX12_keeps_69 : decode cX12_keeps 69 = .ok (.aload_n 0, 1) := by decide +kernel
theorem dX12_keeps_70 : decode cX12_keeps 70 = .ok (.dup, 1) := by decide +kernel
theorem dX12_keeps_71 : decode cX12_keeps 71 = .ok (.getfield 306, 3) := by decide +kernel
theorem dX12_keeps_74 : decode cX12_keeps 74 = .ok (.iconst 1, 1) := by decide +kernel
theorem dX12_keeps_75 : decode cX12_keeps 75 = .ok (.iadd, 1) := by decide +kernel
theorem dX12_keeps_76 : decode cX12_keeps 76 = .ok (.putfield 306, 3) := by decide +kernel
theorem dX12_keeps_79 : decode cX12_keeps 79 = .ok (.return_, 1) := by decide +kernel
theorem dX12_people_0 : decode cX12_people 0 = .ok (.aload_n 0, 1) := by decide +kernel
theorem dX12_people_1 : decode cX12_people 1 = .ok (.getfield 89, 3) := by decide +kernel
theorem dX12_people_4 : decode cX12_people 4 = .ok (.iconst 0, 1) := by decide +kernel
theorem dX12_people_5 : decode cX12_people 5 = .ok (.iaload, 1) := by decide +kernel
theorem dX12_people_6 : decode cX12_people 6 = .ok (.ireturn, 1) := by decide +kernel
theorem dX12_wrongs_0 : decode cX12_wrongs 0 = .ok (.aload_n 0, 1) := by decide +kernel
theorem dX12_wrongs_1 : decode cX12_wrongs 1 = .ok (.getfield 89, 3) := by decide +kernel
theorem dX12_wrongs_4 : decode cX12_wrongs 4 = .ok (.iconst 2, 1) := by decide +kernel
theorem dX12_wrongs_5 : decode cX12_wrongs 5 = .ok (.iaload, 1) := by decide +kernel
theorem dX12_wrongs_6 : decode cX12_wrongs 6 = .ok (.ireturn, 1) := by decide +kernel
theorem dX12_walks_0 : decode cX12_walks 0 = .ok (.aload_n 0, 1) := by decide +kernel
theorem dX12_walks_1 : decode cX12_walks 1 = .ok (.getfield 89, 3) := by decide +kernel
theorem dX12_walks_4 : decode cX12_walks 4 = .ok (.iconst 3, 1) := by decide +kernel
theorem dX12_walks_5 : decode cX12_walks 5 = .ok (.iaload, 1) := by decide +kernel
theorem dX12_walks_6 : decode cX12_walks 6 = .ok (.ireturn, 1) := by decide +kernel
theorem dX12_kindOf_0 : decode cX12_kindOf 0 = .ok (.aload_n 0, 1) := by decide +kernel
theorem dX12_kindOf_1 : decode cX12_kindOf 1 = .ok (.getfield 89, 3) := by decide +kernel
theorem dX12_kindOf_4 : decode cX12_kindOf 4 = .ok (.bipush 9, 2) := by decide +kernel
theorem dX12_kindOf_6 : decode cX12_kindOf 6 = .ok (.iconst 2, 1) := by decide +kernel
theorem dX12_kindOf_7 : decode cX12_kindOf 7 = .ok (.iload_n 1, 1) := by decide +kernel
theorem dX12_kindOf_8 : decode cX12_kindOf 8 = .ok (.imul, 1) := by decide +kernel
theorem dX12_kindOf_9 : decode cX12_kindOf 9 = .ok (.iadd, 1) := by decide +kernel
theorem dX12_kindOf_10 : decode cX12_kindOf 10 = .ok (.iaload, 1) := by decide +kernel
theorem dX12_kindOf_11 : decode cX12_kindOf 11 = .ok (.ireturn, 1) := by decide +kernel
theorem dX12_wrongOf_0 : decode cX12_wrongOf 0 = .ok (.aload_n 0, 1) := by decide +kernel
theorem dX12_wrongOf_1 : decode cX12_wrongOf 1 = .ok (.getfield 89, 3) := by decide +kernel
theorem dX12_wrongOf_4 : decode cX12_wrongOf 4 = .ok (.bipush 57, 2) := by decide +kernel
theorem dX12_wrongOf_6 : decode cX12_wrongOf 6 = .ok (.iconst 3, 1) := by decide +kernel
theorem dX12_wrongOf_7 : decode cX12_wrongOf 7 = .ok (.iload_n 1, 1) := by decide +kernel
theorem dX12_wrongOf_8 : decode cX12_wrongOf 8 = .ok (.imul, 1) := by decide +kernel
theorem dX12_wrongOf_9 : decode cX12_wrongOf 9 = .ok (.iadd, 1) := by decide +kernel
theorem dX12_wrongOf_10 : decode cX12_wrongOf 10 = .ok (.iload_n 2, 1) := by decide +kernel
theorem dX12_wrongOf_11 : decode cX12_wrongOf 11 = .ok (.iadd, 1) := by decide +kernel
theorem dX12_wrongOf_12 : decode cX12_wrongOf 12 = .ok (.iaload, 1) := by decide +kernel
theorem dX12_wrongOf_13 : decode cX12_wrongOf 13 = .ok (.ireturn, 1) := by decide +kernel
theorem dX12_isPerson_0 : decode cX12_isPerson 0 = .ok (.iload_n 1, 1) := by decide +kernel
theorem dX12_isPerson_1 : decode cX12_isPerson 1 = .ok (.ifCond .lt 15, 3) := by decide +kernel
theorem dX12_isPerson_4 : decode cX12_isPerson 4 = .ok (.iload_n 1, 1) := by decide +kernel
theorem dX12_isPerson_5 : decode cX12_isPerson 5 = .ok (.aload_n 0, 1) := by decide +kernel
theorem dX12_isPerson_6 : decode cX12_isPerson 6 = .ok (.invokevirtual 294, 3) := by decide +kernel
theorem dX12_isPerson_9 : decode cX12_isPerson 9 = .ok (.if_icmp .ge 7, 3) := by decide +kernel
theorem dX12_isPerson_12 : decode cX12_isPerson 12 = .ok (.iconst 1, 1) := by decide +kernel
theorem dX12_isPerson_13 : decode cX12_isPerson 13 = .ok (.goto 4, 3) := by decide +kernel
theorem dX12_isPerson_16 : decode cX12_isPerson 16 = .ok (.iconst 0, 1) := by decide +kernel
theorem dX12_isPerson_17 : decode cX12_isPerson 17 = .ok (.ireturn, 1) := by decide +kernel
theorem dX12_isWrong_0 : decode cX12_isWrong 0 = .ok (.iload_n 1, 1) := by decide +kernel
theorem dX12_isWrong_1 : decode cX12_isWrong 1 = .ok (.ifCond .lt 15, 3) := by decide +kernel
theorem dX12_isWrong_4 : decode cX12_isWrong 4 = .ok (.iload_n 1, 1) := by decide +kernel
theorem dX12_isWrong_5 : decode cX12_isWrong 5 = .ok (.aload_n 0, 1) := by decide +kernel
theorem dX12_isWrong_6 : decode cX12_isWrong 6 = .ok (.invokevirtual 273, 3) := by decide +kernel
theorem dX12_isWrong_9 : decode cX12_isWrong 9 = .ok (.if_icmp .ge 7, 3) := by decide +kernel
theorem dX12_isWrong_12 : decode cX12_isWrong 12 = .ok (.iconst 1, 1) := by decide +kernel
theorem dX12_isWrong_13 : decode cX12_isWrong 13 = .ok (.goto 4, 3) := by decide +kernel
theorem dX12_isWrong_16 : decode cX12_isWrong 16 = .ok (.iconst 0, 1) := by decide +kernel
theorem dX12_isWrong_17 : decode cX12_isWrong 17 = .ok (.ireturn, 1) := by decide +kernel
theorem dX12_isOpen_0 : decode cX12_isOpen 0 = .ok (.aload_n 0, 1) := by decide +kernel
theorem dX12_isOpen_1 : decode cX12_isOpen 1 = .ok (.iload_n 2, 1) := by decide +kernel
theorem dX12_isOpen_2 : decode cX12_isOpen 2 = .ok (.invokevirtual 313, 3) := by decide +kernel
theorem dX12_isOpen_5 : decode cX12_isOpen 5 = .ok (.ifCond .eq 21, 3) := by decide +kernel
theorem dX12_isOpen_8 : decode cX12_isOpen 8 = .ok (.aload_n 0, 1) := by decide +kernel
theorem dX12_isOpen_9 : decode cX12_isOpen 9 = .ok (.getfield 113, 3) := by decide +kernel
theorem dX12_isOpen_12 : decode cX12_isOpen 12 = .ok (.iload_n 1, 1) := by decide +kernel
theorem dX12_isOpen_13 : decode cX12_isOpen 13 = .ok (.bipush 22, 2) := by decide +kernel
theorem dX12_isOpen_15 : decode cX12_isOpen 15 = .ok (.iadd, 1) := by decide +kernel
theorem dX12_isOpen_16 : decode cX12_isOpen 16 = .ok (.iload_n 2, 1) := by decide +kernel
theorem dX12_isOpen_17 : decode cX12_isOpen 17 = .ok (.iadd, 1) := by decide +kernel
theorem dX12_isOpen_18 : decode cX12_isOpen 18 = .ok (.iaload, 1) := by decide +kernel
theorem dX12_isOpen_19 : decode cX12_isOpen 19 = .ok (.ifCond .ne 7, 3) := by decide +kernel
theorem dX12_isOpen_22 : decode cX12_isOpen 22 = .ok (.iconst 1, 1) := by decide +kernel
theorem dX12_isOpen_23 : decode cX12_isOpen 23 = .ok (.goto 4, 3) := by decide +kernel
theorem dX12_isOpen_26 : decode cX12_isOpen 26 = .ok (.iconst 0, 1) := by decide +kernel
theorem dX12_isOpen_27 : decode cX12_isOpen 27 = .ok (.ireturn, 1) := by decide +kernel
theorem dX12_barOf_0 : decode cX12_barOf 0 = .ok (.aload_n 0, 1) := by decide +kernel
theorem dX12_barOf_1 : decode cX12_barOf 1 = .ok (.getfield 89, 3) := by decide +kernel
theorem dX12_barOf_4 : decode cX12_barOf 4 = .ok (.iconst 4, 1) := by decide +kernel
theorem dX12_barOf_5 : decode cX12_barOf 5 = .ok (.iaload, 1) := by decide +kernel
theorem dX12_barOf_6 : decode cX12_barOf 6 = .ok (.aload_n 0, 1) := by decide +kernel
theorem dX12_barOf_7 : decode cX12_barOf 7 = .ok (.aload_n 0, 1) := by decide +kernel
theorem dX12_barOf_8 : decode cX12_barOf 8 = .ok (.iload_n 1, 1) := by decide +kernel
theorem dX12_barOf_9 : decode cX12_barOf 9 = .ok (.iconst 1, 1) := by decide +kernel
theorem dX12_barOf_10 : decode cX12_barOf 10 = .ok (.invokevirtual 297, 3) := by decide +kernel
theorem dX12_barOf_13 : decode cX12_barOf 13 = .ok (.invokevirtual 316, 3) := by decide +kernel
theorem dX12_barOf_16 : decode cX12_barOf 16 = .ok (.iconst 2, 1) := by decide +kernel
theorem dX12_barOf_17 : decode cX12_barOf 17 = .ok (.if_icmp .ne 7, 3) := by decide +kernel
theorem dX12_barOf_20 : decode cX12_barOf 20 = .ok (.iconst 3, 1) := by decide +kernel
theorem dX12_barOf_21 : decode cX12_barOf 21 = .ok (.goto 4, 3) := by decide +kernel
theorem dX12_barOf_24 : decode cX12_barOf 24 = .ok (.iconst 0, 1) := by decide +kernel
theorem dX12_barOf_25 : decode cX12_barOf 25 = .ok (.iadd, 1) := by decide +kernel
theorem dX12_barOf_26 : decode cX12_barOf 26 = .ok (.ireturn, 1) := by decide +kernel
theorem dX12_isRipe_0 : decode cX12_isRipe 0 = .ok (.aload_n 0, 1) := by decide +kernel
theorem dX12_isRipe_1 : decode cX12_isRipe 1 = .ok (.iload_n 1, 1) := by decide +kernel
theorem dX12_isRipe_2 : decode cX12_isRipe 2 = .ok (.iload_n 2, 1) := by decide +kernel
theorem dX12_isRipe_3 : decode cX12_isRipe 3 = .ok (.invokevirtual 319, 3) := by decide +kernel
theorem dX12_isRipe_6 : decode cX12_isRipe 6 = .ok (.ifCond .eq 26, 3) := by decide +kernel
theorem dX12_isRipe_9 : decode cX12_isRipe 9 = .ok (.aload_n 0, 1) := by decide +kernel
theorem dX12_isRipe_10 : decode cX12_isRipe 10 = .ok (.getfield 113, 3) := by decide +kernel
theorem dX12_isRipe_13 : decode cX12_isRipe 13 = .ok (.iload_n 1, 1) := by decide +kernel
theorem dX12_isRipe_14 : decode cX12_isRipe 14 = .ok (.bipush 14, 2) := by decide +kernel
theorem dX12_isRipe_16 : decode cX12_isRipe 16 = .ok (.iadd, 1) := by decide +kernel
theorem dX12_isRipe_17 : decode cX12_isRipe 17 = .ok (.iload_n 2, 1) := by decide +kernel
theorem dX12_isRipe_18 : decode cX12_isRipe 18 = .ok (.iadd, 1) := by decide +kernel
theorem dX12_isRipe_19 : decode cX12_isRipe 19 = .ok (.iaload, 1) := by decide +kernel
theorem dX12_isRipe_20 : decode cX12_isRipe 20 = .ok (.aload_n 0, 1) := by decide +kernel
theorem dX12_isRipe_21 : decode cX12_isRipe 21 = .ok (.iload_n 2, 1) := by decide +kernel
theorem dX12_isRipe_22 : decode cX12_isRipe 22 = .ok (.invokevirtual 323, 3) := by decide +kernel
theorem dX12_isRipe_25 : decode cX12_isRipe 25 = .ok (.if_icmp .gt 7, 3) := by decide +kernel
theorem dX12_isRipe_28 : decode cX12_isRipe 28 = .ok (.iconst 1, 1) := by decide +kernel
theorem dX12_isRipe_29 : decode cX12_isRipe 29 = .ok (.goto 4, 3) := by decide +kernel
theorem dX12_isRipe_32 : decode cX12_isRipe 32 = .ok (.iconst 0, 1) := by decide +kernel
theorem dX12_isRipe_33 : decode cX12_isRipe 33 = .ok (.ireturn, 1) := by decide +kernel
theorem dX12_lawOf_0 : decode cX12_lawOf 0 = .ok (.aload_n 0, 1) := by decide +kernel
theorem dX12_lawOf_1 : decode cX12_lawOf 1 = .ok (.getfield 107, 3) := by decide +kernel
theorem dX12_lawOf_4 : decode cX12_lawOf 4 = .ok (.iconst 0, 1) := by decide +kernel
theorem dX12_lawOf_5 : decode cX12_lawOf 5 = .ok (.aload_n 0, 1) := by decide +kernel
theorem dX12_lawOf_6 : decode cX12_lawOf 6 = .ok (.iload_n 2, 1) := by decide +kernel
theorem dX12_lawOf_7 : decode cX12_lawOf 7 = .ok (.iconst 2, 1) := by decide +kernel
theorem dX12_lawOf_8 : decode cX12_lawOf 8 = .ok (.invokevirtual 297, 3) := by decide +kernel
theorem dX12_lawOf_11 : decode cX12_lawOf 11 = .ok (.iastore, 1) := by decide +kernel
theorem dX12_lawOf_12 : decode cX12_lawOf 12 = .ok (.aload_n 0, 1) := by decide +kernel
theorem dX12_lawOf_13 : decode cX12_lawOf 13 = .ok (.getfield 107, 3) := by decide +kernel
theorem dX12_lawOf_16 : decode cX12_lawOf 16 = .ok (.iconst 1, 1) := by decide +kernel
theorem dX12_lawOf_17 : decode cX12_lawOf 17 = .ok (.iload_n 3, 1) := by decide +kernel
theorem dX12_lawOf_18 : decode cX12_lawOf 18 = .ok (.iastore, 1) := by decide +kernel
theorem dX12_lawOf_19 : decode cX12_lawOf 19 = .ok (.aload_n 0, 1) := by decide +kernel
theorem dX12_lawOf_20 : decode cX12_lawOf 20 = .ok (.getfield 107, 3) := by decide +kernel
theorem dX12_lawOf_23 : decode cX12_lawOf 23 = .ok (.iconst 2, 1) := by decide +kernel
theorem dX12_lawOf_24 : decode cX12_lawOf 24 = .ok (.iload 4, 2) := by decide +kernel
theorem dX12_lawOf_26 : decode cX12_lawOf 26 = .ok (.iastore, 1) := by decide +kernel
theorem dX12_lawOf_27 : decode cX12_lawOf 27 = .ok (.aload_n 0, 1) := by decide +kernel
theorem dX12_lawOf_28 : decode cX12_lawOf 28 = .ok (.getfield 89, 3) := by decide +kernel
theorem dX12_lawOf_31 : decode cX12_lawOf 31 = .ok (.bipush 6, 2) := by decide +kernel
theorem dX12_lawOf_33 : decode cX12_lawOf 33 = .ok (.iload_n 1, 1) := by decide +kernel
theorem dX12_lawOf_34 : decode cX12_lawOf 34 = .ok (.iadd, 1) := by decide +kernel
theorem dX12_lawOf_35 : decode cX12_lawOf 35 = .ok (.iaload, 1) := by decide +kernel
theorem dX12_lawOf_36 : decode cX12_lawOf 36 = .ok (.ifCond .ge 8, 3) := by decide +kernel
theorem dX12_lawOf_39 : decode cX12_lawOf 39 = .ok (.iload 5, 2) := by decide +kernel
theorem dX12_lawOf_41 : decode cX12_lawOf 41 = .ok (.goto 16, 3) := by decide +kernel
theorem dX12_lawOf_44 : decode cX12_lawOf 44 = .ok (.aload_n 0, 1) := by decide +kernel
theorem dX12_lawOf_45 : decode cX12_lawOf 45 = .ok (.aload_n 0, 1) := by decide +kernel
theorem dX12_lawOf_46 : decode cX12_lawOf 46 = .ok (.getfield 89, 3) := by decide +kernel
theorem dX12_lawOf_49 : decode cX12_lawOf 49 = .ok (.bipush 6, 2) := by decide +kernel
theorem dX12_lawOf_51 : decode cX12_lawOf 51 = .ok (.iload_n 1, 1) := by decide +kernel
theorem dX12_lawOf_52 : decode cX12_lawOf 52 = .ok (.iadd, 1) := by decide +kernel
theorem dX12_lawOf_53 : decode cX12_lawOf 53 = .ok (.iaload, 1) := by decide +kernel
theorem dX12_lawOf_54 : decode cX12_lawOf 54 = .ok (.invokevirtual 326, 3) := by decide +kernel
theorem dX12_lawOf_57 : decode cX12_lawOf 57 = .ok (.ireturn, 1) := by decide +kernel
theorem dX12_burnOf_0 : decode cX12_burnOf 0 = .ok (.aload_n 0, 1) := by decide +kernel
theorem dX12_burnOf_1 : decode cX12_burnOf 1 = .ok (.iconst 2, 1) := by decide +kernel
theorem dX12_burnOf_2 : decode cX12_burnOf 2 = .ok (.iload_n 1, 1) := by decide +kernel
theorem dX12_burnOf_3 : decode cX12_burnOf 3 = .ok (.iload_n 2, 1) := by decide +kernel
theorem dX12_burnOf_4 : decode cX12_burnOf 4 = .ok (.iload_n 3, 1) := by decide +kernel
theorem dX12_burnOf_5 : decode cX12_burnOf 5 = .ok (.aload_n 0, 1) := by decide +kernel
theorem dX12_burnOf_6 : decode cX12_burnOf 6 = .ok (.iload_n 1, 1) := by decide +kernel
theorem dX12_burnOf_7 : decode cX12_burnOf 7 = .ok (.iconst 2, 1) := by decide +kernel
theorem dX12_burnOf_8 : decode cX12_burnOf 8 = .ok (.invokevirtual 297, 3) := by decide +kernel
theorem dX12_burnOf_11 : decode cX12_burnOf 11 = .ok (.invokevirtual 329, 3) := by decide +kernel
theorem dX12_burnOf_14 : decode cX12_burnOf 14 = .ok (.istore 4, 2) := by decide +kernel
theorem dX12_burnOf_16 : decode cX12_burnOf 16 = .ok (.iload 4, 2) := by decide +kernel
theorem dX12_burnOf_18 : decode cX12_burnOf 18 = .ok (.ifCond .ge 7, 3) := by decide +kernel
theorem dX12_burnOf_21 : decode cX12_burnOf 21 = .ok (.iconst 0, 1) := by decide +kernel
theorem dX12_burnOf_22 : decode cX12_burnOf 22 = .ok (.goto 17, 3) := by decide +kernel
theorem dX12_burnOf_25 : decode cX12_burnOf 25 = .ok (.iload 4, 2) := by decide +kernel
theorem dX12_burnOf_27 : decode cX12_burnOf 27 = .ok (.bipush 30, 2) := by decide +kernel
theorem dX12_burnOf_29 : decode cX12_burnOf 29 = .ok (.if_icmp .le 8, 3) := by decide +kernel
theorem dX12_burnOf_32 : decode cX12_burnOf 32 = .ok (.bipush 30, 2) := by decide +kernel
theorem dX12_burnOf_34 : decode cX12_burnOf 34 = .ok (.goto 5, 3) := by decide +kernel
theorem dX12_burnOf_37 : decode cX12_burnOf 37 = .ok (.iload 4, 2) := by decide +kernel
theorem dX12_burnOf_39 : decode cX12_burnOf 39 = .ok (.istore 4, 2) := by decide +kernel
theorem dX12_burnOf_41 : decode cX12_burnOf 41 = .ok (.aload_n 0, 1) := by decide +kernel
theorem dX12_burnOf_42 : decode cX12_burnOf 42 = .ok (.aload_n 0, 1) := by decide +kernel
theorem dX12_burnOf_43 : decode cX12_burnOf 43 = .ok (.iload_n 1, 1) := by decide +kernel
theorem dX12_burnOf_44 : decode cX12_burnOf 44 = .ok (.iconst 1, 1) := by decide +kernel
theorem dX12_burnOf_45 : decode cX12_burnOf 45 = .ok (.invokevirtual 297, 3) := by decide +kernel
theorem dX12_burnOf_48 : decode cX12_burnOf 48 = .ok (.invokevirtual 316, 3) := by decide +kernel
theorem dX12_burnOf_51 : decode cX12_burnOf 51 = .ok (.iconst 3, 1) := by decide +kernel
theorem dX12_burnOf_52 : decode cX12_burnOf 52 = .ok (.if_icmp .ne 10, 3) := by decide +kernel
theorem dX12_burnOf_55 : decode cX12_burnOf 55 = .ok (.iconst 2, 1) := by decide +kernel
theorem dX12_burnOf_56 : decode cX12_burnOf 56 = .ok (.iload 4, 2) := by decide +kernel
theorem dX12_burnOf_58 : decode cX12_burnOf 58 = .ok (.imul, 1) := by decide +kernel
theorem dX12_burnOf_59 : decode cX12_burnOf 59 = .ok (.goto 5, 3) := by decide +kernel
theorem dX12_burnOf_62 : decode cX12_burnOf 62 = .ok (.iload 4, 2) := by decide +kernel
theorem dX12_burnOf_64 : decode cX12_burnOf 64 = .ok (.ireturn, 1) := by decide +kernel
theorem dX12_atMost_0 : decode cX12_atMost 0 = .ok (.iload_n 0, 1) := by decide +kernel
theorem dX12_atMost_1 : decode cX12_atMost 1 = .ok (.ifCond .ge 7, 3) := by decide +kernel
theorem dX12_atMost_4 : decode cX12_atMost 4 = .ok (.iconst 0, 1) := by decide +kernel
theorem dX12_atMost_5 : decode cX12_atMost 5 = .ok (.goto 15, 3) := by decide +kernel
theorem dX12_atMost_8 : decode cX12_atMost 8 = .ok (.iload_n 0, 1) := by decide +kernel
theorem dX12_atMost_9 : decode cX12_atMost 9 = .ok (.bipush 99, 2) := by decide +kernel
theorem dX12_atMost_11 : decode cX12_atMost 11 = .ok (.if_icmp .le 8, 3) := by decide +kernel
theorem dX12_atMost_14 : decode cX12_atMost 14 = .ok (.bipush 99, 2) := by decide +kernel
theorem dX12_atMost_16 : decode cX12_atMost 16 = .ok (.goto 4, 3) := by decide +kernel
theorem dX12_atMost_19 : decode cX12_atMost 19 = .ok (.iload_n 0, 1) := by decide +kernel
theorem dX12_atMost_20 : decode cX12_atMost 20 = .ok (.ireturn, 1) := by decide +kernel
theorem dX12_maySay_0 : decode cX12_maySay 0 = .ok (.aload_n 0, 1) := by decide +kernel
theorem dX12_maySay_1 : decode cX12_maySay 1 = .ok (.iload_n 1, 1) := by decide +kernel
theorem dX12_maySay_2 : decode cX12_maySay 2 = .ok (.iload_n 2, 1) := by decide +kernel
theorem dX12_maySay_3 : decode cX12_maySay 3 = .ok (.invokevirtual 319, 3) := by decide +kernel
theorem dX12_maySay_6 : decode cX12_maySay 6 = .ok (.ifCond .eq 21, 3) := by decide +kernel
theorem dX12_maySay_9 : decode cX12_maySay 9 = .ok (.aload_n 0, 1) := by decide +kernel
theorem dX12_maySay_10 : decode cX12_maySay 10 = .ok (.getfield 113, 3) := by decide +kernel
theorem dX12_maySay_13 : decode cX12_maySay 13 = .ok (.iload_n 1, 1) := by decide +kernel
theorem dX12_maySay_14 : decode cX12_maySay 14 = .ok (.bipush 30, 2) := by decide +kernel
theorem dX12_maySay_16 : decode cX12_maySay 16 = .ok (.iadd, 1) := by decide +kernel
theorem dX12_maySay_17 : decode cX12_maySay 17 = .ok (.iload_n 2, 1) := by decide +kernel
theorem dX12_maySay_18 : decode cX12_maySay 18 = .ok (.iadd, 1) := by decide +kernel
theorem dX12_maySay_19 : decode cX12_maySay 19 = .ok (.iaload, 1) := by decide +kernel
theorem dX12_maySay_20 : decode cX12_maySay 20 = .ok (.ifCond .ne 7, 3) := by decide +kernel
theorem dX12_maySay_23 : decode cX12_maySay 23 = .ok (.iconst 1, 1) := by decide +kernel
theorem dX12_maySay_24 : decode cX12_maySay 24 = .ok (.goto 4, 3) := by decide +kernel
theorem dX12_maySay_27 : decode cX12_maySay 27 = .ok (.iconst 0, 1) := by decide +kernel
theorem dX12_maySay_28 : decode cX12_maySay 28 = .ok (.ireturn, 1) := by decide +kernel
theorem dX12_says_0 : decode cX12_says 0 = .ok (.aload_n 0, 1) := by decide +kernel
theorem dX12_says_1 : decode cX12_says 1 = .ok (.iconst 0, 1) := by decide +kernel
theorem dX12_says_2 : decode cX12_says 2 = .ok (.iload_n 2, 1) := by decide +kernel
theorem dX12_says_3 : decode cX12_says 3 = .ok (.aload_n 0, 1) := by decide +kernel
theorem dX12_says_4 : decode cX12_says 4 = .ok (.getfield 113, 3) := by decide +kernel
theorem dX12_says_7 : decode cX12_says 7 = .ok (.iload_n 1, 1) := by decide +kernel
theorem dX12_says_8 : decode cX12_says 8 = .ok (.bipush 14, 2) := by decide +kernel
theorem dX12_says_10 : decode cX12_says 10 = .ok (.iadd, 1) := by decide +kernel
theorem dX12_says_11 : decode cX12_says 11 = .ok (.iload_n 2, 1) := by decide +kernel
theorem dX12_says_12 : decode cX12_says 12 = .ok (.iadd, 1) := by decide +kernel
theorem dX12_says_13 : decode cX12_says 13 = .ok (.iaload, 1) := by decide +kernel
theorem dX12_says_14 : decode cX12_says 14 = .ok (.aload_n 0, 1) := by decide +kernel
theorem dX12_says_15 : decode cX12_says 15 = .ok (.getfield 113, 3) := by decide +kernel
theorem dX12_says_18 : decode cX12_says 18 = .ok (.iload_n 1, 1) := by decide +kernel
theorem dX12_says_19 : decode cX12_says 19 = .ok (.iconst 0, 1) := by decide +kernel
theorem dX12_says_20 : decode cX12_says 20 = .ok (.iadd, 1) := by decide +kernel
theorem dX12_says_21 : decode cX12_says 21 = .ok (.iaload, 1) := by decide +kernel
theorem dX12_says_22 : decode cX12_says 22 = .ok (.iconst 2, 1) := by decide +kernel
theorem dX12_says_23 : decode cX12_says 23 = .ok (.invokevirtual 329, 3) := by decide +kernel
theorem dX12_says_26 : decode cX12_says 26 = .ok (.invokestatic 333, 3) := by decide +kernel
theorem dX12_says_29 : decode cX12_says 29 = .ok (.istore_n 3, 1) := by decide +kernel
theorem dX12_says_30 : decode cX12_says 30 = .ok (.aload_n 0, 1) := by decide +kernel
theorem dX12_says_31 : decode cX12_says 31 = .ok (.getfield 113, 3) := by decide +kernel
theorem dX12_says_34 : decode cX12_says 34 = .ok (.iload_n 1, 1) := by decide +kernel
theorem dX12_says_35 : decode cX12_says 35 = .ok (.bipush 14, 2) := by decide +kernel
theorem dX12_says_37 : decode cX12_says 37 = .ok (.iadd, 1) := by decide +kernel
theorem dX12_says_38 : decode cX12_says 38 = .ok (.iload_n 2, 1) := by decide +kernel
theorem dX12_says_39 : decode cX12_says 39 = .ok (.iadd, 1) := by decide +kernel
theorem dX12_says_40 : decode cX12_says 40 = .ok (.aload_n 0, 1) := by decide +kernel
theorem dX12_says_41 : decode cX12_says 41 = .ok (.getfield 113, 3) := by decide +kernel
theorem dX12_says_44 : decode cX12_says 44 = .ok (.iload_n 1, 1) := by decide +kernel
theorem dX12_says_45 : decode cX12_says 45 = .ok (.bipush 14, 2) := by decide +kernel
theorem dX12_says_47 : decode cX12_says 47 = .ok (.iadd, 1) := by decide +kernel
theorem dX12_says_48 : decode cX12_says 48 = .ok (.iload_n 2, 1) := by decide +kernel
theorem dX12_says_49 : decode cX12_says 49 = .ok (.iadd, 1) := by decide +kernel
theorem dX12_says_50 : decode cX12_says 50 = .ok (.iaload, 1) := by decide +kernel
theorem dX12_says_51 : decode cX12_says 51 = .ok (.iload_n 3, 1) := by decide +kernel
theorem dX12_says_52 : decode cX12_says 52 = .ok (.isub, 1) := by decide +kernel
theorem dX12_says_53 : decode cX12_says 53 = .ok (.invokestatic 333, 3) := by decide +kernel
theorem dX12_says_56 : decode cX12_says 56 = .ok (.iastore, 1) := by decide +kernel
theorem dX12_says_57 : decode cX12_says 57 = .ok (.aload_n 0, 1) := by decide +kernel
theorem dX12_says_58 : decode cX12_says 58 = .ok (.getfield 113, 3) := by decide +kernel
theorem dX12_says_61 : decode cX12_says 61 = .ok (.iload_n 1, 1) := by decide +kernel
theorem dX12_says_62 : decode cX12_says 62 = .ok (.bipush 30, 2) := by decide +kernel
theorem dX12_says_64 : decode cX12_says 64 = .ok (.iadd, 1) := by decide +kernel
theorem dX12_says_65 : decode cX12_says 65 = .ok (.iload_n 2, 1) := by decide +kernel
theorem dX12_says_66 : decode cX12_says 66 = .ok (.iadd, 1) := by decide +kernel
theorem dX12_says_67 : decode cX12_says 67 = .ok (.iconst 1, 1) := by decide +kernel
theorem dX12_says_68 : decode cX12_says 68 = .ok (.iastore, 1) := by decide +kernel
theorem dX12_says_69 : decode cX12_says 69 = .ok (.aload_n 0, 1) := by decide +kernel
theorem dX12_says_70 : decode cX12_says 70 = .ok (.getfield 113, 3) := by decide +kernel
theorem dX12_says_73 : decode cX12_says 73 = .ok (.iload_n 1, 1) := by decide +kernel
theorem dX12_says_74 : decode cX12_says 74 = .ok (.bipush 14, 2) := by decide +kernel
theorem dX12_says_76 : decode cX12_says 76 = .ok (.iadd, 1) := by decide +kernel
theorem dX12_says_77 : decode cX12_says 77 = .ok (.iload_n 2, 1) := by decide +kernel
theorem dX12_says_78 : decode cX12_says 78 = .ok (.iadd, 1) := by decide +kernel
theorem dX12_says_79 : decode cX12_says 79 = .ok (.iaload, 1) := by decide +kernel
theorem dX12_says_80 : decode cX12_says 80 = .ok (.ireturn, 1) := by decide +kernel
theorem dX12_mayGive_0 : decode cX12_mayGive 0 = .ok (.aload_n 0, 1) := by decide +kernel
theorem dX12_mayGive_1 : decode cX12_mayGive 1 = .ok (.iload_n 1, 1) := by decide +kernel
theorem dX12_mayGive_2 : decode cX12_mayGive 2 = .ok (.iload_n 2, 1) := by decide +kernel
theorem dX12_mayGive_3 : decode cX12_mayGive 3 = .ok (.invokevirtual 319, 3) := by decide +kernel
theorem dX12_mayGive_6 : decode cX12_mayGive 6 = .ok (.ifCond .eq 27, 3) := by decide +kernel
theorem dX12_mayGive_9 : decode cX12_mayGive 9 = .ok (.aload_n 0, 1) := by decide +kernel
theorem dX12_mayGive_10 : decode cX12_mayGive 10 = .ok (.getfield 113, 3) := by decide +kernel
theorem dX12_mayGive_13 : decode cX12_mayGive 13 = .ok (.iload_n 1, 1) := by decide +kernel
theorem dX12_mayGive_14 : decode cX12_mayGive 14 = .ok (.bipush 8, 2) := by decide +kernel
theorem dX12_mayGive_16 : decode cX12_mayGive 16 = .ok (.iadd, 1) := by decide +kernel
theorem dX12_mayGive_17 : decode cX12_mayGive 17 = .ok (.aload_n 0, 1) := by decide +kernel
theorem dX12_mayGive_18 : decode cX12_mayGive 18 = .ok (.iload_n 2, 1) := by decide +kernel
theorem dX12_mayGive_19 : decode cX12_mayGive 19 = .ok (.iconst 0, 1) := by decide +kernel
theorem dX12_mayGive_20 : decode cX12_mayGive 20 = .ok (.invokevirtual 297, 3) := by decide +kernel
theorem dX12_mayGive_23 : decode cX12_mayGive 23 = .ok (.iadd, 1) := by decide +kernel
theorem dX12_mayGive_24 : decode cX12_mayGive 24 = .ok (.iaload, 1) := by decide +kernel
theorem dX12_mayGive_25 : decode cX12_mayGive 25 = .ok (.iload_n 3, 1) := by decide +kernel
theorem dX12_mayGive_26 : decode cX12_mayGive 26 = .ok (.if_icmp .lt 7, 3) := by decide +kernel
theorem dX12_mayGive_29 : decode cX12_mayGive 29 = .ok (.iconst 1, 1) := by decide +kernel
theorem dX12_mayGive_30 : decode cX12_mayGive 30 = .ok (.goto 4, 3) := by decide +kernel
theorem dX12_mayGive_33 : decode cX12_mayGive 33 = .ok (.iconst 0, 1) := by decide +kernel
theorem dX12_mayGive_34 : decode cX12_mayGive 34 = .ok (.ireturn, 1) := by decide +kernel
theorem dX12_gives_0 : decode cX12_gives 0 = .ok (.aload_n 0, 1) := by decide +kernel
theorem dX12_gives_1 : decode cX12_gives 1 = .ok (.getfield 113, 3) := by decide +kernel
theorem dX12_gives_4 : decode cX12_gives 4 = .ok (.iload_n 1, 1) := by decide +kernel
theorem dX12_gives_5 : decode cX12_gives 5 = .ok (.bipush 8, 2) := by decide +kernel
theorem dX12_gives_7 : decode cX12_gives 7 = .ok (.iadd, 1) := by decide +kernel
theorem dX12_gives_8 : decode cX12_gives 8 = .ok (.aload_n 0, 1) := by decide +kernel
theorem dX12_gives_9 : decode cX12_gives 9 = .ok (.iload_n 2, 1) := by decide +kernel
theorem dX12_gives_10 : decode cX12_gives 10 = .ok (.iconst 0, 1) := by decide +kernel
theorem dX12_gives_11 : decode cX12_gives 11 = .ok (.invokevirtual 297, 3) := by decide +kernel
theorem dX12_gives_14 : decode cX12_gives 14 = .ok (.iadd, 1) := by decide +kernel
theorem dX12_gives_15 : decode cX12_gives 15 = .ok (.dup2, 1) := by decide +kernel
theorem dX12_gives_16 : decode cX12_gives 16 = .ok (.iaload, 1) := by decide +kernel
theorem dX12_gives_17 : decode cX12_gives 17 = .ok (.iload_n 3, 1) := by decide +kernel
theorem dX12_gives_18 : decode cX12_gives 18 = .ok (.isub, 1) := by decide +kernel
theorem dX12_gives_19 : decode cX12_gives 19 = .ok (.iastore, 1) := by decide +kernel
theorem dX12_gives_20 : decode cX12_gives 20 = .ok (.aload_n 0, 1) := by decide +kernel
theorem dX12_gives_21 : decode cX12_gives 21 = .ok (.getfield 113, 3) := by decide +kernel
theorem dX12_gives_24 : decode cX12_gives 24 = .ok (.iload_n 1, 1) := by decide +kernel
theorem dX12_gives_25 : decode cX12_gives 25 = .ok (.bipush 8, 2) := by decide +kernel
theorem dX12_gives_27 : decode cX12_gives 27 = .ok (.iadd, 1) := by decide +kernel
theorem dX12_gives_28 : decode cX12_gives 28 = .ok (.aload_n 0, 1) := by decide +kernel
theorem dX12_gives_29 : decode cX12_gives 29 = .ok (.iload_n 2, 1) := by decide +kernel
theorem dX12_gives_30 : decode cX12_gives 30 = .ok (.iconst 1, 1) := by decide +kernel
theorem dX12_gives_31 : decode cX12_gives 31 = .ok (.invokevirtual 297, 3) := by decide +kernel
theorem dX12_gives_34 : decode cX12_gives 34 = .ok (.iadd, 1) := by decide +kernel
theorem dX12_gives_35 : decode cX12_gives 35 = .ok (.dup2, 1) := by decide +kernel
theorem dX12_gives_36 : decode cX12_gives 36 = .ok (.iaload, 1) := by decide +kernel
theorem dX12_gives_37 : decode cX12_gives 37 = .ok (.iload_n 3, 1) := by decide +kernel
theorem dX12_gives_38 : decode cX12_gives 38 = .ok (.iadd, 1) := by decide +kernel
theorem dX12_gives_39 : decode cX12_gives 39 = .ok (.iastore, 1) := by decide +kernel
theorem dX12_gives_40 : decode cX12_gives 40 = .ok (.aload_n 0, 1) := by decide +kernel
theorem dX12_gives_41 : decode cX12_gives 41 = .ok (.getfield 113, 3) := by decide +kernel
theorem dX12_gives_44 : decode cX12_gives 44 = .ok (.iload_n 1, 1) := by decide +kernel
theorem dX12_gives_45 : decode cX12_gives 45 = .ok (.bipush 14, 2) := by decide +kernel
theorem dX12_gives_47 : decode cX12_gives 47 = .ok (.iadd, 1) := by decide +kernel
theorem dX12_gives_48 : decode cX12_gives 48 = .ok (.iload_n 2, 1) := by decide +kernel
theorem dX12_gives_49 : decode cX12_gives 49 = .ok (.iadd, 1) := by decide +kernel
theorem dX12_gives_50 : decode cX12_gives 50 = .ok (.aload_n 0, 1) := by decide +kernel
theorem dX12_gives_51 : decode cX12_gives 51 = .ok (.getfield 113, 3) := by decide +kernel
theorem dX12_gives_54 : decode cX12_gives 54 = .ok (.iload_n 1, 1) := by decide +kernel
theorem dX12_gives_55 : decode cX12_gives 55 = .ok (.bipush 14, 2) := by decide +kernel
theorem dX12_gives_57 : decode cX12_gives 57 = .ok (.iadd, 1) := by decide +kernel
theorem dX12_gives_58 : decode cX12_gives 58 = .ok (.iload_n 2, 1) := by decide +kernel
theorem dX12_gives_59 : decode cX12_gives 59 = .ok (.iadd, 1) := by decide +kernel
theorem dX12_gives_60 : decode cX12_gives 60 = .ok (.iaload, 1) := by decide +kernel
theorem dX12_gives_61 : decode cX12_gives 61 = .ok (.iload_n 3, 1) := by decide +kernel
theorem dX12_gives_62 : decode cX12_gives 62 = .ok (.isub, 1) := by decide +kernel
theorem dX12_gives_63 : decode cX12_gives 63 = .ok (.invokestatic 333, 3) := by decide +kernel
theorem dX12_gives_66 : decode cX12_gives 66 = .ok (.iastore, 1) := by decide +kernel
theorem dX12_gives_67 : decode cX12_gives 67 = .ok (.aload_n 0, 1) := by decide +kernel
theorem dX12_gives_68 : decode cX12_gives 68 = .ok (.getfield 113, 3) := by decide +kernel
theorem dX12_gives_71 : decode cX12_gives 71 = .ok (.iload_n 1, 1) := by decide +kernel
theorem dX12_gives_72 : decode cX12_gives 72 = .ok (.bipush 14, 2) := by decide +kernel
theorem dX12_gives_74 : decode cX12_gives 74 = .ok (.iadd, 1) := by decide +kernel
theorem dX12_gives_75 : decode cX12_gives 75 = .ok (.iload_n 2, 1) := by decide +kernel
theorem dX12_gives_76 : decode cX12_gives 76 = .ok (.iadd, 1) := by decide +kernel
theorem dX12_gives_77 : decode cX12_gives 77 = .ok (.iaload, 1) := by decide +kernel
theorem dX12_gives_78 : decode cX12_gives 78 = .ok (.ireturn, 1) := by decide +kernel
theorem dX12_asks_0 : decode cX12_asks 0 = .ok (.aload_n 0, 1) := by decide +kernel
theorem dX12_asks_1 : decode cX12_asks 1 = .ok (.iload_n 2, 1) := by decide +kernel
theorem dX12_asks_2 : decode cX12_asks 2 = .ok (.iconst 1, 1) := by decide +kernel
theorem dX12_asks_3 : decode cX12_asks 3 = .ok (.invokevirtual 297, 3) := by decide +kernel
theorem dX12_asks_6 : decode cX12_asks 6 = .ok (.istore_n 3, 1) := by decide +kernel
theorem dX12_asks_7 : decode cX12_asks 7 = .ok (.aload_n 0, 1) := by decide +kernel
theorem dX12_asks_8 : decode cX12_asks 8 = .ok (.getfield 113, 3) := by decide +kernel
theorem dX12_asks_11 : decode cX12_asks 11 = .ok (.iload_n 1, 1) := by decide +kernel
theorem dX12_asks_12 : decode cX12_asks 12 = .ok (.bipush 14, 2) := by decide +kernel
theorem dX12_asks_14 : decode cX12_asks 14 = .ok (.iadd, 1) := by decide +kernel
theorem dX12_asks_15 : decode cX12_asks 15 = .ok (.iload_n 2, 1) := by decide +kernel
theorem dX12_asks_16 : decode cX12_asks 16 = .ok (.iadd, 1) := by decide +kernel
theorem dX12_asks_17 : decode cX12_asks 17 = .ok (.iaload, 1) := by decide +kernel
theorem dX12_asks_18 : decode cX12_asks 18 = .ok (.istore 4, 2) := by decide +kernel
theorem dX12_asks_20 : decode cX12_asks 20 = .ok (.aload_n 0, 1) := by decide +kernel
theorem dX12_asks_21 : decode cX12_asks 21 = .ok (.iload_n 1, 1) := by decide +kernel
theorem dX12_asks_22 : decode cX12_asks 22 = .ok (.iload_n 2, 1) := by decide +kernel
theorem dX12_asks_23 : decode cX12_asks 23 = .ok (.invokevirtual 336, 3) := by decide +kernel
theorem dX12_asks_26 : decode cX12_asks 26 = .ok (.ifCond .ne 36, 3) := by decide +kernel
theorem dX12_asks_29 : decode cX12_asks 29 = .ok (.aload_n 0, 1) := by decide +kernel
theorem dX12_asks_30 : decode cX12_asks 30 = .ok (.getfield 113, 3) := by decide +kernel
theorem dX12_asks_33 : decode cX12_asks 33 = .ok (.iload_n 1, 1) := by decide +kernel
theorem dX12_asks_34 : decode cX12_asks 34 = .ok (.bipush 14, 2) := by decide +kernel
theorem dX12_asks_36 : decode cX12_asks 36 = .ok (.iadd, 1) := by decide +kernel
theorem dX12_asks_37 : decode cX12_asks 37 = .ok (.iload_n 2, 1) := by decide +kernel
theorem dX12_asks_38 : decode cX12_asks 38 = .ok (.iadd, 1) := by decide +kernel
theorem dX12_asks_39 : decode cX12_asks 39 = .ok (.iload 4, 2) := by decide +kernel
theorem dX12_asks_41 : decode cX12_asks 41 = .ok (.aload_n 0, 1) := by decide +kernel
theorem dX12_asks_42 : decode cX12_asks 42 = .ok (.iload_n 3, 1) := by decide +kernel
theorem dX12_asks_43 : decode cX12_asks 43 = .ok (.invokevirtual 316, 3) := by decide +kernel
theorem dX12_asks_46 : decode cX12_asks 46 = .ok (.iconst 1, 1) := by decide +kernel
theorem dX12_asks_47 : decode cX12_asks 47 = .ok (.if_icmp .ne 7, 3) := by decide +kernel
theorem dX12_asks_50 : decode cX12_asks 50 = .ok (.iconst 2, 1) := by decide +kernel
theorem dX12_asks_51 : decode cX12_asks 51 = .ok (.goto 4, 3) := by decide +kernel
theorem dX12_asks_54 : decode cX12_asks 54 = .ok (.iconst 1, 1) := by decide +kernel
theorem dX12_asks_55 : decode cX12_asks 55 = .ok (.iadd, 1) := by decide +kernel
theorem dX12_asks_56 : decode cX12_asks 56 = .ok (.invokestatic 333, 3) := by decide +kernel
theorem dX12_asks_59 : decode cX12_asks 59 = .ok (.iastore, 1) := by decide +kernel
theorem dX12_asks_60 : decode cX12_asks 60 = .ok (.iconst 0, 1) := by decide +kernel
theorem dX12_asks_61 : decode cX12_asks 61 = .ok (.ireturn, 1) := by decide +kernel
theorem dX12_asks_62 : decode cX12_asks 62 = .ok (.aload_n 0, 1) := by decide +kernel
theorem dX12_asks_63 : decode cX12_asks 63 = .ok (.getfield 113, 3) := by decide +kernel
theorem dX12_asks_66 : decode cX12_asks 66 = .ok (.iload_n 1, 1) := by decide +kernel
theorem dX12_asks_67 : decode cX12_asks 67 = .ok (.bipush 22, 2) := by decide +kernel
theorem dX12_asks_69 : decode cX12_asks 69 = .ok (.iadd, 1) := by decide +kernel
theorem dX12_asks_70 : decode cX12_asks 70 = .ok (.iload_n 2, 1) := by decide +kernel
theorem dX12_asks_71 : decode cX12_asks 71 = .ok (.iadd, 1) := by decide +kernel
theorem dX12_asks_72 : decode cX12_asks 72 = .ok (.iconst 1, 1) := by decide +kernel
theorem dX12_asks_73 : decode cX12_asks 73 = .ok (.iastore, 1) := by decide +kernel
theorem dX12_asks_74 : decode cX12_asks 74 = .ok (.aload_n 0, 1) := by decide +kernel
theorem dX12_asks_75 : decode cX12_asks 75 = .ok (.getfield 113, 3) := by decide +kernel
theorem dX12_asks_78 : decode cX12_asks 78 = .ok (.iload_n 1, 1) := by decide +kernel
theorem dX12_asks_79 : decode cX12_asks 79 = .ok (.iconst 2, 1) := by decide +kernel
theorem dX12_asks_80 : decode cX12_asks 80 = .ok (.iadd, 1) := by decide +kernel
theorem dX12_asks_81 : decode cX12_asks 81 = .ok (.iload_n 3, 1) := by decide +kernel
theorem dX12_asks_82 : decode cX12_asks 82 = .ok (.iadd, 1) := by decide +kernel
theorem dX12_asks_83 : decode cX12_asks 83 = .ok (.aload_n 0, 1) := by decide +kernel
theorem dX12_asks_84 : decode cX12_asks 84 = .ok (.getfield 113, 3) := by decide +kernel
theorem dX12_asks_87 : decode cX12_asks 87 = .ok (.iload_n 1, 1) := by decide +kernel
theorem dX12_asks_88 : decode cX12_asks 88 = .ok (.iconst 2, 1) := by decide +kernel
theorem dX12_asks_89 : decode cX12_asks 89 = .ok (.iadd, 1) := by decide +kernel
theorem dX12_asks_90 : decode cX12_asks 90 = .ok (.iload_n 3, 1) := by decide +kernel
theorem dX12_asks_91 : decode cX12_asks 91 = .ok (.iadd, 1) := by decide +kernel
theorem dX12_asks_92 : decode cX12_asks 92 = .ok (.iaload, 1) := by decide +kernel
theorem dX12_asks_93 : decode cX12_asks 93 = .ok (.aload_n 0, 1) := by decide +kernel
theorem dX12_asks_94 : decode cX12_asks 94 = .ok (.iload_n 2, 1) := by decide +kernel
theorem dX12_asks_95 : decode cX12_asks 95 = .ok (.iload 4, 2) := by decide +kernel
theorem dX12_asks_97 : decode cX12_asks 97 = .ok (.aload_n 0, 1) := by decide +kernel
theorem dX12_asks_98 : decode cX12_asks 98 = .ok (.getfield 113, 3) := by decide +kernel
theorem dX12_asks_101 : decode cX12_asks 101 = .ok (.iload_n 1, 1) := by decide +kernel
theorem dX12_asks_102 : decode cX12_asks 102 = .ok (.iconst 0, 1) := by decide +kernel
theorem dX12_asks_103 : decode cX12_asks 103 = .ok (.iadd, 1) := by decide +kernel
theorem dX12_asks_104 : decode cX12_asks 104 = .ok (.iaload, 1) := by decide +kernel
theorem dX12_asks_105 : decode cX12_asks 105 = .ok (.invokevirtual 339, 3) := by decide +kernel
theorem dX12_asks_108 : decode cX12_asks 108 = .ok (.iadd, 1) := by decide +kernel
theorem dX12_asks_109 : decode cX12_asks 109 = .ok (.aload_n 0, 1) := by decide +kernel
theorem dX12_asks_110 : decode cX12_asks 110 = .ok (.getfield 300, 3) := by decide +kernel
theorem dX12_asks_113 : decode cX12_asks 113 = .ok (.iadd, 1) := by decide +kernel
theorem dX12_asks_114 : decode cX12_asks 114 = .ok (.invokestatic 333, 3) := by decide +kernel
theorem dX12_asks_117 : decode cX12_asks 117 = .ok (.iastore, 1) := by decide +kernel
theorem dX12_asks_118 : decode cX12_asks 118 = .ok (.iconst 1, 1) := by decide +kernel
theorem dX12_asks_119 : decode cX12_asks 119 = .ok (.ireturn, 1) := by decide +kernel
theorem dX12_lampsOf_0 : decode cX12_lampsOf 0 = .ok (.iconst 0, 1) := by decide +kernel
theorem dX12_lampsOf_1 : decode cX12_lampsOf 1 = .ok (.istore_n 2, 1) := by decide +kernel
theorem dX12_lampsOf_2 : decode cX12_lampsOf 2 = .ok (.iconst 0, 1) := by decide +kernel
theorem dX12_lampsOf_3 : decode cX12_lampsOf 3 = .ok (.istore_n 3, 1) := by decide +kernel
theorem dX12_lampsOf_4 : decode cX12_lampsOf 4 = .ok (.iload_n 3, 1) := by decide +kernel
theorem dX12_lampsOf_5 : decode cX12_lampsOf 5 = .ok (.aload_n 0, 1) := by decide +kernel
theorem dX12_lampsOf_6 : decode cX12_lampsOf 6 = .ok (.invokevirtual 294, 3) := by decide +kernel
theorem dX12_lampsOf_9 : decode cX12_lampsOf 9 = .ok (.if_icmp .ge 32, 3) := by decide +kernel
theorem dX12_lampsOf_12 : decode cX12_lampsOf 12 = .ok (.iload_n 2, 1) := by decide +kernel
theorem dX12_lampsOf_13 : decode cX12_lampsOf 13 = .ok (.aload_n 0, 1) := by decide +kernel
theorem dX12_lampsOf_14 : decode cX12_lampsOf 14 = .ok (.getfield 113, 3) := by decide +kernel
theorem dX12_lampsOf_17 : decode cX12_lampsOf 17 = .ok (.iload_n 1, 1) := by decide +kernel
theorem dX12_lampsOf_18 : decode cX12_lampsOf 18 = .ok (.iconst 2, 1) := by decide +kernel
theorem dX12_lampsOf_19 : decode cX12_lampsOf 19 = .ok (.iadd, 1) := by decide +kernel
theorem dX12_lampsOf_20 : decode cX12_lampsOf 20 = .ok (.iload_n 3, 1) := by decide +kernel
theorem dX12_lampsOf_21 : decode cX12_lampsOf 21 = .ok (.iadd, 1) := by decide +kernel
theorem dX12_lampsOf_22 : decode cX12_lampsOf 22 = .ok (.iaload, 1) := by decide +kernel
theorem dX12_lampsOf_23 : decode cX12_lampsOf 23 = .ok (.ifCond .le 9, 3) := by decide +kernel
theorem dX12_lampsOf_26 : decode cX12_lampsOf 26 = .ok (.iconst 1, 1) := by decide +kernel
theorem dX12_lampsOf_27 : decode cX12_lampsOf 27 = .ok (.iload_n 3, 1) := by decide +kernel
theorem dX12_lampsOf_28 : decode cX12_lampsOf 28 = .ok (.ishl, 1) := by decide +kernel
theorem dX12_lampsOf_29 : decode cX12_lampsOf 29 = .ok (.goto 4, 3) := by decide +kernel
theorem dX12_lampsOf_32 : decode cX12_lampsOf 32 = .ok (.iconst 0, 1) := by decide +kernel
theorem dX12_lampsOf_33 : decode cX12_lampsOf 33 = .ok (.ior, 1) := by decide +kernel
theorem dX12_lampsOf_34 : decode cX12_lampsOf 34 = .ok (.istore_n 2, 1) := by decide +kernel
theorem dX12_lampsOf_35 : decode cX12_lampsOf 35 = .ok (.iinc 3 1, 3) := by decide +kernel
theorem dX12_lampsOf_38 : decode cX12_lampsOf 38 = .ok (.goto (-34), 3) := by decide +kernel
theorem dX12_lampsOf_41 : decode cX12_lampsOf 41 = .ok (.iload_n 2, 1) := by decide +kernel
theorem dX12_lampsOf_42 : decode cX12_lampsOf 42 = .ok (.ireturn, 1) := by decide +kernel
theorem dX12_isNearer_0 : decode cX12_isNearer 0 = .ok (.iload_n 2, 1) := by decide +kernel
theorem dX12_isNearer_1 : decode cX12_isNearer 1 = .ok (.aload_n 0, 1) := by decide +kernel
theorem dX12_isNearer_2 : decode cX12_isNearer 2 = .ok (.getfield 120, 3) := by decide +kernel
theorem dX12_isNearer_5 : decode cX12_isNearer 5 = .ok (.iload_n 1, 1) := by decide +kernel
theorem dX12_isNearer_6 : decode cX12_isNearer 6 = .ok (.iaload, 1) := by decide +kernel
theorem dX12_isNearer_7 : decode cX12_isNearer 7 = .ok (.if_icmp .lt 23, 3) := by decide +kernel
theorem dX12_isNearer_10 : decode cX12_isNearer 10 = .ok (.iload_n 2, 1) := by decide +kernel
theorem dX12_isNearer_11 : decode cX12_isNearer 11 = .ok (.aload_n 0, 1) := by decide +kernel
theorem dX12_isNearer_12 : decode cX12_isNearer 12 = .ok (.getfield 120, 3) := by decide +kernel
theorem dX12_isNearer_15 : decode cX12_isNearer 15 = .ok (.iload_n 1, 1) := by decide +kernel
theorem dX12_isNearer_16 : decode cX12_isNearer 16 = .ok (.iaload, 1) := by decide +kernel
theorem dX12_isNearer_17 : decode cX12_isNearer 17 = .ok (.if_icmp .ne 17, 3) := by decide +kernel
theorem dX12_isNearer_20 : decode cX12_isNearer 20 = .ok (.iload_n 3, 1) := by decide +kernel
theorem dX12_isNearer_21 : decode cX12_isNearer 21 = .ok (.aload_n 0, 1) := by decide +kernel
theorem dX12_isNearer_22 : decode cX12_isNearer 22 = .ok (.getfield 123, 3) := by decide +kernel
theorem dX12_isNearer_25 : decode cX12_isNearer 25 = .ok (.iload_n 1, 1) := by decide +kernel
theorem dX12_isNearer_26 : decode cX12_isNearer 26 = .ok (.iaload, 1) := by decide +kernel
theorem dX12_isNearer_27 : decode cX12_isNearer 27 = .ok (.if_icmp .ge 7, 3) := by decide +kernel
theorem dX12_isNearer_30 : decode cX12_isNearer 30 = .ok (.iconst 1, 1) := by decide +kernel
theorem dX12_isNearer_31 : decode cX12_isNearer 31 = .ok (.goto 4, 3) := by decide +kernel
theorem dX12_isNearer_34 : decode cX12_isNearer 34 = .ok (.iconst 0, 1) := by decide +kernel
theorem dX12_isNearer_35 : decode cX12_isNearer 35 = .ok (.ireturn, 1) := by decide +kernel
theorem dX12_laysWays_0 : decode cX12_laysWays 0 = .ok (.iconst 0, 1) := by decide +kernel
theorem dX12_laysWays_1 : decode cX12_laysWays 1 = .ok (.istore_n 2, 1) := by decide +kernel
theorem dX12_laysWays_2 : decode cX12_laysWays 2 = .ok (.iload_n 2, 1) := by decide +kernel
theorem dX12_laysWays_3 : decode cX12_laysWays 3 = .ok (.bipush 36, 2) := by decide +kernel
theorem dX12_laysWays_5 : decode cX12_laysWays 5 = .ok (.if_icmp .ge 129, 3) := by decide +kernel
theorem dX12_laysWays_8 : decode cX12_laysWays 8 = .ok (.aload_n 0, 1) := by decide +kernel
theorem dX12_laysWays_9 : decode cX12_laysWays 9 = .ok (.getfield 89, 3) := by decide +kernel
theorem dX12_laysWays_12 : decode cX12_laysWays 12 = .ok (.bipush 21, 2) := by decide +kernel
theorem dX12_laysWays_14 : decode cX12_laysWays 14 = .ok (.iload_n 2, 1) := by decide +kernel
theorem dX12_laysWays_15 : decode cX12_laysWays 15 = .ok (.iadd, 1) := by decide +kernel
theorem dX12_laysWays_16 : decode cX12_laysWays 16 = .ok (.iaload, 1) := by decide +kernel
theorem dX12_laysWays_17 : decode cX12_laysWays 17 = .ok (.istore_n 3, 1) := by decide +kernel
theorem dX12_laysWays_18 : decode cX12_laysWays 18 = .ok (.iload_n 1, 1) := by decide +kernel
theorem dX12_laysWays_19 : decode cX12_laysWays 19 = .ok (.iload_n 2, 1) := by decide +kernel
theorem dX12_laysWays_20 : decode cX12_laysWays 20 = .ok (.bipush 6, 2) := by decide +kernel
theorem dX12_laysWays_22 : decode cX12_laysWays 22 = .ok (.idiv, 1) := by decide +kernel
theorem dX12_laysWays_23 : decode cX12_laysWays 23 = .ok (.ishr, 1) := by decide +kernel
theorem dX12_laysWays_24 : decode cX12_laysWays 24 = .ok (.iconst 1, 1) := by decide +kernel
theorem dX12_laysWays_25 : decode cX12_laysWays 25 = .ok (.iand, 1) := by decide +kernel
theorem dX12_laysWays_26 : decode cX12_laysWays 26 = .ok (.iconst 1, 1) := by decide +kernel
theorem dX12_laysWays_27 : decode cX12_laysWays 27 = .ok (.if_icmp .eq 15, 3) := by decide +kernel
theorem dX12_laysWays_30 : decode cX12_laysWays 30 = .ok (.iload_n 1, 1) := by decide +kernel
theorem dX12_laysWays_31 : decode cX12_laysWays 31 = .ok (.iload_n 2, 1) := by decide +kernel
theorem dX12_laysWays_32 : decode cX12_laysWays 32 = .ok (.bipush 6, 2) := by decide +kernel
theorem dX12_laysWays_34 : decode cX12_laysWays 34 = .ok (.irem, 1) := by decide +kernel
theorem dX12_laysWays_35 : decode cX12_laysWays 35 = .ok (.ishr, 1) := by decide +kernel
theorem dX12_laysWays_36 : decode cX12_laysWays 36 = .ok (.iconst 1, 1) := by decide +kernel
theorem dX12_laysWays_37 : decode cX12_laysWays 37 = .ok (.iand, 1) := by decide +kernel
theorem dX12_laysWays_38 : decode cX12_laysWays 38 = .ok (.iconst 1, 1) := by decide +kernel
theorem dX12_laysWays_39 : decode cX12_laysWays 39 = .ok (.if_icmp .ne 7, 3) := by decide +kernel
theorem dX12_laysWays_42 : decode cX12_laysWays 42 = .ok (.iconst 1, 1) := by decide +kernel
theorem dX12_laysWays_43 : decode cX12_laysWays 43 = .ok (.goto 4, 3) := by decide +kernel
theorem dX12_laysWays_46 : decode cX12_laysWays 46 = .ok (.iconst 0, 1) := by decide +kernel
theorem dX12_laysWays_47 : decode cX12_laysWays 47 = .ok (.istore 4, 2) := by decide +kernel
theorem dX12_laysWays_49 : decode cX12_laysWays 49 = .ok (.iload_n 2, 1) := by decide +kernel
theorem dX12_laysWays_50 : decode cX12_laysWays 50 = .ok (.bipush 6, 2) := by decide +kernel
theorem dX12_laysWays_52 : decode cX12_laysWays 52 = .ok (.idiv, 1) := by decide +kernel
theorem dX12_laysWays_53 : decode cX12_laysWays 53 = .ok (.iload_n 2, 1) := by decide +kernel
theorem dX12_laysWays_54 : decode cX12_laysWays 54 = .ok (.bipush 6, 2) := by decide +kernel
theorem dX12_laysWays_56 : decode cX12_laysWays 56 = .ok (.irem, 1) := by decide +kernel
theorem dX12_laysWays_57 : decode cX12_laysWays 57 = .ok (.if_icmp .ne 7, 3) := by decide +kernel
theorem dX12_laysWays_60 : decode cX12_laysWays 60 = .ok (.iconst 1, 1) := by decide +kernel
theorem dX12_laysWays_61 : decode cX12_laysWays 61 = .ok (.goto 4, 3) := by decide +kernel
theorem dX12_laysWays_64 : decode cX12_laysWays 64 = .ok (.iconst 0, 1) := by decide +kernel
theorem dX12_laysWays_65 : decode cX12_laysWays 65 = .ok (.istore 5, 2) := by decide +kernel
theorem dX12_laysWays_67 : decode cX12_laysWays 67 = .ok (.aload_n 0, 1) := by decide +kernel
theorem dX12_laysWays_68 : decode cX12_laysWays 68 = .ok (.getfield 120, 3) := by decide +kernel
theorem dX12_laysWays_71 : decode cX12_laysWays 71 = .ok (.iload_n 2, 1) := by decide +kernel
theorem dX12_laysWays_72 : decode cX12_laysWays 72 = .ok (.iload 5, 2) := by decide +kernel
theorem dX12_laysWays_74 : decode cX12_laysWays 74 = .ok (.ifCond .eq 7, 3) := by decide +kernel
theorem dX12_laysWays_77 : decode cX12_laysWays 77 = .ok (.iconst 0, 1) := by decide +kernel
theorem dX12_laysWays_78 : decode cX12_laysWays 78 = .ok (.goto 23, 3) := by decide +kernel
theorem dX12_laysWays_81 : decode cX12_laysWays 81 = .ok (.iload_n 3, 1) := by decide +kernel
theorem dX12_laysWays_82 : decode cX12_laysWays 82 = .ok (.ifCond .ne 9, 3) := by decide +kernel
theorem dX12_laysWays_85 : decode cX12_laysWays 85 = .ok (.ldc_w 342, 3) := by decide +kernel
theorem dX12_laysWays_88 : decode cX12_laysWays 88 = .ok (.goto 13, 3) := by decide +kernel
theorem dX12_laysWays_91 : decode cX12_laysWays 91 = .ok (.iload 4, 2) := by decide +kernel
theorem dX12_laysWays_93 : decode cX12_laysWays 93 = .ok (.ifCond .eq 7, 3) := by decide +kernel
theorem dX12_laysWays_96 : decode cX12_laysWays 96 = .ok (.iconst 0, 1) := by decide +kernel
theorem dX12_laysWays_97 : decode cX12_laysWays 97 = .ok (.goto 4, 3) := by decide +kernel
theorem dX12_laysWays_100 : decode cX12_laysWays 100 = .ok (.iload_n 3, 1) := by decide +kernel
theorem dX12_laysWays_101 : decode cX12_laysWays 101 = .ok (.iastore, 1) := by decide +kernel
theorem dX12_laysWays_102 : decode cX12_laysWays 102 = .ok (.aload_n 0, 1) := by decide +kernel
theorem dX12_laysWays_103 : decode cX12_laysWays 103 = .ok (.getfield 123, 3) := by decide +kernel
theorem dX12_laysWays_106 : decode cX12_laysWays 106 = .ok (.iload_n 2, 1) := by decide +kernel
theorem dX12_laysWays_107 : decode cX12_laysWays 107 = .ok (.iload 5, 2) := by decide +kernel
theorem dX12_laysWays_109 : decode cX12_laysWays 109 = .ok (.ifCond .eq 7, 3) := by decide +kernel
theorem dX12_laysWays_112 : decode cX12_laysWays 112 = .ok (.iconst 0, 1) := by decide +kernel
theorem dX12_laysWays_113 : decode cX12_laysWays 113 = .ok (.goto 14, 3) := by decide +kernel
theorem dX12_laysWays_116 : decode cX12_laysWays 116 = .ok (.iload_n 3, 1) := by decide +kernel
theorem dX12_laysWays_117 : decode cX12_laysWays 117 = .ok (.ifCond .ne 9, 3) := by decide +kernel
theorem dX12_laysWays_120 : decode cX12_laysWays 120 = .ok (.ldc_w 342, 3) := by decide +kernel
theorem dX12_laysWays_123 : decode cX12_laysWays 123 = .ok (.goto 4, 3) := by decide +kernel
theorem dX12_laysWays_126 : decode cX12_laysWays 126 = .ok (.iload_n 3, 1) := by decide +kernel
theorem dX12_laysWays_127 : decode cX12_laysWays 127 = .ok (.iastore, 1) := by decide +kernel
theorem dX12_laysWays_128 : decode cX12_laysWays 128 = .ok (.iinc 2 1, 3) := by decide +kernel
theorem dX12_laysWays_131 : decode cX12_laysWays 131 = .ok (.goto (-129), 3) := by decide +kernel
theorem dX12_laysWays_134 : decode cX12_laysWays 134 = .ok (.iconst 0, 1) := by decide +kernel
theorem dX12_laysWays_135 : decode cX12_laysWays 135 = .ok (.istore_n 2, 1) := by decide +kernel
theorem dX12_laysWays_136 : decode cX12_laysWays 136 = .ok (.iload_n 2, 1) := by decide +kernel
theorem dX12_laysWays_137 : decode cX12_laysWays 137 = .ok (.aload_n 0, 1) := by decide +kernel
theorem dX12_laysWays_138 : decode cX12_laysWays 138 = .ok (.invokevirtual 294, 3) := by decide +kernel
theorem dX12_laysWays_141 : decode cX12_laysWays 141 = .ok (.if_icmp .ge 151, 3) := by decide +kernel
theorem dX12_laysWays_144 : decode cX12_laysWays 144 = .ok (.iconst 0, 1) := by decide +kernel
theorem dX12_laysWays_145 : decode cX12_laysWays 145 = .ok (.istore_n 3, 1) := by decide +kernel
theorem dX12_laysWays_146 : decode cX12_laysWays 146 = .ok (.iload_n 3, 1) := by decide +kernel
theorem dX12_laysWays_147 : decode cX12_laysWays 147 = .ok (.bipush 36, 2) := by decide +kernel
theorem dX12_laysWays_149 : decode cX12_laysWays 149 = .ok (.if_icmp .ge 137, 3) := by decide +kernel
theorem dX12_laysWays_152 : decode cX12_laysWays 152 = .ok (.bipush 6, 2) := by decide +kernel
theorem dX12_laysWays_154 : decode cX12_laysWays 154 = .ok (.iload_n 3, 1) := by decide +kernel
theorem dX12_laysWays_155 : decode cX12_laysWays 155 = .ok (.bipush 6, 2) := by decide +kernel
theorem dX12_laysWays_157 : decode cX12_laysWays 157 = .ok (.idiv, 1) := by decide +kernel
theorem dX12_laysWays_158 : decode cX12_laysWays 158 = .ok (.imul, 1) := by decide +kernel
theorem dX12_laysWays_159 : decode cX12_laysWays 159 = .ok (.iload_n 2, 1) := by decide +kernel
theorem dX12_laysWays_160 : decode cX12_laysWays 160 = .ok (.iadd, 1) := by decide +kernel
theorem dX12_laysWays_161 : decode cX12_laysWays 161 = .ok (.istore 4, 2) := by decide +kernel
theorem dX12_laysWays_163 : decode cX12_laysWays 163 = .ok (.bipush 6, 2) := by decide +kernel
theorem dX12_laysWays_165 : decode cX12_laysWays 165 = .ok (.iload_n 2, 1) := by decide +kernel
theorem dX12_laysWays_166 : decode cX12_laysWays 166 = .ok (.imul, 1) := by decide +kernel
theorem dX12_laysWays_167 : decode cX12_laysWays 167 = .ok (.iload_n 3, 1) := by decide +kernel
theorem dX12_laysWays_168 : decode cX12_laysWays 168 = .ok (.bipush 6, 2) := by decide +kernel
theorem dX12_laysWays_170 : decode cX12_laysWays 170 = .ok (.irem, 1) := by decide +kernel
theorem dX12_laysWays_171 : decode cX12_laysWays 171 = .ok (.iadd, 1) := by decide +kernel
theorem dX12_laysWays_172 : decode cX12_laysWays 172 = .ok (.istore 5, 2) := by decide +kernel
theorem dX12_laysWays_174 : decode cX12_laysWays 174 = .ok (.aload_n 0, 1) := by decide +kernel
theorem dX12_laysWays_175 : decode cX12_laysWays 175 = .ok (.getfield 120, 3) := by decide +kernel
theorem dX12_laysWays_178 : decode cX12_laysWays 178 = .ok (.iload 4, 2) := by decide +kernel
theorem dX12_laysWays_180 : decode cX12_laysWays 180 = .ok (.iaload, 1) := by decide +kernel
theorem dX12_laysWays_181 : decode cX12_laysWays 181 = .ok (.ldc_w 342, 3) := by decide +kernel
theorem dX12_laysWays_184 : decode cX12_laysWays 184 = .ok (.if_icmp .ge 96, 3) := by decide +kernel
theorem dX12_laysWays_187 : decode cX12_laysWays 187 = .ok (.aload_n 0, 1) := by decide +kernel
theorem dX12_laysWays_188 : decode cX12_laysWays 188 = .ok (.getfield 120, 3) := by decide +kernel
theorem dX12_laysWays_191 : decode cX12_laysWays 191 = .ok (.iload 5, 2) := by decide +kernel
theorem dX12_laysWays_193 : decode cX12_laysWays 193 = .ok (.iaload, 1) := by decide +kernel
theorem dX12_laysWays_194 : decode cX12_laysWays 194 = .ok (.ldc_w 342, 3) := by decide +kernel
theorem dX12_laysWays_197 : decode cX12_laysWays 197 = .ok (.if_icmp .ge 83, 3) := by decide +kernel
theorem dX12_laysWays_200 : decode cX12_laysWays 200 = .ok (.aload_n 0, 1) := by decide +kernel
theorem dX12_laysWays_201 : decode cX12_laysWays 201 = .ok (.iload_n 3, 1) := by decide +kernel
theorem dX12_laysWays_202 : decode cX12_laysWays 202 = .ok (.aload_n 0, 1) := by decide +kernel
theorem dX12_laysWays_203 : decode cX12_laysWays 203 = .ok (.getfield 120, 3) := by decide +kernel
theorem dX12_laysWays_206 : decode cX12_laysWays 206 = .ok (.iload 4, 2) := by decide +kernel
theorem dX12_laysWays_208 : decode cX12_laysWays 208 = .ok (.iaload, 1) := by decide +kernel
theorem dX12_laysWays_209 : decode cX12_laysWays 209 = .ok (.aload_n 0, 1) := by decide +kernel
theorem dX12_laysWays_210 : decode cX12_laysWays 210 = .ok (.getfield 120, 3) := by decide +kernel
theorem dX12_laysWays_213 : decode cX12_laysWays 213 = .ok (.iload 5, 2) := by decide +kernel
theorem dX12_laysWays_215 : decode cX12_laysWays 215 = .ok (.iaload, 1) := by decide +kernel
theorem dX12_laysWays_216 : decode cX12_laysWays 216 = .ok (.iadd, 1) := by decide +kernel
theorem dX12_laysWays_217 : decode cX12_laysWays 217 = .ok (.aload_n 0, 1) := by decide +kernel
theorem dX12_laysWays_218 : decode cX12_laysWays 218 = .ok (.getfield 123, 3) := by decide +kernel
theorem dX12_laysWays_221 : decode cX12_laysWays 221 = .ok (.iload 4, 2) := by decide +kernel
theorem dX12_laysWays_223 : decode cX12_laysWays 223 = .ok (.iaload, 1) := by decide +kernel
theorem dX12_laysWays_224 : decode cX12_laysWays 224 = .ok (.aload_n 0, 1) := by decide +kernel
theorem dX12_laysWays_225 : decode cX12_laysWays 225 = .ok (.getfield 123, 3) := by decide +kernel
theorem dX12_laysWays_228 : decode cX12_laysWays 228 = .ok (.iload 5, 2) := by decide +kernel
theorem dX12_laysWays_230 : decode cX12_laysWays 230 = .ok (.iaload, 1) := by decide +kernel
theorem dX12_laysWays_231 : decode cX12_laysWays 231 = .ok (.iadd, 1) := by decide +kernel
theorem dX12_laysWays_232 : decode cX12_laysWays 232 = .ok (.invokevirtual 343, 3) := by decide +kernel
theorem dX12_laysWays_235 : decode cX12_laysWays 235 = .ok (.ifCond .eq 45, 3) := by decide +kernel
theorem dX12_laysWays_238 : decode cX12_laysWays 238 = .ok (.aload_n 0, 1) := by decide +kernel
theorem dX12_laysWays_239 : decode cX12_laysWays 239 = .ok (.getfield 120, 3) := by decide +kernel
theorem dX12_laysWays_242 : decode cX12_laysWays 242 = .ok (.iload_n 3, 1) := by decide +kernel
theorem dX12_laysWays_243 : decode cX12_laysWays 243 = .ok (.aload_n 0, 1) := by decide +kernel
theorem dX12_laysWays_244 : decode cX12_laysWays 244 = .ok (.getfield 120, 3) := by decide +kernel
theorem dX12_laysWays_247 : decode cX12_laysWays 247 = .ok (.iload 4, 2) := by decide +kernel
theorem dX12_laysWays_249 : decode cX12_laysWays 249 = .ok (.iaload, 1) := by decide +kernel
theorem dX12_laysWays_250 : decode cX12_laysWays 250 = .ok (.aload_n 0, 1) := by decide +kernel
theorem dX12_laysWays_251 : decode cX12_laysWays 251 = .ok (.getfield 120, 3) := by decide +kernel
theorem dX12_laysWays_254 : decode cX12_laysWays 254 = .ok (.iload 5, 2) := by decide +kernel
theorem dX12_laysWays_256 : decode cX12_laysWays 256 = .ok (.iaload, 1) := by decide +kernel
theorem dX12_laysWays_257 : decode cX12_laysWays 257 = .ok (.iadd, 1) := by decide +kernel
theorem dX12_laysWays_258 : decode cX12_laysWays 258 = .ok (.iastore, 1) := by decide +kernel
theorem dX12_laysWays_259 : decode cX12_laysWays 259 = .ok (.aload_n 0, 1) := by decide +kernel
theorem dX12_laysWays_260 : decode cX12_laysWays 260 = .ok (.getfield 123, 3) := by decide +kernel
theorem dX12_laysWays_263 : decode cX12_laysWays 263 = .ok (.iload_n 3, 1) := by decide +kernel
theorem dX12_laysWays_264 : decode cX12_laysWays 264 = .ok (.aload_n 0, 1) := by decide +kernel
theorem dX12_laysWays_265 : decode cX12_laysWays 265 = .ok (.getfield 123, 3) := by decide +kernel
theorem dX12_laysWays_268 : decode cX12_laysWays 268 = .ok (.iload 4, 2) := by decide +kernel
theorem dX12_laysWays_270 : decode cX12_laysWays 270 = .ok (.iaload, 1) := by decide +kernel
theorem dX12_laysWays_271 : decode cX12_laysWays 271 = .ok (.aload_n 0, 1) := by decide +kernel
theorem dX12_laysWays_272 : decode cX12_laysWays 272 = .ok (.getfield 123, 3) := by decide +kernel
theorem dX12_laysWays_275 : decode cX12_laysWays 275 = .ok (.iload 5, 2) := by decide +kernel
theorem dX12_laysWays_277 : decode cX12_laysWays 277 = .ok (.iaload, 1) := by decide +kernel
theorem dX12_laysWays_278 : decode cX12_laysWays 278 = .ok (.iadd, 1) := by decide +kernel
theorem dX12_laysWays_279 : decode cX12_laysWays 279 = .ok (.iastore, 1) := by decide +kernel
theorem dX12_laysWays_280 : decode cX12_laysWays 280 = .ok (.iinc 3 1, 3) := by decide +kernel
theorem dX12_laysWays_283 : decode cX12_laysWays 283 = .ok (.goto (-137), 3) := by decide +kernel
theorem dX12_laysWays_286 : decode cX12_laysWays 286 = .ok (.iinc 2 1, 3) := by decide +kernel
theorem dX12_laysWays_289 : decode cX12_laysWays 289 = .ok (.goto (-153), 3) := by decide +kernel
theorem dX12_laysWays_292 : decode cX12_laysWays 292 = .ok (.iconst 0, 1) := by decide +kernel
theorem dX12_laysWays_293 : decode cX12_laysWays 293 = .ok (.istore_n 2, 1) := by decide +kernel
theorem dX12_laysWays_294 : decode cX12_laysWays 294 = .ok (.iload_n 2, 1) := by decide +kernel
theorem dX12_laysWays_295 : decode cX12_laysWays 295 = .ok (.bipush 36, 2) := by decide +kernel
theorem dX12_laysWays_297 : decode cX12_laysWays 297 = .ok (.if_icmp .ge 207, 3) := by decide +kernel
theorem dX12_laysWays_300 : decode cX12_laysWays 300 = .ok (.aload_n 0, 1) := by decide +kernel
theorem dX12_laysWays_301 : decode cX12_laysWays 301 = .ok (.getfield 126, 3) := by decide +kernel
theorem dX12_laysWays_304 : decode cX12_laysWays 304 = .ok (.iload_n 2, 1) := by decide +kernel
theorem dX12_laysWays_305 : decode cX12_laysWays 305 = .ok (.iconst (-1), 1) := by decide +kernel
theorem dX12_laysWays_306 : decode cX12_laysWays 306 = .ok (.iastore, 1) := by decide +kernel
theorem dX12_laysWays_307 : decode cX12_laysWays 307 = .ok (.aload_n 0, 1) := by decide +kernel
theorem dX12_laysWays_308 : decode cX12_laysWays 308 = .ok (.invokevirtual 294, 3) := by decide +kernel
theorem dX12_laysWays_311 : decode cX12_laysWays 311 = .ok (.iconst 1, 1) := by decide +kernel
theorem dX12_laysWays_312 : decode cX12_laysWays 312 = .ok (.isub, 1) := by decide +kernel
theorem dX12_laysWays_313 : decode cX12_laysWays 313 = .ok (.istore_n 3, 1) := by decide +kernel
theorem dX12_laysWays_314 : decode cX12_laysWays 314 = .ok (.iload_n 3, 1) := by decide +kernel
theorem dX12_laysWays_315 : decode cX12_laysWays 315 = .ok (.ifCond .lt 183, 3) := by decide +kernel
theorem dX12_laysWays_318 : decode cX12_laysWays 318 = .ok (.iload_n 2, 1) := by decide +kernel
theorem dX12_laysWays_319 : decode cX12_laysWays 319 = .ok (.bipush 6, 2) := by decide +kernel
theorem dX12_laysWays_321 : decode cX12_laysWays 321 = .ok (.idiv, 1) := by decide +kernel
theorem dX12_laysWays_322 : decode cX12_laysWays 322 = .ok (.iload_n 2, 1) := by decide +kernel
theorem dX12_laysWays_323 : decode cX12_laysWays 323 = .ok (.bipush 6, 2) := by decide +kernel
theorem dX12_laysWays_325 : decode cX12_laysWays 325 = .ok (.irem, 1) := by decide +kernel
theorem dX12_laysWays_326 : decode cX12_laysWays 326 = .ok (.if_icmp .eq 172, 3) := by decide +kernel
theorem dX12_laysWays_329 : decode cX12_laysWays 329 = .ok (.aload_n 0, 1) := by decide +kernel
theorem dX12_laysWays_330 : decode cX12_laysWays 330 = .ok (.getfield 120, 3) := by decide +kernel
theorem dX12_laysWays_333 : decode cX12_laysWays 333 = .ok (.iload_n 2, 1) := by decide +kernel
theorem dX12_laysWays_334 : decode cX12_laysWays 334 = .ok (.iaload, 1) := by decide +kernel
theorem dX12_laysWays_335 : decode cX12_laysWays 335 = .ok (.ldc_w 342, 3) := by decide +kernel
theorem dX12_laysWays_338 : decode cX12_laysWays 338 = .ok (.if_icmp .ge 160, 3) := by decide +kernel
theorem dX12_laysWays_341 : decode cX12_laysWays 341 = .ok (.aload_n 0, 1) := by decide +kernel
theorem dX12_laysWays_342 : decode cX12_laysWays 342 = .ok (.getfield 89, 3) := by decide +kernel
theorem dX12_laysWays_345 : decode cX12_laysWays 345 = .ok (.bipush 21, 2) := by decide +kernel
theorem dX12_laysWays_347 : decode cX12_laysWays 347 = .ok (.bipush 6, 2) := by decide +kernel
theorem dX12_laysWays_349 : decode cX12_laysWays 349 = .ok (.iload_n 2, 1) := by decide +kernel
theorem dX12_laysWays_350 : decode cX12_laysWays 350 = .ok (.bipush 6, 2) := by decide +kernel
theorem dX12_laysWays_352 : decode cX12_laysWays 352 = .ok (.idiv, 1) := by decide +kernel
theorem dX12_laysWays_353 : decode cX12_laysWays 353 = .ok (.imul, 1) := by decide +kernel
theorem dX12_laysWays_354 : decode cX12_laysWays 354 = .ok (.iadd, 1) := by decide +kernel
theorem dX12_laysWays_355 : decode cX12_laysWays 355 = .ok (.iload_n 3, 1) := by decide +kernel
theorem dX12_laysWays_356 : decode cX12_laysWays 356 = .ok (.iadd, 1) := by decide +kernel
theorem dX12_laysWays_357 : decode cX12_laysWays 357 = .ok (.iaload, 1) := by decide +kernel
theorem dX12_laysWays_358 : decode cX12_laysWays 358 = .ok (.istore 4, 2) := by decide +kernel
theorem dX12_laysWays_360 : decode cX12_laysWays 360 = .ok (.iload_n 1, 1) := by decide +kernel
theorem dX12_laysWays_361 : decode cX12_laysWays 361 = .ok (.iload_n 2, 1) := by decide +kernel
theorem dX12_laysWays_362 : decode cX12_laysWays 362 = .ok (.bipush 6, 2) := by decide +kernel
theorem dX12_laysWays_364 : decode cX12_laysWays 364 = .ok (.idiv, 1) := by decide +kernel
theorem dX12_laysWays_365 : decode cX12_laysWays 365 = .ok (.ishr, 1) := by decide +kernel
theorem dX12_laysWays_366 : decode cX12_laysWays 366 = .ok (.iconst 1, 1) := by decide +kernel
theorem dX12_laysWays_367 : decode cX12_laysWays 367 = .ok (.iand, 1) := by decide +kernel
theorem dX12_laysWays_368 : decode cX12_laysWays 368 = .ok (.iconst 1, 1) := by decide +kernel
theorem dX12_laysWays_369 : decode cX12_laysWays 369 = .ok (.if_icmp .eq 12, 3) := by decide +kernel
theorem dX12_laysWays_372 : decode cX12_laysWays 372 = .ok (.iload_n 1, 1) := by decide +kernel
theorem dX12_laysWays_373 : decode cX12_laysWays 373 = .ok (.iload_n 3, 1) := by decide +kernel
theorem dX12_laysWays_374 : decode cX12_laysWays 374 = .ok (.ishr, 1) := by decide +kernel
theorem dX12_laysWays_375 : decode cX12_laysWays 375 = .ok (.iconst 1, 1) := by decide +kernel
theorem dX12_laysWays_376 : decode cX12_laysWays 376 = .ok (.iand, 1) := by decide +kernel
theorem dX12_laysWays_377 : decode cX12_laysWays 377 = .ok (.iconst 1, 1) := by decide +kernel
theorem dX12_laysWays_378 : decode cX12_laysWays 378 = .ok (.if_icmp .ne 7, 3) := by decide +kernel
theorem dX12_laysWays_381 : decode cX12_laysWays 381 = .ok (.iconst 1, 1) := by decide +kernel
theorem dX12_laysWays_382 : decode cX12_laysWays 382 = .ok (.goto 4, 3) := by decide +kernel
theorem dX12_laysWays_385 : decode cX12_laysWays 385 = .ok (.iconst 0, 1) := by decide +kernel
theorem dX12_laysWays_386 : decode cX12_laysWays 386 = .ok (.istore 5, 2) := by decide +kernel
theorem dX12_laysWays_388 : decode cX12_laysWays 388 = .ok (.bipush 6, 2) := by decide +kernel
theorem dX12_laysWays_390 : decode cX12_laysWays 390 = .ok (.iload_n 3, 1) := by decide +kernel
theorem dX12_laysWays_391 : decode cX12_laysWays 391 = .ok (.imul, 1) := by decide +kernel
theorem dX12_laysWays_392 : decode cX12_laysWays 392 = .ok (.iload_n 2, 1) := by decide +kernel
theorem dX12_laysWays_393 : decode cX12_laysWays 393 = .ok (.bipush 6, 2) := by decide +kernel
theorem dX12_laysWays_395 : decode cX12_laysWays 395 = .ok (.irem, 1) := by decide +kernel
theorem dX12_laysWays_396 : decode cX12_laysWays 396 = .ok (.iadd, 1) := by decide +kernel
theorem dX12_laysWays_397 : decode cX12_laysWays 397 = .ok (.istore 6, 2) := by decide +kernel
theorem dX12_laysWays_399 : decode cX12_laysWays 399 = .ok (.iload 4, 2) := by decide +kernel
theorem dX12_laysWays_401 : decode cX12_laysWays 401 = .ok (.ifCond .le 67, 3) := by decide +kernel
theorem dX12_laysWays_404 : decode cX12_laysWays 404 = .ok (.aload_n 0, 1) := by decide +kernel
theorem dX12_laysWays_405 : decode cX12_laysWays 405 = .ok (.getfield 120, 3) := by decide +kernel
theorem dX12_laysWays_408 : decode cX12_laysWays 408 = .ok (.iload 6, 2) := by decide +kernel
theorem dX12_laysWays_410 : decode cX12_laysWays 410 = .ok (.iaload, 1) := by decide +kernel
theorem dX12_laysWays_411 : decode cX12_laysWays 411 = .ok (.ldc_w 342, 3) := by decide +kernel
theorem dX12_laysWays_414 : decode cX12_laysWays 414 = .ok (.if_icmp .ge 54, 3) := by decide +kernel
theorem dX12_laysWays_417 : decode cX12_laysWays 417 = .ok (.aload_n 0, 1) := by decide +kernel
theorem dX12_laysWays_418 : decode cX12_laysWays 418 = .ok (.getfield 120, 3) := by decide +kernel
theorem dX12_laysWays_421 : decode cX12_laysWays 421 = .ok (.iload 6, 2) := by decide +kernel
theorem dX12_laysWays_423 : decode cX12_laysWays 423 = .ok (.iaload, 1) := by decide +kernel
theorem dX12_laysWays_424 : decode cX12_laysWays 424 = .ok (.iload 5, 2) := by decide +kernel
theorem dX12_laysWays_426 : decode cX12_laysWays 426 = .ok (.ifCond .eq 7, 3) := by decide +kernel
theorem dX12_laysWays_429 : decode cX12_laysWays 429 = .ok (.iconst 0, 1) := by decide +kernel
theorem dX12_laysWays_430 : decode cX12_laysWays 430 = .ok (.goto 5, 3) := by decide +kernel
theorem dX12_laysWays_433 : decode cX12_laysWays 433 = .ok (.iload 4, 2) := by decide +kernel
theorem dX12_laysWays_435 : decode cX12_laysWays 435 = .ok (.iadd, 1) := by decide +kernel
theorem dX12_laysWays_436 : decode cX12_laysWays 436 = .ok (.aload_n 0, 1) := by decide +kernel
theorem dX12_laysWays_437 : decode cX12_laysWays 437 = .ok (.getfield 120, 3) := by decide +kernel
theorem dX12_laysWays_440 : decode cX12_laysWays 440 = .ok (.iload_n 2, 1) := by decide +kernel
theorem dX12_laysWays_441 : decode cX12_laysWays 441 = .ok (.iaload, 1) := by decide +kernel
theorem dX12_laysWays_442 : decode cX12_laysWays 442 = .ok (.if_icmp .ne 26, 3) := by decide +kernel
theorem dX12_laysWays_445 : decode cX12_laysWays 445 = .ok (.aload_n 0, 1) := by decide +kernel
theorem dX12_laysWays_446 : decode cX12_laysWays 446 = .ok (.getfield 123, 3) := by decide +kernel
theorem dX12_laysWays_449 : decode cX12_laysWays 449 = .ok (.iload 6, 2) := by decide +kernel
theorem dX12_laysWays_451 : decode cX12_laysWays 451 = .ok (.iaload, 1) := by decide +kernel
theorem dX12_laysWays_452 : decode cX12_laysWays 452 = .ok (.iload 4, 2) := by decide +kernel
theorem dX12_laysWays_454 : decode cX12_laysWays 454 = .ok (.iadd, 1) := by decide +kernel
theorem dX12_laysWays_455 : decode cX12_laysWays 455 = .ok (.aload_n 0, 1) := by decide +kernel
theorem dX12_laysWays_456 : decode cX12_laysWays 456 = .ok (.getfield 123, 3) := by decide +kernel
theorem dX12_laysWays_459 : decode cX12_laysWays 459 = .ok (.iload_n 2, 1) := by decide +kernel
theorem dX12_laysWays_460 : decode cX12_laysWays 460 = .ok (.iaload, 1) := by decide +kernel
theorem dX12_laysWays_461 : decode cX12_laysWays 461 = .ok (.if_icmp .ne 7, 3) := by decide +kernel
theorem dX12_laysWays_464 : decode cX12_laysWays 464 = .ok (.iconst 1, 1) := by decide +kernel
theorem dX12_laysWays_465 : decode cX12_laysWays 465 = .ok (.goto 4, 3) := by decide +kernel
theorem dX12_laysWays_468 : decode cX12_laysWays 468 = .ok (.iconst 0, 1) := by decide +kernel
theorem dX12_laysWays_469 : decode cX12_laysWays 469 = .ok (.istore 7, 2) := by decide +kernel
theorem dX12_laysWays_471 : decode cX12_laysWays 471 = .ok (.aload_n 0, 1) := by decide +kernel
theorem dX12_laysWays_472 : decode cX12_laysWays 472 = .ok (.getfield 126, 3) := by decide +kernel
theorem dX12_laysWays_475 : decode cX12_laysWays 475 = .ok (.iload_n 2, 1) := by decide +kernel
theorem dX12_laysWays_476 : decode cX12_laysWays 476 = .ok (.iload 7, 2) := by decide +kernel
theorem dX12_laysWays_478 : decode cX12_laysWays 478 = .ok (.ifCond .eq 7, 3) := by decide +kernel
theorem dX12_laysWays_481 : decode cX12_laysWays 481 = .ok (.iload_n 3, 1) := by decide +kernel
theorem dX12_laysWays_482 : decode cX12_laysWays 482 = .ok (.goto 9, 3) := by decide +kernel
theorem dX12_laysWays_485 : decode cX12_laysWays 485 = .ok (.aload_n 0, 1) := by decide +kernel
theorem dX12_laysWays_486 : decode cX12_laysWays 486 = .ok (.getfield 126, 3) := by decide +kernel
theorem dX12_laysWays_489 : decode cX12_laysWays 489 = .ok (.iload_n 2, 1) := by decide +kernel
theorem dX12_laysWays_490 : decode cX12_laysWays 490 = .ok (.iaload, 1) := by decide +kernel
theorem dX12_laysWays_491 : decode cX12_laysWays 491 = .ok (.iastore, 1) := by decide +kernel
theorem dX12_laysWays_492 : decode cX12_laysWays 492 = .ok (.iinc 3 (-1), 3) := by decide +kernel
theorem dX12_laysWays_495 : decode cX12_laysWays 495 = .ok (.goto (-181), 3) := by decide +kernel
theorem dX12_laysWays_498 : decode cX12_laysWays 498 = .ok (.iinc 2 1, 3) := by decide +kernel
theorem dX12_laysWays_501 : decode cX12_laysWays 501 = .ok (.goto (-207), 3) := by decide +kernel
theorem dX12_laysWays_504 : decode cX12_laysWays 504 = .ok (.return_, 1) := by decide +kernel
theorem dX12_isLit_0 : decode cX12_isLit 0 = .ok (.aload_n 0, 1) := by decide +kernel
theorem dX12_isLit_1 : decode cX12_isLit 1 = .ok (.iload_n 1, 1) := by decide +kernel
theorem dX12_isLit_2 : decode cX12_isLit 2 = .ok (.invokevirtual 347, 3) := by decide +kernel
theorem dX12_isLit_5 : decode cX12_isLit 5 = .ok (.aload_n 0, 1) := by decide +kernel
theorem dX12_isLit_6 : decode cX12_isLit 6 = .ok (.getfield 120, 3) := by decide +kernel
theorem dX12_isLit_9 : decode cX12_isLit 9 = .ok (.bipush 6, 2) := by decide +kernel
theorem dX12_isLit_11 : decode cX12_isLit 11 = .ok (.iload_n 2, 1) := by decide +kernel
theorem dX12_isLit_12 : decode cX12_isLit 12 = .ok (.imul, 1) := by decide +kernel
theorem dX12_isLit_13 : decode cX12_isLit 13 = .ok (.iload_n 3, 1) := by decide +kernel
theorem dX12_isLit_14 : decode cX12_isLit 14 = .ok (.iadd, 1) := by decide +kernel
theorem dX12_isLit_15 : decode cX12_isLit 15 = .ok (.iaload, 1) := by decide +kernel
theorem dX12_isLit_16 : decode cX12_isLit 16 = .ok (.ifCond .ne 7, 3) := by decide +kernel
theorem dX12_isLit_19 : decode cX12_isLit 19 = .ok (.iconst 1, 1) := by decide +kernel
theorem dX12_isLit_20 : decode cX12_isLit 20 = .ok (.goto 4, 3) := by decide +kernel
theorem dX12_isLit_23 : decode cX12_isLit 23 = .ok (.iconst 0, 1) := by decide +kernel
theorem dX12_isLit_24 : decode cX12_isLit 24 = .ok (.ireturn, 1) := by decide +kernel
theorem dX12_harmBy_0 : decode cX12_harmBy 0 = .ok (.aload_n 0, 1) := by decide +kernel
theorem dX12_harmBy_1 : decode cX12_harmBy 1 = .ok (.iload_n 1, 1) := by decide +kernel
theorem dX12_harmBy_2 : decode cX12_harmBy 2 = .ok (.invokevirtual 347, 3) := by decide +kernel
theorem dX12_harmBy_5 : decode cX12_harmBy 5 = .ok (.iconst 0, 1) := by decide +kernel
theorem dX12_harmBy_6 : decode cX12_harmBy 6 = .ok (.istore_n 2, 1) := by decide +kernel
theorem dX12_harmBy_7 : decode cX12_harmBy 7 = .ok (.iconst 0, 1) := by decide +kernel
theorem dX12_harmBy_8 : decode cX12_harmBy 8 = .ok (.istore_n 3, 1) := by decide +kernel
theorem dX12_harmBy_9 : decode cX12_harmBy 9 = .ok (.iload_n 3, 1) := by decide +kernel
theorem dX12_harmBy_10 : decode cX12_harmBy 10 = .ok (.aload_n 0, 1) := by decide +kernel
theorem dX12_harmBy_11 : decode cX12_harmBy 11 = .ok (.invokevirtual 350, 3) := by decide +kernel
theorem dX12_harmBy_14 : decode cX12_harmBy 14 = .ok (.if_icmp .ge 62, 3) := by decide +kernel
theorem dX12_harmBy_17 : decode cX12_harmBy 17 = .ok (.aload_n 0, 1) := by decide +kernel
theorem dX12_harmBy_18 : decode cX12_harmBy 18 = .ok (.getfield 120, 3) := by decide +kernel
theorem dX12_harmBy_21 : decode cX12_harmBy 21 = .ok (.bipush 6, 2) := by decide +kernel
theorem dX12_harmBy_23 : decode cX12_harmBy 23 = .ok (.aload_n 0, 1) := by decide +kernel
theorem dX12_harmBy_24 : decode cX12_harmBy 24 = .ok (.getfield 89, 3) := by decide +kernel
theorem dX12_harmBy_27 : decode cX12_harmBy 27 = .ok (.bipush 81, 2) := by decide +kernel
theorem dX12_harmBy_29 : decode cX12_harmBy 29 = .ok (.iconst 2, 1) := by decide +kernel
theorem dX12_harmBy_30 : decode cX12_harmBy 30 = .ok (.iload_n 3, 1) := by decide +kernel
theorem dX12_harmBy_31 : decode cX12_harmBy 31 = .ok (.imul, 1) := by decide +kernel
theorem dX12_harmBy_32 : decode cX12_harmBy 32 = .ok (.iadd, 1) := by decide +kernel
theorem dX12_harmBy_33 : decode cX12_harmBy 33 = .ok (.iaload, 1) := by decide +kernel
theorem dX12_harmBy_34 : decode cX12_harmBy 34 = .ok (.imul, 1) := by decide +kernel
theorem dX12_harmBy_35 : decode cX12_harmBy 35 = .ok (.aload_n 0, 1) := by decide +kernel
theorem dX12_harmBy_36 : decode cX12_harmBy 36 = .ok (.getfield 89, 3) := by decide +kernel
theorem dX12_harmBy_39 : decode cX12_harmBy 39 = .ok (.bipush 81, 2) := by decide +kernel
theorem dX12_harmBy_41 : decode cX12_harmBy 41 = .ok (.iconst 2, 1) := by decide +kernel
theorem dX12_harmBy_42 : decode cX12_harmBy 42 = .ok (.iload_n 3, 1) := by decide +kernel
theorem dX12_harmBy_43 : decode cX12_harmBy 43 = .ok (.imul, 1) := by decide +kernel
theorem dX12_harmBy_44 : decode cX12_harmBy 44 = .ok (.iadd, 1) := by decide +kernel
theorem dX12_harmBy_45 : decode cX12_harmBy 45 = .ok (.iconst 1, 1) := by decide +kernel
theorem dX12_harmBy_46 : decode cX12_harmBy 46 = .ok (.iadd, 1) := by decide +kernel
theorem dX12_harmBy_47 : decode cX12_harmBy 47 = .ok (.iaload, 1) := by decide +kernel
theorem dX12_harmBy_48 : decode cX12_harmBy 48 = .ok (.iadd, 1) := by decide +kernel
theorem dX12_harmBy_49 : decode cX12_harmBy 49 = .ok (.iaload, 1) := by decide +kernel
theorem dX12_harmBy_50 : decode cX12_harmBy 50 = .ok (.istore 4, 2) := by decide +kernel
theorem dX12_harmBy_52 : decode cX12_harmBy 52 = .ok (.iload_n 2, 1) := by decide +kernel
theorem dX12_harmBy_53 : decode cX12_harmBy 53 = .ok (.iload 4, 2) := by decide +kernel
theorem dX12_harmBy_55 : decode cX12_harmBy 55 = .ok (.ldc_w 342, 3) := by decide +kernel
theorem dX12_harmBy_58 : decode cX12_harmBy 58 = .ok (.if_icmp .lt 8, 3) := by decide +kernel
theorem dX12_harmBy_61 : decode cX12_harmBy 61 = .ok (.bipush 100, 2) := by decide +kernel
theorem dX12_harmBy_63 : decode cX12_harmBy 63 = .ok (.goto 5, 3) := by decide +kernel
theorem dX12_harmBy_66 : decode cX12_harmBy 66 = .ok (.iload 4, 2) := by decide +kernel
theorem dX12_harmBy_68 : decode cX12_harmBy 68 = .ok (.iadd, 1) := by decide +kernel
theorem dX12_harmBy_69 : decode cX12_harmBy 69 = .ok (.istore_n 2, 1) := by decide +kernel
theorem dX12_harmBy_70 : decode cX12_harmBy 70 = .ok (.iinc 3 1, 3) := by decide +kernel
theorem dX12_harmBy_73 : decode cX12_harmBy 73 = .ok (.goto (-64), 3) := by decide +kernel
theorem dX12_harmBy_76 : decode cX12_harmBy 76 = .ok (.iload_n 2, 1) := by decide +kernel
theorem dX12_harmBy_77 : decode cX12_harmBy 77 = .ok (.ireturn, 1) := by decide +kernel
theorem dX12_passes_0 : decode cX12_passes 0 = .ok (.aload_n 0, 1) := by decide +kernel
theorem dX12_passes_1 : decode cX12_passes 1 = .ok (.aload_n 0, 1) := by decide +kernel
theorem dX12_passes_2 : decode cX12_passes 2 = .ok (.iload_n 1, 1) := by decide +kernel
theorem dX12_passes_3 : decode cX12_passes 3 = .ok (.invokevirtual 353, 3) := by decide +kernel
theorem dX12_passes_6 : decode cX12_passes 6 = .ok (.invokevirtual 356, 3) := by decide +kernel
theorem dX12_passes_9 : decode cX12_passes 9 = .ok (.istore_n 2, 1) := by decide +kernel
theorem dX12_passes_10 : decode cX12_passes 10 = .ok (.aload_n 0, 1) := by decide +kernel
theorem dX12_passes_11 : decode cX12_passes 11 = .ok (.getfield 113, 3) := by decide +kernel
theorem dX12_passes_14 : decode cX12_passes 14 = .ok (.iload_n 1, 1) := by decide +kernel
theorem dX12_passes_15 : decode cX12_passes 15 = .ok (.iconst 1, 1) := by decide +kernel
theorem dX12_passes_16 : decode cX12_passes 16 = .ok (.iadd, 1) := by decide +kernel
theorem dX12_passes_17 : decode cX12_passes 17 = .ok (.dup2, 1) := by decide +kernel
theorem dX12_passes_18 : decode cX12_passes 18 = .ok (.iaload, 1) := by decide +kernel
theorem dX12_passes_19 : decode cX12_passes 19 = .ok (.iload_n 2, 1) := by decide +kernel
theorem dX12_passes_20 : decode cX12_passes 20 = .ok (.iadd, 1) := by decide +kernel
theorem dX12_passes_21 : decode cX12_passes 21 = .ok (.iastore, 1) := by decide +kernel
theorem dX12_passes_22 : decode cX12_passes 22 = .ok (.iconst 0, 1) := by decide +kernel
theorem dX12_passes_23 : decode cX12_passes 23 = .ok (.istore_n 3, 1) := by decide +kernel
theorem dX12_passes_24 : decode cX12_passes 24 = .ok (.iload_n 3, 1) := by decide +kernel
theorem dX12_passes_25 : decode cX12_passes 25 = .ok (.aload_n 0, 1) := by decide +kernel
theorem dX12_passes_26 : decode cX12_passes 26 = .ok (.invokevirtual 294, 3) := by decide +kernel
theorem dX12_passes_29 : decode cX12_passes 29 = .ok (.if_icmp .ge 40, 3) := by decide +kernel
theorem dX12_passes_32 : decode cX12_passes 32 = .ok (.aload_n 0, 1) := by decide +kernel
theorem dX12_passes_33 : decode cX12_passes 33 = .ok (.getfield 113, 3) := by decide +kernel
theorem dX12_passes_36 : decode cX12_passes 36 = .ok (.iload_n 1, 1) := by decide +kernel
theorem dX12_passes_37 : decode cX12_passes 37 = .ok (.iconst 2, 1) := by decide +kernel
theorem dX12_passes_38 : decode cX12_passes 38 = .ok (.iadd, 1) := by decide +kernel
theorem dX12_passes_39 : decode cX12_passes 39 = .ok (.iload_n 3, 1) := by decide +kernel
theorem dX12_passes_40 : decode cX12_passes 40 = .ok (.iadd, 1) := by decide +kernel
theorem dX12_passes_41 : decode cX12_passes 41 = .ok (.dup2, 1) := by decide +kernel
theorem dX12_passes_42 : decode cX12_passes 42 = .ok (.iaload, 1) := by decide +kernel
theorem dX12_passes_43 : decode cX12_passes 43 = .ok (.aload_n 0, 1) := by decide +kernel
theorem dX12_passes_44 : decode cX12_passes 44 = .ok (.getfield 113, 3) := by decide +kernel
theorem dX12_passes_47 : decode cX12_passes 47 = .ok (.iload_n 1, 1) := by decide +kernel
theorem dX12_passes_48 : decode cX12_passes 48 = .ok (.iconst 2, 1) := by decide +kernel
theorem dX12_passes_49 : decode cX12_passes 49 = .ok (.iadd, 1) := by decide +kernel
theorem dX12_passes_50 : decode cX12_passes 50 = .ok (.iload_n 3, 1) := by decide +kernel
theorem dX12_passes_51 : decode cX12_passes 51 = .ok (.iadd, 1) := by decide +kernel
theorem dX12_passes_52 : decode cX12_passes 52 = .ok (.iaload, 1) := by decide +kernel
theorem dX12_passes_53 : decode cX12_passes 53 = .ok (.ifCond .le 7, 3) := by decide +kernel
theorem dX12_passes_56 : decode cX12_passes 56 = .ok (.iconst 1, 1) := by decide +kernel
theorem dX12_passes_57 : decode cX12_passes 57 = .ok (.goto 4, 3) := by decide +kernel
theorem dX12_passes_60 : decode cX12_passes 60 = .ok (.iconst 0, 1) := by decide +kernel
theorem dX12_passes_61 : decode cX12_passes 61 = .ok (.isub, 1) := by decide +kernel
theorem dX12_passes_62 : decode cX12_passes 62 = .ok (.iastore, 1) := by decide +kernel
theorem dX12_passes_63 : decode cX12_passes 63 = .ok (.iinc 3 1, 3) := by decide +kernel
theorem dX12_passes_66 : decode cX12_passes 66 = .ok (.goto (-42), 3) := by decide +kernel
theorem dX12_passes_69 : decode cX12_passes 69 = .ok (.iconst 0, 1) := by decide +kernel
theorem dX12_passes_70 : decode cX12_passes 70 = .ok (.istore_n 3, 1) := by decide +kernel
theorem dX12_passes_71 : decode cX12_passes 71 = .ok (.iload_n 3, 1) := by decide +kernel
theorem dX12_passes_72 : decode cX12_passes 72 = .ok (.aload_n 0, 1) := by decide +kernel
theorem dX12_passes_73 : decode cX12_passes 73 = .ok (.invokevirtual 273, 3) := by decide +kernel
theorem dX12_passes_76 : decode cX12_passes 76 = .ok (.if_icmp .ge 110, 3) := by decide +kernel
theorem dX12_passes_79 : decode cX12_passes 79 = .ok (.aload_n 0, 1) := by decide +kernel
theorem dX12_passes_80 : decode cX12_passes 80 = .ok (.iload_n 1, 1) := by decide +kernel
theorem dX12_passes_81 : decode cX12_passes 81 = .ok (.iload_n 3, 1) := by decide +kernel
theorem dX12_passes_82 : decode cX12_passes 82 = .ok (.invokevirtual 319, 3) := by decide +kernel
theorem dX12_passes_85 : decode cX12_passes 85 = .ok (.ifCond .eq 83, 3) := by decide +kernel
theorem dX12_passes_88 : decode cX12_passes 88 = .ok (.aload_n 0, 1) := by decide +kernel
theorem dX12_passes_89 : decode cX12_passes 89 = .ok (.iconst 1, 1) := by decide +kernel
theorem dX12_passes_90 : decode cX12_passes 90 = .ok (.iload_n 3, 1) := by decide +kernel
theorem dX12_passes_91 : decode cX12_passes 91 = .ok (.aload_n 0, 1) := by decide +kernel
theorem dX12_passes_92 : decode cX12_passes 92 = .ok (.getfield 113, 3) := by decide +kernel
theorem dX12_passes_95 : decode cX12_passes 95 = .ok (.iload_n 1, 1) := by decide +kernel
theorem dX12_passes_96 : decode cX12_passes 96 = .ok (.bipush 14, 2) := by decide +kernel
theorem dX12_passes_98 : decode cX12_passes 98 = .ok (.iadd, 1) := by decide +kernel
theorem dX12_passes_99 : decode cX12_passes 99 = .ok (.iload_n 3, 1) := by decide +kernel
theorem dX12_passes_100 : decode cX12_passes 100 = .ok (.iadd, 1) := by decide +kernel
theorem dX12_passes_101 : decode cX12_passes 101 = .ok (.iaload, 1) := by decide +kernel
theorem dX12_passes_102 : decode cX12_passes 102 = .ok (.aload_n 0, 1) := by decide +kernel
theorem dX12_passes_103 : decode cX12_passes 103 = .ok (.getfield 113, 3) := by decide +kernel
theorem dX12_passes_106 : decode cX12_passes 106 = .ok (.iload_n 1, 1) := by decide +kernel
theorem dX12_passes_107 : decode cX12_passes 107 = .ok (.iconst 0, 1) := by decide +kernel
theorem dX12_passes_108 : decode cX12_passes 108 = .ok (.iadd, 1) := by decide +kernel
theorem dX12_passes_109 : decode cX12_passes 109 = .ok (.iaload, 1) := by decide +kernel
theorem dX12_passes_110 : decode cX12_passes 110 = .ok (.iconst 1, 1) := by decide +kernel
theorem dX12_passes_111 : decode cX12_passes 111 = .ok (.invokevirtual 329, 3) := by decide +kernel
theorem dX12_passes_114 : decode cX12_passes 114 = .ok (.istore 4, 2) := by decide +kernel
theorem dX12_passes_116 : decode cX12_passes 116 = .ok (.aload_n 0, 1) := by decide +kernel
theorem dX12_passes_117 : decode cX12_passes 117 = .ok (.getfield 113, 3) := by decide +kernel
theorem dX12_passes_120 : decode cX12_passes 120 = .ok (.iload_n 1, 1) := by decide +kernel
theorem dX12_passes_121 : decode cX12_passes 121 = .ok (.bipush 14, 2) := by decide +kernel
theorem dX12_passes_123 : decode cX12_passes 123 = .ok (.iadd, 1) := by decide +kernel
theorem dX12_passes_124 : decode cX12_passes 124 = .ok (.iload_n 3, 1) := by decide +kernel
theorem dX12_passes_125 : decode cX12_passes 125 = .ok (.iadd, 1) := by decide +kernel
theorem dX12_passes_126 : decode cX12_passes 126 = .ok (.aload_n 0, 1) := by decide +kernel
theorem dX12_passes_127 : decode cX12_passes 127 = .ok (.getfield 113, 3) := by decide +kernel
theorem dX12_passes_130 : decode cX12_passes 130 = .ok (.iload_n 1, 1) := by decide +kernel
theorem dX12_passes_131 : decode cX12_passes 131 = .ok (.bipush 14, 2) := by decide +kernel
theorem dX12_passes_133 : decode cX12_passes 133 = .ok (.iadd, 1) := by decide +kernel
theorem dX12_passes_134 : decode cX12_passes 134 = .ok (.iload_n 3, 1) := by decide +kernel
theorem dX12_passes_135 : decode cX12_passes 135 = .ok (.iadd, 1) := by decide +kernel
theorem dX12_passes_136 : decode cX12_passes 136 = .ok (.iaload, 1) := by decide +kernel
theorem dX12_passes_137 : decode cX12_passes 137 = .ok (.iload 4, 2) := by decide +kernel
theorem dX12_passes_139 : decode cX12_passes 139 = .ok (.bipush (-9), 2) := by decide +kernel
theorem dX12_passes_141 : decode cX12_passes 141 = .ok (.if_icmp .ge 8, 3) := by decide +kernel
theorem dX12_passes_144 : decode cX12_passes 144 = .ok (.bipush (-9), 2) := by decide +kernel
theorem dX12_passes_146 : decode cX12_passes 146 = .ok (.goto 17, 3) := by decide +kernel
theorem dX12_passes_149 : decode cX12_passes 149 = .ok (.iload 4, 2) := by decide +kernel
theorem dX12_passes_151 : decode cX12_passes 151 = .ok (.bipush 9, 2) := by decide +kernel
theorem dX12_passes_153 : decode cX12_passes 153 = .ok (.if_icmp .le 8, 3) := by decide +kernel
theorem dX12_passes_156 : decode cX12_passes 156 = .ok (.bipush 9, 2) := by decide +kernel
theorem dX12_passes_158 : decode cX12_passes 158 = .ok (.goto 5, 3) := by decide +kernel
theorem dX12_passes_161 : decode cX12_passes 161 = .ok (.iload 4, 2) := by decide +kernel
theorem dX12_passes_163 : decode cX12_passes 163 = .ok (.isub, 1) := by decide +kernel
theorem dX12_passes_164 : decode cX12_passes 164 = .ok (.invokestatic 333, 3) := by decide +kernel
theorem dX12_passes_167 : decode cX12_passes 167 = .ok (.iastore, 1) := by decide +kernel
theorem dX12_passes_168 : decode cX12_passes 168 = .ok (.aload_n 0, 1) := by decide +kernel
theorem dX12_passes_169 : decode cX12_passes 169 = .ok (.getfield 113, 3) := by decide +kernel
theorem dX12_passes_172 : decode cX12_passes 172 = .ok (.iload_n 1, 1) := by decide +kernel
theorem dX12_passes_173 : decode cX12_passes 173 = .ok (.bipush 30, 2) := by decide +kernel
theorem dX12_passes_175 : decode cX12_passes 175 = .ok (.iadd, 1) := by decide +kernel
theorem dX12_passes_176 : decode cX12_passes 176 = .ok (.iload_n 3, 1) := by decide +kernel
theorem dX12_passes_177 : decode cX12_passes 177 = .ok (.iadd, 1) := by decide +kernel
theorem dX12_passes_178 : decode cX12_passes 178 = .ok (.iconst 0, 1) := by decide +kernel
theorem dX12_passes_179 : decode cX12_passes 179 = .ok (.iastore, 1) := by decide +kernel
theorem dX12_passes_180 : decode cX12_passes 180 = .ok (.iinc 3 1, 3) := by decide +kernel
theorem dX12_passes_183 : decode cX12_passes 183 = .ok (.goto (-112), 3) := by decide +kernel
theorem dX12_passes_186 : decode cX12_passes 186 = .ok (.aload_n 0, 1) := by decide +kernel
theorem dX12_passes_187 : decode cX12_passes 187 = .ok (.getfield 113, 3) := by decide +kernel
theorem dX12_passes_190 : decode cX12_passes 190 = .ok (.iload_n 1, 1) := by decide +kernel
theorem dX12_passes_191 : decode cX12_passes 191 = .ok (.iconst 0, 1) := by decide +kernel
theorem dX12_passes_192 : decode cX12_passes 192 = .ok (.iadd, 1) := by decide +kernel
theorem dX12_passes_193 : decode cX12_passes 193 = .ok (.dup2, 1) := by decide +kernel
theorem dX12_passes_194 : decode cX12_passes 194 = .ok (.iaload, 1) := by decide +kernel
theorem dX12_passes_195 : decode cX12_passes 195 = .ok (.iconst 1, 1) := by decide +kernel
theorem dX12_passes_196 : decode cX12_passes 196 = .ok (.iadd, 1) := by decide +kernel
theorem dX12_passes_197 : decode cX12_passes 197 = .ok (.iastore, 1) := by decide +kernel
theorem dX12_passes_198 : decode cX12_passes 198 = .ok (.iload_n 2, 1) := by decide +kernel
theorem dX12_passes_199 : decode cX12_passes 199 = .ok (.ireturn, 1) := by decide +kernel
theorem dX12_person_0 : decode cX12_person 0 = .ok (.aload_n 0, 1) := by decide +kernel
theorem dX12_person_1 : decode cX12_person 1 = .ok (.iconst 0, 1) := by decide +kernel
theorem dX12_person_2 : decode cX12_person 2 = .ok (.putfield 1, 3) := by decide +kernel
theorem dX12_person_5 : decode cX12_person 5 = .ok (.aload_n 0, 1) := by decide +kernel
theorem dX12_person_6 : decode cX12_person 6 = .ok (.iload_n 1, 1) := by decide +kernel
theorem dX12_person_7 : decode cX12_person 7 = .ok (.invokevirtual 359, 3) := by decide +kernel
theorem dX12_person_10 : decode cX12_person 10 = .ok (.ifCond .eq 12, 3) := by decide +kernel
theorem dX12_person_13 : decode cX12_person 13 = .ok (.iload_n 2, 1) := by decide +kernel
theorem dX12_person_14 : decode cX12_person 14 = .ok (.iconst 0, 1) := by decide +kernel
theorem dX12_person_15 : decode cX12_person 15 = .ok (.iconst 2, 1) := by decide +kernel
theorem dX12_person_16 : decode cX12_person 16 = .ok (.invokestatic 362, 3) := by decide +kernel
theorem dX12_person_19 : decode cX12_person 19 = .ok (.ifCond .ne 5, 3) := by decide +kernel
theorem dX12_person_22 : decode cX12_person 22 = .ok (.iconst (-1), 1) := by decide +kernel
theorem dX12_person_23 : decode cX12_person 23 = .ok (.ireturn, 1) := by decide +kernel
theorem dX12_person_24 : decode cX12_person 24 = .ok (.iload_n 2, 1) := by decide +kernel
theorem dX12_person_25 : decode cX12_person 25 = .ok (.ifCond .ne 11, 3) := by decide +kernel
theorem dX12_person_28 : decode cX12_person 28 = .ok (.aload_n 0, 1) := by decide +kernel
theorem dX12_person_29 : decode cX12_person 29 = .ok (.iload_n 1, 1) := by decide +kernel
theorem dX12_person_30 : decode cX12_person 30 = .ok (.invokevirtual 316, 3) := by decide +kernel
theorem dX12_person_33 : decode cX12_person 33 = .ok (.goto 28, 3) := by decide +kernel
theorem dX12_person_36 : decode cX12_person 36 = .ok (.iload_n 2, 1) := by decide +kernel
theorem dX12_person_37 : decode cX12_person 37 = .ok (.iconst 1, 1) := by decide +kernel
theorem dX12_person_38 : decode cX12_person 38 = .ok (.if_icmp .ne 15, 3) := by decide +kernel
theorem dX12_person_41 : decode cX12_person 41 = .ok (.aload_n 0, 1) := by decide +kernel
theorem dX12_person_42 : decode cX12_person 42 = .ok (.getfield 113, 3) := by decide +kernel
theorem dX12_person_45 : decode cX12_person 45 = .ok (.bipush 8, 2) := by decide +kernel
theorem dX12_person_47 : decode cX12_person 47 = .ok (.iload_n 1, 1) := by decide +kernel
theorem dX12_person_48 : decode cX12_person 48 = .ok (.iadd, 1) := by decide +kernel
theorem dX12_person_49 : decode cX12_person 49 = .ok (.iaload, 1) := by decide +kernel
theorem dX12_person_50 : decode cX12_person 50 = .ok (.goto 11, 3) := by decide +kernel
theorem dX12_person_53 : decode cX12_person 53 = .ok (.aload_n 0, 1) := by decide +kernel
theorem dX12_person_54 : decode cX12_person 54 = .ok (.getfield 113, 3) := by decide +kernel
theorem dX12_person_57 : decode cX12_person 57 = .ok (.iconst 2, 1) := by decide +kernel
theorem dX12_person_58 : decode cX12_person 58 = .ok (.iload_n 1, 1) := by decide +kernel
theorem dX12_person_59 : decode cX12_person 59 = .ok (.iadd, 1) := by decide +kernel
theorem dX12_person_60 : decode cX12_person 60 = .ok (.iaload, 1) := by decide +kernel
theorem dX12_person_61 : decode cX12_person 61 = .ok (.ireturn, 1) := by decide +kernel
theorem dX12_wrong__0 : decode cX12_wrong_ 0 = .ok (.aload_n 0, 1) := by decide +kernel
theorem dX12_wrong__1 : decode cX12_wrong_ 1 = .ok (.iconst 0, 1) := by decide +kernel
theorem dX12_wrong__2 : decode cX12_wrong_ 2 = .ok (.putfield 1, 3) := by decide +kernel
theorem dX12_wrong__5 : decode cX12_wrong_ 5 = .ok (.aload_n 0, 1) := by decide +kernel
theorem dX12_wrong__6 : decode cX12_wrong_ 6 = .ok (.iload_n 1, 1) := by decide +kernel
theorem dX12_wrong__7 : decode cX12_wrong_ 7 = .ok (.invokevirtual 313, 3) := by decide +kernel
theorem dX12_wrong__10 : decode cX12_wrong_ 10 = .ok (.ifCond .eq 13, 3) := by decide +kernel
theorem dX12_wrong__13 : decode cX12_wrong_ 13 = .ok (.iload_n 2, 1) := by decide +kernel
theorem dX12_wrong__14 : decode cX12_wrong_ 14 = .ok (.iconst 0, 1) := by decide +kernel
theorem dX12_wrong__15 : decode cX12_wrong_ 15 = .ok (.bipush 6, 2) := by decide +kernel
theorem dX12_wrong__17 : decode cX12_wrong_ 17 = .ok (.invokestatic 362, 3) := by decide +kernel
theorem dX12_wrong__20 : decode cX12_wrong_ 20 = .ok (.ifCond .ne 5, 3) := by decide +kernel
theorem dX12_wrong__23 : decode cX12_wrong_ 23 = .ok (.iconst (-1), 1) := by decide +kernel
theorem dX12_wrong__24 : decode cX12_wrong_ 24 = .ok (.ireturn, 1) := by decide +kernel
theorem dX12_wrong__25 : decode cX12_wrong_ 25 = .ok (.iload_n 2, 1) := by decide +kernel
theorem dX12_wrong__26 : decode cX12_wrong_ 26 = .ok (.tableswitch 66 3 6 #[30, 40, 50, 60], 30) := by decide +kernel
theorem dX12_wrong__56 : decode cX12_wrong_ 56 = .ok (.aload_n 0, 1) := by decide +kernel
theorem dX12_wrong__57 : decode cX12_wrong_ 57 = .ok (.getfield 113, 3) := by decide +kernel
theorem dX12_wrong__60 : decode cX12_wrong_ 60 = .ok (.bipush 14, 2) := by decide +kernel
theorem dX12_wrong__62 : decode cX12_wrong_ 62 = .ok (.iload_n 1, 1) := by decide +kernel
theorem dX12_wrong__63 : decode cX12_wrong_ 63 = .ok (.iadd, 1) := by decide +kernel
theorem dX12_wrong__64 : decode cX12_wrong_ 64 = .ok (.iaload, 1) := by decide +kernel
theorem dX12_wrong__65 : decode cX12_wrong_ 65 = .ok (.ireturn, 1) := by decide +kernel
theorem dX12_wrong__66 : decode cX12_wrong_ 66 = .ok (.aload_n 0, 1) := by decide +kernel
theorem dX12_wrong__67 : decode cX12_wrong_ 67 = .ok (.getfield 113, 3) := by decide +kernel
theorem dX12_wrong__70 : decode cX12_wrong_ 70 = .ok (.bipush 22, 2) := by decide +kernel
theorem dX12_wrong__72 : decode cX12_wrong_ 72 = .ok (.iload_n 1, 1) := by decide +kernel
theorem dX12_wrong__73 : decode cX12_wrong_ 73 = .ok (.iadd, 1) := by decide +kernel
theorem dX12_wrong__74 : decode cX12_wrong_ 74 = .ok (.iaload, 1) := by decide +kernel
theorem dX12_wrong__75 : decode cX12_wrong_ 75 = .ok (.ireturn, 1) := by decide +kernel
theorem dX12_wrong__76 : decode cX12_wrong_ 76 = .ok (.aload_n 0, 1) := by decide +kernel
theorem dX12_wrong__77 : decode cX12_wrong_ 77 = .ok (.getfield 113, 3) := by decide +kernel
theorem dX12_wrong__80 : decode cX12_wrong_ 80 = .ok (.bipush 30, 2) := by decide +kernel
theorem dX12_wrong__82 : decode cX12_wrong_ 82 = .ok (.iload_n 1, 1) := by decide +kernel
theorem dX12_wrong__83 : decode cX12_wrong_ 83 = .ok (.iadd, 1) := by decide +kernel
theorem dX12_wrong__84 : decode cX12_wrong_ 84 = .ok (.iaload, 1) := by decide +kernel
theorem dX12_wrong__85 : decode cX12_wrong_ 85 = .ok (.ireturn, 1) := by decide +kernel
theorem dX12_wrong__86 : decode cX12_wrong_ 86 = .ok (.aload_n 0, 1) := by decide +kernel
theorem dX12_wrong__87 : decode cX12_wrong_ 87 = .ok (.iload_n 1, 1) := by decide +kernel
theorem dX12_wrong__88 : decode cX12_wrong_ 88 = .ok (.invokevirtual 323, 3) := by decide +kernel
theorem dX12_wrong__91 : decode cX12_wrong_ 91 = .ok (.ireturn, 1) := by decide +kernel
theorem dX12_wrong__92 : decode cX12_wrong_ 92 = .ok (.aload_n 0, 1) := by decide +kernel
theorem dX12_wrong__93 : decode cX12_wrong_ 93 = .ok (.iload_n 1, 1) := by decide +kernel
theorem dX12_wrong__94 : decode cX12_wrong_ 94 = .ok (.iload_n 2, 1) := by decide +kernel
theorem dX12_wrong__95 : decode cX12_wrong_ 95 = .ok (.invokevirtual 297, 3) := by decide +kernel
theorem dX12_wrong__98 : decode cX12_wrong_ 98 = .ok (.ireturn, 1) := by decide +kernel
theorem dX12_lamps_0 : decode cX12_lamps 0 = .ok (.aload_n 0, 1) := by decide +kernel
theorem dX12_lamps_1 : decode cX12_lamps 1 = .ok (.iconst 0, 1) := by decide +kernel
theorem dX12_lamps_2 : decode cX12_lamps 2 = .ok (.putfield 1, 3) := by decide +kernel
theorem dX12_lamps_5 : decode cX12_lamps 5 = .ok (.aload_n 0, 1) := by decide +kernel
theorem dX12_lamps_6 : decode cX12_lamps 6 = .ok (.iconst 0, 1) := by decide +kernel
theorem dX12_lamps_7 : decode cX12_lamps 7 = .ok (.invokevirtual 353, 3) := by decide +kernel
theorem dX12_lamps_10 : decode cX12_lamps 10 = .ok (.ireturn, 1) := by decide +kernel
theorem dX12_areTwo_0 : decode cX12_areTwo 0 = .ok (.aload_n 0, 1) := by decide +kernel
theorem dX12_areTwo_1 : decode cX12_areTwo 1 = .ok (.iload_n 1, 1) := by decide +kernel
theorem dX12_areTwo_2 : decode cX12_areTwo 2 = .ok (.invokevirtual 359, 3) := by decide +kernel
theorem dX12_areTwo_5 : decode cX12_areTwo 5 = .ok (.ifCond .eq 20, 3) := by decide +kernel
theorem dX12_areTwo_8 : decode cX12_areTwo 8 = .ok (.aload_n 0, 1) := by decide +kernel
theorem dX12_areTwo_9 : decode cX12_areTwo 9 = .ok (.iload_n 2, 1) := by decide +kernel
theorem dX12_areTwo_10 : decode cX12_areTwo 10 = .ok (.invokevirtual 359, 3) := by decide +kernel
theorem dX12_areTwo_13 : decode cX12_areTwo 13 = .ok (.ifCond .eq 12, 3) := by decide +kernel
theorem dX12_areTwo_16 : decode cX12_areTwo 16 = .ok (.iload_n 1, 1) := by decide +kernel
theorem dX12_areTwo_17 : decode cX12_areTwo 17 = .ok (.iload_n 2, 1) := by decide +kernel
theorem dX12_areTwo_18 : decode cX12_areTwo 18 = .ok (.if_icmp .eq 7, 3) := by decide +kernel
theorem dX12_areTwo_21 : decode cX12_areTwo 21 = .ok (.iconst 1, 1) := by decide +kernel
theorem dX12_areTwo_22 : decode cX12_areTwo 22 = .ok (.goto 4, 3) := by decide +kernel
theorem dX12_areTwo_25 : decode cX12_areTwo 25 = .ok (.iconst 0, 1) := by decide +kernel
theorem dX12_areTwo_26 : decode cX12_areTwo 26 = .ok (.ireturn, 1) := by decide +kernel
theorem dX12_dark_0 : decode cX12_dark 0 = .ok (.aload_n 0, 1) := by decide +kernel
theorem dX12_dark_1 : decode cX12_dark 1 = .ok (.iconst 0, 1) := by decide +kernel
theorem dX12_dark_2 : decode cX12_dark 2 = .ok (.putfield 1, 3) := by decide +kernel
theorem dX12_dark_5 : decode cX12_dark 5 = .ok (.aload_n 0, 1) := by decide +kernel
theorem dX12_dark_6 : decode cX12_dark 6 = .ok (.iload_n 1, 1) := by decide +kernel
theorem dX12_dark_7 : decode cX12_dark 7 = .ok (.iload_n 2, 1) := by decide +kernel
theorem dX12_dark_8 : decode cX12_dark 8 = .ok (.invokevirtual 365, 3) := by decide +kernel
theorem dX12_dark_11 : decode cX12_dark 11 = .ok (.ifCond .eq 12, 3) := by decide +kernel
theorem dX12_dark_14 : decode cX12_dark 14 = .ok (.iload_n 3, 1) := by decide +kernel
theorem dX12_dark_15 : decode cX12_dark 15 = .ok (.iconst 0, 1) := by decide +kernel
theorem dX12_dark_16 : decode cX12_dark 16 = .ok (.iconst 2, 1) := by decide +kernel
theorem dX12_dark_17 : decode cX12_dark 17 = .ok (.invokestatic 362, 3) := by decide +kernel
theorem dX12_dark_20 : decode cX12_dark 20 = .ok (.ifCond .ne 5, 3) := by decide +kernel
theorem dX12_dark_23 : decode cX12_dark 23 = .ok (.iconst (-1), 1) := by decide +kernel
theorem dX12_dark_24 : decode cX12_dark 24 = .ok (.ireturn, 1) := by decide +kernel
theorem dX12_dark_25 : decode cX12_dark 25 = .ok (.aload_n 0, 1) := by decide +kernel
theorem dX12_dark_26 : decode cX12_dark 26 = .ok (.aload_n 0, 1) := by decide +kernel
theorem dX12_dark_27 : decode cX12_dark 27 = .ok (.iconst 0, 1) := by decide +kernel
theorem dX12_dark_28 : decode cX12_dark 28 = .ok (.invokevirtual 353, 3) := by decide +kernel
theorem dX12_dark_31 : decode cX12_dark 31 = .ok (.invokevirtual 347, 3) := by decide +kernel
theorem dX12_dark_34 : decode cX12_dark 34 = .ok (.bipush 6, 2) := by decide +kernel
theorem dX12_dark_36 : decode cX12_dark 36 = .ok (.iload_n 1, 1) := by decide +kernel
theorem dX12_dark_37 : decode cX12_dark 37 = .ok (.imul, 1) := by decide +kernel
theorem dX12_dark_38 : decode cX12_dark 38 = .ok (.iload_n 2, 1) := by decide +kernel
theorem dX12_dark_39 : decode cX12_dark 39 = .ok (.iadd, 1) := by decide +kernel
theorem dX12_dark_40 : decode cX12_dark 40 = .ok (.istore 4, 2) := by decide +kernel
theorem dX12_dark_42 : decode cX12_dark 42 = .ok (.aload_n 0, 1) := by decide +kernel
theorem dX12_dark_43 : decode cX12_dark 43 = .ok (.getfield 120, 3) := by decide +kernel
theorem dX12_dark_46 : decode cX12_dark 46 = .ok (.iload 4, 2) := by decide +kernel
theorem dX12_dark_48 : decode cX12_dark 48 = .ok (.iaload, 1) := by decide +kernel
theorem dX12_dark_49 : decode cX12_dark 49 = .ok (.ldc_w 342, 3) := by decide +kernel
theorem dX12_dark_52 : decode cX12_dark 52 = .ok (.if_icmp .lt 7, 3) := by decide +kernel
theorem dX12_dark_55 : decode cX12_dark 55 = .ok (.iconst (-1), 1) := by decide +kernel
theorem dX12_dark_56 : decode cX12_dark 56 = .ok (.goto 39, 3) := by decide +kernel
theorem dX12_dark_59 : decode cX12_dark 59 = .ok (.iload_n 3, 1) := by decide +kernel
theorem dX12_dark_60 : decode cX12_dark 60 = .ok (.ifCond .ne 13, 3) := by decide +kernel
theorem dX12_dark_63 : decode cX12_dark 63 = .ok (.aload_n 0, 1) := by decide +kernel
theorem dX12_dark_64 : decode cX12_dark 64 = .ok (.getfield 120, 3) := by decide +kernel
theorem dX12_dark_67 : decode cX12_dark 67 = .ok (.iload 4, 2) := by decide +kernel
theorem dX12_dark_69 : decode cX12_dark 69 = .ok (.iaload, 1) := by decide +kernel
theorem dX12_dark_70 : decode cX12_dark 70 = .ok (.goto 25, 3) := by decide +kernel
theorem dX12_dark_73 : decode cX12_dark 73 = .ok (.iload_n 3, 1) := by decide +kernel
theorem dX12_dark_74 : decode cX12_dark 74 = .ok (.iconst 1, 1) := by decide +kernel
theorem dX12_dark_75 : decode cX12_dark 75 = .ok (.if_icmp .ne 13, 3) := by decide +kernel
theorem dX12_dark_78 : decode cX12_dark 78 = .ok (.aload_n 0, 1) := by decide +kernel
theorem dX12_dark_79 : decode cX12_dark 79 = .ok (.getfield 123, 3) := by decide +kernel
theorem dX12_dark_82 : decode cX12_dark 82 = .ok (.iload 4, 2) := by decide +kernel
theorem dX12_dark_84 : decode cX12_dark 84 = .ok (.iaload, 1) := by decide +kernel
theorem dX12_dark_85 : decode cX12_dark 85 = .ok (.goto 10, 3) := by decide +kernel
theorem dX12_dark_88 : decode cX12_dark 88 = .ok (.aload_n 0, 1) := by decide +kernel
theorem dX12_dark_89 : decode cX12_dark 89 = .ok (.getfield 126, 3) := by decide +kernel
theorem dX12_dark_92 : decode cX12_dark 92 = .ok (.iload 4, 2) := by decide +kernel
theorem dX12_dark_94 : decode cX12_dark 94 = .ok (.iaload, 1) := by decide +kernel
theorem dX12_dark_95 : decode cX12_dark 95 = .ok (.ireturn, 1) := by decide +kernel
theorem dX12_harm_0 : decode cX12_harm 0 = .ok (.aload_n 0, 1) := by decide +kernel
theorem dX12_harm_1 : decode cX12_harm 1 = .ok (.iconst 0, 1) := by decide +kernel
theorem dX12_harm_2 : decode cX12_harm 2 = .ok (.putfield 1, 3) := by decide +kernel
theorem dX12_harm_5 : decode cX12_harm 5 = .ok (.aload_n 0, 1) := by decide +kernel
theorem dX12_harm_6 : decode cX12_harm 6 = .ok (.aload_n 0, 1) := by decide +kernel
theorem dX12_harm_7 : decode cX12_harm 7 = .ok (.iconst 0, 1) := by decide +kernel
theorem dX12_harm_8 : decode cX12_harm 8 = .ok (.invokevirtual 353, 3) := by decide +kernel
theorem dX12_harm_11 : decode cX12_harm 11 = .ok (.invokevirtual 356, 3) := by decide +kernel
theorem dX12_harm_14 : decode cX12_harm 14 = .ok (.ireturn, 1) := by decide +kernel
theorem dX12_say_0 : decode cX12_say 0 = .ok (.aload_n 0, 1) := by decide +kernel
theorem dX12_say_1 : decode cX12_say 1 = .ok (.iconst 0, 1) := by decide +kernel
theorem dX12_say_2 : decode cX12_say 2 = .ok (.putfield 1, 3) := by decide +kernel
theorem dX12_say_5 : decode cX12_say 5 = .ok (.aload_n 0, 1) := by decide +kernel
theorem dX12_say_6 : decode cX12_say 6 = .ok (.iconst 0, 1) := by decide +kernel
theorem dX12_say_7 : decode cX12_say 7 = .ok (.iload_n 1, 1) := by decide +kernel
theorem dX12_say_8 : decode cX12_say 8 = .ok (.invokevirtual 368, 3) := by decide +kernel
theorem dX12_say_11 : decode cX12_say 11 = .ok (.ifCond .ne 5, 3) := by decide +kernel
theorem dX12_say_14 : decode cX12_say 14 = .ok (.iconst (-1), 1) := by decide +kernel
theorem dX12_say_15 : decode cX12_say 15 = .ok (.ireturn, 1) := by decide +kernel
theorem dX12_say_16 : decode cX12_say 16 = .ok (.aload_n 0, 1) := by decide +kernel
theorem dX12_say_17 : decode cX12_say 17 = .ok (.invokevirtual 371, 3) := by decide +kernel
theorem dX12_say_20 : decode cX12_say 20 = .ok (.aload_n 0, 1) := by decide +kernel
theorem dX12_say_21 : decode cX12_say 21 = .ok (.iconst 0, 1) := by decide +kernel
theorem dX12_say_22 : decode cX12_say 22 = .ok (.iload_n 1, 1) := by decide +kernel
theorem dX12_say_23 : decode cX12_say 23 = .ok (.invokevirtual 374, 3) := by decide +kernel
theorem dX12_say_26 : decode cX12_say 26 = .ok (.ireturn, 1) := by decide +kernel
theorem dX12_give_0 : decode cX12_give 0 = .ok (.aload_n 0, 1) := by decide +kernel
theorem dX12_give_1 : decode cX12_give 1 = .ok (.iconst 0, 1) := by decide +kernel
theorem dX12_give_2 : decode cX12_give 2 = .ok (.putfield 1, 3) := by decide +kernel
theorem dX12_give_5 : decode cX12_give 5 = .ok (.aload_n 0, 1) := by decide +kernel
theorem dX12_give_6 : decode cX12_give 6 = .ok (.iload_n 1, 1) := by decide +kernel
theorem dX12_give_7 : decode cX12_give 7 = .ok (.invokevirtual 313, 3) := by decide +kernel
theorem dX12_give_10 : decode cX12_give 10 = .ok (.ifCond .eq 23, 3) := by decide +kernel
theorem dX12_give_13 : decode cX12_give 13 = .ok (.iload_n 2, 1) := by decide +kernel
theorem dX12_give_14 : decode cX12_give 14 = .ok (.iconst 1, 1) := by decide +kernel
theorem dX12_give_15 : decode cX12_give 15 = .ok (.bipush 99, 2) := by decide +kernel
theorem dX12_give_17 : decode cX12_give 17 = .ok (.invokestatic 362, 3) := by decide +kernel
theorem dX12_give_20 : decode cX12_give 20 = .ok (.ifCond .eq 13, 3) := by decide +kernel
theorem dX12_give_23 : decode cX12_give 23 = .ok (.aload_n 0, 1) := by decide +kernel
theorem dX12_give_24 : decode cX12_give 24 = .ok (.iconst 0, 1) := by decide +kernel
theorem dX12_give_25 : decode cX12_give 25 = .ok (.iload_n 1, 1) := by decide +kernel
theorem dX12_give_26 : decode cX12_give 26 = .ok (.iload_n 2, 1) := by decide +kernel
theorem dX12_give_27 : decode cX12_give 27 = .ok (.invokevirtual 377, 3) := by decide +kernel
theorem dX12_give_30 : decode cX12_give 30 = .ok (.ifCond .ne 5, 3) := by decide +kernel
theorem dX12_give_33 : decode cX12_give 33 = .ok (.iconst (-1), 1) := by decide +kernel
theorem dX12_give_34 : decode cX12_give 34 = .ok (.ireturn, 1) := by decide +kernel
theorem dX12_give_35 : decode cX12_give 35 = .ok (.aload_n 0, 1) := by decide +kernel
theorem dX12_give_36 : decode cX12_give 36 = .ok (.invokevirtual 371, 3) := by decide +kernel
theorem dX12_give_39 : decode cX12_give 39 = .ok (.aload_n 0, 1) := by decide +kernel
theorem dX12_give_40 : decode cX12_give 40 = .ok (.iconst 0, 1) := by decide +kernel
theorem dX12_give_41 : decode cX12_give 41 = .ok (.iload_n 1, 1) := by decide +kernel
theorem dX12_give_42 : decode cX12_give 42 = .ok (.iload_n 2, 1) := by decide +kernel
theorem dX12_give_43 : decode cX12_give 43 = .ok (.invokevirtual 380, 3) := by decide +kernel
theorem dX12_give_46 : decode cX12_give 46 = .ok (.ireturn, 1) := by decide +kernel
theorem dX12_ask_0 : decode cX12_ask 0 = .ok (.aload_n 0, 1) := by decide +kernel
theorem dX12_ask_1 : decode cX12_ask 1 = .ok (.iconst 0, 1) := by decide +kernel
theorem dX12_ask_2 : decode cX12_ask 2 = .ok (.putfield 1, 3) := by decide +kernel
theorem dX12_ask_5 : decode cX12_ask 5 = .ok (.aload_n 0, 1) := by decide +kernel
theorem dX12_ask_6 : decode cX12_ask 6 = .ok (.iconst 0, 1) := by decide +kernel
theorem dX12_ask_7 : decode cX12_ask 7 = .ok (.iload_n 1, 1) := by decide +kernel
theorem dX12_ask_8 : decode cX12_ask 8 = .ok (.invokevirtual 319, 3) := by decide +kernel
theorem dX12_ask_11 : decode cX12_ask 11 = .ok (.ifCond .ne 5, 3) := by decide +kernel
theorem dX12_ask_14 : decode cX12_ask 14 = .ok (.iconst (-1), 1) := by decide +kernel
theorem dX12_ask_15 : decode cX12_ask 15 = .ok (.ireturn, 1) := by decide +kernel
theorem dX12_ask_16 : decode cX12_ask 16 = .ok (.aload_n 0, 1) := by decide +kernel
theorem dX12_ask_17 : decode cX12_ask 17 = .ok (.invokevirtual 371, 3) := by decide +kernel
theorem dX12_ask_20 : decode cX12_ask 20 = .ok (.aload_n 0, 1) := by decide +kernel
theorem dX12_ask_21 : decode cX12_ask 21 = .ok (.iconst 0, 1) := by decide +kernel
theorem dX12_ask_22 : decode cX12_ask 22 = .ok (.iload_n 1, 1) := by decide +kernel
theorem dX12_ask_23 : decode cX12_ask 23 = .ok (.invokevirtual 383, 3) := by decide +kernel
theorem dX12_ask_26 : decode cX12_ask 26 = .ok (.ifCond .eq 7, 3) := by decide +kernel
theorem dX12_ask_29 : decode cX12_ask 29 = .ok (.iconst 1, 1) := by decide +kernel
theorem dX12_ask_30 : decode cX12_ask 30 = .ok (.goto 4, 3) := by decide +kernel
theorem dX12_ask_33 : decode cX12_ask 33 = .ok (.iconst 0, 1) := by decide +kernel
theorem dX12_ask_34 : decode cX12_ask 34 = .ok (.ireturn, 1) := by decide +kernel
theorem dX12_night_0 : decode cX12_night 0 = .ok (.aload_n 0, 1) := by decide +kernel
theorem dX12_night_1 : decode cX12_night 1 = .ok (.iconst 0, 1) := by decide +kernel
theorem dX12_night_2 : decode cX12_night 2 = .ok (.putfield 1, 3) := by decide +kernel
theorem dX12_night_5 : decode cX12_night 5 = .ok (.aload_n 0, 1) := by decide +kernel
theorem dX12_night_6 : decode cX12_night 6 = .ok (.invokevirtual 371, 3) := by decide +kernel
theorem dX12_night_9 : decode cX12_night 9 = .ok (.aload_n 0, 1) := by decide +kernel
theorem dX12_night_10 : decode cX12_night 10 = .ok (.iconst 0, 1) := by decide +kernel
theorem dX12_night_11 : decode cX12_night 11 = .ok (.invokevirtual 386, 3) := by decide +kernel
theorem dX12_night_14 : decode cX12_night 14 = .ok (.ireturn, 1) := by decide +kernel
theorem dX12_undo_0 : decode cX12_undo 0 = .ok (.aload_n 0, 1) := by decide +kernel
theorem dX12_undo_1 : decode cX12_undo 1 = .ok (.iconst 0, 1) := by decide +kernel
theorem dX12_undo_2 : decode cX12_undo 2 = .ok (.putfield 1, 3) := by decide +kernel
theorem dX12_undo_5 : decode cX12_undo 5 = .ok (.aload_n 0, 1) := by decide +kernel
theorem dX12_undo_6 : decode cX12_undo 6 = .ok (.getfield 306, 3) := by decide +kernel
theorem dX12_undo_9 : decode cX12_undo 9 = .ok (.ifCond .ne 5, 3) := by decide +kernel
theorem dX12_undo_12 : decode cX12_undo 12 = .ok (.iconst 0, 1) := by decide +kernel
theorem dX12_undo_13 : decode cX12_undo 13 = .ok (.ireturn, 1) := by decide +kernel
theorem dX12_undo_14 : decode cX12_undo 14 = .ok (.aload_n 0, 1) := by decide +kernel
theorem dX12_undo_15 : decode cX12_undo 15 = .ok (.dup, 1) := by decide +kernel
theorem dX12_undo_16 : decode cX12_undo 16 = .ok (.getfield 306, 3) := by decide +kernel
theorem dX12_undo_19 : decode cX12_undo 19 = .ok (.iconst 1, 1) := by decide +kernel
theorem dX12_undo_20 : decode cX12_undo 20 = .ok (.isub, 1) := by decide +kernel
theorem dX12_undo_21 : decode cX12_undo 21 = .ok (.putfield 306, 3) := by decide +kernel
theorem dX12_undo_24 : decode cX12_undo 24 = .ok (.aload_n 0, 1) := by decide +kernel
theorem dX12_undo_25 : decode cX12_undo 25 = .ok (.bipush 63, 2) := by decide +kernel
theorem dX12_undo_27 : decode cX12_undo 27 = .ok (.iconst 5, 1) := by decide +kernel
theorem dX12_undo_28 : decode cX12_undo 28 = .ok (.aload_n 0, 1) := by decide +kernel
theorem dX12_undo_29 : decode cX12_undo 29 = .ok (.getfield 306, 3) := by decide +kernel
theorem dX12_undo_32 : decode cX12_undo 32 = .ok (.iadd, 1) := by decide +kernel
theorem dX12_undo_33 : decode cX12_undo 33 = .ok (.imul, 1) := by decide +kernel
theorem dX12_undo_34 : decode cX12_undo 34 = .ok (.iconst 0, 1) := by decide +kernel
theorem dX12_undo_35 : decode cX12_undo 35 = .ok (.bipush 38, 2) := by decide +kernel
theorem dX12_undo_37 : decode cX12_undo 37 = .ok (.invokevirtual 309, 3) := by decide +kernel
theorem dX12_undo_40 : decode cX12_undo 40 = .ok (.iconst 1, 1) := by decide +kernel
theorem dX12_undo_41 : decode cX12_undo 41 = .ok (.ireturn, 1) := by decide +kernel
theorem dX12_does_0 : decode cX12_does 0 = .ok (.iload_n 1, 1) := by decide +kernel
theorem dX12_does_1 : decode cX12_does 1 = .ok (.ifCond .ne 14, 3) := by decide +kernel
theorem dX12_does_4 : decode cX12_does 4 = .ok (.aload_n 0, 1) := by decide +kernel
theorem dX12_does_5 : decode cX12_does 5 = .ok (.sipush 1323, 3) := by decide +kernel
theorem dX12_does_8 : decode cX12_does 8 = .ok (.iload_n 2, 1) := by decide +kernel
theorem dX12_does_9 : decode cX12_does 9 = .ok (.invokevirtual 368, 3) := by decide +kernel
theorem dX12_does_12 : decode cX12_does 12 = .ok (.goto 41, 3) := by decide +kernel
theorem dX12_does_15 : decode cX12_does 15 = .ok (.iload_n 1, 1) := by decide +kernel
theorem dX12_does_16 : decode cX12_does 16 = .ok (.iconst 1, 1) := by decide +kernel
theorem dX12_does_17 : decode cX12_does 17 = .ok (.if_icmp .ne 15, 3) := by decide +kernel
theorem dX12_does_20 : decode cX12_does 20 = .ok (.aload_n 0, 1) := by decide +kernel
theorem dX12_does_21 : decode cX12_does 21 = .ok (.sipush 1323, 3) := by decide +kernel
theorem dX12_does_24 : decode cX12_does 24 = .ok (.iload_n 2, 1) := by decide +kernel
theorem dX12_does_25 : decode cX12_does 25 = .ok (.iload_n 3, 1) := by decide +kernel
theorem dX12_does_26 : decode cX12_does 26 = .ok (.invokevirtual 377, 3) := by decide +kernel
theorem dX12_does_29 : decode cX12_does 29 = .ok (.goto 24, 3) := by decide +kernel
theorem dX12_does_32 : decode cX12_does 32 = .ok (.iload_n 1, 1) := by decide +kernel
theorem dX12_does_33 : decode cX12_does 33 = .ok (.iconst 3, 1) := by decide +kernel
theorem dX12_does_34 : decode cX12_does 34 = .ok (.if_icmp .eq 14, 3) := by decide +kernel
theorem dX12_does_37 : decode cX12_does 37 = .ok (.aload_n 0, 1) := by decide +kernel
theorem dX12_does_38 : decode cX12_does 38 = .ok (.sipush 1323, 3) := by decide +kernel
theorem dX12_does_41 : decode cX12_does 41 = .ok (.iload_n 2, 1) := by decide +kernel
theorem dX12_does_42 : decode cX12_does 42 = .ok (.invokevirtual 319, 3) := by decide +kernel
theorem dX12_does_45 : decode cX12_does 45 = .ok (.ifCond .eq 7, 3) := by decide +kernel
theorem dX12_does_48 : decode cX12_does 48 = .ok (.iconst 1, 1) := by decide +kernel
theorem dX12_does_49 : decode cX12_does 49 = .ok (.goto 4, 3) := by decide +kernel
theorem dX12_does_52 : decode cX12_does 52 = .ok (.iconst 0, 1) := by decide +kernel
theorem dX12_does_53 : decode cX12_does 53 = .ok (.istore 4, 2) := by decide +kernel
theorem dX12_does_55 : decode cX12_does 55 = .ok (.iload 4, 2) := by decide +kernel
theorem dX12_does_57 : decode cX12_does 57 = .ok (.ifCond .eq 19, 3) := by decide +kernel
theorem dX12_does_60 : decode cX12_does 60 = .ok (.iload_n 1, 1) := by decide +kernel
theorem dX12_does_61 : decode cX12_does 61 = .ok (.ifCond .ne 15, 3) := by decide +kernel
theorem dX12_does_64 : decode cX12_does 64 = .ok (.aload_n 0, 1) := by decide +kernel
theorem dX12_does_65 : decode cX12_does 65 = .ok (.sipush 1323, 3) := by decide +kernel
theorem dX12_does_68 : decode cX12_does 68 = .ok (.iload_n 2, 1) := by decide +kernel
theorem dX12_does_69 : decode cX12_does 69 = .ok (.invokevirtual 374, 3) := by decide +kernel
theorem dX12_does_72 : decode cX12_does 72 = .ok (.pop, 1) := by decide +kernel
theorem dX12_does_73 : decode cX12_does 73 = .ok (.goto 61, 3) := by decide +kernel
theorem dX12_does_76 : decode cX12_does 76 = .ok (.iload 4, 2) := by decide +kernel
theorem dX12_does_78 : decode cX12_does 78 = .ok (.ifCond .eq 21, 3) := by decide +kernel
theorem dX12_does_81 : decode cX12_does 81 = .ok (.iload_n 1, 1) := by decide +kernel
theorem dX12_does_82 : decode cX12_does 82 = .ok (.iconst 1, 1) := by decide +kernel
theorem dX12_does_83 : decode cX12_does 83 = .ok (.if_icmp .ne 16, 3) := by decide +kernel
theorem dX12_does_86 : decode cX12_does 86 = .ok (.aload_n 0, 1) := by decide +kernel
theorem dX12_does_87 : decode cX12_does 87 = .ok (.sipush 1323, 3) := by decide +kernel
theorem dX12_does_90 : decode cX12_does 90 = .ok (.iload_n 2, 1) := by decide +kernel
theorem dX12_does_91 : decode cX12_does 91 = .ok (.iload_n 3, 1) := by decide +kernel
theorem dX12_does_92 : decode cX12_does 92 = .ok (.invokevirtual 380, 3) := by decide +kernel
theorem dX12_does_95 : decode cX12_does 95 = .ok (.pop, 1) := by decide +kernel
theorem dX12_does_96 : decode cX12_does 96 = .ok (.goto 38, 3) := by decide +kernel
theorem dX12_does_99 : decode cX12_does 99 = .ok (.iload 4, 2) := by decide +kernel
theorem dX12_does_101 : decode cX12_does 101 = .ok (.ifCond .eq 20, 3) := by decide +kernel
theorem dX12_does_104 : decode cX12_does 104 = .ok (.iload_n 1, 1) := by decide +kernel
theorem dX12_does_105 : decode cX12_does 105 = .ok (.iconst 2, 1) := by decide +kernel
theorem dX12_does_106 : decode cX12_does 106 = .ok (.if_icmp .ne 15, 3) := by decide +kernel
theorem dX12_does_109 : decode cX12_does 109 = .ok (.aload_n 0, 1) := by decide +kernel
theorem dX12_does_110 : decode cX12_does 110 = .ok (.sipush 1323, 3) := by decide +kernel
theorem dX12_does_113 : decode cX12_does 113 = .ok (.iload_n 2, 1) := by decide +kernel
theorem dX12_does_114 : decode cX12_does 114 = .ok (.invokevirtual 383, 3) := by decide +kernel
theorem dX12_does_117 : decode cX12_does 117 = .ok (.pop, 1) := by decide +kernel
theorem dX12_does_118 : decode cX12_does 118 = .ok (.goto 16, 3) := by decide +kernel
theorem dX12_does_121 : decode cX12_does 121 = .ok (.iload 4, 2) := by decide +kernel
theorem dX12_does_123 : decode cX12_does 123 = .ok (.ifCond .eq 11, 3) := by decide +kernel
theorem dX12_does_126 : decode cX12_does 126 = .ok (.aload_n 0, 1) := by decide +kernel
theorem dX12_does_127 : decode cX12_does 127 = .ok (.sipush 1323, 3) := by decide +kernel
theorem dX12_does_130 : decode cX12_does 130 = .ok (.invokevirtual 386, 3) := by decide +kernel
theorem dX12_does_133 : decode cX12_does 133 = .ok (.pop, 1) := by decide +kernel
theorem dX12_does_134 : decode cX12_does 134 = .ok (.iload 4, 2) := by decide +kernel
theorem dX12_does_136 : decode cX12_does 136 = .ok (.ireturn, 1) := by decide +kernel
theorem dX12_overMany_0 : decode cX12_overMany 0 = .ok (.iconst 0, 1) := by decide +kernel
theorem dX12_overMany_1 : decode cX12_overMany 1 = .ok (.istore_n 2, 1) := by decide +kernel
theorem dX12_overMany_2 : decode cX12_overMany 2 = .ok (.iconst 0, 1) := by decide +kernel
theorem dX12_overMany_3 : decode cX12_overMany 3 = .ok (.istore_n 3, 1) := by decide +kernel
theorem dX12_overMany_4 : decode cX12_overMany 4 = .ok (.iload_n 3, 1) := by decide +kernel
theorem dX12_overMany_5 : decode cX12_overMany 5 = .ok (.aload_n 0, 1) := by decide +kernel
theorem dX12_overMany_6 : decode cX12_overMany 6 = .ok (.invokevirtual 273, 3) := by decide +kernel
theorem dX12_overMany_9 : decode cX12_overMany 9 = .ok (.if_icmp .ge 23, 3) := by decide +kernel
theorem dX12_overMany_12 : decode cX12_overMany 12 = .ok (.iload_n 2, 1) := by decide +kernel
theorem dX12_overMany_13 : decode cX12_overMany 13 = .ok (.aload_n 0, 1) := by decide +kernel
theorem dX12_overMany_14 : decode cX12_overMany 14 = .ok (.getfield 113, 3) := by decide +kernel
theorem dX12_overMany_17 : decode cX12_overMany 17 = .ok (.iload_n 1, 1) := by decide +kernel
theorem dX12_overMany_18 : decode cX12_overMany 18 = .ok (.bipush 22, 2) := by decide +kernel
theorem dX12_overMany_20 : decode cX12_overMany 20 = .ok (.iadd, 1) := by decide +kernel
theorem dX12_overMany_21 : decode cX12_overMany 21 = .ok (.iload_n 3, 1) := by decide +kernel
theorem dX12_overMany_22 : decode cX12_overMany 22 = .ok (.iadd, 1) := by decide +kernel
theorem dX12_overMany_23 : decode cX12_overMany 23 = .ok (.iaload, 1) := by decide +kernel
theorem dX12_overMany_24 : decode cX12_overMany 24 = .ok (.iadd, 1) := by decide +kernel
theorem dX12_overMany_25 : decode cX12_overMany 25 = .ok (.istore_n 2, 1) := by decide +kernel
theorem dX12_overMany_26 : decode cX12_overMany 26 = .ok (.iinc 3 1, 3) := by decide +kernel
theorem dX12_overMany_29 : decode cX12_overMany 29 = .ok (.goto (-25), 3) := by decide +kernel
theorem dX12_overMany_32 : decode cX12_overMany 32 = .ok (.iload_n 2, 1) := by decide +kernel
theorem dX12_overMany_33 : decode cX12_overMany 33 = .ok (.ireturn, 1) := by decide +kernel
theorem dX12_judged_0 : decode cX12_judged 0 = .ok (.aload_n 0, 1) := by decide +kernel
theorem dX12_judged_1 : decode cX12_judged 1 = .ok (.iconst 0, 1) := by decide +kernel
theorem dX12_judged_2 : decode cX12_judged 2 = .ok (.putfield 1, 3) := by decide +kernel
theorem dX12_judged_5 : decode cX12_judged 5 = .ok (.iload_n 1, 1) := by decide +kernel
theorem dX12_judged_6 : decode cX12_judged 6 = .ok (.iconst 0, 1) := by decide +kernel
theorem dX12_judged_7 : decode cX12_judged 7 = .ok (.iconst 2, 1) := by decide +kernel
theorem dX12_judged_8 : decode cX12_judged 8 = .ok (.invokestatic 362, 3) := by decide +kernel
theorem dX12_judged_11 : decode cX12_judged 11 = .ok (.ifCond .ne 6, 3) := by decide +kernel
theorem dX12_judged_14 : decode cX12_judged 14 = .ok (.bipush (-2), 2) := by decide +kernel
theorem dX12_judged_16 : decode cX12_judged 16 = .ok (.ireturn, 1) := by decide +kernel
theorem dX12_judged_17 : decode cX12_judged 17 = .ok (.aload_n 0, 1) := by decide +kernel
theorem dX12_judged_18 : decode cX12_judged 18 = .ok (.sipush 1323, 3) := by decide +kernel
theorem dX12_judged_21 : decode cX12_judged 21 = .ok (.invokevirtual 303, 3) := by decide +kernel
theorem dX12_judged_24 : decode cX12_judged 24 = .ok (.iconst (-1), 1) := by decide +kernel
theorem dX12_judged_25 : decode cX12_judged 25 = .ok (.istore_n 2, 1) := by decide +kernel
theorem dX12_judged_26 : decode cX12_judged 26 = .ok (.iconst 0, 1) := by decide +kernel
theorem dX12_judged_27 : decode cX12_judged 27 = .ok (.istore_n 3, 1) := by decide +kernel
theorem dX12_judged_28 : decode cX12_judged 28 = .ok (.iload_n 3, 1) := by decide +kernel
theorem dX12_judged_29 : decode cX12_judged 29 = .ok (.aload_n 0, 1) := by decide +kernel
theorem dX12_judged_30 : decode cX12_judged 30 = .ok (.getfield 104, 3) := by decide +kernel
theorem dX12_judged_33 : decode cX12_judged 33 = .ok (.iconst 0, 1) := by decide +kernel
theorem dX12_judged_34 : decode cX12_judged 34 = .ok (.iaload, 1) := by decide +kernel
theorem dX12_judged_35 : decode cX12_judged 35 = .ok (.if_icmp .ge 60, 3) := by decide +kernel
theorem dX12_judged_38 : decode cX12_judged 38 = .ok (.aload_n 0, 1) := by decide +kernel
theorem dX12_judged_39 : decode cX12_judged 39 = .ok (.aload_n 0, 1) := by decide +kernel
theorem dX12_judged_40 : decode cX12_judged 40 = .ok (.getfield 104, 3) := by decide +kernel
theorem dX12_judged_43 : decode cX12_judged 43 = .ok (.iconst 1, 1) := by decide +kernel
theorem dX12_judged_44 : decode cX12_judged 44 = .ok (.iconst 3, 1) := by decide +kernel
theorem dX12_judged_45 : decode cX12_judged 45 = .ok (.iload_n 3, 1) := by decide +kernel
theorem dX12_judged_46 : decode cX12_judged 46 = .ok (.imul, 1) := by decide +kernel
theorem dX12_judged_47 : decode cX12_judged 47 = .ok (.iadd, 1) := by decide +kernel
theorem dX12_judged_48 : decode cX12_judged 48 = .ok (.iaload, 1) := by decide +kernel
theorem dX12_judged_49 : decode cX12_judged 49 = .ok (.aload_n 0, 1) := by decide +kernel
theorem dX12_judged_50 : decode cX12_judged 50 = .ok (.getfield 104, 3) := by decide +kernel
theorem dX12_judged_53 : decode cX12_judged 53 = .ok (.iconst 2, 1) := by decide +kernel
theorem dX12_judged_54 : decode cX12_judged 54 = .ok (.iconst 3, 1) := by decide +kernel
theorem dX12_judged_55 : decode cX12_judged 55 = .ok (.iload_n 3, 1) := by decide +kernel
theorem dX12_judged_56 : decode cX12_judged 56 = .ok (.imul, 1) := by decide +kernel
theorem dX12_judged_57 : decode cX12_judged 57 = .ok (.iadd, 1) := by decide +kernel
theorem dX12_judged_58 : decode cX12_judged 58 = .ok (.iaload, 1) := by decide +kernel
theorem dX12_judged_59 : decode cX12_judged 59 = .ok (.aload_n 0, 1) := by decide +kernel
theorem dX12_judged_60 : decode cX12_judged 60 = .ok (.getfield 104, 3) := by decide +kernel
theorem dX12_judged_63 : decode cX12_judged 63 = .ok (.iconst 3, 1) := by decide +kernel
theorem dX12_judged_64 : decode cX12_judged 64 = .ok (.iconst 3, 1) := by decide +kernel
theorem dX12_judged_65 : decode cX12_judged 65 = .ok (.iload_n 3, 1) := by decide +kernel
theorem dX12_judged_66 : decode cX12_judged 66 = .ok (.imul, 1) := by decide +kernel
theorem dX12_judged_67 : decode cX12_judged 67 = .ok (.iadd, 1) := by decide +kernel
theorem dX12_judged_68 : decode cX12_judged 68 = .ok (.iaload, 1) := by decide +kernel
theorem dX12_judged_69 : decode cX12_judged 69 = .ok (.invokevirtual 389, 3) := by decide +kernel
theorem dX12_judged_72 : decode cX12_judged 72 = .ok (.istore 4, 2) := by decide +kernel
theorem dX12_judged_74 : decode cX12_judged 74 = .ok (.iload 4, 2) := by decide +kernel
theorem dX12_judged_76 : decode cX12_judged 76 = .ok (.ifCond .ne 11, 3) := by decide +kernel
theorem dX12_judged_79 : decode cX12_judged 79 = .ok (.iload_n 2, 1) := by decide +kernel
theorem dX12_judged_80 : decode cX12_judged 80 = .ok (.ifCond .ge 7, 3) := by decide +kernel
theorem dX12_judged_83 : decode cX12_judged 83 = .ok (.iload_n 3, 1) := by decide +kernel
theorem dX12_judged_84 : decode cX12_judged 84 = .ok (.goto 4, 3) := by decide +kernel
theorem dX12_judged_87 : decode cX12_judged 87 = .ok (.iload_n 2, 1) := by decide +kernel
theorem dX12_judged_88 : decode cX12_judged 88 = .ok (.istore_n 2, 1) := by decide +kernel
theorem dX12_judged_89 : decode cX12_judged 89 = .ok (.iinc 3 1, 3) := by decide +kernel
theorem dX12_judged_92 : decode cX12_judged 92 = .ok (.goto (-64), 3) := by decide +kernel
theorem dX12_judged_95 : decode cX12_judged 95 = .ok (.iload_n 1, 1) := by decide +kernel
theorem dX12_judged_96 : decode cX12_judged 96 = .ok (.ifCond .ne 7, 3) := by decide +kernel
theorem dX12_judged_99 : decode cX12_judged 99 = .ok (.iload_n 2, 1) := by decide +kernel
theorem dX12_judged_100 : decode cX12_judged 100 = .ok (.goto 26, 3) := by decide +kernel
theorem dX12_judged_103 : decode cX12_judged 103 = .ok (.iload_n 1, 1) := by decide +kernel
theorem dX12_judged_104 : decode cX12_judged 104 = .ok (.iconst 1, 1) := by decide +kernel
theorem dX12_judged_105 : decode cX12_judged 105 = .ok (.if_icmp .ne 13, 3) := by decide +kernel
theorem dX12_judged_108 : decode cX12_judged 108 = .ok (.aload_n 0, 1) := by decide +kernel
theorem dX12_judged_109 : decode cX12_judged 109 = .ok (.sipush 1323, 3) := by decide +kernel
theorem dX12_judged_112 : decode cX12_judged 112 = .ok (.invokevirtual 392, 3) := by decide +kernel
theorem dX12_judged_115 : decode cX12_judged 115 = .ok (.goto 11, 3) := by decide +kernel
theorem dX12_judged_118 : decode cX12_judged 118 = .ok (.aload_n 0, 1) := by decide +kernel
theorem dX12_judged_119 : decode cX12_judged 119 = .ok (.getfield 113, 3) := by decide +kernel
theorem dX12_judged_122 : decode cX12_judged 122 = .ok (.sipush 1324, 3) := by decide +kernel
theorem dX12_judged_125 : decode cX12_judged 125 = .ok (.iaload, 1) := by decide +kernel
theorem dX12_judged_126 : decode cX12_judged 126 = .ok (.ireturn, 1) := by decide +kernel
theorem dX12_costOf_0 : decode cX12_costOf 0 = .ok (.iconst 0, 1) := by decide +kernel
theorem dX12_costOf_1 : decode cX12_costOf 1 = .ok (.istore_n 2, 1) := by decide +kernel
theorem dX12_costOf_2 : decode cX12_costOf 2 = .ok (.iload_n 2, 1) := by decide +kernel
theorem dX12_costOf_3 : decode cX12_costOf 3 = .ok (.bipush 6, 2) := by decide +kernel
theorem dX12_costOf_5 : decode cX12_costOf 5 = .ok (.if_icmp .ge 16, 3) := by decide +kernel
theorem dX12_costOf_8 : decode cX12_costOf 8 = .ok (.aload_n 0, 1) := by decide +kernel
theorem dX12_costOf_9 : decode cX12_costOf 9 = .ok (.getfield 129, 3) := by decide +kernel
theorem dX12_costOf_12 : decode cX12_costOf 12 = .ok (.iload_n 2, 1) := by decide +kernel
theorem dX12_costOf_13 : decode cX12_costOf 13 = .ok (.iconst 0, 1) := by decide +kernel
theorem dX12_costOf_14 : decode cX12_costOf 14 = .ok (.iastore, 1) := by decide +kernel
theorem dX12_costOf_15 : decode cX12_costOf 15 = .ok (.iinc 2 1, 3) := by decide +kernel
theorem dX12_costOf_18 : decode cX12_costOf 18 = .ok (.goto (-16), 3) := by decide +kernel
theorem dX12_costOf_21 : decode cX12_costOf 21 = .ok (.iconst 0, 1) := by decide +kernel
theorem dX12_costOf_22 : decode cX12_costOf 22 = .ok (.istore_n 2, 1) := by decide +kernel
theorem dX12_costOf_23 : decode cX12_costOf 23 = .ok (.iconst 1, 1) := by decide +kernel
theorem dX12_costOf_24 : decode cX12_costOf 24 = .ok (.istore_n 3, 1) := by decide +kernel
theorem dX12_costOf_25 : decode cX12_costOf 25 = .ok (.iconst 0, 1) := by decide +kernel
theorem dX12_costOf_26 : decode cX12_costOf 26 = .ok (.istore 4, 2) := by decide +kernel
theorem dX12_costOf_28 : decode cX12_costOf 28 = .ok (.iload 4, 2) := by decide +kernel
theorem dX12_costOf_30 : decode cX12_costOf 30 = .ok (.aload_n 0, 1) := by decide +kernel
theorem dX12_costOf_31 : decode cX12_costOf 31 = .ok (.invokevirtual 273, 3) := by decide +kernel
theorem dX12_costOf_34 : decode cX12_costOf 34 = .ok (.if_icmp .ge 123, 3) := by decide +kernel
theorem dX12_costOf_37 : decode cX12_costOf 37 = .ok (.iload_n 1, 1) := by decide +kernel
theorem dX12_costOf_38 : decode cX12_costOf 38 = .ok (.iload 4, 2) := by decide +kernel
