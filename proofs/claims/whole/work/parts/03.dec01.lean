theorem dX5_act_35 : decode cX5_act 35 = .ok (.aload_n 0, 1) := by decide +kernel
theorem dX5_act_36 : decode cX5_act 36 = .ok (.getfield 9, 3) := by decide +kernel
theorem dX5_act_39 : decode cX5_act 39 = .ok (.iload_n 3, 1) := by decide +kernel
theorem dX5_act_40 : decode cX5_act 40 = .ok (.iaload, 1) := by decide +kernel
theorem dX5_act_41 : decode cX5_act 41 = .ok (.aload_n 0, 1) := by decide +kernel
theorem dX5_act_42 : decode cX5_act 42 = .ok (.getfield 21, 3) := by decide +kernel
theorem dX5_act_45 : decode cX5_act 45 = .ok (.invokevirtual 70, 3) := by decide +kernel
theorem dX5_act_48 : decode cX5_act 48 = .ok (.iastore, 1) := by decide +kernel
theorem dX5_act_49 : decode cX5_act 49 = .ok (.aload_n 0, 1) := by decide +kernel
theorem dX5_act_50 : decode cX5_act 50 = .ok (.dup, 1) := by decide +kernel
theorem dX5_act_51 : decode cX5_act 51 = .ok (.getfield 31, 3) := by decide +kernel
theorem dX5_act_54 : decode cX5_act 54 = .ok (.iconst 1, 1) := by decide +kernel
theorem dX5_act_55 : decode cX5_act 55 = .ok (.iload_n 3, 1) := by decide +kernel
theorem dX5_act_56 : decode cX5_act 56 = .ok (.ishl, 1) := by decide +kernel
theorem dX5_act_57 : decode cX5_act 57 = .ok (.ior, 1) := by decide +kernel
theorem dX5_act_58 : decode cX5_act 58 = .ok (.putfield 31, 3) := by decide +kernel
theorem dX5_act_61 : decode cX5_act 61 = .ok (.goto 72, 3) := by decide +kernel
theorem dX5_act_64 : decode cX5_act 64 = .ok (.aload_n 0, 1) := by decide +kernel
theorem dX5_act_65 : decode cX5_act 65 = .ok (.getfield 18, 3) := by decide +kernel
theorem dX5_act_68 : decode cX5_act 68 = .ok (.aload_n 1, 1) := by decide +kernel
theorem dX5_act_69 : decode cX5_act 69 = .ok (.getfield 67, 3) := by decide +kernel
theorem dX5_act_72 : decode cX5_act 72 = .ok (.iload_n 3, 1) := by decide +kernel
theorem dX5_act_73 : decode cX5_act 73 = .ok (.iaload, 1) := by decide +kernel
theorem dX5_act_74 : decode cX5_act 74 = .ok (.dup2, 1) := by decide +kernel
theorem dX5_act_75 : decode cX5_act 75 = .ok (.iaload, 1) := by decide +kernel
theorem dX5_act_76 : decode cX5_act 76 = .ok (.iload 4, 2) := by decide +kernel
theorem dX5_act_78 : decode cX5_act 78 = .ok (.isub, 1) := by decide +kernel
theorem dX5_act_79 : decode cX5_act 79 = .ok (.iastore, 1) := by decide +kernel
theorem dX5_act_80 : decode cX5_act 80 = .ok (.aload_n 0, 1) := by decide +kernel
theorem dX5_act_81 : decode cX5_act 81 = .ok (.getfield 18, 3) := by decide +kernel
theorem dX5_act_84 : decode cX5_act 84 = .ok (.aload_n 1, 1) := by decide +kernel
theorem dX5_act_85 : decode cX5_act 85 = .ok (.getfield 74, 3) := by decide +kernel
theorem dX5_act_88 : decode cX5_act 88 = .ok (.iload_n 3, 1) := by decide +kernel
theorem dX5_act_89 : decode cX5_act 89 = .ok (.iaload, 1) := by decide +kernel
theorem dX5_act_90 : decode cX5_act 90 = .ok (.dup2, 1) := by decide +kernel
theorem dX5_act_91 : decode cX5_act 91 = .ok (.iaload, 1) := by decide +kernel
theorem dX5_act_92 : decode cX5_act 92 = .ok (.iload 4, 2) := by decide +kernel
theorem dX5_act_94 : decode cX5_act 94 = .ok (.iadd, 1) := by decide +kernel
theorem dX5_act_95 : decode cX5_act 95 = .ok (.iastore, 1) := by decide +kernel
theorem dX5_act_96 : decode cX5_act 96 = .ok (.aload_n 0, 1) := by decide +kernel
theorem dX5_act_97 : decode cX5_act 97 = .ok (.getfield 9, 3) := by decide +kernel
theorem dX5_act_100 : decode cX5_act 100 = .ok (.iload_n 3, 1) := by decide +kernel
theorem dX5_act_101 : decode cX5_act 101 = .ok (.iconst 0, 1) := by decide +kernel
theorem dX5_act_102 : decode cX5_act 102 = .ok (.aload_n 0, 1) := by decide +kernel
theorem dX5_act_103 : decode cX5_act 103 = .ok (.getfield 9, 3) := by decide +kernel
theorem dX5_act_106 : decode cX5_act 106 = .ok (.iload_n 3, 1) := by decide +kernel
theorem dX5_act_107 : decode cX5_act 107 = .ok (.iaload, 1) := by decide +kernel
theorem dX5_act_108 : decode cX5_act 108 = .ok (.iload 4, 2) := by decide +kernel
theorem dX5_act_110 : decode cX5_act 110 = .ok (.isub, 1) := by decide +kernel
theorem dX5_act_111 : decode cX5_act 111 = .ok (.invokestatic 77, 3) := by decide +kernel
theorem dX5_act_114 : decode cX5_act 114 = .ok (.iastore, 1) := by decide +kernel
theorem dX5_act_115 : decode cX5_act 115 = .ok (.goto 18, 3) := by decide +kernel
theorem dX5_act_118 : decode cX5_act 118 = .ok (.aload_n 0, 1) := by decide +kernel
theorem dX5_act_119 : decode cX5_act 119 = .ok (.aload_n 1, 1) := by decide +kernel
theorem dX5_act_120 : decode cX5_act 120 = .ok (.iload_n 3, 1) := by decide +kernel
theorem dX5_act_121 : decode cX5_act 121 = .ok (.iconst 0, 1) := by decide +kernel
theorem dX5_act_122 : decode cX5_act 122 = .ok (.invokevirtual 83, 3) := by decide +kernel
theorem dX5_act_125 : decode cX5_act 125 = .ok (.goto 8, 3) := by decide +kernel
theorem dX5_act_128 : decode cX5_act 128 = .ok (.aload_n 0, 1) := by decide +kernel
theorem dX5_act_129 : decode cX5_act 129 = .ok (.aload_n 1, 1) := by decide +kernel
theorem dX5_act_130 : decode cX5_act 130 = .ok (.invokevirtual 87, 3) := by decide +kernel
theorem dX5_act_133 : decode cX5_act 133 = .ok (.return_, 1) := by decide +kernel
theorem dX5_beg_0 : decode cX5_beg 0 = .ok (.aload_n 0, 1) := by decide +kernel
theorem dX5_beg_1 : decode cX5_beg 1 = .ok (.aload_n 1, 1) := by decide +kernel
theorem dX5_beg_2 : decode cX5_beg 2 = .ok (.iload_n 2, 1) := by decide +kernel
theorem dX5_beg_3 : decode cX5_beg 3 = .ok (.invokevirtual 91, 3) := by decide +kernel
theorem dX5_beg_6 : decode cX5_beg 6 = .ok (.ifCond .eq 67, 3) := by decide +kernel
theorem dX5_beg_9 : decode cX5_beg 9 = .ok (.aload_n 1, 1) := by decide +kernel
theorem dX5_beg_10 : decode cX5_beg 10 = .ok (.iload_n 2, 1) := by decide +kernel
theorem dX5_beg_11 : decode cX5_beg 11 = .ok (.aload_n 0, 1) := by decide +kernel
theorem dX5_beg_12 : decode cX5_beg 12 = .ok (.getfield 9, 3) := by decide +kernel
theorem dX5_beg_15 : decode cX5_beg 15 = .ok (.iload_n 2, 1) := by decide +kernel
theorem dX5_beg_16 : decode cX5_beg 16 = .ok (.iaload, 1) := by decide +kernel
theorem dX5_beg_17 : decode cX5_beg 17 = .ok (.aload_n 0, 1) := by decide +kernel
theorem dX5_beg_18 : decode cX5_beg 18 = .ok (.getfield 21, 3) := by decide +kernel
theorem dX5_beg_21 : decode cX5_beg 21 = .ok (.invokevirtual 95, 3) := by decide +kernel
theorem dX5_beg_24 : decode cX5_beg 24 = .ok (.iload_n 3, 1) := by decide +kernel
theorem dX5_beg_25 : decode cX5_beg 25 = .ok (.iadd, 1) := by decide +kernel
theorem dX5_beg_26 : decode cX5_beg 26 = .ok (.istore 4, 2) := by decide +kernel
theorem dX5_beg_28 : decode cX5_beg 28 = .ok (.aload_n 1, 1) := by decide +kernel
theorem dX5_beg_29 : decode cX5_beg 29 = .ok (.getfield 74, 3) := by decide +kernel
theorem dX5_beg_32 : decode cX5_beg 32 = .ok (.iload_n 2, 1) := by decide +kernel
theorem dX5_beg_33 : decode cX5_beg 33 = .ok (.iaload, 1) := by decide +kernel
theorem dX5_beg_34 : decode cX5_beg 34 = .ok (.istore 5, 2) := by decide +kernel
theorem dX5_beg_36 : decode cX5_beg 36 = .ok (.aload_n 0, 1) := by decide +kernel
theorem dX5_beg_37 : decode cX5_beg 37 = .ok (.getfield 15, 3) := by decide +kernel
theorem dX5_beg_40 : decode cX5_beg 40 = .ok (.iload 5, 2) := by decide +kernel
theorem dX5_beg_42 : decode cX5_beg 42 = .ok (.bipush 99, 2) := by decide +kernel
theorem dX5_beg_44 : decode cX5_beg 44 = .ok (.aload_n 0, 1) := by decide +kernel
theorem dX5_beg_45 : decode cX5_beg 45 = .ok (.getfield 15, 3) := by decide +kernel
theorem dX5_beg_48 : decode cX5_beg 48 = .ok (.iload 5, 2) := by decide +kernel
theorem dX5_beg_50 : decode cX5_beg 50 = .ok (.iaload, 1) := by decide +kernel
theorem dX5_beg_51 : decode cX5_beg 51 = .ok (.iload 4, 2) := by decide +kernel
theorem dX5_beg_53 : decode cX5_beg 53 = .ok (.iadd, 1) := by decide +kernel
theorem dX5_beg_54 : decode cX5_beg 54 = .ok (.invokestatic 98, 3) := by decide +kernel
theorem dX5_beg_57 : decode cX5_beg 57 = .ok (.iastore, 1) := by decide +kernel
theorem dX5_beg_58 : decode cX5_beg 58 = .ok (.aload_n 0, 1) := by decide +kernel
theorem dX5_beg_59 : decode cX5_beg 59 = .ok (.dup, 1) := by decide +kernel
theorem dX5_beg_60 : decode cX5_beg 60 = .ok (.getfield 28, 3) := by decide +kernel
theorem dX5_beg_63 : decode cX5_beg 63 = .ok (.iconst 1, 1) := by decide +kernel
theorem dX5_beg_64 : decode cX5_beg 64 = .ok (.iload_n 2, 1) := by decide +kernel
theorem dX5_beg_65 : decode cX5_beg 65 = .ok (.ishl, 1) := by decide +kernel
theorem dX5_beg_66 : decode cX5_beg 66 = .ok (.ior, 1) := by decide +kernel
theorem dX5_beg_67 : decode cX5_beg 67 = .ok (.putfield 28, 3) := by decide +kernel
theorem dX5_beg_70 : decode cX5_beg 70 = .ok (.goto 20, 3) := by decide +kernel
theorem dX5_beg_73 : decode cX5_beg 73 = .ok (.aload_n 0, 1) := by decide +kernel
theorem dX5_beg_74 : decode cX5_beg 74 = .ok (.getfield 9, 3) := by decide +kernel
theorem dX5_beg_77 : decode cX5_beg 77 = .ok (.iload_n 2, 1) := by decide +kernel
theorem dX5_beg_78 : decode cX5_beg 78 = .ok (.aload_n 1, 1) := by decide +kernel
theorem dX5_beg_79 : decode cX5_beg 79 = .ok (.iload_n 2, 1) := by decide +kernel
theorem dX5_beg_80 : decode cX5_beg 80 = .ok (.aload_n 0, 1) := by decide +kernel
theorem dX5_beg_81 : decode cX5_beg 81 = .ok (.getfield 9, 3) := by decide +kernel
theorem dX5_beg_84 : decode cX5_beg 84 = .ok (.iload_n 2, 1) := by decide +kernel
theorem dX5_beg_85 : decode cX5_beg 85 = .ok (.iaload, 1) := by decide +kernel
theorem dX5_beg_86 : decode cX5_beg 86 = .ok (.invokevirtual 101, 3) := by decide +kernel
theorem dX5_beg_89 : decode cX5_beg 89 = .ok (.iastore, 1) := by decide +kernel
theorem dX5_beg_90 : decode cX5_beg 90 = .ok (.return_, 1) := by decide +kernel
theorem dX5_sleep_0 : decode cX5_sleep 0 = .ok (.aload_n 0, 1) := by decide +kernel
theorem dX5_sleep_1 : decode cX5_sleep 1 = .ok (.dup, 1) := by decide +kernel
theorem dX5_sleep_2 : decode cX5_sleep 2 = .ok (.getfield 25, 3) := by decide +kernel
theorem dX5_sleep_5 : decode cX5_sleep 5 = .ok (.aload_n 1, 1) := by decide +kernel
theorem dX5_sleep_6 : decode cX5_sleep 6 = .ok (.getfield 104, 3) := by decide +kernel
theorem dX5_sleep_9 : decode cX5_sleep 9 = .ok (.aload_n 0, 1) := by decide +kernel
theorem dX5_sleep_10 : decode cX5_sleep 10 = .ok (.iconst 0, 1) := by decide +kernel
theorem dX5_sleep_11 : decode cX5_sleep 11 = .ok (.invokevirtual 108, 3) := by decide +kernel
theorem dX5_sleep_14 : decode cX5_sleep 14 = .ok (.invokevirtual 111, 3) := by decide +kernel
theorem dX5_sleep_17 : decode cX5_sleep 17 = .ok (.iadd, 1) := by decide +kernel
theorem dX5_sleep_18 : decode cX5_sleep 18 = .ok (.putfield 25, 3) := by decide +kernel
theorem dX5_sleep_21 : decode cX5_sleep 21 = .ok (.iconst 0, 1) := by decide +kernel
theorem dX5_sleep_22 : decode cX5_sleep 22 = .ok (.istore_n 2, 1) := by decide +kernel
theorem dX5_sleep_23 : decode cX5_sleep 23 = .ok (.iload_n 2, 1) := by decide +kernel
theorem dX5_sleep_24 : decode cX5_sleep 24 = .ok (.bipush 6, 2) := by decide +kernel
theorem dX5_sleep_26 : decode cX5_sleep 26 = .ok (.if_icmp .ge 27, 3) := by decide +kernel
theorem dX5_sleep_29 : decode cX5_sleep 29 = .ok (.aload_n 0, 1) := by decide +kernel
theorem dX5_sleep_30 : decode cX5_sleep 30 = .ok (.getfield 15, 3) := by decide +kernel
theorem dX5_sleep_33 : decode cX5_sleep 33 = .ok (.iload_n 2, 1) := by decide +kernel
theorem dX5_sleep_34 : decode cX5_sleep 34 = .ok (.iconst 0, 1) := by decide +kernel
theorem dX5_sleep_35 : decode cX5_sleep 35 = .ok (.aload_n 0, 1) := by decide +kernel
theorem dX5_sleep_36 : decode cX5_sleep 36 = .ok (.getfield 15, 3) := by decide +kernel
theorem dX5_sleep_39 : decode cX5_sleep 39 = .ok (.iload_n 2, 1) := by decide +kernel
theorem dX5_sleep_40 : decode cX5_sleep 40 = .ok (.iaload, 1) := by decide +kernel
theorem dX5_sleep_41 : decode cX5_sleep 41 = .ok (.iconst 1, 1) := by decide +kernel
theorem dX5_sleep_42 : decode cX5_sleep 42 = .ok (.isub, 1) := by decide +kernel
theorem dX5_sleep_43 : decode cX5_sleep 43 = .ok (.invokestatic 77, 3) := by decide +kernel
theorem dX5_sleep_46 : decode cX5_sleep 46 = .ok (.iastore, 1) := by decide +kernel
theorem dX5_sleep_47 : decode cX5_sleep 47 = .ok (.iinc 2 1, 3) := by decide +kernel
theorem dX5_sleep_50 : decode cX5_sleep 50 = .ok (.goto (-27), 3) := by decide +kernel
theorem dX5_sleep_53 : decode cX5_sleep 53 = .ok (.iconst 0, 1) := by decide +kernel
theorem dX5_sleep_54 : decode cX5_sleep 54 = .ok (.istore_n 2, 1) := by decide +kernel
theorem dX5_sleep_55 : decode cX5_sleep 55 = .ok (.iload_n 2, 1) := by decide +kernel
theorem dX5_sleep_56 : decode cX5_sleep 56 = .ok (.aload_n 1, 1) := by decide +kernel
theorem dX5_sleep_57 : decode cX5_sleep 57 = .ok (.getfield 34, 3) := by decide +kernel
theorem dX5_sleep_60 : decode cX5_sleep 60 = .ok (.if_icmp .ge 38, 3) := by decide +kernel
theorem dX5_sleep_63 : decode cX5_sleep 63 = .ok (.aload_n 0, 1) := by decide +kernel
theorem dX5_sleep_64 : decode cX5_sleep 64 = .ok (.iload_n 2, 1) := by decide +kernel
theorem dX5_sleep_65 : decode cX5_sleep 65 = .ok (.invokevirtual 56, 3) := by decide +kernel
theorem dX5_sleep_68 : decode cX5_sleep 68 = .ok (.ifCond .ne 24, 3) := by decide +kernel
theorem dX5_sleep_71 : decode cX5_sleep 71 = .ok (.aload_n 0, 1) := by decide +kernel
theorem dX5_sleep_72 : decode cX5_sleep 72 = .ok (.getfield 9, 3) := by decide +kernel
theorem dX5_sleep_75 : decode cX5_sleep 75 = .ok (.iload_n 2, 1) := by decide +kernel
theorem dX5_sleep_76 : decode cX5_sleep 76 = .ok (.aload_n 1, 1) := by decide +kernel
theorem dX5_sleep_77 : decode cX5_sleep 77 = .ok (.iload_n 2, 1) := by decide +kernel
theorem dX5_sleep_78 : decode cX5_sleep 78 = .ok (.aload_n 0, 1) := by decide +kernel
theorem dX5_sleep_79 : decode cX5_sleep 79 = .ok (.getfield 9, 3) := by decide +kernel
theorem dX5_sleep_82 : decode cX5_sleep 82 = .ok (.iload_n 2, 1) := by decide +kernel
theorem dX5_sleep_83 : decode cX5_sleep 83 = .ok (.iaload, 1) := by decide +kernel
theorem dX5_sleep_84 : decode cX5_sleep 84 = .ok (.aload_n 0, 1) := by decide +kernel
theorem dX5_sleep_85 : decode cX5_sleep 85 = .ok (.getfield 21, 3) := by decide +kernel
theorem dX5_sleep_88 : decode cX5_sleep 88 = .ok (.invokevirtual 116, 3) := by decide +kernel
theorem dX5_sleep_91 : decode cX5_sleep 91 = .ok (.iastore, 1) := by decide +kernel
theorem dX5_sleep_92 : decode cX5_sleep 92 = .ok (.iinc 2 1, 3) := by decide +kernel
theorem dX5_sleep_95 : decode cX5_sleep 95 = .ok (.goto (-40), 3) := by decide +kernel
theorem dX5_sleep_98 : decode cX5_sleep 98 = .ok (.aload_n 0, 1) := by decide +kernel
theorem dX5_sleep_99 : decode cX5_sleep 99 = .ok (.iconst 0, 1) := by decide +kernel
theorem dX5_sleep_100 : decode cX5_sleep 100 = .ok (.putfield 31, 3) := by decide +kernel
theorem dX5_sleep_103 : decode cX5_sleep 103 = .ok (.aload_n 0, 1) := by decide +kernel
theorem dX5_sleep_104 : decode cX5_sleep 104 = .ok (.dup, 1) := by decide +kernel
theorem dX5_sleep_105 : decode cX5_sleep 105 = .ok (.getfield 21, 3) := by decide +kernel
theorem dX5_sleep_108 : decode cX5_sleep 108 = .ok (.iconst 1, 1) := by decide +kernel
theorem dX5_sleep_109 : decode cX5_sleep 109 = .ok (.iadd, 1) := by decide +kernel
theorem dX5_sleep_110 : decode cX5_sleep 110 = .ok (.putfield 21, 3) := by decide +kernel
theorem dX5_sleep_113 : decode cX5_sleep 113 = .ok (.return_, 1) := by decide +kernel
theorem dX6_init_0 : decode cX6_init 0 = .ok (.aload_n 0, 1) := by decide +kernel
theorem dX6_init_1 : decode cX6_init 1 = .ok (.invokespecial 3, 3) := by decide +kernel
theorem dX6_init_4 : decode cX6_init 4 = .ok (.aload_n 0, 1) := by decide +kernel
theorem dX6_init_5 : decode cX6_init 5 = .ok (.sipush 1000, 3) := by decide +kernel
theorem dX6_init_8 : decode cX6_init 8 = .ok (.newarray .byte, 2) := by decide +kernel
theorem dX6_init_10 : decode cX6_init 10 = .ok (.putfield 11, 3) := by decide +kernel
theorem dX6_init_13 : decode cX6_init 13 = .ok (.return_, 1) := by decide +kernel
theorem dX6_append_0 : decode cX6_append 0 = .ok (.bipush 56, 2) := by decide +kernel
theorem dX6_append_2 : decode cX6_append 2 = .ok (.istore_n 3, 1) := by decide +kernel
theorem dX6_append_3 : decode cX6_append 3 = .ok (.iload_n 3, 1) := by decide +kernel
theorem dX6_append_4 : decode cX6_append 4 = .ok (.ifCond .lt 72, 3) := by decide +kernel
theorem dX6_append_7 : decode cX6_append 7 = .ok (.lload_n 1, 1) := by decide +kernel
theorem dX6_append_8 : decode cX6_append 8 = .ok (.iload_n 3, 1) := by decide +kernel
theorem dX6_append_9 : decode cX6_append 9 = .ok (.lushr, 1) := by decide +kernel
theorem dX6_append_10 : decode cX6_append 10 = .ok (.ldc2_w 15, 3) := by decide +kernel
theorem dX6_append_13 : decode cX6_append 13 = .ok (.land, 1) := by decide +kernel
theorem dX6_append_14 : decode cX6_append 14 = .ok (.l2i, 1) := by decide +kernel
theorem dX6_append_15 : decode cX6_append 15 = .ok (.istore 4, 2) := by decide +kernel
theorem dX6_append_17 : decode cX6_append 17 = .ok (.iload 4, 2) := by decide +kernel
theorem dX6_append_19 : decode cX6_append 19 = .ok (.bipush 10, 2) := by decide +kernel
theorem dX6_append_21 : decode cX6_append 21 = .ok (.if_icmp .eq 15, 3) := by decide +kernel
theorem dX6_append_24 : decode cX6_append 24 = .ok (.iload 4, 2) := by decide +kernel
theorem dX6_append_26 : decode cX6_append 26 = .ok (.bipush 32, 2) := by decide +kernel
theorem dX6_append_28 : decode cX6_append 28 = .ok (.bipush 126, 2) := by decide +kernel
theorem dX6_append_30 : decode cX6_append 30 = .ok (.invokestatic 17, 3) := by decide +kernel
theorem dX6_append_33 : decode cX6_append 33 = .ok (.ifCond .eq 37, 3) := by decide +kernel
theorem dX6_append_36 : decode cX6_append 36 = .ok (.aload_n 0, 1) := by decide +kernel
theorem dX6_append_37 : decode cX6_append 37 = .ok (.getfield 21, 3) := by decide +kernel
theorem dX6_append_40 : decode cX6_append 40 = .ok (.aload_n 0, 1) := by decide +kernel
theorem dX6_append_41 : decode cX6_append 41 = .ok (.getfield 11, 3) := by decide +kernel
theorem dX6_append_44 : decode cX6_append 44 = .ok (.arraylength, 1) := by decide +kernel
theorem dX6_append_45 : decode cX6_append 45 = .ok (.if_icmp .ge 25, 3) := by decide +kernel
theorem dX6_append_48 : decode cX6_append 48 = .ok (.aload_n 0, 1) := by decide +kernel
theorem dX6_append_49 : decode cX6_append 49 = .ok (.getfield 11, 3) := by decide +kernel
theorem dX6_append_52 : decode cX6_append 52 = .ok (.aload_n 0, 1) := by decide +kernel
theorem dX6_append_53 : decode cX6_append 53 = .ok (.getfield 21, 3) := by decide +kernel
theorem dX6_append_56 : decode cX6_append 56 = .ok (.iload 4, 2) := by decide +kernel
theorem dX6_append_58 : decode cX6_append 58 = .ok (.i2b, 1) := by decide +kernel
theorem dX6_append_59 : decode cX6_append 59 = .ok (.bastore, 1) := by decide +kernel
theorem dX6_append_60 : decode cX6_append 60 = .ok (.aload_n 0, 1) := by decide +kernel
theorem dX6_append_61 : decode cX6_append 61 = .ok (.dup, 1) := by decide +kernel
theorem dX6_append_62 : decode cX6_append 62 = .ok (.getfield 21, 3) := by decide +kernel
theorem dX6_append_65 : decode cX6_append 65 = .ok (.iconst 1, 1) := by decide +kernel
theorem dX6_append_66 : decode cX6_append 66 = .ok (.iadd, 1) := by decide +kernel
theorem dX6_append_67 : decode cX6_append 67 = .ok (.putfield 21, 3) := by decide +kernel
theorem dX6_append_70 : decode cX6_append 70 = .ok (.iinc 3 (-8), 3) := by decide +kernel
theorem dX6_append_73 : decode cX6_append 73 = .ok (.goto (-70), 3) := by decide +kernel
theorem dX6_append_76 : decode cX6_append 76 = .ok (.return_, 1) := by decide +kernel
theorem dX6_rewind_0 : decode cX6_rewind 0 = .ok (.aload_n 0, 1) := by decide +kernel
theorem dX6_rewind_1 : decode cX6_rewind 1 = .ok (.iconst 0, 1) := by decide +kernel
theorem dX6_rewind_2 : decode cX6_rewind 2 = .ok (.putfield 25, 3) := by decide +kernel
theorem dX6_rewind_5 : decode cX6_rewind 5 = .ok (.aload_n 0, 1) := by decide +kernel
theorem dX6_rewind_6 : decode cX6_rewind 6 = .ok (.invokevirtual 28, 3) := by decide +kernel
theorem dX6_rewind_9 : decode cX6_rewind 9 = .ok (.return_, 1) := by decide +kernel
theorem dX6_advance_0 : decode cX6_advance 0 = .ok (.aload_n 0, 1) := by decide +kernel
theorem dX6_advance_1 : decode cX6_advance 1 = .ok (.getfield 25, 3) := by decide +kernel
theorem dX6_advance_4 : decode cX6_advance 4 = .ok (.istore_n 1, 1) := by decide +kernel
theorem dX6_advance_5 : decode cX6_advance 5 = .ok (.iload_n 1, 1) := by decide +kernel
theorem dX6_advance_6 : decode cX6_advance 6 = .ok (.aload_n 0, 1) := by decide +kernel
theorem dX6_advance_7 : decode cX6_advance 7 = .ok (.getfield 21, 3) := by decide +kernel
theorem dX6_advance_10 : decode cX6_advance 10 = .ok (.if_icmp .ge 31, 3) := by decide +kernel
theorem dX6_advance_13 : decode cX6_advance 13 = .ok (.aload_n 0, 1) := by decide +kernel
theorem dX6_advance_14 : decode cX6_advance 14 = .ok (.getfield 11, 3) := by decide +kernel
theorem dX6_advance_17 : decode cX6_advance 17 = .ok (.iload_n 1, 1) := by decide +kernel
theorem dX6_advance_18 : decode cX6_advance 18 = .ok (.baload, 1) := by decide +kernel
theorem dX6_advance_19 : decode cX6_advance 19 = .ok (.bipush 10, 2) := by decide +kernel
theorem dX6_advance_21 : decode cX6_advance 21 = .ok (.if_icmp .eq 14, 3) := by decide +kernel
theorem dX6_advance_24 : decode cX6_advance 24 = .ok (.aload_n 0, 1) := by decide +kernel
theorem dX6_advance_25 : decode cX6_advance 25 = .ok (.getfield 11, 3) := by decide +kernel
theorem dX6_advance_28 : decode cX6_advance 28 = .ok (.iload_n 1, 1) := by decide +kernel
theorem dX6_advance_29 : decode cX6_advance 29 = .ok (.baload, 1) := by decide +kernel
theorem dX6_advance_30 : decode cX6_advance 30 = .ok (.bipush 32, 2) := by decide +kernel
theorem dX6_advance_32 : decode cX6_advance 32 = .ok (.if_icmp .ne 9, 3) := by decide +kernel
theorem dX6_advance_35 : decode cX6_advance 35 = .ok (.iinc 1 1, 3) := by decide +kernel
theorem dX6_advance_38 : decode cX6_advance 38 = .ok (.goto (-33), 3) := by decide +kernel
theorem dX6_advance_41 : decode cX6_advance 41 = .ok (.aload_n 0, 1) := by decide +kernel
theorem dX6_advance_42 : decode cX6_advance 42 = .ok (.iload_n 1, 1) := by decide +kernel
theorem dX6_advance_43 : decode cX6_advance 43 = .ok (.putfield 31, 3) := by decide +kernel
theorem dX6_advance_46 : decode cX6_advance 46 = .ok (.aload_n 0, 1) := by decide +kernel
theorem dX6_advance_47 : decode cX6_advance 47 = .ok (.iload_n 1, 1) := by decide +kernel
theorem dX6_advance_48 : decode cX6_advance 48 = .ok (.putfield 25, 3) := by decide +kernel
theorem dX6_advance_51 : decode cX6_advance 51 = .ok (.aload_n 0, 1) := by decide +kernel
theorem dX6_advance_52 : decode cX6_advance 52 = .ok (.iconst 0, 1) := by decide +kernel
theorem dX6_advance_53 : decode cX6_advance 53 = .ok (.putfield 34, 3) := by decide +kernel
theorem dX6_advance_56 : decode cX6_advance 56 = .ok (.aload_n 0, 1) := by decide +kernel
theorem dX6_advance_57 : decode cX6_advance 57 = .ok (.lconst 0, 1) := by decide +kernel
theorem dX6_advance_58 : decode cX6_advance 58 = .ok (.putfield 37, 3) := by decide +kernel
theorem dX6_advance_61 : decode cX6_advance 61 = .ok (.iload_n 1, 1) := by decide +kernel
theorem dX6_advance_62 : decode cX6_advance 62 = .ok (.aload_n 0, 1) := by decide +kernel
theorem dX6_advance_63 : decode cX6_advance 63 = .ok (.getfield 21, 3) := by decide +kernel
theorem dX6_advance_66 : decode cX6_advance 66 = .ok (.if_icmp .lt 11, 3) := by decide +kernel
theorem dX6_advance_69 : decode cX6_advance 69 = .ok (.aload_n 0, 1) := by decide +kernel
theorem dX6_advance_70 : decode cX6_advance 70 = .ok (.iconst 0, 1) := by decide +kernel
theorem dX6_advance_71 : decode cX6_advance 71 = .ok (.putfield 41, 3) := by decide +kernel
theorem dX6_advance_74 : decode cX6_advance 74 = .ok (.goto 88, 3) := by decide +kernel
theorem dX6_advance_77 : decode cX6_advance 77 = .ok (.aload_n 0, 1) := by decide +kernel
theorem dX6_advance_78 : decode cX6_advance 78 = .ok (.getfield 11, 3) := by decide +kernel
theorem dX6_advance_81 : decode cX6_advance 81 = .ok (.iload_n 1, 1) := by decide +kernel
theorem dX6_advance_82 : decode cX6_advance 82 = .ok (.baload, 1) := by decide +kernel
theorem dX6_advance_83 : decode cX6_advance 83 = .ok (.bipush 97, 2) := by decide +kernel
theorem dX6_advance_85 : decode cX6_advance 85 = .ok (.bipush 122, 2) := by decide +kernel
theorem dX6_advance_87 : decode cX6_advance 87 = .ok (.invokestatic 17, 3) := by decide +kernel
theorem dX6_advance_90 : decode cX6_advance 90 = .ok (.ifCond .eq 10, 3) := by decide +kernel
theorem dX6_advance_93 : decode cX6_advance 93 = .ok (.aload_n 0, 1) := by decide +kernel
theorem dX6_advance_94 : decode cX6_advance 94 = .ok (.invokevirtual 44, 3) := by decide +kernel
theorem dX6_advance_97 : decode cX6_advance 97 = .ok (.goto 65, 3) := by decide +kernel
theorem dX6_advance_100 : decode cX6_advance 100 = .ok (.aload_n 0, 1) := by decide +kernel
theorem dX6_advance_101 : decode cX6_advance 101 = .ok (.getfield 11, 3) := by decide +kernel
theorem dX6_advance_104 : decode cX6_advance 104 = .ok (.iload_n 1, 1) := by decide +kernel
theorem dX6_advance_105 : decode cX6_advance 105 = .ok (.baload, 1) := by decide +kernel
theorem dX6_advance_106 : decode cX6_advance 106 = .ok (.bipush 48, 2) := by decide +kernel
theorem dX6_advance_108 : decode cX6_advance 108 = .ok (.bipush 57, 2) := by decide +kernel
theorem dX6_advance_110 : decode cX6_advance 110 = .ok (.invokestatic 17, 3) := by decide +kernel
theorem dX6_advance_113 : decode cX6_advance 113 = .ok (.ifCond .eq 10, 3) := by decide +kernel
theorem dX6_advance_116 : decode cX6_advance 116 = .ok (.aload_n 0, 1) := by decide +kernel
theorem dX6_advance_117 : decode cX6_advance 117 = .ok (.invokevirtual 47, 3) := by decide +kernel
theorem dX6_advance_120 : decode cX6_advance 120 = .ok (.goto 42, 3) := by decide +kernel
theorem dX6_advance_123 : decode cX6_advance 123 = .ok (.aload_n 0, 1) := by decide +kernel
theorem dX6_advance_124 : decode cX6_advance 124 = .ok (.aload_n 0, 1) := by decide +kernel
theorem dX6_advance_125 : decode cX6_advance 125 = .ok (.getfield 11, 3) := by decide +kernel
theorem dX6_advance_128 : decode cX6_advance 128 = .ok (.iload_n 1, 1) := by decide +kernel
theorem dX6_advance_129 : decode cX6_advance 129 = .ok (.baload, 1) := by decide +kernel
theorem dX6_advance_130 : decode cX6_advance 130 = .ok (.putfield 34, 3) := by decide +kernel
theorem dX6_advance_133 : decode cX6_advance 133 = .ok (.aload_n 0, 1) := by decide +kernel
theorem dX6_advance_134 : decode cX6_advance 134 = .ok (.ldc 50, 2) := by decide +kernel
theorem dX6_advance_136 : decode cX6_advance 136 = .ok (.aload_n 0, 1) := by decide +kernel
theorem dX6_advance_137 : decode cX6_advance 137 = .ok (.getfield 34, 3) := by decide +kernel
theorem dX6_advance_140 : decode cX6_advance 140 = .ok (.i2c, 1) := by decide +kernel
theorem dX6_advance_141 : decode cX6_advance 141 = .ok (.invokevirtual 52, 3) := by decide +kernel
theorem dX6_advance_144 : decode cX6_advance 144 = .ok (.ifCond .lt 7, 3) := by decide +kernel
theorem dX6_advance_147 : decode cX6_advance 147 = .ok (.iconst 4, 1) := by decide +kernel
theorem dX6_advance_148 : decode cX6_advance 148 = .ok (.goto 4, 3) := by decide +kernel
theorem dX6_advance_151 : decode cX6_advance 151 = .ok (.iconst 1, 1) := by decide +kernel
theorem dX6_advance_152 : decode cX6_advance 152 = .ok (.putfield 41, 3) := by decide +kernel
theorem dX6_advance_155 : decode cX6_advance 155 = .ok (.aload_n 0, 1) := by decide +kernel
theorem dX6_advance_156 : decode cX6_advance 156 = .ok (.iload_n 1, 1) := by decide +kernel
theorem dX6_advance_157 : decode cX6_advance 157 = .ok (.iconst 1, 1) := by decide +kernel
theorem dX6_advance_158 : decode cX6_advance 158 = .ok (.iadd, 1) := by decide +kernel
theorem dX6_advance_159 : decode cX6_advance 159 = .ok (.putfield 25, 3) := by decide +kernel
theorem dX6_advance_162 : decode cX6_advance 162 = .ok (.return_, 1) := by decide +kernel
theorem dX6_takeWord_0 : decode cX6_takeWord 0 = .ok (.aload_n 0, 1) := by decide +kernel
theorem dX6_takeWord_1 : decode cX6_takeWord 1 = .ok (.getfield 31, 3) := by decide +kernel
theorem dX6_takeWord_4 : decode cX6_takeWord 4 = .ok (.istore_n 1, 1) := by decide +kernel
theorem dX6_takeWord_5 : decode cX6_takeWord 5 = .ok (.iload_n 1, 1) := by decide +kernel
theorem dX6_takeWord_6 : decode cX6_takeWord 6 = .ok (.aload_n 0, 1) := by decide +kernel
theorem dX6_takeWord_7 : decode cX6_takeWord 7 = .ok (.getfield 21, 3) := by decide +kernel
theorem dX6_takeWord_10 : decode cX6_takeWord 10 = .ok (.if_icmp .ge 55, 3) := by decide +kernel
theorem dX6_takeWord_13 : decode cX6_takeWord 13 = .ok (.aload_n 0, 1) := by decide +kernel
theorem dX6_takeWord_14 : decode cX6_takeWord 14 = .ok (.getfield 11, 3) := by decide +kernel
theorem dX6_takeWord_17 : decode cX6_takeWord 17 = .ok (.iload_n 1, 1) := by decide +kernel
theorem dX6_takeWord_18 : decode cX6_takeWord 18 = .ok (.baload, 1) := by decide +kernel
theorem dX6_takeWord_19 : decode cX6_takeWord 19 = .ok (.bipush 97, 2) := by decide +kernel
theorem dX6_takeWord_21 : decode cX6_takeWord 21 = .ok (.if_icmp .lt 44, 3) := by decide +kernel
theorem dX6_takeWord_24 : decode cX6_takeWord 24 = .ok (.aload_n 0, 1) := by decide +kernel
theorem dX6_takeWord_25 : decode cX6_takeWord 25 = .ok (.getfield 11, 3) := by decide +kernel
theorem dX6_takeWord_28 : decode cX6_takeWord 28 = .ok (.iload_n 1, 1) := by decide +kernel
theorem dX6_takeWord_29 : decode cX6_takeWord 29 = .ok (.baload, 1) := by decide +kernel
theorem dX6_takeWord_30 : decode cX6_takeWord 30 = .ok (.bipush 122, 2) := by decide +kernel
theorem dX6_takeWord_32 : decode cX6_takeWord 32 = .ok (.if_icmp .gt 33, 3) := by decide +kernel
theorem dX6_takeWord_35 : decode cX6_takeWord 35 = .ok (.aload_n 0, 1) := by decide +kernel
theorem dX6_takeWord_36 : decode cX6_takeWord 36 = .ok (.aload_n 0, 1) := by decide +kernel
theorem dX6_takeWord_37 : decode cX6_takeWord 37 = .ok (.getfield 37, 3) := by decide +kernel
theorem dX6_takeWord_40 : decode cX6_takeWord 40 = .ok (.ldc2_w 58, 3) := by decide +kernel
theorem dX6_takeWord_43 : decode cX6_takeWord 43 = .ok (.lmul, 1) := by decide +kernel
theorem dX6_takeWord_44 : decode cX6_takeWord 44 = .ok (.aload_n 0, 1) := by decide +kernel
theorem dX6_takeWord_45 : decode cX6_takeWord 45 = .ok (.getfield 11, 3) := by decide +kernel
theorem dX6_takeWord_48 : decode cX6_takeWord 48 = .ok (.iload_n 1, 1) := by decide +kernel
theorem dX6_takeWord_49 : decode cX6_takeWord 49 = .ok (.baload, 1) := by decide +kernel
theorem dX6_takeWord_50 : decode cX6_takeWord 50 = .ok (.i2l, 1) := by decide +kernel
theorem dX6_takeWord_51 : decode cX6_takeWord 51 = .ok (.ladd, 1) := by decide +kernel
theorem dX6_takeWord_52 : decode cX6_takeWord 52 = .ok (.ldc2_w 60, 3) := by decide +kernel
theorem dX6_takeWord_55 : decode cX6_takeWord 55 = .ok (.lsub, 1) := by decide +kernel
theorem dX6_takeWord_56 : decode cX6_takeWord 56 = .ok (.putfield 37, 3) := by decide +kernel
theorem dX6_takeWord_59 : decode cX6_takeWord 59 = .ok (.iinc 1 1, 3) := by decide +kernel
theorem dX6_takeWord_62 : decode cX6_takeWord 62 = .ok (.goto (-57), 3) := by decide +kernel
theorem dX6_takeWord_65 : decode cX6_takeWord 65 = .ok (.aload_n 0, 1) := by decide +kernel
theorem dX6_takeWord_66 : decode cX6_takeWord 66 = .ok (.iload_n 1, 1) := by decide +kernel
theorem dX6_takeWord_67 : decode cX6_takeWord 67 = .ok (.aload_n 0, 1) := by decide +kernel
theorem dX6_takeWord_68 : decode cX6_takeWord 68 = .ok (.getfield 31, 3) := by decide +kernel
theorem dX6_takeWord_71 : decode cX6_takeWord 71 = .ok (.isub, 1) := by decide +kernel
theorem dX6_takeWord_72 : decode cX6_takeWord 72 = .ok (.bipush 8, 2) := by decide +kernel
theorem dX6_takeWord_74 : decode cX6_takeWord 74 = .ok (.if_icmp .gt 7, 3) := by decide +kernel
theorem dX6_takeWord_77 : decode cX6_takeWord 77 = .ok (.iconst 2, 1) := by decide +kernel
theorem dX6_takeWord_78 : decode cX6_takeWord 78 = .ok (.goto 4, 3) := by decide +kernel
theorem dX6_takeWord_81 : decode cX6_takeWord 81 = .ok (.iconst 1, 1) := by decide +kernel
theorem dX6_takeWord_82 : decode cX6_takeWord 82 = .ok (.putfield 41, 3) := by decide +kernel
theorem dX6_takeWord_85 : decode cX6_takeWord 85 = .ok (.aload_n 0, 1) := by decide +kernel
theorem dX6_takeWord_86 : decode cX6_takeWord 86 = .ok (.iload_n 1, 1) := by decide +kernel
theorem dX6_takeWord_87 : decode cX6_takeWord 87 = .ok (.putfield 25, 3) := by decide +kernel
theorem dX6_takeWord_90 : decode cX6_takeWord 90 = .ok (.return_, 1) := by decide +kernel
theorem dX6_takeNumber_0 : decode cX6_takeNumber 0 = .ok (.aload_n 0, 1) := by decide +kernel
theorem dX6_takeNumber_1 : decode cX6_takeNumber 1 = .ok (.getfield 31, 3) := by decide +kernel
theorem dX6_takeNumber_4 : decode cX6_takeNumber 4 = .ok (.istore_n 1, 1) := by decide +kernel
theorem dX6_takeNumber_5 : decode cX6_takeNumber 5 = .ok (.iload_n 1, 1) := by decide +kernel
theorem dX6_takeNumber_6 : decode cX6_takeNumber 6 = .ok (.aload_n 0, 1) := by decide +kernel
theorem dX6_takeNumber_7 : decode cX6_takeNumber 7 = .ok (.getfield 21, 3) := by decide +kernel
theorem dX6_takeNumber_10 : decode cX6_takeNumber 10 = .ok (.if_icmp .ge 52, 3) := by decide +kernel
theorem dX6_takeNumber_13 : decode cX6_takeNumber 13 = .ok (.aload_n 0, 1) := by decide +kernel
theorem dX6_takeNumber_14 : decode cX6_takeNumber 14 = .ok (.getfield 11, 3) := by decide +kernel
theorem dX6_takeNumber_17 : decode cX6_takeNumber 17 = .ok (.iload_n 1, 1) := by decide +kernel
theorem dX6_takeNumber_18 : decode cX6_takeNumber 18 = .ok (.baload, 1) := by decide +kernel
theorem dX6_takeNumber_19 : decode cX6_takeNumber 19 = .ok (.bipush 48, 2) := by decide +kernel
theorem dX6_takeNumber_21 : decode cX6_takeNumber 21 = .ok (.if_icmp .lt 41, 3) := by decide +kernel
theorem dX6_takeNumber_24 : decode cX6_takeNumber 24 = .ok (.aload_n 0, 1) := by decide +kernel
theorem dX6_takeNumber_25 : decode cX6_takeNumber 25 = .ok (.getfield 11, 3) := by decide +kernel
theorem dX6_takeNumber_28 : decode cX6_takeNumber 28 = .ok (.iload_n 1, 1) := by decide +kernel
theorem dX6_takeNumber_29 : decode cX6_takeNumber 29 = .ok (.baload, 1) := by decide +kernel
theorem dX6_takeNumber_30 : decode cX6_takeNumber 30 = .ok (.bipush 57, 2) := by decide +kernel
theorem dX6_takeNumber_32 : decode cX6_takeNumber 32 = .ok (.if_icmp .gt 30, 3) := by decide +kernel
theorem dX6_takeNumber_35 : decode cX6_takeNumber 35 = .ok (.aload_n 0, 1) := by decide +kernel
theorem dX6_takeNumber_36 : decode cX6_takeNumber 36 = .ok (.aload_n 0, 1) := by decide +kernel
theorem dX6_takeNumber_37 : decode cX6_takeNumber 37 = .ok (.getfield 34, 3) := by decide +kernel
theorem dX6_takeNumber_40 : decode cX6_takeNumber 40 = .ok (.bipush 10, 2) := by decide +kernel
theorem dX6_takeNumber_42 : decode cX6_takeNumber 42 = .ok (.imul, 1) := by decide +kernel
theorem dX6_takeNumber_43 : decode cX6_takeNumber 43 = .ok (.aload_n 0, 1) := by decide +kernel
theorem dX6_takeNumber_44 : decode cX6_takeNumber 44 = .ok (.getfield 11, 3) := by decide +kernel
theorem dX6_takeNumber_47 : decode cX6_takeNumber 47 = .ok (.iload_n 1, 1) := by decide +kernel
theorem dX6_takeNumber_48 : decode cX6_takeNumber 48 = .ok (.baload, 1) := by decide +kernel
theorem dX6_takeNumber_49 : decode cX6_takeNumber 49 = .ok (.iadd, 1) := by decide +kernel
theorem dX6_takeNumber_50 : decode cX6_takeNumber 50 = .ok (.bipush 48, 2) := by decide +kernel
theorem dX6_takeNumber_52 : decode cX6_takeNumber 52 = .ok (.isub, 1) := by decide +kernel
theorem dX6_takeNumber_53 : decode cX6_takeNumber 53 = .ok (.putfield 34, 3) := by decide +kernel
theorem dX6_takeNumber_56 : decode cX6_takeNumber 56 = .ok (.iinc 1 1, 3) := by decide +kernel
theorem dX6_takeNumber_59 : decode cX6_takeNumber 59 = .ok (.goto (-54), 3) := by decide +kernel
theorem dX6_takeNumber_62 : decode cX6_takeNumber 62 = .ok (.aload_n 0, 1) := by decide +kernel
theorem dX6_takeNumber_63 : decode cX6_takeNumber 63 = .ok (.iload_n 1, 1) := by decide +kernel
theorem dX6_takeNumber_64 : decode cX6_takeNumber 64 = .ok (.aload_n 0, 1) := by decide +kernel
theorem dX6_takeNumber_65 : decode cX6_takeNumber 65 = .ok (.getfield 31, 3) := by decide +kernel
theorem dX6_takeNumber_68 : decode cX6_takeNumber 68 = .ok (.isub, 1) := by decide +kernel
theorem dX6_takeNumber_69 : decode cX6_takeNumber 69 = .ok (.iconst 4, 1) := by decide +kernel
theorem dX6_takeNumber_70 : decode cX6_takeNumber 70 = .ok (.if_icmp .gt 7, 3) := by decide +kernel
theorem dX6_takeNumber_73 : decode cX6_takeNumber 73 = .ok (.iconst 3, 1) := by decide +kernel
theorem dX6_takeNumber_74 : decode cX6_takeNumber 74 = .ok (.goto 4, 3) := by decide +kernel
theorem dX6_takeNumber_77 : decode cX6_takeNumber 77 = .ok (.iconst 1, 1) := by decide +kernel
theorem dX6_takeNumber_78 : decode cX6_takeNumber 78 = .ok (.putfield 41, 3) := by decide +kernel
theorem dX6_takeNumber_81 : decode cX6_takeNumber 81 = .ok (.aload_n 0, 1) := by decide +kernel
theorem dX6_takeNumber_82 : decode cX6_takeNumber 82 = .ok (.iload_n 1, 1) := by decide +kernel
theorem dX6_takeNumber_83 : decode cX6_takeNumber 83 = .ok (.putfield 25, 3) := by decide +kernel
theorem dX6_takeNumber_86 : decode cX6_takeNumber 86 = .ok (.return_, 1) := by decide +kernel
theorem dX6_among_0 : decode cX6_among 0 = .ok (.aload_n 0, 1) := by decide +kernel
theorem dX6_among_1 : decode cX6_among 1 = .ok (.getfield 41, 3) := by decide +kernel
theorem dX6_among_4 : decode cX6_among 4 = .ok (.iconst 2, 1) := by decide +kernel
theorem dX6_among_5 : decode cX6_among 5 = .ok (.if_icmp .eq 5, 3) := by decide +kernel
theorem dX6_among_8 : decode cX6_among 8 = .ok (.iconst (-1), 1) := by decide +kernel
theorem dX6_among_9 : decode cX6_among 9 = .ok (.ireturn, 1) := by decide +kernel
theorem dX6_among_10 : decode cX6_among 10 = .ok (.iconst 0, 1) := by decide +kernel
theorem dX6_among_11 : decode cX6_among 11 = .ok (.istore_n 2, 1) := by decide +kernel
theorem dX6_among_12 : decode cX6_among 12 = .ok (.lconst 0, 1) := by decide +kernel
theorem dX6_among_13 : decode cX6_among 13 = .ok (.lstore_n 3, 1) := by decide +kernel
theorem dX6_among_14 : decode cX6_among 14 = .ok (.iconst 0, 1) := by decide +kernel
theorem dX6_among_15 : decode cX6_among 15 = .ok (.istore 5, 2) := by decide +kernel
theorem dX6_among_17 : decode cX6_among 17 = .ok (.iload 5, 2) := by decide +kernel
theorem dX6_among_19 : decode cX6_among 19 = .ok (.aload_n 1, 1) := by decide +kernel
theorem dX6_among_20 : decode cX6_among 20 = .ok (.invokevirtual 62, 3) := by decide +kernel
theorem dX6_among_23 : decode cX6_among 23 = .ok (.if_icmp .ge 57, 3) := by decide +kernel
theorem dX6_among_26 : decode cX6_among 26 = .ok (.aload_n 1, 1) := by decide +kernel
theorem dX6_among_27 : decode cX6_among 27 = .ok (.iload 5, 2) := by decide +kernel
theorem dX6_among_29 : decode cX6_among 29 = .ok (.invokevirtual 65, 3) := by decide +kernel
theorem dX6_among_32 : decode cX6_among 32 = .ok (.bipush 32, 2) := by decide +kernel
theorem dX6_among_34 : decode cX6_among 34 = .ok (.if_icmp .eq 24, 3) := by decide +kernel
theorem dX6_among_37 : decode cX6_among 37 = .ok (.lload_n 3, 1) := by decide +kernel
theorem dX6_among_38 : decode cX6_among 38 = .ok (.ldc2_w 58, 3) := by decide +kernel
theorem dX6_among_41 : decode cX6_among 41 = .ok (.lmul, 1) := by decide +kernel
theorem dX6_among_42 : decode cX6_among 42 = .ok (.aload_n 1, 1) := by decide +kernel
theorem dX6_among_43 : decode cX6_among 43 = .ok (.iload 5, 2) := by decide +kernel
theorem dX6_among_45 : decode cX6_among 45 = .ok (.invokevirtual 65, 3) := by decide +kernel
theorem dX6_among_48 : decode cX6_among 48 = .ok (.i2l, 1) := by decide +kernel
theorem dX6_among_49 : decode cX6_among 49 = .ok (.ladd, 1) := by decide +kernel
theorem dX6_among_50 : decode cX6_among 50 = .ok (.ldc2_w 60, 3) := by decide +kernel
theorem dX6_among_53 : decode cX6_among 53 = .ok (.lsub, 1) := by decide +kernel
theorem dX6_among_54 : decode cX6_among 54 = .ok (.lstore_n 3, 1) := by decide +kernel
theorem dX6_among_55 : decode cX6_among 55 = .ok (.goto 19, 3) := by decide +kernel
theorem dX6_among_58 : decode cX6_among 58 = .ok (.lload_n 3, 1) := by decide +kernel
theorem dX6_among_59 : decode cX6_among 59 = .ok (.aload_n 0, 1) := by decide +kernel
theorem dX6_among_60 : decode cX6_among 60 = .ok (.getfield 37, 3) := by decide +kernel
theorem dX6_among_63 : decode cX6_among 63 = .ok (.lcmp, 1) := by decide +kernel
theorem dX6_among_64 : decode cX6_among 64 = .ok (.ifCond .ne 5, 3) := by decide +kernel
theorem dX6_among_67 : decode cX6_among 67 = .ok (.iload_n 2, 1) := by decide +kernel
theorem dX6_among_68 : decode cX6_among 68 = .ok (.ireturn, 1) := by decide +kernel
theorem dX6_among_69 : decode cX6_among 69 = .ok (.iinc 2 1, 3) := by decide +kernel
theorem dX6_among_72 : decode cX6_among 72 = .ok (.lconst 0, 1) := by decide +kernel
theorem dX6_among_73 : decode cX6_among 73 = .ok (.lstore_n 3, 1) := by decide +kernel
theorem dX6_among_74 : decode cX6_among 74 = .ok (.iinc 5 1, 3) := by decide +kernel
theorem dX6_among_77 : decode cX6_among 77 = .ok (.goto (-60), 3) := by decide +kernel
theorem dX6_among_80 : decode cX6_among 80 = .ok (.lload_n 3, 1) := by decide +kernel
theorem dX6_among_81 : decode cX6_among 81 = .ok (.aload_n 0, 1) := by decide +kernel
theorem dX6_among_82 : decode cX6_among 82 = .ok (.getfield 37, 3) := by decide +kernel
theorem dX6_among_85 : decode cX6_among 85 = .ok (.lcmp, 1) := by decide +kernel
theorem dX6_among_86 : decode cX6_among 86 = .ok (.ifCond .ne 7, 3) := by decide +kernel
theorem dX6_among_89 : decode cX6_among 89 = .ok (.iload_n 2, 1) := by decide +kernel
theorem dX6_among_90 : decode cX6_among 90 = .ok (.goto 4, 3) := by decide +kernel
theorem dX6_among_93 : decode cX6_among 93 = .ok (.iconst (-1), 1) := by decide +kernel
theorem dX6_among_94 : decode cX6_among 94 = .ok (.ireturn, 1) := by decide +kernel
theorem dX6_isSign_0 : decode cX6_isSign 0 = .ok (.aload_n 0, 1) := by decide +kernel
theorem dX6_isSign_1 : decode cX6_isSign 1 = .ok (.getfield 41, 3) := by decide +kernel
theorem dX6_isSign_4 : decode cX6_isSign 4 = .ok (.iconst 4, 1) := by decide +kernel
theorem dX6_isSign_5 : decode cX6_isSign 5 = .ok (.if_icmp .ne 15, 3) := by decide +kernel
theorem dX6_isSign_8 : decode cX6_isSign 8 = .ok (.aload_n 0, 1) := by decide +kernel
theorem dX6_isSign_9 : decode cX6_isSign 9 = .ok (.getfield 34, 3) := by decide +kernel
theorem dX6_isSign_12 : decode cX6_isSign 12 = .ok (.iload_n 1, 1) := by decide +kernel
theorem dX6_isSign_13 : decode cX6_isSign 13 = .ok (.if_icmp .ne 7, 3) := by decide +kernel
theorem dX6_isSign_16 : decode cX6_isSign 16 = .ok (.iconst 1, 1) := by decide +kernel
theorem dX6_isSign_17 : decode cX6_isSign 17 = .ok (.goto 4, 3) := by decide +kernel
theorem dX6_isSign_20 : decode cX6_isSign 20 = .ok (.iconst 0, 1) := by decide +kernel
theorem dX6_isSign_21 : decode cX6_isSign 21 = .ok (.ireturn, 1) := by decide +kernel
theorem dX7_init_0 : decode cX7_init 0 = .ok (.aload_n 0, 1) := by decide +kernel
theorem dX7_init_1 : decode cX7_init 1 = .ok (.invokespecial 3, 3) := by decide +kernel
theorem dX7_init_4 : decode cX7_init 4 = .ok (.aload_n 0, 1) := by decide +kernel
theorem dX7_init_5 : decode cX7_init 5 = .ok (.new 9, 3) := by decide +kernel
theorem dX7_init_8 : decode cX7_init 8 = .ok (.dup, 1) := by decide +kernel
theorem dX7_init_9 : decode cX7_init 9 = .ok (.invokespecial 11, 3) := by decide +kernel
theorem dX7_init_12 : decode cX7_init 12 = .ok (.putfield 12, 3) := by decide +kernel
theorem dX7_init_15 : decode cX7_init 15 = .ok (.return_, 1) := by decide +kernel
theorem dX7_readTown_0 : decode cX7_readTown 0 = .ok (.aload_n 1, 1) := by decide +kernel
theorem dX7_readTown_1 : decode cX7_readTown 1 = .ok (.invokevirtual 18, 3) := by decide +kernel
theorem dX7_readTown_4 : decode cX7_readTown 4 = .ok (.aload_n 0, 1) := by decide +kernel
theorem dX7_readTown_5 : decode cX7_readTown 5 = .ok (.iconst 0, 1) := by decide +kernel
theorem dX7_readTown_6 : decode cX7_readTown 6 = .ok (.putfield 23, 3) := by decide +kernel
theorem dX7_readTown_9 : decode cX7_readTown 9 = .ok (.aload_n 0, 1) := by decide +kernel
theorem dX7_readTown_10 : decode cX7_readTown 10 = .ok (.getfield 12, 3) := by decide +kernel
theorem dX7_readTown_13 : decode cX7_readTown 13 = .ok (.invokevirtual 27, 3) := by decide +kernel
theorem dX7_readTown_16 : decode cX7_readTown 16 = .ok (.iconst 1, 1) := by decide +kernel
theorem dX7_readTown_17 : decode cX7_readTown 17 = .ok (.istore_n 2, 1) := by decide +kernel
theorem dX7_readTown_18 : decode cX7_readTown 18 = .ok (.iconst 0, 1) := by decide +kernel
theorem dX7_readTown_19 : decode cX7_readTown 19 = .ok (.istore_n 3, 1) := by decide +kernel
theorem dX7_readTown_20 : decode cX7_readTown 20 = .ok (.iload_n 3, 1) := by decide +kernel
theorem dX7_readTown_21 : decode cX7_readTown 21 = .ok (.sipush 1000, 3) := by decide +kernel
theorem dX7_readTown_24 : decode cX7_readTown 24 = .ok (.if_icmp .ge 125, 3) := by decide +kernel
theorem dX7_readTown_27 : decode cX7_readTown 27 = .ok (.iload_n 2, 1) := by decide +kernel
theorem dX7_readTown_28 : decode cX7_readTown 28 = .ok (.ifCond .eq 121, 3) := by decide +kernel
theorem dX7_readTown_31 : decode cX7_readTown 31 = .ok (.aload_n 0, 1) := by decide +kernel
theorem dX7_readTown_32 : decode cX7_readTown 32 = .ok (.getfield 12, 3) := by decide +kernel
theorem dX7_readTown_35 : decode cX7_readTown 35 = .ok (.getfield 30, 3) := by decide +kernel
theorem dX7_readTown_38 : decode cX7_readTown 38 = .ok (.ifCond .eq 111, 3) := by decide +kernel
theorem dX7_readTown_41 : decode cX7_readTown 41 = .ok (.aload_n 0, 1) := by decide +kernel
theorem dX7_readTown_42 : decode cX7_readTown 42 = .ok (.getfield 12, 3) := by decide +kernel
theorem dX7_readTown_45 : decode cX7_readTown 45 = .ok (.ldc 33, 2) := by decide +kernel
theorem dX7_readTown_47 : decode cX7_readTown 47 = .ok (.invokevirtual 35, 3) := by decide +kernel
theorem dX7_readTown_50 : decode cX7_readTown 50 = .ok (.istore 4, 2) := by decide +kernel
theorem dX7_readTown_52 : decode cX7_readTown 52 = .ok (.iload 4, 2) := by decide +kernel
theorem dX7_readTown_54 : decode cX7_readTown 54 = .ok (.tableswitch 79 (-1) 3 #[34, 43, 52, 61, 70], 34) := by decide +kernel
theorem dX7_readTown_88 : decode cX7_readTown 88 = .ok (.aload_n 0, 1) := by decide +kernel
theorem dX7_readTown_89 : decode cX7_readTown 89 = .ok (.iconst 1, 1) := by decide +kernel
theorem dX7_readTown_90 : decode cX7_readTown 90 = .ok (.invokevirtual 39, 3) := by decide +kernel
theorem dX7_readTown_93 : decode cX7_readTown 93 = .ok (.istore_n 2, 1) := by decide +kernel
theorem dX7_readTown_94 : decode cX7_readTown 94 = .ok (.goto 49, 3) := by decide +kernel
theorem dX7_readTown_97 : decode cX7_readTown 97 = .ok (.aload_n 0, 1) := by decide +kernel
theorem dX7_readTown_98 : decode cX7_readTown 98 = .ok (.aload_n 1, 1) := by decide +kernel
theorem dX7_readTown_99 : decode cX7_readTown 99 = .ok (.invokevirtual 43, 3) := by decide +kernel
theorem dX7_readTown_102 : decode cX7_readTown 102 = .ok (.istore_n 2, 1) := by decide +kernel
theorem dX7_readTown_103 : decode cX7_readTown 103 = .ok (.goto 40, 3) := by decide +kernel
theorem dX7_readTown_106 : decode cX7_readTown 106 = .ok (.aload_n 0, 1) := by decide +kernel
theorem dX7_readTown_107 : decode cX7_readTown 107 = .ok (.aload_n 1, 1) := by decide +kernel
theorem dX7_readTown_108 : decode cX7_readTown 108 = .ok (.invokevirtual 47, 3) := by decide +kernel
theorem dX7_readTown_111 : decode cX7_readTown 111 = .ok (.istore_n 2, 1) := by decide +kernel
theorem dX7_readTown_112 : decode cX7_readTown 112 = .ok (.goto 31, 3) := by decide +kernel
theorem dX7_readTown_115 : decode cX7_readTown 115 = .ok (.aload_n 0, 1) := by decide +kernel
theorem dX7_readTown_116 : decode cX7_readTown 116 = .ok (.aload_n 1, 1) := by decide +kernel
theorem dX7_readTown_117 : decode cX7_readTown 117 = .ok (.invokevirtual 50, 3) := by decide +kernel
theorem dX7_readTown_120 : decode cX7_readTown 120 = .ok (.istore_n 2, 1) := by decide +kernel
theorem dX7_readTown_121 : decode cX7_readTown 121 = .ok (.goto 22, 3) := by decide +kernel
theorem dX7_readTown_124 : decode cX7_readTown 124 = .ok (.aload_n 0, 1) := by decide +kernel
theorem dX7_readTown_125 : decode cX7_readTown 125 = .ok (.aload_n 1, 1) := by decide +kernel
theorem dX7_readTown_126 : decode cX7_readTown 126 = .ok (.invokevirtual 53, 3) := by decide +kernel
theorem dX7_readTown_129 : decode cX7_readTown 129 = .ok (.istore_n 2, 1) := by decide +kernel
theorem dX7_readTown_130 : decode cX7_readTown 130 = .ok (.goto 13, 3) := by decide +kernel
theorem dX7_readTown_133 : decode cX7_readTown 133 = .ok (.aload_n 0, 1) := by decide +kernel
theorem dX7_readTown_134 : decode cX7_readTown 134 = .ok (.aload_n 1, 1) := by decide +kernel
theorem dX7_readTown_135 : decode cX7_readTown 135 = .ok (.iload 4, 2) := by decide +kernel
theorem dX7_readTown_137 : decode cX7_readTown 137 = .ok (.iconst 4, 1) := by decide +kernel
theorem dX7_readTown_138 : decode cX7_readTown 138 = .ok (.isub, 1) := by decide +kernel
theorem dX7_readTown_139 : decode cX7_readTown 139 = .ok (.invokevirtual 56, 3) := by decide +kernel
theorem dX7_readTown_142 : decode cX7_readTown 142 = .ok (.istore_n 2, 1) := by decide +kernel
theorem dX7_readTown_143 : decode cX7_readTown 143 = .ok (.iinc 3 1, 3) := by decide +kernel
theorem dX7_readTown_146 : decode cX7_readTown 146 = .ok (.goto (-126), 3) := by decide +kernel
theorem dX7_readTown_149 : decode cX7_readTown 149 = .ok (.aload_n 0, 1) := by decide +kernel
theorem dX7_readTown_150 : decode cX7_readTown 150 = .ok (.getfield 12, 3) := by decide +kernel
theorem dX7_readTown_153 : decode cX7_readTown 153 = .ok (.iconst 0, 1) := by decide +kernel
theorem dX7_readTown_154 : decode cX7_readTown 154 = .ok (.putfield 60, 3) := by decide +kernel
theorem dX7_readTown_157 : decode cX7_readTown 157 = .ok (.aload_n 0, 1) := by decide +kernel
theorem dX7_readTown_158 : decode cX7_readTown 158 = .ok (.getfield 23, 3) := by decide +kernel
theorem dX7_readTown_161 : decode cX7_readTown 161 = .ok (.ireturn, 1) := by decide +kernel
theorem dX7_readYear_0 : decode cX7_readYear 0 = .ok (.aload_n 1, 1) := by decide +kernel
theorem dX7_readYear_1 : decode cX7_readYear 1 = .ok (.iconst 0, 1) := by decide +kernel
theorem dX7_readYear_2 : decode cX7_readYear 2 = .ok (.putfield 63, 3) := by decide +kernel
theorem dX7_readYear_5 : decode cX7_readYear 5 = .ok (.aload_n 0, 1) := by decide +kernel
theorem dX7_readYear_6 : decode cX7_readYear 6 = .ok (.iconst 0, 1) := by decide +kernel
theorem dX7_readYear_7 : decode cX7_readYear 7 = .ok (.putfield 23, 3) := by decide +kernel
theorem dX7_readYear_10 : decode cX7_readYear 10 = .ok (.aload_n 0, 1) := by decide +kernel
theorem dX7_readYear_11 : decode cX7_readYear 11 = .ok (.getfield 12, 3) := by decide +kernel
theorem dX7_readYear_14 : decode cX7_readYear 14 = .ok (.invokevirtual 27, 3) := by decide +kernel
theorem dX7_readYear_17 : decode cX7_readYear 17 = .ok (.iconst 1, 1) := by decide +kernel
theorem dX7_readYear_18 : decode cX7_readYear 18 = .ok (.istore_n 3, 1) := by decide +kernel
theorem dX7_readYear_19 : decode cX7_readYear 19 = .ok (.iconst 0, 1) := by decide +kernel
theorem dX7_readYear_20 : decode cX7_readYear 20 = .ok (.istore 4, 2) := by decide +kernel
theorem dX7_readYear_22 : decode cX7_readYear 22 = .ok (.iload 4, 2) := by decide +kernel
theorem dX7_readYear_24 : decode cX7_readYear 24 = .ok (.sipush 1000, 3) := by decide +kernel
theorem dX7_readYear_27 : decode cX7_readYear 27 = .ok (.if_icmp .ge 30, 3) := by decide +kernel
theorem dX7_readYear_30 : decode cX7_readYear 30 = .ok (.iload_n 3, 1) := by decide +kernel
theorem dX7_readYear_31 : decode cX7_readYear 31 = .ok (.ifCond .eq 26, 3) := by decide +kernel
theorem dX7_readYear_34 : decode cX7_readYear 34 = .ok (.aload_n 0, 1) := by decide +kernel
theorem dX7_readYear_35 : decode cX7_readYear 35 = .ok (.getfield 12, 3) := by decide +kernel
theorem dX7_readYear_38 : decode cX7_readYear 38 = .ok (.getfield 30, 3) := by decide +kernel
theorem dX7_readYear_41 : decode cX7_readYear 41 = .ok (.ifCond .eq 16, 3) := by decide +kernel
theorem dX7_readYear_44 : decode cX7_readYear 44 = .ok (.aload_n 0, 1) := by decide +kernel
theorem dX7_readYear_45 : decode cX7_readYear 45 = .ok (.aload_n 1, 1) := by decide +kernel
theorem dX7_readYear_46 : decode cX7_readYear 46 = .ok (.iload_n 2, 1) := by decide +kernel
theorem dX7_readYear_47 : decode cX7_readYear 47 = .ok (.invokevirtual 68, 3) := by decide +kernel
theorem dX7_readYear_50 : decode cX7_readYear 50 = .ok (.istore_n 3, 1) := by decide +kernel
theorem dX7_readYear_51 : decode cX7_readYear 51 = .ok (.iinc 4 1, 3) := by decide +kernel
theorem dX7_readYear_54 : decode cX7_readYear 54 = .ok (.goto (-32), 3) := by decide +kernel
theorem dX7_readYear_57 : decode cX7_readYear 57 = .ok (.aload_n 0, 1) := by decide +kernel
theorem dX7_readYear_58 : decode cX7_readYear 58 = .ok (.getfield 12, 3) := by decide +kernel
theorem dX7_readYear_61 : decode cX7_readYear 61 = .ok (.iconst 0, 1) := by decide +kernel
theorem dX7_readYear_62 : decode cX7_readYear 62 = .ok (.putfield 60, 3) := by decide +kernel
theorem dX7_readYear_65 : decode cX7_readYear 65 = .ok (.aload_n 0, 1) := by decide +kernel
theorem dX7_readYear_66 : decode cX7_readYear 66 = .ok (.getfield 23, 3) := by decide +kernel
theorem dX7_readYear_69 : decode cX7_readYear 69 = .ok (.ireturn, 1) := by decide +kernel
theorem dX7_readPerson_0 : decode cX7_readPerson 0 = .ok (.aload_n 1, 1) := by decide +kernel
theorem dX7_readPerson_1 : decode cX7_readPerson 1 = .ok (.getfield 72, 3) := by decide +kernel
theorem dX7_readPerson_4 : decode cX7_readPerson 4 = .ok (.bipush 6, 2) := by decide +kernel
theorem dX7_readPerson_6 : decode cX7_readPerson 6 = .ok (.if_icmp .lt 9, 3) := by decide +kernel
theorem dX7_readPerson_9 : decode cX7_readPerson 9 = .ok (.aload_n 0, 1) := by decide +kernel
theorem dX7_readPerson_10 : decode cX7_readPerson 10 = .ok (.iconst 5, 1) := by decide +kernel
theorem dX7_readPerson_11 : decode cX7_readPerson 11 = .ok (.invokevirtual 39, 3) := by decide +kernel
theorem dX7_readPerson_14 : decode cX7_readPerson 14 = .ok (.ireturn, 1) := by decide +kernel
theorem dX7_readPerson_15 : decode cX7_readPerson 15 = .ok (.aload_n 0, 1) := by decide +kernel
theorem dX7_readPerson_16 : decode cX7_readPerson 16 = .ok (.getfield 12, 3) := by decide +kernel
theorem dX7_readPerson_19 : decode cX7_readPerson 19 = .ok (.invokevirtual 75, 3) := by decide +kernel
theorem dX7_readPerson_22 : decode cX7_readPerson 22 = .ok (.aload_n 0, 1) := by decide +kernel
theorem dX7_readPerson_23 : decode cX7_readPerson 23 = .ok (.invokevirtual 78, 3) := by decide +kernel
theorem dX7_readPerson_26 : decode cX7_readPerson 26 = .ok (.ifCond .ne 9, 3) := by decide +kernel
theorem dX7_readPerson_29 : decode cX7_readPerson 29 = .ok (.aload_n 0, 1) := by decide +kernel
theorem dX7_readPerson_30 : decode cX7_readPerson 30 = .ok (.iconst 1, 1) := by decide +kernel
theorem dX7_readPerson_31 : decode cX7_readPerson 31 = .ok (.invokevirtual 39, 3) := by decide +kernel
theorem dX7_readPerson_34 : decode cX7_readPerson 34 = .ok (.ireturn, 1) := by decide +kernel
theorem dX7_readPerson_35 : decode cX7_readPerson 35 = .ok (.aload_n 1, 1) := by decide +kernel
theorem dX7_readPerson_36 : decode cX7_readPerson 36 = .ok (.aload_n 0, 1) := by decide +kernel
theorem dX7_readPerson_37 : decode cX7_readPerson 37 = .ok (.getfield 12, 3) := by decide +kernel
theorem dX7_readPerson_40 : decode cX7_readPerson 40 = .ok (.getfield 82, 3) := by decide +kernel
theorem dX7_readPerson_43 : decode cX7_readPerson 43 = .ok (.invokevirtual 86, 3) := by decide +kernel
theorem dX7_readPerson_46 : decode cX7_readPerson 46 = .ok (.iconst (-1), 1) := by decide +kernel
theorem dX7_readPerson_47 : decode cX7_readPerson 47 = .ok (.if_icmp .eq 9, 3) := by decide +kernel
theorem dX7_readPerson_50 : decode cX7_readPerson 50 = .ok (.aload_n 0, 1) := by decide +kernel
theorem dX7_readPerson_51 : decode cX7_readPerson 51 = .ok (.iconst 3, 1) := by decide +kernel
theorem dX7_readPerson_52 : decode cX7_readPerson 52 = .ok (.invokevirtual 39, 3) := by decide +kernel
theorem dX7_readPerson_55 : decode cX7_readPerson 55 = .ok (.ireturn, 1) := by decide +kernel
theorem dX7_readPerson_56 : decode cX7_readPerson 56 = .ok (.aload_n 0, 1) := by decide +kernel
theorem dX7_readPerson_57 : decode cX7_readPerson 57 = .ok (.getfield 12, 3) := by decide +kernel
theorem dX7_readPerson_60 : decode cX7_readPerson 60 = .ok (.getfield 82, 3) := by decide +kernel
theorem dX7_readPerson_63 : decode cX7_readPerson 63 = .ok (.lstore_n 2, 1) := by decide +kernel
theorem dX7_readPerson_64 : decode cX7_readPerson 64 = .ok (.aload_n 0, 1) := by decide +kernel
theorem dX7_readPerson_65 : decode cX7_readPerson 65 = .ok (.getfield 12, 3) := by decide +kernel
theorem dX7_readPerson_68 : decode cX7_readPerson 68 = .ok (.invokevirtual 75, 3) := by decide +kernel
theorem dX7_readPerson_71 : decode cX7_readPerson 71 = .ok (.aload_n 0, 1) := by decide +kernel
theorem dX7_readPerson_72 : decode cX7_readPerson 72 = .ok (.getfield 12, 3) := by decide +kernel
theorem dX7_readPerson_75 : decode cX7_readPerson 75 = .ok (.ldc 90, 2) := by decide +kernel
theorem dX7_readPerson_77 : decode cX7_readPerson 77 = .ok (.invokevirtual 35, 3) := by decide +kernel
theorem dX7_readPerson_80 : decode cX7_readPerson 80 = .ok (.istore 4, 2) := by decide +kernel
theorem dX7_readPerson_82 : decode cX7_readPerson 82 = .ok (.iload 4, 2) := by decide +kernel
theorem dX7_readPerson_84 : decode cX7_readPerson 84 = .ok (.iconst (-1), 1) := by decide +kernel
theorem dX7_readPerson_85 : decode cX7_readPerson 85 = .ok (.if_icmp .ne 9, 3) := by decide +kernel
theorem dX7_readPerson_88 : decode cX7_readPerson 88 = .ok (.aload_n 0, 1) := by decide +kernel
theorem dX7_readPerson_89 : decode cX7_readPerson 89 = .ok (.iconst 1, 1) := by decide +kernel
theorem dX7_readPerson_90 : decode cX7_readPerson 90 = .ok (.invokevirtual 39, 3) := by decide +kernel
theorem dX7_readPerson_93 : decode cX7_readPerson 93 = .ok (.ireturn, 1) := by decide +kernel
theorem dX7_readPerson_94 : decode cX7_readPerson 94 = .ok (.aload_n 0, 1) := by decide +kernel
theorem dX7_readPerson_95 : decode cX7_readPerson 95 = .ok (.getfield 12, 3) := by decide +kernel
theorem dX7_readPerson_98 : decode cX7_readPerson 98 = .ok (.invokevirtual 75, 3) := by decide +kernel
theorem dX7_readPerson_101 : decode cX7_readPerson 101 = .ok (.aload_n 0, 1) := by decide +kernel
theorem dX7_readPerson_102 : decode cX7_readPerson 102 = .ok (.ldc 92, 2) := by decide +kernel
theorem dX7_readPerson_104 : decode cX7_readPerson 104 = .ok (.invokevirtual 94, 3) := by decide +kernel
theorem dX7_readPerson_107 : decode cX7_readPerson 107 = .ok (.ifCond .ne 5, 3) := by decide +kernel
theorem dX7_readPerson_110 : decode cX7_readPerson 110 = .ok (.iconst 0, 1) := by decide +kernel
theorem dX7_readPerson_111 : decode cX7_readPerson 111 = .ok (.ireturn, 1) := by decide +kernel
theorem dX7_readPerson_112 : decode cX7_readPerson 112 = .ok (.aload_n 0, 1) := by decide +kernel
theorem dX7_readPerson_113 : decode cX7_readPerson 113 = .ok (.getfield 12, 3) := by decide +kernel
theorem dX7_readPerson_116 : decode cX7_readPerson 116 = .ok (.getfield 98, 3) := by decide +kernel
theorem dX7_readPerson_119 : decode cX7_readPerson 119 = .ok (.istore 5, 2) := by decide +kernel
theorem dX7_readPerson_121 : decode cX7_readPerson 121 = .ok (.aload_n 0, 1) := by decide +kernel
theorem dX7_readPerson_122 : decode cX7_readPerson 122 = .ok (.iconst 0, 1) := by decide +kernel
theorem dX7_readPerson_123 : decode cX7_readPerson 123 = .ok (.sipush 999, 3) := by decide +kernel
theorem dX7_readPerson_126 : decode cX7_readPerson 126 = .ok (.invokevirtual 101, 3) := by decide +kernel
theorem dX7_readPerson_129 : decode cX7_readPerson 129 = .ok (.ifCond .ne 5, 3) := by decide +kernel
theorem dX7_readPerson_132 : decode cX7_readPerson 132 = .ok (.iconst 0, 1) := by decide +kernel
theorem dX7_readPerson_133 : decode cX7_readPerson 133 = .ok (.ireturn, 1) := by decide +kernel
theorem dX7_readPerson_134 : decode cX7_readPerson 134 = .ok (.aload_n 1, 1) := by decide +kernel
theorem dX7_readPerson_135 : decode cX7_readPerson 135 = .ok (.lload_n 2, 1) := by decide +kernel
theorem dX7_readPerson_136 : decode cX7_readPerson 136 = .ok (.iload 4, 2) := by decide +kernel
theorem dX7_readPerson_138 : decode cX7_readPerson 138 = .ok (.iload 5, 2) := by decide +kernel
theorem dX7_readPerson_140 : decode cX7_readPerson 140 = .ok (.invokevirtual 105, 3) := by decide +kernel
theorem dX7_readPerson_143 : decode cX7_readPerson 143 = .ok (.aload_n 0, 1) := by decide +kernel
theorem dX7_readPerson_144 : decode cX7_readPerson 144 = .ok (.bipush 59, 2) := by decide +kernel
theorem dX7_readPerson_146 : decode cX7_readPerson 146 = .ok (.invokevirtual 109, 3) := by decide +kernel
theorem dX7_readPerson_149 : decode cX7_readPerson 149 = .ok (.ireturn, 1) := by decide +kernel
theorem dX7_readLane_0 : decode cX7_readLane 0 = .ok (.aload_n 0, 1) := by decide +kernel
theorem dX7_readLane_1 : decode cX7_readLane 1 = .ok (.getfield 12, 3) := by decide +kernel
theorem dX7_readLane_4 : decode cX7_readLane 4 = .ok (.invokevirtual 75, 3) := by decide +kernel
theorem dX7_readLane_7 : decode cX7_readLane 7 = .ok (.aload_n 1, 1) := by decide +kernel
theorem dX7_readLane_8 : decode cX7_readLane 8 = .ok (.aload_n 0, 1) := by decide +kernel
theorem dX7_readLane_9 : decode cX7_readLane 9 = .ok (.getfield 12, 3) := by decide +kernel
theorem dX7_readLane_12 : decode cX7_readLane 12 = .ok (.getfield 82, 3) := by decide +kernel
theorem dX7_readLane_15 : decode cX7_readLane 15 = .ok (.invokevirtual 86, 3) := by decide +kernel
theorem dX7_readLane_18 : decode cX7_readLane 18 = .ok (.istore_n 2, 1) := by decide +kernel
theorem dX7_readLane_19 : decode cX7_readLane 19 = .ok (.aload_n 0, 1) := by decide +kernel
theorem dX7_readLane_20 : decode cX7_readLane 20 = .ok (.aload_n 1, 1) := by decide +kernel
theorem dX7_readLane_21 : decode cX7_readLane 21 = .ok (.iconst (-1), 1) := by decide +kernel
theorem dX7_readLane_22 : decode cX7_readLane 22 = .ok (.invokevirtual 113, 3) := by decide +kernel
theorem dX7_readLane_25 : decode cX7_readLane 25 = .ok (.ifCond .ne 5, 3) := by decide +kernel
theorem dX7_readLane_28 : decode cX7_readLane 28 = .ok (.iconst 0, 1) := by decide +kernel
theorem dX7_readLane_29 : decode cX7_readLane 29 = .ok (.ireturn, 1) := by decide +kernel
theorem dX7_readLane_30 : decode cX7_readLane 30 = .ok (.aload_n 1, 1) := by decide +kernel
theorem dX7_readLane_31 : decode cX7_readLane 31 = .ok (.aload_n 0, 1) := by decide +kernel
theorem dX7_readLane_32 : decode cX7_readLane 32 = .ok (.getfield 12, 3) := by decide +kernel
theorem dX7_readLane_35 : decode cX7_readLane 35 = .ok (.getfield 82, 3) := by decide +kernel
theorem dX7_readLane_38 : decode cX7_readLane 38 = .ok (.invokevirtual 86, 3) := by decide +kernel
theorem dX7_readLane_41 : decode cX7_readLane 41 = .ok (.istore_n 3, 1) := by decide +kernel
theorem dX7_readLane_42 : decode cX7_readLane 42 = .ok (.aload_n 0, 1) := by decide +kernel
theorem dX7_readLane_43 : decode cX7_readLane 43 = .ok (.invokevirtual 78, 3) := by decide +kernel
theorem dX7_readLane_46 : decode cX7_readLane 46 = .ok (.ifCond .eq 26, 3) := by decide +kernel
theorem dX7_readLane_49 : decode cX7_readLane 49 = .ok (.iload_n 3, 1) := by decide +kernel
theorem dX7_readLane_50 : decode cX7_readLane 50 = .ok (.iconst (-1), 1) := by decide +kernel
theorem dX7_readLane_51 : decode cX7_readLane 51 = .ok (.if_icmp .eq 21, 3) := by decide +kernel
theorem dX7_readLane_54 : decode cX7_readLane 54 = .ok (.aload_n 1, 1) := by decide +kernel
theorem dX7_readLane_55 : decode cX7_readLane 55 = .ok (.getfield 116, 3) := by decide +kernel
theorem dX7_readLane_58 : decode cX7_readLane 58 = .ok (.iload_n 2, 1) := by decide +kernel
theorem dX7_readLane_59 : decode cX7_readLane 59 = .ok (.iload_n 3, 1) := by decide +kernel
theorem dX7_readLane_60 : decode cX7_readLane 60 = .ok (.invokevirtual 120, 3) := by decide +kernel
theorem dX7_readLane_63 : decode cX7_readLane 63 = .ok (.ifCond .eq 9, 3) := by decide +kernel
theorem dX7_readLane_66 : decode cX7_readLane 66 = .ok (.aload_n 0, 1) := by decide +kernel
theorem dX7_readLane_67 : decode cX7_readLane 67 = .ok (.iconst 3, 1) := by decide +kernel
theorem dX7_readLane_68 : decode cX7_readLane 68 = .ok (.invokevirtual 39, 3) := by decide +kernel
theorem dX7_readLane_71 : decode cX7_readLane 71 = .ok (.ireturn, 1) := by decide +kernel
theorem dX7_readLane_72 : decode cX7_readLane 72 = .ok (.aload_n 0, 1) := by decide +kernel
theorem dX7_readLane_73 : decode cX7_readLane 73 = .ok (.aload_n 1, 1) := by decide +kernel
theorem dX7_readLane_74 : decode cX7_readLane 74 = .ok (.iload_n 2, 1) := by decide +kernel
theorem dX7_readLane_75 : decode cX7_readLane 75 = .ok (.invokevirtual 113, 3) := by decide +kernel
theorem dX7_readLane_78 : decode cX7_readLane 78 = .ok (.ifCond .ne 5, 3) := by decide +kernel
theorem dX7_readLane_81 : decode cX7_readLane 81 = .ok (.iconst 0, 1) := by decide +kernel
theorem dX7_readLane_82 : decode cX7_readLane 82 = .ok (.ireturn, 1) := by decide +kernel
theorem dX7_readLane_83 : decode cX7_readLane 83 = .ok (.aload_n 0, 1) := by decide +kernel
theorem dX7_readLane_84 : decode cX7_readLane 84 = .ok (.getfield 12, 3) := by decide +kernel
theorem dX7_readLane_87 : decode cX7_readLane 87 = .ok (.getfield 98, 3) := by decide +kernel
theorem dX7_readLane_90 : decode cX7_readLane 90 = .ok (.istore 4, 2) := by decide +kernel
theorem dX7_readLane_92 : decode cX7_readLane 92 = .ok (.aload_n 0, 1) := by decide +kernel
theorem dX7_readLane_93 : decode cX7_readLane 93 = .ok (.iconst 1, 1) := by decide +kernel
theorem dX7_readLane_94 : decode cX7_readLane 94 = .ok (.bipush 30, 2) := by decide +kernel
theorem dX7_readLane_96 : decode cX7_readLane 96 = .ok (.invokevirtual 101, 3) := by decide +kernel
theorem dX7_readLane_99 : decode cX7_readLane 99 = .ok (.ifCond .ne 5, 3) := by decide +kernel
theorem dX7_readLane_102 : decode cX7_readLane 102 = .ok (.iconst 0, 1) := by decide +kernel
theorem dX7_readLane_103 : decode cX7_readLane 103 = .ok (.ireturn, 1) := by decide +kernel
theorem dX7_readLane_104 : decode cX7_readLane 104 = .ok (.aload_n 1, 1) := by decide +kernel
theorem dX7_readLane_105 : decode cX7_readLane 105 = .ok (.getfield 116, 3) := by decide +kernel
theorem dX7_readLane_108 : decode cX7_readLane 108 = .ok (.iload_n 2, 1) := by decide +kernel
theorem dX7_readLane_109 : decode cX7_readLane 109 = .ok (.iload_n 3, 1) := by decide +kernel
theorem dX7_readLane_110 : decode cX7_readLane 110 = .ok (.iload 4, 2) := by decide +kernel
theorem dX7_readLane_112 : decode cX7_readLane 112 = .ok (.invokevirtual 125, 3) := by decide +kernel
theorem dX7_readLane_115 : decode cX7_readLane 115 = .ok (.aload_n 0, 1) := by decide +kernel
theorem dX7_readLane_116 : decode cX7_readLane 116 = .ok (.bipush 59, 2) := by decide +kernel
theorem dX7_readLane_118 : decode cX7_readLane 118 = .ok (.invokevirtual 109, 3) := by decide +kernel
theorem dX7_readLane_121 : decode cX7_readLane 121 = .ok (.ireturn, 1) := by decide +kernel
theorem dX7_readWrong_0 : decode cX7_readWrong 0 = .ok (.aload_n 1, 1) := by decide +kernel
theorem dX7_readWrong_1 : decode cX7_readWrong 1 = .ok (.getfield 129, 3) := by decide +kernel
theorem dX7_readWrong_4 : decode cX7_readWrong 4 = .ok (.bipush 8, 2) := by decide +kernel
theorem dX7_readWrong_6 : decode cX7_readWrong 6 = .ok (.if_icmp .lt 9, 3) := by decide +kernel
theorem dX7_readWrong_9 : decode cX7_readWrong 9 = .ok (.aload_n 0, 1) := by decide +kernel
theorem dX7_readWrong_10 : decode cX7_readWrong 10 = .ok (.iconst 5, 1) := by decide +kernel
theorem dX7_readWrong_11 : decode cX7_readWrong 11 = .ok (.invokevirtual 39, 3) := by decide +kernel
theorem dX7_readWrong_14 : decode cX7_readWrong 14 = .ok (.ireturn, 1) := by decide +kernel
theorem dX7_readWrong_15 : decode cX7_readWrong 15 = .ok (.aload_n 0, 1) := by decide +kernel
theorem dX7_readWrong_16 : decode cX7_readWrong 16 = .ok (.getfield 12, 3) := by decide +kernel
theorem dX7_readWrong_19 : decode cX7_readWrong 19 = .ok (.invokevirtual 75, 3) := by decide +kernel
theorem dX7_readWrong_22 : decode cX7_readWrong 22 = .ok (.aload_n 1, 1) := by decide +kernel
theorem dX7_readWrong_23 : decode cX7_readWrong 23 = .ok (.aload_n 0, 1) := by decide +kernel
theorem dX7_readWrong_24 : decode cX7_readWrong 24 = .ok (.getfield 12, 3) := by decide +kernel
theorem dX7_readWrong_27 : decode cX7_readWrong 27 = .ok (.getfield 82, 3) := by decide +kernel
theorem dX7_readWrong_30 : decode cX7_readWrong 30 = .ok (.invokevirtual 86, 3) := by decide +kernel
theorem dX7_readWrong_33 : decode cX7_readWrong 33 = .ok (.istore_n 2, 1) := by decide +kernel
theorem dX7_readWrong_34 : decode cX7_readWrong 34 = .ok (.aload_n 0, 1) := by decide +kernel
theorem dX7_readWrong_35 : decode cX7_readWrong 35 = .ok (.aload_n 1, 1) := by decide +kernel
theorem dX7_readWrong_36 : decode cX7_readWrong 36 = .ok (.iconst (-1), 1) := by decide +kernel
theorem dX7_readWrong_37 : decode cX7_readWrong 37 = .ok (.invokevirtual 113, 3) := by decide +kernel
theorem dX7_readWrong_40 : decode cX7_readWrong 40 = .ok (.ifCond .eq 12, 3) := by decide +kernel
theorem dX7_readWrong_43 : decode cX7_readWrong 43 = .ok (.aload_n 0, 1) := by decide +kernel
theorem dX7_readWrong_44 : decode cX7_readWrong 44 = .ok (.ldc 132, 2) := by decide +kernel
theorem dX7_readWrong_46 : decode cX7_readWrong 46 = .ok (.invokevirtual 94, 3) := by decide +kernel
theorem dX7_readWrong_49 : decode cX7_readWrong 49 = .ok (.ifCond .ne 5, 3) := by decide +kernel
theorem dX7_readWrong_52 : decode cX7_readWrong 52 = .ok (.iconst 0, 1) := by decide +kernel
theorem dX7_readWrong_53 : decode cX7_readWrong 53 = .ok (.ireturn, 1) := by decide +kernel
theorem dX7_readWrong_54 : decode cX7_readWrong 54 = .ok (.aload_n 1, 1) := by decide +kernel
theorem dX7_readWrong_55 : decode cX7_readWrong 55 = .ok (.aload_n 0, 1) := by decide +kernel
theorem dX7_readWrong_56 : decode cX7_readWrong 56 = .ok (.getfield 12, 3) := by decide +kernel
theorem dX7_readWrong_59 : decode cX7_readWrong 59 = .ok (.getfield 82, 3) := by decide +kernel
theorem dX7_readWrong_62 : decode cX7_readWrong 62 = .ok (.invokevirtual 86, 3) := by decide +kernel
theorem dX7_readWrong_65 : decode cX7_readWrong 65 = .ok (.istore_n 3, 1) := by decide +kernel
theorem dX7_readWrong_66 : decode cX7_readWrong 66 = .ok (.aload_n 0, 1) := by decide +kernel
theorem dX7_readWrong_67 : decode cX7_readWrong 67 = .ok (.aload_n 1, 1) := by decide +kernel
theorem dX7_readWrong_68 : decode cX7_readWrong 68 = .ok (.iload_n 2, 1) := by decide +kernel
theorem dX7_readWrong_69 : decode cX7_readWrong 69 = .ok (.invokevirtual 113, 3) := by decide +kernel
theorem dX7_readWrong_72 : decode cX7_readWrong 72 = .ok (.ifCond .eq 12, 3) := by decide +kernel
theorem dX7_readWrong_75 : decode cX7_readWrong 75 = .ok (.aload_n 0, 1) := by decide +kernel
theorem dX7_readWrong_76 : decode cX7_readWrong 76 = .ok (.ldc 134, 2) := by decide +kernel
theorem dX7_readWrong_78 : decode cX7_readWrong 78 = .ok (.invokevirtual 94, 3) := by decide +kernel
theorem dX7_readWrong_81 : decode cX7_readWrong 81 = .ok (.ifCond .ne 5, 3) := by decide +kernel
theorem dX7_readWrong_84 : decode cX7_readWrong 84 = .ok (.iconst 0, 1) := by decide +kernel
theorem dX7_readWrong_85 : decode cX7_readWrong 85 = .ok (.ireturn, 1) := by decide +kernel
theorem dX7_readWrong_86 : decode cX7_readWrong 86 = .ok (.aload_n 0, 1) := by decide +kernel
theorem dX7_readWrong_87 : decode cX7_readWrong 87 = .ok (.getfield 12, 3) := by decide +kernel
theorem dX7_readWrong_90 : decode cX7_readWrong 90 = .ok (.getfield 98, 3) := by decide +kernel
theorem dX7_readWrong_93 : decode cX7_readWrong 93 = .ok (.istore 4, 2) := by decide +kernel
theorem dX7_readWrong_95 : decode cX7_readWrong 95 = .ok (.aload_n 0, 1) := by decide +kernel
theorem dX7_readWrong_96 : decode cX7_readWrong 96 = .ok (.iconst 1, 1) := by decide +kernel
theorem dX7_readWrong_97 : decode cX7_readWrong 97 = .ok (.bipush 9, 2) := by decide +kernel
theorem dX7_readWrong_99 : decode cX7_readWrong 99 = .ok (.invokevirtual 101, 3) := by decide +kernel
theorem dX7_readWrong_102 : decode cX7_readWrong 102 = .ok (.ifCond .ne 5, 3) := by decide +kernel
theorem dX7_readWrong_105 : decode cX7_readWrong 105 = .ok (.iconst 0, 1) := by decide +kernel
theorem dX7_readWrong_106 : decode cX7_readWrong 106 = .ok (.ireturn, 1) := by decide +kernel
theorem dX7_readWrong_107 : decode cX7_readWrong 107 = .ok (.aload_n 1, 1) := by decide +kernel
theorem dX7_readWrong_108 : decode cX7_readWrong 108 = .ok (.iload_n 2, 1) := by decide +kernel
theorem dX7_readWrong_109 : decode cX7_readWrong 109 = .ok (.iload_n 3, 1) := by decide +kernel
theorem dX7_readWrong_110 : decode cX7_readWrong 110 = .ok (.iload 4, 2) := by decide +kernel
theorem dX7_readWrong_112 : decode cX7_readWrong 112 = .ok (.invokevirtual 136, 3) := by decide +kernel
theorem dX7_readWrong_115 : decode cX7_readWrong 115 = .ok (.aload_n 0, 1) := by decide +kernel
theorem dX7_readWrong_116 : decode cX7_readWrong 116 = .ok (.bipush 59, 2) := by decide +kernel
theorem dX7_readWrong_118 : decode cX7_readWrong 118 = .ok (.invokevirtual 109, 3) := by decide +kernel
theorem dX7_readWrong_121 : decode cX7_readWrong 121 = .ok (.ireturn, 1) := by decide +kernel
theorem dX7_readWalk_0 : decode cX7_readWalk 0 = .ok (.aload_n 1, 1) := by decide +kernel
theorem dX7_readWalk_1 : decode cX7_readWalk 1 = .ok (.getfield 116, 3) := by decide +kernel
theorem dX7_readWalk_4 : decode cX7_readWalk 4 = .ok (.getfield 139, 3) := by decide +kernel
theorem dX7_readWalk_7 : decode cX7_readWalk 7 = .ok (.iconst 4, 1) := by decide +kernel
theorem dX7_readWalk_8 : decode cX7_readWalk 8 = .ok (.if_icmp .lt 9, 3) := by decide +kernel
theorem dX7_readWalk_11 : decode cX7_readWalk 11 = .ok (.aload_n 0, 1) := by decide +kernel
theorem dX7_readWalk_12 : decode cX7_readWalk 12 = .ok (.iconst 5, 1) := by decide +kernel
theorem dX7_readWalk_13 : decode cX7_readWalk 13 = .ok (.invokevirtual 39, 3) := by decide +kernel
theorem dX7_readWalk_16 : decode cX7_readWalk 16 = .ok (.ireturn, 1) := by decide +kernel
theorem dX7_readWalk_17 : decode cX7_readWalk 17 = .ok (.aload_n 0, 1) := by decide +kernel
theorem dX7_readWalk_18 : decode cX7_readWalk 18 = .ok (.getfield 12, 3) := by decide +kernel
theorem dX7_readWalk_21 : decode cX7_readWalk 21 = .ok (.invokevirtual 75, 3) := by decide +kernel
theorem dX7_readWalk_24 : decode cX7_readWalk 24 = .ok (.aload_n 1, 1) := by decide +kernel
theorem dX7_readWalk_25 : decode cX7_readWalk 25 = .ok (.aload_n 0, 1) := by decide +kernel
theorem dX7_readWalk_26 : decode cX7_readWalk 26 = .ok (.getfield 12, 3) := by decide +kernel
theorem dX7_readWalk_29 : decode cX7_readWalk 29 = .ok (.getfield 82, 3) := by decide +kernel
theorem dX7_readWalk_32 : decode cX7_readWalk 32 = .ok (.invokevirtual 86, 3) := by decide +kernel
theorem dX7_readWalk_35 : decode cX7_readWalk 35 = .ok (.istore_n 2, 1) := by decide +kernel
theorem dX7_readWalk_36 : decode cX7_readWalk 36 = .ok (.aload_n 0, 1) := by decide +kernel
theorem dX7_readWalk_37 : decode cX7_readWalk 37 = .ok (.aload_n 1, 1) := by decide +kernel
theorem dX7_readWalk_38 : decode cX7_readWalk 38 = .ok (.iconst (-1), 1) := by decide +kernel
theorem dX7_readWalk_39 : decode cX7_readWalk 39 = .ok (.invokevirtual 113, 3) := by decide +kernel
theorem dX7_readWalk_42 : decode cX7_readWalk 42 = .ok (.ifCond .eq 12, 3) := by decide +kernel
theorem dX7_readWalk_45 : decode cX7_readWalk 45 = .ok (.aload_n 0, 1) := by decide +kernel
theorem dX7_readWalk_46 : decode cX7_readWalk 46 = .ok (.ldc 132, 2) := by decide +kernel
theorem dX7_readWalk_48 : decode cX7_readWalk 48 = .ok (.invokevirtual 94, 3) := by decide +kernel
theorem dX7_readWalk_51 : decode cX7_readWalk 51 = .ok (.ifCond .ne 5, 3) := by decide +kernel
theorem dX7_readWalk_54 : decode cX7_readWalk 54 = .ok (.iconst 0, 1) := by decide +kernel
theorem dX7_readWalk_55 : decode cX7_readWalk 55 = .ok (.ireturn, 1) := by decide +kernel
theorem dX7_readWalk_56 : decode cX7_readWalk 56 = .ok (.aload_n 1, 1) := by decide +kernel
theorem dX7_readWalk_57 : decode cX7_readWalk 57 = .ok (.aload_n 0, 1) := by decide +kernel
theorem dX7_readWalk_58 : decode cX7_readWalk 58 = .ok (.getfield 12, 3) := by decide +kernel
theorem dX7_readWalk_61 : decode cX7_readWalk 61 = .ok (.getfield 82, 3) := by decide +kernel
theorem dX7_readWalk_64 : decode cX7_readWalk 64 = .ok (.invokevirtual 86, 3) := by decide +kernel
theorem dX7_readWalk_67 : decode cX7_readWalk 67 = .ok (.istore_n 3, 1) := by decide +kernel
theorem dX7_readWalk_68 : decode cX7_readWalk 68 = .ok (.aload_n 0, 1) := by decide +kernel
theorem dX7_readWalk_69 : decode cX7_readWalk 69 = .ok (.aload_n 1, 1) := by decide +kernel
theorem dX7_readWalk_70 : decode cX7_readWalk 70 = .ok (.iload_n 2, 1) := by decide +kernel
theorem dX7_readWalk_71 : decode cX7_readWalk 71 = .ok (.invokevirtual 113, 3) := by decide +kernel
theorem dX7_readWalk_74 : decode cX7_readWalk 74 = .ok (.ifCond .ne 5, 3) := by decide +kernel
theorem dX7_readWalk_77 : decode cX7_readWalk 77 = .ok (.iconst 0, 1) := by decide +kernel
theorem dX7_readWalk_78 : decode cX7_readWalk 78 = .ok (.ireturn, 1) := by decide +kernel
theorem dX7_readWalk_79 : decode cX7_readWalk 79 = .ok (.aload_n 1, 1) := by decide +kernel
theorem dX7_readWalk_80 : decode cX7_readWalk 80 = .ok (.getfield 116, 3) := by decide +kernel
theorem dX7_readWalk_83 : decode cX7_readWalk 83 = .ok (.iload_n 2, 1) := by decide +kernel
theorem dX7_readWalk_84 : decode cX7_readWalk 84 = .ok (.iload_n 3, 1) := by decide +kernel
theorem dX7_readWalk_85 : decode cX7_readWalk 85 = .ok (.invokevirtual 142, 3) := by decide +kernel
theorem dX7_readWalk_88 : decode cX7_readWalk 88 = .ok (.aload_n 0, 1) := by decide +kernel
theorem dX7_readWalk_89 : decode cX7_readWalk 89 = .ok (.bipush 59, 2) := by decide +kernel
theorem dX7_readWalk_91 : decode cX7_readWalk 91 = .ok (.invokevirtual 109, 3) := by decide +kernel
theorem dX7_readWalk_94 : decode cX7_readWalk 94 = .ok (.ireturn, 1) := by decide +kernel
theorem dX7_readOnce_0 : decode cX7_readOnce 0 = .ok (.aload_n 1, 1) := by decide +kernel
theorem dX7_readOnce_1 : decode cX7_readOnce 1 = .ok (.getfield 146, 3) := by decide +kernel
theorem dX7_readOnce_4 : decode cX7_readOnce 4 = .ok (.iload_n 2, 1) := by decide +kernel
theorem dX7_readOnce_5 : decode cX7_readOnce 5 = .ok (.invokestatic 149, 3) := by decide +kernel
theorem dX7_readOnce_8 : decode cX7_readOnce 8 = .ok (.ifCond .eq 9, 3) := by decide +kernel
theorem dX7_readOnce_11 : decode cX7_readOnce 11 = .ok (.aload_n 0, 1) := by decide +kernel
theorem dX7_readOnce_12 : decode cX7_readOnce 12 = .ok (.iconst 3, 1) := by decide +kernel
theorem dX7_readOnce_13 : decode cX7_readOnce 13 = .ok (.invokevirtual 39, 3) := by decide +kernel
theorem dX7_readOnce_16 : decode cX7_readOnce 16 = .ok (.ireturn, 1) := by decide +kernel
theorem dX7_readOnce_17 : decode cX7_readOnce 17 = .ok (.aload_n 1, 1) := by decide +kernel
theorem dX7_readOnce_18 : decode cX7_readOnce 18 = .ok (.dup, 1) := by decide +kernel
theorem dX7_readOnce_19 : decode cX7_readOnce 19 = .ok (.getfield 146, 3) := by decide +kernel
theorem dX7_readOnce_22 : decode cX7_readOnce 22 = .ok (.iconst 1, 1) := by decide +kernel
theorem dX7_readOnce_23 : decode cX7_readOnce 23 = .ok (.iload_n 2, 1) := by decide +kernel
theorem dX7_readOnce_24 : decode cX7_readOnce 24 = .ok (.ishl, 1) := by decide +kernel
theorem dX7_readOnce_25 : decode cX7_readOnce 25 = .ok (.ior, 1) := by decide +kernel
theorem dX7_readOnce_26 : decode cX7_readOnce 26 = .ok (.putfield 146, 3) := by decide +kernel
theorem dX7_readOnce_29 : decode cX7_readOnce 29 = .ok (.aload_n 0, 1) := by decide +kernel
theorem dX7_readOnce_30 : decode cX7_readOnce 30 = .ok (.getfield 12, 3) := by decide +kernel
theorem dX7_readOnce_33 : decode cX7_readOnce 33 = .ok (.invokevirtual 75, 3) := by decide +kernel
theorem dX7_readOnce_36 : decode cX7_readOnce 36 = .ok (.aload_n 0, 1) := by decide +kernel
theorem dX7_readOnce_37 : decode cX7_readOnce 37 = .ok (.getfield 12, 3) := by decide +kernel
theorem dX7_readOnce_40 : decode cX7_readOnce 40 = .ok (.getfield 98, 3) := by decide +kernel
theorem dX7_readOnce_43 : decode cX7_readOnce 43 = .ok (.istore_n 3, 1) := by decide +kernel
theorem dX7_readOnce_44 : decode cX7_readOnce 44 = .ok (.iload_n 2, 1) := by decide +kernel
theorem dX7_readOnce_45 : decode cX7_readOnce 45 = .ok (.ifCond .ne 33, 3) := by decide +kernel
theorem dX7_readOnce_48 : decode cX7_readOnce 48 = .ok (.aload_n 1, 1) := by decide +kernel
theorem dX7_readOnce_49 : decode cX7_readOnce 49 = .ok (.iload_n 3, 1) := by decide +kernel
theorem dX7_readOnce_50 : decode cX7_readOnce 50 = .ok (.putfield 152, 3) := by decide +kernel
theorem dX7_readOnce_53 : decode cX7_readOnce 53 = .ok (.aload_n 0, 1) := by decide +kernel
theorem dX7_readOnce_54 : decode cX7_readOnce 54 = .ok (.iconst 0, 1) := by decide +kernel
theorem dX7_readOnce_55 : decode cX7_readOnce 55 = .ok (.bipush 30, 2) := by decide +kernel
theorem dX7_readOnce_57 : decode cX7_readOnce 57 = .ok (.invokevirtual 101, 3) := by decide +kernel
theorem dX7_readOnce_60 : decode cX7_readOnce 60 = .ok (.ifCond .eq 16, 3) := by decide +kernel
theorem dX7_readOnce_63 : decode cX7_readOnce 63 = .ok (.aload_n 0, 1) := by decide +kernel
theorem dX7_readOnce_64 : decode cX7_readOnce 64 = .ok (.bipush 59, 2) := by decide +kernel
theorem dX7_readOnce_66 : decode cX7_readOnce 66 = .ok (.invokevirtual 109, 3) := by decide +kernel
theorem dX7_readOnce_69 : decode cX7_readOnce 69 = .ok (.ifCond .eq 7, 3) := by decide +kernel
theorem dX7_readOnce_72 : decode cX7_readOnce 72 = .ok (.iconst 1, 1) := by decide +kernel
theorem dX7_readOnce_73 : decode cX7_readOnce 73 = .ok (.goto 4, 3) := by decide +kernel
theorem dX7_readOnce_76 : decode cX7_readOnce 76 = .ok (.iconst 0, 1) := by decide +kernel
theorem dX7_readOnce_77 : decode cX7_readOnce 77 = .ok (.ireturn, 1) := by decide +kernel
theorem dX7_readOnce_78 : decode cX7_readOnce 78 = .ok (.iload_n 2, 1) := by decide +kernel
theorem dX7_readOnce_79 : decode cX7_readOnce 79 = .ok (.iconst 1, 1) := by decide +kernel
theorem dX7_readOnce_80 : decode cX7_readOnce 80 = .ok (.if_icmp .ne 33, 3) := by decide +kernel
theorem dX7_readOnce_83 : decode cX7_readOnce 83 = .ok (.aload_n 1, 1) := by decide +kernel
theorem dX7_readOnce_84 : decode cX7_readOnce 84 = .ok (.iload_n 3, 1) := by decide +kernel
theorem dX7_readOnce_85 : decode cX7_readOnce 85 = .ok (.putfield 155, 3) := by decide +kernel
theorem dX7_readOnce_88 : decode cX7_readOnce 88 = .ok (.aload_n 0, 1) := by decide +kernel
theorem dX7_readOnce_89 : decode cX7_readOnce 89 = .ok (.iconst 0, 1) := by decide +kernel
theorem dX7_readOnce_90 : decode cX7_readOnce 90 = .ok (.bipush 10, 2) := by decide +kernel
theorem dX7_readOnce_92 : decode cX7_readOnce 92 = .ok (.invokevirtual 101, 3) := by decide +kernel
theorem dX7_readOnce_95 : decode cX7_readOnce 95 = .ok (.ifCond .eq 16, 3) := by decide +kernel
theorem dX7_readOnce_98 : decode cX7_readOnce 98 = .ok (.aload_n 0, 1) := by decide +kernel
theorem dX7_readOnce_99 : decode cX7_readOnce 99 = .ok (.bipush 59, 2) := by decide +kernel
theorem dX7_readOnce_101 : decode cX7_readOnce 101 = .ok (.invokevirtual 109, 3) := by decide +kernel
theorem dX7_readOnce_104 : decode cX7_readOnce 104 = .ok (.ifCond .eq 7, 3) := by decide +kernel
theorem dX7_readOnce_107 : decode cX7_readOnce 107 = .ok (.iconst 1, 1) := by decide +kernel
theorem dX7_readOnce_108 : decode cX7_readOnce 108 = .ok (.goto 4, 3) := by decide +kernel
theorem dX7_readOnce_111 : decode cX7_readOnce 111 = .ok (.iconst 0, 1) := by decide +kernel
theorem dX7_readOnce_112 : decode cX7_readOnce 112 = .ok (.ireturn, 1) := by decide +kernel
theorem dX7_readOnce_113 : decode cX7_readOnce 113 = .ok (.aload_n 1, 1) := by decide +kernel
theorem dX7_readOnce_114 : decode cX7_readOnce 114 = .ok (.getfield 158, 3) := by decide +kernel
theorem dX7_readOnce_117 : decode cX7_readOnce 117 = .ok (.iload_n 2, 1) := by decide +kernel
theorem dX7_readOnce_118 : decode cX7_readOnce 118 = .ok (.iconst 2, 1) := by decide +kernel
theorem dX7_readOnce_119 : decode cX7_readOnce 119 = .ok (.isub, 1) := by decide +kernel
theorem dX7_readOnce_120 : decode cX7_readOnce 120 = .ok (.invokevirtual 162, 3) := by decide +kernel
theorem dX7_readOnce_123 : decode cX7_readOnce 123 = .ok (.aload_n 0, 1) := by decide +kernel
theorem dX7_readOnce_124 : decode cX7_readOnce 124 = .ok (.aload_n 1, 1) := by decide +kernel
theorem dX7_readOnce_125 : decode cX7_readOnce 125 = .ok (.getfield 158, 3) := by decide +kernel
theorem dX7_readOnce_128 : decode cX7_readOnce 128 = .ok (.iconst 0, 1) := by decide +kernel
theorem dX7_readOnce_129 : decode cX7_readOnce 129 = .ok (.iconst 0, 1) := by decide +kernel
theorem dX7_readOnce_130 : decode cX7_readOnce 130 = .ok (.invokevirtual 168, 3) := by decide +kernel
theorem dX7_readOnce_133 : decode cX7_readOnce 133 = .ok (.istore 4, 2) := by decide +kernel
theorem dX7_readOnce_135 : decode cX7_readOnce 135 = .ok (.aload_n 1, 1) := by decide +kernel
theorem dX7_readOnce_136 : decode cX7_readOnce 136 = .ok (.getfield 158, 3) := by decide +kernel
theorem dX7_readOnce_139 : decode cX7_readOnce 139 = .ok (.iload_n 2, 1) := by decide +kernel
theorem dX7_readOnce_140 : decode cX7_readOnce 140 = .ok (.iconst 2, 1) := by decide +kernel
theorem dX7_readOnce_141 : decode cX7_readOnce 141 = .ok (.isub, 1) := by decide +kernel
theorem dX7_readOnce_142 : decode cX7_readOnce 142 = .ok (.invokevirtual 172, 3) := by decide +kernel
theorem dX7_readOnce_145 : decode cX7_readOnce 145 = .ok (.iload 4, 2) := by decide +kernel
theorem dX7_readOnce_147 : decode cX7_readOnce 147 = .ok (.ifCond .eq 16, 3) := by decide +kernel
theorem dX7_readOnce_150 : decode cX7_readOnce 150 = .ok (.aload_n 0, 1) := by decide +kernel
theorem dX7_readOnce_151 : decode cX7_readOnce 151 = .ok (.bipush 59, 2) := by decide +kernel
theorem dX7_readOnce_153 : decode cX7_readOnce 153 = .ok (.invokevirtual 109, 3) := by decide +kernel
theorem dX7_readOnce_156 : decode cX7_readOnce 156 = .ok (.ifCond .eq 7, 3) := by decide +kernel
theorem dX7_readOnce_159 : decode cX7_readOnce 159 = .ok (.iconst 1, 1) := by decide +kernel
theorem dX7_readOnce_160 : decode cX7_readOnce 160 = .ok (.goto 4, 3) := by decide +kernel
theorem dX7_readOnce_163 : decode cX7_readOnce 163 = .ok (.iconst 0, 1) := by decide +kernel
theorem dX7_readOnce_164 : decode cX7_readOnce 164 = .ok (.ireturn, 1) := by decide +kernel
theorem dX7_readTerm_0 : decode cX7_readTerm 0 = .ok (.iload_n 2, 1) := by decide +kernel
theorem dX7_readTerm_1 : decode cX7_readTerm 1 = .ok (.iconst 3, 1) := by decide +kernel
theorem dX7_readTerm_2 : decode cX7_readTerm 2 = .ok (.if_icmp .le 10, 3) := by decide +kernel
theorem dX7_readTerm_5 : decode cX7_readTerm 5 = .ok (.aload_n 0, 1) := by decide +kernel
theorem dX7_readTerm_6 : decode cX7_readTerm 6 = .ok (.aload_n 1, 1) := by decide +kernel
theorem dX7_readTerm_7 : decode cX7_readTerm 7 = .ok (.iload_n 3, 1) := by decide +kernel
theorem dX7_readTerm_8 : decode cX7_readTerm 8 = .ok (.invokevirtual 175, 3) := by decide +kernel
theorem dX7_readTerm_11 : decode cX7_readTerm 11 = .ok (.ireturn, 1) := by decide +kernel
theorem dX7_readTerm_12 : decode cX7_readTerm 12 = .ok (.aload_n 0, 1) := by decide +kernel
theorem dX7_readTerm_13 : decode cX7_readTerm 13 = .ok (.aload_n 1, 1) := by decide +kernel
theorem dX7_readTerm_14 : decode cX7_readTerm 14 = .ok (.iload_n 2, 1) := by decide +kernel
theorem dX7_readTerm_15 : decode cX7_readTerm 15 = .ok (.iconst 1, 1) := by decide +kernel
theorem dX7_readTerm_16 : decode cX7_readTerm 16 = .ok (.iadd, 1) := by decide +kernel
theorem dX7_readTerm_17 : decode cX7_readTerm 17 = .ok (.iload_n 3, 1) := by decide +kernel
theorem dX7_readTerm_18 : decode cX7_readTerm 18 = .ok (.invokevirtual 168, 3) := by decide +kernel
theorem dX7_readTerm_21 : decode cX7_readTerm 21 = .ok (.ifCond .ne 5, 3) := by decide +kernel
theorem dX7_readTerm_24 : decode cX7_readTerm 24 = .ok (.iconst 0, 1) := by decide +kernel
theorem dX7_readTerm_25 : decode cX7_readTerm 25 = .ok (.ireturn, 1) := by decide +kernel
theorem dX7_readTerm_26 : decode cX7_readTerm 26 = .ok (.iload_n 2, 1) := by decide +kernel
theorem dX7_readTerm_27 : decode cX7_readTerm 27 = .ok (.iconst 1, 1) := by decide +kernel
theorem dX7_readTerm_28 : decode cX7_readTerm 28 = .ok (.if_icmp .ne 7, 3) := by decide +kernel
theorem dX7_readTerm_31 : decode cX7_readTerm 31 = .ok (.iconst 1, 1) := by decide +kernel
theorem dX7_readTerm_32 : decode cX7_readTerm 32 = .ok (.goto 6, 3) := by decide +kernel
theorem dX7_readTerm_35 : decode cX7_readTerm 35 = .ok (.sipush 1000, 3) := by decide +kernel
theorem dX7_readTerm_38 : decode cX7_readTerm 38 = .ok (.istore 4, 2) := by decide +kernel
theorem dX7_readTerm_40 : decode cX7_readTerm 40 = .ok (.iconst 0, 1) := by decide +kernel
theorem dX7_readTerm_41 : decode cX7_readTerm 41 = .ok (.istore 5, 2) := by decide +kernel
theorem dX7_readTerm_43 : decode cX7_readTerm 43 = .ok (.iload 5, 2) := by decide +kernel
theorem dX7_readTerm_45 : decode cX7_readTerm 45 = .ok (.iload 4, 2) := by decide +kernel
theorem dX7_readTerm_47 : decode cX7_readTerm 47 = .ok (.if_icmp .ge 50, 3) := by decide +kernel
theorem dX7_readTerm_50 : decode cX7_readTerm 50 = .ok (.aload_n 0, 1) := by decide +kernel
theorem dX7_readTerm_51 : decode cX7_readTerm 51 = .ok (.iload_n 2, 1) := by decide +kernel
theorem dX7_readTerm_52 : decode cX7_readTerm 52 = .ok (.invokevirtual 179, 3) := by decide +kernel
theorem dX7_readTerm_55 : decode cX7_readTerm 55 = .ok (.istore 6, 2) := by decide +kernel
theorem dX7_readTerm_57 : decode cX7_readTerm 57 = .ok (.iload 6, 2) := by decide +kernel
theorem dX7_readTerm_59 : decode cX7_readTerm 59 = .ok (.ifCond .ne 5, 3) := by decide +kernel
theorem dX7_readTerm_62 : decode cX7_readTerm 62 = .ok (.iconst 1, 1) := by decide +kernel
theorem dX7_readTerm_63 : decode cX7_readTerm 63 = .ok (.ireturn, 1) := by decide +kernel
theorem dX7_readTerm_64 : decode cX7_readTerm 64 = .ok (.aload_n 0, 1) := by decide +kernel
theorem dX7_readTerm_65 : decode cX7_readTerm 65 = .ok (.getfield 12, 3) := by decide +kernel
theorem dX7_readTerm_68 : decode cX7_readTerm 68 = .ok (.invokevirtual 75, 3) := by decide +kernel
theorem dX7_readTerm_71 : decode cX7_readTerm 71 = .ok (.aload_n 0, 1) := by decide +kernel
theorem dX7_readTerm_72 : decode cX7_readTerm 72 = .ok (.aload_n 1, 1) := by decide +kernel
theorem dX7_readTerm_73 : decode cX7_readTerm 73 = .ok (.iload_n 2, 1) := by decide +kernel
theorem dX7_readTerm_74 : decode cX7_readTerm 74 = .ok (.iconst 1, 1) := by decide +kernel
theorem dX7_readTerm_75 : decode cX7_readTerm 75 = .ok (.iadd, 1) := by decide +kernel
theorem dX7_readTerm_76 : decode cX7_readTerm 76 = .ok (.iload_n 3, 1) := by decide +kernel
theorem dX7_readTerm_77 : decode cX7_readTerm 77 = .ok (.invokevirtual 168, 3) := by decide +kernel
theorem dX7_readTerm_80 : decode cX7_readTerm 80 = .ok (.ifCond .ne 5, 3) := by decide +kernel
theorem dX7_readTerm_83 : decode cX7_readTerm 83 = .ok (.iconst 0, 1) := by decide +kernel
theorem dX7_readTerm_84 : decode cX7_readTerm 84 = .ok (.ireturn, 1) := by decide +kernel
theorem dX7_readTerm_85 : decode cX7_readTerm 85 = .ok (.aload_n 1, 1) := by decide +kernel
theorem dX7_readTerm_86 : decode cX7_readTerm 86 = .ok (.iload 6, 2) := by decide +kernel
theorem dX7_readTerm_88 : decode cX7_readTerm 88 = .ok (.invokevirtual 183, 3) := by decide +kernel
theorem dX7_readTerm_91 : decode cX7_readTerm 91 = .ok (.iinc 5 1, 3) := by decide +kernel
theorem dX7_readTerm_94 : decode cX7_readTerm 94 = .ok (.goto (-51), 3) := by decide +kernel
theorem dX7_readTerm_97 : decode cX7_readTerm 97 = .ok (.iconst 1, 1) := by decide +kernel
theorem dX7_readTerm_98 : decode cX7_readTerm 98 = .ok (.ireturn, 1) := by decide +kernel
theorem dX7_readPart_0 : decode cX7_readPart 0 = .ok (.aload_n 0, 1) := by decide +kernel
theorem dX7_readPart_1 : decode cX7_readPart 1 = .ok (.getfield 12, 3) := by decide +kernel
theorem dX7_readPart_4 : decode cX7_readPart 4 = .ok (.ldc 186, 2) := by decide +kernel
theorem dX7_readPart_6 : decode cX7_readPart 6 = .ok (.invokevirtual 35, 3) := by decide +kernel
theorem dX7_readPart_9 : decode cX7_readPart 9 = .ok (.ifCond .ne 7, 3) := by decide +kernel
theorem dX7_readPart_12 : decode cX7_readPart 12 = .ok (.iconst 1, 1) := by decide +kernel
theorem dX7_readPart_13 : decode cX7_readPart 13 = .ok (.goto 4, 3) := by decide +kernel
theorem dX7_readPart_16 : decode cX7_readPart 16 = .ok (.iconst 0, 1) := by decide +kernel
theorem dX7_readPart_17 : decode cX7_readPart 17 = .ok (.istore_n 3, 1) := by decide +kernel
theorem dX7_readPart_18 : decode cX7_readPart 18 = .ok (.aload_n 0, 1) := by decide +kernel
theorem dX7_readPart_19 : decode cX7_readPart 19 = .ok (.getfield 12, 3) := by decide +kernel
theorem dX7_readPart_22 : decode cX7_readPart 22 = .ok (.bipush 40, 2) := by decide +kernel
theorem dX7_readPart_24 : decode cX7_readPart 24 = .ok (.invokevirtual 188, 3) := by decide +kernel
theorem dX7_readPart_27 : decode cX7_readPart 27 = .ok (.istore 4, 2) := by decide +kernel
theorem dX7_readPart_29 : decode cX7_readPart 29 = .ok (.aload_n 0, 1) := by decide +kernel
theorem dX7_readPart_30 : decode cX7_readPart 30 = .ok (.getfield 12, 3) := by decide +kernel
theorem dX7_readPart_33 : decode cX7_readPart 33 = .ok (.ldc 191, 2) := by decide +kernel
theorem dX7_readPart_35 : decode cX7_readPart 35 = .ok (.invokevirtual 35, 3) := by decide +kernel
theorem dX7_readPart_38 : decode cX7_readPart 38 = .ok (.istore 5, 2) := by decide +kernel
theorem dX7_readPart_40 : decode cX7_readPart 40 = .ok (.iload_n 3, 1) := by decide +kernel
theorem dX7_readPart_41 : decode cX7_readPart 41 = .ok (.ifCond .ne 31, 3) := by decide +kernel
theorem dX7_readPart_44 : decode cX7_readPart 44 = .ok (.iload 4, 2) := by decide +kernel
theorem dX7_readPart_46 : decode cX7_readPart 46 = .ok (.ifCond .ne 26, 3) := by decide +kernel
theorem dX7_readPart_49 : decode cX7_readPart 49 = .ok (.iload 5, 2) := by decide +kernel
theorem dX7_readPart_51 : decode cX7_readPart 51 = .ok (.iconst (-1), 1) := by decide +kernel
theorem dX7_readPart_52 : decode cX7_readPart 52 = .ok (.if_icmp .ne 20, 3) := by decide +kernel
theorem dX7_readPart_55 : decode cX7_readPart 55 = .ok (.aload_n 0, 1) := by decide +kernel
theorem dX7_readPart_56 : decode cX7_readPart 56 = .ok (.getfield 12, 3) := by decide +kernel
theorem dX7_readPart_59 : decode cX7_readPart 59 = .ok (.getfield 30, 3) := by decide +kernel
theorem dX7_readPart_62 : decode cX7_readPart 62 = .ok (.iconst 3, 1) := by decide +kernel
theorem dX7_readPart_63 : decode cX7_readPart 63 = .ok (.if_icmp .eq 9, 3) := by decide +kernel
theorem dX7_readPart_66 : decode cX7_readPart 66 = .ok (.aload_n 0, 1) := by decide +kernel
theorem dX7_readPart_67 : decode cX7_readPart 67 = .ok (.iconst 1, 1) := by decide +kernel
theorem dX7_readPart_68 : decode cX7_readPart 68 = .ok (.invokevirtual 39, 3) := by decide +kernel
theorem dX7_readPart_71 : decode cX7_readPart 71 = .ok (.ireturn, 1) := by decide +kernel
theorem dX7_readPart_72 : decode cX7_readPart 72 = .ok (.iload_n 2, 1) := by decide +kernel
theorem dX7_readPart_73 : decode cX7_readPart 73 = .ok (.iconst 5, 1) := by decide +kernel
theorem dX7_readPart_74 : decode cX7_readPart 74 = .ok (.if_icmp .lt 9, 3) := by decide +kernel
theorem dX7_readPart_77 : decode cX7_readPart 77 = .ok (.aload_n 0, 1) := by decide +kernel
theorem dX7_readPart_78 : decode cX7_readPart 78 = .ok (.iconst 5, 1) := by decide +kernel
theorem dX7_readPart_79 : decode cX7_readPart 79 = .ok (.invokevirtual 39, 3) := by decide +kernel
theorem dX7_readPart_82 : decode cX7_readPart 82 = .ok (.ireturn, 1) := by decide +kernel
theorem dX7_readPart_83 : decode cX7_readPart 83 = .ok (.aload_n 0, 1) := by decide +kernel
theorem dX7_readPart_84 : decode cX7_readPart 84 = .ok (.getfield 12, 3) := by decide +kernel
theorem dX7_readPart_87 : decode cX7_readPart 87 = .ok (.getfield 98, 3) := by decide +kernel
theorem dX7_readPart_90 : decode cX7_readPart 90 = .ok (.istore 6, 2) := by decide +kernel
theorem dX7_readPart_92 : decode cX7_readPart 92 = .ok (.aload_n 0, 1) := by decide +kernel
theorem dX7_readPart_93 : decode cX7_readPart 93 = .ok (.getfield 12, 3) := by decide +kernel
theorem dX7_readPart_96 : decode cX7_readPart 96 = .ok (.invokevirtual 75, 3) := by decide +kernel
theorem dX7_readPart_99 : decode cX7_readPart 99 = .ok (.iload_n 3, 1) := by decide +kernel
theorem dX7_readPart_100 : decode cX7_readPart 100 = .ok (.ifCond .eq 22, 3) := by decide +kernel
theorem dX7_readPart_103 : decode cX7_readPart 103 = .ok (.aload_n 0, 1) := by decide +kernel
theorem dX7_readPart_104 : decode cX7_readPart 104 = .ok (.aload_n 1, 1) := by decide +kernel
theorem dX7_readPart_105 : decode cX7_readPart 105 = .ok (.iload_n 2, 1) := by decide +kernel
theorem dX7_readPart_106 : decode cX7_readPart 106 = .ok (.iconst 1, 1) := by decide +kernel
theorem dX7_readPart_107 : decode cX7_readPart 107 = .ok (.iadd, 1) := by decide +kernel
theorem dX7_readPart_108 : decode cX7_readPart 108 = .ok (.invokevirtual 175, 3) := by decide +kernel
theorem dX7_readPart_111 : decode cX7_readPart 111 = .ok (.istore 7, 2) := by decide +kernel
theorem dX7_readPart_113 : decode cX7_readPart 113 = .ok (.aload_n 1, 1) := by decide +kernel
theorem dX7_readPart_114 : decode cX7_readPart 114 = .ok (.bipush (-4), 2) := by decide +kernel
theorem dX7_readPart_116 : decode cX7_readPart 116 = .ok (.invokevirtual 183, 3) := by decide +kernel
theorem dX7_readPart_119 : decode cX7_readPart 119 = .ok (.iload 7, 2) := by decide +kernel
theorem dX7_readPart_121 : decode cX7_readPart 121 = .ok (.ireturn, 1) := by decide +kernel
theorem dX7_readPart_122 : decode cX7_readPart 122 = .ok (.iload 4, 2) := by decide +kernel
theorem dX7_readPart_124 : decode cX7_readPart 124 = .ok (.ifCond .eq 30, 3) := by decide +kernel
theorem dX7_readPart_127 : decode cX7_readPart 127 = .ok (.aload_n 0, 1) := by decide +kernel
theorem dX7_readPart_128 : decode cX7_readPart 128 = .ok (.aload_n 1, 1) := by decide +kernel
theorem dX7_readPart_129 : decode cX7_readPart 129 = .ok (.iconst 0, 1) := by decide +kernel
theorem dX7_readPart_130 : decode cX7_readPart 130 = .ok (.iload_n 2, 1) := by decide +kernel
theorem dX7_readPart_131 : decode cX7_readPart 131 = .ok (.iconst 1, 1) := by decide +kernel
theorem dX7_readPart_132 : decode cX7_readPart 132 = .ok (.iadd, 1) := by decide +kernel
theorem dX7_readPart_133 : decode cX7_readPart 133 = .ok (.invokevirtual 168, 3) := by decide +kernel
theorem dX7_readPart_136 : decode cX7_readPart 136 = .ok (.ifCond .eq 16, 3) := by decide +kernel
theorem dX7_readPart_139 : decode cX7_readPart 139 = .ok (.aload_n 0, 1) := by decide +kernel
theorem dX7_readPart_140 : decode cX7_readPart 140 = .ok (.bipush 41, 2) := by decide +kernel
theorem dX7_readPart_142 : decode cX7_readPart 142 = .ok (.invokevirtual 109, 3) := by decide +kernel
theorem dX7_readPart_145 : decode cX7_readPart 145 = .ok (.ifCond .eq 7, 3) := by decide +kernel
theorem dX7_readPart_148 : decode cX7_readPart 148 = .ok (.iconst 1, 1) := by decide +kernel
theorem dX7_readPart_149 : decode cX7_readPart 149 = .ok (.goto 4, 3) := by decide +kernel
theorem dX7_readPart_152 : decode cX7_readPart 152 = .ok (.iconst 0, 1) := by decide +kernel
theorem dX7_readPart_153 : decode cX7_readPart 153 = .ok (.ireturn, 1) := by decide +kernel
theorem dX7_readPart_154 : decode cX7_readPart 154 = .ok (.aload_n 1, 1) := by decide +kernel
theorem dX7_readPart_155 : decode cX7_readPart 155 = .ok (.iload 5, 2) := by decide +kernel
theorem dX7_readPart_157 : decode cX7_readPart 157 = .ok (.iconst (-1), 1) := by decide +kernel
theorem dX7_readPart_158 : decode cX7_readPart 158 = .ok (.if_icmp .ne 8, 3) := by decide +kernel
theorem dX7_readPart_161 : decode cX7_readPart 161 = .ok (.iload 6, 2) := by decide +kernel
theorem dX7_readPart_163 : decode cX7_readPart 163 = .ok (.goto 7, 3) := by decide +kernel
theorem dX7_readPart_166 : decode cX7_readPart 166 = .ok (.iconst (-1), 1) := by decide +kernel
theorem dX7_readPart_167 : decode cX7_readPart 167 = .ok (.iload 5, 2) := by decide +kernel
theorem dX7_readPart_169 : decode cX7_readPart 169 = .ok (.isub, 1) := by decide +kernel
theorem dX7_readPart_170 : decode cX7_readPart 170 = .ok (.invokevirtual 183, 3) := by decide +kernel
theorem dX7_readPart_173 : decode cX7_readPart 173 = .ok (.iconst 1, 1) := by decide +kernel
theorem dX7_readPart_174 : decode cX7_readPart 174 = .ok (.ireturn, 1) := by decide +kernel
theorem dX7_joiner_0 : decode cX7_joiner 0 = .ok (.iload_n 1, 1) := by decide +kernel
theorem dX7_joiner_1 : decode cX7_joiner 1 = .ok (.tableswitch 123 0 2 #[27, 51, 87], 27) := by decide +kernel
theorem dX7_joiner_28 : decode cX7_joiner 28 = .ok (.aload_n 0, 1) := by decide +kernel
theorem dX7_joiner_29 : decode cX7_joiner 29 = .ok (.getfield 12, 3) := by decide +kernel
theorem dX7_joiner_32 : decode cX7_joiner 32 = .ok (.ldc 193, 2) := by decide +kernel
theorem dX7_joiner_34 : decode cX7_joiner 34 = .ok (.invokevirtual 35, 3) := by decide +kernel
theorem dX7_joiner_37 : decode cX7_joiner 37 = .ok (.istore_n 2, 1) := by decide +kernel
theorem dX7_joiner_38 : decode cX7_joiner 38 = .ok (.iload_n 2, 1) := by decide +kernel
theorem dX7_joiner_39 : decode cX7_joiner 39 = .ok (.iconst (-1), 1) := by decide +kernel
theorem dX7_joiner_40 : decode cX7_joiner 40 = .ok (.if_icmp .ne 7, 3) := by decide +kernel
theorem dX7_joiner_43 : decode cX7_joiner 43 = .ok (.iconst 0, 1) := by decide +kernel
theorem dX7_joiner_44 : decode cX7_joiner 44 = .ok (.goto 7, 3) := by decide +kernel
theorem dX7_joiner_47 : decode cX7_joiner 47 = .ok (.bipush (-5), 2) := by decide +kernel
theorem dX7_joiner_49 : decode cX7_joiner 49 = .ok (.iload_n 2, 1) := by decide +kernel
theorem dX7_joiner_50 : decode cX7_joiner 50 = .ok (.isub, 1) := by decide +kernel
theorem dX7_joiner_51 : decode cX7_joiner 51 = .ok (.ireturn, 1) := by decide +kernel
theorem dX7_joiner_52 : decode cX7_joiner 52 = .ok (.aload_n 0, 1) := by decide +kernel
theorem dX7_joiner_53 : decode cX7_joiner 53 = .ok (.getfield 12, 3) := by decide +kernel
theorem dX7_joiner_56 : decode cX7_joiner 56 = .ok (.bipush 60, 2) := by decide +kernel
theorem dX7_joiner_58 : decode cX7_joiner 58 = .ok (.invokevirtual 188, 3) := by decide +kernel
theorem dX7_joiner_61 : decode cX7_joiner 61 = .ok (.ifCond .eq 8, 3) := by decide +kernel
theorem dX7_joiner_64 : decode cX7_joiner 64 = .ok (.bipush (-7), 2) := by decide +kernel
theorem dX7_joiner_66 : decode cX7_joiner 66 = .ok (.goto 21, 3) := by decide +kernel
theorem dX7_joiner_69 : decode cX7_joiner 69 = .ok (.aload_n 0, 1) := by decide +kernel
theorem dX7_joiner_70 : decode cX7_joiner 70 = .ok (.getfield 12, 3) := by decide +kernel
theorem dX7_joiner_73 : decode cX7_joiner 73 = .ok (.bipush 61, 2) := by decide +kernel
theorem dX7_joiner_75 : decode cX7_joiner 75 = .ok (.invokevirtual 188, 3) := by decide +kernel
theorem dX7_joiner_78 : decode cX7_joiner 78 = .ok (.ifCond .eq 8, 3) := by decide +kernel
theorem dX7_joiner_81 : decode cX7_joiner 81 = .ok (.bipush (-8), 2) := by decide +kernel
theorem dX7_joiner_83 : decode cX7_joiner 83 = .ok (.goto 4, 3) := by decide +kernel
theorem dX7_joiner_86 : decode cX7_joiner 86 = .ok (.iconst 0, 1) := by decide +kernel
theorem dX7_joiner_87 : decode cX7_joiner 87 = .ok (.ireturn, 1) := by decide +kernel
theorem dX7_joiner_88 : decode cX7_joiner 88 = .ok (.aload_n 0, 1) := by decide +kernel
theorem dX7_joiner_89 : decode cX7_joiner 89 = .ok (.getfield 12, 3) := by decide +kernel
theorem dX7_joiner_92 : decode cX7_joiner 92 = .ok (.bipush 43, 2) := by decide +kernel
theorem dX7_joiner_94 : decode cX7_joiner 94 = .ok (.invokevirtual 188, 3) := by decide +kernel
theorem dX7_joiner_97 : decode cX7_joiner 97 = .ok (.ifCond .eq 8, 3) := by decide +kernel
theorem dX7_joiner_100 : decode cX7_joiner 100 = .ok (.bipush (-9), 2) := by decide +kernel
theorem dX7_joiner_102 : decode cX7_joiner 102 = .ok (.goto 21, 3) := by decide +kernel
theorem dX7_joiner_105 : decode cX7_joiner 105 = .ok (.aload_n 0, 1) := by decide +kernel
theorem dX7_joiner_106 : decode cX7_joiner 106 = .ok (.getfield 12, 3) := by decide +kernel
theorem dX7_joiner_109 : decode cX7_joiner 109 = .ok (.bipush 45, 2) := by decide +kernel
theorem dX7_joiner_111 : decode cX7_joiner 111 = .ok (.invokevirtual 188, 3) := by decide +kernel
theorem dX7_joiner_114 : decode cX7_joiner 114 = .ok (.ifCond .eq 8, 3) := by decide +kernel
theorem dX7_joiner_117 : decode cX7_joiner 117 = .ok (.bipush (-10), 2) := by decide +kernel
theorem dX7_joiner_119 : decode cX7_joiner 119 = .ok (.goto 4, 3) := by decide +kernel
theorem dX7_joiner_122 : decode cX7_joiner 122 = .ok (.iconst 0, 1) := by decide +kernel
theorem dX7_joiner_123 : decode cX7_joiner 123 = .ok (.ireturn, 1) := by decide +kernel
theorem dX7_joiner_124 : decode cX7_joiner 124 = .ok (.aload_n 0, 1) := by decide +kernel
theorem dX7_joiner_125 : decode cX7_joiner 125 = .ok (.getfield 12, 3) := by decide +kernel
theorem dX7_joiner_128 : decode cX7_joiner 128 = .ok (.bipush 42, 2) := by decide +kernel
theorem dX7_joiner_130 : decode cX7_joiner 130 = .ok (.invokevirtual 188, 3) := by decide +kernel
theorem dX7_joiner_133 : decode cX7_joiner 133 = .ok (.ifCond .eq 8, 3) := by decide +kernel
theorem dX7_joiner_136 : decode cX7_joiner 136 = .ok (.bipush (-11), 2) := by decide +kernel
theorem dX7_joiner_138 : decode cX7_joiner 138 = .ok (.goto 4, 3) := by decide +kernel
theorem dX7_joiner_141 : decode cX7_joiner 141 = .ok (.iconst 0, 1) := by decide +kernel
theorem dX7_joiner_142 : decode cX7_joiner 142 = .ok (.ireturn, 1) := by decide +kernel
theorem dX7_readYearLine_0 : decode cX7_readYearLine 0 = .ok (.aload_n 0, 1) := by decide +kernel
theorem dX7_readYearLine_1 : decode cX7_readYearLine 1 = .ok (.getfield 12, 3) := by decide +kernel
theorem dX7_readYearLine_4 : decode cX7_readYearLine 4 = .ok (.ldc 195, 2) := by decide +kernel
theorem dX7_readYearLine_6 : decode cX7_readYearLine 6 = .ok (.invokevirtual 35, 3) := by decide +kernel
theorem dX7_readYearLine_9 : decode cX7_readYearLine 9 = .ok (.istore_n 3, 1) := by decide +kernel
theorem dX7_readYearLine_10 : decode cX7_readYearLine 10 = .ok (.iload_n 3, 1) := by decide +kernel
theorem dX7_readYearLine_11 : decode cX7_readYearLine 11 = .ok (.iconst (-1), 1) := by decide +kernel
theorem dX7_readYearLine_12 : decode cX7_readYearLine 12 = .ok (.if_icmp .ne 9, 3) := by decide +kernel
theorem dX7_readYearLine_15 : decode cX7_readYearLine 15 = .ok (.aload_n 0, 1) := by decide +kernel
theorem dX7_readYearLine_16 : decode cX7_readYearLine 16 = .ok (.iconst 1, 1) := by decide +kernel
theorem dX7_readYearLine_17 : decode cX7_readYearLine 17 = .ok (.invokevirtual 39, 3) := by decide +kernel
theorem dX7_readYearLine_20 : decode cX7_readYearLine 20 = .ok (.ireturn, 1) := by decide +kernel
theorem dX7_readYearLine_21 : decode cX7_readYearLine 21 = .ok (.aload_n 1, 1) := by decide +kernel
theorem dX7_readYearLine_22 : decode cX7_readYearLine 22 = .ok (.getfield 63, 3) := by decide +kernel
theorem dX7_readYearLine_25 : decode cX7_readYearLine 25 = .ok (.bipush 30, 2) := by decide +kernel
theorem dX7_readYearLine_27 : decode cX7_readYearLine 27 = .ok (.if_icmp .lt 9, 3) := by decide +kernel
theorem dX7_readYearLine_30 : decode cX7_readYearLine 30 = .ok (.aload_n 0, 1) := by decide +kernel
theorem dX7_readYearLine_31 : decode cX7_readYearLine 31 = .ok (.iconst 5, 1) := by decide +kernel
theorem dX7_readYearLine_32 : decode cX7_readYearLine 32 = .ok (.invokevirtual 39, 3) := by decide +kernel
theorem dX7_readYearLine_35 : decode cX7_readYearLine 35 = .ok (.ireturn, 1) := by decide +kernel
theorem dX7_readYearLine_36 : decode cX7_readYearLine 36 = .ok (.aload_n 0, 1) := by decide +kernel
theorem dX7_readYearLine_37 : decode cX7_readYearLine 37 = .ok (.getfield 12, 3) := by decide +kernel
theorem dX7_readYearLine_40 : decode cX7_readYearLine 40 = .ok (.invokevirtual 75, 3) := by decide +kernel
theorem dX7_readYearLine_43 : decode cX7_readYearLine 43 = .ok (.iload_n 3, 1) := by decide +kernel
theorem dX7_readYearLine_44 : decode cX7_readYearLine 44 = .ok (.iconst 3, 1) := by decide +kernel
theorem dX7_readYearLine_45 : decode cX7_readYearLine 45 = .ok (.if_icmp .ne 7, 3) := by decide +kernel
theorem dX7_readYearLine_48 : decode cX7_readYearLine 48 = .ok (.iconst 0, 1) := by decide +kernel
theorem dX7_readYearLine_49 : decode cX7_readYearLine 49 = .ok (.goto 10, 3) := by decide +kernel
theorem dX7_readYearLine_52 : decode cX7_readYearLine 52 = .ok (.aload_n 0, 1) := by decide +kernel
theorem dX7_readYearLine_53 : decode cX7_readYearLine 53 = .ok (.getfield 12, 3) := by decide +kernel
theorem dX7_readYearLine_56 : decode cX7_readYearLine 56 = .ok (.getfield 98, 3) := by decide +kernel
theorem dX7_readYearLine_59 : decode cX7_readYearLine 59 = .ok (.istore 4, 2) := by decide +kernel
theorem dX7_readYearLine_61 : decode cX7_readYearLine 61 = .ok (.iload_n 3, 1) := by decide +kernel
theorem dX7_readYearLine_62 : decode cX7_readYearLine 62 = .ok (.iconst 3, 1) := by decide +kernel
theorem dX7_readYearLine_63 : decode cX7_readYearLine 63 = .ok (.if_icmp .eq 16, 3) := by decide +kernel
theorem dX7_readYearLine_66 : decode cX7_readYearLine 66 = .ok (.aload_n 0, 1) := by decide +kernel
theorem dX7_readYearLine_67 : decode cX7_readYearLine 67 = .ok (.iconst 0, 1) := by decide +kernel
theorem dX7_readYearLine_68 : decode cX7_readYearLine 68 = .ok (.iload_n 2, 1) := by decide +kernel
theorem dX7_readYearLine_69 : decode cX7_readYearLine 69 = .ok (.iconst 1, 1) := by decide +kernel
theorem dX7_readYearLine_70 : decode cX7_readYearLine 70 = .ok (.isub, 1) := by decide +kernel
theorem dX7_readYearLine_71 : decode cX7_readYearLine 71 = .ok (.invokevirtual 101, 3) := by decide +kernel
theorem dX7_readYearLine_74 : decode cX7_readYearLine 74 = .ok (.ifCond .ne 5, 3) := by decide +kernel
theorem dX7_readYearLine_77 : decode cX7_readYearLine 77 = .ok (.iconst 0, 1) := by decide +kernel
theorem dX7_readYearLine_78 : decode cX7_readYearLine 78 = .ok (.ireturn, 1) := by decide +kernel
theorem dX7_readYearLine_79 : decode cX7_readYearLine 79 = .ok (.iload_n 3, 1) := by decide +kernel
theorem dX7_readYearLine_80 : decode cX7_readYearLine 80 = .ok (.iconst 1, 1) := by decide +kernel
theorem dX7_readYearLine_81 : decode cX7_readYearLine 81 = .ok (.if_icmp .ne 13, 3) := by decide +kernel
theorem dX7_readYearLine_84 : decode cX7_readYearLine 84 = .ok (.aload_n 0, 1) := by decide +kernel
theorem dX7_readYearLine_85 : decode cX7_readYearLine 85 = .ok (.getfield 12, 3) := by decide +kernel
theorem dX7_readYearLine_88 : decode cX7_readYearLine 88 = .ok (.getfield 98, 3) := by decide +kernel
theorem dX7_readYearLine_91 : decode cX7_readYearLine 91 = .ok (.goto 4, 3) := by decide +kernel
theorem dX7_readYearLine_94 : decode cX7_readYearLine 94 = .ok (.iconst 0, 1) := by decide +kernel
theorem dX7_readYearLine_95 : decode cX7_readYearLine 95 = .ok (.istore 5, 2) := by decide +kernel
theorem dX7_readYearLine_97 : decode cX7_readYearLine 97 = .ok (.iload_n 3, 1) := by decide +kernel
theorem dX7_readYearLine_98 : decode cX7_readYearLine 98 = .ok (.iconst 1, 1) := by decide +kernel
theorem dX7_readYearLine_99 : decode cX7_readYearLine 99 = .ok (.if_icmp .ne 15, 3) := by decide +kernel
theorem dX7_readYearLine_102 : decode cX7_readYearLine 102 = .ok (.aload_n 0, 1) := by decide +kernel
theorem dX7_readYearLine_103 : decode cX7_readYearLine 103 = .ok (.iconst 1, 1) := by decide +kernel
theorem dX7_readYearLine_104 : decode cX7_readYearLine 104 = .ok (.bipush 99, 2) := by decide +kernel
theorem dX7_readYearLine_106 : decode cX7_readYearLine 106 = .ok (.invokevirtual 101, 3) := by decide +kernel
theorem dX7_readYearLine_109 : decode cX7_readYearLine 109 = .ok (.ifCond .ne 5, 3) := by decide +kernel
theorem dX7_readYearLine_112 : decode cX7_readYearLine 112 = .ok (.iconst 0, 1) := by decide +kernel
theorem dX7_readYearLine_113 : decode cX7_readYearLine 113 = .ok (.ireturn, 1) := by decide +kernel
theorem dX7_readYearLine_114 : decode cX7_readYearLine 114 = .ok (.aload_n 1, 1) := by decide +kernel
theorem dX7_readYearLine_115 : decode cX7_readYearLine 115 = .ok (.iload_n 3, 1) := by decide +kernel
theorem dX7_readYearLine_116 : decode cX7_readYearLine 116 = .ok (.iload 4, 2) := by decide +kernel
theorem dX7_readYearLine_118 : decode cX7_readYearLine 118 = .ok (.iload 5, 2) := by decide +kernel
theorem dX7_readYearLine_120 : decode cX7_readYearLine 120 = .ok (.invokevirtual 197, 3) := by decide +kernel
theorem dX7_readYearLine_123 : decode cX7_readYearLine 123 = .ok (.aload_n 0, 1) := by decide +kernel
theorem dX7_readYearLine_124 : decode cX7_readYearLine 124 = .ok (.bipush 59, 2) := by decide +kernel
theorem dX7_readYearLine_126 : decode cX7_readYearLine 126 = .ok (.invokevirtual 109, 3) := by decide +kernel
theorem dX7_readYearLine_129 : decode cX7_readYearLine 129 = .ok (.ireturn, 1) := by decide +kernel
theorem dX7_isName_0 : decode cX7_isName 0 = .ok (.aload_n 0, 1) := by decide +kernel
theorem dX7_isName_1 : decode cX7_isName 1 = .ok (.getfield 12, 3) := by decide +kernel
theorem dX7_isName_4 : decode cX7_isName 4 = .ok (.getfield 30, 3) := by decide +kernel
theorem dX7_isName_7 : decode cX7_isName 7 = .ok (.iconst 2, 1) := by decide +kernel
theorem dX7_isName_8 : decode cX7_isName 8 = .ok (.if_icmp .ne 72, 3) := by decide +kernel
theorem dX7_isName_11 : decode cX7_isName 11 = .ok (.aload_n 0, 1) := by decide +kernel
theorem dX7_isName_12 : decode cX7_isName 12 = .ok (.getfield 12, 3) := by decide +kernel
theorem dX7_isName_15 : decode cX7_isName 15 = .ok (.ldc 33, 2) := by decide +kernel
theorem dX7_isName_17 : decode cX7_isName 17 = .ok (.invokevirtual 35, 3) := by decide +kernel
theorem dX7_isName_20 : decode cX7_isName 20 = .ok (.iconst (-1), 1) := by decide +kernel
theorem dX7_isName_21 : decode cX7_isName 21 = .ok (.if_icmp .ne 59, 3) := by decide +kernel
theorem dX7_isName_24 : decode cX7_isName 24 = .ok (.aload_n 0, 1) := by decide +kernel
theorem dX7_isName_25 : decode cX7_isName 25 = .ok (.getfield 12, 3) := by decide +kernel
theorem dX7_isName_28 : decode cX7_isName 28 = .ok (.ldc 195, 2) := by decide +kernel
theorem dX7_isName_30 : decode cX7_isName 30 = .ok (.invokevirtual 35, 3) := by decide +kernel
theorem dX7_isName_33 : decode cX7_isName 33 = .ok (.iconst (-1), 1) := by decide +kernel
theorem dX7_isName_34 : decode cX7_isName 34 = .ok (.if_icmp .ne 46, 3) := by decide +kernel
theorem dX7_isName_37 : decode cX7_isName 37 = .ok (.aload_n 0, 1) := by decide +kernel
theorem dX7_isName_38 : decode cX7_isName 38 = .ok (.getfield 12, 3) := by decide +kernel
theorem dX7_isName_41 : decode cX7_isName 41 = .ok (.ldc 90, 2) := by decide +kernel
theorem dX7_isName_43 : decode cX7_isName 43 = .ok (.invokevirtual 35, 3) := by decide +kernel
theorem dX7_isName_46 : decode cX7_isName 46 = .ok (.iconst (-1), 1) := by decide +kernel
theorem dX7_isName_47 : decode cX7_isName 47 = .ok (.if_icmp .ne 33, 3) := by decide +kernel
theorem dX7_isName_50 : decode cX7_isName 50 = .ok (.aload_n 0, 1) := by decide +kernel
theorem dX7_isName_51 : decode cX7_isName 51 = .ok (.getfield 12, 3) := by decide +kernel
theorem dX7_isName_54 : decode cX7_isName 54 = .ok (.ldc 200, 2) := by decide +kernel
theorem dX7_isName_56 : decode cX7_isName 56 = .ok (.invokevirtual 35, 3) := by decide +kernel
theorem dX7_isName_59 : decode cX7_isName 59 = .ok (.iconst (-1), 1) := by decide +kernel
theorem dX7_isName_60 : decode cX7_isName 60 = .ok (.if_icmp .ne 20, 3) := by decide +kernel
theorem dX7_isName_63 : decode cX7_isName 63 = .ok (.aload_n 0, 1) := by decide +kernel
theorem dX7_isName_64 : decode cX7_isName 64 = .ok (.getfield 12, 3) := by decide +kernel
theorem dX7_isName_67 : decode cX7_isName 67 = .ok (.ldc 202, 2) := by decide +kernel
theorem dX7_isName_69 : decode cX7_isName 69 = .ok (.invokevirtual 35, 3) := by decide +kernel
theorem dX7_isName_72 : decode cX7_isName 72 = .ok (.iconst (-1), 1) := by decide +kernel
theorem dX7_isName_73 : decode cX7_isName 73 = .ok (.if_icmp .ne 7, 3) := by decide +kernel
theorem dX7_isName_76 : decode cX7_isName 76 = .ok (.iconst 1, 1) := by decide +kernel
theorem dX7_isName_77 : decode cX7_isName 77 = .ok (.goto 4, 3) := by decide +kernel
theorem dX7_isName_80 : decode cX7_isName 80 = .ok (.iconst 0, 1) := by decide +kernel
theorem dX7_isName_81 : decode cX7_isName 81 = .ok (.ireturn, 1) := by decide +kernel
theorem dX7_passDoor_0 : decode cX7_passDoor 0 = .ok (.aload_n 0, 1) := by decide +kernel
theorem dX7_passDoor_1 : decode cX7_passDoor 1 = .ok (.invokevirtual 78, 3) := by decide +kernel
theorem dX7_passDoor_4 : decode cX7_passDoor 4 = .ok (.ifCond .ne 9, 3) := by decide +kernel
theorem dX7_passDoor_7 : decode cX7_passDoor 7 = .ok (.aload_n 0, 1) := by decide +kernel
theorem dX7_passDoor_8 : decode cX7_passDoor 8 = .ok (.iconst 1, 1) := by decide +kernel
theorem dX7_passDoor_9 : decode cX7_passDoor 9 = .ok (.invokevirtual 39, 3) := by decide +kernel
theorem dX7_passDoor_12 : decode cX7_passDoor 12 = .ok (.ireturn, 1) := by decide +kernel
theorem dX7_passDoor_13 : decode cX7_passDoor 13 = .ok (.aload_n 1, 1) := by decide +kernel
theorem dX7_passDoor_14 : decode cX7_passDoor 14 = .ok (.aload_n 0, 1) := by decide +kernel
theorem dX7_passDoor_15 : decode cX7_passDoor 15 = .ok (.getfield 12, 3) := by decide +kernel
theorem dX7_passDoor_18 : decode cX7_passDoor 18 = .ok (.getfield 82, 3) := by decide +kernel
theorem dX7_passDoor_21 : decode cX7_passDoor 21 = .ok (.invokevirtual 86, 3) := by decide +kernel
theorem dX7_passDoor_24 : decode cX7_passDoor 24 = .ok (.istore_n 3, 1) := by decide +kernel
theorem dX7_passDoor_25 : decode cX7_passDoor 25 = .ok (.iload_n 3, 1) := by decide +kernel
theorem dX7_passDoor_26 : decode cX7_passDoor 26 = .ok (.iconst (-1), 1) := by decide +kernel
theorem dX7_passDoor_27 : decode cX7_passDoor 27 = .ok (.if_icmp .ne 9, 3) := by decide +kernel
theorem dX7_passDoor_30 : decode cX7_passDoor 30 = .ok (.aload_n 0, 1) := by decide +kernel
theorem dX7_passDoor_31 : decode cX7_passDoor 31 = .ok (.iconst 2, 1) := by decide +kernel
theorem dX7_passDoor_32 : decode cX7_passDoor 32 = .ok (.invokevirtual 39, 3) := by decide +kernel
theorem dX7_passDoor_35 : decode cX7_passDoor 35 = .ok (.ireturn, 1) := by decide +kernel
theorem dX7_passDoor_36 : decode cX7_passDoor 36 = .ok (.iload_n 3, 1) := by decide +kernel
theorem dX7_passDoor_37 : decode cX7_passDoor 37 = .ok (.iload_n 2, 1) := by decide +kernel
theorem dX7_passDoor_38 : decode cX7_passDoor 38 = .ok (.if_icmp .ne 9, 3) := by decide +kernel
theorem dX7_passDoor_41 : decode cX7_passDoor 41 = .ok (.aload_n 0, 1) := by decide +kernel
theorem dX7_passDoor_42 : decode cX7_passDoor 42 = .ok (.iconst 3, 1) := by decide +kernel
theorem dX7_passDoor_43 : decode cX7_passDoor 43 = .ok (.invokevirtual 39, 3) := by decide +kernel
theorem dX7_passDoor_46 : decode cX7_passDoor 46 = .ok (.ireturn, 1) := by decide +kernel
theorem dX7_passDoor_47 : decode cX7_passDoor 47 = .ok (.aload_n 0, 1) := by decide +kernel
theorem dX7_passDoor_48 : decode cX7_passDoor 48 = .ok (.getfield 12, 3) := by decide +kernel
theorem dX7_passDoor_51 : decode cX7_passDoor 51 = .ok (.invokevirtual 75, 3) := by decide +kernel
theorem dX7_passDoor_54 : decode cX7_passDoor 54 = .ok (.iconst 1, 1) := by decide +kernel
theorem dX7_passDoor_55 : decode cX7_passDoor 55 = .ok (.ireturn, 1) := by decide +kernel
theorem dX7_pass_0 : decode cX7_pass 0 = .ok (.aload_n 0, 1) := by decide +kernel
theorem dX7_pass_1 : decode cX7_pass 1 = .ok (.getfield 12, 3) := by decide +kernel
theorem dX7_pass_4 : decode cX7_pass 4 = .ok (.aload_n 1, 1) := by decide +kernel
theorem dX7_pass_5 : decode cX7_pass 5 = .ok (.invokevirtual 35, 3) := by decide +kernel
theorem dX7_pass_8 : decode cX7_pass 8 = .ok (.iconst (-1), 1) := by decide +kernel
theorem dX7_pass_9 : decode cX7_pass 9 = .ok (.if_icmp .ne 9, 3) := by decide +kernel
theorem dX7_pass_12 : decode cX7_pass 12 = .ok (.aload_n 0, 1) := by decide +kernel
theorem dX7_pass_13 : decode cX7_pass 13 = .ok (.iconst 1, 1) := by decide +kernel
theorem dX7_pass_14 : decode cX7_pass 14 = .ok (.invokevirtual 39, 3) := by decide +kernel
theorem dX7_pass_17 : decode cX7_pass 17 = .ok (.ireturn, 1) := by decide +kernel
theorem dX7_pass_18 : decode cX7_pass 18 = .ok (.aload_n 0, 1) := by decide +kernel
theorem dX7_pass_19 : decode cX7_pass 19 = .ok (.getfield 12, 3) := by decide +kernel
theorem dX7_pass_22 : decode cX7_pass 22 = .ok (.invokevirtual 75, 3) := by decide +kernel
theorem dX7_pass_25 : decode cX7_pass 25 = .ok (.iconst 1, 1) := by decide +kernel
theorem dX7_pass_26 : decode cX7_pass 26 = .ok (.ireturn, 1) := by decide +kernel
theorem dX7_passSign_0 : decode cX7_passSign 0 = .ok (.aload_n 0, 1) := by decide +kernel
theorem dX7_passSign_1 : decode cX7_passSign 1 = .ok (.getfield 12, 3) := by decide +kernel
theorem dX7_passSign_4 : decode cX7_passSign 4 = .ok (.iload_n 1, 1) := by decide +kernel
theorem dX7_passSign_5 : decode cX7_passSign 5 = .ok (.invokevirtual 188, 3) := by decide +kernel
theorem dX7_passSign_8 : decode cX7_passSign 8 = .ok (.ifCond .ne 9, 3) := by decide +kernel
theorem dX7_passSign_11 : decode cX7_passSign 11 = .ok (.aload_n 0, 1) := by decide +kernel
theorem dX7_passSign_12 : decode cX7_passSign 12 = .ok (.iconst 1, 1) := by decide +kernel
theorem dX7_passSign_13 : decode cX7_passSign 13 = .ok (.invokevirtual 39, 3) := by decide +kernel
theorem dX7_passSign_16 : decode cX7_passSign 16 = .ok (.ireturn, 1) := by decide +kernel
theorem dX7_passSign_17 : decode cX7_passSign 17 = .ok (.aload_n 0, 1) := by decide +kernel
theorem dX7_passSign_18 : decode cX7_passSign 18 = .ok (.getfield 12, 3) := by decide +kernel
theorem dX7_passSign_21 : decode cX7_passSign 21 = .ok (.invokevirtual 75, 3) := by decide +kernel
theorem dX7_passSign_24 : decode cX7_passSign 24 = .ok (.iconst 1, 1) := by decide +kernel
theorem dX7_passSign_25 : decode cX7_passSign 25 = .ok (.ireturn, 1) := by decide +kernel
theorem dX7_passNumber_0 : decode cX7_passNumber 0 = .ok (.aload_n 0, 1) := by decide +kernel
theorem dX7_passNumber_1 : decode cX7_passNumber 1 = .ok (.getfield 12, 3) := by decide +kernel
theorem dX7_passNumber_4 : decode cX7_passNumber 4 = .ok (.getfield 30, 3) := by decide +kernel
theorem dX7_passNumber_7 : decode cX7_passNumber 7 = .ok (.iconst 3, 1) := by decide +kernel
theorem dX7_passNumber_8 : decode cX7_passNumber 8 = .ok (.if_icmp .eq 9, 3) := by decide +kernel
theorem dX7_passNumber_11 : decode cX7_passNumber 11 = .ok (.aload_n 0, 1) := by decide +kernel
theorem dX7_passNumber_12 : decode cX7_passNumber 12 = .ok (.iconst 1, 1) := by decide +kernel
theorem dX7_passNumber_13 : decode cX7_passNumber 13 = .ok (.invokevirtual 39, 3) := by decide +kernel
theorem dX7_passNumber_16 : decode cX7_passNumber 16 = .ok (.ireturn, 1) := by decide +kernel
theorem dX7_passNumber_17 : decode cX7_passNumber 17 = .ok (.aload_n 0, 1) := by decide +kernel
theorem dX7_passNumber_18 : decode cX7_passNumber 18 = .ok (.getfield 12, 3) := by decide +kernel
theorem dX7_passNumber_21 : decode cX7_passNumber 21 = .ok (.getfield 98, 3) := by decide +kernel
theorem dX7_passNumber_24 : decode cX7_passNumber 24 = .ok (.iload_n 1, 1) := by decide +kernel
theorem dX7_passNumber_25 : decode cX7_passNumber 25 = .ok (.iload_n 2, 1) := by decide +kernel
theorem dX7_passNumber_26 : decode cX7_passNumber 26 = .ok (.invokestatic 204, 3) := by decide +kernel
theorem dX7_passNumber_29 : decode cX7_passNumber 29 = .ok (.ifCond .ne 9, 3) := by decide +kernel
theorem dX7_passNumber_32 : decode cX7_passNumber 32 = .ok (.aload_n 0, 1) := by decide +kernel
theorem dX7_passNumber_33 : decode cX7_passNumber 33 = .ok (.iconst 4, 1) := by decide +kernel
theorem dX7_passNumber_34 : decode cX7_passNumber 34 = .ok (.invokevirtual 39, 3) := by decide +kernel
theorem dX7_passNumber_37 : decode cX7_passNumber 37 = .ok (.ireturn, 1) := by decide +kernel
theorem dX7_passNumber_38 : decode cX7_passNumber 38 = .ok (.aload_n 0, 1) := by decide +kernel
theorem dX7_passNumber_39 : decode cX7_passNumber 39 = .ok (.getfield 12, 3) := by decide +kernel
theorem dX7_passNumber_42 : decode cX7_passNumber 42 = .ok (.invokevirtual 75, 3) := by decide +kernel
theorem dX7_passNumber_45 : decode cX7_passNumber 45 = .ok (.iconst 1, 1) := by decide +kernel
theorem dX7_passNumber_46 : decode cX7_passNumber 46 = .ok (.ireturn, 1) := by decide +kernel
theorem dX7_fail_0 : decode cX7_fail 0 = .ok (.aload_n 0, 1) := by decide +kernel
theorem dX7_fail_1 : decode cX7_fail 1 = .ok (.iload_n 1, 1) := by decide +kernel
theorem dX7_fail_2 : decode cX7_fail 2 = .ok (.bipush 16, 2) := by decide +kernel
theorem dX7_fail_4 : decode cX7_fail 4 = .ok (.aload_n 0, 1) := by decide +kernel
theorem dX7_fail_5 : decode cX7_fail 5 = .ok (.getfield 12, 3) := by decide +kernel
theorem dX7_fail_8 : decode cX7_fail 8 = .ok (.getfield 208, 3) := by decide +kernel
theorem dX7_fail_11 : decode cX7_fail 11 = .ok (.imul, 1) := by decide +kernel
theorem dX7_fail_12 : decode cX7_fail 12 = .ok (.iadd, 1) := by decide +kernel
theorem dX7_fail_13 : decode cX7_fail 13 = .ok (.putfield 23, 3) := by decide +kernel
theorem dX7_fail_16 : decode cX7_fail 16 = .ok (.iconst 0, 1) := by decide +kernel
theorem dX7_fail_17 : decode cX7_fail 17 = .ok (.ireturn, 1) := by decide +kernel
theorem dX8_init_0 : decode cX8_init 0 = .ok (.aload_n 0, 1) := by decide +kernel
theorem dX8_init_1 : decode cX8_init 1 = .ok (.invokespecial 3, 3) := by decide +kernel
theorem dX8_init_4 : decode cX8_init 4 = .ok (.aload_n 0, 1) := by decide +kernel
theorem dX8_init_5 : decode cX8_init 5 = .ok (.bipush 6, 2) := by decide +kernel
theorem dX8_init_7 : decode cX8_init 7 = .ok (.newarray .long, 2) := by decide +kernel
theorem dX8_init_9 : decode cX8_init 9 = .ok (.putfield 9, 3) := by decide +kernel
theorem dX8_init_12 : decode cX8_init 12 = .ok (.aload_n 0, 1) := by decide +kernel
theorem dX8_init_13 : decode cX8_init 13 = .ok (.bipush 6, 2) := by decide +kernel
theorem dX8_init_15 : decode cX8_init 15 = .ok (.newarray .int, 2) := by decide +kernel
theorem dX8_init_17 : decode cX8_init 17 = .ok (.putfield 15, 3) := by decide +kernel
theorem dX8_init_20 : decode cX8_init 20 = .ok (.aload_n 0, 1) := by decide +kernel
theorem dX8_init_21 : decode cX8_init 21 = .ok (.bipush 6, 2) := by decide +kernel
theorem dX8_init_23 : decode cX8_init 23 = .ok (.newarray .int, 2) := by decide +kernel
theorem dX8_init_25 : decode cX8_init 25 = .ok (.putfield 19, 3) := by decide +kernel
theorem dX8_init_28 : decode cX8_init 28 = .ok (.aload_n 0, 1) := by decide +kernel
theorem dX8_init_29 : decode cX8_init 29 = .ok (.bipush 8, 2) := by decide +kernel
theorem dX8_init_31 : decode cX8_init 31 = .ok (.newarray .int, 2) := by decide +kernel
theorem dX8_init_33 : decode cX8_init 33 = .ok (.putfield 22, 3) := by decide +kernel
theorem dX8_init_36 : decode cX8_init 36 = .ok (.aload_n 0, 1) := by decide +kernel
theorem dX8_init_37 : decode cX8_init 37 = .ok (.bipush 8, 2) := by decide +kernel
theorem dX8_init_39 : decode cX8_init 39 = .ok (.newarray .int, 2) := by decide +kernel
theorem dX8_init_41 : decode cX8_init 41 = .ok (.putfield 25, 3) := by decide +kernel
theorem dX8_init_44 : decode cX8_init 44 = .ok (.aload_n 0, 1) := by decide +kernel
theorem dX8_init_45 : decode cX8_init 45 = .ok (.bipush 8, 2) := by decide +kernel
theorem dX8_init_47 : decode cX8_init 47 = .ok (.newarray .int, 2) := by decide +kernel
theorem dX8_init_49 : decode cX8_init 49 = .ok (.putfield 28, 3) := by decide +kernel
theorem dX8_init_52 : decode cX8_init 52 = .ok (.aload_n 0, 1) := by decide +kernel
theorem dX8_init_53 : decode cX8_init 53 = .ok (.new 31, 3) := by decide +kernel
theorem dX8_init_56 : decode cX8_init 56 = .ok (.dup, 1) := by decide +kernel
theorem dX8_init_57 : decode cX8_init 57 = .ok (.invokespecial 33, 3) := by decide +kernel
theorem dX8_init_60 : decode cX8_init 60 = .ok (.putfield 34, 3) := by decide +kernel
theorem dX8_init_63 : decode cX8_init 63 = .ok (.aload_n 0, 1) := by decide +kernel
theorem dX8_init_64 : decode cX8_init 64 = .ok (.new 38, 3) := by decide +kernel
theorem dX8_init_67 : decode cX8_init 67 = .ok (.dup, 1) := by decide +kernel
theorem dX8_init_68 : decode cX8_init 68 = .ok (.invokespecial 40, 3) := by decide +kernel
theorem dX8_init_71 : decode cX8_init 71 = .ok (.putfield 41, 3) := by decide +kernel
theorem dX8_init_74 : decode cX8_init 74 = .ok (.return_, 1) := by decide +kernel
theorem dX8_clear_0 : decode cX8_clear 0 = .ok (.aload_n 0, 1) := by decide +kernel
theorem dX8_clear_1 : decode cX8_clear 1 = .ok (.iconst 0, 1) := by decide +kernel
theorem dX8_clear_2 : decode cX8_clear 2 = .ok (.putfield 45, 3) := by decide +kernel
theorem dX8_clear_5 : decode cX8_clear 5 = .ok (.aload_n 0, 1) := by decide +kernel
theorem dX8_clear_6 : decode cX8_clear 6 = .ok (.iconst 0, 1) := by decide +kernel
theorem dX8_clear_7 : decode cX8_clear 7 = .ok (.putfield 49, 3) := by decide +kernel
theorem dX8_clear_10 : decode cX8_clear 10 = .ok (.aload_n 0, 1) := by decide +kernel
theorem dX8_clear_11 : decode cX8_clear 11 = .ok (.iconst 3, 1) := by decide +kernel
theorem dX8_clear_12 : decode cX8_clear 12 = .ok (.putfield 52, 3) := by decide +kernel
theorem dX8_clear_15 : decode cX8_clear 15 = .ok (.aload_n 0, 1) := by decide +kernel
theorem dX8_clear_16 : decode cX8_clear 16 = .ok (.iconst 0, 1) := by decide +kernel
theorem dX8_clear_17 : decode cX8_clear 17 = .ok (.putfield 55, 3) := by decide +kernel
theorem dX8_clear_20 : decode cX8_clear 20 = .ok (.aload_n 0, 1) := by decide +kernel
theorem dX8_clear_21 : decode cX8_clear 21 = .ok (.iconst 0, 1) := by decide +kernel
theorem dX8_clear_22 : decode cX8_clear 22 = .ok (.putfield 58, 3) := by decide +kernel
theorem dX8_clear_25 : decode cX8_clear 25 = .ok (.aload_n 0, 1) := by decide +kernel
theorem dX8_clear_26 : decode cX8_clear 26 = .ok (.getfield 34, 3) := by decide +kernel
theorem dX8_clear_29 : decode cX8_clear 29 = .ok (.invokevirtual 61, 3) := by decide +kernel
theorem dX8_clear_32 : decode cX8_clear 32 = .ok (.aload_n 0, 1) := by decide +kernel
theorem dX8_clear_33 : decode cX8_clear 33 = .ok (.getfield 41, 3) := by decide +kernel
theorem dX8_clear_36 : decode cX8_clear 36 = .ok (.invokevirtual 64, 3) := by decide +kernel
theorem dX8_clear_39 : decode cX8_clear 39 = .ok (.return_, 1) := by decide +kernel
theorem dX8_addPerson_0 : decode cX8_addPerson 0 = .ok (.aload_n 0, 1) := by decide +kernel
theorem dX8_addPerson_1 : decode cX8_addPerson 1 = .ok (.getfield 45, 3) := by decide +kernel
theorem dX8_addPerson_4 : decode cX8_addPerson 4 = .ok (.bipush 6, 2) := by decide +kernel
theorem dX8_addPerson_6 : decode cX8_addPerson 6 = .ok (.if_icmp .ge 44, 3) := by decide +kernel
theorem dX8_addPerson_9 : decode cX8_addPerson 9 = .ok (.aload_n 0, 1) := by decide +kernel
theorem dX8_addPerson_10 : decode cX8_addPerson 10 = .ok (.getfield 9, 3) := by decide +kernel
theorem dX8_addPerson_13 : decode cX8_addPerson 13 = .ok (.aload_n 0, 1) := by decide +kernel
theorem dX8_addPerson_14 : decode cX8_addPerson 14 = .ok (.getfield 45, 3) := by decide +kernel
theorem dX8_addPerson_17 : decode cX8_addPerson 17 = .ok (.lload_n 1, 1) := by decide +kernel
theorem dX8_addPerson_18 : decode cX8_addPerson 18 = .ok (.lastore, 1) := by decide +kernel
theorem dX8_addPerson_19 : decode cX8_addPerson 19 = .ok (.aload_n 0, 1) := by decide +kernel
theorem dX8_addPerson_20 : decode cX8_addPerson 20 = .ok (.getfield 15, 3) := by decide +kernel
theorem dX8_addPerson_23 : decode cX8_addPerson 23 = .ok (.aload_n 0, 1) := by decide +kernel
theorem dX8_addPerson_24 : decode cX8_addPerson 24 = .ok (.getfield 45, 3) := by decide +kernel
theorem dX8_addPerson_27 : decode cX8_addPerson 27 = .ok (.iload_n 3, 1) := by decide +kernel
theorem dX8_addPerson_28 : decode cX8_addPerson 28 = .ok (.iastore, 1) := by decide +kernel
theorem dX8_addPerson_29 : decode cX8_addPerson 29 = .ok (.aload_n 0, 1) := by decide +kernel
theorem dX8_addPerson_30 : decode cX8_addPerson 30 = .ok (.getfield 19, 3) := by decide +kernel
theorem dX8_addPerson_33 : decode cX8_addPerson 33 = .ok (.aload_n 0, 1) := by decide +kernel
theorem dX8_addPerson_34 : decode cX8_addPerson 34 = .ok (.getfield 45, 3) := by decide +kernel
theorem dX8_addPerson_37 : decode cX8_addPerson 37 = .ok (.iload 4, 2) := by decide +kernel
theorem dX8_addPerson_39 : decode cX8_addPerson 39 = .ok (.iastore, 1) := by decide +kernel
theorem dX8_addPerson_40 : decode cX8_addPerson 40 = .ok (.aload_n 0, 1) := by decide +kernel
theorem dX8_addPerson_41 : decode cX8_addPerson 41 = .ok (.dup, 1) := by decide +kernel
theorem dX8_addPerson_42 : decode cX8_addPerson 42 = .ok (.getfield 45, 3) := by decide +kernel
theorem dX8_addPerson_45 : decode cX8_addPerson 45 = .ok (.iconst 1, 1) := by decide +kernel
theorem dX8_addPerson_46 : decode cX8_addPerson 46 = .ok (.iadd, 1) := by decide +kernel
theorem dX8_addPerson_47 : decode cX8_addPerson 47 = .ok (.putfield 45, 3) := by decide +kernel
theorem dX8_addPerson_50 : decode cX8_addPerson 50 = .ok (.return_, 1) := by decide +kernel
theorem dX8_addWrong_0 : decode cX8_addWrong 0 = .ok (.aload_n 0, 1) := by decide +kernel
theorem dX8_addWrong_1 : decode cX8_addWrong 1 = .ok (.getfield 49, 3) := by decide +kernel
theorem dX8_addWrong_4 : decode cX8_addWrong 4 = .ok (.bipush 8, 2) := by decide +kernel
theorem dX8_addWrong_6 : decode cX8_addWrong 6 = .ok (.if_icmp .ge 43, 3) := by decide +kernel
theorem dX8_addWrong_9 : decode cX8_addWrong 9 = .ok (.aload_n 0, 1) := by decide +kernel
theorem dX8_addWrong_10 : decode cX8_addWrong 10 = .ok (.getfield 22, 3) := by decide +kernel
theorem dX8_addWrong_13 : decode cX8_addWrong 13 = .ok (.aload_n 0, 1) := by decide +kernel
theorem dX8_addWrong_14 : decode cX8_addWrong 14 = .ok (.getfield 49, 3) := by decide +kernel
theorem dX8_addWrong_17 : decode cX8_addWrong 17 = .ok (.iload_n 1, 1) := by decide +kernel
theorem dX8_addWrong_18 : decode cX8_addWrong 18 = .ok (.iastore, 1) := by decide +kernel
theorem dX8_addWrong_19 : decode cX8_addWrong 19 = .ok (.aload_n 0, 1) := by decide +kernel
theorem dX8_addWrong_20 : decode cX8_addWrong 20 = .ok (.getfield 25, 3) := by decide +kernel
theorem dX8_addWrong_23 : decode cX8_addWrong 23 = .ok (.aload_n 0, 1) := by decide +kernel
theorem dX8_addWrong_24 : decode cX8_addWrong 24 = .ok (.getfield 49, 3) := by decide +kernel
theorem dX8_addWrong_27 : decode cX8_addWrong 27 = .ok (.iload_n 2, 1) := by decide +kernel
theorem dX8_addWrong_28 : decode cX8_addWrong 28 = .ok (.iastore, 1) := by decide +kernel
theorem dX8_addWrong_29 : decode cX8_addWrong 29 = .ok (.aload_n 0, 1) := by decide +kernel
theorem dX8_addWrong_30 : decode cX8_addWrong 30 = .ok (.getfield 28, 3) := by decide +kernel
theorem dX8_addWrong_33 : decode cX8_addWrong 33 = .ok (.aload_n 0, 1) := by decide +kernel
theorem dX8_addWrong_34 : decode cX8_addWrong 34 = .ok (.getfield 49, 3) := by decide +kernel
theorem dX8_addWrong_37 : decode cX8_addWrong 37 = .ok (.iload_n 3, 1) := by decide +kernel
theorem dX8_addWrong_38 : decode cX8_addWrong 38 = .ok (.iastore, 1) := by decide +kernel
theorem dX8_addWrong_39 : decode cX8_addWrong 39 = .ok (.aload_n 0, 1) := by decide +kernel
theorem dX8_addWrong_40 : decode cX8_addWrong 40 = .ok (.dup, 1) := by decide +kernel
theorem dX8_addWrong_41 : decode cX8_addWrong 41 = .ok (.getfield 49, 3) := by decide +kernel
theorem dX8_addWrong_44 : decode cX8_addWrong 44 = .ok (.iconst 1, 1) := by decide +kernel
theorem dX8_addWrong_45 : decode cX8_addWrong 45 = .ok (.iadd, 1) := by decide +kernel
theorem dX8_addWrong_46 : decode cX8_addWrong 46 = .ok (.putfield 49, 3) := by decide +kernel
theorem dX8_addWrong_49 : decode cX8_addWrong 49 = .ok (.return_, 1) := by decide +kernel
theorem dX8_personNamed_0 : decode cX8_personNamed 0 = .ok (.iconst 0, 1) := by decide +kernel
theorem dX8_personNamed_1 : decode cX8_personNamed 1 = .ok (.istore_n 3, 1) := by decide +kernel
theorem dX8_personNamed_2 : decode cX8_personNamed 2 = .ok (.iload_n 3, 1) := by decide +kernel
theorem dX8_personNamed_3 : decode cX8_personNamed 3 = .ok (.aload_n 0, 1) := by decide +kernel
theorem dX8_personNamed_4 : decode cX8_personNamed 4 = .ok (.getfield 45, 3) := by decide +kernel
theorem dX8_personNamed_7 : decode cX8_personNamed 7 = .ok (.if_icmp .ge 22, 3) := by decide +kernel
theorem dX8_personNamed_10 : decode cX8_personNamed 10 = .ok (.aload_n 0, 1) := by decide +kernel
theorem dX8_personNamed_11 : decode cX8_personNamed 11 = .ok (.getfield 9, 3) := by decide +kernel
theorem dX8_personNamed_14 : decode cX8_personNamed 14 = .ok (.iload_n 3, 1) := by decide +kernel
theorem dX8_personNamed_15 : decode cX8_personNamed 15 = .ok (.laload, 1) := by decide +kernel
theorem dX8_personNamed_16 : decode cX8_personNamed 16 = .ok (.lload_n 1, 1) := by decide +kernel
theorem dX8_personNamed_17 : decode cX8_personNamed 17 = .ok (.lcmp, 1) := by decide +kernel
theorem dX8_personNamed_18 : decode cX8_personNamed 18 = .ok (.ifCond .ne 5, 3) := by decide +kernel
theorem dX8_personNamed_21 : decode cX8_personNamed 21 = .ok (.iload_n 3, 1) := by decide +kernel
theorem dX8_personNamed_22 : decode cX8_personNamed 22 = .ok (.ireturn, 1) := by decide +kernel
theorem dX8_personNamed_23 : decode cX8_personNamed 23 = .ok (.iinc 3 1, 3) := by decide +kernel
theorem dX8_personNamed_26 : decode cX8_personNamed 26 = .ok (.goto (-24), 3) := by decide +kernel
theorem dX8_personNamed_29 : decode cX8_personNamed 29 = .ok (.iconst (-1), 1) := by decide +kernel
theorem dX8_personNamed_30 : decode cX8_personNamed 30 = .ok (.ireturn, 1) := by decide +kernel
theorem dX8_hasPerson_0 : decode cX8_hasPerson 0 = .ok (.iload_n 1, 1) := by decide +kernel
theorem dX8_hasPerson_1 : decode cX8_hasPerson 1 = .ok (.iconst 0, 1) := by decide +kernel
theorem dX8_hasPerson_2 : decode cX8_hasPerson 2 = .ok (.aload_n 0, 1) := by decide +kernel
theorem dX8_hasPerson_3 : decode cX8_hasPerson 3 = .ok (.getfield 45, 3) := by decide +kernel
theorem dX8_hasPerson_6 : decode cX8_hasPerson 6 = .ok (.iconst 1, 1) := by decide +kernel
theorem dX8_hasPerson_7 : decode cX8_hasPerson 7 = .ok (.isub, 1) := by decide +kernel
theorem dX8_hasPerson_8 : decode cX8_hasPerson 8 = .ok (.invokestatic 65, 3) := by decide +kernel
theorem dX8_hasPerson_11 : decode cX8_hasPerson 11 = .ok (.ireturn, 1) := by decide +kernel
theorem dX8_hasTwoDoors_0 : decode cX8_hasTwoDoors 0 = .ok (.aload_n 0, 1) := by decide +kernel
theorem dX8_hasTwoDoors_1 : decode cX8_hasTwoDoors 1 = .ok (.iload_n 1, 1) := by decide +kernel
theorem dX8_hasTwoDoors_2 : decode cX8_hasTwoDoors 2 = .ok (.invokevirtual 69, 3) := by decide +kernel
theorem dX8_hasTwoDoors_5 : decode cX8_hasTwoDoors 5 = .ok (.ifCond .eq 20, 3) := by decide +kernel
theorem dX8_hasTwoDoors_8 : decode cX8_hasTwoDoors 8 = .ok (.aload_n 0, 1) := by decide +kernel
theorem dX8_hasTwoDoors_9 : decode cX8_hasTwoDoors 9 = .ok (.iload_n 2, 1) := by decide +kernel
theorem dX8_hasTwoDoors_10 : decode cX8_hasTwoDoors 10 = .ok (.invokevirtual 69, 3) := by decide +kernel
theorem dX8_hasTwoDoors_13 : decode cX8_hasTwoDoors 13 = .ok (.ifCond .eq 12, 3) := by decide +kernel
theorem dX8_hasTwoDoors_16 : decode cX8_hasTwoDoors 16 = .ok (.iload_n 1, 1) := by decide +kernel
theorem dX8_hasTwoDoors_17 : decode cX8_hasTwoDoors 17 = .ok (.iload_n 2, 1) := by decide +kernel
theorem dX8_hasTwoDoors_18 : decode cX8_hasTwoDoors 18 = .ok (.if_icmp .eq 7, 3) := by decide +kernel
theorem dX8_hasTwoDoors_21 : decode cX8_hasTwoDoors 21 = .ok (.iconst 1, 1) := by decide +kernel
theorem dX8_hasTwoDoors_22 : decode cX8_hasTwoDoors 22 = .ok (.goto 4, 3) := by decide +kernel
theorem dX8_hasTwoDoors_25 : decode cX8_hasTwoDoors 25 = .ok (.iconst 0, 1) := by decide +kernel
theorem dX8_hasTwoDoors_26 : decode cX8_hasTwoDoors 26 = .ok (.ireturn, 1) := by decide +kernel
theorem dX8_hasWrong_0 : decode cX8_hasWrong 0 = .ok (.iload_n 1, 1) := by decide +kernel
theorem dX8_hasWrong_1 : decode cX8_hasWrong 1 = .ok (.iconst 0, 1) := by decide +kernel
theorem dX8_hasWrong_2 : decode cX8_hasWrong 2 = .ok (.aload_n 0, 1) := by decide +kernel
theorem dX8_hasWrong_3 : decode cX8_hasWrong 3 = .ok (.getfield 49, 3) := by decide +kernel
theorem dX8_hasWrong_6 : decode cX8_hasWrong 6 = .ok (.iconst 1, 1) := by decide +kernel
theorem dX8_hasWrong_7 : decode cX8_hasWrong 7 = .ok (.isub, 1) := by decide +kernel
theorem dX8_hasWrong_8 : decode cX8_hasWrong 8 = .ok (.invokestatic 65, 3) := by decide +kernel
theorem dX8_hasWrong_11 : decode cX8_hasWrong 11 = .ok (.ireturn, 1) := by decide +kernel
theorem dX8_barOf_0 : decode cX8_barOf 0 = .ok (.aload_n 0, 1) := by decide +kernel
theorem dX8_barOf_1 : decode cX8_barOf 1 = .ok (.getfield 15, 3) := by decide +kernel
theorem dX8_barOf_4 : decode cX8_barOf 4 = .ok (.aload_n 0, 1) := by decide +kernel
theorem dX8_barOf_5 : decode cX8_barOf 5 = .ok (.getfield 25, 3) := by decide +kernel
theorem dX8_barOf_8 : decode cX8_barOf 8 = .ok (.iload_n 1, 1) := by decide +kernel
theorem dX8_barOf_9 : decode cX8_barOf 9 = .ok (.iaload, 1) := by decide +kernel
theorem dX8_barOf_10 : decode cX8_barOf 10 = .ok (.iaload, 1) := by decide +kernel
theorem dX8_barOf_11 : decode cX8_barOf 11 = .ok (.iconst 2, 1) := by decide +kernel
theorem dX8_barOf_12 : decode cX8_barOf 12 = .ok (.if_icmp .ne 12, 3) := by decide +kernel
theorem dX8_barOf_15 : decode cX8_barOf 15 = .ok (.aload_n 0, 1) := by decide +kernel
theorem dX8_barOf_16 : decode cX8_barOf 16 = .ok (.getfield 52, 3) := by decide +kernel
theorem dX8_barOf_19 : decode cX8_barOf 19 = .ok (.iconst 3, 1) := by decide +kernel
theorem dX8_barOf_20 : decode cX8_barOf 20 = .ok (.iadd, 1) := by decide +kernel
theorem dX8_barOf_21 : decode cX8_barOf 21 = .ok (.goto 7, 3) := by decide +kernel
theorem dX8_barOf_24 : decode cX8_barOf 24 = .ok (.aload_n 0, 1) := by decide +kernel
theorem dX8_barOf_25 : decode cX8_barOf 25 = .ok (.getfield 52, 3) := by decide +kernel
theorem dX8_barOf_28 : decode cX8_barOf 28 = .ok (.ireturn, 1) := by decide +kernel
theorem dX8_soreBehindWords_0 : decode cX8_soreBehindWords 0 = .ok (.aload_n 0, 1) := by decide +kernel
theorem dX8_soreBehindWords_1 : decode cX8_soreBehindWords 1 = .ok (.getfield 34, 3) := by decide +kernel
theorem dX8_soreBehindWords_4 : decode cX8_soreBehindWords 4 = .ok (.iconst 0, 1) := by decide +kernel
theorem dX8_soreBehindWords_5 : decode cX8_soreBehindWords 5 = .ok (.aload_n 0, 1) := by decide +kernel
theorem dX8_soreBehindWords_6 : decode cX8_soreBehindWords 6 = .ok (.getfield 28, 3) := by decide +kernel
theorem dX8_soreBehindWords_9 : decode cX8_soreBehindWords 9 = .ok (.iload_n 1, 1) := by decide +kernel
theorem dX8_soreBehindWords_10 : decode cX8_soreBehindWords 10 = .ok (.iaload, 1) := by decide +kernel
theorem dX8_soreBehindWords_11 : decode cX8_soreBehindWords 11 = .ok (.iload_n 2, 1) := by decide +kernel
theorem dX8_soreBehindWords_12 : decode cX8_soreBehindWords 12 = .ok (.iload_n 3, 1) := by decide +kernel
theorem dX8_soreBehindWords_13 : decode cX8_soreBehindWords 13 = .ok (.invokevirtual 73, 3) := by decide +kernel
theorem dX8_soreBehindWords_16 : decode cX8_soreBehindWords 16 = .ok (.iconst 0, 1) := by decide +kernel
theorem dX8_soreBehindWords_17 : decode cX8_soreBehindWords 17 = .ok (.bipush 99, 2) := by decide +kernel
theorem dX8_soreBehindWords_19 : decode cX8_soreBehindWords 19 = .ok (.invokestatic 77, 3) := by decide +kernel
theorem dX8_soreBehindWords_22 : decode cX8_soreBehindWords 22 = .ok (.istore 4, 2) := by decide +kernel
theorem dX8_soreBehindWords_24 : decode cX8_soreBehindWords 24 = .ok (.iconst 0, 1) := by decide +kernel
theorem dX8_soreBehindWords_25 : decode cX8_soreBehindWords 25 = .ok (.iload_n 2, 1) := by decide +kernel
theorem dX8_soreBehindWords_26 : decode cX8_soreBehindWords 26 = .ok (.iload 4, 2) := by decide +kernel
theorem dX8_soreBehindWords_28 : decode cX8_soreBehindWords 28 = .ok (.isub, 1) := by decide +kernel
theorem dX8_soreBehindWords_29 : decode cX8_soreBehindWords 29 = .ok (.invokestatic 81, 3) := by decide +kernel
theorem dX8_soreBehindWords_32 : decode cX8_soreBehindWords 32 = .ok (.ireturn, 1) := by decide +kernel
theorem dX8_soreBehindNight_0 : decode cX8_soreBehindNight 0 = .ok (.aload_n 0, 1) := by decide +kernel
theorem dX8_soreBehindNight_1 : decode cX8_soreBehindNight 1 = .ok (.getfield 34, 3) := by decide +kernel
theorem dX8_soreBehindNight_4 : decode cX8_soreBehindNight 4 = .ok (.iconst 1, 1) := by decide +kernel
theorem dX8_soreBehindNight_5 : decode cX8_soreBehindNight 5 = .ok (.aload_n 0, 1) := by decide +kernel
theorem dX8_soreBehindNight_6 : decode cX8_soreBehindNight 6 = .ok (.getfield 28, 3) := by decide +kernel
theorem dX8_soreBehindNight_9 : decode cX8_soreBehindNight 9 = .ok (.iload_n 1, 1) := by decide +kernel
theorem dX8_soreBehindNight_10 : decode cX8_soreBehindNight 10 = .ok (.iaload, 1) := by decide +kernel
theorem dX8_soreBehindNight_11 : decode cX8_soreBehindNight 11 = .ok (.iload_n 2, 1) := by decide +kernel
theorem dX8_soreBehindNight_12 : decode cX8_soreBehindNight 12 = .ok (.iload_n 3, 1) := by decide +kernel
theorem dX8_soreBehindNight_13 : decode cX8_soreBehindNight 13 = .ok (.invokevirtual 73, 3) := by decide +kernel
theorem dX8_soreBehindNight_16 : decode cX8_soreBehindNight 16 = .ok (.bipush (-9), 2) := by decide +kernel
theorem dX8_soreBehindNight_18 : decode cX8_soreBehindNight 18 = .ok (.bipush 9, 2) := by decide +kernel
theorem dX8_soreBehindNight_20 : decode cX8_soreBehindNight 20 = .ok (.invokestatic 77, 3) := by decide +kernel
theorem dX8_soreBehindNight_23 : decode cX8_soreBehindNight 23 = .ok (.istore 4, 2) := by decide +kernel
theorem dX8_soreBehindNight_25 : decode cX8_soreBehindNight 25 = .ok (.iload_n 2, 1) := by decide +kernel
theorem dX8_soreBehindNight_26 : decode cX8_soreBehindNight 26 = .ok (.iload 4, 2) := by decide +kernel
theorem dX8_soreBehindNight_28 : decode cX8_soreBehindNight 28 = .ok (.isub, 1) := by decide +kernel
theorem dX8_soreBehindNight_29 : decode cX8_soreBehindNight 29 = .ok (.iconst 0, 1) := by decide +kernel
theorem dX8_soreBehindNight_30 : decode cX8_soreBehindNight 30 = .ok (.bipush 99, 2) := by decide +kernel
theorem dX8_soreBehindNight_32 : decode cX8_soreBehindNight 32 = .ok (.invokestatic 77, 3) := by decide +kernel
theorem dX8_soreBehindNight_35 : decode cX8_soreBehindNight 35 = .ok (.ireturn, 1) := by decide +kernel
theorem dX8_soreBehindRefusal_0 : decode cX8_soreBehindRefusal 0 = .ok (.aload_n 0, 1) := by decide +kernel
theorem dX8_soreBehindRefusal_1 : decode cX8_soreBehindRefusal 1 = .ok (.getfield 15, 3) := by decide +kernel
theorem dX8_soreBehindRefusal_4 : decode cX8_soreBehindRefusal 4 = .ok (.aload_n 0, 1) := by decide +kernel
theorem dX8_soreBehindRefusal_5 : decode cX8_soreBehindRefusal 5 = .ok (.getfield 25, 3) := by decide +kernel
theorem dX8_soreBehindRefusal_8 : decode cX8_soreBehindRefusal 8 = .ok (.iload_n 1, 1) := by decide +kernel
theorem dX8_soreBehindRefusal_9 : decode cX8_soreBehindRefusal 9 = .ok (.iaload, 1) := by decide +kernel
theorem dX8_soreBehindRefusal_10 : decode cX8_soreBehindRefusal 10 = .ok (.iaload, 1) := by decide +kernel
theorem dX8_soreBehindRefusal_11 : decode cX8_soreBehindRefusal 11 = .ok (.iconst 1, 1) := by decide +kernel
theorem dX8_soreBehindRefusal_12 : decode cX8_soreBehindRefusal 12 = .ok (.if_icmp .ne 7, 3) := by decide +kernel
theorem dX8_soreBehindRefusal_15 : decode cX8_soreBehindRefusal 15 = .ok (.iconst 2, 1) := by decide +kernel
theorem dX8_soreBehindRefusal_16 : decode cX8_soreBehindRefusal 16 = .ok (.goto 4, 3) := by decide +kernel
theorem dX8_soreBehindRefusal_19 : decode cX8_soreBehindRefusal 19 = .ok (.iconst 1, 1) := by decide +kernel
theorem dX8_soreBehindRefusal_20 : decode cX8_soreBehindRefusal 20 = .ok (.istore_n 3, 1) := by decide +kernel
theorem dX8_soreBehindRefusal_21 : decode cX8_soreBehindRefusal 21 = .ok (.bipush 99, 2) := by decide +kernel
theorem dX8_soreBehindRefusal_23 : decode cX8_soreBehindRefusal 23 = .ok (.iload_n 2, 1) := by decide +kernel
theorem dX8_soreBehindRefusal_24 : decode cX8_soreBehindRefusal 24 = .ok (.iload_n 3, 1) := by decide +kernel
theorem dX8_soreBehindRefusal_25 : decode cX8_soreBehindRefusal 25 = .ok (.iadd, 1) := by decide +kernel
theorem dX8_soreBehindRefusal_26 : decode cX8_soreBehindRefusal 26 = .ok (.invokestatic 87, 3) := by decide +kernel
theorem dX8_soreBehindRefusal_29 : decode cX8_soreBehindRefusal 29 = .ok (.ireturn, 1) := by decide +kernel
theorem dX8_burnsLonger_0 : decode cX8_burnsLonger 0 = .ok (.aload_n 0, 1) := by decide +kernel
theorem dX8_burnsLonger_1 : decode cX8_burnsLonger 1 = .ok (.getfield 34, 3) := by decide +kernel
theorem dX8_burnsLonger_4 : decode cX8_burnsLonger 4 = .ok (.iconst 2, 1) := by decide +kernel
theorem dX8_burnsLonger_5 : decode cX8_burnsLonger 5 = .ok (.aload_n 0, 1) := by decide +kernel
theorem dX8_burnsLonger_6 : decode cX8_burnsLonger 6 = .ok (.getfield 28, 3) := by decide +kernel
theorem dX8_burnsLonger_9 : decode cX8_burnsLonger 9 = .ok (.iload_n 1, 1) := by decide +kernel
theorem dX8_burnsLonger_10 : decode cX8_burnsLonger 10 = .ok (.iaload, 1) := by decide +kernel
theorem dX8_burnsLonger_11 : decode cX8_burnsLonger 11 = .ok (.iload_n 2, 1) := by decide +kernel
theorem dX8_burnsLonger_12 : decode cX8_burnsLonger 12 = .ok (.iload_n 3, 1) := by decide +kernel
theorem dX8_burnsLonger_13 : decode cX8_burnsLonger 13 = .ok (.invokevirtual 73, 3) := by decide +kernel
theorem dX8_burnsLonger_16 : decode cX8_burnsLonger 16 = .ok (.iconst 0, 1) := by decide +kernel
theorem dX8_burnsLonger_17 : decode cX8_burnsLonger 17 = .ok (.bipush 30, 2) := by decide +kernel
theorem dX8_burnsLonger_19 : decode cX8_burnsLonger 19 = .ok (.invokestatic 77, 3) := by decide +kernel
theorem dX8_burnsLonger_22 : decode cX8_burnsLonger 22 = .ok (.istore 4, 2) := by decide +kernel
theorem dX8_burnsLonger_24 : decode cX8_burnsLonger 24 = .ok (.aload_n 0, 1) := by decide +kernel
theorem dX8_burnsLonger_25 : decode cX8_burnsLonger 25 = .ok (.getfield 15, 3) := by decide +kernel
theorem dX8_burnsLonger_28 : decode cX8_burnsLonger 28 = .ok (.aload_n 0, 1) := by decide +kernel
theorem dX8_burnsLonger_29 : decode cX8_burnsLonger 29 = .ok (.getfield 25, 3) := by decide +kernel
theorem dX8_burnsLonger_32 : decode cX8_burnsLonger 32 = .ok (.iload_n 1, 1) := by decide +kernel
theorem dX8_burnsLonger_33 : decode cX8_burnsLonger 33 = .ok (.iaload, 1) := by decide +kernel
theorem dX8_burnsLonger_34 : decode cX8_burnsLonger 34 = .ok (.iaload, 1) := by decide +kernel
theorem dX8_burnsLonger_35 : decode cX8_burnsLonger 35 = .ok (.iconst 3, 1) := by decide +kernel
theorem dX8_burnsLonger_36 : decode cX8_burnsLonger 36 = .ok (.if_icmp .ne 10, 3) := by decide +kernel
theorem dX8_burnsLonger_39 : decode cX8_burnsLonger 39 = .ok (.iconst 2, 1) := by decide +kernel
theorem dX8_burnsLonger_40 : decode cX8_burnsLonger 40 = .ok (.iload 4, 2) := by decide +kernel
theorem dX8_burnsLonger_42 : decode cX8_burnsLonger 42 = .ok (.imul, 1) := by decide +kernel
theorem dX8_burnsLonger_43 : decode cX8_burnsLonger 43 = .ok (.goto 5, 3) := by decide +kernel
theorem dX8_burnsLonger_46 : decode cX8_burnsLonger 46 = .ok (.iload 4, 2) := by decide +kernel
theorem dX8_burnsLonger_48 : decode cX8_burnsLonger 48 = .ok (.ireturn, 1) := by decide +kernel
theorem dX9_init_0 : decode cX9_init 0 = .ok (.aload_n 0, 1) := by decide +kernel
theorem dX9_init_1 : decode cX9_init 1 = .ok (.invokespecial 3, 3) := by decide +kernel
theorem dX9_init_4 : decode cX9_init 4 = .ok (.aload_n 0, 1) := by decide +kernel
theorem dX9_init_5 : decode cX9_init 5 = .ok (.bipush 6, 2) := by decide +kernel
theorem dX9_init_7 : decode cX9_init 7 = .ok (.bipush 6, 2) := by decide +kernel
theorem dX9_init_9 : decode cX9_init 9 = .ok (.multianewarray 9 2, 4) := by decide +kernel
theorem dX9_init_13 : decode cX9_init 13 = .ok (.putfield 11, 3) := by decide +kernel
theorem dX9_init_16 : decode cX9_init 16 = .ok (.aload_n 0, 1) := by decide +kernel
theorem dX9_init_17 : decode cX9_init 17 = .ok (.iconst 4, 1) := by decide +kernel
theorem dX9_init_18 : decode cX9_init 18 = .ok (.newarray .int, 2) := by decide +kernel
theorem dX9_init_20 : decode cX9_init 20 = .ok (.putfield 16, 3) := by decide +kernel
theorem dX9_init_23 : decode cX9_init 23 = .ok (.aload_n 0, 1) := by decide +kernel
theorem dX9_init_24 : decode cX9_init 24 = .ok (.iconst 4, 1) := by decide +kernel
theorem dX9_init_25 : decode cX9_init 25 = .ok (.newarray .int, 2) := by decide +kernel
theorem dX9_init_27 : decode cX9_init 27 = .ok (.putfield 20, 3) := by decide +kernel
theorem dX9_init_30 : decode cX9_init 30 = .ok (.aload_n 0, 1) := by decide +kernel
theorem dX9_init_31 : decode cX9_init 31 = .ok (.sipush 2304, 3) := by decide +kernel
theorem dX9_init_34 : decode cX9_init 34 = .ok (.newarray .int, 2) := by decide +kernel
theorem dX9_init_36 : decode cX9_init 36 = .ok (.putfield 23, 3) := by decide +kernel
theorem dX9_init_39 : decode cX9_init 39 = .ok (.return_, 1) := by decide +kernel
theorem dX9_clear_0 : decode cX9_clear 0 = .ok (.aload_n 0, 1) := by decide +kernel
theorem dX9_clear_1 : decode cX9_clear 1 = .ok (.iconst 0, 1) := by decide +kernel
theorem dX9_clear_2 : decode cX9_clear 2 = .ok (.putfield 26, 3) := by decide +kernel
theorem dX9_clear_5 : decode cX9_clear 5 = .ok (.aload_n 0, 1) := by decide +kernel
theorem dX9_clear_6 : decode cX9_clear 6 = .ok (.iconst 0, 1) := by decide +kernel
theorem dX9_clear_7 : decode cX9_clear 7 = .ok (.putfield 30, 3) := by decide +kernel
theorem dX9_clear_10 : decode cX9_clear 10 = .ok (.aload_n 0, 1) := by decide +kernel
theorem dX9_clear_11 : decode cX9_clear 11 = .ok (.lconst 0, 1) := by decide +kernel
theorem dX9_clear_12 : decode cX9_clear 12 = .ok (.putfield 33, 3) := by decide +kernel
theorem dX9_clear_15 : decode cX9_clear 15 = .ok (.iconst 0, 1) := by decide +kernel
theorem dX9_clear_16 : decode cX9_clear 16 = .ok (.istore_n 1, 1) := by decide +kernel
theorem dX9_clear_17 : decode cX9_clear 17 = .ok (.iload_n 1, 1) := by decide +kernel
theorem dX9_clear_18 : decode cX9_clear 18 = .ok (.bipush 6, 2) := by decide +kernel
theorem dX9_clear_20 : decode cX9_clear 20 = .ok (.if_icmp .ge 32, 3) := by decide +kernel
theorem dX9_clear_23 : decode cX9_clear 23 = .ok (.iconst 0, 1) := by decide +kernel
theorem dX9_clear_24 : decode cX9_clear 24 = .ok (.istore_n 2, 1) := by decide +kernel
theorem dX9_clear_25 : decode cX9_clear 25 = .ok (.iload_n 2, 1) := by decide +kernel
theorem dX9_clear_26 : decode cX9_clear 26 = .ok (.bipush 6, 2) := by decide +kernel
theorem dX9_clear_28 : decode cX9_clear 28 = .ok (.if_icmp .ge 18, 3) := by decide +kernel
theorem dX9_clear_31 : decode cX9_clear 31 = .ok (.aload_n 0, 1) := by decide +kernel
theorem dX9_clear_32 : decode cX9_clear 32 = .ok (.getfield 11, 3) := by decide +kernel
theorem dX9_clear_35 : decode cX9_clear 35 = .ok (.iload_n 1, 1) := by decide +kernel
theorem dX9_clear_36 : decode cX9_clear 36 = .ok (.aaload, 1) := by decide +kernel
theorem dX9_clear_37 : decode cX9_clear 37 = .ok (.iload_n 2, 1) := by decide +kernel
theorem dX9_clear_38 : decode cX9_clear 38 = .ok (.iconst 0, 1) := by decide +kernel
theorem dX9_clear_39 : decode cX9_clear 39 = .ok (.iastore, 1) := by decide +kernel
theorem dX9_clear_40 : decode cX9_clear 40 = .ok (.iinc 2 1, 3) := by decide +kernel
theorem dX9_clear_43 : decode cX9_clear 43 = .ok (.goto (-18), 3) := by decide +kernel
theorem dX9_clear_46 : decode cX9_clear 46 = .ok (.iinc 1 1, 3) := by decide +kernel
theorem dX9_clear_49 : decode cX9_clear 49 = .ok (.goto (-32), 3) := by decide +kernel
theorem dX9_clear_52 : decode cX9_clear 52 = .ok (.return_, 1) := by decide +kernel
theorem dX9_addLane_0 : decode cX9_addLane 0 = .ok (.aload_n 0, 1) := by decide +kernel
theorem dX9_addLane_1 : decode cX9_addLane 1 = .ok (.getfield 11, 3) := by decide +kernel
theorem dX9_addLane_4 : decode cX9_addLane 4 = .ok (.iload_n 1, 1) := by decide +kernel
theorem dX9_addLane_5 : decode cX9_addLane 5 = .ok (.aaload, 1) := by decide +kernel
theorem dX9_addLane_6 : decode cX9_addLane 6 = .ok (.iload_n 2, 1) := by decide +kernel
theorem dX9_addLane_7 : decode cX9_addLane 7 = .ok (.iload_n 3, 1) := by decide +kernel
theorem dX9_addLane_8 : decode cX9_addLane 8 = .ok (.iastore, 1) := by decide +kernel
theorem dX9_addLane_9 : decode cX9_addLane 9 = .ok (.aload_n 0, 1) := by decide +kernel
theorem dX9_addLane_10 : decode cX9_addLane 10 = .ok (.getfield 11, 3) := by decide +kernel
theorem dX9_addLane_13 : decode cX9_addLane 13 = .ok (.iload_n 2, 1) := by decide +kernel
theorem dX9_addLane_14 : decode cX9_addLane 14 = .ok (.aaload, 1) := by decide +kernel
theorem dX9_addLane_15 : decode cX9_addLane 15 = .ok (.iload_n 1, 1) := by decide +kernel
theorem dX9_addLane_16 : decode cX9_addLane 16 = .ok (.iload_n 3, 1) := by decide +kernel
theorem dX9_addLane_17 : decode cX9_addLane 17 = .ok (.iastore, 1) := by decide +kernel
theorem dX9_addLane_18 : decode cX9_addLane 18 = .ok (.aload_n 0, 1) := by decide +kernel
theorem dX9_addLane_19 : decode cX9_addLane 19 = .ok (.dup, 1) := by decide +kernel
theorem dX9_addLane_20 : decode cX9_addLane 20 = .ok (.getfield 26, 3) := by decide +kernel
theorem dX9_addLane_23 : decode cX9_addLane 23 = .ok (.iconst 1, 1) := by decide +kernel
theorem dX9_addLane_24 : decode cX9_addLane 24 = .ok (.iadd, 1) := by decide +kernel
theorem dX9_addLane_25 : decode cX9_addLane 25 = .ok (.putfield 26, 3) := by decide +kernel
theorem dX9_addLane_28 : decode cX9_addLane 28 = .ok (.return_, 1) := by decide +kernel
theorem dX9_hasLane_0 : decode cX9_hasLane 0 = .ok (.aload_n 0, 1) := by decide +kernel
theorem dX9_hasLane_1 : decode cX9_hasLane 1 = .ok (.getfield 11, 3) := by decide +kernel
theorem dX9_hasLane_4 : decode cX9_hasLane 4 = .ok (.iload_n 1, 1) := by decide +kernel
theorem dX9_hasLane_5 : decode cX9_hasLane 5 = .ok (.aaload, 1) := by decide +kernel
theorem dX9_hasLane_6 : decode cX9_hasLane 6 = .ok (.iload_n 2, 1) := by decide +kernel
theorem dX9_hasLane_7 : decode cX9_hasLane 7 = .ok (.iaload, 1) := by decide +kernel
theorem dX9_hasLane_8 : decode cX9_hasLane 8 = .ok (.ifCond .eq 7, 3) := by decide +kernel
theorem dX9_hasLane_11 : decode cX9_hasLane 11 = .ok (.iconst 1, 1) := by decide +kernel
theorem dX9_hasLane_12 : decode cX9_hasLane 12 = .ok (.goto 4, 3) := by decide +kernel
theorem dX9_hasLane_15 : decode cX9_hasLane 15 = .ok (.iconst 0, 1) := by decide +kernel
theorem dX9_hasLane_16 : decode cX9_hasLane 16 = .ok (.ireturn, 1) := by decide +kernel
theorem dX9_addWalk_0 : decode cX9_addWalk 0 = .ok (.aload_n 0, 1) := by decide +kernel
theorem dX9_addWalk_1 : decode cX9_addWalk 1 = .ok (.getfield 30, 3) := by decide +kernel
theorem dX9_addWalk_4 : decode cX9_addWalk 4 = .ok (.iconst 4, 1) := by decide +kernel
theorem dX9_addWalk_5 : decode cX9_addWalk 5 = .ok (.if_icmp .ge 33, 3) := by decide +kernel
theorem dX9_addWalk_8 : decode cX9_addWalk 8 = .ok (.aload_n 0, 1) := by decide +kernel
theorem dX9_addWalk_9 : decode cX9_addWalk 9 = .ok (.getfield 16, 3) := by decide +kernel
theorem dX9_addWalk_12 : decode cX9_addWalk 12 = .ok (.aload_n 0, 1) := by decide +kernel
theorem dX9_addWalk_13 : decode cX9_addWalk 13 = .ok (.getfield 30, 3) := by decide +kernel
theorem dX9_addWalk_16 : decode cX9_addWalk 16 = .ok (.iload_n 1, 1) := by decide +kernel
theorem dX9_addWalk_17 : decode cX9_addWalk 17 = .ok (.iastore, 1) := by decide +kernel
theorem dX9_addWalk_18 : decode cX9_addWalk 18 = .ok (.aload_n 0, 1) := by decide +kernel
theorem dX9_addWalk_19 : decode cX9_addWalk 19 = .ok (.getfield 20, 3) := by decide +kernel
theorem dX9_addWalk_22 : decode cX9_addWalk 22 = .ok (.aload_n 0, 1) := by decide +kernel
theorem dX9_addWalk_23 : decode cX9_addWalk 23 = .ok (.getfield 30, 3) := by decide +kernel
theorem dX9_addWalk_26 : decode cX9_addWalk 26 = .ok (.iload_n 2, 1) := by decide +kernel
theorem dX9_addWalk_27 : decode cX9_addWalk 27 = .ok (.iastore, 1) := by decide +kernel
theorem dX9_addWalk_28 : decode cX9_addWalk 28 = .ok (.aload_n 0, 1) := by decide +kernel
theorem dX9_addWalk_29 : decode cX9_addWalk 29 = .ok (.dup, 1) := by decide +kernel
theorem dX9_addWalk_30 : decode cX9_addWalk 30 = .ok (.getfield 30, 3) := by decide +kernel
theorem dX9_addWalk_33 : decode cX9_addWalk 33 = .ok (.iconst 1, 1) := by decide +kernel
theorem dX9_addWalk_34 : decode cX9_addWalk 34 = .ok (.iadd, 1) := by decide +kernel
theorem dX9_addWalk_35 : decode cX9_addWalk 35 = .ok (.putfield 30, 3) := by decide +kernel
theorem dX9_addWalk_38 : decode cX9_addWalk 38 = .ok (.return_, 1) := by decide +kernel
theorem dX9_isThere_0 : decode cX9_isThere 0 = .ok (.aload_n 0, 1) := by decide +kernel
theorem dX9_isThere_1 : decode cX9_isThere 1 = .ok (.iload_n 1, 1) := by decide +kernel
theorem dX9_isThere_2 : decode cX9_isThere 2 = .ok (.iload_n 2, 1) := by decide +kernel
theorem dX9_isThere_3 : decode cX9_isThere 3 = .ok (.iload_n 3, 1) := by decide +kernel
theorem dX9_isThere_4 : decode cX9_isThere 4 = .ok (.invokevirtual 37, 3) := by decide +kernel
theorem dX9_isThere_7 : decode cX9_isThere 7 = .ok (.ldc 41, 2) := by decide +kernel
theorem dX9_isThere_9 : decode cX9_isThere 9 = .ok (.if_icmp .ge 7, 3) := by decide +kernel
theorem dX9_isThere_12 : decode cX9_isThere 12 = .ok (.iconst 1, 1) := by decide +kernel
theorem dX9_isThere_13 : decode cX9_isThere 13 = .ok (.goto 4, 3) := by decide +kernel
theorem dX9_isThere_16 : decode cX9_isThere 16 = .ok (.iconst 0, 1) := by decide +kernel
theorem dX9_isThere_17 : decode cX9_isThere 17 = .ok (.ireturn, 1) := by decide +kernel
theorem dX9_isLit_0 : decode cX9_isLit 0 = .ok (.aload_n 0, 1) := by decide +kernel
theorem dX9_isLit_1 : decode cX9_isLit 1 = .ok (.iload_n 1, 1) := by decide +kernel
theorem dX9_isLit_2 : decode cX9_isLit 2 = .ok (.iload_n 2, 1) := by decide +kernel
theorem dX9_isLit_3 : decode cX9_isLit 3 = .ok (.iload_n 3, 1) := by decide +kernel
theorem dX9_isLit_4 : decode cX9_isLit 4 = .ok (.invokevirtual 37, 3) := by decide +kernel
theorem dX9_isLit_7 : decode cX9_isLit 7 = .ok (.sipush 1024, 3) := by decide +kernel
theorem dX9_isLit_10 : decode cX9_isLit 10 = .ok (.if_icmp .ge 7, 3) := by decide +kernel
theorem dX9_isLit_13 : decode cX9_isLit 13 = .ok (.iconst 1, 1) := by decide +kernel
theorem dX9_isLit_14 : decode cX9_isLit 14 = .ok (.goto 4, 3) := by decide +kernel
theorem dX9_isLit_17 : decode cX9_isLit 17 = .ok (.iconst 0, 1) := by decide +kernel
theorem dX9_isLit_18 : decode cX9_isLit 18 = .ok (.ireturn, 1) := by decide +kernel
theorem dX9_darkOf_0 : decode cX9_darkOf 0 = .ok (.aload_n 0, 1) := by decide +kernel
theorem dX9_darkOf_1 : decode cX9_darkOf 1 = .ok (.iload_n 1, 1) := by decide +kernel
theorem dX9_darkOf_2 : decode cX9_darkOf 2 = .ok (.iload_n 2, 1) := by decide +kernel
theorem dX9_darkOf_3 : decode cX9_darkOf 3 = .ok (.iload_n 3, 1) := by decide +kernel
theorem dX9_darkOf_4 : decode cX9_darkOf 4 = .ok (.invokevirtual 37, 3) := by decide +kernel
theorem dX9_darkOf_7 : decode cX9_darkOf 7 = .ok (.sipush 1024, 3) := by decide +kernel
theorem dX9_darkOf_10 : decode cX9_darkOf 10 = .ok (.idiv, 1) := by decide +kernel
theorem dX9_darkOf_11 : decode cX9_darkOf 11 = .ok (.ireturn, 1) := by decide +kernel
theorem dX9_minutesOf_0 : decode cX9_minutesOf 0 = .ok (.aload_n 0, 1) := by decide +kernel
theorem dX9_minutesOf_1 : decode cX9_minutesOf 1 = .ok (.iload_n 1, 1) := by decide +kernel
theorem dX9_minutesOf_2 : decode cX9_minutesOf 2 = .ok (.iload_n 2, 1) := by decide +kernel
theorem dX9_minutesOf_3 : decode cX9_minutesOf 3 = .ok (.iload_n 3, 1) := by decide +kernel
theorem dX9_minutesOf_4 : decode cX9_minutesOf 4 = .ok (.invokevirtual 37, 3) := by decide +kernel
theorem dX9_minutesOf_7 : decode cX9_minutesOf 7 = .ok (.sipush 1024, 3) := by decide +kernel
theorem dX9_minutesOf_10 : decode cX9_minutesOf 10 = .ok (.irem, 1) := by decide +kernel
theorem dX9_minutesOf_11 : decode cX9_minutesOf 11 = .ok (.ireturn, 1) := by decide +kernel
theorem dX9_firstDoor_0 : decode cX9_firstDoor 0 = .ok (.aload_n 0, 1) := by decide +kernel
theorem dX9_firstDoor_1 : decode cX9_firstDoor 1 = .ok (.iload_n 1, 1) := by decide +kernel
theorem dX9_firstDoor_2 : decode cX9_firstDoor 2 = .ok (.iload_n 2, 1) := by decide +kernel
theorem dX9_firstDoor_3 : decode cX9_firstDoor 3 = .ok (.iload_n 3, 1) := by decide +kernel
theorem dX9_firstDoor_4 : decode cX9_firstDoor 4 = .ok (.invokevirtual 37, 3) := by decide +kernel
theorem dX9_firstDoor_7 : decode cX9_firstDoor 7 = .ok (.istore 4, 2) := by decide +kernel
theorem dX9_firstDoor_9 : decode cX9_firstDoor 9 = .ok (.iconst 0, 1) := by decide +kernel
theorem dX9_firstDoor_10 : decode cX9_firstDoor 10 = .ok (.istore 5, 2) := by decide +kernel
theorem dX9_firstDoor_12 : decode cX9_firstDoor 12 = .ok (.iload 5, 2) := by decide +kernel
theorem dX9_firstDoor_14 : decode cX9_firstDoor 14 = .ok (.bipush 6, 2) := by decide +kernel
theorem dX9_firstDoor_16 : decode cX9_firstDoor 16 = .ok (.if_icmp .ge 34, 3) := by decide +kernel
theorem dX9_firstDoor_19 : decode cX9_firstDoor 19 = .ok (.aload_n 0, 1) := by decide +kernel
theorem dX9_firstDoor_20 : decode cX9_firstDoor 20 = .ok (.iload_n 1, 1) := by decide +kernel
theorem dX9_firstDoor_21 : decode cX9_firstDoor 21 = .ok (.iload_n 2, 1) := by decide +kernel
theorem dX9_firstDoor_22 : decode cX9_firstDoor 22 = .ok (.iload 5, 2) := by decide +kernel
theorem dX9_firstDoor_24 : decode cX9_firstDoor 24 = .ok (.invokevirtual 42, 3) := by decide +kernel
theorem dX9_firstDoor_27 : decode cX9_firstDoor 27 = .ok (.aload_n 0, 1) := by decide +kernel
theorem dX9_firstDoor_28 : decode cX9_firstDoor 28 = .ok (.iload_n 1, 1) := by decide +kernel
theorem dX9_firstDoor_29 : decode cX9_firstDoor 29 = .ok (.iload 5, 2) := by decide +kernel
theorem dX9_firstDoor_31 : decode cX9_firstDoor 31 = .ok (.iload_n 3, 1) := by decide +kernel
theorem dX9_firstDoor_32 : decode cX9_firstDoor 32 = .ok (.invokevirtual 37, 3) := by decide +kernel
theorem dX9_firstDoor_35 : decode cX9_firstDoor 35 = .ok (.iadd, 1) := by decide +kernel
theorem dX9_firstDoor_36 : decode cX9_firstDoor 36 = .ok (.iload 4, 2) := by decide +kernel
theorem dX9_firstDoor_38 : decode cX9_firstDoor 38 = .ok (.if_icmp .ne 6, 3) := by decide +kernel
theorem dX9_firstDoor_41 : decode cX9_firstDoor 41 = .ok (.iload 5, 2) := by decide +kernel
theorem dX9_firstDoor_43 : decode cX9_firstDoor 43 = .ok (.ireturn, 1) := by decide +kernel
theorem dX9_firstDoor_44 : decode cX9_firstDoor 44 = .ok (.iinc 5 1, 3) := by decide +kernel
theorem dX9_firstDoor_47 : decode cX9_firstDoor 47 = .ok (.goto (-35), 3) := by decide +kernel
theorem dX9_firstDoor_50 : decode cX9_firstDoor 50 = .ok (.iconst (-1), 1) := by decide +kernel
theorem dX9_firstDoor_51 : decode cX9_firstDoor 51 = .ok (.ireturn, 1) := by decide +kernel
theorem dX9_harmBy_0 : decode cX9_harmBy 0 = .ok (.iconst 0, 1) := by decide +kernel
theorem dX9_harmBy_1 : decode cX9_harmBy 1 = .ok (.istore_n 2, 1) := by decide +kernel
theorem dX9_harmBy_2 : decode cX9_harmBy 2 = .ok (.iconst 0, 1) := by decide +kernel
theorem dX9_harmBy_3 : decode cX9_harmBy 3 = .ok (.istore_n 3, 1) := by decide +kernel
theorem dX9_harmBy_4 : decode cX9_harmBy 4 = .ok (.iload_n 3, 1) := by decide +kernel
theorem dX9_harmBy_5 : decode cX9_harmBy 5 = .ok (.aload_n 0, 1) := by decide +kernel
theorem dX9_harmBy_6 : decode cX9_harmBy 6 = .ok (.getfield 30, 3) := by decide +kernel
theorem dX9_harmBy_9 : decode cX9_harmBy 9 = .ok (.if_icmp .ge 32, 3) := by decide +kernel
theorem dX9_harmBy_12 : decode cX9_harmBy 12 = .ok (.iload_n 2, 1) := by decide +kernel
theorem dX9_harmBy_13 : decode cX9_harmBy 13 = .ok (.aload_n 0, 1) := by decide +kernel
theorem dX9_harmBy_14 : decode cX9_harmBy 14 = .ok (.iload_n 1, 1) := by decide +kernel
theorem dX9_harmBy_15 : decode cX9_harmBy 15 = .ok (.aload_n 0, 1) := by decide +kernel
theorem dX9_harmBy_16 : decode cX9_harmBy 16 = .ok (.getfield 16, 3) := by decide +kernel
theorem dX9_harmBy_19 : decode cX9_harmBy 19 = .ok (.iload_n 3, 1) := by decide +kernel
theorem dX9_harmBy_20 : decode cX9_harmBy 20 = .ok (.iaload, 1) := by decide +kernel
theorem dX9_harmBy_21 : decode cX9_harmBy 21 = .ok (.aload_n 0, 1) := by decide +kernel
theorem dX9_harmBy_22 : decode cX9_harmBy 22 = .ok (.getfield 20, 3) := by decide +kernel
theorem dX9_harmBy_25 : decode cX9_harmBy 25 = .ok (.iload_n 3, 1) := by decide +kernel
theorem dX9_harmBy_26 : decode cX9_harmBy 26 = .ok (.iaload, 1) := by decide +kernel
theorem dX9_harmBy_27 : decode cX9_harmBy 27 = .ok (.invokevirtual 37, 3) := by decide +kernel
theorem dX9_harmBy_30 : decode cX9_harmBy 30 = .ok (.invokestatic 45, 3) := by decide +kernel
theorem dX9_harmBy_33 : decode cX9_harmBy 33 = .ok (.iadd, 1) := by decide +kernel
theorem dX9_harmBy_34 : decode cX9_harmBy 34 = .ok (.istore_n 2, 1) := by decide +kernel
theorem dX9_harmBy_35 : decode cX9_harmBy 35 = .ok (.iinc 3 1, 3) := by decide +kernel
theorem dX9_harmBy_38 : decode cX9_harmBy 38 = .ok (.goto (-34), 3) := by decide +kernel
theorem dX9_harmBy_41 : decode cX9_harmBy 41 = .ok (.iload_n 2, 1) := by decide +kernel
theorem dX9_harmBy_42 : decode cX9_harmBy 42 = .ok (.ireturn, 1) := by decide +kernel
theorem dX9_leastDarkDoor_0 : decode cX9_leastDarkDoor 0 = .ok (.iconst (-1), 1) := by decide +kernel
theorem dX9_leastDarkDoor_1 : decode cX9_leastDarkDoor 1 = .ok (.istore_n 3, 1) := by decide +kernel
theorem dX9_leastDarkDoor_2 : decode cX9_leastDarkDoor 2 = .ok (.iconst 0, 1) := by decide +kernel
theorem dX9_leastDarkDoor_3 : decode cX9_leastDarkDoor 3 = .ok (.istore 4, 2) := by decide +kernel
theorem dX9_leastDarkDoor_5 : decode cX9_leastDarkDoor 5 = .ok (.iconst 0, 1) := by decide +kernel
theorem dX9_leastDarkDoor_6 : decode cX9_leastDarkDoor 6 = .ok (.istore 5, 2) := by decide +kernel
theorem dX9_leastDarkDoor_8 : decode cX9_leastDarkDoor 8 = .ok (.iload 5, 2) := by decide +kernel
theorem dX9_leastDarkDoor_10 : decode cX9_leastDarkDoor 10 = .ok (.iload_n 2, 1) := by decide +kernel
theorem dX9_leastDarkDoor_11 : decode cX9_leastDarkDoor 11 = .ok (.if_icmp .ge 63, 3) := by decide +kernel
theorem dX9_leastDarkDoor_14 : decode cX9_leastDarkDoor 14 = .ok (.iconst 0, 1) := by decide +kernel
theorem dX9_leastDarkDoor_15 : decode cX9_leastDarkDoor 15 = .ok (.istore 6, 2) := by decide +kernel
theorem dX9_leastDarkDoor_17 : decode cX9_leastDarkDoor 17 = .ok (.iconst 0, 1) := by decide +kernel
theorem dX9_leastDarkDoor_18 : decode cX9_leastDarkDoor 18 = .ok (.istore 7, 2) := by decide +kernel
theorem dX9_leastDarkDoor_20 : decode cX9_leastDarkDoor 20 = .ok (.iload 7, 2) := by decide +kernel
theorem dX9_leastDarkDoor_22 : decode cX9_leastDarkDoor 22 = .ok (.iload_n 2, 1) := by decide +kernel
theorem dX9_leastDarkDoor_23 : decode cX9_leastDarkDoor 23 = .ok (.if_icmp .ge 26, 3) := by decide +kernel
theorem dX9_leastDarkDoor_26 : decode cX9_leastDarkDoor 26 = .ok (.iload 6, 2) := by decide +kernel
theorem dX9_leastDarkDoor_28 : decode cX9_leastDarkDoor 28 = .ok (.aload_n 0, 1) := by decide +kernel
theorem dX9_leastDarkDoor_29 : decode cX9_leastDarkDoor 29 = .ok (.iload_n 1, 1) := by decide +kernel
theorem dX9_leastDarkDoor_30 : decode cX9_leastDarkDoor 30 = .ok (.iload 5, 2) := by decide +kernel
theorem dX9_leastDarkDoor_32 : decode cX9_leastDarkDoor 32 = .ok (.iload 7, 2) := by decide +kernel
theorem dX9_leastDarkDoor_34 : decode cX9_leastDarkDoor 34 = .ok (.invokevirtual 37, 3) := by decide +kernel
theorem dX9_leastDarkDoor_37 : decode cX9_leastDarkDoor 37 = .ok (.invokestatic 45, 3) := by decide +kernel
theorem dX9_leastDarkDoor_40 : decode cX9_leastDarkDoor 40 = .ok (.iadd, 1) := by decide +kernel
theorem dX9_leastDarkDoor_41 : decode cX9_leastDarkDoor 41 = .ok (.istore 6, 2) := by decide +kernel
theorem dX9_leastDarkDoor_43 : decode cX9_leastDarkDoor 43 = .ok (.iinc 7 1, 3) := by decide +kernel
theorem dX9_leastDarkDoor_46 : decode cX9_leastDarkDoor 46 = .ok (.goto (-26), 3) := by decide +kernel
theorem dX9_leastDarkDoor_49 : decode cX9_leastDarkDoor 49 = .ok (.iload_n 3, 1) := by decide +kernel
theorem dX9_leastDarkDoor_50 : decode cX9_leastDarkDoor 50 = .ok (.iconst (-1), 1) := by decide +kernel
theorem dX9_leastDarkDoor_51 : decode cX9_leastDarkDoor 51 = .ok (.if_icmp .eq 10, 3) := by decide +kernel
theorem dX9_leastDarkDoor_54 : decode cX9_leastDarkDoor 54 = .ok (.iload 6, 2) := by decide +kernel
theorem dX9_leastDarkDoor_56 : decode cX9_leastDarkDoor 56 = .ok (.iload 4, 2) := by decide +kernel
theorem dX9_leastDarkDoor_58 : decode cX9_leastDarkDoor 58 = .ok (.if_icmp .ge 10, 3) := by decide +kernel
theorem dX9_leastDarkDoor_61 : decode cX9_leastDarkDoor 61 = .ok (.iload 5, 2) := by decide +kernel
theorem dX9_leastDarkDoor_63 : decode cX9_leastDarkDoor 63 = .ok (.istore_n 3, 1) := by decide +kernel
theorem dX9_leastDarkDoor_64 : decode cX9_leastDarkDoor 64 = .ok (.iload 6, 2) := by decide +kernel
theorem dX9_leastDarkDoor_66 : decode cX9_leastDarkDoor 66 = .ok (.istore 4, 2) := by decide +kernel
theorem dX9_leastDarkDoor_68 : decode cX9_leastDarkDoor 68 = .ok (.iinc 5 1, 3) := by decide +kernel
theorem dX9_leastDarkDoor_71 : decode cX9_leastDarkDoor 71 = .ok (.goto (-63), 3) := by decide +kernel
theorem dX9_leastDarkDoor_74 : decode cX9_leastDarkDoor 74 = .ok (.iload_n 3, 1) := by decide +kernel
theorem dX9_leastDarkDoor_75 : decode cX9_leastDarkDoor 75 = .ok (.ireturn, 1) := by decide +kernel
theorem dX9_darkOrHarm_0 : decode cX9_darkOrHarm 0 = .ok (.iload_n 0, 1) := by decide +kernel
theorem dX9_darkOrHarm_1 : decode cX9_darkOrHarm 1 = .ok (.ldc 41, 2) := by decide +kernel
theorem dX9_darkOrHarm_3 : decode cX9_darkOrHarm 3 = .ok (.if_icmp .ge 11, 3) := by decide +kernel
theorem dX9_darkOrHarm_6 : decode cX9_darkOrHarm 6 = .ok (.iload_n 0, 1) := by decide +kernel
theorem dX9_darkOrHarm_7 : decode cX9_darkOrHarm 7 = .ok (.sipush 1024, 3) := by decide +kernel
theorem dX9_darkOrHarm_10 : decode cX9_darkOrHarm 10 = .ok (.idiv, 1) := by decide +kernel
theorem dX9_darkOrHarm_11 : decode cX9_darkOrHarm 11 = .ok (.goto 5, 3) := by decide +kernel
theorem dX9_darkOrHarm_14 : decode cX9_darkOrHarm 14 = .ok (.bipush 100, 2) := by decide +kernel
theorem dX9_darkOrHarm_16 : decode cX9_darkOrHarm 16 = .ok (.ireturn, 1) := by decide +kernel
theorem dX9_fewestLamps_0 : decode cX9_fewestLamps 0 = .ok (.iconst 1, 1) := by decide +kernel
theorem dX9_fewestLamps_1 : decode cX9_fewestLamps 1 = .ok (.iload_n 1, 1) := by decide +kernel
theorem dX9_fewestLamps_2 : decode cX9_fewestLamps 2 = .ok (.ishl, 1) := by decide +kernel
theorem dX9_fewestLamps_3 : decode cX9_fewestLamps 3 = .ok (.iconst 1, 1) := by decide +kernel
theorem dX9_fewestLamps_4 : decode cX9_fewestLamps 4 = .ok (.isub, 1) := by decide +kernel
theorem dX9_fewestLamps_5 : decode cX9_fewestLamps 5 = .ok (.istore_n 2, 1) := by decide +kernel
theorem dX9_fewestLamps_6 : decode cX9_fewestLamps 6 = .ok (.iconst 0, 1) := by decide +kernel
theorem dX9_fewestLamps_7 : decode cX9_fewestLamps 7 = .ok (.istore_n 3, 1) := by decide +kernel
theorem dX9_fewestLamps_8 : decode cX9_fewestLamps 8 = .ok (.iload_n 3, 1) := by decide +kernel
theorem dX9_fewestLamps_9 : decode cX9_fewestLamps 9 = .ok (.iconst 1, 1) := by decide +kernel
theorem dX9_fewestLamps_10 : decode cX9_fewestLamps 10 = .ok (.iload_n 1, 1) := by decide +kernel
theorem dX9_fewestLamps_11 : decode cX9_fewestLamps 11 = .ok (.ishl, 1) := by decide +kernel
theorem dX9_fewestLamps_12 : decode cX9_fewestLamps 12 = .ok (.if_icmp .ge 30, 3) := by decide +kernel
theorem dX9_fewestLamps_15 : decode cX9_fewestLamps 15 = .ok (.iload_n 3, 1) := by decide +kernel
theorem dX9_fewestLamps_16 : decode cX9_fewestLamps 16 = .ok (.invokestatic 49, 3) := by decide +kernel
theorem dX9_fewestLamps_19 : decode cX9_fewestLamps 19 = .ok (.iload_n 2, 1) := by decide +kernel
theorem dX9_fewestLamps_20 : decode cX9_fewestLamps 20 = .ok (.invokestatic 49, 3) := by decide +kernel
theorem dX9_fewestLamps_23 : decode cX9_fewestLamps 23 = .ok (.if_icmp .ge 13, 3) := by decide +kernel
theorem dX9_fewestLamps_26 : decode cX9_fewestLamps 26 = .ok (.aload_n 0, 1) := by decide +kernel
theorem dX9_fewestLamps_27 : decode cX9_fewestLamps 27 = .ok (.iload_n 3, 1) := by decide +kernel
theorem dX9_fewestLamps_28 : decode cX9_fewestLamps 28 = .ok (.invokevirtual 54, 3) := by decide +kernel
theorem dX9_fewestLamps_31 : decode cX9_fewestLamps 31 = .ok (.ifCond .eq 5, 3) := by decide +kernel
theorem dX9_fewestLamps_34 : decode cX9_fewestLamps 34 = .ok (.iload_n 3, 1) := by decide +kernel
theorem dX9_fewestLamps_35 : decode cX9_fewestLamps 35 = .ok (.istore_n 2, 1) := by decide +kernel
theorem dX9_fewestLamps_36 : decode cX9_fewestLamps 36 = .ok (.iinc 3 1, 3) := by decide +kernel
theorem dX9_fewestLamps_39 : decode cX9_fewestLamps 39 = .ok (.goto (-31), 3) := by decide +kernel
theorem dX9_fewestLamps_42 : decode cX9_fewestLamps 42 = .ok (.iload_n 2, 1) := by decide +kernel
theorem dX9_fewestLamps_43 : decode cX9_fewestLamps 43 = .ok (.ireturn, 1) := by decide +kernel
theorem dX9_leavesNoWalkDark_0 : decode cX9_leavesNoWalkDark 0 = .ok (.iconst 0, 1) := by decide +kernel
theorem dX9_leavesNoWalkDark_1 : decode cX9_leavesNoWalkDark 1 = .ok (.istore_n 2, 1) := by decide +kernel
theorem dX9_leavesNoWalkDark_2 : decode cX9_leavesNoWalkDark 2 = .ok (.iload_n 2, 1) := by decide +kernel
theorem dX9_leavesNoWalkDark_3 : decode cX9_leavesNoWalkDark 3 = .ok (.aload_n 0, 1) := by decide +kernel
theorem dX9_leavesNoWalkDark_4 : decode cX9_leavesNoWalkDark 4 = .ok (.getfield 30, 3) := by decide +kernel
theorem dX9_leavesNoWalkDark_7 : decode cX9_leavesNoWalkDark 7 = .ok (.if_icmp .ge 42, 3) := by decide +kernel
theorem dX9_leavesNoWalkDark_10 : decode cX9_leavesNoWalkDark 10 = .ok (.aload_n 0, 1) := by decide +kernel
theorem dX9_leavesNoWalkDark_11 : decode cX9_leavesNoWalkDark 11 = .ok (.iload_n 1, 1) := by decide +kernel
theorem dX9_leavesNoWalkDark_12 : decode cX9_leavesNoWalkDark 12 = .ok (.aload_n 0, 1) := by decide +kernel
theorem dX9_leavesNoWalkDark_13 : decode cX9_leavesNoWalkDark 13 = .ok (.getfield 16, 3) := by decide +kernel
theorem dX9_leavesNoWalkDark_16 : decode cX9_leavesNoWalkDark 16 = .ok (.iload_n 2, 1) := by decide +kernel
theorem dX9_leavesNoWalkDark_17 : decode cX9_leavesNoWalkDark 17 = .ok (.iaload, 1) := by decide +kernel
theorem dX9_leavesNoWalkDark_18 : decode cX9_leavesNoWalkDark 18 = .ok (.aload_n 0, 1) := by decide +kernel
theorem dX9_leavesNoWalkDark_19 : decode cX9_leavesNoWalkDark 19 = .ok (.getfield 20, 3) := by decide +kernel
theorem dX9_leavesNoWalkDark_22 : decode cX9_leavesNoWalkDark 22 = .ok (.iload_n 2, 1) := by decide +kernel
theorem dX9_leavesNoWalkDark_23 : decode cX9_leavesNoWalkDark 23 = .ok (.iaload, 1) := by decide +kernel
theorem dX9_leavesNoWalkDark_24 : decode cX9_leavesNoWalkDark 24 = .ok (.invokevirtual 37, 3) := by decide +kernel
theorem dX9_leavesNoWalkDark_27 : decode cX9_leavesNoWalkDark 27 = .ok (.istore_n 3, 1) := by decide +kernel
theorem dX9_leavesNoWalkDark_28 : decode cX9_leavesNoWalkDark 28 = .ok (.iload_n 3, 1) := by decide +kernel
theorem dX9_leavesNoWalkDark_29 : decode cX9_leavesNoWalkDark 29 = .ok (.sipush 1024, 3) := by decide +kernel
theorem dX9_leavesNoWalkDark_32 : decode cX9_leavesNoWalkDark 32 = .ok (.if_icmp .lt 11, 3) := by decide +kernel
theorem dX9_leavesNoWalkDark_35 : decode cX9_leavesNoWalkDark 35 = .ok (.iload_n 3, 1) := by decide +kernel
theorem dX9_leavesNoWalkDark_36 : decode cX9_leavesNoWalkDark 36 = .ok (.ldc 41, 2) := by decide +kernel
theorem dX9_leavesNoWalkDark_38 : decode cX9_leavesNoWalkDark 38 = .ok (.if_icmp .ge 5, 3) := by decide +kernel
theorem dX9_leavesNoWalkDark_41 : decode cX9_leavesNoWalkDark 41 = .ok (.iconst 0, 1) := by decide +kernel
theorem dX9_leavesNoWalkDark_42 : decode cX9_leavesNoWalkDark 42 = .ok (.ireturn, 1) := by decide +kernel
theorem dX9_leavesNoWalkDark_43 : decode cX9_leavesNoWalkDark 43 = .ok (.iinc 2 1, 3) := by decide +kernel
theorem dX9_leavesNoWalkDark_46 : decode cX9_leavesNoWalkDark 46 = .ok (.goto (-44), 3) := by decide +kernel
theorem dX9_leavesNoWalkDark_49 : decode cX9_leavesNoWalkDark 49 = .ok (.iconst 1, 1) := by decide +kernel
theorem dX9_leavesNoWalkDark_50 : decode cX9_leavesNoWalkDark 50 = .ok (.ireturn, 1) := by decide +kernel
theorem dX9_costOf_0 : decode cX9_costOf 0 = .ok (.aload_n 0, 1) := by decide +kernel
theorem dX9_costOf_1 : decode cX9_costOf 1 = .ok (.getfield 33, 3) := by decide +kernel
theorem dX9_costOf_4 : decode cX9_costOf 4 = .ok (.iload_n 1, 1) := by decide +kernel
theorem dX9_costOf_5 : decode cX9_costOf 5 = .ok (.lushr, 1) := by decide +kernel
theorem dX9_costOf_6 : decode cX9_costOf 6 = .ok (.lconst 1, 1) := by decide +kernel
theorem dX9_costOf_7 : decode cX9_costOf 7 = .ok (.land, 1) := by decide +kernel
theorem dX9_costOf_8 : decode cX9_costOf 8 = .ok (.lconst 0, 1) := by decide +kernel
theorem dX9_costOf_9 : decode cX9_costOf 9 = .ok (.lcmp, 1) := by decide +kernel
theorem dX9_costOf_10 : decode cX9_costOf 10 = .ok (.ifCond .ne 20, 3) := by decide +kernel
theorem dX9_costOf_13 : decode cX9_costOf 13 = .ok (.aload_n 0, 1) := by decide +kernel
theorem dX9_costOf_14 : decode cX9_costOf 14 = .ok (.iload_n 1, 1) := by decide +kernel
theorem dX9_costOf_15 : decode cX9_costOf 15 = .ok (.invokevirtual 58, 3) := by decide +kernel
theorem dX9_costOf_18 : decode cX9_costOf 18 = .ok (.aload_n 0, 1) := by decide +kernel
theorem dX9_costOf_19 : decode cX9_costOf 19 = .ok (.dup, 1) := by decide +kernel
theorem dX9_costOf_20 : decode cX9_costOf 20 = .ok (.getfield 33, 3) := by decide +kernel
theorem dX9_costOf_23 : decode cX9_costOf 23 = .ok (.lconst 1, 1) := by decide +kernel
theorem dX9_costOf_24 : decode cX9_costOf 24 = .ok (.iload_n 1, 1) := by decide +kernel
theorem dX9_costOf_25 : decode cX9_costOf 25 = .ok (.lshl, 1) := by decide +kernel
theorem dX9_costOf_26 : decode cX9_costOf 26 = .ok (.lor, 1) := by decide +kernel
theorem dX9_costOf_27 : decode cX9_costOf 27 = .ok (.putfield 33, 3) := by decide +kernel
theorem dX9_costOf_30 : decode cX9_costOf 30 = .ok (.aload_n 0, 1) := by decide +kernel
theorem dX9_costOf_31 : decode cX9_costOf 31 = .ok (.getfield 23, 3) := by decide +kernel
theorem dX9_costOf_34 : decode cX9_costOf 34 = .ok (.iload_n 1, 1) := by decide +kernel
theorem dX9_costOf_35 : decode cX9_costOf 35 = .ok (.bipush 36, 2) := by decide +kernel
theorem dX9_costOf_37 : decode cX9_costOf 37 = .ok (.imul, 1) := by decide +kernel
theorem dX9_costOf_38 : decode cX9_costOf 38 = .ok (.iload_n 2, 1) := by decide +kernel
theorem dX9_costOf_39 : decode cX9_costOf 39 = .ok (.bipush 6, 2) := by decide +kernel
theorem dX9_costOf_41 : decode cX9_costOf 41 = .ok (.imul, 1) := by decide +kernel
theorem dX9_costOf_42 : decode cX9_costOf 42 = .ok (.iadd, 1) := by decide +kernel
theorem dX9_costOf_43 : decode cX9_costOf 43 = .ok (.iload_n 3, 1) := by decide +kernel
theorem dX9_costOf_44 : decode cX9_costOf 44 = .ok (.iadd, 1) := by decide +kernel
theorem dX9_costOf_45 : decode cX9_costOf 45 = .ok (.iaload, 1) := by decide +kernel
theorem dX9_costOf_46 : decode cX9_costOf 46 = .ok (.ireturn, 1) := by decide +kernel
theorem dX9_measure_0 : decode cX9_measure 0 = .ok (.iload_n 1, 1) := by decide +kernel
theorem dX9_measure_1 : decode cX9_measure 1 = .ok (.bipush 36, 2) := by decide +kernel
theorem dX9_measure_3 : decode cX9_measure 3 = .ok (.imul, 1) := by decide +kernel
theorem dX9_measure_4 : decode cX9_measure 4 = .ok (.istore_n 2, 1) := by decide +kernel
theorem dX9_measure_5 : decode cX9_measure 5 = .ok (.iconst 0, 1) := by decide +kernel
theorem dX9_measure_6 : decode cX9_measure 6 = .ok (.istore_n 3, 1) := by decide +kernel
theorem dX9_measure_7 : decode cX9_measure 7 = .ok (.iload_n 3, 1) := by decide +kernel
theorem dX9_measure_8 : decode cX9_measure 8 = .ok (.bipush 6, 2) := by decide +kernel
theorem dX9_measure_10 : decode cX9_measure 10 = .ok (.if_icmp .ge 57, 3) := by decide +kernel
theorem dX9_measure_13 : decode cX9_measure 13 = .ok (.iconst 0, 1) := by decide +kernel
theorem dX9_measure_14 : decode cX9_measure 14 = .ok (.istore 4, 2) := by decide +kernel
theorem dX9_measure_16 : decode cX9_measure 16 = .ok (.iload 4, 2) := by decide +kernel
theorem dX9_measure_18 : decode cX9_measure 18 = .ok (.bipush 6, 2) := by decide +kernel
theorem dX9_measure_20 : decode cX9_measure 20 = .ok (.if_icmp .ge 41, 3) := by decide +kernel
theorem dX9_measure_23 : decode cX9_measure 23 = .ok (.aload_n 0, 1) := by decide +kernel
theorem dX9_measure_24 : decode cX9_measure 24 = .ok (.getfield 23, 3) := by decide +kernel
theorem dX9_measure_27 : decode cX9_measure 27 = .ok (.iload_n 2, 1) := by decide +kernel
theorem dX9_measure_28 : decode cX9_measure 28 = .ok (.iload_n 3, 1) := by decide +kernel
theorem dX9_measure_29 : decode cX9_measure 29 = .ok (.bipush 6, 2) := by decide +kernel
theorem dX9_measure_31 : decode cX9_measure 31 = .ok (.imul, 1) := by decide +kernel
theorem dX9_measure_32 : decode cX9_measure 32 = .ok (.iadd, 1) := by decide +kernel
theorem dX9_measure_33 : decode cX9_measure 33 = .ok (.iload 4, 2) := by decide +kernel
theorem dX9_measure_35 : decode cX9_measure 35 = .ok (.iadd, 1) := by decide +kernel
theorem dX9_measure_36 : decode cX9_measure 36 = .ok (.iload_n 3, 1) := by decide +kernel
theorem dX9_measure_37 : decode cX9_measure 37 = .ok (.iload 4, 2) := by decide +kernel
theorem dX9_measure_39 : decode cX9_measure 39 = .ok (.if_icmp .ne 7, 3) := by decide +kernel
theorem dX9_measure_42 : decode cX9_measure 42 = .ok (.iconst 0, 1) := by decide +kernel
theorem dX9_measure_43 : decode cX9_measure 43 = .ok (.goto 11, 3) := by decide +kernel
theorem dX9_measure_46 : decode cX9_measure 46 = .ok (.aload_n 0, 1) := by decide +kernel
theorem dX9_measure_47 : decode cX9_measure 47 = .ok (.iload_n 1, 1) := by decide +kernel
theorem dX9_measure_48 : decode cX9_measure 48 = .ok (.iload_n 3, 1) := by decide +kernel
theorem dX9_measure_49 : decode cX9_measure 49 = .ok (.iload 4, 2) := by decide +kernel
theorem dX9_measure_51 : decode cX9_measure 51 = .ok (.invokevirtual 42, 3) := by decide +kernel
theorem dX9_measure_54 : decode cX9_measure 54 = .ok (.iastore, 1) := by decide +kernel
theorem dX9_measure_55 : decode cX9_measure 55 = .ok (.iinc 4 1, 3) := by decide +kernel
theorem dX9_measure_58 : decode cX9_measure 58 = .ok (.goto (-42), 3) := by decide +kernel
theorem dX9_measure_61 : decode cX9_measure 61 = .ok (.iinc 3 1, 3) := by decide +kernel
theorem dX9_measure_64 : decode cX9_measure 64 = .ok (.goto (-57), 3) := by decide +kernel
theorem dX9_measure_67 : decode cX9_measure 67 = .ok (.iconst 0, 1) := by decide +kernel
theorem dX9_measure_68 : decode cX9_measure 68 = .ok (.istore_n 3, 1) := by decide +kernel
theorem dX9_measure_69 : decode cX9_measure 69 = .ok (.iload_n 3, 1) := by decide +kernel
theorem dX9_measure_70 : decode cX9_measure 70 = .ok (.bipush 6, 2) := by decide +kernel
theorem dX9_measure_72 : decode cX9_measure 72 = .ok (.if_icmp .ge 103, 3) := by decide +kernel
theorem dX9_measure_75 : decode cX9_measure 75 = .ok (.iconst 0, 1) := by decide +kernel
theorem dX9_measure_76 : decode cX9_measure 76 = .ok (.istore 4, 2) := by decide +kernel
theorem dX9_measure_78 : decode cX9_measure 78 = .ok (.iload 4, 2) := by decide +kernel
theorem dX9_measure_80 : decode cX9_measure 80 = .ok (.bipush 6, 2) := by decide +kernel
theorem dX9_measure_82 : decode cX9_measure 82 = .ok (.if_icmp .ge 87, 3) := by decide +kernel
theorem dX9_measure_85 : decode cX9_measure 85 = .ok (.aload_n 0, 1) := by decide +kernel
theorem dX9_measure_86 : decode cX9_measure 86 = .ok (.getfield 23, 3) := by decide +kernel
theorem dX9_measure_89 : decode cX9_measure 89 = .ok (.iload_n 2, 1) := by decide +kernel
theorem dX9_measure_90 : decode cX9_measure 90 = .ok (.iload 4, 2) := by decide +kernel
theorem dX9_measure_92 : decode cX9_measure 92 = .ok (.bipush 6, 2) := by decide +kernel
theorem dX9_measure_94 : decode cX9_measure 94 = .ok (.imul, 1) := by decide +kernel
theorem dX9_measure_95 : decode cX9_measure 95 = .ok (.iadd, 1) := by decide +kernel
theorem dX9_measure_96 : decode cX9_measure 96 = .ok (.iload_n 3, 1) := by decide +kernel
theorem dX9_measure_97 : decode cX9_measure 97 = .ok (.iadd, 1) := by decide +kernel
theorem dX9_measure_98 : decode cX9_measure 98 = .ok (.iaload, 1) := by decide +kernel
theorem dX9_measure_99 : decode cX9_measure 99 = .ok (.istore 5, 2) := by decide +kernel
theorem dX9_measure_101 : decode cX9_measure 101 = .ok (.iconst 0, 1) := by decide +kernel
theorem dX9_measure_102 : decode cX9_measure 102 = .ok (.istore 6, 2) := by decide +kernel
theorem dX9_measure_104 : decode cX9_measure 104 = .ok (.iload 6, 2) := by decide +kernel
theorem dX9_measure_106 : decode cX9_measure 106 = .ok (.bipush 6, 2) := by decide +kernel
theorem dX9_measure_108 : decode cX9_measure 108 = .ok (.if_icmp .ge 55, 3) := by decide +kernel
theorem dX9_measure_111 : decode cX9_measure 111 = .ok (.iload_n 2, 1) := by decide +kernel
theorem dX9_measure_112 : decode cX9_measure 112 = .ok (.iload 4, 2) := by decide +kernel
theorem dX9_measure_114 : decode cX9_measure 114 = .ok (.bipush 6, 2) := by decide +kernel
theorem dX9_measure_116 : decode cX9_measure 116 = .ok (.imul, 1) := by decide +kernel
theorem dX9_measure_117 : decode cX9_measure 117 = .ok (.iadd, 1) := by decide +kernel
theorem dX9_measure_118 : decode cX9_measure 118 = .ok (.iload 6, 2) := by decide +kernel
theorem dX9_measure_120 : decode cX9_measure 120 = .ok (.iadd, 1) := by decide +kernel
theorem dX9_measure_121 : decode cX9_measure 121 = .ok (.istore 7, 2) := by decide +kernel
theorem dX9_measure_123 : decode cX9_measure 123 = .ok (.aload_n 0, 1) := by decide +kernel
theorem dX9_measure_124 : decode cX9_measure 124 = .ok (.getfield 23, 3) := by decide +kernel
theorem dX9_measure_127 : decode cX9_measure 127 = .ok (.iload 7, 2) := by decide +kernel
theorem dX9_measure_129 : decode cX9_measure 129 = .ok (.aload_n 0, 1) := by decide +kernel
theorem dX9_measure_130 : decode cX9_measure 130 = .ok (.getfield 23, 3) := by decide +kernel
theorem dX9_measure_133 : decode cX9_measure 133 = .ok (.iload 7, 2) := by decide +kernel
theorem dX9_measure_135 : decode cX9_measure 135 = .ok (.iaload, 1) := by decide +kernel
theorem dX9_measure_136 : decode cX9_measure 136 = .ok (.iload 5, 2) := by decide +kernel
theorem dX9_measure_138 : decode cX9_measure 138 = .ok (.aload_n 0, 1) := by decide +kernel
theorem dX9_measure_139 : decode cX9_measure 139 = .ok (.getfield 23, 3) := by decide +kernel
theorem dX9_measure_142 : decode cX9_measure 142 = .ok (.iload_n 2, 1) := by decide +kernel
theorem dX9_measure_143 : decode cX9_measure 143 = .ok (.iload_n 3, 1) := by decide +kernel
theorem dX9_measure_144 : decode cX9_measure 144 = .ok (.bipush 6, 2) := by decide +kernel
theorem dX9_measure_146 : decode cX9_measure 146 = .ok (.imul, 1) := by decide +kernel
theorem dX9_measure_147 : decode cX9_measure 147 = .ok (.iadd, 1) := by decide +kernel
theorem dX9_measure_148 : decode cX9_measure 148 = .ok (.iload 6, 2) := by decide +kernel
theorem dX9_measure_150 : decode cX9_measure 150 = .ok (.iadd, 1) := by decide +kernel
theorem dX9_measure_151 : decode cX9_measure 151 = .ok (.iaload, 1) := by decide +kernel
theorem dX9_measure_152 : decode cX9_measure 152 = .ok (.iadd, 1) := by decide +kernel
theorem dX9_measure_153 : decode cX9_measure 153 = .ok (.invokestatic 62, 3) := by decide +kernel
theorem dX9_measure_156 : decode cX9_measure 156 = .ok (.iastore, 1) := by decide +kernel
theorem dX9_measure_157 : decode cX9_measure 157 = .ok (.iinc 6 1, 3) := by decide +kernel
theorem dX9_measure_160 : decode cX9_measure 160 = .ok (.goto (-56), 3) := by decide +kernel
theorem dX9_measure_163 : decode cX9_measure 163 = .ok (.iinc 4 1, 3) := by decide +kernel
theorem dX9_measure_166 : decode cX9_measure 166 = .ok (.goto (-88), 3) := by decide +kernel
theorem dX9_measure_169 : decode cX9_measure 169 = .ok (.iinc 3 1, 3) := by decide +kernel
theorem dX9_measure_172 : decode cX9_measure 172 = .ok (.goto (-103), 3) := by decide +kernel
theorem dX9_measure_175 : decode cX9_measure 175 = .ok (.return_, 1) := by decide +kernel
theorem dX9_laneCost_0 : decode cX9_laneCost 0 = .ok (.aload_n 0, 1) := by decide +kernel
theorem dX9_laneCost_1 : decode cX9_laneCost 1 = .ok (.getfield 11, 3) := by decide +kernel
theorem dX9_laneCost_4 : decode cX9_laneCost 4 = .ok (.iload_n 2, 1) := by decide +kernel
theorem dX9_laneCost_5 : decode cX9_laneCost 5 = .ok (.aaload, 1) := by decide +kernel
theorem dX9_laneCost_6 : decode cX9_laneCost 6 = .ok (.iload_n 3, 1) := by decide +kernel
theorem dX9_laneCost_7 : decode cX9_laneCost 7 = .ok (.iaload, 1) := by decide +kernel
theorem dX9_laneCost_8 : decode cX9_laneCost 8 = .ok (.istore 4, 2) := by decide +kernel
theorem dX9_laneCost_10 : decode cX9_laneCost 10 = .ok (.iload 4, 2) := by decide +kernel
theorem dX9_laneCost_12 : decode cX9_laneCost 12 = .ok (.ifCond .ne 6, 3) := by decide +kernel
theorem dX9_laneCost_15 : decode cX9_laneCost 15 = .ok (.ldc 41, 2) := by decide +kernel
theorem dX9_laneCost_17 : decode cX9_laneCost 17 = .ok (.ireturn, 1) := by decide +kernel
theorem dX9_laneCost_18 : decode cX9_laneCost 18 = .ok (.iload_n 1, 1) := by decide +kernel
theorem dX9_laneCost_19 : decode cX9_laneCost 19 = .ok (.iconst 1, 1) := by decide +kernel
theorem dX9_laneCost_20 : decode cX9_laneCost 20 = .ok (.iload_n 2, 1) := by decide +kernel
theorem dX9_laneCost_21 : decode cX9_laneCost 21 = .ok (.ishl, 1) := by decide +kernel
theorem dX9_laneCost_22 : decode cX9_laneCost 22 = .ok (.iconst 1, 1) := by decide +kernel
theorem dX9_laneCost_23 : decode cX9_laneCost 23 = .ok (.iload_n 3, 1) := by decide +kernel
theorem dX9_laneCost_24 : decode cX9_laneCost 24 = .ok (.ishl, 1) := by decide +kernel
theorem dX9_laneCost_25 : decode cX9_laneCost 25 = .ok (.ior, 1) := by decide +kernel
theorem dX9_laneCost_26 : decode cX9_laneCost 26 = .ok (.iand, 1) := by decide +kernel
theorem dX9_laneCost_27 : decode cX9_laneCost 27 = .ok (.ifCond .eq 7, 3) := by decide +kernel
theorem dX9_laneCost_30 : decode cX9_laneCost 30 = .ok (.iconst 1, 1) := by decide +kernel
theorem dX9_laneCost_31 : decode cX9_laneCost 31 = .ok (.goto 4, 3) := by decide +kernel
theorem dX9_laneCost_34 : decode cX9_laneCost 34 = .ok (.iconst 0, 1) := by decide +kernel
theorem dX9_laneCost_35 : decode cX9_laneCost 35 = .ok (.istore 5, 2) := by decide +kernel
theorem dX9_laneCost_37 : decode cX9_laneCost 37 = .ok (.iload 5, 2) := by decide +kernel
theorem dX9_laneCost_39 : decode cX9_laneCost 39 = .ok (.ifCond .eq 8, 3) := by decide +kernel
theorem dX9_laneCost_42 : decode cX9_laneCost 42 = .ok (.iload 4, 2) := by decide +kernel
theorem dX9_laneCost_44 : decode cX9_laneCost 44 = .ok (.goto 9, 3) := by decide +kernel
theorem dX9_laneCost_47 : decode cX9_laneCost 47 = .ok (.iload 4, 2) := by decide +kernel
theorem dX9_laneCost_49 : decode cX9_laneCost 49 = .ok (.sipush 1025, 3) := by decide +kernel
theorem dX9_laneCost_52 : decode cX9_laneCost 52 = .ok (.imul, 1) := by decide +kernel
theorem dX9_laneCost_53 : decode cX9_laneCost 53 = .ok (.ireturn, 1) := by decide +kernel
theorem dX10_init_0 : decode cX10_init 0 = .ok (.aload_n 0, 1) := by decide +kernel
theorem dX10_init_1 : decode cX10_init 1 = .ok (.invokespecial 3, 3) := by decide +kernel
theorem dX10_init_4 : decode cX10_init 4 = .ok (.aload_n 0, 1) := by decide +kernel
theorem dX10_init_5 : decode cX10_init 5 = .ok (.bipush 30, 2) := by decide +kernel
theorem dX10_init_7 : decode cX10_init 7 = .ok (.newarray .int, 2) := by decide +kernel
theorem dX10_init_9 : decode cX10_init 9 = .ok (.putfield 9, 3) := by decide +kernel
theorem dX10_init_12 : decode cX10_init 12 = .ok (.aload_n 0, 1) := by decide +kernel
theorem dX10_init_13 : decode cX10_init 13 = .ok (.bipush 30, 2) := by decide +kernel
theorem dX10_init_15 : decode cX10_init 15 = .ok (.newarray .int, 2) := by decide +kernel
theorem dX10_init_17 : decode cX10_init 17 = .ok (.putfield 15, 3) := by decide +kernel
theorem dX10_init_20 : decode cX10_init 20 = .ok (.aload_n 0, 1) := by decide +kernel
theorem dX10_init_21 : decode cX10_init 21 = .ok (.bipush 30, 2) := by decide +kernel
theorem dX10_init_23 : decode cX10_init 23 = .ok (.newarray .int, 2) := by decide +kernel
theorem dX10_init_25 : decode cX10_init 25 = .ok (.putfield 18, 3) := by decide +kernel
theorem dX10_init_28 : decode cX10_init 28 = .ok (.return_, 1) := by decide +kernel
theorem dX10_add_0 : decode cX10_add 0 = .ok (.aload_n 0, 1) := by decide +kernel
theorem dX10_add_1 : decode cX10_add 1 = .ok (.getfield 21, 3) := by decide +kernel
theorem dX10_add_4 : decode cX10_add 4 = .ok (.bipush 30, 2) := by decide +kernel
theorem dX10_add_6 : decode cX10_add 6 = .ok (.if_icmp .ge 43, 3) := by decide +kernel
theorem dX10_add_9 : decode cX10_add 9 = .ok (.aload_n 0, 1) := by decide +kernel
theorem dX10_add_10 : decode cX10_add 10 = .ok (.getfield 9, 3) := by decide +kernel
theorem dX10_add_13 : decode cX10_add 13 = .ok (.aload_n 0, 1) := by decide +kernel
theorem dX10_add_14 : decode cX10_add 14 = .ok (.getfield 21, 3) := by decide +kernel
theorem dX10_add_17 : decode cX10_add 17 = .ok (.iload_n 1, 1) := by decide +kernel
theorem dX10_add_18 : decode cX10_add 18 = .ok (.iastore, 1) := by decide +kernel
theorem dX10_add_19 : decode cX10_add 19 = .ok (.aload_n 0, 1) := by decide +kernel
theorem dX10_add_20 : decode cX10_add 20 = .ok (.getfield 15, 3) := by decide +kernel
theorem dX10_add_23 : decode cX10_add 23 = .ok (.aload_n 0, 1) := by decide +kernel
theorem dX10_add_24 : decode cX10_add 24 = .ok (.getfield 21, 3) := by decide +kernel
theorem dX10_add_27 : decode cX10_add 27 = .ok (.iload_n 2, 1) := by decide +kernel
theorem dX10_add_28 : decode cX10_add 28 = .ok (.iastore, 1) := by decide +kernel
theorem dX10_add_29 : decode cX10_add 29 = .ok (.aload_n 0, 1) := by decide +kernel
theorem dX10_add_30 : decode cX10_add 30 = .ok (.getfield 18, 3) := by decide +kernel
theorem dX10_add_33 : decode cX10_add 33 = .ok (.aload_n 0, 1) := by decide +kernel
theorem dX10_add_34 : decode cX10_add 34 = .ok (.getfield 21, 3) := by decide +kernel
theorem dX10_add_37 : decode cX10_add 37 = .ok (.iload_n 3, 1) := by decide +kernel
theorem dX10_add_38 : decode cX10_add 38 = .ok (.iastore, 1) := by decide +kernel
theorem dX10_add_39 : decode cX10_add 39 = .ok (.aload_n 0, 1) := by decide +kernel
theorem dX10_add_40 : decode cX10_add 40 = .ok (.dup, 1) := by decide +kernel
theorem dX10_add_41 : decode cX10_add 41 = .ok (.getfield 21, 3) := by decide +kernel
theorem dX10_add_44 : decode cX10_add 44 = .ok (.iconst 1, 1) := by decide +kernel
theorem dX10_add_45 : decode cX10_add 45 = .ok (.iadd, 1) := by decide +kernel
theorem dX10_add_46 : decode cX10_add 46 = .ok (.putfield 21, 3) := by decide +kernel
theorem dX10_add_49 : decode cX10_add 49 = .ok (.return_, 1) := by decide +kernel
theorem dX11_init_0 : decode cX11_init 0 = .ok (.aload_n 0, 1) := by decide +kernel
theorem dX11_init_1 : decode cX11_init 1 = .ok (.invokespecial 1, 3) := by decide +kernel
theorem dX11_init_4 : decode cX11_init 4 = .ok (.aload_n 0, 1) := by decide +kernel
theorem dX11_init_5 : decode cX11_init 5 = .ok (.new 7, 3) := by decide +kernel
theorem dX11_init_8 : decode cX11_init 8 = .ok (.dup, 1) := by decide +kernel
theorem dX11_init_9 : decode cX11_init 9 = .ok (.invokespecial 9, 3) := by decide +kernel
theorem dX11_init_12 : decode cX11_init 12 = .ok (.putfield 10, 3) := by decide +kernel
theorem dX11_init_15 : decode cX11_init 15 = .ok (.aload_n 0, 1) := by decide +kernel
theorem dX11_init_16 : decode cX11_init 16 = .ok (.new 16, 3) := by decide +kernel
theorem dX11_init_19 : decode cX11_init 19 = .ok (.dup, 1) := by decide +kernel
theorem dX11_init_20 : decode cX11_init 20 = .ok (.invokespecial 18, 3) := by decide +kernel
theorem dX11_init_23 : decode cX11_init 23 = .ok (.putfield 19, 3) := by decide +kernel
theorem dX11_init_26 : decode cX11_init 26 = .ok (.aload_n 0, 1) := by decide +kernel
theorem dX11_init_27 : decode cX11_init 27 = .ok (.new 23, 3) := by decide +kernel
theorem dX11_init_30 : decode cX11_init 30 = .ok (.dup, 1) := by decide +kernel
theorem dX11_init_31 : decode cX11_init 31 = .ok (.invokespecial 25, 3) := by decide +kernel
theorem dX11_init_34 : decode cX11_init 34 = .ok (.putfield 26, 3) := by decide +kernel
theorem dX11_init_37 : decode cX11_init 37 = .ok (.aload_n 0, 1) := by decide +kernel
theorem dX11_init_38 : decode cX11_init 38 = .ok (.new 30, 3) := by decide +kernel
theorem dX11_init_41 : decode cX11_init 41 = .ok (.dup, 1) := by decide +kernel
theorem dX11_init_42 : decode cX11_init 42 = .ok (.invokespecial 32, 3) := by decide +kernel
theorem dX11_init_45 : decode cX11_init 45 = .ok (.putfield 33, 3) := by decide +kernel
theorem dX11_init_48 : decode cX11_init 48 = .ok (.aload_n 0, 1) := by decide +kernel
theorem dX11_init_49 : decode cX11_init 49 = .ok (.new 37, 3) := by decide +kernel
theorem dX11_init_52 : decode cX11_init 52 = .ok (.dup, 1) := by decide +kernel
theorem dX11_init_53 : decode cX11_init 53 = .ok (.invokespecial 39, 3) := by decide +kernel
theorem dX11_init_56 : decode cX11_init 56 = .ok (.putfield 40, 3) := by decide +kernel
theorem dX11_init_59 : decode cX11_init 59 = .ok (.aload_n 0, 1) := by decide +kernel
theorem dX11_init_60 : decode cX11_init 60 = .ok (.new 44, 3) := by decide +kernel
theorem dX11_init_63 : decode cX11_init 63 = .ok (.dup, 1) := by decide +kernel
theorem dX11_init_64 : decode cX11_init 64 = .ok (.invokespecial 46, 3) := by decide +kernel
theorem dX11_init_67 : decode cX11_init 67 = .ok (.putfield 47, 3) := by decide +kernel
theorem dX11_init_70 : decode cX11_init 70 = .ok (.aload_n 0, 1) := by decide +kernel
theorem dX11_init_71 : decode cX11_init 71 = .ok (.new 51, 3) := by decide +kernel
theorem dX11_init_74 : decode cX11_init 74 = .ok (.dup, 1) := by decide +kernel
theorem dX11_init_75 : decode cX11_init 75 = .ok (.invokespecial 53, 3) := by decide +kernel
theorem dX11_init_78 : decode cX11_init 78 = .ok (.putfield 54, 3) := by decide +kernel
theorem dX11_init_81 : decode cX11_init 81 = .ok (.aload_n 0, 1) := by decide +kernel
theorem dX11_init_82 : decode cX11_init 82 = .ok (.new 51, 3) := by decide +kernel
theorem dX11_init_85 : decode cX11_init 85 = .ok (.dup, 1) := by decide +kernel
theorem dX11_init_86 : decode cX11_init 86 = .ok (.invokespecial 53, 3) := by decide +kernel
theorem dX11_init_89 : decode cX11_init 89 = .ok (.putfield 58, 3) := by decide +kernel
theorem dX11_init_92 : decode cX11_init 92 = .ok (.aload_n 0, 1) := by decide +kernel
