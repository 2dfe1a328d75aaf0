theorem dX11_init_93 : decode cX11_init 93 = .ok (.new 61, 3) := by decide +kernel
theorem dX11_init_96 : decode cX11_init 96 = .ok (.dup, 1) := by decide +kernel
theorem dX11_init_97 : decode cX11_init 97 = .ok (.invokespecial 63, 3) := by decide +kernel
theorem dX11_init_100 : decode cX11_init 100 = .ok (.putfield 64, 3) := by decide +kernel
theorem dX11_init_103 : decode cX11_init 103 = .ok (.aload_n 0, 1) := by decide +kernel
theorem dX11_init_104 : decode cX11_init 104 = .ok (.new 61, 3) := by decide +kernel
theorem dX11_init_107 : decode cX11_init 107 = .ok (.dup, 1) := by decide +kernel
theorem dX11_init_108 : decode cX11_init 108 = .ok (.invokespecial 63, 3) := by decide +kernel
theorem dX11_init_111 : decode cX11_init 111 = .ok (.putfield 68, 3) := by decide +kernel
theorem dX11_init_114 : decode cX11_init 114 = .ok (.return_, 1) := by decide +kernel
theorem dX11_feed_0 : decode cX11_feed 0 = .ok (.aload_n 0, 1) := by decide +kernel
theorem dX11_feed_1 : decode cX11_feed 1 = .ok (.getfield 10, 3) := by decide +kernel
theorem dX11_feed_4 : decode cX11_feed 4 = .ok (.getfield 71, 3) := by decide +kernel
theorem dX11_feed_7 : decode cX11_feed 7 = .ok (.lload_n 1, 1) := by decide +kernel
theorem dX11_feed_8 : decode cX11_feed 8 = .ok (.invokevirtual 75, 3) := by decide +kernel
theorem dX11_feed_11 : decode cX11_feed 11 = .ok (.aload_n 0, 1) := by decide +kernel
theorem dX11_feed_12 : decode cX11_feed 12 = .ok (.getfield 10, 3) := by decide +kernel
theorem dX11_feed_15 : decode cX11_feed 15 = .ok (.getfield 71, 3) := by decide +kernel
theorem dX11_feed_18 : decode cX11_feed 18 = .ok (.lload_n 3, 1) := by decide +kernel
theorem dX11_feed_19 : decode cX11_feed 19 = .ok (.invokevirtual 75, 3) := by decide +kernel
theorem dX11_feed_22 : decode cX11_feed 22 = .ok (.aload_n 0, 1) := by decide +kernel
theorem dX11_feed_23 : decode cX11_feed 23 = .ok (.getfield 10, 3) := by decide +kernel
theorem dX11_feed_26 : decode cX11_feed 26 = .ok (.getfield 71, 3) := by decide +kernel
theorem dX11_feed_29 : decode cX11_feed 29 = .ok (.lload 5, 2) := by decide +kernel
theorem dX11_feed_31 : decode cX11_feed 31 = .ok (.invokevirtual 75, 3) := by decide +kernel
theorem dX11_feed_34 : decode cX11_feed 34 = .ok (.aload_n 0, 1) := by decide +kernel
theorem dX11_feed_35 : decode cX11_feed 35 = .ok (.getfield 10, 3) := by decide +kernel
theorem dX11_feed_38 : decode cX11_feed 38 = .ok (.getfield 71, 3) := by decide +kernel
theorem dX11_feed_41 : decode cX11_feed 41 = .ok (.getfield 81, 3) := by decide +kernel
theorem dX11_feed_44 : decode cX11_feed 44 = .ok (.ireturn, 1) := by decide +kernel
theorem dX11_town_0 : decode cX11_town 0 = .ok (.aload_n 0, 1) := by decide +kernel
theorem dX11_town_1 : decode cX11_town 1 = .ok (.getfield 10, 3) := by decide +kernel
theorem dX11_town_4 : decode cX11_town 4 = .ok (.aload_n 0, 1) := by decide +kernel
theorem dX11_town_5 : decode cX11_town 5 = .ok (.getfield 58, 3) := by decide +kernel
theorem dX11_town_8 : decode cX11_town 8 = .ok (.invokevirtual 85, 3) := by decide +kernel
theorem dX11_town_11 : decode cX11_town 11 = .ok (.istore_n 1, 1) := by decide +kernel
theorem dX11_town_12 : decode cX11_town 12 = .ok (.iload_n 1, 1) := by decide +kernel
theorem dX11_town_13 : decode cX11_town 13 = .ok (.ifCond .ne 55, 3) := by decide +kernel
theorem dX11_town_16 : decode cX11_town 16 = .ok (.aload_n 0, 1) := by decide +kernel
theorem dX11_town_17 : decode cX11_town 17 = .ok (.getfield 54, 3) := by decide +kernel
theorem dX11_town_20 : decode cX11_town 20 = .ok (.astore_n 2, 1) := by decide +kernel
theorem dX11_town_21 : decode cX11_town 21 = .ok (.aload_n 0, 1) := by decide +kernel
theorem dX11_town_22 : decode cX11_town 22 = .ok (.aload_n 0, 1) := by decide +kernel
theorem dX11_town_23 : decode cX11_town 23 = .ok (.getfield 58, 3) := by decide +kernel
theorem dX11_town_26 : decode cX11_town 26 = .ok (.putfield 54, 3) := by decide +kernel
theorem dX11_town_29 : decode cX11_town 29 = .ok (.aload_n 0, 1) := by decide +kernel
theorem dX11_town_30 : decode cX11_town 30 = .ok (.aload_n 2, 1) := by decide +kernel
theorem dX11_town_31 : decode cX11_town 31 = .ok (.putfield 58, 3) := by decide +kernel
theorem dX11_town_34 : decode cX11_town 34 = .ok (.aload_n 0, 1) := by decide +kernel
theorem dX11_town_35 : decode cX11_town 35 = .ok (.getfield 64, 3) := by decide +kernel
theorem dX11_town_38 : decode cX11_town 38 = .ok (.iconst 0, 1) := by decide +kernel
theorem dX11_town_39 : decode cX11_town 39 = .ok (.putfield 89, 3) := by decide +kernel
theorem dX11_town_42 : decode cX11_town 42 = .ok (.aload_n 0, 1) := by decide +kernel
theorem dX11_town_43 : decode cX11_town 43 = .ok (.getfield 19, 3) := by decide +kernel
theorem dX11_town_46 : decode cX11_town 46 = .ok (.aload_n 0, 1) := by decide +kernel
theorem dX11_town_47 : decode cX11_town 47 = .ok (.getfield 54, 3) := by decide +kernel
theorem dX11_town_50 : decode cX11_town 50 = .ok (.invokevirtual 92, 3) := by decide +kernel
theorem dX11_town_53 : decode cX11_town 53 = .ok (.aload_n 0, 1) := by decide +kernel
theorem dX11_town_54 : decode cX11_town 54 = .ok (.getfield 26, 3) := by decide +kernel
theorem dX11_town_57 : decode cX11_town 57 = .ok (.invokevirtual 96, 3) := by decide +kernel
theorem dX11_town_60 : decode cX11_town 60 = .ok (.aload_n 0, 1) := by decide +kernel
theorem dX11_town_61 : decode cX11_town 61 = .ok (.getfield 33, 3) := by decide +kernel
theorem dX11_town_64 : decode cX11_town 64 = .ok (.iconst 0, 1) := by decide +kernel
theorem dX11_town_65 : decode cX11_town 65 = .ok (.putfield 99, 3) := by decide +kernel
theorem dX11_town_68 : decode cX11_town 68 = .ok (.iload_n 1, 1) := by decide +kernel
theorem dX11_town_69 : decode cX11_town 69 = .ok (.ireturn, 1) := by decide +kernel
theorem dX11_year_0 : decode cX11_year 0 = .ok (.aload_n 0, 1) := by decide +kernel
theorem dX11_year_1 : decode cX11_year 1 = .ok (.getfield 10, 3) := by decide +kernel
theorem dX11_year_4 : decode cX11_year 4 = .ok (.aload_n 0, 1) := by decide +kernel
theorem dX11_year_5 : decode cX11_year 5 = .ok (.getfield 68, 3) := by decide +kernel
theorem dX11_year_8 : decode cX11_year 8 = .ok (.aload_n 0, 1) := by decide +kernel
theorem dX11_year_9 : decode cX11_year 9 = .ok (.getfield 54, 3) := by decide +kernel
theorem dX11_year_12 : decode cX11_year 12 = .ok (.getfield 102, 3) := by decide +kernel
theorem dX11_year_15 : decode cX11_year 15 = .ok (.invokevirtual 105, 3) := by decide +kernel
theorem dX11_year_18 : decode cX11_year 18 = .ok (.istore_n 1, 1) := by decide +kernel
theorem dX11_year_19 : decode cX11_year 19 = .ok (.iload_n 1, 1) := by decide +kernel
theorem dX11_year_20 : decode cX11_year 20 = .ok (.ifCond .ne 21, 3) := by decide +kernel
theorem dX11_year_23 : decode cX11_year 23 = .ok (.aload_n 0, 1) := by decide +kernel
theorem dX11_year_24 : decode cX11_year 24 = .ok (.getfield 64, 3) := by decide +kernel
theorem dX11_year_27 : decode cX11_year 27 = .ok (.astore_n 2, 1) := by decide +kernel
theorem dX11_year_28 : decode cX11_year 28 = .ok (.aload_n 0, 1) := by decide +kernel
theorem dX11_year_29 : decode cX11_year 29 = .ok (.aload_n 0, 1) := by decide +kernel
theorem dX11_year_30 : decode cX11_year 30 = .ok (.getfield 68, 3) := by decide +kernel
theorem dX11_year_33 : decode cX11_year 33 = .ok (.putfield 64, 3) := by decide +kernel
theorem dX11_year_36 : decode cX11_year 36 = .ok (.aload_n 0, 1) := by decide +kernel
theorem dX11_year_37 : decode cX11_year 37 = .ok (.aload_n 2, 1) := by decide +kernel
theorem dX11_year_38 : decode cX11_year 38 = .ok (.putfield 68, 3) := by decide +kernel
theorem dX11_year_41 : decode cX11_year 41 = .ok (.iload_n 1, 1) := by decide +kernel
theorem dX11_year_42 : decode cX11_year 42 = .ok (.ireturn, 1) := by decide +kernel
theorem dX11_person_0 : decode cX11_person 0 = .ok (.aload_n 0, 1) := by decide +kernel
theorem dX11_person_1 : decode cX11_person 1 = .ok (.getfield 54, 3) := by decide +kernel
theorem dX11_person_4 : decode cX11_person 4 = .ok (.iload_n 1, 1) := by decide +kernel
theorem dX11_person_5 : decode cX11_person 5 = .ok (.invokevirtual 109, 3) := by decide +kernel
theorem dX11_person_8 : decode cX11_person 8 = .ok (.ifCond .ne 5, 3) := by decide +kernel
theorem dX11_person_11 : decode cX11_person 11 = .ok (.iconst (-1), 1) := by decide +kernel
theorem dX11_person_12 : decode cX11_person 12 = .ok (.ireturn, 1) := by decide +kernel
theorem dX11_person_13 : decode cX11_person 13 = .ok (.iload_n 2, 1) := by decide +kernel
theorem dX11_person_14 : decode cX11_person 14 = .ok (.tableswitch 56 0 2 #[26, 36, 46], 26) := by decide +kernel
theorem dX11_person_40 : decode cX11_person 40 = .ok (.aload_n 0, 1) := by decide +kernel
theorem dX11_person_41 : decode cX11_person 41 = .ok (.getfield 54, 3) := by decide +kernel
theorem dX11_person_44 : decode cX11_person 44 = .ok (.getfield 113, 3) := by decide +kernel
theorem dX11_person_47 : decode cX11_person 47 = .ok (.iload_n 1, 1) := by decide +kernel
theorem dX11_person_48 : decode cX11_person 48 = .ok (.iaload, 1) := by decide +kernel
theorem dX11_person_49 : decode cX11_person 49 = .ok (.ireturn, 1) := by decide +kernel
theorem dX11_person_50 : decode cX11_person 50 = .ok (.aload_n 0, 1) := by decide +kernel
theorem dX11_person_51 : decode cX11_person 51 = .ok (.getfield 19, 3) := by decide +kernel
theorem dX11_person_54 : decode cX11_person 54 = .ok (.getfield 117, 3) := by decide +kernel
theorem dX11_person_57 : decode cX11_person 57 = .ok (.iload_n 1, 1) := by decide +kernel
theorem dX11_person_58 : decode cX11_person 58 = .ok (.iaload, 1) := by decide +kernel
theorem dX11_person_59 : decode cX11_person 59 = .ok (.ireturn, 1) := by decide +kernel
theorem dX11_person_60 : decode cX11_person 60 = .ok (.aload_n 0, 1) := by decide +kernel
theorem dX11_person_61 : decode cX11_person 61 = .ok (.getfield 19, 3) := by decide +kernel
theorem dX11_person_64 : decode cX11_person 64 = .ok (.getfield 120, 3) := by decide +kernel
theorem dX11_person_67 : decode cX11_person 67 = .ok (.iload_n 1, 1) := by decide +kernel
theorem dX11_person_68 : decode cX11_person 68 = .ok (.iaload, 1) := by decide +kernel
theorem dX11_person_69 : decode cX11_person 69 = .ok (.ireturn, 1) := by decide +kernel
theorem dX11_person_70 : decode cX11_person 70 = .ok (.iconst (-1), 1) := by decide +kernel
theorem dX11_person_71 : decode cX11_person 71 = .ok (.ireturn, 1) := by decide +kernel
theorem dX11_wrong_0 : decode cX11_wrong 0 = .ok (.aload_n 0, 1) := by decide +kernel
theorem dX11_wrong_1 : decode cX11_wrong 1 = .ok (.getfield 54, 3) := by decide +kernel
theorem dX11_wrong_4 : decode cX11_wrong 4 = .ok (.iload_n 1, 1) := by decide +kernel
theorem dX11_wrong_5 : decode cX11_wrong 5 = .ok (.invokevirtual 123, 3) := by decide +kernel
theorem dX11_wrong_8 : decode cX11_wrong 8 = .ok (.ifCond .ne 5, 3) := by decide +kernel
theorem dX11_wrong_11 : decode cX11_wrong 11 = .ok (.iconst (-1), 1) := by decide +kernel
theorem dX11_wrong_12 : decode cX11_wrong 12 = .ok (.ireturn, 1) := by decide +kernel
theorem dX11_wrong_13 : decode cX11_wrong 13 = .ok (.iload_n 2, 1) := by decide +kernel
theorem dX11_wrong_14 : decode cX11_wrong 14 = .ok (.tableswitch 125 0 6 #[42, 52, 62, 72, 82, 99, 116], 42) := by decide +kernel
theorem dX11_wrong_56 : decode cX11_wrong 56 = .ok (.aload_n 0, 1) := by decide +kernel
theorem dX11_wrong_57 : decode cX11_wrong 57 = .ok (.getfield 54, 3) := by decide +kernel
theorem dX11_wrong_60 : decode cX11_wrong 60 = .ok (.getfield 126, 3) := by decide +kernel
theorem dX11_wrong_63 : decode cX11_wrong 63 = .ok (.iload_n 1, 1) := by decide +kernel
theorem dX11_wrong_64 : decode cX11_wrong 64 = .ok (.iaload, 1) := by decide +kernel
theorem dX11_wrong_65 : decode cX11_wrong 65 = .ok (.ireturn, 1) := by decide +kernel
theorem dX11_wrong_66 : decode cX11_wrong 66 = .ok (.aload_n 0, 1) := by decide +kernel
theorem dX11_wrong_67 : decode cX11_wrong 67 = .ok (.getfield 54, 3) := by decide +kernel
theorem dX11_wrong_70 : decode cX11_wrong 70 = .ok (.getfield 129, 3) := by decide +kernel
theorem dX11_wrong_73 : decode cX11_wrong 73 = .ok (.iload_n 1, 1) := by decide +kernel
theorem dX11_wrong_74 : decode cX11_wrong 74 = .ok (.iaload, 1) := by decide +kernel
theorem dX11_wrong_75 : decode cX11_wrong 75 = .ok (.ireturn, 1) := by decide +kernel
theorem dX11_wrong_76 : decode cX11_wrong 76 = .ok (.aload_n 0, 1) := by decide +kernel
theorem dX11_wrong_77 : decode cX11_wrong 77 = .ok (.getfield 54, 3) := by decide +kernel
theorem dX11_wrong_80 : decode cX11_wrong 80 = .ok (.getfield 132, 3) := by decide +kernel
theorem dX11_wrong_83 : decode cX11_wrong 83 = .ok (.iload_n 1, 1) := by decide +kernel
theorem dX11_wrong_84 : decode cX11_wrong 84 = .ok (.iaload, 1) := by decide +kernel
theorem dX11_wrong_85 : decode cX11_wrong 85 = .ok (.ireturn, 1) := by decide +kernel
theorem dX11_wrong_86 : decode cX11_wrong 86 = .ok (.aload_n 0, 1) := by decide +kernel
theorem dX11_wrong_87 : decode cX11_wrong 87 = .ok (.getfield 19, 3) := by decide +kernel
theorem dX11_wrong_90 : decode cX11_wrong 90 = .ok (.getfield 135, 3) := by decide +kernel
theorem dX11_wrong_93 : decode cX11_wrong 93 = .ok (.iload_n 1, 1) := by decide +kernel
theorem dX11_wrong_94 : decode cX11_wrong 94 = .ok (.iaload, 1) := by decide +kernel
theorem dX11_wrong_95 : decode cX11_wrong 95 = .ok (.ireturn, 1) := by decide +kernel
theorem dX11_wrong_96 : decode cX11_wrong 96 = .ok (.aload_n 0, 1) := by decide +kernel
theorem dX11_wrong_97 : decode cX11_wrong 97 = .ok (.getfield 19, 3) := by decide +kernel
theorem dX11_wrong_100 : decode cX11_wrong 100 = .ok (.iload_n 1, 1) := by decide +kernel
theorem dX11_wrong_101 : decode cX11_wrong 101 = .ok (.invokevirtual 138, 3) := by decide +kernel
theorem dX11_wrong_104 : decode cX11_wrong 104 = .ok (.ifCond .eq 7, 3) := by decide +kernel
theorem dX11_wrong_107 : decode cX11_wrong 107 = .ok (.iconst 1, 1) := by decide +kernel
theorem dX11_wrong_108 : decode cX11_wrong 108 = .ok (.goto 4, 3) := by decide +kernel
theorem dX11_wrong_111 : decode cX11_wrong 111 = .ok (.iconst 0, 1) := by decide +kernel
theorem dX11_wrong_112 : decode cX11_wrong 112 = .ok (.ireturn, 1) := by decide +kernel
theorem dX11_wrong_113 : decode cX11_wrong 113 = .ok (.aload_n 0, 1) := by decide +kernel
theorem dX11_wrong_114 : decode cX11_wrong 114 = .ok (.getfield 19, 3) := by decide +kernel
theorem dX11_wrong_117 : decode cX11_wrong 117 = .ok (.iload_n 1, 1) := by decide +kernel
theorem dX11_wrong_118 : decode cX11_wrong 118 = .ok (.invokevirtual 141, 3) := by decide +kernel
theorem dX11_wrong_121 : decode cX11_wrong 121 = .ok (.ifCond .eq 7, 3) := by decide +kernel
theorem dX11_wrong_124 : decode cX11_wrong 124 = .ok (.iconst 1, 1) := by decide +kernel
theorem dX11_wrong_125 : decode cX11_wrong 125 = .ok (.goto 4, 3) := by decide +kernel
theorem dX11_wrong_128 : decode cX11_wrong 128 = .ok (.iconst 0, 1) := by decide +kernel
theorem dX11_wrong_129 : decode cX11_wrong 129 = .ok (.ireturn, 1) := by decide +kernel
theorem dX11_wrong_130 : decode cX11_wrong 130 = .ok (.aload_n 0, 1) := by decide +kernel
theorem dX11_wrong_131 : decode cX11_wrong 131 = .ok (.getfield 54, 3) := by decide +kernel
theorem dX11_wrong_134 : decode cX11_wrong 134 = .ok (.iload_n 1, 1) := by decide +kernel
theorem dX11_wrong_135 : decode cX11_wrong 135 = .ok (.invokevirtual 144, 3) := by decide +kernel
theorem dX11_wrong_138 : decode cX11_wrong 138 = .ok (.ireturn, 1) := by decide +kernel
theorem dX11_wrong_139 : decode cX11_wrong 139 = .ok (.iconst (-1), 1) := by decide +kernel
theorem dX11_wrong_140 : decode cX11_wrong 140 = .ok (.ireturn, 1) := by decide +kernel
theorem dX11_lamps_0 : decode cX11_lamps 0 = .ok (.aload_n 0, 1) := by decide +kernel
theorem dX11_lamps_1 : decode cX11_lamps 1 = .ok (.getfield 19, 3) := by decide +kernel
theorem dX11_lamps_4 : decode cX11_lamps 4 = .ok (.iconst 0, 1) := by decide +kernel
theorem dX11_lamps_5 : decode cX11_lamps 5 = .ok (.invokevirtual 148, 3) := by decide +kernel
theorem dX11_lamps_8 : decode cX11_lamps 8 = .ok (.ireturn, 1) := by decide +kernel
theorem dX11_dark_0 : decode cX11_dark 0 = .ok (.aload_n 0, 1) := by decide +kernel
theorem dX11_dark_1 : decode cX11_dark 1 = .ok (.getfield 54, 3) := by decide +kernel
theorem dX11_dark_4 : decode cX11_dark 4 = .ok (.iload_n 1, 1) := by decide +kernel
theorem dX11_dark_5 : decode cX11_dark 5 = .ok (.iload_n 2, 1) := by decide +kernel
theorem dX11_dark_6 : decode cX11_dark 6 = .ok (.invokevirtual 151, 3) := by decide +kernel
theorem dX11_dark_9 : decode cX11_dark 9 = .ok (.ifCond .eq 12, 3) := by decide +kernel
theorem dX11_dark_12 : decode cX11_dark 12 = .ok (.iload_n 3, 1) := by decide +kernel
theorem dX11_dark_13 : decode cX11_dark 13 = .ok (.iconst 0, 1) := by decide +kernel
theorem dX11_dark_14 : decode cX11_dark 14 = .ok (.iconst 2, 1) := by decide +kernel
theorem dX11_dark_15 : decode cX11_dark 15 = .ok (.invokestatic 155, 3) := by decide +kernel
theorem dX11_dark_18 : decode cX11_dark 18 = .ok (.ifCond .ne 5, 3) := by decide +kernel
theorem dX11_dark_21 : decode cX11_dark 21 = .ok (.iconst (-1), 1) := by decide +kernel
theorem dX11_dark_22 : decode cX11_dark 22 = .ok (.ireturn, 1) := by decide +kernel
theorem dX11_dark_23 : decode cX11_dark 23 = .ok (.aload_n 0, 1) := by decide +kernel
theorem dX11_dark_24 : decode cX11_dark 24 = .ok (.getfield 19, 3) := by decide +kernel
theorem dX11_dark_27 : decode cX11_dark 27 = .ok (.iconst 0, 1) := by decide +kernel
theorem dX11_dark_28 : decode cX11_dark 28 = .ok (.invokevirtual 148, 3) := by decide +kernel
theorem dX11_dark_31 : decode cX11_dark 31 = .ok (.istore 4, 2) := by decide +kernel
theorem dX11_dark_33 : decode cX11_dark 33 = .ok (.aload_n 0, 1) := by decide +kernel
theorem dX11_dark_34 : decode cX11_dark 34 = .ok (.getfield 54, 3) := by decide +kernel
theorem dX11_dark_37 : decode cX11_dark 37 = .ok (.getfield 159, 3) := by decide +kernel
theorem dX11_dark_40 : decode cX11_dark 40 = .ok (.iload 4, 2) := by decide +kernel
theorem dX11_dark_42 : decode cX11_dark 42 = .ok (.iload_n 1, 1) := by decide +kernel
theorem dX11_dark_43 : decode cX11_dark 43 = .ok (.iload_n 2, 1) := by decide +kernel
theorem dX11_dark_44 : decode cX11_dark 44 = .ok (.invokevirtual 163, 3) := by decide +kernel
theorem dX11_dark_47 : decode cX11_dark 47 = .ok (.ifCond .ne 5, 3) := by decide +kernel
theorem dX11_dark_50 : decode cX11_dark 50 = .ok (.iconst (-1), 1) := by decide +kernel
theorem dX11_dark_51 : decode cX11_dark 51 = .ok (.ireturn, 1) := by decide +kernel
theorem dX11_dark_52 : decode cX11_dark 52 = .ok (.iload_n 3, 1) := by decide +kernel
theorem dX11_dark_53 : decode cX11_dark 53 = .ok (.lookupswitch 57 #[(0, 27), (1, 42)], 27) := by decide +kernel
theorem dX11_dark_80 : decode cX11_dark 80 = .ok (.aload_n 0, 1) := by decide +kernel
theorem dX11_dark_81 : decode cX11_dark 81 = .ok (.getfield 54, 3) := by decide +kernel
theorem dX11_dark_84 : decode cX11_dark 84 = .ok (.getfield 159, 3) := by decide +kernel
theorem dX11_dark_87 : decode cX11_dark 87 = .ok (.iload 4, 2) := by decide +kernel
theorem dX11_dark_89 : decode cX11_dark 89 = .ok (.iload_n 1, 1) := by decide +kernel
theorem dX11_dark_90 : decode cX11_dark 90 = .ok (.iload_n 2, 1) := by decide +kernel
theorem dX11_dark_91 : decode cX11_dark 91 = .ok (.invokevirtual 168, 3) := by decide +kernel
theorem dX11_dark_94 : decode cX11_dark 94 = .ok (.ireturn, 1) := by decide +kernel
theorem dX11_dark_95 : decode cX11_dark 95 = .ok (.aload_n 0, 1) := by decide +kernel
theorem dX11_dark_96 : decode cX11_dark 96 = .ok (.getfield 54, 3) := by decide +kernel
theorem dX11_dark_99 : decode cX11_dark 99 = .ok (.getfield 159, 3) := by decide +kernel
theorem dX11_dark_102 : decode cX11_dark 102 = .ok (.iload 4, 2) := by decide +kernel
theorem dX11_dark_104 : decode cX11_dark 104 = .ok (.iload_n 1, 1) := by decide +kernel
theorem dX11_dark_105 : decode cX11_dark 105 = .ok (.iload_n 2, 1) := by decide +kernel
theorem dX11_dark_106 : decode cX11_dark 106 = .ok (.invokevirtual 172, 3) := by decide +kernel
theorem dX11_dark_109 : decode cX11_dark 109 = .ok (.ireturn, 1) := by decide +kernel
theorem dX11_dark_110 : decode cX11_dark 110 = .ok (.aload_n 0, 1) := by decide +kernel
theorem dX11_dark_111 : decode cX11_dark 111 = .ok (.getfield 54, 3) := by decide +kernel
theorem dX11_dark_114 : decode cX11_dark 114 = .ok (.getfield 159, 3) := by decide +kernel
theorem dX11_dark_117 : decode cX11_dark 117 = .ok (.iload 4, 2) := by decide +kernel
theorem dX11_dark_119 : decode cX11_dark 119 = .ok (.iload_n 1, 1) := by decide +kernel
theorem dX11_dark_120 : decode cX11_dark 120 = .ok (.iload_n 2, 1) := by decide +kernel
theorem dX11_dark_121 : decode cX11_dark 121 = .ok (.invokevirtual 175, 3) := by decide +kernel
theorem dX11_dark_124 : decode cX11_dark 124 = .ok (.ireturn, 1) := by decide +kernel
theorem dX11_harm_0 : decode cX11_harm 0 = .ok (.aload_n 0, 1) := by decide +kernel
theorem dX11_harm_1 : decode cX11_harm 1 = .ok (.getfield 54, 3) := by decide +kernel
theorem dX11_harm_4 : decode cX11_harm 4 = .ok (.getfield 159, 3) := by decide +kernel
theorem dX11_harm_7 : decode cX11_harm 7 = .ok (.aload_n 0, 1) := by decide +kernel
theorem dX11_harm_8 : decode cX11_harm 8 = .ok (.getfield 19, 3) := by decide +kernel
theorem dX11_harm_11 : decode cX11_harm 11 = .ok (.iconst 0, 1) := by decide +kernel
theorem dX11_harm_12 : decode cX11_harm 12 = .ok (.invokevirtual 148, 3) := by decide +kernel
theorem dX11_harm_15 : decode cX11_harm 15 = .ok (.invokevirtual 178, 3) := by decide +kernel
theorem dX11_harm_18 : decode cX11_harm 18 = .ok (.ireturn, 1) := by decide +kernel
theorem dX11_say_0 : decode cX11_say 0 = .ok (.aload_n 0, 1) := by decide +kernel
theorem dX11_say_1 : decode cX11_say 1 = .ok (.getfield 54, 3) := by decide +kernel
theorem dX11_say_4 : decode cX11_say 4 = .ok (.iload_n 1, 1) := by decide +kernel
theorem dX11_say_5 : decode cX11_say 5 = .ok (.invokevirtual 123, 3) := by decide +kernel
theorem dX11_say_8 : decode cX11_say 8 = .ok (.ifCond .eq 25, 3) := by decide +kernel
theorem dX11_say_11 : decode cX11_say 11 = .ok (.aload_n 0, 1) := by decide +kernel
theorem dX11_say_12 : decode cX11_say 12 = .ok (.iconst 0, 1) := by decide +kernel
theorem dX11_say_13 : decode cX11_say 13 = .ok (.iload_n 1, 1) := by decide +kernel
theorem dX11_say_14 : decode cX11_say 14 = .ok (.iconst 0, 1) := by decide +kernel
theorem dX11_say_15 : decode cX11_say 15 = .ok (.invokevirtual 181, 3) := by decide +kernel
theorem dX11_say_18 : decode cX11_say 18 = .ok (.ifCond .eq 15, 3) := by decide +kernel
theorem dX11_say_21 : decode cX11_say 21 = .ok (.aload_n 0, 1) := by decide +kernel
theorem dX11_say_22 : decode cX11_say 22 = .ok (.getfield 19, 3) := by decide +kernel
theorem dX11_say_25 : decode cX11_say 25 = .ok (.getfield 135, 3) := by decide +kernel
theorem dX11_say_28 : decode cX11_say 28 = .ok (.iload_n 1, 1) := by decide +kernel
theorem dX11_say_29 : decode cX11_say 29 = .ok (.iaload, 1) := by decide +kernel
theorem dX11_say_30 : decode cX11_say 30 = .ok (.goto 4, 3) := by decide +kernel
theorem dX11_say_33 : decode cX11_say 33 = .ok (.iconst (-1), 1) := by decide +kernel
theorem dX11_say_34 : decode cX11_say 34 = .ok (.ireturn, 1) := by decide +kernel
theorem dX11_give_0 : decode cX11_give 0 = .ok (.aload_n 0, 1) := by decide +kernel
theorem dX11_give_1 : decode cX11_give 1 = .ok (.getfield 54, 3) := by decide +kernel
theorem dX11_give_4 : decode cX11_give 4 = .ok (.iload_n 1, 1) := by decide +kernel
theorem dX11_give_5 : decode cX11_give 5 = .ok (.invokevirtual 123, 3) := by decide +kernel
theorem dX11_give_8 : decode cX11_give 8 = .ok (.ifCond .eq 13, 3) := by decide +kernel
theorem dX11_give_11 : decode cX11_give 11 = .ok (.iload_n 2, 1) := by decide +kernel
theorem dX11_give_12 : decode cX11_give 12 = .ok (.iconst 1, 1) := by decide +kernel
theorem dX11_give_13 : decode cX11_give 13 = .ok (.bipush 99, 2) := by decide +kernel
theorem dX11_give_15 : decode cX11_give 15 = .ok (.invokestatic 155, 3) := by decide +kernel
theorem dX11_give_18 : decode cX11_give 18 = .ok (.ifCond .ne 5, 3) := by decide +kernel
theorem dX11_give_21 : decode cX11_give 21 = .ok (.iconst (-1), 1) := by decide +kernel
theorem dX11_give_22 : decode cX11_give 22 = .ok (.ireturn, 1) := by decide +kernel
theorem dX11_give_23 : decode cX11_give 23 = .ok (.aload_n 0, 1) := by decide +kernel
theorem dX11_give_24 : decode cX11_give 24 = .ok (.iconst 1, 1) := by decide +kernel
theorem dX11_give_25 : decode cX11_give 25 = .ok (.iload_n 1, 1) := by decide +kernel
theorem dX11_give_26 : decode cX11_give 26 = .ok (.iload_n 2, 1) := by decide +kernel
theorem dX11_give_27 : decode cX11_give 27 = .ok (.invokevirtual 181, 3) := by decide +kernel
theorem dX11_give_30 : decode cX11_give 30 = .ok (.ifCond .eq 15, 3) := by decide +kernel
theorem dX11_give_33 : decode cX11_give 33 = .ok (.aload_n 0, 1) := by decide +kernel
theorem dX11_give_34 : decode cX11_give 34 = .ok (.getfield 19, 3) := by decide +kernel
theorem dX11_give_37 : decode cX11_give 37 = .ok (.getfield 135, 3) := by decide +kernel
theorem dX11_give_40 : decode cX11_give 40 = .ok (.iload_n 1, 1) := by decide +kernel
theorem dX11_give_41 : decode cX11_give 41 = .ok (.iaload, 1) := by decide +kernel
theorem dX11_give_42 : decode cX11_give 42 = .ok (.goto 4, 3) := by decide +kernel
theorem dX11_give_45 : decode cX11_give 45 = .ok (.iconst (-1), 1) := by decide +kernel
theorem dX11_give_46 : decode cX11_give 46 = .ok (.ireturn, 1) := by decide +kernel
theorem dX11_ask_0 : decode cX11_ask 0 = .ok (.aload_n 0, 1) := by decide +kernel
theorem dX11_ask_1 : decode cX11_ask 1 = .ok (.getfield 54, 3) := by decide +kernel
theorem dX11_ask_4 : decode cX11_ask 4 = .ok (.iload_n 1, 1) := by decide +kernel
theorem dX11_ask_5 : decode cX11_ask 5 = .ok (.invokevirtual 123, 3) := by decide +kernel
theorem dX11_ask_8 : decode cX11_ask 8 = .ok (.ifCond .eq 13, 3) := by decide +kernel
theorem dX11_ask_11 : decode cX11_ask 11 = .ok (.aload_n 0, 1) := by decide +kernel
theorem dX11_ask_12 : decode cX11_ask 12 = .ok (.iconst 2, 1) := by decide +kernel
theorem dX11_ask_13 : decode cX11_ask 13 = .ok (.iload_n 1, 1) := by decide +kernel
theorem dX11_ask_14 : decode cX11_ask 14 = .ok (.iconst 0, 1) := by decide +kernel
theorem dX11_ask_15 : decode cX11_ask 15 = .ok (.invokevirtual 181, 3) := by decide +kernel
theorem dX11_ask_18 : decode cX11_ask 18 = .ok (.ifCond .ne 5, 3) := by decide +kernel
theorem dX11_ask_21 : decode cX11_ask 21 = .ok (.iconst (-1), 1) := by decide +kernel
theorem dX11_ask_22 : decode cX11_ask 22 = .ok (.ireturn, 1) := by decide +kernel
theorem dX11_ask_23 : decode cX11_ask 23 = .ok (.aload_n 0, 1) := by decide +kernel
theorem dX11_ask_24 : decode cX11_ask 24 = .ok (.getfield 19, 3) := by decide +kernel
theorem dX11_ask_27 : decode cX11_ask 27 = .ok (.iload_n 1, 1) := by decide +kernel
theorem dX11_ask_28 : decode cX11_ask 28 = .ok (.invokevirtual 138, 3) := by decide +kernel
theorem dX11_ask_31 : decode cX11_ask 31 = .ok (.ifCond .eq 7, 3) := by decide +kernel
theorem dX11_ask_34 : decode cX11_ask 34 = .ok (.iconst 1, 1) := by decide +kernel
theorem dX11_ask_35 : decode cX11_ask 35 = .ok (.goto 4, 3) := by decide +kernel
theorem dX11_ask_38 : decode cX11_ask 38 = .ok (.iconst 0, 1) := by decide +kernel
theorem dX11_ask_39 : decode cX11_ask 39 = .ok (.ireturn, 1) := by decide +kernel
theorem dX11_night_0 : decode cX11_night 0 = .ok (.aload_n 0, 1) := by decide +kernel
theorem dX11_night_1 : decode cX11_night 1 = .ok (.getfield 19, 3) := by decide +kernel
theorem dX11_night_4 : decode cX11_night 4 = .ok (.getfield 184, 3) := by decide +kernel
theorem dX11_night_7 : decode cX11_night 7 = .ok (.istore_n 1, 1) := by decide +kernel
theorem dX11_night_8 : decode cX11_night 8 = .ok (.aload_n 0, 1) := by decide +kernel
theorem dX11_night_9 : decode cX11_night 9 = .ok (.getfield 26, 3) := by decide +kernel
theorem dX11_night_12 : decode cX11_night 12 = .ok (.aload_n 0, 1) := by decide +kernel
theorem dX11_night_13 : decode cX11_night 13 = .ok (.getfield 19, 3) := by decide +kernel
theorem dX11_night_16 : decode cX11_night 16 = .ok (.invokevirtual 187, 3) := by decide +kernel
theorem dX11_night_19 : decode cX11_night 19 = .ok (.aload_n 0, 1) := by decide +kernel
theorem dX11_night_20 : decode cX11_night 20 = .ok (.getfield 19, 3) := by decide +kernel
theorem dX11_night_23 : decode cX11_night 23 = .ok (.aload_n 0, 1) := by decide +kernel
theorem dX11_night_24 : decode cX11_night 24 = .ok (.getfield 54, 3) := by decide +kernel
theorem dX11_night_27 : decode cX11_night 27 = .ok (.invokevirtual 191, 3) := by decide +kernel
theorem dX11_night_30 : decode cX11_night 30 = .ok (.aload_n 0, 1) := by decide +kernel
theorem dX11_night_31 : decode cX11_night 31 = .ok (.getfield 19, 3) := by decide +kernel
theorem dX11_night_34 : decode cX11_night 34 = .ok (.getfield 184, 3) := by decide +kernel
theorem dX11_night_37 : decode cX11_night 37 = .ok (.iload_n 1, 1) := by decide +kernel
theorem dX11_night_38 : decode cX11_night 38 = .ok (.isub, 1) := by decide +kernel
theorem dX11_night_39 : decode cX11_night 39 = .ok (.ireturn, 1) := by decide +kernel
theorem dX11_doByHand_0 : decode cX11_doByHand 0 = .ok (.aload_n 0, 1) := by decide +kernel
theorem dX11_doByHand_1 : decode cX11_doByHand 1 = .ok (.getfield 19, 3) := by decide +kernel
theorem dX11_doByHand_4 : decode cX11_doByHand 4 = .ok (.aload_n 0, 1) := by decide +kernel
theorem dX11_doByHand_5 : decode cX11_doByHand 5 = .ok (.getfield 54, 3) := by decide +kernel
theorem dX11_doByHand_8 : decode cX11_doByHand 8 = .ok (.iload_n 1, 1) := by decide +kernel
theorem dX11_doByHand_9 : decode cX11_doByHand 9 = .ok (.iload_n 2, 1) := by decide +kernel
theorem dX11_doByHand_10 : decode cX11_doByHand 10 = .ok (.iload_n 3, 1) := by decide +kernel
theorem dX11_doByHand_11 : decode cX11_doByHand 11 = .ok (.invokevirtual 194, 3) := by decide +kernel
theorem dX11_doByHand_14 : decode cX11_doByHand 14 = .ok (.ifCond .ne 5, 3) := by decide +kernel
theorem dX11_doByHand_17 : decode cX11_doByHand 17 = .ok (.iconst 0, 1) := by decide +kernel
theorem dX11_doByHand_18 : decode cX11_doByHand 18 = .ok (.ireturn, 1) := by decide +kernel
theorem dX11_doByHand_19 : decode cX11_doByHand 19 = .ok (.aload_n 0, 1) := by decide +kernel
theorem dX11_doByHand_20 : decode cX11_doByHand 20 = .ok (.getfield 26, 3) := by decide +kernel
theorem dX11_doByHand_23 : decode cX11_doByHand 23 = .ok (.aload_n 0, 1) := by decide +kernel
theorem dX11_doByHand_24 : decode cX11_doByHand 24 = .ok (.getfield 19, 3) := by decide +kernel
theorem dX11_doByHand_27 : decode cX11_doByHand 27 = .ok (.invokevirtual 187, 3) := by decide +kernel
theorem dX11_doByHand_30 : decode cX11_doByHand 30 = .ok (.aload_n 0, 1) := by decide +kernel
theorem dX11_doByHand_31 : decode cX11_doByHand 31 = .ok (.getfield 19, 3) := by decide +kernel
theorem dX11_doByHand_34 : decode cX11_doByHand 34 = .ok (.aload_n 0, 1) := by decide +kernel
theorem dX11_doByHand_35 : decode cX11_doByHand 35 = .ok (.getfield 54, 3) := by decide +kernel
theorem dX11_doByHand_38 : decode cX11_doByHand 38 = .ok (.iload_n 1, 1) := by decide +kernel
theorem dX11_doByHand_39 : decode cX11_doByHand 39 = .ok (.iload_n 2, 1) := by decide +kernel
theorem dX11_doByHand_40 : decode cX11_doByHand 40 = .ok (.iload_n 3, 1) := by decide +kernel
theorem dX11_doByHand_41 : decode cX11_doByHand 41 = .ok (.invokevirtual 198, 3) := by decide +kernel
theorem dX11_doByHand_44 : decode cX11_doByHand 44 = .ok (.iconst 1, 1) := by decide +kernel
theorem dX11_doByHand_45 : decode cX11_doByHand 45 = .ok (.ireturn, 1) := by decide +kernel
theorem dX11_undo_0 : decode cX11_undo 0 = .ok (.aload_n 0, 1) := by decide +kernel
theorem dX11_undo_1 : decode cX11_undo 1 = .ok (.getfield 26, 3) := by decide +kernel
theorem dX11_undo_4 : decode cX11_undo 4 = .ok (.aload_n 0, 1) := by decide +kernel
theorem dX11_undo_5 : decode cX11_undo 5 = .ok (.getfield 19, 3) := by decide +kernel
theorem dX11_undo_8 : decode cX11_undo 8 = .ok (.invokevirtual 202, 3) := by decide +kernel
theorem dX11_undo_11 : decode cX11_undo 11 = .ok (.ireturn, 1) := by decide +kernel
theorem dX11_judged_0 : decode cX11_judged 0 = .ok (.iload_n 1, 1) := by decide +kernel
theorem dX11_judged_1 : decode cX11_judged 1 = .ok (.iconst 0, 1) := by decide +kernel
theorem dX11_judged_2 : decode cX11_judged 2 = .ok (.iconst 2, 1) := by decide +kernel
theorem dX11_judged_3 : decode cX11_judged 3 = .ok (.invokestatic 155, 3) := by decide +kernel
theorem dX11_judged_6 : decode cX11_judged 6 = .ok (.ifCond .eq 22, 3) := by decide +kernel
theorem dX11_judged_9 : decode cX11_judged 9 = .ok (.aload_n 0, 1) := by decide +kernel
theorem dX11_judged_10 : decode cX11_judged 10 = .ok (.getfield 40, 3) := by decide +kernel
theorem dX11_judged_13 : decode cX11_judged 13 = .ok (.aload_n 0, 1) := by decide +kernel
theorem dX11_judged_14 : decode cX11_judged 14 = .ok (.getfield 54, 3) := by decide +kernel
theorem dX11_judged_17 : decode cX11_judged 17 = .ok (.aload_n 0, 1) := by decide +kernel
theorem dX11_judged_18 : decode cX11_judged 18 = .ok (.getfield 64, 3) := by decide +kernel
theorem dX11_judged_21 : decode cX11_judged 21 = .ok (.iload_n 1, 1) := by decide +kernel
theorem dX11_judged_22 : decode cX11_judged 22 = .ok (.invokevirtual 206, 3) := by decide +kernel
theorem dX11_judged_25 : decode cX11_judged 25 = .ok (.goto 5, 3) := by decide +kernel
theorem dX11_judged_28 : decode cX11_judged 28 = .ok (.bipush (-2), 2) := by decide +kernel
theorem dX11_judged_30 : decode cX11_judged 30 = .ok (.ireturn, 1) := by decide +kernel
theorem dX11_pay_0 : decode cX11_pay 0 = .ok (.aload_n 0, 1) := by decide +kernel
theorem dX11_pay_1 : decode cX11_pay 1 = .ok (.getfield 54, 3) := by decide +kernel
theorem dX11_pay_4 : decode cX11_pay 4 = .ok (.iload_n 1, 1) := by decide +kernel
theorem dX11_pay_5 : decode cX11_pay 5 = .ok (.iload_n 2, 1) := by decide +kernel
theorem dX11_pay_6 : decode cX11_pay 6 = .ok (.invokevirtual 151, 3) := by decide +kernel
theorem dX11_pay_9 : decode cX11_pay 9 = .ok (.ifCond .eq 12, 3) := by decide +kernel
theorem dX11_pay_12 : decode cX11_pay 12 = .ok (.iload_n 3, 1) := by decide +kernel
theorem dX11_pay_13 : decode cX11_pay 13 = .ok (.iconst 0, 1) := by decide +kernel
theorem dX11_pay_14 : decode cX11_pay 14 = .ok (.iconst 1, 1) := by decide +kernel
theorem dX11_pay_15 : decode cX11_pay 15 = .ok (.invokestatic 155, 3) := by decide +kernel
theorem dX11_pay_18 : decode cX11_pay 18 = .ok (.ifCond .ne 5, 3) := by decide +kernel
theorem dX11_pay_21 : decode cX11_pay 21 = .ok (.iconst (-1), 1) := by decide +kernel
theorem dX11_pay_22 : decode cX11_pay 22 = .ok (.ireturn, 1) := by decide +kernel
theorem dX11_pay_23 : decode cX11_pay 23 = .ok (.aload_n 0, 1) := by decide +kernel
theorem dX11_pay_24 : decode cX11_pay 24 = .ok (.getfield 47, 3) := by decide +kernel
theorem dX11_pay_27 : decode cX11_pay 27 = .ok (.aload_n 0, 1) := by decide +kernel
theorem dX11_pay_28 : decode cX11_pay 28 = .ok (.getfield 54, 3) := by decide +kernel
theorem dX11_pay_31 : decode cX11_pay 31 = .ok (.aload_n 0, 1) := by decide +kernel
theorem dX11_pay_32 : decode cX11_pay 32 = .ok (.getfield 19, 3) := by decide +kernel
theorem dX11_pay_35 : decode cX11_pay 35 = .ok (.iload_n 1, 1) := by decide +kernel
theorem dX11_pay_36 : decode cX11_pay 36 = .ok (.iload_n 2, 1) := by decide +kernel
theorem dX11_pay_37 : decode cX11_pay 37 = .ok (.iload_n 3, 1) := by decide +kernel
theorem dX11_pay_38 : decode cX11_pay 38 = .ok (.invokevirtual 210, 3) := by decide +kernel
theorem dX11_pay_41 : decode cX11_pay 41 = .ok (.ireturn, 1) := by decide +kernel
theorem dX11_when_0 : decode cX11_when 0 = .ok (.iload_n 1, 1) := by decide +kernel
theorem dX11_when_1 : decode cX11_when 1 = .ok (.iconst 1, 1) := by decide +kernel
theorem dX11_when_2 : decode cX11_when 2 = .ok (.iconst 3, 1) := by decide +kernel
theorem dX11_when_3 : decode cX11_when 3 = .ok (.invokestatic 155, 3) := by decide +kernel
theorem dX11_when_6 : decode cX11_when 6 = .ok (.ifCond .eq 12, 3) := by decide +kernel
theorem dX11_when_9 : decode cX11_when 9 = .ok (.iload_n 2, 1) := by decide +kernel
theorem dX11_when_10 : decode cX11_when 10 = .ok (.iconst 0, 1) := by decide +kernel
theorem dX11_when_11 : decode cX11_when 11 = .ok (.iload_n 1, 1) := by decide +kernel
theorem dX11_when_12 : decode cX11_when 12 = .ok (.invokestatic 155, 3) := by decide +kernel
theorem dX11_when_15 : decode cX11_when 15 = .ok (.ifCond .ne 6, 3) := by decide +kernel
theorem dX11_when_18 : decode cX11_when 18 = .ok (.bipush (-2), 2) := by decide +kernel
theorem dX11_when_20 : decode cX11_when 20 = .ok (.ireturn, 1) := by decide +kernel
theorem dX11_when_21 : decode cX11_when 21 = .ok (.aload_n 0, 1) := by decide +kernel
theorem dX11_when_22 : decode cX11_when 22 = .ok (.getfield 40, 3) := by decide +kernel
theorem dX11_when_25 : decode cX11_when 25 = .ok (.aload_n 0, 1) := by decide +kernel
theorem dX11_when_26 : decode cX11_when 26 = .ok (.getfield 54, 3) := by decide +kernel
theorem dX11_when_29 : decode cX11_when 29 = .ok (.aload_n 0, 1) := by decide +kernel
theorem dX11_when_30 : decode cX11_when 30 = .ok (.getfield 19, 3) := by decide +kernel
theorem dX11_when_33 : decode cX11_when 33 = .ok (.iload_n 1, 1) := by decide +kernel
theorem dX11_when_34 : decode cX11_when 34 = .ok (.iload_n 2, 1) := by decide +kernel
theorem dX11_when_35 : decode cX11_when 35 = .ok (.invokevirtual 214, 3) := by decide +kernel
theorem dX11_when_38 : decode cX11_when 38 = .ok (.ireturn, 1) := by decide +kernel
theorem dX11_grudges_0 : decode cX11_grudges 0 = .ok (.aload_n 0, 1) := by decide +kernel
theorem dX11_grudges_1 : decode cX11_grudges 1 = .ok (.getfield 54, 3) := by decide +kernel
theorem dX11_grudges_4 : decode cX11_grudges 4 = .ok (.iload_n 1, 1) := by decide +kernel
theorem dX11_grudges_5 : decode cX11_grudges 5 = .ok (.invokevirtual 109, 3) := by decide +kernel
theorem dX11_grudges_8 : decode cX11_grudges 8 = .ok (.ifCond .ne 5, 3) := by decide +kernel
theorem dX11_grudges_11 : decode cX11_grudges 11 = .ok (.iconst (-1), 1) := by decide +kernel
theorem dX11_grudges_12 : decode cX11_grudges 12 = .ok (.ireturn, 1) := by decide +kernel
theorem dX11_grudges_13 : decode cX11_grudges 13 = .ok (.iconst 0, 1) := by decide +kernel
theorem dX11_grudges_14 : decode cX11_grudges 14 = .ok (.istore_n 3, 1) := by decide +kernel
theorem dX11_grudges_15 : decode cX11_grudges 15 = .ok (.iconst 0, 1) := by decide +kernel
theorem dX11_grudges_16 : decode cX11_grudges 16 = .ok (.istore 4, 2) := by decide +kernel
theorem dX11_grudges_18 : decode cX11_grudges 18 = .ok (.iload 4, 2) := by decide +kernel
theorem dX11_grudges_20 : decode cX11_grudges 20 = .ok (.aload_n 0, 1) := by decide +kernel
theorem dX11_grudges_21 : decode cX11_grudges 21 = .ok (.getfield 54, 3) := by decide +kernel
theorem dX11_grudges_24 : decode cX11_grudges 24 = .ok (.getfield 102, 3) := by decide +kernel
theorem dX11_grudges_27 : decode cX11_grudges 27 = .ok (.if_icmp .ge 63, 3) := by decide +kernel
theorem dX11_grudges_30 : decode cX11_grudges 30 = .ok (.iload_n 2, 1) := by decide +kernel
theorem dX11_grudges_31 : decode cX11_grudges 31 = .ok (.ifCond .eq 16, 3) := by decide +kernel
theorem dX11_grudges_34 : decode cX11_grudges 34 = .ok (.aload_n 0, 1) := by decide +kernel
theorem dX11_grudges_35 : decode cX11_grudges 35 = .ok (.getfield 54, 3) := by decide +kernel
theorem dX11_grudges_38 : decode cX11_grudges 38 = .ok (.getfield 126, 3) := by decide +kernel
theorem dX11_grudges_41 : decode cX11_grudges 41 = .ok (.iload 4, 2) := by decide +kernel
theorem dX11_grudges_43 : decode cX11_grudges 43 = .ok (.iaload, 1) := by decide +kernel
theorem dX11_grudges_44 : decode cX11_grudges 44 = .ok (.goto 13, 3) := by decide +kernel
theorem dX11_grudges_47 : decode cX11_grudges 47 = .ok (.aload_n 0, 1) := by decide +kernel
theorem dX11_grudges_48 : decode cX11_grudges 48 = .ok (.getfield 54, 3) := by decide +kernel
theorem dX11_grudges_51 : decode cX11_grudges 51 = .ok (.getfield 129, 3) := by decide +kernel
theorem dX11_grudges_54 : decode cX11_grudges 54 = .ok (.iload 4, 2) := by decide +kernel
theorem dX11_grudges_56 : decode cX11_grudges 56 = .ok (.iaload, 1) := by decide +kernel
theorem dX11_grudges_57 : decode cX11_grudges 57 = .ok (.istore 5, 2) := by decide +kernel
theorem dX11_grudges_59 : decode cX11_grudges 59 = .ok (.iload 5, 2) := by decide +kernel
theorem dX11_grudges_61 : decode cX11_grudges 61 = .ok (.iload_n 1, 1) := by decide +kernel
theorem dX11_grudges_62 : decode cX11_grudges 62 = .ok (.if_icmp .ne 22, 3) := by decide +kernel
theorem dX11_grudges_65 : decode cX11_grudges 65 = .ok (.aload_n 0, 1) := by decide +kernel
theorem dX11_grudges_66 : decode cX11_grudges 66 = .ok (.getfield 19, 3) := by decide +kernel
theorem dX11_grudges_69 : decode cX11_grudges 69 = .ok (.iload 4, 2) := by decide +kernel
theorem dX11_grudges_71 : decode cX11_grudges 71 = .ok (.invokevirtual 138, 3) := by decide +kernel
theorem dX11_grudges_74 : decode cX11_grudges 74 = .ok (.ifCond .ne 10, 3) := by decide +kernel
theorem dX11_grudges_77 : decode cX11_grudges 77 = .ok (.iload_n 3, 1) := by decide +kernel
theorem dX11_grudges_78 : decode cX11_grudges 78 = .ok (.iconst 1, 1) := by decide +kernel
theorem dX11_grudges_79 : decode cX11_grudges 79 = .ok (.iload 4, 2) := by decide +kernel
theorem dX11_grudges_81 : decode cX11_grudges 81 = .ok (.ishl, 1) := by decide +kernel
theorem dX11_grudges_82 : decode cX11_grudges 82 = .ok (.ior, 1) := by decide +kernel
theorem dX11_grudges_83 : decode cX11_grudges 83 = .ok (.istore_n 3, 1) := by decide +kernel
theorem dX11_grudges_84 : decode cX11_grudges 84 = .ok (.iinc 4 1, 3) := by decide +kernel
theorem dX11_grudges_87 : decode cX11_grudges 87 = .ok (.goto (-69), 3) := by decide +kernel
theorem dX11_grudges_90 : decode cX11_grudges 90 = .ok (.iload_n 3, 1) := by decide +kernel
theorem dX11_grudges_91 : decode cX11_grudges 91 = .ok (.ireturn, 1) := by decide +kernel
theorem dX11_ripe_0 : decode cX11_ripe 0 = .ok (.aload_n 0, 1) := by decide +kernel
theorem dX11_ripe_1 : decode cX11_ripe 1 = .ok (.getfield 54, 3) := by decide +kernel
theorem dX11_ripe_4 : decode cX11_ripe 4 = .ok (.iload_n 1, 1) := by decide +kernel
theorem dX11_ripe_5 : decode cX11_ripe 5 = .ok (.invokevirtual 123, 3) := by decide +kernel
theorem dX11_ripe_8 : decode cX11_ripe 8 = .ok (.ifCond .eq 14, 3) := by decide +kernel
theorem dX11_ripe_11 : decode cX11_ripe 11 = .ok (.aload_n 0, 1) := by decide +kernel
theorem dX11_ripe_12 : decode cX11_ripe 12 = .ok (.getfield 19, 3) := by decide +kernel
theorem dX11_ripe_15 : decode cX11_ripe 15 = .ok (.iload_n 1, 1) := by decide +kernel
theorem dX11_ripe_16 : decode cX11_ripe 16 = .ok (.invokevirtual 138, 3) := by decide +kernel
theorem dX11_ripe_19 : decode cX11_ripe 19 = .ok (.ifCond .eq 5, 3) := by decide +kernel
theorem dX11_ripe_22 : decode cX11_ripe 22 = .ok (.iconst (-1), 1) := by decide +kernel
theorem dX11_ripe_23 : decode cX11_ripe 23 = .ok (.ireturn, 1) := by decide +kernel
theorem dX11_ripe_24 : decode cX11_ripe 24 = .ok (.aload_n 0, 1) := by decide +kernel
theorem dX11_ripe_25 : decode cX11_ripe 25 = .ok (.getfield 40, 3) := by decide +kernel
theorem dX11_ripe_28 : decode cX11_ripe 28 = .ok (.aload_n 0, 1) := by decide +kernel
theorem dX11_ripe_29 : decode cX11_ripe 29 = .ok (.getfield 54, 3) := by decide +kernel
theorem dX11_ripe_32 : decode cX11_ripe 32 = .ok (.aload_n 0, 1) := by decide +kernel
theorem dX11_ripe_33 : decode cX11_ripe 33 = .ok (.getfield 19, 3) := by decide +kernel
theorem dX11_ripe_36 : decode cX11_ripe 36 = .ok (.iload_n 1, 1) := by decide +kernel
theorem dX11_ripe_37 : decode cX11_ripe 37 = .ok (.invokevirtual 218, 3) := by decide +kernel
theorem dX11_ripe_40 : decode cX11_ripe 40 = .ok (.ireturn, 1) := by decide +kernel
theorem dX11_price_0 : decode cX11_price 0 = .ok (.aload_n 0, 1) := by decide +kernel
theorem dX11_price_1 : decode cX11_price 1 = .ok (.getfield 54, 3) := by decide +kernel
theorem dX11_price_4 : decode cX11_price 4 = .ok (.iload_n 1, 1) := by decide +kernel
theorem dX11_price_5 : decode cX11_price 5 = .ok (.invokevirtual 123, 3) := by decide +kernel
theorem dX11_price_8 : decode cX11_price 8 = .ok (.ifCond .eq 24, 3) := by decide +kernel
theorem dX11_price_11 : decode cX11_price 11 = .ok (.aload_n 0, 1) := by decide +kernel
theorem dX11_price_12 : decode cX11_price 12 = .ok (.getfield 19, 3) := by decide +kernel
theorem dX11_price_15 : decode cX11_price 15 = .ok (.iload_n 1, 1) := by decide +kernel
theorem dX11_price_16 : decode cX11_price 16 = .ok (.invokevirtual 138, 3) := by decide +kernel
theorem dX11_price_19 : decode cX11_price 19 = .ok (.ifCond .ne 13, 3) := by decide +kernel
theorem dX11_price_22 : decode cX11_price 22 = .ok (.iload_n 2, 1) := by decide +kernel
theorem dX11_price_23 : decode cX11_price 23 = .ok (.iconst 0, 1) := by decide +kernel
theorem dX11_price_24 : decode cX11_price 24 = .ok (.bipush 30, 2) := by decide +kernel
theorem dX11_price_26 : decode cX11_price 26 = .ok (.invokestatic 155, 3) := by decide +kernel
theorem dX11_price_29 : decode cX11_price 29 = .ok (.ifCond .ne 5, 3) := by decide +kernel
theorem dX11_price_32 : decode cX11_price 32 = .ok (.iconst (-1), 1) := by decide +kernel
theorem dX11_price_33 : decode cX11_price 33 = .ok (.ireturn, 1) := by decide +kernel
theorem dX11_price_34 : decode cX11_price 34 = .ok (.aload_n 0, 1) := by decide +kernel
theorem dX11_price_35 : decode cX11_price 35 = .ok (.getfield 40, 3) := by decide +kernel
theorem dX11_price_38 : decode cX11_price 38 = .ok (.aload_n 0, 1) := by decide +kernel
theorem dX11_price_39 : decode cX11_price 39 = .ok (.getfield 54, 3) := by decide +kernel
theorem dX11_price_42 : decode cX11_price 42 = .ok (.aload_n 0, 1) := by decide +kernel
theorem dX11_price_43 : decode cX11_price 43 = .ok (.getfield 19, 3) := by decide +kernel
theorem dX11_price_46 : decode cX11_price 46 = .ok (.iload_n 1, 1) := by decide +kernel
theorem dX11_price_47 : decode cX11_price 47 = .ok (.iload_n 2, 1) := by decide +kernel
theorem dX11_price_48 : decode cX11_price 48 = .ok (.invokevirtual 222, 3) := by decide +kernel
theorem dX11_price_51 : decode cX11_price 51 = .ok (.ireturn, 1) := by decide +kernel
theorem dX11_stays_0 : decode cX11_stays 0 = .ok (.aload_n 0, 1) := by decide +kernel
theorem dX11_stays_1 : decode cX11_stays 1 = .ok (.getfield 54, 3) := by decide +kernel
theorem dX11_stays_4 : decode cX11_stays 4 = .ok (.iload_n 1, 1) := by decide +kernel
theorem dX11_stays_5 : decode cX11_stays 5 = .ok (.iload_n 2, 1) := by decide +kernel
theorem dX11_stays_6 : decode cX11_stays 6 = .ok (.invokevirtual 151, 3) := by decide +kernel
theorem dX11_stays_9 : decode cX11_stays 9 = .ok (.ifCond .eq 23, 3) := by decide +kernel
theorem dX11_stays_12 : decode cX11_stays 12 = .ok (.aload_n 0, 1) := by decide +kernel
theorem dX11_stays_13 : decode cX11_stays 13 = .ok (.getfield 47, 3) := by decide +kernel
theorem dX11_stays_16 : decode cX11_stays 16 = .ok (.aload_n 0, 1) := by decide +kernel
theorem dX11_stays_17 : decode cX11_stays 17 = .ok (.getfield 54, 3) := by decide +kernel
theorem dX11_stays_20 : decode cX11_stays 20 = .ok (.aload_n 0, 1) := by decide +kernel
theorem dX11_stays_21 : decode cX11_stays 21 = .ok (.getfield 19, 3) := by decide +kernel
theorem dX11_stays_24 : decode cX11_stays 24 = .ok (.iload_n 1, 1) := by decide +kernel
theorem dX11_stays_25 : decode cX11_stays 25 = .ok (.iload_n 2, 1) := by decide +kernel
theorem dX11_stays_26 : decode cX11_stays 26 = .ok (.invokevirtual 225, 3) := by decide +kernel
theorem dX11_stays_29 : decode cX11_stays 29 = .ok (.goto 4, 3) := by decide +kernel
theorem dX11_stays_32 : decode cX11_stays 32 = .ok (.iconst (-1), 1) := by decide +kernel
theorem dX11_stays_33 : decode cX11_stays 33 = .ok (.ireturn, 1) := by decide +kernel
theorem dX11_middle_0 : decode cX11_middle 0 = .ok (.aload_n 0, 1) := by decide +kernel
theorem dX11_middle_1 : decode cX11_middle 1 = .ok (.getfield 54, 3) := by decide +kernel
theorem dX11_middle_4 : decode cX11_middle 4 = .ok (.getfield 159, 3) := by decide +kernel
theorem dX11_middle_7 : decode cX11_middle 7 = .ok (.aload_n 0, 1) := by decide +kernel
theorem dX11_middle_8 : decode cX11_middle 8 = .ok (.getfield 19, 3) := by decide +kernel
theorem dX11_middle_11 : decode cX11_middle 11 = .ok (.iconst 0, 1) := by decide +kernel
theorem dX11_middle_12 : decode cX11_middle 12 = .ok (.invokevirtual 148, 3) := by decide +kernel
theorem dX11_middle_15 : decode cX11_middle 15 = .ok (.aload_n 0, 1) := by decide +kernel
theorem dX11_middle_16 : decode cX11_middle 16 = .ok (.getfield 54, 3) := by decide +kernel
theorem dX11_middle_19 : decode cX11_middle 19 = .ok (.getfield 228, 3) := by decide +kernel
theorem dX11_middle_22 : decode cX11_middle 22 = .ok (.invokevirtual 231, 3) := by decide +kernel
theorem dX11_middle_25 : decode cX11_middle 25 = .ok (.ireturn, 1) := by decide +kernel
theorem dX11_round_0 : decode cX11_round 0 = .ok (.aload_n 0, 1) := by decide +kernel
theorem dX11_round_1 : decode cX11_round 1 = .ok (.getfield 54, 3) := by decide +kernel
theorem dX11_round_4 : decode cX11_round 4 = .ok (.iload_n 1, 1) := by decide +kernel
theorem dX11_round_5 : decode cX11_round 5 = .ok (.invokevirtual 109, 3) := by decide +kernel
theorem dX11_round_8 : decode cX11_round 8 = .ok (.ifCond .eq 23, 3) := by decide +kernel
theorem dX11_round_11 : decode cX11_round 11 = .ok (.iload_n 2, 1) := by decide +kernel
theorem dX11_round_12 : decode cX11_round 12 = .ok (.iconst 0, 1) := by decide +kernel
theorem dX11_round_13 : decode cX11_round 13 = .ok (.sipush 200, 3) := by decide +kernel
theorem dX11_round_16 : decode cX11_round 16 = .ok (.invokestatic 155, 3) := by decide +kernel
theorem dX11_round_19 : decode cX11_round 19 = .ok (.ifCond .eq 12, 3) := by decide +kernel
theorem dX11_round_22 : decode cX11_round 22 = .ok (.iload_n 3, 1) := by decide +kernel
theorem dX11_round_23 : decode cX11_round 23 = .ok (.iconst 0, 1) := by decide +kernel
theorem dX11_round_24 : decode cX11_round 24 = .ok (.iconst 2, 1) := by decide +kernel
theorem dX11_round_25 : decode cX11_round 25 = .ok (.invokestatic 155, 3) := by decide +kernel
theorem dX11_round_28 : decode cX11_round 28 = .ok (.ifCond .ne 5, 3) := by decide +kernel
theorem dX11_round_31 : decode cX11_round 31 = .ok (.iconst (-1), 1) := by decide +kernel
theorem dX11_round_32 : decode cX11_round 32 = .ok (.ireturn, 1) := by decide +kernel
theorem dX11_round_33 : decode cX11_round 33 = .ok (.aload_n 0, 1) := by decide +kernel
theorem dX11_round_34 : decode cX11_round 34 = .ok (.getfield 47, 3) := by decide +kernel
theorem dX11_round_37 : decode cX11_round 37 = .ok (.aload_n 0, 1) := by decide +kernel
theorem dX11_round_38 : decode cX11_round 38 = .ok (.getfield 54, 3) := by decide +kernel
theorem dX11_round_41 : decode cX11_round 41 = .ok (.aload_n 0, 1) := by decide +kernel
theorem dX11_round_42 : decode cX11_round 42 = .ok (.getfield 19, 3) := by decide +kernel
theorem dX11_round_45 : decode cX11_round 45 = .ok (.iload_n 1, 1) := by decide +kernel
theorem dX11_round_46 : decode cX11_round 46 = .ok (.iload_n 2, 1) := by decide +kernel
theorem dX11_round_47 : decode cX11_round 47 = .ok (.iload_n 3, 1) := by decide +kernel
theorem dX11_round_48 : decode cX11_round 48 = .ok (.invokevirtual 235, 3) := by decide +kernel
theorem dX11_round_51 : decode cX11_round 51 = .ok (.ireturn, 1) := by decide +kernel
theorem dX11_circle_0 : decode cX11_circle 0 = .ok (.aload_n 0, 1) := by decide +kernel
theorem dX11_circle_1 : decode cX11_circle 1 = .ok (.getfield 47, 3) := by decide +kernel
theorem dX11_circle_4 : decode cX11_circle 4 = .ok (.aload_n 0, 1) := by decide +kernel
theorem dX11_circle_5 : decode cX11_circle 5 = .ok (.getfield 54, 3) := by decide +kernel
theorem dX11_circle_8 : decode cX11_circle 8 = .ok (.aload_n 0, 1) := by decide +kernel
theorem dX11_circle_9 : decode cX11_circle 9 = .ok (.getfield 19, 3) := by decide +kernel
theorem dX11_circle_12 : decode cX11_circle 12 = .ok (.invokevirtual 238, 3) := by decide +kernel
theorem dX11_circle_15 : decode cX11_circle 15 = .ok (.ireturn, 1) := by decide +kernel
theorem dX11_need_0 : decode cX11_need 0 = .ok (.aload_n 0, 1) := by decide +kernel
theorem dX11_need_1 : decode cX11_need 1 = .ok (.getfield 54, 3) := by decide +kernel
theorem dX11_need_4 : decode cX11_need 4 = .ok (.getfield 159, 3) := by decide +kernel
theorem dX11_need_7 : decode cX11_need 7 = .ok (.aload_n 0, 1) := by decide +kernel
theorem dX11_need_8 : decode cX11_need 8 = .ok (.getfield 54, 3) := by decide +kernel
theorem dX11_need_11 : decode cX11_need 11 = .ok (.getfield 228, 3) := by decide +kernel
theorem dX11_need_14 : decode cX11_need 14 = .ok (.invokevirtual 242, 3) := by decide +kernel
theorem dX11_need_17 : decode cX11_need 17 = .ok (.ireturn, 1) := by decide +kernel
theorem dX11_wind_0 : decode cX11_wind 0 = .ok (.aload_n 0, 1) := by decide +kernel
theorem dX11_wind_1 : decode cX11_wind 1 = .ok (.getfield 54, 3) := by decide +kernel
theorem dX11_wind_4 : decode cX11_wind 4 = .ok (.iload_n 1, 1) := by decide +kernel
theorem dX11_wind_5 : decode cX11_wind 5 = .ok (.iload_n 2, 1) := by decide +kernel
theorem dX11_wind_6 : decode cX11_wind 6 = .ok (.invokevirtual 151, 3) := by decide +kernel
theorem dX11_wind_9 : decode cX11_wind 9 = .ok (.ifCond .eq 23, 3) := by decide +kernel
theorem dX11_wind_12 : decode cX11_wind 12 = .ok (.aload_n 0, 1) := by decide +kernel
theorem dX11_wind_13 : decode cX11_wind 13 = .ok (.getfield 47, 3) := by decide +kernel
theorem dX11_wind_16 : decode cX11_wind 16 = .ok (.aload_n 0, 1) := by decide +kernel
theorem dX11_wind_17 : decode cX11_wind 17 = .ok (.getfield 54, 3) := by decide +kernel
theorem dX11_wind_20 : decode cX11_wind 20 = .ok (.aload_n 0, 1) := by decide +kernel
theorem dX11_wind_21 : decode cX11_wind 21 = .ok (.getfield 19, 3) := by decide +kernel
theorem dX11_wind_24 : decode cX11_wind 24 = .ok (.iload_n 1, 1) := by decide +kernel
theorem dX11_wind_25 : decode cX11_wind 25 = .ok (.iload_n 2, 1) := by decide +kernel
theorem dX11_wind_26 : decode cX11_wind 26 = .ok (.invokevirtual 245, 3) := by decide +kernel
theorem dX11_wind_29 : decode cX11_wind 29 = .ok (.goto 4, 3) := by decide +kernel
theorem dX11_wind_32 : decode cX11_wind 32 = .ok (.iconst (-1), 1) := by decide +kernel
theorem dX11_wind_33 : decode cX11_wind 33 = .ok (.ireturn, 1) := by decide +kernel
theorem dX11_see_0 : decode cX11_see 0 = .ok (.aload_n 0, 1) := by decide +kernel
theorem dX11_see_1 : decode cX11_see 1 = .ok (.getfield 54, 3) := by decide +kernel
theorem dX11_see_4 : decode cX11_see 4 = .ok (.iload_n 1, 1) := by decide +kernel
theorem dX11_see_5 : decode cX11_see 5 = .ok (.invokevirtual 109, 3) := by decide +kernel
theorem dX11_see_8 : decode cX11_see 8 = .ok (.ifCond .eq 13, 3) := by decide +kernel
theorem dX11_see_11 : decode cX11_see 11 = .ok (.iload_n 2, 1) := by decide +kernel
theorem dX11_see_12 : decode cX11_see 12 = .ok (.iconst 0, 1) := by decide +kernel
theorem dX11_see_13 : decode cX11_see 13 = .ok (.bipush 9, 2) := by decide +kernel
theorem dX11_see_15 : decode cX11_see 15 = .ok (.invokestatic 155, 3) := by decide +kernel
theorem dX11_see_18 : decode cX11_see 18 = .ok (.ifCond .ne 5, 3) := by decide +kernel
theorem dX11_see_21 : decode cX11_see 21 = .ok (.iconst 0, 1) := by decide +kernel
theorem dX11_see_22 : decode cX11_see 22 = .ok (.ireturn, 1) := by decide +kernel
theorem dX11_see_23 : decode cX11_see 23 = .ok (.aload_n 0, 1) := by decide +kernel
theorem dX11_see_24 : decode cX11_see 24 = .ok (.getfield 33, 3) := by decide +kernel
theorem dX11_see_27 : decode cX11_see 27 = .ok (.iload_n 1, 1) := by decide +kernel
theorem dX11_see_28 : decode cX11_see 28 = .ok (.iload_n 2, 1) := by decide +kernel
theorem dX11_see_29 : decode cX11_see 29 = .ok (.iload_n 3, 1) := by decide +kernel
theorem dX11_see_30 : decode cX11_see 30 = .ok (.invokevirtual 248, 3) := by decide +kernel
theorem dX11_see_33 : decode cX11_see 33 = .ok (.ireturn, 1) := by decide +kernel
theorem dX11_sets_0 : decode cX11_sets 0 = .ok (.iload_n 1, 1) := by decide +kernel
theorem dX11_sets_1 : decode cX11_sets 1 = .ok (.iconst 0, 1) := by decide +kernel
theorem dX11_sets_2 : decode cX11_sets 2 = .ok (.iconst 2, 1) := by decide +kernel
theorem dX11_sets_3 : decode cX11_sets 3 = .ok (.invokestatic 155, 3) := by decide +kernel
theorem dX11_sets_6 : decode cX11_sets 6 = .ok (.ifCond .eq 26, 3) := by decide +kernel
theorem dX11_sets_9 : decode cX11_sets 9 = .ok (.aload_n 0, 1) := by decide +kernel
theorem dX11_sets_10 : decode cX11_sets 10 = .ok (.getfield 47, 3) := by decide +kernel
theorem dX11_sets_13 : decode cX11_sets 13 = .ok (.aload_n 0, 1) := by decide +kernel
theorem dX11_sets_14 : decode cX11_sets 14 = .ok (.getfield 54, 3) := by decide +kernel
theorem dX11_sets_17 : decode cX11_sets 17 = .ok (.aload_n 0, 1) := by decide +kernel
theorem dX11_sets_18 : decode cX11_sets 18 = .ok (.getfield 19, 3) := by decide +kernel
theorem dX11_sets_21 : decode cX11_sets 21 = .ok (.aload_n 0, 1) := by decide +kernel
theorem dX11_sets_22 : decode cX11_sets 22 = .ok (.getfield 33, 3) := by decide +kernel
theorem dX11_sets_25 : decode cX11_sets 25 = .ok (.iload_n 1, 1) := by decide +kernel
theorem dX11_sets_26 : decode cX11_sets 26 = .ok (.invokevirtual 252, 3) := by decide +kernel
theorem dX11_sets_29 : decode cX11_sets 29 = .ok (.goto 4, 3) := by decide +kernel
theorem dX11_sets_32 : decode cX11_sets 32 = .ok (.iconst (-1), 1) := by decide +kernel
theorem dX11_sets_33 : decode cX11_sets 33 = .ok (.ireturn, 1) := by decide +kernel
theorem dX11_look_0 : decode cX11_look 0 = .ok (.aload_n 0, 1) := by decide +kernel
theorem dX11_look_1 : decode cX11_look 1 = .ok (.getfield 47, 3) := by decide +kernel
theorem dX11_look_4 : decode cX11_look 4 = .ok (.aload_n 0, 1) := by decide +kernel
theorem dX11_look_5 : decode cX11_look 5 = .ok (.getfield 54, 3) := by decide +kernel
theorem dX11_look_8 : decode cX11_look 8 = .ok (.aload_n 0, 1) := by decide +kernel
theorem dX11_look_9 : decode cX11_look 9 = .ok (.getfield 19, 3) := by decide +kernel
theorem dX11_look_12 : decode cX11_look 12 = .ok (.aload_n 0, 1) := by decide +kernel
theorem dX11_look_13 : decode cX11_look 13 = .ok (.getfield 33, 3) := by decide +kernel
theorem dX11_look_16 : decode cX11_look 16 = .ok (.invokevirtual 256, 3) := by decide +kernel
theorem dX11_look_19 : decode cX11_look 19 = .ok (.ireturn, 1) := by decide +kernel
theorem dX11_law_0 : decode cX11_law 0 = .ok (.iload_n 1, 1) := by decide +kernel
theorem dX11_law_1 : decode cX11_law 1 = .ok (.iconst 1, 1) := by decide +kernel
theorem dX11_law_2 : decode cX11_law 2 = .ok (.bipush 30, 2) := by decide +kernel
theorem dX11_law_4 : decode cX11_law 4 = .ok (.invokestatic 155, 3) := by decide +kernel
theorem dX11_law_7 : decode cX11_law 7 = .ok (.ifCond .eq 13, 3) := by decide +kernel
theorem dX11_law_10 : decode cX11_law 10 = .ok (.iload_n 2, 1) := by decide +kernel
theorem dX11_law_11 : decode cX11_law 11 = .ok (.iconst 0, 1) := by decide +kernel
theorem dX11_law_12 : decode cX11_law 12 = .ok (.bipush 9, 2) := by decide +kernel
theorem dX11_law_14 : decode cX11_law 14 = .ok (.invokestatic 155, 3) := by decide +kernel
theorem dX11_law_17 : decode cX11_law 17 = .ok (.ifCond .ne 5, 3) := by decide +kernel
theorem dX11_law_20 : decode cX11_law 20 = .ok (.iconst (-1), 1) := by decide +kernel
theorem dX11_law_21 : decode cX11_law 21 = .ok (.ireturn, 1) := by decide +kernel
theorem dX11_law_22 : decode cX11_law 22 = .ok (.aload_n 0, 1) := by decide +kernel
theorem dX11_law_23 : decode cX11_law 23 = .ok (.getfield 40, 3) := by decide +kernel
theorem dX11_law_26 : decode cX11_law 26 = .ok (.aload_n 0, 1) := by decide +kernel
theorem dX11_law_27 : decode cX11_law 27 = .ok (.getfield 54, 3) := by decide +kernel
theorem dX11_law_30 : decode cX11_law 30 = .ok (.aload_n 0, 1) := by decide +kernel
theorem dX11_law_31 : decode cX11_law 31 = .ok (.getfield 19, 3) := by decide +kernel
theorem dX11_law_34 : decode cX11_law 34 = .ok (.iload_n 1, 1) := by decide +kernel
theorem dX11_law_35 : decode cX11_law 35 = .ok (.iload_n 2, 1) := by decide +kernel
theorem dX11_law_36 : decode cX11_law 36 = .ok (.invokevirtual 260, 3) := by decide +kernel
theorem dX11_law_39 : decode cX11_law 39 = .ok (.ireturn, 1) := by decide +kernel
theorem dX11_rests_0 : decode cX11_rests 0 = .ok (.iload_n 1, 1) := by decide +kernel
theorem dX11_rests_1 : decode cX11_rests 1 = .ok (.iconst 0, 1) := by decide +kernel
theorem dX11_rests_2 : decode cX11_rests 2 = .ok (.bipush 9, 2) := by decide +kernel
theorem dX11_rests_4 : decode cX11_rests 4 = .ok (.invokestatic 155, 3) := by decide +kernel
theorem dX11_rests_7 : decode cX11_rests 7 = .ok (.ifCond .eq 13, 3) := by decide +kernel
theorem dX11_rests_10 : decode cX11_rests 10 = .ok (.iload_n 2, 1) := by decide +kernel
theorem dX11_rests_11 : decode cX11_rests 11 = .ok (.iconst 0, 1) := by decide +kernel
theorem dX11_rests_12 : decode cX11_rests 12 = .ok (.bipush 9, 2) := by decide +kernel
theorem dX11_rests_14 : decode cX11_rests 14 = .ok (.invokestatic 155, 3) := by decide +kernel
theorem dX11_rests_17 : decode cX11_rests 17 = .ok (.ifCond .ne 11, 3) := by decide +kernel
theorem dX11_rests_20 : decode cX11_rests 20 = .ok (.new 263, 3) := by decide +kernel
theorem dX11_rests_23 : decode cX11_rests 23 = .ok (.dup, 1) := by decide +kernel
theorem dX11_rests_24 : decode cX11_rests 24 = .ok (.invokespecial 265, 3) := by decide +kernel
theorem dX11_rests_27 : decode cX11_rests 27 = .ok (.athrow, 1) := by decide +kernel
theorem dX11_rests_28 : decode cX11_rests 28 = .ok (.iconst 0, 1) := by decide +kernel
theorem dX11_rests_29 : decode cX11_rests 29 = .ok (.istore 4, 2) := by decide +kernel
theorem dX11_rests_31 : decode cX11_rests 31 = .ok (.iconst 0, 1) := by decide +kernel
theorem dX11_rests_32 : decode cX11_rests 32 = .ok (.istore 5, 2) := by decide +kernel
theorem dX11_rests_34 : decode cX11_rests 34 = .ok (.iload 5, 2) := by decide +kernel
theorem dX11_rests_36 : decode cX11_rests 36 = .ok (.iconst 4, 1) := by decide +kernel
theorem dX11_rests_37 : decode cX11_rests 37 = .ok (.if_icmp .ge 31, 3) := by decide +kernel
theorem dX11_rests_40 : decode cX11_rests 40 = .ok (.iload_n 1, 1) := by decide +kernel
theorem dX11_rests_41 : decode cX11_rests 41 = .ok (.iload_n 2, 1) := by decide +kernel
theorem dX11_rests_42 : decode cX11_rests 42 = .ok (.iload 5, 2) := by decide +kernel
theorem dX11_rests_44 : decode cX11_rests 44 = .ok (.invokestatic 266, 3) := by decide +kernel
theorem dX11_rests_47 : decode cX11_rests 47 = .ok (.ifCond .eq 15, 3) := by decide +kernel
theorem dX11_rests_50 : decode cX11_rests 50 = .ok (.iload 4, 2) := by decide +kernel
theorem dX11_rests_52 : decode cX11_rests 52 = .ok (.iload_n 3, 1) := by decide +kernel
theorem dX11_rests_53 : decode cX11_rests 53 = .ok (.if_icmp .ne 6, 3) := by decide +kernel
theorem dX11_rests_56 : decode cX11_rests 56 = .ok (.iload 5, 2) := by decide +kernel
theorem dX11_rests_58 : decode cX11_rests 58 = .ok (.ireturn, 1) := by decide +kernel
theorem dX11_rests_59 : decode cX11_rests 59 = .ok (.iinc 4 1, 3) := by decide +kernel
theorem dX11_rests_62 : decode cX11_rests 62 = .ok (.iinc 5 1, 3) := by decide +kernel
theorem dX11_rests_65 : decode cX11_rests 65 = .ok (.goto (-31), 3) := by decide +kernel
theorem dX11_rests_68 : decode cX11_rests 68 = .ok (.iload_n 3, 1) := by decide +kernel
theorem dX11_rests_69 : decode cX11_rests 69 = .ok (.iconst (-1), 1) := by decide +kernel
theorem dX11_rests_70 : decode cX11_rests 70 = .ok (.if_icmp .eq 11, 3) := by decide +kernel
theorem dX11_rests_73 : decode cX11_rests 73 = .ok (.new 263, 3) := by decide +kernel
theorem dX11_rests_76 : decode cX11_rests 76 = .ok (.dup, 1) := by decide +kernel
theorem dX11_rests_77 : decode cX11_rests 77 = .ok (.invokespecial 265, 3) := by decide +kernel
theorem dX11_rests_80 : decode cX11_rests 80 = .ok (.athrow, 1) := by decide +kernel
theorem dX11_rests_81 : decode cX11_rests 81 = .ok (.iload 4, 2) := by decide +kernel
theorem dX11_rests_83 : decode cX11_rests 83 = .ok (.ireturn, 1) := by decide +kernel
theorem dX11_isRest_0 : decode cX11_isRest 0 = .ok (.iload_n 2, 1) := by decide +kernel
theorem dX11_isRest_1 : decode cX11_isRest 1 = .ok (.iconst 2, 1) := by decide +kernel
theorem dX11_isRest_2 : decode cX11_isRest 2 = .ok (.idiv, 1) := by decide +kernel
theorem dX11_isRest_3 : decode cX11_isRest 3 = .ok (.istore_n 3, 1) := by decide +kernel
theorem dX11_isRest_4 : decode cX11_isRest 4 = .ok (.iload_n 2, 1) := by decide +kernel
theorem dX11_isRest_5 : decode cX11_isRest 5 = .ok (.iconst 2, 1) := by decide +kernel
theorem dX11_isRest_6 : decode cX11_isRest 6 = .ok (.irem, 1) := by decide +kernel
theorem dX11_isRest_7 : decode cX11_isRest 7 = .ok (.istore 4, 2) := by decide +kernel
theorem dX11_isRest_9 : decode cX11_isRest 9 = .ok (.iload_n 0, 1) := by decide +kernel
theorem dX11_isRest_10 : decode cX11_isRest 10 = .ok (.iload_n 1, 1) := by decide +kernel
theorem dX11_isRest_11 : decode cX11_isRest 11 = .ok (.iload_n 3, 1) := by decide +kernel
theorem dX11_isRest_12 : decode cX11_isRest 12 = .ok (.iload 4, 2) := by decide +kernel
theorem dX11_isRest_14 : decode cX11_isRest 14 = .ok (.invokestatic 269, 3) := by decide +kernel
theorem dX11_isRest_17 : decode cX11_isRest 17 = .ok (.iload_n 0, 1) := by decide +kernel
theorem dX11_isRest_18 : decode cX11_isRest 18 = .ok (.iload_n 1, 1) := by decide +kernel
theorem dX11_isRest_19 : decode cX11_isRest 19 = .ok (.iconst 1, 1) := by decide +kernel
theorem dX11_isRest_20 : decode cX11_isRest 20 = .ok (.iload_n 3, 1) := by decide +kernel
theorem dX11_isRest_21 : decode cX11_isRest 21 = .ok (.isub, 1) := by decide +kernel
theorem dX11_isRest_22 : decode cX11_isRest 22 = .ok (.iload 4, 2) := by decide +kernel
theorem dX11_isRest_24 : decode cX11_isRest 24 = .ok (.invokestatic 269, 3) := by decide +kernel
theorem dX11_isRest_27 : decode cX11_isRest 27 = .ok (.if_icmp .gt 28, 3) := by decide +kernel
theorem dX11_isRest_30 : decode cX11_isRest 30 = .ok (.iload_n 0, 1) := by decide +kernel
theorem dX11_isRest_31 : decode cX11_isRest 31 = .ok (.iload_n 1, 1) := by decide +kernel
theorem dX11_isRest_32 : decode cX11_isRest 32 = .ok (.iload 4, 2) := by decide +kernel
theorem dX11_isRest_34 : decode cX11_isRest 34 = .ok (.iload_n 3, 1) := by decide +kernel
theorem dX11_isRest_35 : decode cX11_isRest 35 = .ok (.invokestatic 269, 3) := by decide +kernel
theorem dX11_isRest_38 : decode cX11_isRest 38 = .ok (.iload_n 0, 1) := by decide +kernel
theorem dX11_isRest_39 : decode cX11_isRest 39 = .ok (.iload_n 1, 1) := by decide +kernel
theorem dX11_isRest_40 : decode cX11_isRest 40 = .ok (.iconst 1, 1) := by decide +kernel
theorem dX11_isRest_41 : decode cX11_isRest 41 = .ok (.iload 4, 2) := by decide +kernel
theorem dX11_isRest_43 : decode cX11_isRest 43 = .ok (.isub, 1) := by decide +kernel
theorem dX11_isRest_44 : decode cX11_isRest 44 = .ok (.iload_n 3, 1) := by decide +kernel
theorem dX11_isRest_45 : decode cX11_isRest 45 = .ok (.invokestatic 269, 3) := by decide +kernel
theorem dX11_isRest_48 : decode cX11_isRest 48 = .ok (.if_icmp .gt 7, 3) := by decide +kernel
theorem dX11_isRest_51 : decode cX11_isRest 51 = .ok (.iconst 1, 1) := by decide +kernel
theorem dX11_isRest_52 : decode cX11_isRest 52 = .ok (.goto 4, 3) := by decide +kernel
theorem dX11_isRest_55 : decode cX11_isRest 55 = .ok (.iconst 0, 1) := by decide +kernel
theorem dX11_isRest_56 : decode cX11_isRest 56 = .ok (.ireturn, 1) := by decide +kernel
theorem dX11_loss_0 : decode cX11_loss 0 = .ok (.iload_n 2, 1) := by decide +kernel
theorem dX11_loss_1 : decode cX11_loss 1 = .ok (.iconst 1, 1) := by decide +kernel
theorem dX11_loss_2 : decode cX11_loss 2 = .ok (.if_icmp .ne 5, 3) := by decide +kernel
theorem dX11_loss_5 : decode cX11_loss 5 = .ok (.iload_n 1, 1) := by decide +kernel
theorem dX11_loss_6 : decode cX11_loss 6 = .ok (.ireturn, 1) := by decide +kernel
theorem dX11_loss_7 : decode cX11_loss 7 = .ok (.iload_n 3, 1) := by decide +kernel
theorem dX11_loss_8 : decode cX11_loss 8 = .ok (.iconst 1, 1) := by decide +kernel
theorem dX11_loss_9 : decode cX11_loss 9 = .ok (.if_icmp .ne 7, 3) := by decide +kernel
theorem dX11_loss_12 : decode cX11_loss 12 = .ok (.iconst 0, 1) := by decide +kernel
theorem dX11_loss_13 : decode cX11_loss 13 = .ok (.goto 4, 3) := by decide +kernel
theorem dX11_loss_16 : decode cX11_loss 16 = .ok (.iload_n 0, 1) := by decide +kernel
theorem dX11_loss_17 : decode cX11_loss 17 = .ok (.ireturn, 1) := by decide +kernel
theorem dX11_years_0 : decode cX11_years 0 = .ok (.iload_n 1, 1) := by decide +kernel
theorem dX11_years_1 : decode cX11_years 1 = .ok (.iconst 0, 1) := by decide +kernel
theorem dX11_years_2 : decode cX11_years 2 = .ok (.sipush 9999, 3) := by decide +kernel
theorem dX11_years_5 : decode cX11_years 5 = .ok (.invokestatic 155, 3) := by decide +kernel
theorem dX11_years_8 : decode cX11_years 8 = .ok (.ifCond .eq 22, 3) := by decide +kernel
theorem dX11_years_11 : decode cX11_years 11 = .ok (.iload_n 2, 1) := by decide +kernel
theorem dX11_years_12 : decode cX11_years 12 = .ok (.iconst 1, 1) := by decide +kernel
theorem dX11_years_13 : decode cX11_years 13 = .ok (.bipush 100, 2) := by decide +kernel
theorem dX11_years_15 : decode cX11_years 15 = .ok (.invokestatic 155, 3) := by decide +kernel
theorem dX11_years_18 : decode cX11_years 18 = .ok (.ifCond .eq 12, 3) := by decide +kernel
theorem dX11_years_21 : decode cX11_years 21 = .ok (.iload_n 3, 1) := by decide +kernel
theorem dX11_years_22 : decode cX11_years 22 = .ok (.iconst 0, 1) := by decide +kernel
theorem dX11_years_23 : decode cX11_years 23 = .ok (.iconst 2, 1) := by decide +kernel
theorem dX11_years_24 : decode cX11_years 24 = .ok (.invokestatic 155, 3) := by decide +kernel
theorem dX11_years_27 : decode cX11_years 27 = .ok (.ifCond .ne 5, 3) := by decide +kernel
theorem dX11_years_30 : decode cX11_years 30 = .ok (.iconst (-1), 1) := by decide +kernel
theorem dX11_years_31 : decode cX11_years 31 = .ok (.ireturn, 1) := by decide +kernel
theorem dX11_years_32 : decode cX11_years 32 = .ok (.aload_n 0, 1) := by decide +kernel
theorem dX11_years_33 : decode cX11_years 33 = .ok (.getfield 40, 3) := by decide +kernel
theorem dX11_years_36 : decode cX11_years 36 = .ok (.aload_n 0, 1) := by decide +kernel
theorem dX11_years_37 : decode cX11_years 37 = .ok (.getfield 54, 3) := by decide +kernel
theorem dX11_years_40 : decode cX11_years 40 = .ok (.aload_n 0, 1) := by decide +kernel
theorem dX11_years_41 : decode cX11_years 41 = .ok (.getfield 19, 3) := by decide +kernel
theorem dX11_years_44 : decode cX11_years 44 = .ok (.iload_n 1, 1) := by decide +kernel
theorem dX11_years_45 : decode cX11_years 45 = .ok (.iload_n 2, 1) := by decide +kernel
theorem dX11_years_46 : decode cX11_years 46 = .ok (.iload_n 3, 1) := by decide +kernel
theorem dX11_years_47 : decode cX11_years 47 = .ok (.invokevirtual 273, 3) := by decide +kernel
theorem dX11_years_50 : decode cX11_years 50 = .ok (.ireturn, 1) := by decide +kernel
theorem dX11_mark_0 : decode cX11_mark 0 = .ok (.iload_n 1, 1) := by decide +kernel
theorem dX11_mark_1 : decode cX11_mark 1 = .ok (.iconst 0, 1) := by decide +kernel
theorem dX11_mark_2 : decode cX11_mark 2 = .ok (.iconst 3, 1) := by decide +kernel
theorem dX11_mark_3 : decode cX11_mark 3 = .ok (.invokestatic 155, 3) := by decide +kernel
theorem dX11_mark_6 : decode cX11_mark 6 = .ok (.ifCond .ne 5, 3) := by decide +kernel
theorem dX11_mark_9 : decode cX11_mark 9 = .ok (.iconst 0, 1) := by decide +kernel
theorem dX11_mark_10 : decode cX11_mark 10 = .ok (.ireturn, 1) := by decide +kernel
theorem dX11_mark_11 : decode cX11_mark 11 = .ok (.iload_n 2, 1) := by decide +kernel
theorem dX11_mark_12 : decode cX11_mark 12 = .ok (.ifCond .eq 20, 3) := by decide +kernel
theorem dX11_mark_15 : decode cX11_mark 15 = .ok (.aload_n 0, 1) := by decide +kernel
theorem dX11_mark_16 : decode cX11_mark 16 = .ok (.getfield 26, 3) := by decide +kernel
theorem dX11_mark_19 : decode cX11_mark 19 = .ok (.iload_n 1, 1) := by decide +kernel
theorem dX11_mark_20 : decode cX11_mark 20 = .ok (.aload_n 0, 1) := by decide +kernel
theorem dX11_mark_21 : decode cX11_mark 21 = .ok (.getfield 19, 3) := by decide +kernel
theorem dX11_mark_24 : decode cX11_mark 24 = .ok (.aload_n 0, 1) := by decide +kernel
theorem dX11_mark_25 : decode cX11_mark 25 = .ok (.getfield 33, 3) := by decide +kernel
theorem dX11_mark_28 : decode cX11_mark 28 = .ok (.invokevirtual 276, 3) := by decide +kernel
theorem dX11_mark_31 : decode cX11_mark 31 = .ok (.ireturn, 1) := by decide +kernel
theorem dX11_mark_32 : decode cX11_mark 32 = .ok (.aload_n 0, 1) := by decide +kernel
theorem dX11_mark_33 : decode cX11_mark 33 = .ok (.getfield 26, 3) := by decide +kernel
theorem dX11_mark_36 : decode cX11_mark 36 = .ok (.iload_n 1, 1) := by decide +kernel
theorem dX11_mark_37 : decode cX11_mark 37 = .ok (.aload_n 0, 1) := by decide +kernel
theorem dX11_mark_38 : decode cX11_mark 38 = .ok (.getfield 19, 3) := by decide +kernel
theorem dX11_mark_41 : decode cX11_mark 41 = .ok (.aload_n 0, 1) := by decide +kernel
theorem dX11_mark_42 : decode cX11_mark 42 = .ok (.getfield 33, 3) := by decide +kernel
theorem dX11_mark_45 : decode cX11_mark 45 = .ok (.invokevirtual 280, 3) := by decide +kernel
theorem dX11_mark_48 : decode cX11_mark 48 = .ok (.iconst 1, 1) := by decide +kernel
theorem dX11_mark_49 : decode cX11_mark 49 = .ok (.ireturn, 1) := by decide +kernel
theorem dX11_count_0 : decode cX11_count 0 = .ok (.iload_n 1, 1) := by decide +kernel
theorem dX11_count_1 : decode cX11_count 1 = .ok (.tableswitch 168 0 11 #[63, 71, 82, 90, 101, 109, 117, 125, 133, 141, 149, 157], 63) := by decide +kernel
theorem dX11_count_64 : decode cX11_count 64 = .ok (.aload_n 0, 1) := by decide +kernel
theorem dX11_count_65 : decode cX11_count 65 = .ok (.getfield 54, 3) := by decide +kernel
theorem dX11_count_68 : decode cX11_count 68 = .ok (.getfield 228, 3) := by decide +kernel
theorem dX11_count_71 : decode cX11_count 71 = .ok (.ireturn, 1) := by decide +kernel
theorem dX11_count_72 : decode cX11_count 72 = .ok (.aload_n 0, 1) := by decide +kernel
theorem dX11_count_73 : decode cX11_count 73 = .ok (.getfield 54, 3) := by decide +kernel
theorem dX11_count_76 : decode cX11_count 76 = .ok (.getfield 159, 3) := by decide +kernel
theorem dX11_count_79 : decode cX11_count 79 = .ok (.getfield 284, 3) := by decide +kernel
theorem dX11_count_82 : decode cX11_count 82 = .ok (.ireturn, 1) := by decide +kernel
theorem dX11_count_83 : decode cX11_count 83 = .ok (.aload_n 0, 1) := by decide +kernel
theorem dX11_count_84 : decode cX11_count 84 = .ok (.getfield 54, 3) := by decide +kernel
theorem dX11_count_87 : decode cX11_count 87 = .ok (.getfield 102, 3) := by decide +kernel
theorem dX11_count_90 : decode cX11_count 90 = .ok (.ireturn, 1) := by decide +kernel
theorem dX11_count_91 : decode cX11_count 91 = .ok (.aload_n 0, 1) := by decide +kernel
theorem dX11_count_92 : decode cX11_count 92 = .ok (.getfield 54, 3) := by decide +kernel
theorem dX11_count_95 : decode cX11_count 95 = .ok (.getfield 159, 3) := by decide +kernel
theorem dX11_count_98 : decode cX11_count 98 = .ok (.getfield 287, 3) := by decide +kernel
theorem dX11_count_101 : decode cX11_count 101 = .ok (.ireturn, 1) := by decide +kernel
theorem dX11_count_102 : decode cX11_count 102 = .ok (.aload_n 0, 1) := by decide +kernel
theorem dX11_count_103 : decode cX11_count 103 = .ok (.getfield 19, 3) := by decide +kernel
theorem dX11_count_106 : decode cX11_count 106 = .ok (.getfield 290, 3) := by decide +kernel
theorem dX11_count_109 : decode cX11_count 109 = .ok (.ireturn, 1) := by decide +kernel
theorem dX11_count_110 : decode cX11_count 110 = .ok (.aload_n 0, 1) := by decide +kernel
theorem dX11_count_111 : decode cX11_count 111 = .ok (.getfield 19, 3) := by decide +kernel
theorem dX11_count_114 : decode cX11_count 114 = .ok (.getfield 293, 3) := by decide +kernel
theorem dX11_count_117 : decode cX11_count 117 = .ok (.ireturn, 1) := by decide +kernel
theorem dX11_count_118 : decode cX11_count 118 = .ok (.aload_n 0, 1) := by decide +kernel
theorem dX11_count_119 : decode cX11_count 119 = .ok (.getfield 19, 3) := by decide +kernel
theorem dX11_count_122 : decode cX11_count 122 = .ok (.getfield 184, 3) := by decide +kernel
theorem dX11_count_125 : decode cX11_count 125 = .ok (.ireturn, 1) := by decide +kernel
theorem dX11_count_126 : decode cX11_count 126 = .ok (.aload_n 0, 1) := by decide +kernel
theorem dX11_count_127 : decode cX11_count 127 = .ok (.getfield 19, 3) := by decide +kernel
theorem dX11_count_130 : decode cX11_count 130 = .ok (.invokevirtual 296, 3) := by decide +kernel
theorem dX11_count_133 : decode cX11_count 133 = .ok (.ireturn, 1) := by decide +kernel
theorem dX11_count_134 : decode cX11_count 134 = .ok (.aload_n 0, 1) := by decide +kernel
theorem dX11_count_135 : decode cX11_count 135 = .ok (.getfield 64, 3) := by decide +kernel
theorem dX11_count_138 : decode cX11_count 138 = .ok (.getfield 89, 3) := by decide +kernel
theorem dX11_count_141 : decode cX11_count 141 = .ok (.ireturn, 1) := by decide +kernel
theorem dX11_count_142 : decode cX11_count 142 = .ok (.aload_n 0, 1) := by decide +kernel
theorem dX11_count_143 : decode cX11_count 143 = .ok (.getfield 33, 3) := by decide +kernel
theorem dX11_count_146 : decode cX11_count 146 = .ok (.getfield 99, 3) := by decide +kernel
theorem dX11_count_149 : decode cX11_count 149 = .ok (.ireturn, 1) := by decide +kernel
theorem dX11_count_150 : decode cX11_count 150 = .ok (.aload_n 0, 1) := by decide +kernel
theorem dX11_count_151 : decode cX11_count 151 = .ok (.getfield 26, 3) := by decide +kernel
theorem dX11_count_154 : decode cX11_count 154 = .ok (.getfield 300, 3) := by decide +kernel
theorem dX11_count_157 : decode cX11_count 157 = .ok (.ireturn, 1) := by decide +kernel
theorem dX11_count_158 : decode cX11_count 158 = .ok (.aload_n 0, 1) := by decide +kernel
theorem dX11_count_159 : decode cX11_count 159 = .ok (.getfield 10, 3) := by decide +kernel
theorem dX11_count_162 : decode cX11_count 162 = .ok (.getfield 71, 3) := by decide +kernel
theorem dX11_count_165 : decode cX11_count 165 = .ok (.getfield 81, 3) := by decide +kernel
theorem dX11_count_168 : decode cX11_count 168 = .ok (.ireturn, 1) := by decide +kernel
theorem dX11_count_169 : decode cX11_count 169 = .ok (.iconst (-1), 1) := by decide +kernel
theorem dX11_count_170 : decode cX11_count 170 = .ok (.ireturn, 1) := by decide +kernel
theorem dX11_isWithin_0 : decode cX11_isWithin 0 = .ok (.iload_n 0, 1) := by decide +kernel
theorem dX11_isWithin_1 : decode cX11_isWithin 1 = .ok (.iload_n 1, 1) := by decide +kernel
theorem dX11_isWithin_2 : decode cX11_isWithin 2 = .ok (.if_icmp .lt 12, 3) := by decide +kernel
theorem dX11_isWithin_5 : decode cX11_isWithin 5 = .ok (.iload_n 0, 1) := by decide +kernel
theorem dX11_isWithin_6 : decode cX11_isWithin 6 = .ok (.iload_n 2, 1) := by decide +kernel
theorem dX11_isWithin_7 : decode cX11_isWithin 7 = .ok (.if_icmp .gt 7, 3) := by decide +kernel
theorem dX11_isWithin_10 : decode cX11_isWithin 10 = .ok (.iconst 1, 1) := by decide +kernel
theorem dX11_isWithin_11 : decode cX11_isWithin 11 = .ok (.goto 4, 3) := by decide +kernel
theorem dX11_isWithin_14 : decode cX11_isWithin 14 = .ok (.iconst 0, 1) := by decide +kernel
theorem dX11_isWithin_15 : decode cX11_isWithin 15 = .ok (.ireturn, 1) := by decide +kernel
theorem dX11_clamp_0 : decode cX11_clamp 0 = .ok (.iload_n 1, 1) := by decide +kernel
theorem dX11_clamp_1 : decode cX11_clamp 1 = .ok (.iload_n 2, 1) := by decide +kernel
theorem dX11_clamp_2 : decode cX11_clamp 2 = .ok (.iload_n 0, 1) := by decide +kernel
theorem dX11_clamp_3 : decode cX11_clamp 3 = .ok (.invokestatic 301, 3) := by decide +kernel
theorem dX11_clamp_6 : decode cX11_clamp 6 = .ok (.invokestatic 306, 3) := by decide +kernel
theorem dX11_clamp_9 : decode cX11_clamp 9 = .ok (.ireturn, 1) := by decide +kernel
theorem dX11_holds_0 : decode cX11_holds 0 = .ok (.iload_n 0, 1) := by decide +kernel
theorem dX11_holds_1 : decode cX11_holds 1 = .ok (.iload_n 1, 1) := by decide +kernel
theorem dX11_holds_2 : decode cX11_holds 2 = .ok (.ishr, 1) := by decide +kernel
theorem dX11_holds_3 : decode cX11_holds 3 = .ok (.iconst 1, 1) := by decide +kernel
theorem dX11_holds_4 : decode cX11_holds 4 = .ok (.iand, 1) := by decide +kernel
theorem dX11_holds_5 : decode cX11_holds 5 = .ok (.ifCond .eq 7, 3) := by decide +kernel
theorem dX11_holds_8 : decode cX11_holds 8 = .ok (.iconst 1, 1) := by decide +kernel
theorem dX11_holds_9 : decode cX11_holds 9 = .ok (.goto 4, 3) := by decide +kernel
theorem dX11_holds_12 : decode cX11_holds 12 = .ok (.iconst 0, 1) := by decide +kernel
theorem dX11_holds_13 : decode cX11_holds 13 = .ok (.ireturn, 1) := by decide +kernel
theorem dX11_isPartOf_0 : decode cX11_isPartOf 0 = .ok (.iload_n 0, 1) := by decide +kernel
theorem dX11_isPartOf_1 : decode cX11_isPartOf 1 = .ok (.iload_n 1, 1) := by decide +kernel
theorem dX11_isPartOf_2 : decode cX11_isPartOf 2 = .ok (.iconst (-1), 1) := by decide +kernel
theorem dX11_isPartOf_3 : decode cX11_isPartOf 3 = .ok (.ixor, 1) := by decide +kernel
theorem dX11_isPartOf_4 : decode cX11_isPartOf 4 = .ok (.iand, 1) := by decide +kernel
theorem dX11_isPartOf_5 : decode cX11_isPartOf 5 = .ok (.ifCond .ne 7, 3) := by decide +kernel
theorem dX11_isPartOf_8 : decode cX11_isPartOf 8 = .ok (.iconst 1, 1) := by decide +kernel
theorem dX11_isPartOf_9 : decode cX11_isPartOf 9 = .ok (.goto 4, 3) := by decide +kernel
theorem dX11_isPartOf_12 : decode cX11_isPartOf 12 = .ok (.iconst 0, 1) := by decide +kernel
theorem dX11_isPartOf_13 : decode cX11_isPartOf 13 = .ok (.ireturn, 1) := by decide +kernel
theorem dX12_thrown_0 : decode cX12_thrown 0 = .ok (.aload_n 0, 1) := by decide +kernel
theorem dX12_thrown_1 : decode cX12_thrown 1 = .ok (.getfield 1, 3) := by decide +kernel
theorem dX12_thrown_4 : decode cX12_thrown 4 = .ok (.ireturn, 1) := by decide +kernel
theorem dX12_feed_0 : decode cX12_feed 0 = .ok (.aload_n 0, 1) := by decide +kernel
theorem dX12_feed_1 : decode cX12_feed 1 = .ok (.iconst 0, 1) := by decide +kernel
theorem dX12_feed_2 : decode cX12_feed 2 = .ok (.putfield 1, 3) := by decide +kernel
theorem dX12_feed_5 : decode cX12_feed 5 = .ok (.aload_n 0, 1) := by decide +kernel
theorem dX12_feed_6 : decode cX12_feed 6 = .ok (.lload_n 1, 1) := by decide +kernel
theorem dX12_feed_7 : decode cX12_feed 7 = .ok (.invokevirtual 7, 3) := by decide +kernel
theorem dX12_feed_10 : decode cX12_feed 10 = .ok (.aload_n 0, 1) := by decide +kernel
theorem dX12_feed_11 : decode cX12_feed 11 = .ok (.lload_n 3, 1) := by decide +kernel
theorem dX12_feed_12 : decode cX12_feed 12 = .ok (.invokevirtual 7, 3) := by decide +kernel
theorem dX12_feed_15 : decode cX12_feed 15 = .ok (.aload_n 0, 1) := by decide +kernel
theorem dX12_feed_16 : decode cX12_feed 16 = .ok (.lload 5, 2) := by decide +kernel
theorem dX12_feed_18 : decode cX12_feed 18 = .ok (.invokevirtual 7, 3) := by decide +kernel
theorem dX12_feed_21 : decode cX12_feed 21 = .ok (.aload_n 0, 1) := by decide +kernel
theorem dX12_feed_22 : decode cX12_feed 22 = .ok (.getfield 11, 3) := by decide +kernel
theorem dX12_feed_25 : decode cX12_feed 25 = .ok (.ireturn, 1) := by decide +kernel
theorem dX12_lay_0 : decode cX12_lay 0 = .ok (.bipush 56, 2) := by decide +kernel
theorem dX12_lay_2 : decode cX12_lay 2 = .ok (.istore_n 3, 1) := by decide +kernel
theorem dX12_lay_3 : decode cX12_lay 3 = .ok (.iload_n 3, 1) := by decide +kernel
theorem dX12_lay_4 : decode cX12_lay 4 = .ok (.ifCond .lt 71, 3) := by decide +kernel
theorem dX12_lay_7 : decode cX12_lay 7 = .ok (.lload_n 1, 1) := by decide +kernel
theorem dX12_lay_8 : decode cX12_lay 8 = .ok (.iload_n 3, 1) := by decide +kernel
theorem dX12_lay_9 : decode cX12_lay 9 = .ok (.lshr, 1) := by decide +kernel
theorem dX12_lay_10 : decode cX12_lay 10 = .ok (.l2i, 1) := by decide +kernel
theorem dX12_lay_11 : decode cX12_lay 11 = .ok (.sipush 255, 3) := by decide +kernel
theorem dX12_lay_14 : decode cX12_lay 14 = .ok (.iand, 1) := by decide +kernel
theorem dX12_lay_15 : decode cX12_lay 15 = .ok (.istore 4, 2) := by decide +kernel
theorem dX12_lay_17 : decode cX12_lay 17 = .ok (.iload 4, 2) := by decide +kernel
theorem dX12_lay_19 : decode cX12_lay 19 = .ok (.bipush 10, 2) := by decide +kernel
theorem dX12_lay_21 : decode cX12_lay 21 = .ok (.if_icmp .eq 17, 3) := by decide +kernel
theorem dX12_lay_24 : decode cX12_lay 24 = .ok (.iload 4, 2) := by decide +kernel
theorem dX12_lay_26 : decode cX12_lay 26 = .ok (.bipush 32, 2) := by decide +kernel
theorem dX12_lay_28 : decode cX12_lay 28 = .ok (.if_icmp .lt 41, 3) := by decide +kernel
theorem dX12_lay_31 : decode cX12_lay 31 = .ok (.iload 4, 2) := by decide +kernel
theorem dX12_lay_33 : decode cX12_lay 33 = .ok (.bipush 126, 2) := by decide +kernel
theorem dX12_lay_35 : decode cX12_lay 35 = .ok (.if_icmp .gt 34, 3) := by decide +kernel
theorem dX12_lay_38 : decode cX12_lay 38 = .ok (.aload_n 0, 1) := by decide +kernel
theorem dX12_lay_39 : decode cX12_lay 39 = .ok (.getfield 11, 3) := by decide +kernel
theorem dX12_lay_42 : decode cX12_lay 42 = .ok (.sipush 1000, 3) := by decide +kernel
theorem dX12_lay_45 : decode cX12_lay 45 = .ok (.if_icmp .ge 24, 3) := by decide +kernel
theorem dX12_lay_48 : decode cX12_lay 48 = .ok (.aload_n 0, 1) := by decide +kernel
theorem dX12_lay_49 : decode cX12_lay 49 = .ok (.getfield 14, 3) := by decide +kernel
theorem dX12_lay_52 : decode cX12_lay 52 = .ok (.aload_n 0, 1) := by decide +kernel
theorem dX12_lay_53 : decode cX12_lay 53 = .ok (.getfield 11, 3) := by decide +kernel
theorem dX12_lay_56 : decode cX12_lay 56 = .ok (.iload 4, 2) := by decide +kernel
theorem dX12_lay_58 : decode cX12_lay 58 = .ok (.iastore, 1) := by decide +kernel
theorem dX12_lay_59 : decode cX12_lay 59 = .ok (.aload_n 0, 1) := by decide +kernel
theorem dX12_lay_60 : decode cX12_lay 60 = .ok (.dup, 1) := by decide +kernel
theorem dX12_lay_61 : decode cX12_lay 61 = .ok (.getfield 11, 3) := by decide +kernel
theorem dX12_lay_64 : decode cX12_lay 64 = .ok (.iconst 1, 1) := by decide +kernel
theorem dX12_lay_65 : decode cX12_lay 65 = .ok (.iadd, 1) := by decide +kernel
theorem dX12_lay_66 : decode cX12_lay 66 = .ok (.putfield 11, 3) := by decide +kernel
theorem dX12_lay_69 : decode cX12_lay 69 = .ok (.iinc 3 (-8), 3) := by decide +kernel
theorem dX12_lay_72 : decode cX12_lay 72 = .ok (.goto (-69), 3) := by decide +kernel
theorem dX12_lay_75 : decode cX12_lay 75 = .ok (.return_, 1) := by decide +kernel
theorem dX12_init_0 : decode cX12_init 0 = .ok (.aload_n 0, 1) := by decide +kernel
theorem dX12_init_1 : decode cX12_init 1 = .ok (.invokespecial 18, 3) := by decide +kernel
theorem dX12_init_4 : decode cX12_init 4 = .ok (.aload_n 0, 1) := by decide +kernel
theorem dX12_init_5 : decode cX12_init 5 = .ok (.sipush 1000, 3) := by decide +kernel
theorem dX12_init_8 : decode cX12_init 8 = .ok (.newarray .int, 2) := by decide +kernel
theorem dX12_init_10 : decode cX12_init 10 = .ok (.putfield 14, 3) := by decide +kernel
theorem dX12_init_13 : decode cX12_init 13 = .ok (.aload_n 0, 1) := by decide +kernel
theorem dX12_init_14 : decode cX12_init 14 = .ok (.sipush 1002, 3) := by decide +kernel
theorem dX12_init_17 : decode cX12_init 17 = .ok (.newarray .int, 2) := by decide +kernel
theorem dX12_init_19 : decode cX12_init 19 = .ok (.putfield 24, 3) := by decide +kernel
theorem dX12_init_22 : decode cX12_init 22 = .ok (.aload_n 0, 1) := by decide +kernel
theorem dX12_init_23 : decode cX12_init 23 = .ok (.sipush 1002, 3) := by decide +kernel
theorem dX12_init_26 : decode cX12_init 26 = .ok (.newarray .int, 2) := by decide +kernel
theorem dX12_init_28 : decode cX12_init 28 = .ok (.putfield 27, 3) := by decide +kernel
theorem dX12_init_31 : decode cX12_init 31 = .ok (.aload_n 0, 1) := by decide +kernel
theorem dX12_init_32 : decode cX12_init 32 = .ok (.sipush 1002, 3) := by decide +kernel
theorem dX12_init_35 : decode cX12_init 35 = .ok (.newarray .long, 2) := by decide +kernel
theorem dX12_init_37 : decode cX12_init 37 = .ok (.putfield 30, 3) := by decide +kernel
theorem dX12_init_40 : decode cX12_init 40 = .ok (.aload_n 0, 1) := by decide +kernel
theorem dX12_init_41 : decode cX12_init 41 = .ok (.bipush 26, 2) := by decide +kernel
theorem dX12_init_43 : decode cX12_init 43 = .ok (.newarray .long, 2) := by decide +kernel
theorem dX12_init_45 : decode cX12_init 45 = .ok (.dup, 1) := by decide +kernel
theorem dX12_init_46 : decode cX12_init 46 = .ok (.iconst 0, 1) := by decide +kernel
theorem dX12_init_47 : decode cX12_init 47 = .ok (.ldc2_w 34, 3) := by decide +kernel
theorem dX12_init_50 : decode cX12_init 50 = .ok (.lastore, 1) := by decide +kernel
theorem dX12_init_51 : decode cX12_init 51 = .ok (.dup, 1) := by decide +kernel
theorem dX12_init_52 : decode cX12_init 52 = .ok (.iconst 1, 1) := by decide +kernel
theorem dX12_init_53 : decode cX12_init 53 = .ok (.ldc2_w 36, 3) := by decide +kernel
theorem dX12_init_56 : decode cX12_init 56 = .ok (.lastore, 1) := by decide +kernel
theorem dX12_init_57 : decode cX12_init 57 = .ok (.dup, 1) := by decide +kernel
theorem dX12_init_58 : decode cX12_init 58 = .ok (.iconst 2, 1) := by decide +kernel
theorem dX12_init_59 : decode cX12_init 59 = .ok (.ldc2_w 38, 3) := by decide +kernel
theorem dX12_init_62 : decode cX12_init 62 = .ok (.lastore, 1) := by decide +kernel
theorem dX12_init_63 : decode cX12_init 63 = .ok (.dup, 1) := by decide +kernel
theorem dX12_init_64 : decode cX12_init 64 = .ok (.iconst 3, 1) := by decide +kernel
theorem dX12_init_65 : decode cX12_init 65 = .ok (.ldc2_w 40, 3) := by decide +kernel
theorem dX12_init_68 : decode cX12_init 68 = .ok (.lastore, 1) := by decide +kernel
theorem dX12_init_69 : decode cX12_init 69 = .ok (.dup, 1) := by decide +kernel
theorem dX12_init_70 : decode cX12_init 70 = .ok (.iconst 4, 1) := by decide +kernel
theorem dX12_init_71 : decode cX12_init 71 = .ok (.ldc2_w 42, 3) := by decide +kernel
theorem dX12_init_74 : decode cX12_init 74 = .ok (.lastore, 1) := by decide +kernel
theorem dX12_init_75 : decode cX12_init 75 = .ok (.dup, 1) := by decide +kernel
theorem dX12_init_76 : decode cX12_init 76 = .ok (.iconst 5, 1) := by decide +kernel
theorem dX12_init_77 : decode cX12_init 77 = .ok (.ldc2_w 44, 3) := by decide +kernel
theorem dX12_init_80 : decode cX12_init 80 = .ok (.lastore, 1) := by decide +kernel
theorem dX12_init_81 : decode cX12_init 81 = .ok (.dup, 1) := by decide +kernel
theorem dX12_init_82 : decode cX12_init 82 = .ok (.bipush 6, 2) := by decide +kernel
theorem dX12_init_84 : decode cX12_init 84 = .ok (.ldc2_w 46, 3) := by decide +kernel
theorem dX12_init_87 : decode cX12_init 87 = .ok (.lastore, 1) := by decide +kernel
theorem dX12_init_88 : decode cX12_init 88 = .ok (.dup, 1) := by decide +kernel
theorem dX12_init_89 : decode cX12_init 89 = .ok (.bipush 7, 2) := by decide +kernel
theorem dX12_init_91 : decode cX12_init 91 = .ok (.ldc2_w 48, 3) := by decide +kernel
theorem dX12_init_94 : decode cX12_init 94 = .ok (.lastore, 1) := by decide +kernel
theorem dX12_init_95 : decode cX12_init 95 = .ok (.dup, 1) := by decide +kernel
theorem dX12_init_96 : decode cX12_init 96 = .ok (.bipush 8, 2) := by decide +kernel
theorem dX12_init_98 : decode cX12_init 98 = .ok (.ldc2_w 50, 3) := by decide +kernel
theorem dX12_init_101 : decode cX12_init 101 = .ok (.lastore, 1) := by decide +kernel
theorem dX12_init_102 : decode cX12_init 102 = .ok (.dup, 1) := by decide +kernel
theorem dX12_init_103 : decode cX12_init 103 = .ok (.bipush 9, 2) := by decide +kernel
theorem dX12_init_105 : decode cX12_init 105 = .ok (.ldc2_w 52, 3) := by decide +kernel
theorem dX12_init_108 : decode cX12_init 108 = .ok (.lastore, 1) := by decide +kernel
theorem dX12_init_109 : decode cX12_init 109 = .ok (.dup, 1) := by decide +kernel
theorem dX12_init_110 : decode cX12_init 110 = .ok (.bipush 10, 2) := by decide +kernel
theorem dX12_init_112 : decode cX12_init 112 = .ok (.ldc2_w 54, 3) := by decide +kernel
theorem dX12_init_115 : decode cX12_init 115 = .ok (.lastore, 1) := by decide +kernel
theorem dX12_init_116 : decode cX12_init 116 = .ok (.dup, 1) := by decide +kernel
theorem dX12_init_117 : decode cX12_init 117 = .ok (.bipush 11, 2) := by decide +kernel
theorem dX12_init_119 : decode cX12_init 119 = .ok (.ldc2_w 56, 3) := by decide +kernel
theorem dX12_init_122 : decode cX12_init 122 = .ok (.lastore, 1) := by decide +kernel
theorem dX12_init_123 : decode cX12_init 123 = .ok (.dup, 1) := by decide +kernel
theorem dX12_init_124 : decode cX12_init 124 = .ok (.bipush 12, 2) := by decide +kernel
theorem dX12_init_126 : decode cX12_init 126 = .ok (.ldc2_w 58, 3) := by decide +kernel
theorem dX12_init_129 : decode cX12_init 129 = .ok (.lastore, 1) := by decide +kernel
theorem dX12_init_130 : decode cX12_init 130 = .ok (.dup, 1) := by decide +kernel
theorem dX12_init_131 : decode cX12_init 131 = .ok (.bipush 13, 2) := by decide +kernel
theorem dX12_init_133 : decode cX12_init 133 = .ok (.ldc2_w 60, 3) := by decide +kernel
theorem dX12_init_136 : decode cX12_init 136 = .ok (.lastore, 1) := by decide +kernel
theorem dX12_init_137 : decode cX12_init 137 = .ok (.dup, 1) := by decide +kernel
theorem dX12_init_138 : decode cX12_init 138 = .ok (.bipush 14, 2) := by decide +kernel
theorem dX12_init_140 : decode cX12_init 140 = .ok (.ldc2_w 62, 3) := by decide +kernel
theorem dX12_init_143 : decode cX12_init 143 = .ok (.lastore, 1) := by decide +kernel
theorem dX12_init_144 : decode cX12_init 144 = .ok (.dup, 1) := by decide +kernel
theorem dX12_init_145 : decode cX12_init 145 = .ok (.bipush 15, 2) := by decide +kernel
theorem dX12_init_147 : decode cX12_init 147 = .ok (.ldc2_w 64, 3) := by decide +kernel
theorem dX12_init_150 : decode cX12_init 150 = .ok (.lastore, 1) := by decide +kernel
theorem dX12_init_151 : decode cX12_init 151 = .ok (.dup, 1) := by decide +kernel
theorem dX12_init_152 : decode cX12_init 152 = .ok (.bipush 16, 2) := by decide +kernel
theorem dX12_init_154 : decode cX12_init 154 = .ok (.ldc2_w 66, 3) := by decide +kernel
theorem dX12_init_157 : decode cX12_init 157 = .ok (.lastore, 1) := by decide +kernel
theorem dX12_init_158 : decode cX12_init 158 = .ok (.dup, 1) := by decide +kernel
theorem dX12_init_159 : decode cX12_init 159 = .ok (.bipush 17, 2) := by decide +kernel
theorem dX12_init_161 : decode cX12_init 161 = .ok (.ldc2_w 68, 3) := by decide +kernel
theorem dX12_init_164 : decode cX12_init 164 = .ok (.lastore, 1) := by decide +kernel
theorem dX12_init_165 : decode cX12_init 165 = .ok (.dup, 1) := by decide +kernel
theorem dX12_init_166 : decode cX12_init 166 = .ok (.bipush 18, 2) := by decide +kernel
theorem dX12_init_168 : decode cX12_init 168 = .ok (.ldc2_w 70, 3) := by decide +kernel
theorem dX12_init_171 : decode cX12_init 171 = .ok (.lastore, 1) := by decide +kernel
theorem dX12_init_172 : decode cX12_init 172 = .ok (.dup, 1) := by decide +kernel
theorem dX12_init_173 : decode cX12_init 173 = .ok (.bipush 19, 2) := by decide +kernel
theorem dX12_init_175 : decode cX12_init 175 = .ok (.ldc2_w 72, 3) := by decide +kernel
theorem dX12_init_178 : decode cX12_init 178 = .ok (.lastore, 1) := by decide +kernel
theorem dX12_init_179 : decode cX12_init 179 = .ok (.dup, 1) := by decide +kernel
theorem dX12_init_180 : decode cX12_init 180 = .ok (.bipush 20, 2) := by decide +kernel
theorem dX12_init_182 : decode cX12_init 182 = .ok (.ldc2_w 74, 3) := by decide +kernel
theorem dX12_init_185 : decode cX12_init 185 = .ok (.lastore, 1) := by decide +kernel
theorem dX12_init_186 : decode cX12_init 186 = .ok (.dup, 1) := by decide +kernel
theorem dX12_init_187 : decode cX12_init 187 = .ok (.bipush 21, 2) := by decide +kernel
theorem dX12_init_189 : decode cX12_init 189 = .ok (.ldc2_w 76, 3) := by decide +kernel
theorem dX12_init_192 : decode cX12_init 192 = .ok (.lastore, 1) := by decide +kernel
theorem dX12_init_193 : decode cX12_init 193 = .ok (.dup, 1) := by decide +kernel
theorem dX12_init_194 : decode cX12_init 194 = .ok (.bipush 22, 2) := by decide +kernel
theorem dX12_init_196 : decode cX12_init 196 = .ok (.ldc2_w 78, 3) := by decide +kernel
theorem dX12_init_199 : decode cX12_init 199 = .ok (.lastore, 1) := by decide +kernel
theorem dX12_init_200 : decode cX12_init 200 = .ok (.dup, 1) := by decide +kernel
theorem dX12_init_201 : decode cX12_init 201 = .ok (.bipush 23, 2) := by decide +kernel
theorem dX12_init_203 : decode cX12_init 203 = .ok (.ldc2_w 80, 3) := by decide +kernel
theorem dX12_init_206 : decode cX12_init 206 = .ok (.lastore, 1) := by decide +kernel
theorem dX12_init_207 : decode cX12_init 207 = .ok (.dup, 1) := by decide +kernel
theorem dX12_init_208 : decode cX12_init 208 = .ok (.bipush 24, 2) := by decide +kernel
theorem dX12_init_210 : decode cX12_init 210 = .ok (.ldc2_w 82, 3) := by decide +kernel
theorem dX12_init_213 : decode cX12_init 213 = .ok (.lastore, 1) := by decide +kernel
theorem dX12_init_214 : decode cX12_init 214 = .ok (.dup, 1) := by decide +kernel
theorem dX12_init_215 : decode cX12_init 215 = .ok (.bipush 25, 2) := by decide +kernel
theorem dX12_init_217 : decode cX12_init 217 = .ok (.ldc2_w 84, 3) := by decide +kernel
theorem dX12_init_220 : decode cX12_init 220 = .ok (.lastore, 1) := by decide +kernel
theorem dX12_init_221 : decode cX12_init 221 = .ok (.putfield 86, 3) := by decide +kernel
theorem dX12_init_224 : decode cX12_init 224 = .ok (.aload_n 0, 1) := by decide +kernel
theorem dX12_init_225 : decode cX12_init 225 = .ok (.sipush 200, 3) := by decide +kernel
theorem dX12_init_228 : decode cX12_init 228 = .ok (.newarray .int, 2) := by decide +kernel
theorem dX12_init_230 : decode cX12_init 230 = .ok (.putfield 89, 3) := by decide +kernel
theorem dX12_init_233 : decode cX12_init 233 = .ok (.aload_n 0, 1) := by decide +kernel
theorem dX12_init_234 : decode cX12_init 234 = .ok (.sipush 2200, 3) := by decide +kernel
theorem dX12_init_237 : decode cX12_init 237 = .ok (.newarray .int, 2) := by decide +kernel
theorem dX12_init_239 : decode cX12_init 239 = .ok (.putfield 92, 3) := by decide +kernel
theorem dX12_init_242 : decode cX12_init 242 = .ok (.aload_n 0, 1) := by decide +kernel
theorem dX12_init_243 : decode cX12_init 243 = .ok (.sipush 2200, 3) := by decide +kernel
theorem dX12_init_246 : decode cX12_init 246 = .ok (.newarray .int, 2) := by decide +kernel
theorem dX12_init_248 : decode cX12_init 248 = .ok (.putfield 95, 3) := by decide +kernel
theorem dX12_init_251 : decode cX12_init 251 = .ok (.aload_n 0, 1) := by decide +kernel
theorem dX12_init_252 : decode cX12_init 252 = .ok (.bipush 6, 2) := by decide +kernel
theorem dX12_init_254 : decode cX12_init 254 = .ok (.newarray .long, 2) := by decide +kernel
theorem dX12_init_256 : decode cX12_init 256 = .ok (.putfield 98, 3) := by decide +kernel
theorem dX12_init_259 : decode cX12_init 259 = .ok (.aload_n 0, 1) := by decide +kernel
theorem dX12_init_260 : decode cX12_init 260 = .ok (.bipush 6, 2) := by decide +kernel
theorem dX12_init_262 : decode cX12_init 262 = .ok (.newarray .long, 2) := by decide +kernel
theorem dX12_init_264 : decode cX12_init 264 = .ok (.putfield 101, 3) := by decide +kernel
theorem dX12_init_267 : decode cX12_init 267 = .ok (.aload_n 0, 1) := by decide +kernel
theorem dX12_init_268 : decode cX12_init 268 = .ok (.sipush 200, 3) := by decide +kernel
theorem dX12_init_271 : decode cX12_init 271 = .ok (.newarray .int, 2) := by decide +kernel
theorem dX12_init_273 : decode cX12_init 273 = .ok (.putfield 104, 3) := by decide +kernel
theorem dX12_init_276 : decode cX12_init 276 = .ok (.aload_n 0, 1) := by decide +kernel
theorem dX12_init_277 : decode cX12_init 277 = .ok (.iconst 3, 1) := by decide +kernel
theorem dX12_init_278 : decode cX12_init 278 = .ok (.newarray .int, 2) := by decide +kernel
theorem dX12_init_280 : decode cX12_init 280 = .ok (.putfield 107, 3) := by decide +kernel
theorem dX12_init_283 : decode cX12_init 283 = .ok (.aload_n 0, 1) := by decide +kernel
theorem dX12_init_284 : decode cX12_init 284 = .ok (.sipush 1100, 3) := by decide +kernel
theorem dX12_init_287 : decode cX12_init 287 = .ok (.newarray .int, 2) := by decide +kernel
theorem dX12_init_289 : decode cX12_init 289 = .ok (.putfield 110, 3) := by decide +kernel
theorem dX12_init_292 : decode cX12_init 292 = .ok (.aload_n 0, 1) := by decide +kernel
theorem dX12_init_293 : decode cX12_init 293 = .ok (.sipush 1449, 3) := by decide +kernel
theorem dX12_init_296 : decode cX12_init 296 = .ok (.newarray .int, 2) := by decide +kernel
theorem dX12_init_298 : decode cX12_init 298 = .ok (.putfield 113, 3) := by decide +kernel
theorem dX12_init_301 : decode cX12_init 301 = .ok (.aload_n 0, 1) := by decide +kernel
theorem dX12_init_302 : decode cX12_init 302 = .ok (.iconst 4, 1) := by decide +kernel
theorem dX12_init_303 : decode cX12_init 303 = .ok (.newarray .boolean, 2) := by decide +kernel
theorem dX12_init_305 : decode cX12_init 305 = .ok (.putfield 116, 3) := by decide +kernel
theorem dX12_init_308 : decode cX12_init 308 = .ok (.aload_n 0, 1) := by decide +kernel
theorem dX12_init_309 : decode cX12_init 309 = .ok (.bipush 36, 2) := by decide +kernel
theorem dX12_init_311 : decode cX12_init 311 = .ok (.newarray .int, 2) := by decide +kernel
theorem dX12_init_313 : decode cX12_init 313 = .ok (.putfield 120, 3) := by decide +kernel
theorem dX12_init_316 : decode cX12_init 316 = .ok (.aload_n 0, 1) := by decide +kernel
theorem dX12_init_317 : decode cX12_init 317 = .ok (.bipush 36, 2) := by decide +kernel
theorem dX12_init_319 : decode cX12_init 319 = .ok (.newarray .int, 2) := by decide +kernel
theorem dX12_init_321 : decode cX12_init 321 = .ok (.putfield 123, 3) := by decide +kernel
theorem dX12_init_324 : decode cX12_init 324 = .ok (.aload_n 0, 1) := by decide +kernel
theorem dX12_init_325 : decode cX12_init 325 = .ok (.bipush 36, 2) := by decide +kernel
theorem dX12_init_327 : decode cX12_init 327 = .ok (.newarray .int, 2) := by decide +kernel
theorem dX12_init_329 : decode cX12_init 329 = .ok (.putfield 126, 3) := by decide +kernel
theorem dX12_init_332 : decode cX12_init 332 = .ok (.aload_n 0, 1) := by decide +kernel
theorem dX12_init_333 : decode cX12_init 333 = .ok (.bipush 6, 2) := by decide +kernel
theorem dX12_init_335 : decode cX12_init 335 = .ok (.newarray .int, 2) := by decide +kernel
theorem dX12_init_337 : decode cX12_init 337 = .ok (.putfield 129, 3) := by decide +kernel
theorem dX12_init_340 : decode cX12_init 340 = .ok (.aload_n 0, 1) := by decide +kernel
theorem dX12_init_341 : decode cX12_init 341 = .ok (.iconst 3, 1) := by decide +kernel
theorem dX12_init_342 : decode cX12_init 342 = .ok (.newarray .int, 2) := by decide +kernel
theorem dX12_init_344 : decode cX12_init 344 = .ok (.putfield 132, 3) := by decide +kernel
theorem dX12_init_347 : decode cX12_init 347 = .ok (.aload_n 0, 1) := by decide +kernel
theorem dX12_init_348 : decode cX12_init 348 = .ok (.iconst 3, 1) := by decide +kernel
theorem dX12_init_349 : decode cX12_init 349 = .ok (.newarray .int, 2) := by decide +kernel
theorem dX12_init_351 : decode cX12_init 351 = .ok (.putfield 135, 3) := by decide +kernel
theorem dX12_init_354 : decode cX12_init 354 = .ok (.aload_n 0, 1) := by decide +kernel
theorem dX12_init_355 : decode cX12_init 355 = .ok (.bipush 36, 2) := by decide +kernel
theorem dX12_init_357 : decode cX12_init 357 = .ok (.newarray .int, 2) := by decide +kernel
theorem dX12_init_359 : decode cX12_init 359 = .ok (.putfield 138, 3) := by decide +kernel
theorem dX12_init_362 : decode cX12_init 362 = .ok (.aload_n 0, 1) := by decide +kernel
theorem dX12_init_363 : decode cX12_init 363 = .ok (.bipush 6, 2) := by decide +kernel
theorem dX12_init_365 : decode cX12_init 365 = .ok (.newarray .int, 2) := by decide +kernel
theorem dX12_init_367 : decode cX12_init 367 = .ok (.putfield 141, 3) := by decide +kernel
theorem dX12_init_370 : decode cX12_init 370 = .ok (.aload_n 0, 1) := by decide +kernel
theorem dX12_init_371 : decode cX12_init 371 = .ok (.bipush 6, 2) := by decide +kernel
theorem dX12_init_373 : decode cX12_init 373 = .ok (.newarray .int, 2) := by decide +kernel
theorem dX12_init_375 : decode cX12_init 375 = .ok (.putfield 144, 3) := by decide +kernel
theorem dX12_init_378 : decode cX12_init 378 = .ok (.aload_n 0, 1) := by decide +kernel
theorem dX12_init_379 : decode cX12_init 379 = .ok (.bipush 60, 2) := by decide +kernel
theorem dX12_init_381 : decode cX12_init 381 = .ok (.newarray .int, 2) := by decide +kernel
theorem dX12_init_383 : decode cX12_init 383 = .ok (.putfield 147, 3) := by decide +kernel
theorem dX12_init_386 : decode cX12_init 386 = .ok (.aload_n 0, 1) := by decide +kernel
theorem dX12_init_387 : decode cX12_init 387 = .ok (.iconst 0, 1) := by decide +kernel
theorem dX12_init_388 : decode cX12_init 388 = .ok (.invokevirtual 150, 3) := by decide +kernel
theorem dX12_init_391 : decode cX12_init 391 = .ok (.aload_n 0, 1) := by decide +kernel
theorem dX12_init_392 : decode cX12_init 392 = .ok (.invokevirtual 154, 3) := by decide +kernel
theorem dX12_init_395 : decode cX12_init 395 = .ok (.return_, 1) := by decide +kernel
theorem dX12_isLetter_0 : decode cX12_isLetter 0 = .ok (.iload_n 0, 1) := by decide +kernel
theorem dX12_isLetter_1 : decode cX12_isLetter 1 = .ok (.bipush 97, 2) := by decide +kernel
theorem dX12_isLetter_3 : decode cX12_isLetter 3 = .ok (.if_icmp .lt 13, 3) := by decide +kernel
theorem dX12_isLetter_6 : decode cX12_isLetter 6 = .ok (.iload_n 0, 1) := by decide +kernel
theorem dX12_isLetter_7 : decode cX12_isLetter 7 = .ok (.bipush 122, 2) := by decide +kernel
theorem dX12_isLetter_9 : decode cX12_isLetter 9 = .ok (.if_icmp .gt 7, 3) := by decide +kernel
theorem dX12_isLetter_12 : decode cX12_isLetter 12 = .ok (.iconst 1, 1) := by decide +kernel
theorem dX12_isLetter_13 : decode cX12_isLetter 13 = .ok (.goto 4, 3) := by decide +kernel
theorem dX12_isLetter_16 : decode cX12_isLetter 16 = .ok (.iconst 0, 1) := by decide +kernel
theorem dX12_isLetter_17 : decode cX12_isLetter 17 = .ok (.ireturn, 1) := by decide +kernel
theorem dX12_isDigit_0 : decode cX12_isDigit 0 = .ok (.iload_n 0, 1) := by decide +kernel
theorem dX12_isDigit_1 : decode cX12_isDigit 1 = .ok (.bipush 48, 2) := by decide +kernel
theorem dX12_isDigit_3 : decode cX12_isDigit 3 = .ok (.if_icmp .lt 13, 3) := by decide +kernel
theorem dX12_isDigit_6 : decode cX12_isDigit 6 = .ok (.iload_n 0, 1) := by decide +kernel
theorem dX12_isDigit_7 : decode cX12_isDigit 7 = .ok (.bipush 57, 2) := by decide +kernel
theorem dX12_isDigit_9 : decode cX12_isDigit 9 = .ok (.if_icmp .gt 7, 3) := by decide +kernel
theorem dX12_isDigit_12 : decode cX12_isDigit 12 = .ok (.iconst 1, 1) := by decide +kernel
theorem dX12_isDigit_13 : decode cX12_isDigit 13 = .ok (.goto 4, 3) := by decide +kernel
theorem dX12_isDigit_16 : decode cX12_isDigit 16 = .ok (.iconst 0, 1) := by decide +kernel
theorem dX12_isDigit_17 : decode cX12_isDigit 17 = .ok (.ireturn, 1) := by decide +kernel
theorem dX12_rank_0 : decode cX12_rank 0 = .ok (.iload_n 0, 1) := by decide +kernel
theorem dX12_rank_1 : decode cX12_rank 1 = .ok (.invokestatic 157, 3) := by decide +kernel
theorem dX12_rank_4 : decode cX12_rank 4 = .ok (.ifCond .eq 10, 3) := by decide +kernel
theorem dX12_rank_7 : decode cX12_rank 7 = .ok (.iload_n 0, 1) := by decide +kernel
theorem dX12_rank_8 : decode cX12_rank 8 = .ok (.bipush 96, 2) := by decide +kernel
theorem dX12_rank_10 : decode cX12_rank 10 = .ok (.isub, 1) := by decide +kernel
theorem dX12_rank_11 : decode cX12_rank 11 = .ok (.goto 7, 3) := by decide +kernel
theorem dX12_rank_14 : decode cX12_rank 14 = .ok (.iload_n 0, 1) := by decide +kernel
theorem dX12_rank_15 : decode cX12_rank 15 = .ok (.bipush 21, 2) := by decide +kernel
theorem dX12_rank_17 : decode cX12_rank 17 = .ok (.isub, 1) := by decide +kernel
theorem dX12_rank_18 : decode cX12_rank 18 = .ok (.ireturn, 1) := by decide +kernel
theorem dX12_isSignOf_0 : decode cX12_isSignOf 0 = .ok (.iload_n 0, 1) := by decide +kernel
theorem dX12_isSignOf_1 : decode cX12_isSignOf 1 = .ok (.bipush 40, 2) := by decide +kernel
theorem dX12_isSignOf_3 : decode cX12_isSignOf 3 = .ok (.if_icmp .eq 45, 3) := by decide +kernel
theorem dX12_isSignOf_6 : decode cX12_isSignOf 6 = .ok (.iload_n 0, 1) := by decide +kernel
theorem dX12_isSignOf_7 : decode cX12_isSignOf 7 = .ok (.bipush 41, 2) := by decide +kernel
theorem dX12_isSignOf_9 : decode cX12_isSignOf 9 = .ok (.if_icmp .eq 39, 3) := by decide +kernel
theorem dX12_isSignOf_12 : decode cX12_isSignOf 12 = .ok (.iload_n 0, 1) := by decide +kernel
theorem dX12_isSignOf_13 : decode cX12_isSignOf 13 = .ok (.bipush 59, 2) := by decide +kernel
theorem dX12_isSignOf_15 : decode cX12_isSignOf 15 = .ok (.if_icmp .eq 33, 3) := by decide +kernel
theorem dX12_isSignOf_18 : decode cX12_isSignOf 18 = .ok (.iload_n 0, 1) := by decide +kernel
theorem dX12_isSignOf_19 : decode cX12_isSignOf 19 = .ok (.bipush 61, 2) := by decide +kernel
theorem dX12_isSignOf_21 : decode cX12_isSignOf 21 = .ok (.if_icmp .eq 27, 3) := by decide +kernel
theorem dX12_isSignOf_24 : decode cX12_isSignOf 24 = .ok (.iload_n 0, 1) := by decide +kernel
theorem dX12_isSignOf_25 : decode cX12_isSignOf 25 = .ok (.bipush 60, 2) := by decide +kernel
theorem dX12_isSignOf_27 : decode cX12_isSignOf 27 = .ok (.if_icmp .eq 21, 3) := by decide +kernel
theorem dX12_isSignOf_30 : decode cX12_isSignOf 30 = .ok (.iload_n 0, 1) := by decide +kernel
theorem dX12_isSignOf_31 : decode cX12_isSignOf 31 = .ok (.bipush 43, 2) := by decide +kernel
theorem dX12_isSignOf_33 : decode cX12_isSignOf 33 = .ok (.if_icmp .eq 15, 3) := by decide +kernel
theorem dX12_isSignOf_36 : decode cX12_isSignOf 36 = .ok (.iload_n 0, 1) := by decide +kernel
theorem dX12_isSignOf_37 : decode cX12_isSignOf 37 = .ok (.bipush 45, 2) := by decide +kernel
theorem dX12_isSignOf_39 : decode cX12_isSignOf 39 = .ok (.if_icmp .eq 9, 3) := by decide +kernel
theorem dX12_isSignOf_42 : decode cX12_isSignOf 42 = .ok (.iload_n 0, 1) := by decide +kernel
theorem dX12_isSignOf_43 : decode cX12_isSignOf 43 = .ok (.bipush 42, 2) := by decide +kernel
theorem dX12_isSignOf_45 : decode cX12_isSignOf 45 = .ok (.if_icmp .ne 7, 3) := by decide +kernel
theorem dX12_isSignOf_48 : decode cX12_isSignOf 48 = .ok (.iconst 1, 1) := by decide +kernel
theorem dX12_isSignOf_49 : decode cX12_isSignOf 49 = .ok (.goto 4, 3) := by decide +kernel
theorem dX12_isSignOf_52 : decode cX12_isSignOf 52 = .ok (.iconst 0, 1) := by decide +kernel
theorem dX12_isSignOf_53 : decode cX12_isSignOf 53 = .ok (.ireturn, 1) := by decide +kernel
theorem dX12_cutAll_0 : decode cX12_cutAll 0 = .ok (.aload_n 0, 1) := by decide +kernel
theorem dX12_cutAll_1 : decode cX12_cutAll 1 = .ok (.aload_n 0, 1) := by decide +kernel
theorem dX12_cutAll_2 : decode cX12_cutAll 2 = .ok (.getfield 11, 3) := by decide +kernel
theorem dX12_cutAll_5 : decode cX12_cutAll 5 = .ok (.putfield 161, 3) := by decide +kernel
theorem dX12_cutAll_8 : decode cX12_cutAll 8 = .ok (.aload_n 0, 1) := by decide +kernel
theorem dX12_cutAll_9 : decode cX12_cutAll 9 = .ok (.iconst 0, 1) := by decide +kernel
theorem dX12_cutAll_10 : decode cX12_cutAll 10 = .ok (.putfield 11, 3) := by decide +kernel
theorem dX12_cutAll_13 : decode cX12_cutAll 13 = .ok (.iconst 0, 1) := by decide +kernel
theorem dX12_cutAll_14 : decode cX12_cutAll 14 = .ok (.istore_n 1, 1) := by decide +kernel
theorem dX12_cutAll_15 : decode cX12_cutAll 15 = .ok (.iconst 0, 1) := by decide +kernel
theorem dX12_cutAll_16 : decode cX12_cutAll 16 = .ok (.istore_n 2, 1) := by decide +kernel
theorem dX12_cutAll_17 : decode cX12_cutAll 17 = .ok (.iload_n 2, 1) := by decide +kernel
theorem dX12_cutAll_18 : decode cX12_cutAll 18 = .ok (.aload_n 0, 1) := by decide +kernel
theorem dX12_cutAll_19 : decode cX12_cutAll 19 = .ok (.getfield 161, 3) := by decide +kernel
theorem dX12_cutAll_22 : decode cX12_cutAll 22 = .ok (.if_icmp .ge 257, 3) := by decide +kernel
theorem dX12_cutAll_25 : decode cX12_cutAll 25 = .ok (.aload_n 0, 1) := by decide +kernel
theorem dX12_cutAll_26 : decode cX12_cutAll 26 = .ok (.getfield 14, 3) := by decide +kernel
theorem dX12_cutAll_29 : decode cX12_cutAll 29 = .ok (.iload_n 2, 1) := by decide +kernel
theorem dX12_cutAll_30 : decode cX12_cutAll 30 = .ok (.iaload, 1) := by decide +kernel
theorem dX12_cutAll_31 : decode cX12_cutAll 31 = .ok (.istore_n 3, 1) := by decide +kernel
theorem dX12_cutAll_32 : decode cX12_cutAll 32 = .ok (.iload_n 3, 1) := by decide +kernel
theorem dX12_cutAll_33 : decode cX12_cutAll 33 = .ok (.bipush 10, 2) := by decide +kernel
theorem dX12_cutAll_35 : decode cX12_cutAll 35 = .ok (.if_icmp .eq 9, 3) := by decide +kernel
theorem dX12_cutAll_38 : decode cX12_cutAll 38 = .ok (.iload_n 3, 1) := by decide +kernel
theorem dX12_cutAll_39 : decode cX12_cutAll 39 = .ok (.bipush 32, 2) := by decide +kernel
theorem dX12_cutAll_41 : decode cX12_cutAll 41 = .ok (.if_icmp .ne 9, 3) := by decide +kernel
theorem dX12_cutAll_44 : decode cX12_cutAll 44 = .ok (.iinc 2 1, 3) := by decide +kernel
theorem dX12_cutAll_47 : decode cX12_cutAll 47 = .ok (.goto (-30), 3) := by decide +kernel
theorem dX12_cutAll_50 : decode cX12_cutAll 50 = .ok (.iload_n 2, 1) := by decide +kernel
theorem dX12_cutAll_51 : decode cX12_cutAll 51 = .ok (.istore 4, 2) := by decide +kernel
theorem dX12_cutAll_53 : decode cX12_cutAll 53 = .ok (.lconst 0, 1) := by decide +kernel
theorem dX12_cutAll_54 : decode cX12_cutAll 54 = .ok (.lstore 5, 2) := by decide +kernel
theorem dX12_cutAll_56 : decode cX12_cutAll 56 = .ok (.aload_n 0, 1) := by decide +kernel
theorem dX12_cutAll_57 : decode cX12_cutAll 57 = .ok (.getfield 27, 3) := by decide +kernel
theorem dX12_cutAll_60 : decode cX12_cutAll 60 = .ok (.iload_n 1, 1) := by decide +kernel
theorem dX12_cutAll_61 : decode cX12_cutAll 61 = .ok (.iload_n 2, 1) := by decide +kernel
theorem dX12_cutAll_62 : decode cX12_cutAll 62 = .ok (.iastore, 1) := by decide +kernel
theorem dX12_cutAll_63 : decode cX12_cutAll 63 = .ok (.iload_n 3, 1) := by decide +kernel
theorem dX12_cutAll_64 : decode cX12_cutAll 64 = .ok (.invokestatic 157, 3) := by decide +kernel
theorem dX12_cutAll_67 : decode cX12_cutAll 67 = .ok (.ifCond .eq 85, 3) := by decide +kernel
theorem dX12_cutAll_70 : decode cX12_cutAll 70 = .ok (.iload_n 2, 1) := by decide +kernel
theorem dX12_cutAll_71 : decode cX12_cutAll 71 = .ok (.aload_n 0, 1) := by decide +kernel
theorem dX12_cutAll_72 : decode cX12_cutAll 72 = .ok (.getfield 161, 3) := by decide +kernel
theorem dX12_cutAll_75 : decode cX12_cutAll 75 = .ok (.if_icmp .ge 54, 3) := by decide +kernel
theorem dX12_cutAll_78 : decode cX12_cutAll 78 = .ok (.aload_n 0, 1) := by decide +kernel
theorem dX12_cutAll_79 : decode cX12_cutAll 79 = .ok (.getfield 14, 3) := by decide +kernel
theorem dX12_cutAll_82 : decode cX12_cutAll 82 = .ok (.iload_n 2, 1) := by decide +kernel
theorem dX12_cutAll_83 : decode cX12_cutAll 83 = .ok (.iaload, 1) := by decide +kernel
theorem dX12_cutAll_84 : decode cX12_cutAll 84 = .ok (.invokestatic 157, 3) := by decide +kernel
theorem dX12_cutAll_87 : decode cX12_cutAll 87 = .ok (.ifCond .eq 42, 3) := by decide +kernel
theorem dX12_cutAll_90 : decode cX12_cutAll 90 = .ok (.iload_n 2, 1) := by decide +kernel
theorem dX12_cutAll_91 : decode cX12_cutAll 91 = .ok (.iload 4, 2) := by decide +kernel
theorem dX12_cutAll_93 : decode cX12_cutAll 93 = .ok (.isub, 1) := by decide +kernel
theorem dX12_cutAll_94 : decode cX12_cutAll 94 = .ok (.bipush 8, 2) := by decide +kernel
theorem dX12_cutAll_96 : decode cX12_cutAll 96 = .ok (.if_icmp .ge 23, 3) := by decide +kernel
theorem dX12_cutAll_99 : decode cX12_cutAll 99 = .ok (.ldc2_w 164, 3) := by decide +kernel
theorem dX12_cutAll_102 : decode cX12_cutAll 102 = .ok (.lload 5, 2) := by decide +kernel
theorem dX12_cutAll_104 : decode cX12_cutAll 104 = .ok (.lmul, 1) := by decide +kernel
theorem dX12_cutAll_105 : decode cX12_cutAll 105 = .ok (.aload_n 0, 1) := by decide +kernel
theorem dX12_cutAll_106 : decode cX12_cutAll 106 = .ok (.getfield 14, 3) := by decide +kernel
theorem dX12_cutAll_109 : decode cX12_cutAll 109 = .ok (.iload_n 2, 1) := by decide +kernel
theorem dX12_cutAll_110 : decode cX12_cutAll 110 = .ok (.iaload, 1) := by decide +kernel
theorem dX12_cutAll_111 : decode cX12_cutAll 111 = .ok (.invokestatic 166, 3) := by decide +kernel
theorem dX12_cutAll_114 : decode cX12_cutAll 114 = .ok (.i2l, 1) := by decide +kernel
theorem dX12_cutAll_115 : decode cX12_cutAll 115 = .ok (.ladd, 1) := by decide +kernel
theorem dX12_cutAll_116 : decode cX12_cutAll 116 = .ok (.goto 5, 3) := by decide +kernel
theorem dX12_cutAll_119 : decode cX12_cutAll 119 = .ok (.lload 5, 2) := by decide +kernel
theorem dX12_cutAll_121 : decode cX12_cutAll 121 = .ok (.lstore 5, 2) := by decide +kernel
theorem dX12_cutAll_123 : decode cX12_cutAll 123 = .ok (.iinc 2 1, 3) := by decide +kernel
theorem dX12_cutAll_126 : decode cX12_cutAll 126 = .ok (.goto (-56), 3) := by decide +kernel
theorem dX12_cutAll_129 : decode cX12_cutAll 129 = .ok (.aload_n 0, 1) := by decide +kernel
theorem dX12_cutAll_130 : decode cX12_cutAll 130 = .ok (.getfield 24, 3) := by decide +kernel
theorem dX12_cutAll_133 : decode cX12_cutAll 133 = .ok (.iload_n 1, 1) := by decide +kernel
theorem dX12_cutAll_134 : decode cX12_cutAll 134 = .ok (.iload_n 2, 1) := by decide +kernel
theorem dX12_cutAll_135 : decode cX12_cutAll 135 = .ok (.iload 4, 2) := by decide +kernel
theorem dX12_cutAll_137 : decode cX12_cutAll 137 = .ok (.isub, 1) := by decide +kernel
theorem dX12_cutAll_138 : decode cX12_cutAll 138 = .ok (.bipush 8, 2) := by decide +kernel
theorem dX12_cutAll_140 : decode cX12_cutAll 140 = .ok (.if_icmp .le 7, 3) := by decide +kernel
theorem dX12_cutAll_143 : decode cX12_cutAll 143 = .ok (.iconst 4, 1) := by decide +kernel
theorem dX12_cutAll_144 : decode cX12_cutAll 144 = .ok (.goto 4, 3) := by decide +kernel
theorem dX12_cutAll_147 : decode cX12_cutAll 147 = .ok (.iconst 1, 1) := by decide +kernel
theorem dX12_cutAll_148 : decode cX12_cutAll 148 = .ok (.iastore, 1) := by decide +kernel
theorem dX12_cutAll_149 : decode cX12_cutAll 149 = .ok (.goto 116, 3) := by decide +kernel
theorem dX12_cutAll_152 : decode cX12_cutAll 152 = .ok (.iload_n 3, 1) := by decide +kernel
theorem dX12_cutAll_153 : decode cX12_cutAll 153 = .ok (.invokestatic 170, 3) := by decide +kernel
theorem dX12_cutAll_156 : decode cX12_cutAll 156 = .ok (.ifCond .eq 84, 3) := by decide +kernel
theorem dX12_cutAll_159 : decode cX12_cutAll 159 = .ok (.iload_n 2, 1) := by decide +kernel
theorem dX12_cutAll_160 : decode cX12_cutAll 160 = .ok (.aload_n 0, 1) := by decide +kernel
theorem dX12_cutAll_161 : decode cX12_cutAll 161 = .ok (.getfield 161, 3) := by decide +kernel
theorem dX12_cutAll_164 : decode cX12_cutAll 164 = .ok (.if_icmp .ge 54, 3) := by decide +kernel
theorem dX12_cutAll_167 : decode cX12_cutAll 167 = .ok (.aload_n 0, 1) := by decide +kernel
theorem dX12_cutAll_168 : decode cX12_cutAll 168 = .ok (.getfield 14, 3) := by decide +kernel
theorem dX12_cutAll_171 : decode cX12_cutAll 171 = .ok (.iload_n 2, 1) := by decide +kernel
theorem dX12_cutAll_172 : decode cX12_cutAll 172 = .ok (.iaload, 1) := by decide +kernel
theorem dX12_cutAll_173 : decode cX12_cutAll 173 = .ok (.invokestatic 170, 3) := by decide +kernel
theorem dX12_cutAll_176 : decode cX12_cutAll 176 = .ok (.ifCond .eq 42, 3) := by decide +kernel
theorem dX12_cutAll_179 : decode cX12_cutAll 179 = .ok (.iload_n 2, 1) := by decide +kernel
theorem dX12_cutAll_180 : decode cX12_cutAll 180 = .ok (.iload 4, 2) := by decide +kernel
theorem dX12_cutAll_182 : decode cX12_cutAll 182 = .ok (.isub, 1) := by decide +kernel
theorem dX12_cutAll_183 : decode cX12_cutAll 183 = .ok (.iconst 4, 1) := by decide +kernel
theorem dX12_cutAll_184 : decode cX12_cutAll 184 = .ok (.if_icmp .ge 24, 3) := by decide +kernel
theorem dX12_cutAll_187 : decode cX12_cutAll 187 = .ok (.ldc2_w 173, 3) := by decide +kernel
theorem dX12_cutAll_190 : decode cX12_cutAll 190 = .ok (.lload 5, 2) := by decide +kernel
theorem dX12_cutAll_192 : decode cX12_cutAll 192 = .ok (.lmul, 1) := by decide +kernel
theorem dX12_cutAll_193 : decode cX12_cutAll 193 = .ok (.aload_n 0, 1) := by decide +kernel
theorem dX12_cutAll_194 : decode cX12_cutAll 194 = .ok (.getfield 14, 3) := by decide +kernel
theorem dX12_cutAll_197 : decode cX12_cutAll 197 = .ok (.iload_n 2, 1) := by decide +kernel
theorem dX12_cutAll_198 : decode cX12_cutAll 198 = .ok (.iaload, 1) := by decide +kernel
theorem dX12_cutAll_199 : decode cX12_cutAll 199 = .ok (.i2l, 1) := by decide +kernel
theorem dX12_cutAll_200 : decode cX12_cutAll 200 = .ok (.ladd, 1) := by decide +kernel
theorem dX12_cutAll_201 : decode cX12_cutAll 201 = .ok (.ldc2_w 175, 3) := by decide +kernel
theorem dX12_cutAll_204 : decode cX12_cutAll 204 = .ok (.lsub, 1) := by decide +kernel
theorem dX12_cutAll_205 : decode cX12_cutAll 205 = .ok (.goto 5, 3) := by decide +kernel
theorem dX12_cutAll_208 : decode cX12_cutAll 208 = .ok (.lload 5, 2) := by decide +kernel
theorem dX12_cutAll_210 : decode cX12_cutAll 210 = .ok (.lstore 5, 2) := by decide +kernel
theorem dX12_cutAll_212 : decode cX12_cutAll 212 = .ok (.iinc 2 1, 3) := by decide +kernel
theorem dX12_cutAll_215 : decode cX12_cutAll 215 = .ok (.goto (-56), 3) := by decide +kernel
theorem dX12_cutAll_218 : decode cX12_cutAll 218 = .ok (.aload_n 0, 1) := by decide +kernel
theorem dX12_cutAll_219 : decode cX12_cutAll 219 = .ok (.getfield 24, 3) := by decide +kernel
theorem dX12_cutAll_222 : decode cX12_cutAll 222 = .ok (.iload_n 1, 1) := by decide +kernel
theorem dX12_cutAll_223 : decode cX12_cutAll 223 = .ok (.iload_n 2, 1) := by decide +kernel
theorem dX12_cutAll_224 : decode cX12_cutAll 224 = .ok (.iload 4, 2) := by decide +kernel
theorem dX12_cutAll_226 : decode cX12_cutAll 226 = .ok (.isub, 1) := by decide +kernel
theorem dX12_cutAll_227 : decode cX12_cutAll 227 = .ok (.iconst 4, 1) := by decide +kernel
theorem dX12_cutAll_228 : decode cX12_cutAll 228 = .ok (.if_icmp .le 7, 3) := by decide +kernel
theorem dX12_cutAll_231 : decode cX12_cutAll 231 = .ok (.iconst 4, 1) := by decide +kernel
theorem dX12_cutAll_232 : decode cX12_cutAll 232 = .ok (.goto 4, 3) := by decide +kernel
theorem dX12_cutAll_235 : decode cX12_cutAll 235 = .ok (.iconst 2, 1) := by decide +kernel
theorem dX12_cutAll_236 : decode cX12_cutAll 236 = .ok (.iastore, 1) := by decide +kernel
theorem dX12_cutAll_237 : decode cX12_cutAll 237 = .ok (.goto 28, 3) := by decide +kernel
theorem dX12_cutAll_240 : decode cX12_cutAll 240 = .ok (.iload_n 3, 1) := by decide +kernel
theorem dX12_cutAll_241 : decode cX12_cutAll 241 = .ok (.i2l, 1) := by decide +kernel
theorem dX12_cutAll_242 : decode cX12_cutAll 242 = .ok (.lstore 5, 2) := by decide +kernel
theorem dX12_cutAll_244 : decode cX12_cutAll 244 = .ok (.aload_n 0, 1) := by decide +kernel
theorem dX12_cutAll_245 : decode cX12_cutAll 245 = .ok (.getfield 24, 3) := by decide +kernel
theorem dX12_cutAll_248 : decode cX12_cutAll 248 = .ok (.iload_n 1, 1) := by decide +kernel
theorem dX12_cutAll_249 : decode cX12_cutAll 249 = .ok (.iload_n 3, 1) := by decide +kernel
theorem dX12_cutAll_250 : decode cX12_cutAll 250 = .ok (.invokestatic 177, 3) := by decide +kernel
theorem dX12_cutAll_253 : decode cX12_cutAll 253 = .ok (.ifCond .eq 7, 3) := by decide +kernel
theorem dX12_cutAll_256 : decode cX12_cutAll 256 = .ok (.iconst 3, 1) := by decide +kernel
theorem dX12_cutAll_257 : decode cX12_cutAll 257 = .ok (.goto 4, 3) := by decide +kernel
theorem dX12_cutAll_260 : decode cX12_cutAll 260 = .ok (.iconst 4, 1) := by decide +kernel
theorem dX12_cutAll_261 : decode cX12_cutAll 261 = .ok (.iastore, 1) := by decide +kernel
theorem dX12_cutAll_262 : decode cX12_cutAll 262 = .ok (.iinc 2 1, 3) := by decide +kernel
theorem dX12_cutAll_265 : decode cX12_cutAll 265 = .ok (.aload_n 0, 1) := by decide +kernel
theorem dX12_cutAll_266 : decode cX12_cutAll 266 = .ok (.getfield 30, 3) := by decide +kernel
theorem dX12_cutAll_269 : decode cX12_cutAll 269 = .ok (.iload_n 1, 1) := by decide +kernel
theorem dX12_cutAll_270 : decode cX12_cutAll 270 = .ok (.lload 5, 2) := by decide +kernel
theorem dX12_cutAll_272 : decode cX12_cutAll 272 = .ok (.lastore, 1) := by decide +kernel
theorem dX12_cutAll_273 : decode cX12_cutAll 273 = .ok (.iinc 1 1, 3) := by decide +kernel
theorem dX12_cutAll_276 : decode cX12_cutAll 276 = .ok (.goto (-259), 3) := by decide +kernel
theorem dX12_cutAll_279 : decode cX12_cutAll 279 = .ok (.aload_n 0, 1) := by decide +kernel
theorem dX12_cutAll_280 : decode cX12_cutAll 280 = .ok (.getfield 24, 3) := by decide +kernel
theorem dX12_cutAll_283 : decode cX12_cutAll 283 = .ok (.iload_n 1, 1) := by decide +kernel
theorem dX12_cutAll_284 : decode cX12_cutAll 284 = .ok (.iconst 0, 1) := by decide +kernel
theorem dX12_cutAll_285 : decode cX12_cutAll 285 = .ok (.iastore, 1) := by decide +kernel
theorem dX12_cutAll_286 : decode cX12_cutAll 286 = .ok (.aload_n 0, 1) := by decide +kernel
theorem dX12_cutAll_287 : decode cX12_cutAll 287 = .ok (.getfield 27, 3) := by decide +kernel
theorem dX12_cutAll_290 : decode cX12_cutAll 290 = .ok (.iload_n 1, 1) := by decide +kernel
theorem dX12_cutAll_291 : decode cX12_cutAll 291 = .ok (.aload_n 0, 1) := by decide +kernel
theorem dX12_cutAll_292 : decode cX12_cutAll 292 = .ok (.getfield 161, 3) := by decide +kernel
theorem dX12_cutAll_295 : decode cX12_cutAll 295 = .ok (.iastore, 1) := by decide +kernel
theorem dX12_cutAll_296 : decode cX12_cutAll 296 = .ok (.aload_n 0, 1) := by decide +kernel
theorem dX12_cutAll_297 : decode cX12_cutAll 297 = .ok (.iconst 0, 1) := by decide +kernel
theorem dX12_cutAll_298 : decode cX12_cutAll 298 = .ok (.putfield 180, 3) := by decide +kernel
theorem dX12_cutAll_301 : decode cX12_cutAll 301 = .ok (.aload_n 0, 1) := by decide +kernel
theorem dX12_cutAll_302 : decode cX12_cutAll 302 = .ok (.iconst 0, 1) := by decide +kernel
theorem dX12_cutAll_303 : decode cX12_cutAll 303 = .ok (.putfield 183, 3) := by decide +kernel
theorem dX12_cutAll_306 : decode cX12_cutAll 306 = .ok (.return_, 1) := by decide +kernel
theorem dX12_wrong_0 : decode cX12_wrong 0 = .ok (.aload_n 0, 1) := by decide +kernel
theorem dX12_wrong_1 : decode cX12_wrong 1 = .ok (.getfield 183, 3) := by decide +kernel
theorem dX12_wrong_4 : decode cX12_wrong 4 = .ok (.ifCond .ne 21, 3) := by decide +kernel
theorem dX12_wrong_7 : decode cX12_wrong 7 = .ok (.aload_n 0, 1) := by decide +kernel
theorem dX12_wrong_8 : decode cX12_wrong 8 = .ok (.iload_n 1, 1) := by decide +kernel
theorem dX12_wrong_9 : decode cX12_wrong 9 = .ok (.bipush 16, 2) := by decide +kernel
theorem dX12_wrong_11 : decode cX12_wrong 11 = .ok (.aload_n 0, 1) := by decide +kernel
theorem dX12_wrong_12 : decode cX12_wrong 12 = .ok (.getfield 27, 3) := by decide +kernel
theorem dX12_wrong_15 : decode cX12_wrong 15 = .ok (.aload_n 0, 1) := by decide +kernel
theorem dX12_wrong_16 : decode cX12_wrong 16 = .ok (.getfield 180, 3) := by decide +kernel
theorem dX12_wrong_19 : decode cX12_wrong 19 = .ok (.iaload, 1) := by decide +kernel
theorem dX12_wrong_20 : decode cX12_wrong 20 = .ok (.imul, 1) := by decide +kernel
theorem dX12_wrong_21 : decode cX12_wrong 21 = .ok (.iadd, 1) := by decide +kernel
theorem dX12_wrong_22 : decode cX12_wrong 22 = .ok (.putfield 183, 3) := by decide +kernel
theorem dX12_wrong_25 : decode cX12_wrong 25 = .ok (.return_, 1) := by decide +kernel
theorem dX12_isSign_0 : decode cX12_isSign 0 = .ok (.aload_n 0, 1) := by decide +kernel
theorem dX12_isSign_1 : decode cX12_isSign 1 = .ok (.getfield 183, 3) := by decide +kernel
theorem dX12_isSign_4 : decode cX12_isSign 4 = .ok (.ifCond .ne 35, 3) := by decide +kernel
theorem dX12_isSign_7 : decode cX12_isSign 7 = .ok (.aload_n 0, 1) := by decide +kernel
theorem dX12_isSign_8 : decode cX12_isSign 8 = .ok (.getfield 24, 3) := by decide +kernel
theorem dX12_isSign_11 : decode cX12_isSign 11 = .ok (.aload_n 0, 1) := by decide +kernel
theorem dX12_isSign_12 : decode cX12_isSign 12 = .ok (.getfield 180, 3) := by decide +kernel
theorem dX12_isSign_15 : decode cX12_isSign 15 = .ok (.iaload, 1) := by decide +kernel
theorem dX12_isSign_16 : decode cX12_isSign 16 = .ok (.iconst 3, 1) := by decide +kernel
theorem dX12_isSign_17 : decode cX12_isSign 17 = .ok (.if_icmp .ne 22, 3) := by decide +kernel
theorem dX12_isSign_20 : decode cX12_isSign 20 = .ok (.aload_n 0, 1) := by decide +kernel
theorem dX12_isSign_21 : decode cX12_isSign 21 = .ok (.getfield 30, 3) := by decide +kernel
theorem dX12_isSign_24 : decode cX12_isSign 24 = .ok (.aload_n 0, 1) := by decide +kernel
theorem dX12_isSign_25 : decode cX12_isSign 25 = .ok (.getfield 180, 3) := by decide +kernel
theorem dX12_isSign_28 : decode cX12_isSign 28 = .ok (.laload, 1) := by decide +kernel
theorem dX12_isSign_29 : decode cX12_isSign 29 = .ok (.iload_n 1, 1) := by decide +kernel
theorem dX12_isSign_30 : decode cX12_isSign 30 = .ok (.i2l, 1) := by decide +kernel
theorem dX12_isSign_31 : decode cX12_isSign 31 = .ok (.lcmp, 1) := by decide +kernel
theorem dX12_isSign_32 : decode cX12_isSign 32 = .ok (.ifCond .ne 7, 3) := by decide +kernel
theorem dX12_isSign_35 : decode cX12_isSign 35 = .ok (.iconst 1, 1) := by decide +kernel
theorem dX12_isSign_36 : decode cX12_isSign 36 = .ok (.goto 4, 3) := by decide +kernel
theorem dX12_isSign_39 : decode cX12_isSign 39 = .ok (.iconst 0, 1) := by decide +kernel
theorem dX12_isSign_40 : decode cX12_isSign 40 = .ok (.ireturn, 1) := by decide +kernel
theorem dX12_isWord_0 : decode cX12_isWord 0 = .ok (.aload_n 0, 1) := by decide +kernel
theorem dX12_isWord_1 : decode cX12_isWord 1 = .ok (.getfield 183, 3) := by decide +kernel
theorem dX12_isWord_4 : decode cX12_isWord 4 = .ok (.ifCond .ne 39, 3) := by decide +kernel
theorem dX12_isWord_7 : decode cX12_isWord 7 = .ok (.aload_n 0, 1) := by decide +kernel
theorem dX12_isWord_8 : decode cX12_isWord 8 = .ok (.getfield 24, 3) := by decide +kernel
theorem dX12_isWord_11 : decode cX12_isWord 11 = .ok (.aload_n 0, 1) := by decide +kernel
theorem dX12_isWord_12 : decode cX12_isWord 12 = .ok (.getfield 180, 3) := by decide +kernel
theorem dX12_isWord_15 : decode cX12_isWord 15 = .ok (.iaload, 1) := by decide +kernel
theorem dX12_isWord_16 : decode cX12_isWord 16 = .ok (.iconst 1, 1) := by decide +kernel
theorem dX12_isWord_17 : decode cX12_isWord 17 = .ok (.if_icmp .ne 26, 3) := by decide +kernel
theorem dX12_isWord_20 : decode cX12_isWord 20 = .ok (.aload_n 0, 1) := by decide +kernel
theorem dX12_isWord_21 : decode cX12_isWord 21 = .ok (.getfield 30, 3) := by decide +kernel
theorem dX12_isWord_24 : decode cX12_isWord 24 = .ok (.aload_n 0, 1) := by decide +kernel
theorem dX12_isWord_25 : decode cX12_isWord 25 = .ok (.getfield 180, 3) := by decide +kernel
theorem dX12_isWord_28 : decode cX12_isWord 28 = .ok (.laload, 1) := by decide +kernel
theorem dX12_isWord_29 : decode cX12_isWord 29 = .ok (.aload_n 0, 1) := by decide +kernel
theorem dX12_isWord_30 : decode cX12_isWord 30 = .ok (.getfield 86, 3) := by decide +kernel
theorem dX12_isWord_33 : decode cX12_isWord 33 = .ok (.iload_n 1, 1) := by decide +kernel
theorem dX12_isWord_34 : decode cX12_isWord 34 = .ok (.laload, 1) := by decide +kernel
theorem dX12_isWord_35 : decode cX12_isWord 35 = .ok (.lcmp, 1) := by decide +kernel
theorem dX12_isWord_36 : decode cX12_isWord 36 = .ok (.ifCond .ne 7, 3) := by decide +kernel
theorem dX12_isWord_39 : decode cX12_isWord 39 = .ok (.iconst 1, 1) := by decide +kernel
theorem dX12_isWord_40 : decode cX12_isWord 40 = .ok (.goto 4, 3) := by decide +kernel
theorem dX12_isWord_43 : decode cX12_isWord 43 = .ok (.iconst 0, 1) := by decide +kernel
theorem dX12_isWord_44 : decode cX12_isWord 44 = .ok (.ireturn, 1) := by decide +kernel
theorem dX12_takeSign_0 : decode cX12_takeSign 0 = .ok (.aload_n 0, 1) := by decide +kernel
theorem dX12_takeSign_1 : decode cX12_takeSign 1 = .ok (.iload_n 1, 1) := by decide +kernel
theorem dX12_takeSign_2 : decode cX12_takeSign 2 = .ok (.invokevirtual 186, 3) := by decide +kernel
theorem dX12_takeSign_5 : decode cX12_takeSign 5 = .ok (.ifCond .eq 16, 3) := by decide +kernel
theorem dX12_takeSign_8 : decode cX12_takeSign 8 = .ok (.aload_n 0, 1) := by decide +kernel
theorem dX12_takeSign_9 : decode cX12_takeSign 9 = .ok (.dup, 1) := by decide +kernel
theorem dX12_takeSign_10 : decode cX12_takeSign 10 = .ok (.getfield 180, 3) := by decide +kernel
theorem dX12_takeSign_13 : decode cX12_takeSign 13 = .ok (.iconst 1, 1) := by decide +kernel
theorem dX12_takeSign_14 : decode cX12_takeSign 14 = .ok (.iadd, 1) := by decide +kernel
theorem dX12_takeSign_15 : decode cX12_takeSign 15 = .ok (.putfield 180, 3) := by decide +kernel
theorem dX12_takeSign_18 : decode cX12_takeSign 18 = .ok (.goto 8, 3) := by decide +kernel
theorem dX12_takeSign_21 : decode cX12_takeSign 21 = .ok (.aload_n 0, 1) := by decide +kernel
theorem dX12_takeSign_22 : decode cX12_takeSign 22 = .ok (.iconst 1, 1) := by decide +kernel
theorem dX12_takeSign_23 : decode cX12_takeSign 23 = .ok (.invokevirtual 189, 3) := by decide +kernel
theorem dX12_takeSign_26 : decode cX12_takeSign 26 = .ok (.return_, 1) := by decide +kernel
theorem dX12_hasSign_0 : decode cX12_hasSign 0 = .ok (.aload_n 0, 1) := by decide +kernel
theorem dX12_hasSign_1 : decode cX12_hasSign 1 = .ok (.iload_n 1, 1) := by decide +kernel
theorem dX12_hasSign_2 : decode cX12_hasSign 2 = .ok (.invokevirtual 186, 3) := by decide +kernel
theorem dX12_hasSign_5 : decode cX12_hasSign 5 = .ok (.istore_n 2, 1) := by decide +kernel
theorem dX12_hasSign_6 : decode cX12_hasSign 6 = .ok (.aload_n 0, 1) := by decide +kernel
theorem dX12_hasSign_7 : decode cX12_hasSign 7 = .ok (.dup, 1) := by decide +kernel
theorem dX12_hasSign_8 : decode cX12_hasSign 8 = .ok (.getfield 180, 3) := by decide +kernel
theorem dX12_hasSign_11 : decode cX12_hasSign 11 = .ok (.iload_n 2, 1) := by decide +kernel
theorem dX12_hasSign_12 : decode cX12_hasSign 12 = .ok (.ifCond .eq 7, 3) := by decide +kernel
theorem dX12_hasSign_15 : decode cX12_hasSign 15 = .ok (.iconst 1, 1) := by decide +kernel
theorem dX12_hasSign_16 : decode cX12_hasSign 16 = .ok (.goto 4, 3) := by decide +kernel
theorem dX12_hasSign_19 : decode cX12_hasSign 19 = .ok (.iconst 0, 1) := by decide +kernel
theorem dX12_hasSign_20 : decode cX12_hasSign 20 = .ok (.iadd, 1) := by decide +kernel
theorem dX12_hasSign_21 : decode cX12_hasSign 21 = .ok (.putfield 180, 3) := by decide +kernel
theorem dX12_hasSign_24 : decode cX12_hasSign 24 = .ok (.iload_n 2, 1) := by decide +kernel
theorem dX12_hasSign_25 : decode cX12_hasSign 25 = .ok (.ireturn, 1) := by decide +kernel
theorem dX12_hasWord_0 : decode cX12_hasWord 0 = .ok (.aload_n 0, 1) := by decide +kernel
theorem dX12_hasWord_1 : decode cX12_hasWord 1 = .ok (.iload_n 1, 1) := by decide +kernel
theorem dX12_hasWord_2 : decode cX12_hasWord 2 = .ok (.invokevirtual 192, 3) := by decide +kernel
theorem dX12_hasWord_5 : decode cX12_hasWord 5 = .ok (.istore_n 2, 1) := by decide +kernel
theorem dX12_hasWord_6 : decode cX12_hasWord 6 = .ok (.aload_n 0, 1) := by decide +kernel
theorem dX12_hasWord_7 : decode cX12_hasWord 7 = .ok (.dup, 1) := by decide +kernel
theorem dX12_hasWord_8 : decode cX12_hasWord 8 = .ok (.getfield 180, 3) := by decide +kernel
theorem dX12_hasWord_11 : decode cX12_hasWord 11 = .ok (.iload_n 2, 1) := by decide +kernel
theorem dX12_hasWord_12 : decode cX12_hasWord 12 = .ok (.ifCond .eq 7, 3) := by decide +kernel
theorem dX12_hasWord_15 : decode cX12_hasWord 15 = .ok (.iconst 1, 1) := by decide +kernel
theorem dX12_hasWord_16 : decode cX12_hasWord 16 = .ok (.goto 4, 3) := by decide +kernel
theorem dX12_hasWord_19 : decode cX12_hasWord 19 = .ok (.iconst 0, 1) := by decide +kernel
theorem dX12_hasWord_20 : decode cX12_hasWord 20 = .ok (.iadd, 1) := by decide +kernel
theorem dX12_hasWord_21 : decode cX12_hasWord 21 = .ok (.putfield 180, 3) := by decide +kernel
theorem dX12_hasWord_24 : decode cX12_hasWord 24 = .ok (.iload_n 2, 1) := by decide +kernel
theorem dX12_hasWord_25 : decode cX12_hasWord 25 = .ok (.ireturn, 1) := by decide +kernel
theorem dX12_takeWord_0 : decode cX12_takeWord 0 = .ok (.aload_n 0, 1) := by decide +kernel
theorem dX12_takeWord_1 : decode cX12_takeWord 1 = .ok (.iload_n 1, 1) := by decide +kernel
theorem dX12_takeWord_2 : decode cX12_takeWord 2 = .ok (.invokevirtual 195, 3) := by decide +kernel
theorem dX12_takeWord_5 : decode cX12_takeWord 5 = .ok (.ifCond .ne 8, 3) := by decide +kernel
theorem dX12_takeWord_8 : decode cX12_takeWord 8 = .ok (.aload_n 0, 1) := by decide +kernel
theorem dX12_takeWord_9 : decode cX12_takeWord 9 = .ok (.iconst 1, 1) := by decide +kernel
theorem dX12_takeWord_10 : decode cX12_takeWord 10 = .ok (.invokevirtual 189, 3) := by decide +kernel
theorem dX12_takeWord_13 : decode cX12_takeWord 13 = .ok (.return_, 1) := by decide +kernel
theorem dX12_within_0 : decode cX12_within 0 = .ok (.iload_n 0, 1) := by decide +kernel
theorem dX12_within_1 : decode cX12_within 1 = .ok (.iload_n 1, 1) := by decide +kernel
theorem dX12_within_2 : decode cX12_within 2 = .ok (.if_icmp .lt 12, 3) := by decide +kernel
theorem dX12_within_5 : decode cX12_within 5 = .ok (.iload_n 0, 1) := by decide +kernel
theorem dX12_within_6 : decode cX12_within 6 = .ok (.iload_n 2, 1) := by decide +kernel
theorem dX12_within_7 : decode cX12_within 7 = .ok (.if_icmp .gt 7, 3) := by decide +kernel
theorem dX12_within_10 : decode cX12_within 10 = .ok (.iconst 1, 1) := by decide +kernel
theorem dX12_within_11 : decode cX12_within 11 = .ok (.goto 4, 3) := by decide +kernel
theorem dX12_within_14 : decode cX12_within 14 = .ok (.iconst 0, 1) := by decide +kernel
theorem dX12_within_15 : decode cX12_within 15 = .ok (.ireturn, 1) := by decide +kernel
theorem dX12_standsAsAlways_0 : decode cX12_standsAsAlways 0 = .ok (.iconst 0, 1) := by decide +kernel
theorem dX12_standsAsAlways_1 : decode cX12_standsAsAlways 1 = .ok (.istore_n 2, 1) := by decide +kernel
theorem dX12_standsAsAlways_2 : decode cX12_standsAsAlways 2 = .ok (.iload_n 2, 1) := by decide +kernel
theorem dX12_standsAsAlways_3 : decode cX12_standsAsAlways 3 = .ok (.bipush 100, 2) := by decide +kernel
theorem dX12_standsAsAlways_5 : decode cX12_standsAsAlways 5 = .ok (.if_icmp .ge 18, 3) := by decide +kernel
theorem dX12_standsAsAlways_8 : decode cX12_standsAsAlways 8 = .ok (.aload_n 0, 1) := by decide +kernel
theorem dX12_standsAsAlways_9 : decode cX12_standsAsAlways 9 = .ok (.getfield 89, 3) := by decide +kernel
theorem dX12_standsAsAlways_12 : decode cX12_standsAsAlways 12 = .ok (.iload_n 1, 1) := by decide +kernel
theorem dX12_standsAsAlways_13 : decode cX12_standsAsAlways 13 = .ok (.iload_n 2, 1) := by decide +kernel
theorem dX12_standsAsAlways_14 : decode cX12_standsAsAlways 14 = .ok (.iadd, 1) := by decide +kernel
theorem dX12_standsAsAlways_15 : decode cX12_standsAsAlways 15 = .ok (.iconst 0, 1) := by decide +kernel
theorem dX12_standsAsAlways_16 : decode cX12_standsAsAlways 16 = .ok (.iastore, 1) := by decide +kernel
theorem dX12_standsAsAlways_17 : decode cX12_standsAsAlways 17 = .ok (.iinc 2 1, 3) := by decide +kernel
theorem dX12_standsAsAlways_20 : decode cX12_standsAsAlways 20 = .ok (.goto (-18), 3) := by decide +kernel
theorem dX12_standsAsAlways_23 : decode cX12_standsAsAlways 23 = .ok (.aload_n 0, 1) := by decide +kernel
theorem dX12_standsAsAlways_24 : decode cX12_standsAsAlways 24 = .ok (.getfield 89, 3) := by decide +kernel
theorem dX12_standsAsAlways_27 : decode cX12_standsAsAlways 27 = .ok (.iload_n 1, 1) := by decide +kernel
theorem dX12_standsAsAlways_28 : decode cX12_standsAsAlways 28 = .ok (.iconst 4, 1) := by decide +kernel
theorem dX12_standsAsAlways_29 : decode cX12_standsAsAlways 29 = .ok (.iadd, 1) := by decide +kernel
theorem dX12_standsAsAlways_30 : decode cX12_standsAsAlways 30 = .ok (.iconst 3, 1) := by decide +kernel
theorem dX12_standsAsAlways_31 : decode cX12_standsAsAlways 31 = .ok (.iastore, 1) := by decide +kernel
theorem dX12_standsAsAlways_32 : decode cX12_standsAsAlways 32 = .ok (.iconst 0, 1) := by decide +kernel
theorem dX12_standsAsAlways_33 : decode cX12_standsAsAlways 33 = .ok (.istore_n 2, 1) := by decide +kernel
theorem dX12_standsAsAlways_34 : decode cX12_standsAsAlways 34 = .ok (.iload_n 2, 1) := by decide +kernel
theorem dX12_standsAsAlways_35 : decode cX12_standsAsAlways 35 = .ok (.iconst 3, 1) := by decide +kernel
theorem dX12_standsAsAlways_36 : decode cX12_standsAsAlways 36 = .ok (.if_icmp .ge 21, 3) := by decide +kernel
theorem dX12_standsAsAlways_39 : decode cX12_standsAsAlways 39 = .ok (.aload_n 0, 1) := by decide +kernel
theorem dX12_standsAsAlways_40 : decode cX12_standsAsAlways 40 = .ok (.getfield 89, 3) := by decide +kernel
theorem dX12_standsAsAlways_43 : decode cX12_standsAsAlways 43 = .ok (.iload_n 1, 1) := by decide +kernel
theorem dX12_standsAsAlways_44 : decode cX12_standsAsAlways 44 = .ok (.bipush 6, 2) := by decide +kernel
theorem dX12_standsAsAlways_46 : decode cX12_standsAsAlways 46 = .ok (.iadd, 1) := by decide +kernel
theorem dX12_standsAsAlways_47 : decode cX12_standsAsAlways 47 = .ok (.iload_n 2, 1) := by decide +kernel
theorem dX12_standsAsAlways_48 : decode cX12_standsAsAlways 48 = .ok (.iadd, 1) := by decide +kernel
theorem dX12_standsAsAlways_49 : decode cX12_standsAsAlways 49 = .ok (.iconst (-1), 1) := by decide +kernel
theorem dX12_standsAsAlways_50 : decode cX12_standsAsAlways 50 = .ok (.iastore, 1) := by decide +kernel
theorem dX12_standsAsAlways_51 : decode cX12_standsAsAlways 51 = .ok (.iinc 2 1, 3) := by decide +kernel
theorem dX12_standsAsAlways_54 : decode cX12_standsAsAlways 54 = .ok (.goto (-20), 3) := by decide +kernel
theorem dX12_standsAsAlways_57 : decode cX12_standsAsAlways 57 = .ok (.return_, 1) := by decide +kernel
theorem dX12_takeNumber_0 : decode cX12_takeNumber 0 = .ok (.aload_n 0, 1) := by decide +kernel
theorem dX12_takeNumber_1 : decode cX12_takeNumber 1 = .ok (.getfield 183, 3) := by decide +kernel
theorem dX12_takeNumber_4 : decode cX12_takeNumber 4 = .ok (.ifCond .ne 24, 3) := by decide +kernel
theorem dX12_takeNumber_7 : decode cX12_takeNumber 7 = .ok (.aload_n 0, 1) := by decide +kernel
theorem dX12_takeNumber_8 : decode cX12_takeNumber 8 = .ok (.getfield 24, 3) := by decide +kernel
theorem dX12_takeNumber_11 : decode cX12_takeNumber 11 = .ok (.aload_n 0, 1) := by decide +kernel
theorem dX12_takeNumber_12 : decode cX12_takeNumber 12 = .ok (.getfield 180, 3) := by decide +kernel
theorem dX12_takeNumber_15 : decode cX12_takeNumber 15 = .ok (.iaload, 1) := by decide +kernel
theorem dX12_takeNumber_16 : decode cX12_takeNumber 16 = .ok (.iconst 2, 1) := by decide +kernel
theorem dX12_takeNumber_17 : decode cX12_takeNumber 17 = .ok (.if_icmp .eq 11, 3) := by decide +kernel
theorem dX12_takeNumber_20 : decode cX12_takeNumber 20 = .ok (.aload_n 0, 1) := by decide +kernel
theorem dX12_takeNumber_21 : decode cX12_takeNumber 21 = .ok (.iconst 1, 1) := by decide +kernel
theorem dX12_takeNumber_22 : decode cX12_takeNumber 22 = .ok (.invokevirtual 189, 3) := by decide +kernel
theorem dX12_takeNumber_25 : decode cX12_takeNumber 25 = .ok (.goto 45, 3) := by decide +kernel
theorem dX12_takeNumber_28 : decode cX12_takeNumber 28 = .ok (.aload_n 0, 1) := by decide +kernel
theorem dX12_takeNumber_29 : decode cX12_takeNumber 29 = .ok (.getfield 183, 3) := by decide +kernel
theorem dX12_takeNumber_32 : decode cX12_takeNumber 32 = .ok (.ifCond .ne 38, 3) := by decide +kernel
theorem dX12_takeNumber_35 : decode cX12_takeNumber 35 = .ok (.aload_n 0, 1) := by decide +kernel
theorem dX12_takeNumber_36 : decode cX12_takeNumber 36 = .ok (.getfield 30, 3) := by decide +kernel
theorem dX12_takeNumber_39 : decode cX12_takeNumber 39 = .ok (.aload_n 0, 1) := by decide +kernel
theorem dX12_takeNumber_40 : decode cX12_takeNumber 40 = .ok (.getfield 180, 3) := by decide +kernel
theorem dX12_takeNumber_43 : decode cX12_takeNumber 43 = .ok (.laload, 1) := by decide +kernel
theorem dX12_takeNumber_44 : decode cX12_takeNumber 44 = .ok (.iload_n 1, 1) := by decide +kernel
theorem dX12_takeNumber_45 : decode cX12_takeNumber 45 = .ok (.i2l, 1) := by decide +kernel
theorem dX12_takeNumber_46 : decode cX12_takeNumber 46 = .ok (.lcmp, 1) := by decide +kernel
theorem dX12_takeNumber_47 : decode cX12_takeNumber 47 = .ok (.ifCond .lt 18, 3) := by decide +kernel
theorem dX12_takeNumber_50 : decode cX12_takeNumber 50 = .ok (.aload_n 0, 1) := by decide +kernel
theorem dX12_takeNumber_51 : decode cX12_takeNumber 51 = .ok (.getfield 30, 3) := by decide +kernel
theorem dX12_takeNumber_54 : decode cX12_takeNumber 54 = .ok (.aload_n 0, 1) := by decide +kernel
theorem dX12_takeNumber_55 : decode cX12_takeNumber 55 = .ok (.getfield 180, 3) := by decide +kernel
theorem dX12_takeNumber_58 : decode cX12_takeNumber 58 = .ok (.laload, 1) := by decide +kernel
theorem dX12_takeNumber_59 : decode cX12_takeNumber 59 = .ok (.iload_n 2, 1) := by decide +kernel
theorem dX12_takeNumber_60 : decode cX12_takeNumber 60 = .ok (.i2l, 1) := by decide +kernel
theorem dX12_takeNumber_61 : decode cX12_takeNumber 61 = .ok (.lcmp, 1) := by decide +kernel
theorem dX12_takeNumber_62 : decode cX12_takeNumber 62 = .ok (.ifCond .le 8, 3) := by decide +kernel
theorem dX12_takeNumber_65 : decode cX12_takeNumber 65 = .ok (.aload_n 0, 1) := by decide +kernel
theorem dX12_takeNumber_66 : decode cX12_takeNumber 66 = .ok (.iconst 4, 1) := by decide +kernel
theorem dX12_takeNumber_67 : decode cX12_takeNumber 67 = .ok (.invokevirtual 189, 3) := by decide +kernel
theorem dX12_takeNumber_70 : decode cX12_takeNumber 70 = .ok (.aload_n 0, 1) := by decide +kernel
theorem dX12_takeNumber_71 : decode cX12_takeNumber 71 = .ok (.getfield 183, 3) := by decide +kernel
theorem dX12_takeNumber_74 : decode cX12_takeNumber 74 = .ok (.ifCond .le 5, 3) := by decide +kernel
theorem dX12_takeNumber_77 : decode cX12_takeNumber 77 = .ok (.iconst 0, 1) := by decide +kernel
theorem dX12_takeNumber_78 : decode cX12_takeNumber 78 = .ok (.ireturn, 1) := by decide +kernel
theorem dX12_takeNumber_79 : decode cX12_takeNumber 79 = .ok (.aload_n 0, 1) := by decide +kernel
theorem dX12_takeNumber_80 : decode cX12_takeNumber 80 = .ok (.dup, 1) := by decide +kernel
theorem dX12_takeNumber_81 : decode cX12_takeNumber 81 = .ok (.getfield 180, 3) := by decide +kernel
theorem dX12_takeNumber_84 : decode cX12_takeNumber 84 = .ok (.iconst 1, 1) := by decide +kernel
theorem dX12_takeNumber_85 : decode cX12_takeNumber 85 = .ok (.iadd, 1) := by decide +kernel
theorem dX12_takeNumber_86 : decode cX12_takeNumber 86 = .ok (.putfield 180, 3) := by decide +kernel
theorem dX12_takeNumber_89 : decode cX12_takeNumber 89 = .ok (.aload_n 0, 1) := by decide +kernel
theorem dX12_takeNumber_90 : decode cX12_takeNumber 90 = .ok (.getfield 30, 3) := by decide +kernel
theorem dX12_takeNumber_93 : decode cX12_takeNumber 93 = .ok (.aload_n 0, 1) := by decide +kernel
theorem dX12_takeNumber_94 : decode cX12_takeNumber 94 = .ok (.getfield 180, 3) := by decide +kernel
theorem dX12_takeNumber_97 : decode cX12_takeNumber 97 = .ok (.iconst 1, 1) := by decide +kernel
theorem dX12_takeNumber_98 : decode cX12_takeNumber 98 = .ok (.isub, 1) := by decide +kernel
theorem dX12_takeNumber_99 : decode cX12_takeNumber 99 = .ok (.laload, 1) := by decide +kernel
theorem dX12_takeNumber_100 : decode cX12_takeNumber 100 = .ok (.l2i, 1) := by decide +kernel
theorem dX12_takeNumber_101 : decode cX12_takeNumber 101 = .ok (.ireturn, 1) := by decide +kernel
theorem dX12_takeAfter_0 : decode cX12_takeAfter 0 = .ok (.aload_n 0, 1) := by decide +kernel
theorem dX12_takeAfter_1 : decode cX12_takeAfter 1 = .ok (.iload_n 1, 1) := by decide +kernel
theorem dX12_takeAfter_2 : decode cX12_takeAfter 2 = .ok (.invokevirtual 198, 3) := by decide +kernel
theorem dX12_takeAfter_5 : decode cX12_takeAfter 5 = .ok (.aload_n 0, 1) := by decide +kernel
theorem dX12_takeAfter_6 : decode cX12_takeAfter 6 = .ok (.iload_n 2, 1) := by decide +kernel
theorem dX12_takeAfter_7 : decode cX12_takeAfter 7 = .ok (.iload_n 3, 1) := by decide +kernel
theorem dX12_takeAfter_8 : decode cX12_takeAfter 8 = .ok (.invokevirtual 201, 3) := by decide +kernel
theorem dX12_takeAfter_11 : decode cX12_takeAfter 11 = .ok (.ireturn, 1) := by decide +kernel
theorem dX12_wordHere_0 : decode cX12_wordHere 0 = .ok (.iconst (-1), 1) := by decide +kernel
theorem dX12_wordHere_1 : decode cX12_wordHere 1 = .ok (.istore_n 3, 1) := by decide +kernel
theorem dX12_wordHere_2 : decode cX12_wordHere 2 = .ok (.iconst 0, 1) := by decide +kernel
theorem dX12_wordHere_3 : decode cX12_wordHere 3 = .ok (.istore 4, 2) := by decide +kernel
theorem dX12_wordHere_5 : decode cX12_wordHere 5 = .ok (.iload 4, 2) := by decide +kernel
theorem dX12_wordHere_7 : decode cX12_wordHere 7 = .ok (.iload_n 2, 1) := by decide +kernel
theorem dX12_wordHere_8 : decode cX12_wordHere 8 = .ok (.if_icmp .ge 27, 3) := by decide +kernel
theorem dX12_wordHere_11 : decode cX12_wordHere 11 = .ok (.aload_n 0, 1) := by decide +kernel
theorem dX12_wordHere_12 : decode cX12_wordHere 12 = .ok (.iload_n 1, 1) := by decide +kernel
theorem dX12_wordHere_13 : decode cX12_wordHere 13 = .ok (.iload 4, 2) := by decide +kernel
theorem dX12_wordHere_15 : decode cX12_wordHere 15 = .ok (.iadd, 1) := by decide +kernel
theorem dX12_wordHere_16 : decode cX12_wordHere 16 = .ok (.invokevirtual 192, 3) := by decide +kernel
theorem dX12_wordHere_19 : decode cX12_wordHere 19 = .ok (.ifCond .eq 8, 3) := by decide +kernel
theorem dX12_wordHere_22 : decode cX12_wordHere 22 = .ok (.iload 4, 2) := by decide +kernel
theorem dX12_wordHere_24 : decode cX12_wordHere 24 = .ok (.goto 4, 3) := by decide +kernel
theorem dX12_wordHere_27 : decode cX12_wordHere 27 = .ok (.iload_n 3, 1) := by decide +kernel
theorem dX12_wordHere_28 : decode cX12_wordHere 28 = .ok (.istore_n 3, 1) := by decide +kernel
theorem dX12_wordHere_29 : decode cX12_wordHere 29 = .ok (.iinc 4 1, 3) := by decide +kernel
theorem dX12_wordHere_32 : decode cX12_wordHere 32 = .ok (.goto (-27), 3) := by decide +kernel
theorem dX12_wordHere_35 : decode cX12_wordHere 35 = .ok (.iload_n 3, 1) := by decide +kernel
theorem dX12_wordHere_36 : decode cX12_wordHere 36 = .ok (.ireturn, 1) := by decide +kernel
theorem dX12_takeOne_0 : decode cX12_takeOne 0 = .ok (.aload_n 0, 1) := by decide +kernel
theorem dX12_takeOne_1 : decode cX12_takeOne 1 = .ok (.getfield 183, 3) := by decide +kernel
theorem dX12_takeOne_4 : decode cX12_takeOne 4 = .ok (.ifCond .le 7, 3) := by decide +kernel
theorem dX12_takeOne_7 : decode cX12_takeOne 7 = .ok (.iconst (-1), 1) := by decide +kernel
theorem dX12_takeOne_8 : decode cX12_takeOne 8 = .ok (.goto 9, 3) := by decide +kernel
theorem dX12_takeOne_11 : decode cX12_takeOne 11 = .ok (.aload_n 0, 1) := by decide +kernel
theorem dX12_takeOne_12 : decode cX12_takeOne 12 = .ok (.iload_n 1, 1) := by decide +kernel
theorem dX12_takeOne_13 : decode cX12_takeOne 13 = .ok (.iload_n 2, 1) := by decide +kernel
theorem dX12_takeOne_14 : decode cX12_takeOne 14 = .ok (.invokevirtual 205, 3) := by decide +kernel
theorem dX12_takeOne_17 : decode cX12_takeOne 17 = .ok (.istore_n 3, 1) := by decide +kernel
theorem dX12_takeOne_18 : decode cX12_takeOne 18 = .ok (.aload_n 0, 1) := by decide +kernel
theorem dX12_takeOne_19 : decode cX12_takeOne 19 = .ok (.getfield 183, 3) := by decide +kernel
theorem dX12_takeOne_22 : decode cX12_takeOne 22 = .ok (.ifCond .ne 12, 3) := by decide +kernel
theorem dX12_takeOne_25 : decode cX12_takeOne 25 = .ok (.iload_n 3, 1) := by decide +kernel
theorem dX12_takeOne_26 : decode cX12_takeOne 26 = .ok (.ifCond .ge 8, 3) := by decide +kernel
theorem dX12_takeOne_29 : decode cX12_takeOne 29 = .ok (.aload_n 0, 1) := by decide +kernel
theorem dX12_takeOne_30 : decode cX12_takeOne 30 = .ok (.iconst 1, 1) := by decide +kernel
theorem dX12_takeOne_31 : decode cX12_takeOne 31 = .ok (.invokevirtual 189, 3) := by decide +kernel
theorem dX12_takeOne_34 : decode cX12_takeOne 34 = .ok (.aload_n 0, 1) := by decide +kernel
theorem dX12_takeOne_35 : decode cX12_takeOne 35 = .ok (.dup, 1) := by decide +kernel
theorem dX12_takeOne_36 : decode cX12_takeOne 36 = .ok (.getfield 180, 3) := by decide +kernel
theorem dX12_takeOne_39 : decode cX12_takeOne 39 = .ok (.aload_n 0, 1) := by decide +kernel
theorem dX12_takeOne_40 : decode cX12_takeOne 40 = .ok (.getfield 183, 3) := by decide +kernel
theorem dX12_takeOne_43 : decode cX12_takeOne 43 = .ok (.ifCond .le 7, 3) := by decide +kernel
theorem dX12_takeOne_46 : decode cX12_takeOne 46 = .ok (.iconst 0, 1) := by decide +kernel
theorem dX12_takeOne_47 : decode cX12_takeOne 47 = .ok (.goto 4, 3) := by decide +kernel
theorem dX12_takeOne_50 : decode cX12_takeOne 50 = .ok (.iconst 1, 1) := by decide +kernel
theorem dX12_takeOne_51 : decode cX12_takeOne 51 = .ok (.iadd, 1) := by decide +kernel
theorem dX12_takeOne_52 : decode cX12_takeOne 52 = .ok (.putfield 180, 3) := by decide +kernel
theorem dX12_takeOne_55 : decode cX12_takeOne 55 = .ok (.aload_n 0, 1) := by decide +kernel
theorem dX12_takeOne_56 : decode cX12_takeOne 56 = .ok (.getfield 183, 3) := by decide +kernel
theorem dX12_takeOne_59 : decode cX12_takeOne 59 = .ok (.ifCond .le 7, 3) := by decide +kernel
theorem dX12_takeOne_62 : decode cX12_takeOne 62 = .ok (.iconst 0, 1) := by decide +kernel
theorem dX12_takeOne_63 : decode cX12_takeOne 63 = .ok (.goto 4, 3) := by decide +kernel
theorem dX12_takeOne_66 : decode cX12_takeOne 66 = .ok (.iload_n 3, 1) := by decide +kernel
theorem dX12_takeOne_67 : decode cX12_takeOne 67 = .ok (.ireturn, 1) := by decide +kernel
theorem dX12_isName_0 : decode cX12_isName 0 = .ok (.aload_n 0, 1) := by decide +kernel
theorem dX12_isName_1 : decode cX12_isName 1 = .ok (.getfield 183, 3) := by decide +kernel
theorem dX12_isName_4 : decode cX12_isName 4 = .ok (.ifCond .ne 30, 3) := by decide +kernel
theorem dX12_isName_7 : decode cX12_isName 7 = .ok (.aload_n 0, 1) := by decide +kernel
theorem dX12_isName_8 : decode cX12_isName 8 = .ok (.getfield 24, 3) := by decide +kernel
theorem dX12_isName_11 : decode cX12_isName 11 = .ok (.aload_n 0, 1) := by decide +kernel
theorem dX12_isName_12 : decode cX12_isName 12 = .ok (.getfield 180, 3) := by decide +kernel
theorem dX12_isName_15 : decode cX12_isName 15 = .ok (.iaload, 1) := by decide +kernel
theorem dX12_isName_16 : decode cX12_isName 16 = .ok (.iconst 1, 1) := by decide +kernel
theorem dX12_isName_17 : decode cX12_isName 17 = .ok (.if_icmp .ne 17, 3) := by decide +kernel
theorem dX12_isName_20 : decode cX12_isName 20 = .ok (.aload_n 0, 1) := by decide +kernel
theorem dX12_isName_21 : decode cX12_isName 21 = .ok (.iconst 0, 1) := by decide +kernel
theorem dX12_isName_22 : decode cX12_isName 22 = .ok (.bipush 23, 2) := by decide +kernel
theorem dX12_isName_24 : decode cX12_isName 24 = .ok (.invokevirtual 205, 3) := by decide +kernel
theorem dX12_isName_27 : decode cX12_isName 27 = .ok (.ifCond .ge 7, 3) := by decide +kernel
theorem dX12_isName_30 : decode cX12_isName 30 = .ok (.iconst 1, 1) := by decide +kernel
theorem dX12_isName_31 : decode cX12_isName 31 = .ok (.goto 4, 3) := by decide +kernel
theorem dX12_isName_34 : decode cX12_isName 34 = .ok (.iconst 0, 1) := by decide +kernel
theorem dX12_isName_35 : decode cX12_isName 35 = .ok (.ireturn, 1) := by decide +kernel
theorem dX12_find_0 : decode cX12_find 0 = .ok (.iconst (-1), 1) := by decide +kernel
theorem dX12_find_1 : decode cX12_find 1 = .ok (.istore_n 1, 1) := by decide +kernel
theorem dX12_find_2 : decode cX12_find 2 = .ok (.iconst 0, 1) := by decide +kernel
theorem dX12_find_3 : decode cX12_find 3 = .ok (.istore_n 2, 1) := by decide +kernel
theorem dX12_find_4 : decode cX12_find 4 = .ok (.iload_n 2, 1) := by decide +kernel
theorem dX12_find_5 : decode cX12_find 5 = .ok (.aload_n 0, 1) := by decide +kernel
theorem dX12_find_6 : decode cX12_find 6 = .ok (.getfield 208, 3) := by decide +kernel
theorem dX12_find_9 : decode cX12_find 9 = .ok (.if_icmp .ge 34, 3) := by decide +kernel
theorem dX12_find_12 : decode cX12_find 12 = .ok (.aload_n 0, 1) := by decide +kernel
theorem dX12_find_13 : decode cX12_find 13 = .ok (.getfield 101, 3) := by decide +kernel
theorem dX12_find_16 : decode cX12_find 16 = .ok (.iload_n 2, 1) := by decide +kernel
theorem dX12_find_17 : decode cX12_find 17 = .ok (.laload, 1) := by decide +kernel
theorem dX12_find_18 : decode cX12_find 18 = .ok (.aload_n 0, 1) := by decide +kernel
theorem dX12_find_19 : decode cX12_find 19 = .ok (.getfield 30, 3) := by decide +kernel
theorem dX12_find_22 : decode cX12_find 22 = .ok (.aload_n 0, 1) := by decide +kernel
theorem dX12_find_23 : decode cX12_find 23 = .ok (.getfield 180, 3) := by decide +kernel
theorem dX12_find_26 : decode cX12_find 26 = .ok (.laload, 1) := by decide +kernel
theorem dX12_find_27 : decode cX12_find 27 = .ok (.lcmp, 1) := by decide +kernel
theorem dX12_find_28 : decode cX12_find 28 = .ok (.ifCond .ne 7, 3) := by decide +kernel
theorem dX12_find_31 : decode cX12_find 31 = .ok (.iload_n 2, 1) := by decide +kernel
theorem dX12_find_32 : decode cX12_find 32 = .ok (.goto 4, 3) := by decide +kernel
theorem dX12_find_35 : decode cX12_find 35 = .ok (.iload_n 1, 1) := by decide +kernel
theorem dX12_find_36 : decode cX12_find 36 = .ok (.istore_n 1, 1) := by decide +kernel
theorem dX12_find_37 : decode cX12_find 37 = .ok (.iinc 2 1, 3) := by decide +kernel
theorem dX12_find_40 : decode cX12_find 40 = .ok (.goto (-36), 3) := by decide +kernel
theorem dX12_find_43 : decode cX12_find 43 = .ok (.iload_n 1, 1) := by decide +kernel
theorem dX12_find_44 : decode cX12_find 44 = .ok (.ireturn, 1) := by decide +kernel
theorem dX12_toldHere_0 : decode cX12_toldHere 0 = .ok (.aload_n 0, 1) := by decide +kernel
theorem dX12_toldHere_1 : decode cX12_toldHere 1 = .ok (.getfield 183, 3) := by decide +kernel
theorem dX12_toldHere_4 : decode cX12_toldHere 4 = .ok (.ifCond .ne 15, 3) := by decide +kernel
theorem dX12_toldHere_7 : decode cX12_toldHere 7 = .ok (.aload_n 0, 1) := by decide +kernel
theorem dX12_toldHere_8 : decode cX12_toldHere 8 = .ok (.invokevirtual 211, 3) := by decide +kernel
theorem dX12_toldHere_11 : decode cX12_toldHere 11 = .ok (.ifCond .ne 8, 3) := by decide +kernel
theorem dX12_toldHere_14 : decode cX12_toldHere 14 = .ok (.aload_n 0, 1) := by decide +kernel
theorem dX12_toldHere_15 : decode cX12_toldHere 15 = .ok (.iconst 1, 1) := by decide +kernel
theorem dX12_toldHere_16 : decode cX12_toldHere 16 = .ok (.invokevirtual 189, 3) := by decide +kernel
theorem dX12_toldHere_19 : decode cX12_toldHere 19 = .ok (.aload_n 0, 1) := by decide +kernel
theorem dX12_toldHere_20 : decode cX12_toldHere 20 = .ok (.getfield 183, 3) := by decide +kernel
theorem dX12_toldHere_23 : decode cX12_toldHere 23 = .ok (.ifCond .le 7, 3) := by decide +kernel
theorem dX12_toldHere_26 : decode cX12_toldHere 26 = .ok (.iconst (-1), 1) := by decide +kernel
theorem dX12_toldHere_27 : decode cX12_toldHere 27 = .ok (.goto 7, 3) := by decide +kernel
theorem dX12_toldHere_30 : decode cX12_toldHere 30 = .ok (.aload_n 0, 1) := by decide +kernel
theorem dX12_toldHere_31 : decode cX12_toldHere 31 = .ok (.invokevirtual 215, 3) := by decide +kernel
theorem dX12_toldHere_34 : decode cX12_toldHere 34 = .ok (.istore_n 1, 1) := by decide +kernel
theorem dX12_toldHere_35 : decode cX12_toldHere 35 = .ok (.aload_n 0, 1) := by decide +kernel
theorem dX12_toldHere_36 : decode cX12_toldHere 36 = .ok (.getfield 183, 3) := by decide +kernel
theorem dX12_toldHere_39 : decode cX12_toldHere 39 = .ok (.ifCond .ne 12, 3) := by decide +kernel
theorem dX12_toldHere_42 : decode cX12_toldHere 42 = .ok (.iload_n 1, 1) := by decide +kernel
theorem dX12_toldHere_43 : decode cX12_toldHere 43 = .ok (.ifCond .ge 8, 3) := by decide +kernel
theorem dX12_toldHere_46 : decode cX12_toldHere 46 = .ok (.aload_n 0, 1) := by decide +kernel
theorem dX12_toldHere_47 : decode cX12_toldHere 47 = .ok (.iconst 2, 1) := by decide +kernel
theorem dX12_toldHere_48 : decode cX12_toldHere 48 = .ok (.invokevirtual 189, 3) := by decide +kernel
theorem dX12_toldHere_51 : decode cX12_toldHere 51 = .ok (.aload_n 0, 1) := by decide +kernel
theorem dX12_toldHere_52 : decode cX12_toldHere 52 = .ok (.getfield 183, 3) := by decide +kernel
theorem dX12_toldHere_55 : decode cX12_toldHere 55 = .ok (.ifCond .le 7, 3) := by decide +kernel
theorem dX12_toldHere_58 : decode cX12_toldHere 58 = .ok (.iconst 0, 1) := by decide +kernel
theorem dX12_toldHere_59 : decode cX12_toldHere 59 = .ok (.goto 4, 3) := by decide +kernel
theorem dX12_toldHere_62 : decode cX12_toldHere 62 = .ok (.iload_n 1, 1) := by decide +kernel
theorem dX12_toldHere_63 : decode cX12_toldHere 63 = .ok (.ireturn, 1) := by decide +kernel
theorem dX12_takeTold_0 : decode cX12_takeTold 0 = .ok (.aload_n 0, 1) := by decide +kernel
theorem dX12_takeTold_1 : decode cX12_takeTold 1 = .ok (.invokevirtual 219, 3) := by decide +kernel
theorem dX12_takeTold_4 : decode cX12_takeTold 4 = .ok (.istore_n 1, 1) := by decide +kernel
theorem dX12_takeTold_5 : decode cX12_takeTold 5 = .ok (.aload_n 0, 1) := by decide +kernel
theorem dX12_takeTold_6 : decode cX12_takeTold 6 = .ok (.dup, 1) := by decide +kernel
theorem dX12_takeTold_7 : decode cX12_takeTold 7 = .ok (.getfield 180, 3) := by decide +kernel
theorem dX12_takeTold_10 : decode cX12_takeTold 10 = .ok (.aload_n 0, 1) := by decide +kernel
theorem dX12_takeTold_11 : decode cX12_takeTold 11 = .ok (.getfield 183, 3) := by decide +kernel
theorem dX12_takeTold_14 : decode cX12_takeTold 14 = .ok (.ifCond .le 7, 3) := by decide +kernel
theorem dX12_takeTold_17 : decode cX12_takeTold 17 = .ok (.iconst 0, 1) := by decide +kernel
theorem dX12_takeTold_18 : decode cX12_takeTold 18 = .ok (.goto 4, 3) := by decide +kernel
theorem dX12_takeTold_21 : decode cX12_takeTold 21 = .ok (.iconst 1, 1) := by decide +kernel
theorem dX12_takeTold_22 : decode cX12_takeTold 22 = .ok (.iadd, 1) := by decide +kernel
theorem dX12_takeTold_23 : decode cX12_takeTold 23 = .ok (.putfield 180, 3) := by decide +kernel
theorem dX12_takeTold_26 : decode cX12_takeTold 26 = .ok (.iload_n 1, 1) := by decide +kernel
theorem dX12_takeTold_27 : decode cX12_takeTold 27 = .ok (.ireturn, 1) := by decide +kernel
theorem dX12_takeOther_0 : decode cX12_takeOther 0 = .ok (.aload_n 0, 1) := by decide +kernel
theorem dX12_takeOther_1 : decode cX12_takeOther 1 = .ok (.invokevirtual 219, 3) := by decide +kernel
theorem dX12_takeOther_4 : decode cX12_takeOther 4 = .ok (.istore_n 3, 1) := by decide +kernel
theorem dX12_takeOther_5 : decode cX12_takeOther 5 = .ok (.aload_n 0, 1) := by decide +kernel
theorem dX12_takeOther_6 : decode cX12_takeOther 6 = .ok (.getfield 183, 3) := by decide +kernel
theorem dX12_takeOther_9 : decode cX12_takeOther 9 = .ok (.ifCond .ne 34, 3) := by decide +kernel
theorem dX12_takeOther_12 : decode cX12_takeOther 12 = .ok (.iload_n 3, 1) := by decide +kernel
theorem dX12_takeOther_13 : decode cX12_takeOther 13 = .ok (.iload_n 1, 1) := by decide +kernel
theorem dX12_takeOther_14 : decode cX12_takeOther 14 = .ok (.if_icmp .eq 24, 3) := by decide +kernel
theorem dX12_takeOther_17 : decode cX12_takeOther 17 = .ok (.iload_n 2, 1) := by decide +kernel
theorem dX12_takeOther_18 : decode cX12_takeOther 18 = .ok (.ifCond .eq 25, 3) := by decide +kernel
theorem dX12_takeOther_21 : decode cX12_takeOther 21 = .ok (.aload_n 0, 1) := by decide +kernel
theorem dX12_takeOther_22 : decode cX12_takeOther 22 = .ok (.getfield 89, 3) := by decide +kernel
theorem dX12_takeOther_25 : decode cX12_takeOther 25 = .ok (.bipush 121, 2) := by decide +kernel
theorem dX12_takeOther_27 : decode cX12_takeOther 27 = .ok (.bipush 6, 2) := by decide +kernel
theorem dX12_takeOther_29 : decode cX12_takeOther 29 = .ok (.iload_n 1, 1) := by decide +kernel
theorem dX12_takeOther_30 : decode cX12_takeOther 30 = .ok (.imul, 1) := by decide +kernel
theorem dX12_takeOther_31 : decode cX12_takeOther 31 = .ok (.iadd, 1) := by decide +kernel
theorem dX12_takeOther_32 : decode cX12_takeOther 32 = .ok (.iload_n 3, 1) := by decide +kernel
theorem dX12_takeOther_33 : decode cX12_takeOther 33 = .ok (.iadd, 1) := by decide +kernel
theorem dX12_takeOther_34 : decode cX12_takeOther 34 = .ok (.iaload, 1) := by decide +kernel
theorem dX12_takeOther_35 : decode cX12_takeOther 35 = .ok (.ifCond .le 8, 3) := by decide +kernel
theorem dX12_takeOther_38 : decode cX12_takeOther 38 = .ok (.aload_n 0, 1) := by decide +kernel
theorem dX12_takeOther_39 : decode cX12_takeOther 39 = .ok (.iconst 3, 1) := by decide +kernel
theorem dX12_takeOther_40 : decode cX12_takeOther 40 = .ok (.invokevirtual 189, 3) := by decide +kernel
theorem dX12_takeOther_43 : decode cX12_takeOther 43 = .ok (.aload_n 0, 1) := by decide +kernel
theorem dX12_takeOther_44 : decode cX12_takeOther 44 = .ok (.dup, 1) := by decide +kernel
theorem dX12_takeOther_45 : decode cX12_takeOther 45 = .ok (.getfield 180, 3) := by decide +kernel
theorem dX12_takeOther_48 : decode cX12_takeOther 48 = .ok (.aload_n 0, 1) := by decide +kernel
theorem dX12_takeOther_49 : decode cX12_takeOther 49 = .ok (.getfield 183, 3) := by decide +kernel
theorem dX12_takeOther_52 : decode cX12_takeOther 52 = .ok (.ifCond .le 7, 3) := by decide +kernel
theorem dX12_takeOther_55 : decode cX12_takeOther 55 = .ok (.iconst 0, 1) := by decide +kernel
theorem dX12_takeOther_56 : decode cX12_takeOther 56 = .ok (.goto 4, 3) := by decide +kernel
theorem dX12_takeOther_59 : decode cX12_takeOther 59 = .ok (.iconst 1, 1) := by decide +kernel
theorem dX12_takeOther_60 : decode cX12_takeOther 60 = .ok (.iadd, 1) := by decide +kernel
theorem dX12_takeOther_61 : decode cX12_takeOther 61 = .ok (.putfield 180, 3) := by decide +kernel
theorem dX12_takeOther_64 : decode cX12_takeOther 64 = .ok (.iload_n 3, 1) := by decide +kernel
theorem dX12_takeOther_65 : decode cX12_takeOther 65 = .ok (.ireturn, 1) := by decide +kernel
theorem dX12_town_0 : decode cX12_town 0 = .ok (.aload_n 0, 1) := by decide +kernel
theorem dX12_town_1 : decode cX12_town 1 = .ok (.iconst 0, 1) := by decide +kernel
theorem dX12_town_2 : decode cX12_town 2 = .ok (.putfield 1, 3) := by decide +kernel
theorem dX12_town_5 : decode cX12_town 5 = .ok (.aload_n 0, 1) := by decide +kernel
theorem dX12_town_6 : decode cX12_town 6 = .ok (.invokevirtual 222, 3) := by decide +kernel
theorem dX12_town_9 : decode cX12_town 9 = .ok (.aload_n 0, 1) := by decide +kernel
theorem dX12_town_10 : decode cX12_town 10 = .ok (.iconst 0, 1) := by decide +kernel
theorem dX12_town_11 : decode cX12_town 11 = .ok (.putfield 225, 3) := by decide +kernel
theorem dX12_town_14 : decode cX12_town 14 = .ok (.aload_n 0, 1) := by decide +kernel
theorem dX12_town_15 : decode cX12_town 15 = .ok (.iconst 0, 1) := by decide +kernel
theorem dX12_town_16 : decode cX12_town 16 = .ok (.putfield 208, 3) := by decide +kernel
theorem dX12_town_19 : decode cX12_town 19 = .ok (.aload_n 0, 1) := by decide +kernel
theorem dX12_town_20 : decode cX12_town 20 = .ok (.iconst 0, 1) := by decide +kernel
theorem dX12_town_21 : decode cX12_town 21 = .ok (.putfield 228, 3) := by decide +kernel
theorem dX12_town_24 : decode cX12_town 24 = .ok (.aload_n 0, 1) := by decide +kernel
theorem dX12_town_25 : decode cX12_town 25 = .ok (.bipush 100, 2) := by decide +kernel
theorem dX12_town_27 : decode cX12_town 27 = .ok (.invokevirtual 150, 3) := by decide +kernel
theorem dX12_town_30 : decode cX12_town 30 = .ok (.aload_n 0, 1) := by decide +kernel
theorem dX12_town_31 : decode cX12_town 31 = .ok (.getfield 183, 3) := by decide +kernel
theorem dX12_town_34 : decode cX12_town 34 = .ok (.ifCond .ne 28, 3) := by decide +kernel
theorem dX12_town_37 : decode cX12_town 37 = .ok (.aload_n 0, 1) := by decide +kernel
theorem dX12_town_38 : decode cX12_town 38 = .ok (.getfield 24, 3) := by decide +kernel
theorem dX12_town_41 : decode cX12_town 41 = .ok (.aload_n 0, 1) := by decide +kernel
theorem dX12_town_42 : decode cX12_town 42 = .ok (.getfield 180, 3) := by decide +kernel
theorem dX12_town_45 : decode cX12_town 45 = .ok (.iaload, 1) := by decide +kernel
theorem dX12_town_46 : decode cX12_town 46 = .ok (.ifCond .eq 16, 3) := by decide +kernel
theorem dX12_town_49 : decode cX12_town 49 = .ok (.aload_n 0, 1) := by decide +kernel
theorem dX12_town_50 : decode cX12_town 50 = .ok (.invokevirtual 231, 3) := by decide +kernel
theorem dX12_town_53 : decode cX12_town 53 = .ok (.aload_n 0, 1) := by decide +kernel
theorem dX12_town_54 : decode cX12_town 54 = .ok (.bipush 59, 2) := by decide +kernel
theorem dX12_town_56 : decode cX12_town 56 = .ok (.invokevirtual 234, 3) := by decide +kernel
theorem dX12_town_59 : decode cX12_town 59 = .ok (.goto (-29), 3) := by decide +kernel
theorem dX12_town_62 : decode cX12_town 62 = .ok (.aload_n 0, 1) := by decide +kernel
theorem dX12_town_63 : decode cX12_town 63 = .ok (.getfield 183, 3) := by decide +kernel
theorem dX12_town_66 : decode cX12_town 66 = .ok (.ifCond .le 8, 3) := by decide +kernel
theorem dX12_town_69 : decode cX12_town 69 = .ok (.aload_n 0, 1) := by decide +kernel
theorem dX12_town_70 : decode cX12_town 70 = .ok (.getfield 183, 3) := by decide +kernel
theorem dX12_town_73 : decode cX12_town 73 = .ok (.ireturn, 1) := by decide +kernel
theorem dX12_town_74 : decode cX12_town 74 = .ok (.iconst 0, 1) := by decide +kernel
theorem dX12_town_75 : decode cX12_town 75 = .ok (.istore_n 1, 1) := by decide +kernel
theorem dX12_town_76 : decode cX12_town 76 = .ok (.iload_n 1, 1) := by decide +kernel
theorem dX12_town_77 : decode cX12_town 77 = .ok (.bipush 100, 2) := by decide +kernel
theorem dX12_town_79 : decode cX12_town 79 = .ok (.if_icmp .ge 24, 3) := by decide +kernel
theorem dX12_town_82 : decode cX12_town 82 = .ok (.aload_n 0, 1) := by decide +kernel
theorem dX12_town_83 : decode cX12_town 83 = .ok (.getfield 89, 3) := by decide +kernel
theorem dX12_town_86 : decode cX12_town 86 = .ok (.iload_n 1, 1) := by decide +kernel
theorem dX12_town_87 : decode cX12_town 87 = .ok (.aload_n 0, 1) := by decide +kernel
theorem dX12_town_88 : decode cX12_town 88 = .ok (.getfield 89, 3) := by decide +kernel
theorem dX12_town_91 : decode cX12_town 91 = .ok (.bipush 100, 2) := by decide +kernel
theorem dX12_town_93 : decode cX12_town 93 = .ok (.iload_n 1, 1) := by decide +kernel
theorem dX12_town_94 : decode cX12_town 94 = .ok (.iadd, 1) := by decide +kernel
theorem dX12_town_95 : decode cX12_town 95 = .ok (.iaload, 1) := by decide +kernel
theorem dX12_town_96 : decode cX12_town 96 = .ok (.iastore, 1) := by decide +kernel
theorem dX12_town_97 : decode cX12_town 97 = .ok (.iinc 1 1, 3) := by decide +kernel
theorem dX12_town_100 : decode cX12_town 100 = .ok (.goto (-24), 3) := by decide +kernel
theorem dX12_town_103 : decode cX12_town 103 = .ok (.iconst 0, 1) := by decide +kernel
theorem dX12_town_104 : decode cX12_town 104 = .ok (.istore_n 1, 1) := by decide +kernel
theorem dX12_town_105 : decode cX12_town 105 = .ok (.iload_n 1, 1) := by decide +kernel
theorem dX12_town_106 : decode cX12_town 106 = .ok (.aload_n 0, 1) := by decide +kernel
theorem dX12_town_107 : decode cX12_town 107 = .ok (.getfield 225, 3) := by decide +kernel
theorem dX12_town_110 : decode cX12_town 110 = .ok (.if_icmp .ge 41, 3) := by decide +kernel
theorem dX12_town_113 : decode cX12_town 113 = .ok (.aload_n 0, 1) := by decide +kernel
theorem dX12_town_114 : decode cX12_town 114 = .ok (.getfield 92, 3) := by decide +kernel
theorem dX12_town_117 : decode cX12_town 117 = .ok (.iload_n 1, 1) := by decide +kernel
theorem dX12_town_118 : decode cX12_town 118 = .ok (.aload_n 0, 1) := by decide +kernel
theorem dX12_town_119 : decode cX12_town 119 = .ok (.getfield 92, 3) := by decide +kernel
theorem dX12_town_122 : decode cX12_town 122 = .ok (.sipush 1100, 3) := by decide +kernel
theorem dX12_town_125 : decode cX12_town 125 = .ok (.iload_n 1, 1) := by decide +kernel
theorem dX12_town_126 : decode cX12_town 126 = .ok (.iadd, 1) := by decide +kernel
theorem dX12_town_127 : decode cX12_town 127 = .ok (.iaload, 1) := by decide +kernel
theorem dX12_town_128 : decode cX12_town 128 = .ok (.iastore, 1) := by decide +kernel
theorem dX12_town_129 : decode cX12_town 129 = .ok (.aload_n 0, 1) := by decide +kernel
theorem dX12_town_130 : decode cX12_town 130 = .ok (.getfield 95, 3) := by decide +kernel
theorem dX12_town_133 : decode cX12_town 133 = .ok (.iload_n 1, 1) := by decide +kernel
theorem dX12_town_134 : decode cX12_town 134 = .ok (.aload_n 0, 1) := by decide +kernel
theorem dX12_town_135 : decode cX12_town 135 = .ok (.getfield 95, 3) := by decide +kernel
theorem dX12_town_138 : decode cX12_town 138 = .ok (.sipush 1100, 3) := by decide +kernel
theorem dX12_town_141 : decode cX12_town 141 = .ok (.iload_n 1, 1) := by decide +kernel
theorem dX12_town_142 : decode cX12_town 142 = .ok (.iadd, 1) := by decide +kernel
theorem dX12_town_143 : decode cX12_town 143 = .ok (.iaload, 1) := by decide +kernel
theorem dX12_town_144 : decode cX12_town 144 = .ok (.iastore, 1) := by decide +kernel
theorem dX12_town_145 : decode cX12_town 145 = .ok (.iinc 1 1, 3) := by decide +kernel
theorem dX12_town_148 : decode cX12_town 148 = .ok (.goto (-43), 3) := by decide +kernel
theorem dX12_town_151 : decode cX12_town 151 = .ok (.iconst 0, 1) := by decide +kernel
theorem dX12_town_152 : decode cX12_town 152 = .ok (.istore_n 1, 1) := by decide +kernel
theorem dX12_town_153 : decode cX12_town 153 = .ok (.iload_n 1, 1) := by decide +kernel
theorem dX12_town_154 : decode cX12_town 154 = .ok (.aload_n 0, 1) := by decide +kernel
theorem dX12_town_155 : decode cX12_town 155 = .ok (.getfield 208, 3) := by decide +kernel
theorem dX12_town_158 : decode cX12_town 158 = .ok (.if_icmp .ge 21, 3) := by decide +kernel
theorem dX12_town_161 : decode cX12_town 161 = .ok (.aload_n 0, 1) := by decide +kernel
theorem dX12_town_162 : decode cX12_town 162 = .ok (.getfield 98, 3) := by decide +kernel
theorem dX12_town_165 : decode cX12_town 165 = .ok (.iload_n 1, 1) := by decide +kernel
theorem dX12_town_166 : decode cX12_town 166 = .ok (.aload_n 0, 1) := by decide +kernel
theorem dX12_town_167 : decode cX12_town 167 = .ok (.getfield 101, 3) := by decide +kernel
theorem dX12_town_170 : decode cX12_town 170 = .ok (.iload_n 1, 1) := by decide +kernel
theorem dX12_town_171 : decode cX12_town 171 = .ok (.laload, 1) := by decide +kernel
theorem dX12_town_172 : decode cX12_town 172 = .ok (.lastore, 1) := by decide +kernel
theorem dX12_town_173 : decode cX12_town 173 = .ok (.iinc 1 1, 3) := by decide +kernel
theorem dX12_town_176 : decode cX12_town 176 = .ok (.goto (-23), 3) := by decide +kernel
theorem dX12_town_179 : decode cX12_town 179 = .ok (.aload_n 0, 1) := by decide +kernel
theorem dX12_town_180 : decode cX12_town 180 = .ok (.invokevirtual 154, 3) := by decide +kernel
theorem dX12_town_183 : decode cX12_town 183 = .ok (.iconst 0, 1) := by decide +kernel
theorem dX12_town_184 : decode cX12_town 184 = .ok (.ireturn, 1) := by decide +kernel
theorem dX12_readLine_0 : decode cX12_readLine 0 = .ok (.aload_n 0, 1) := by decide +kernel
theorem dX12_readLine_1 : decode cX12_readLine 1 = .ok (.iconst 0, 1) := by decide +kernel
theorem dX12_readLine_2 : decode cX12_readLine 2 = .ok (.invokevirtual 192, 3) := by decide +kernel
theorem dX12_readLine_5 : decode cX12_readLine 5 = .ok (.ifCond .eq 10, 3) := by decide +kernel
theorem dX12_readLine_8 : decode cX12_readLine 8 = .ok (.aload_n 0, 1) := by decide +kernel
theorem dX12_readLine_9 : decode cX12_readLine 9 = .ok (.invokevirtual 237, 3) := by decide +kernel
theorem dX12_readLine_12 : decode cX12_readLine 12 = .ok (.goto 53, 3) := by decide +kernel
theorem dX12_readLine_15 : decode cX12_readLine 15 = .ok (.aload_n 0, 1) := by decide +kernel
theorem dX12_readLine_16 : decode cX12_readLine 16 = .ok (.iconst 2, 1) := by decide +kernel
theorem dX12_readLine_17 : decode cX12_readLine 17 = .ok (.invokevirtual 192, 3) := by decide +kernel
theorem dX12_readLine_20 : decode cX12_readLine 20 = .ok (.ifCond .eq 10, 3) := by decide +kernel
theorem dX12_readLine_23 : decode cX12_readLine 23 = .ok (.aload_n 0, 1) := by decide +kernel
theorem dX12_readLine_24 : decode cX12_readLine 24 = .ok (.invokevirtual 240, 3) := by decide +kernel
theorem dX12_readLine_27 : decode cX12_readLine 27 = .ok (.goto 38, 3) := by decide +kernel
theorem dX12_readLine_30 : decode cX12_readLine 30 = .ok (.aload_n 0, 1) := by decide +kernel
theorem dX12_readLine_31 : decode cX12_readLine 31 = .ok (.iconst 3, 1) := by decide +kernel
theorem dX12_readLine_32 : decode cX12_readLine 32 = .ok (.invokevirtual 192, 3) := by decide +kernel
theorem dX12_readLine_35 : decode cX12_readLine 35 = .ok (.ifCond .eq 10, 3) := by decide +kernel
theorem dX12_readLine_38 : decode cX12_readLine 38 = .ok (.aload_n 0, 1) := by decide +kernel
theorem dX12_readLine_39 : decode cX12_readLine 39 = .ok (.invokevirtual 243, 3) := by decide +kernel
theorem dX12_readLine_42 : decode cX12_readLine 42 = .ok (.goto 23, 3) := by decide +kernel
theorem dX12_readLine_45 : decode cX12_readLine 45 = .ok (.aload_n 0, 1) := by decide +kernel
theorem dX12_readLine_46 : decode cX12_readLine 46 = .ok (.bipush 6, 2) := by decide +kernel
theorem dX12_readLine_48 : decode cX12_readLine 48 = .ok (.invokevirtual 192, 3) := by decide +kernel
theorem dX12_readLine_51 : decode cX12_readLine 51 = .ok (.ifCond .eq 10, 3) := by decide +kernel
theorem dX12_readLine_54 : decode cX12_readLine 54 = .ok (.aload_n 0, 1) := by decide +kernel
theorem dX12_readLine_55 : decode cX12_readLine 55 = .ok (.invokevirtual 246, 3) := by decide +kernel
theorem dX12_readLine_58 : decode cX12_readLine 58 = .ok (.goto 7, 3) := by decide +kernel
theorem dX12_readLine_61 : decode cX12_readLine 61 = .ok (.aload_n 0, 1) := by decide +kernel
theorem dX12_readLine_62 : decode cX12_readLine 62 = .ok (.invokevirtual 249, 3) := by decide +kernel
theorem dX12_readLine_65 : decode cX12_readLine 65 = .ok (.return_, 1) := by decide +kernel
theorem dX12_readPerson_0 : decode cX12_readPerson 0 = .ok (.aload_n 0, 1) := by decide +kernel
theorem dX12_readPerson_1 : decode cX12_readPerson 1 = .ok (.getfield 89, 3) := by decide +kernel
theorem dX12_readPerson_4 : decode cX12_readPerson 4 = .ok (.bipush 100, 2) := by decide +kernel
theorem dX12_readPerson_6 : decode cX12_readPerson 6 = .ok (.iaload, 1) := by decide +kernel
theorem dX12_readPerson_7 : decode cX12_readPerson 7 = .ok (.istore_n 1, 1) := by decide +kernel
theorem dX12_readPerson_8 : decode cX12_readPerson 8 = .ok (.iload_n 1, 1) := by decide +kernel
theorem dX12_readPerson_9 : decode cX12_readPerson 9 = .ok (.bipush 6, 2) := by decide +kernel
theorem dX12_readPerson_11 : decode cX12_readPerson 11 = .ok (.if_icmp .ne 9, 3) := by decide +kernel
theorem dX12_readPerson_14 : decode cX12_readPerson 14 = .ok (.aload_n 0, 1) := by decide +kernel
theorem dX12_readPerson_15 : decode cX12_readPerson 15 = .ok (.iconst 5, 1) := by decide +kernel
theorem dX12_readPerson_16 : decode cX12_readPerson 16 = .ok (.invokevirtual 189, 3) := by decide +kernel
theorem dX12_readPerson_19 : decode cX12_readPerson 19 = .ok (.return_, 1) := by decide +kernel
theorem dX12_readPerson_20 : decode cX12_readPerson 20 = .ok (.aload_n 0, 1) := by decide +kernel
theorem dX12_readPerson_21 : decode cX12_readPerson 21 = .ok (.dup, 1) := by decide +kernel
theorem dX12_readPerson_22 : decode cX12_readPerson 22 = .ok (.getfield 180, 3) := by decide +kernel
theorem dX12_readPerson_25 : decode cX12_readPerson 25 = .ok (.iconst 1, 1) := by decide +kernel
theorem dX12_readPerson_26 : decode cX12_readPerson 26 = .ok (.iadd, 1) := by decide +kernel
theorem dX12_readPerson_27 : decode cX12_readPerson 27 = .ok (.putfield 180, 3) := by decide +kernel
theorem dX12_readPerson_30 : decode cX12_readPerson 30 = .ok (.aload_n 0, 1) := by decide +kernel
theorem dX12_readPerson_31 : decode cX12_readPerson 31 = .ok (.invokevirtual 211, 3) := by decide +kernel
theorem dX12_readPerson_34 : decode cX12_readPerson 34 = .ok (.ifCond .ne 11, 3) := by decide +kernel
theorem dX12_readPerson_37 : decode cX12_readPerson 37 = .ok (.aload_n 0, 1) := by decide +kernel
theorem dX12_readPerson_38 : decode cX12_readPerson 38 = .ok (.iconst 1, 1) := by decide +kernel
theorem dX12_readPerson_39 : decode cX12_readPerson 39 = .ok (.invokevirtual 189, 3) := by decide +kernel
theorem dX12_readPerson_42 : decode cX12_readPerson 42 = .ok (.goto 15, 3) := by decide +kernel
theorem dX12_readPerson_45 : decode cX12_readPerson 45 = .ok (.aload_n 0, 1) := by decide +kernel
theorem dX12_readPerson_46 : decode cX12_readPerson 46 = .ok (.invokevirtual 215, 3) := by decide +kernel
theorem dX12_readPerson_49 : decode cX12_readPerson 49 = .ok (.ifCond .lt 8, 3) := by decide +kernel
theorem dX12_readPerson_52 : decode cX12_readPerson 52 = .ok (.aload_n 0, 1) := by decide +kernel
theorem dX12_readPerson_53 : decode cX12_readPerson 53 = .ok (.iconst 3, 1) := by decide +kernel
theorem dX12_readPerson_54 : decode cX12_readPerson 54 = .ok (.invokevirtual 189, 3) := by decide +kernel
theorem dX12_readPerson_57 : decode cX12_readPerson 57 = .ok (.aload_n 0, 1) := by decide +kernel
theorem dX12_readPerson_58 : decode cX12_readPerson 58 = .ok (.getfield 183, 3) := by decide +kernel
theorem dX12_readPerson_61 : decode cX12_readPerson 61 = .ok (.ifCond .le 4, 3) := by decide +kernel
theorem dX12_readPerson_64 : decode cX12_readPerson 64 = .ok (.return_, 1) := by decide +kernel
theorem dX12_readPerson_65 : decode cX12_readPerson 65 = .ok (.aload_n 0, 1) := by decide +kernel
theorem dX12_readPerson_66 : decode cX12_readPerson 66 = .ok (.getfield 101, 3) := by decide +kernel
theorem dX12_readPerson_69 : decode cX12_readPerson 69 = .ok (.aload_n 0, 1) := by decide +kernel
theorem dX12_readPerson_70 : decode cX12_readPerson 70 = .ok (.getfield 208, 3) := by decide +kernel
theorem dX12_readPerson_73 : decode cX12_readPerson 73 = .ok (.aload_n 0, 1) := by decide +kernel
theorem dX12_readPerson_74 : decode cX12_readPerson 74 = .ok (.getfield 30, 3) := by decide +kernel
theorem dX12_readPerson_77 : decode cX12_readPerson 77 = .ok (.aload_n 0, 1) := by decide +kernel
theorem dX12_readPerson_78 : decode cX12_readPerson 78 = .ok (.getfield 180, 3) := by decide +kernel
theorem dX12_readPerson_81 : decode cX12_readPerson 81 = .ok (.laload, 1) := by decide +kernel
theorem dX12_readPerson_82 : decode cX12_readPerson 82 = .ok (.lastore, 1) := by decide +kernel
theorem dX12_readPerson_83 : decode cX12_readPerson 83 = .ok (.aload_n 0, 1) := by decide +kernel
theorem dX12_readPerson_84 : decode cX12_readPerson 84 = .ok (.dup, 1) := by decide +kernel
theorem dX12_readPerson_85 : decode cX12_readPerson 85 = .ok (.getfield 208, 3) := by decide +kernel
theorem dX12_readPerson_88 : decode cX12_readPerson 88 = .ok (.iconst 1, 1) := by decide +kernel
theorem dX12_readPerson_89 : decode cX12_readPerson 89 = .ok (.iadd, 1) := by decide +kernel
theorem dX12_readPerson_90 : decode cX12_readPerson 90 = .ok (.putfield 208, 3) := by decide +kernel
theorem dX12_readPerson_93 : decode cX12_readPerson 93 = .ok (.aload_n 0, 1) := by decide +kernel
theorem dX12_readPerson_94 : decode cX12_readPerson 94 = .ok (.dup, 1) := by decide +kernel
theorem dX12_readPerson_95 : decode cX12_readPerson 95 = .ok (.getfield 180, 3) := by decide +kernel
theorem dX12_readPerson_98 : decode cX12_readPerson 98 = .ok (.iconst 1, 1) := by decide +kernel
theorem dX12_readPerson_99 : decode cX12_readPerson 99 = .ok (.iadd, 1) := by decide +kernel
theorem dX12_readPerson_100 : decode cX12_readPerson 100 = .ok (.putfield 180, 3) := by decide +kernel
theorem dX12_readPerson_103 : decode cX12_readPerson 103 = .ok (.aload_n 0, 1) := by decide +kernel
theorem dX12_readPerson_104 : decode cX12_readPerson 104 = .ok (.getfield 89, 3) := by decide +kernel
theorem dX12_readPerson_107 : decode cX12_readPerson 107 = .ok (.bipush 109, 2) := by decide +kernel
theorem dX12_readPerson_109 : decode cX12_readPerson 109 = .ok (.iconst 2, 1) := by decide +kernel
theorem dX12_readPerson_110 : decode cX12_readPerson 110 = .ok (.iload_n 1, 1) := by decide +kernel
theorem dX12_readPerson_111 : decode cX12_readPerson 111 = .ok (.imul, 1) := by decide +kernel
theorem dX12_readPerson_112 : decode cX12_readPerson 112 = .ok (.iadd, 1) := by decide +kernel
theorem dX12_readPerson_113 : decode cX12_readPerson 113 = .ok (.aload_n 0, 1) := by decide +kernel
theorem dX12_readPerson_114 : decode cX12_readPerson 114 = .ok (.bipush 16, 2) := by decide +kernel
theorem dX12_readPerson_116 : decode cX12_readPerson 116 = .ok (.iconst 4, 1) := by decide +kernel
theorem dX12_readPerson_117 : decode cX12_readPerson 117 = .ok (.invokevirtual 252, 3) := by decide +kernel
theorem dX12_readPerson_120 : decode cX12_readPerson 120 = .ok (.iastore, 1) := by decide +kernel
theorem dX12_readPerson_121 : decode cX12_readPerson 121 = .ok (.aload_n 0, 1) := by decide +kernel
theorem dX12_readPerson_122 : decode cX12_readPerson 122 = .ok (.getfield 89, 3) := by decide +kernel
theorem dX12_readPerson_125 : decode cX12_readPerson 125 = .ok (.bipush 109, 2) := by decide +kernel
theorem dX12_readPerson_127 : decode cX12_readPerson 127 = .ok (.iconst 2, 1) := by decide +kernel
theorem dX12_readPerson_128 : decode cX12_readPerson 128 = .ok (.iload_n 1, 1) := by decide +kernel
theorem dX12_readPerson_129 : decode cX12_readPerson 129 = .ok (.imul, 1) := by decide +kernel
theorem dX12_readPerson_130 : decode cX12_readPerson 130 = .ok (.iadd, 1) := by decide +kernel
theorem dX12_readPerson_131 : decode cX12_readPerson 131 = .ok (.iconst 1, 1) := by decide +kernel
theorem dX12_readPerson_132 : decode cX12_readPerson 132 = .ok (.iadd, 1) := by decide +kernel
theorem dX12_readPerson_133 : decode cX12_readPerson 133 = .ok (.aload_n 0, 1) := by decide +kernel
theorem dX12_readPerson_134 : decode cX12_readPerson 134 = .ok (.iconst 1, 1) := by decide +kernel
theorem dX12_readPerson_135 : decode cX12_readPerson 135 = .ok (.iconst 0, 1) := by decide +kernel
theorem dX12_readPerson_136 : decode cX12_readPerson 136 = .ok (.sipush 999, 3) := by decide +kernel
theorem dX12_readPerson_139 : decode cX12_readPerson 139 = .ok (.invokevirtual 255, 3) := by decide +kernel
theorem dX12_readPerson_142 : decode cX12_readPerson 142 = .ok (.iastore, 1) := by decide +kernel
theorem dX12_readPerson_143 : decode cX12_readPerson 143 = .ok (.aload_n 0, 1) := by decide +kernel
theorem dX12_readPerson_144 : decode cX12_readPerson 144 = .ok (.getfield 89, 3) := by decide +kernel
theorem dX12_readPerson_147 : decode cX12_readPerson 147 = .ok (.bipush 100, 2) := by decide +kernel
theorem dX12_readPerson_149 : decode cX12_readPerson 149 = .ok (.dup2, 1) := by decide +kernel
theorem dX12_readPerson_150 : decode cX12_readPerson 150 = .ok (.iaload, 1) := by decide +kernel
theorem dX12_readPerson_151 : decode cX12_readPerson 151 = .ok (.iconst 1, 1) := by decide +kernel
theorem dX12_readPerson_152 : decode cX12_readPerson 152 = .ok (.iadd, 1) := by decide +kernel
theorem dX12_readPerson_153 : decode cX12_readPerson 153 = .ok (.iastore, 1) := by decide +kernel
theorem dX12_readPerson_154 : decode cX12_readPerson 154 = .ok (.return_, 1) := by decide +kernel
theorem dX12_readLane_0 : decode cX12_readLane 0 = .ok (.aload_n 0, 1) := by decide +kernel
theorem dX12_readLane_1 : decode cX12_readLane 1 = .ok (.dup, 1) := by decide +kernel
theorem dX12_readLane_2 : decode cX12_readLane 2 = .ok (.getfield 180, 3) := by decide +kernel
theorem dX12_readLane_5 : decode cX12_readLane 5 = .ok (.iconst 1, 1) := by decide +kernel
theorem dX12_readLane_6 : decode cX12_readLane 6 = .ok (.iadd, 1) := by decide +kernel
theorem dX12_readLane_7 : decode cX12_readLane 7 = .ok (.putfield 180, 3) := by decide +kernel
theorem dX12_readLane_10 : decode cX12_readLane 10 = .ok (.aload_n 0, 1) := by decide +kernel
theorem dX12_readLane_11 : decode cX12_readLane 11 = .ok (.invokevirtual 259, 3) := by decide +kernel
theorem dX12_readLane_14 : decode cX12_readLane 14 = .ok (.istore_n 1, 1) := by decide +kernel
theorem dX12_readLane_15 : decode cX12_readLane 15 = .ok (.aload_n 0, 1) := by decide +kernel
theorem dX12_readLane_16 : decode cX12_readLane 16 = .ok (.iload_n 1, 1) := by decide +kernel
theorem dX12_readLane_17 : decode cX12_readLane 17 = .ok (.iconst 1, 1) := by decide +kernel
theorem dX12_readLane_18 : decode cX12_readLane 18 = .ok (.invokevirtual 262, 3) := by decide +kernel
theorem dX12_readLane_21 : decode cX12_readLane 21 = .ok (.istore_n 2, 1) := by decide +kernel
theorem dX12_readLane_22 : decode cX12_readLane 22 = .ok (.aload_n 0, 1) := by decide +kernel
theorem dX12_readLane_23 : decode cX12_readLane 23 = .ok (.iconst 1, 1) := by decide +kernel
theorem dX12_readLane_24 : decode cX12_readLane 24 = .ok (.bipush 30, 2) := by decide +kernel
theorem dX12_readLane_26 : decode cX12_readLane 26 = .ok (.invokevirtual 201, 3) := by decide +kernel
theorem dX12_readLane_29 : decode cX12_readLane 29 = .ok (.istore_n 3, 1) := by decide +kernel
theorem dX12_readLane_30 : decode cX12_readLane 30 = .ok (.aload_n 0, 1) := by decide +kernel
theorem dX12_readLane_31 : decode cX12_readLane 31 = .ok (.getfield 183, 3) := by decide +kernel
theorem dX12_readLane_34 : decode cX12_readLane 34 = .ok (.ifCond .ne 44, 3) := by decide +kernel
theorem dX12_readLane_37 : decode cX12_readLane 37 = .ok (.aload_n 0, 1) := by decide +kernel
theorem dX12_readLane_38 : decode cX12_readLane 38 = .ok (.getfield 89, 3) := by decide +kernel
theorem dX12_readLane_41 : decode cX12_readLane 41 = .ok (.bipush 121, 2) := by decide +kernel
theorem dX12_readLane_43 : decode cX12_readLane 43 = .ok (.bipush 6, 2) := by decide +kernel
theorem dX12_readLane_45 : decode cX12_readLane 45 = .ok (.iload_n 1, 1) := by decide +kernel
theorem dX12_readLane_46 : decode cX12_readLane 46 = .ok (.imul, 1) := by decide +kernel
theorem dX12_readLane_47 : decode cX12_readLane 47 = .ok (.iadd, 1) := by decide +kernel
theorem dX12_readLane_48 : decode cX12_readLane 48 = .ok (.iload_n 2, 1) := by decide +kernel
theorem dX12_readLane_49 : decode cX12_readLane 49 = .ok (.iadd, 1) := by decide +kernel
theorem dX12_readLane_50 : decode cX12_readLane 50 = .ok (.iload_n 3, 1) := by decide +kernel
theorem dX12_readLane_51 : decode cX12_readLane 51 = .ok (.iastore, 1) := by decide +kernel
theorem dX12_readLane_52 : decode cX12_readLane 52 = .ok (.aload_n 0, 1) := by decide +kernel
theorem dX12_readLane_53 : decode cX12_readLane 53 = .ok (.getfield 89, 3) := by decide +kernel
theorem dX12_readLane_56 : decode cX12_readLane 56 = .ok (.bipush 121, 2) := by decide +kernel
theorem dX12_readLane_58 : decode cX12_readLane 58 = .ok (.bipush 6, 2) := by decide +kernel
theorem dX12_readLane_60 : decode cX12_readLane 60 = .ok (.iload_n 2, 1) := by decide +kernel
theorem dX12_readLane_61 : decode cX12_readLane 61 = .ok (.imul, 1) := by decide +kernel
theorem dX12_readLane_62 : decode cX12_readLane 62 = .ok (.iadd, 1) := by decide +kernel
theorem dX12_readLane_63 : decode cX12_readLane 63 = .ok (.iload_n 1, 1) := by decide +kernel
theorem dX12_readLane_64 : decode cX12_readLane 64 = .ok (.iadd, 1) := by decide +kernel
theorem dX12_readLane_65 : decode cX12_readLane 65 = .ok (.iload_n 3, 1) := by decide +kernel
theorem dX12_readLane_66 : decode cX12_readLane 66 = .ok (.iastore, 1) := by decide +kernel
theorem dX12_readLane_67 : decode cX12_readLane 67 = .ok (.aload_n 0, 1) := by decide +kernel
theorem dX12_readLane_68 : decode cX12_readLane 68 = .ok (.getfield 89, 3) := by decide +kernel
theorem dX12_readLane_71 : decode cX12_readLane 71 = .ok (.bipush 101, 2) := by decide +kernel
theorem dX12_readLane_73 : decode cX12_readLane 73 = .ok (.dup2, 1) := by decide +kernel
theorem dX12_readLane_74 : decode cX12_readLane 74 = .ok (.iaload, 1) := by decide +kernel
theorem dX12_readLane_75 : decode cX12_readLane 75 = .ok (.iconst 1, 1) := by decide +kernel
theorem dX12_readLane_76 : decode cX12_readLane 76 = .ok (.iadd, 1) := by decide +kernel
theorem dX12_readLane_77 : decode cX12_readLane 77 = .ok (.iastore, 1) := by decide +kernel
theorem dX12_readLane_78 : decode cX12_readLane 78 = .ok (.return_, 1) := by decide +kernel
theorem dX12_readWrong_0 : decode cX12_readWrong 0 = .ok (.aload_n 0, 1) := by decide +kernel
theorem dX12_readWrong_1 : decode cX12_readWrong 1 = .ok (.getfield 89, 3) := by decide +kernel
theorem dX12_readWrong_4 : decode cX12_readWrong 4 = .ok (.bipush 102, 2) := by decide +kernel
theorem dX12_readWrong_6 : decode cX12_readWrong 6 = .ok (.iaload, 1) := by decide +kernel
theorem dX12_readWrong_7 : decode cX12_readWrong 7 = .ok (.istore_n 1, 1) := by decide +kernel
theorem dX12_readWrong_8 : decode cX12_readWrong 8 = .ok (.iload_n 1, 1) := by decide +kernel
theorem dX12_readWrong_9 : decode cX12_readWrong 9 = .ok (.bipush 8, 2) := by decide +kernel
theorem dX12_readWrong_11 : decode cX12_readWrong 11 = .ok (.if_icmp .ne 9, 3) := by decide +kernel
theorem dX12_readWrong_14 : decode cX12_readWrong 14 = .ok (.aload_n 0, 1) := by decide +kernel
theorem dX12_readWrong_15 : decode cX12_readWrong 15 = .ok (.iconst 5, 1) := by decide +kernel
theorem dX12_readWrong_16 : decode cX12_readWrong 16 = .ok (.invokevirtual 189, 3) := by decide +kernel
theorem dX12_readWrong_19 : decode cX12_readWrong 19 = .ok (.return_, 1) := by decide +kernel
theorem dX12_readWrong_20 : decode cX12_readWrong 20 = .ok (.aload_n 0, 1) := by decide +kernel
theorem dX12_readWrong_21 : decode cX12_readWrong 21 = .ok (.dup, 1) := by decide +kernel
theorem dX12_readWrong_22 : decode cX12_readWrong 22 = .ok (.getfield 180, 3) := by decide +kernel
theorem dX12_readWrong_25 : decode cX12_readWrong 25 = .ok (.iconst 1, 1) := by decide +kernel
theorem dX12_readWrong_26 : decode cX12_readWrong 26 = .ok (.iadd, 1) := by decide +kernel
theorem dX12_readWrong_27 : decode cX12_readWrong 27 = .ok (.putfield 180, 3) := by decide +kernel
theorem dX12_readWrong_30 : decode cX12_readWrong 30 = .ok (.sipush 157, 3) := by decide +kernel
theorem dX12_readWrong_33 : decode cX12_readWrong 33 = .ok (.iconst 3, 1) := by decide +kernel
theorem dX12_readWrong_34 : decode cX12_readWrong 34 = .ok (.iload_n 1, 1) := by decide +kernel
theorem dX12_readWrong_35 : decode cX12_readWrong 35 = .ok (.imul, 1) := by decide +kernel
theorem dX12_readWrong_36 : decode cX12_readWrong 36 = .ok (.iadd, 1) := by decide +kernel
theorem dX12_readWrong_37 : decode cX12_readWrong 37 = .ok (.istore_n 2, 1) := by decide +kernel
theorem dX12_readWrong_38 : decode cX12_readWrong 38 = .ok (.aload_n 0, 1) := by decide +kernel
theorem dX12_readWrong_39 : decode cX12_readWrong 39 = .ok (.getfield 89, 3) := by decide +kernel
theorem dX12_readWrong_42 : decode cX12_readWrong 42 = .ok (.iload_n 2, 1) := by decide +kernel
theorem dX12_readWrong_43 : decode cX12_readWrong 43 = .ok (.aload_n 0, 1) := by decide +kernel
theorem dX12_readWrong_44 : decode cX12_readWrong 44 = .ok (.invokevirtual 259, 3) := by decide +kernel
theorem dX12_readWrong_47 : decode cX12_readWrong 47 = .ok (.iastore, 1) := by decide +kernel
theorem dX12_readWrong_48 : decode cX12_readWrong 48 = .ok (.aload_n 0, 1) := by decide +kernel
theorem dX12_readWrong_49 : decode cX12_readWrong 49 = .ok (.iconst 4, 1) := by decide +kernel
theorem dX12_readWrong_50 : decode cX12_readWrong 50 = .ok (.invokevirtual 198, 3) := by decide +kernel
theorem dX12_readWrong_53 : decode cX12_readWrong 53 = .ok (.aload_n 0, 1) := by decide +kernel
theorem dX12_readWrong_54 : decode cX12_readWrong 54 = .ok (.getfield 89, 3) := by decide +kernel
theorem dX12_readWrong_57 : decode cX12_readWrong 57 = .ok (.iload_n 2, 1) := by decide +kernel
theorem dX12_readWrong_58 : decode cX12_readWrong 58 = .ok (.iconst 1, 1) := by decide +kernel
theorem dX12_readWrong_59 : decode cX12_readWrong 59 = .ok (.iadd, 1) := by decide +kernel
theorem dX12_readWrong_60 : decode cX12_readWrong 60 = .ok (.aload_n 0, 1) := by decide +kernel
theorem dX12_readWrong_61 : decode cX12_readWrong 61 = .ok (.aload_n 0, 1) := by decide +kernel
theorem dX12_readWrong_62 : decode cX12_readWrong 62 = .ok (.getfield 89, 3) := by decide +kernel
theorem dX12_readWrong_65 : decode cX12_readWrong 65 = .ok (.iload_n 2, 1) := by decide +kernel
theorem dX12_readWrong_66 : decode cX12_readWrong 66 = .ok (.iaload, 1) := by decide +kernel
theorem dX12_readWrong_67 : decode cX12_readWrong 67 = .ok (.iconst 0, 1) := by decide +kernel
theorem dX12_readWrong_68 : decode cX12_readWrong 68 = .ok (.invokevirtual 262, 3) := by decide +kernel
theorem dX12_readWrong_71 : decode cX12_readWrong 71 = .ok (.iastore, 1) := by decide +kernel
theorem dX12_readWrong_72 : decode cX12_readWrong 72 = .ok (.aload_n 0, 1) := by decide +kernel
theorem dX12_readWrong_73 : decode cX12_readWrong 73 = .ok (.getfield 89, 3) := by decide +kernel
theorem dX12_readWrong_76 : decode cX12_readWrong 76 = .ok (.iload_n 2, 1) := by decide +kernel
theorem dX12_readWrong_77 : decode cX12_readWrong 77 = .ok (.iconst 2, 1) := by decide +kernel
theorem dX12_readWrong_78 : decode cX12_readWrong 78 = .ok (.iadd, 1) := by decide +kernel
theorem dX12_readWrong_79 : decode cX12_readWrong 79 = .ok (.aload_n 0, 1) := by decide +kernel
theorem dX12_readWrong_80 : decode cX12_readWrong 80 = .ok (.iconst 5, 1) := by decide +kernel
theorem dX12_readWrong_81 : decode cX12_readWrong 81 = .ok (.iconst 1, 1) := by decide +kernel
theorem dX12_readWrong_82 : decode cX12_readWrong 82 = .ok (.bipush 9, 2) := by decide +kernel
theorem dX12_readWrong_84 : decode cX12_readWrong 84 = .ok (.invokevirtual 255, 3) := by decide +kernel
theorem dX12_readWrong_87 : decode cX12_readWrong 87 = .ok (.iastore, 1) := by decide +kernel
theorem dX12_readWrong_88 : decode cX12_readWrong 88 = .ok (.aload_n 0, 1) := by decide +kernel
theorem dX12_readWrong_89 : decode cX12_readWrong 89 = .ok (.getfield 89, 3) := by decide +kernel
theorem dX12_readWrong_92 : decode cX12_readWrong 92 = .ok (.bipush 102, 2) := by decide +kernel
theorem dX12_readWrong_94 : decode cX12_readWrong 94 = .ok (.dup2, 1) := by decide +kernel
theorem dX12_readWrong_95 : decode cX12_readWrong 95 = .ok (.iaload, 1) := by decide +kernel
theorem dX12_readWrong_96 : decode cX12_readWrong 96 = .ok (.iconst 1, 1) := by decide +kernel
theorem dX12_readWrong_97 : decode cX12_readWrong 97 = .ok (.iadd, 1) := by decide +kernel
theorem dX12_readWrong_98 : decode cX12_readWrong 98 = .ok (.iastore, 1) := by decide +kernel
theorem dX12_readWrong_99 : decode cX12_readWrong 99 = .ok (.return_, 1) := by decide +kernel
theorem dX12_readWalk_0 : decode cX12_readWalk 0 = .ok (.aload_n 0, 1) := by decide +kernel
theorem dX12_readWalk_1 : decode cX12_readWalk 1 = .ok (.getfield 89, 3) := by decide +kernel
theorem dX12_readWalk_4 : decode cX12_readWalk 4 = .ok (.bipush 103, 2) := by decide +kernel
theorem dX12_readWalk_6 : decode cX12_readWalk 6 = .ok (.iaload, 1) := by decide +kernel
theorem dX12_readWalk_7 : decode cX12_readWalk 7 = .ok (.istore_n 1, 1) := by decide +kernel
theorem dX12_readWalk_8 : decode cX12_readWalk 8 = .ok (.iload_n 1, 1) := by decide +kernel
theorem dX12_readWalk_9 : decode cX12_readWalk 9 = .ok (.iconst 4, 1) := by decide +kernel
theorem dX12_readWalk_10 : decode cX12_readWalk 10 = .ok (.if_icmp .ne 9, 3) := by decide +kernel
theorem dX12_readWalk_13 : decode cX12_readWalk 13 = .ok (.aload_n 0, 1) := by decide +kernel
theorem dX12_readWalk_14 : decode cX12_readWalk 14 = .ok (.iconst 5, 1) := by decide +kernel
theorem dX12_readWalk_15 : decode cX12_readWalk 15 = .ok (.invokevirtual 189, 3) := by decide +kernel
theorem dX12_readWalk_18 : decode cX12_readWalk 18 = .ok (.return_, 1) := by decide +kernel
theorem dX12_readWalk_19 : decode cX12_readWalk 19 = .ok (.aload_n 0, 1) := by decide +kernel
theorem dX12_readWalk_20 : decode cX12_readWalk 20 = .ok (.dup, 1) := by decide +kernel
