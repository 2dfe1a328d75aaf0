set_option maxRecDepth 100000 in
theorem lL_21 : mi_lv RL 21 mX11_feed 3 11 := ⟨omX11_feed.1, ⟨mi_in 532 (by decide +kernel) rfl, omX11_feed.2.1⟩, omX11_feed.2.2⟩
set_option maxRecDepth 100000 in
theorem lX11_75 : mi_lv RX11 75 mX6_append 1 6 := ⟨omX6_append.1, ⟨mi_in 536 (by decide +kernel) rfl, omX6_append.2.1⟩, omX6_append.2.2⟩
set_option maxRecDepth 100000 in
theorem lL_26 : mi_lv RL 26 mX11_town 0 11 := ⟨omX11_town.1, ⟨mi_in 544 (by decide +kernel) rfl, omX11_town.2.1⟩, omX11_town.2.2⟩
set_option maxRecDepth 100000 in
theorem lX11_85 : mi_lv RX11 85 mX7_readTown 1 7 := ⟨omX7_readTown.1, ⟨mi_in 548 (by decide +kernel) rfl, omX7_readTown.2.1⟩, omX7_readTown.2.2⟩
set_option maxRecDepth 100000 in
theorem lX7_18 : mi_lv RX7 18 mX8_clear 0 8 := ⟨omX8_clear.1, ⟨mi_in 552 (by decide +kernel) rfl, omX8_clear.2.1⟩, omX8_clear.2.2⟩
set_option maxRecDepth 100000 in
theorem lX8_61 : mi_lv RX8 61 mX1_clear 0 1 := ⟨omX1_clear.1, ⟨mi_in 556 (by decide +kernel) rfl, omX1_clear.2.1⟩, omX1_clear.2.2⟩
set_option maxRecDepth 100000 in
theorem lX1_28 : mi_lv RX1 28 mX1_begin 1 1 := ⟨omX1_begin.1, ⟨mi_in 560 (by decide +kernel) rfl, omX1_begin.2.1⟩, omX1_begin.2.2⟩
set_option maxRecDepth 100000 in
theorem lX1_32 : mi_lv RX1 32 mX1_put 1 1 := ⟨omX1_put.1, ⟨mi_in 564 (by decide +kernel) rfl, omX1_put.2.1⟩, omX1_put.2.2⟩
set_option maxRecDepth 100000 in
theorem lX1_35 : mi_lv RX1 35 mX1_end 1 1 := ⟨omX1_end.1, ⟨mi_in 568 (by decide +kernel) rfl, omX1_end.2.1⟩, omX1_end.2.2⟩
set_option maxRecDepth 100000 in
theorem lX8_64 : mi_lv RX8 64 mX9_clear 0 9 := ⟨omX9_clear.1, ⟨mi_in 572 (by decide +kernel) rfl, omX9_clear.2.1⟩, omX9_clear.2.2⟩
set_option maxRecDepth 100000 in
theorem lX7_27 : mi_lv RX7 27 mX6_rewind 0 6 := ⟨omX6_rewind.1, ⟨mi_in 576 (by decide +kernel) rfl, omX6_rewind.2.1⟩, omX6_rewind.2.2⟩
set_option maxRecDepth 100000 in
theorem lX6_28 : mi_lv RX6 28 mX6_advance 0 6 := ⟨omX6_advance.1, ⟨mi_in 580 (by decide +kernel) rfl, omX6_advance.2.1⟩, omX6_advance.2.2⟩
set_option maxRecDepth 100000 in
theorem lX6_44 : mi_lv RX6 44 mX6_takeWord 0 6 := ⟨omX6_takeWord.1, ⟨mi_in 584 (by decide +kernel) rfl, omX6_takeWord.2.1⟩, omX6_takeWord.2.2⟩
set_option maxRecDepth 100000 in
theorem lX6_47 : mi_lv RX6 47 mX6_takeNumber 0 6 := ⟨omX6_takeNumber.1, ⟨mi_in 590 (by decide +kernel) rfl, omX6_takeNumber.2.1⟩, omX6_takeNumber.2.2⟩
set_option maxRecDepth 100000 in
theorem lJ0_637 : mi_ls RJ0 637 mJ1_indexOf_4cfef 4 := ⟨⟨mi_in 617 (by decide +kernel) rfl, omJ1_indexOf_4cfef.1⟩, omJ1_indexOf_4cfef.2⟩
set_option maxRecDepth 100000 in
theorem lJ1_88 : mi_ls RJ1 88 mJ1_canEncode_9a6ad 1 := ⟨⟨mi_in 620 (by decide +kernel) rfl, omJ1_canEncode_9a6ad.1⟩, omJ1_canEncode_9a6ad.2⟩
set_option maxRecDepth 100000 in
theorem lJ1_95 : mi_ls RJ1 95 mJ1_indexOfChar_4cfef 4 := ⟨⟨mi_in 629 (by decide +kernel) rfl, omJ1_indexOfChar_4cfef.1⟩, omJ1_indexOfChar_4cfef.2⟩
set_option maxRecDepth 100000 in
theorem lJ0_640 : mi_ls RJ0 640 mJ2_indexOf_4cfef 4 := ⟨⟨mi_in 632 (by decide +kernel) rfl, omJ2_indexOf_4cfef.1⟩, omJ2_indexOf_4cfef.2⟩
set_option maxRecDepth 100000 in
theorem lJ2_228 : mi_ls RJ2 228 mJ2_indexOfChar_4cfef 4 := ⟨⟨mi_in 638 (by decide +kernel) rfl, omJ2_indexOfChar_4cfef.1⟩, omJ2_indexOfChar_4cfef.2⟩
set_option maxRecDepth 100000 in
theorem lJ2_96 : mi_ls RJ2 96 mJ2_checkBoundsBeginEnd_d044e 3 := ⟨⟨mi_in 641 (by decide +kernel) rfl, omJ2_checkBoundsBeginEnd_d044e.1⟩, omJ2_checkBoundsBeginEnd_d044e.2⟩
set_option maxRecDepth 100000 in
theorem lJ2_48 : mi_ls RJ2 48 mJ2_length_9d52b 1 := ⟨⟨mi_in 644 (by decide +kernel) rfl, omJ2_length_9d52b.1⟩, omJ2_length_9d52b.2⟩
set_option maxRecDepth 100000 in
theorem lJ2_241 : mi_ls RJ2 241 mJ0_checkBoundsBeginEnd_23922 3 := ⟨⟨mi_in 647 (by decide +kernel) rfl, omJ0_checkBoundsBeginEnd_23922.1⟩, omJ0_checkBoundsBeginEnd_23922.2⟩
set_option maxRecDepth 100000 in
theorem lJ2_244 : mi_ls RJ2 244 mJ2_indexOfCharUnsafe_4cfef 4 := ⟨⟨mi_in 655 (by decide +kernel) rfl, omJ2_indexOfCharUnsafe_4cfef.1⟩, omJ2_indexOfCharUnsafe_4cfef.2⟩
set_option maxRecDepth 100000 in
theorem lJ2_71 : mi_ls RJ2 71 mJ2_getChar_3b067 2 := ⟨⟨mi_in 658 (by decide +kernel) rfl, omJ2_getChar_3b067.1⟩, omJ2_getChar_3b067.2⟩
set_option maxRecDepth 100000 in
theorem lJ2_232 : mi_ls RJ2 232 mJ2_indexOfSupplementary_4cfef 4 := ⟨⟨mi_in 667 (by decide +kernel) rfl, omJ2_indexOfSupplementary_4cfef.1⟩, omJ2_indexOfSupplementary_4cfef.2⟩
set_option maxRecDepth 100000 in
theorem lJ2_164 : mi_ls RJ2 164 mJ11_isValidCodePoint_9a6ad 1 := ⟨⟨mi_in 670 (by decide +kernel) rfl, omJ11_isValidCodePoint_9a6ad.1⟩, omJ11_isValidCodePoint_9a6ad.2⟩
set_option maxRecDepth 100000 in
theorem lJ2_157 : mi_ls RJ2 157 mJ11_highSurrogate_5068e 1 := ⟨⟨mi_in 673 (by decide +kernel) rfl, omJ11_highSurrogate_5068e.1⟩, omJ11_highSurrogate_5068e.2⟩
set_option maxRecDepth 100000 in
theorem lJ2_161 : mi_ls RJ2 161 mJ11_lowSurrogate_5068e 1 := ⟨⟨mi_in 677 (by decide +kernel) rfl, omJ11_lowSurrogate_5068e.1⟩, omJ11_lowSurrogate_5068e.2⟩
set_option maxRecDepth 100000 in
theorem lX7_35 : mi_lv RX7 35 mX6_among 1 6 := ⟨omX6_among.1, ⟨mi_in 682 (by decide +kernel) rfl, omX6_among.2.1⟩, omX6_among.2.2⟩
set_option maxRecDepth 100000 in
theorem lJ0_495 : mi_ls RJ0 495 mJ1_charAt_3b067 2 := ⟨⟨mi_in 691 (by decide +kernel) rfl, omJ1_charAt_3b067.1⟩, omJ1_charAt_3b067.2⟩
set_option maxRecDepth 100000 in
theorem lJ1_9 : mi_ls RJ1 9 mJ0_checkIndex_df160 2 := ⟨⟨mi_in 694 (by decide +kernel) rfl, omJ0_checkIndex_df160.1⟩, omJ0_checkIndex_df160.2⟩
set_option maxRecDepth 100000 in
theorem lJ0_498 : mi_ls RJ0 498 mJ2_charAt_3b067 2 := ⟨⟨mi_in 700 (by decide +kernel) rfl, omJ2_charAt_3b067.1⟩, omJ2_charAt_3b067.2⟩
set_option maxRecDepth 100000 in
theorem lJ2_67 : mi_ls RJ2 67 mJ2_checkIndex_2214a 2 := ⟨⟨mi_in 703 (by decide +kernel) rfl, omJ2_checkIndex_2214a.1⟩, omJ2_checkIndex_2214a.2⟩
set_option maxRecDepth 100000 in
theorem lJ2_414 : mi_ls RJ2 414 mJ0_checkIndex_df160 2 := ⟨⟨mi_in 706 (by decide +kernel) rfl, omJ0_checkIndex_df160.1⟩, omJ0_checkIndex_df160.2⟩
set_option maxRecDepth 100000 in
theorem lX7_39 : mi_lv RX7 39 mX7_fail 1 7 := ⟨omX7_fail.1, ⟨mi_in 707 (by decide +kernel) rfl, omX7_fail.2.1⟩, omX7_fail.2.2⟩
set_option maxRecDepth 100000 in
theorem lX7_43 : mi_lv RX7 43 mX7_readPerson 1 7 := ⟨omX7_readPerson.1, ⟨mi_in 711 (by decide +kernel) rfl, omX7_readPerson.2.1⟩, omX7_readPerson.2.2⟩
set_option maxRecDepth 100000 in
theorem lX7_75 : mi_lv RX7 75 mX6_advance 0 6 := ⟨omX6_advance.1, ⟨mi_in 715 (by decide +kernel) rfl, omX6_advance.2.1⟩, omX6_advance.2.2⟩
set_option maxRecDepth 100000 in
theorem lX7_78 : mi_lv RX7 78 mX7_isName 0 7 := ⟨omX7_isName.1, ⟨mi_in 716 (by decide +kernel) rfl, omX7_isName.2.1⟩, omX7_isName.2.2⟩
set_option maxRecDepth 100000 in
theorem lX7_86 : mi_lv RX7 86 mX8_personNamed 1 8 := ⟨omX8_personNamed.1, ⟨mi_in 724 (by decide +kernel) rfl, omX8_personNamed.2.1⟩, omX8_personNamed.2.2⟩
set_option maxRecDepth 100000 in
theorem lX7_94 : mi_lv RX7 94 mX7_pass 1 7 := ⟨omX7_pass.1, ⟨mi_in 729 (by decide +kernel) rfl, omX7_pass.2.1⟩, omX7_pass.2.2⟩
set_option maxRecDepth 100000 in
theorem lX7_101 : mi_lv RX7 101 mX7_passNumber 2 7 := ⟨omX7_passNumber.1, ⟨mi_in 733 (by decide +kernel) rfl, omX7_passNumber.2.1⟩, omX7_passNumber.2.2⟩
set_option maxRecDepth 100000 in
theorem lX7_105 : mi_lv RX7 105 mX8_addPerson 3 8 := ⟨omX8_addPerson.1, ⟨mi_in 738 (by decide +kernel) rfl, omX8_addPerson.2.1⟩, omX8_addPerson.2.2⟩
set_option maxRecDepth 100000 in
theorem lX7_109 : mi_lv RX7 109 mX7_passSign 1 7 := ⟨omX7_passSign.1, ⟨mi_in 742 (by decide +kernel) rfl, omX7_passSign.2.1⟩, omX7_passSign.2.2⟩
set_option maxRecDepth 100000 in
theorem lX7_188 : mi_lv RX7 188 mX6_isSign 1 6 := ⟨omX6_isSign.1, ⟨mi_in 746 (by decide +kernel) rfl, omX6_isSign.2.1⟩, omX6_isSign.2.2⟩
set_option maxRecDepth 100000 in
theorem lX7_47 : mi_lv RX7 47 mX7_readLane 1 7 := ⟨omX7_readLane.1, ⟨mi_in 750 (by decide +kernel) rfl, omX7_readLane.2.1⟩, omX7_readLane.2.2⟩
set_option maxRecDepth 100000 in
theorem lX7_113 : mi_lv RX7 113 mX7_passDoor 2 7 := ⟨omX7_passDoor.1, ⟨mi_in 754 (by decide +kernel) rfl, omX7_passDoor.2.1⟩, omX7_passDoor.2.2⟩
set_option maxRecDepth 100000 in
theorem lX7_120 : mi_lv RX7 120 mX9_hasLane 2 9 := ⟨omX9_hasLane.1, ⟨mi_in 758 (by decide +kernel) rfl, omX9_hasLane.2.1⟩, omX9_hasLane.2.2⟩
set_option maxRecDepth 100000 in
theorem lX7_125 : mi_lv RX7 125 mX9_addLane 3 9 := ⟨omX9_addLane.1, ⟨mi_in 762 (by decide +kernel) rfl, omX9_addLane.2.1⟩, omX9_addLane.2.2⟩
set_option maxRecDepth 100000 in
theorem lX7_50 : mi_lv RX7 50 mX7_readWrong 1 7 := ⟨omX7_readWrong.1, ⟨mi_in 766 (by decide +kernel) rfl, omX7_readWrong.2.1⟩, omX7_readWrong.2.2⟩
set_option maxRecDepth 100000 in
theorem lX7_136 : mi_lv RX7 136 mX8_addWrong 3 8 := ⟨omX8_addWrong.1, ⟨mi_in 772 (by decide +kernel) rfl, omX8_addWrong.2.1⟩, omX8_addWrong.2.2⟩
set_option maxRecDepth 100000 in
theorem lX7_53 : mi_lv RX7 53 mX7_readWalk 1 7 := ⟨omX7_readWalk.1, ⟨mi_in 776 (by decide +kernel) rfl, omX7_readWalk.2.1⟩, omX7_readWalk.2.2⟩
set_option maxRecDepth 100000 in
theorem lX7_142 : mi_lv RX7 142 mX9_addWalk 2 9 := ⟨omX9_addWalk.1, ⟨mi_in 780 (by decide +kernel) rfl, omX9_addWalk.2.1⟩, omX9_addWalk.2.2⟩
set_option maxRecDepth 100000 in
theorem lX7_56 : mi_lv RX7 56 mX7_readOnce 2 7 := ⟨omX7_readOnce.1, ⟨mi_in 784 (by decide +kernel) rfl, omX7_readOnce.2.1⟩, omX7_readOnce.2.2⟩
set_option maxRecDepth 100000 in
theorem lX7_162 : mi_lv RX7 162 mX1_begin 1 1 := ⟨omX1_begin.1, ⟨mi_in 791 (by decide +kernel) rfl, omX1_begin.2.1⟩, omX1_begin.2.2⟩
set_option maxRecDepth 100000 in
theorem lX7_168 : mi_lv RX7 168 mX7_readTerm 3 7 := ⟨omX7_readTerm.1, ⟨mi_in 792 (by decide +kernel) rfl, omX7_readTerm.2.1⟩, omX7_readTerm.2.2⟩
set_option maxRecDepth 100000 in
theorem lX7_175 : mi_lv RX7 175 mX7_readPart 2 7 := ⟨omX7_readPart.1, ⟨mi_in 796 (by decide +kernel) rfl, omX7_readPart.2.1⟩, omX7_readPart.2.2⟩
set_option maxRecDepth 100000 in
theorem lX7_183 : mi_lv RX7 183 mX1_put 1 1 := ⟨omX1_put.1, ⟨mi_in 802 (by decide +kernel) rfl, omX1_put.2.1⟩, omX1_put.2.2⟩
set_option maxRecDepth 100000 in
theorem lX7_179 : mi_lv RX7 179 mX7_joiner 1 7 := ⟨omX7_joiner.1, ⟨mi_in 803 (by decide +kernel) rfl, omX7_joiner.2.1⟩, omX7_joiner.2.2⟩
set_option maxRecDepth 100000 in
theorem lX7_172 : mi_lv RX7 172 mX1_end 1 1 := ⟨omX1_end.1, ⟨mi_in 808 (by decide +kernel) rfl, omX1_end.2.1⟩, omX1_end.2.2⟩
set_option maxRecDepth 100000 in
theorem lX11_92 : mi_lv RX11 92 mX5_begin 1 5 := ⟨omX5_begin.1, ⟨mi_in 809 (by decide +kernel) rfl, omX5_begin.2.1⟩, omX5_begin.2.2⟩
set_option maxRecDepth 100000 in
theorem lX11_96 : mi_lv RX11 96 mX3_forget 0 3 := ⟨omX3_forget.1, ⟨mi_in 813 (by decide +kernel) rfl, omX3_forget.2.1⟩, omX3_forget.2.2⟩
set_option maxRecDepth 100000 in
theorem lL_31 : mi_lv RL 31 mX11_year 0 11 := ⟨omX11_year.1, ⟨mi_in 817 (by decide +kernel) rfl, omX11_year.2.1⟩, omX11_year.2.2⟩
set_option maxRecDepth 100000 in
theorem lX11_105 : mi_lv RX11 105 mX7_readYear 2 7 := ⟨omX7_readYear.1, ⟨mi_in 821 (by decide +kernel) rfl, omX7_readYear.2.1⟩, omX7_readYear.2.2⟩
set_option maxRecDepth 100000 in
theorem lX7_68 : mi_lv RX7 68 mX7_readYearLine 2 7 := ⟨omX7_readYearLine.1, ⟨mi_in 825 (by decide +kernel) rfl, omX7_readYearLine.2.1⟩, omX7_readYearLine.2.2⟩
set_option maxRecDepth 100000 in
theorem lX7_197 : mi_lv RX7 197 mX10_add 3 10 := ⟨omX10_add.1, ⟨mi_in 829 (by decide +kernel) rfl, omX10_add.2.1⟩, omX10_add.2.2⟩
set_option maxRecDepth 100000 in
theorem lL_35 : mi_lv RL 35 mX11_person 2 11 := ⟨omX11_person.1, ⟨mi_in 833 (by decide +kernel) rfl, omX11_person.2.1⟩, omX11_person.2.2⟩
set_option maxRecDepth 100000 in
theorem lX11_109 : mi_lv RX11 109 mX8_hasPerson 1 8 := ⟨omX8_hasPerson.1, ⟨mi_in 837 (by decide +kernel) rfl, omX8_hasPerson.2.1⟩, omX8_hasPerson.2.2⟩
set_option maxRecDepth 100000 in
theorem lL_40 : mi_lv RL 40 mX11_wrong 2 11 := ⟨omX11_wrong.1, ⟨mi_in 842 (by decide +kernel) rfl, omX11_wrong.2.1⟩, omX11_wrong.2.2⟩
set_option maxRecDepth 100000 in
theorem lX11_123 : mi_lv RX11 123 mX8_hasWrong 1 8 := ⟨omX8_hasWrong.1, ⟨mi_in 846 (by decide +kernel) rfl, omX8_hasWrong.2.1⟩, omX8_hasWrong.2.2⟩
set_option maxRecDepth 100000 in
theorem lX11_138 : mi_lv RX11 138 mX5_isForgiven 1 5 := ⟨omX5_isForgiven.1, ⟨mi_in 850 (by decide +kernel) rfl, omX5_isForgiven.2.1⟩, omX5_isForgiven.2.2⟩
set_option maxRecDepth 100000 in
theorem lX11_141 : mi_lv RX11 141 mX5_isSaid 1 5 := ⟨omX5_isSaid.1, ⟨mi_in 855 (by decide +kernel) rfl, omX5_isSaid.2.1⟩, omX5_isSaid.2.2⟩
set_option maxRecDepth 100000 in
theorem lX11_144 : mi_lv RX11 144 mX8_barOf 1 8 := ⟨omX8_barOf.1, ⟨mi_in 859 (by decide +kernel) rfl, omX8_barOf.2.1⟩, omX8_barOf.2.2⟩
set_option maxRecDepth 100000 in
theorem lL_44 : mi_lv RL 44 mX11_lamps 0 11 := ⟨omX11_lamps.1, ⟨mi_in 863 (by decide +kernel) rfl, omX11_lamps.2.1⟩, omX11_lamps.2.2⟩
set_option maxRecDepth 100000 in
theorem lX11_148 : mi_lv RX11 148 mX5_burningBehind 1 5 := ⟨omX5_burningBehind.1, ⟨mi_in 867 (by decide +kernel) rfl, omX5_burningBehind.2.1⟩, omX5_burningBehind.2.2⟩
set_option maxRecDepth 100000 in
theorem lL_48 : mi_lv RL 48 mX11_dark 3 11 := ⟨omX11_dark.1, ⟨mi_in 871 (by decide +kernel) rfl, omX11_dark.2.1⟩, omX11_dark.2.2⟩
set_option maxRecDepth 100000 in
theorem lX11_151 : mi_lv RX11 151 mX8_hasTwoDoors 2 8 := ⟨omX8_hasTwoDoors.1, ⟨mi_in 875 (by decide +kernel) rfl, omX8_hasTwoDoors.2.1⟩, omX8_hasTwoDoors.2.2⟩
set_option maxRecDepth 100000 in
theorem lX8_69 : mi_lv RX8 69 mX8_hasPerson 1 8 := ⟨omX8_hasPerson.1, ⟨mi_in 879 (by decide +kernel) rfl, omX8_hasPerson.2.1⟩, omX8_hasPerson.2.2⟩
set_option maxRecDepth 100000 in
theorem lX11_155 : mi_ls RX11 155 mX11_isWithin 3 := ⟨⟨mi_in 880 (by decide +kernel) rfl, omX11_isWithin.1⟩, omX11_isWithin.2⟩
set_option maxRecDepth 100000 in
theorem lX11_163 : mi_lv RX11 163 mX9_isThere 3 9 := ⟨omX9_isThere.1, ⟨mi_in 881 (by decide +kernel) rfl, omX9_isThere.2.1⟩, omX9_isThere.2.2⟩
set_option maxRecDepth 100000 in
theorem lX9_37 : mi_lv RX9 37 mX9_costOf 3 9 := ⟨omX9_costOf.1, ⟨mi_in 885 (by decide +kernel) rfl, omX9_costOf.2.1⟩, omX9_costOf.2.2⟩
set_option maxRecDepth 100000 in
theorem lX9_58 : mi_lv RX9 58 mX9_measure 1 9 := ⟨omX9_measure.1, ⟨mi_in 889 (by decide +kernel) rfl, omX9_measure.2.1⟩, omX9_measure.2.2⟩
set_option maxRecDepth 100000 in
theorem lX9_42 : mi_lv RX9 42 mX9_laneCost 3 9 := ⟨omX9_laneCost.1, ⟨mi_in 893 (by decide +kernel) rfl, omX9_laneCost.2.1⟩, omX9_laneCost.2.2⟩
set_option maxRecDepth 100000 in
theorem lX11_168 : mi_lv RX11 168 mX9_darkOf 3 9 := ⟨omX9_darkOf.1, ⟨mi_in 899 (by decide +kernel) rfl, omX9_darkOf.2.1⟩, omX9_darkOf.2.2⟩
set_option maxRecDepth 100000 in
theorem lX11_172 : mi_lv RX11 172 mX9_minutesOf 3 9 := ⟨omX9_minutesOf.1, ⟨mi_in 903 (by decide +kernel) rfl, omX9_minutesOf.2.1⟩, omX9_minutesOf.2.2⟩
set_option maxRecDepth 100000 in
theorem lX11_175 : mi_lv RX11 175 mX9_firstDoor 3 9 := ⟨omX9_firstDoor.1, ⟨mi_in 907 (by decide +kernel) rfl, omX9_firstDoor.2.1⟩, omX9_firstDoor.2.2⟩
set_option maxRecDepth 100000 in
theorem lL_52 : mi_lv RL 52 mX11_harm 0 11 := ⟨omX11_harm.1, ⟨mi_in 911 (by decide +kernel) rfl, omX11_harm.2.1⟩, omX11_harm.2.2⟩
set_option maxRecDepth 100000 in
theorem lX11_178 : mi_lv RX11 178 mX9_harmBy 1 9 := ⟨omX9_harmBy.1, ⟨mi_in 915 (by decide +kernel) rfl, omX9_harmBy.2.1⟩, omX9_harmBy.2.2⟩
set_option maxRecDepth 100000 in
theorem lX9_45 : mi_ls RX9 45 mX9_darkOrHarm 1 := ⟨⟨mi_in 919 (by decide +kernel) rfl, omX9_darkOrHarm.1⟩, omX9_darkOrHarm.2⟩
set_option maxRecDepth 100000 in
theorem lL_56 : mi_lv RL 56 mX11_say 1 11 := ⟨omX11_say.1, ⟨mi_in 922 (by decide +kernel) rfl, omX11_say.2.1⟩, omX11_say.2.2⟩
set_option maxRecDepth 100000 in
theorem lX11_181 : mi_lv RX11 181 mX11_doByHand 3 11 := ⟨omX11_doByHand.1, ⟨mi_in 926 (by decide +kernel) rfl, omX11_doByHand.2.1⟩, omX11_doByHand.2.2⟩
set_option maxRecDepth 100000 in
theorem lX11_194 : mi_lv RX11 194 mX5_may 4 5 := ⟨omX5_may.1, ⟨mi_in 930 (by decide +kernel) rfl, omX5_may.2.1⟩, omX5_may.2.2⟩
set_option maxRecDepth 100000 in
theorem lX5_56 : mi_lv RX5 56 mX5_isForgiven 1 5 := ⟨omX5_isForgiven.1, ⟨mi_in 934 (by decide +kernel) rfl, omX5_isForgiven.2.1⟩, omX5_isForgiven.2.2⟩
set_option maxRecDepth 100000 in
theorem lX5_64 : mi_lv RX5 64 mX5_isSaid 1 5 := ⟨omX5_isSaid.1, ⟨mi_in 935 (by decide +kernel) rfl, omX5_isSaid.2.1⟩, omX5_isSaid.2.2⟩
set_option maxRecDepth 100000 in
theorem lX11_187 : mi_lv RX11 187 mX3_keep 1 3 := ⟨omX3_keep.1, ⟨mi_in 936 (by decide +kernel) rfl, omX3_keep.2.1⟩, omX3_keep.2.2⟩
set_option maxRecDepth 100000 in
theorem lX3_38 : mi_lv RX3 38 mX5_become 1 5 := ⟨omX5_become.1, ⟨mi_in 940 (by decide +kernel) rfl, omX5_become.2.1⟩, omX5_become.2.2⟩
set_option maxRecDepth 100000 in
theorem lX11_198 : mi_lv RX11 198 mX5_act 4 5 := ⟨omX5_act.1, ⟨mi_in 948 (by decide +kernel) rfl, omX5_act.2.1⟩, omX5_act.2.2⟩
set_option maxRecDepth 100000 in
theorem lX5_70 : mi_lv RX5 70 mX8_soreBehindWords 3 8 := ⟨omX8_soreBehindWords.1, ⟨mi_in 952 (by decide +kernel) rfl, omX8_soreBehindWords.2.1⟩, omX8_soreBehindWords.2.2⟩
set_option maxRecDepth 100000 in
theorem lX8_73 : mi_lv RX8 73 mX1_worth 4 1 := ⟨omX1_worth.1, ⟨mi_in 956 (by decide +kernel) rfl, omX1_worth.2.1⟩, omX1_worth.2.2⟩
set_option maxRecDepth 100000 in
theorem lX1_38 : mi_ls RX1 38 mX1_fact 4 := ⟨⟨mi_in 960 (by decide +kernel) rfl, omX1_fact.1⟩, omX1_fact.2⟩
set_option maxRecDepth 100000 in
theorem lX1_42 : mi_ls RX1 42 mX1_truth 1 := ⟨⟨mi_in 963 (by decide +kernel) rfl, omX1_truth.1⟩, omX1_truth.2⟩
set_option maxRecDepth 100000 in
theorem lX1_46 : mi_ls RX1 46 mX1_joined 3 := ⟨⟨mi_in 966 (by decide +kernel) rfl, omX1_joined.1⟩, omX1_joined.2⟩
set_option maxRecDepth 100000 in
theorem lX5_83 : mi_lv RX5 83 mX5_beg 3 5 := ⟨omX5_beg.1, ⟨mi_in 976 (by decide +kernel) rfl, omX5_beg.2.1⟩, omX5_beg.2.2⟩
set_option maxRecDepth 100000 in
theorem lX5_91 : mi_lv RX5 91 mX5_isRipe 2 5 := ⟨omX5_isRipe.1, ⟨mi_in 980 (by decide +kernel) rfl, omX5_isRipe.2.1⟩, omX5_isRipe.2.2⟩
set_option maxRecDepth 100000 in
theorem lX5_60 : mi_lv RX5 60 mX8_barOf 1 8 := ⟨omX8_barOf.1, ⟨mi_in 984 (by decide +kernel) rfl, omX8_barOf.2.1⟩, omX8_barOf.2.2⟩
set_option maxRecDepth 100000 in
theorem lX5_95 : mi_lv RX5 95 mX8_burnsLonger 3 8 := ⟨omX8_burnsLonger.1, ⟨mi_in 985 (by decide +kernel) rfl, omX8_burnsLonger.2.1⟩, omX8_burnsLonger.2.2⟩
set_option maxRecDepth 100000 in
theorem lX5_101 : mi_lv RX5 101 mX8_soreBehindRefusal 2 8 := ⟨omX8_soreBehindRefusal.1, ⟨mi_in 990 (by decide +kernel) rfl, omX8_soreBehindRefusal.2.1⟩, omX8_soreBehindRefusal.2.2⟩
set_option maxRecDepth 100000 in
theorem lX5_87 : mi_lv RX5 87 mX5_sleep 1 5 := ⟨omX5_sleep.1, ⟨mi_in 995 (by decide +kernel) rfl, omX5_sleep.2.1⟩, omX5_sleep.2.2⟩
set_option maxRecDepth 100000 in
theorem lX5_108 : mi_lv RX5 108 mX5_burningBehind 1 5 := ⟨omX5_burningBehind.1, ⟨mi_in 999 (by decide +kernel) rfl, omX5_burningBehind.2.1⟩, omX5_burningBehind.2.2⟩
set_option maxRecDepth 100000 in
theorem lX5_111 : mi_lv RX5 111 mX9_harmBy 1 9 := ⟨omX9_harmBy.1, ⟨mi_in 1000 (by decide +kernel) rfl, omX9_harmBy.2.1⟩, omX9_harmBy.2.2⟩
set_option maxRecDepth 100000 in
theorem lX5_116 : mi_lv RX5 116 mX8_soreBehindNight 3 8 := ⟨omX8_soreBehindNight.1, ⟨mi_in 1001 (by decide +kernel) rfl, omX8_soreBehindNight.2.1⟩, omX8_soreBehindNight.2.2⟩
set_option maxRecDepth 100000 in
theorem lL_61 : mi_lv RL 61 mX11_give 2 11 := ⟨omX11_give.1, ⟨mi_in 1005 (by decide +kernel) rfl, omX11_give.2.1⟩, omX11_give.2.2⟩
set_option maxRecDepth 100000 in
theorem lL_65 : mi_lv RL 65 mX11_ask 1 11 := ⟨omX11_ask.1, ⟨mi_in 1009 (by decide +kernel) rfl, omX11_ask.2.1⟩, omX11_ask.2.2⟩
set_option maxRecDepth 100000 in
theorem lL_69 : mi_lv RL 69 mX11_night 0 11 := ⟨omX11_night.1, ⟨mi_in 1013 (by decide +kernel) rfl, omX11_night.2.1⟩, omX11_night.2.2⟩
set_option maxRecDepth 100000 in
theorem lX11_191 : mi_lv RX11 191 mX5_sleep 1 5 := ⟨omX5_sleep.1, ⟨mi_in 1017 (by decide +kernel) rfl, omX5_sleep.2.1⟩, omX5_sleep.2.2⟩
set_option maxRecDepth 100000 in
theorem lL_73 : mi_lv RL 73 mX11_undo 0 11 := ⟨omX11_undo.1, ⟨mi_in 1018 (by decide +kernel) rfl, omX11_undo.2.1⟩, omX11_undo.2.2⟩
set_option maxRecDepth 100000 in
theorem lX11_202 : mi_lv RX11 202 mX3_stepBack 1 3 := ⟨omX3_stepBack.1, ⟨mi_in 1022 (by decide +kernel) rfl, omX3_stepBack.2.1⟩, omX3_stepBack.2.2⟩
set_option maxRecDepth 100000 in
theorem lL_78 : mi_lv RL 78 mX11_judged 1 11 := ⟨omX11_judged.1, ⟨mi_in 1026 (by decide +kernel) rfl, omX11_judged.2.1⟩, omX11_judged.2.2⟩
set_option maxRecDepth 100000 in
theorem lX11_206 : mi_lv RX11 206 mX0_judge 3 0 := ⟨omX0_judge.1, ⟨mi_in 1030 (by decide +kernel) rfl, omX0_judge.2.1⟩, omX0_judge.2.2⟩
set_option maxRecDepth 100000 in
theorem lX0_29 : mi_lv RX0 29 mX5_begin 1 5 := ⟨omX5_begin.1, ⟨mi_in 1034 (by decide +kernel) rfl, omX5_begin.2.1⟩, omX5_begin.2.2⟩
set_option maxRecDepth 100000 in
theorem lX0_48 : mi_lv RX0 48 mX5_may 4 5 := ⟨omX5_may.1, ⟨mi_in 1035 (by decide +kernel) rfl, omX5_may.2.1⟩, omX5_may.2.2⟩
set_option maxRecDepth 100000 in
theorem lX0_52 : mi_lv RX0 52 mX5_act 4 5 := ⟨omX5_act.1, ⟨mi_in 1036 (by decide +kernel) rfl, omX5_act.2.1⟩, omX5_act.2.2⟩
set_option maxRecDepth 100000 in
theorem lX0_59 : mi_ls RX0 59 mJ6_bitCount_0f7a4 1 := ⟨⟨mi_in 1037 (by decide +kernel) rfl, omJ6_bitCount_0f7a4.1⟩, omJ6_bitCount_0f7a4.2⟩
set_option maxRecDepth 100000 in
theorem lL_82 : mi_lv RL 82 mX11_pay 3 11 := ⟨omX11_pay.1, ⟨mi_in 1043 (by decide +kernel) rfl, omX11_pay.2.1⟩, omX11_pay.2.2⟩
set_option maxRecDepth 100000 in
theorem lX11_210 : mi_lv RX11 210 mX2_fewestCoins 5 2 := ⟨omX2_fewestCoins.1, ⟨mi_in 1047 (by decide +kernel) rfl, omX2_fewestCoins.2.1⟩, omX2_fewestCoins.2.2⟩
set_option maxRecDepth 100000 in
theorem lX2_36 : mi_lv RX2 36 mX2_weighPardons 2 2 := ⟨omX2_weighPardons.1, ⟨mi_in 1051 (by decide +kernel) rfl, omX2_weighPardons.2.1⟩, omX2_weighPardons.2.2⟩
set_option maxRecDepth 100000 in
theorem lX2_76 : mi_lv RX2 76 mX8_barOf 1 8 := ⟨omX8_barOf.1, ⟨mi_in 1055 (by decide +kernel) rfl, omX8_barOf.2.1⟩, omX8_barOf.2.2⟩
set_option maxRecDepth 100000 in
theorem lX2_89 : mi_lv RX2 89 mX8_burnsLonger 3 8 := ⟨omX8_burnsLonger.1, ⟨mi_in 1057 (by decide +kernel) rfl, omX8_burnsLonger.2.1⟩, omX8_burnsLonger.2.2⟩
set_option maxRecDepth 100000 in
theorem lX2_51 : mi_lv RX2 51 mX2_areAfforded 3 2 := ⟨omX2_areAfforded.1, ⟨mi_in 1058 (by decide +kernel) rfl, omX2_areAfforded.2.1⟩, omX2_areAfforded.2.2⟩
set_option maxRecDepth 100000 in
theorem lX2_55 : mi_lv RX2 55 mX2_coinsFor 2 2 := ⟨omX2_coinsFor.1, ⟨mi_in 1063 (by decide +kernel) rfl, omX2_coinsFor.2.1⟩, omX2_coinsFor.2.2⟩
set_option maxRecDepth 100000 in
theorem lX2_63 : mi_lv RX2 63 mX2_burningBy 3 2 := ⟨omX2_burningBy.1, ⟨mi_in 1067 (by decide +kernel) rfl, omX2_burningBy.2.1⟩, omX2_burningBy.2.2⟩
set_option maxRecDepth 100000 in
theorem lX2_106 : mi_lv RX2 106 mX5_burningBehind 1 5 := ⟨omX5_burningBehind.1, ⟨mi_in 1071 (by decide +kernel) rfl, omX5_burningBehind.2.1⟩, omX5_burningBehind.2.2⟩
set_option maxRecDepth 100000 in
theorem lX2_67 : mi_lv RX2 67 mX9_isLit 3 9 := ⟨omX9_isLit.1, ⟨mi_in 1072 (by decide +kernel) rfl, omX9_isLit.2.1⟩, omX9_isLit.2.2⟩
set_option maxRecDepth 100000 in
theorem lL_86 : mi_lv RL 86 mX11_when 2 11 := ⟨omX11_when.1, ⟨mi_in 1076 (by decide +kernel) rfl, omX11_when.2.1⟩, omX11_when.2.2⟩
set_option maxRecDepth 100000 in
theorem lX11_214 : mi_lv RX11 214 mX0_bestAsks 4 0 := ⟨omX0_bestAsks.1, ⟨mi_in 1080 (by decide +kernel) rfl, omX0_bestAsks.2.1⟩, omX0_bestAsks.2.2⟩
set_option maxRecDepth 100000 in
theorem lX0_72 : mi_lv RX0 72 mX5_become 1 5 := ⟨omX5_become.1, ⟨mi_in 1085 (by decide +kernel) rfl, omX5_become.2.1⟩, omX5_become.2.2⟩
set_option maxRecDepth 100000 in
theorem lX0_76 : mi_lv RX0 76 mX0_tryAsks 3 0 := ⟨omX0_tryAsks.1, ⟨mi_in 1086 (by decide +kernel) rfl, omX0_tryAsks.2.1⟩, omX0_tryAsks.2.2⟩
set_option maxRecDepth 100000 in
theorem lX0_91 : mi_lv RX0 91 mX5_isForgiven 1 5 := ⟨omX5_isForgiven.1, ⟨mi_in 1091 (by decide +kernel) rfl, omX5_isForgiven.2.1⟩, omX5_isForgiven.2.2⟩
set_option maxRecDepth 100000 in
theorem lX0_95 : mi_lv RX0 95 mX5_beg 3 5 := ⟨omX5_beg.1, ⟨mi_in 1092 (by decide +kernel) rfl, omX5_beg.2.1⟩, omX5_beg.2.2⟩
set_option maxRecDepth 100000 in
theorem lX0_98 : mi_lv RX0 98 mX5_sleep 1 5 := ⟨omX5_sleep.1, ⟨mi_in 1093 (by decide +kernel) rfl, omX5_sleep.2.1⟩, omX5_sleep.2.2⟩
set_option maxRecDepth 100000 in
theorem lL_90 : mi_lv RL 90 mX11_grudges 2 11 := ⟨omX11_grudges.1, ⟨mi_in 1094 (by decide +kernel) rfl, omX11_grudges.2.1⟩, omX11_grudges.2.2⟩
set_option maxRecDepth 100000 in
theorem lL_95 : mi_lv RL 95 mX11_ripe 1 11 := ⟨omX11_ripe.1, ⟨mi_in 1098 (by decide +kernel) rfl, omX11_ripe.2.1⟩, omX11_ripe.2.2⟩
set_option maxRecDepth 100000 in
theorem lX11_218 : mi_lv RX11 218 mX0_nightsUntilRipe 3 0 := ⟨omX0_nightsUntilRipe.1, ⟨mi_in 1102 (by decide +kernel) rfl, omX0_nightsUntilRipe.2.1⟩, omX0_nightsUntilRipe.2.2⟩
set_option maxRecDepth 100000 in
theorem lX0_104 : mi_lv RX0 104 mX8_barOf 1 8 := ⟨omX8_barOf.1, ⟨mi_in 1106 (by decide +kernel) rfl, omX8_barOf.2.1⟩, omX8_barOf.2.2⟩
set_option maxRecDepth 100000 in
theorem lX0_110 : mi_lv RX0 110 mX8_soreBehindNight 3 8 := ⟨omX8_soreBehindNight.1, ⟨mi_in 1107 (by decide +kernel) rfl, omX8_soreBehindNight.2.1⟩, omX8_soreBehindNight.2.2⟩
set_option maxRecDepth 100000 in
theorem lL_99 : mi_lv RL 99 mX11_price 2 11 := ⟨omX11_price.1, ⟨mi_in 1108 (by decide +kernel) rfl, omX11_price.2.1⟩, omX11_price.2.2⟩
set_option maxRecDepth 100000 in
theorem lX11_222 : mi_lv RX11 222 mX0_priceBehindWords 4 0 := ⟨omX0_priceBehindWords.1, ⟨mi_in 1112 (by decide +kernel) rfl, omX0_priceBehindWords.2.1⟩, omX0_priceBehindWords.2.2⟩
set_option maxRecDepth 100000 in
theorem lX0_114 : mi_lv RX0 114 mX5_isSaid 1 5 := ⟨omX5_isSaid.1, ⟨mi_in 1116 (by decide +kernel) rfl, omX5_isSaid.2.1⟩, omX5_isSaid.2.2⟩
set_option maxRecDepth 100000 in
theorem lX0_117 : mi_lv RX0 117 mX8_soreBehindWords 3 8 := ⟨omX8_soreBehindWords.1, ⟨mi_in 1117 (by decide +kernel) rfl, omX8_soreBehindWords.2.1⟩, omX8_soreBehindWords.2.2⟩
set_option maxRecDepth 100000 in
theorem lL_103 : mi_lv RL 103 mX11_stays 2 11 := ⟨omX11_stays.1, ⟨mi_in 1119 (by decide +kernel) rfl, omX11_stays.2.1⟩, omX11_stays.2.2⟩
set_option maxRecDepth 100000 in
theorem lX11_225 : mi_lv RX11 225 mX2_nightsLit 4 2 := ⟨omX2_nightsLit.1, ⟨mi_in 1123 (by decide +kernel) rfl, omX2_nightsLit.2.1⟩, omX2_nightsLit.2.2⟩
set_option maxRecDepth 100000 in
theorem lL_107 : mi_lv RL 107 mX11_middle 0 11 := ⟨omX11_middle.1, ⟨mi_in 1127 (by decide +kernel) rfl, omX11_middle.2.1⟩, omX11_middle.2.2⟩
set_option maxRecDepth 100000 in
theorem lX11_231 : mi_lv RX11 231 mX9_leastDarkDoor 2 9 := ⟨omX9_leastDarkDoor.1, ⟨mi_in 1131 (by decide +kernel) rfl, omX9_leastDarkDoor.2.1⟩, omX9_leastDarkDoor.2.2⟩
set_option maxRecDepth 100000 in
theorem lL_111 : mi_lv RL 111 mX11_round 3 11 := ⟨omX11_round.1, ⟨mi_in 1135 (by decide +kernel) rfl, omX11_round.2.1⟩, omX11_round.2.2⟩
set_option maxRecDepth 100000 in
theorem lX11_235 : mi_lv RX11 235 mX2_bestRound 5 2 := ⟨omX2_bestRound.1, ⟨mi_in 1139 (by decide +kernel) rfl, omX2_bestRound.2.1⟩, omX2_bestRound.2.2⟩
set_option maxRecDepth 100000 in
theorem lX2_134 : mi_lv RX2 134 mX2_countRipe 2 2 := ⟨omX2_countRipe.1, ⟨mi_in 1143 (by decide +kernel) rfl, omX2_countRipe.2.1⟩, omX2_countRipe.2.2⟩
set_option maxRecDepth 100000 in
theorem lX2_148 : mi_lv RX2 148 mX5_isRipe 2 5 := ⟨omX5_isRipe.1, ⟨mi_in 1147 (by decide +kernel) rfl, omX5_isRipe.2.1⟩, omX5_isRipe.2.2⟩
set_option maxRecDepth 100000 in
theorem lX2_137 : mi_lv RX2 137 mX2_walkRounds 3 2 := ⟨omX2_walkRounds.1, ⟨mi_in 1148 (by decide +kernel) rfl, omX2_walkRounds.2.1⟩, omX2_walkRounds.2.2⟩
set_option maxRecDepth 100000 in
theorem lX2_151 : mi_lv RX2 151 mX2_walkOn 4 2 := ⟨omX2_walkOn.1, ⟨mi_in 1153 (by decide +kernel) rfl, omX2_walkOn.2.1⟩, omX2_walkOn.2.2⟩
set_option maxRecDepth 100000 in
theorem lX2_155 : mi_lv RX2 155 mX9_isThere 3 9 := ⟨omX9_isThere.1, ⟨mi_in 1157 (by decide +kernel) rfl, omX9_isThere.2.1⟩, omX9_isThere.2.2⟩
set_option maxRecDepth 100000 in
theorem lX2_158 : mi_lv RX2 158 mX9_minutesOf 3 9 := ⟨omX9_minutesOf.1, ⟨mi_in 1158 (by decide +kernel) rfl, omX9_minutesOf.2.1⟩, omX9_minutesOf.2.2⟩
set_option maxRecDepth 100000 in
theorem lX2_141 : mi_lv RX2 141 mX2_leastWalked 1 2 := ⟨omX2_leastWalked.1, ⟨mi_in 1160 (by decide +kernel) rfl, omX2_leastWalked.2.1⟩, omX2_leastWalked.2.2⟩
set_option maxRecDepth 100000 in
theorem lX2_144 : mi_lv RX2 144 mX2_ripeOf 1 2 := ⟨omX2_ripeOf.1, ⟨mi_in 1164 (by decide +kernel) rfl, omX2_ripeOf.2.1⟩, omX2_ripeOf.2.2⟩
set_option maxRecDepth 100000 in
theorem lL_115 : mi_lv RL 115 mX11_circle 0 11 := ⟨omX11_circle.1, ⟨mi_in 1168 (by decide +kernel) rfl, omX11_circle.2.1⟩, omX11_circle.2.2⟩
set_option maxRecDepth 100000 in
theorem lX11_238 : mi_lv RX11 238 mX2_leastCircle 2 2 := ⟨omX2_leastCircle.1, ⟨mi_in 1172 (by decide +kernel) rfl, omX2_leastCircle.2.1⟩, omX2_leastCircle.2.2⟩
set_option maxRecDepth 100000 in
theorem lX2_121 : mi_ls RX2 121 mJ6_bitCount_0f7a4 1 := ⟨⟨mi_in 1176 (by decide +kernel) rfl, omJ6_bitCount_0f7a4.1⟩, omJ6_bitCount_0f7a4.2⟩
set_option maxRecDepth 100000 in
theorem lX2_126 : mi_ls RX2 126 mX2_goesRound 2 := ⟨⟨mi_in 1177 (by decide +kernel) rfl, omX2_goesRound.1⟩, omX2_goesRound.2⟩
set_option maxRecDepth 100000 in
theorem lX2_130 : mi_ls RX2 130 mX2_firstBy 3 := ⟨⟨mi_in 1180 (by decide +kernel) rfl, omX2_firstBy.1⟩, omX2_firstBy.2⟩
set_option maxRecDepth 100000 in
theorem lL_119 : mi_lv RL 119 mX11_need 0 11 := ⟨omX11_need.1, ⟨mi_in 1183 (by decide +kernel) rfl, omX11_need.2.1⟩, omX11_need.2.2⟩
set_option maxRecDepth 100000 in
theorem lX11_242 : mi_lv RX11 242 mX9_fewestLamps 1 9 := ⟨omX9_fewestLamps.1, ⟨mi_in 1187 (by decide +kernel) rfl, omX9_fewestLamps.2.1⟩, omX9_fewestLamps.2.2⟩
set_option maxRecDepth 100000 in
theorem lX9_49 : mi_ls RX9 49 mJ6_bitCount_0f7a4 1 := ⟨⟨mi_in 1191 (by decide +kernel) rfl, omJ6_bitCount_0f7a4.1⟩, omJ6_bitCount_0f7a4.2⟩
set_option maxRecDepth 100000 in
theorem lX9_54 : mi_lv RX9 54 mX9_leavesNoWalkDark 1 9 := ⟨omX9_leavesNoWalkDark.1, ⟨mi_in 1192 (by decide +kernel) rfl, omX9_leavesNoWalkDark.2.1⟩, omX9_leavesNoWalkDark.2.2⟩
set_option maxRecDepth 100000 in
theorem lL_123 : mi_lv RL 123 mX11_wind 2 11 := ⟨omX11_wind.1, ⟨mi_in 1196 (by decide +kernel) rfl, omX11_wind.2.1⟩, omX11_wind.2.2⟩
set_option maxRecDepth 100000 in
theorem lX11_245 : mi_lv RX11 245 mX2_chanceInWind 4 2 := ⟨omX2_chanceInWind.1, ⟨mi_in 1200 (by decide +kernel) rfl, omX2_chanceInWind.2.1⟩, omX2_chanceInWind.2.2⟩
set_option maxRecDepth 100000 in
theorem lX2_118 : mi_ls RX2 118 mX2_chanceOf 3 := ⟨⟨mi_in 1207 (by decide +kernel) rfl, omX2_chanceOf.1⟩, omX2_chanceOf.2⟩
set_option maxRecDepth 100000 in
theorem lL_127 : mi_lv RL 127 mX11_see 3 11 := ⟨omX11_see.1, ⟨mi_in 1210 (by decide +kernel) rfl, omX11_see.2.1⟩, omX11_see.2.2⟩
set_option maxRecDepth 100000 in
theorem lX11_248 : mi_lv RX11 248 mX4_add 3 4 := ⟨omX4_add.1, ⟨mi_in 1214 (by decide +kernel) rfl, omX4_add.2.1⟩, omX4_add.2.2⟩
set_option maxRecDepth 100000 in
theorem lL_132 : mi_lv RL 132 mX11_sets 1 11 := ⟨omX11_sets.1, ⟨mi_in 1218 (by decide +kernel) rfl, omX11_sets.2.1⟩, omX11_sets.2.2⟩
set_option maxRecDepth 100000 in
theorem lX11_252 : mi_lv RX11 252 mX2_setsSeen 4 2 := ⟨omX2_setsSeen.1, ⟨mi_in 1222 (by decide +kernel) rfl, omX2_setsSeen.2.1⟩, omX2_setsSeen.2.2⟩
set_option maxRecDepth 100000 in
theorem lX2_164 : mi_lv RX2 164 mX2_sortSets 3 2 := ⟨omX2_sortSets.1, ⟨mi_in 1226 (by decide +kernel) rfl, omX2_sortSets.2.1⟩, omX2_sortSets.2.2⟩
set_option maxRecDepth 100000 in
theorem lX2_168 : mi_ls RX2 168 mX2_ripeWrongs 2 := ⟨⟨mi_in 1230 (by decide +kernel) rfl, omX2_ripeWrongs.1⟩, omX2_ripeWrongs.2⟩
set_option maxRecDepth 100000 in
theorem lX2_172 : mi_lv RX2 172 mX2_lightBy 3 2 := ⟨omX2_lightBy.1, ⟨mi_in 1233 (by decide +kernel) rfl, omX2_lightBy.2.1⟩, omX2_lightBy.2.2⟩
set_option maxRecDepth 100000 in
theorem lX2_176 : mi_lv RX2 176 mX4_agreeWith 1 4 := ⟨omX4_agreeWith.1, ⟨mi_in 1238 (by decide +kernel) rfl, omX4_agreeWith.2.1⟩, omX4_agreeWith.2.2⟩
set_option maxRecDepth 100000 in
theorem lX2_182 : mi_lv RX2 182 mX2_countBurning 0 2 := ⟨omX2_countBurning.1, ⟨mi_in 1242 (by decide +kernel) rfl, omX2_countBurning.2.1⟩, omX2_countBurning.2.2⟩
set_option maxRecDepth 100000 in
theorem lL_136 : mi_lv RL 136 mX11_look 0 11 := ⟨omX11_look.1, ⟨mi_in 1246 (by decide +kernel) rfl, omX11_look.2.1⟩, omX11_look.2.2⟩
set_option maxRecDepth 100000 in
theorem lX11_256 : mi_lv RX11 256 mX2_bestLook 3 2 := ⟨omX2_bestLook.1, ⟨mi_in 1250 (by decide +kernel) rfl, omX2_bestLook.2.1⟩, omX2_bestLook.2.2⟩
set_option maxRecDepth 100000 in
theorem lL_140 : mi_lv RL 140 mX11_law 2 11 := ⟨omX11_law.1, ⟨mi_in 1254 (by decide +kernel) rfl, omX11_law.2.1⟩, omX11_law.2.2⟩
set_option maxRecDepth 100000 in
theorem lX11_260 : mi_lv RX11 260 mX0_harmByLaw 4 0 := ⟨omX0_harmByLaw.1, ⟨mi_in 1258 (by decide +kernel) rfl, omX0_harmByLaw.2.1⟩, omX0_harmByLaw.2.2⟩
set_option maxRecDepth 100000 in
theorem lX0_126 : mi_lv RX0 126 mX5_isRipe 2 5 := ⟨omX5_isRipe.1, ⟨mi_in 1262 (by decide +kernel) rfl, omX5_isRipe.2.1⟩, omX5_isRipe.2.2⟩
set_option maxRecDepth 100000 in
theorem lL_153 : mi_lv RL 153 mX11_years 3 11 := ⟨omX11_years.1, ⟨mi_in 1263 (by decide +kernel) rfl, omX11_years.2.1⟩, omX11_years.2.2⟩
set_option maxRecDepth 100000 in
theorem lX11_273 : mi_lv RX11 273 mX0_yearsByDraws 5 0 := ⟨omX0_yearsByDraws.1, ⟨mi_in 1267 (by decide +kernel) rfl, omX0_yearsByDraws.2.1⟩, omX0_yearsByDraws.2.2⟩
set_option maxRecDepth 100000 in
theorem lX0_130 : mi_ls RX0 130 mX0_nextDraw 1 := ⟨⟨mi_in 1271 (by decide +kernel) rfl, omX0_nextDraw.1⟩, omX0_nextDraw.2⟩
set_option maxRecDepth 100000 in
theorem lX0_134 : mi_ls RX0 134 mX0_drawBelow 2 := ⟨⟨mi_in 1277 (by decide +kernel) rfl, omX0_drawBelow.1⟩, omX0_drawBelow.2⟩
set_option maxRecDepth 100000 in
theorem lX0_138 : mi_lv RX0 138 mX5_lampNights 0 5 := ⟨omX5_lampNights.1, ⟨mi_in 1281 (by decide +kernel) rfl, omX5_lampNights.2.1⟩, omX5_lampNights.2.2⟩
set_option maxRecDepth 100000 in
theorem lL_157 : mi_lv RL 157 mX11_mark 2 11 := ⟨omX11_mark.1, ⟨mi_in 1285 (by decide +kernel) rfl, omX11_mark.2.1⟩, omX11_mark.2.2⟩
set_option maxRecDepth 100000 in
theorem lX11_276 : mi_lv RX11 276 mX3_goBack 3 3 := ⟨omX3_goBack.1, ⟨mi_in 1289 (by decide +kernel) rfl, omX3_goBack.2.1⟩, omX3_goBack.2.2⟩
set_option maxRecDepth 100000 in
theorem lX3_48 : mi_lv RX3 48 mX4_become 1 4 := ⟨omX4_become.1, ⟨mi_in 1294 (by decide +kernel) rfl, omX4_become.2.1⟩, omX4_become.2.2⟩
set_option maxRecDepth 100000 in
theorem lX11_280 : mi_lv RX11 280 mX3_lay 3 3 := ⟨omX3_lay.1, ⟨mi_in 1298 (by decide +kernel) rfl, omX3_lay.2.1⟩, omX3_lay.2.2⟩
set_option maxRecDepth 100000 in
theorem lL_162 : mi_lv RL 162 mX11_count 1 11 := ⟨omX11_count.1, ⟨mi_in 1302 (by decide +kernel) rfl, omX11_count.2.1⟩, omX11_count.2.2⟩
set_option maxRecDepth 100000 in
theorem lX11_296 : mi_lv RX11 296 mX5_coinsOfAll 0 5 := ⟨omX5_coinsOfAll.1, ⟨mi_in 1306 (by decide +kernel) rfl, omX5_coinsOfAll.2.1⟩, omX5_coinsOfAll.2.2⟩
set_option maxRecDepth 100000 in
theorem lL_7 : mi_lv RL 7 mX11_rests 3 11 := ⟨omX11_rests.1, ⟨mi_in 1314 (by decide +kernel) rfl, omX11_rests.2.1⟩, omX11_rests.2.2⟩
set_option maxRecDepth 100000 in
theorem lX11_266 : mi_ls RX11 266 mX11_isRest 3 := ⟨⟨mi_in 1379 (by decide +kernel) rfl, omX11_isRest.1⟩, omX11_isRest.2⟩
set_option maxRecDepth 100000 in
theorem lX11_269 : mi_ls RX11 269 mX11_loss 4 := ⟨⟨mi_in 1382 (by decide +kernel) rfl, omX11_loss.1⟩, omX11_loss.2⟩
set_option maxRecDepth 100000 in
theorem lL_150 : mi_lv RL 150 mX12_thrown 0 12 := ⟨omX12_thrown.1, ⟨mi_in 1385 (by decide +kernel) rfl, omX12_thrown.2.1⟩, omX12_thrown.2.2⟩
set_option maxRecDepth 100000 in
theorem lL_25 : mi_lv RL 25 mX12_feed 3 12 := ⟨omX12_feed.1, ⟨mi_in 1389 (by decide +kernel) rfl, omX12_feed.2.1⟩, omX12_feed.2.2⟩
set_option maxRecDepth 100000 in
theorem lX12_7 : mi_lv RX12 7 mX12_lay 1 12 := ⟨omX12_lay.1, ⟨mi_in 1393 (by decide +kernel) rfl, omX12_lay.2.1⟩, omX12_lay.2.2⟩
set_option maxRecDepth 100000 in
theorem lX12_150 : mi_lv RX12 150 mX12_standsAsAlways 1 12 := ⟨omX12_standsAsAlways.1, ⟨mi_in 1429 (by decide +kernel) rfl, omX12_standsAsAlways.2.1⟩, omX12_standsAsAlways.2.2⟩
set_option maxRecDepth 100000 in
theorem lX12_154 : mi_lv RX12 154 mX12_begins 0 12 := ⟨omX12_begins.1, ⟨mi_in 1433 (by decide +kernel) rfl, omX12_begins.2.1⟩, omX12_begins.2.2⟩
set_option maxRecDepth 100000 in
theorem lX12_303 : mi_lv RX12 303 mX12_starts 1 12 := ⟨omX12_starts.1, ⟨mi_in 1437 (by decide +kernel) rfl, omX12_starts.2.1⟩, omX12_starts.2.2⟩
set_option maxRecDepth 100000 in
theorem lX12_294 : mi_lv RX12 294 mX12_people 0 12 := ⟨omX12_people.1, ⟨mi_in 1441 (by decide +kernel) rfl, omX12_people.2.1⟩, omX12_people.2.2⟩
set_option maxRecDepth 100000 in
theorem lX12_273 : mi_lv RX12 273 mX12_wrongs 0 12 := ⟨omX12_wrongs.1, ⟨mi_in 1445 (by decide +kernel) rfl, omX12_wrongs.2.1⟩, omX12_wrongs.2.2⟩
set_option maxRecDepth 100000 in
theorem lX12_297 : mi_lv RX12 297 mX12_wrongOf 2 12 := ⟨omX12_wrongOf.1, ⟨mi_in 1449 (by decide +kernel) rfl, omX12_wrongOf.2.1⟩, omX12_wrongOf.2.2⟩
set_option maxRecDepth 100000 in
theorem lL_30 : mi_lv RL 30 mX12_town 0 12 := ⟨omX12_town.1, ⟨mi_in 1574 (by decide +kernel) rfl, omX12_town.2.1⟩, omX12_town.2.2⟩
set_option maxRecDepth 100000 in
theorem lX12_222 : mi_lv RX12 222 mX12_cutAll 0 12 := ⟨omX12_cutAll.1, ⟨mi_in 1578 (by decide +kernel) rfl, omX12_cutAll.2.1⟩, omX12_cutAll.2.2⟩
set_option maxRecDepth 100000 in
theorem lX12_157 : mi_ls RX12 157 mX12_isLetter 1 := ⟨⟨mi_in 1582 (by decide +kernel) rfl, omX12_isLetter.1⟩, omX12_isLetter.2⟩
set_option maxRecDepth 100000 in
theorem lX12_166 : mi_ls RX12 166 mX12_rank 1 := ⟨⟨mi_in 1586 (by decide +kernel) rfl, omX12_rank.1⟩, omX12_rank.2⟩
set_option maxRecDepth 100000 in
theorem lX12_170 : mi_ls RX12 170 mX12_isDigit 1 := ⟨⟨mi_in 1589 (by decide +kernel) rfl, omX12_isDigit.1⟩, omX12_isDigit.2⟩
set_option maxRecDepth 100000 in
theorem lX12_177 : mi_ls RX12 177 mX12_isSignOf 1 := ⟨⟨mi_in 1594 (by decide +kernel) rfl, omX12_isSignOf.1⟩, omX12_isSignOf.2⟩
set_option maxRecDepth 100000 in
theorem lX12_231 : mi_lv RX12 231 mX12_readLine 0 12 := ⟨omX12_readLine.1, ⟨mi_in 1597 (by decide +kernel) rfl, omX12_readLine.2.1⟩, omX12_readLine.2.2⟩
set_option maxRecDepth 100000 in
theorem lX12_192 : mi_lv RX12 192 mX12_isWord 1 12 := ⟨omX12_isWord.1, ⟨mi_in 1601 (by decide +kernel) rfl, omX12_isWord.2.1⟩, omX12_isWord.2.2⟩
set_option maxRecDepth 100000 in
theorem lX12_237 : mi_lv RX12 237 mX12_readPerson 0 12 := ⟨omX12_readPerson.1, ⟨mi_in 1605 (by decide +kernel) rfl, omX12_readPerson.2.1⟩, omX12_readPerson.2.2⟩
set_option maxRecDepth 100000 in
theorem lX12_189 : mi_lv RX12 189 mX12_wrong 1 12 := ⟨omX12_wrong.1, ⟨mi_in 1609 (by decide +kernel) rfl, omX12_wrong.2.1⟩, omX12_wrong.2.2⟩
set_option maxRecDepth 100000 in
theorem lX12_211 : mi_lv RX12 211 mX12_isName 0 12 := ⟨omX12_isName.1, ⟨mi_in 1613 (by decide +kernel) rfl, omX12_isName.2.1⟩, omX12_isName.2.2⟩
set_option maxRecDepth 100000 in
theorem lX12_205 : mi_lv RX12 205 mX12_wordHere 2 12 := ⟨omX12_wordHere.1, ⟨mi_in 1617 (by decide +kernel) rfl, omX12_wordHere.2.1⟩, omX12_wordHere.2.2⟩
set_option maxRecDepth 100000 in
theorem lX12_215 : mi_lv RX12 215 mX12_find 0 12 := ⟨omX12_find.1, ⟨mi_in 1621 (by decide +kernel) rfl, omX12_find.2.1⟩, omX12_find.2.2⟩
set_option maxRecDepth 100000 in
theorem lX12_252 : mi_lv RX12 252 mX12_takeOne 2 12 := ⟨omX12_takeOne.1, ⟨mi_in 1625 (by decide +kernel) rfl, omX12_takeOne.2.1⟩, omX12_takeOne.2.2⟩
set_option maxRecDepth 100000 in
theorem lX12_255 : mi_lv RX12 255 mX12_takeAfter 3 12 := ⟨omX12_takeAfter.1, ⟨mi_in 1629 (by decide +kernel) rfl, omX12_takeAfter.2.1⟩, omX12_takeAfter.2.2⟩
set_option maxRecDepth 100000 in
theorem lX12_198 : mi_lv RX12 198 mX12_takeWord 1 12 := ⟨omX12_takeWord.1, ⟨mi_in 1633 (by decide +kernel) rfl, omX12_takeWord.2.1⟩, omX12_takeWord.2.2⟩
set_option maxRecDepth 100000 in
theorem lX12_195 : mi_lv RX12 195 mX12_hasWord 1 12 := ⟨omX12_hasWord.1, ⟨mi_in 1637 (by decide +kernel) rfl, omX12_hasWord.2.1⟩, omX12_hasWord.2.2⟩
set_option maxRecDepth 100000 in
theorem lX12_201 : mi_lv RX12 201 mX12_takeNumber 2 12 := ⟨omX12_takeNumber.1, ⟨mi_in 1641 (by decide +kernel) rfl, omX12_takeNumber.2.1⟩, omX12_takeNumber.2.2⟩
set_option maxRecDepth 100000 in
theorem lX12_240 : mi_lv RX12 240 mX12_readLane 0 12 := ⟨omX12_readLane.1, ⟨mi_in 1645 (by decide +kernel) rfl, omX12_readLane.2.1⟩, omX12_readLane.2.2⟩
set_option maxRecDepth 100000 in
theorem lX12_259 : mi_lv RX12 259 mX12_takeTold 0 12 := ⟨omX12_takeTold.1, ⟨mi_in 1649 (by decide +kernel) rfl, omX12_takeTold.2.1⟩, omX12_takeTold.2.2⟩
set_option maxRecDepth 100000 in
theorem lX12_219 : mi_lv RX12 219 mX12_toldHere 0 12 := ⟨omX12_toldHere.1, ⟨mi_in 1653 (by decide +kernel) rfl, omX12_toldHere.2.1⟩, omX12_toldHere.2.2⟩
set_option maxRecDepth 100000 in
theorem lX12_262 : mi_lv RX12 262 mX12_takeOther 2 12 := ⟨omX12_takeOther.1, ⟨mi_in 1657 (by decide +kernel) rfl, omX12_takeOther.2.1⟩, omX12_takeOther.2.2⟩
set_option maxRecDepth 100000 in
theorem lX12_243 : mi_lv RX12 243 mX12_readWrong 0 12 := ⟨omX12_readWrong.1, ⟨mi_in 1661 (by decide +kernel) rfl, omX12_readWrong.2.1⟩, omX12_readWrong.2.2⟩
set_option maxRecDepth 100000 in
theorem lX12_246 : mi_lv RX12 246 mX12_readWalk 0 12 := ⟨omX12_readWalk.1, ⟨mi_in 1665 (by decide +kernel) rfl, omX12_readWalk.2.1⟩, omX12_readWalk.2.2⟩
set_option maxRecDepth 100000 in
theorem lX12_249 : mi_lv RX12 249 mX12_readOnce 0 12 := ⟨omX12_readOnce.1, ⟨mi_in 1669 (by decide +kernel) rfl, omX12_readOnce.2.1⟩, omX12_readOnce.2.2⟩
set_option maxRecDepth 100000 in
theorem lX12_266 : mi_lv RX12 266 mX12_all 1 12 := ⟨omX12_all.1, ⟨mi_in 1673 (by decide +kernel) rfl, omX12_all.2.1⟩, omX12_all.2.2⟩
set_option maxRecDepth 100000 in
theorem lX12_276 : mi_lv RX12 276 mX12_test 1 12 := ⟨omX12_test.1, ⟨mi_in 1677 (by decide +kernel) rfl, omX12_test.2.1⟩, omX12_test.2.2⟩
set_option maxRecDepth 100000 in
theorem lX12_279 : mi_lv RX12 279 mX12_sums 1 12 := ⟨omX12_sums.1, ⟨mi_in 1681 (by decide +kernel) rfl, omX12_sums.2.1⟩, omX12_sums.2.2⟩
set_option maxRecDepth 100000 in
theorem lX12_285 : mi_lv RX12 285 mX12_products 1 12 := ⟨omX12_products.1, ⟨mi_in 1685 (by decide +kernel) rfl, omX12_products.2.1⟩, omX12_products.2.2⟩
set_option maxRecDepth 100000 in
theorem lX12_288 : mi_lv RX12 288 mX12_takePart 1 12 := ⟨omX12_takePart.1, ⟨mi_in 1689 (by decide +kernel) rfl, omX12_takePart.2.1⟩, omX12_takePart.2.2⟩
set_option maxRecDepth 100000 in
theorem lX12_186 : mi_lv RX12 186 mX12_isSign 1 12 := ⟨omX12_isSign.1, ⟨mi_in 1693 (by decide +kernel) rfl, omX12_isSign.2.1⟩, omX12_isSign.2.2⟩
set_option maxRecDepth 100000 in
theorem lX12_269 : mi_lv RX12 269 mX12_emit 2 12 := ⟨omX12_emit.1, ⟨mi_in 1697 (by decide +kernel) rfl, omX12_emit.2.1⟩, omX12_emit.2.2⟩
set_option maxRecDepth 100000 in
theorem lX12_282 : mi_lv RX12 282 mX12_hasSign 1 12 := ⟨omX12_hasSign.1, ⟨mi_in 1701 (by decide +kernel) rfl, omX12_hasSign.2.1⟩, omX12_hasSign.2.2⟩
set_option maxRecDepth 100000 in
theorem lX12_234 : mi_lv RX12 234 mX12_takeSign 1 12 := ⟨omX12_takeSign.1, ⟨mi_in 1705 (by decide +kernel) rfl, omX12_takeSign.2.1⟩, omX12_takeSign.2.2⟩
set_option maxRecDepth 100000 in
theorem lL_34 : mi_lv RL 34 mX12_year 0 12 := ⟨omX12_year.1, ⟨mi_in 1709 (by decide +kernel) rfl, omX12_year.2.1⟩, omX12_year.2.2⟩
set_option maxRecDepth 100000 in
theorem lL_39 : mi_lv RL 39 mX12_person 2 12 := ⟨omX12_person.1, ⟨mi_in 1713 (by decide +kernel) rfl, omX12_person.2.1⟩, omX12_person.2.2⟩
set_option maxRecDepth 100000 in
theorem lX12_359 : mi_lv RX12 359 mX12_isPerson 1 12 := ⟨omX12_isPerson.1, ⟨mi_in 1717 (by decide +kernel) rfl, omX12_isPerson.2.1⟩, omX12_isPerson.2.2⟩
set_option maxRecDepth 100000 in
theorem lX12_362 : mi_ls RX12 362 mX12_within 3 := ⟨⟨mi_in 1721 (by decide +kernel) rfl, omX12_within.1⟩, omX12_within.2⟩
set_option maxRecDepth 100000 in
theorem lX12_316 : mi_lv RX12 316 mX12_kindOf 1 12 := ⟨omX12_kindOf.1, ⟨mi_in 1724 (by decide +kernel) rfl, omX12_kindOf.2.1⟩, omX12_kindOf.2.2⟩
set_option maxRecDepth 100000 in
theorem lL_43 : mi_lv RL 43 mX12_wrong_ 2 12 := ⟨omX12_wrong_.1, ⟨mi_in 1728 (by decide +kernel) rfl, omX12_wrong_.2.1⟩, omX12_wrong_.2.2⟩
set_option maxRecDepth 100000 in
theorem lX12_313 : mi_lv RX12 313 mX12_isWrong 1 12 := ⟨omX12_isWrong.1, ⟨mi_in 1732 (by decide +kernel) rfl, omX12_isWrong.2.1⟩, omX12_isWrong.2.2⟩
set_option maxRecDepth 100000 in
theorem lX12_323 : mi_lv RX12 323 mX12_barOf 1 12 := ⟨omX12_barOf.1, ⟨mi_in 1736 (by decide +kernel) rfl, omX12_barOf.2.1⟩, omX12_barOf.2.2⟩
set_option maxRecDepth 100000 in
theorem lL_47 : mi_lv RL 47 mX12_lamps 0 12 := ⟨omX12_lamps.1, ⟨mi_in 1740 (by decide +kernel) rfl, omX12_lamps.2.1⟩, omX12_lamps.2.2⟩
set_option maxRecDepth 100000 in
theorem lX12_353 : mi_lv RX12 353 mX12_lampsOf 1 12 := ⟨omX12_lampsOf.1, ⟨mi_in 1744 (by decide +kernel) rfl, omX12_lampsOf.2.1⟩, omX12_lampsOf.2.2⟩
set_option maxRecDepth 100000 in
theorem lL_51 : mi_lv RL 51 mX12_dark 3 12 := ⟨omX12_dark.1, ⟨mi_in 1748 (by decide +kernel) rfl, omX12_dark.2.1⟩, omX12_dark.2.2⟩
set_option maxRecDepth 100000 in
theorem lX12_365 : mi_lv RX12 365 mX12_areTwo 2 12 := ⟨omX12_areTwo.1, ⟨mi_in 1752 (by decide +kernel) rfl, omX12_areTwo.2.1⟩, omX12_areTwo.2.2⟩
set_option maxRecDepth 100000 in
theorem lX12_347 : mi_lv RX12 347 mX12_laysWays 1 12 := ⟨omX12_laysWays.1, ⟨mi_in 1756 (by decide +kernel) rfl, omX12_laysWays.2.1⟩, omX12_laysWays.2.2⟩
set_option maxRecDepth 100000 in
theorem lX12_343 : mi_lv RX12 343 mX12_isNearer 3 12 := ⟨omX12_isNearer.1, ⟨mi_in 1761 (by decide +kernel) rfl, omX12_isNearer.2.1⟩, omX12_isNearer.2.2⟩
set_option maxRecDepth 100000 in
theorem lL_55 : mi_lv RL 55 mX12_harm 0 12 := ⟨omX12_harm.1, ⟨mi_in 1765 (by decide +kernel) rfl, omX12_harm.2.1⟩, omX12_harm.2.2⟩
set_option maxRecDepth 100000 in
theorem lX12_356 : mi_lv RX12 356 mX12_harmBy 1 12 := ⟨omX12_harmBy.1, ⟨mi_in 1769 (by decide +kernel) rfl, omX12_harmBy.2.1⟩, omX12_harmBy.2.2⟩
set_option maxRecDepth 100000 in
theorem lX12_350 : mi_lv RX12 350 mX12_walks 0 12 := ⟨omX12_walks.1, ⟨mi_in 1773 (by decide +kernel) rfl, omX12_walks.2.1⟩, omX12_walks.2.2⟩
set_option maxRecDepth 100000 in
theorem lL_60 : mi_lv RL 60 mX12_say 1 12 := ⟨omX12_say.1, ⟨mi_in 1777 (by decide +kernel) rfl, omX12_say.2.1⟩, omX12_say.2.2⟩
set_option maxRecDepth 100000 in
theorem lX12_368 : mi_lv RX12 368 mX12_maySay 2 12 := ⟨omX12_maySay.1, ⟨mi_in 1781 (by decide +kernel) rfl, omX12_maySay.2.1⟩, omX12_maySay.2.2⟩
set_option maxRecDepth 100000 in
theorem lX12_319 : mi_lv RX12 319 mX12_isOpen 2 12 := ⟨omX12_isOpen.1, ⟨mi_in 1785 (by decide +kernel) rfl, omX12_isOpen.2.1⟩, omX12_isOpen.2.2⟩
set_option maxRecDepth 100000 in
theorem lX12_371 : mi_lv RX12 371 mX12_keeps 0 12 := ⟨omX12_keeps.1, ⟨mi_in 1789 (by decide +kernel) rfl, omX12_keeps.2.1⟩, omX12_keeps.2.2⟩
set_option maxRecDepth 100000 in
theorem lX12_309 : mi_lv RX12 309 mX12_copies 3 12 := ⟨omX12_copies.1, ⟨mi_in 1793 (by decide +kernel) rfl, omX12_copies.2.1⟩, omX12_copies.2.2⟩
set_option maxRecDepth 100000 in
theorem lX12_374 : mi_lv RX12 374 mX12_says 2 12 := ⟨omX12_says.1, ⟨mi_in 1797 (by decide +kernel) rfl, omX12_says.2.1⟩, omX12_says.2.2⟩
set_option maxRecDepth 100000 in
theorem lX12_329 : mi_lv RX12 329 mX12_lawOf 5 12 := ⟨omX12_lawOf.1, ⟨mi_in 1801 (by decide +kernel) rfl, omX12_lawOf.2.1⟩, omX12_lawOf.2.2⟩
set_option maxRecDepth 100000 in
theorem lX12_326 : mi_lv RX12 326 mX12_worthAt 1 12 := ⟨omX12_worthAt.1, ⟨mi_in 1805 (by decide +kernel) rfl, omX12_worthAt.2.1⟩, omX12_worthAt.2.2⟩
set_option maxRecDepth 100000 in
theorem lX12_291 : mi_ls RX12 291 mX12_both 3 := ⟨⟨mi_in 1809 (by decide +kernel) rfl, omX12_both.1⟩, omX12_both.2⟩
set_option maxRecDepth 100000 in
theorem lX12_333 : mi_ls RX12 333 mX12_atMost 1 := ⟨⟨mi_in 1812 (by decide +kernel) rfl, omX12_atMost.1⟩, omX12_atMost.2⟩
set_option maxRecDepth 100000 in
theorem lL_64 : mi_lv RL 64 mX12_give 2 12 := ⟨omX12_give.1, ⟨mi_in 1815 (by decide +kernel) rfl, omX12_give.2.1⟩, omX12_give.2.2⟩
set_option maxRecDepth 100000 in
theorem lX12_377 : mi_lv RX12 377 mX12_mayGive 3 12 := ⟨omX12_mayGive.1, ⟨mi_in 1819 (by decide +kernel) rfl, omX12_mayGive.2.1⟩, omX12_mayGive.2.2⟩
set_option maxRecDepth 100000 in
theorem lX12_380 : mi_lv RX12 380 mX12_gives 3 12 := ⟨omX12_gives.1, ⟨mi_in 1823 (by decide +kernel) rfl, omX12_gives.2.1⟩, omX12_gives.2.2⟩
set_option maxRecDepth 100000 in
theorem lL_68 : mi_lv RL 68 mX12_ask 1 12 := ⟨omX12_ask.1, ⟨mi_in 1827 (by decide +kernel) rfl, omX12_ask.2.1⟩, omX12_ask.2.2⟩
set_option maxRecDepth 100000 in
theorem lX12_383 : mi_lv RX12 383 mX12_asks 2 12 := ⟨omX12_asks.1, ⟨mi_in 1831 (by decide +kernel) rfl, omX12_asks.2.1⟩, omX12_asks.2.2⟩
set_option maxRecDepth 100000 in
theorem lX12_336 : mi_lv RX12 336 mX12_isRipe 2 12 := ⟨omX12_isRipe.1, ⟨mi_in 1835 (by decide +kernel) rfl, omX12_isRipe.2.1⟩, omX12_isRipe.2.2⟩
set_option maxRecDepth 100000 in
theorem lX12_339 : mi_lv RX12 339 mX12_burnOf 3 12 := ⟨omX12_burnOf.1, ⟨mi_in 1839 (by decide +kernel) rfl, omX12_burnOf.2.1⟩, omX12_burnOf.2.2⟩
set_option maxRecDepth 100000 in
theorem lL_72 : mi_lv RL 72 mX12_night 0 12 := ⟨omX12_night.1, ⟨mi_in 1843 (by decide +kernel) rfl, omX12_night.2.1⟩, omX12_night.2.2⟩
set_option maxRecDepth 100000 in
theorem lX12_386 : mi_lv RX12 386 mX12_passes 1 12 := ⟨omX12_passes.1, ⟨mi_in 1847 (by decide +kernel) rfl, omX12_passes.2.1⟩, omX12_passes.2.2⟩
set_option maxRecDepth 100000 in
theorem lL_77 : mi_lv RL 77 mX12_undo 0 12 := ⟨omX12_undo.1, ⟨mi_in 1851 (by decide +kernel) rfl, omX12_undo.2.1⟩, omX12_undo.2.2⟩
set_option maxRecDepth 100000 in
theorem lL_81 : mi_lv RL 81 mX12_judged 1 12 := ⟨omX12_judged.1, ⟨mi_in 1855 (by decide +kernel) rfl, omX12_judged.2.1⟩, omX12_judged.2.2⟩
set_option maxRecDepth 100000 in
theorem lX12_389 : mi_lv RX12 389 mX12_does 3 12 := ⟨omX12_does.1, ⟨mi_in 1859 (by decide +kernel) rfl, omX12_does.2.1⟩, omX12_does.2.2⟩
set_option maxRecDepth 100000 in
theorem lX12_392 : mi_lv RX12 392 mX12_overMany 1 12 := ⟨omX12_overMany.1, ⟨mi_in 1863 (by decide +kernel) rfl, omX12_overMany.2.1⟩, omX12_overMany.2.2⟩
set_option maxRecDepth 100000 in
theorem lL_85 : mi_lv RL 85 mX12_pay 3 12 := ⟨omX12_pay.1, ⟨mi_in 1867 (by decide +kernel) rfl, omX12_pay.2.1⟩, omX12_pay.2.2⟩
set_option maxRecDepth 100000 in
theorem lX12_395 : mi_lv RX12 395 mX12_costOf 1 12 := ⟨omX12_costOf.1, ⟨mi_in 1871 (by decide +kernel) rfl, omX12_costOf.2.1⟩, omX12_costOf.2.2⟩
set_option maxRecDepth 100000 in
theorem lX12_398 : mi_lv RX12 398 mX12_lampsWith 1 12 := ⟨omX12_lampsWith.1, ⟨mi_in 1875 (by decide +kernel) rfl, omX12_lampsWith.2.1⟩, omX12_lampsWith.2.2⟩
set_option maxRecDepth 100000 in
theorem lX12_401 : mi_lv RX12 401 mX12_isLit 3 12 := ⟨omX12_isLit.1, ⟨mi_in 1879 (by decide +kernel) rfl, omX12_isLit.2.1⟩, omX12_isLit.2.2⟩
set_option maxRecDepth 100000 in
theorem lL_89 : mi_lv RL 89 mX12_when 2 12 := ⟨omX12_when.1, ⟨mi_in 1883 (by decide +kernel) rfl, omX12_when.2.1⟩, omX12_when.2.2⟩
set_option maxRecDepth 100000 in
theorem lX12_407 : mi_lv RX12 407 mX12_whens 2 12 := ⟨omX12_whens.1, ⟨mi_in 1887 (by decide +kernel) rfl, omX12_whens.2.1⟩, omX12_whens.2.2⟩
set_option maxRecDepth 100000 in
theorem lL_94 : mi_lv RL 94 mX12_grudges 2 12 := ⟨omX12_grudges.1, ⟨mi_in 1891 (by decide +kernel) rfl, omX12_grudges.2.1⟩, omX12_grudges.2.2⟩
set_option maxRecDepth 100000 in
theorem lL_98 : mi_lv RL 98 mX12_ripe 1 12 := ⟨omX12_ripe.1, ⟨mi_in 1895 (by decide +kernel) rfl, omX12_ripe.2.1⟩, omX12_ripe.2.2⟩
set_option maxRecDepth 100000 in
theorem lL_102 : mi_lv RL 102 mX12_price 2 12 := ⟨omX12_price.1, ⟨mi_in 1899 (by decide +kernel) rfl, omX12_price.2.1⟩, omX12_price.2.2⟩
set_option maxRecDepth 100000 in
theorem lL_106 : mi_lv RL 106 mX12_stays 2 12 := ⟨omX12_stays.1, ⟨mi_in 1903 (by decide +kernel) rfl, omX12_stays.2.1⟩, omX12_stays.2.2⟩
set_option maxRecDepth 100000 in
theorem lX12_410 : mi_lv RX12 410 mX12_lampsBehind 1 12 := ⟨omX12_lampsBehind.1, ⟨mi_in 1907 (by decide +kernel) rfl, omX12_lampsBehind.2.1⟩, omX12_lampsBehind.2.2⟩
set_option maxRecDepth 100000 in
theorem lL_110 : mi_lv RL 110 mX12_middle 0 12 := ⟨omX12_middle.1, ⟨mi_in 1911 (by decide +kernel) rfl, omX12_middle.2.1⟩, omX12_middle.2.2⟩
set_option maxRecDepth 100000 in
theorem lL_114 : mi_lv RL 114 mX12_round 3 12 := ⟨omX12_round.1, ⟨mi_in 1915 (by decide +kernel) rfl, omX12_round.2.1⟩, omX12_round.2.2⟩
set_option maxRecDepth 100000 in
theorem lX12_426 : mi_lv RX12 426 mX12_laysSteps 0 12 := ⟨omX12_laysSteps.1, ⟨mi_in 1919 (by decide +kernel) rfl, omX12_laysSteps.2.1⟩, omX12_laysSteps.2.2⟩
set_option maxRecDepth 100000 in
theorem lX12_422 : mi_lv RX12 422 mX12_rounds 5 12 := ⟨omX12_rounds.1, ⟨mi_in 1923 (by decide +kernel) rfl, omX12_rounds.2.1⟩, omX12_rounds.2.2⟩
set_option maxRecDepth 100000 in
theorem lL_118 : mi_lv RL 118 mX12_circle 0 12 := ⟨omX12_circle.1, ⟨mi_in 1927 (by decide +kernel) rfl, omX12_circle.2.1⟩, omX12_circle.2.2⟩
set_option maxRecDepth 100000 in
theorem lX12_429 : mi_ls RX12 429 mX12_bits 1 := ⟨⟨mi_in 1931 (by decide +kernel) rfl, omX12_bits.1⟩, omX12_bits.2⟩
set_option maxRecDepth 100000 in
theorem lX12_432 : mi_lv RX12 432 mX12_isCircle 1 12 := ⟨omX12_isCircle.1, ⟨mi_in 1934 (by decide +kernel) rfl, omX12_isCircle.2.1⟩, omX12_isCircle.2.2⟩
set_option maxRecDepth 100000 in
theorem lL_122 : mi_lv RL 122 mX12_need 0 12 := ⟨omX12_need.1, ⟨mi_in 1938 (by decide +kernel) rfl, omX12_need.2.1⟩, omX12_need.2.2⟩
set_option maxRecDepth 100000 in
theorem lX12_435 : mi_lv RX12 435 mX12_allLit 1 12 := ⟨omX12_allLit.1, ⟨mi_in 1942 (by decide +kernel) rfl, omX12_allLit.2.1⟩, omX12_allLit.2.2⟩
set_option maxRecDepth 100000 in
theorem lL_126 : mi_lv RL 126 mX12_wind 2 12 := ⟨omX12_wind.1, ⟨mi_in 1946 (by decide +kernel) rfl, omX12_wind.2.1⟩, omX12_wind.2.2⟩
set_option maxRecDepth 100000 in
theorem lL_131 : mi_lv RL 131 mX12_see 3 12 := ⟨omX12_see.1, ⟨mi_in 1951 (by decide +kernel) rfl, omX12_see.2.1⟩, omX12_see.2.2⟩
set_option maxRecDepth 100000 in
theorem lL_135 : mi_lv RL 135 mX12_sets 1 12 := ⟨omX12_sets.1, ⟨mi_in 1955 (by decide +kernel) rfl, omX12_sets.2.1⟩, omX12_sets.2.2⟩
set_option maxRecDepth 100000 in
theorem lX12_440 : mi_lv RX12 440 mX12_fitsSights 1 12 := ⟨omX12_fitsSights.1, ⟨mi_in 1959 (by decide +kernel) rfl, omX12_fitsSights.2.1⟩, omX12_fitsSights.2.2⟩
set_option maxRecDepth 100000 in
theorem lL_139 : mi_lv RL 139 mX12_look 0 12 := ⟨omX12_look.1, ⟨mi_in 1963 (by decide +kernel) rfl, omX12_look.2.1⟩, omX12_look.2.2⟩
set_option maxRecDepth 100000 in
theorem lL_143 : mi_lv RL 143 mX12_law 2 12 := ⟨omX12_law.1, ⟨mi_in 1967 (by decide +kernel) rfl, omX12_law.2.1⟩, omX12_law.2.2⟩
set_option maxRecDepth 100000 in
theorem lL_149 : mi_lv RL 149 mX12_rests 3 12 := ⟨omX12_rests.1, ⟨mi_in 1971 (by decide +kernel) rfl, omX12_rests.2.1⟩, omX12_rests.2.2⟩
set_option maxRecDepth 100000 in
theorem lX12_443 : mi_ls RX12 443 mX12_losesBy 4 := ⟨⟨mi_in 1975 (by decide +kernel) rfl, omX12_losesBy.1⟩, omX12_losesBy.2⟩
set_option maxRecDepth 100000 in
theorem lL_156 : mi_lv RL 156 mX12_years 3 12 := ⟨omX12_years.1, ⟨mi_in 1978 (by decide +kernel) rfl, omX12_years.2.1⟩, omX12_years.2.2⟩
set_option maxRecDepth 100000 in
theorem lX12_462 : mi_lv RX12 462 mX12_drawsDeed 0 12 := ⟨omX12_drawsDeed.1, ⟨mi_in 1982 (by decide +kernel) rfl, omX12_drawsDeed.2.1⟩, omX12_drawsDeed.2.2⟩
set_option maxRecDepth 100000 in
theorem lX12_459 : mi_lv RX12 459 mX12_draw 1 12 := ⟨omX12_draw.1, ⟨mi_in 1986 (by decide +kernel) rfl, omX12_draw.2.1⟩, omX12_draw.2.2⟩
set_option maxRecDepth 100000 in
theorem lL_161 : mi_lv RL 161 mX12_mark 2 12 := ⟨omX12_mark.1, ⟨mi_in 1994 (by decide +kernel) rfl, omX12_mark.2.1⟩, omX12_mark.2.2⟩
set_option maxRecDepth 100000 in
theorem lL_165 : mi_lv RL 165 mX12_count 1 12 := ⟨omX12_count.1, ⟨mi_in 1998 (by decide +kernel) rfl, omX12_count.2.1⟩, omX12_count.2.2⟩
set_option maxRecDepth 100000 in
theorem lX12_465 : mi_lv RX12 465 mX12_overSet 0 12 := ⟨omX12_overSet.1, ⟨mi_in 2002 (by decide +kernel) rfl, omX12_overSet.2.1⟩, omX12_overSet.2.2⟩
set_option maxRecDepth 100000 in
theorem lX12_468 : mi_lv RX12 468 mX12_coinsOf 0 12 := ⟨omX12_coinsOf.1, ⟨mi_in 2006 (by decide +kernel) rfl, omX12_coinsOf.2.1⟩, omX12_coinsOf.2.2⟩
set_option maxRecDepth 100000 in
theorem nX6_17 : mi_lsn RX6 17 "PardonLamps" mX11_isWithin 3 := ⟨⟨by decide +kernel, omX11_isWithin.1⟩, omX11_isWithin.2⟩
set_option maxRecDepth 100000 in
theorem nX7_204 : mi_lsn RX7 204 "PardonLamps" mX11_isWithin 3 := ⟨⟨by decide +kernel, omX11_isWithin.1⟩, omX11_isWithin.2⟩
set_option maxRecDepth 100000 in
theorem nX7_149 : mi_lsn RX7 149 "PardonLamps" mX11_holds 2 := ⟨⟨by decide +kernel, omX11_holds.1⟩, omX11_holds.2⟩
set_option maxRecDepth 100000 in
theorem nX8_65 : mi_lsn RX8 65 "PardonLamps" mX11_isWithin 3 := ⟨⟨by decide +kernel, omX11_isWithin.1⟩, omX11_isWithin.2⟩
set_option maxRecDepth 100000 in
theorem nX5_52 : mi_lsn RX5 52 "PardonLamps" mX11_holds 2 := ⟨⟨by decide +kernel, omX11_holds.1⟩, omX11_holds.2⟩
set_option maxRecDepth 100000 in
theorem nX8_77 : mi_lsn RX8 77 "PardonLamps" mX11_clamp 3 := ⟨⟨by decide +kernel, omX11_clamp.1⟩, omX11_clamp.2⟩
set_option maxRecDepth 100000 in
theorem nX2_96 : mi_lsn RX2 96 "PardonLamps" mX11_holds 2 := ⟨⟨by decide +kernel, omX11_holds.1⟩, omX11_holds.2⟩
set_option maxRecDepth 100000 in
theorem nX2_112 : mi_lsn RX2 112 "PardonLamps" mX11_isPartOf 2 := ⟨⟨by decide +kernel, omX11_isPartOf.1⟩, omX11_isPartOf.2⟩
set_option maxRecDepth 100000 in
theorem nX3_51 : mi_lsn RX3 51 "PardonLamps" mX11_holds 2 := ⟨⟨by decide +kernel, omX11_holds.1⟩, omX11_holds.2⟩
set_option maxRecDepth 100000 in
theorem fX6_21 : mi_fl RX6 21 6 0 := ⟨by decide, by decide, mi_in 157 (by decide +kernel) rfl⟩
set_option maxRecDepth 100000 in
theorem fX11_81 : mi_fl RX11 81 6 0 := ⟨by decide, by decide, mi_in 158 (by decide +kernel) rfl⟩
set_option maxRecDepth 100000 in
theorem fX7_60 : mi_fl RX7 60 6 0 := ⟨by decide, by decide, mi_in 159 (by decide +kernel) rfl⟩
set_option maxRecDepth 100000 in
theorem fX7_30 : mi_fl RX7 30 6 1 := ⟨by decide, by decide, mi_in 160 (by decide +kernel) rfl⟩
set_option maxRecDepth 100000 in
theorem fX6_41 : mi_fl RX6 41 6 1 := ⟨by decide, by decide, mi_in 161 (by decide +kernel) rfl⟩
set_option maxRecDepth 100000 in
theorem fX6_31 : mi_fl RX6 31 6 2 := ⟨by decide, by decide, mi_in 162 (by decide +kernel) rfl⟩
set_option maxRecDepth 100000 in
theorem fX7_208 : mi_fl RX7 208 6 2 := ⟨by decide, by decide, mi_in 163 (by decide +kernel) rfl⟩
set_option maxRecDepth 100000 in
theorem fX6_34 : mi_fl RX6 34 6 3 := ⟨by decide, by decide, mi_in 164 (by decide +kernel) rfl⟩
set_option maxRecDepth 100000 in
theorem fX7_98 : mi_fl RX7 98 6 3 := ⟨by decide, by decide, mi_in 165 (by decide +kernel) rfl⟩
set_option maxRecDepth 100000 in
theorem fX7_82 : mi_fl RX7 82 6 4 := ⟨by decide, by decide, mi_in 166 (by decide +kernel) rfl⟩
set_option maxRecDepth 100000 in
theorem fX6_37 : mi_fl RX6 37 6 4 := ⟨by decide, by decide, mi_in 167 (by decide +kernel) rfl⟩
set_option maxRecDepth 100000 in
theorem fX6_11 : mi_fl RX6 11 6 5 := ⟨by decide, by decide, mi_in 168 (by decide +kernel) rfl⟩
set_option maxRecDepth 100000 in
theorem fX6_25 : mi_fl RX6 25 6 6 := ⟨by decide, by decide, mi_in 169 (by decide +kernel) rfl⟩
set_option maxRecDepth 100000 in
theorem fX7_12 : mi_fl RX7 12 7 0 := ⟨by decide, by decide, mi_in 186 (by decide +kernel) rfl⟩
set_option maxRecDepth 100000 in
theorem fX11_71 : mi_fl RX11 71 7 0 := ⟨by decide, by decide, mi_in 187 (by decide +kernel) rfl⟩
set_option maxRecDepth 100000 in
theorem fX7_23 : mi_fl RX7 23 7 1 := ⟨by decide, by decide, mi_in 188 (by decide +kernel) rfl⟩
set_option maxRecDepth 100000 in
theorem fX5_21 : mi_fl RX5 21 5 0 := ⟨by decide, by decide, mi_in 200 (by decide +kernel) rfl⟩
set_option maxRecDepth 100000 in
theorem fX2_86 : mi_fl RX2 86 5 0 := ⟨by decide, by decide, mi_in 201 (by decide +kernel) rfl⟩
set_option maxRecDepth 100000 in
theorem fX0_107 : mi_fl RX0 107 5 0 := ⟨by decide, by decide, mi_in 202 (by decide +kernel) rfl⟩
set_option maxRecDepth 100000 in
theorem fX11_290 : mi_fl RX11 290 5 0 := ⟨by decide, by decide, mi_in 203 (by decide +kernel) rfl⟩
set_option maxRecDepth 100000 in
theorem fX5_25 : mi_fl RX5 25 5 1 := ⟨by decide, by decide, mi_in 204 (by decide +kernel) rfl⟩
set_option maxRecDepth 100000 in
theorem fX0_65 : mi_fl RX0 65 5 1 := ⟨by decide, by decide, mi_in 205 (by decide +kernel) rfl⟩
set_option maxRecDepth 100000 in
theorem fX11_184 : mi_fl RX11 184 5 1 := ⟨by decide, by decide, mi_in 206 (by decide +kernel) rfl⟩
set_option maxRecDepth 100000 in
theorem fX5_28 : mi_fl RX5 28 5 2 := ⟨by decide, by decide, mi_in 207 (by decide +kernel) rfl⟩
set_option maxRecDepth 100000 in
theorem fX2_46 : mi_fl RX2 46 5 2 := ⟨by decide, by decide, mi_in 208 (by decide +kernel) rfl⟩
set_option maxRecDepth 100000 in
theorem fX0_56 : mi_fl RX0 56 5 2 := ⟨by decide, by decide, mi_in 209 (by decide +kernel) rfl⟩
set_option maxRecDepth 100000 in
theorem fX11_293 : mi_fl RX11 293 5 2 := ⟨by decide, by decide, mi_in 210 (by decide +kernel) rfl⟩
set_option maxRecDepth 100000 in
theorem fX5_31 : mi_fl RX5 31 5 3 := ⟨by decide, by decide, mi_in 211 (by decide +kernel) rfl⟩
set_option maxRecDepth 100000 in
theorem fX5_9 : mi_fl RX5 9 5 4 := ⟨by decide, by decide, mi_in 212 (by decide +kernel) rfl⟩
set_option maxRecDepth 100000 in
theorem fX2_73 : mi_fl RX2 73 5 4 := ⟨by decide, by decide, mi_in 213 (by decide +kernel) rfl⟩
set_option maxRecDepth 100000 in
theorem fX0_101 : mi_fl RX0 101 5 4 := ⟨by decide, by decide, mi_in 214 (by decide +kernel) rfl⟩
set_option maxRecDepth 100000 in
theorem fX11_135 : mi_fl RX11 135 5 4 := ⟨by decide, by decide, mi_in 215 (by decide +kernel) rfl⟩
set_option maxRecDepth 100000 in
theorem fX5_15 : mi_fl RX5 15 5 5 := ⟨by decide, by decide, mi_in 216 (by decide +kernel) rfl⟩
set_option maxRecDepth 100000 in
theorem fX11_120 : mi_fl RX11 120 5 5 := ⟨by decide, by decide, mi_in 217 (by decide +kernel) rfl⟩
set_option maxRecDepth 100000 in
theorem fX2_185 : mi_fl RX2 185 5 5 := ⟨by decide, by decide, mi_in 218 (by decide +kernel) rfl⟩
set_option maxRecDepth 100000 in
theorem fX5_18 : mi_fl RX5 18 5 6 := ⟨by decide, by decide, mi_in 219 (by decide +kernel) rfl⟩
set_option maxRecDepth 100000 in
theorem fX2_103 : mi_fl RX2 103 5 6 := ⟨by decide, by decide, mi_in 220 (by decide +kernel) rfl⟩
set_option maxRecDepth 100000 in
theorem fX11_117 : mi_fl RX11 117 5 6 := ⟨by decide, by decide, mi_in 221 (by decide +kernel) rfl⟩
set_option maxRecDepth 100000 in
theorem fX4_22 : mi_fl RX4 22 4 0 := ⟨by decide, by decide, mi_in 254 (by decide +kernel) rfl⟩
set_option maxRecDepth 100000 in
theorem fX11_99 : mi_fl RX11 99 4 0 := ⟨by decide, by decide, mi_in 255 (by decide +kernel) rfl⟩
set_option maxRecDepth 100000 in
theorem fX4_9 : mi_fl RX4 9 4 1 := ⟨by decide, by decide, mi_in 256 (by decide +kernel) rfl⟩
set_option maxRecDepth 100000 in
theorem fX4_15 : mi_fl RX4 15 4 2 := ⟨by decide, by decide, mi_in 257 (by decide +kernel) rfl⟩
set_option maxRecDepth 100000 in
theorem fX4_18 : mi_fl RX4 18 4 3 := ⟨by decide, by decide, mi_in 258 (by decide +kernel) rfl⟩
set_option maxRecDepth 100000 in
theorem fX3_28 : mi_fl RX3 28 3 0 := ⟨by decide, by decide, mi_in 269 (by decide +kernel) rfl⟩
set_option maxRecDepth 100000 in
theorem fX11_300 : mi_fl RX11 300 3 0 := ⟨by decide, by decide, mi_in 270 (by decide +kernel) rfl⟩
set_option maxRecDepth 100000 in
theorem fX3_35 : mi_fl RX3 35 3 1 := ⟨by decide, by decide, mi_in 271 (by decide +kernel) rfl⟩
set_option maxRecDepth 100000 in
theorem fX3_32 : mi_fl RX3 32 3 2 := ⟨by decide, by decide, mi_in 272 (by decide +kernel) rfl⟩
set_option maxRecDepth 100000 in
theorem fX3_11 : mi_fl RX3 11 3 3 := ⟨by decide, by decide, mi_in 273 (by decide +kernel) rfl⟩
set_option maxRecDepth 100000 in
theorem fX3_17 : mi_fl RX3 17 3 4 := ⟨by decide, by decide, mi_in 274 (by decide +kernel) rfl⟩
set_option maxRecDepth 100000 in
theorem fX3_22 : mi_fl RX3 22 3 5 := ⟨by decide, by decide, mi_in 275 (by decide +kernel) rfl⟩
set_option maxRecDepth 100000 in
theorem fX0_12 : mi_fl RX0 12 0 0 := ⟨by decide, by decide, mi_in 299 (by decide +kernel) rfl⟩
set_option maxRecDepth 100000 in
theorem fX0_18 : mi_fl RX0 18 0 1 := ⟨by decide, by decide, mi_in 300 (by decide +kernel) rfl⟩
set_option maxRecDepth 100000 in
theorem fX0_22 : mi_fl RX0 22 0 2 := ⟨by decide, by decide, mi_in 301 (by decide +kernel) rfl⟩
set_option maxRecDepth 100000 in
theorem fX0_26 : mi_fl RX0 26 0 3 := ⟨by decide, by decide, mi_in 302 (by decide +kernel) rfl⟩
set_option maxRecDepth 100000 in
theorem fX0_69 : mi_fl RX0 69 0 4 := ⟨by decide, by decide, mi_in 303 (by decide +kernel) rfl⟩
set_option maxRecDepth 100000 in
theorem fX2_9 : mi_fl RX2 9 2 0 := ⟨by decide, by decide, mi_in 321 (by decide +kernel) rfl⟩
set_option maxRecDepth 100000 in
theorem fX2_15 : mi_fl RX2 15 2 1 := ⟨by decide, by decide, mi_in 322 (by decide +kernel) rfl⟩
set_option maxRecDepth 100000 in
theorem fX2_18 : mi_fl RX2 18 2 2 := ⟨by decide, by decide, mi_in 323 (by decide +kernel) rfl⟩
set_option maxRecDepth 100000 in
theorem fX2_21 : mi_fl RX2 21 2 3 := ⟨by decide, by decide, mi_in 324 (by decide +kernel) rfl⟩
set_option maxRecDepth 100000 in
theorem fX2_24 : mi_fl RX2 24 2 4 := ⟨by decide, by decide, mi_in 325 (by decide +kernel) rfl⟩
set_option maxRecDepth 100000 in
theorem fX2_27 : mi_fl RX2 27 2 5 := ⟨by decide, by decide, mi_in 326 (by decide +kernel) rfl⟩
set_option maxRecDepth 100000 in
theorem fX2_30 : mi_fl RX2 30 2 6 := ⟨by decide, by decide, mi_in 327 (by decide +kernel) rfl⟩
set_option maxRecDepth 100000 in
theorem fX2_33 : mi_fl RX2 33 2 7 := ⟨by decide, by decide, mi_in 328 (by decide +kernel) rfl⟩
set_option maxRecDepth 100000 in
theorem fX1_11 : mi_fl RX1 11 1 0 := ⟨by decide, by decide, mi_in 358 (by decide +kernel) rfl⟩
set_option maxRecDepth 100000 in
theorem fX1_15 : mi_fl RX1 15 1 1 := ⟨by decide, by decide, mi_in 359 (by decide +kernel) rfl⟩
set_option maxRecDepth 100000 in
theorem fX1_18 : mi_fl RX1 18 1 2 := ⟨by decide, by decide, mi_in 360 (by decide +kernel) rfl⟩
set_option maxRecDepth 100000 in
theorem fX1_21 : mi_fl RX1 21 1 3 := ⟨by decide, by decide, mi_in 361 (by decide +kernel) rfl⟩
set_option maxRecDepth 100000 in
theorem fX1_24 : mi_fl RX1 24 1 4 := ⟨by decide, by decide, mi_in 362 (by decide +kernel) rfl⟩
set_option maxRecDepth 100000 in
theorem fX9_26 : mi_fl RX9 26 9 0 := ⟨by decide, by decide, mi_in 383 (by decide +kernel) rfl⟩
set_option maxRecDepth 100000 in
theorem fX11_284 : mi_fl RX11 284 9 0 := ⟨by decide, by decide, mi_in 384 (by decide +kernel) rfl⟩
set_option maxRecDepth 100000 in
theorem fX9_30 : mi_fl RX9 30 9 1 := ⟨by decide, by decide, mi_in 385 (by decide +kernel) rfl⟩
set_option maxRecDepth 100000 in
theorem fX7_139 : mi_fl RX7 139 9 1 := ⟨by decide, by decide, mi_in 386 (by decide +kernel) rfl⟩
set_option maxRecDepth 100000 in
theorem fX11_287 : mi_fl RX11 287 9 1 := ⟨by decide, by decide, mi_in 387 (by decide +kernel) rfl⟩
set_option maxRecDepth 100000 in
theorem fX9_11 : mi_fl RX9 11 9 2 := ⟨by decide, by decide, mi_in 388 (by decide +kernel) rfl⟩
set_option maxRecDepth 100000 in
theorem fX9_16 : mi_fl RX9 16 9 3 := ⟨by decide, by decide, mi_in 389 (by decide +kernel) rfl⟩
set_option maxRecDepth 100000 in
theorem fX9_20 : mi_fl RX9 20 9 4 := ⟨by decide, by decide, mi_in 390 (by decide +kernel) rfl⟩
set_option maxRecDepth 100000 in
theorem fX9_23 : mi_fl RX9 23 9 5 := ⟨by decide, by decide, mi_in 391 (by decide +kernel) rfl⟩
set_option maxRecDepth 100000 in
theorem fX9_33 : mi_fl RX9 33 9 6 := ⟨by decide, by decide, mi_in 392 (by decide +kernel) rfl⟩
set_option maxRecDepth 100000 in
theorem fX8_45 : mi_fl RX8 45 8 0 := ⟨by decide, by decide, mi_in 408 (by decide +kernel) rfl⟩
set_option maxRecDepth 100000 in
theorem fX5_42 : mi_fl RX5 42 8 0 := ⟨by decide, by decide, mi_in 409 (by decide +kernel) rfl⟩
set_option maxRecDepth 100000 in
theorem fX7_72 : mi_fl RX7 72 8 0 := ⟨by decide, by decide, mi_in 410 (by decide +kernel) rfl⟩
set_option maxRecDepth 100000 in
theorem fX2_93 : mi_fl RX2 93 8 0 := ⟨by decide, by decide, mi_in 411 (by decide +kernel) rfl⟩
set_option maxRecDepth 100000 in
theorem fX11_228 : mi_fl RX11 228 8 0 := ⟨by decide, by decide, mi_in 412 (by decide +kernel) rfl⟩
set_option maxRecDepth 100000 in
theorem fX8_49 : mi_fl RX8 49 8 1 := ⟨by decide, by decide, mi_in 413 (by decide +kernel) rfl⟩
set_option maxRecDepth 100000 in
theorem fX2_40 : mi_fl RX2 40 8 1 := ⟨by decide, by decide, mi_in 414 (by decide +kernel) rfl⟩
set_option maxRecDepth 100000 in
theorem fX5_34 : mi_fl RX5 34 8 1 := ⟨by decide, by decide, mi_in 415 (by decide +kernel) rfl⟩
set_option maxRecDepth 100000 in
theorem fX11_102 : mi_fl RX11 102 8 1 := ⟨by decide, by decide, mi_in 416 (by decide +kernel) rfl⟩
set_option maxRecDepth 100000 in
theorem fX0_86 : mi_fl RX0 86 8 1 := ⟨by decide, by decide, mi_in 417 (by decide +kernel) rfl⟩
set_option maxRecDepth 100000 in
theorem fX7_129 : mi_fl RX7 129 8 1 := ⟨by decide, by decide, mi_in 418 (by decide +kernel) rfl⟩
set_option maxRecDepth 100000 in
theorem fX8_52 : mi_fl RX8 52 8 2 := ⟨by decide, by decide, mi_in 419 (by decide +kernel) rfl⟩
set_option maxRecDepth 100000 in
theorem fX7_152 : mi_fl RX7 152 8 2 := ⟨by decide, by decide, mi_in 420 (by decide +kernel) rfl⟩
set_option maxRecDepth 100000 in
theorem fX8_55 : mi_fl RX8 55 8 3 := ⟨by decide, by decide, mi_in 421 (by decide +kernel) rfl⟩
set_option maxRecDepth 100000 in
theorem fX2_115 : mi_fl RX2 115 8 3 := ⟨by decide, by decide, mi_in 422 (by decide +kernel) rfl⟩
set_option maxRecDepth 100000 in
theorem fX7_155 : mi_fl RX7 155 8 3 := ⟨by decide, by decide, mi_in 423 (by decide +kernel) rfl⟩
set_option maxRecDepth 100000 in
theorem fX8_58 : mi_fl RX8 58 8 4 := ⟨by decide, by decide, mi_in 424 (by decide +kernel) rfl⟩
set_option maxRecDepth 100000 in
theorem fX7_146 : mi_fl RX7 146 8 4 := ⟨by decide, by decide, mi_in 425 (by decide +kernel) rfl⟩
set_option maxRecDepth 100000 in
theorem fX8_9 : mi_fl RX8 9 8 5 := ⟨by decide, by decide, mi_in 426 (by decide +kernel) rfl⟩
set_option maxRecDepth 100000 in
theorem fX8_15 : mi_fl RX8 15 8 6 := ⟨by decide, by decide, mi_in 427 (by decide +kernel) rfl⟩
set_option maxRecDepth 100000 in
theorem fX11_113 : mi_fl RX11 113 8 6 := ⟨by decide, by decide, mi_in 428 (by decide +kernel) rfl⟩
set_option maxRecDepth 100000 in
theorem fX8_19 : mi_fl RX8 19 8 7 := ⟨by decide, by decide, mi_in 429 (by decide +kernel) rfl⟩
set_option maxRecDepth 100000 in
theorem fX5_45 : mi_fl RX5 45 8 7 := ⟨by decide, by decide, mi_in 430 (by decide +kernel) rfl⟩
set_option maxRecDepth 100000 in
theorem fX8_22 : mi_fl RX8 22 8 8 := ⟨by decide, by decide, mi_in 431 (by decide +kernel) rfl⟩
set_option maxRecDepth 100000 in
theorem fX2_100 : mi_fl RX2 100 8 8 := ⟨by decide, by decide, mi_in 432 (by decide +kernel) rfl⟩
set_option maxRecDepth 100000 in
theorem fX11_126 : mi_fl RX11 126 8 8 := ⟨by decide, by decide, mi_in 433 (by decide +kernel) rfl⟩
set_option maxRecDepth 100000 in
theorem fX5_67 : mi_fl RX5 67 8 8 := ⟨by decide, by decide, mi_in 434 (by decide +kernel) rfl⟩
set_option maxRecDepth 100000 in
theorem fX8_25 : mi_fl RX8 25 8 9 := ⟨by decide, by decide, mi_in 435 (by decide +kernel) rfl⟩
set_option maxRecDepth 100000 in
theorem fX2_109 : mi_fl RX2 109 8 9 := ⟨by decide, by decide, mi_in 436 (by decide +kernel) rfl⟩
set_option maxRecDepth 100000 in
theorem fX11_129 : mi_fl RX11 129 8 9 := ⟨by decide, by decide, mi_in 437 (by decide +kernel) rfl⟩
set_option maxRecDepth 100000 in
theorem fX5_74 : mi_fl RX5 74 8 9 := ⟨by decide, by decide, mi_in 438 (by decide +kernel) rfl⟩
set_option maxRecDepth 100000 in
theorem fX8_28 : mi_fl RX8 28 8 10 := ⟨by decide, by decide, mi_in 439 (by decide +kernel) rfl⟩
set_option maxRecDepth 100000 in
theorem fX5_39 : mi_fl RX5 39 8 10 := ⟨by decide, by decide, mi_in 440 (by decide +kernel) rfl⟩
set_option maxRecDepth 100000 in
theorem fX11_132 : mi_fl RX11 132 8 10 := ⟨by decide, by decide, mi_in 441 (by decide +kernel) rfl⟩
set_option maxRecDepth 100000 in
theorem fX8_34 : mi_fl RX8 34 8 11 := ⟨by decide, by decide, mi_in 442 (by decide +kernel) rfl⟩
set_option maxRecDepth 100000 in
theorem fX7_158 : mi_fl RX7 158 8 11 := ⟨by decide, by decide, mi_in 443 (by decide +kernel) rfl⟩
set_option maxRecDepth 100000 in
theorem fX8_41 : mi_fl RX8 41 8 12 := ⟨by decide, by decide, mi_in 444 (by decide +kernel) rfl⟩
set_option maxRecDepth 100000 in
theorem fX2_59 : mi_fl RX2 59 8 12 := ⟨by decide, by decide, mi_in 445 (by decide +kernel) rfl⟩
set_option maxRecDepth 100000 in
theorem fX7_116 : mi_fl RX7 116 8 12 := ⟨by decide, by decide, mi_in 446 (by decide +kernel) rfl⟩
set_option maxRecDepth 100000 in
theorem fX11_159 : mi_fl RX11 159 8 12 := ⟨by decide, by decide, mi_in 447 (by decide +kernel) rfl⟩
set_option maxRecDepth 100000 in
theorem fX5_104 : mi_fl RX5 104 8 12 := ⟨by decide, by decide, mi_in 448 (by decide +kernel) rfl⟩
set_option maxRecDepth 100000 in
theorem fX10_21 : mi_fl RX10 21 10 0 := ⟨by decide, by decide, mi_in 482 (by decide +kernel) rfl⟩
set_option maxRecDepth 100000 in
theorem fX0_33 : mi_fl RX0 33 10 0 := ⟨by decide, by decide, mi_in 483 (by decide +kernel) rfl⟩
set_option maxRecDepth 100000 in
theorem fX7_63 : mi_fl RX7 63 10 0 := ⟨by decide, by decide, mi_in 484 (by decide +kernel) rfl⟩
set_option maxRecDepth 100000 in
theorem fX11_89 : mi_fl RX11 89 10 0 := ⟨by decide, by decide, mi_in 485 (by decide +kernel) rfl⟩
set_option maxRecDepth 100000 in
theorem fX10_9 : mi_fl RX10 9 10 1 := ⟨by decide, by decide, mi_in 486 (by decide +kernel) rfl⟩
set_option maxRecDepth 100000 in
theorem fX0_39 : mi_fl RX0 39 10 1 := ⟨by decide, by decide, mi_in 487 (by decide +kernel) rfl⟩
set_option maxRecDepth 100000 in
theorem fX10_15 : mi_fl RX10 15 10 2 := ⟨by decide, by decide, mi_in 488 (by decide +kernel) rfl⟩
set_option maxRecDepth 100000 in
theorem fX0_42 : mi_fl RX0 42 10 2 := ⟨by decide, by decide, mi_in 489 (by decide +kernel) rfl⟩
set_option maxRecDepth 100000 in
theorem fX10_18 : mi_fl RX10 18 10 3 := ⟨by decide, by decide, mi_in 490 (by decide +kernel) rfl⟩
set_option maxRecDepth 100000 in
theorem fX0_45 : mi_fl RX0 45 10 3 := ⟨by decide, by decide, mi_in 491 (by decide +kernel) rfl⟩
set_option maxRecDepth 100000 in
theorem fX11_10 : mi_fl RX11 10 11 0 := ⟨by decide, by decide, mi_in 501 (by decide +kernel) rfl⟩
set_option maxRecDepth 100000 in
theorem fX11_19 : mi_fl RX11 19 11 1 := ⟨by decide, by decide, mi_in 502 (by decide +kernel) rfl⟩
set_option maxRecDepth 100000 in
theorem fX11_26 : mi_fl RX11 26 11 2 := ⟨by decide, by decide, mi_in 503 (by decide +kernel) rfl⟩
set_option maxRecDepth 100000 in
theorem fX11_33 : mi_fl RX11 33 11 3 := ⟨by decide, by decide, mi_in 504 (by decide +kernel) rfl⟩
set_option maxRecDepth 100000 in
theorem fX11_40 : mi_fl RX11 40 11 4 := ⟨by decide, by decide, mi_in 505 (by decide +kernel) rfl⟩
set_option maxRecDepth 100000 in
theorem fX11_47 : mi_fl RX11 47 11 5 := ⟨by decide, by decide, mi_in 506 (by decide +kernel) rfl⟩
set_option maxRecDepth 100000 in
theorem fX11_54 : mi_fl RX11 54 11 6 := ⟨by decide, by decide, mi_in 507 (by decide +kernel) rfl⟩
set_option maxRecDepth 100000 in
theorem fX11_58 : mi_fl RX11 58 11 7 := ⟨by decide, by decide, mi_in 508 (by decide +kernel) rfl⟩
set_option maxRecDepth 100000 in
theorem fX11_64 : mi_fl RX11 64 11 8 := ⟨by decide, by decide, mi_in 509 (by decide +kernel) rfl⟩
set_option maxRecDepth 100000 in
theorem fX11_68 : mi_fl RX11 68 11 9 := ⟨by decide, by decide, mi_in 510 (by decide +kernel) rfl⟩
set_option maxRecDepth 100000 in
theorem fX12_1 : mi_fl RX12 1 12 0 := ⟨by decide, by decide, mi_in 1453 (by decide +kernel) rfl⟩
set_option maxRecDepth 100000 in
theorem fX12_14 : mi_fl RX12 14 12 1 := ⟨by decide, by decide, mi_in 1454 (by decide +kernel) rfl⟩
set_option maxRecDepth 100000 in
theorem fX12_11 : mi_fl RX12 11 12 2 := ⟨by decide, by decide, mi_in 1455 (by decide +kernel) rfl⟩
set_option maxRecDepth 100000 in
theorem fX12_161 : mi_fl RX12 161 12 3 := ⟨by decide, by decide, mi_in 1456 (by decide +kernel) rfl⟩
set_option maxRecDepth 100000 in
theorem fX12_24 : mi_fl RX12 24 12 4 := ⟨by decide, by decide, mi_in 1457 (by decide +kernel) rfl⟩
set_option maxRecDepth 100000 in
theorem fX12_27 : mi_fl RX12 27 12 5 := ⟨by decide, by decide, mi_in 1458 (by decide +kernel) rfl⟩
set_option maxRecDepth 100000 in
theorem fX12_30 : mi_fl RX12 30 12 6 := ⟨by decide, by decide, mi_in 1459 (by decide +kernel) rfl⟩
set_option maxRecDepth 100000 in
theorem fX12_180 : mi_fl RX12 180 12 7 := ⟨by decide, by decide, mi_in 1460 (by decide +kernel) rfl⟩
set_option maxRecDepth 100000 in
theorem fX12_183 : mi_fl RX12 183 12 8 := ⟨by decide, by decide, mi_in 1461 (by decide +kernel) rfl⟩
set_option maxRecDepth 100000 in
theorem fX12_86 : mi_fl RX12 86 12 9 := ⟨by decide, by decide, mi_in 1462 (by decide +kernel) rfl⟩
set_option maxRecDepth 100000 in
theorem fX12_89 : mi_fl RX12 89 12 10 := ⟨by decide, by decide, mi_in 1463 (by decide +kernel) rfl⟩
set_option maxRecDepth 100000 in
theorem fX12_92 : mi_fl RX12 92 12 11 := ⟨by decide, by decide, mi_in 1464 (by decide +kernel) rfl⟩
set_option maxRecDepth 100000 in
theorem fX12_95 : mi_fl RX12 95 12 12 := ⟨by decide, by decide, mi_in 1465 (by decide +kernel) rfl⟩
set_option maxRecDepth 100000 in
theorem fX12_225 : mi_fl RX12 225 12 13 := ⟨by decide, by decide, mi_in 1466 (by decide +kernel) rfl⟩
set_option maxRecDepth 100000 in
theorem fX12_98 : mi_fl RX12 98 12 14 := ⟨by decide, by decide, mi_in 1467 (by decide +kernel) rfl⟩
set_option maxRecDepth 100000 in
theorem fX12_101 : mi_fl RX12 101 12 15 := ⟨by decide, by decide, mi_in 1468 (by decide +kernel) rfl⟩
set_option maxRecDepth 100000 in
theorem fX12_208 : mi_fl RX12 208 12 16 := ⟨by decide, by decide, mi_in 1469 (by decide +kernel) rfl⟩
set_option maxRecDepth 100000 in
theorem fX12_228 : mi_fl RX12 228 12 17 := ⟨by decide, by decide, mi_in 1470 (by decide +kernel) rfl⟩
set_option maxRecDepth 100000 in
theorem fX12_104 : mi_fl RX12 104 12 18 := ⟨by decide, by decide, mi_in 1471 (by decide +kernel) rfl⟩
set_option maxRecDepth 100000 in
theorem fX12_107 : mi_fl RX12 107 12 19 := ⟨by decide, by decide, mi_in 1472 (by decide +kernel) rfl⟩
set_option maxRecDepth 100000 in
theorem fX12_110 : mi_fl RX12 110 12 20 := ⟨by decide, by decide, mi_in 1473 (by decide +kernel) rfl⟩
set_option maxRecDepth 100000 in
theorem fX12_113 : mi_fl RX12 113 12 21 := ⟨by decide, by decide, mi_in 1474 (by decide +kernel) rfl⟩
set_option maxRecDepth 100000 in
theorem fX12_306 : mi_fl RX12 306 12 22 := ⟨by decide, by decide, mi_in 1475 (by decide +kernel) rfl⟩
set_option maxRecDepth 100000 in
theorem fX12_116 : mi_fl RX12 116 12 23 := ⟨by decide, by decide, mi_in 1476 (by decide +kernel) rfl⟩
set_option maxRecDepth 100000 in
theorem fX12_300 : mi_fl RX12 300 12 24 := ⟨by decide, by decide, mi_in 1477 (by decide +kernel) rfl⟩
set_option maxRecDepth 100000 in
theorem fX12_120 : mi_fl RX12 120 12 25 := ⟨by decide, by decide, mi_in 1478 (by decide +kernel) rfl⟩
set_option maxRecDepth 100000 in
theorem fX12_123 : mi_fl RX12 123 12 26 := ⟨by decide, by decide, mi_in 1479 (by decide +kernel) rfl⟩
set_option maxRecDepth 100000 in
theorem fX12_126 : mi_fl RX12 126 12 27 := ⟨by decide, by decide, mi_in 1480 (by decide +kernel) rfl⟩
set_option maxRecDepth 100000 in
theorem fX12_129 : mi_fl RX12 129 12 28 := ⟨by decide, by decide, mi_in 1481 (by decide +kernel) rfl⟩
set_option maxRecDepth 100000 in
theorem fX12_132 : mi_fl RX12 132 12 29 := ⟨by decide, by decide, mi_in 1482 (by decide +kernel) rfl⟩
set_option maxRecDepth 100000 in
theorem fX12_135 : mi_fl RX12 135 12 30 := ⟨by decide, by decide, mi_in 1483 (by decide +kernel) rfl⟩
set_option maxRecDepth 100000 in
theorem fX12_404 : mi_fl RX12 404 12 31 := ⟨by decide, by decide, mi_in 1484 (by decide +kernel) rfl⟩
set_option maxRecDepth 100000 in
theorem fX12_138 : mi_fl RX12 138 12 32 := ⟨by decide, by decide, mi_in 1485 (by decide +kernel) rfl⟩
set_option maxRecDepth 100000 in
theorem fX12_141 : mi_fl RX12 141 12 33 := ⟨by decide, by decide, mi_in 1486 (by decide +kernel) rfl⟩
set_option maxRecDepth 100000 in
theorem fX12_413 : mi_fl RX12 413 12 34 := ⟨by decide, by decide, mi_in 1487 (by decide +kernel) rfl⟩
set_option maxRecDepth 100000 in
theorem fX12_416 : mi_fl RX12 416 12 35 := ⟨by decide, by decide, mi_in 1488 (by decide +kernel) rfl⟩
set_option maxRecDepth 100000 in
theorem fX12_419 : mi_fl RX12 419 12 36 := ⟨by decide, by decide, mi_in 1489 (by decide +kernel) rfl⟩
set_option maxRecDepth 100000 in
theorem fX12_144 : mi_fl RX12 144 12 37 := ⟨by decide, by decide, mi_in 1490 (by decide +kernel) rfl⟩
set_option maxRecDepth 100000 in
theorem fX12_147 : mi_fl RX12 147 12 38 := ⟨by decide, by decide, mi_in 1491 (by decide +kernel) rfl⟩
set_option maxRecDepth 100000 in
theorem fX12_447 : mi_fl RX12 447 12 39 := ⟨by decide, by decide, mi_in 1492 (by decide +kernel) rfl⟩
set_option maxRecDepth 100000 in
theorem kJ2_227 : Cond.constant RJ2 227 (65536) ∈ mi_T := mi_in 637 (by decide +kernel) rfl
set_option maxRecDepth 100000 in
theorem kJ11_110 : Cond.constant RJ11 110 (55232) ∈ mi_T := mi_in 676 (by decide +kernel) rfl
set_option maxRecDepth 100000 in
theorem kJ11_76 : Cond.constant RJ11 76 (56320) ∈ mi_T := mi_in 680 (by decide +kernel) rfl
set_option maxRecDepth 100000 in
theorem kX9_41 : Cond.constant RX9 41 (1048576) ∈ mi_T := mi_in 897 (by decide +kernel) rfl
set_option maxRecDepth 100000 in
theorem kJ6_265 : Cond.constant RJ6 265 (1431655765) ∈ mi_T := mi_in 1040 (by decide +kernel) rfl
set_option maxRecDepth 100000 in
theorem kJ6_266 : Cond.constant RJ6 266 (858993459) ∈ mi_T := mi_in 1041 (by decide +kernel) rfl
set_option maxRecDepth 100000 in
theorem kJ6_267 : Cond.constant RJ6 267 (252645135) ∈ mi_T := mi_in 1042 (by decide +kernel) rfl
set_option maxRecDepth 100000 in
theorem kX0_68 : Cond.constant RX0 68 (1048576) ∈ mi_T := mi_in 1084 (by decide +kernel) rfl
set_option maxRecDepth 100000 in
theorem kX2_147 : Cond.constant RX2 147 (1048576) ∈ mi_T := mi_in 1152 (by decide +kernel) rfl
set_option maxRecDepth 100000 in
theorem kX12_342 : Cond.constant RX12 342 (1000000) ∈ mi_T := mi_in 1760 (by decide +kernel) rfl
set_option maxRecDepth 100000 in
theorem kX6_15 : Cond.constantLong RX6 15 (255) ∈ mi_T := mi_in 540 (by decide +kernel) rfl
set_option maxRecDepth 100000 in
theorem kX6_58 : Cond.constantLong RX6 58 (32) ∈ mi_T := mi_in 588 (by decide +kernel) rfl
set_option maxRecDepth 100000 in
theorem kX6_60 : Cond.constantLong RX6 60 (96) ∈ mi_T := mi_in 589 (by decide +kernel) rfl
set_option maxRecDepth 100000 in
theorem kX0_142 : Cond.constantLong RX0 142 (1103515245) ∈ mi_T := mi_in 1274 (by decide +kernel) rfl
set_option maxRecDepth 100000 in
theorem kX0_144 : Cond.constantLong RX0 144 (12345) ∈ mi_T := mi_in 1275 (by decide +kernel) rfl
set_option maxRecDepth 100000 in
theorem kX0_146 : Cond.constantLong RX0 146 (2147483648) ∈ mi_T := mi_in 1276 (by decide +kernel) rfl
set_option maxRecDepth 100000 in
theorem kX0_148 : Cond.constantLong RX0 148 (65536) ∈ mi_T := mi_in 1280 (by decide +kernel) rfl
set_option maxRecDepth 100000 in
theorem kX12_34 : Cond.constantLong RX12 34 (1119812451) ∈ mi_T := mi_in 1403 (by decide +kernel) rfl
set_option maxRecDepth 100000 in
theorem kX12_36 : Cond.constantLong RX12 36 (6395136) ∈ mi_T := mi_in 1404 (by decide +kernel) rfl
set_option maxRecDepth 100000 in
theorem kX12_38 : Cond.constantLong RX12 38 (609728) ∈ mi_T := mi_in 1405 (by decide +kernel) rfl
set_option maxRecDepth 100000 in
theorem kX12_40 : Cond.constantLong RX12 40 (44038517) ∈ mi_T := mi_in 1406 (by decide +kernel) rfl
set_option maxRecDepth 100000 in
theorem kX12_42 : Cond.constantLong RX12 42 (755) ∈ mi_T := mi_in 1407 (by decide +kernel) rfl
set_option maxRecDepth 100000 in
theorem kX12_44 : Cond.constantLong RX12 44 (975695) ∈ mi_T := mi_in 1408 (by decide +kernel) rfl
set_option maxRecDepth 100000 in
theorem kX12_46 : Cond.constantLong RX12 46 (1166843) ∈ mi_T := mi_in 1409 (by decide +kernel) rfl
set_option maxRecDepth 100000 in
theorem kX12_48 : Cond.constantLong RX12 48 (2793) ∈ mi_T := mi_in 1410 (by decide +kernel) rfl
set_option maxRecDepth 100000 in
theorem kX12_50 : Cond.constantLong RX12 50 (1177862) ∈ mi_T := mi_in 1411 (by decide +kernel) rfl
set_option maxRecDepth 100000 in
theorem kX12_52 : Cond.constantLong RX12 52 (43890307) ∈ mi_T := mi_in 1412 (by decide +kernel) rfl
set_option maxRecDepth 100000 in
theorem kX12_54 : Cond.constantLong RX12 54 (15248385) ∈ mi_T := mi_in 1413 (by decide +kernel) rfl
set_option maxRecDepth 100000 in
theorem kX12_56 : Cond.constantLong RX12 56 (4837214) ∈ mi_T := mi_in 1414 (by decide +kernel) rfl
set_option maxRecDepth 100000 in
theorem kX12_58 : Cond.constantLong RX12 58 (26073) ∈ mi_T := mi_in 1415 (by decide +kernel) rfl
set_option maxRecDepth 100000 in
theorem kX12_60 : Cond.constantLong RX12 60 (367711) ∈ mi_T := mi_in 1416 (by decide +kernel) rfl
set_option maxRecDepth 100000 in
theorem kX12_62 : Cond.constantLong RX12 62 (2083) ∈ mi_T := mi_in 1417 (by decide +kernel) rfl
set_option maxRecDepth 100000 in
theorem kX12_64 : Cond.constantLong RX12 64 (26704030) ∈ mi_T := mi_in 1418 (by decide +kernel) rfl
set_option maxRecDepth 100000 in
theorem kX12_66 : Cond.constantLong RX12 66 (30596128) ∈ mi_T := mi_in 1419 (by decide +kernel) rfl
set_option maxRecDepth 100000 in
theorem kX12_68 : Cond.constantLong RX12 68 (36689632) ∈ mi_T := mi_in 1420 (by decide +kernel) rfl
set_option maxRecDepth 100000 in
theorem kX12_70 : Cond.constantLong RX12 70 (35672571) ∈ mi_T := mi_in 1421 (by decide +kernel) rfl
set_option maxRecDepth 100000 in
theorem kX12_72 : Cond.constantLong RX12 72 (1143701655) ∈ mi_T := mi_in 1422 (by decide +kernel) rfl
set_option maxRecDepth 100000 in
theorem kX12_74 : Cond.constantLong RX12 74 (19741) ∈ mi_T := mi_in 1423 (by decide +kernel) rfl
set_option maxRecDepth 100000 in
theorem kX12_76 : Cond.constantLong RX12 76 (1891) ∈ mi_T := mi_in 1424 (by decide +kernel) rfl
set_option maxRecDepth 100000 in
theorem kX12_78 : Cond.constantLong RX12 78 (573) ∈ mi_T := mi_in 1425 (by decide +kernel) rfl
set_option maxRecDepth 100000 in
theorem kX12_80 : Cond.constantLong RX12 80 (22565491) ∈ mi_T := mi_in 1426 (by decide +kernel) rfl
set_option maxRecDepth 100000 in
theorem kX12_82 : Cond.constantLong RX12 82 (983613) ∈ mi_T := mi_in 1427 (by decide +kernel) rfl
set_option maxRecDepth 100000 in
theorem kX12_84 : Cond.constantLong RX12 84 (988049129) ∈ mi_T := mi_in 1428 (by decide +kernel) rfl
set_option maxRecDepth 100000 in
theorem kX12_164 : Cond.constantLong RX12 164 (37) ∈ mi_T := mi_in 1585 (by decide +kernel) rfl
set_option maxRecDepth 100000 in
theorem kX12_173 : Cond.constantLong RX12 173 (10) ∈ mi_T := mi_in 1592 (by decide +kernel) rfl
set_option maxRecDepth 100000 in
theorem kX12_175 : Cond.constantLong RX12 175 (48) ∈ mi_T := mi_in 1593 (by decide +kernel) rfl
set_option maxRecDepth 100000 in
theorem kX12_438 : Cond.constantLong RX12 438 (1000000) ∈ mi_T := mi_in 1950 (by decide +kernel) rfl
set_option maxRecDepth 100000 in
theorem kX12_451 : Cond.constantLong RX12 451 (1103515245) ∈ mi_T := mi_in 1990 (by decide +kernel) rfl
set_option maxRecDepth 100000 in
theorem kX12_453 : Cond.constantLong RX12 453 (12345) ∈ mi_T := mi_in 1991 (by decide +kernel) rfl
set_option maxRecDepth 100000 in
theorem kX12_455 : Cond.constantLong RX12 455 (2147483648) ∈ mi_T := mi_in 1992 (by decide +kernel) rfl
set_option maxRecDepth 100000 in
theorem kX12_457 : Cond.constantLong RX12 457 (65536) ∈ mi_T := mi_in 1993 (by decide +kernel) rfl
set_option maxRecDepth 100000 in
theorem kL_19 : Cond.constantLong RL 19 (4294967295) ∈ mi_T := mi_in 2010 (by decide +kernel) rfl
