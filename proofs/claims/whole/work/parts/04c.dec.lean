theorem dX12_thrown_0 : decode cX12_thrown 0 = .ok (.aload_n 0, 1) := by decide +kernel
theorem dX12_thrown_1 : decode cX12_thrown 1 = .ok (.getfield 3, 3) := by decide +kernel
theorem dX12_thrown_4 : decode cX12_thrown 4 = .ok (.ireturn, 1) := by decide +kernel
theorem dX12_throwsIf_0 : decode cX12_throwsIf 0 = .ok (.iload_n 1, 1) := by decide +kernel
theorem dX12_throwsIf_1 : decode cX12_throwsIf 1 = .ok (.ifCond .eq 8, 3) := by decide +kernel
theorem dX12_throwsIf_4 : decode cX12_throwsIf 4 = .ok (.aload_n 0, 1) := by decide +kernel
theorem dX12_throwsIf_5 : decode cX12_throwsIf 5 = .ok (.iload_n 2, 1) := by decide +kernel
theorem dX12_throwsIf_6 : decode cX12_throwsIf 6 = .ok (.putfield 3, 3) := by decide +kernel
theorem dX12_throwsIf_9 : decode cX12_throwsIf 9 = .ok (.iload_n 1, 1) := by decide +kernel
theorem dX12_throwsIf_10 : decode cX12_throwsIf 10 = .ok (.ireturn, 1) := by decide +kernel
theorem dX12_in_0 : decode cX12_in 0 = .ok (.iload_n 0, 1) := by decide +kernel
theorem dX12_in_1 : decode cX12_in 1 = .ok (.iload_n 1, 1) := by decide +kernel
theorem dX12_in_2 : decode cX12_in 2 = .ok (.if_icmp .lt 12, 3) := by decide +kernel
theorem dX12_in_5 : decode cX12_in 5 = .ok (.iload_n 0, 1) := by decide +kernel
theorem dX12_in_6 : decode cX12_in 6 = .ok (.iload_n 2, 1) := by decide +kernel
theorem dX12_in_7 : decode cX12_in 7 = .ok (.if_icmp .gt 7, 3) := by decide +kernel
theorem dX12_in_10 : decode cX12_in 10 = .ok (.iconst 1, 1) := by decide +kernel
theorem dX12_in_11 : decode cX12_in 11 = .ok (.goto 4, 3) := by decide +kernel
theorem dX12_in_14 : decode cX12_in 14 = .ok (.iconst 0, 1) := by decide +kernel
theorem dX12_in_15 : decode cX12_in 15 = .ok (.ireturn, 1) := by decide +kernel
theorem dX12_has_0 : decode cX12_has 0 = .ok (.iload_n 0, 1) := by decide +kernel
theorem dX12_has_1 : decode cX12_has 1 = .ok (.iload_n 1, 1) := by decide +kernel
theorem dX12_has_2 : decode cX12_has 2 = .ok (.ishr, 1) := by decide +kernel
theorem dX12_has_3 : decode cX12_has 3 = .ok (.iconst 1, 1) := by decide +kernel
theorem dX12_has_4 : decode cX12_has 4 = .ok (.iand, 1) := by decide +kernel
theorem dX12_has_5 : decode cX12_has 5 = .ok (.iconst 1, 1) := by decide +kernel
theorem dX12_has_6 : decode cX12_has 6 = .ok (.if_icmp .ne 7, 3) := by decide +kernel
theorem dX12_has_9 : decode cX12_has 9 = .ok (.iconst 1, 1) := by decide +kernel
theorem dX12_has_10 : decode cX12_has 10 = .ok (.goto 4, 3) := by decide +kernel
theorem dX12_has_13 : decode cX12_has 13 = .ok (.iconst 0, 1) := by decide +kernel
theorem dX12_has_14 : decode cX12_has 14 = .ok (.ireturn, 1) := by decide +kernel
theorem dX12_init_0 : decode cX12_init 0 = .ok (.aload_n 0, 1) := by decide +kernel
theorem dX12_init_1 : decode cX12_init 1 = .ok (.invokespecial 7, 3) := by decide +kernel
theorem dX12_init_4 : decode cX12_init 4 = .ok (.aload_n 0, 1) := by decide +kernel
theorem dX12_init_5 : decode cX12_init 5 = .ok (.sipush 1860, 3) := by decide +kernel
theorem dX12_init_8 : decode cX12_init 8 = .ok (.newarray .int, 2) := by decide +kernel
theorem dX12_init_10 : decode cX12_init 10 = .ok (.putfield 13, 3) := by decide +kernel
theorem dX12_init_13 : decode cX12_init 13 = .ok (.aload_n 0, 1) := by decide +kernel
theorem dX12_init_14 : decode cX12_init 14 = .ok (.sipush 1023, 3) := by decide +kernel
theorem dX12_init_17 : decode cX12_init 17 = .ok (.newarray .int, 2) := by decide +kernel
theorem dX12_init_19 : decode cX12_init 19 = .ok (.putfield 17, 3) := by decide +kernel
theorem dX12_init_22 : decode cX12_init 22 = .ok (.aload_n 0, 1) := by decide +kernel
theorem dX12_init_23 : decode cX12_init 23 = .ok (.sipush 1023, 3) := by decide +kernel
theorem dX12_init_26 : decode cX12_init 26 = .ok (.newarray .int, 2) := by decide +kernel
theorem dX12_init_28 : decode cX12_init 28 = .ok (.putfield 20, 3) := by decide +kernel
theorem dX12_init_31 : decode cX12_init 31 = .ok (.aload_n 0, 1) := by decide +kernel
theorem dX12_init_32 : decode cX12_init 32 = .ok (.sipush 400, 3) := by decide +kernel
theorem dX12_init_35 : decode cX12_init 35 = .ok (.newarray .byte, 2) := by decide +kernel
theorem dX12_init_37 : decode cX12_init 37 = .ok (.putfield 23, 3) := by decide +kernel
theorem dX12_init_40 : decode cX12_init 40 = .ok (.aload_n 0, 1) := by decide +kernel
theorem dX12_init_41 : decode cX12_init 41 = .ok (.iconst (-1), 1) := by decide +kernel
theorem dX12_init_42 : decode cX12_init 42 = .ok (.putfield 27, 3) := by decide +kernel
theorem dX12_init_45 : decode cX12_init 45 = .ok (.aload_n 0, 1) := by decide +kernel
theorem dX12_init_46 : decode cX12_init 46 = .ok (.iconst 5, 1) := by decide +kernel
theorem dX12_init_47 : decode cX12_init 47 = .ok (.newarray .int, 2) := by decide +kernel
theorem dX12_init_49 : decode cX12_init 49 = .ok (.putfield 30, 3) := by decide +kernel
theorem dX12_init_52 : decode cX12_init 52 = .ok (.aload_n 0, 1) := by decide +kernel
theorem dX12_init_53 : decode cX12_init 53 = .ok (.bipush 48, 2) := by decide +kernel
theorem dX12_init_55 : decode cX12_init 55 = .ok (.newarray .int, 2) := by decide +kernel
theorem dX12_init_57 : decode cX12_init 57 = .ok (.putfield 33, 3) := by decide +kernel
theorem dX12_init_60 : decode cX12_init 60 = .ok (.aload_n 0, 1) := by decide +kernel
theorem dX12_init_61 : decode cX12_init 61 = .ok (.sipush 1024, 3) := by decide +kernel
theorem dX12_init_64 : decode cX12_init 64 = .ok (.newarray .int, 2) := by decide +kernel
theorem dX12_init_66 : decode cX12_init 66 = .ok (.putfield 36, 3) := by decide +kernel
theorem dX12_init_69 : decode cX12_init 69 = .ok (.aload_n 0, 1) := by decide +kernel
theorem dX12_init_70 : decode cX12_init 70 = .ok (.sipush 1024, 3) := by decide +kernel
theorem dX12_init_73 : decode cX12_init 73 = .ok (.newarray .int, 2) := by decide +kernel
theorem dX12_init_75 : decode cX12_init 75 = .ok (.putfield 39, 3) := by decide +kernel
theorem dX12_init_78 : decode cX12_init 78 = .ok (.aload_n 0, 1) := by decide +kernel
theorem dX12_init_79 : decode cX12_init 79 = .ok (.bipush 8, 2) := by decide +kernel
theorem dX12_init_81 : decode cX12_init 81 = .ok (.newarray .int, 2) := by decide +kernel
theorem dX12_init_83 : decode cX12_init 83 = .ok (.putfield 42, 3) := by decide +kernel
theorem dX12_init_86 : decode cX12_init 86 = .ok (.aload_n 0, 1) := by decide +kernel
theorem dX12_init_87 : decode cX12_init 87 = .ok (.bipush 8, 2) := by decide +kernel
theorem dX12_init_89 : decode cX12_init 89 = .ok (.newarray .int, 2) := by decide +kernel
theorem dX12_init_91 : decode cX12_init 91 = .ok (.putfield 45, 3) := by decide +kernel
theorem dX12_init_94 : decode cX12_init 94 = .ok (.aload_n 0, 1) := by decide +kernel
theorem dX12_init_95 : decode cX12_init 95 = .ok (.sipush 400, 3) := by decide +kernel
theorem dX12_init_98 : decode cX12_init 98 = .ok (.newarray .int, 2) := by decide +kernel
theorem dX12_init_100 : decode cX12_init 100 = .ok (.putfield 48, 3) := by decide +kernel
theorem dX12_init_103 : decode cX12_init 103 = .ok (.aload_n 0, 1) := by decide +kernel
theorem dX12_init_104 : decode cX12_init 104 = .ok (.bipush 8, 2) := by decide +kernel
theorem dX12_init_106 : decode cX12_init 106 = .ok (.newarray .int, 2) := by decide +kernel
theorem dX12_init_108 : decode cX12_init 108 = .ok (.putfield 51, 3) := by decide +kernel
theorem dX12_init_111 : decode cX12_init 111 = .ok (.aload_n 0, 1) := by decide +kernel
theorem dX12_init_112 : decode cX12_init 112 = .ok (.bipush 8, 2) := by decide +kernel
theorem dX12_init_114 : decode cX12_init 114 = .ok (.newarray .int, 2) := by decide +kernel
theorem dX12_init_116 : decode cX12_init 116 = .ok (.putfield 54, 3) := by decide +kernel
theorem dX12_init_119 : decode cX12_init 119 = .ok (.aload_n 0, 1) := by decide +kernel
theorem dX12_init_120 : decode cX12_init 120 = .ok (.iconst 3, 1) := by decide +kernel
theorem dX12_init_121 : decode cX12_init 121 = .ok (.newarray .int, 2) := by decide +kernel
theorem dX12_init_123 : decode cX12_init 123 = .ok (.putfield 57, 3) := by decide +kernel
theorem dX12_init_126 : decode cX12_init 126 = .ok (.aload_n 0, 1) := by decide +kernel
theorem dX12_init_127 : decode cX12_init 127 = .ok (.iconst 3, 1) := by decide +kernel
theorem dX12_init_128 : decode cX12_init 128 = .ok (.newarray .int, 2) := by decide +kernel
theorem dX12_init_130 : decode cX12_init 130 = .ok (.putfield 60, 3) := by decide +kernel
theorem dX12_init_133 : decode cX12_init 133 = .ok (.aload_n 0, 1) := by decide +kernel
theorem dX12_init_134 : decode cX12_init 134 = .ok (.iconst 3, 1) := by decide +kernel
theorem dX12_init_135 : decode cX12_init 135 = .ok (.newarray .int, 2) := by decide +kernel
theorem dX12_init_137 : decode cX12_init 137 = .ok (.putfield 63, 3) := by decide +kernel
theorem dX12_init_140 : decode cX12_init 140 = .ok (.return_, 1) := by decide +kernel
theorem dX12_image_0 : decode cX12_image 0 = .ok (.aload_n 0, 1) := by decide +kernel
theorem dX12_image_1 : decode cX12_image 1 = .ok (.iconst 0, 1) := by decide +kernel
theorem dX12_image_2 : decode cX12_image 2 = .ok (.putfield 3, 3) := by decide +kernel
theorem dX12_image_5 : decode cX12_image 5 = .ok (.iconst 0, 1) := by decide +kernel
theorem dX12_image_6 : decode cX12_image 6 = .ok (.istore_n 1, 1) := by decide +kernel
theorem dX12_image_7 : decode cX12_image 7 = .ok (.iload_n 1, 1) := by decide +kernel
theorem dX12_image_8 : decode cX12_image 8 = .ok (.sipush 1023, 3) := by decide +kernel
theorem dX12_image_11 : decode cX12_image 11 = .ok (.if_icmp .ge 21, 3) := by decide +kernel
theorem dX12_image_14 : decode cX12_image 14 = .ok (.aload_n 0, 1) := by decide +kernel
theorem dX12_image_15 : decode cX12_image 15 = .ok (.getfield 17, 3) := by decide +kernel
theorem dX12_image_18 : decode cX12_image 18 = .ok (.iload_n 1, 1) := by decide +kernel
theorem dX12_image_19 : decode cX12_image 19 = .ok (.aload_n 0, 1) := by decide +kernel
theorem dX12_image_20 : decode cX12_image 20 = .ok (.getfield 13, 3) := by decide +kernel
theorem dX12_image_23 : decode cX12_image 23 = .ok (.iload_n 1, 1) := by decide +kernel
theorem dX12_image_24 : decode cX12_image 24 = .ok (.iaload, 1) := by decide +kernel
theorem dX12_image_25 : decode cX12_image 25 = .ok (.iastore, 1) := by decide +kernel
theorem dX12_image_26 : decode cX12_image 26 = .ok (.iinc 1 1, 3) := by decide +kernel
theorem dX12_image_29 : decode cX12_image 29 = .ok (.goto (-22), 3) := by decide +kernel
theorem dX12_image_32 : decode cX12_image 32 = .ok (.aload_n 0, 1) := by decide +kernel
theorem dX12_image_33 : decode cX12_image 33 = .ok (.iconst 1, 1) := by decide +kernel
theorem dX12_image_34 : decode cX12_image 34 = .ok (.putfield 66, 3) := by decide +kernel
theorem dX12_image_37 : decode cX12_image 37 = .ok (.return_, 1) := by decide +kernel
theorem dX12_back_0 : decode cX12_back 0 = .ok (.aload_n 0, 1) := by decide +kernel
theorem dX12_back_1 : decode cX12_back 1 = .ok (.iconst 0, 1) := by decide +kernel
theorem dX12_back_2 : decode cX12_back 2 = .ok (.putfield 3, 3) := by decide +kernel
theorem dX12_back_5 : decode cX12_back 5 = .ok (.aload_n 0, 1) := by decide +kernel
theorem dX12_back_6 : decode cX12_back 6 = .ok (.getfield 66, 3) := by decide +kernel
theorem dX12_back_9 : decode cX12_back 9 = .ok (.ifCond .ne 5, 3) := by decide +kernel
theorem dX12_back_12 : decode cX12_back 12 = .ok (.iconst 0, 1) := by decide +kernel
theorem dX12_back_13 : decode cX12_back 13 = .ok (.ireturn, 1) := by decide +kernel
theorem dX12_back_14 : decode cX12_back 14 = .ok (.iconst 0, 1) := by decide +kernel
theorem dX12_back_15 : decode cX12_back 15 = .ok (.istore_n 1, 1) := by decide +kernel
theorem dX12_back_16 : decode cX12_back 16 = .ok (.iload_n 1, 1) := by decide +kernel
theorem dX12_back_17 : decode cX12_back 17 = .ok (.sipush 1023, 3) := by decide +kernel
theorem dX12_back_20 : decode cX12_back 20 = .ok (.if_icmp .ge 21, 3) := by decide +kernel
theorem dX12_back_23 : decode cX12_back 23 = .ok (.aload_n 0, 1) := by decide +kernel
theorem dX12_back_24 : decode cX12_back 24 = .ok (.getfield 13, 3) := by decide +kernel
theorem dX12_back_27 : decode cX12_back 27 = .ok (.iload_n 1, 1) := by decide +kernel
theorem dX12_back_28 : decode cX12_back 28 = .ok (.aload_n 0, 1) := by decide +kernel
theorem dX12_back_29 : decode cX12_back 29 = .ok (.getfield 17, 3) := by decide +kernel
theorem dX12_back_32 : decode cX12_back 32 = .ok (.iload_n 1, 1) := by decide +kernel
theorem dX12_back_33 : decode cX12_back 33 = .ok (.iaload, 1) := by decide +kernel
theorem dX12_back_34 : decode cX12_back 34 = .ok (.iastore, 1) := by decide +kernel
theorem dX12_back_35 : decode cX12_back 35 = .ok (.iinc 1 1, 3) := by decide +kernel
theorem dX12_back_38 : decode cX12_back 38 = .ok (.goto (-22), 3) := by decide +kernel
theorem dX12_back_41 : decode cX12_back 41 = .ok (.iconst 1, 1) := by decide +kernel
theorem dX12_back_42 : decode cX12_back 42 = .ok (.ireturn, 1) := by decide +kernel
theorem dX12_houses_0 : decode cX12_houses 0 = .ok (.aload_n 0, 1) := by decide +kernel
theorem dX12_houses_1 : decode cX12_houses 1 = .ok (.getfield 13, 3) := by decide +kernel
theorem dX12_houses_4 : decode cX12_houses 4 = .ok (.iconst 0, 1) := by decide +kernel
theorem dX12_houses_5 : decode cX12_houses 5 = .ok (.iaload, 1) := by decide +kernel
theorem dX12_houses_6 : decode cX12_houses 6 = .ok (.ireturn, 1) := by decide +kernel
theorem dX12_wants_0 : decode cX12_wants 0 = .ok (.aload_n 0, 1) := by decide +kernel
theorem dX12_wants_1 : decode cX12_wants 1 = .ok (.getfield 13, 3) := by decide +kernel
theorem dX12_wants_4 : decode cX12_wants 4 = .ok (.iconst 1, 1) := by decide +kernel
theorem dX12_wants_5 : decode cX12_wants 5 = .ok (.iaload, 1) := by decide +kernel
theorem dX12_wants_6 : decode cX12_wants 6 = .ok (.ireturn, 1) := by decide +kernel
theorem dX12_of_0 : decode cX12_of 0 = .ok (.aload_n 0, 1) := by decide +kernel
theorem dX12_of_1 : decode cX12_of 1 = .ok (.getfield 13, 3) := by decide +kernel
theorem dX12_of_4 : decode cX12_of 4 = .ok (.bipush 8, 2) := by decide +kernel
theorem dX12_of_6 : decode cX12_of 6 = .ok (.bipush 15, 2) := by decide +kernel
theorem dX12_of_8 : decode cX12_of 8 = .ok (.iload_n 1, 1) := by decide +kernel
theorem dX12_of_9 : decode cX12_of 9 = .ok (.imul, 1) := by decide +kernel
theorem dX12_of_10 : decode cX12_of 10 = .ok (.iadd, 1) := by decide +kernel
theorem dX12_of_11 : decode cX12_of 11 = .ok (.iload_n 2, 1) := by decide +kernel
theorem dX12_of_12 : decode cX12_of 12 = .ok (.iadd, 1) := by decide +kernel
theorem dX12_of_13 : decode cX12_of 13 = .ok (.iaload, 1) := by decide +kernel
theorem dX12_of_14 : decode cX12_of 14 = .ok (.ireturn, 1) := by decide +kernel
theorem dX12_sets_0 : decode cX12_sets 0 = .ok (.aload_n 0, 1) := by decide +kernel
theorem dX12_sets_1 : decode cX12_sets 1 = .ok (.getfield 13, 3) := by decide +kernel
theorem dX12_sets_4 : decode cX12_sets 4 = .ok (.bipush 8, 2) := by decide +kernel
theorem dX12_sets_6 : decode cX12_sets 6 = .ok (.bipush 15, 2) := by decide +kernel
theorem dX12_sets_8 : decode cX12_sets 8 = .ok (.iload_n 1, 1) := by decide +kernel
theorem dX12_sets_9 : decode cX12_sets 9 = .ok (.imul, 1) := by decide +kernel
theorem dX12_sets_10 : decode cX12_sets 10 = .ok (.iadd, 1) := by decide +kernel
theorem dX12_sets_11 : decode cX12_sets 11 = .ok (.iload_n 2, 1) := by decide +kernel
theorem dX12_sets_12 : decode cX12_sets 12 = .ok (.iadd, 1) := by decide +kernel
theorem dX12_sets_13 : decode cX12_sets 13 = .ok (.iload_n 3, 1) := by decide +kernel
theorem dX12_sets_14 : decode cX12_sets 14 = .ok (.iastore, 1) := by decide +kernel
theorem dX12_sets_15 : decode cX12_sets 15 = .ok (.return_, 1) := by decide +kernel
theorem dX12_wordOf_0 : decode cX12_wordOf 0 = .ok (.aload_n 0, 1) := by decide +kernel
theorem dX12_wordOf_1 : decode cX12_wordOf 1 = .ok (.iload_n 1, 1) := by decide +kernel
theorem dX12_wordOf_2 : decode cX12_wordOf 2 = .ok (.iconst 5, 1) := by decide +kernel
theorem dX12_wordOf_3 : decode cX12_wordOf 3 = .ok (.iload_n 2, 1) := by decide +kernel
theorem dX12_wordOf_4 : decode cX12_wordOf 4 = .ok (.iadd, 1) := by decide +kernel
theorem dX12_wordOf_5 : decode cX12_wordOf 5 = .ok (.invokevirtual 70, 3) := by decide +kernel
theorem dX12_wordOf_8 : decode cX12_wordOf 8 = .ok (.ireturn, 1) := by decide +kernel
theorem dX12_urgent_0 : decode cX12_urgent 0 = .ok (.aload_n 0, 1) := by decide +kernel
theorem dX12_urgent_1 : decode cX12_urgent 1 = .ok (.getfield 13, 3) := by decide +kernel
theorem dX12_urgent_4 : decode cX12_urgent 4 = .ok (.sipush 128, 3) := by decide +kernel
theorem dX12_urgent_7 : decode cX12_urgent 7 = .ok (.iload_n 1, 1) := by decide +kernel
theorem dX12_urgent_8 : decode cX12_urgent 8 = .ok (.iadd, 1) := by decide +kernel
theorem dX12_urgent_9 : decode cX12_urgent 9 = .ok (.iaload, 1) := by decide +kernel
theorem dX12_urgent_10 : decode cX12_urgent 10 = .ok (.ireturn, 1) := by decide +kernel
theorem dX12_ofRing_0 : decode cX12_ofRing 0 = .ok (.aload_n 0, 1) := by decide +kernel
theorem dX12_ofRing_1 : decode cX12_ofRing 1 = .ok (.getfield 13, 3) := by decide +kernel
theorem dX12_ofRing_4 : decode cX12_ofRing 4 = .ok (.sipush 138, 3) := by decide +kernel
theorem dX12_ofRing_7 : decode cX12_ofRing 7 = .ok (.iconst 4, 1) := by decide +kernel
theorem dX12_ofRing_8 : decode cX12_ofRing 8 = .ok (.iload_n 1, 1) := by decide +kernel
theorem dX12_ofRing_9 : decode cX12_ofRing 9 = .ok (.imul, 1) := by decide +kernel
theorem dX12_ofRing_10 : decode cX12_ofRing 10 = .ok (.iadd, 1) := by decide +kernel
theorem dX12_ofRing_11 : decode cX12_ofRing 11 = .ok (.iload_n 2, 1) := by decide +kernel
theorem dX12_ofRing_12 : decode cX12_ofRing 12 = .ok (.iadd, 1) := by decide +kernel
theorem dX12_ofRing_13 : decode cX12_ofRing 13 = .ok (.iaload, 1) := by decide +kernel
theorem dX12_ofRing_14 : decode cX12_ofRing 14 = .ok (.ireturn, 1) := by decide +kernel
theorem dX12_noHouse_0 : decode cX12_noHouse 0 = .ok (.iload_n 1, 1) := by decide +kernel
theorem dX12_noHouse_1 : decode cX12_noHouse 1 = .ok (.iconst 0, 1) := by decide +kernel
theorem dX12_noHouse_2 : decode cX12_noHouse 2 = .ok (.aload_n 0, 1) := by decide +kernel
theorem dX12_noHouse_3 : decode cX12_noHouse 3 = .ok (.invokevirtual 74, 3) := by decide +kernel
theorem dX12_noHouse_6 : decode cX12_noHouse 6 = .ok (.iconst 1, 1) := by decide +kernel
theorem dX12_noHouse_7 : decode cX12_noHouse 7 = .ok (.isub, 1) := by decide +kernel
theorem dX12_noHouse_8 : decode cX12_noHouse 8 = .ok (.invokestatic 78, 3) := by decide +kernel
theorem dX12_noHouse_11 : decode cX12_noHouse 11 = .ok (.ifCond .ne 7, 3) := by decide +kernel
theorem dX12_noHouse_14 : decode cX12_noHouse 14 = .ok (.iconst 1, 1) := by decide +kernel
theorem dX12_noHouse_15 : decode cX12_noHouse 15 = .ok (.goto 4, 3) := by decide +kernel
theorem dX12_noHouse_18 : decode cX12_noHouse 18 = .ok (.iconst 0, 1) := by decide +kernel
theorem dX12_noHouse_19 : decode cX12_noHouse 19 = .ok (.ireturn, 1) := by decide +kernel
theorem dX12_noWant_0 : decode cX12_noWant 0 = .ok (.iload_n 1, 1) := by decide +kernel
theorem dX12_noWant_1 : decode cX12_noWant 1 = .ok (.iconst 0, 1) := by decide +kernel
theorem dX12_noWant_2 : decode cX12_noWant 2 = .ok (.aload_n 0, 1) := by decide +kernel
theorem dX12_noWant_3 : decode cX12_noWant 3 = .ok (.invokevirtual 82, 3) := by decide +kernel
theorem dX12_noWant_6 : decode cX12_noWant 6 = .ok (.iconst 1, 1) := by decide +kernel
theorem dX12_noWant_7 : decode cX12_noWant 7 = .ok (.isub, 1) := by decide +kernel
theorem dX12_noWant_8 : decode cX12_noWant 8 = .ok (.invokestatic 78, 3) := by decide +kernel
theorem dX12_noWant_11 : decode cX12_noWant 11 = .ok (.ifCond .ne 7, 3) := by decide +kernel
theorem dX12_noWant_14 : decode cX12_noWant 14 = .ok (.iconst 1, 1) := by decide +kernel
theorem dX12_noWant_15 : decode cX12_noWant 15 = .ok (.goto 4, 3) := by decide +kernel
theorem dX12_noWant_18 : decode cX12_noWant 18 = .ok (.iconst 0, 1) := by decide +kernel
theorem dX12_noWant_19 : decode cX12_noWant 19 = .ok (.ireturn, 1) := by decide +kernel
theorem dX12_noRing_0 : decode cX12_noRing 0 = .ok (.iload_n 1, 1) := by decide +kernel
theorem dX12_noRing_1 : decode cX12_noRing 1 = .ok (.iconst 0, 1) := by decide +kernel
theorem dX12_noRing_2 : decode cX12_noRing 2 = .ok (.aload_n 0, 1) := by decide +kernel
theorem dX12_noRing_3 : decode cX12_noRing 3 = .ok (.getfield 13, 3) := by decide +kernel
theorem dX12_noRing_6 : decode cX12_noRing 6 = .ok (.iconst 4, 1) := by decide +kernel
theorem dX12_noRing_7 : decode cX12_noRing 7 = .ok (.iaload, 1) := by decide +kernel
theorem dX12_noRing_8 : decode cX12_noRing 8 = .ok (.iconst 1, 1) := by decide +kernel
theorem dX12_noRing_9 : decode cX12_noRing 9 = .ok (.isub, 1) := by decide +kernel
theorem dX12_noRing_10 : decode cX12_noRing 10 = .ok (.invokestatic 78, 3) := by decide +kernel
theorem dX12_noRing_13 : decode cX12_noRing 13 = .ok (.ifCond .ne 7, 3) := by decide +kernel
theorem dX12_noRing_16 : decode cX12_noRing 16 = .ok (.iconst 1, 1) := by decide +kernel
theorem dX12_noRing_17 : decode cX12_noRing 17 = .ok (.goto 4, 3) := by decide +kernel
theorem dX12_noRing_20 : decode cX12_noRing 20 = .ok (.iconst 0, 1) := by decide +kernel
theorem dX12_noRing_21 : decode cX12_noRing 21 = .ok (.ireturn, 1) := by decide +kernel
theorem dX12_lengthOf_0 : decode cX12_lengthOf 0 = .ok (.iconst 0, 1) := by decide +kernel
theorem dX12_lengthOf_1 : decode cX12_lengthOf 1 = .ok (.istore_n 1, 1) := by decide +kernel
theorem dX12_lengthOf_2 : decode cX12_lengthOf 2 = .ok (.iload_n 0, 1) := by decide +kernel
theorem dX12_lengthOf_3 : decode cX12_lengthOf 3 = .ok (.istore_n 2, 1) := by decide +kernel
theorem dX12_lengthOf_4 : decode cX12_lengthOf 4 = .ok (.iload_n 2, 1) := by decide +kernel
theorem dX12_lengthOf_5 : decode cX12_lengthOf 5 = .ok (.iconst 1, 1) := by decide +kernel
theorem dX12_lengthOf_6 : decode cX12_lengthOf 6 = .ok (.if_icmp .le 13, 3) := by decide +kernel
theorem dX12_lengthOf_9 : decode cX12_lengthOf 9 = .ok (.iinc 1 1, 3) := by decide +kernel
theorem dX12_lengthOf_12 : decode cX12_lengthOf 12 = .ok (.iload_n 2, 1) := by decide +kernel
theorem dX12_lengthOf_13 : decode cX12_lengthOf 13 = .ok (.iconst 1, 1) := by decide +kernel
theorem dX12_lengthOf_14 : decode cX12_lengthOf 14 = .ok (.ishr, 1) := by decide +kernel
theorem dX12_lengthOf_15 : decode cX12_lengthOf 15 = .ok (.istore_n 2, 1) := by decide +kernel
theorem dX12_lengthOf_16 : decode cX12_lengthOf 16 = .ok (.goto (-12), 3) := by decide +kernel
theorem dX12_lengthOf_19 : decode cX12_lengthOf 19 = .ok (.iload_n 1, 1) := by decide +kernel
theorem dX12_lengthOf_20 : decode cX12_lengthOf 20 = .ok (.ireturn, 1) := by decide +kernel
theorem dX12_costOf_0 : decode cX12_costOf 0 = .ok (.iload_n 0, 1) := by decide +kernel
theorem dX12_costOf_1 : decode cX12_costOf 1 = .ok (.iconst 2, 1) := by decide +kernel
theorem dX12_costOf_2 : decode cX12_costOf 2 = .ok (.if_icmp .ge 7, 3) := by decide +kernel
theorem dX12_costOf_5 : decode cX12_costOf 5 = .ok (.iconst 0, 1) := by decide +kernel
theorem dX12_costOf_6 : decode cX12_costOf 6 = .ok (.goto 14, 3) := by decide +kernel
theorem dX12_costOf_9 : decode cX12_costOf 9 = .ok (.iload_n 0, 1) := by decide +kernel
theorem dX12_costOf_10 : decode cX12_costOf 10 = .ok (.invokestatic 85, 3) := by decide +kernel
theorem dX12_costOf_13 : decode cX12_costOf 13 = .ok (.iload_n 0, 1) := by decide +kernel
theorem dX12_costOf_14 : decode cX12_costOf 14 = .ok (.invokestatic 89, 3) := by decide +kernel
theorem dX12_costOf_17 : decode cX12_costOf 17 = .ok (.iadd, 1) := by decide +kernel
theorem dX12_costOf_18 : decode cX12_costOf 18 = .ok (.iconst 1, 1) := by decide +kernel
theorem dX12_costOf_19 : decode cX12_costOf 19 = .ok (.isub, 1) := by decide +kernel
theorem dX12_costOf_20 : decode cX12_costOf 20 = .ok (.ireturn, 1) := by decide +kernel
theorem dX12_cut_0 : decode cX12_cut 0 = .ok (.iload_n 0, 1) := by decide +kernel
theorem dX12_cut_1 : decode cX12_cut 1 = .ok (.iconst 0, 1) := by decide +kernel
theorem dX12_cut_2 : decode cX12_cut 2 = .ok (.iload_n 0, 1) := by decide +kernel
theorem dX12_cut_3 : decode cX12_cut 3 = .ok (.invokestatic 85, 3) := by decide +kernel
theorem dX12_cut_6 : decode cX12_cut 6 = .ok (.iload_n 1, 1) := by decide +kernel
theorem dX12_cut_7 : decode cX12_cut 7 = .ok (.isub, 1) := by decide +kernel
theorem dX12_cut_8 : decode cX12_cut 8 = .ok (.invokestatic 94, 3) := by decide +kernel
theorem dX12_cut_11 : decode cX12_cut 11 = .ok (.ishr, 1) := by decide +kernel
theorem dX12_cut_12 : decode cX12_cut 12 = .ok (.ireturn, 1) := by decide +kernel
theorem dX12_isBegin_0 : decode cX12_isBegin 0 = .ok (.iload_n 0, 1) := by decide +kernel
theorem dX12_isBegin_1 : decode cX12_isBegin 1 = .ok (.invokestatic 85, 3) := by decide +kernel
theorem dX12_isBegin_4 : decode cX12_isBegin 4 = .ok (.iload_n 1, 1) := by decide +kernel
theorem dX12_isBegin_5 : decode cX12_isBegin 5 = .ok (.invokestatic 85, 3) := by decide +kernel
theorem dX12_isBegin_8 : decode cX12_isBegin 8 = .ok (.if_icmp .gt 19, 3) := by decide +kernel
theorem dX12_isBegin_11 : decode cX12_isBegin 11 = .ok (.iload_n 1, 1) := by decide +kernel
theorem dX12_isBegin_12 : decode cX12_isBegin 12 = .ok (.iload_n 0, 1) := by decide +kernel
theorem dX12_isBegin_13 : decode cX12_isBegin 13 = .ok (.invokestatic 85, 3) := by decide +kernel
theorem dX12_isBegin_16 : decode cX12_isBegin 16 = .ok (.invokestatic 99, 3) := by decide +kernel
theorem dX12_isBegin_19 : decode cX12_isBegin 19 = .ok (.iload_n 0, 1) := by decide +kernel
theorem dX12_isBegin_20 : decode cX12_isBegin 20 = .ok (.if_icmp .ne 7, 3) := by decide +kernel
theorem dX12_isBegin_23 : decode cX12_isBegin 23 = .ok (.iconst 1, 1) := by decide +kernel
theorem dX12_isBegin_24 : decode cX12_isBegin 24 = .ok (.goto 4, 3) := by decide +kernel
theorem dX12_isBegin_27 : decode cX12_isBegin 27 = .ok (.iconst 0, 1) := by decide +kernel
theorem dX12_isBegin_28 : decode cX12_isBegin 28 = .ok (.ireturn, 1) := by decide +kernel
theorem dX12_feed_0 : decode cX12_feed 0 = .ok (.aload_n 0, 1) := by decide +kernel
theorem dX12_feed_1 : decode cX12_feed 1 = .ok (.iconst 0, 1) := by decide +kernel
theorem dX12_feed_2 : decode cX12_feed 2 = .ok (.putfield 3, 3) := by decide +kernel
theorem dX12_feed_5 : decode cX12_feed 5 = .ok (.aload_n 0, 1) := by decide +kernel
theorem dX12_feed_6 : decode cX12_feed 6 = .ok (.getfield 102, 3) := by decide +kernel
theorem dX12_feed_9 : decode cX12_feed 9 = .ok (.bipush 20, 2) := by decide +kernel
theorem dX12_feed_11 : decode cX12_feed 11 = .ok (.iadd, 1) := by decide +kernel
theorem dX12_feed_12 : decode cX12_feed 12 = .ok (.sipush 400, 3) := by decide +kernel
theorem dX12_feed_15 : decode cX12_feed 15 = .ok (.if_icmp .le 5, 3) := by decide +kernel
theorem dX12_feed_18 : decode cX12_feed 18 = .ok (.iconst (-1), 1) := by decide +kernel
theorem dX12_feed_19 : decode cX12_feed 19 = .ok (.ireturn, 1) := by decide +kernel
theorem dX12_feed_20 : decode cX12_feed 20 = .ok (.aload_n 0, 1) := by decide +kernel
theorem dX12_feed_21 : decode cX12_feed 21 = .ok (.getfield 30, 3) := by decide +kernel
theorem dX12_feed_24 : decode cX12_feed 24 = .ok (.iconst 0, 1) := by decide +kernel
theorem dX12_feed_25 : decode cX12_feed 25 = .ok (.iload_n 1, 1) := by decide +kernel
theorem dX12_feed_26 : decode cX12_feed 26 = .ok (.iastore, 1) := by decide +kernel
theorem dX12_feed_27 : decode cX12_feed 27 = .ok (.aload_n 0, 1) := by decide +kernel
theorem dX12_feed_28 : decode cX12_feed 28 = .ok (.getfield 30, 3) := by decide +kernel
theorem dX12_feed_31 : decode cX12_feed 31 = .ok (.iconst 1, 1) := by decide +kernel
theorem dX12_feed_32 : decode cX12_feed 32 = .ok (.iload_n 2, 1) := by decide +kernel
theorem dX12_feed_33 : decode cX12_feed 33 = .ok (.iastore, 1) := by decide +kernel
theorem dX12_feed_34 : decode cX12_feed 34 = .ok (.aload_n 0, 1) := by decide +kernel
theorem dX12_feed_35 : decode cX12_feed 35 = .ok (.getfield 30, 3) := by decide +kernel
theorem dX12_feed_38 : decode cX12_feed 38 = .ok (.iconst 2, 1) := by decide +kernel
theorem dX12_feed_39 : decode cX12_feed 39 = .ok (.iload_n 3, 1) := by decide +kernel
theorem dX12_feed_40 : decode cX12_feed 40 = .ok (.iastore, 1) := by decide +kernel
theorem dX12_feed_41 : decode cX12_feed 41 = .ok (.aload_n 0, 1) := by decide +kernel
theorem dX12_feed_42 : decode cX12_feed 42 = .ok (.getfield 30, 3) := by decide +kernel
theorem dX12_feed_45 : decode cX12_feed 45 = .ok (.iconst 3, 1) := by decide +kernel
theorem dX12_feed_46 : decode cX12_feed 46 = .ok (.iload 4, 2) := by decide +kernel
theorem dX12_feed_48 : decode cX12_feed 48 = .ok (.iastore, 1) := by decide +kernel
theorem dX12_feed_49 : decode cX12_feed 49 = .ok (.aload_n 0, 1) := by decide +kernel
theorem dX12_feed_50 : decode cX12_feed 50 = .ok (.getfield 30, 3) := by decide +kernel
theorem dX12_feed_53 : decode cX12_feed 53 = .ok (.iconst 4, 1) := by decide +kernel
theorem dX12_feed_54 : decode cX12_feed 54 = .ok (.iload 5, 2) := by decide +kernel
theorem dX12_feed_56 : decode cX12_feed 56 = .ok (.iastore, 1) := by decide +kernel
theorem dX12_feed_57 : decode cX12_feed 57 = .ok (.iconst 0, 1) := by decide +kernel
theorem dX12_feed_58 : decode cX12_feed 58 = .ok (.istore 6, 2) := by decide +kernel
theorem dX12_feed_60 : decode cX12_feed 60 = .ok (.iload 6, 2) := by decide +kernel
theorem dX12_feed_62 : decode cX12_feed 62 = .ok (.bipush 20, 2) := by decide +kernel
theorem dX12_feed_64 : decode cX12_feed 64 = .ok (.if_icmp .ge 42, 3) := by decide +kernel
theorem dX12_feed_67 : decode cX12_feed 67 = .ok (.aload_n 0, 1) := by decide +kernel
theorem dX12_feed_68 : decode cX12_feed 68 = .ok (.getfield 23, 3) := by decide +kernel
theorem dX12_feed_71 : decode cX12_feed 71 = .ok (.aload_n 0, 1) := by decide +kernel
theorem dX12_feed_72 : decode cX12_feed 72 = .ok (.getfield 102, 3) := by decide +kernel
theorem dX12_feed_75 : decode cX12_feed 75 = .ok (.iload 6, 2) := by decide +kernel
theorem dX12_feed_77 : decode cX12_feed 77 = .ok (.iadd, 1) := by decide +kernel
theorem dX12_feed_78 : decode cX12_feed 78 = .ok (.aload_n 0, 1) := by decide +kernel
theorem dX12_feed_79 : decode cX12_feed 79 = .ok (.getfield 30, 3) := by decide +kernel
theorem dX12_feed_82 : decode cX12_feed 82 = .ok (.iload 6, 2) := by decide +kernel
theorem dX12_feed_84 : decode cX12_feed 84 = .ok (.iconst 4, 1) := by decide +kernel
theorem dX12_feed_85 : decode cX12_feed 85 = .ok (.idiv, 1) := by decide +kernel
theorem dX12_feed_86 : decode cX12_feed 86 = .ok (.iaload, 1) := by decide +kernel
theorem dX12_feed_87 : decode cX12_feed 87 = .ok (.bipush 24, 2) := by decide +kernel
theorem dX12_feed_89 : decode cX12_feed 89 = .ok (.bipush 8, 2) := by decide +kernel
theorem dX12_feed_91 : decode cX12_feed 91 = .ok (.iload 6, 2) := by decide +kernel
theorem dX12_feed_93 : decode cX12_feed 93 = .ok (.iconst 4, 1) := by decide +kernel
theorem dX12_feed_94 : decode cX12_feed 94 = .ok (.irem, 1) := by decide +kernel
theorem dX12_feed_95 : decode cX12_feed 95 = .ok (.imul, 1) := by decide +kernel
theorem dX12_feed_96 : decode cX12_feed 96 = .ok (.isub, 1) := by decide +kernel
theorem dX12_feed_97 : decode cX12_feed 97 = .ok (.ishr, 1) := by decide +kernel
theorem dX12_feed_98 : decode cX12_feed 98 = .ok (.i2b, 1) := by decide +kernel
theorem dX12_feed_99 : decode cX12_feed 99 = .ok (.bastore, 1) := by decide +kernel
theorem dX12_feed_100 : decode cX12_feed 100 = .ok (.iinc 6 1, 3) := by decide +kernel
theorem dX12_feed_103 : decode cX12_feed 103 = .ok (.goto (-43), 3) := by decide +kernel
theorem dX12_feed_106 : decode cX12_feed 106 = .ok (.aload_n 0, 1) := by decide +kernel
theorem dX12_feed_107 : decode cX12_feed 107 = .ok (.dup, 1) := by decide +kernel
theorem dX12_feed_108 : decode cX12_feed 108 = .ok (.getfield 102, 3) := by decide +kernel
theorem dX12_feed_111 : decode cX12_feed 111 = .ok (.bipush 20, 2) := by decide +kernel
theorem dX12_feed_113 : decode cX12_feed 113 = .ok (.iadd, 1) := by decide +kernel
theorem dX12_feed_114 : decode cX12_feed 114 = .ok (.putfield 102, 3) := by decide +kernel
theorem dX12_feed_117 : decode cX12_feed 117 = .ok (.aload_n 0, 1) := by decide +kernel
theorem dX12_feed_118 : decode cX12_feed 118 = .ok (.getfield 102, 3) := by decide +kernel
theorem dX12_feed_121 : decode cX12_feed 121 = .ok (.ireturn, 1) := by decide +kernel
theorem dX12_end_0 : decode cX12_end 0 = .ok (.aload_n 0, 1) := by decide +kernel
theorem dX12_end_1 : decode cX12_end 1 = .ok (.iconst 0, 1) := by decide +kernel
theorem dX12_end_2 : decode cX12_end 2 = .ok (.putfield 3, 3) := by decide +kernel
theorem dX12_end_5 : decode cX12_end 5 = .ok (.iload_n 1, 1) := by decide +kernel
theorem dX12_end_6 : decode cX12_end 6 = .ok (.ifCond .lt 11, 3) := by decide +kernel
theorem dX12_end_9 : decode cX12_end 9 = .ok (.iload_n 1, 1) := by decide +kernel
theorem dX12_end_10 : decode cX12_end 10 = .ok (.aload_n 0, 1) := by decide +kernel
theorem dX12_end_11 : decode cX12_end 11 = .ok (.getfield 102, 3) := by decide +kernel
theorem dX12_end_14 : decode cX12_end 14 = .ok (.if_icmp .le 5, 3) := by decide +kernel
theorem dX12_end_17 : decode cX12_end 17 = .ok (.iconst 0, 1) := by decide +kernel
theorem dX12_end_18 : decode cX12_end 18 = .ok (.ireturn, 1) := by decide +kernel
theorem dX12_end_19 : decode cX12_end 19 = .ok (.aload_n 0, 1) := by decide +kernel
theorem dX12_end_20 : decode cX12_end 20 = .ok (.iload_n 1, 1) := by decide +kernel
theorem dX12_end_21 : decode cX12_end 21 = .ok (.putfield 102, 3) := by decide +kernel
theorem dX12_end_24 : decode cX12_end 24 = .ok (.iconst 1, 1) := by decide +kernel
theorem dX12_end_25 : decode cX12_end 25 = .ok (.ireturn, 1) := by decide +kernel
theorem dX12_isAt_0 : decode cX12_isAt 0 = .ok (.aload_n 0, 1) := by decide +kernel
theorem dX12_isAt_1 : decode cX12_isAt 1 = .ok (.getfield 105, 3) := by decide +kernel
theorem dX12_isAt_4 : decode cX12_isAt 4 = .ok (.aload_n 0, 1) := by decide +kernel
theorem dX12_isAt_5 : decode cX12_isAt 5 = .ok (.getfield 108, 3) := by decide +kernel
theorem dX12_isAt_8 : decode cX12_isAt 8 = .ok (.if_icmp .ge 33, 3) := by decide +kernel
theorem dX12_isAt_11 : decode cX12_isAt 11 = .ok (.aload_n 0, 1) := by decide +kernel
theorem dX12_isAt_12 : decode cX12_isAt 12 = .ok (.getfield 23, 3) := by decide +kernel
theorem dX12_isAt_15 : decode cX12_isAt 15 = .ok (.aload_n 0, 1) := by decide +kernel
theorem dX12_isAt_16 : decode cX12_isAt 16 = .ok (.getfield 105, 3) := by decide +kernel
theorem dX12_isAt_19 : decode cX12_isAt 19 = .ok (.baload, 1) := by decide +kernel
theorem dX12_isAt_20 : decode cX12_isAt 20 = .ok (.iload_n 1, 1) := by decide +kernel
theorem dX12_isAt_21 : decode cX12_isAt 21 = .ok (.if_icmp .lt 20, 3) := by decide +kernel
theorem dX12_isAt_24 : decode cX12_isAt 24 = .ok (.aload_n 0, 1) := by decide +kernel
theorem dX12_isAt_25 : decode cX12_isAt 25 = .ok (.getfield 23, 3) := by decide +kernel
theorem dX12_isAt_28 : decode cX12_isAt 28 = .ok (.aload_n 0, 1) := by decide +kernel
theorem dX12_isAt_29 : decode cX12_isAt 29 = .ok (.getfield 105, 3) := by decide +kernel
theorem dX12_isAt_32 : decode cX12_isAt 32 = .ok (.baload, 1) := by decide +kernel
theorem dX12_isAt_33 : decode cX12_isAt 33 = .ok (.iload_n 2, 1) := by decide +kernel
theorem dX12_isAt_34 : decode cX12_isAt 34 = .ok (.if_icmp .gt 7, 3) := by decide +kernel
theorem dX12_isAt_37 : decode cX12_isAt 37 = .ok (.iconst 1, 1) := by decide +kernel
theorem dX12_isAt_38 : decode cX12_isAt 38 = .ok (.goto 4, 3) := by decide +kernel
theorem dX12_isAt_41 : decode cX12_isAt 41 = .ok (.iconst 0, 1) := by decide +kernel
theorem dX12_isAt_42 : decode cX12_isAt 42 = .ok (.ireturn, 1) := by decide +kernel
theorem dX12_blanks_0 : decode cX12_blanks 0 = .ok (.aload_n 0, 1) := by decide +kernel
theorem dX12_blanks_1 : decode cX12_blanks 1 = .ok (.bipush 32, 2) := by decide +kernel
theorem dX12_blanks_3 : decode cX12_blanks 3 = .ok (.bipush 32, 2) := by decide +kernel
theorem dX12_blanks_5 : decode cX12_blanks 5 = .ok (.invokevirtual 111, 3) := by decide +kernel
theorem dX12_blanks_8 : decode cX12_blanks 8 = .ok (.ifCond .eq 16, 3) := by decide +kernel
theorem dX12_blanks_11 : decode cX12_blanks 11 = .ok (.aload_n 0, 1) := by decide +kernel
theorem dX12_blanks_12 : decode cX12_blanks 12 = .ok (.dup, 1) := by decide +kernel
theorem dX12_blanks_13 : decode cX12_blanks 13 = .ok (.getfield 105, 3) := by decide +kernel
theorem dX12_blanks_16 : decode cX12_blanks 16 = .ok (.iconst 1, 1) := by decide +kernel
theorem dX12_blanks_17 : decode cX12_blanks 17 = .ok (.iadd, 1) := by decide +kernel
theorem dX12_blanks_18 : decode cX12_blanks 18 = .ok (.putfield 105, 3) := by decide +kernel
theorem dX12_blanks_21 : decode cX12_blanks 21 = .ok (.goto (-21), 3) := by decide +kernel
theorem dX12_blanks_24 : decode cX12_blanks 24 = .ok (.aload_n 0, 1) := by decide +kernel
theorem dX12_blanks_25 : decode cX12_blanks 25 = .ok (.aload_n 0, 1) := by decide +kernel
theorem dX12_blanks_26 : decode cX12_blanks 26 = .ok (.getfield 105, 3) := by decide +kernel
theorem dX12_blanks_29 : decode cX12_blanks 29 = .ok (.putfield 115, 3) := by decide +kernel
theorem dX12_blanks_32 : decode cX12_blanks 32 = .ok (.return_, 1) := by decide +kernel
theorem dX12_letters_0 : decode cX12_letters 0 = .ok (.aload_n 0, 1) := by decide +kernel
theorem dX12_letters_1 : decode cX12_letters 1 = .ok (.invokevirtual 118, 3) := by decide +kernel
theorem dX12_letters_4 : decode cX12_letters 4 = .ok (.aload_n 0, 1) := by decide +kernel
theorem dX12_letters_5 : decode cX12_letters 5 = .ok (.bipush 97, 2) := by decide +kernel
theorem dX12_letters_7 : decode cX12_letters 7 = .ok (.bipush 122, 2) := by decide +kernel
theorem dX12_letters_9 : decode cX12_letters 9 = .ok (.invokevirtual 111, 3) := by decide +kernel
theorem dX12_letters_12 : decode cX12_letters 12 = .ok (.ifCond .eq 16, 3) := by decide +kernel
theorem dX12_letters_15 : decode cX12_letters 15 = .ok (.aload_n 0, 1) := by decide +kernel
theorem dX12_letters_16 : decode cX12_letters 16 = .ok (.dup, 1) := by decide +kernel
theorem dX12_letters_17 : decode cX12_letters 17 = .ok (.getfield 105, 3) := by decide +kernel
theorem dX12_letters_20 : decode cX12_letters 20 = .ok (.iconst 1, 1) := by decide +kernel
theorem dX12_letters_21 : decode cX12_letters 21 = .ok (.iadd, 1) := by decide +kernel
theorem dX12_letters_22 : decode cX12_letters 22 = .ok (.putfield 105, 3) := by decide +kernel
theorem dX12_letters_25 : decode cX12_letters 25 = .ok (.goto (-21), 3) := by decide +kernel
theorem dX12_letters_28 : decode cX12_letters 28 = .ok (.return_, 1) := by decide +kernel
theorem dX12_isWord_0 : decode cX12_isWord 0 = .ok (.aload_n 0, 1) := by decide +kernel
theorem dX12_isWord_1 : decode cX12_isWord 1 = .ok (.getfield 105, 3) := by decide +kernel
theorem dX12_isWord_4 : decode cX12_isWord 4 = .ok (.aload_n 0, 1) := by decide +kernel
theorem dX12_isWord_5 : decode cX12_isWord 5 = .ok (.getfield 115, 3) := by decide +kernel
theorem dX12_isWord_8 : decode cX12_isWord 8 = .ok (.isub, 1) := by decide +kernel
theorem dX12_isWord_9 : decode cX12_isWord 9 = .ok (.aload_n 1, 1) := by decide +kernel
theorem dX12_isWord_10 : decode cX12_isWord 10 = .ok (.invokevirtual 121, 3) := by decide +kernel
theorem dX12_isWord_13 : decode cX12_isWord 13 = .ok (.if_icmp .ne 7, 3) := by decide +kernel
theorem dX12_isWord_16 : decode cX12_isWord 16 = .ok (.iconst 1, 1) := by decide +kernel
theorem dX12_isWord_17 : decode cX12_isWord 17 = .ok (.goto 4, 3) := by decide +kernel
theorem dX12_isWord_20 : decode cX12_isWord 20 = .ok (.iconst 0, 1) := by decide +kernel
theorem dX12_isWord_21 : decode cX12_isWord 21 = .ok (.istore_n 2, 1) := by decide +kernel
theorem dX12_isWord_22 : decode cX12_isWord 22 = .ok (.iconst 0, 1) := by decide +kernel
theorem dX12_isWord_23 : decode cX12_isWord 23 = .ok (.istore_n 3, 1) := by decide +kernel
theorem dX12_isWord_24 : decode cX12_isWord 24 = .ok (.iload_n 2, 1) := by decide +kernel
theorem dX12_isWord_25 : decode cX12_isWord 25 = .ok (.ifCond .eq 42, 3) := by decide +kernel
theorem dX12_isWord_28 : decode cX12_isWord 28 = .ok (.iload_n 3, 1) := by decide +kernel
theorem dX12_isWord_29 : decode cX12_isWord 29 = .ok (.aload_n 1, 1) := by decide +kernel
theorem dX12_isWord_30 : decode cX12_isWord 30 = .ok (.invokevirtual 121, 3) := by decide +kernel
theorem dX12_isWord_33 : decode cX12_isWord 33 = .ok (.if_icmp .ge 34, 3) := by decide +kernel
theorem dX12_isWord_36 : decode cX12_isWord 36 = .ok (.aload_n 0, 1) := by decide +kernel
theorem dX12_isWord_37 : decode cX12_isWord 37 = .ok (.getfield 23, 3) := by decide +kernel
theorem dX12_isWord_40 : decode cX12_isWord 40 = .ok (.aload_n 0, 1) := by decide +kernel
theorem dX12_isWord_41 : decode cX12_isWord 41 = .ok (.getfield 115, 3) := by decide +kernel
theorem dX12_isWord_44 : decode cX12_isWord 44 = .ok (.iload_n 3, 1) := by decide +kernel
theorem dX12_isWord_45 : decode cX12_isWord 45 = .ok (.iadd, 1) := by decide +kernel
theorem dX12_isWord_46 : decode cX12_isWord 46 = .ok (.baload, 1) := by decide +kernel
theorem dX12_isWord_47 : decode cX12_isWord 47 = .ok (.aload_n 1, 1) := by decide +kernel
theorem dX12_isWord_48 : decode cX12_isWord 48 = .ok (.iload_n 3, 1) := by decide +kernel
theorem dX12_isWord_49 : decode cX12_isWord 49 = .ok (.invokevirtual 126, 3) := by decide +kernel
theorem dX12_isWord_52 : decode cX12_isWord 52 = .ok (.if_icmp .ne 7, 3) := by decide +kernel
theorem dX12_isWord_55 : decode cX12_isWord 55 = .ok (.iconst 1, 1) := by decide +kernel
theorem dX12_isWord_56 : decode cX12_isWord 56 = .ok (.goto 4, 3) := by decide +kernel
theorem dX12_isWord_59 : decode cX12_isWord 59 = .ok (.iconst 0, 1) := by decide +kernel
theorem dX12_isWord_60 : decode cX12_isWord 60 = .ok (.istore_n 2, 1) := by decide +kernel
theorem dX12_isWord_61 : decode cX12_isWord 61 = .ok (.iinc 3 1, 3) := by decide +kernel
theorem dX12_isWord_64 : decode cX12_isWord 64 = .ok (.goto (-40), 3) := by decide +kernel
theorem dX12_isWord_67 : decode cX12_isWord 67 = .ok (.iload_n 2, 1) := by decide +kernel
theorem dX12_isWord_68 : decode cX12_isWord 68 = .ok (.ireturn, 1) := by decide +kernel
theorem dX12_passes_0 : decode cX12_passes 0 = .ok (.aload_n 0, 1) := by decide +kernel
theorem dX12_passes_1 : decode cX12_passes 1 = .ok (.invokevirtual 130, 3) := by decide +kernel
theorem dX12_passes_4 : decode cX12_passes 4 = .ok (.aload_n 0, 1) := by decide +kernel
theorem dX12_passes_5 : decode cX12_passes 5 = .ok (.aload_n 1, 1) := by decide +kernel
theorem dX12_passes_6 : decode cX12_passes 6 = .ok (.invokevirtual 133, 3) := by decide +kernel
theorem dX12_passes_9 : decode cX12_passes 9 = .ok (.ifCond .eq 5, 3) := by decide +kernel
theorem dX12_passes_12 : decode cX12_passes 12 = .ok (.iconst 1, 1) := by decide +kernel
theorem dX12_passes_13 : decode cX12_passes 13 = .ok (.ireturn, 1) := by decide +kernel
theorem dX12_passes_14 : decode cX12_passes 14 = .ok (.aload_n 0, 1) := by decide +kernel
theorem dX12_passes_15 : decode cX12_passes 15 = .ok (.aload_n 0, 1) := by decide +kernel
theorem dX12_passes_16 : decode cX12_passes 16 = .ok (.getfield 115, 3) := by decide +kernel
theorem dX12_passes_19 : decode cX12_passes 19 = .ok (.putfield 105, 3) := by decide +kernel
theorem dX12_passes_22 : decode cX12_passes 22 = .ok (.iconst 0, 1) := by decide +kernel
theorem dX12_passes_23 : decode cX12_passes 23 = .ok (.ireturn, 1) := by decide +kernel
theorem dX12_sign_0 : decode cX12_sign 0 = .ok (.aload_n 0, 1) := by decide +kernel
theorem dX12_sign_1 : decode cX12_sign 1 = .ok (.invokevirtual 118, 3) := by decide +kernel
theorem dX12_sign_4 : decode cX12_sign 4 = .ok (.aload_n 0, 1) := by decide +kernel
theorem dX12_sign_5 : decode cX12_sign 5 = .ok (.iload_n 1, 1) := by decide +kernel
theorem dX12_sign_6 : decode cX12_sign 6 = .ok (.iload_n 1, 1) := by decide +kernel
theorem dX12_sign_7 : decode cX12_sign 7 = .ok (.invokevirtual 111, 3) := by decide +kernel
theorem dX12_sign_10 : decode cX12_sign 10 = .ok (.ifCond .ne 5, 3) := by decide +kernel
theorem dX12_sign_13 : decode cX12_sign 13 = .ok (.iconst 0, 1) := by decide +kernel
theorem dX12_sign_14 : decode cX12_sign 14 = .ok (.ireturn, 1) := by decide +kernel
theorem dX12_sign_15 : decode cX12_sign 15 = .ok (.aload_n 0, 1) := by decide +kernel
theorem dX12_sign_16 : decode cX12_sign 16 = .ok (.dup, 1) := by decide +kernel
theorem dX12_sign_17 : decode cX12_sign 17 = .ok (.getfield 105, 3) := by decide +kernel
theorem dX12_sign_20 : decode cX12_sign 20 = .ok (.iconst 1, 1) := by decide +kernel
theorem dX12_sign_21 : decode cX12_sign 21 = .ok (.iadd, 1) := by decide +kernel
theorem dX12_sign_22 : decode cX12_sign 22 = .ok (.putfield 105, 3) := by decide +kernel
theorem dX12_sign_25 : decode cX12_sign 25 = .ok (.iconst 1, 1) := by decide +kernel
theorem dX12_sign_26 : decode cX12_sign 26 = .ok (.ireturn, 1) := by decide +kernel
theorem dX12_number_0 : decode cX12_number 0 = .ok (.aload_n 0, 1) := by decide +kernel
theorem dX12_number_1 : decode cX12_number 1 = .ok (.invokevirtual 118, 3) := by decide +kernel
theorem dX12_number_4 : decode cX12_number 4 = .ok (.iconst 0, 1) := by decide +kernel
theorem dX12_number_5 : decode cX12_number 5 = .ok (.istore_n 3, 1) := by decide +kernel
theorem dX12_number_6 : decode cX12_number 6 = .ok (.aload_n 0, 1) := by decide +kernel
theorem dX12_number_7 : decode cX12_number 7 = .ok (.bipush 48, 2) := by decide +kernel
theorem dX12_number_9 : decode cX12_number 9 = .ok (.bipush 57, 2) := by decide +kernel
theorem dX12_number_11 : decode cX12_number 11 = .ok (.invokevirtual 111, 3) := by decide +kernel
theorem dX12_number_14 : decode cX12_number 14 = .ok (.ifCond .eq 51, 3) := by decide +kernel
theorem dX12_number_17 : decode cX12_number 17 = .ok (.aload_n 0, 1) := by decide +kernel
theorem dX12_number_18 : decode cX12_number 18 = .ok (.getfield 105, 3) := by decide +kernel
theorem dX12_number_21 : decode cX12_number 21 = .ok (.aload_n 0, 1) := by decide +kernel
theorem dX12_number_22 : decode cX12_number 22 = .ok (.getfield 115, 3) := by decide +kernel
theorem dX12_number_25 : decode cX12_number 25 = .ok (.isub, 1) := by decide +kernel
theorem dX12_number_26 : decode cX12_number 26 = .ok (.iconst 3, 1) := by decide +kernel
theorem dX12_number_27 : decode cX12_number 27 = .ok (.if_icmp .ge 23, 3) := by decide +kernel
theorem dX12_number_30 : decode cX12_number 30 = .ok (.bipush 10, 2) := by decide +kernel
theorem dX12_number_32 : decode cX12_number 32 = .ok (.iload_n 3, 1) := by decide +kernel
theorem dX12_number_33 : decode cX12_number 33 = .ok (.imul, 1) := by decide +kernel
theorem dX12_number_34 : decode cX12_number 34 = .ok (.aload_n 0, 1) := by decide +kernel
theorem dX12_number_35 : decode cX12_number 35 = .ok (.getfield 23, 3) := by decide +kernel
theorem dX12_number_38 : decode cX12_number 38 = .ok (.aload_n 0, 1) := by decide +kernel
theorem dX12_number_39 : decode cX12_number 39 = .ok (.getfield 105, 3) := by decide +kernel
theorem dX12_number_42 : decode cX12_number 42 = .ok (.baload, 1) := by decide +kernel
theorem dX12_number_43 : decode cX12_number 43 = .ok (.iadd, 1) := by decide +kernel
theorem dX12_number_44 : decode cX12_number 44 = .ok (.bipush 48, 2) := by decide +kernel
theorem dX12_number_46 : decode cX12_number 46 = .ok (.isub, 1) := by decide +kernel
theorem dX12_number_47 : decode cX12_number 47 = .ok (.goto 4, 3) := by decide +kernel
theorem dX12_number_50 : decode cX12_number 50 = .ok (.iload_n 3, 1) := by decide +kernel
theorem dX12_number_51 : decode cX12_number 51 = .ok (.istore_n 3, 1) := by decide +kernel
theorem dX12_number_52 : decode cX12_number 52 = .ok (.aload_n 0, 1) := by decide +kernel
theorem dX12_number_53 : decode cX12_number 53 = .ok (.dup, 1) := by decide +kernel
theorem dX12_number_54 : decode cX12_number 54 = .ok (.getfield 105, 3) := by decide +kernel
theorem dX12_number_57 : decode cX12_number 57 = .ok (.iconst 1, 1) := by decide +kernel
theorem dX12_number_58 : decode cX12_number 58 = .ok (.iadd, 1) := by decide +kernel
theorem dX12_number_59 : decode cX12_number 59 = .ok (.putfield 105, 3) := by decide +kernel
theorem dX12_number_62 : decode cX12_number 62 = .ok (.goto (-56), 3) := by decide +kernel
theorem dX12_number_65 : decode cX12_number 65 = .ok (.aload_n 0, 1) := by decide +kernel
theorem dX12_number_66 : decode cX12_number 66 = .ok (.getfield 105, 3) := by decide +kernel
theorem dX12_number_69 : decode cX12_number 69 = .ok (.aload_n 0, 1) := by decide +kernel
theorem dX12_number_70 : decode cX12_number 70 = .ok (.getfield 115, 3) := by decide +kernel
theorem dX12_number_73 : decode cX12_number 73 = .ok (.if_icmp .eq 26, 3) := by decide +kernel
theorem dX12_number_76 : decode cX12_number 76 = .ok (.aload_n 0, 1) := by decide +kernel
theorem dX12_number_77 : decode cX12_number 77 = .ok (.getfield 105, 3) := by decide +kernel
theorem dX12_number_80 : decode cX12_number 80 = .ok (.aload_n 0, 1) := by decide +kernel
theorem dX12_number_81 : decode cX12_number 81 = .ok (.getfield 115, 3) := by decide +kernel
theorem dX12_number_84 : decode cX12_number 84 = .ok (.isub, 1) := by decide +kernel
theorem dX12_number_85 : decode cX12_number 85 = .ok (.iconst 3, 1) := by decide +kernel
theorem dX12_number_86 : decode cX12_number 86 = .ok (.if_icmp .gt 13, 3) := by decide +kernel
theorem dX12_number_89 : decode cX12_number 89 = .ok (.iload_n 3, 1) := by decide +kernel
theorem dX12_number_90 : decode cX12_number 90 = .ok (.iload_n 1, 1) := by decide +kernel
theorem dX12_number_91 : decode cX12_number 91 = .ok (.if_icmp .lt 8, 3) := by decide +kernel
theorem dX12_number_94 : decode cX12_number 94 = .ok (.iload_n 3, 1) := by decide +kernel
theorem dX12_number_95 : decode cX12_number 95 = .ok (.iload_n 2, 1) := by decide +kernel
theorem dX12_number_96 : decode cX12_number 96 = .ok (.if_icmp .le 7, 3) := by decide +kernel
theorem dX12_number_99 : decode cX12_number 99 = .ok (.iconst (-1), 1) := by decide +kernel
theorem dX12_number_100 : decode cX12_number 100 = .ok (.goto 4, 3) := by decide +kernel
theorem dX12_number_103 : decode cX12_number 103 = .ok (.iload_n 3, 1) := by decide +kernel
theorem dX12_number_104 : decode cX12_number 104 = .ok (.ireturn, 1) := by decide +kernel
theorem dX12_fault_0 : decode cX12_fault 0 = .ok (.aload_n 0, 1) := by decide +kernel
theorem dX12_fault_1 : decode cX12_fault 1 = .ok (.iconst 0, 1) := by decide +kernel
theorem dX12_fault_2 : decode cX12_fault 2 = .ok (.putfield 3, 3) := by decide +kernel
theorem dX12_fault_5 : decode cX12_fault 5 = .ok (.aload_n 0, 1) := by decide +kernel
theorem dX12_fault_6 : decode cX12_fault 6 = .ok (.getfield 27, 3) := by decide +kernel
theorem dX12_fault_9 : decode cX12_fault 9 = .ok (.ireturn, 1) := by decide +kernel
theorem dX12_uses_0 : decode cX12_uses 0 = .ok (.aload_n 0, 1) := by decide +kernel
theorem dX12_uses_1 : decode cX12_uses 1 = .ok (.iconst 0, 1) := by decide +kernel
theorem dX12_uses_2 : decode cX12_uses 2 = .ok (.putfield 3, 3) := by decide +kernel
theorem dX12_uses_5 : decode cX12_uses 5 = .ok (.aload_n 0, 1) := by decide +kernel
theorem dX12_uses_6 : decode cX12_uses 6 = .ok (.aload_n 0, 1) := by decide +kernel
theorem dX12_uses_7 : decode cX12_uses 7 = .ok (.getfield 102, 3) := by decide +kernel
theorem dX12_uses_10 : decode cX12_uses 10 = .ok (.putfield 108, 3) := by decide +kernel
theorem dX12_uses_13 : decode cX12_uses 13 = .ok (.aload_n 0, 1) := by decide +kernel
theorem dX12_uses_14 : decode cX12_uses 14 = .ok (.iconst 0, 1) := by decide +kernel
theorem dX12_uses_15 : decode cX12_uses 15 = .ok (.putfield 102, 3) := by decide +kernel
theorem dX12_uses_18 : decode cX12_uses 18 = .ok (.aload_n 0, 1) := by decide +kernel
theorem dX12_uses_19 : decode cX12_uses 19 = .ok (.iconst 0, 1) := by decide +kernel
theorem dX12_uses_20 : decode cX12_uses 20 = .ok (.putfield 105, 3) := by decide +kernel
theorem dX12_uses_23 : decode cX12_uses 23 = .ok (.return_, 1) := by decide +kernel
theorem dX12_readHouse_0 : decode cX12_readHouse 0 = .ok (.aload_n 0, 1) := by decide +kernel
theorem dX12_readHouse_1 : decode cX12_readHouse 1 = .ok (.invokevirtual 74, 3) := by decide +kernel
theorem dX12_readHouse_4 : decode cX12_readHouse 4 = .ok (.istore_n 1, 1) := by decide +kernel
theorem dX12_readHouse_5 : decode cX12_readHouse 5 = .ok (.iload_n 1, 1) := by decide +kernel
theorem dX12_readHouse_6 : decode cX12_readHouse 6 = .ok (.bipush 8, 2) := by decide +kernel
theorem dX12_readHouse_8 : decode cX12_readHouse 8 = .ok (.if_icmp .ne 5, 3) := by decide +kernel
theorem dX12_readHouse_11 : decode cX12_readHouse 11 = .ok (.iconst 0, 1) := by decide +kernel
theorem dX12_readHouse_12 : decode cX12_readHouse 12 = .ok (.ireturn, 1) := by decide +kernel
theorem dX12_readHouse_13 : decode cX12_readHouse 13 = .ok (.iconst 0, 1) := by decide +kernel
theorem dX12_readHouse_14 : decode cX12_readHouse 14 = .ok (.istore_n 2, 1) := by decide +kernel
theorem dX12_readHouse_15 : decode cX12_readHouse 15 = .ok (.iload_n 2, 1) := by decide +kernel
theorem dX12_readHouse_16 : decode cX12_readHouse 16 = .ok (.bipush 15, 2) := by decide +kernel
theorem dX12_readHouse_18 : decode cX12_readHouse 18 = .ok (.if_icmp .ge 16, 3) := by decide +kernel
theorem dX12_readHouse_21 : decode cX12_readHouse 21 = .ok (.aload_n 0, 1) := by decide +kernel
theorem dX12_readHouse_22 : decode cX12_readHouse 22 = .ok (.iload_n 1, 1) := by decide +kernel
theorem dX12_readHouse_23 : decode cX12_readHouse 23 = .ok (.iload_n 2, 1) := by decide +kernel
theorem dX12_readHouse_24 : decode cX12_readHouse 24 = .ok (.iconst 0, 1) := by decide +kernel
theorem dX12_readHouse_25 : decode cX12_readHouse 25 = .ok (.invokevirtual 137, 3) := by decide +kernel
theorem dX12_readHouse_28 : decode cX12_readHouse 28 = .ok (.iinc 2 1, 3) := by decide +kernel
theorem dX12_readHouse_31 : decode cX12_readHouse 31 = .ok (.goto (-16), 3) := by decide +kernel
theorem dX12_readHouse_34 : decode cX12_readHouse 34 = .ok (.iconst 0, 1) := by decide +kernel
theorem dX12_readHouse_35 : decode cX12_readHouse 35 = .ok (.istore_n 2, 1) := by decide +kernel
theorem dX12_readHouse_36 : decode cX12_readHouse 36 = .ok (.iload_n 2, 1) := by decide +kernel
theorem dX12_readHouse_37 : decode cX12_readHouse 37 = .ok (.iconst 3, 1) := by decide +kernel
theorem dX12_readHouse_38 : decode cX12_readHouse 38 = .ok (.if_icmp .gt 61, 3) := by decide +kernel
theorem dX12_readHouse_41 : decode cX12_readHouse 41 = .ok (.iload_n 2, 1) := by decide +kernel
theorem dX12_readHouse_42 : decode cX12_readHouse 42 = .ok (.iconst 2, 1) := by decide +kernel
theorem dX12_readHouse_43 : decode cX12_readHouse 43 = .ok (.if_icmp .ge 13, 3) := by decide +kernel
theorem dX12_readHouse_46 : decode cX12_readHouse 46 = .ok (.aload_n 0, 1) := by decide +kernel
theorem dX12_readHouse_47 : decode cX12_readHouse 47 = .ok (.iconst 0, 1) := by decide +kernel
theorem dX12_readHouse_48 : decode cX12_readHouse 48 = .ok (.bipush 15, 2) := by decide +kernel
theorem dX12_readHouse_50 : decode cX12_readHouse 50 = .ok (.invokevirtual 141, 3) := by decide +kernel
theorem dX12_readHouse_53 : decode cX12_readHouse 53 = .ok (.goto 26, 3) := by decide +kernel
theorem dX12_readHouse_56 : decode cX12_readHouse 56 = .ok (.iload_n 2, 1) := by decide +kernel
theorem dX12_readHouse_57 : decode cX12_readHouse 57 = .ok (.iconst 2, 1) := by decide +kernel
theorem dX12_readHouse_58 : decode cX12_readHouse 58 = .ok (.if_icmp .ne 13, 3) := by decide +kernel
theorem dX12_readHouse_61 : decode cX12_readHouse 61 = .ok (.aload_n 0, 1) := by decide +kernel
theorem dX12_readHouse_62 : decode cX12_readHouse 62 = .ok (.iconst 1, 1) := by decide +kernel
theorem dX12_readHouse_63 : decode cX12_readHouse 63 = .ok (.bipush 30, 2) := by decide +kernel
theorem dX12_readHouse_65 : decode cX12_readHouse 65 = .ok (.invokevirtual 141, 3) := by decide +kernel
theorem dX12_readHouse_68 : decode cX12_readHouse 68 = .ok (.goto 11, 3) := by decide +kernel
theorem dX12_readHouse_71 : decode cX12_readHouse 71 = .ok (.aload_n 0, 1) := by decide +kernel
theorem dX12_readHouse_72 : decode cX12_readHouse 72 = .ok (.iconst 0, 1) := by decide +kernel
theorem dX12_readHouse_73 : decode cX12_readHouse 73 = .ok (.sipush 999, 3) := by decide +kernel
theorem dX12_readHouse_76 : decode cX12_readHouse 76 = .ok (.invokevirtual 141, 3) := by decide +kernel
theorem dX12_readHouse_79 : decode cX12_readHouse 79 = .ok (.istore_n 3, 1) := by decide +kernel
theorem dX12_readHouse_80 : decode cX12_readHouse 80 = .ok (.iload_n 3, 1) := by decide +kernel
theorem dX12_readHouse_81 : decode cX12_readHouse 81 = .ok (.ifCond .ge 5, 3) := by decide +kernel
theorem dX12_readHouse_84 : decode cX12_readHouse 84 = .ok (.iconst 0, 1) := by decide +kernel
theorem dX12_readHouse_85 : decode cX12_readHouse 85 = .ok (.ireturn, 1) := by decide +kernel
theorem dX12_readHouse_86 : decode cX12_readHouse 86 = .ok (.aload_n 0, 1) := by decide +kernel
theorem dX12_readHouse_87 : decode cX12_readHouse 87 = .ok (.iload_n 1, 1) := by decide +kernel
theorem dX12_readHouse_88 : decode cX12_readHouse 88 = .ok (.iload_n 2, 1) := by decide +kernel
theorem dX12_readHouse_89 : decode cX12_readHouse 89 = .ok (.iload_n 3, 1) := by decide +kernel
theorem dX12_readHouse_90 : decode cX12_readHouse 90 = .ok (.invokevirtual 137, 3) := by decide +kernel
theorem dX12_readHouse_93 : decode cX12_readHouse 93 = .ok (.iinc 2 1, 3) := by decide +kernel
theorem dX12_readHouse_96 : decode cX12_readHouse 96 = .ok (.goto (-60), 3) := by decide +kernel
theorem dX12_readHouse_99 : decode cX12_readHouse 99 = .ok (.aload_n 0, 1) := by decide +kernel
theorem dX12_readHouse_100 : decode cX12_readHouse 100 = .ok (.ldc 144, 2) := by decide +kernel
theorem dX12_readHouse_102 : decode cX12_readHouse 102 = .ok (.invokevirtual 146, 3) := by decide +kernel
theorem dX12_readHouse_105 : decode cX12_readHouse 105 = .ok (.ifCond .eq 10, 3) := by decide +kernel
theorem dX12_readHouse_108 : decode cX12_readHouse 108 = .ok (.aload_n 0, 1) := by decide +kernel
theorem dX12_readHouse_109 : decode cX12_readHouse 109 = .ok (.iload_n 1, 1) := by decide +kernel
theorem dX12_readHouse_110 : decode cX12_readHouse 110 = .ok (.iconst 4, 1) := by decide +kernel
theorem dX12_readHouse_111 : decode cX12_readHouse 111 = .ok (.iconst 1, 1) := by decide +kernel
theorem dX12_readHouse_112 : decode cX12_readHouse 112 = .ok (.invokevirtual 137, 3) := by decide +kernel
theorem dX12_readHouse_115 : decode cX12_readHouse 115 = .ok (.aload_n 0, 1) := by decide +kernel
theorem dX12_readHouse_116 : decode cX12_readHouse 116 = .ok (.getfield 13, 3) := by decide +kernel
theorem dX12_readHouse_119 : decode cX12_readHouse 119 = .ok (.iconst 0, 1) := by decide +kernel
theorem dX12_readHouse_120 : decode cX12_readHouse 120 = .ok (.dup2, 1) := by decide +kernel
theorem dX12_readHouse_121 : decode cX12_readHouse 121 = .ok (.iaload, 1) := by decide +kernel
theorem dX12_readHouse_122 : decode cX12_readHouse 122 = .ok (.iconst 1, 1) := by decide +kernel
theorem dX12_readHouse_123 : decode cX12_readHouse 123 = .ok (.iadd, 1) := by decide +kernel
theorem dX12_readHouse_124 : decode cX12_readHouse 124 = .ok (.iastore, 1) := by decide +kernel
theorem dX12_readHouse_125 : decode cX12_readHouse 125 = .ok (.iconst 1, 1) := by decide +kernel
theorem dX12_readHouse_126 : decode cX12_readHouse 126 = .ok (.ireturn, 1) := by decide +kernel
theorem dX12_readWant_0 : decode cX12_readWant 0 = .ok (.aload_n 0, 1) := by decide +kernel
theorem dX12_readWant_1 : decode cX12_readWant 1 = .ok (.invokevirtual 82, 3) := by decide +kernel
theorem dX12_readWant_4 : decode cX12_readWant 4 = .ok (.bipush 10, 2) := by decide +kernel
theorem dX12_readWant_6 : decode cX12_readWant 6 = .ok (.if_icmp .ne 5, 3) := by decide +kernel
theorem dX12_readWant_9 : decode cX12_readWant 9 = .ok (.iconst 0, 1) := by decide +kernel
theorem dX12_readWant_10 : decode cX12_readWant 10 = .ok (.ireturn, 1) := by decide +kernel
theorem dX12_readWant_11 : decode cX12_readWant 11 = .ok (.aload_n 0, 1) := by decide +kernel
theorem dX12_readWant_12 : decode cX12_readWant 12 = .ok (.iconst 1, 1) := by decide +kernel
theorem dX12_readWant_13 : decode cX12_readWant 13 = .ok (.bipush 99, 2) := by decide +kernel
theorem dX12_readWant_15 : decode cX12_readWant 15 = .ok (.invokevirtual 141, 3) := by decide +kernel
theorem dX12_readWant_18 : decode cX12_readWant 18 = .ok (.istore_n 1, 1) := by decide +kernel
theorem dX12_readWant_19 : decode cX12_readWant 19 = .ok (.aload_n 0, 1) := by decide +kernel
theorem dX12_readWant_20 : decode cX12_readWant 20 = .ok (.getfield 13, 3) := by decide +kernel
theorem dX12_readWant_23 : decode cX12_readWant 23 = .ok (.sipush 128, 3) := by decide +kernel
theorem dX12_readWant_26 : decode cX12_readWant 26 = .ok (.aload_n 0, 1) := by decide +kernel
theorem dX12_readWant_27 : decode cX12_readWant 27 = .ok (.invokevirtual 82, 3) := by decide +kernel
theorem dX12_readWant_30 : decode cX12_readWant 30 = .ok (.iadd, 1) := by decide +kernel
theorem dX12_readWant_31 : decode cX12_readWant 31 = .ok (.iload_n 1, 1) := by decide +kernel
theorem dX12_readWant_32 : decode cX12_readWant 32 = .ok (.iastore, 1) := by decide +kernel
theorem dX12_readWant_33 : decode cX12_readWant 33 = .ok (.iload_n 1, 1) := by decide +kernel
theorem dX12_readWant_34 : decode cX12_readWant 34 = .ok (.ifCond .lt 13, 3) := by decide +kernel
theorem dX12_readWant_37 : decode cX12_readWant 37 = .ok (.aload_n 0, 1) := by decide +kernel
theorem dX12_readWant_38 : decode cX12_readWant 38 = .ok (.getfield 13, 3) := by decide +kernel
theorem dX12_readWant_41 : decode cX12_readWant 41 = .ok (.iconst 1, 1) := by decide +kernel
theorem dX12_readWant_42 : decode cX12_readWant 42 = .ok (.dup2, 1) := by decide +kernel
theorem dX12_readWant_43 : decode cX12_readWant 43 = .ok (.iaload, 1) := by decide +kernel
theorem dX12_readWant_44 : decode cX12_readWant 44 = .ok (.iconst 1, 1) := by decide +kernel
theorem dX12_readWant_45 : decode cX12_readWant 45 = .ok (.iadd, 1) := by decide +kernel
theorem dX12_readWant_46 : decode cX12_readWant 46 = .ok (.iastore, 1) := by decide +kernel
theorem dX12_readWant_47 : decode cX12_readWant 47 = .ok (.iload_n 1, 1) := by decide +kernel
theorem dX12_readWant_48 : decode cX12_readWant 48 = .ok (.ifCond .lt 7, 3) := by decide +kernel
theorem dX12_readWant_51 : decode cX12_readWant 51 = .ok (.iconst 1, 1) := by decide +kernel
theorem dX12_readWant_52 : decode cX12_readWant 52 = .ok (.goto 4, 3) := by decide +kernel
theorem dX12_readWant_55 : decode cX12_readWant 55 = .ok (.iconst 0, 1) := by decide +kernel
theorem dX12_readWant_56 : decode cX12_readWant 56 = .ok (.ireturn, 1) := by decide +kernel
theorem dX12_strokesTold_0 : decode cX12_strokesTold 0 = .ok (.aload_n 0, 1) := by decide +kernel
theorem dX12_strokesTold_1 : decode cX12_strokesTold 1 = .ok (.invokevirtual 130, 3) := by decide +kernel
theorem dX12_strokesTold_4 : decode cX12_strokesTold 4 = .ok (.aload_n 0, 1) := by decide +kernel
theorem dX12_strokesTold_5 : decode cX12_strokesTold 5 = .ok (.getfield 105, 3) := by decide +kernel
theorem dX12_strokesTold_8 : decode cX12_strokesTold 8 = .ok (.aload_n 0, 1) := by decide +kernel
theorem dX12_strokesTold_9 : decode cX12_strokesTold 9 = .ok (.getfield 115, 3) := by decide +kernel
theorem dX12_strokesTold_12 : decode cX12_strokesTold 12 = .ok (.isub, 1) := by decide +kernel
theorem dX12_strokesTold_13 : decode cX12_strokesTold 13 = .ok (.iconst 1, 1) := by decide +kernel
theorem dX12_strokesTold_14 : decode cX12_strokesTold 14 = .ok (.bipush 8, 2) := by decide +kernel
theorem dX12_strokesTold_16 : decode cX12_strokesTold 16 = .ok (.invokestatic 78, 3) := by decide +kernel
theorem dX12_strokesTold_19 : decode cX12_strokesTold 19 = .ok (.ifCond .ne 5, 3) := by decide +kernel
theorem dX12_strokesTold_22 : decode cX12_strokesTold 22 = .ok (.iconst (-1), 1) := by decide +kernel
theorem dX12_strokesTold_23 : decode cX12_strokesTold 23 = .ok (.ireturn, 1) := by decide +kernel
theorem dX12_strokesTold_24 : decode cX12_strokesTold 24 = .ok (.iconst 1, 1) := by decide +kernel
theorem dX12_strokesTold_25 : decode cX12_strokesTold 25 = .ok (.istore_n 1, 1) := by decide +kernel
theorem dX12_strokesTold_26 : decode cX12_strokesTold 26 = .ok (.aload_n 0, 1) := by decide +kernel
theorem dX12_strokesTold_27 : decode cX12_strokesTold 27 = .ok (.getfield 115, 3) := by decide +kernel
theorem dX12_strokesTold_30 : decode cX12_strokesTold 30 = .ok (.istore_n 2, 1) := by decide +kernel
theorem dX12_strokesTold_31 : decode cX12_strokesTold 31 = .ok (.iload_n 2, 1) := by decide +kernel
theorem dX12_strokesTold_32 : decode cX12_strokesTold 32 = .ok (.aload_n 0, 1) := by decide +kernel
theorem dX12_strokesTold_33 : decode cX12_strokesTold 33 = .ok (.getfield 105, 3) := by decide +kernel
theorem dX12_strokesTold_36 : decode cX12_strokesTold 36 = .ok (.if_icmp .ge 36, 3) := by decide +kernel
theorem dX12_strokesTold_39 : decode cX12_strokesTold 39 = .ok (.aload_n 0, 1) := by decide +kernel
theorem dX12_strokesTold_40 : decode cX12_strokesTold 40 = .ok (.getfield 23, 3) := by decide +kernel
theorem dX12_strokesTold_43 : decode cX12_strokesTold 43 = .ok (.iload_n 2, 1) := by decide +kernel
theorem dX12_strokesTold_44 : decode cX12_strokesTold 44 = .ok (.baload, 1) := by decide +kernel
theorem dX12_strokesTold_45 : decode cX12_strokesTold 45 = .ok (.bipush 98, 2) := by decide +kernel
theorem dX12_strokesTold_47 : decode cX12_strokesTold 47 = .ok (.if_icmp .le 5, 3) := by decide +kernel
theorem dX12_strokesTold_50 : decode cX12_strokesTold 50 = .ok (.iconst (-1), 1) := by decide +kernel
theorem dX12_strokesTold_51 : decode cX12_strokesTold 51 = .ok (.ireturn, 1) := by decide +kernel
theorem dX12_strokesTold_52 : decode cX12_strokesTold 52 = .ok (.iconst 2, 1) := by decide +kernel
theorem dX12_strokesTold_53 : decode cX12_strokesTold 53 = .ok (.iload_n 1, 1) := by decide +kernel
theorem dX12_strokesTold_54 : decode cX12_strokesTold 54 = .ok (.imul, 1) := by decide +kernel
theorem dX12_strokesTold_55 : decode cX12_strokesTold 55 = .ok (.aload_n 0, 1) := by decide +kernel
theorem dX12_strokesTold_56 : decode cX12_strokesTold 56 = .ok (.getfield 23, 3) := by decide +kernel
theorem dX12_strokesTold_59 : decode cX12_strokesTold 59 = .ok (.iload_n 2, 1) := by decide +kernel
theorem dX12_strokesTold_60 : decode cX12_strokesTold 60 = .ok (.baload, 1) := by decide +kernel
theorem dX12_strokesTold_61 : decode cX12_strokesTold 61 = .ok (.iadd, 1) := by decide +kernel
theorem dX12_strokesTold_62 : decode cX12_strokesTold 62 = .ok (.bipush 97, 2) := by decide +kernel
theorem dX12_strokesTold_64 : decode cX12_strokesTold 64 = .ok (.isub, 1) := by decide +kernel
theorem dX12_strokesTold_65 : decode cX12_strokesTold 65 = .ok (.istore_n 1, 1) := by decide +kernel
theorem dX12_strokesTold_66 : decode cX12_strokesTold 66 = .ok (.iinc 2 1, 3) := by decide +kernel
theorem dX12_strokesTold_69 : decode cX12_strokesTold 69 = .ok (.goto (-38), 3) := by decide +kernel
theorem dX12_strokesTold_72 : decode cX12_strokesTold 72 = .ok (.iload_n 1, 1) := by decide +kernel
theorem dX12_strokesTold_73 : decode cX12_strokesTold 73 = .ok (.ireturn, 1) := by decide +kernel
theorem dX12_readCode_0 : decode cX12_readCode 0 = .ok (.aload_n 0, 1) := by decide +kernel
theorem dX12_readCode_1 : decode cX12_readCode 1 = .ok (.iconst 0, 1) := by decide +kernel
theorem dX12_readCode_2 : decode cX12_readCode 2 = .ok (.aload_n 0, 1) := by decide +kernel
theorem dX12_readCode_3 : decode cX12_readCode 3 = .ok (.invokevirtual 74, 3) := by decide +kernel
theorem dX12_readCode_6 : decode cX12_readCode 6 = .ok (.iconst 1, 1) := by decide +kernel
theorem dX12_readCode_7 : decode cX12_readCode 7 = .ok (.isub, 1) := by decide +kernel
theorem dX12_readCode_8 : decode cX12_readCode 8 = .ok (.invokevirtual 141, 3) := by decide +kernel
theorem dX12_readCode_11 : decode cX12_readCode 11 = .ok (.istore_n 2, 1) := by decide +kernel
theorem dX12_readCode_12 : decode cX12_readCode 12 = .ok (.iload_n 2, 1) := by decide +kernel
theorem dX12_readCode_13 : decode cX12_readCode 13 = .ok (.ifCond .ge 7, 3) := by decide +kernel
theorem dX12_readCode_16 : decode cX12_readCode 16 = .ok (.iconst (-1), 1) := by decide +kernel
theorem dX12_readCode_17 : decode cX12_readCode 17 = .ok (.goto 14, 3) := by decide +kernel
theorem dX12_readCode_20 : decode cX12_readCode 20 = .ok (.aload_n 0, 1) := by decide +kernel
theorem dX12_readCode_21 : decode cX12_readCode 21 = .ok (.iconst 0, 1) := by decide +kernel
theorem dX12_readCode_22 : decode cX12_readCode 22 = .ok (.aload_n 0, 1) := by decide +kernel
theorem dX12_readCode_23 : decode cX12_readCode 23 = .ok (.invokevirtual 82, 3) := by decide +kernel
theorem dX12_readCode_26 : decode cX12_readCode 26 = .ok (.iconst 1, 1) := by decide +kernel
theorem dX12_readCode_27 : decode cX12_readCode 27 = .ok (.isub, 1) := by decide +kernel
theorem dX12_readCode_28 : decode cX12_readCode 28 = .ok (.invokevirtual 141, 3) := by decide +kernel
theorem dX12_readCode_31 : decode cX12_readCode 31 = .ok (.istore_n 3, 1) := by decide +kernel
theorem dX12_readCode_32 : decode cX12_readCode 32 = .ok (.iload_n 3, 1) := by decide +kernel
theorem dX12_readCode_33 : decode cX12_readCode 33 = .ok (.ifCond .ge 7, 3) := by decide +kernel
theorem dX12_readCode_36 : decode cX12_readCode 36 = .ok (.iconst (-1), 1) := by decide +kernel
theorem dX12_readCode_37 : decode cX12_readCode 37 = .ok (.goto 15, 3) := by decide +kernel
theorem dX12_readCode_40 : decode cX12_readCode 40 = .ok (.iload_n 1, 1) := by decide +kernel
theorem dX12_readCode_41 : decode cX12_readCode 41 = .ok (.ifCond .eq 10, 3) := by decide +kernel
theorem dX12_readCode_44 : decode cX12_readCode 44 = .ok (.aload_n 0, 1) := by decide +kernel
theorem dX12_readCode_45 : decode cX12_readCode 45 = .ok (.invokevirtual 149, 3) := by decide +kernel
theorem dX12_readCode_48 : decode cX12_readCode 48 = .ok (.goto 4, 3) := by decide +kernel
theorem dX12_readCode_51 : decode cX12_readCode 51 = .ok (.iconst 0, 1) := by decide +kernel
theorem dX12_readCode_52 : decode cX12_readCode 52 = .ok (.istore 4, 2) := by decide +kernel
theorem dX12_readCode_54 : decode cX12_readCode 54 = .ok (.iload 4, 2) := by decide +kernel
theorem dX12_readCode_56 : decode cX12_readCode 56 = .ok (.ifCond .lt 13, 3) := by decide +kernel
theorem dX12_readCode_59 : decode cX12_readCode 59 = .ok (.aload_n 0, 1) := by decide +kernel
theorem dX12_readCode_60 : decode cX12_readCode 60 = .ok (.iload_n 2, 1) := by decide +kernel
theorem dX12_readCode_61 : decode cX12_readCode 61 = .ok (.iconst 5, 1) := by decide +kernel
theorem dX12_readCode_62 : decode cX12_readCode 62 = .ok (.iload_n 3, 1) := by decide +kernel
theorem dX12_readCode_63 : decode cX12_readCode 63 = .ok (.iadd, 1) := by decide +kernel
theorem dX12_readCode_64 : decode cX12_readCode 64 = .ok (.iload 4, 2) := by decide +kernel
theorem dX12_readCode_66 : decode cX12_readCode 66 = .ok (.invokevirtual 137, 3) := by decide +kernel
theorem dX12_readCode_69 : decode cX12_readCode 69 = .ok (.iload 4, 2) := by decide +kernel
theorem dX12_readCode_71 : decode cX12_readCode 71 = .ok (.ifCond .lt 7, 3) := by decide +kernel
theorem dX12_readCode_74 : decode cX12_readCode 74 = .ok (.iconst 1, 1) := by decide +kernel
theorem dX12_readCode_75 : decode cX12_readCode 75 = .ok (.goto 4, 3) := by decide +kernel
theorem dX12_readCode_78 : decode cX12_readCode 78 = .ok (.iconst 0, 1) := by decide +kernel
theorem dX12_readCode_79 : decode cX12_readCode 79 = .ok (.ireturn, 1) := by decide +kernel
theorem dX12_readWind_0 : decode cX12_readWind 0 = .ok (.aload_n 0, 1) := by decide +kernel
theorem dX12_readWind_1 : decode cX12_readWind 1 = .ok (.iconst 0, 1) := by decide +kernel
theorem dX12_readWind_2 : decode cX12_readWind 2 = .ok (.bipush 9, 2) := by decide +kernel
theorem dX12_readWind_4 : decode cX12_readWind 4 = .ok (.invokevirtual 141, 3) := by decide +kernel
theorem dX12_readWind_7 : decode cX12_readWind 7 = .ok (.istore_n 2, 1) := by decide +kernel
theorem dX12_readWind_8 : decode cX12_readWind 8 = .ok (.iload_n 2, 1) := by decide +kernel
theorem dX12_readWind_9 : decode cX12_readWind 9 = .ok (.ifCond .ge 7, 3) := by decide +kernel
theorem dX12_readWind_12 : decode cX12_readWind 12 = .ok (.iconst (-1), 1) := by decide +kernel
theorem dX12_readWind_13 : decode cX12_readWind 13 = .ok (.goto 10, 3) := by decide +kernel
theorem dX12_readWind_16 : decode cX12_readWind 16 = .ok (.aload_n 0, 1) := by decide +kernel
theorem dX12_readWind_17 : decode cX12_readWind 17 = .ok (.iconst 0, 1) := by decide +kernel
theorem dX12_readWind_18 : decode cX12_readWind 18 = .ok (.bipush 9, 2) := by decide +kernel
theorem dX12_readWind_20 : decode cX12_readWind 20 = .ok (.invokevirtual 141, 3) := by decide +kernel
theorem dX12_readWind_23 : decode cX12_readWind 23 = .ok (.istore_n 3, 1) := by decide +kernel
theorem dX12_readWind_24 : decode cX12_readWind 24 = .ok (.iload_n 3, 1) := by decide +kernel
theorem dX12_readWind_25 : decode cX12_readWind 25 = .ok (.ifCond .ge 5, 3) := by decide +kernel
theorem dX12_readWind_28 : decode cX12_readWind 28 = .ok (.iconst 0, 1) := by decide +kernel
theorem dX12_readWind_29 : decode cX12_readWind 29 = .ok (.ireturn, 1) := by decide +kernel
theorem dX12_readWind_30 : decode cX12_readWind 30 = .ok (.aload_n 0, 1) := by decide +kernel
theorem dX12_readWind_31 : decode cX12_readWind 31 = .ok (.getfield 13, 3) := by decide +kernel
theorem dX12_readWind_34 : decode cX12_readWind 34 = .ok (.bipush 6, 2) := by decide +kernel
theorem dX12_readWind_36 : decode cX12_readWind 36 = .ok (.iload_n 1, 1) := by decide +kernel
theorem dX12_readWind_37 : decode cX12_readWind 37 = .ok (.iload_n 2, 1) := by decide +kernel
theorem dX12_readWind_38 : decode cX12_readWind 38 = .ok (.imul, 1) := by decide +kernel
theorem dX12_readWind_39 : decode cX12_readWind 39 = .ok (.iastore, 1) := by decide +kernel
theorem dX12_readWind_40 : decode cX12_readWind 40 = .ok (.aload_n 0, 1) := by decide +kernel
theorem dX12_readWind_41 : decode cX12_readWind 41 = .ok (.getfield 13, 3) := by decide +kernel
theorem dX12_readWind_44 : decode cX12_readWind 44 = .ok (.bipush 7, 2) := by decide +kernel
theorem dX12_readWind_46 : decode cX12_readWind 46 = .ok (.iload_n 1, 1) := by decide +kernel
theorem dX12_readWind_47 : decode cX12_readWind 47 = .ok (.iload_n 3, 1) := by decide +kernel
theorem dX12_readWind_48 : decode cX12_readWind 48 = .ok (.imul, 1) := by decide +kernel
theorem dX12_readWind_49 : decode cX12_readWind 49 = .ok (.iastore, 1) := by decide +kernel
theorem dX12_readWind_50 : decode cX12_readWind 50 = .ok (.iconst 1, 1) := by decide +kernel
theorem dX12_readWind_51 : decode cX12_readWind 51 = .ok (.ireturn, 1) := by decide +kernel
theorem dX12_readTownLine_0 : decode cX12_readTownLine 0 = .ok (.aload_n 0, 1) := by decide +kernel
theorem dX12_readTownLine_1 : decode cX12_readTownLine 1 = .ok (.ldc 152, 2) := by decide +kernel
theorem dX12_readTownLine_3 : decode cX12_readTownLine 3 = .ok (.invokevirtual 133, 3) := by decide +kernel
theorem dX12_readTownLine_6 : decode cX12_readTownLine 6 = .ok (.ifCond .eq 8, 3) := by decide +kernel
theorem dX12_readTownLine_9 : decode cX12_readTownLine 9 = .ok (.aload_n 0, 1) := by decide +kernel
theorem dX12_readTownLine_10 : decode cX12_readTownLine 10 = .ok (.invokevirtual 154, 3) := by decide +kernel
theorem dX12_readTownLine_13 : decode cX12_readTownLine 13 = .ok (.ireturn, 1) := by decide +kernel
theorem dX12_readTownLine_14 : decode cX12_readTownLine 14 = .ok (.aload_n 0, 1) := by decide +kernel
theorem dX12_readTownLine_15 : decode cX12_readTownLine 15 = .ok (.ldc 158, 2) := by decide +kernel
theorem dX12_readTownLine_17 : decode cX12_readTownLine 17 = .ok (.invokevirtual 133, 3) := by decide +kernel
theorem dX12_readTownLine_20 : decode cX12_readTownLine 20 = .ok (.ifCond .eq 8, 3) := by decide +kernel
theorem dX12_readTownLine_23 : decode cX12_readTownLine 23 = .ok (.aload_n 0, 1) := by decide +kernel
theorem dX12_readTownLine_24 : decode cX12_readTownLine 24 = .ok (.invokevirtual 160, 3) := by decide +kernel
theorem dX12_readTownLine_27 : decode cX12_readTownLine 27 = .ok (.ireturn, 1) := by decide +kernel
theorem dX12_readTownLine_28 : decode cX12_readTownLine 28 = .ok (.aload_n 0, 1) := by decide +kernel
theorem dX12_readTownLine_29 : decode cX12_readTownLine 29 = .ok (.ldc 163, 2) := by decide +kernel
theorem dX12_readTownLine_31 : decode cX12_readTownLine 31 = .ok (.invokevirtual 133, 3) := by decide +kernel
theorem dX12_readTownLine_34 : decode cX12_readTownLine 34 = .ok (.ifCond .eq 9, 3) := by decide +kernel
theorem dX12_readTownLine_37 : decode cX12_readTownLine 37 = .ok (.aload_n 0, 1) := by decide +kernel
theorem dX12_readTownLine_38 : decode cX12_readTownLine 38 = .ok (.iconst 1, 1) := by decide +kernel
theorem dX12_readTownLine_39 : decode cX12_readTownLine 39 = .ok (.invokevirtual 165, 3) := by decide +kernel
theorem dX12_readTownLine_42 : decode cX12_readTownLine 42 = .ok (.ireturn, 1) := by decide +kernel
theorem dX12_readTownLine_43 : decode cX12_readTownLine 43 = .ok (.aload_n 0, 1) := by decide +kernel
theorem dX12_readTownLine_44 : decode cX12_readTownLine 44 = .ok (.ldc 169, 2) := by decide +kernel
theorem dX12_readTownLine_46 : decode cX12_readTownLine 46 = .ok (.invokevirtual 133, 3) := by decide +kernel
theorem dX12_readTownLine_49 : decode cX12_readTownLine 49 = .ok (.ifCond .eq 9, 3) := by decide +kernel
theorem dX12_readTownLine_52 : decode cX12_readTownLine 52 = .ok (.aload_n 0, 1) := by decide +kernel
theorem dX12_readTownLine_53 : decode cX12_readTownLine 53 = .ok (.iconst 0, 1) := by decide +kernel
theorem dX12_readTownLine_54 : decode cX12_readTownLine 54 = .ok (.invokevirtual 165, 3) := by decide +kernel
theorem dX12_readTownLine_57 : decode cX12_readTownLine 57 = .ok (.ireturn, 1) := by decide +kernel
theorem dX12_readTownLine_58 : decode cX12_readTownLine 58 = .ok (.aload_n 0, 1) := by decide +kernel
theorem dX12_readTownLine_59 : decode cX12_readTownLine 59 = .ok (.ldc 171, 2) := by decide +kernel
theorem dX12_readTownLine_61 : decode cX12_readTownLine 61 = .ok (.invokevirtual 133, 3) := by decide +kernel
theorem dX12_readTownLine_64 : decode cX12_readTownLine 64 = .ok (.ifCond .eq 9, 3) := by decide +kernel
theorem dX12_readTownLine_67 : decode cX12_readTownLine 67 = .ok (.aload_n 0, 1) := by decide +kernel
theorem dX12_readTownLine_68 : decode cX12_readTownLine 68 = .ok (.iconst 1, 1) := by decide +kernel
theorem dX12_readTownLine_69 : decode cX12_readTownLine 69 = .ok (.invokevirtual 173, 3) := by decide +kernel
theorem dX12_readTownLine_72 : decode cX12_readTownLine 72 = .ok (.ireturn, 1) := by decide +kernel
theorem dX12_readTownLine_73 : decode cX12_readTownLine 73 = .ok (.aload_n 0, 1) := by decide +kernel
theorem dX12_readTownLine_74 : decode cX12_readTownLine 74 = .ok (.ldc 177, 2) := by decide +kernel
theorem dX12_readTownLine_76 : decode cX12_readTownLine 76 = .ok (.invokevirtual 133, 3) := by decide +kernel
theorem dX12_readTownLine_79 : decode cX12_readTownLine 79 = .ok (.ifCond .eq 15, 3) := by decide +kernel
theorem dX12_readTownLine_82 : decode cX12_readTownLine 82 = .ok (.aload_n 0, 1) := by decide +kernel
theorem dX12_readTownLine_83 : decode cX12_readTownLine 83 = .ok (.iconst (-1), 1) := by decide +kernel
theorem dX12_readTownLine_84 : decode cX12_readTownLine 84 = .ok (.invokevirtual 173, 3) := by decide +kernel
theorem dX12_readTownLine_87 : decode cX12_readTownLine 87 = .ok (.ifCond .eq 7, 3) := by decide +kernel
theorem dX12_readTownLine_90 : decode cX12_readTownLine 90 = .ok (.iconst 1, 1) := by decide +kernel
theorem dX12_readTownLine_91 : decode cX12_readTownLine 91 = .ok (.goto 4, 3) := by decide +kernel
theorem dX12_readTownLine_94 : decode cX12_readTownLine 94 = .ok (.iconst 0, 1) := by decide +kernel
theorem dX12_readTownLine_95 : decode cX12_readTownLine 95 = .ok (.ireturn, 1) := by decide +kernel
theorem dX12_emits_0 : decode cX12_emits 0 = .ok (.aload_n 0, 1) := by decide +kernel
theorem dX12_emits_1 : decode cX12_emits 1 = .ok (.getfield 13, 3) := by decide +kernel
theorem dX12_emits_4 : decode cX12_emits 4 = .ok (.sipush 1060, 3) := by decide +kernel
theorem dX12_emits_7 : decode cX12_emits 7 = .ok (.iconst 2, 1) := by decide +kernel
theorem dX12_emits_8 : decode cX12_emits 8 = .ok (.aload_n 0, 1) := by decide +kernel
theorem dX12_emits_9 : decode cX12_emits 9 = .ok (.getfield 179, 3) := by decide +kernel
theorem dX12_emits_12 : decode cX12_emits 12 = .ok (.imul, 1) := by decide +kernel
theorem dX12_emits_13 : decode cX12_emits 13 = .ok (.iadd, 1) := by decide +kernel
theorem dX12_emits_14 : decode cX12_emits 14 = .ok (.iload_n 1, 1) := by decide +kernel
theorem dX12_emits_15 : decode cX12_emits 15 = .ok (.iastore, 1) := by decide +kernel
theorem dX12_emits_16 : decode cX12_emits 16 = .ok (.aload_n 0, 1) := by decide +kernel
theorem dX12_emits_17 : decode cX12_emits 17 = .ok (.getfield 13, 3) := by decide +kernel
theorem dX12_emits_20 : decode cX12_emits 20 = .ok (.sipush 1060, 3) := by decide +kernel
theorem dX12_emits_23 : decode cX12_emits 23 = .ok (.iconst 2, 1) := by decide +kernel
theorem dX12_emits_24 : decode cX12_emits 24 = .ok (.aload_n 0, 1) := by decide +kernel
theorem dX12_emits_25 : decode cX12_emits 25 = .ok (.getfield 179, 3) := by decide +kernel
theorem dX12_emits_28 : decode cX12_emits 28 = .ok (.imul, 1) := by decide +kernel
theorem dX12_emits_29 : decode cX12_emits 29 = .ok (.iadd, 1) := by decide +kernel
theorem dX12_emits_30 : decode cX12_emits 30 = .ok (.iconst 1, 1) := by decide +kernel
theorem dX12_emits_31 : decode cX12_emits 31 = .ok (.iadd, 1) := by decide +kernel
theorem dX12_emits_32 : decode cX12_emits 32 = .ok (.iload_n 2, 1) := by decide +kernel
theorem dX12_emits_33 : decode cX12_emits 33 = .ok (.iastore, 1) := by decide +kernel
theorem dX12_emits_34 : decode cX12_emits 34 = .ok (.aload_n 0, 1) := by decide +kernel
theorem dX12_emits_35 : decode cX12_emits 35 = .ok (.dup, 1) := by decide +kernel
theorem dX12_emits_36 : decode cX12_emits 36 = .ok (.getfield 179, 3) := by decide +kernel
theorem dX12_emits_39 : decode cX12_emits 39 = .ok (.iconst 1, 1) := by decide +kernel
theorem dX12_emits_40 : decode cX12_emits 40 = .ok (.iadd, 1) := by decide +kernel
theorem dX12_emits_41 : decode cX12_emits 41 = .ok (.putfield 179, 3) := by decide +kernel
theorem dX12_emits_44 : decode cX12_emits 44 = .ok (.return_, 1) := by decide +kernel
theorem dX12_readPart_0 : decode cX12_readPart 0 = .ok (.aload_n 0, 1) := by decide +kernel
theorem dX12_readPart_1 : decode cX12_readPart 1 = .ok (.invokevirtual 130, 3) := by decide +kernel
theorem dX12_readPart_4 : decode cX12_readPart 4 = .ok (.aload_n 0, 1) := by decide +kernel
theorem dX12_readPart_5 : decode cX12_readPart 5 = .ok (.getfield 105, 3) := by decide +kernel
theorem dX12_readPart_8 : decode cX12_readPart 8 = .ok (.aload_n 0, 1) := by decide +kernel
theorem dX12_readPart_9 : decode cX12_readPart 9 = .ok (.getfield 115, 3) := by decide +kernel
theorem dX12_readPart_12 : decode cX12_readPart 12 = .ok (.if_icmp .ne 21, 3) := by decide +kernel
theorem dX12_readPart_15 : decode cX12_readPart 15 = .ok (.aload_n 0, 1) := by decide +kernel
theorem dX12_readPart_16 : decode cX12_readPart 16 = .ok (.iconst 0, 1) := by decide +kernel
theorem dX12_readPart_17 : decode cX12_readPart 17 = .ok (.sipush 999, 3) := by decide +kernel
theorem dX12_readPart_20 : decode cX12_readPart 20 = .ok (.invokevirtual 141, 3) := by decide +kernel
theorem dX12_readPart_23 : decode cX12_readPart 23 = .ok (.istore_n 1, 1) := by decide +kernel
theorem dX12_readPart_24 : decode cX12_readPart 24 = .ok (.aload_n 0, 1) := by decide +kernel
theorem dX12_readPart_25 : decode cX12_readPart 25 = .ok (.iconst 5, 1) := by decide +kernel
theorem dX12_readPart_26 : decode cX12_readPart 26 = .ok (.iload_n 1, 1) := by decide +kernel
theorem dX12_readPart_27 : decode cX12_readPart 27 = .ok (.invokevirtual 182, 3) := by decide +kernel
theorem dX12_readPart_30 : decode cX12_readPart 30 = .ok (.goto 76, 3) := by decide +kernel
theorem dX12_readPart_33 : decode cX12_readPart 33 = .ok (.aload_n 0, 1) := by decide +kernel
theorem dX12_readPart_34 : decode cX12_readPart 34 = .ok (.ldc 152, 2) := by decide +kernel
theorem dX12_readPart_36 : decode cX12_readPart 36 = .ok (.invokevirtual 133, 3) := by decide +kernel
theorem dX12_readPart_39 : decode cX12_readPart 39 = .ok (.ifCond .eq 7, 3) := by decide +kernel
theorem dX12_readPart_42 : decode cX12_readPart 42 = .ok (.iconst 0, 1) := by decide +kernel
theorem dX12_readPart_43 : decode cX12_readPart 43 = .ok (.goto 56, 3) := by decide +kernel
theorem dX12_readPart_46 : decode cX12_readPart 46 = .ok (.aload_n 0, 1) := by decide +kernel
theorem dX12_readPart_47 : decode cX12_readPart 47 = .ok (.ldc 186, 2) := by decide +kernel
theorem dX12_readPart_49 : decode cX12_readPart 49 = .ok (.invokevirtual 133, 3) := by decide +kernel
theorem dX12_readPart_52 : decode cX12_readPart 52 = .ok (.ifCond .eq 7, 3) := by decide +kernel
theorem dX12_readPart_55 : decode cX12_readPart 55 = .ok (.iconst 1, 1) := by decide +kernel
theorem dX12_readPart_56 : decode cX12_readPart 56 = .ok (.goto 43, 3) := by decide +kernel
theorem dX12_readPart_59 : decode cX12_readPart 59 = .ok (.aload_n 0, 1) := by decide +kernel
theorem dX12_readPart_60 : decode cX12_readPart 60 = .ok (.ldc 188, 2) := by decide +kernel
theorem dX12_readPart_62 : decode cX12_readPart 62 = .ok (.invokevirtual 133, 3) := by decide +kernel
theorem dX12_readPart_65 : decode cX12_readPart 65 = .ok (.ifCond .eq 7, 3) := by decide +kernel
theorem dX12_readPart_68 : decode cX12_readPart 68 = .ok (.iconst 2, 1) := by decide +kernel
theorem dX12_readPart_69 : decode cX12_readPart 69 = .ok (.goto 30, 3) := by decide +kernel
theorem dX12_readPart_72 : decode cX12_readPart 72 = .ok (.aload_n 0, 1) := by decide +kernel
theorem dX12_readPart_73 : decode cX12_readPart 73 = .ok (.ldc 190, 2) := by decide +kernel
theorem dX12_readPart_75 : decode cX12_readPart 75 = .ok (.invokevirtual 133, 3) := by decide +kernel
theorem dX12_readPart_78 : decode cX12_readPart 78 = .ok (.ifCond .eq 7, 3) := by decide +kernel
theorem dX12_readPart_81 : decode cX12_readPart 81 = .ok (.iconst 3, 1) := by decide +kernel
theorem dX12_readPart_82 : decode cX12_readPart 82 = .ok (.goto 17, 3) := by decide +kernel
theorem dX12_readPart_85 : decode cX12_readPart 85 = .ok (.aload_n 0, 1) := by decide +kernel
theorem dX12_readPart_86 : decode cX12_readPart 86 = .ok (.ldc 192, 2) := by decide +kernel
theorem dX12_readPart_88 : decode cX12_readPart 88 = .ok (.invokevirtual 133, 3) := by decide +kernel
theorem dX12_readPart_91 : decode cX12_readPart 91 = .ok (.ifCond .eq 7, 3) := by decide +kernel
theorem dX12_readPart_94 : decode cX12_readPart 94 = .ok (.iconst 4, 1) := by decide +kernel
theorem dX12_readPart_95 : decode cX12_readPart 95 = .ok (.goto 4, 3) := by decide +kernel
theorem dX12_readPart_98 : decode cX12_readPart 98 = .ok (.iconst (-1), 1) := by decide +kernel
theorem dX12_readPart_99 : decode cX12_readPart 99 = .ok (.istore_n 1, 1) := by decide +kernel
theorem dX12_readPart_100 : decode cX12_readPart 100 = .ok (.aload_n 0, 1) := by decide +kernel
theorem dX12_readPart_101 : decode cX12_readPart 101 = .ok (.iload_n 1, 1) := by decide +kernel
theorem dX12_readPart_102 : decode cX12_readPart 102 = .ok (.iconst 0, 1) := by decide +kernel
theorem dX12_readPart_103 : decode cX12_readPart 103 = .ok (.invokevirtual 182, 3) := by decide +kernel
theorem dX12_readPart_106 : decode cX12_readPart 106 = .ok (.iload_n 1, 1) := by decide +kernel
theorem dX12_readPart_107 : decode cX12_readPart 107 = .ok (.ifCond .lt 7, 3) := by decide +kernel
theorem dX12_readPart_110 : decode cX12_readPart 110 = .ok (.iconst 1, 1) := by decide +kernel
theorem dX12_readPart_111 : decode cX12_readPart 111 = .ok (.goto 4, 3) := by decide +kernel
theorem dX12_readPart_114 : decode cX12_readPart 114 = .ok (.iconst 0, 1) := by decide +kernel
theorem dX12_readPart_115 : decode cX12_readPart 115 = .ok (.ireturn, 1) := by decide +kernel
theorem dX12_readSum_0 : decode cX12_readSum 0 = .ok (.aload_n 0, 1) := by decide +kernel
theorem dX12_readSum_1 : decode cX12_readSum 1 = .ok (.invokevirtual 194, 3) := by decide +kernel
theorem dX12_readSum_4 : decode cX12_readSum 4 = .ok (.ifCond .ne 5, 3) := by decide +kernel
theorem dX12_readSum_7 : decode cX12_readSum 7 = .ok (.iconst 0, 1) := by decide +kernel
theorem dX12_readSum_8 : decode cX12_readSum 8 = .ok (.ireturn, 1) := by decide +kernel
theorem dX12_readSum_9 : decode cX12_readSum 9 = .ok (.aload_n 0, 1) := by decide +kernel
theorem dX12_readSum_10 : decode cX12_readSum 10 = .ok (.bipush 43, 2) := by decide +kernel
theorem dX12_readSum_12 : decode cX12_readSum 12 = .ok (.invokevirtual 197, 3) := by decide +kernel
theorem dX12_readSum_15 : decode cX12_readSum 15 = .ok (.ifCond .eq 22, 3) := by decide +kernel
theorem dX12_readSum_18 : decode cX12_readSum 18 = .ok (.aload_n 0, 1) := by decide +kernel
theorem dX12_readSum_19 : decode cX12_readSum 19 = .ok (.invokevirtual 194, 3) := by decide +kernel
theorem dX12_readSum_22 : decode cX12_readSum 22 = .ok (.ifCond .ne 5, 3) := by decide +kernel
theorem dX12_readSum_25 : decode cX12_readSum 25 = .ok (.iconst 0, 1) := by decide +kernel
theorem dX12_readSum_26 : decode cX12_readSum 26 = .ok (.ireturn, 1) := by decide +kernel
theorem dX12_readSum_27 : decode cX12_readSum 27 = .ok (.aload_n 0, 1) := by decide +kernel
theorem dX12_readSum_28 : decode cX12_readSum 28 = .ok (.bipush 6, 2) := by decide +kernel
theorem dX12_readSum_30 : decode cX12_readSum 30 = .ok (.iconst 0, 1) := by decide +kernel
theorem dX12_readSum_31 : decode cX12_readSum 31 = .ok (.invokevirtual 182, 3) := by decide +kernel
theorem dX12_readSum_34 : decode cX12_readSum 34 = .ok (.goto (-25), 3) := by decide +kernel
theorem dX12_readSum_37 : decode cX12_readSum 37 = .ok (.iconst 1, 1) := by decide +kernel
theorem dX12_readSum_38 : decode cX12_readSum 38 = .ok (.ireturn, 1) := by decide +kernel
theorem dX12_readAtom_0 : decode cX12_readAtom 0 = .ok (.aload_n 0, 1) := by decide +kernel
theorem dX12_readAtom_1 : decode cX12_readAtom 1 = .ok (.bipush 40, 2) := by decide +kernel
theorem dX12_readAtom_3 : decode cX12_readAtom 3 = .ok (.invokevirtual 197, 3) := by decide +kernel
theorem dX12_readAtom_6 : decode cX12_readAtom 6 = .ok (.ifCond .eq 50, 3) := by decide +kernel
theorem dX12_readAtom_9 : decode cX12_readAtom 9 = .ok (.aload_n 0, 1) := by decide +kernel
theorem dX12_readAtom_10 : decode cX12_readAtom 10 = .ok (.getfield 200, 3) := by decide +kernel
theorem dX12_readAtom_13 : decode cX12_readAtom 13 = .ok (.bipush 6, 2) := by decide +kernel
theorem dX12_readAtom_15 : decode cX12_readAtom 15 = .ok (.if_icmp .ne 5, 3) := by decide +kernel
theorem dX12_readAtom_18 : decode cX12_readAtom 18 = .ok (.iconst 0, 1) := by decide +kernel
theorem dX12_readAtom_19 : decode cX12_readAtom 19 = .ok (.ireturn, 1) := by decide +kernel
theorem dX12_readAtom_20 : decode cX12_readAtom 20 = .ok (.aload_n 0, 1) := by decide +kernel
theorem dX12_readAtom_21 : decode cX12_readAtom 21 = .ok (.dup, 1) := by decide +kernel
theorem dX12_readAtom_22 : decode cX12_readAtom 22 = .ok (.getfield 200, 3) := by decide +kernel
theorem dX12_readAtom_25 : decode cX12_readAtom 25 = .ok (.iconst 1, 1) := by decide +kernel
theorem dX12_readAtom_26 : decode cX12_readAtom 26 = .ok (.iadd, 1) := by decide +kernel
theorem dX12_readAtom_27 : decode cX12_readAtom 27 = .ok (.putfield 200, 3) := by decide +kernel
theorem dX12_readAtom_30 : decode cX12_readAtom 30 = .ok (.aload_n 0, 1) := by decide +kernel
theorem dX12_readAtom_31 : decode cX12_readAtom 31 = .ok (.invokevirtual 203, 3) := by decide +kernel
theorem dX12_readAtom_34 : decode cX12_readAtom 34 = .ok (.ifCond .ne 5, 3) := by decide +kernel
theorem dX12_readAtom_37 : decode cX12_readAtom 37 = .ok (.iconst 0, 1) := by decide +kernel
theorem dX12_readAtom_38 : decode cX12_readAtom 38 = .ok (.ireturn, 1) := by decide +kernel
theorem dX12_readAtom_39 : decode cX12_readAtom 39 = .ok (.aload_n 0, 1) := by decide +kernel
theorem dX12_readAtom_40 : decode cX12_readAtom 40 = .ok (.dup, 1) := by decide +kernel
theorem dX12_readAtom_41 : decode cX12_readAtom 41 = .ok (.getfield 200, 3) := by decide +kernel
theorem dX12_readAtom_44 : decode cX12_readAtom 44 = .ok (.iconst 1, 1) := by decide +kernel
theorem dX12_readAtom_45 : decode cX12_readAtom 45 = .ok (.isub, 1) := by decide +kernel
theorem dX12_readAtom_46 : decode cX12_readAtom 46 = .ok (.putfield 200, 3) := by decide +kernel
theorem dX12_readAtom_49 : decode cX12_readAtom 49 = .ok (.aload_n 0, 1) := by decide +kernel
theorem dX12_readAtom_50 : decode cX12_readAtom 50 = .ok (.bipush 41, 2) := by decide +kernel
theorem dX12_readAtom_52 : decode cX12_readAtom 52 = .ok (.invokevirtual 197, 3) := by decide +kernel
theorem dX12_readAtom_55 : decode cX12_readAtom 55 = .ok (.ireturn, 1) := by decide +kernel
theorem dX12_readAtom_56 : decode cX12_readAtom 56 = .ok (.aload_n 0, 1) := by decide +kernel
theorem dX12_readAtom_57 : decode cX12_readAtom 57 = .ok (.ldc 206, 2) := by decide +kernel
theorem dX12_readAtom_59 : decode cX12_readAtom 59 = .ok (.invokevirtual 146, 3) := by decide +kernel
theorem dX12_readAtom_62 : decode cX12_readAtom 62 = .ok (.ifCond .eq 52, 3) := by decide +kernel
theorem dX12_readAtom_65 : decode cX12_readAtom 65 = .ok (.aload_n 0, 1) := by decide +kernel
theorem dX12_readAtom_66 : decode cX12_readAtom 66 = .ok (.getfield 200, 3) := by decide +kernel
theorem dX12_readAtom_69 : decode cX12_readAtom 69 = .ok (.bipush 6, 2) := by decide +kernel
theorem dX12_readAtom_71 : decode cX12_readAtom 71 = .ok (.if_icmp .ne 5, 3) := by decide +kernel
theorem dX12_readAtom_74 : decode cX12_readAtom 74 = .ok (.iconst 0, 1) := by decide +kernel
theorem dX12_readAtom_75 : decode cX12_readAtom 75 = .ok (.ireturn, 1) := by decide +kernel
theorem dX12_readAtom_76 : decode cX12_readAtom 76 = .ok (.aload_n 0, 1) := by decide +kernel
theorem dX12_readAtom_77 : decode cX12_readAtom 77 = .ok (.dup, 1) := by decide +kernel
theorem dX12_readAtom_78 : decode cX12_readAtom 78 = .ok (.getfield 200, 3) := by decide +kernel
theorem dX12_readAtom_81 : decode cX12_readAtom 81 = .ok (.iconst 1, 1) := by decide +kernel
theorem dX12_readAtom_82 : decode cX12_readAtom 82 = .ok (.iadd, 1) := by decide +kernel
theorem dX12_readAtom_83 : decode cX12_readAtom 83 = .ok (.putfield 200, 3) := by decide +kernel
theorem dX12_readAtom_86 : decode cX12_readAtom 86 = .ok (.aload_n 0, 1) := by decide +kernel
theorem dX12_readAtom_87 : decode cX12_readAtom 87 = .ok (.invokevirtual 208, 3) := by decide +kernel
theorem dX12_readAtom_90 : decode cX12_readAtom 90 = .ok (.ifCond .ne 5, 3) := by decide +kernel
theorem dX12_readAtom_93 : decode cX12_readAtom 93 = .ok (.iconst 0, 1) := by decide +kernel
theorem dX12_readAtom_94 : decode cX12_readAtom 94 = .ok (.ireturn, 1) := by decide +kernel
theorem dX12_readAtom_95 : decode cX12_readAtom 95 = .ok (.aload_n 0, 1) := by decide +kernel
theorem dX12_readAtom_96 : decode cX12_readAtom 96 = .ok (.dup, 1) := by decide +kernel
theorem dX12_readAtom_97 : decode cX12_readAtom 97 = .ok (.getfield 200, 3) := by decide +kernel
theorem dX12_readAtom_100 : decode cX12_readAtom 100 = .ok (.iconst 1, 1) := by decide +kernel
theorem dX12_readAtom_101 : decode cX12_readAtom 101 = .ok (.isub, 1) := by decide +kernel
theorem dX12_readAtom_102 : decode cX12_readAtom 102 = .ok (.putfield 200, 3) := by decide +kernel
theorem dX12_readAtom_105 : decode cX12_readAtom 105 = .ok (.aload_n 0, 1) := by decide +kernel
theorem dX12_readAtom_106 : decode cX12_readAtom 106 = .ok (.bipush 9, 2) := by decide +kernel
theorem dX12_readAtom_108 : decode cX12_readAtom 108 = .ok (.iconst 0, 1) := by decide +kernel
theorem dX12_readAtom_109 : decode cX12_readAtom 109 = .ok (.invokevirtual 182, 3) := by decide +kernel
theorem dX12_readAtom_112 : decode cX12_readAtom 112 = .ok (.iconst 1, 1) := by decide +kernel
theorem dX12_readAtom_113 : decode cX12_readAtom 113 = .ok (.ireturn, 1) := by decide +kernel
theorem dX12_readAtom_114 : decode cX12_readAtom 114 = .ok (.aload_n 0, 1) := by decide +kernel
theorem dX12_readAtom_115 : decode cX12_readAtom 115 = .ok (.invokevirtual 211, 3) := by decide +kernel
theorem dX12_readAtom_118 : decode cX12_readAtom 118 = .ok (.ifCond .ne 5, 3) := by decide +kernel
theorem dX12_readAtom_121 : decode cX12_readAtom 121 = .ok (.iconst 0, 1) := by decide +kernel
theorem dX12_readAtom_122 : decode cX12_readAtom 122 = .ok (.ireturn, 1) := by decide +kernel
theorem dX12_readAtom_123 : decode cX12_readAtom 123 = .ok (.aload_n 0, 1) := by decide +kernel
theorem dX12_readAtom_124 : decode cX12_readAtom 124 = .ok (.bipush 60, 2) := by decide +kernel
theorem dX12_readAtom_126 : decode cX12_readAtom 126 = .ok (.invokevirtual 197, 3) := by decide +kernel
theorem dX12_readAtom_129 : decode cX12_readAtom 129 = .ok (.istore_n 1, 1) := by decide +kernel
theorem dX12_readAtom_130 : decode cX12_readAtom 130 = .ok (.iload_n 1, 1) := by decide +kernel
theorem dX12_readAtom_131 : decode cX12_readAtom 131 = .ok (.ifCond .ne 12, 3) := by decide +kernel
theorem dX12_readAtom_134 : decode cX12_readAtom 134 = .ok (.aload_n 0, 1) := by decide +kernel
theorem dX12_readAtom_135 : decode cX12_readAtom 135 = .ok (.bipush 62, 2) := by decide +kernel
theorem dX12_readAtom_137 : decode cX12_readAtom 137 = .ok (.invokevirtual 197, 3) := by decide +kernel
theorem dX12_readAtom_140 : decode cX12_readAtom 140 = .ok (.ifCond .eq 10, 3) := by decide +kernel
theorem dX12_readAtom_143 : decode cX12_readAtom 143 = .ok (.aload_n 0, 1) := by decide +kernel
theorem dX12_readAtom_144 : decode cX12_readAtom 144 = .ok (.invokevirtual 211, 3) := by decide +kernel
theorem dX12_readAtom_147 : decode cX12_readAtom 147 = .ok (.ifCond .ne 5, 3) := by decide +kernel
theorem dX12_readAtom_150 : decode cX12_readAtom 150 = .ok (.iconst 0, 1) := by decide +kernel
theorem dX12_readAtom_151 : decode cX12_readAtom 151 = .ok (.ireturn, 1) := by decide +kernel
theorem dX12_readAtom_152 : decode cX12_readAtom 152 = .ok (.aload_n 0, 1) := by decide +kernel
theorem dX12_readAtom_153 : decode cX12_readAtom 153 = .ok (.iload_n 1, 1) := by decide +kernel
theorem dX12_readAtom_154 : decode cX12_readAtom 154 = .ok (.ifCond .eq 8, 3) := by decide +kernel
theorem dX12_readAtom_157 : decode cX12_readAtom 157 = .ok (.bipush 7, 2) := by decide +kernel
theorem dX12_readAtom_159 : decode cX12_readAtom 159 = .ok (.goto 5, 3) := by decide +kernel
theorem dX12_readAtom_162 : decode cX12_readAtom 162 = .ok (.bipush 8, 2) := by decide +kernel
theorem dX12_readAtom_164 : decode cX12_readAtom 164 = .ok (.iconst 0, 1) := by decide +kernel
theorem dX12_readAtom_165 : decode cX12_readAtom 165 = .ok (.invokevirtual 182, 3) := by decide +kernel
theorem dX12_readAtom_168 : decode cX12_readAtom 168 = .ok (.iconst 1, 1) := by decide +kernel
theorem dX12_readAtom_169 : decode cX12_readAtom 169 = .ok (.ireturn, 1) := by decide +kernel
theorem dX12_readAllOf_0 : decode cX12_readAllOf 0 = .ok (.aload_n 0, 1) := by decide +kernel
theorem dX12_readAllOf_1 : decode cX12_readAllOf 1 = .ok (.invokevirtual 208, 3) := by decide +kernel
theorem dX12_readAllOf_4 : decode cX12_readAllOf 4 = .ok (.ifCond .ne 5, 3) := by decide +kernel
theorem dX12_readAllOf_7 : decode cX12_readAllOf 7 = .ok (.iconst 0, 1) := by decide +kernel
theorem dX12_readAllOf_8 : decode cX12_readAllOf 8 = .ok (.ireturn, 1) := by decide +kernel
theorem dX12_readAllOf_9 : decode cX12_readAllOf 9 = .ok (.aload_n 0, 1) := by decide +kernel
theorem dX12_readAllOf_10 : decode cX12_readAllOf 10 = .ok (.ldc 214, 2) := by decide +kernel
theorem dX12_readAllOf_12 : decode cX12_readAllOf 12 = .ok (.invokevirtual 146, 3) := by decide +kernel
theorem dX12_readAllOf_15 : decode cX12_readAllOf 15 = .ok (.ifCond .eq 22, 3) := by decide +kernel
theorem dX12_readAllOf_18 : decode cX12_readAllOf 18 = .ok (.aload_n 0, 1) := by decide +kernel
theorem dX12_readAllOf_19 : decode cX12_readAllOf 19 = .ok (.invokevirtual 208, 3) := by decide +kernel
theorem dX12_readAllOf_22 : decode cX12_readAllOf 22 = .ok (.ifCond .ne 5, 3) := by decide +kernel
theorem dX12_readAllOf_25 : decode cX12_readAllOf 25 = .ok (.iconst 0, 1) := by decide +kernel
theorem dX12_readAllOf_26 : decode cX12_readAllOf 26 = .ok (.ireturn, 1) := by decide +kernel
theorem dX12_readAllOf_27 : decode cX12_readAllOf 27 = .ok (.aload_n 0, 1) := by decide +kernel
theorem dX12_readAllOf_28 : decode cX12_readAllOf 28 = .ok (.bipush 10, 2) := by decide +kernel
theorem dX12_readAllOf_30 : decode cX12_readAllOf 30 = .ok (.iconst 0, 1) := by decide +kernel
theorem dX12_readAllOf_31 : decode cX12_readAllOf 31 = .ok (.invokevirtual 182, 3) := by decide +kernel
theorem dX12_readAllOf_34 : decode cX12_readAllOf 34 = .ok (.goto (-25), 3) := by decide +kernel
theorem dX12_readAllOf_37 : decode cX12_readAllOf 37 = .ok (.iconst 1, 1) := by decide +kernel
theorem dX12_readAllOf_38 : decode cX12_readAllOf 38 = .ok (.ireturn, 1) := by decide +kernel
theorem dX12_readCond_0 : decode cX12_readCond 0 = .ok (.aload_n 0, 1) := by decide +kernel
theorem dX12_readCond_1 : decode cX12_readCond 1 = .ok (.invokevirtual 216, 3) := by decide +kernel
theorem dX12_readCond_4 : decode cX12_readCond 4 = .ok (.ifCond .ne 5, 3) := by decide +kernel
theorem dX12_readCond_7 : decode cX12_readCond 7 = .ok (.iconst 0, 1) := by decide +kernel
theorem dX12_readCond_8 : decode cX12_readCond 8 = .ok (.ireturn, 1) := by decide +kernel
theorem dX12_readCond_9 : decode cX12_readCond 9 = .ok (.aload_n 0, 1) := by decide +kernel
theorem dX12_readCond_10 : decode cX12_readCond 10 = .ok (.ldc 219, 2) := by decide +kernel
theorem dX12_readCond_12 : decode cX12_readCond 12 = .ok (.invokevirtual 146, 3) := by decide +kernel
theorem dX12_readCond_15 : decode cX12_readCond 15 = .ok (.ifCond .eq 22, 3) := by decide +kernel
theorem dX12_readCond_18 : decode cX12_readCond 18 = .ok (.aload_n 0, 1) := by decide +kernel
theorem dX12_readCond_19 : decode cX12_readCond 19 = .ok (.invokevirtual 216, 3) := by decide +kernel
theorem dX12_readCond_22 : decode cX12_readCond 22 = .ok (.ifCond .ne 5, 3) := by decide +kernel
theorem dX12_readCond_25 : decode cX12_readCond 25 = .ok (.iconst 0, 1) := by decide +kernel
theorem dX12_readCond_26 : decode cX12_readCond 26 = .ok (.ireturn, 1) := by decide +kernel
theorem dX12_readCond_27 : decode cX12_readCond 27 = .ok (.aload_n 0, 1) := by decide +kernel
theorem dX12_readCond_28 : decode cX12_readCond 28 = .ok (.bipush 11, 2) := by decide +kernel
theorem dX12_readCond_30 : decode cX12_readCond 30 = .ok (.iconst 0, 1) := by decide +kernel
theorem dX12_readCond_31 : decode cX12_readCond 31 = .ok (.invokevirtual 182, 3) := by decide +kernel
theorem dX12_readCond_34 : decode cX12_readCond 34 = .ok (.goto (-25), 3) := by decide +kernel
theorem dX12_readCond_37 : decode cX12_readCond 37 = .ok (.iconst 1, 1) := by decide +kernel
theorem dX12_readCond_38 : decode cX12_readCond 38 = .ok (.ireturn, 1) := by decide +kernel
theorem dX12_readLawLine_0 : decode cX12_readLawLine 0 = .ok (.sipush 1024, 3) := by decide +kernel
theorem dX12_readLawLine_3 : decode cX12_readLawLine 3 = .ok (.iconst 3, 1) := by decide +kernel
theorem dX12_readLawLine_4 : decode cX12_readLawLine 4 = .ok (.iload_n 1, 1) := by decide +kernel
theorem dX12_readLawLine_5 : decode cX12_readLawLine 5 = .ok (.imul, 1) := by decide +kernel
theorem dX12_readLawLine_6 : decode cX12_readLawLine 6 = .ok (.iadd, 1) := by decide +kernel
theorem dX12_readLawLine_7 : decode cX12_readLawLine 7 = .ok (.istore_n 2, 1) := by decide +kernel
theorem dX12_readLawLine_8 : decode cX12_readLawLine 8 = .ok (.aload_n 0, 1) := by decide +kernel
theorem dX12_readLawLine_9 : decode cX12_readLawLine 9 = .ok (.ldc 221, 2) := by decide +kernel
theorem dX12_readLawLine_11 : decode cX12_readLawLine 11 = .ok (.invokevirtual 133, 3) := by decide +kernel
theorem dX12_readLawLine_14 : decode cX12_readLawLine 14 = .ok (.ifCond .ne 5, 3) := by decide +kernel
theorem dX12_readLawLine_17 : decode cX12_readLawLine 17 = .ok (.iconst 0, 1) := by decide +kernel
theorem dX12_readLawLine_18 : decode cX12_readLawLine 18 = .ok (.ireturn, 1) := by decide +kernel
theorem dX12_readLawLine_19 : decode cX12_readLawLine 19 = .ok (.aload_n 0, 1) := by decide +kernel
theorem dX12_readLawLine_20 : decode cX12_readLawLine 20 = .ok (.getfield 13, 3) := by decide +kernel
theorem dX12_readLawLine_23 : decode cX12_readLawLine 23 = .ok (.iload_n 2, 1) := by decide +kernel
theorem dX12_readLawLine_24 : decode cX12_readLawLine 24 = .ok (.aload_n 0, 1) := by decide +kernel
theorem dX12_readLawLine_25 : decode cX12_readLawLine 25 = .ok (.iconst 0, 1) := by decide +kernel
theorem dX12_readLawLine_26 : decode cX12_readLawLine 26 = .ok (.sipush 999, 3) := by decide +kernel
theorem dX12_readLawLine_29 : decode cX12_readLawLine 29 = .ok (.invokevirtual 141, 3) := by decide +kernel
theorem dX12_readLawLine_32 : decode cX12_readLawLine 32 = .ok (.iastore, 1) := by decide +kernel
theorem dX12_readLawLine_33 : decode cX12_readLawLine 33 = .ok (.aload_n 0, 1) := by decide +kernel
theorem dX12_readLawLine_34 : decode cX12_readLawLine 34 = .ok (.getfield 13, 3) := by decide +kernel
theorem dX12_readLawLine_37 : decode cX12_readLawLine 37 = .ok (.iload_n 2, 1) := by decide +kernel
theorem dX12_readLawLine_38 : decode cX12_readLawLine 38 = .ok (.iaload, 1) := by decide +kernel
theorem dX12_readLawLine_39 : decode cX12_readLawLine 39 = .ok (.ifCond .ge 5, 3) := by decide +kernel
theorem dX12_readLawLine_42 : decode cX12_readLawLine 42 = .ok (.iconst 0, 1) := by decide +kernel
theorem dX12_readLawLine_43 : decode cX12_readLawLine 43 = .ok (.ireturn, 1) := by decide +kernel
theorem dX12_readLawLine_44 : decode cX12_readLawLine 44 = .ok (.aload_n 0, 1) := by decide +kernel
theorem dX12_readLawLine_45 : decode cX12_readLawLine 45 = .ok (.getfield 13, 3) := by decide +kernel
theorem dX12_readLawLine_48 : decode cX12_readLawLine 48 = .ok (.iload_n 2, 1) := by decide +kernel
theorem dX12_readLawLine_49 : decode cX12_readLawLine 49 = .ok (.iconst 1, 1) := by decide +kernel
theorem dX12_readLawLine_50 : decode cX12_readLawLine 50 = .ok (.iadd, 1) := by decide +kernel
theorem dX12_readLawLine_51 : decode cX12_readLawLine 51 = .ok (.aload_n 0, 1) := by decide +kernel
theorem dX12_readLawLine_52 : decode cX12_readLawLine 52 = .ok (.getfield 179, 3) := by decide +kernel
theorem dX12_readLawLine_55 : decode cX12_readLawLine 55 = .ok (.iastore, 1) := by decide +kernel
theorem dX12_readLawLine_56 : decode cX12_readLawLine 56 = .ok (.aload_n 0, 1) := by decide +kernel
theorem dX12_readLawLine_57 : decode cX12_readLawLine 57 = .ok (.iconst 0, 1) := by decide +kernel
theorem dX12_readLawLine_58 : decode cX12_readLawLine 58 = .ok (.putfield 200, 3) := by decide +kernel
theorem dX12_readLawLine_61 : decode cX12_readLawLine 61 = .ok (.aload_n 0, 1) := by decide +kernel
theorem dX12_readLawLine_62 : decode cX12_readLawLine 62 = .ok (.ldc 223, 2) := by decide +kernel
theorem dX12_readLawLine_64 : decode cX12_readLawLine 64 = .ok (.invokevirtual 146, 3) := by decide +kernel
theorem dX12_readLawLine_67 : decode cX12_readLawLine 67 = .ok (.ifCond .eq 12, 3) := by decide +kernel
theorem dX12_readLawLine_70 : decode cX12_readLawLine 70 = .ok (.aload_n 0, 1) := by decide +kernel
theorem dX12_readLawLine_71 : decode cX12_readLawLine 71 = .ok (.invokevirtual 203, 3) := by decide +kernel
theorem dX12_readLawLine_74 : decode cX12_readLawLine 74 = .ok (.ifCond .ne 5, 3) := by decide +kernel
theorem dX12_readLawLine_77 : decode cX12_readLawLine 77 = .ok (.iconst 0, 1) := by decide +kernel
theorem dX12_readLawLine_78 : decode cX12_readLawLine 78 = .ok (.ireturn, 1) := by decide +kernel
theorem dX12_readLawLine_79 : decode cX12_readLawLine 79 = .ok (.aload_n 0, 1) := by decide +kernel
theorem dX12_readLawLine_80 : decode cX12_readLawLine 80 = .ok (.getfield 13, 3) := by decide +kernel
theorem dX12_readLawLine_83 : decode cX12_readLawLine 83 = .ok (.iload_n 2, 1) := by decide +kernel
theorem dX12_readLawLine_84 : decode cX12_readLawLine 84 = .ok (.iconst 2, 1) := by decide +kernel
theorem dX12_readLawLine_85 : decode cX12_readLawLine 85 = .ok (.iadd, 1) := by decide +kernel
theorem dX12_readLawLine_86 : decode cX12_readLawLine 86 = .ok (.aload_n 0, 1) := by decide +kernel
theorem dX12_readLawLine_87 : decode cX12_readLawLine 87 = .ok (.getfield 179, 3) := by decide +kernel
theorem dX12_readLawLine_90 : decode cX12_readLawLine 90 = .ok (.iastore, 1) := by decide +kernel
theorem dX12_readLawLine_91 : decode cX12_readLawLine 91 = .ok (.iconst 1, 1) := by decide +kernel
theorem dX12_readLawLine_92 : decode cX12_readLawLine 92 = .ok (.ireturn, 1) := by decide +kernel
theorem dX12_readLine_0 : decode cX12_readLine 0 = .ok (.aload_n 0, 1) := by decide +kernel
theorem dX12_readLine_1 : decode cX12_readLine 1 = .ok (.invokevirtual 130, 3) := by decide +kernel
theorem dX12_readLine_4 : decode cX12_readLine 4 = .ok (.iload_n 2, 1) := by decide +kernel
theorem dX12_readLine_5 : decode cX12_readLine 5 = .ok (.iload_n 1, 1) := by decide +kernel
theorem dX12_readLine_6 : decode cX12_readLine 6 = .ok (.ifCond .eq 8, 3) := by decide +kernel
theorem dX12_readLine_9 : decode cX12_readLine 9 = .ok (.bipush 14, 2) := by decide +kernel
theorem dX12_readLine_11 : decode cX12_readLine 11 = .ok (.goto 5, 3) := by decide +kernel
theorem dX12_readLine_14 : decode cX12_readLine 14 = .ok (.bipush 12, 2) := by decide +kernel
theorem dX12_readLine_16 : decode cX12_readLine 16 = .ok (.if_icmp .ge 29, 3) := by decide +kernel
theorem dX12_readLine_19 : decode cX12_readLine 19 = .ok (.iload_n 1, 1) := by decide +kernel
theorem dX12_readLine_20 : decode cX12_readLine 20 = .ok (.ifCond .eq 13, 3) := by decide +kernel
theorem dX12_readLine_23 : decode cX12_readLine 23 = .ok (.aload_n 0, 1) := by decide +kernel
theorem dX12_readLine_24 : decode cX12_readLine 24 = .ok (.invokevirtual 225, 3) := by decide +kernel
theorem dX12_readLine_27 : decode cX12_readLine 27 = .ok (.ifCond .eq 18, 3) := by decide +kernel
theorem dX12_readLine_30 : decode cX12_readLine 30 = .ok (.goto 11, 3) := by decide +kernel
theorem dX12_readLine_33 : decode cX12_readLine 33 = .ok (.aload_n 0, 1) := by decide +kernel
theorem dX12_readLine_34 : decode cX12_readLine 34 = .ok (.iload_n 2, 1) := by decide +kernel
theorem dX12_readLine_35 : decode cX12_readLine 35 = .ok (.invokevirtual 228, 3) := by decide +kernel
theorem dX12_readLine_38 : decode cX12_readLine 38 = .ok (.ifCond .eq 7, 3) := by decide +kernel
theorem dX12_readLine_41 : decode cX12_readLine 41 = .ok (.iconst 1, 1) := by decide +kernel
theorem dX12_readLine_42 : decode cX12_readLine 42 = .ok (.goto 4, 3) := by decide +kernel
theorem dX12_readLine_45 : decode cX12_readLine 45 = .ok (.iconst 0, 1) := by decide +kernel
theorem dX12_readLine_46 : decode cX12_readLine 46 = .ok (.ireturn, 1) := by decide +kernel
theorem dX12_readAll_0 : decode cX12_readAll 0 = .ok (.aload_n 0, 1) := by decide +kernel
theorem dX12_readAll_1 : decode cX12_readAll 1 = .ok (.invokevirtual 231, 3) := by decide +kernel
theorem dX12_readAll_4 : decode cX12_readAll 4 = .ok (.aload_n 0, 1) := by decide +kernel
theorem dX12_readAll_5 : decode cX12_readAll 5 = .ok (.iconst 0, 1) := by decide +kernel
theorem dX12_readAll_6 : decode cX12_readAll 6 = .ok (.putfield 179, 3) := by decide +kernel
theorem dX12_readAll_9 : decode cX12_readAll 9 = .ok (.aload_n 0, 1) := by decide +kernel
theorem dX12_readAll_10 : decode cX12_readAll 10 = .ok (.invokevirtual 118, 3) := by decide +kernel
theorem dX12_readAll_13 : decode cX12_readAll 13 = .ok (.aload_n 0, 1) := by decide +kernel
theorem dX12_readAll_14 : decode cX12_readAll 14 = .ok (.getfield 105, 3) := by decide +kernel
theorem dX12_readAll_17 : decode cX12_readAll 17 = .ok (.aload_n 0, 1) := by decide +kernel
theorem dX12_readAll_18 : decode cX12_readAll 18 = .ok (.getfield 108, 3) := by decide +kernel
theorem dX12_readAll_21 : decode cX12_readAll 21 = .ok (.if_icmp .ne 5, 3) := by decide +kernel
theorem dX12_readAll_24 : decode cX12_readAll 24 = .ok (.iconst 0, 1) := by decide +kernel
theorem dX12_readAll_25 : decode cX12_readAll 25 = .ok (.ireturn, 1) := by decide +kernel
theorem dX12_readAll_26 : decode cX12_readAll 26 = .ok (.iconst 0, 1) := by decide +kernel
theorem dX12_readAll_27 : decode cX12_readAll 27 = .ok (.istore_n 2, 1) := by decide +kernel
theorem dX12_readAll_28 : decode cX12_readAll 28 = .ok (.aload_n 0, 1) := by decide +kernel
theorem dX12_readAll_29 : decode cX12_readAll 29 = .ok (.iload_n 1, 1) := by decide +kernel
theorem dX12_readAll_30 : decode cX12_readAll 30 = .ok (.iload_n 2, 1) := by decide +kernel
theorem dX12_readAll_31 : decode cX12_readAll 31 = .ok (.invokevirtual 234, 3) := by decide +kernel
theorem dX12_readAll_34 : decode cX12_readAll 34 = .ok (.ifCond .ne 5, 3) := by decide +kernel
theorem dX12_readAll_37 : decode cX12_readAll 37 = .ok (.iconst (-1), 1) := by decide +kernel
theorem dX12_readAll_38 : decode cX12_readAll 38 = .ok (.ireturn, 1) := by decide +kernel
theorem dX12_readAll_39 : decode cX12_readAll 39 = .ok (.aload_n 0, 1) := by decide +kernel
theorem dX12_readAll_40 : decode cX12_readAll 40 = .ok (.invokevirtual 118, 3) := by decide +kernel
theorem dX12_readAll_43 : decode cX12_readAll 43 = .ok (.aload_n 0, 1) := by decide +kernel
theorem dX12_readAll_44 : decode cX12_readAll 44 = .ok (.getfield 105, 3) := by decide +kernel
theorem dX12_readAll_47 : decode cX12_readAll 47 = .ok (.aload_n 0, 1) := by decide +kernel
theorem dX12_readAll_48 : decode cX12_readAll 48 = .ok (.getfield 108, 3) := by decide +kernel
theorem dX12_readAll_51 : decode cX12_readAll 51 = .ok (.if_icmp .ne 7, 3) := by decide +kernel
theorem dX12_readAll_54 : decode cX12_readAll 54 = .ok (.iload_n 2, 1) := by decide +kernel
theorem dX12_readAll_55 : decode cX12_readAll 55 = .ok (.iconst 1, 1) := by decide +kernel
theorem dX12_readAll_56 : decode cX12_readAll 56 = .ok (.iadd, 1) := by decide +kernel
theorem dX12_readAll_57 : decode cX12_readAll 57 = .ok (.ireturn, 1) := by decide +kernel
theorem dX12_readAll_58 : decode cX12_readAll 58 = .ok (.aload_n 0, 1) := by decide +kernel
theorem dX12_readAll_59 : decode cX12_readAll 59 = .ok (.bipush 59, 2) := by decide +kernel
theorem dX12_readAll_61 : decode cX12_readAll 61 = .ok (.bipush 59, 2) := by decide +kernel
theorem dX12_readAll_63 : decode cX12_readAll 63 = .ok (.invokevirtual 111, 3) := by decide +kernel
theorem dX12_readAll_66 : decode cX12_readAll 66 = .ok (.ifCond .ne 5, 3) := by decide +kernel
theorem dX12_readAll_69 : decode cX12_readAll 69 = .ok (.iconst (-1), 1) := by decide +kernel
theorem dX12_readAll_70 : decode cX12_readAll 70 = .ok (.ireturn, 1) := by decide +kernel
theorem dX12_readAll_71 : decode cX12_readAll 71 = .ok (.aload_n 0, 1) := by decide +kernel
theorem dX12_readAll_72 : decode cX12_readAll 72 = .ok (.dup, 1) := by decide +kernel
theorem dX12_readAll_73 : decode cX12_readAll 73 = .ok (.getfield 105, 3) := by decide +kernel
theorem dX12_readAll_76 : decode cX12_readAll 76 = .ok (.iconst 1, 1) := by decide +kernel
theorem dX12_readAll_77 : decode cX12_readAll 77 = .ok (.iadd, 1) := by decide +kernel
theorem dX12_readAll_78 : decode cX12_readAll 78 = .ok (.putfield 105, 3) := by decide +kernel
theorem dX12_readAll_81 : decode cX12_readAll 81 = .ok (.iinc 2 1, 3) := by decide +kernel
theorem dX12_readAll_84 : decode cX12_readAll 84 = .ok (.goto (-56), 3) := by decide +kernel
theorem dX12_town_0 : decode cX12_town 0 = .ok (.iconst 0, 1) := by decide +kernel
theorem dX12_town_1 : decode cX12_town 1 = .ok (.istore_n 1, 1) := by decide +kernel
theorem dX12_town_2 : decode cX12_town 2 = .ok (.iload_n 1, 1) := by decide +kernel
theorem dX12_town_3 : decode cX12_town 3 = .ok (.sipush 1023, 3) := by decide +kernel
theorem dX12_town_6 : decode cX12_town 6 = .ok (.if_icmp .ge 21, 3) := by decide +kernel
theorem dX12_town_9 : decode cX12_town 9 = .ok (.aload_n 0, 1) := by decide +kernel
theorem dX12_town_10 : decode cX12_town 10 = .ok (.getfield 20, 3) := by decide +kernel
theorem dX12_town_13 : decode cX12_town 13 = .ok (.iload_n 1, 1) := by decide +kernel
theorem dX12_town_14 : decode cX12_town 14 = .ok (.aload_n 0, 1) := by decide +kernel
theorem dX12_town_15 : decode cX12_town 15 = .ok (.getfield 13, 3) := by decide +kernel
theorem dX12_town_18 : decode cX12_town 18 = .ok (.iload_n 1, 1) := by decide +kernel
theorem dX12_town_19 : decode cX12_town 19 = .ok (.iaload, 1) := by decide +kernel
theorem dX12_town_20 : decode cX12_town 20 = .ok (.iastore, 1) := by decide +kernel
theorem dX12_town_21 : decode cX12_town 21 = .ok (.iinc 1 1, 3) := by decide +kernel
theorem dX12_town_24 : decode cX12_town 24 = .ok (.goto (-22), 3) := by decide +kernel
theorem dX12_town_27 : decode cX12_town 27 = .ok (.aload_n 0, 1) := by decide +kernel
theorem dX12_town_28 : decode cX12_town 28 = .ok (.iconst 1, 1) := by decide +kernel
theorem dX12_town_29 : decode cX12_town 29 = .ok (.invokevirtual 238, 3) := by decide +kernel
theorem dX12_town_32 : decode cX12_town 32 = .ok (.istore_n 1, 1) := by decide +kernel
theorem dX12_town_33 : decode cX12_town 33 = .ok (.aload_n 0, 1) := by decide +kernel
theorem dX12_town_34 : decode cX12_town 34 = .ok (.iload_n 1, 1) := by decide +kernel
theorem dX12_town_35 : decode cX12_town 35 = .ok (.ifCond .ge 10, 3) := by decide +kernel
theorem dX12_town_38 : decode cX12_town 38 = .ok (.aload_n 0, 1) := by decide +kernel
theorem dX12_town_39 : decode cX12_town 39 = .ok (.getfield 115, 3) := by decide +kernel
theorem dX12_town_42 : decode cX12_town 42 = .ok (.goto 4, 3) := by decide +kernel
theorem dX12_town_45 : decode cX12_town 45 = .ok (.iconst (-1), 1) := by decide +kernel
theorem dX12_town_46 : decode cX12_town 46 = .ok (.putfield 27, 3) := by decide +kernel
theorem dX12_town_49 : decode cX12_town 49 = .ok (.aload_n 0, 1) := by decide +kernel
theorem dX12_town_50 : decode cX12_town 50 = .ok (.iload_n 1, 1) := by decide +kernel
theorem dX12_town_51 : decode cX12_town 51 = .ok (.ifCond .ge 7, 3) := by decide +kernel
theorem dX12_town_54 : decode cX12_town 54 = .ok (.iconst 1, 1) := by decide +kernel
theorem dX12_town_55 : decode cX12_town 55 = .ok (.goto 4, 3) := by decide +kernel
theorem dX12_town_58 : decode cX12_town 58 = .ok (.iconst 0, 1) := by decide +kernel
theorem dX12_town_59 : decode cX12_town 59 = .ok (.iconst 1, 1) := by decide +kernel
theorem dX12_town_60 : decode cX12_town 60 = .ok (.invokevirtual 242, 3) := by decide +kernel
theorem dX12_town_63 : decode cX12_town 63 = .ok (.ifCond .ne 27, 3) := by decide +kernel
theorem dX12_town_66 : decode cX12_town 66 = .ok (.aload_n 0, 1) := by decide +kernel
theorem dX12_town_67 : decode cX12_town 67 = .ok (.aload_n 0, 1) := by decide +kernel
theorem dX12_town_68 : decode cX12_town 68 = .ok (.getfield 13, 3) := by decide +kernel
theorem dX12_town_71 : decode cX12_town 71 = .ok (.iconst 2, 1) := by decide +kernel
theorem dX12_town_72 : decode cX12_town 72 = .ok (.iaload, 1) := by decide +kernel
theorem dX12_town_73 : decode cX12_town 73 = .ok (.bipush 10, 2) := by decide +kernel
theorem dX12_town_75 : decode cX12_town 75 = .ok (.if_icmp .ne 7, 3) := by decide +kernel
theorem dX12_town_78 : decode cX12_town 78 = .ok (.iconst 1, 1) := by decide +kernel
theorem dX12_town_79 : decode cX12_town 79 = .ok (.goto 4, 3) := by decide +kernel
theorem dX12_town_82 : decode cX12_town 82 = .ok (.iconst 0, 1) := by decide +kernel
theorem dX12_town_83 : decode cX12_town 83 = .ok (.iconst 2, 1) := by decide +kernel
theorem dX12_town_84 : decode cX12_town 84 = .ok (.invokevirtual 242, 3) := by decide +kernel
theorem dX12_town_87 : decode cX12_town 87 = .ok (.ifCond .eq 32, 3) := by decide +kernel
theorem dX12_town_90 : decode cX12_town 90 = .ok (.iconst 0, 1) := by decide +kernel
theorem dX12_town_91 : decode cX12_town 91 = .ok (.istore_n 2, 1) := by decide +kernel
theorem dX12_town_92 : decode cX12_town 92 = .ok (.iload_n 2, 1) := by decide +kernel
theorem dX12_town_93 : decode cX12_town 93 = .ok (.sipush 1023, 3) := by decide +kernel
theorem dX12_town_96 : decode cX12_town 96 = .ok (.if_icmp .ge 21, 3) := by decide +kernel
theorem dX12_town_99 : decode cX12_town 99 = .ok (.aload_n 0, 1) := by decide +kernel
theorem dX12_town_100 : decode cX12_town 100 = .ok (.getfield 13, 3) := by decide +kernel
theorem dX12_town_103 : decode cX12_town 103 = .ok (.iload_n 2, 1) := by decide +kernel
theorem dX12_town_104 : decode cX12_town 104 = .ok (.aload_n 0, 1) := by decide +kernel
theorem dX12_town_105 : decode cX12_town 105 = .ok (.getfield 20, 3) := by decide +kernel
theorem dX12_town_108 : decode cX12_town 108 = .ok (.iload_n 2, 1) := by decide +kernel
theorem dX12_town_109 : decode cX12_town 109 = .ok (.iaload, 1) := by decide +kernel
theorem dX12_town_110 : decode cX12_town 110 = .ok (.iastore, 1) := by decide +kernel
theorem dX12_town_111 : decode cX12_town 111 = .ok (.iinc 2 1, 3) := by decide +kernel
theorem dX12_town_114 : decode cX12_town 114 = .ok (.goto (-22), 3) := by decide +kernel
theorem dX12_town_117 : decode cX12_town 117 = .ok (.iconst 0, 1) := by decide +kernel
theorem dX12_town_118 : decode cX12_town 118 = .ok (.ireturn, 1) := by decide +kernel
theorem dX12_town_119 : decode cX12_town 119 = .ok (.aload_n 0, 1) := by decide +kernel
theorem dX12_town_120 : decode cX12_town 120 = .ok (.getfield 13, 3) := by decide +kernel
theorem dX12_town_123 : decode cX12_town 123 = .ok (.iconst 2, 1) := by decide +kernel
theorem dX12_town_124 : decode cX12_town 124 = .ok (.dup2, 1) := by decide +kernel
theorem dX12_town_125 : decode cX12_town 125 = .ok (.iaload, 1) := by decide +kernel
theorem dX12_town_126 : decode cX12_town 126 = .ok (.iconst 1, 1) := by decide +kernel
theorem dX12_town_127 : decode cX12_town 127 = .ok (.iadd, 1) := by decide +kernel
theorem dX12_town_128 : decode cX12_town 128 = .ok (.iastore, 1) := by decide +kernel
theorem dX12_town_129 : decode cX12_town 129 = .ok (.aload_n 0, 1) := by decide +kernel
theorem dX12_town_130 : decode cX12_town 130 = .ok (.getfield 13, 3) := by decide +kernel
theorem dX12_town_133 : decode cX12_town 133 = .ok (.iconst 2, 1) := by decide +kernel
theorem dX12_town_134 : decode cX12_town 134 = .ok (.iaload, 1) := by decide +kernel
theorem dX12_town_135 : decode cX12_town 135 = .ok (.ireturn, 1) := by decide +kernel
theorem dX12_law_0 : decode cX12_law 0 = .ok (.aload_n 0, 1) := by decide +kernel
theorem dX12_law_1 : decode cX12_law 1 = .ok (.iconst 0, 1) := by decide +kernel
theorem dX12_law_2 : decode cX12_law 2 = .ok (.invokevirtual 238, 3) := by decide +kernel
theorem dX12_law_5 : decode cX12_law 5 = .ok (.istore_n 1, 1) := by decide +kernel
theorem dX12_law_6 : decode cX12_law 6 = .ok (.aload_n 0, 1) := by decide +kernel
theorem dX12_law_7 : decode cX12_law 7 = .ok (.iload_n 1, 1) := by decide +kernel
theorem dX12_law_8 : decode cX12_law 8 = .ok (.ifCond .ge 10, 3) := by decide +kernel
theorem dX12_law_11 : decode cX12_law 11 = .ok (.aload_n 0, 1) := by decide +kernel
theorem dX12_law_12 : decode cX12_law 12 = .ok (.getfield 115, 3) := by decide +kernel
theorem dX12_law_15 : decode cX12_law 15 = .ok (.goto 4, 3) := by decide +kernel
theorem dX12_law_18 : decode cX12_law 18 = .ok (.iconst (-1), 1) := by decide +kernel
theorem dX12_law_19 : decode cX12_law 19 = .ok (.putfield 27, 3) := by decide +kernel
theorem dX12_law_22 : decode cX12_law 22 = .ok (.aload_n 0, 1) := by decide +kernel
theorem dX12_law_23 : decode cX12_law 23 = .ok (.iload_n 1, 1) := by decide +kernel
theorem dX12_law_24 : decode cX12_law 24 = .ok (.ifCond .ge 7, 3) := by decide +kernel
theorem dX12_law_27 : decode cX12_law 27 = .ok (.iconst 1, 1) := by decide +kernel
theorem dX12_law_28 : decode cX12_law 28 = .ok (.goto 4, 3) := by decide +kernel
theorem dX12_law_31 : decode cX12_law 31 = .ok (.iconst 0, 1) := by decide +kernel
theorem dX12_law_32 : decode cX12_law 32 = .ok (.iconst 1, 1) := by decide +kernel
theorem dX12_law_33 : decode cX12_law 33 = .ok (.invokevirtual 242, 3) := by decide +kernel
theorem dX12_law_36 : decode cX12_law 36 = .ok (.ifCond .eq 5, 3) := by decide +kernel
theorem dX12_law_39 : decode cX12_law 39 = .ok (.iconst 0, 1) := by decide +kernel
theorem dX12_law_40 : decode cX12_law 40 = .ok (.ireturn, 1) := by decide +kernel
theorem dX12_law_41 : decode cX12_law 41 = .ok (.aload_n 0, 1) := by decide +kernel
theorem dX12_law_42 : decode cX12_law 42 = .ok (.getfield 13, 3) := by decide +kernel
theorem dX12_law_45 : decode cX12_law 45 = .ok (.sipush 1023, 3) := by decide +kernel
theorem dX12_law_48 : decode cX12_law 48 = .ok (.iload_n 1, 1) := by decide +kernel
theorem dX12_law_49 : decode cX12_law 49 = .ok (.iastore, 1) := by decide +kernel
theorem dX12_law_50 : decode cX12_law 50 = .ok (.iconst 0, 1) := by decide +kernel
theorem dX12_law_51 : decode cX12_law 51 = .ok (.istore_n 2, 1) := by decide +kernel
theorem dX12_law_52 : decode cX12_law 52 = .ok (.iload_n 2, 1) := by decide +kernel
theorem dX12_law_53 : decode cX12_law 53 = .ok (.sipush 837, 3) := by decide +kernel
theorem dX12_law_56 : decode cX12_law 56 = .ok (.if_icmp .ge 29, 3) := by decide +kernel
theorem dX12_law_59 : decode cX12_law 59 = .ok (.aload_n 0, 1) := by decide +kernel
theorem dX12_law_60 : decode cX12_law 60 = .ok (.getfield 13, 3) := by decide +kernel
theorem dX12_law_63 : decode cX12_law 63 = .ok (.sipush 186, 3) := by decide +kernel
theorem dX12_law_66 : decode cX12_law 66 = .ok (.iload_n 2, 1) := by decide +kernel
theorem dX12_law_67 : decode cX12_law 67 = .ok (.iadd, 1) := by decide +kernel
theorem dX12_law_68 : decode cX12_law 68 = .ok (.aload_n 0, 1) := by decide +kernel
theorem dX12_law_69 : decode cX12_law 69 = .ok (.getfield 13, 3) := by decide +kernel
theorem dX12_law_72 : decode cX12_law 72 = .ok (.sipush 1023, 3) := by decide +kernel
theorem dX12_law_75 : decode cX12_law 75 = .ok (.iload_n 2, 1) := by decide +kernel
theorem dX12_law_76 : decode cX12_law 76 = .ok (.iadd, 1) := by decide +kernel
theorem dX12_law_77 : decode cX12_law 77 = .ok (.iaload, 1) := by decide +kernel
theorem dX12_law_78 : decode cX12_law 78 = .ok (.iastore, 1) := by decide +kernel
theorem dX12_law_79 : decode cX12_law 79 = .ok (.iinc 2 1, 3) := by decide +kernel
theorem dX12_law_82 : decode cX12_law 82 = .ok (.goto (-30), 3) := by decide +kernel
theorem dX12_law_85 : decode cX12_law 85 = .ok (.aload_n 0, 1) := by decide +kernel
theorem dX12_law_86 : decode cX12_law 86 = .ok (.getfield 13, 3) := by decide +kernel
theorem dX12_law_89 : decode cX12_law 89 = .ok (.iconst 3, 1) := by decide +kernel
theorem dX12_law_90 : decode cX12_law 90 = .ok (.iconst 1, 1) := by decide +kernel
theorem dX12_law_91 : decode cX12_law 91 = .ok (.iastore, 1) := by decide +kernel
theorem dX12_law_92 : decode cX12_law 92 = .ok (.iload_n 1, 1) := by decide +kernel
theorem dX12_law_93 : decode cX12_law 93 = .ok (.ireturn, 1) := by decide +kernel
theorem dX12_farOf_0 : decode cX12_farOf 0 = .ok (.aload_n 0, 1) := by decide +kernel
theorem dX12_farOf_1 : decode cX12_farOf 1 = .ok (.iload_n 2, 1) := by decide +kernel
theorem dX12_farOf_2 : decode cX12_farOf 2 = .ok (.iconst 0, 1) := by decide +kernel
theorem dX12_farOf_3 : decode cX12_farOf 3 = .ok (.invokevirtual 70, 3) := by decide +kernel
theorem dX12_farOf_6 : decode cX12_farOf 6 = .ok (.aload_n 0, 1) := by decide +kernel
theorem dX12_farOf_7 : decode cX12_farOf 7 = .ok (.getfield 13, 3) := by decide +kernel
theorem dX12_farOf_10 : decode cX12_farOf 10 = .ok (.bipush 6, 2) := by decide +kernel
theorem dX12_farOf_12 : decode cX12_farOf 12 = .ok (.iaload, 1) := by decide +kernel
theorem dX12_farOf_13 : decode cX12_farOf 13 = .ok (.iadd, 1) := by decide +kernel
theorem dX12_farOf_14 : decode cX12_farOf 14 = .ok (.aload_n 0, 1) := by decide +kernel
theorem dX12_farOf_15 : decode cX12_farOf 15 = .ok (.iload_n 1, 1) := by decide +kernel
theorem dX12_farOf_16 : decode cX12_farOf 16 = .ok (.iconst 0, 1) := by decide +kernel
theorem dX12_farOf_17 : decode cX12_farOf 17 = .ok (.invokevirtual 70, 3) := by decide +kernel
theorem dX12_farOf_20 : decode cX12_farOf 20 = .ok (.isub, 1) := by decide +kernel
theorem dX12_farOf_21 : decode cX12_farOf 21 = .ok (.invokestatic 245, 3) := by decide +kernel
theorem dX12_farOf_24 : decode cX12_farOf 24 = .ok (.aload_n 0, 1) := by decide +kernel
theorem dX12_farOf_25 : decode cX12_farOf 25 = .ok (.iload_n 2, 1) := by decide +kernel
theorem dX12_farOf_26 : decode cX12_farOf 26 = .ok (.iconst 1, 1) := by decide +kernel
theorem dX12_farOf_27 : decode cX12_farOf 27 = .ok (.invokevirtual 70, 3) := by decide +kernel
theorem dX12_farOf_30 : decode cX12_farOf 30 = .ok (.aload_n 0, 1) := by decide +kernel
theorem dX12_farOf_31 : decode cX12_farOf 31 = .ok (.getfield 13, 3) := by decide +kernel
theorem dX12_farOf_34 : decode cX12_farOf 34 = .ok (.bipush 7, 2) := by decide +kernel
theorem dX12_farOf_36 : decode cX12_farOf 36 = .ok (.iaload, 1) := by decide +kernel
theorem dX12_farOf_37 : decode cX12_farOf 37 = .ok (.iadd, 1) := by decide +kernel
theorem dX12_farOf_38 : decode cX12_farOf 38 = .ok (.aload_n 0, 1) := by decide +kernel
theorem dX12_farOf_39 : decode cX12_farOf 39 = .ok (.iload_n 1, 1) := by decide +kernel
theorem dX12_farOf_40 : decode cX12_farOf 40 = .ok (.iconst 1, 1) := by decide +kernel
theorem dX12_farOf_41 : decode cX12_farOf 41 = .ok (.invokevirtual 70, 3) := by decide +kernel
theorem dX12_farOf_44 : decode cX12_farOf 44 = .ok (.isub, 1) := by decide +kernel
theorem dX12_farOf_45 : decode cX12_farOf 45 = .ok (.invokestatic 245, 3) := by decide +kernel
theorem dX12_farOf_48 : decode cX12_farOf 48 = .ok (.iadd, 1) := by decide +kernel
theorem dX12_farOf_49 : decode cX12_farOf 49 = .ok (.ireturn, 1) := by decide +kernel
theorem dX12_isHearing_0 : decode cX12_isHearing 0 = .ok (.iload_n 1, 1) := by decide +kernel
theorem dX12_isHearing_1 : decode cX12_isHearing 1 = .ok (.iload_n 2, 1) := by decide +kernel
theorem dX12_isHearing_2 : decode cX12_isHearing 2 = .ok (.if_icmp .eq 31, 3) := by decide +kernel
theorem dX12_isHearing_5 : decode cX12_isHearing 5 = .ok (.aload_n 0, 1) := by decide +kernel
theorem dX12_isHearing_6 : decode cX12_isHearing 6 = .ok (.iload_n 1, 1) := by decide +kernel
theorem dX12_isHearing_7 : decode cX12_isHearing 7 = .ok (.iconst 4, 1) := by decide +kernel
theorem dX12_isHearing_8 : decode cX12_isHearing 8 = .ok (.invokevirtual 70, 3) := by decide +kernel
theorem dX12_isHearing_11 : decode cX12_isHearing 11 = .ok (.ifCond .ne 22, 3) := by decide +kernel
theorem dX12_isHearing_14 : decode cX12_isHearing 14 = .ok (.aload_n 0, 1) := by decide +kernel
theorem dX12_isHearing_15 : decode cX12_isHearing 15 = .ok (.iload_n 1, 1) := by decide +kernel
theorem dX12_isHearing_16 : decode cX12_isHearing 16 = .ok (.iload_n 2, 1) := by decide +kernel
theorem dX12_isHearing_17 : decode cX12_isHearing 17 = .ok (.invokevirtual 248, 3) := by decide +kernel
theorem dX12_isHearing_20 : decode cX12_isHearing 20 = .ok (.aload_n 0, 1) := by decide +kernel
theorem dX12_isHearing_21 : decode cX12_isHearing 21 = .ok (.iload_n 2, 1) := by decide +kernel
theorem dX12_isHearing_22 : decode cX12_isHearing 22 = .ok (.iconst 2, 1) := by decide +kernel
theorem dX12_isHearing_23 : decode cX12_isHearing 23 = .ok (.invokevirtual 70, 3) := by decide +kernel
theorem dX12_isHearing_26 : decode cX12_isHearing 26 = .ok (.if_icmp .gt 7, 3) := by decide +kernel
theorem dX12_isHearing_29 : decode cX12_isHearing 29 = .ok (.iconst 1, 1) := by decide +kernel
theorem dX12_isHearing_30 : decode cX12_isHearing 30 = .ok (.goto 4, 3) := by decide +kernel
theorem dX12_isHearing_33 : decode cX12_isHearing 33 = .ok (.iconst 0, 1) := by decide +kernel
theorem dX12_isHearing_34 : decode cX12_isHearing 34 = .ok (.ireturn, 1) := by decide +kernel
theorem dX12_clearOf_0 : decode cX12_clearOf 0 = .ok (.aload_n 0, 1) := by decide +kernel
theorem dX12_clearOf_1 : decode cX12_clearOf 1 = .ok (.iload_n 1, 1) := by decide +kernel
theorem dX12_clearOf_2 : decode cX12_clearOf 2 = .ok (.iload_n 2, 1) := by decide +kernel
theorem dX12_clearOf_3 : decode cX12_clearOf 3 = .ok (.invokevirtual 251, 3) := by decide +kernel
theorem dX12_clearOf_6 : decode cX12_clearOf 6 = .ok (.ifCond .eq 23, 3) := by decide +kernel
theorem dX12_clearOf_9 : decode cX12_clearOf 9 = .ok (.aload_n 0, 1) := by decide +kernel
theorem dX12_clearOf_10 : decode cX12_clearOf 10 = .ok (.iload_n 2, 1) := by decide +kernel
theorem dX12_clearOf_11 : decode cX12_clearOf 11 = .ok (.iconst 2, 1) := by decide +kernel
theorem dX12_clearOf_12 : decode cX12_clearOf 12 = .ok (.invokevirtual 70, 3) := by decide +kernel
theorem dX12_clearOf_15 : decode cX12_clearOf 15 = .ok (.aload_n 0, 1) := by decide +kernel
theorem dX12_clearOf_16 : decode cX12_clearOf 16 = .ok (.iload_n 1, 1) := by decide +kernel
theorem dX12_clearOf_17 : decode cX12_clearOf 17 = .ok (.iload_n 2, 1) := by decide +kernel
theorem dX12_clearOf_18 : decode cX12_clearOf 18 = .ok (.invokevirtual 248, 3) := by decide +kernel
theorem dX12_clearOf_21 : decode cX12_clearOf 21 = .ok (.isub, 1) := by decide +kernel
theorem dX12_clearOf_22 : decode cX12_clearOf 22 = .ok (.iconst 3, 1) := by decide +kernel
theorem dX12_clearOf_23 : decode cX12_clearOf 23 = .ok (.idiv, 1) := by decide +kernel
theorem dX12_clearOf_24 : decode cX12_clearOf 24 = .ok (.iconst 1, 1) := by decide +kernel
theorem dX12_clearOf_25 : decode cX12_clearOf 25 = .ok (.iadd, 1) := by decide +kernel
theorem dX12_clearOf_26 : decode cX12_clearOf 26 = .ok (.goto 4, 3) := by decide +kernel
theorem dX12_clearOf_29 : decode cX12_clearOf 29 = .ok (.iconst 0, 1) := by decide +kernel
theorem dX12_clearOf_30 : decode cX12_clearOf 30 = .ok (.ireturn, 1) := by decide +kernel
theorem dX12_isHarm_0 : decode cX12_isHarm 0 = .ok (.aload_n 0, 1) := by decide +kernel
theorem dX12_isHarm_1 : decode cX12_isHarm 1 = .ok (.iload_n 1, 1) := by decide +kernel
theorem dX12_isHarm_2 : decode cX12_isHarm 2 = .ok (.iload_n 2, 1) := by decide +kernel
theorem dX12_isHarm_3 : decode cX12_isHarm 3 = .ok (.invokevirtual 251, 3) := by decide +kernel
theorem dX12_isHarm_6 : decode cX12_isHarm 6 = .ok (.ifCond .ne 12, 3) := by decide +kernel
theorem dX12_isHarm_9 : decode cX12_isHarm 9 = .ok (.aload_n 0, 1) := by decide +kernel
theorem dX12_isHarm_10 : decode cX12_isHarm 10 = .ok (.iload_n 2, 1) := by decide +kernel
theorem dX12_isHarm_11 : decode cX12_isHarm 11 = .ok (.iload_n 1, 1) := by decide +kernel
theorem dX12_isHarm_12 : decode cX12_isHarm 12 = .ok (.invokevirtual 251, 3) := by decide +kernel
theorem dX12_isHarm_15 : decode cX12_isHarm 15 = .ok (.ifCond .eq 7, 3) := by decide +kernel
theorem dX12_isHarm_18 : decode cX12_isHarm 18 = .ok (.iconst 1, 1) := by decide +kernel
theorem dX12_isHarm_19 : decode cX12_isHarm 19 = .ok (.goto 4, 3) := by decide +kernel
theorem dX12_isHarm_22 : decode cX12_isHarm 22 = .ok (.iconst 0, 1) := by decide +kernel
theorem dX12_isHarm_23 : decode cX12_isHarm 23 = .ok (.istore_n 3, 1) := by decide +kernel
theorem dX12_isHarm_24 : decode cX12_isHarm 24 = .ok (.iconst 0, 1) := by decide +kernel
theorem dX12_isHarm_25 : decode cX12_isHarm 25 = .ok (.istore 4, 2) := by decide +kernel
theorem dX12_isHarm_27 : decode cX12_isHarm 27 = .ok (.iload 4, 2) := by decide +kernel
theorem dX12_isHarm_29 : decode cX12_isHarm 29 = .ok (.aload_n 0, 1) := by decide +kernel
theorem dX12_isHarm_30 : decode cX12_isHarm 30 = .ok (.invokevirtual 74, 3) := by decide +kernel
theorem dX12_isHarm_33 : decode cX12_isHarm 33 = .ok (.if_icmp .ge 44, 3) := by decide +kernel
theorem dX12_isHarm_36 : decode cX12_isHarm 36 = .ok (.iload_n 3, 1) := by decide +kernel
theorem dX12_isHarm_37 : decode cX12_isHarm 37 = .ok (.ifCond .ne 28, 3) := by decide +kernel
theorem dX12_isHarm_40 : decode cX12_isHarm 40 = .ok (.iload_n 1, 1) := by decide +kernel
theorem dX12_isHarm_41 : decode cX12_isHarm 41 = .ok (.iload_n 2, 1) := by decide +kernel
theorem dX12_isHarm_42 : decode cX12_isHarm 42 = .ok (.if_icmp .eq 27, 3) := by decide +kernel
theorem dX12_isHarm_45 : decode cX12_isHarm 45 = .ok (.aload_n 0, 1) := by decide +kernel
theorem dX12_isHarm_46 : decode cX12_isHarm 46 = .ok (.iload 4, 2) := by decide +kernel
theorem dX12_isHarm_48 : decode cX12_isHarm 48 = .ok (.iload_n 1, 1) := by decide +kernel
theorem dX12_isHarm_49 : decode cX12_isHarm 49 = .ok (.invokevirtual 251, 3) := by decide +kernel
theorem dX12_isHarm_52 : decode cX12_isHarm 52 = .ok (.ifCond .eq 17, 3) := by decide +kernel
theorem dX12_isHarm_55 : decode cX12_isHarm 55 = .ok (.aload_n 0, 1) := by decide +kernel
theorem dX12_isHarm_56 : decode cX12_isHarm 56 = .ok (.iload 4, 2) := by decide +kernel
theorem dX12_isHarm_58 : decode cX12_isHarm 58 = .ok (.iload_n 2, 1) := by decide +kernel
theorem dX12_isHarm_59 : decode cX12_isHarm 59 = .ok (.invokevirtual 251, 3) := by decide +kernel
theorem dX12_isHarm_62 : decode cX12_isHarm 62 = .ok (.ifCond .eq 7, 3) := by decide +kernel
theorem dX12_isHarm_65 : decode cX12_isHarm 65 = .ok (.iconst 1, 1) := by decide +kernel
theorem dX12_isHarm_66 : decode cX12_isHarm 66 = .ok (.goto 4, 3) := by decide +kernel
theorem dX12_isHarm_69 : decode cX12_isHarm 69 = .ok (.iconst 0, 1) := by decide +kernel
theorem dX12_isHarm_70 : decode cX12_isHarm 70 = .ok (.istore_n 3, 1) := by decide +kernel
theorem dX12_isHarm_71 : decode cX12_isHarm 71 = .ok (.iinc 4 1, 3) := by decide +kernel
theorem dX12_isHarm_74 : decode cX12_isHarm 74 = .ok (.goto (-47), 3) := by decide +kernel
theorem dX12_isHarm_77 : decode cX12_isHarm 77 = .ok (.iload_n 3, 1) := by decide +kernel
theorem dX12_isHarm_78 : decode cX12_isHarm 78 = .ok (.ireturn, 1) := by decide +kernel
theorem dX12_wordsOf_0 : decode cX12_wordsOf 0 = .ok (.iconst 0, 1) := by decide +kernel
theorem dX12_wordsOf_1 : decode cX12_wordsOf 1 = .ok (.istore_n 2, 1) := by decide +kernel
theorem dX12_wordsOf_2 : decode cX12_wordsOf 2 = .ok (.iconst 0, 1) := by decide +kernel
theorem dX12_wordsOf_3 : decode cX12_wordsOf 3 = .ok (.istore_n 3, 1) := by decide +kernel
theorem dX12_wordsOf_4 : decode cX12_wordsOf 4 = .ok (.iload_n 3, 1) := by decide +kernel
theorem dX12_wordsOf_5 : decode cX12_wordsOf 5 = .ok (.aload_n 0, 1) := by decide +kernel
theorem dX12_wordsOf_6 : decode cX12_wordsOf 6 = .ok (.invokevirtual 82, 3) := by decide +kernel
theorem dX12_wordsOf_9 : decode cX12_wordsOf 9 = .ok (.if_icmp .ge 26, 3) := by decide +kernel
theorem dX12_wordsOf_12 : decode cX12_wordsOf 12 = .ok (.iload_n 2, 1) := by decide +kernel
theorem dX12_wordsOf_13 : decode cX12_wordsOf 13 = .ok (.aload_n 0, 1) := by decide +kernel
theorem dX12_wordsOf_14 : decode cX12_wordsOf 14 = .ok (.iload_n 1, 1) := by decide +kernel
theorem dX12_wordsOf_15 : decode cX12_wordsOf 15 = .ok (.iload_n 3, 1) := by decide +kernel
theorem dX12_wordsOf_16 : decode cX12_wordsOf 16 = .ok (.invokevirtual 254, 3) := by decide +kernel
theorem dX12_wordsOf_19 : decode cX12_wordsOf 19 = .ok (.ifCond .le 7, 3) := by decide +kernel
theorem dX12_wordsOf_22 : decode cX12_wordsOf 22 = .ok (.iconst 1, 1) := by decide +kernel
theorem dX12_wordsOf_23 : decode cX12_wordsOf 23 = .ok (.goto 4, 3) := by decide +kernel
theorem dX12_wordsOf_26 : decode cX12_wordsOf 26 = .ok (.iconst 0, 1) := by decide +kernel
theorem dX12_wordsOf_27 : decode cX12_wordsOf 27 = .ok (.iadd, 1) := by decide +kernel
theorem dX12_wordsOf_28 : decode cX12_wordsOf 28 = .ok (.istore_n 2, 1) := by decide +kernel
theorem dX12_wordsOf_29 : decode cX12_wordsOf 29 = .ok (.iinc 3 1, 3) := by decide +kernel
theorem dX12_wordsOf_32 : decode cX12_wordsOf 32 = .ok (.goto (-28), 3) := by decide +kernel
theorem dX12_wordsOf_35 : decode cX12_wordsOf 35 = .ok (.iload_n 2, 1) := by decide +kernel
theorem dX12_wordsOf_36 : decode cX12_wordsOf 36 = .ok (.ireturn, 1) := by decide +kernel
theorem dX12_house_0 : decode cX12_house 0 = .ok (.aload_n 0, 1) := by decide +kernel
theorem dX12_house_1 : decode cX12_house 1 = .ok (.iconst 0, 1) := by decide +kernel
theorem dX12_house_2 : decode cX12_house 2 = .ok (.putfield 3, 3) := by decide +kernel
theorem dX12_house_5 : decode cX12_house 5 = .ok (.aload_n 0, 1) := by decide +kernel
theorem dX12_house_6 : decode cX12_house 6 = .ok (.aload_n 0, 1) := by decide +kernel
theorem dX12_house_7 : decode cX12_house 7 = .ok (.iload_n 1, 1) := by decide +kernel
theorem dX12_house_8 : decode cX12_house 8 = .ok (.invokevirtual 257, 3) := by decide +kernel
theorem dX12_house_11 : decode cX12_house 11 = .ok (.iconst 1, 1) := by decide +kernel
theorem dX12_house_12 : decode cX12_house 12 = .ok (.invokevirtual 242, 3) := by decide +kernel
theorem dX12_house_15 : decode cX12_house 15 = .ok (.ifCond .ne 25, 3) := by decide +kernel
theorem dX12_house_18 : decode cX12_house 18 = .ok (.aload_n 0, 1) := by decide +kernel
theorem dX12_house_19 : decode cX12_house 19 = .ok (.iload_n 2, 1) := by decide +kernel
theorem dX12_house_20 : decode cX12_house 20 = .ok (.iconst 0, 1) := by decide +kernel
theorem dX12_house_21 : decode cX12_house 21 = .ok (.iconst 5, 1) := by decide +kernel
theorem dX12_house_22 : decode cX12_house 22 = .ok (.invokestatic 78, 3) := by decide +kernel
theorem dX12_house_25 : decode cX12_house 25 = .ok (.ifCond .ne 7, 3) := by decide +kernel
theorem dX12_house_28 : decode cX12_house 28 = .ok (.iconst 1, 1) := by decide +kernel
theorem dX12_house_29 : decode cX12_house 29 = .ok (.goto 4, 3) := by decide +kernel
theorem dX12_house_32 : decode cX12_house 32 = .ok (.iconst 0, 1) := by decide +kernel
theorem dX12_house_33 : decode cX12_house 33 = .ok (.iconst 2, 1) := by decide +kernel
theorem dX12_house_34 : decode cX12_house 34 = .ok (.invokevirtual 242, 3) := by decide +kernel
theorem dX12_house_37 : decode cX12_house 37 = .ok (.ifCond .eq 7, 3) := by decide +kernel
theorem dX12_house_40 : decode cX12_house 40 = .ok (.iconst 0, 1) := by decide +kernel
theorem dX12_house_41 : decode cX12_house 41 = .ok (.goto 22, 3) := by decide +kernel
theorem dX12_house_44 : decode cX12_house 44 = .ok (.iload_n 2, 1) := by decide +kernel
theorem dX12_house_45 : decode cX12_house 45 = .ok (.iconst 5, 1) := by decide +kernel
theorem dX12_house_46 : decode cX12_house 46 = .ok (.if_icmp .ge 12, 3) := by decide +kernel
theorem dX12_house_49 : decode cX12_house 49 = .ok (.aload_n 0, 1) := by decide +kernel
theorem dX12_house_50 : decode cX12_house 50 = .ok (.iload_n 1, 1) := by decide +kernel
theorem dX12_house_51 : decode cX12_house 51 = .ok (.iload_n 2, 1) := by decide +kernel
theorem dX12_house_52 : decode cX12_house 52 = .ok (.invokevirtual 70, 3) := by decide +kernel
theorem dX12_house_55 : decode cX12_house 55 = .ok (.goto 8, 3) := by decide +kernel
theorem dX12_house_58 : decode cX12_house 58 = .ok (.aload_n 0, 1) := by decide +kernel
theorem dX12_house_59 : decode cX12_house 59 = .ok (.iload_n 1, 1) := by decide +kernel
theorem dX12_house_60 : decode cX12_house 60 = .ok (.invokevirtual 260, 3) := by decide +kernel
theorem dX12_house_63 : decode cX12_house 63 = .ok (.ireturn, 1) := by decide +kernel
theorem dX12_want_0 : decode cX12_want 0 = .ok (.aload_n 0, 1) := by decide +kernel
theorem dX12_want_1 : decode cX12_want 1 = .ok (.iconst 0, 1) := by decide +kernel
theorem dX12_want_2 : decode cX12_want 2 = .ok (.putfield 3, 3) := by decide +kernel
theorem dX12_want_5 : decode cX12_want 5 = .ok (.aload_n 0, 1) := by decide +kernel
theorem dX12_want_6 : decode cX12_want 6 = .ok (.aload_n 0, 1) := by decide +kernel
theorem dX12_want_7 : decode cX12_want 7 = .ok (.iload_n 1, 1) := by decide +kernel
theorem dX12_want_8 : decode cX12_want 8 = .ok (.invokevirtual 263, 3) := by decide +kernel
theorem dX12_want_11 : decode cX12_want 11 = .ok (.iconst 1, 1) := by decide +kernel
theorem dX12_want_12 : decode cX12_want 12 = .ok (.invokevirtual 242, 3) := by decide +kernel
theorem dX12_want_15 : decode cX12_want 15 = .ok (.ifCond .eq 7, 3) := by decide +kernel
theorem dX12_want_18 : decode cX12_want 18 = .ok (.iconst 0, 1) := by decide +kernel
theorem dX12_want_19 : decode cX12_want 19 = .ok (.goto 8, 3) := by decide +kernel
theorem dX12_want_22 : decode cX12_want 22 = .ok (.aload_n 0, 1) := by decide +kernel
theorem dX12_want_23 : decode cX12_want 23 = .ok (.iload_n 1, 1) := by decide +kernel
theorem dX12_want_24 : decode cX12_want 24 = .ok (.invokevirtual 266, 3) := by decide +kernel
theorem dX12_want_27 : decode cX12_want 27 = .ok (.ireturn, 1) := by decide +kernel
theorem dX12_code_0 : decode cX12_code 0 = .ok (.aload_n 0, 1) := by decide +kernel
theorem dX12_code_1 : decode cX12_code 1 = .ok (.iconst 0, 1) := by decide +kernel
theorem dX12_code_2 : decode cX12_code 2 = .ok (.putfield 3, 3) := by decide +kernel
theorem dX12_code_5 : decode cX12_code 5 = .ok (.aload_n 0, 1) := by decide +kernel
theorem dX12_code_6 : decode cX12_code 6 = .ok (.aload_n 0, 1) := by decide +kernel
theorem dX12_code_7 : decode cX12_code 7 = .ok (.iload_n 1, 1) := by decide +kernel
theorem dX12_code_8 : decode cX12_code 8 = .ok (.invokevirtual 257, 3) := by decide +kernel
theorem dX12_code_11 : decode cX12_code 11 = .ok (.ifCond .ne 11, 3) := by decide +kernel
theorem dX12_code_14 : decode cX12_code 14 = .ok (.aload_n 0, 1) := by decide +kernel
theorem dX12_code_15 : decode cX12_code 15 = .ok (.iload_n 2, 1) := by decide +kernel
theorem dX12_code_16 : decode cX12_code 16 = .ok (.invokevirtual 263, 3) := by decide +kernel
theorem dX12_code_19 : decode cX12_code 19 = .ok (.ifCond .eq 7, 3) := by decide +kernel
theorem dX12_code_22 : decode cX12_code 22 = .ok (.iconst 1, 1) := by decide +kernel
theorem dX12_code_23 : decode cX12_code 23 = .ok (.goto 4, 3) := by decide +kernel
theorem dX12_code_26 : decode cX12_code 26 = .ok (.iconst 0, 1) := by decide +kernel
theorem dX12_code_27 : decode cX12_code 27 = .ok (.iconst 1, 1) := by decide +kernel
theorem dX12_code_28 : decode cX12_code 28 = .ok (.invokevirtual 242, 3) := by decide +kernel
theorem dX12_code_31 : decode cX12_code 31 = .ok (.ifCond .eq 5, 3) := by decide +kernel
theorem dX12_code_34 : decode cX12_code 34 = .ok (.iconst 0, 1) := by decide +kernel
theorem dX12_code_35 : decode cX12_code 35 = .ok (.ireturn, 1) := by decide +kernel
theorem dX12_code_36 : decode cX12_code 36 = .ok (.aload_n 0, 1) := by decide +kernel
theorem dX12_code_37 : decode cX12_code 37 = .ok (.iload_n 1, 1) := by decide +kernel
theorem dX12_code_38 : decode cX12_code 38 = .ok (.iload_n 2, 1) := by decide +kernel
theorem dX12_code_39 : decode cX12_code 39 = .ok (.invokevirtual 254, 3) := by decide +kernel
theorem dX12_code_42 : decode cX12_code 42 = .ok (.ifCond .le 12, 3) := by decide +kernel
theorem dX12_code_45 : decode cX12_code 45 = .ok (.aload_n 0, 1) := by decide +kernel
theorem dX12_code_46 : decode cX12_code 46 = .ok (.iload_n 1, 1) := by decide +kernel
theorem dX12_code_47 : decode cX12_code 47 = .ok (.iload_n 2, 1) := by decide +kernel
theorem dX12_code_48 : decode cX12_code 48 = .ok (.invokevirtual 254, 3) := by decide +kernel
theorem dX12_code_51 : decode cX12_code 51 = .ok (.goto 4, 3) := by decide +kernel
theorem dX12_code_54 : decode cX12_code 54 = .ok (.iconst (-1), 1) := by decide +kernel
theorem dX12_code_55 : decode cX12_code 55 = .ok (.ireturn, 1) := by decide +kernel
theorem dX12_cost_0 : decode cX12_cost 0 = .ok (.aload_n 0, 1) := by decide +kernel
theorem dX12_cost_1 : decode cX12_cost 1 = .ok (.iconst 0, 1) := by decide +kernel
theorem dX12_cost_2 : decode cX12_cost 2 = .ok (.putfield 3, 3) := by decide +kernel
theorem dX12_cost_5 : decode cX12_cost 5 = .ok (.aload_n 0, 1) := by decide +kernel
theorem dX12_cost_6 : decode cX12_cost 6 = .ok (.iload_n 1, 1) := by decide +kernel
theorem dX12_cost_7 : decode cX12_cost 7 = .ok (.iconst 2, 1) := by decide +kernel
theorem dX12_cost_8 : decode cX12_cost 8 = .ok (.sipush 511, 3) := by decide +kernel
theorem dX12_cost_11 : decode cX12_cost 11 = .ok (.invokestatic 78, 3) := by decide +kernel
theorem dX12_cost_14 : decode cX12_cost 14 = .ok (.ifCond .ne 7, 3) := by decide +kernel
theorem dX12_cost_17 : decode cX12_cost 17 = .ok (.iconst 1, 1) := by decide +kernel
theorem dX12_cost_18 : decode cX12_cost 18 = .ok (.goto 4, 3) := by decide +kernel
theorem dX12_cost_21 : decode cX12_cost 21 = .ok (.iconst 0, 1) := by decide +kernel
theorem dX12_cost_22 : decode cX12_cost 22 = .ok (.iconst 1, 1) := by decide +kernel
theorem dX12_cost_23 : decode cX12_cost 23 = .ok (.invokevirtual 242, 3) := by decide +kernel
theorem dX12_cost_26 : decode cX12_cost 26 = .ok (.ifCond .eq 7, 3) := by decide +kernel
theorem dX12_cost_29 : decode cX12_cost 29 = .ok (.iconst 0, 1) := by decide +kernel
theorem dX12_cost_30 : decode cX12_cost 30 = .ok (.goto 7, 3) := by decide +kernel
theorem dX12_cost_33 : decode cX12_cost 33 = .ok (.iload_n 1, 1) := by decide +kernel
theorem dX12_cost_34 : decode cX12_cost 34 = .ok (.invokestatic 268, 3) := by decide +kernel
theorem dX12_cost_37 : decode cX12_cost 37 = .ok (.ireturn, 1) := by decide +kernel
theorem dX12_way_0 : decode cX12_way 0 = .ok (.aload_n 0, 1) := by decide +kernel
theorem dX12_way_1 : decode cX12_way 1 = .ok (.iconst 0, 1) := by decide +kernel
theorem dX12_way_2 : decode cX12_way 2 = .ok (.putfield 3, 3) := by decide +kernel
theorem dX12_way_5 : decode cX12_way 5 = .ok (.aload_n 0, 1) := by decide +kernel
theorem dX12_way_6 : decode cX12_way 6 = .ok (.aload_n 0, 1) := by decide +kernel
theorem dX12_way_7 : decode cX12_way 7 = .ok (.iload_n 1, 1) := by decide +kernel
theorem dX12_way_8 : decode cX12_way 8 = .ok (.invokevirtual 257, 3) := by decide +kernel
theorem dX12_way_11 : decode cX12_way 11 = .ok (.ifCond .ne 11, 3) := by decide +kernel
theorem dX12_way_14 : decode cX12_way 14 = .ok (.aload_n 0, 1) := by decide +kernel
theorem dX12_way_15 : decode cX12_way 15 = .ok (.iload_n 2, 1) := by decide +kernel
theorem dX12_way_16 : decode cX12_way 16 = .ok (.invokevirtual 257, 3) := by decide +kernel
theorem dX12_way_19 : decode cX12_way 19 = .ok (.ifCond .eq 7, 3) := by decide +kernel
theorem dX12_way_22 : decode cX12_way 22 = .ok (.iconst 1, 1) := by decide +kernel
theorem dX12_way_23 : decode cX12_way 23 = .ok (.goto 4, 3) := by decide +kernel
theorem dX12_way_26 : decode cX12_way 26 = .ok (.iconst 0, 1) := by decide +kernel
theorem dX12_way_27 : decode cX12_way 27 = .ok (.iconst 1, 1) := by decide +kernel
theorem dX12_way_28 : decode cX12_way 28 = .ok (.invokevirtual 242, 3) := by decide +kernel
theorem dX12_way_31 : decode cX12_way 31 = .ok (.ifCond .ne 25, 3) := by decide +kernel
theorem dX12_way_34 : decode cX12_way 34 = .ok (.aload_n 0, 1) := by decide +kernel
theorem dX12_way_35 : decode cX12_way 35 = .ok (.iload_n 3, 1) := by decide +kernel
theorem dX12_way_36 : decode cX12_way 36 = .ok (.iconst 0, 1) := by decide +kernel
theorem dX12_way_37 : decode cX12_way 37 = .ok (.iconst 3, 1) := by decide +kernel
theorem dX12_way_38 : decode cX12_way 38 = .ok (.invokestatic 78, 3) := by decide +kernel
theorem dX12_way_41 : decode cX12_way 41 = .ok (.ifCond .ne 7, 3) := by decide +kernel
theorem dX12_way_44 : decode cX12_way 44 = .ok (.iconst 1, 1) := by decide +kernel
theorem dX12_way_45 : decode cX12_way 45 = .ok (.goto 4, 3) := by decide +kernel
theorem dX12_way_48 : decode cX12_way 48 = .ok (.iconst 0, 1) := by decide +kernel
theorem dX12_way_49 : decode cX12_way 49 = .ok (.iconst 2, 1) := by decide +kernel
theorem dX12_way_50 : decode cX12_way 50 = .ok (.invokevirtual 242, 3) := by decide +kernel
theorem dX12_way_53 : decode cX12_way 53 = .ok (.ifCond .eq 5, 3) := by decide +kernel
theorem dX12_way_56 : decode cX12_way 56 = .ok (.iconst 0, 1) := by decide +kernel
theorem dX12_way_57 : decode cX12_way 57 = .ok (.ireturn, 1) := by decide +kernel
theorem dX12_way_58 : decode cX12_way 58 = .ok (.iload_n 3, 1) := by decide +kernel
theorem dX12_way_59 : decode cX12_way 59 = .ok (.ifCond .ne 12, 3) := by decide +kernel
theorem dX12_way_62 : decode cX12_way 62 = .ok (.aload_n 0, 1) := by decide +kernel
theorem dX12_way_63 : decode cX12_way 63 = .ok (.iload_n 1, 1) := by decide +kernel
theorem dX12_way_64 : decode cX12_way 64 = .ok (.iload_n 2, 1) := by decide +kernel
theorem dX12_way_65 : decode cX12_way 65 = .ok (.invokevirtual 248, 3) := by decide +kernel
theorem dX12_way_68 : decode cX12_way 68 = .ok (.goto 48, 3) := by decide +kernel
theorem dX12_way_71 : decode cX12_way 71 = .ok (.iload_n 3, 1) := by decide +kernel
theorem dX12_way_72 : decode cX12_way 72 = .ok (.iconst 2, 1) := by decide +kernel
theorem dX12_way_73 : decode cX12_way 73 = .ok (.if_icmp .ne 12, 3) := by decide +kernel
theorem dX12_way_76 : decode cX12_way 76 = .ok (.aload_n 0, 1) := by decide +kernel
theorem dX12_way_77 : decode cX12_way 77 = .ok (.iload_n 1, 1) := by decide +kernel
theorem dX12_way_78 : decode cX12_way 78 = .ok (.iload_n 2, 1) := by decide +kernel
theorem dX12_way_79 : decode cX12_way 79 = .ok (.invokevirtual 271, 3) := by decide +kernel
theorem dX12_way_82 : decode cX12_way 82 = .ok (.goto 34, 3) := by decide +kernel
theorem dX12_way_85 : decode cX12_way 85 = .ok (.iload_n 3, 1) := by decide +kernel
theorem dX12_way_86 : decode cX12_way 86 = .ok (.iconst 1, 1) := by decide +kernel
theorem dX12_way_87 : decode cX12_way 87 = .ok (.if_icmp .ne 15, 3) := by decide +kernel
theorem dX12_way_90 : decode cX12_way 90 = .ok (.aload_n 0, 1) := by decide +kernel
theorem dX12_way_91 : decode cX12_way 91 = .ok (.iload_n 1, 1) := by decide +kernel
theorem dX12_way_92 : decode cX12_way 92 = .ok (.iload_n 2, 1) := by decide +kernel
theorem dX12_way_93 : decode cX12_way 93 = .ok (.invokevirtual 251, 3) := by decide +kernel
theorem dX12_way_96 : decode cX12_way 96 = .ok (.ifCond .eq 19, 3) := by decide +kernel
theorem dX12_way_99 : decode cX12_way 99 = .ok (.goto 12, 3) := by decide +kernel
theorem dX12_way_102 : decode cX12_way 102 = .ok (.aload_n 0, 1) := by decide +kernel
theorem dX12_way_103 : decode cX12_way 103 = .ok (.iload_n 1, 1) := by decide +kernel
theorem dX12_way_104 : decode cX12_way 104 = .ok (.iload_n 2, 1) := by decide +kernel
theorem dX12_way_105 : decode cX12_way 105 = .ok (.invokevirtual 274, 3) := by decide +kernel
theorem dX12_way_108 : decode cX12_way 108 = .ok (.ifCond .eq 7, 3) := by decide +kernel
theorem dX12_way_111 : decode cX12_way 111 = .ok (.iconst 1, 1) := by decide +kernel
theorem dX12_way_112 : decode cX12_way 112 = .ok (.goto 4, 3) := by decide +kernel
theorem dX12_way_115 : decode cX12_way 115 = .ok (.iconst 0, 1) := by decide +kernel
theorem dX12_way_116 : decode cX12_way 116 = .ok (.ireturn, 1) := by decide +kernel
theorem dX12_ring_0 : decode cX12_ring 0 = .ok (.aload_n 0, 1) := by decide +kernel
theorem dX12_ring_1 : decode cX12_ring 1 = .ok (.iconst 0, 1) := by decide +kernel
theorem dX12_ring_2 : decode cX12_ring 2 = .ok (.putfield 3, 3) := by decide +kernel
theorem dX12_ring_5 : decode cX12_ring 5 = .ok (.aload_n 0, 1) := by decide +kernel
theorem dX12_ring_6 : decode cX12_ring 6 = .ok (.aload_n 0, 1) := by decide +kernel
theorem dX12_ring_7 : decode cX12_ring 7 = .ok (.iload_n 2, 1) := by decide +kernel
theorem dX12_ring_8 : decode cX12_ring 8 = .ok (.invokevirtual 257, 3) := by decide +kernel
theorem dX12_ring_11 : decode cX12_ring 11 = .ok (.ifCond .ne 11, 3) := by decide +kernel
theorem dX12_ring_14 : decode cX12_ring 14 = .ok (.aload_n 0, 1) := by decide +kernel
theorem dX12_ring_15 : decode cX12_ring 15 = .ok (.iload_n 3, 1) := by decide +kernel
theorem dX12_ring_16 : decode cX12_ring 16 = .ok (.invokevirtual 263, 3) := by decide +kernel
theorem dX12_ring_19 : decode cX12_ring 19 = .ok (.ifCond .eq 7, 3) := by decide +kernel
theorem dX12_ring_22 : decode cX12_ring 22 = .ok (.iconst 1, 1) := by decide +kernel
theorem dX12_ring_23 : decode cX12_ring 23 = .ok (.goto 4, 3) := by decide +kernel
theorem dX12_ring_26 : decode cX12_ring 26 = .ok (.iconst 0, 1) := by decide +kernel
theorem dX12_ring_27 : decode cX12_ring 27 = .ok (.iconst 1, 1) := by decide +kernel
theorem dX12_ring_28 : decode cX12_ring 28 = .ok (.invokevirtual 242, 3) := by decide +kernel
theorem dX12_ring_31 : decode cX12_ring 31 = .ok (.ifCond .ne 60, 3) := by decide +kernel
theorem dX12_ring_34 : decode cX12_ring 34 = .ok (.aload_n 0, 1) := by decide +kernel
theorem dX12_ring_35 : decode cX12_ring 35 = .ok (.iload_n 1, 1) := by decide +kernel
theorem dX12_ring_36 : decode cX12_ring 36 = .ok (.iconst 0, 1) := by decide +kernel
theorem dX12_ring_37 : decode cX12_ring 37 = .ok (.sipush 999, 3) := by decide +kernel
theorem dX12_ring_40 : decode cX12_ring 40 = .ok (.invokestatic 78, 3) := by decide +kernel
theorem dX12_ring_43 : decode cX12_ring 43 = .ok (.ifCond .eq 12, 3) := by decide +kernel
theorem dX12_ring_46 : decode cX12_ring 46 = .ok (.aload_n 0, 1) := by decide +kernel
theorem dX12_ring_47 : decode cX12_ring 47 = .ok (.iload_n 2, 1) := by decide +kernel
theorem dX12_ring_48 : decode cX12_ring 48 = .ok (.iload_n 3, 1) := by decide +kernel
theorem dX12_ring_49 : decode cX12_ring 49 = .ok (.invokevirtual 254, 3) := by decide +kernel
theorem dX12_ring_52 : decode cX12_ring 52 = .ok (.ifCond .ne 7, 3) := by decide +kernel
theorem dX12_ring_55 : decode cX12_ring 55 = .ok (.iconst 1, 1) := by decide +kernel
theorem dX12_ring_56 : decode cX12_ring 56 = .ok (.goto 4, 3) := by decide +kernel
theorem dX12_ring_59 : decode cX12_ring 59 = .ok (.iconst 0, 1) := by decide +kernel
theorem dX12_ring_60 : decode cX12_ring 60 = .ok (.iconst 2, 1) := by decide +kernel
theorem dX12_ring_61 : decode cX12_ring 61 = .ok (.invokevirtual 242, 3) := by decide +kernel
theorem dX12_ring_64 : decode cX12_ring 64 = .ok (.ifCond .ne 27, 3) := by decide +kernel
theorem dX12_ring_67 : decode cX12_ring 67 = .ok (.aload_n 0, 1) := by decide +kernel
theorem dX12_ring_68 : decode cX12_ring 68 = .ok (.aload_n 0, 1) := by decide +kernel
theorem dX12_ring_69 : decode cX12_ring 69 = .ok (.getfield 13, 3) := by decide +kernel
theorem dX12_ring_72 : decode cX12_ring 72 = .ok (.iconst 4, 1) := by decide +kernel
theorem dX12_ring_73 : decode cX12_ring 73 = .ok (.iaload, 1) := by decide +kernel
theorem dX12_ring_74 : decode cX12_ring 74 = .ok (.bipush 12, 2) := by decide +kernel
theorem dX12_ring_76 : decode cX12_ring 76 = .ok (.if_icmp .ne 7, 3) := by decide +kernel
theorem dX12_ring_79 : decode cX12_ring 79 = .ok (.iconst 1, 1) := by decide +kernel
theorem dX12_ring_80 : decode cX12_ring 80 = .ok (.goto 4, 3) := by decide +kernel
theorem dX12_ring_83 : decode cX12_ring 83 = .ok (.iconst 0, 1) := by decide +kernel
theorem dX12_ring_84 : decode cX12_ring 84 = .ok (.iconst 3, 1) := by decide +kernel
theorem dX12_ring_85 : decode cX12_ring 85 = .ok (.invokevirtual 242, 3) := by decide +kernel
theorem dX12_ring_88 : decode cX12_ring 88 = .ok (.ifCond .eq 5, 3) := by decide +kernel
theorem dX12_ring_91 : decode cX12_ring 91 = .ok (.iconst 0, 1) := by decide +kernel
theorem dX12_ring_92 : decode cX12_ring 92 = .ok (.ireturn, 1) := by decide +kernel
theorem dX12_ring_93 : decode cX12_ring 93 = .ok (.aload_n 0, 1) := by decide +kernel
theorem dX12_ring_94 : decode cX12_ring 94 = .ok (.iload_n 1, 1) := by decide +kernel
theorem dX12_ring_95 : decode cX12_ring 95 = .ok (.iload_n 2, 1) := by decide +kernel
theorem dX12_ring_96 : decode cX12_ring 96 = .ok (.iload_n 3, 1) := by decide +kernel
theorem dX12_ring_97 : decode cX12_ring 97 = .ok (.invokevirtual 277, 3) := by decide +kernel
theorem dX12_ring_100 : decode cX12_ring 100 = .ok (.aload_n 0, 1) := by decide +kernel
theorem dX12_ring_101 : decode cX12_ring 101 = .ok (.getfield 13, 3) := by decide +kernel
theorem dX12_ring_104 : decode cX12_ring 104 = .ok (.iconst 4, 1) := by decide +kernel
theorem dX12_ring_105 : decode cX12_ring 105 = .ok (.iaload, 1) := by decide +kernel
theorem dX12_ring_106 : decode cX12_ring 106 = .ok (.iconst 1, 1) := by decide +kernel
theorem dX12_ring_107 : decode cX12_ring 107 = .ok (.isub, 1) := by decide +kernel
theorem dX12_ring_108 : decode cX12_ring 108 = .ok (.ireturn, 1) := by decide +kernel
theorem dX12_hush_0 : decode cX12_hush 0 = .ok (.aload_n 0, 1) := by decide +kernel
theorem dX12_hush_1 : decode cX12_hush 1 = .ok (.iconst 0, 1) := by decide +kernel
theorem dX12_hush_2 : decode cX12_hush 2 = .ok (.putfield 3, 3) := by decide +kernel
theorem dX12_hush_5 : decode cX12_hush 5 = .ok (.aload_n 0, 1) := by decide +kernel
theorem dX12_hush_6 : decode cX12_hush 6 = .ok (.getfield 13, 3) := by decide +kernel
theorem dX12_hush_9 : decode cX12_hush 9 = .ok (.iconst 4, 1) := by decide +kernel
theorem dX12_hush_10 : decode cX12_hush 10 = .ok (.iaload, 1) := by decide +kernel
theorem dX12_hush_11 : decode cX12_hush 11 = .ok (.istore_n 1, 1) := by decide +kernel
theorem dX12_hush_12 : decode cX12_hush 12 = .ok (.aload_n 0, 1) := by decide +kernel
theorem dX12_hush_13 : decode cX12_hush 13 = .ok (.getfield 13, 3) := by decide +kernel
theorem dX12_hush_16 : decode cX12_hush 16 = .ok (.iconst 4, 1) := by decide +kernel
theorem dX12_hush_17 : decode cX12_hush 17 = .ok (.iconst 0, 1) := by decide +kernel
theorem dX12_hush_18 : decode cX12_hush 18 = .ok (.iastore, 1) := by decide +kernel
theorem dX12_hush_19 : decode cX12_hush 19 = .ok (.iload_n 1, 1) := by decide +kernel
theorem dX12_hush_20 : decode cX12_hush 20 = .ok (.ireturn, 1) := by decide +kernel
theorem dX12_undo_0 : decode cX12_undo 0 = .ok (.aload_n 0, 1) := by decide +kernel
theorem dX12_undo_1 : decode cX12_undo 1 = .ok (.iconst 0, 1) := by decide +kernel
theorem dX12_undo_2 : decode cX12_undo 2 = .ok (.putfield 3, 3) := by decide +kernel
theorem dX12_undo_5 : decode cX12_undo 5 = .ok (.aload_n 0, 1) := by decide +kernel
theorem dX12_undo_6 : decode cX12_undo 6 = .ok (.getfield 13, 3) := by decide +kernel
theorem dX12_undo_9 : decode cX12_undo 9 = .ok (.iconst 4, 1) := by decide +kernel
theorem dX12_undo_10 : decode cX12_undo 10 = .ok (.iaload, 1) := by decide +kernel
theorem dX12_undo_11 : decode cX12_undo 11 = .ok (.ifCond .ne 5, 3) := by decide +kernel
theorem dX12_undo_14 : decode cX12_undo 14 = .ok (.iconst (-1), 1) := by decide +kernel
theorem dX12_undo_15 : decode cX12_undo 15 = .ok (.ireturn, 1) := by decide +kernel
theorem dX12_undo_16 : decode cX12_undo 16 = .ok (.aload_n 0, 1) := by decide +kernel
theorem dX12_undo_17 : decode cX12_undo 17 = .ok (.getfield 13, 3) := by decide +kernel
theorem dX12_undo_20 : decode cX12_undo 20 = .ok (.iconst 4, 1) := by decide +kernel
theorem dX12_undo_21 : decode cX12_undo 21 = .ok (.dup2, 1) := by decide +kernel
theorem dX12_undo_22 : decode cX12_undo 22 = .ok (.iaload, 1) := by decide +kernel
theorem dX12_undo_23 : decode cX12_undo 23 = .ok (.iconst 1, 1) := by decide +kernel
theorem dX12_undo_24 : decode cX12_undo 24 = .ok (.isub, 1) := by decide +kernel
theorem dX12_undo_25 : decode cX12_undo 25 = .ok (.iastore, 1) := by decide +kernel
theorem dX12_undo_26 : decode cX12_undo 26 = .ok (.aload_n 0, 1) := by decide +kernel
theorem dX12_undo_27 : decode cX12_undo 27 = .ok (.getfield 13, 3) := by decide +kernel
theorem dX12_undo_30 : decode cX12_undo 30 = .ok (.iconst 4, 1) := by decide +kernel
theorem dX12_undo_31 : decode cX12_undo 31 = .ok (.iaload, 1) := by decide +kernel
theorem dX12_undo_32 : decode cX12_undo 32 = .ok (.ireturn, 1) := by decide +kernel
theorem dX12_soundsOf_0 : decode cX12_soundsOf 0 = .ok (.aload_n 0, 1) := by decide +kernel
theorem dX12_soundsOf_1 : decode cX12_soundsOf 1 = .ok (.iload_n 1, 1) := by decide +kernel
theorem dX12_soundsOf_2 : decode cX12_soundsOf 2 = .ok (.iconst 3, 1) := by decide +kernel
theorem dX12_soundsOf_3 : decode cX12_soundsOf 3 = .ok (.invokevirtual 280, 3) := by decide +kernel
theorem dX12_soundsOf_6 : decode cX12_soundsOf 6 = .ok (.aload_n 0, 1) := by decide +kernel
theorem dX12_soundsOf_7 : decode cX12_soundsOf 7 = .ok (.iload_n 2, 1) := by decide +kernel
theorem dX12_soundsOf_8 : decode cX12_soundsOf 8 = .ok (.aload_n 0, 1) := by decide +kernel
theorem dX12_soundsOf_9 : decode cX12_soundsOf 9 = .ok (.iload_n 1, 1) := by decide +kernel
theorem dX12_soundsOf_10 : decode cX12_soundsOf 10 = .ok (.iconst 1, 1) := by decide +kernel
theorem dX12_soundsOf_11 : decode cX12_soundsOf 11 = .ok (.invokevirtual 280, 3) := by decide +kernel
theorem dX12_soundsOf_14 : decode cX12_soundsOf 14 = .ok (.invokevirtual 271, 3) := by decide +kernel
theorem dX12_soundsOf_17 : decode cX12_soundsOf 17 = .ok (.invokestatic 99, 3) := by decide +kernel
theorem dX12_soundsOf_20 : decode cX12_soundsOf 20 = .ok (.invokestatic 268, 3) := by decide +kernel
theorem dX12_soundsOf_23 : decode cX12_soundsOf 23 = .ok (.ireturn, 1) := by decide +kernel
theorem dX12_isMixed_0 : decode cX12_isMixed 0 = .ok (.iconst 0, 1) := by decide +kernel
theorem dX12_isMixed_1 : decode cX12_isMixed 1 = .ok (.istore 5, 2) := by decide +kernel
theorem dX12_isMixed_3 : decode cX12_isMixed 3 = .ok (.iconst 0, 1) := by decide +kernel
theorem dX12_isMixed_4 : decode cX12_isMixed 4 = .ok (.istore 6, 2) := by decide +kernel
theorem dX12_isMixed_6 : decode cX12_isMixed 6 = .ok (.iload 6, 2) := by decide +kernel
theorem dX12_isMixed_8 : decode cX12_isMixed 8 = .ok (.aload_n 0, 1) := by decide +kernel
theorem dX12_isMixed_9 : decode cX12_isMixed 9 = .ok (.getfield 13, 3) := by decide +kernel
theorem dX12_isMixed_12 : decode cX12_isMixed 12 = .ok (.iconst 4, 1) := by decide +kernel
theorem dX12_isMixed_13 : decode cX12_isMixed 13 = .ok (.iaload, 1) := by decide +kernel
theorem dX12_isMixed_14 : decode cX12_isMixed 14 = .ok (.if_icmp .ge 75, 3) := by decide +kernel
theorem dX12_isMixed_17 : decode cX12_isMixed 17 = .ok (.iload 5, 2) := by decide +kernel
theorem dX12_isMixed_19 : decode cX12_isMixed 19 = .ok (.ifCond .ne 57, 3) := by decide +kernel
theorem dX12_isMixed_22 : decode cX12_isMixed 22 = .ok (.iload 6, 2) := by decide +kernel
theorem dX12_isMixed_24 : decode cX12_isMixed 24 = .ok (.iload_n 1, 1) := by decide +kernel
theorem dX12_isMixed_25 : decode cX12_isMixed 25 = .ok (.if_icmp .eq 55, 3) := by decide +kernel
theorem dX12_isMixed_28 : decode cX12_isMixed 28 = .ok (.aload_n 0, 1) := by decide +kernel
theorem dX12_isMixed_29 : decode cX12_isMixed 29 = .ok (.iload_n 2, 1) := by decide +kernel
theorem dX12_isMixed_30 : decode cX12_isMixed 30 = .ok (.aload_n 0, 1) := by decide +kernel
theorem dX12_isMixed_31 : decode cX12_isMixed 31 = .ok (.iload 6, 2) := by decide +kernel
theorem dX12_isMixed_33 : decode cX12_isMixed 33 = .ok (.iconst 1, 1) := by decide +kernel
theorem dX12_isMixed_34 : decode cX12_isMixed 34 = .ok (.invokevirtual 280, 3) := by decide +kernel
theorem dX12_isMixed_37 : decode cX12_isMixed 37 = .ok (.invokevirtual 251, 3) := by decide +kernel
theorem dX12_isMixed_40 : decode cX12_isMixed 40 = .ok (.ifCond .eq 40, 3) := by decide +kernel
theorem dX12_isMixed_43 : decode cX12_isMixed 43 = .ok (.aload_n 0, 1) := by decide +kernel
theorem dX12_isMixed_44 : decode cX12_isMixed 44 = .ok (.iload 6, 2) := by decide +kernel
theorem dX12_isMixed_46 : decode cX12_isMixed 46 = .ok (.iconst 0, 1) := by decide +kernel
theorem dX12_isMixed_47 : decode cX12_isMixed 47 = .ok (.invokevirtual 280, 3) := by decide +kernel
theorem dX12_isMixed_50 : decode cX12_isMixed 50 = .ok (.iload_n 3, 1) := by decide +kernel
theorem dX12_isMixed_51 : decode cX12_isMixed 51 = .ok (.iload 4, 2) := by decide +kernel
theorem dX12_isMixed_53 : decode cX12_isMixed 53 = .ok (.iadd, 1) := by decide +kernel
theorem dX12_isMixed_54 : decode cX12_isMixed 54 = .ok (.if_icmp .ge 26, 3) := by decide +kernel
theorem dX12_isMixed_57 : decode cX12_isMixed 57 = .ok (.iload_n 3, 1) := by decide +kernel
theorem dX12_isMixed_58 : decode cX12_isMixed 58 = .ok (.aload_n 0, 1) := by decide +kernel
theorem dX12_isMixed_59 : decode cX12_isMixed 59 = .ok (.iload 6, 2) := by decide +kernel
theorem dX12_isMixed_61 : decode cX12_isMixed 61 = .ok (.iconst 0, 1) := by decide +kernel
theorem dX12_isMixed_62 : decode cX12_isMixed 62 = .ok (.invokevirtual 280, 3) := by decide +kernel
theorem dX12_isMixed_65 : decode cX12_isMixed 65 = .ok (.aload_n 0, 1) := by decide +kernel
theorem dX12_isMixed_66 : decode cX12_isMixed 66 = .ok (.iload 6, 2) := by decide +kernel
theorem dX12_isMixed_68 : decode cX12_isMixed 68 = .ok (.iload_n 2, 1) := by decide +kernel
theorem dX12_isMixed_69 : decode cX12_isMixed 69 = .ok (.invokevirtual 283, 3) := by decide +kernel
theorem dX12_isMixed_72 : decode cX12_isMixed 72 = .ok (.iadd, 1) := by decide +kernel
theorem dX12_isMixed_73 : decode cX12_isMixed 73 = .ok (.if_icmp .ge 7, 3) := by decide +kernel
theorem dX12_isMixed_76 : decode cX12_isMixed 76 = .ok (.iconst 1, 1) := by decide +kernel
theorem dX12_isMixed_77 : decode cX12_isMixed 77 = .ok (.goto 4, 3) := by decide +kernel
theorem dX12_isMixed_80 : decode cX12_isMixed 80 = .ok (.iconst 0, 1) := by decide +kernel
theorem dX12_isMixed_81 : decode cX12_isMixed 81 = .ok (.istore 5, 2) := by decide +kernel
theorem dX12_isMixed_83 : decode cX12_isMixed 83 = .ok (.iinc 6 1, 3) := by decide +kernel
theorem dX12_isMixed_86 : decode cX12_isMixed 86 = .ok (.goto (-80), 3) := by decide +kernel
theorem dX12_isMixed_89 : decode cX12_isMixed 89 = .ok (.iload 5, 2) := by decide +kernel
theorem dX12_isMixed_91 : decode cX12_isMixed 91 = .ok (.ireturn, 1) := by decide +kernel
theorem dX12_heardBy_0 : decode cX12_heardBy 0 = .ok (.aload_n 0, 1) := by decide +kernel
theorem dX12_heardBy_1 : decode cX12_heardBy 1 = .ok (.iload_n 2, 1) := by decide +kernel
theorem dX12_heardBy_2 : decode cX12_heardBy 2 = .ok (.aload_n 0, 1) := by decide +kernel
theorem dX12_heardBy_3 : decode cX12_heardBy 3 = .ok (.iload_n 1, 1) := by decide +kernel
theorem dX12_heardBy_4 : decode cX12_heardBy 4 = .ok (.iconst 1, 1) := by decide +kernel
theorem dX12_heardBy_5 : decode cX12_heardBy 5 = .ok (.invokevirtual 280, 3) := by decide +kernel
theorem dX12_heardBy_8 : decode cX12_heardBy 8 = .ok (.invokevirtual 251, 3) := by decide +kernel
theorem dX12_heardBy_11 : decode cX12_heardBy 11 = .ok (.ifCond .ne 5, 3) := by decide +kernel
theorem dX12_heardBy_14 : decode cX12_heardBy 14 = .ok (.iconst 0, 1) := by decide +kernel
theorem dX12_heardBy_15 : decode cX12_heardBy 15 = .ok (.ireturn, 1) := by decide +kernel
theorem dX12_heardBy_16 : decode cX12_heardBy 16 = .ok (.aload_n 0, 1) := by decide +kernel
theorem dX12_heardBy_17 : decode cX12_heardBy 17 = .ok (.iload_n 1, 1) := by decide +kernel
theorem dX12_heardBy_18 : decode cX12_heardBy 18 = .ok (.iconst 3, 1) := by decide +kernel
theorem dX12_heardBy_19 : decode cX12_heardBy 19 = .ok (.invokevirtual 280, 3) := by decide +kernel
theorem dX12_heardBy_22 : decode cX12_heardBy 22 = .ok (.aload_n 0, 1) := by decide +kernel
theorem dX12_heardBy_23 : decode cX12_heardBy 23 = .ok (.iload_n 2, 1) := by decide +kernel
theorem dX12_heardBy_24 : decode cX12_heardBy 24 = .ok (.aload_n 0, 1) := by decide +kernel
theorem dX12_heardBy_25 : decode cX12_heardBy 25 = .ok (.iload_n 1, 1) := by decide +kernel
theorem dX12_heardBy_26 : decode cX12_heardBy 26 = .ok (.iconst 1, 1) := by decide +kernel
theorem dX12_heardBy_27 : decode cX12_heardBy 27 = .ok (.invokevirtual 280, 3) := by decide +kernel
theorem dX12_heardBy_30 : decode cX12_heardBy 30 = .ok (.invokevirtual 271, 3) := by decide +kernel
theorem dX12_heardBy_33 : decode cX12_heardBy 33 = .ok (.invokestatic 99, 3) := by decide +kernel
theorem dX12_heardBy_36 : decode cX12_heardBy 36 = .ok (.istore_n 3, 1) := by decide +kernel
theorem dX12_heardBy_37 : decode cX12_heardBy 37 = .ok (.aload_n 0, 1) := by decide +kernel
theorem dX12_heardBy_38 : decode cX12_heardBy 38 = .ok (.iload_n 1, 1) := by decide +kernel
theorem dX12_heardBy_39 : decode cX12_heardBy 39 = .ok (.iconst 0, 1) := by decide +kernel
theorem dX12_heardBy_40 : decode cX12_heardBy 40 = .ok (.invokevirtual 280, 3) := by decide +kernel
theorem dX12_heardBy_43 : decode cX12_heardBy 43 = .ok (.istore 4, 2) := by decide +kernel
theorem dX12_heardBy_45 : decode cX12_heardBy 45 = .ok (.iconst 1, 1) := by decide +kernel
theorem dX12_heardBy_46 : decode cX12_heardBy 46 = .ok (.istore 5, 2) := by decide +kernel
theorem dX12_heardBy_48 : decode cX12_heardBy 48 = .ok (.iload_n 3, 1) := by decide +kernel
theorem dX12_heardBy_49 : decode cX12_heardBy 49 = .ok (.invokestatic 85, 3) := by decide +kernel
theorem dX12_heardBy_52 : decode cX12_heardBy 52 = .ok (.iconst 1, 1) := by decide +kernel
theorem dX12_heardBy_53 : decode cX12_heardBy 53 = .ok (.isub, 1) := by decide +kernel
theorem dX12_heardBy_54 : decode cX12_heardBy 54 = .ok (.istore 6, 2) := by decide +kernel
theorem dX12_heardBy_56 : decode cX12_heardBy 56 = .ok (.iload 6, 2) := by decide +kernel
theorem dX12_heardBy_58 : decode cX12_heardBy 58 = .ok (.ifCond .lt 53, 3) := by decide +kernel
theorem dX12_heardBy_61 : decode cX12_heardBy 61 = .ok (.iload_n 3, 1) := by decide +kernel
theorem dX12_heardBy_62 : decode cX12_heardBy 62 = .ok (.iload 6, 2) := by decide +kernel
theorem dX12_heardBy_64 : decode cX12_heardBy 64 = .ok (.ishr, 1) := by decide +kernel
theorem dX12_heardBy_65 : decode cX12_heardBy 65 = .ok (.iconst 1, 1) := by decide +kernel
theorem dX12_heardBy_66 : decode cX12_heardBy 66 = .ok (.iand, 1) := by decide +kernel
theorem dX12_heardBy_67 : decode cX12_heardBy 67 = .ok (.istore 7, 2) := by decide +kernel
theorem dX12_heardBy_69 : decode cX12_heardBy 69 = .ok (.aload_n 0, 1) := by decide +kernel
theorem dX12_heardBy_70 : decode cX12_heardBy 70 = .ok (.iload_n 1, 1) := by decide +kernel
theorem dX12_heardBy_71 : decode cX12_heardBy 71 = .ok (.iload_n 2, 1) := by decide +kernel
theorem dX12_heardBy_72 : decode cX12_heardBy 72 = .ok (.iload 4, 2) := by decide +kernel
theorem dX12_heardBy_74 : decode cX12_heardBy 74 = .ok (.iconst 1, 1) := by decide +kernel
theorem dX12_heardBy_75 : decode cX12_heardBy 75 = .ok (.iload 7, 2) := by decide +kernel
theorem dX12_heardBy_77 : decode cX12_heardBy 77 = .ok (.iadd, 1) := by decide +kernel
theorem dX12_heardBy_78 : decode cX12_heardBy 78 = .ok (.invokevirtual 286, 3) := by decide +kernel
theorem dX12_heardBy_81 : decode cX12_heardBy 81 = .ok (.ifCond .eq 6, 3) := by decide +kernel
theorem dX12_heardBy_84 : decode cX12_heardBy 84 = .ok (.iload 5, 2) := by decide +kernel
theorem dX12_heardBy_86 : decode cX12_heardBy 86 = .ok (.ireturn, 1) := by decide +kernel
theorem dX12_heardBy_87 : decode cX12_heardBy 87 = .ok (.iconst 2, 1) := by decide +kernel
theorem dX12_heardBy_88 : decode cX12_heardBy 88 = .ok (.iload 5, 2) := by decide +kernel
theorem dX12_heardBy_90 : decode cX12_heardBy 90 = .ok (.imul, 1) := by decide +kernel
theorem dX12_heardBy_91 : decode cX12_heardBy 91 = .ok (.iload 7, 2) := by decide +kernel
theorem dX12_heardBy_93 : decode cX12_heardBy 93 = .ok (.iadd, 1) := by decide +kernel
theorem dX12_heardBy_94 : decode cX12_heardBy 94 = .ok (.istore 5, 2) := by decide +kernel
theorem dX12_heardBy_96 : decode cX12_heardBy 96 = .ok (.iload 4, 2) := by decide +kernel
theorem dX12_heardBy_98 : decode cX12_heardBy 98 = .ok (.iconst 1, 1) := by decide +kernel
theorem dX12_heardBy_99 : decode cX12_heardBy 99 = .ok (.iload 7, 2) := by decide +kernel
theorem dX12_heardBy_101 : decode cX12_heardBy 101 = .ok (.iadd, 1) := by decide +kernel
theorem dX12_heardBy_102 : decode cX12_heardBy 102 = .ok (.iadd, 1) := by decide +kernel
theorem dX12_heardBy_103 : decode cX12_heardBy 103 = .ok (.istore 4, 2) := by decide +kernel
theorem dX12_heardBy_105 : decode cX12_heardBy 105 = .ok (.iinc 6 (-1), 3) := by decide +kernel
theorem dX12_heardBy_108 : decode cX12_heardBy 108 = .ok (.goto (-52), 3) := by decide +kernel
theorem dX12_heardBy_111 : decode cX12_heardBy 111 = .ok (.iload 5, 2) := by decide +kernel
theorem dX12_heardBy_113 : decode cX12_heardBy 113 = .ok (.ireturn, 1) := by decide +kernel
theorem dX12_wantOf_0 : decode cX12_wantOf 0 = .ok (.iconst 0, 1) := by decide +kernel
theorem dX12_wantOf_1 : decode cX12_wantOf 1 = .ok (.istore_n 3, 1) := by decide +kernel
theorem dX12_wantOf_2 : decode cX12_wantOf 2 = .ok (.iload_n 3, 1) := by decide +kernel
theorem dX12_wantOf_3 : decode cX12_wantOf 3 = .ok (.aload_n 0, 1) := by decide +kernel
theorem dX12_wantOf_4 : decode cX12_wantOf 4 = .ok (.invokevirtual 82, 3) := by decide +kernel
theorem dX12_wantOf_7 : decode cX12_wantOf 7 = .ok (.if_icmp .ge 26, 3) := by decide +kernel
theorem dX12_wantOf_10 : decode cX12_wantOf 10 = .ok (.iload_n 2, 1) := by decide +kernel
theorem dX12_wantOf_11 : decode cX12_wantOf 11 = .ok (.iconst 1, 1) := by decide +kernel
theorem dX12_wantOf_12 : decode cX12_wantOf 12 = .ok (.if_icmp .le 15, 3) := by decide +kernel
theorem dX12_wantOf_15 : decode cX12_wantOf 15 = .ok (.aload_n 0, 1) := by decide +kernel
theorem dX12_wantOf_16 : decode cX12_wantOf 16 = .ok (.iload_n 1, 1) := by decide +kernel
theorem dX12_wantOf_17 : decode cX12_wantOf 17 = .ok (.iload_n 3, 1) := by decide +kernel
theorem dX12_wantOf_18 : decode cX12_wantOf 18 = .ok (.invokevirtual 254, 3) := by decide +kernel
theorem dX12_wantOf_21 : decode cX12_wantOf 21 = .ok (.iload_n 2, 1) := by decide +kernel
theorem dX12_wantOf_22 : decode cX12_wantOf 22 = .ok (.if_icmp .ne 5, 3) := by decide +kernel
theorem dX12_wantOf_25 : decode cX12_wantOf 25 = .ok (.iload_n 3, 1) := by decide +kernel
theorem dX12_wantOf_26 : decode cX12_wantOf 26 = .ok (.ireturn, 1) := by decide +kernel
theorem dX12_wantOf_27 : decode cX12_wantOf 27 = .ok (.iinc 3 1, 3) := by decide +kernel
theorem dX12_wantOf_30 : decode cX12_wantOf 30 = .ok (.goto (-28), 3) := by decide +kernel
theorem dX12_wantOf_33 : decode cX12_wantOf 33 = .ok (.iconst (-1), 1) := by decide +kernel
theorem dX12_wantOf_34 : decode cX12_wantOf 34 = .ok (.ireturn, 1) := by decide +kernel
theorem dX12_heard_0 : decode cX12_heard 0 = .ok (.aload_n 0, 1) := by decide +kernel
theorem dX12_heard_1 : decode cX12_heard 1 = .ok (.iconst 0, 1) := by decide +kernel
theorem dX12_heard_2 : decode cX12_heard 2 = .ok (.putfield 3, 3) := by decide +kernel
theorem dX12_heard_5 : decode cX12_heard 5 = .ok (.aload_n 0, 1) := by decide +kernel
theorem dX12_heard_6 : decode cX12_heard 6 = .ok (.aload_n 0, 1) := by decide +kernel
theorem dX12_heard_7 : decode cX12_heard 7 = .ok (.iload_n 1, 1) := by decide +kernel
theorem dX12_heard_8 : decode cX12_heard 8 = .ok (.invokevirtual 290, 3) := by decide +kernel
theorem dX12_heard_11 : decode cX12_heard 11 = .ok (.ifCond .ne 11, 3) := by decide +kernel
theorem dX12_heard_14 : decode cX12_heard 14 = .ok (.aload_n 0, 1) := by decide +kernel
theorem dX12_heard_15 : decode cX12_heard 15 = .ok (.iload_n 2, 1) := by decide +kernel
theorem dX12_heard_16 : decode cX12_heard 16 = .ok (.invokevirtual 257, 3) := by decide +kernel
theorem dX12_heard_19 : decode cX12_heard 19 = .ok (.ifCond .eq 7, 3) := by decide +kernel
theorem dX12_heard_22 : decode cX12_heard 22 = .ok (.iconst 1, 1) := by decide +kernel
theorem dX12_heard_23 : decode cX12_heard 23 = .ok (.goto 4, 3) := by decide +kernel
theorem dX12_heard_26 : decode cX12_heard 26 = .ok (.iconst 0, 1) := by decide +kernel
theorem dX12_heard_27 : decode cX12_heard 27 = .ok (.iconst 1, 1) := by decide +kernel
theorem dX12_heard_28 : decode cX12_heard 28 = .ok (.invokevirtual 242, 3) := by decide +kernel
theorem dX12_heard_31 : decode cX12_heard 31 = .ok (.ifCond .eq 7, 3) := by decide +kernel
theorem dX12_heard_34 : decode cX12_heard 34 = .ok (.iconst 0, 1) := by decide +kernel
theorem dX12_heard_35 : decode cX12_heard 35 = .ok (.goto 9, 3) := by decide +kernel
theorem dX12_heard_38 : decode cX12_heard 38 = .ok (.aload_n 0, 1) := by decide +kernel
theorem dX12_heard_39 : decode cX12_heard 39 = .ok (.iload_n 1, 1) := by decide +kernel
theorem dX12_heard_40 : decode cX12_heard 40 = .ok (.iload_n 2, 1) := by decide +kernel
theorem dX12_heard_41 : decode cX12_heard 41 = .ok (.invokevirtual 293, 3) := by decide +kernel
theorem dX12_heard_44 : decode cX12_heard 44 = .ok (.ireturn, 1) := by decide +kernel
theorem dX12_taken_0 : decode cX12_taken 0 = .ok (.aload_n 0, 1) := by decide +kernel
theorem dX12_taken_1 : decode cX12_taken 1 = .ok (.iconst 0, 1) := by decide +kernel
theorem dX12_taken_2 : decode cX12_taken 2 = .ok (.putfield 3, 3) := by decide +kernel
theorem dX12_taken_5 : decode cX12_taken 5 = .ok (.aload_n 0, 1) := by decide +kernel
theorem dX12_taken_6 : decode cX12_taken 6 = .ok (.aload_n 0, 1) := by decide +kernel
theorem dX12_taken_7 : decode cX12_taken 7 = .ok (.iload_n 1, 1) := by decide +kernel
theorem dX12_taken_8 : decode cX12_taken 8 = .ok (.invokevirtual 290, 3) := by decide +kernel
theorem dX12_taken_11 : decode cX12_taken 11 = .ok (.ifCond .ne 11, 3) := by decide +kernel
theorem dX12_taken_14 : decode cX12_taken 14 = .ok (.aload_n 0, 1) := by decide +kernel
theorem dX12_taken_15 : decode cX12_taken 15 = .ok (.iload_n 2, 1) := by decide +kernel
theorem dX12_taken_16 : decode cX12_taken 16 = .ok (.invokevirtual 257, 3) := by decide +kernel
theorem dX12_taken_19 : decode cX12_taken 19 = .ok (.ifCond .eq 7, 3) := by decide +kernel
theorem dX12_taken_22 : decode cX12_taken 22 = .ok (.iconst 1, 1) := by decide +kernel
theorem dX12_taken_23 : decode cX12_taken 23 = .ok (.goto 4, 3) := by decide +kernel
theorem dX12_taken_26 : decode cX12_taken 26 = .ok (.iconst 0, 1) := by decide +kernel
theorem dX12_taken_27 : decode cX12_taken 27 = .ok (.iconst 1, 1) := by decide +kernel
theorem dX12_taken_28 : decode cX12_taken 28 = .ok (.invokevirtual 242, 3) := by decide +kernel
theorem dX12_taken_31 : decode cX12_taken 31 = .ok (.ifCond .eq 7, 3) := by decide +kernel
theorem dX12_taken_34 : decode cX12_taken 34 = .ok (.iconst 0, 1) := by decide +kernel
theorem dX12_taken_35 : decode cX12_taken 35 = .ok (.goto 19, 3) := by decide +kernel
theorem dX12_taken_38 : decode cX12_taken 38 = .ok (.aload_n 0, 1) := by decide +kernel
theorem dX12_taken_39 : decode cX12_taken 39 = .ok (.aload_n 0, 1) := by decide +kernel
theorem dX12_taken_40 : decode cX12_taken 40 = .ok (.iload_n 1, 1) := by decide +kernel
theorem dX12_taken_41 : decode cX12_taken 41 = .ok (.iconst 1, 1) := by decide +kernel
theorem dX12_taken_42 : decode cX12_taken 42 = .ok (.invokevirtual 280, 3) := by decide +kernel
theorem dX12_taken_45 : decode cX12_taken 45 = .ok (.aload_n 0, 1) := by decide +kernel
theorem dX12_taken_46 : decode cX12_taken 46 = .ok (.iload_n 1, 1) := by decide +kernel
theorem dX12_taken_47 : decode cX12_taken 47 = .ok (.iload_n 2, 1) := by decide +kernel
theorem dX12_taken_48 : decode cX12_taken 48 = .ok (.invokevirtual 293, 3) := by decide +kernel
theorem dX12_taken_51 : decode cX12_taken 51 = .ok (.invokevirtual 296, 3) := by decide +kernel
theorem dX12_taken_54 : decode cX12_taken 54 = .ok (.ireturn, 1) := by decide +kernel
theorem dX12_sure_0 : decode cX12_sure 0 = .ok (.aload_n 0, 1) := by decide +kernel
theorem dX12_sure_1 : decode cX12_sure 1 = .ok (.iconst 0, 1) := by decide +kernel
theorem dX12_sure_2 : decode cX12_sure 2 = .ok (.putfield 3, 3) := by decide +kernel
theorem dX12_sure_5 : decode cX12_sure 5 = .ok (.aload_n 0, 1) := by decide +kernel
theorem dX12_sure_6 : decode cX12_sure 6 = .ok (.aload_n 0, 1) := by decide +kernel
theorem dX12_sure_7 : decode cX12_sure 7 = .ok (.iload_n 1, 1) := by decide +kernel
theorem dX12_sure_8 : decode cX12_sure 8 = .ok (.invokevirtual 290, 3) := by decide +kernel
theorem dX12_sure_11 : decode cX12_sure 11 = .ok (.iconst 1, 1) := by decide +kernel
theorem dX12_sure_12 : decode cX12_sure 12 = .ok (.invokevirtual 242, 3) := by decide +kernel
theorem dX12_sure_15 : decode cX12_sure 15 = .ok (.ifCond .eq 7, 3) := by decide +kernel
theorem dX12_sure_18 : decode cX12_sure 18 = .ok (.iconst 0, 1) := by decide +kernel
theorem dX12_sure_19 : decode cX12_sure 19 = .ok (.goto 9, 3) := by decide +kernel
theorem dX12_sure_22 : decode cX12_sure 22 = .ok (.aload_n 0, 1) := by decide +kernel
theorem dX12_sure_23 : decode cX12_sure 23 = .ok (.iload_n 1, 1) := by decide +kernel
theorem dX12_sure_24 : decode cX12_sure 24 = .ok (.iload_n 2, 1) := by decide +kernel
theorem dX12_sure_25 : decode cX12_sure 25 = .ok (.invokevirtual 299, 3) := by decide +kernel
theorem dX12_sure_28 : decode cX12_sure 28 = .ok (.ireturn, 1) := by decide +kernel
theorem dX12_takers_0 : decode cX12_takers 0 = .ok (.iconst 0, 1) := by decide +kernel
theorem dX12_takers_1 : decode cX12_takers 1 = .ok (.istore_n 3, 1) := by decide +kernel
theorem dX12_takers_2 : decode cX12_takers 2 = .ok (.iconst 0, 1) := by decide +kernel
theorem dX12_takers_3 : decode cX12_takers 3 = .ok (.istore 4, 2) := by decide +kernel
theorem dX12_takers_5 : decode cX12_takers 5 = .ok (.iload 4, 2) := by decide +kernel
theorem dX12_takers_7 : decode cX12_takers 7 = .ok (.aload_n 0, 1) := by decide +kernel
theorem dX12_takers_8 : decode cX12_takers 8 = .ok (.invokevirtual 74, 3) := by decide +kernel
theorem dX12_takers_11 : decode cX12_takers 11 = .ok (.if_icmp .ge 61, 3) := by decide +kernel
theorem dX12_takers_14 : decode cX12_takers 14 = .ok (.aload_n 0, 1) := by decide +kernel
theorem dX12_takers_15 : decode cX12_takers 15 = .ok (.aload_n 0, 1) := by decide +kernel
theorem dX12_takers_16 : decode cX12_takers 16 = .ok (.iload_n 1, 1) := by decide +kernel
theorem dX12_takers_17 : decode cX12_takers 17 = .ok (.iconst 1, 1) := by decide +kernel
theorem dX12_takers_18 : decode cX12_takers 18 = .ok (.invokevirtual 280, 3) := by decide +kernel
theorem dX12_takers_21 : decode cX12_takers 21 = .ok (.aload_n 0, 1) := by decide +kernel
theorem dX12_takers_22 : decode cX12_takers 22 = .ok (.iload_n 1, 1) := by decide +kernel
theorem dX12_takers_23 : decode cX12_takers 23 = .ok (.iload 4, 2) := by decide +kernel
theorem dX12_takers_25 : decode cX12_takers 25 = .ok (.invokevirtual 293, 3) := by decide +kernel
theorem dX12_takers_28 : decode cX12_takers 28 = .ok (.invokevirtual 296, 3) := by decide +kernel
theorem dX12_takers_31 : decode cX12_takers 31 = .ok (.istore 5, 2) := by decide +kernel
theorem dX12_takers_33 : decode cX12_takers 33 = .ok (.iload_n 3, 1) := by decide +kernel
theorem dX12_takers_34 : decode cX12_takers 34 = .ok (.iload 5, 2) := by decide +kernel
theorem dX12_takers_36 : decode cX12_takers 36 = .ok (.ifCond .lt 27, 3) := by decide +kernel
theorem dX12_takers_39 : decode cX12_takers 39 = .ok (.iload 5, 2) := by decide +kernel
theorem dX12_takers_41 : decode cX12_takers 41 = .ok (.aload_n 0, 1) := by decide +kernel
theorem dX12_takers_42 : decode cX12_takers 42 = .ok (.iload_n 1, 1) := by decide +kernel
theorem dX12_takers_43 : decode cX12_takers 43 = .ok (.iconst 2, 1) := by decide +kernel
theorem dX12_takers_44 : decode cX12_takers 44 = .ok (.invokevirtual 280, 3) := by decide +kernel
theorem dX12_takers_47 : decode cX12_takers 47 = .ok (.if_icmp .ne 7, 3) := by decide +kernel
theorem dX12_takers_50 : decode cX12_takers 50 = .ok (.iconst 1, 1) := by decide +kernel
theorem dX12_takers_51 : decode cX12_takers 51 = .ok (.goto 4, 3) := by decide +kernel
theorem dX12_takers_54 : decode cX12_takers 54 = .ok (.iconst 0, 1) := by decide +kernel
theorem dX12_takers_55 : decode cX12_takers 55 = .ok (.iload_n 2, 1) := by decide +kernel
theorem dX12_takers_56 : decode cX12_takers 56 = .ok (.if_icmp .eq 7, 3) := by decide +kernel
theorem dX12_takers_59 : decode cX12_takers 59 = .ok (.iconst 1, 1) := by decide +kernel
theorem dX12_takers_60 : decode cX12_takers 60 = .ok (.goto 4, 3) := by decide +kernel
theorem dX12_takers_63 : decode cX12_takers 63 = .ok (.iconst 0, 1) := by decide +kernel
theorem dX12_takers_64 : decode cX12_takers 64 = .ok (.iadd, 1) := by decide +kernel
theorem dX12_takers_65 : decode cX12_takers 65 = .ok (.istore_n 3, 1) := by decide +kernel
theorem dX12_takers_66 : decode cX12_takers 66 = .ok (.iinc 4 1, 3) := by decide +kernel
theorem dX12_takers_69 : decode cX12_takers 69 = .ok (.goto (-64), 3) := by decide +kernel
theorem dX12_takers_72 : decode cX12_takers 72 = .ok (.iload_n 3, 1) := by decide +kernel
theorem dX12_takers_73 : decode cX12_takers 73 = .ok (.ireturn, 1) := by decide +kernel
theorem dX12_could_0 : decode cX12_could 0 = .ok (.aload_n 0, 1) := by decide +kernel
theorem dX12_could_1 : decode cX12_could 1 = .ok (.iconst 0, 1) := by decide +kernel
theorem dX12_could_2 : decode cX12_could 2 = .ok (.putfield 3, 3) := by decide +kernel
theorem dX12_could_5 : decode cX12_could 5 = .ok (.aload_n 0, 1) := by decide +kernel
theorem dX12_could_6 : decode cX12_could 6 = .ok (.aload_n 0, 1) := by decide +kernel
theorem dX12_could_7 : decode cX12_could 7 = .ok (.iload_n 1, 1) := by decide +kernel
theorem dX12_could_8 : decode cX12_could 8 = .ok (.invokevirtual 290, 3) := by decide +kernel
theorem dX12_could_11 : decode cX12_could 11 = .ok (.ifCond .ne 11, 3) := by decide +kernel
theorem dX12_could_14 : decode cX12_could 14 = .ok (.aload_n 0, 1) := by decide +kernel
theorem dX12_could_15 : decode cX12_could 15 = .ok (.iload_n 2, 1) := by decide +kernel
theorem dX12_could_16 : decode cX12_could 16 = .ok (.invokevirtual 257, 3) := by decide +kernel
theorem dX12_could_19 : decode cX12_could 19 = .ok (.ifCond .eq 7, 3) := by decide +kernel
theorem dX12_could_22 : decode cX12_could 22 = .ok (.iconst 1, 1) := by decide +kernel
theorem dX12_could_23 : decode cX12_could 23 = .ok (.goto 4, 3) := by decide +kernel
theorem dX12_could_26 : decode cX12_could 26 = .ok (.iconst 0, 1) := by decide +kernel
theorem dX12_could_27 : decode cX12_could 27 = .ok (.iconst 1, 1) := by decide +kernel
theorem dX12_could_28 : decode cX12_could 28 = .ok (.invokevirtual 242, 3) := by decide +kernel
theorem dX12_could_31 : decode cX12_could 31 = .ok (.ifCond .eq 5, 3) := by decide +kernel
theorem dX12_could_34 : decode cX12_could 34 = .ok (.iconst 0, 1) := by decide +kernel
theorem dX12_could_35 : decode cX12_could 35 = .ok (.ireturn, 1) := by decide +kernel
theorem dX12_could_36 : decode cX12_could 36 = .ok (.aload_n 0, 1) := by decide +kernel
theorem dX12_could_37 : decode cX12_could 37 = .ok (.iload_n 1, 1) := by decide +kernel
theorem dX12_could_38 : decode cX12_could 38 = .ok (.iload_n 2, 1) := by decide +kernel
theorem dX12_could_39 : decode cX12_could 39 = .ok (.invokevirtual 293, 3) := by decide +kernel
theorem dX12_could_42 : decode cX12_could 42 = .ok (.istore_n 3, 1) := by decide +kernel
theorem dX12_could_43 : decode cX12_could 43 = .ok (.iconst 0, 1) := by decide +kernel
theorem dX12_could_44 : decode cX12_could 44 = .ok (.istore 4, 2) := by decide +kernel
theorem dX12_could_46 : decode cX12_could 46 = .ok (.iconst 0, 1) := by decide +kernel
theorem dX12_could_47 : decode cX12_could 47 = .ok (.istore 5, 2) := by decide +kernel
theorem dX12_could_49 : decode cX12_could 49 = .ok (.iload 5, 2) := by decide +kernel
theorem dX12_could_51 : decode cX12_could 51 = .ok (.aload_n 0, 1) := by decide +kernel
theorem dX12_could_52 : decode cX12_could 52 = .ok (.invokevirtual 82, 3) := by decide +kernel
theorem dX12_could_55 : decode cX12_could 55 = .ok (.if_icmp .ge 54, 3) := by decide +kernel
theorem dX12_could_58 : decode cX12_could 58 = .ok (.iload_n 3, 1) := by decide +kernel
theorem dX12_could_59 : decode cX12_could 59 = .ok (.ifCond .le 50, 3) := by decide +kernel
theorem dX12_could_62 : decode cX12_could 62 = .ok (.aload_n 0, 1) := by decide +kernel
theorem dX12_could_63 : decode cX12_could 63 = .ok (.aload_n 0, 1) := by decide +kernel
theorem dX12_could_64 : decode cX12_could 64 = .ok (.iload_n 1, 1) := by decide +kernel
theorem dX12_could_65 : decode cX12_could 65 = .ok (.iconst 1, 1) := by decide +kernel
theorem dX12_could_66 : decode cX12_could 66 = .ok (.invokevirtual 280, 3) := by decide +kernel
theorem dX12_could_69 : decode cX12_could 69 = .ok (.iload 5, 2) := by decide +kernel
theorem dX12_could_71 : decode cX12_could 71 = .ok (.invokevirtual 254, 3) := by decide +kernel
theorem dX12_could_74 : decode cX12_could 74 = .ok (.istore 6, 2) := by decide +kernel
theorem dX12_could_76 : decode cX12_could 76 = .ok (.iload 4, 2) := by decide +kernel
theorem dX12_could_78 : decode cX12_could 78 = .ok (.iload 6, 2) := by decide +kernel
theorem dX12_could_80 : decode cX12_could 80 = .ok (.ifCond .le 19, 3) := by decide +kernel
theorem dX12_could_83 : decode cX12_could 83 = .ok (.iload_n 3, 1) := by decide +kernel
theorem dX12_could_84 : decode cX12_could 84 = .ok (.iload 6, 2) := by decide +kernel
theorem dX12_could_86 : decode cX12_could 86 = .ok (.invokestatic 303, 3) := by decide +kernel
theorem dX12_could_89 : decode cX12_could 89 = .ok (.ifCond .eq 10, 3) := by decide +kernel
theorem dX12_could_92 : decode cX12_could 92 = .ok (.iconst 1, 1) := by decide +kernel
theorem dX12_could_93 : decode cX12_could 93 = .ok (.iload 5, 2) := by decide +kernel
theorem dX12_could_95 : decode cX12_could 95 = .ok (.ishl, 1) := by decide +kernel
theorem dX12_could_96 : decode cX12_could 96 = .ok (.goto 4, 3) := by decide +kernel
theorem dX12_could_99 : decode cX12_could 99 = .ok (.iconst 0, 1) := by decide +kernel
theorem dX12_could_100 : decode cX12_could 100 = .ok (.ior, 1) := by decide +kernel
theorem dX12_could_101 : decode cX12_could 101 = .ok (.istore 4, 2) := by decide +kernel
theorem dX12_could_103 : decode cX12_could 103 = .ok (.iinc 5 1, 3) := by decide +kernel
theorem dX12_could_106 : decode cX12_could 106 = .ok (.goto (-57), 3) := by decide +kernel
theorem dX12_could_109 : decode cX12_could 109 = .ok (.iload 4, 2) := by decide +kernel
theorem dX12_could_111 : decode cX12_could 111 = .ok (.ireturn, 1) := by decide +kernel
theorem dX12_understood_0 : decode cX12_understood 0 = .ok (.aload_n 0, 1) := by decide +kernel
theorem dX12_understood_1 : decode cX12_understood 1 = .ok (.iconst 0, 1) := by decide +kernel
theorem dX12_understood_2 : decode cX12_understood 2 = .ok (.putfield 3, 3) := by decide +kernel
theorem dX12_understood_5 : decode cX12_understood 5 = .ok (.aload_n 0, 1) := by decide +kernel
theorem dX12_understood_6 : decode cX12_understood 6 = .ok (.aload_n 0, 1) := by decide +kernel
theorem dX12_understood_7 : decode cX12_understood 7 = .ok (.iload_n 1, 1) := by decide +kernel
theorem dX12_understood_8 : decode cX12_understood 8 = .ok (.invokevirtual 257, 3) := by decide +kernel
theorem dX12_understood_11 : decode cX12_understood 11 = .ok (.iconst 1, 1) := by decide +kernel
theorem dX12_understood_12 : decode cX12_understood 12 = .ok (.invokevirtual 242, 3) := by decide +kernel
theorem dX12_understood_15 : decode cX12_understood 15 = .ok (.ifCond .eq 5, 3) := by decide +kernel
theorem dX12_understood_18 : decode cX12_understood 18 = .ok (.iconst 0, 1) := by decide +kernel
theorem dX12_understood_19 : decode cX12_understood 19 = .ok (.ireturn, 1) := by decide +kernel
theorem dX12_understood_20 : decode cX12_understood 20 = .ok (.iconst 0, 1) := by decide +kernel
theorem dX12_understood_21 : decode cX12_understood 21 = .ok (.istore_n 2, 1) := by decide +kernel
theorem dX12_understood_22 : decode cX12_understood 22 = .ok (.iconst 0, 1) := by decide +kernel
theorem dX12_understood_23 : decode cX12_understood 23 = .ok (.istore_n 3, 1) := by decide +kernel
theorem dX12_understood_24 : decode cX12_understood 24 = .ok (.iload_n 3, 1) := by decide +kernel
theorem dX12_understood_25 : decode cX12_understood 25 = .ok (.aload_n 0, 1) := by decide +kernel
theorem dX12_understood_26 : decode cX12_understood 26 = .ok (.invokevirtual 74, 3) := by decide +kernel
theorem dX12_understood_29 : decode cX12_understood 29 = .ok (.if_icmp .ge 79, 3) := by decide +kernel
theorem dX12_understood_32 : decode cX12_understood 32 = .ok (.iconst 0, 1) := by decide +kernel
theorem dX12_understood_33 : decode cX12_understood 33 = .ok (.istore 4, 2) := by decide +kernel
theorem dX12_understood_35 : decode cX12_understood 35 = .ok (.iload 4, 2) := by decide +kernel
theorem dX12_understood_37 : decode cX12_understood 37 = .ok (.aload_n 0, 1) := by decide +kernel
theorem dX12_understood_38 : decode cX12_understood 38 = .ok (.invokevirtual 82, 3) := by decide +kernel
theorem dX12_understood_41 : decode cX12_understood 41 = .ok (.if_icmp .ge 61, 3) := by decide +kernel
theorem dX12_understood_44 : decode cX12_understood 44 = .ok (.aload_n 0, 1) := by decide +kernel
theorem dX12_understood_45 : decode cX12_understood 45 = .ok (.iload_n 1, 1) := by decide +kernel
theorem dX12_understood_46 : decode cX12_understood 46 = .ok (.iload 4, 2) := by decide +kernel
theorem dX12_understood_48 : decode cX12_understood 48 = .ok (.invokevirtual 254, 3) := by decide +kernel
theorem dX12_understood_51 : decode cX12_understood 51 = .ok (.istore 5, 2) := by decide +kernel
theorem dX12_understood_53 : decode cX12_understood 53 = .ok (.iload_n 2, 1) := by decide +kernel
theorem dX12_understood_54 : decode cX12_understood 54 = .ok (.iload 5, 2) := by decide +kernel
theorem dX12_understood_56 : decode cX12_understood 56 = .ok (.ifCond .le 37, 3) := by decide +kernel
theorem dX12_understood_59 : decode cX12_understood 59 = .ok (.aload_n 0, 1) := by decide +kernel
theorem dX12_understood_60 : decode cX12_understood 60 = .ok (.iload_n 3, 1) := by decide +kernel
theorem dX12_understood_61 : decode cX12_understood 61 = .ok (.iload_n 1, 1) := by decide +kernel
theorem dX12_understood_62 : decode cX12_understood 62 = .ok (.invokevirtual 251, 3) := by decide +kernel
theorem dX12_understood_65 : decode cX12_understood 65 = .ok (.ifCond .eq 28, 3) := by decide +kernel
theorem dX12_understood_68 : decode cX12_understood 68 = .ok (.aload_n 0, 1) := by decide +kernel
theorem dX12_understood_69 : decode cX12_understood 69 = .ok (.iload_n 1, 1) := by decide +kernel
theorem dX12_understood_70 : decode cX12_understood 70 = .ok (.iload 5, 2) := by decide +kernel
theorem dX12_understood_72 : decode cX12_understood 72 = .ok (.aload_n 0, 1) := by decide +kernel
theorem dX12_understood_73 : decode cX12_understood 73 = .ok (.iload_n 3, 1) := by decide +kernel
theorem dX12_understood_74 : decode cX12_understood 74 = .ok (.iload_n 1, 1) := by decide +kernel
theorem dX12_understood_75 : decode cX12_understood 75 = .ok (.invokevirtual 271, 3) := by decide +kernel
theorem dX12_understood_78 : decode cX12_understood 78 = .ok (.invokestatic 99, 3) := by decide +kernel
theorem dX12_understood_81 : decode cX12_understood 81 = .ok (.invokevirtual 296, 3) := by decide +kernel
theorem dX12_understood_84 : decode cX12_understood 84 = .ok (.iload 4, 2) := by decide +kernel
theorem dX12_understood_86 : decode cX12_understood 86 = .ok (.if_icmp .ne 7, 3) := by decide +kernel
theorem dX12_understood_89 : decode cX12_understood 89 = .ok (.iconst 1, 1) := by decide +kernel
theorem dX12_understood_90 : decode cX12_understood 90 = .ok (.goto 4, 3) := by decide +kernel
theorem dX12_understood_93 : decode cX12_understood 93 = .ok (.iconst 0, 1) := by decide +kernel
theorem dX12_understood_94 : decode cX12_understood 94 = .ok (.iadd, 1) := by decide +kernel
theorem dX12_understood_95 : decode cX12_understood 95 = .ok (.istore_n 2, 1) := by decide +kernel
theorem dX12_understood_96 : decode cX12_understood 96 = .ok (.iinc 4 1, 3) := by decide +kernel
theorem dX12_understood_99 : decode cX12_understood 99 = .ok (.goto (-64), 3) := by decide +kernel
theorem dX12_understood_102 : decode cX12_understood 102 = .ok (.iinc 3 1, 3) := by decide +kernel
theorem dX12_understood_105 : decode cX12_understood 105 = .ok (.goto (-81), 3) := by decide +kernel
theorem dX12_understood_108 : decode cX12_understood 108 = .ok (.iload_n 2, 1) := by decide +kernel
theorem dX12_understood_109 : decode cX12_understood 109 = .ok (.ireturn, 1) := by decide +kernel
theorem dX12_lays_0 : decode cX12_lays 0 = .ok (.sipush 138, 3) := by decide +kernel
theorem dX12_lays_3 : decode cX12_lays 3 = .ok (.iconst 4, 1) := by decide +kernel
theorem dX12_lays_4 : decode cX12_lays 4 = .ok (.aload_n 0, 1) := by decide +kernel
theorem dX12_lays_5 : decode cX12_lays 5 = .ok (.getfield 13, 3) := by decide +kernel
theorem dX12_lays_8 : decode cX12_lays 8 = .ok (.iconst 4, 1) := by decide +kernel
theorem dX12_lays_9 : decode cX12_lays 9 = .ok (.iaload, 1) := by decide +kernel
theorem dX12_lays_10 : decode cX12_lays 10 = .ok (.imul, 1) := by decide +kernel
theorem dX12_lays_11 : decode cX12_lays 11 = .ok (.iadd, 1) := by decide +kernel
theorem dX12_lays_12 : decode cX12_lays 12 = .ok (.istore 4, 2) := by decide +kernel
theorem dX12_lays_14 : decode cX12_lays 14 = .ok (.aload_n 0, 1) := by decide +kernel
theorem dX12_lays_15 : decode cX12_lays 15 = .ok (.getfield 13, 3) := by decide +kernel
theorem dX12_lays_18 : decode cX12_lays 18 = .ok (.iload 4, 2) := by decide +kernel
theorem dX12_lays_20 : decode cX12_lays 20 = .ok (.iload_n 1, 1) := by decide +kernel
theorem dX12_lays_21 : decode cX12_lays 21 = .ok (.iastore, 1) := by decide +kernel
theorem dX12_lays_22 : decode cX12_lays 22 = .ok (.aload_n 0, 1) := by decide +kernel
theorem dX12_lays_23 : decode cX12_lays 23 = .ok (.getfield 13, 3) := by decide +kernel
theorem dX12_lays_26 : decode cX12_lays 26 = .ok (.iload 4, 2) := by decide +kernel
theorem dX12_lays_28 : decode cX12_lays 28 = .ok (.iconst 1, 1) := by decide +kernel
theorem dX12_lays_29 : decode cX12_lays 29 = .ok (.iadd, 1) := by decide +kernel
theorem dX12_lays_30 : decode cX12_lays 30 = .ok (.iload_n 2, 1) := by decide +kernel
theorem dX12_lays_31 : decode cX12_lays 31 = .ok (.iastore, 1) := by decide +kernel
theorem dX12_lays_32 : decode cX12_lays 32 = .ok (.aload_n 0, 1) := by decide +kernel
theorem dX12_lays_33 : decode cX12_lays 33 = .ok (.getfield 13, 3) := by decide +kernel
theorem dX12_lays_36 : decode cX12_lays 36 = .ok (.iload 4, 2) := by decide +kernel
theorem dX12_lays_38 : decode cX12_lays 38 = .ok (.iconst 2, 1) := by decide +kernel
theorem dX12_lays_39 : decode cX12_lays 39 = .ok (.iadd, 1) := by decide +kernel
theorem dX12_lays_40 : decode cX12_lays 40 = .ok (.iload_n 3, 1) := by decide +kernel
theorem dX12_lays_41 : decode cX12_lays 41 = .ok (.iastore, 1) := by decide +kernel
theorem dX12_lays_42 : decode cX12_lays 42 = .ok (.aload_n 0, 1) := by decide +kernel
theorem dX12_lays_43 : decode cX12_lays 43 = .ok (.getfield 13, 3) := by decide +kernel
theorem dX12_lays_46 : decode cX12_lays 46 = .ok (.iload 4, 2) := by decide +kernel
theorem dX12_lays_48 : decode cX12_lays 48 = .ok (.iconst 3, 1) := by decide +kernel
theorem dX12_lays_49 : decode cX12_lays 49 = .ok (.iadd, 1) := by decide +kernel
theorem dX12_lays_50 : decode cX12_lays 50 = .ok (.aload_n 0, 1) := by decide +kernel
theorem dX12_lays_51 : decode cX12_lays 51 = .ok (.iload_n 2, 1) := by decide +kernel
theorem dX12_lays_52 : decode cX12_lays 52 = .ok (.iload_n 3, 1) := by decide +kernel
theorem dX12_lays_53 : decode cX12_lays 53 = .ok (.invokevirtual 254, 3) := by decide +kernel
theorem dX12_lays_56 : decode cX12_lays 56 = .ok (.iastore, 1) := by decide +kernel
theorem dX12_lays_57 : decode cX12_lays 57 = .ok (.aload_n 0, 1) := by decide +kernel
theorem dX12_lays_58 : decode cX12_lays 58 = .ok (.getfield 13, 3) := by decide +kernel
theorem dX12_lays_61 : decode cX12_lays 61 = .ok (.iconst 4, 1) := by decide +kernel
theorem dX12_lays_62 : decode cX12_lays 62 = .ok (.dup2, 1) := by decide +kernel
theorem dX12_lays_63 : decode cX12_lays 63 = .ok (.iaload, 1) := by decide +kernel
theorem dX12_lays_64 : decode cX12_lays 64 = .ok (.iconst 1, 1) := by decide +kernel
theorem dX12_lays_65 : decode cX12_lays 65 = .ok (.iadd, 1) := by decide +kernel
theorem dX12_lays_66 : decode cX12_lays 66 = .ok (.iastore, 1) := by decide +kernel
theorem dX12_lays_67 : decode cX12_lays 67 = .ok (.return_, 1) := by decide +kernel
theorem dX12_quiet_0 : decode cX12_quiet 0 = .ok (.aload_n 0, 1) := by decide +kernel
theorem dX12_quiet_1 : decode cX12_quiet 1 = .ok (.iconst 0, 1) := by decide +kernel
theorem dX12_quiet_2 : decode cX12_quiet 2 = .ok (.putfield 3, 3) := by decide +kernel
theorem dX12_quiet_5 : decode cX12_quiet 5 = .ok (.aload_n 0, 1) := by decide +kernel
theorem dX12_quiet_6 : decode cX12_quiet 6 = .ok (.aload_n 0, 1) := by decide +kernel
theorem dX12_quiet_7 : decode cX12_quiet 7 = .ok (.iload_n 1, 1) := by decide +kernel
theorem dX12_quiet_8 : decode cX12_quiet 8 = .ok (.invokevirtual 257, 3) := by decide +kernel
theorem dX12_quiet_11 : decode cX12_quiet 11 = .ok (.ifCond .ne 11, 3) := by decide +kernel
theorem dX12_quiet_14 : decode cX12_quiet 14 = .ok (.aload_n 0, 1) := by decide +kernel
theorem dX12_quiet_15 : decode cX12_quiet 15 = .ok (.iload_n 2, 1) := by decide +kernel
theorem dX12_quiet_16 : decode cX12_quiet 16 = .ok (.invokevirtual 263, 3) := by decide +kernel
theorem dX12_quiet_19 : decode cX12_quiet 19 = .ok (.ifCond .eq 7, 3) := by decide +kernel
theorem dX12_quiet_22 : decode cX12_quiet 22 = .ok (.iconst 1, 1) := by decide +kernel
theorem dX12_quiet_23 : decode cX12_quiet 23 = .ok (.goto 4, 3) := by decide +kernel
theorem dX12_quiet_26 : decode cX12_quiet 26 = .ok (.iconst 0, 1) := by decide +kernel
theorem dX12_quiet_27 : decode cX12_quiet 27 = .ok (.iconst 1, 1) := by decide +kernel
theorem dX12_quiet_28 : decode cX12_quiet 28 = .ok (.invokevirtual 242, 3) := by decide +kernel
theorem dX12_quiet_31 : decode cX12_quiet 31 = .ok (.ifCond .ne 70, 3) := by decide +kernel
theorem dX12_quiet_34 : decode cX12_quiet 34 = .ok (.aload_n 0, 1) := by decide +kernel
theorem dX12_quiet_35 : decode cX12_quiet 35 = .ok (.iload_n 3, 1) := by decide +kernel
theorem dX12_quiet_36 : decode cX12_quiet 36 = .ok (.iconst 0, 1) := by decide +kernel
theorem dX12_quiet_37 : decode cX12_quiet 37 = .ok (.sipush 999, 3) := by decide +kernel
theorem dX12_quiet_40 : decode cX12_quiet 40 = .ok (.invokestatic 78, 3) := by decide +kernel
theorem dX12_quiet_43 : decode cX12_quiet 43 = .ok (.ifCond .eq 22, 3) := by decide +kernel
theorem dX12_quiet_46 : decode cX12_quiet 46 = .ok (.iload 4, 2) := by decide +kernel
theorem dX12_quiet_48 : decode cX12_quiet 48 = .ok (.iload_n 3, 1) := by decide +kernel
theorem dX12_quiet_49 : decode cX12_quiet 49 = .ok (.sipush 999, 3) := by decide +kernel
theorem dX12_quiet_52 : decode cX12_quiet 52 = .ok (.iload_n 3, 1) := by decide +kernel
theorem dX12_quiet_53 : decode cX12_quiet 53 = .ok (.bipush 60, 2) := by decide +kernel
theorem dX12_quiet_55 : decode cX12_quiet 55 = .ok (.iadd, 1) := by decide +kernel
theorem dX12_quiet_56 : decode cX12_quiet 56 = .ok (.invokestatic 306, 3) := by decide +kernel
theorem dX12_quiet_59 : decode cX12_quiet 59 = .ok (.invokestatic 78, 3) := by decide +kernel
theorem dX12_quiet_62 : decode cX12_quiet 62 = .ok (.ifCond .ne 7, 3) := by decide +kernel
theorem dX12_quiet_65 : decode cX12_quiet 65 = .ok (.iconst 1, 1) := by decide +kernel
theorem dX12_quiet_66 : decode cX12_quiet 66 = .ok (.goto 4, 3) := by decide +kernel
theorem dX12_quiet_69 : decode cX12_quiet 69 = .ok (.iconst 0, 1) := by decide +kernel
theorem dX12_quiet_70 : decode cX12_quiet 70 = .ok (.iconst 2, 1) := by decide +kernel
theorem dX12_quiet_71 : decode cX12_quiet 71 = .ok (.invokevirtual 242, 3) := by decide +kernel
theorem dX12_quiet_74 : decode cX12_quiet 74 = .ok (.ifCond .ne 27, 3) := by decide +kernel
theorem dX12_quiet_77 : decode cX12_quiet 77 = .ok (.aload_n 0, 1) := by decide +kernel
theorem dX12_quiet_78 : decode cX12_quiet 78 = .ok (.aload_n 0, 1) := by decide +kernel
theorem dX12_quiet_79 : decode cX12_quiet 79 = .ok (.getfield 13, 3) := by decide +kernel
theorem dX12_quiet_82 : decode cX12_quiet 82 = .ok (.iconst 4, 1) := by decide +kernel
theorem dX12_quiet_83 : decode cX12_quiet 83 = .ok (.iaload, 1) := by decide +kernel
theorem dX12_quiet_84 : decode cX12_quiet 84 = .ok (.bipush 12, 2) := by decide +kernel
theorem dX12_quiet_86 : decode cX12_quiet 86 = .ok (.if_icmp .ne 7, 3) := by decide +kernel
theorem dX12_quiet_89 : decode cX12_quiet 89 = .ok (.iconst 1, 1) := by decide +kernel
theorem dX12_quiet_90 : decode cX12_quiet 90 = .ok (.goto 4, 3) := by decide +kernel
theorem dX12_quiet_93 : decode cX12_quiet 93 = .ok (.iconst 0, 1) := by decide +kernel
theorem dX12_quiet_94 : decode cX12_quiet 94 = .ok (.iconst 3, 1) := by decide +kernel
theorem dX12_quiet_95 : decode cX12_quiet 95 = .ok (.invokevirtual 242, 3) := by decide +kernel
theorem dX12_quiet_98 : decode cX12_quiet 98 = .ok (.ifCond .eq 5, 3) := by decide +kernel
theorem dX12_quiet_101 : decode cX12_quiet 101 = .ok (.iconst 0, 1) := by decide +kernel
theorem dX12_quiet_102 : decode cX12_quiet 102 = .ok (.ireturn, 1) := by decide +kernel
theorem dX12_quiet_103 : decode cX12_quiet 103 = .ok (.aload_n 0, 1) := by decide +kernel
theorem dX12_quiet_104 : decode cX12_quiet 104 = .ok (.iload_n 1, 1) := by decide +kernel
theorem dX12_quiet_105 : decode cX12_quiet 105 = .ok (.iload_n 2, 1) := by decide +kernel
theorem dX12_quiet_106 : decode cX12_quiet 106 = .ok (.invokevirtual 254, 3) := by decide +kernel
theorem dX12_quiet_109 : decode cX12_quiet 109 = .ok (.ifCond .ne 5, 3) := by decide +kernel
theorem dX12_quiet_112 : decode cX12_quiet 112 = .ok (.iconst (-1), 1) := by decide +kernel
theorem dX12_quiet_113 : decode cX12_quiet 113 = .ok (.ireturn, 1) := by decide +kernel
theorem dX12_quiet_114 : decode cX12_quiet 114 = .ok (.iconst (-1), 1) := by decide +kernel
theorem dX12_quiet_115 : decode cX12_quiet 115 = .ok (.istore 5, 2) := by decide +kernel
theorem dX12_quiet_117 : decode cX12_quiet 117 = .ok (.iconst (-1), 1) := by decide +kernel
theorem dX12_quiet_118 : decode cX12_quiet 118 = .ok (.istore 6, 2) := by decide +kernel
theorem dX12_quiet_120 : decode cX12_quiet 120 = .ok (.iload_n 3, 1) := by decide +kernel
theorem dX12_quiet_121 : decode cX12_quiet 121 = .ok (.istore 7, 2) := by decide +kernel
theorem dX12_quiet_123 : decode cX12_quiet 123 = .ok (.iload 7, 2) := by decide +kernel
theorem dX12_quiet_125 : decode cX12_quiet 125 = .ok (.iload 4, 2) := by decide +kernel
theorem dX12_quiet_127 : decode cX12_quiet 127 = .ok (.if_icmp .gt 67, 3) := by decide +kernel
theorem dX12_quiet_130 : decode cX12_quiet 130 = .ok (.aload_n 0, 1) := by decide +kernel
theorem dX12_quiet_131 : decode cX12_quiet 131 = .ok (.iload 7, 2) := by decide +kernel
theorem dX12_quiet_133 : decode cX12_quiet 133 = .ok (.iload_n 1, 1) := by decide +kernel
theorem dX12_quiet_134 : decode cX12_quiet 134 = .ok (.iload_n 2, 1) := by decide +kernel
theorem dX12_quiet_135 : decode cX12_quiet 135 = .ok (.invokevirtual 277, 3) := by decide +kernel
theorem dX12_quiet_138 : decode cX12_quiet 138 = .ok (.aload_n 0, 1) := by decide +kernel
theorem dX12_quiet_139 : decode cX12_quiet 139 = .ok (.aload_n 0, 1) := by decide +kernel
theorem dX12_quiet_140 : decode cX12_quiet 140 = .ok (.getfield 13, 3) := by decide +kernel
theorem dX12_quiet_143 : decode cX12_quiet 143 = .ok (.iconst 4, 1) := by decide +kernel
theorem dX12_quiet_144 : decode cX12_quiet 144 = .ok (.iaload, 1) := by decide +kernel
theorem dX12_quiet_145 : decode cX12_quiet 145 = .ok (.iconst 1, 1) := by decide +kernel
theorem dX12_quiet_146 : decode cX12_quiet 146 = .ok (.isub, 1) := by decide +kernel
theorem dX12_quiet_147 : decode cX12_quiet 147 = .ok (.iconst 0, 1) := by decide +kernel
theorem dX12_quiet_148 : decode cX12_quiet 148 = .ok (.invokevirtual 299, 3) := by decide +kernel
theorem dX12_quiet_151 : decode cX12_quiet 151 = .ok (.istore 8, 2) := by decide +kernel
theorem dX12_quiet_153 : decode cX12_quiet 153 = .ok (.aload_n 0, 1) := by decide +kernel
theorem dX12_quiet_154 : decode cX12_quiet 154 = .ok (.getfield 13, 3) := by decide +kernel
theorem dX12_quiet_157 : decode cX12_quiet 157 = .ok (.iconst 4, 1) := by decide +kernel
theorem dX12_quiet_158 : decode cX12_quiet 158 = .ok (.dup2, 1) := by decide +kernel
theorem dX12_quiet_159 : decode cX12_quiet 159 = .ok (.iaload, 1) := by decide +kernel
theorem dX12_quiet_160 : decode cX12_quiet 160 = .ok (.iconst 1, 1) := by decide +kernel
theorem dX12_quiet_161 : decode cX12_quiet 161 = .ok (.isub, 1) := by decide +kernel
theorem dX12_quiet_162 : decode cX12_quiet 162 = .ok (.iastore, 1) := by decide +kernel
theorem dX12_quiet_163 : decode cX12_quiet 163 = .ok (.iload 8, 2) := by decide +kernel
theorem dX12_quiet_165 : decode cX12_quiet 165 = .ok (.iload 6, 2) := by decide +kernel
theorem dX12_quiet_167 : decode cX12_quiet 167 = .ok (.if_icmp .le 8, 3) := by decide +kernel
theorem dX12_quiet_170 : decode cX12_quiet 170 = .ok (.iload 7, 2) := by decide +kernel
theorem dX12_quiet_172 : decode cX12_quiet 172 = .ok (.goto 5, 3) := by decide +kernel
theorem dX12_quiet_175 : decode cX12_quiet 175 = .ok (.iload 5, 2) := by decide +kernel
theorem dX12_quiet_177 : decode cX12_quiet 177 = .ok (.istore 5, 2) := by decide +kernel
theorem dX12_quiet_179 : decode cX12_quiet 179 = .ok (.iload 6, 2) := by decide +kernel
theorem dX12_quiet_181 : decode cX12_quiet 181 = .ok (.iload 8, 2) := by decide +kernel
theorem dX12_quiet_183 : decode cX12_quiet 183 = .ok (.invokestatic 94, 3) := by decide +kernel
theorem dX12_quiet_186 : decode cX12_quiet 186 = .ok (.istore 6, 2) := by decide +kernel
theorem dX12_quiet_188 : decode cX12_quiet 188 = .ok (.iinc 7 1, 3) := by decide +kernel
theorem dX12_quiet_191 : decode cX12_quiet 191 = .ok (.goto (-68), 3) := by decide +kernel
theorem dX12_quiet_194 : decode cX12_quiet 194 = .ok (.iload 5, 2) := by decide +kernel
theorem dX12_quiet_196 : decode cX12_quiet 196 = .ok (.ireturn, 1) := by decide +kernel
theorem dX12_evening_0 : decode cX12_evening 0 = .ok (.aload_n 0, 1) := by decide +kernel
theorem dX12_evening_1 : decode cX12_evening 1 = .ok (.iconst 0, 1) := by decide +kernel
theorem dX12_evening_2 : decode cX12_evening 2 = .ok (.putfield 3, 3) := by decide +kernel
theorem dX12_evening_5 : decode cX12_evening 5 = .ok (.aload_n 0, 1) := by decide +kernel
theorem dX12_evening_6 : decode cX12_evening 6 = .ok (.iload_n 2, 1) := by decide +kernel
theorem dX12_evening_7 : decode cX12_evening 7 = .ok (.iconst 1, 1) := by decide +kernel
theorem dX12_evening_8 : decode cX12_evening 8 = .ok (.bipush 12, 2) := by decide +kernel
theorem dX12_evening_10 : decode cX12_evening 10 = .ok (.invokestatic 78, 3) := by decide +kernel
theorem dX12_evening_13 : decode cX12_evening 13 = .ok (.ifCond .ne 7, 3) := by decide +kernel
theorem dX12_evening_16 : decode cX12_evening 16 = .ok (.iconst 1, 1) := by decide +kernel
theorem dX12_evening_17 : decode cX12_evening 17 = .ok (.goto 4, 3) := by decide +kernel
theorem dX12_evening_20 : decode cX12_evening 20 = .ok (.iconst 0, 1) := by decide +kernel
theorem dX12_evening_21 : decode cX12_evening 21 = .ok (.iconst 1, 1) := by decide +kernel
theorem dX12_evening_22 : decode cX12_evening 22 = .ok (.invokevirtual 242, 3) := by decide +kernel
theorem dX12_evening_25 : decode cX12_evening 25 = .ok (.ifCond .ne 25, 3) := by decide +kernel
theorem dX12_evening_28 : decode cX12_evening 28 = .ok (.aload_n 0, 1) := by decide +kernel
theorem dX12_evening_29 : decode cX12_evening 29 = .ok (.iload_n 3, 1) := by decide +kernel
theorem dX12_evening_30 : decode cX12_evening 30 = .ok (.iconst 0, 1) := by decide +kernel
theorem dX12_evening_31 : decode cX12_evening 31 = .ok (.iconst 3, 1) := by decide +kernel
theorem dX12_evening_32 : decode cX12_evening 32 = .ok (.invokestatic 78, 3) := by decide +kernel
theorem dX12_evening_35 : decode cX12_evening 35 = .ok (.ifCond .ne 7, 3) := by decide +kernel
theorem dX12_evening_38 : decode cX12_evening 38 = .ok (.iconst 1, 1) := by decide +kernel
theorem dX12_evening_39 : decode cX12_evening 39 = .ok (.goto 4, 3) := by decide +kernel
theorem dX12_evening_42 : decode cX12_evening 42 = .ok (.iconst 0, 1) := by decide +kernel
theorem dX12_evening_43 : decode cX12_evening 43 = .ok (.iconst 2, 1) := by decide +kernel
theorem dX12_evening_44 : decode cX12_evening 44 = .ok (.invokevirtual 242, 3) := by decide +kernel
theorem dX12_evening_47 : decode cX12_evening 47 = .ok (.ifCond .eq 5, 3) := by decide +kernel
theorem dX12_evening_50 : decode cX12_evening 50 = .ok (.iconst 0, 1) := by decide +kernel
theorem dX12_evening_51 : decode cX12_evening 51 = .ok (.ireturn, 1) := by decide +kernel
theorem dX12_evening_52 : decode cX12_evening 52 = .ok (.aload_n 0, 1) := by decide +kernel
theorem dX12_evening_53 : decode cX12_evening 53 = .ok (.invokevirtual 74, 3) := by decide +kernel
theorem dX12_evening_56 : decode cX12_evening 56 = .ok (.ifCond .eq 10, 3) := by decide +kernel
theorem dX12_evening_59 : decode cX12_evening 59 = .ok (.aload_n 0, 1) := by decide +kernel
theorem dX12_evening_60 : decode cX12_evening 60 = .ok (.invokevirtual 82, 3) := by decide +kernel
theorem dX12_evening_63 : decode cX12_evening 63 = .ok (.ifCond .ne 5, 3) := by decide +kernel
theorem dX12_evening_66 : decode cX12_evening 66 = .ok (.iconst 0, 1) := by decide +kernel
theorem dX12_evening_67 : decode cX12_evening 67 = .ok (.ireturn, 1) := by decide +kernel
theorem dX12_evening_68 : decode cX12_evening 68 = .ok (.iconst 0, 1) := by decide +kernel
theorem dX12_evening_69 : decode cX12_evening 69 = .ok (.istore 4, 2) := by decide +kernel
theorem dX12_evening_71 : decode cX12_evening 71 = .ok (.iload 4, 2) := by decide +kernel
theorem dX12_evening_73 : decode cX12_evening 73 = .ok (.bipush 48, 2) := by decide +kernel
theorem dX12_evening_75 : decode cX12_evening 75 = .ok (.if_icmp .ge 27, 3) := by decide +kernel
theorem dX12_evening_78 : decode cX12_evening 78 = .ok (.aload_n 0, 1) := by decide +kernel
theorem dX12_evening_79 : decode cX12_evening 79 = .ok (.getfield 33, 3) := by decide +kernel
theorem dX12_evening_82 : decode cX12_evening 82 = .ok (.iload 4, 2) := by decide +kernel
theorem dX12_evening_84 : decode cX12_evening 84 = .ok (.aload_n 0, 1) := by decide +kernel
theorem dX12_evening_85 : decode cX12_evening 85 = .ok (.getfield 13, 3) := by decide +kernel
theorem dX12_evening_88 : decode cX12_evening 88 = .ok (.sipush 138, 3) := by decide +kernel
theorem dX12_evening_91 : decode cX12_evening 91 = .ok (.iload 4, 2) := by decide +kernel
theorem dX12_evening_93 : decode cX12_evening 93 = .ok (.iadd, 1) := by decide +kernel
theorem dX12_evening_94 : decode cX12_evening 94 = .ok (.iaload, 1) := by decide +kernel
theorem dX12_evening_95 : decode cX12_evening 95 = .ok (.iastore, 1) := by decide +kernel
theorem dX12_evening_96 : decode cX12_evening 96 = .ok (.iinc 4 1, 3) := by decide +kernel
theorem dX12_evening_99 : decode cX12_evening 99 = .ok (.goto (-28), 3) := by decide +kernel
theorem dX12_evening_102 : decode cX12_evening 102 = .ok (.aload_n 0, 1) := by decide +kernel
theorem dX12_evening_103 : decode cX12_evening 103 = .ok (.getfield 13, 3) := by decide +kernel
theorem dX12_evening_106 : decode cX12_evening 106 = .ok (.iconst 4, 1) := by decide +kernel
theorem dX12_evening_107 : decode cX12_evening 107 = .ok (.iaload, 1) := by decide +kernel
theorem dX12_evening_108 : decode cX12_evening 108 = .ok (.istore 4, 2) := by decide +kernel
theorem dX12_evening_110 : decode cX12_evening 110 = .ok (.aload_n 0, 1) := by decide +kernel
theorem dX12_evening_111 : decode cX12_evening 111 = .ok (.getfield 13, 3) := by decide +kernel
