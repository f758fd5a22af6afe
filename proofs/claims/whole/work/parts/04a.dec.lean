theorem dX0_init_0 : decode cX0_init 0 = .ok (.aload_n 0, 1) := by decide +kernel
theorem dX0_init_1 : decode cX0_init 1 = .ok (.invokespecial 3, 3) := by decide +kernel
theorem dX0_init_4 : decode cX0_init 4 = .ok (.aload_n 0, 1) := by decide +kernel
theorem dX0_init_5 : decode cX0_init 5 = .ok (.bipush 64, 2) := by decide +kernel
theorem dX0_init_7 : decode cX0_init 7 = .ok (.newarray .int, 2) := by decide +kernel
theorem dX0_init_9 : decode cX0_init 9 = .ok (.putfield 11, 3) := by decide +kernel
theorem dX0_init_12 : decode cX0_init 12 = .ok (.aload_n 0, 1) := by decide +kernel
theorem dX0_init_13 : decode cX0_init 13 = .ok (.bipush 64, 2) := by decide +kernel
theorem dX0_init_15 : decode cX0_init 15 = .ok (.newarray .int, 2) := by decide +kernel
theorem dX0_init_17 : decode cX0_init 17 = .ok (.putfield 15, 3) := by decide +kernel
theorem dX0_init_20 : decode cX0_init 20 = .ok (.aload_n 0, 1) := by decide +kernel
theorem dX0_init_21 : decode cX0_init 21 = .ok (.bipush 10, 2) := by decide +kernel
theorem dX0_init_23 : decode cX0_init 23 = .ok (.newarray .int, 2) := by decide +kernel
theorem dX0_init_25 : decode cX0_init 25 = .ok (.putfield 18, 3) := by decide +kernel
theorem dX0_init_28 : decode cX0_init 28 = .ok (.aload_n 0, 1) := by decide +kernel
theorem dX0_init_29 : decode cX0_init 29 = .ok (.bipush 10, 2) := by decide +kernel
theorem dX0_init_31 : decode cX0_init 31 = .ok (.newarray .int, 2) := by decide +kernel
theorem dX0_init_33 : decode cX0_init 33 = .ok (.putfield 21, 3) := by decide +kernel
theorem dX0_init_36 : decode cX0_init 36 = .ok (.return_, 1) := by decide +kernel
theorem dX0_leastFor_0 : decode cX0_leastFor 0 = .ok (.iconst 0, 1) := by decide +kernel
theorem dX0_leastFor_1 : decode cX0_leastFor 1 = .ok (.istore_n 3, 1) := by decide +kernel
theorem dX0_leastFor_2 : decode cX0_leastFor 2 = .ok (.iconst 0, 1) := by decide +kernel
theorem dX0_leastFor_3 : decode cX0_leastFor 3 = .ok (.istore 4, 2) := by decide +kernel
theorem dX0_leastFor_5 : decode cX0_leastFor 5 = .ok (.iload 4, 2) := by decide +kernel
theorem dX0_leastFor_7 : decode cX0_leastFor 7 = .ok (.aload_n 1, 1) := by decide +kernel
theorem dX0_leastFor_8 : decode cX0_leastFor 8 = .ok (.getfield 24, 3) := by decide +kernel
theorem dX0_leastFor_11 : decode cX0_leastFor 11 = .ok (.if_icmp .ge 45, 3) := by decide +kernel
theorem dX0_leastFor_14 : decode cX0_leastFor 14 = .ok (.iload_n 2, 1) := by decide +kernel
theorem dX0_leastFor_15 : decode cX0_leastFor 15 = .ok (.iload 4, 2) := by decide +kernel
theorem dX0_leastFor_17 : decode cX0_leastFor 17 = .ok (.ishr, 1) := by decide +kernel
theorem dX0_leastFor_18 : decode cX0_leastFor 18 = .ok (.iconst 1, 1) := by decide +kernel
theorem dX0_leastFor_19 : decode cX0_leastFor 19 = .ok (.iand, 1) := by decide +kernel
theorem dX0_leastFor_20 : decode cX0_leastFor 20 = .ok (.iconst 1, 1) := by decide +kernel
theorem dX0_leastFor_21 : decode cX0_leastFor 21 = .ok (.if_icmp .ne 29, 3) := by decide +kernel
theorem dX0_leastFor_24 : decode cX0_leastFor 24 = .ok (.iload_n 3, 1) := by decide +kernel
theorem dX0_leastFor_25 : decode cX0_leastFor 25 = .ok (.bipush 6, 2) := by decide +kernel
theorem dX0_leastFor_27 : decode cX0_leastFor 27 = .ok (.if_icmp .lt 6, 3) := by decide +kernel
theorem dX0_leastFor_30 : decode cX0_leastFor 30 = .ok (.bipush (-3), 2) := by decide +kernel
theorem dX0_leastFor_32 : decode cX0_leastFor 32 = .ok (.ireturn, 1) := by decide +kernel
theorem dX0_leastFor_33 : decode cX0_leastFor 33 = .ok (.aload_n 0, 1) := by decide +kernel
theorem dX0_leastFor_34 : decode cX0_leastFor 34 = .ok (.getfield 11, 3) := by decide +kernel
theorem dX0_leastFor_37 : decode cX0_leastFor 37 = .ok (.iconst 1, 1) := by decide +kernel
theorem dX0_leastFor_38 : decode cX0_leastFor 38 = .ok (.iload_n 3, 1) := by decide +kernel
theorem dX0_leastFor_39 : decode cX0_leastFor 39 = .ok (.ishl, 1) := by decide +kernel
theorem dX0_leastFor_40 : decode cX0_leastFor 40 = .ok (.aload_n 1, 1) := by decide +kernel
theorem dX0_leastFor_41 : decode cX0_leastFor 41 = .ok (.iload 4, 2) := by decide +kernel
theorem dX0_leastFor_43 : decode cX0_leastFor 43 = .ok (.invokevirtual 30, 3) := by decide +kernel
theorem dX0_leastFor_46 : decode cX0_leastFor 46 = .ok (.iastore, 1) := by decide +kernel
theorem dX0_leastFor_47 : decode cX0_leastFor 47 = .ok (.iinc 3 1, 3) := by decide +kernel
theorem dX0_leastFor_50 : decode cX0_leastFor 50 = .ok (.iinc 4 1, 3) := by decide +kernel
theorem dX0_leastFor_53 : decode cX0_leastFor 53 = .ok (.goto (-48), 3) := by decide +kernel
theorem dX0_leastFor_56 : decode cX0_leastFor 56 = .ok (.iload_n 3, 1) := by decide +kernel
theorem dX0_leastFor_57 : decode cX0_leastFor 57 = .ok (.ifCond .ne 5, 3) := by decide +kernel
theorem dX0_leastFor_60 : decode cX0_leastFor 60 = .ok (.iconst 0, 1) := by decide +kernel
theorem dX0_leastFor_61 : decode cX0_leastFor 61 = .ok (.ireturn, 1) := by decide +kernel
theorem dX0_leastFor_62 : decode cX0_leastFor 62 = .ok (.iload_n 3, 1) := by decide +kernel
theorem dX0_leastFor_63 : decode cX0_leastFor 63 = .ok (.iconst 1, 1) := by decide +kernel
theorem dX0_leastFor_64 : decode cX0_leastFor 64 = .ok (.if_icmp .ne 12, 3) := by decide +kernel
theorem dX0_leastFor_67 : decode cX0_leastFor 67 = .ok (.aload_n 0, 1) := by decide +kernel
theorem dX0_leastFor_68 : decode cX0_leastFor 68 = .ok (.getfield 11, 3) := by decide +kernel
theorem dX0_leastFor_71 : decode cX0_leastFor 71 = .ok (.iconst 1, 1) := by decide +kernel
theorem dX0_leastFor_72 : decode cX0_leastFor 72 = .ok (.iaload, 1) := by decide +kernel
theorem dX0_leastFor_73 : decode cX0_leastFor 73 = .ok (.goto 8, 3) := by decide +kernel
theorem dX0_leastFor_76 : decode cX0_leastFor 76 = .ok (.aload_n 0, 1) := by decide +kernel
theorem dX0_leastFor_77 : decode cX0_leastFor 77 = .ok (.iload_n 3, 1) := by decide +kernel
theorem dX0_leastFor_78 : decode cX0_leastFor 78 = .ok (.invokevirtual 34, 3) := by decide +kernel
theorem dX0_leastFor_81 : decode cX0_leastFor 81 = .ok (.ireturn, 1) := by decide +kernel
theorem dX0_leastOfAll_0 : decode cX0_leastOfAll 0 = .ok (.iconst 1, 1) := by decide +kernel
theorem dX0_leastOfAll_1 : decode cX0_leastOfAll 1 = .ok (.iload_n 1, 1) := by decide +kernel
theorem dX0_leastOfAll_2 : decode cX0_leastOfAll 2 = .ok (.ishl, 1) := by decide +kernel
theorem dX0_leastOfAll_3 : decode cX0_leastOfAll 3 = .ok (.iconst 1, 1) := by decide +kernel
theorem dX0_leastOfAll_4 : decode cX0_leastOfAll 4 = .ok (.isub, 1) := by decide +kernel
theorem dX0_leastOfAll_5 : decode cX0_leastOfAll 5 = .ok (.istore_n 2, 1) := by decide +kernel
theorem dX0_leastOfAll_6 : decode cX0_leastOfAll 6 = .ok (.iconst 1, 1) := by decide +kernel
theorem dX0_leastOfAll_7 : decode cX0_leastOfAll 7 = .ok (.istore_n 3, 1) := by decide +kernel
theorem dX0_leastOfAll_8 : decode cX0_leastOfAll 8 = .ok (.iload_n 3, 1) := by decide +kernel
theorem dX0_leastOfAll_9 : decode cX0_leastOfAll 9 = .ok (.iload_n 2, 1) := by decide +kernel
theorem dX0_leastOfAll_10 : decode cX0_leastOfAll 10 = .ok (.if_icmp .gt 150, 3) := by decide +kernel
theorem dX0_leastOfAll_13 : decode cX0_leastOfAll 13 = .ok (.iload_n 3, 1) := by decide +kernel
theorem dX0_leastOfAll_14 : decode cX0_leastOfAll 14 = .ok (.iload_n 3, 1) := by decide +kernel
theorem dX0_leastOfAll_15 : decode cX0_leastOfAll 15 = .ok (.ineg, 1) := by decide +kernel
theorem dX0_leastOfAll_16 : decode cX0_leastOfAll 16 = .ok (.iand, 1) := by decide +kernel
theorem dX0_leastOfAll_17 : decode cX0_leastOfAll 17 = .ok (.istore 4, 2) := by decide +kernel
theorem dX0_leastOfAll_19 : decode cX0_leastOfAll 19 = .ok (.aload_n 0, 1) := by decide +kernel
theorem dX0_leastOfAll_20 : decode cX0_leastOfAll 20 = .ok (.getfield 11, 3) := by decide +kernel
theorem dX0_leastOfAll_23 : decode cX0_leastOfAll 23 = .ok (.iload_n 3, 1) := by decide +kernel
theorem dX0_leastOfAll_24 : decode cX0_leastOfAll 24 = .ok (.aload_n 0, 1) := by decide +kernel
theorem dX0_leastOfAll_25 : decode cX0_leastOfAll 25 = .ok (.getfield 11, 3) := by decide +kernel
theorem dX0_leastOfAll_28 : decode cX0_leastOfAll 28 = .ok (.iload 4, 2) := by decide +kernel
theorem dX0_leastOfAll_30 : decode cX0_leastOfAll 30 = .ok (.iaload, 1) := by decide +kernel
theorem dX0_leastOfAll_31 : decode cX0_leastOfAll 31 = .ok (.iload_n 3, 1) := by decide +kernel
theorem dX0_leastOfAll_32 : decode cX0_leastOfAll 32 = .ok (.iload 4, 2) := by decide +kernel
theorem dX0_leastOfAll_34 : decode cX0_leastOfAll 34 = .ok (.if_icmp .ne 7, 3) := by decide +kernel
theorem dX0_leastOfAll_37 : decode cX0_leastOfAll 37 = .ok (.iconst 0, 1) := by decide +kernel
theorem dX0_leastOfAll_38 : decode cX0_leastOfAll 38 = .ok (.goto 12, 3) := by decide +kernel
theorem dX0_leastOfAll_41 : decode cX0_leastOfAll 41 = .ok (.aload_n 0, 1) := by decide +kernel
theorem dX0_leastOfAll_42 : decode cX0_leastOfAll 42 = .ok (.getfield 11, 3) := by decide +kernel
theorem dX0_leastOfAll_45 : decode cX0_leastOfAll 45 = .ok (.iload_n 3, 1) := by decide +kernel
theorem dX0_leastOfAll_46 : decode cX0_leastOfAll 46 = .ok (.iload 4, 2) := by decide +kernel
theorem dX0_leastOfAll_48 : decode cX0_leastOfAll 48 = .ok (.ixor, 1) := by decide +kernel
theorem dX0_leastOfAll_49 : decode cX0_leastOfAll 49 = .ok (.iaload, 1) := by decide +kernel
theorem dX0_leastOfAll_50 : decode cX0_leastOfAll 50 = .ok (.iadd, 1) := by decide +kernel
theorem dX0_leastOfAll_51 : decode cX0_leastOfAll 51 = .ok (.iastore, 1) := by decide +kernel
theorem dX0_leastOfAll_52 : decode cX0_leastOfAll 52 = .ok (.aload_n 0, 1) := by decide +kernel
theorem dX0_leastOfAll_53 : decode cX0_leastOfAll 53 = .ok (.getfield 15, 3) := by decide +kernel
theorem dX0_leastOfAll_56 : decode cX0_leastOfAll 56 = .ok (.iload_n 3, 1) := by decide +kernel
theorem dX0_leastOfAll_57 : decode cX0_leastOfAll 57 = .ok (.iconst 0, 1) := by decide +kernel
theorem dX0_leastOfAll_58 : decode cX0_leastOfAll 58 = .ok (.iastore, 1) := by decide +kernel
theorem dX0_leastOfAll_59 : decode cX0_leastOfAll 59 = .ok (.iconst 1, 1) := by decide +kernel
theorem dX0_leastOfAll_60 : decode cX0_leastOfAll 60 = .ok (.istore 5, 2) := by decide +kernel
theorem dX0_leastOfAll_62 : decode cX0_leastOfAll 62 = .ok (.iload 5, 2) := by decide +kernel
theorem dX0_leastOfAll_64 : decode cX0_leastOfAll 64 = .ok (.iload_n 3, 1) := by decide +kernel
theorem dX0_leastOfAll_65 : decode cX0_leastOfAll 65 = .ok (.if_icmp .ge 89, 3) := by decide +kernel
theorem dX0_leastOfAll_68 : decode cX0_leastOfAll 68 = .ok (.iload_n 3, 1) := by decide +kernel
theorem dX0_leastOfAll_69 : decode cX0_leastOfAll 69 = .ok (.iload 5, 2) := by decide +kernel
theorem dX0_leastOfAll_71 : decode cX0_leastOfAll 71 = .ok (.iconst (-1), 1) := by decide +kernel
theorem dX0_leastOfAll_72 : decode cX0_leastOfAll 72 = .ok (.ixor, 1) := by decide +kernel
theorem dX0_leastOfAll_73 : decode cX0_leastOfAll 73 = .ok (.iand, 1) := by decide +kernel
theorem dX0_leastOfAll_74 : decode cX0_leastOfAll 74 = .ok (.istore 6, 2) := by decide +kernel
theorem dX0_leastOfAll_76 : decode cX0_leastOfAll 76 = .ok (.aload_n 0, 1) := by decide +kernel
theorem dX0_leastOfAll_77 : decode cX0_leastOfAll 77 = .ok (.getfield 15, 3) := by decide +kernel
theorem dX0_leastOfAll_80 : decode cX0_leastOfAll 80 = .ok (.iload 5, 2) := by decide +kernel
theorem dX0_leastOfAll_82 : decode cX0_leastOfAll 82 = .ok (.iaload, 1) := by decide +kernel
theorem dX0_leastOfAll_83 : decode cX0_leastOfAll 83 = .ok (.aload_n 0, 1) := by decide +kernel
theorem dX0_leastOfAll_84 : decode cX0_leastOfAll 84 = .ok (.getfield 11, 3) := by decide +kernel
theorem dX0_leastOfAll_87 : decode cX0_leastOfAll 87 = .ok (.iload 5, 2) := by decide +kernel
theorem dX0_leastOfAll_89 : decode cX0_leastOfAll 89 = .ok (.iaload, 1) := by decide +kernel
theorem dX0_leastOfAll_90 : decode cX0_leastOfAll 90 = .ok (.iadd, 1) := by decide +kernel
theorem dX0_leastOfAll_91 : decode cX0_leastOfAll 91 = .ok (.aload_n 0, 1) := by decide +kernel
theorem dX0_leastOfAll_92 : decode cX0_leastOfAll 92 = .ok (.getfield 15, 3) := by decide +kernel
theorem dX0_leastOfAll_95 : decode cX0_leastOfAll 95 = .ok (.iload 6, 2) := by decide +kernel
theorem dX0_leastOfAll_97 : decode cX0_leastOfAll 97 = .ok (.iaload, 1) := by decide +kernel
theorem dX0_leastOfAll_98 : decode cX0_leastOfAll 98 = .ok (.iadd, 1) := by decide +kernel
theorem dX0_leastOfAll_99 : decode cX0_leastOfAll 99 = .ok (.iconst 2, 1) := by decide +kernel
theorem dX0_leastOfAll_100 : decode cX0_leastOfAll 100 = .ok (.aload_n 0, 1) := by decide +kernel
theorem dX0_leastOfAll_101 : decode cX0_leastOfAll 101 = .ok (.getfield 11, 3) := by decide +kernel
theorem dX0_leastOfAll_104 : decode cX0_leastOfAll 104 = .ok (.iload 6, 2) := by decide +kernel
theorem dX0_leastOfAll_106 : decode cX0_leastOfAll 106 = .ok (.iaload, 1) := by decide +kernel
theorem dX0_leastOfAll_107 : decode cX0_leastOfAll 107 = .ok (.imul, 1) := by decide +kernel
theorem dX0_leastOfAll_108 : decode cX0_leastOfAll 108 = .ok (.iadd, 1) := by decide +kernel
theorem dX0_leastOfAll_109 : decode cX0_leastOfAll 109 = .ok (.istore 7, 2) := by decide +kernel
theorem dX0_leastOfAll_111 : decode cX0_leastOfAll 111 = .ok (.iload 5, 2) := by decide +kernel
theorem dX0_leastOfAll_113 : decode cX0_leastOfAll 113 = .ok (.iload_n 3, 1) := by decide +kernel
theorem dX0_leastOfAll_114 : decode cX0_leastOfAll 114 = .ok (.iand, 1) := by decide +kernel
theorem dX0_leastOfAll_115 : decode cX0_leastOfAll 115 = .ok (.iload 5, 2) := by decide +kernel
theorem dX0_leastOfAll_117 : decode cX0_leastOfAll 117 = .ok (.if_icmp .ne 31, 3) := by decide +kernel
theorem dX0_leastOfAll_120 : decode cX0_leastOfAll 120 = .ok (.aload_n 0, 1) := by decide +kernel
theorem dX0_leastOfAll_121 : decode cX0_leastOfAll 121 = .ok (.getfield 15, 3) := by decide +kernel
theorem dX0_leastOfAll_124 : decode cX0_leastOfAll 124 = .ok (.iload_n 3, 1) := by decide +kernel
theorem dX0_leastOfAll_125 : decode cX0_leastOfAll 125 = .ok (.iaload, 1) := by decide +kernel
theorem dX0_leastOfAll_126 : decode cX0_leastOfAll 126 = .ok (.ifCond .eq 14, 3) := by decide +kernel
theorem dX0_leastOfAll_129 : decode cX0_leastOfAll 129 = .ok (.iload 7, 2) := by decide +kernel
theorem dX0_leastOfAll_131 : decode cX0_leastOfAll 131 = .ok (.aload_n 0, 1) := by decide +kernel
theorem dX0_leastOfAll_132 : decode cX0_leastOfAll 132 = .ok (.getfield 15, 3) := by decide +kernel
theorem dX0_leastOfAll_135 : decode cX0_leastOfAll 135 = .ok (.iload_n 3, 1) := by decide +kernel
theorem dX0_leastOfAll_136 : decode cX0_leastOfAll 136 = .ok (.iaload, 1) := by decide +kernel
theorem dX0_leastOfAll_137 : decode cX0_leastOfAll 137 = .ok (.if_icmp .ge 11, 3) := by decide +kernel
theorem dX0_leastOfAll_140 : decode cX0_leastOfAll 140 = .ok (.aload_n 0, 1) := by decide +kernel
theorem dX0_leastOfAll_141 : decode cX0_leastOfAll 141 = .ok (.getfield 15, 3) := by decide +kernel
theorem dX0_leastOfAll_144 : decode cX0_leastOfAll 144 = .ok (.iload_n 3, 1) := by decide +kernel
theorem dX0_leastOfAll_145 : decode cX0_leastOfAll 145 = .ok (.iload 7, 2) := by decide +kernel
theorem dX0_leastOfAll_147 : decode cX0_leastOfAll 147 = .ok (.iastore, 1) := by decide +kernel
theorem dX0_leastOfAll_148 : decode cX0_leastOfAll 148 = .ok (.iinc 5 1, 3) := by decide +kernel
theorem dX0_leastOfAll_151 : decode cX0_leastOfAll 151 = .ok (.goto (-89), 3) := by decide +kernel
theorem dX0_leastOfAll_154 : decode cX0_leastOfAll 154 = .ok (.iinc 3 1, 3) := by decide +kernel
theorem dX0_leastOfAll_157 : decode cX0_leastOfAll 157 = .ok (.goto (-149), 3) := by decide +kernel
theorem dX0_leastOfAll_160 : decode cX0_leastOfAll 160 = .ok (.aload_n 0, 1) := by decide +kernel
theorem dX0_leastOfAll_161 : decode cX0_leastOfAll 161 = .ok (.getfield 15, 3) := by decide +kernel
theorem dX0_leastOfAll_164 : decode cX0_leastOfAll 164 = .ok (.iload_n 2, 1) := by decide +kernel
theorem dX0_leastOfAll_165 : decode cX0_leastOfAll 165 = .ok (.iaload, 1) := by decide +kernel
theorem dX0_leastOfAll_166 : decode cX0_leastOfAll 166 = .ok (.ireturn, 1) := by decide +kernel
theorem dX0_makeRoom_0 : decode cX0_makeRoom 0 = .ok (.aload_n 0, 1) := by decide +kernel
theorem dX0_makeRoom_1 : decode cX0_makeRoom 1 = .ok (.iconst (-1), 1) := by decide +kernel
theorem dX0_makeRoom_2 : decode cX0_makeRoom 2 = .ok (.putfield 37, 3) := by decide +kernel
theorem dX0_makeRoom_5 : decode cX0_makeRoom 5 = .ok (.aload_n 0, 1) := by decide +kernel
theorem dX0_makeRoom_6 : decode cX0_makeRoom 6 = .ok (.iconst (-1), 1) := by decide +kernel
theorem dX0_makeRoom_7 : decode cX0_makeRoom 7 = .ok (.putfield 40, 3) := by decide +kernel
theorem dX0_makeRoom_10 : decode cX0_makeRoom 10 = .ok (.aload_n 1, 1) := by decide +kernel
theorem dX0_makeRoom_11 : decode cX0_makeRoom 11 = .ok (.iload_n 2, 1) := by decide +kernel
theorem dX0_makeRoom_12 : decode cX0_makeRoom 12 = .ok (.invokevirtual 43, 3) := by decide +kernel
theorem dX0_makeRoom_15 : decode cX0_makeRoom 15 = .ok (.ifCond .le 4, 3) := by decide +kernel
theorem dX0_makeRoom_18 : decode cX0_makeRoom 18 = .ok (.return_, 1) := by decide +kernel
theorem dX0_makeRoom_19 : decode cX0_makeRoom 19 = .ok (.iconst 0, 1) := by decide +kernel
theorem dX0_makeRoom_20 : decode cX0_makeRoom 20 = .ok (.istore 4, 2) := by decide +kernel
theorem dX0_makeRoom_22 : decode cX0_makeRoom 22 = .ok (.iload 4, 2) := by decide +kernel
theorem dX0_makeRoom_24 : decode cX0_makeRoom 24 = .ok (.bipush 10, 2) := by decide +kernel
theorem dX0_makeRoom_26 : decode cX0_makeRoom 26 = .ok (.if_icmp .ge 40, 3) := by decide +kernel
theorem dX0_makeRoom_29 : decode cX0_makeRoom 29 = .ok (.aload_n 0, 1) := by decide +kernel
theorem dX0_makeRoom_30 : decode cX0_makeRoom 30 = .ok (.getfield 18, 3) := by decide +kernel
theorem dX0_makeRoom_33 : decode cX0_makeRoom 33 = .ok (.iload 4, 2) := by decide +kernel
theorem dX0_makeRoom_35 : decode cX0_makeRoom 35 = .ok (.aload_n 1, 1) := by decide +kernel
theorem dX0_makeRoom_36 : decode cX0_makeRoom 36 = .ok (.iload_n 2, 1) := by decide +kernel
theorem dX0_makeRoom_37 : decode cX0_makeRoom 37 = .ok (.iload 4, 2) := by decide +kernel
theorem dX0_makeRoom_39 : decode cX0_makeRoom 39 = .ok (.invokevirtual 46, 3) := by decide +kernel
theorem dX0_makeRoom_42 : decode cX0_makeRoom 42 = .ok (.iastore, 1) := by decide +kernel
theorem dX0_makeRoom_43 : decode cX0_makeRoom 43 = .ok (.aload_n 0, 1) := by decide +kernel
theorem dX0_makeRoom_44 : decode cX0_makeRoom 44 = .ok (.getfield 21, 3) := by decide +kernel
theorem dX0_makeRoom_47 : decode cX0_makeRoom 47 = .ok (.iload 4, 2) := by decide +kernel
theorem dX0_makeRoom_49 : decode cX0_makeRoom 49 = .ok (.aload_n 0, 1) := by decide +kernel
theorem dX0_makeRoom_50 : decode cX0_makeRoom 50 = .ok (.getfield 18, 3) := by decide +kernel
theorem dX0_makeRoom_53 : decode cX0_makeRoom 53 = .ok (.iload 4, 2) := by decide +kernel
theorem dX0_makeRoom_55 : decode cX0_makeRoom 55 = .ok (.iaload, 1) := by decide +kernel
theorem dX0_makeRoom_56 : decode cX0_makeRoom 56 = .ok (.invokestatic 50, 3) := by decide +kernel
theorem dX0_makeRoom_59 : decode cX0_makeRoom 59 = .ok (.iastore, 1) := by decide +kernel
theorem dX0_makeRoom_60 : decode cX0_makeRoom 60 = .ok (.iinc 4 1, 3) := by decide +kernel
theorem dX0_makeRoom_63 : decode cX0_makeRoom 63 = .ok (.goto (-41), 3) := by decide +kernel
theorem dX0_makeRoom_66 : decode cX0_makeRoom 66 = .ok (.aload_n 0, 1) := by decide +kernel
theorem dX0_makeRoom_67 : decode cX0_makeRoom 67 = .ok (.aload_n 1, 1) := by decide +kernel
theorem dX0_makeRoom_68 : decode cX0_makeRoom 68 = .ok (.iload_n 3, 1) := by decide +kernel
theorem dX0_makeRoom_69 : decode cX0_makeRoom 69 = .ok (.invokevirtual 30, 3) := by decide +kernel
theorem dX0_makeRoom_72 : decode cX0_makeRoom 72 = .ok (.iconst 0, 1) := by decide +kernel
theorem dX0_makeRoom_73 : decode cX0_makeRoom 73 = .ok (.invokevirtual 53, 3) := by decide +kernel
theorem dX0_makeRoom_76 : decode cX0_makeRoom 76 = .ok (.iconst 0, 1) := by decide +kernel
theorem dX0_makeRoom_77 : decode cX0_makeRoom 77 = .ok (.istore 4, 2) := by decide +kernel
theorem dX0_makeRoom_79 : decode cX0_makeRoom 79 = .ok (.iload 4, 2) := by decide +kernel
theorem dX0_makeRoom_81 : decode cX0_makeRoom 81 = .ok (.bipush 10, 2) := by decide +kernel
theorem dX0_makeRoom_83 : decode cX0_makeRoom 83 = .ok (.if_icmp .ge 123, 3) := by decide +kernel
theorem dX0_makeRoom_86 : decode cX0_makeRoom 86 = .ok (.aload_n 0, 1) := by decide +kernel
theorem dX0_makeRoom_87 : decode cX0_makeRoom 87 = .ok (.getfield 18, 3) := by decide +kernel
theorem dX0_makeRoom_90 : decode cX0_makeRoom 90 = .ok (.iload 4, 2) := by decide +kernel
theorem dX0_makeRoom_92 : decode cX0_makeRoom 92 = .ok (.iaload, 1) := by decide +kernel
theorem dX0_makeRoom_93 : decode cX0_makeRoom 93 = .ok (.istore 5, 2) := by decide +kernel
theorem dX0_makeRoom_95 : decode cX0_makeRoom 95 = .ok (.iload 5, 2) := by decide +kernel
theorem dX0_makeRoom_97 : decode cX0_makeRoom 97 = .ok (.iconst (-1), 1) := by decide +kernel
theorem dX0_makeRoom_98 : decode cX0_makeRoom 98 = .ok (.if_icmp .eq 102, 3) := by decide +kernel
theorem dX0_makeRoom_101 : decode cX0_makeRoom 101 = .ok (.aload_n 0, 1) := by decide +kernel
theorem dX0_makeRoom_102 : decode cX0_makeRoom 102 = .ok (.getfield 21, 3) := by decide +kernel
theorem dX0_makeRoom_105 : decode cX0_makeRoom 105 = .ok (.iload 4, 2) := by decide +kernel
theorem dX0_makeRoom_107 : decode cX0_makeRoom 107 = .ok (.iaload, 1) := by decide +kernel
theorem dX0_makeRoom_108 : decode cX0_makeRoom 108 = .ok (.bipush 8, 2) := by decide +kernel
theorem dX0_makeRoom_110 : decode cX0_makeRoom 110 = .ok (.if_icmp .ge 90, 3) := by decide +kernel
theorem dX0_makeRoom_113 : decode cX0_makeRoom 113 = .ok (.aload_n 0, 1) := by decide +kernel
theorem dX0_makeRoom_114 : decode cX0_makeRoom 114 = .ok (.getfield 21, 3) := by decide +kernel
theorem dX0_makeRoom_117 : decode cX0_makeRoom 117 = .ok (.iload 4, 2) := by decide +kernel
theorem dX0_makeRoom_119 : decode cX0_makeRoom 119 = .ok (.dup2, 1) := by decide +kernel
theorem dX0_makeRoom_120 : decode cX0_makeRoom 120 = .ok (.iaload, 1) := by decide +kernel
theorem dX0_makeRoom_121 : decode cX0_makeRoom 121 = .ok (.iconst 1, 1) := by decide +kernel
theorem dX0_makeRoom_122 : decode cX0_makeRoom 122 = .ok (.iadd, 1) := by decide +kernel
theorem dX0_makeRoom_123 : decode cX0_makeRoom 123 = .ok (.iastore, 1) := by decide +kernel
theorem dX0_makeRoom_124 : decode cX0_makeRoom 124 = .ok (.aload_n 0, 1) := by decide +kernel
theorem dX0_makeRoom_125 : decode cX0_makeRoom 125 = .ok (.getfield 18, 3) := by decide +kernel
theorem dX0_makeRoom_128 : decode cX0_makeRoom 128 = .ok (.iload 4, 2) := by decide +kernel
theorem dX0_makeRoom_130 : decode cX0_makeRoom 130 = .ok (.iload 5, 2) := by decide +kernel
theorem dX0_makeRoom_132 : decode cX0_makeRoom 132 = .ok (.iconst 2, 1) := by decide +kernel
theorem dX0_makeRoom_133 : decode cX0_makeRoom 133 = .ok (.imul, 1) := by decide +kernel
theorem dX0_makeRoom_134 : decode cX0_makeRoom 134 = .ok (.iastore, 1) := by decide +kernel
theorem dX0_makeRoom_135 : decode cX0_makeRoom 135 = .ok (.aload_n 0, 1) := by decide +kernel
theorem dX0_makeRoom_136 : decode cX0_makeRoom 136 = .ok (.aload_n 1, 1) := by decide +kernel
theorem dX0_makeRoom_137 : decode cX0_makeRoom 137 = .ok (.iload_n 3, 1) := by decide +kernel
theorem dX0_makeRoom_138 : decode cX0_makeRoom 138 = .ok (.invokevirtual 30, 3) := by decide +kernel
theorem dX0_makeRoom_141 : decode cX0_makeRoom 141 = .ok (.aload_n 1, 1) := by decide +kernel
theorem dX0_makeRoom_142 : decode cX0_makeRoom 142 = .ok (.iload 4, 2) := by decide +kernel
theorem dX0_makeRoom_144 : decode cX0_makeRoom 144 = .ok (.invokevirtual 30, 3) := by decide +kernel
theorem dX0_makeRoom_147 : decode cX0_makeRoom 147 = .ok (.invokevirtual 53, 3) := by decide +kernel
theorem dX0_makeRoom_150 : decode cX0_makeRoom 150 = .ok (.aload_n 0, 1) := by decide +kernel
theorem dX0_makeRoom_151 : decode cX0_makeRoom 151 = .ok (.getfield 18, 3) := by decide +kernel
theorem dX0_makeRoom_154 : decode cX0_makeRoom 154 = .ok (.iload 4, 2) := by decide +kernel
theorem dX0_makeRoom_156 : decode cX0_makeRoom 156 = .ok (.iload 5, 2) := by decide +kernel
theorem dX0_makeRoom_158 : decode cX0_makeRoom 158 = .ok (.iconst 2, 1) := by decide +kernel
theorem dX0_makeRoom_159 : decode cX0_makeRoom 159 = .ok (.imul, 1) := by decide +kernel
theorem dX0_makeRoom_160 : decode cX0_makeRoom 160 = .ok (.iconst 1, 1) := by decide +kernel
theorem dX0_makeRoom_161 : decode cX0_makeRoom 161 = .ok (.iadd, 1) := by decide +kernel
theorem dX0_makeRoom_162 : decode cX0_makeRoom 162 = .ok (.iastore, 1) := by decide +kernel
theorem dX0_makeRoom_163 : decode cX0_makeRoom 163 = .ok (.aload_n 0, 1) := by decide +kernel
theorem dX0_makeRoom_164 : decode cX0_makeRoom 164 = .ok (.aload_n 1, 1) := by decide +kernel
theorem dX0_makeRoom_165 : decode cX0_makeRoom 165 = .ok (.iload_n 3, 1) := by decide +kernel
theorem dX0_makeRoom_166 : decode cX0_makeRoom 166 = .ok (.invokevirtual 30, 3) := by decide +kernel
theorem dX0_makeRoom_169 : decode cX0_makeRoom 169 = .ok (.iconst 2, 1) := by decide +kernel
theorem dX0_makeRoom_170 : decode cX0_makeRoom 170 = .ok (.aload_n 1, 1) := by decide +kernel
theorem dX0_makeRoom_171 : decode cX0_makeRoom 171 = .ok (.iload 4, 2) := by decide +kernel
theorem dX0_makeRoom_173 : decode cX0_makeRoom 173 = .ok (.invokevirtual 30, 3) := by decide +kernel
theorem dX0_makeRoom_176 : decode cX0_makeRoom 176 = .ok (.imul, 1) := by decide +kernel
theorem dX0_makeRoom_177 : decode cX0_makeRoom 177 = .ok (.invokevirtual 53, 3) := by decide +kernel
theorem dX0_makeRoom_180 : decode cX0_makeRoom 180 = .ok (.aload_n 0, 1) := by decide +kernel
theorem dX0_makeRoom_181 : decode cX0_makeRoom 181 = .ok (.getfield 18, 3) := by decide +kernel
theorem dX0_makeRoom_184 : decode cX0_makeRoom 184 = .ok (.iload 4, 2) := by decide +kernel
theorem dX0_makeRoom_186 : decode cX0_makeRoom 186 = .ok (.iload 5, 2) := by decide +kernel
theorem dX0_makeRoom_188 : decode cX0_makeRoom 188 = .ok (.iastore, 1) := by decide +kernel
theorem dX0_makeRoom_189 : decode cX0_makeRoom 189 = .ok (.aload_n 0, 1) := by decide +kernel
theorem dX0_makeRoom_190 : decode cX0_makeRoom 190 = .ok (.getfield 21, 3) := by decide +kernel
theorem dX0_makeRoom_193 : decode cX0_makeRoom 193 = .ok (.iload 4, 2) := by decide +kernel
theorem dX0_makeRoom_195 : decode cX0_makeRoom 195 = .ok (.dup2, 1) := by decide +kernel
theorem dX0_makeRoom_196 : decode cX0_makeRoom 196 = .ok (.iaload, 1) := by decide +kernel
theorem dX0_makeRoom_197 : decode cX0_makeRoom 197 = .ok (.iconst 1, 1) := by decide +kernel
theorem dX0_makeRoom_198 : decode cX0_makeRoom 198 = .ok (.isub, 1) := by decide +kernel
theorem dX0_makeRoom_199 : decode cX0_makeRoom 199 = .ok (.iastore, 1) := by decide +kernel
theorem dX0_makeRoom_200 : decode cX0_makeRoom 200 = .ok (.iinc 4 1, 3) := by decide +kernel
theorem dX0_makeRoom_203 : decode cX0_makeRoom 203 = .ok (.goto (-124), 3) := by decide +kernel
theorem dX0_makeRoom_206 : decode cX0_makeRoom 206 = .ok (.return_, 1) := by decide +kernel
theorem dX0_tryWay_0 : decode cX0_tryWay 0 = .ok (.aload_n 0, 1) := by decide +kernel
theorem dX0_tryWay_1 : decode cX0_tryWay 1 = .ok (.iconst (-1), 1) := by decide +kernel
theorem dX0_tryWay_2 : decode cX0_tryWay 2 = .ok (.putfield 57, 3) := by decide +kernel
theorem dX0_tryWay_5 : decode cX0_tryWay 5 = .ok (.aload_n 0, 1) := by decide +kernel
theorem dX0_tryWay_6 : decode cX0_tryWay 6 = .ok (.iconst (-1), 1) := by decide +kernel
theorem dX0_tryWay_7 : decode cX0_tryWay 7 = .ok (.putfield 60, 3) := by decide +kernel
theorem dX0_tryWay_10 : decode cX0_tryWay 10 = .ok (.aload_n 0, 1) := by decide +kernel
theorem dX0_tryWay_11 : decode cX0_tryWay 11 = .ok (.iconst 1, 1) := by decide +kernel
theorem dX0_tryWay_12 : decode cX0_tryWay 12 = .ok (.iconst 0, 1) := by decide +kernel
theorem dX0_tryWay_13 : decode cX0_tryWay 13 = .ok (.iload_n 1, 1) := by decide +kernel
theorem dX0_tryWay_14 : decode cX0_tryWay 14 = .ok (.iload_n 2, 1) := by decide +kernel
theorem dX0_tryWay_15 : decode cX0_tryWay 15 = .ok (.invokevirtual 63, 3) := by decide +kernel
theorem dX0_tryWay_18 : decode cX0_tryWay 18 = .ok (.aload_n 0, 1) := by decide +kernel
theorem dX0_tryWay_19 : decode cX0_tryWay 19 = .ok (.getfield 57, 3) := by decide +kernel
theorem dX0_tryWay_22 : decode cX0_tryWay 22 = .ok (.iconst (-1), 1) := by decide +kernel
theorem dX0_tryWay_23 : decode cX0_tryWay 23 = .ok (.if_icmp .eq 38, 3) := by decide +kernel
theorem dX0_tryWay_26 : decode cX0_tryWay 26 = .ok (.aload_n 0, 1) := by decide +kernel
theorem dX0_tryWay_27 : decode cX0_tryWay 27 = .ok (.getfield 37, 3) := by decide +kernel
theorem dX0_tryWay_30 : decode cX0_tryWay 30 = .ok (.iconst (-1), 1) := by decide +kernel
theorem dX0_tryWay_31 : decode cX0_tryWay 31 = .ok (.if_icmp .eq 14, 3) := by decide +kernel
theorem dX0_tryWay_34 : decode cX0_tryWay 34 = .ok (.aload_n 0, 1) := by decide +kernel
theorem dX0_tryWay_35 : decode cX0_tryWay 35 = .ok (.getfield 57, 3) := by decide +kernel
theorem dX0_tryWay_38 : decode cX0_tryWay 38 = .ok (.aload_n 0, 1) := by decide +kernel
theorem dX0_tryWay_39 : decode cX0_tryWay 39 = .ok (.getfield 37, 3) := by decide +kernel
theorem dX0_tryWay_42 : decode cX0_tryWay 42 = .ok (.if_icmp .ge 19, 3) := by decide +kernel
theorem dX0_tryWay_45 : decode cX0_tryWay 45 = .ok (.aload_n 0, 1) := by decide +kernel
theorem dX0_tryWay_46 : decode cX0_tryWay 46 = .ok (.aload_n 0, 1) := by decide +kernel
theorem dX0_tryWay_47 : decode cX0_tryWay 47 = .ok (.getfield 57, 3) := by decide +kernel
theorem dX0_tryWay_50 : decode cX0_tryWay 50 = .ok (.putfield 37, 3) := by decide +kernel
theorem dX0_tryWay_53 : decode cX0_tryWay 53 = .ok (.aload_n 0, 1) := by decide +kernel
theorem dX0_tryWay_54 : decode cX0_tryWay 54 = .ok (.aload_n 0, 1) := by decide +kernel
theorem dX0_tryWay_55 : decode cX0_tryWay 55 = .ok (.getfield 60, 3) := by decide +kernel
theorem dX0_tryWay_58 : decode cX0_tryWay 58 = .ok (.putfield 40, 3) := by decide +kernel
theorem dX0_tryWay_61 : decode cX0_tryWay 61 = .ok (.return_, 1) := by decide +kernel
theorem dX0_tryLonger_0 : decode cX0_tryLonger 0 = .ok (.iconst 0, 1) := by decide +kernel
theorem dX0_tryLonger_1 : decode cX0_tryLonger 1 = .ok (.istore 5, 2) := by decide +kernel
theorem dX0_tryLonger_3 : decode cX0_tryLonger 3 = .ok (.iload 5, 2) := by decide +kernel
theorem dX0_tryLonger_5 : decode cX0_tryLonger 5 = .ok (.iconst 2, 1) := by decide +kernel
theorem dX0_tryLonger_6 : decode cX0_tryLonger 6 = .ok (.if_icmp .ge 81, 3) := by decide +kernel
theorem dX0_tryLonger_9 : decode cX0_tryLonger 9 = .ok (.iload_n 2, 1) := by decide +kernel
theorem dX0_tryLonger_10 : decode cX0_tryLonger 10 = .ok (.bipush 8, 2) := by decide +kernel
theorem dX0_tryLonger_12 : decode cX0_tryLonger 12 = .ok (.if_icmp .ge 75, 3) := by decide +kernel
theorem dX0_tryLonger_15 : decode cX0_tryLonger 15 = .ok (.iload_n 1, 1) := by decide +kernel
theorem dX0_tryLonger_16 : decode cX0_tryLonger 16 = .ok (.iconst 2, 1) := by decide +kernel
theorem dX0_tryLonger_17 : decode cX0_tryLonger 17 = .ok (.imul, 1) := by decide +kernel
theorem dX0_tryLonger_18 : decode cX0_tryLonger 18 = .ok (.iload 5, 2) := by decide +kernel
theorem dX0_tryLonger_20 : decode cX0_tryLonger 20 = .ok (.iadd, 1) := by decide +kernel
theorem dX0_tryLonger_21 : decode cX0_tryLonger 21 = .ok (.istore 6, 2) := by decide +kernel
theorem dX0_tryLonger_23 : decode cX0_tryLonger 23 = .ok (.iload 4, 2) := by decide +kernel
theorem dX0_tryLonger_25 : decode cX0_tryLonger 25 = .ok (.iload_n 3, 1) := by decide +kernel
theorem dX0_tryLonger_26 : decode cX0_tryLonger 26 = .ok (.iload 5, 2) := by decide +kernel
theorem dX0_tryLonger_28 : decode cX0_tryLonger 28 = .ok (.iconst 1, 1) := by decide +kernel
theorem dX0_tryLonger_29 : decode cX0_tryLonger 29 = .ok (.iadd, 1) := by decide +kernel
theorem dX0_tryLonger_30 : decode cX0_tryLonger 30 = .ok (.imul, 1) := by decide +kernel
theorem dX0_tryLonger_31 : decode cX0_tryLonger 31 = .ok (.iadd, 1) := by decide +kernel
theorem dX0_tryLonger_32 : decode cX0_tryLonger 32 = .ok (.istore 7, 2) := by decide +kernel
theorem dX0_tryLonger_34 : decode cX0_tryLonger 34 = .ok (.aload_n 0, 1) := by decide +kernel
theorem dX0_tryLonger_35 : decode cX0_tryLonger 35 = .ok (.iload 6, 2) := by decide +kernel
theorem dX0_tryLonger_37 : decode cX0_tryLonger 37 = .ok (.iload_n 2, 1) := by decide +kernel
theorem dX0_tryLonger_38 : decode cX0_tryLonger 38 = .ok (.iconst 1, 1) := by decide +kernel
theorem dX0_tryLonger_39 : decode cX0_tryLonger 39 = .ok (.iadd, 1) := by decide +kernel
theorem dX0_tryLonger_40 : decode cX0_tryLonger 40 = .ok (.invokevirtual 67, 3) := by decide +kernel
theorem dX0_tryLonger_43 : decode cX0_tryLonger 43 = .ok (.istore 8, 2) := by decide +kernel
theorem dX0_tryLonger_45 : decode cX0_tryLonger 45 = .ok (.iload 8, 2) := by decide +kernel
theorem dX0_tryLonger_47 : decode cX0_tryLonger 47 = .ok (.ifCond .ne 14, 3) := by decide +kernel
theorem dX0_tryLonger_50 : decode cX0_tryLonger 50 = .ok (.aload_n 0, 1) := by decide +kernel
theorem dX0_tryLonger_51 : decode cX0_tryLonger 51 = .ok (.iload 6, 2) := by decide +kernel
theorem dX0_tryLonger_53 : decode cX0_tryLonger 53 = .ok (.iload 7, 2) := by decide +kernel
theorem dX0_tryLonger_55 : decode cX0_tryLonger 55 = .ok (.invokevirtual 70, 3) := by decide +kernel
theorem dX0_tryLonger_58 : decode cX0_tryLonger 58 = .ok (.goto 23, 3) := by decide +kernel
theorem dX0_tryLonger_61 : decode cX0_tryLonger 61 = .ok (.iload 8, 2) := by decide +kernel
theorem dX0_tryLonger_63 : decode cX0_tryLonger 63 = .ok (.iload_n 2, 1) := by decide +kernel
theorem dX0_tryLonger_64 : decode cX0_tryLonger 64 = .ok (.iconst 1, 1) := by decide +kernel
theorem dX0_tryLonger_65 : decode cX0_tryLonger 65 = .ok (.iadd, 1) := by decide +kernel
theorem dX0_tryLonger_66 : decode cX0_tryLonger 66 = .ok (.if_icmp .le 15, 3) := by decide +kernel
theorem dX0_tryLonger_69 : decode cX0_tryLonger 69 = .ok (.aload_n 0, 1) := by decide +kernel
theorem dX0_tryLonger_70 : decode cX0_tryLonger 70 = .ok (.iload 6, 2) := by decide +kernel
theorem dX0_tryLonger_72 : decode cX0_tryLonger 72 = .ok (.iload_n 2, 1) := by decide +kernel
theorem dX0_tryLonger_73 : decode cX0_tryLonger 73 = .ok (.iconst 1, 1) := by decide +kernel
theorem dX0_tryLonger_74 : decode cX0_tryLonger 74 = .ok (.iadd, 1) := by decide +kernel
theorem dX0_tryLonger_75 : decode cX0_tryLonger 75 = .ok (.iload_n 3, 1) := by decide +kernel
theorem dX0_tryLonger_76 : decode cX0_tryLonger 76 = .ok (.iload 7, 2) := by decide +kernel
theorem dX0_tryLonger_78 : decode cX0_tryLonger 78 = .ok (.invokevirtual 63, 3) := by decide +kernel
theorem dX0_tryLonger_81 : decode cX0_tryLonger 81 = .ok (.iinc 5 1, 3) := by decide +kernel
theorem dX0_tryLonger_84 : decode cX0_tryLonger 84 = .ok (.goto (-81), 3) := by decide +kernel
theorem dX0_tryLonger_87 : decode cX0_tryLonger 87 = .ok (.return_, 1) := by decide +kernel
theorem dX0_keepIfLess_0 : decode cX0_keepIfLess 0 = .ok (.aload_n 0, 1) := by decide +kernel
theorem dX0_keepIfLess_1 : decode cX0_keepIfLess 1 = .ok (.getfield 57, 3) := by decide +kernel
theorem dX0_keepIfLess_4 : decode cX0_keepIfLess 4 = .ok (.iconst (-1), 1) := by decide +kernel
theorem dX0_keepIfLess_5 : decode cX0_keepIfLess 5 = .ok (.if_icmp .eq 27, 3) := by decide +kernel
theorem dX0_keepIfLess_8 : decode cX0_keepIfLess 8 = .ok (.iload_n 2, 1) := by decide +kernel
theorem dX0_keepIfLess_9 : decode cX0_keepIfLess 9 = .ok (.aload_n 0, 1) := by decide +kernel
theorem dX0_keepIfLess_10 : decode cX0_keepIfLess 10 = .ok (.getfield 57, 3) := by decide +kernel
theorem dX0_keepIfLess_13 : decode cX0_keepIfLess 13 = .ok (.if_icmp .lt 19, 3) := by decide +kernel
theorem dX0_keepIfLess_16 : decode cX0_keepIfLess 16 = .ok (.iload_n 2, 1) := by decide +kernel
theorem dX0_keepIfLess_17 : decode cX0_keepIfLess 17 = .ok (.aload_n 0, 1) := by decide +kernel
theorem dX0_keepIfLess_18 : decode cX0_keepIfLess 18 = .ok (.getfield 57, 3) := by decide +kernel
theorem dX0_keepIfLess_21 : decode cX0_keepIfLess 21 = .ok (.if_icmp .ne 21, 3) := by decide +kernel
theorem dX0_keepIfLess_24 : decode cX0_keepIfLess 24 = .ok (.iload_n 1, 1) := by decide +kernel
theorem dX0_keepIfLess_25 : decode cX0_keepIfLess 25 = .ok (.aload_n 0, 1) := by decide +kernel
theorem dX0_keepIfLess_26 : decode cX0_keepIfLess 26 = .ok (.getfield 60, 3) := by decide +kernel
theorem dX0_keepIfLess_29 : decode cX0_keepIfLess 29 = .ok (.if_icmp .ge 13, 3) := by decide +kernel
theorem dX0_keepIfLess_32 : decode cX0_keepIfLess 32 = .ok (.aload_n 0, 1) := by decide +kernel
theorem dX0_keepIfLess_33 : decode cX0_keepIfLess 33 = .ok (.iload_n 2, 1) := by decide +kernel
theorem dX0_keepIfLess_34 : decode cX0_keepIfLess 34 = .ok (.putfield 57, 3) := by decide +kernel
theorem dX0_keepIfLess_37 : decode cX0_keepIfLess 37 = .ok (.aload_n 0, 1) := by decide +kernel
theorem dX0_keepIfLess_38 : decode cX0_keepIfLess 38 = .ok (.iload_n 1, 1) := by decide +kernel
theorem dX0_keepIfLess_39 : decode cX0_keepIfLess 39 = .ok (.putfield 60, 3) := by decide +kernel
theorem dX0_keepIfLess_42 : decode cX0_keepIfLess 42 = .ok (.return_, 1) := by decide +kernel
theorem dX0_lengthBehind_0 : decode cX0_lengthBehind 0 = .ok (.iconst 0, 1) := by decide +kernel
theorem dX0_lengthBehind_1 : decode cX0_lengthBehind 1 = .ok (.istore_n 3, 1) := by decide +kernel
theorem dX0_lengthBehind_2 : decode cX0_lengthBehind 2 = .ok (.iload_n 3, 1) := by decide +kernel
theorem dX0_lengthBehind_3 : decode cX0_lengthBehind 3 = .ok (.bipush 10, 2) := by decide +kernel
theorem dX0_lengthBehind_5 : decode cX0_lengthBehind 5 = .ok (.if_icmp .ge 54, 3) := by decide +kernel
theorem dX0_lengthBehind_8 : decode cX0_lengthBehind 8 = .ok (.aload_n 0, 1) := by decide +kernel
theorem dX0_lengthBehind_9 : decode cX0_lengthBehind 9 = .ok (.getfield 21, 3) := by decide +kernel
theorem dX0_lengthBehind_12 : decode cX0_lengthBehind 12 = .ok (.iload_n 3, 1) := by decide +kernel
theorem dX0_lengthBehind_13 : decode cX0_lengthBehind 13 = .ok (.iaload, 1) := by decide +kernel
theorem dX0_lengthBehind_14 : decode cX0_lengthBehind 14 = .ok (.iload_n 2, 1) := by decide +kernel
theorem dX0_lengthBehind_15 : decode cX0_lengthBehind 15 = .ok (.isub, 1) := by decide +kernel
theorem dX0_lengthBehind_16 : decode cX0_lengthBehind 16 = .ok (.istore 4, 2) := by decide +kernel
theorem dX0_lengthBehind_18 : decode cX0_lengthBehind 18 = .ok (.aload_n 0, 1) := by decide +kernel
theorem dX0_lengthBehind_19 : decode cX0_lengthBehind 19 = .ok (.getfield 18, 3) := by decide +kernel
theorem dX0_lengthBehind_22 : decode cX0_lengthBehind 22 = .ok (.iload_n 3, 1) := by decide +kernel
theorem dX0_lengthBehind_23 : decode cX0_lengthBehind 23 = .ok (.iaload, 1) := by decide +kernel
theorem dX0_lengthBehind_24 : decode cX0_lengthBehind 24 = .ok (.iconst (-1), 1) := by decide +kernel
theorem dX0_lengthBehind_25 : decode cX0_lengthBehind 25 = .ok (.if_icmp .eq 28, 3) := by decide +kernel
theorem dX0_lengthBehind_28 : decode cX0_lengthBehind 28 = .ok (.iload 4, 2) := by decide +kernel
theorem dX0_lengthBehind_30 : decode cX0_lengthBehind 30 = .ok (.ifCond .lt 23, 3) := by decide +kernel
theorem dX0_lengthBehind_33 : decode cX0_lengthBehind 33 = .ok (.aload_n 0, 1) := by decide +kernel
theorem dX0_lengthBehind_34 : decode cX0_lengthBehind 34 = .ok (.getfield 18, 3) := by decide +kernel
theorem dX0_lengthBehind_37 : decode cX0_lengthBehind 37 = .ok (.iload_n 3, 1) := by decide +kernel
theorem dX0_lengthBehind_38 : decode cX0_lengthBehind 38 = .ok (.iaload, 1) := by decide +kernel
theorem dX0_lengthBehind_39 : decode cX0_lengthBehind 39 = .ok (.iload 4, 2) := by decide +kernel
theorem dX0_lengthBehind_41 : decode cX0_lengthBehind 41 = .ok (.ishr, 1) := by decide +kernel
theorem dX0_lengthBehind_42 : decode cX0_lengthBehind 42 = .ok (.iload_n 1, 1) := by decide +kernel
theorem dX0_lengthBehind_43 : decode cX0_lengthBehind 43 = .ok (.if_icmp .ne 10, 3) := by decide +kernel
theorem dX0_lengthBehind_46 : decode cX0_lengthBehind 46 = .ok (.aload_n 0, 1) := by decide +kernel
theorem dX0_lengthBehind_47 : decode cX0_lengthBehind 47 = .ok (.getfield 21, 3) := by decide +kernel
theorem dX0_lengthBehind_50 : decode cX0_lengthBehind 50 = .ok (.iload_n 3, 1) := by decide +kernel
theorem dX0_lengthBehind_51 : decode cX0_lengthBehind 51 = .ok (.iaload, 1) := by decide +kernel
theorem dX0_lengthBehind_52 : decode cX0_lengthBehind 52 = .ok (.ireturn, 1) := by decide +kernel
theorem dX0_lengthBehind_53 : decode cX0_lengthBehind 53 = .ok (.iinc 3 1, 3) := by decide +kernel
theorem dX0_lengthBehind_56 : decode cX0_lengthBehind 56 = .ok (.goto (-54), 3) := by decide +kernel
theorem dX0_lengthBehind_59 : decode cX0_lengthBehind 59 = .ok (.iconst 0, 1) := by decide +kernel
theorem dX0_lengthBehind_60 : decode cX0_lengthBehind 60 = .ok (.ireturn, 1) := by decide +kernel
theorem dX1_init_0 : decode cX1_init 0 = .ok (.aload_n 0, 1) := by decide +kernel
theorem dX1_init_1 : decode cX1_init 1 = .ok (.invokespecial 3, 3) := by decide +kernel
theorem dX1_init_4 : decode cX1_init 4 = .ok (.aload_n 0, 1) := by decide +kernel
theorem dX1_init_5 : decode cX1_init 5 = .ok (.iconst (-1), 1) := by decide +kernel
theorem dX1_init_6 : decode cX1_init 6 = .ok (.putfield 9, 3) := by decide +kernel
theorem dX1_init_9 : decode cX1_init 9 = .ok (.aload_n 0, 1) := by decide +kernel
theorem dX1_init_10 : decode cX1_init 10 = .ok (.bipush 12, 2) := by decide +kernel
theorem dX1_init_12 : decode cX1_init 12 = .ok (.newarray .int, 2) := by decide +kernel
theorem dX1_init_14 : decode cX1_init 14 = .ok (.putfield 15, 3) := by decide +kernel
theorem dX1_init_17 : decode cX1_init 17 = .ok (.aload_n 0, 1) := by decide +kernel
theorem dX1_init_18 : decode cX1_init 18 = .ok (.bipush 12, 2) := by decide +kernel
theorem dX1_init_20 : decode cX1_init 20 = .ok (.newarray .int, 2) := by decide +kernel
theorem dX1_init_22 : decode cX1_init 22 = .ok (.putfield 19, 3) := by decide +kernel
theorem dX1_init_25 : decode cX1_init 25 = .ok (.aload_n 0, 1) := by decide +kernel
theorem dX1_init_26 : decode cX1_init 26 = .ok (.sipush 400, 3) := by decide +kernel
theorem dX1_init_29 : decode cX1_init 29 = .ok (.newarray .short, 2) := by decide +kernel
theorem dX1_init_31 : decode cX1_init 31 = .ok (.putfield 22, 3) := by decide +kernel
theorem dX1_init_34 : decode cX1_init 34 = .ok (.aload_n 0, 1) := by decide +kernel
theorem dX1_init_35 : decode cX1_init 35 = .ok (.iconst 5, 1) := by decide +kernel
theorem dX1_init_36 : decode cX1_init 36 = .ok (.newarray .int, 2) := by decide +kernel
theorem dX1_init_38 : decode cX1_init 38 = .ok (.putfield 26, 3) := by decide +kernel
theorem dX1_init_41 : decode cX1_init 41 = .ok (.aload_n 0, 1) := by decide +kernel
theorem dX1_init_42 : decode cX1_init 42 = .ok (.bipush 40, 2) := by decide +kernel
theorem dX1_init_44 : decode cX1_init 44 = .ok (.newarray .int, 2) := by decide +kernel
theorem dX1_init_46 : decode cX1_init 46 = .ok (.putfield 29, 3) := by decide +kernel
theorem dX1_init_49 : decode cX1_init 49 = .ok (.return_, 1) := by decide +kernel
theorem dX1_copyFrom_0 : decode cX1_copyFrom 0 = .ok (.aload_n 0, 1) := by decide +kernel
theorem dX1_copyFrom_1 : decode cX1_copyFrom 1 = .ok (.aload_n 1, 1) := by decide +kernel
theorem dX1_copyFrom_2 : decode cX1_copyFrom 2 = .ok (.getfield 9, 3) := by decide +kernel
theorem dX1_copyFrom_5 : decode cX1_copyFrom 5 = .ok (.putfield 9, 3) := by decide +kernel
theorem dX1_copyFrom_8 : decode cX1_copyFrom 8 = .ok (.aload_n 0, 1) := by decide +kernel
theorem dX1_copyFrom_9 : decode cX1_copyFrom 9 = .ok (.aload_n 1, 1) := by decide +kernel
theorem dX1_copyFrom_10 : decode cX1_copyFrom 10 = .ok (.getfield 32, 3) := by decide +kernel
theorem dX1_copyFrom_13 : decode cX1_copyFrom 13 = .ok (.putfield 32, 3) := by decide +kernel
theorem dX1_copyFrom_16 : decode cX1_copyFrom 16 = .ok (.aload_n 1, 1) := by decide +kernel
theorem dX1_copyFrom_17 : decode cX1_copyFrom 17 = .ok (.getfield 15, 3) := by decide +kernel
theorem dX1_copyFrom_20 : decode cX1_copyFrom 20 = .ok (.iconst 0, 1) := by decide +kernel
theorem dX1_copyFrom_21 : decode cX1_copyFrom 21 = .ok (.aload_n 0, 1) := by decide +kernel
theorem dX1_copyFrom_22 : decode cX1_copyFrom 22 = .ok (.getfield 15, 3) := by decide +kernel
theorem dX1_copyFrom_25 : decode cX1_copyFrom 25 = .ok (.iconst 0, 1) := by decide +kernel
theorem dX1_copyFrom_26 : decode cX1_copyFrom 26 = .ok (.bipush 12, 2) := by decide +kernel
theorem dX1_copyFrom_28 : decode cX1_copyFrom 28 = .ok (.invokestatic 35, 3) := by decide +kernel
theorem dX1_copyFrom_31 : decode cX1_copyFrom 31 = .ok (.aload_n 1, 1) := by decide +kernel
theorem dX1_copyFrom_32 : decode cX1_copyFrom 32 = .ok (.getfield 19, 3) := by decide +kernel
theorem dX1_copyFrom_35 : decode cX1_copyFrom 35 = .ok (.iconst 0, 1) := by decide +kernel
theorem dX1_copyFrom_36 : decode cX1_copyFrom 36 = .ok (.aload_n 0, 1) := by decide +kernel
theorem dX1_copyFrom_37 : decode cX1_copyFrom 37 = .ok (.getfield 19, 3) := by decide +kernel
theorem dX1_copyFrom_40 : decode cX1_copyFrom 40 = .ok (.iconst 0, 1) := by decide +kernel
theorem dX1_copyFrom_41 : decode cX1_copyFrom 41 = .ok (.bipush 12, 2) := by decide +kernel
theorem dX1_copyFrom_43 : decode cX1_copyFrom 43 = .ok (.invokestatic 35, 3) := by decide +kernel
theorem dX1_copyFrom_46 : decode cX1_copyFrom 46 = .ok (.aload_n 1, 1) := by decide +kernel
theorem dX1_copyFrom_47 : decode cX1_copyFrom 47 = .ok (.getfield 22, 3) := by decide +kernel
theorem dX1_copyFrom_50 : decode cX1_copyFrom 50 = .ok (.iconst 0, 1) := by decide +kernel
theorem dX1_copyFrom_51 : decode cX1_copyFrom 51 = .ok (.aload_n 0, 1) := by decide +kernel
theorem dX1_copyFrom_52 : decode cX1_copyFrom 52 = .ok (.getfield 22, 3) := by decide +kernel
theorem dX1_copyFrom_55 : decode cX1_copyFrom 55 = .ok (.iconst 0, 1) := by decide +kernel
theorem dX1_copyFrom_56 : decode cX1_copyFrom 56 = .ok (.sipush 400, 3) := by decide +kernel
theorem dX1_copyFrom_59 : decode cX1_copyFrom 59 = .ok (.invokestatic 35, 3) := by decide +kernel
theorem dX1_copyFrom_62 : decode cX1_copyFrom 62 = .ok (.return_, 1) := by decide +kernel
theorem dX1_clear_0 : decode cX1_clear 0 = .ok (.aload_n 0, 1) := by decide +kernel
theorem dX1_clear_1 : decode cX1_clear 1 = .ok (.iconst 0, 1) := by decide +kernel
theorem dX1_clear_2 : decode cX1_clear 2 = .ok (.putfield 9, 3) := by decide +kernel
theorem dX1_clear_5 : decode cX1_clear 5 = .ok (.aload_n 0, 1) := by decide +kernel
theorem dX1_clear_6 : decode cX1_clear 6 = .ok (.iconst 0, 1) := by decide +kernel
theorem dX1_clear_7 : decode cX1_clear 7 = .ok (.putfield 32, 3) := by decide +kernel
theorem dX1_clear_10 : decode cX1_clear 10 = .ok (.return_, 1) := by decide +kernel
theorem dX1_addStep_0 : decode cX1_addStep 0 = .ok (.aload_n 0, 1) := by decide +kernel
theorem dX1_addStep_1 : decode cX1_addStep 1 = .ok (.getfield 32, 3) := by decide +kernel
theorem dX1_addStep_4 : decode cX1_addStep 4 = .ok (.sipush 400, 3) := by decide +kernel
theorem dX1_addStep_7 : decode cX1_addStep 7 = .ok (.if_icmp .ge 24, 3) := by decide +kernel
theorem dX1_addStep_10 : decode cX1_addStep 10 = .ok (.aload_n 0, 1) := by decide +kernel
theorem dX1_addStep_11 : decode cX1_addStep 11 = .ok (.getfield 22, 3) := by decide +kernel
theorem dX1_addStep_14 : decode cX1_addStep 14 = .ok (.aload_n 0, 1) := by decide +kernel
theorem dX1_addStep_15 : decode cX1_addStep 15 = .ok (.getfield 32, 3) := by decide +kernel
theorem dX1_addStep_18 : decode cX1_addStep 18 = .ok (.iload_n 1, 1) := by decide +kernel
theorem dX1_addStep_19 : decode cX1_addStep 19 = .ok (.i2s, 1) := by decide +kernel
theorem dX1_addStep_20 : decode cX1_addStep 20 = .ok (.sastore, 1) := by decide +kernel
theorem dX1_addStep_21 : decode cX1_addStep 21 = .ok (.aload_n 0, 1) := by decide +kernel
theorem dX1_addStep_22 : decode cX1_addStep 22 = .ok (.dup, 1) := by decide +kernel
theorem dX1_addStep_23 : decode cX1_addStep 23 = .ok (.getfield 32, 3) := by decide +kernel
theorem dX1_addStep_26 : decode cX1_addStep 26 = .ok (.iconst 1, 1) := by decide +kernel
theorem dX1_addStep_27 : decode cX1_addStep 27 = .ok (.iadd, 1) := by decide +kernel
theorem dX1_addStep_28 : decode cX1_addStep 28 = .ok (.putfield 32, 3) := by decide +kernel
theorem dX1_addStep_31 : decode cX1_addStep 31 = .ok (.return_, 1) := by decide +kernel
theorem dX1_endLine_0 : decode cX1_endLine 0 = .ok (.aload_n 0, 1) := by decide +kernel
theorem dX1_endLine_1 : decode cX1_endLine 1 = .ok (.getfield 9, 3) := by decide +kernel
theorem dX1_endLine_4 : decode cX1_endLine 4 = .ok (.bipush 12, 2) := by decide +kernel
theorem dX1_endLine_6 : decode cX1_endLine 6 = .ok (.if_icmp .ge 36, 3) := by decide +kernel
theorem dX1_endLine_9 : decode cX1_endLine 9 = .ok (.aload_n 0, 1) := by decide +kernel
theorem dX1_endLine_10 : decode cX1_endLine 10 = .ok (.getfield 15, 3) := by decide +kernel
theorem dX1_endLine_13 : decode cX1_endLine 13 = .ok (.aload_n 0, 1) := by decide +kernel
theorem dX1_endLine_14 : decode cX1_endLine 14 = .ok (.getfield 9, 3) := by decide +kernel
theorem dX1_endLine_17 : decode cX1_endLine 17 = .ok (.iload_n 1, 1) := by decide +kernel
theorem dX1_endLine_18 : decode cX1_endLine 18 = .ok (.iastore, 1) := by decide +kernel
theorem dX1_endLine_19 : decode cX1_endLine 19 = .ok (.aload_n 0, 1) := by decide +kernel
theorem dX1_endLine_20 : decode cX1_endLine 20 = .ok (.getfield 19, 3) := by decide +kernel
theorem dX1_endLine_23 : decode cX1_endLine 23 = .ok (.aload_n 0, 1) := by decide +kernel
theorem dX1_endLine_24 : decode cX1_endLine 24 = .ok (.getfield 9, 3) := by decide +kernel
theorem dX1_endLine_27 : decode cX1_endLine 27 = .ok (.aload_n 0, 1) := by decide +kernel
theorem dX1_endLine_28 : decode cX1_endLine 28 = .ok (.getfield 32, 3) := by decide +kernel
theorem dX1_endLine_31 : decode cX1_endLine 31 = .ok (.iastore, 1) := by decide +kernel
theorem dX1_endLine_32 : decode cX1_endLine 32 = .ok (.aload_n 0, 1) := by decide +kernel
theorem dX1_endLine_33 : decode cX1_endLine 33 = .ok (.dup, 1) := by decide +kernel
theorem dX1_endLine_34 : decode cX1_endLine 34 = .ok (.getfield 9, 3) := by decide +kernel
theorem dX1_endLine_37 : decode cX1_endLine 37 = .ok (.iconst 1, 1) := by decide +kernel
theorem dX1_endLine_38 : decode cX1_endLine 38 = .ok (.iadd, 1) := by decide +kernel
theorem dX1_endLine_39 : decode cX1_endLine 39 = .ok (.putfield 9, 3) := by decide +kernel
theorem dX1_endLine_42 : decode cX1_endLine 42 = .ok (.return_, 1) := by decide +kernel
theorem dX1_turnOf_0 : decode cX1_turnOf 0 = .ok (.aload_n 0, 1) := by decide +kernel
theorem dX1_turnOf_1 : decode cX1_turnOf 1 = .ok (.getfield 26, 3) := by decide +kernel
theorem dX1_turnOf_4 : decode cX1_turnOf 4 = .ok (.iconst 0, 1) := by decide +kernel
theorem dX1_turnOf_5 : decode cX1_turnOf 5 = .ok (.iload_n 2, 1) := by decide +kernel
theorem dX1_turnOf_6 : decode cX1_turnOf 6 = .ok (.iastore, 1) := by decide +kernel
theorem dX1_turnOf_7 : decode cX1_turnOf 7 = .ok (.aload_n 0, 1) := by decide +kernel
theorem dX1_turnOf_8 : decode cX1_turnOf 8 = .ok (.getfield 26, 3) := by decide +kernel
theorem dX1_turnOf_11 : decode cX1_turnOf 11 = .ok (.iconst 1, 1) := by decide +kernel
theorem dX1_turnOf_12 : decode cX1_turnOf 12 = .ok (.aload_n 1, 1) := by decide +kernel
theorem dX1_turnOf_13 : decode cX1_turnOf 13 = .ok (.iload_n 2, 1) := by decide +kernel
theorem dX1_turnOf_14 : decode cX1_turnOf 14 = .ok (.invokevirtual 41, 3) := by decide +kernel
theorem dX1_turnOf_17 : decode cX1_turnOf 17 = .ok (.ifCond .eq 12, 3) := by decide +kernel
theorem dX1_turnOf_20 : decode cX1_turnOf 20 = .ok (.aload_n 1, 1) := by decide +kernel
theorem dX1_turnOf_21 : decode cX1_turnOf 21 = .ok (.getfield 47, 3) := by decide +kernel
theorem dX1_turnOf_24 : decode cX1_turnOf 24 = .ok (.iload_n 2, 1) := by decide +kernel
theorem dX1_turnOf_25 : decode cX1_turnOf 25 = .ok (.iaload, 1) := by decide +kernel
theorem dX1_turnOf_26 : decode cX1_turnOf 26 = .ok (.goto 4, 3) := by decide +kernel
theorem dX1_turnOf_29 : decode cX1_turnOf 29 = .ok (.iconst 0, 1) := by decide +kernel
theorem dX1_turnOf_30 : decode cX1_turnOf 30 = .ok (.iastore, 1) := by decide +kernel
theorem dX1_turnOf_31 : decode cX1_turnOf 31 = .ok (.aload_n 0, 1) := by decide +kernel
theorem dX1_turnOf_32 : decode cX1_turnOf 32 = .ok (.getfield 26, 3) := by decide +kernel
theorem dX1_turnOf_35 : decode cX1_turnOf 35 = .ok (.iconst 2, 1) := by decide +kernel
theorem dX1_turnOf_36 : decode cX1_turnOf 36 = .ok (.aload_n 1, 1) := by decide +kernel
theorem dX1_turnOf_37 : decode cX1_turnOf 37 = .ok (.iload_n 3, 1) := by decide +kernel
theorem dX1_turnOf_38 : decode cX1_turnOf 38 = .ok (.invokevirtual 50, 3) := by decide +kernel
theorem dX1_turnOf_41 : decode cX1_turnOf 41 = .ok (.iastore, 1) := by decide +kernel
theorem dX1_turnOf_42 : decode cX1_turnOf 42 = .ok (.aload_n 0, 1) := by decide +kernel
theorem dX1_turnOf_43 : decode cX1_turnOf 43 = .ok (.getfield 26, 3) := by decide +kernel
theorem dX1_turnOf_46 : decode cX1_turnOf 46 = .ok (.iconst 3, 1) := by decide +kernel
theorem dX1_turnOf_47 : decode cX1_turnOf 47 = .ok (.aload_n 1, 1) := by decide +kernel
theorem dX1_turnOf_48 : decode cX1_turnOf 48 = .ok (.iload_n 2, 1) := by decide +kernel
theorem dX1_turnOf_49 : decode cX1_turnOf 49 = .ok (.iload_n 3, 1) := by decide +kernel
theorem dX1_turnOf_50 : decode cX1_turnOf 50 = .ok (.invokevirtual 54, 3) := by decide +kernel
theorem dX1_turnOf_53 : decode cX1_turnOf 53 = .ok (.invokestatic 58, 3) := by decide +kernel
theorem dX1_turnOf_56 : decode cX1_turnOf 56 = .ok (.iastore, 1) := by decide +kernel
theorem dX1_turnOf_57 : decode cX1_turnOf 57 = .ok (.aload_n 0, 1) := by decide +kernel
theorem dX1_turnOf_58 : decode cX1_turnOf 58 = .ok (.getfield 26, 3) := by decide +kernel
theorem dX1_turnOf_61 : decode cX1_turnOf 61 = .ok (.iconst 4, 1) := by decide +kernel
theorem dX1_turnOf_62 : decode cX1_turnOf 62 = .ok (.iload 4, 2) := by decide +kernel
theorem dX1_turnOf_64 : decode cX1_turnOf 64 = .ok (.iastore, 1) := by decide +kernel
theorem dX1_turnOf_65 : decode cX1_turnOf 65 = .ok (.iconst 0, 1) := by decide +kernel
theorem dX1_turnOf_66 : decode cX1_turnOf 66 = .ok (.istore 5, 2) := by decide +kernel
theorem dX1_turnOf_68 : decode cX1_turnOf 68 = .ok (.iconst 0, 1) := by decide +kernel
theorem dX1_turnOf_69 : decode cX1_turnOf 69 = .ok (.istore 6, 2) := by decide +kernel
theorem dX1_turnOf_71 : decode cX1_turnOf 71 = .ok (.iconst 0, 1) := by decide +kernel
theorem dX1_turnOf_72 : decode cX1_turnOf 72 = .ok (.istore 7, 2) := by decide +kernel
theorem dX1_turnOf_74 : decode cX1_turnOf 74 = .ok (.iload 7, 2) := by decide +kernel
theorem dX1_turnOf_76 : decode cX1_turnOf 76 = .ok (.aload_n 0, 1) := by decide +kernel
theorem dX1_turnOf_77 : decode cX1_turnOf 77 = .ok (.getfield 9, 3) := by decide +kernel
theorem dX1_turnOf_80 : decode cX1_turnOf 80 = .ok (.if_icmp .ge 53, 3) := by decide +kernel
theorem dX1_turnOf_83 : decode cX1_turnOf 83 = .ok (.iload 7, 2) := by decide +kernel
theorem dX1_turnOf_85 : decode cX1_turnOf 85 = .ok (.bipush 12, 2) := by decide +kernel
theorem dX1_turnOf_87 : decode cX1_turnOf 87 = .ok (.if_icmp .ge 46, 3) := by decide +kernel
theorem dX1_turnOf_90 : decode cX1_turnOf 90 = .ok (.aload_n 0, 1) := by decide +kernel
theorem dX1_turnOf_91 : decode cX1_turnOf 91 = .ok (.iload 6, 2) := by decide +kernel
theorem dX1_turnOf_93 : decode cX1_turnOf 93 = .ok (.aload_n 0, 1) := by decide +kernel
theorem dX1_turnOf_94 : decode cX1_turnOf 94 = .ok (.getfield 19, 3) := by decide +kernel
theorem dX1_turnOf_97 : decode cX1_turnOf 97 = .ok (.iload 7, 2) := by decide +kernel
theorem dX1_turnOf_99 : decode cX1_turnOf 99 = .ok (.iaload, 1) := by decide +kernel
theorem dX1_turnOf_100 : decode cX1_turnOf 100 = .ok (.invokevirtual 61, 3) := by decide +kernel
theorem dX1_turnOf_103 : decode cX1_turnOf 103 = .ok (.ifCond .eq 15, 3) := by decide +kernel
theorem dX1_turnOf_106 : decode cX1_turnOf 106 = .ok (.iload 5, 2) := by decide +kernel
theorem dX1_turnOf_108 : decode cX1_turnOf 108 = .ok (.aload_n 0, 1) := by decide +kernel
theorem dX1_turnOf_109 : decode cX1_turnOf 109 = .ok (.getfield 15, 3) := by decide +kernel
theorem dX1_turnOf_112 : decode cX1_turnOf 112 = .ok (.iload 7, 2) := by decide +kernel
theorem dX1_turnOf_114 : decode cX1_turnOf 114 = .ok (.iaload, 1) := by decide +kernel
theorem dX1_turnOf_115 : decode cX1_turnOf 115 = .ok (.iadd, 1) := by decide +kernel
theorem dX1_turnOf_116 : decode cX1_turnOf 116 = .ok (.istore 5, 2) := by decide +kernel
theorem dX1_turnOf_118 : decode cX1_turnOf 118 = .ok (.aload_n 0, 1) := by decide +kernel
theorem dX1_turnOf_119 : decode cX1_turnOf 119 = .ok (.getfield 19, 3) := by decide +kernel
theorem dX1_turnOf_122 : decode cX1_turnOf 122 = .ok (.iload 7, 2) := by decide +kernel
theorem dX1_turnOf_124 : decode cX1_turnOf 124 = .ok (.iaload, 1) := by decide +kernel
theorem dX1_turnOf_125 : decode cX1_turnOf 125 = .ok (.istore 6, 2) := by decide +kernel
theorem dX1_turnOf_127 : decode cX1_turnOf 127 = .ok (.iinc 7 1, 3) := by decide +kernel
theorem dX1_turnOf_130 : decode cX1_turnOf 130 = .ok (.goto (-56), 3) := by decide +kernel
theorem dX1_turnOf_133 : decode cX1_turnOf 133 = .ok (.iload 5, 2) := by decide +kernel
theorem dX1_turnOf_135 : decode cX1_turnOf 135 = .ok (.ireturn, 1) := by decide +kernel
theorem dX1_isHolding_0 : decode cX1_isHolding 0 = .ok (.iload_n 1, 1) := by decide +kernel
theorem dX1_isHolding_1 : decode cX1_isHolding 1 = .ok (.iload_n 2, 1) := by decide +kernel
theorem dX1_isHolding_2 : decode cX1_isHolding 2 = .ok (.if_icmp .ne 5, 3) := by decide +kernel
theorem dX1_isHolding_5 : decode cX1_isHolding 5 = .ok (.iconst 1, 1) := by decide +kernel
theorem dX1_isHolding_6 : decode cX1_isHolding 6 = .ok (.ireturn, 1) := by decide +kernel
theorem dX1_isHolding_7 : decode cX1_isHolding 7 = .ok (.aload_n 0, 1) := by decide +kernel
theorem dX1_isHolding_8 : decode cX1_isHolding 8 = .ok (.iconst 0, 1) := by decide +kernel
theorem dX1_isHolding_9 : decode cX1_isHolding 9 = .ok (.putfield 65, 3) := by decide +kernel
theorem dX1_isHolding_12 : decode cX1_isHolding 12 = .ok (.iload_n 1, 1) := by decide +kernel
theorem dX1_isHolding_13 : decode cX1_isHolding 13 = .ok (.istore_n 3, 1) := by decide +kernel
theorem dX1_isHolding_14 : decode cX1_isHolding 14 = .ok (.iload_n 3, 1) := by decide +kernel
theorem dX1_isHolding_15 : decode cX1_isHolding 15 = .ok (.iload_n 2, 1) := by decide +kernel
theorem dX1_isHolding_16 : decode cX1_isHolding 16 = .ok (.if_icmp .ge 67, 3) := by decide +kernel
theorem dX1_isHolding_19 : decode cX1_isHolding 19 = .ok (.iload_n 3, 1) := by decide +kernel
theorem dX1_isHolding_20 : decode cX1_isHolding 20 = .ok (.sipush 400, 3) := by decide +kernel
theorem dX1_isHolding_23 : decode cX1_isHolding 23 = .ok (.if_icmp .ge 60, 3) := by decide +kernel
theorem dX1_isHolding_26 : decode cX1_isHolding 26 = .ok (.aload_n 0, 1) := by decide +kernel
theorem dX1_isHolding_27 : decode cX1_isHolding 27 = .ok (.getfield 22, 3) := by decide +kernel
theorem dX1_isHolding_30 : decode cX1_isHolding 30 = .ok (.iload_n 3, 1) := by decide +kernel
theorem dX1_isHolding_31 : decode cX1_isHolding 31 = .ok (.saload, 1) := by decide +kernel
theorem dX1_isHolding_32 : decode cX1_isHolding 32 = .ok (.istore 4, 2) := by decide +kernel
theorem dX1_isHolding_34 : decode cX1_isHolding 34 = .ok (.iload 4, 2) := by decide +kernel
theorem dX1_isHolding_36 : decode cX1_isHolding 36 = .ok (.ifCond .lt 12, 3) := by decide +kernel
theorem dX1_isHolding_39 : decode cX1_isHolding 39 = .ok (.aload_n 0, 1) := by decide +kernel
theorem dX1_isHolding_40 : decode cX1_isHolding 40 = .ok (.iload 4, 2) := by decide +kernel
theorem dX1_isHolding_42 : decode cX1_isHolding 42 = .ok (.invokevirtual 68, 3) := by decide +kernel
theorem dX1_isHolding_45 : decode cX1_isHolding 45 = .ok (.goto 32, 3) := by decide +kernel
theorem dX1_isHolding_48 : decode cX1_isHolding 48 = .ok (.iload 4, 2) := by decide +kernel
theorem dX1_isHolding_50 : decode cX1_isHolding 50 = .ok (.bipush (-5), 2) := by decide +kernel
theorem dX1_isHolding_52 : decode cX1_isHolding 52 = .ok (.if_icmp .lt 19, 3) := by decide +kernel
theorem dX1_isHolding_55 : decode cX1_isHolding 55 = .ok (.aload_n 0, 1) := by decide +kernel
theorem dX1_isHolding_56 : decode cX1_isHolding 56 = .ok (.aload_n 0, 1) := by decide +kernel
theorem dX1_isHolding_57 : decode cX1_isHolding 57 = .ok (.getfield 26, 3) := by decide +kernel
theorem dX1_isHolding_60 : decode cX1_isHolding 60 = .ok (.iconst (-1), 1) := by decide +kernel
theorem dX1_isHolding_61 : decode cX1_isHolding 61 = .ok (.iload 4, 2) := by decide +kernel
theorem dX1_isHolding_63 : decode cX1_isHolding 63 = .ok (.isub, 1) := by decide +kernel
theorem dX1_isHolding_64 : decode cX1_isHolding 64 = .ok (.iaload, 1) := by decide +kernel
theorem dX1_isHolding_65 : decode cX1_isHolding 65 = .ok (.invokevirtual 68, 3) := by decide +kernel
theorem dX1_isHolding_68 : decode cX1_isHolding 68 = .ok (.goto 9, 3) := by decide +kernel
theorem dX1_isHolding_71 : decode cX1_isHolding 71 = .ok (.aload_n 0, 1) := by decide +kernel
theorem dX1_isHolding_72 : decode cX1_isHolding 72 = .ok (.iload 4, 2) := by decide +kernel
theorem dX1_isHolding_74 : decode cX1_isHolding 74 = .ok (.invokevirtual 72, 3) := by decide +kernel
theorem dX1_isHolding_77 : decode cX1_isHolding 77 = .ok (.iinc 3 1, 3) := by decide +kernel
theorem dX1_isHolding_80 : decode cX1_isHolding 80 = .ok (.goto (-66), 3) := by decide +kernel
theorem dX1_isHolding_83 : decode cX1_isHolding 83 = .ok (.aload_n 0, 1) := by decide +kernel
theorem dX1_isHolding_84 : decode cX1_isHolding 84 = .ok (.invokevirtual 75, 3) := by decide +kernel
theorem dX1_isHolding_87 : decode cX1_isHolding 87 = .ok (.ifCond .eq 7, 3) := by decide +kernel
theorem dX1_isHolding_90 : decode cX1_isHolding 90 = .ok (.iconst 1, 1) := by decide +kernel
theorem dX1_isHolding_91 : decode cX1_isHolding 91 = .ok (.goto 4, 3) := by decide +kernel
theorem dX1_isHolding_94 : decode cX1_isHolding 94 = .ok (.iconst 0, 1) := by decide +kernel
theorem dX1_isHolding_95 : decode cX1_isHolding 95 = .ok (.ireturn, 1) := by decide +kernel
theorem dX1_join_0 : decode cX1_join 0 = .ok (.aload_n 0, 1) := by decide +kernel
theorem dX1_join_1 : decode cX1_join 1 = .ok (.invokevirtual 75, 3) := by decide +kernel
theorem dX1_join_4 : decode cX1_join 4 = .ok (.istore_n 2, 1) := by decide +kernel
theorem dX1_join_5 : decode cX1_join 5 = .ok (.iload_n 1, 1) := by decide +kernel
theorem dX1_join_6 : decode cX1_join 6 = .ok (.bipush (-9), 2) := by decide +kernel
theorem dX1_join_8 : decode cX1_join 8 = .ok (.if_icmp .ne 17, 3) := by decide +kernel
theorem dX1_join_11 : decode cX1_join 11 = .ok (.aload_n 0, 1) := by decide +kernel
theorem dX1_join_12 : decode cX1_join 12 = .ok (.iload_n 2, 1) := by decide +kernel
theorem dX1_join_13 : decode cX1_join 13 = .ok (.ifCond .ne 7, 3) := by decide +kernel
theorem dX1_join_16 : decode cX1_join 16 = .ok (.iconst 1, 1) := by decide +kernel
theorem dX1_join_17 : decode cX1_join 17 = .ok (.goto 4, 3) := by decide +kernel
theorem dX1_join_20 : decode cX1_join 20 = .ok (.iconst 0, 1) := by decide +kernel
theorem dX1_join_21 : decode cX1_join 21 = .ok (.invokevirtual 68, 3) := by decide +kernel
theorem dX1_join_24 : decode cX1_join 24 = .ok (.return_, 1) := by decide +kernel
theorem dX1_join_25 : decode cX1_join 25 = .ok (.aload_n 0, 1) := by decide +kernel
theorem dX1_join_26 : decode cX1_join 26 = .ok (.invokevirtual 75, 3) := by decide +kernel
theorem dX1_join_29 : decode cX1_join 29 = .ok (.istore_n 3, 1) := by decide +kernel
theorem dX1_join_30 : decode cX1_join 30 = .ok (.iload_n 1, 1) := by decide +kernel
theorem dX1_join_31 : decode cX1_join 31 = .ok (.tableswitch 87 (-10) (-6) #[77, 87, 60, 43, 33], 33) := by decide +kernel
theorem dX1_join_64 : decode cX1_join 64 = .ok (.aload_n 0, 1) := by decide +kernel
theorem dX1_join_65 : decode cX1_join 65 = .ok (.iload_n 3, 1) := by decide +kernel
theorem dX1_join_66 : decode cX1_join 66 = .ok (.iload_n 2, 1) := by decide +kernel
theorem dX1_join_67 : decode cX1_join 67 = .ok (.iadd, 1) := by decide +kernel
theorem dX1_join_68 : decode cX1_join 68 = .ok (.invokevirtual 68, 3) := by decide +kernel
theorem dX1_join_71 : decode cX1_join 71 = .ok (.goto 54, 3) := by decide +kernel
theorem dX1_join_74 : decode cX1_join 74 = .ok (.aload_n 0, 1) := by decide +kernel
theorem dX1_join_75 : decode cX1_join 75 = .ok (.iload_n 3, 1) := by decide +kernel
theorem dX1_join_76 : decode cX1_join 76 = .ok (.iload_n 2, 1) := by decide +kernel
theorem dX1_join_77 : decode cX1_join 77 = .ok (.if_icmp .ge 7, 3) := by decide +kernel
theorem dX1_join_80 : decode cX1_join 80 = .ok (.iconst 1, 1) := by decide +kernel
theorem dX1_join_81 : decode cX1_join 81 = .ok (.goto 4, 3) := by decide +kernel
theorem dX1_join_84 : decode cX1_join 84 = .ok (.iconst 0, 1) := by decide +kernel
theorem dX1_join_85 : decode cX1_join 85 = .ok (.invokevirtual 68, 3) := by decide +kernel
theorem dX1_join_88 : decode cX1_join 88 = .ok (.goto 37, 3) := by decide +kernel
theorem dX1_join_91 : decode cX1_join 91 = .ok (.aload_n 0, 1) := by decide +kernel
theorem dX1_join_92 : decode cX1_join 92 = .ok (.iload_n 3, 1) := by decide +kernel
theorem dX1_join_93 : decode cX1_join 93 = .ok (.iload_n 2, 1) := by decide +kernel
theorem dX1_join_94 : decode cX1_join 94 = .ok (.if_icmp .le 7, 3) := by decide +kernel
theorem dX1_join_97 : decode cX1_join 97 = .ok (.iconst 1, 1) := by decide +kernel
theorem dX1_join_98 : decode cX1_join 98 = .ok (.goto 4, 3) := by decide +kernel
theorem dX1_join_101 : decode cX1_join 101 = .ok (.iconst 0, 1) := by decide +kernel
theorem dX1_join_102 : decode cX1_join 102 = .ok (.invokevirtual 68, 3) := by decide +kernel
theorem dX1_join_105 : decode cX1_join 105 = .ok (.goto 20, 3) := by decide +kernel
theorem dX1_join_108 : decode cX1_join 108 = .ok (.aload_n 0, 1) := by decide +kernel
theorem dX1_join_109 : decode cX1_join 109 = .ok (.iload_n 3, 1) := by decide +kernel
theorem dX1_join_110 : decode cX1_join 110 = .ok (.iload_n 2, 1) := by decide +kernel
theorem dX1_join_111 : decode cX1_join 111 = .ok (.iand, 1) := by decide +kernel
theorem dX1_join_112 : decode cX1_join 112 = .ok (.invokevirtual 68, 3) := by decide +kernel
theorem dX1_join_115 : decode cX1_join 115 = .ok (.goto 10, 3) := by decide +kernel
theorem dX1_join_118 : decode cX1_join 118 = .ok (.aload_n 0, 1) := by decide +kernel
theorem dX1_join_119 : decode cX1_join 119 = .ok (.iload_n 3, 1) := by decide +kernel
theorem dX1_join_120 : decode cX1_join 120 = .ok (.iload_n 2, 1) := by decide +kernel
theorem dX1_join_121 : decode cX1_join 121 = .ok (.ior, 1) := by decide +kernel
theorem dX1_join_122 : decode cX1_join 122 = .ok (.invokevirtual 68, 3) := by decide +kernel
theorem dX1_join_125 : decode cX1_join 125 = .ok (.return_, 1) := by decide +kernel
theorem dX1_push_0 : decode cX1_push 0 = .ok (.aload_n 0, 1) := by decide +kernel
theorem dX1_push_1 : decode cX1_push 1 = .ok (.getfield 65, 3) := by decide +kernel
theorem dX1_push_4 : decode cX1_push 4 = .ok (.bipush 40, 2) := by decide +kernel
theorem dX1_push_6 : decode cX1_push 6 = .ok (.if_icmp .ge 23, 3) := by decide +kernel
theorem dX1_push_9 : decode cX1_push 9 = .ok (.aload_n 0, 1) := by decide +kernel
theorem dX1_push_10 : decode cX1_push 10 = .ok (.getfield 29, 3) := by decide +kernel
theorem dX1_push_13 : decode cX1_push 13 = .ok (.aload_n 0, 1) := by decide +kernel
theorem dX1_push_14 : decode cX1_push 14 = .ok (.getfield 65, 3) := by decide +kernel
theorem dX1_push_17 : decode cX1_push 17 = .ok (.iload_n 1, 1) := by decide +kernel
theorem dX1_push_18 : decode cX1_push 18 = .ok (.iastore, 1) := by decide +kernel
theorem dX1_push_19 : decode cX1_push 19 = .ok (.aload_n 0, 1) := by decide +kernel
theorem dX1_push_20 : decode cX1_push 20 = .ok (.dup, 1) := by decide +kernel
theorem dX1_push_21 : decode cX1_push 21 = .ok (.getfield 65, 3) := by decide +kernel
theorem dX1_push_24 : decode cX1_push 24 = .ok (.iconst 1, 1) := by decide +kernel
theorem dX1_push_25 : decode cX1_push 25 = .ok (.iadd, 1) := by decide +kernel
theorem dX1_push_26 : decode cX1_push 26 = .ok (.putfield 65, 3) := by decide +kernel
theorem dX1_push_29 : decode cX1_push 29 = .ok (.return_, 1) := by decide +kernel
theorem dX1_pop_0 : decode cX1_pop 0 = .ok (.aload_n 0, 1) := by decide +kernel
theorem dX1_pop_1 : decode cX1_pop 1 = .ok (.getfield 65, 3) := by decide +kernel
theorem dX1_pop_4 : decode cX1_pop 4 = .ok (.ifCond .gt 5, 3) := by decide +kernel
theorem dX1_pop_7 : decode cX1_pop 7 = .ok (.iconst 0, 1) := by decide +kernel
theorem dX1_pop_8 : decode cX1_pop 8 = .ok (.ireturn, 1) := by decide +kernel
theorem dX1_pop_9 : decode cX1_pop 9 = .ok (.aload_n 0, 1) := by decide +kernel
theorem dX1_pop_10 : decode cX1_pop 10 = .ok (.dup, 1) := by decide +kernel
theorem dX1_pop_11 : decode cX1_pop 11 = .ok (.getfield 65, 3) := by decide +kernel
theorem dX1_pop_14 : decode cX1_pop 14 = .ok (.iconst 1, 1) := by decide +kernel
theorem dX1_pop_15 : decode cX1_pop 15 = .ok (.isub, 1) := by decide +kernel
theorem dX1_pop_16 : decode cX1_pop 16 = .ok (.putfield 65, 3) := by decide +kernel
theorem dX1_pop_19 : decode cX1_pop 19 = .ok (.aload_n 0, 1) := by decide +kernel
theorem dX1_pop_20 : decode cX1_pop 20 = .ok (.getfield 29, 3) := by decide +kernel
theorem dX1_pop_23 : decode cX1_pop 23 = .ok (.aload_n 0, 1) := by decide +kernel
theorem dX1_pop_24 : decode cX1_pop 24 = .ok (.getfield 65, 3) := by decide +kernel
theorem dX1_pop_27 : decode cX1_pop 27 = .ok (.iaload, 1) := by decide +kernel
theorem dX1_pop_28 : decode cX1_pop 28 = .ok (.ireturn, 1) := by decide +kernel
theorem dX2_init_0 : decode cX2_init 0 = .ok (.aload_n 0, 1) := by decide +kernel
theorem dX2_init_1 : decode cX2_init 1 = .ok (.invokespecial 3, 3) := by decide +kernel
theorem dX2_init_4 : decode cX2_init 4 = .ok (.aload_n 0, 1) := by decide +kernel
theorem dX2_init_5 : decode cX2_init 5 = .ok (.new 9, 3) := by decide +kernel
theorem dX2_init_8 : decode cX2_init 8 = .ok (.dup, 1) := by decide +kernel
theorem dX2_init_9 : decode cX2_init 9 = .ok (.invokespecial 11, 3) := by decide +kernel
theorem dX2_init_12 : decode cX2_init 12 = .ok (.putfield 12, 3) := by decide +kernel
theorem dX2_init_15 : decode cX2_init 15 = .ok (.return_, 1) := by decide +kernel
theorem dX2_readInto_0 : decode cX2_readInto 0 = .ok (.aload_n 1, 1) := by decide +kernel
theorem dX2_readInto_1 : decode cX2_readInto 1 = .ok (.invokevirtual 18, 3) := by decide +kernel
theorem dX2_readInto_4 : decode cX2_readInto 4 = .ok (.aload_n 0, 1) := by decide +kernel
theorem dX2_readInto_5 : decode cX2_readInto 5 = .ok (.getfield 12, 3) := by decide +kernel
theorem dX2_readInto_8 : decode cX2_readInto 8 = .ok (.aload_n 2, 1) := by decide +kernel
theorem dX2_readInto_9 : decode cX2_readInto 9 = .ok (.iload_n 3, 1) := by decide +kernel
theorem dX2_readInto_10 : decode cX2_readInto 10 = .ok (.invokevirtual 23, 3) := by decide +kernel
theorem dX2_readInto_13 : decode cX2_readInto 13 = .ok (.iconst 0, 1) := by decide +kernel
theorem dX2_readInto_14 : decode cX2_readInto 14 = .ok (.istore 4, 2) := by decide +kernel
theorem dX2_readInto_16 : decode cX2_readInto 16 = .ok (.iload 4, 2) := by decide +kernel
theorem dX2_readInto_18 : decode cX2_readInto 18 = .ok (.bipush 12, 2) := by decide +kernel
theorem dX2_readInto_20 : decode cX2_readInto 20 = .ok (.if_icmp .gt 79, 3) := by decide +kernel
theorem dX2_readInto_23 : decode cX2_readInto 23 = .ok (.aload_n 0, 1) := by decide +kernel
theorem dX2_readInto_24 : decode cX2_readInto 24 = .ok (.getfield 12, 3) := by decide +kernel
theorem dX2_readInto_27 : decode cX2_readInto 27 = .ok (.iload 4, 2) := by decide +kernel
theorem dX2_readInto_29 : decode cX2_readInto 29 = .ok (.bipush 12, 2) := by decide +kernel
theorem dX2_readInto_31 : decode cX2_readInto 31 = .ok (.invokevirtual 27, 3) := by decide +kernel
theorem dX2_readInto_34 : decode cX2_readInto 34 = .ok (.ifCond .eq 65, 3) := by decide +kernel
theorem dX2_readInto_37 : decode cX2_readInto 37 = .ok (.aload_n 0, 1) := by decide +kernel
theorem dX2_readInto_38 : decode cX2_readInto 38 = .ok (.getfield 12, 3) := by decide +kernel
theorem dX2_readInto_41 : decode cX2_readInto 41 = .ok (.ldc 31, 2) := by decide +kernel
theorem dX2_readInto_43 : decode cX2_readInto 43 = .ok (.invokevirtual 33, 3) := by decide +kernel
theorem dX2_readInto_46 : decode cX2_readInto 46 = .ok (.ifCond .ne 10, 3) := by decide +kernel
theorem dX2_readInto_49 : decode cX2_readInto 49 = .ok (.aload_n 0, 1) := by decide +kernel
theorem dX2_readInto_50 : decode cX2_readInto 50 = .ok (.getfield 12, 3) := by decide +kernel
theorem dX2_readInto_53 : decode cX2_readInto 53 = .ok (.invokevirtual 37, 3) := by decide +kernel
theorem dX2_readInto_56 : decode cX2_readInto 56 = .ok (.aload_n 0, 1) := by decide +kernel
theorem dX2_readInto_57 : decode cX2_readInto 57 = .ok (.getfield 12, 3) := by decide +kernel
theorem dX2_readInto_60 : decode cX2_readInto 60 = .ok (.iconst 0, 1) := by decide +kernel
theorem dX2_readInto_61 : decode cX2_readInto 61 = .ok (.sipush 999, 3) := by decide +kernel
theorem dX2_readInto_64 : decode cX2_readInto 64 = .ok (.invokevirtual 40, 3) := by decide +kernel
theorem dX2_readInto_67 : decode cX2_readInto 67 = .ok (.istore 5, 2) := by decide +kernel
theorem dX2_readInto_69 : decode cX2_readInto 69 = .ok (.aload_n 0, 1) := by decide +kernel
theorem dX2_readInto_70 : decode cX2_readInto 70 = .ok (.getfield 12, 3) := by decide +kernel
theorem dX2_readInto_73 : decode cX2_readInto 73 = .ok (.ldc 44, 2) := by decide +kernel
theorem dX2_readInto_75 : decode cX2_readInto 75 = .ok (.invokevirtual 33, 3) := by decide +kernel
theorem dX2_readInto_78 : decode cX2_readInto 78 = .ok (.ifCond .eq 9, 3) := by decide +kernel
theorem dX2_readInto_81 : decode cX2_readInto 81 = .ok (.aload_n 0, 1) := by decide +kernel
theorem dX2_readInto_82 : decode cX2_readInto 82 = .ok (.aload_n 1, 1) := by decide +kernel
theorem dX2_readInto_83 : decode cX2_readInto 83 = .ok (.iconst 0, 1) := by decide +kernel
theorem dX2_readInto_84 : decode cX2_readInto 84 = .ok (.invokevirtual 46, 3) := by decide +kernel
theorem dX2_readInto_87 : decode cX2_readInto 87 = .ok (.aload_n 1, 1) := by decide +kernel
theorem dX2_readInto_88 : decode cX2_readInto 88 = .ok (.iload 5, 2) := by decide +kernel
theorem dX2_readInto_90 : decode cX2_readInto 90 = .ok (.invokevirtual 50, 3) := by decide +kernel
theorem dX2_readInto_93 : decode cX2_readInto 93 = .ok (.iinc 4 1, 3) := by decide +kernel
theorem dX2_readInto_96 : decode cX2_readInto 96 = .ok (.goto (-80), 3) := by decide +kernel
theorem dX2_readInto_99 : decode cX2_readInto 99 = .ok (.aload_n 0, 1) := by decide +kernel
theorem dX2_readInto_100 : decode cX2_readInto 100 = .ok (.getfield 12, 3) := by decide +kernel
theorem dX2_readInto_103 : decode cX2_readInto 103 = .ok (.getfield 54, 3) := by decide +kernel
theorem dX2_readInto_106 : decode cX2_readInto 106 = .ok (.ireturn, 1) := by decide +kernel
theorem dX2_readCondition_0 : decode cX2_readCondition 0 = .ok (.iconst 1, 1) := by decide +kernel
theorem dX2_readCondition_1 : decode cX2_readCondition 1 = .ok (.istore_n 3, 1) := by decide +kernel
theorem dX2_readCondition_2 : decode cX2_readCondition 2 = .ok (.iconst 0, 1) := by decide +kernel
theorem dX2_readCondition_3 : decode cX2_readCondition 3 = .ok (.istore 4, 2) := by decide +kernel
theorem dX2_readCondition_5 : decode cX2_readCondition 5 = .ok (.iload 4, 2) := by decide +kernel
theorem dX2_readCondition_7 : decode cX2_readCondition 7 = .ok (.sipush 400, 3) := by decide +kernel
theorem dX2_readCondition_10 : decode cX2_readCondition 10 = .ok (.if_icmp .ge 87, 3) := by decide +kernel
theorem dX2_readCondition_13 : decode cX2_readCondition 13 = .ok (.iload_n 3, 1) := by decide +kernel
theorem dX2_readCondition_14 : decode cX2_readCondition 14 = .ok (.ifCond .eq 83, 3) := by decide +kernel
theorem dX2_readCondition_17 : decode cX2_readCondition 17 = .ok (.iconst 1, 1) := by decide +kernel
theorem dX2_readCondition_18 : decode cX2_readCondition 18 = .ok (.istore 5, 2) := by decide +kernel
theorem dX2_readCondition_20 : decode cX2_readCondition 20 = .ok (.iconst 0, 1) := by decide +kernel
theorem dX2_readCondition_21 : decode cX2_readCondition 21 = .ok (.istore 6, 2) := by decide +kernel
theorem dX2_readCondition_23 : decode cX2_readCondition 23 = .ok (.iload 6, 2) := by decide +kernel
theorem dX2_readCondition_25 : decode cX2_readCondition 25 = .ok (.sipush 400, 3) := by decide +kernel
theorem dX2_readCondition_28 : decode cX2_readCondition 28 = .ok (.if_icmp .ge 42, 3) := by decide +kernel
theorem dX2_readCondition_31 : decode cX2_readCondition 31 = .ok (.iload 5, 2) := by decide +kernel
theorem dX2_readCondition_33 : decode cX2_readCondition 33 = .ok (.ifCond .eq 37, 3) := by decide +kernel
theorem dX2_readCondition_36 : decode cX2_readCondition 36 = .ok (.aload_n 0, 1) := by decide +kernel
theorem dX2_readCondition_37 : decode cX2_readCondition 37 = .ok (.aload_n 1, 1) := by decide +kernel
theorem dX2_readCondition_38 : decode cX2_readCondition 38 = .ok (.iload_n 2, 1) := by decide +kernel
theorem dX2_readCondition_39 : decode cX2_readCondition 39 = .ok (.invokevirtual 58, 3) := by decide +kernel
theorem dX2_readCondition_42 : decode cX2_readCondition 42 = .ok (.iload 6, 2) := by decide +kernel
theorem dX2_readCondition_44 : decode cX2_readCondition 44 = .ok (.ifCond .le 9, 3) := by decide +kernel
theorem dX2_readCondition_47 : decode cX2_readCondition 47 = .ok (.aload_n 1, 1) := by decide +kernel
theorem dX2_readCondition_48 : decode cX2_readCondition 48 = .ok (.bipush (-10), 2) := by decide +kernel
theorem dX2_readCondition_50 : decode cX2_readCondition 50 = .ok (.invokevirtual 61, 3) := by decide +kernel
theorem dX2_readCondition_53 : decode cX2_readCondition 53 = .ok (.aload_n 0, 1) := by decide +kernel
theorem dX2_readCondition_54 : decode cX2_readCondition 54 = .ok (.getfield 12, 3) := by decide +kernel
theorem dX2_readCondition_57 : decode cX2_readCondition 57 = .ok (.ldc 64, 2) := by decide +kernel
theorem dX2_readCondition_59 : decode cX2_readCondition 59 = .ok (.invokevirtual 33, 3) := by decide +kernel
theorem dX2_readCondition_62 : decode cX2_readCondition 62 = .ok (.istore 5, 2) := by decide +kernel
theorem dX2_readCondition_64 : decode cX2_readCondition 64 = .ok (.iinc 6 1, 3) := by decide +kernel
theorem dX2_readCondition_67 : decode cX2_readCondition 67 = .ok (.goto (-44), 3) := by decide +kernel
theorem dX2_readCondition_70 : decode cX2_readCondition 70 = .ok (.iload 4, 2) := by decide +kernel
theorem dX2_readCondition_72 : decode cX2_readCondition 72 = .ok (.ifCond .le 9, 3) := by decide +kernel
theorem dX2_readCondition_75 : decode cX2_readCondition 75 = .ok (.aload_n 1, 1) := by decide +kernel
theorem dX2_readCondition_76 : decode cX2_readCondition 76 = .ok (.bipush (-11), 2) := by decide +kernel
theorem dX2_readCondition_78 : decode cX2_readCondition 78 = .ok (.invokevirtual 61, 3) := by decide +kernel
theorem dX2_readCondition_81 : decode cX2_readCondition 81 = .ok (.aload_n 0, 1) := by decide +kernel
theorem dX2_readCondition_82 : decode cX2_readCondition 82 = .ok (.getfield 12, 3) := by decide +kernel
theorem dX2_readCondition_85 : decode cX2_readCondition 85 = .ok (.ldc 66, 2) := by decide +kernel
theorem dX2_readCondition_87 : decode cX2_readCondition 87 = .ok (.invokevirtual 33, 3) := by decide +kernel
theorem dX2_readCondition_90 : decode cX2_readCondition 90 = .ok (.istore_n 3, 1) := by decide +kernel
theorem dX2_readCondition_91 : decode cX2_readCondition 91 = .ok (.iinc 4 1, 3) := by decide +kernel
theorem dX2_readCondition_94 : decode cX2_readCondition 94 = .ok (.goto (-89), 3) := by decide +kernel
theorem dX2_readCondition_97 : decode cX2_readCondition 97 = .ok (.return_, 1) := by decide +kernel
theorem dX2_readAtom_0 : decode cX2_readAtom 0 = .ok (.aload_n 0, 1) := by decide +kernel
theorem dX2_readAtom_1 : decode cX2_readAtom 1 = .ok (.getfield 12, 3) := by decide +kernel
theorem dX2_readAtom_4 : decode cX2_readAtom 4 = .ok (.ldc 68, 2) := by decide +kernel
theorem dX2_readAtom_6 : decode cX2_readAtom 6 = .ok (.invokevirtual 70, 3) := by decide +kernel
theorem dX2_readAtom_9 : decode cX2_readAtom 9 = .ok (.istore_n 3, 1) := by decide +kernel
theorem dX2_readAtom_10 : decode cX2_readAtom 10 = .ok (.aload_n 0, 1) := by decide +kernel
theorem dX2_readAtom_11 : decode cX2_readAtom 11 = .ok (.getfield 12, 3) := by decide +kernel
theorem dX2_readAtom_14 : decode cX2_readAtom 14 = .ok (.ldc 73, 2) := by decide +kernel
theorem dX2_readAtom_16 : decode cX2_readAtom 16 = .ok (.invokevirtual 70, 3) := by decide +kernel
theorem dX2_readAtom_19 : decode cX2_readAtom 19 = .ok (.istore 4, 2) := by decide +kernel
theorem dX2_readAtom_21 : decode cX2_readAtom 21 = .ok (.iload_n 3, 1) := by decide +kernel
theorem dX2_readAtom_22 : decode cX2_readAtom 22 = .ok (.ifCond .ne 8, 3) := by decide +kernel
theorem dX2_readAtom_25 : decode cX2_readAtom 25 = .ok (.iload 4, 2) := by decide +kernel
theorem dX2_readAtom_27 : decode cX2_readAtom 27 = .ok (.ifCond .eq 17, 3) := by decide +kernel
theorem dX2_readAtom_30 : decode cX2_readAtom 30 = .ok (.iload_n 2, 1) := by decide +kernel
theorem dX2_readAtom_31 : decode cX2_readAtom 31 = .ok (.bipush 6, 2) := by decide +kernel
theorem dX2_readAtom_33 : decode cX2_readAtom 33 = .ok (.if_icmp .lt 11, 3) := by decide +kernel
theorem dX2_readAtom_36 : decode cX2_readAtom 36 = .ok (.aload_n 0, 1) := by decide +kernel
theorem dX2_readAtom_37 : decode cX2_readAtom 37 = .ok (.getfield 12, 3) := by decide +kernel
theorem dX2_readAtom_40 : decode cX2_readAtom 40 = .ok (.invokevirtual 37, 3) := by decide +kernel
theorem dX2_readAtom_43 : decode cX2_readAtom 43 = .ok (.return_, 1) := by decide +kernel
theorem dX2_readAtom_44 : decode cX2_readAtom 44 = .ok (.iload_n 3, 1) := by decide +kernel
theorem dX2_readAtom_45 : decode cX2_readAtom 45 = .ok (.ifCond .eq 27, 3) := by decide +kernel
theorem dX2_readAtom_48 : decode cX2_readAtom 48 = .ok (.aload_n 0, 1) := by decide +kernel
theorem dX2_readAtom_49 : decode cX2_readAtom 49 = .ok (.getfield 12, 3) := by decide +kernel
theorem dX2_readAtom_52 : decode cX2_readAtom 52 = .ok (.invokevirtual 75, 3) := by decide +kernel
theorem dX2_readAtom_55 : decode cX2_readAtom 55 = .ok (.aload_n 0, 1) := by decide +kernel
theorem dX2_readAtom_56 : decode cX2_readAtom 56 = .ok (.aload_n 1, 1) := by decide +kernel
theorem dX2_readAtom_57 : decode cX2_readAtom 57 = .ok (.iload_n 2, 1) := by decide +kernel
theorem dX2_readAtom_58 : decode cX2_readAtom 58 = .ok (.iconst 1, 1) := by decide +kernel
theorem dX2_readAtom_59 : decode cX2_readAtom 59 = .ok (.iadd, 1) := by decide +kernel
theorem dX2_readAtom_60 : decode cX2_readAtom 60 = .ok (.invokevirtual 58, 3) := by decide +kernel
theorem dX2_readAtom_63 : decode cX2_readAtom 63 = .ok (.aload_n 1, 1) := by decide +kernel
theorem dX2_readAtom_64 : decode cX2_readAtom 64 = .ok (.bipush (-9), 2) := by decide +kernel
theorem dX2_readAtom_66 : decode cX2_readAtom 66 = .ok (.invokevirtual 61, 3) := by decide +kernel
theorem dX2_readAtom_69 : decode cX2_readAtom 69 = .ok (.goto 113, 3) := by decide +kernel
theorem dX2_readAtom_72 : decode cX2_readAtom 72 = .ok (.iload 4, 2) := by decide +kernel
theorem dX2_readAtom_74 : decode cX2_readAtom 74 = .ok (.ifCond .eq 40, 3) := by decide +kernel
theorem dX2_readAtom_77 : decode cX2_readAtom 77 = .ok (.aload_n 0, 1) := by decide +kernel
theorem dX2_readAtom_78 : decode cX2_readAtom 78 = .ok (.getfield 12, 3) := by decide +kernel
theorem dX2_readAtom_81 : decode cX2_readAtom 81 = .ok (.invokevirtual 75, 3) := by decide +kernel
theorem dX2_readAtom_84 : decode cX2_readAtom 84 = .ok (.aload_n 0, 1) := by decide +kernel
theorem dX2_readAtom_85 : decode cX2_readAtom 85 = .ok (.aload_n 1, 1) := by decide +kernel
theorem dX2_readAtom_86 : decode cX2_readAtom 86 = .ok (.iload_n 2, 1) := by decide +kernel
theorem dX2_readAtom_87 : decode cX2_readAtom 87 = .ok (.iconst 1, 1) := by decide +kernel
theorem dX2_readAtom_88 : decode cX2_readAtom 88 = .ok (.iadd, 1) := by decide +kernel
theorem dX2_readAtom_89 : decode cX2_readAtom 89 = .ok (.invokevirtual 46, 3) := by decide +kernel
theorem dX2_readAtom_92 : decode cX2_readAtom 92 = .ok (.aload_n 0, 1) := by decide +kernel
theorem dX2_readAtom_93 : decode cX2_readAtom 93 = .ok (.getfield 12, 3) := by decide +kernel
theorem dX2_readAtom_96 : decode cX2_readAtom 96 = .ok (.ldc 78, 2) := by decide +kernel
theorem dX2_readAtom_98 : decode cX2_readAtom 98 = .ok (.invokevirtual 33, 3) := by decide +kernel
theorem dX2_readAtom_101 : decode cX2_readAtom 101 = .ok (.ifCond .ne 81, 3) := by decide +kernel
theorem dX2_readAtom_104 : decode cX2_readAtom 104 = .ok (.aload_n 0, 1) := by decide +kernel
theorem dX2_readAtom_105 : decode cX2_readAtom 105 = .ok (.getfield 12, 3) := by decide +kernel
theorem dX2_readAtom_108 : decode cX2_readAtom 108 = .ok (.invokevirtual 37, 3) := by decide +kernel
theorem dX2_readAtom_111 : decode cX2_readAtom 111 = .ok (.goto 71, 3) := by decide +kernel
theorem dX2_readAtom_114 : decode cX2_readAtom 114 = .ok (.aload_n 0, 1) := by decide +kernel
theorem dX2_readAtom_115 : decode cX2_readAtom 115 = .ok (.aload_n 1, 1) := by decide +kernel
theorem dX2_readAtom_116 : decode cX2_readAtom 116 = .ok (.invokevirtual 80, 3) := by decide +kernel
theorem dX2_readAtom_119 : decode cX2_readAtom 119 = .ok (.aload_n 0, 1) := by decide +kernel
theorem dX2_readAtom_120 : decode cX2_readAtom 120 = .ok (.getfield 12, 3) := by decide +kernel
theorem dX2_readAtom_123 : decode cX2_readAtom 123 = .ok (.ldc 84, 2) := by decide +kernel
theorem dX2_readAtom_125 : decode cX2_readAtom 125 = .ok (.invokevirtual 70, 3) := by decide +kernel
theorem dX2_readAtom_128 : decode cX2_readAtom 128 = .ok (.ifCond .eq 8, 3) := by decide +kernel
theorem dX2_readAtom_131 : decode cX2_readAtom 131 = .ok (.bipush (-7), 2) := by decide +kernel
theorem dX2_readAtom_133 : decode cX2_readAtom 133 = .ok (.goto 5, 3) := by decide +kernel
theorem dX2_readAtom_136 : decode cX2_readAtom 136 = .ok (.bipush (-8), 2) := by decide +kernel
theorem dX2_readAtom_138 : decode cX2_readAtom 138 = .ok (.istore 5, 2) := by decide +kernel
theorem dX2_readAtom_140 : decode cX2_readAtom 140 = .ok (.aload_n 0, 1) := by decide +kernel
theorem dX2_readAtom_141 : decode cX2_readAtom 141 = .ok (.getfield 12, 3) := by decide +kernel
theorem dX2_readAtom_144 : decode cX2_readAtom 144 = .ok (.ldc 84, 2) := by decide +kernel
theorem dX2_readAtom_146 : decode cX2_readAtom 146 = .ok (.invokevirtual 33, 3) := by decide +kernel
theorem dX2_readAtom_149 : decode cX2_readAtom 149 = .ok (.ifCond .ne 22, 3) := by decide +kernel
theorem dX2_readAtom_152 : decode cX2_readAtom 152 = .ok (.aload_n 0, 1) := by decide +kernel
theorem dX2_readAtom_153 : decode cX2_readAtom 153 = .ok (.getfield 12, 3) := by decide +kernel
theorem dX2_readAtom_156 : decode cX2_readAtom 156 = .ok (.ldc 86, 2) := by decide +kernel
theorem dX2_readAtom_158 : decode cX2_readAtom 158 = .ok (.invokevirtual 33, 3) := by decide +kernel
theorem dX2_readAtom_161 : decode cX2_readAtom 161 = .ok (.ifCond .ne 10, 3) := by decide +kernel
theorem dX2_readAtom_164 : decode cX2_readAtom 164 = .ok (.aload_n 0, 1) := by decide +kernel
theorem dX2_readAtom_165 : decode cX2_readAtom 165 = .ok (.getfield 12, 3) := by decide +kernel
theorem dX2_readAtom_168 : decode cX2_readAtom 168 = .ok (.invokevirtual 37, 3) := by decide +kernel
theorem dX2_readAtom_171 : decode cX2_readAtom 171 = .ok (.aload_n 0, 1) := by decide +kernel
theorem dX2_readAtom_172 : decode cX2_readAtom 172 = .ok (.aload_n 1, 1) := by decide +kernel
theorem dX2_readAtom_173 : decode cX2_readAtom 173 = .ok (.invokevirtual 80, 3) := by decide +kernel
theorem dX2_readAtom_176 : decode cX2_readAtom 176 = .ok (.aload_n 1, 1) := by decide +kernel
theorem dX2_readAtom_177 : decode cX2_readAtom 177 = .ok (.iload 5, 2) := by decide +kernel
theorem dX2_readAtom_179 : decode cX2_readAtom 179 = .ok (.invokevirtual 61, 3) := by decide +kernel
theorem dX2_readAtom_182 : decode cX2_readAtom 182 = .ok (.return_, 1) := by decide +kernel
theorem dX2_readSum_0 : decode cX2_readSum 0 = .ok (.iconst 1, 1) := by decide +kernel
theorem dX2_readSum_1 : decode cX2_readSum 1 = .ok (.istore_n 2, 1) := by decide +kernel
theorem dX2_readSum_2 : decode cX2_readSum 2 = .ok (.iconst 0, 1) := by decide +kernel
theorem dX2_readSum_3 : decode cX2_readSum 3 = .ok (.istore_n 3, 1) := by decide +kernel
theorem dX2_readSum_4 : decode cX2_readSum 4 = .ok (.iload_n 3, 1) := by decide +kernel
theorem dX2_readSum_5 : decode cX2_readSum 5 = .ok (.sipush 400, 3) := by decide +kernel
theorem dX2_readSum_8 : decode cX2_readSum 8 = .ok (.if_icmp .ge 65, 3) := by decide +kernel
theorem dX2_readSum_11 : decode cX2_readSum 11 = .ok (.iload_n 2, 1) := by decide +kernel
theorem dX2_readSum_12 : decode cX2_readSum 12 = .ok (.ifCond .eq 61, 3) := by decide +kernel
theorem dX2_readSum_15 : decode cX2_readSum 15 = .ok (.aload_n 1, 1) := by decide +kernel
theorem dX2_readSum_16 : decode cX2_readSum 16 = .ok (.aload_n 0, 1) := by decide +kernel
theorem dX2_readSum_17 : decode cX2_readSum 17 = .ok (.getfield 12, 3) := by decide +kernel
theorem dX2_readSum_20 : decode cX2_readSum 20 = .ok (.invokevirtual 88, 3) := by decide +kernel
theorem dX2_readSum_23 : decode cX2_readSum 23 = .ok (.ifCond .eq 17, 3) := by decide +kernel
theorem dX2_readSum_26 : decode cX2_readSum 26 = .ok (.aload_n 0, 1) := by decide +kernel
theorem dX2_readSum_27 : decode cX2_readSum 27 = .ok (.getfield 12, 3) := by decide +kernel
theorem dX2_readSum_30 : decode cX2_readSum 30 = .ok (.iconst 0, 1) := by decide +kernel
theorem dX2_readSum_31 : decode cX2_readSum 31 = .ok (.sipush 999, 3) := by decide +kernel
theorem dX2_readSum_34 : decode cX2_readSum 34 = .ok (.invokevirtual 40, 3) := by decide +kernel
theorem dX2_readSum_37 : decode cX2_readSum 37 = .ok (.goto 7, 3) := by decide +kernel
theorem dX2_readSum_40 : decode cX2_readSum 40 = .ok (.aload_n 0, 1) := by decide +kernel
theorem dX2_readSum_41 : decode cX2_readSum 41 = .ok (.invokevirtual 92, 3) := by decide +kernel
theorem dX2_readSum_44 : decode cX2_readSum 44 = .ok (.invokevirtual 61, 3) := by decide +kernel
theorem dX2_readSum_47 : decode cX2_readSum 47 = .ok (.iload_n 3, 1) := by decide +kernel
theorem dX2_readSum_48 : decode cX2_readSum 48 = .ok (.ifCond .le 9, 3) := by decide +kernel
theorem dX2_readSum_51 : decode cX2_readSum 51 = .ok (.aload_n 1, 1) := by decide +kernel
theorem dX2_readSum_52 : decode cX2_readSum 52 = .ok (.bipush (-6), 2) := by decide +kernel
theorem dX2_readSum_54 : decode cX2_readSum 54 = .ok (.invokevirtual 61, 3) := by decide +kernel
theorem dX2_readSum_57 : decode cX2_readSum 57 = .ok (.aload_n 0, 1) := by decide +kernel
theorem dX2_readSum_58 : decode cX2_readSum 58 = .ok (.getfield 12, 3) := by decide +kernel
theorem dX2_readSum_61 : decode cX2_readSum 61 = .ok (.ldc 96, 2) := by decide +kernel
theorem dX2_readSum_63 : decode cX2_readSum 63 = .ok (.invokevirtual 33, 3) := by decide +kernel
theorem dX2_readSum_66 : decode cX2_readSum 66 = .ok (.istore_n 2, 1) := by decide +kernel
theorem dX2_readSum_67 : decode cX2_readSum 67 = .ok (.iinc 3 1, 3) := by decide +kernel
theorem dX2_readSum_70 : decode cX2_readSum 70 = .ok (.goto (-66), 3) := by decide +kernel
theorem dX2_readSum_73 : decode cX2_readSum 73 = .ok (.return_, 1) := by decide +kernel
theorem dX2_readFact_0 : decode cX2_readFact 0 = .ok (.aload_n 0, 1) := by decide +kernel
theorem dX2_readFact_1 : decode cX2_readFact 1 = .ok (.getfield 12, 3) := by decide +kernel
theorem dX2_readFact_4 : decode cX2_readFact 4 = .ok (.ldc 98, 2) := by decide +kernel
theorem dX2_readFact_6 : decode cX2_readFact 6 = .ok (.invokevirtual 70, 3) := by decide +kernel
theorem dX2_readFact_9 : decode cX2_readFact 9 = .ok (.ifCond .eq 7, 3) := by decide +kernel
theorem dX2_readFact_12 : decode cX2_readFact 12 = .ok (.iconst (-1), 1) := by decide +kernel
theorem dX2_readFact_13 : decode cX2_readFact 13 = .ok (.goto 72, 3) := by decide +kernel
theorem dX2_readFact_16 : decode cX2_readFact 16 = .ok (.aload_n 0, 1) := by decide +kernel
theorem dX2_readFact_17 : decode cX2_readFact 17 = .ok (.getfield 12, 3) := by decide +kernel
theorem dX2_readFact_20 : decode cX2_readFact 20 = .ok (.ldc 100, 2) := by decide +kernel
theorem dX2_readFact_22 : decode cX2_readFact 22 = .ok (.invokevirtual 70, 3) := by decide +kernel
theorem dX2_readFact_25 : decode cX2_readFact 25 = .ok (.ifCond .eq 8, 3) := by decide +kernel
theorem dX2_readFact_28 : decode cX2_readFact 28 = .ok (.bipush (-2), 2) := by decide +kernel
theorem dX2_readFact_30 : decode cX2_readFact 30 = .ok (.goto 55, 3) := by decide +kernel
theorem dX2_readFact_33 : decode cX2_readFact 33 = .ok (.aload_n 0, 1) := by decide +kernel
theorem dX2_readFact_34 : decode cX2_readFact 34 = .ok (.getfield 12, 3) := by decide +kernel
theorem dX2_readFact_37 : decode cX2_readFact 37 = .ok (.ldc 102, 2) := by decide +kernel
theorem dX2_readFact_39 : decode cX2_readFact 39 = .ok (.invokevirtual 70, 3) := by decide +kernel
theorem dX2_readFact_42 : decode cX2_readFact 42 = .ok (.ifCond .eq 8, 3) := by decide +kernel
theorem dX2_readFact_45 : decode cX2_readFact 45 = .ok (.bipush (-3), 2) := by decide +kernel
theorem dX2_readFact_47 : decode cX2_readFact 47 = .ok (.goto 38, 3) := by decide +kernel
theorem dX2_readFact_50 : decode cX2_readFact 50 = .ok (.aload_n 0, 1) := by decide +kernel
theorem dX2_readFact_51 : decode cX2_readFact 51 = .ok (.getfield 12, 3) := by decide +kernel
theorem dX2_readFact_54 : decode cX2_readFact 54 = .ok (.ldc 104, 2) := by decide +kernel
theorem dX2_readFact_56 : decode cX2_readFact 56 = .ok (.invokevirtual 70, 3) := by decide +kernel
theorem dX2_readFact_59 : decode cX2_readFact 59 = .ok (.ifCond .eq 8, 3) := by decide +kernel
theorem dX2_readFact_62 : decode cX2_readFact 62 = .ok (.bipush (-4), 2) := by decide +kernel
theorem dX2_readFact_64 : decode cX2_readFact 64 = .ok (.goto 21, 3) := by decide +kernel
theorem dX2_readFact_67 : decode cX2_readFact 67 = .ok (.aload_n 0, 1) := by decide +kernel
theorem dX2_readFact_68 : decode cX2_readFact 68 = .ok (.getfield 12, 3) := by decide +kernel
theorem dX2_readFact_71 : decode cX2_readFact 71 = .ok (.ldc 106, 2) := by decide +kernel
theorem dX2_readFact_73 : decode cX2_readFact 73 = .ok (.invokevirtual 70, 3) := by decide +kernel
theorem dX2_readFact_76 : decode cX2_readFact 76 = .ok (.ifCond .eq 8, 3) := by decide +kernel
theorem dX2_readFact_79 : decode cX2_readFact 79 = .ok (.bipush (-5), 2) := by decide +kernel
theorem dX2_readFact_81 : decode cX2_readFact 81 = .ok (.goto 4, 3) := by decide +kernel
theorem dX2_readFact_84 : decode cX2_readFact 84 = .ok (.iconst 0, 1) := by decide +kernel
theorem dX2_readFact_85 : decode cX2_readFact 85 = .ok (.istore_n 1, 1) := by decide +kernel
theorem dX2_readFact_86 : decode cX2_readFact 86 = .ok (.iload_n 1, 1) := by decide +kernel
theorem dX2_readFact_87 : decode cX2_readFact 87 = .ok (.ifCond .ne 13, 3) := by decide +kernel
theorem dX2_readFact_90 : decode cX2_readFact 90 = .ok (.aload_n 0, 1) := by decide +kernel
theorem dX2_readFact_91 : decode cX2_readFact 91 = .ok (.getfield 12, 3) := by decide +kernel
theorem dX2_readFact_94 : decode cX2_readFact 94 = .ok (.invokevirtual 37, 3) := by decide +kernel
theorem dX2_readFact_97 : decode cX2_readFact 97 = .ok (.goto 10, 3) := by decide +kernel
theorem dX2_readFact_100 : decode cX2_readFact 100 = .ok (.aload_n 0, 1) := by decide +kernel
theorem dX2_readFact_101 : decode cX2_readFact 101 = .ok (.getfield 12, 3) := by decide +kernel
theorem dX2_readFact_104 : decode cX2_readFact 104 = .ok (.invokevirtual 75, 3) := by decide +kernel
theorem dX2_readFact_107 : decode cX2_readFact 107 = .ok (.iload_n 1, 1) := by decide +kernel
theorem dX2_readFact_108 : decode cX2_readFact 108 = .ok (.ireturn, 1) := by decide +kernel
theorem dX3_init_0 : decode cX3_init 0 = .ok (.aload_n 0, 1) := by decide +kernel
theorem dX3_init_1 : decode cX3_init 1 = .ok (.invokespecial 3, 3) := by decide +kernel
theorem dX3_init_4 : decode cX3_init 4 = .ok (.aload_n 0, 1) := by decide +kernel
theorem dX3_init_5 : decode cX3_init 5 = .ok (.bipush 20, 2) := by decide +kernel
theorem dX3_init_7 : decode cX3_init 7 = .ok (.newarray .int, 2) := by decide +kernel
theorem dX3_init_9 : decode cX3_init 9 = .ok (.putfield 11, 3) := by decide +kernel
theorem dX3_init_12 : decode cX3_init 12 = .ok (.aload_n 0, 1) := by decide +kernel
theorem dX3_init_13 : decode cX3_init 13 = .ok (.bipush 6, 2) := by decide +kernel
theorem dX3_init_15 : decode cX3_init 15 = .ok (.newarray .int, 2) := by decide +kernel
theorem dX3_init_17 : decode cX3_init 17 = .ok (.putfield 15, 3) := by decide +kernel
theorem dX3_init_20 : decode cX3_init 20 = .ok (.aload_n 0, 1) := by decide +kernel
theorem dX3_init_21 : decode cX3_init 21 = .ok (.iconst 3, 1) := by decide +kernel
theorem dX3_init_22 : decode cX3_init 22 = .ok (.newarray .int, 2) := by decide +kernel
theorem dX3_init_24 : decode cX3_init 24 = .ok (.putfield 18, 3) := by decide +kernel
theorem dX3_init_27 : decode cX3_init 27 = .ok (.aload_n 0, 1) := by decide +kernel
theorem dX3_init_28 : decode cX3_init 28 = .ok (.iconst 3, 1) := by decide +kernel
theorem dX3_init_29 : decode cX3_init 29 = .ok (.newarray .int, 2) := by decide +kernel
theorem dX3_init_31 : decode cX3_init 31 = .ok (.putfield 21, 3) := by decide +kernel
theorem dX3_init_34 : decode cX3_init 34 = .ok (.aload_n 0, 1) := by decide +kernel
theorem dX3_init_35 : decode cX3_init 35 = .ok (.iconst 3, 1) := by decide +kernel
theorem dX3_init_36 : decode cX3_init 36 = .ok (.newarray .int, 2) := by decide +kernel
theorem dX3_init_38 : decode cX3_init 38 = .ok (.putfield 24, 3) := by decide +kernel
theorem dX3_init_41 : decode cX3_init 41 = .ok (.return_, 1) := by decide +kernel
theorem dX3_readRows_0 : decode cX3_readRows 0 = .ok (.aload_n 0, 1) := by decide +kernel
theorem dX3_readRows_1 : decode cX3_readRows 1 = .ok (.iconst 0, 1) := by decide +kernel
theorem dX3_readRows_2 : decode cX3_readRows 2 = .ok (.putfield 27, 3) := by decide +kernel
theorem dX3_readRows_5 : decode cX3_readRows 5 = .ok (.aload_n 0, 1) := by decide +kernel
theorem dX3_readRows_6 : decode cX3_readRows 6 = .ok (.iconst 0, 1) := by decide +kernel
theorem dX3_readRows_7 : decode cX3_readRows 7 = .ok (.putfield 31, 3) := by decide +kernel
theorem dX3_readRows_10 : decode cX3_readRows 10 = .ok (.aload_n 0, 1) := by decide +kernel
theorem dX3_readRows_11 : decode cX3_readRows 11 = .ok (.iconst 0, 1) := by decide +kernel
theorem dX3_readRows_12 : decode cX3_readRows 12 = .ok (.putfield 34, 3) := by decide +kernel
theorem dX3_readRows_15 : decode cX3_readRows 15 = .ok (.iload_n 2, 1) := by decide +kernel
theorem dX3_readRows_16 : decode cX3_readRows 16 = .ok (.aload_n 1, 1) := by decide +kernel
theorem dX3_readRows_17 : decode cX3_readRows 17 = .ok (.arraylength, 1) := by decide +kernel
theorem dX3_readRows_18 : decode cX3_readRows 18 = .ok (.invokestatic 37, 3) := by decide +kernel
theorem dX3_readRows_21 : decode cX3_readRows 21 = .ok (.istore_n 3, 1) := by decide +kernel
theorem dX3_readRows_22 : decode cX3_readRows 22 = .ok (.aload_n 0, 1) := by decide +kernel
theorem dX3_readRows_23 : decode cX3_readRows 23 = .ok (.getfield 27, 3) := by decide +kernel
theorem dX3_readRows_26 : decode cX3_readRows 26 = .ok (.iload_n 3, 1) := by decide +kernel
theorem dX3_readRows_27 : decode cX3_readRows 27 = .ok (.if_icmp .ge 65, 3) := by decide +kernel
theorem dX3_readRows_30 : decode cX3_readRows 30 = .ok (.aload_n 0, 1) := by decide +kernel
theorem dX3_readRows_31 : decode cX3_readRows 31 = .ok (.getfield 27, 3) := by decide +kernel
theorem dX3_readRows_34 : decode cX3_readRows 34 = .ok (.bipush 20, 2) := by decide +kernel
theorem dX3_readRows_36 : decode cX3_readRows 36 = .ok (.if_icmp .ge 56, 3) := by decide +kernel
theorem dX3_readRows_39 : decode cX3_readRows 39 = .ok (.aload_n 1, 1) := by decide +kernel
theorem dX3_readRows_40 : decode cX3_readRows 40 = .ok (.aload_n 0, 1) := by decide +kernel
theorem dX3_readRows_41 : decode cX3_readRows 41 = .ok (.getfield 27, 3) := by decide +kernel
theorem dX3_readRows_44 : decode cX3_readRows 44 = .ok (.baload, 1) := by decide +kernel
theorem dX3_readRows_45 : decode cX3_readRows 45 = .ok (.bipush 97, 2) := by decide +kernel
theorem dX3_readRows_47 : decode cX3_readRows 47 = .ok (.if_icmp .eq 14, 3) := by decide +kernel
theorem dX3_readRows_50 : decode cX3_readRows 50 = .ok (.aload_n 1, 1) := by decide +kernel
theorem dX3_readRows_51 : decode cX3_readRows 51 = .ok (.aload_n 0, 1) := by decide +kernel
theorem dX3_readRows_52 : decode cX3_readRows 52 = .ok (.getfield 27, 3) := by decide +kernel
theorem dX3_readRows_55 : decode cX3_readRows 55 = .ok (.baload, 1) := by decide +kernel
theorem dX3_readRows_56 : decode cX3_readRows 56 = .ok (.bipush 98, 2) := by decide +kernel
theorem dX3_readRows_58 : decode cX3_readRows 58 = .ok (.if_icmp .ne 34, 3) := by decide +kernel
theorem dX3_readRows_61 : decode cX3_readRows 61 = .ok (.aload_n 0, 1) := by decide +kernel
theorem dX3_readRows_62 : decode cX3_readRows 62 = .ok (.getfield 11, 3) := by decide +kernel
theorem dX3_readRows_65 : decode cX3_readRows 65 = .ok (.aload_n 0, 1) := by decide +kernel
theorem dX3_readRows_66 : decode cX3_readRows 66 = .ok (.getfield 27, 3) := by decide +kernel
theorem dX3_readRows_69 : decode cX3_readRows 69 = .ok (.aload_n 1, 1) := by decide +kernel
theorem dX3_readRows_70 : decode cX3_readRows 70 = .ok (.aload_n 0, 1) := by decide +kernel
theorem dX3_readRows_71 : decode cX3_readRows 71 = .ok (.getfield 27, 3) := by decide +kernel
theorem dX3_readRows_74 : decode cX3_readRows 74 = .ok (.baload, 1) := by decide +kernel
theorem dX3_readRows_75 : decode cX3_readRows 75 = .ok (.bipush 97, 2) := by decide +kernel
theorem dX3_readRows_77 : decode cX3_readRows 77 = .ok (.isub, 1) := by decide +kernel
theorem dX3_readRows_78 : decode cX3_readRows 78 = .ok (.iastore, 1) := by decide +kernel
theorem dX3_readRows_79 : decode cX3_readRows 79 = .ok (.aload_n 0, 1) := by decide +kernel
theorem dX3_readRows_80 : decode cX3_readRows 80 = .ok (.dup, 1) := by decide +kernel
theorem dX3_readRows_81 : decode cX3_readRows 81 = .ok (.getfield 27, 3) := by decide +kernel
theorem dX3_readRows_84 : decode cX3_readRows 84 = .ok (.iconst 1, 1) := by decide +kernel
theorem dX3_readRows_85 : decode cX3_readRows 85 = .ok (.iadd, 1) := by decide +kernel
theorem dX3_readRows_86 : decode cX3_readRows 86 = .ok (.putfield 27, 3) := by decide +kernel
theorem dX3_readRows_89 : decode cX3_readRows 89 = .ok (.goto (-67), 3) := by decide +kernel
theorem dX3_readRows_92 : decode cX3_readRows 92 = .ok (.aload_n 0, 1) := by decide +kernel
theorem dX3_readRows_93 : decode cX3_readRows 93 = .ok (.getfield 27, 3) := by decide +kernel
theorem dX3_readRows_96 : decode cX3_readRows 96 = .ok (.ifCond .eq 22, 3) := by decide +kernel
theorem dX3_readRows_99 : decode cX3_readRows 99 = .ok (.aload_n 0, 1) := by decide +kernel
theorem dX3_readRows_100 : decode cX3_readRows 100 = .ok (.getfield 27, 3) := by decide +kernel
theorem dX3_readRows_103 : decode cX3_readRows 103 = .ok (.iload_n 3, 1) := by decide +kernel
theorem dX3_readRows_104 : decode cX3_readRows 104 = .ok (.if_icmp .ge 14, 3) := by decide +kernel
theorem dX3_readRows_107 : decode cX3_readRows 107 = .ok (.aload_n 1, 1) := by decide +kernel
theorem dX3_readRows_108 : decode cX3_readRows 108 = .ok (.aload_n 0, 1) := by decide +kernel
theorem dX3_readRows_109 : decode cX3_readRows 109 = .ok (.getfield 27, 3) := by decide +kernel
theorem dX3_readRows_112 : decode cX3_readRows 112 = .ok (.baload, 1) := by decide +kernel
theorem dX3_readRows_113 : decode cX3_readRows 113 = .ok (.bipush 32, 2) := by decide +kernel
theorem dX3_readRows_115 : decode cX3_readRows 115 = .ok (.if_icmp .eq 5, 3) := by decide +kernel
theorem dX3_readRows_118 : decode cX3_readRows 118 = .ok (.iconst 0, 1) := by decide +kernel
theorem dX3_readRows_119 : decode cX3_readRows 119 = .ok (.ireturn, 1) := by decide +kernel
theorem dX3_readRows_120 : decode cX3_readRows 120 = .ok (.aload_n 0, 1) := by decide +kernel
theorem dX3_readRows_121 : decode cX3_readRows 121 = .ok (.getfield 27, 3) := by decide +kernel
theorem dX3_readRows_124 : decode cX3_readRows 124 = .ok (.iconst 1, 1) := by decide +kernel
theorem dX3_readRows_125 : decode cX3_readRows 125 = .ok (.iadd, 1) := by decide +kernel
theorem dX3_readRows_126 : decode cX3_readRows 126 = .ok (.istore 4, 2) := by decide +kernel
theorem dX3_readRows_128 : decode cX3_readRows 128 = .ok (.iload 4, 2) := by decide +kernel
theorem dX3_readRows_130 : decode cX3_readRows 130 = .ok (.iload_n 3, 1) := by decide +kernel
theorem dX3_readRows_131 : decode cX3_readRows 131 = .ok (.if_icmp .ge 22, 3) := by decide +kernel
theorem dX3_readRows_134 : decode cX3_readRows 134 = .ok (.aload_n 0, 1) := by decide +kernel
theorem dX3_readRows_135 : decode cX3_readRows 135 = .ok (.aload_n 1, 1) := by decide +kernel
theorem dX3_readRows_136 : decode cX3_readRows 136 = .ok (.iload 4, 2) := by decide +kernel
theorem dX3_readRows_138 : decode cX3_readRows 138 = .ok (.baload, 1) := by decide +kernel
theorem dX3_readRows_139 : decode cX3_readRows 139 = .ok (.invokevirtual 43, 3) := by decide +kernel
theorem dX3_readRows_142 : decode cX3_readRows 142 = .ok (.ifCond .ne 5, 3) := by decide +kernel
theorem dX3_readRows_145 : decode cX3_readRows 145 = .ok (.iconst 0, 1) := by decide +kernel
theorem dX3_readRows_146 : decode cX3_readRows 146 = .ok (.ireturn, 1) := by decide +kernel
theorem dX3_readRows_147 : decode cX3_readRows 147 = .ok (.iinc 4 1, 3) := by decide +kernel
theorem dX3_readRows_150 : decode cX3_readRows 150 = .ok (.goto (-22), 3) := by decide +kernel
theorem dX3_readRows_153 : decode cX3_readRows 153 = .ok (.aload_n 0, 1) := by decide +kernel
theorem dX3_readRows_154 : decode cX3_readRows 154 = .ok (.getfield 31, 3) := by decide +kernel
theorem dX3_readRows_157 : decode cX3_readRows 157 = .ok (.ifCond .le 7, 3) := by decide +kernel
theorem dX3_readRows_160 : decode cX3_readRows 160 = .ok (.iconst 1, 1) := by decide +kernel
theorem dX3_readRows_161 : decode cX3_readRows 161 = .ok (.goto 4, 3) := by decide +kernel
theorem dX3_readRows_164 : decode cX3_readRows 164 = .ok (.iconst 0, 1) := by decide +kernel
theorem dX3_readRows_165 : decode cX3_readRows 165 = .ok (.ireturn, 1) := by decide +kernel
theorem dX3_isWantRead_0 : decode cX3_isWantRead 0 = .ok (.iload_n 1, 1) := by decide +kernel
theorem dX3_isWantRead_1 : decode cX3_isWantRead 1 = .ok (.bipush 65, 2) := by decide +kernel
theorem dX3_isWantRead_3 : decode cX3_isWantRead 3 = .ok (.if_icmp .lt 18, 3) := by decide +kernel
theorem dX3_isWantRead_6 : decode cX3_isWantRead 6 = .ok (.iload_n 1, 1) := by decide +kernel
theorem dX3_isWantRead_7 : decode cX3_isWantRead 7 = .ok (.bipush 90, 2) := by decide +kernel
theorem dX3_isWantRead_9 : decode cX3_isWantRead 9 = .ok (.if_icmp .gt 12, 3) := by decide +kernel
theorem dX3_isWantRead_12 : decode cX3_isWantRead 12 = .ok (.aload_n 0, 1) := by decide +kernel
theorem dX3_isWantRead_13 : decode cX3_isWantRead 13 = .ok (.getfield 31, 3) := by decide +kernel
theorem dX3_isWantRead_16 : decode cX3_isWantRead 16 = .ok (.bipush 6, 2) := by decide +kernel
theorem dX3_isWantRead_18 : decode cX3_isWantRead 18 = .ok (.if_icmp .lt 5, 3) := by decide +kernel
theorem dX3_isWantRead_21 : decode cX3_isWantRead 21 = .ok (.iconst 0, 1) := by decide +kernel
theorem dX3_isWantRead_22 : decode cX3_isWantRead 22 = .ok (.ireturn, 1) := by decide +kernel
theorem dX3_isWantRead_23 : decode cX3_isWantRead 23 = .ok (.iconst 0, 1) := by decide +kernel
theorem dX3_isWantRead_24 : decode cX3_isWantRead 24 = .ok (.istore_n 2, 1) := by decide +kernel
theorem dX3_isWantRead_25 : decode cX3_isWantRead 25 = .ok (.iload_n 2, 1) := by decide +kernel
theorem dX3_isWantRead_26 : decode cX3_isWantRead 26 = .ok (.aload_n 0, 1) := by decide +kernel
theorem dX3_isWantRead_27 : decode cX3_isWantRead 27 = .ok (.getfield 34, 3) := by decide +kernel
theorem dX3_isWantRead_30 : decode cX3_isWantRead 30 = .ok (.if_icmp .ge 24, 3) := by decide +kernel
theorem dX3_isWantRead_33 : decode cX3_isWantRead 33 = .ok (.iload_n 2, 1) := by decide +kernel
theorem dX3_isWantRead_34 : decode cX3_isWantRead 34 = .ok (.iconst 3, 1) := by decide +kernel
theorem dX3_isWantRead_35 : decode cX3_isWantRead 35 = .ok (.if_icmp .ge 19, 3) := by decide +kernel
theorem dX3_isWantRead_38 : decode cX3_isWantRead 38 = .ok (.aload_n 0, 1) := by decide +kernel
theorem dX3_isWantRead_39 : decode cX3_isWantRead 39 = .ok (.getfield 18, 3) := by decide +kernel
theorem dX3_isWantRead_42 : decode cX3_isWantRead 42 = .ok (.iload_n 2, 1) := by decide +kernel
theorem dX3_isWantRead_43 : decode cX3_isWantRead 43 = .ok (.iaload, 1) := by decide +kernel
theorem dX3_isWantRead_44 : decode cX3_isWantRead 44 = .ok (.iload_n 1, 1) := by decide +kernel
theorem dX3_isWantRead_45 : decode cX3_isWantRead 45 = .ok (.if_icmp .eq 9, 3) := by decide +kernel
theorem dX3_isWantRead_48 : decode cX3_isWantRead 48 = .ok (.iinc 2 1, 3) := by decide +kernel
theorem dX3_isWantRead_51 : decode cX3_isWantRead 51 = .ok (.goto (-26), 3) := by decide +kernel
theorem dX3_isWantRead_54 : decode cX3_isWantRead 54 = .ok (.iload_n 2, 1) := by decide +kernel
theorem dX3_isWantRead_55 : decode cX3_isWantRead 55 = .ok (.iconst 3, 1) := by decide +kernel
theorem dX3_isWantRead_56 : decode cX3_isWantRead 56 = .ok (.if_icmp .lt 5, 3) := by decide +kernel
theorem dX3_isWantRead_59 : decode cX3_isWantRead 59 = .ok (.iconst 0, 1) := by decide +kernel
theorem dX3_isWantRead_60 : decode cX3_isWantRead 60 = .ok (.ireturn, 1) := by decide +kernel
theorem dX3_isWantRead_61 : decode cX3_isWantRead 61 = .ok (.aload_n 0, 1) := by decide +kernel
theorem dX3_isWantRead_62 : decode cX3_isWantRead 62 = .ok (.getfield 18, 3) := by decide +kernel
theorem dX3_isWantRead_65 : decode cX3_isWantRead 65 = .ok (.iload_n 2, 1) := by decide +kernel
theorem dX3_isWantRead_66 : decode cX3_isWantRead 66 = .ok (.iload_n 1, 1) := by decide +kernel
theorem dX3_isWantRead_67 : decode cX3_isWantRead 67 = .ok (.iastore, 1) := by decide +kernel
theorem dX3_isWantRead_68 : decode cX3_isWantRead 68 = .ok (.aload_n 0, 1) := by decide +kernel
theorem dX3_isWantRead_69 : decode cX3_isWantRead 69 = .ok (.aload_n 0, 1) := by decide +kernel
theorem dX3_isWantRead_70 : decode cX3_isWantRead 70 = .ok (.getfield 34, 3) := by decide +kernel
theorem dX3_isWantRead_73 : decode cX3_isWantRead 73 = .ok (.iload_n 2, 1) := by decide +kernel
theorem dX3_isWantRead_74 : decode cX3_isWantRead 74 = .ok (.iconst 1, 1) := by decide +kernel
theorem dX3_isWantRead_75 : decode cX3_isWantRead 75 = .ok (.iadd, 1) := by decide +kernel
theorem dX3_isWantRead_76 : decode cX3_isWantRead 76 = .ok (.invokestatic 47, 3) := by decide +kernel
theorem dX3_isWantRead_79 : decode cX3_isWantRead 79 = .ok (.putfield 34, 3) := by decide +kernel
theorem dX3_isWantRead_82 : decode cX3_isWantRead 82 = .ok (.aload_n 0, 1) := by decide +kernel
theorem dX3_isWantRead_83 : decode cX3_isWantRead 83 = .ok (.getfield 15, 3) := by decide +kernel
theorem dX3_isWantRead_86 : decode cX3_isWantRead 86 = .ok (.aload_n 0, 1) := by decide +kernel
theorem dX3_isWantRead_87 : decode cX3_isWantRead 87 = .ok (.getfield 31, 3) := by decide +kernel
theorem dX3_isWantRead_90 : decode cX3_isWantRead 90 = .ok (.iload_n 2, 1) := by decide +kernel
theorem dX3_isWantRead_91 : decode cX3_isWantRead 91 = .ok (.iastore, 1) := by decide +kernel
theorem dX3_isWantRead_92 : decode cX3_isWantRead 92 = .ok (.aload_n 0, 1) := by decide +kernel
theorem dX3_isWantRead_93 : decode cX3_isWantRead 93 = .ok (.dup, 1) := by decide +kernel
theorem dX3_isWantRead_94 : decode cX3_isWantRead 94 = .ok (.getfield 31, 3) := by decide +kernel
theorem dX3_isWantRead_97 : decode cX3_isWantRead 97 = .ok (.iconst 1, 1) := by decide +kernel
theorem dX3_isWantRead_98 : decode cX3_isWantRead 98 = .ok (.iadd, 1) := by decide +kernel
theorem dX3_isWantRead_99 : decode cX3_isWantRead 99 = .ok (.putfield 31, 3) := by decide +kernel
theorem dX3_isWantRead_102 : decode cX3_isWantRead 102 = .ok (.iconst 1, 1) := by decide +kernel
theorem dX3_isWantRead_103 : decode cX3_isWantRead 103 = .ok (.ireturn, 1) := by decide +kernel
theorem dX3_findWays_0 : decode cX3_findWays 0 = .ok (.aload_n 0, 1) := by decide +kernel
theorem dX3_findWays_1 : decode cX3_findWays 1 = .ok (.iconst 0, 1) := by decide +kernel
theorem dX3_findWays_2 : decode cX3_findWays 2 = .ok (.putfield 50, 3) := by decide +kernel
theorem dX3_findWays_5 : decode cX3_findWays 5 = .ok (.aload_n 0, 1) := by decide +kernel
theorem dX3_findWays_6 : decode cX3_findWays 6 = .ok (.iconst 0, 1) := by decide +kernel
theorem dX3_findWays_7 : decode cX3_findWays 7 = .ok (.invokevirtual 53, 3) := by decide +kernel
theorem dX3_findWays_10 : decode cX3_findWays 10 = .ok (.return_, 1) := by decide +kernel
theorem dX3_tryWords_0 : decode cX3_tryWords 0 = .ok (.iload_n 1, 1) := by decide +kernel
theorem dX3_tryWords_1 : decode cX3_tryWords 1 = .ok (.aload_n 0, 1) := by decide +kernel
theorem dX3_tryWords_2 : decode cX3_tryWords 2 = .ok (.getfield 34, 3) := by decide +kernel
theorem dX3_tryWords_5 : decode cX3_tryWords 5 = .ok (.if_icmp .ge 8, 3) := by decide +kernel
theorem dX3_tryWords_8 : decode cX3_tryWords 8 = .ok (.iload_n 1, 1) := by decide +kernel
theorem dX3_tryWords_9 : decode cX3_tryWords 9 = .ok (.iconst 3, 1) := by decide +kernel
theorem dX3_tryWords_10 : decode cX3_tryWords 10 = .ok (.if_icmp .lt 8, 3) := by decide +kernel
theorem dX3_tryWords_13 : decode cX3_tryWords 13 = .ok (.aload_n 0, 1) := by decide +kernel
theorem dX3_tryWords_14 : decode cX3_tryWords 14 = .ok (.invokevirtual 57, 3) := by decide +kernel
theorem dX3_tryWords_17 : decode cX3_tryWords 17 = .ok (.return_, 1) := by decide +kernel
theorem dX3_tryWords_18 : decode cX3_tryWords 18 = .ok (.iconst 2, 1) := by decide +kernel
theorem dX3_tryWords_19 : decode cX3_tryWords 19 = .ok (.istore_n 2, 1) := by decide +kernel
theorem dX3_tryWords_20 : decode cX3_tryWords 20 = .ok (.iload_n 2, 1) := by decide +kernel
theorem dX3_tryWords_21 : decode cX3_tryWords 21 = .ok (.bipush 15, 2) := by decide +kernel
theorem dX3_tryWords_23 : decode cX3_tryWords 23 = .ok (.if_icmp .gt 40, 3) := by decide +kernel
theorem dX3_tryWords_26 : decode cX3_tryWords 26 = .ok (.aload_n 0, 1) := by decide +kernel
theorem dX3_tryWords_27 : decode cX3_tryWords 27 = .ok (.getfield 21, 3) := by decide +kernel
theorem dX3_tryWords_30 : decode cX3_tryWords 30 = .ok (.iload_n 1, 1) := by decide +kernel
theorem dX3_tryWords_31 : decode cX3_tryWords 31 = .ok (.iload_n 2, 1) := by decide +kernel
theorem dX3_tryWords_32 : decode cX3_tryWords 32 = .ok (.iastore, 1) := by decide +kernel
theorem dX3_tryWords_33 : decode cX3_tryWords 33 = .ok (.aload_n 0, 1) := by decide +kernel
theorem dX3_tryWords_34 : decode cX3_tryWords 34 = .ok (.iload_n 2, 1) := by decide +kernel
theorem dX3_tryWords_35 : decode cX3_tryWords 35 = .ok (.iload_n 1, 1) := by decide +kernel
theorem dX3_tryWords_36 : decode cX3_tryWords 36 = .ok (.invokevirtual 60, 3) := by decide +kernel
theorem dX3_tryWords_39 : decode cX3_tryWords 39 = .ok (.ifCond .eq 18, 3) := by decide +kernel
theorem dX3_tryWords_42 : decode cX3_tryWords 42 = .ok (.aload_n 0, 1) := by decide +kernel
theorem dX3_tryWords_43 : decode cX3_tryWords 43 = .ok (.iload_n 1, 1) := by decide +kernel
theorem dX3_tryWords_44 : decode cX3_tryWords 44 = .ok (.invokevirtual 64, 3) := by decide +kernel
theorem dX3_tryWords_47 : decode cX3_tryWords 47 = .ok (.ifCond .eq 10, 3) := by decide +kernel
theorem dX3_tryWords_50 : decode cX3_tryWords 50 = .ok (.aload_n 0, 1) := by decide +kernel
theorem dX3_tryWords_51 : decode cX3_tryWords 51 = .ok (.iload_n 1, 1) := by decide +kernel
theorem dX3_tryWords_52 : decode cX3_tryWords 52 = .ok (.iconst 1, 1) := by decide +kernel
theorem dX3_tryWords_53 : decode cX3_tryWords 53 = .ok (.iadd, 1) := by decide +kernel
theorem dX3_tryWords_54 : decode cX3_tryWords 54 = .ok (.invokevirtual 53, 3) := by decide +kernel
theorem dX3_tryWords_57 : decode cX3_tryWords 57 = .ok (.iinc 2 1, 3) := by decide +kernel
theorem dX3_tryWords_60 : decode cX3_tryWords 60 = .ok (.goto (-40), 3) := by decide +kernel
theorem dX3_tryWords_63 : decode cX3_tryWords 63 = .ok (.return_, 1) := by decide +kernel
theorem dX3_isNew_0 : decode cX3_isNew 0 = .ok (.iconst 0, 1) := by decide +kernel
theorem dX3_isNew_1 : decode cX3_isNew 1 = .ok (.istore_n 3, 1) := by decide +kernel
theorem dX3_isNew_2 : decode cX3_isNew 2 = .ok (.iload_n 3, 1) := by decide +kernel
theorem dX3_isNew_3 : decode cX3_isNew 3 = .ok (.iload_n 2, 1) := by decide +kernel
theorem dX3_isNew_4 : decode cX3_isNew 4 = .ok (.if_icmp .ge 21, 3) := by decide +kernel
theorem dX3_isNew_7 : decode cX3_isNew 7 = .ok (.aload_n 0, 1) := by decide +kernel
theorem dX3_isNew_8 : decode cX3_isNew 8 = .ok (.getfield 21, 3) := by decide +kernel
theorem dX3_isNew_11 : decode cX3_isNew 11 = .ok (.iload_n 3, 1) := by decide +kernel
theorem dX3_isNew_12 : decode cX3_isNew 12 = .ok (.iaload, 1) := by decide +kernel
theorem dX3_isNew_13 : decode cX3_isNew 13 = .ok (.iload_n 1, 1) := by decide +kernel
theorem dX3_isNew_14 : decode cX3_isNew 14 = .ok (.if_icmp .ne 5, 3) := by decide +kernel
theorem dX3_isNew_17 : decode cX3_isNew 17 = .ok (.iconst 0, 1) := by decide +kernel
theorem dX3_isNew_18 : decode cX3_isNew 18 = .ok (.ireturn, 1) := by decide +kernel
theorem dX3_isNew_19 : decode cX3_isNew 19 = .ok (.iinc 3 1, 3) := by decide +kernel
theorem dX3_isNew_22 : decode cX3_isNew 22 = .ok (.goto (-20), 3) := by decide +kernel
theorem dX3_isNew_25 : decode cX3_isNew 25 = .ok (.iconst 1, 1) := by decide +kernel
theorem dX3_isNew_26 : decode cX3_isNew 26 = .ok (.ireturn, 1) := by decide +kernel
theorem dX3_keepWay_0 : decode cX3_keepWay 0 = .ok (.aload_n 0, 1) := by decide +kernel
theorem dX3_keepWay_1 : decode cX3_keepWay 1 = .ok (.getfield 50, 3) := by decide +kernel
theorem dX3_keepWay_4 : decode cX3_keepWay 4 = .ok (.ifCond .ne 17, 3) := by decide +kernel
theorem dX3_keepWay_7 : decode cX3_keepWay 7 = .ok (.aload_n 0, 1) := by decide +kernel
theorem dX3_keepWay_8 : decode cX3_keepWay 8 = .ok (.getfield 21, 3) := by decide +kernel
theorem dX3_keepWay_11 : decode cX3_keepWay 11 = .ok (.iconst 0, 1) := by decide +kernel
theorem dX3_keepWay_12 : decode cX3_keepWay 12 = .ok (.aload_n 0, 1) := by decide +kernel
theorem dX3_keepWay_13 : decode cX3_keepWay 13 = .ok (.getfield 24, 3) := by decide +kernel
theorem dX3_keepWay_16 : decode cX3_keepWay 16 = .ok (.iconst 0, 1) := by decide +kernel
theorem dX3_keepWay_17 : decode cX3_keepWay 17 = .ok (.iconst 3, 1) := by decide +kernel
theorem dX3_keepWay_18 : decode cX3_keepWay 18 = .ok (.invokestatic 67, 3) := by decide +kernel
theorem dX3_keepWay_21 : decode cX3_keepWay 21 = .ok (.aload_n 0, 1) := by decide +kernel
theorem dX3_keepWay_22 : decode cX3_keepWay 22 = .ok (.dup, 1) := by decide +kernel
theorem dX3_keepWay_23 : decode cX3_keepWay 23 = .ok (.getfield 50, 3) := by decide +kernel
theorem dX3_keepWay_26 : decode cX3_keepWay 26 = .ok (.iconst 1, 1) := by decide +kernel
theorem dX3_keepWay_27 : decode cX3_keepWay 27 = .ok (.iadd, 1) := by decide +kernel
theorem dX3_keepWay_28 : decode cX3_keepWay 28 = .ok (.putfield 50, 3) := by decide +kernel
theorem dX3_keepWay_31 : decode cX3_keepWay 31 = .ok (.return_, 1) := by decide +kernel
theorem dX3_isFitting_0 : decode cX3_isFitting 0 = .ok (.iconst 0, 1) := by decide +kernel
theorem dX3_isFitting_1 : decode cX3_isFitting 1 = .ok (.istore_n 2, 1) := by decide +kernel
theorem dX3_isFitting_2 : decode cX3_isFitting 2 = .ok (.iconst 0, 1) := by decide +kernel
theorem dX3_isFitting_3 : decode cX3_isFitting 3 = .ok (.istore_n 3, 1) := by decide +kernel
theorem dX3_isFitting_4 : decode cX3_isFitting 4 = .ok (.iload_n 3, 1) := by decide +kernel
theorem dX3_isFitting_5 : decode cX3_isFitting 5 = .ok (.aload_n 0, 1) := by decide +kernel
theorem dX3_isFitting_6 : decode cX3_isFitting 6 = .ok (.getfield 31, 3) := by decide +kernel
theorem dX3_isFitting_9 : decode cX3_isFitting 9 = .ok (.if_icmp .ge 95, 3) := by decide +kernel
theorem dX3_isFitting_12 : decode cX3_isFitting 12 = .ok (.iload_n 3, 1) := by decide +kernel
theorem dX3_isFitting_13 : decode cX3_isFitting 13 = .ok (.bipush 6, 2) := by decide +kernel
theorem dX3_isFitting_15 : decode cX3_isFitting 15 = .ok (.if_icmp .ge 89, 3) := by decide +kernel
theorem dX3_isFitting_18 : decode cX3_isFitting 18 = .ok (.aload_n 0, 1) := by decide +kernel
theorem dX3_isFitting_19 : decode cX3_isFitting 19 = .ok (.getfield 15, 3) := by decide +kernel
theorem dX3_isFitting_22 : decode cX3_isFitting 22 = .ok (.iload_n 3, 1) := by decide +kernel
theorem dX3_isFitting_23 : decode cX3_isFitting 23 = .ok (.iaload, 1) := by decide +kernel
theorem dX3_isFitting_24 : decode cX3_isFitting 24 = .ok (.iload_n 1, 1) := by decide +kernel
theorem dX3_isFitting_25 : decode cX3_isFitting 25 = .ok (.if_icmp .le 5, 3) := by decide +kernel
theorem dX3_isFitting_28 : decode cX3_isFitting 28 = .ok (.iconst 1, 1) := by decide +kernel
theorem dX3_isFitting_29 : decode cX3_isFitting 29 = .ok (.ireturn, 1) := by decide +kernel
theorem dX3_isFitting_30 : decode cX3_isFitting 30 = .ok (.aload_n 0, 1) := by decide +kernel
theorem dX3_isFitting_31 : decode cX3_isFitting 31 = .ok (.getfield 21, 3) := by decide +kernel
theorem dX3_isFitting_34 : decode cX3_isFitting 34 = .ok (.aload_n 0, 1) := by decide +kernel
theorem dX3_isFitting_35 : decode cX3_isFitting 35 = .ok (.getfield 15, 3) := by decide +kernel
theorem dX3_isFitting_38 : decode cX3_isFitting 38 = .ok (.iload_n 3, 1) := by decide +kernel
theorem dX3_isFitting_39 : decode cX3_isFitting 39 = .ok (.iaload, 1) := by decide +kernel
theorem dX3_isFitting_40 : decode cX3_isFitting 40 = .ok (.iaload, 1) := by decide +kernel
theorem dX3_isFitting_41 : decode cX3_isFitting 41 = .ok (.istore 4, 2) := by decide +kernel
theorem dX3_isFitting_43 : decode cX3_isFitting 43 = .ok (.iload 4, 2) := by decide +kernel
theorem dX3_isFitting_45 : decode cX3_isFitting 45 = .ok (.invokestatic 73, 3) := by decide +kernel
theorem dX3_isFitting_48 : decode cX3_isFitting 48 = .ok (.iconst 1, 1) := by decide +kernel
theorem dX3_isFitting_49 : decode cX3_isFitting 49 = .ok (.isub, 1) := by decide +kernel
theorem dX3_isFitting_50 : decode cX3_isFitting 50 = .ok (.istore 5, 2) := by decide +kernel
theorem dX3_isFitting_52 : decode cX3_isFitting 52 = .ok (.iload 5, 2) := by decide +kernel
theorem dX3_isFitting_54 : decode cX3_isFitting 54 = .ok (.ifCond .lt 44, 3) := by decide +kernel
theorem dX3_isFitting_57 : decode cX3_isFitting 57 = .ok (.iload_n 2, 1) := by decide +kernel
theorem dX3_isFitting_58 : decode cX3_isFitting 58 = .ok (.aload_n 0, 1) := by decide +kernel
theorem dX3_isFitting_59 : decode cX3_isFitting 59 = .ok (.getfield 27, 3) := by decide +kernel
theorem dX3_isFitting_62 : decode cX3_isFitting 62 = .ok (.if_icmp .ge 25, 3) := by decide +kernel
theorem dX3_isFitting_65 : decode cX3_isFitting 65 = .ok (.iload_n 2, 1) := by decide +kernel
theorem dX3_isFitting_66 : decode cX3_isFitting 66 = .ok (.bipush 20, 2) := by decide +kernel
theorem dX3_isFitting_68 : decode cX3_isFitting 68 = .ok (.if_icmp .ge 19, 3) := by decide +kernel
theorem dX3_isFitting_71 : decode cX3_isFitting 71 = .ok (.aload_n 0, 1) := by decide +kernel
theorem dX3_isFitting_72 : decode cX3_isFitting 72 = .ok (.getfield 11, 3) := by decide +kernel
theorem dX3_isFitting_75 : decode cX3_isFitting 75 = .ok (.iload_n 2, 1) := by decide +kernel
theorem dX3_isFitting_76 : decode cX3_isFitting 76 = .ok (.iaload, 1) := by decide +kernel
theorem dX3_isFitting_77 : decode cX3_isFitting 77 = .ok (.iload 4, 2) := by decide +kernel
theorem dX3_isFitting_79 : decode cX3_isFitting 79 = .ok (.iload 5, 2) := by decide +kernel
theorem dX3_isFitting_81 : decode cX3_isFitting 81 = .ok (.ishr, 1) := by decide +kernel
theorem dX3_isFitting_82 : decode cX3_isFitting 82 = .ok (.iconst 1, 1) := by decide +kernel
theorem dX3_isFitting_83 : decode cX3_isFitting 83 = .ok (.iand, 1) := by decide +kernel
theorem dX3_isFitting_84 : decode cX3_isFitting 84 = .ok (.if_icmp .eq 5, 3) := by decide +kernel
theorem dX3_isFitting_87 : decode cX3_isFitting 87 = .ok (.iconst 0, 1) := by decide +kernel
theorem dX3_isFitting_88 : decode cX3_isFitting 88 = .ok (.ireturn, 1) := by decide +kernel
theorem dX3_isFitting_89 : decode cX3_isFitting 89 = .ok (.iinc 2 1, 3) := by decide +kernel
theorem dX3_isFitting_92 : decode cX3_isFitting 92 = .ok (.iinc 5 (-1), 3) := by decide +kernel
theorem dX3_isFitting_95 : decode cX3_isFitting 95 = .ok (.goto (-43), 3) := by decide +kernel
theorem dX3_isFitting_98 : decode cX3_isFitting 98 = .ok (.iinc 3 1, 3) := by decide +kernel
theorem dX3_isFitting_101 : decode cX3_isFitting 101 = .ok (.goto (-97), 3) := by decide +kernel
theorem dX3_isFitting_104 : decode cX3_isFitting 104 = .ok (.iload_n 2, 1) := by decide +kernel
theorem dX3_isFitting_105 : decode cX3_isFitting 105 = .ok (.aload_n 0, 1) := by decide +kernel
theorem dX3_isFitting_106 : decode cX3_isFitting 106 = .ok (.getfield 27, 3) := by decide +kernel
theorem dX3_isFitting_109 : decode cX3_isFitting 109 = .ok (.if_icmp .ne 7, 3) := by decide +kernel
theorem dX3_isFitting_112 : decode cX3_isFitting 112 = .ok (.iconst 1, 1) := by decide +kernel
theorem dX3_isFitting_113 : decode cX3_isFitting 113 = .ok (.goto 4, 3) := by decide +kernel
theorem dX3_isFitting_116 : decode cX3_isFitting 116 = .ok (.iconst 0, 1) := by decide +kernel
theorem dX3_isFitting_117 : decode cX3_isFitting 117 = .ok (.ireturn, 1) := by decide +kernel
theorem dX3_firstWordOf_0 : decode cX3_firstWordOf 0 = .ok (.aload_n 0, 1) := by decide +kernel
theorem dX3_firstWordOf_1 : decode cX3_firstWordOf 1 = .ok (.getfield 50, 3) := by decide +kernel
theorem dX3_firstWordOf_4 : decode cX3_firstWordOf 4 = .ok (.ifCond .le 21, 3) := by decide +kernel
theorem dX3_firstWordOf_7 : decode cX3_firstWordOf 7 = .ok (.iload_n 1, 1) := by decide +kernel
theorem dX3_firstWordOf_8 : decode cX3_firstWordOf 8 = .ok (.ifCond .lt 17, 3) := by decide +kernel
theorem dX3_firstWordOf_11 : decode cX3_firstWordOf 11 = .ok (.iload_n 1, 1) := by decide +kernel
theorem dX3_firstWordOf_12 : decode cX3_firstWordOf 12 = .ok (.iconst 3, 1) := by decide +kernel
theorem dX3_firstWordOf_13 : decode cX3_firstWordOf 13 = .ok (.if_icmp .ge 12, 3) := by decide +kernel
theorem dX3_firstWordOf_16 : decode cX3_firstWordOf 16 = .ok (.aload_n 0, 1) := by decide +kernel
theorem dX3_firstWordOf_17 : decode cX3_firstWordOf 17 = .ok (.getfield 24, 3) := by decide +kernel
theorem dX3_firstWordOf_20 : decode cX3_firstWordOf 20 = .ok (.iload_n 1, 1) := by decide +kernel
theorem dX3_firstWordOf_21 : decode cX3_firstWordOf 21 = .ok (.iaload, 1) := by decide +kernel
theorem dX3_firstWordOf_22 : decode cX3_firstWordOf 22 = .ok (.goto 4, 3) := by decide +kernel
theorem dX3_firstWordOf_25 : decode cX3_firstWordOf 25 = .ok (.iconst (-1), 1) := by decide +kernel
theorem dX3_firstWordOf_26 : decode cX3_firstWordOf 26 = .ok (.ireturn, 1) := by decide +kernel
theorem dX4_init_0 : decode cX4_init 0 = .ok (.aload_n 0, 1) := by decide +kernel
theorem dX4_init_1 : decode cX4_init 1 = .ok (.invokespecial 3, 3) := by decide +kernel
theorem dX4_init_4 : decode cX4_init 4 = .ok (.aload_n 0, 1) := by decide +kernel
theorem dX4_init_5 : decode cX4_init 5 = .ok (.iconst 0, 1) := by decide +kernel
theorem dX4_init_6 : decode cX4_init 6 = .ok (.newarray .byte, 2) := by decide +kernel
theorem dX4_init_8 : decode cX4_init 8 = .ok (.putfield 9, 3) := by decide +kernel
theorem dX4_init_11 : decode cX4_init 11 = .ok (.return_, 1) := by decide +kernel
theorem dX4_open_0 : decode cX4_open 0 = .ok (.aload_n 0, 1) := by decide +kernel
theorem dX4_open_1 : decode cX4_open 1 = .ok (.aload_n 1, 1) := by decide +kernel
theorem dX4_open_2 : decode cX4_open 2 = .ok (.putfield 9, 3) := by decide +kernel
theorem dX4_open_5 : decode cX4_open 5 = .ok (.aload_n 0, 1) := by decide +kernel
theorem dX4_open_6 : decode cX4_open 6 = .ok (.iload_n 2, 1) := by decide +kernel
theorem dX4_open_7 : decode cX4_open 7 = .ok (.aload_n 1, 1) := by decide +kernel
theorem dX4_open_8 : decode cX4_open 8 = .ok (.arraylength, 1) := by decide +kernel
theorem dX4_open_9 : decode cX4_open 9 = .ok (.invokestatic 15, 3) := by decide +kernel
theorem dX4_open_12 : decode cX4_open 12 = .ok (.putfield 21, 3) := by decide +kernel
theorem dX4_open_15 : decode cX4_open 15 = .ok (.aload_n 0, 1) := by decide +kernel
theorem dX4_open_16 : decode cX4_open 16 = .ok (.iconst 0, 1) := by decide +kernel
theorem dX4_open_17 : decode cX4_open 17 = .ok (.putfield 25, 3) := by decide +kernel
theorem dX4_open_20 : decode cX4_open 20 = .ok (.aload_n 0, 1) := by decide +kernel
theorem dX4_open_21 : decode cX4_open 21 = .ok (.iconst (-1), 1) := by decide +kernel
theorem dX4_open_22 : decode cX4_open 22 = .ok (.putfield 28, 3) := by decide +kernel
theorem dX4_open_25 : decode cX4_open 25 = .ok (.aload_n 0, 1) := by decide +kernel
theorem dX4_open_26 : decode cX4_open 26 = .ok (.invokevirtual 31, 3) := by decide +kernel
theorem dX4_open_29 : decode cX4_open 29 = .ok (.return_, 1) := by decide +kernel
theorem dX4_step_0 : decode cX4_step 0 = .ok (.aload_n 0, 1) := by decide +kernel
theorem dX4_step_1 : decode cX4_step 1 = .ok (.aload_n 0, 1) := by decide +kernel
theorem dX4_step_2 : decode cX4_step 2 = .ok (.getfield 25, 3) := by decide +kernel
theorem dX4_step_5 : decode cX4_step 5 = .ok (.putfield 34, 3) := by decide +kernel
theorem dX4_step_8 : decode cX4_step 8 = .ok (.aload_n 0, 1) := by decide +kernel
theorem dX4_step_9 : decode cX4_step 9 = .ok (.getfield 34, 3) := by decide +kernel
theorem dX4_step_12 : decode cX4_step 12 = .ok (.aload_n 0, 1) := by decide +kernel
theorem dX4_step_13 : decode cX4_step 13 = .ok (.getfield 21, 3) := by decide +kernel
theorem dX4_step_16 : decode cX4_step 16 = .ok (.if_icmp .ge 30, 3) := by decide +kernel
theorem dX4_step_19 : decode cX4_step 19 = .ok (.aload_n 0, 1) := by decide +kernel
theorem dX4_step_20 : decode cX4_step 20 = .ok (.getfield 9, 3) := by decide +kernel
theorem dX4_step_23 : decode cX4_step 23 = .ok (.aload_n 0, 1) := by decide +kernel
theorem dX4_step_24 : decode cX4_step 24 = .ok (.getfield 34, 3) := by decide +kernel
theorem dX4_step_27 : decode cX4_step 27 = .ok (.baload, 1) := by decide +kernel
theorem dX4_step_28 : decode cX4_step 28 = .ok (.bipush 32, 2) := by decide +kernel
theorem dX4_step_30 : decode cX4_step 30 = .ok (.if_icmp .ne 16, 3) := by decide +kernel
theorem dX4_step_33 : decode cX4_step 33 = .ok (.aload_n 0, 1) := by decide +kernel
theorem dX4_step_34 : decode cX4_step 34 = .ok (.dup, 1) := by decide +kernel
theorem dX4_step_35 : decode cX4_step 35 = .ok (.getfield 34, 3) := by decide +kernel
theorem dX4_step_38 : decode cX4_step 38 = .ok (.iconst 1, 1) := by decide +kernel
theorem dX4_step_39 : decode cX4_step 39 = .ok (.iadd, 1) := by decide +kernel
theorem dX4_step_40 : decode cX4_step 40 = .ok (.putfield 34, 3) := by decide +kernel
theorem dX4_step_43 : decode cX4_step 43 = .ok (.goto (-35), 3) := by decide +kernel
theorem dX4_step_46 : decode cX4_step 46 = .ok (.aload_n 0, 1) := by decide +kernel
theorem dX4_step_47 : decode cX4_step 47 = .ok (.aload_n 0, 1) := by decide +kernel
theorem dX4_step_48 : decode cX4_step 48 = .ok (.getfield 34, 3) := by decide +kernel
theorem dX4_step_51 : decode cX4_step 51 = .ok (.putfield 25, 3) := by decide +kernel
theorem dX4_step_54 : decode cX4_step 54 = .ok (.aload_n 0, 1) := by decide +kernel
theorem dX4_step_55 : decode cX4_step 55 = .ok (.aload_n 0, 1) := by decide +kernel
theorem dX4_step_56 : decode cX4_step 56 = .ok (.getfield 34, 3) := by decide +kernel
theorem dX4_step_59 : decode cX4_step 59 = .ok (.aload_n 0, 1) := by decide +kernel
theorem dX4_step_60 : decode cX4_step 60 = .ok (.getfield 21, 3) := by decide +kernel
theorem dX4_step_63 : decode cX4_step 63 = .ok (.if_icmp .ge 18, 3) := by decide +kernel
theorem dX4_step_66 : decode cX4_step 66 = .ok (.aload_n 0, 1) := by decide +kernel
theorem dX4_step_67 : decode cX4_step 67 = .ok (.getfield 9, 3) := by decide +kernel
theorem dX4_step_70 : decode cX4_step 70 = .ok (.aload_n 0, 1) := by decide +kernel
theorem dX4_step_71 : decode cX4_step 71 = .ok (.getfield 34, 3) := by decide +kernel
theorem dX4_step_74 : decode cX4_step 74 = .ok (.baload, 1) := by decide +kernel
theorem dX4_step_75 : decode cX4_step 75 = .ok (.invokestatic 37, 3) := by decide +kernel
theorem dX4_step_78 : decode cX4_step 78 = .ok (.goto 4, 3) := by decide +kernel
theorem dX4_step_81 : decode cX4_step 81 = .ok (.iconst (-1), 1) := by decide +kernel
theorem dX4_step_82 : decode cX4_step 82 = .ok (.putfield 41, 3) := by decide +kernel
theorem dX4_step_85 : decode cX4_step 85 = .ok (.aload_n 0, 1) := by decide +kernel
theorem dX4_step_86 : decode cX4_step 86 = .ok (.getfield 34, 3) := by decide +kernel
theorem dX4_step_89 : decode cX4_step 89 = .ok (.aload_n 0, 1) := by decide +kernel
theorem dX4_step_90 : decode cX4_step 90 = .ok (.getfield 21, 3) := by decide +kernel
theorem dX4_step_93 : decode cX4_step 93 = .ok (.if_icmp .ge 13, 3) := by decide +kernel
theorem dX4_step_96 : decode cX4_step 96 = .ok (.aload_n 0, 1) := by decide +kernel
theorem dX4_step_97 : decode cX4_step 97 = .ok (.dup, 1) := by decide +kernel
theorem dX4_step_98 : decode cX4_step 98 = .ok (.getfield 25, 3) := by decide +kernel
theorem dX4_step_101 : decode cX4_step 101 = .ok (.iconst 1, 1) := by decide +kernel
theorem dX4_step_102 : decode cX4_step 102 = .ok (.iadd, 1) := by decide +kernel
theorem dX4_step_103 : decode cX4_step 103 = .ok (.putfield 25, 3) := by decide +kernel
theorem dX4_step_106 : decode cX4_step 106 = .ok (.aload_n 0, 1) := by decide +kernel
theorem dX4_step_107 : decode cX4_step 107 = .ok (.getfield 25, 3) := by decide +kernel
theorem dX4_step_110 : decode cX4_step 110 = .ok (.aload_n 0, 1) := by decide +kernel
theorem dX4_step_111 : decode cX4_step 111 = .ok (.getfield 21, 3) := by decide +kernel
theorem dX4_step_114 : decode cX4_step 114 = .ok (.if_icmp .ge 53, 3) := by decide +kernel
theorem dX4_step_117 : decode cX4_step 117 = .ok (.aload_n 0, 1) := by decide +kernel
theorem dX4_step_118 : decode cX4_step 118 = .ok (.getfield 41, 3) := by decide +kernel
theorem dX4_step_121 : decode cX4_step 121 = .ok (.bipush 97, 2) := by decide +kernel
theorem dX4_step_123 : decode cX4_step 123 = .ok (.if_icmp .eq 12, 3) := by decide +kernel
theorem dX4_step_126 : decode cX4_step 126 = .ok (.aload_n 0, 1) := by decide +kernel
theorem dX4_step_127 : decode cX4_step 127 = .ok (.getfield 41, 3) := by decide +kernel
theorem dX4_step_130 : decode cX4_step 130 = .ok (.bipush 48, 2) := by decide +kernel
theorem dX4_step_132 : decode cX4_step 132 = .ok (.if_icmp .ne 35, 3) := by decide +kernel
theorem dX4_step_135 : decode cX4_step 135 = .ok (.aload_n 0, 1) := by decide +kernel
theorem dX4_step_136 : decode cX4_step 136 = .ok (.getfield 9, 3) := by decide +kernel
theorem dX4_step_139 : decode cX4_step 139 = .ok (.aload_n 0, 1) := by decide +kernel
theorem dX4_step_140 : decode cX4_step 140 = .ok (.getfield 25, 3) := by decide +kernel
theorem dX4_step_143 : decode cX4_step 143 = .ok (.baload, 1) := by decide +kernel
theorem dX4_step_144 : decode cX4_step 144 = .ok (.invokestatic 37, 3) := by decide +kernel
theorem dX4_step_147 : decode cX4_step 147 = .ok (.aload_n 0, 1) := by decide +kernel
theorem dX4_step_148 : decode cX4_step 148 = .ok (.getfield 41, 3) := by decide +kernel
theorem dX4_step_151 : decode cX4_step 151 = .ok (.if_icmp .ne 16, 3) := by decide +kernel
theorem dX4_step_154 : decode cX4_step 154 = .ok (.aload_n 0, 1) := by decide +kernel
theorem dX4_step_155 : decode cX4_step 155 = .ok (.dup, 1) := by decide +kernel
theorem dX4_step_156 : decode cX4_step 156 = .ok (.getfield 25, 3) := by decide +kernel
theorem dX4_step_159 : decode cX4_step 159 = .ok (.iconst 1, 1) := by decide +kernel
theorem dX4_step_160 : decode cX4_step 160 = .ok (.iadd, 1) := by decide +kernel
theorem dX4_step_161 : decode cX4_step 161 = .ok (.putfield 25, 3) := by decide +kernel
theorem dX4_step_164 : decode cX4_step 164 = .ok (.goto (-58), 3) := by decide +kernel
theorem dX4_step_167 : decode cX4_step 167 = .ok (.return_, 1) := by decide +kernel
theorem dX4_kindOf_0 : decode cX4_kindOf 0 = .ok (.iload_n 0, 1) := by decide +kernel
theorem dX4_kindOf_1 : decode cX4_kindOf 1 = .ok (.bipush 97, 2) := by decide +kernel
theorem dX4_kindOf_3 : decode cX4_kindOf 3 = .ok (.if_icmp .lt 12, 3) := by decide +kernel
theorem dX4_kindOf_6 : decode cX4_kindOf 6 = .ok (.iload_n 0, 1) := by decide +kernel
theorem dX4_kindOf_7 : decode cX4_kindOf 7 = .ok (.bipush 122, 2) := by decide +kernel
theorem dX4_kindOf_9 : decode cX4_kindOf 9 = .ok (.if_icmp .gt 6, 3) := by decide +kernel
theorem dX4_kindOf_12 : decode cX4_kindOf 12 = .ok (.bipush 97, 2) := by decide +kernel
theorem dX4_kindOf_14 : decode cX4_kindOf 14 = .ok (.ireturn, 1) := by decide +kernel
theorem dX4_kindOf_15 : decode cX4_kindOf 15 = .ok (.iload_n 0, 1) := by decide +kernel
theorem dX4_kindOf_16 : decode cX4_kindOf 16 = .ok (.bipush 48, 2) := by decide +kernel
theorem dX4_kindOf_18 : decode cX4_kindOf 18 = .ok (.if_icmp .lt 14, 3) := by decide +kernel
theorem dX4_kindOf_21 : decode cX4_kindOf 21 = .ok (.iload_n 0, 1) := by decide +kernel
theorem dX4_kindOf_22 : decode cX4_kindOf 22 = .ok (.bipush 57, 2) := by decide +kernel
theorem dX4_kindOf_24 : decode cX4_kindOf 24 = .ok (.if_icmp .gt 8, 3) := by decide +kernel
theorem dX4_kindOf_27 : decode cX4_kindOf 27 = .ok (.bipush 48, 2) := by decide +kernel
theorem dX4_kindOf_29 : decode cX4_kindOf 29 = .ok (.goto 8, 3) := by decide +kernel
theorem dX4_kindOf_32 : decode cX4_kindOf 32 = .ok (.iload_n 0, 1) := by decide +kernel
theorem dX4_kindOf_33 : decode cX4_kindOf 33 = .ok (.sipush 255, 3) := by decide +kernel
theorem dX4_kindOf_36 : decode cX4_kindOf 36 = .ok (.iand, 1) := by decide +kernel
theorem dX4_kindOf_37 : decode cX4_kindOf 37 = .ok (.ireturn, 1) := by decide +kernel
theorem dX4_isAtLine_0 : decode cX4_isAtLine 0 = .ok (.aload_n 0, 1) := by decide +kernel
theorem dX4_isAtLine_1 : decode cX4_isAtLine 1 = .ok (.getfield 28, 3) := by decide +kernel
theorem dX4_isAtLine_4 : decode cX4_isAtLine 4 = .ok (.iconst (-1), 1) := by decide +kernel
theorem dX4_isAtLine_5 : decode cX4_isAtLine 5 = .ok (.if_icmp .ne 14, 3) := by decide +kernel
theorem dX4_isAtLine_8 : decode cX4_isAtLine 8 = .ok (.aload_n 0, 1) := by decide +kernel
theorem dX4_isAtLine_9 : decode cX4_isAtLine 9 = .ok (.getfield 34, 3) := by decide +kernel
theorem dX4_isAtLine_12 : decode cX4_isAtLine 12 = .ok (.aload_n 0, 1) := by decide +kernel
theorem dX4_isAtLine_13 : decode cX4_isAtLine 13 = .ok (.getfield 21, 3) := by decide +kernel
theorem dX4_isAtLine_16 : decode cX4_isAtLine 16 = .ok (.if_icmp .lt 5, 3) := by decide +kernel
theorem dX4_isAtLine_19 : decode cX4_isAtLine 19 = .ok (.iconst 0, 1) := by decide +kernel
theorem dX4_isAtLine_20 : decode cX4_isAtLine 20 = .ok (.ireturn, 1) := by decide +kernel
theorem dX4_isAtLine_21 : decode cX4_isAtLine 21 = .ok (.iload_n 1, 1) := by decide +kernel
theorem dX4_isAtLine_22 : decode cX4_isAtLine 22 = .ok (.ifCond .le 12, 3) := by decide +kernel
theorem dX4_isAtLine_25 : decode cX4_isAtLine 25 = .ok (.aload_n 0, 1) := by decide +kernel
theorem dX4_isAtLine_26 : decode cX4_isAtLine 26 = .ok (.ldc 44, 2) := by decide +kernel
theorem dX4_isAtLine_28 : decode cX4_isAtLine 28 = .ok (.invokevirtual 46, 3) := by decide +kernel
theorem dX4_isAtLine_31 : decode cX4_isAtLine 31 = .ok (.ifCond .eq 8, 3) := by decide +kernel
theorem dX4_isAtLine_34 : decode cX4_isAtLine 34 = .ok (.iload_n 1, 1) := by decide +kernel
theorem dX4_isAtLine_35 : decode cX4_isAtLine 35 = .ok (.iload_n 2, 1) := by decide +kernel
theorem dX4_isAtLine_36 : decode cX4_isAtLine 36 = .ok (.if_icmp .lt 7, 3) := by decide +kernel
theorem dX4_isAtLine_39 : decode cX4_isAtLine 39 = .ok (.aload_n 0, 1) := by decide +kernel
theorem dX4_isAtLine_40 : decode cX4_isAtLine 40 = .ok (.invokevirtual 50, 3) := by decide +kernel
theorem dX4_isAtLine_43 : decode cX4_isAtLine 43 = .ok (.aload_n 0, 1) := by decide +kernel
theorem dX4_isAtLine_44 : decode cX4_isAtLine 44 = .ok (.getfield 28, 3) := by decide +kernel
theorem dX4_isAtLine_47 : decode cX4_isAtLine 47 = .ok (.iconst (-1), 1) := by decide +kernel
theorem dX4_isAtLine_48 : decode cX4_isAtLine 48 = .ok (.if_icmp .ne 7, 3) := by decide +kernel
theorem dX4_isAtLine_51 : decode cX4_isAtLine 51 = .ok (.iconst 1, 1) := by decide +kernel
theorem dX4_isAtLine_52 : decode cX4_isAtLine 52 = .ok (.goto 4, 3) := by decide +kernel
theorem dX4_isAtLine_55 : decode cX4_isAtLine 55 = .ok (.iconst 0, 1) := by decide +kernel
theorem dX4_isAtLine_56 : decode cX4_isAtLine 56 = .ok (.ireturn, 1) := by decide +kernel
theorem dX4_isAtNumber_0 : decode cX4_isAtNumber 0 = .ok (.aload_n 0, 1) := by decide +kernel
theorem dX4_isAtNumber_1 : decode cX4_isAtNumber 1 = .ok (.getfield 28, 3) := by decide +kernel
theorem dX4_isAtNumber_4 : decode cX4_isAtNumber 4 = .ok (.iconst (-1), 1) := by decide +kernel
theorem dX4_isAtNumber_5 : decode cX4_isAtNumber 5 = .ok (.if_icmp .ne 16, 3) := by decide +kernel
theorem dX4_isAtNumber_8 : decode cX4_isAtNumber 8 = .ok (.aload_n 0, 1) := by decide +kernel
theorem dX4_isAtNumber_9 : decode cX4_isAtNumber 9 = .ok (.getfield 41, 3) := by decide +kernel
theorem dX4_isAtNumber_12 : decode cX4_isAtNumber 12 = .ok (.bipush 48, 2) := by decide +kernel
theorem dX4_isAtNumber_14 : decode cX4_isAtNumber 14 = .ok (.if_icmp .ne 7, 3) := by decide +kernel
theorem dX4_isAtNumber_17 : decode cX4_isAtNumber 17 = .ok (.iconst 1, 1) := by decide +kernel
theorem dX4_isAtNumber_18 : decode cX4_isAtNumber 18 = .ok (.goto 4, 3) := by decide +kernel
theorem dX4_isAtNumber_21 : decode cX4_isAtNumber 21 = .ok (.iconst 0, 1) := by decide +kernel
theorem dX4_isAtNumber_22 : decode cX4_isAtNumber 22 = .ok (.ireturn, 1) := by decide +kernel
theorem dX4_refuse_0 : decode cX4_refuse 0 = .ok (.aload_n 0, 1) := by decide +kernel
theorem dX4_refuse_1 : decode cX4_refuse 1 = .ok (.getfield 28, 3) := by decide +kernel
theorem dX4_refuse_4 : decode cX4_refuse 4 = .ok (.iconst (-1), 1) := by decide +kernel
theorem dX4_refuse_5 : decode cX4_refuse 5 = .ok (.if_icmp .ne 11, 3) := by decide +kernel
theorem dX4_refuse_8 : decode cX4_refuse 8 = .ok (.aload_n 0, 1) := by decide +kernel
theorem dX4_refuse_9 : decode cX4_refuse 9 = .ok (.aload_n 0, 1) := by decide +kernel
theorem dX4_refuse_10 : decode cX4_refuse 10 = .ok (.getfield 34, 3) := by decide +kernel
theorem dX4_refuse_13 : decode cX4_refuse 13 = .ok (.putfield 28, 3) := by decide +kernel
theorem dX4_refuse_16 : decode cX4_refuse 16 = .ok (.return_, 1) := by decide +kernel
theorem dX4_isAt_0 : decode cX4_isAt 0 = .ok (.aload_n 0, 1) := by decide +kernel
theorem dX4_isAt_1 : decode cX4_isAt 1 = .ok (.getfield 28, 3) := by decide +kernel
theorem dX4_isAt_4 : decode cX4_isAt 4 = .ok (.iconst (-1), 1) := by decide +kernel
theorem dX4_isAt_5 : decode cX4_isAt 5 = .ok (.if_icmp .ne 19, 3) := by decide +kernel
theorem dX4_isAt_8 : decode cX4_isAt 8 = .ok (.aload_n 0, 1) := by decide +kernel
theorem dX4_isAt_9 : decode cX4_isAt 9 = .ok (.getfield 25, 3) := by decide +kernel
theorem dX4_isAt_12 : decode cX4_isAt 12 = .ok (.aload_n 0, 1) := by decide +kernel
theorem dX4_isAt_13 : decode cX4_isAt 13 = .ok (.getfield 34, 3) := by decide +kernel
theorem dX4_isAt_16 : decode cX4_isAt 16 = .ok (.isub, 1) := by decide +kernel
theorem dX4_isAt_17 : decode cX4_isAt 17 = .ok (.aload_n 1, 1) := by decide +kernel
theorem dX4_isAt_18 : decode cX4_isAt 18 = .ok (.invokevirtual 53, 3) := by decide +kernel
theorem dX4_isAt_21 : decode cX4_isAt 21 = .ok (.if_icmp .eq 5, 3) := by decide +kernel
theorem dX4_isAt_24 : decode cX4_isAt 24 = .ok (.iconst 0, 1) := by decide +kernel
theorem dX4_isAt_25 : decode cX4_isAt 25 = .ok (.ireturn, 1) := by decide +kernel
theorem dX4_isAt_26 : decode cX4_isAt 26 = .ok (.aload_n 0, 1) := by decide +kernel
theorem dX4_isAt_27 : decode cX4_isAt 27 = .ok (.getfield 34, 3) := by decide +kernel
theorem dX4_isAt_30 : decode cX4_isAt 30 = .ok (.istore_n 2, 1) := by decide +kernel
theorem dX4_isAt_31 : decode cX4_isAt 31 = .ok (.iload_n 2, 1) := by decide +kernel
theorem dX4_isAt_32 : decode cX4_isAt 32 = .ok (.aload_n 0, 1) := by decide +kernel
theorem dX4_isAt_33 : decode cX4_isAt 33 = .ok (.getfield 25, 3) := by decide +kernel
theorem dX4_isAt_36 : decode cX4_isAt 36 = .ok (.if_icmp .ge 38, 3) := by decide +kernel
theorem dX4_isAt_39 : decode cX4_isAt 39 = .ok (.iload_n 2, 1) := by decide +kernel
theorem dX4_isAt_40 : decode cX4_isAt 40 = .ok (.aload_n 0, 1) := by decide +kernel
theorem dX4_isAt_41 : decode cX4_isAt 41 = .ok (.getfield 21, 3) := by decide +kernel
theorem dX4_isAt_44 : decode cX4_isAt 44 = .ok (.if_icmp .ge 30, 3) := by decide +kernel
theorem dX4_isAt_47 : decode cX4_isAt 47 = .ok (.aload_n 0, 1) := by decide +kernel
theorem dX4_isAt_48 : decode cX4_isAt 48 = .ok (.getfield 9, 3) := by decide +kernel
theorem dX4_isAt_51 : decode cX4_isAt 51 = .ok (.iload_n 2, 1) := by decide +kernel
theorem dX4_isAt_52 : decode cX4_isAt 52 = .ok (.baload, 1) := by decide +kernel
theorem dX4_isAt_53 : decode cX4_isAt 53 = .ok (.aload_n 1, 1) := by decide +kernel
theorem dX4_isAt_54 : decode cX4_isAt 54 = .ok (.iload_n 2, 1) := by decide +kernel
theorem dX4_isAt_55 : decode cX4_isAt 55 = .ok (.aload_n 0, 1) := by decide +kernel
theorem dX4_isAt_56 : decode cX4_isAt 56 = .ok (.getfield 34, 3) := by decide +kernel
theorem dX4_isAt_59 : decode cX4_isAt 59 = .ok (.isub, 1) := by decide +kernel
theorem dX4_isAt_60 : decode cX4_isAt 60 = .ok (.invokevirtual 58, 3) := by decide +kernel
theorem dX4_isAt_63 : decode cX4_isAt 63 = .ok (.if_icmp .eq 5, 3) := by decide +kernel
theorem dX4_isAt_66 : decode cX4_isAt 66 = .ok (.iconst 0, 1) := by decide +kernel
theorem dX4_isAt_67 : decode cX4_isAt 67 = .ok (.ireturn, 1) := by decide +kernel
theorem dX4_isAt_68 : decode cX4_isAt 68 = .ok (.iinc 2 1, 3) := by decide +kernel
theorem dX4_isAt_71 : decode cX4_isAt 71 = .ok (.goto (-40), 3) := by decide +kernel
theorem dX4_isAt_74 : decode cX4_isAt 74 = .ok (.iconst 1, 1) := by decide +kernel
theorem dX4_isAt_75 : decode cX4_isAt 75 = .ok (.ireturn, 1) := by decide +kernel
theorem dX4_took_0 : decode cX4_took 0 = .ok (.aload_n 0, 1) := by decide +kernel
theorem dX4_took_1 : decode cX4_took 1 = .ok (.aload_n 1, 1) := by decide +kernel
theorem dX4_took_2 : decode cX4_took 2 = .ok (.invokevirtual 62, 3) := by decide +kernel
theorem dX4_took_5 : decode cX4_took 5 = .ok (.ifCond .ne 5, 3) := by decide +kernel
theorem dX4_took_8 : decode cX4_took 8 = .ok (.iconst 0, 1) := by decide +kernel
theorem dX4_took_9 : decode cX4_took 9 = .ok (.ireturn, 1) := by decide +kernel
theorem dX4_took_10 : decode cX4_took 10 = .ok (.aload_n 0, 1) := by decide +kernel
theorem dX4_took_11 : decode cX4_took 11 = .ok (.invokevirtual 31, 3) := by decide +kernel
theorem dX4_took_14 : decode cX4_took 14 = .ok (.iconst 1, 1) := by decide +kernel
theorem dX4_took_15 : decode cX4_took 15 = .ok (.ireturn, 1) := by decide +kernel
theorem dX4_number_0 : decode cX4_number 0 = .ok (.aload_n 0, 1) := by decide +kernel
theorem dX4_number_1 : decode cX4_number 1 = .ok (.getfield 41, 3) := by decide +kernel
theorem dX4_number_4 : decode cX4_number 4 = .ok (.bipush 48, 2) := by decide +kernel
theorem dX4_number_6 : decode cX4_number 6 = .ok (.if_icmp .ne 20, 3) := by decide +kernel
theorem dX4_number_9 : decode cX4_number 9 = .ok (.aload_n 0, 1) := by decide +kernel
theorem dX4_number_10 : decode cX4_number 10 = .ok (.getfield 25, 3) := by decide +kernel
theorem dX4_number_13 : decode cX4_number 13 = .ok (.aload_n 0, 1) := by decide +kernel
theorem dX4_number_14 : decode cX4_number 14 = .ok (.getfield 34, 3) := by decide +kernel
theorem dX4_number_17 : decode cX4_number 17 = .ok (.isub, 1) := by decide +kernel
theorem dX4_number_18 : decode cX4_number 18 = .ok (.iconst 3, 1) := by decide +kernel
theorem dX4_number_19 : decode cX4_number 19 = .ok (.if_icmp .gt 7, 3) := by decide +kernel
theorem dX4_number_22 : decode cX4_number 22 = .ok (.iconst 0, 1) := by decide +kernel
theorem dX4_number_23 : decode cX4_number 23 = .ok (.goto 4, 3) := by decide +kernel
theorem dX4_number_26 : decode cX4_number 26 = .ok (.iconst (-1), 1) := by decide +kernel
theorem dX4_number_27 : decode cX4_number 27 = .ok (.istore_n 3, 1) := by decide +kernel
theorem dX4_number_28 : decode cX4_number 28 = .ok (.aload_n 0, 1) := by decide +kernel
theorem dX4_number_29 : decode cX4_number 29 = .ok (.getfield 34, 3) := by decide +kernel
theorem dX4_number_32 : decode cX4_number 32 = .ok (.istore 4, 2) := by decide +kernel
theorem dX4_number_34 : decode cX4_number 34 = .ok (.iload 4, 2) := by decide +kernel
theorem dX4_number_36 : decode cX4_number 36 = .ok (.aload_n 0, 1) := by decide +kernel
theorem dX4_number_37 : decode cX4_number 37 = .ok (.getfield 25, 3) := by decide +kernel
theorem dX4_number_40 : decode cX4_number 40 = .ok (.if_icmp .ge 39, 3) := by decide +kernel
theorem dX4_number_43 : decode cX4_number 43 = .ok (.iload 4, 2) := by decide +kernel
theorem dX4_number_45 : decode cX4_number 45 = .ok (.aload_n 0, 1) := by decide +kernel
theorem dX4_number_46 : decode cX4_number 46 = .ok (.getfield 21, 3) := by decide +kernel
theorem dX4_number_49 : decode cX4_number 49 = .ok (.if_icmp .ge 30, 3) := by decide +kernel
theorem dX4_number_52 : decode cX4_number 52 = .ok (.iload_n 3, 1) := by decide +kernel
theorem dX4_number_53 : decode cX4_number 53 = .ok (.iconst (-1), 1) := by decide +kernel
theorem dX4_number_54 : decode cX4_number 54 = .ok (.if_icmp .eq 25, 3) := by decide +kernel
theorem dX4_number_57 : decode cX4_number 57 = .ok (.iload_n 3, 1) := by decide +kernel
theorem dX4_number_58 : decode cX4_number 58 = .ok (.bipush 10, 2) := by decide +kernel
theorem dX4_number_60 : decode cX4_number 60 = .ok (.imul, 1) := by decide +kernel
theorem dX4_number_61 : decode cX4_number 61 = .ok (.aload_n 0, 1) := by decide +kernel
theorem dX4_number_62 : decode cX4_number 62 = .ok (.getfield 9, 3) := by decide +kernel
theorem dX4_number_65 : decode cX4_number 65 = .ok (.iload 4, 2) := by decide +kernel
theorem dX4_number_67 : decode cX4_number 67 = .ok (.baload, 1) := by decide +kernel
theorem dX4_number_68 : decode cX4_number 68 = .ok (.iadd, 1) := by decide +kernel
theorem dX4_number_69 : decode cX4_number 69 = .ok (.bipush 48, 2) := by decide +kernel
theorem dX4_number_71 : decode cX4_number 71 = .ok (.isub, 1) := by decide +kernel
theorem dX4_number_72 : decode cX4_number 72 = .ok (.istore_n 3, 1) := by decide +kernel
theorem dX4_number_73 : decode cX4_number 73 = .ok (.iinc 4 1, 3) := by decide +kernel
theorem dX4_number_76 : decode cX4_number 76 = .ok (.goto (-42), 3) := by decide +kernel
theorem dX4_number_79 : decode cX4_number 79 = .ok (.aload_n 0, 1) := by decide +kernel
theorem dX4_number_80 : decode cX4_number 80 = .ok (.getfield 28, 3) := by decide +kernel
theorem dX4_number_83 : decode cX4_number 83 = .ok (.iconst (-1), 1) := by decide +kernel
theorem dX4_number_84 : decode cX4_number 84 = .ok (.if_icmp .ne 13, 3) := by decide +kernel
theorem dX4_number_87 : decode cX4_number 87 = .ok (.iload_n 3, 1) := by decide +kernel
theorem dX4_number_88 : decode cX4_number 88 = .ok (.iload_n 1, 1) := by decide +kernel
theorem dX4_number_89 : decode cX4_number 89 = .ok (.if_icmp .lt 8, 3) := by decide +kernel
theorem dX4_number_92 : decode cX4_number 92 = .ok (.iload_n 3, 1) := by decide +kernel
theorem dX4_number_93 : decode cX4_number 93 = .ok (.iload_n 2, 1) := by decide +kernel
theorem dX4_number_94 : decode cX4_number 94 = .ok (.if_icmp .le 9, 3) := by decide +kernel
theorem dX4_number_97 : decode cX4_number 97 = .ok (.aload_n 0, 1) := by decide +kernel
theorem dX4_number_98 : decode cX4_number 98 = .ok (.invokevirtual 50, 3) := by decide +kernel
theorem dX4_number_101 : decode cX4_number 101 = .ok (.iconst (-1), 1) := by decide +kernel
theorem dX4_number_102 : decode cX4_number 102 = .ok (.ireturn, 1) := by decide +kernel
theorem dX4_number_103 : decode cX4_number 103 = .ok (.aload_n 0, 1) := by decide +kernel
theorem dX4_number_104 : decode cX4_number 104 = .ok (.invokevirtual 31, 3) := by decide +kernel
theorem dX4_number_107 : decode cX4_number 107 = .ok (.iload_n 3, 1) := by decide +kernel
theorem dX4_number_108 : decode cX4_number 108 = .ok (.ireturn, 1) := by decide +kernel
theorem dX4_word_0 : decode cX4_word 0 = .ok (.aload_n 0, 1) := by decide +kernel
theorem dX4_word_1 : decode cX4_word 1 = .ok (.getfield 41, 3) := by decide +kernel
theorem dX4_word_4 : decode cX4_word 4 = .ok (.bipush 97, 2) := by decide +kernel
theorem dX4_word_6 : decode cX4_word 6 = .ok (.if_icmp .ne 21, 3) := by decide +kernel
theorem dX4_word_9 : decode cX4_word 9 = .ok (.aload_n 0, 1) := by decide +kernel
theorem dX4_word_10 : decode cX4_word 10 = .ok (.getfield 25, 3) := by decide +kernel
theorem dX4_word_13 : decode cX4_word 13 = .ok (.aload_n 0, 1) := by decide +kernel
theorem dX4_word_14 : decode cX4_word 14 = .ok (.getfield 34, 3) := by decide +kernel
theorem dX4_word_17 : decode cX4_word 17 = .ok (.isub, 1) := by decide +kernel
theorem dX4_word_18 : decode cX4_word 18 = .ok (.bipush 8, 2) := by decide +kernel
theorem dX4_word_20 : decode cX4_word 20 = .ok (.if_icmp .gt 7, 3) := by decide +kernel
theorem dX4_word_23 : decode cX4_word 23 = .ok (.iconst 1, 1) := by decide +kernel
theorem dX4_word_24 : decode cX4_word 24 = .ok (.goto 4, 3) := by decide +kernel
theorem dX4_word_27 : decode cX4_word 27 = .ok (.iconst (-1), 1) := by decide +kernel
theorem dX4_word_28 : decode cX4_word 28 = .ok (.istore_n 1, 1) := by decide +kernel
theorem dX4_word_29 : decode cX4_word 29 = .ok (.aload_n 0, 1) := by decide +kernel
theorem dX4_word_30 : decode cX4_word 30 = .ok (.getfield 34, 3) := by decide +kernel
theorem dX4_word_33 : decode cX4_word 33 = .ok (.istore_n 2, 1) := by decide +kernel
theorem dX4_word_34 : decode cX4_word 34 = .ok (.iload_n 2, 1) := by decide +kernel
theorem dX4_word_35 : decode cX4_word 35 = .ok (.aload_n 0, 1) := by decide +kernel
theorem dX4_word_36 : decode cX4_word 36 = .ok (.getfield 25, 3) := by decide +kernel
theorem dX4_word_39 : decode cX4_word 39 = .ok (.if_icmp .ge 60, 3) := by decide +kernel
theorem dX4_word_42 : decode cX4_word 42 = .ok (.iload_n 2, 1) := by decide +kernel
theorem dX4_word_43 : decode cX4_word 43 = .ok (.aload_n 0, 1) := by decide +kernel
theorem dX4_word_44 : decode cX4_word 44 = .ok (.getfield 21, 3) := by decide +kernel
theorem dX4_word_47 : decode cX4_word 47 = .ok (.if_icmp .ge 52, 3) := by decide +kernel
theorem dX4_word_50 : decode cX4_word 50 = .ok (.iload_n 1, 1) := by decide +kernel
theorem dX4_word_51 : decode cX4_word 51 = .ok (.iconst (-1), 1) := by decide +kernel
theorem dX4_word_52 : decode cX4_word 52 = .ok (.if_icmp .eq 47, 3) := by decide +kernel
theorem dX4_word_55 : decode cX4_word 55 = .ok (.aload_n 0, 1) := by decide +kernel
theorem dX4_word_56 : decode cX4_word 56 = .ok (.getfield 9, 3) := by decide +kernel
theorem dX4_word_59 : decode cX4_word 59 = .ok (.iload_n 2, 1) := by decide +kernel
theorem dX4_word_60 : decode cX4_word 60 = .ok (.baload, 1) := by decide +kernel
theorem dX4_word_61 : decode cX4_word 61 = .ok (.bipush 97, 2) := by decide +kernel
theorem dX4_word_63 : decode cX4_word 63 = .ok (.if_icmp .ne 9, 3) := by decide +kernel
theorem dX4_word_66 : decode cX4_word 66 = .ok (.iload_n 1, 1) := by decide +kernel
theorem dX4_word_67 : decode cX4_word 67 = .ok (.iconst 2, 1) := by decide +kernel
theorem dX4_word_68 : decode cX4_word 68 = .ok (.imul, 1) := by decide +kernel
theorem dX4_word_69 : decode cX4_word 69 = .ok (.goto 23, 3) := by decide +kernel
theorem dX4_word_72 : decode cX4_word 72 = .ok (.aload_n 0, 1) := by decide +kernel
theorem dX4_word_73 : decode cX4_word 73 = .ok (.getfield 9, 3) := by decide +kernel
theorem dX4_word_76 : decode cX4_word 76 = .ok (.iload_n 2, 1) := by decide +kernel
theorem dX4_word_77 : decode cX4_word 77 = .ok (.baload, 1) := by decide +kernel
theorem dX4_word_78 : decode cX4_word 78 = .ok (.bipush 98, 2) := by decide +kernel
theorem dX4_word_80 : decode cX4_word 80 = .ok (.if_icmp .ne 11, 3) := by decide +kernel
theorem dX4_word_83 : decode cX4_word 83 = .ok (.iload_n 1, 1) := by decide +kernel
theorem dX4_word_84 : decode cX4_word 84 = .ok (.iconst 2, 1) := by decide +kernel
theorem dX4_word_85 : decode cX4_word 85 = .ok (.imul, 1) := by decide +kernel
theorem dX4_word_86 : decode cX4_word 86 = .ok (.iconst 1, 1) := by decide +kernel
theorem dX4_word_87 : decode cX4_word 87 = .ok (.iadd, 1) := by decide +kernel
theorem dX4_word_88 : decode cX4_word 88 = .ok (.goto 4, 3) := by decide +kernel
theorem dX4_word_91 : decode cX4_word 91 = .ok (.iconst (-1), 1) := by decide +kernel
theorem dX4_word_92 : decode cX4_word 92 = .ok (.istore_n 1, 1) := by decide +kernel
theorem dX4_word_93 : decode cX4_word 93 = .ok (.iinc 2 1, 3) := by decide +kernel
theorem dX4_word_96 : decode cX4_word 96 = .ok (.goto (-62), 3) := by decide +kernel
theorem dX4_word_99 : decode cX4_word 99 = .ok (.aload_n 0, 1) := by decide +kernel
theorem dX4_word_100 : decode cX4_word 100 = .ok (.getfield 28, 3) := by decide +kernel
theorem dX4_word_103 : decode cX4_word 103 = .ok (.iconst (-1), 1) := by decide +kernel
theorem dX4_word_104 : decode cX4_word 104 = .ok (.if_icmp .ne 8, 3) := by decide +kernel
theorem dX4_word_107 : decode cX4_word 107 = .ok (.iload_n 1, 1) := by decide +kernel
theorem dX4_word_108 : decode cX4_word 108 = .ok (.iconst (-1), 1) := by decide +kernel
theorem dX4_word_109 : decode cX4_word 109 = .ok (.if_icmp .ne 9, 3) := by decide +kernel
theorem dX4_word_112 : decode cX4_word 112 = .ok (.aload_n 0, 1) := by decide +kernel
theorem dX4_word_113 : decode cX4_word 113 = .ok (.invokevirtual 50, 3) := by decide +kernel
theorem dX4_word_116 : decode cX4_word 116 = .ok (.iconst (-1), 1) := by decide +kernel
theorem dX4_word_117 : decode cX4_word 117 = .ok (.ireturn, 1) := by decide +kernel
theorem dX4_word_118 : decode cX4_word 118 = .ok (.aload_n 0, 1) := by decide +kernel
theorem dX4_word_119 : decode cX4_word 119 = .ok (.invokevirtual 31, 3) := by decide +kernel
theorem dX4_word_122 : decode cX4_word 122 = .ok (.iload_n 1, 1) := by decide +kernel
theorem dX4_word_123 : decode cX4_word 123 = .ok (.ireturn, 1) := by decide +kernel
theorem dX5_init_0 : decode cX5_init 0 = .ok (.aload_n 0, 1) := by decide +kernel
theorem dX5_init_1 : decode cX5_init 1 = .ok (.invokespecial 3, 3) := by decide +kernel
theorem dX5_init_4 : decode cX5_init 4 = .ok (.aload_n 0, 1) := by decide +kernel
theorem dX5_init_5 : decode cX5_init 5 = .ok (.bipush 8, 2) := by decide +kernel
theorem dX5_init_7 : decode cX5_init 7 = .ok (.newarray .int, 2) := by decide +kernel
theorem dX5_init_9 : decode cX5_init 9 = .ok (.putfield 9, 3) := by decide +kernel
theorem dX5_init_12 : decode cX5_init 12 = .ok (.aload_n 0, 1) := by decide +kernel
theorem dX5_init_13 : decode cX5_init 13 = .ok (.bipush 8, 2) := by decide +kernel
theorem dX5_init_15 : decode cX5_init 15 = .ok (.newarray .int, 2) := by decide +kernel
theorem dX5_init_17 : decode cX5_init 17 = .ok (.putfield 15, 3) := by decide +kernel
theorem dX5_init_20 : decode cX5_init 20 = .ok (.aload_n 0, 1) := by decide +kernel
theorem dX5_init_21 : decode cX5_init 21 = .ok (.bipush 8, 2) := by decide +kernel
theorem dX5_init_23 : decode cX5_init 23 = .ok (.newarray .int, 2) := by decide +kernel
theorem dX5_init_25 : decode cX5_init 25 = .ok (.putfield 18, 3) := by decide +kernel
theorem dX5_init_28 : decode cX5_init 28 = .ok (.return_, 1) := by decide +kernel
theorem dX5_prepare_0 : decode cX5_prepare 0 = .ok (.iconst 0, 1) := by decide +kernel
theorem dX5_prepare_1 : decode cX5_prepare 1 = .ok (.istore_n 3, 1) := by decide +kernel
theorem dX5_prepare_2 : decode cX5_prepare 2 = .ok (.iload_n 3, 1) := by decide +kernel
theorem dX5_prepare_3 : decode cX5_prepare 3 = .ok (.bipush 8, 2) := by decide +kernel
theorem dX5_prepare_5 : decode cX5_prepare 5 = .ok (.if_icmp .ge 91, 3) := by decide +kernel
theorem dX5_prepare_8 : decode cX5_prepare 8 = .ok (.aload_n 1, 1) := by decide +kernel
theorem dX5_prepare_9 : decode cX5_prepare 9 = .ok (.iload_n 3, 1) := by decide +kernel
theorem dX5_prepare_10 : decode cX5_prepare 10 = .ok (.iload_n 2, 1) := by decide +kernel
theorem dX5_prepare_11 : decode cX5_prepare 11 = .ok (.invokevirtual 21, 3) := by decide +kernel
theorem dX5_prepare_14 : decode cX5_prepare 14 = .ok (.istore 4, 2) := by decide +kernel
theorem dX5_prepare_16 : decode cX5_prepare 16 = .ok (.iload 4, 2) := by decide +kernel
theorem dX5_prepare_18 : decode cX5_prepare 18 = .ok (.invokestatic 27, 3) := by decide +kernel
theorem dX5_prepare_21 : decode cX5_prepare 21 = .ok (.istore 5, 2) := by decide +kernel
theorem dX5_prepare_23 : decode cX5_prepare 23 = .ok (.aload_n 0, 1) := by decide +kernel
theorem dX5_prepare_24 : decode cX5_prepare 24 = .ok (.getfield 9, 3) := by decide +kernel
theorem dX5_prepare_27 : decode cX5_prepare 27 = .ok (.iload_n 3, 1) := by decide +kernel
theorem dX5_prepare_28 : decode cX5_prepare 28 = .ok (.iconst 0, 1) := by decide +kernel
theorem dX5_prepare_29 : decode cX5_prepare 29 = .ok (.iastore, 1) := by decide +kernel
theorem dX5_prepare_30 : decode cX5_prepare 30 = .ok (.aload_n 0, 1) := by decide +kernel
theorem dX5_prepare_31 : decode cX5_prepare 31 = .ok (.getfield 15, 3) := by decide +kernel
theorem dX5_prepare_34 : decode cX5_prepare 34 = .ok (.iload_n 3, 1) := by decide +kernel
theorem dX5_prepare_35 : decode cX5_prepare 35 = .ok (.iload 4, 2) := by decide +kernel
theorem dX5_prepare_37 : decode cX5_prepare 37 = .ok (.invokestatic 31, 3) := by decide +kernel
theorem dX5_prepare_40 : decode cX5_prepare 40 = .ok (.iastore, 1) := by decide +kernel
theorem dX5_prepare_41 : decode cX5_prepare 41 = .ok (.iconst 0, 1) := by decide +kernel
theorem dX5_prepare_42 : decode cX5_prepare 42 = .ok (.istore 6, 2) := by decide +kernel
theorem dX5_prepare_44 : decode cX5_prepare 44 = .ok (.iload 6, 2) := by decide +kernel
theorem dX5_prepare_46 : decode cX5_prepare 46 = .ok (.aload_n 1, 1) := by decide +kernel
theorem dX5_prepare_47 : decode cX5_prepare 47 = .ok (.getfield 34, 3) := by decide +kernel
theorem dX5_prepare_50 : decode cX5_prepare 50 = .ok (.if_icmp .ge 40, 3) := by decide +kernel
theorem dX5_prepare_53 : decode cX5_prepare 53 = .ok (.iload 4, 2) := by decide +kernel
theorem dX5_prepare_55 : decode cX5_prepare 55 = .ok (.iconst (-1), 1) := by decide +kernel
theorem dX5_prepare_56 : decode cX5_prepare 56 = .ok (.if_icmp .eq 34, 3) := by decide +kernel
theorem dX5_prepare_59 : decode cX5_prepare 59 = .ok (.aload_n 1, 1) := by decide +kernel
theorem dX5_prepare_60 : decode cX5_prepare 60 = .ok (.iload 6, 2) := by decide +kernel
theorem dX5_prepare_62 : decode cX5_prepare 62 = .ok (.iload_n 3, 1) := by decide +kernel
theorem dX5_prepare_63 : decode cX5_prepare 63 = .ok (.invokevirtual 38, 3) := by decide +kernel
theorem dX5_prepare_66 : decode cX5_prepare 66 = .ok (.iload 5, 2) := by decide +kernel
theorem dX5_prepare_68 : decode cX5_prepare 68 = .ok (.if_icmp .lt 16, 3) := by decide +kernel
theorem dX5_prepare_71 : decode cX5_prepare 71 = .ok (.aload_n 0, 1) := by decide +kernel
theorem dX5_prepare_72 : decode cX5_prepare 72 = .ok (.getfield 9, 3) := by decide +kernel
theorem dX5_prepare_75 : decode cX5_prepare 75 = .ok (.iload_n 3, 1) := by decide +kernel
theorem dX5_prepare_76 : decode cX5_prepare 76 = .ok (.dup2, 1) := by decide +kernel
theorem dX5_prepare_77 : decode cX5_prepare 77 = .ok (.iaload, 1) := by decide +kernel
theorem dX5_prepare_78 : decode cX5_prepare 78 = .ok (.iconst 1, 1) := by decide +kernel
theorem dX5_prepare_79 : decode cX5_prepare 79 = .ok (.iload 6, 2) := by decide +kernel
theorem dX5_prepare_81 : decode cX5_prepare 81 = .ok (.ishl, 1) := by decide +kernel
theorem dX5_prepare_82 : decode cX5_prepare 82 = .ok (.ior, 1) := by decide +kernel
theorem dX5_prepare_83 : decode cX5_prepare 83 = .ok (.iastore, 1) := by decide +kernel
theorem dX5_prepare_84 : decode cX5_prepare 84 = .ok (.iinc 6 1, 3) := by decide +kernel
theorem dX5_prepare_87 : decode cX5_prepare 87 = .ok (.goto (-43), 3) := by decide +kernel
theorem dX5_prepare_90 : decode cX5_prepare 90 = .ok (.iinc 3 1, 3) := by decide +kernel
theorem dX5_prepare_93 : decode cX5_prepare 93 = .ok (.goto (-91), 3) := by decide +kernel
theorem dX5_prepare_96 : decode cX5_prepare 96 = .ok (.return_, 1) := by decide +kernel
theorem dX5_minutesTill_0 : decode cX5_minutesTill 0 = .ok (.aload_n 0, 1) := by decide +kernel
theorem dX5_minutesTill_1 : decode cX5_minutesTill 1 = .ok (.aload_n 1, 1) := by decide +kernel
theorem dX5_minutesTill_2 : decode cX5_minutesTill 2 = .ok (.iload_n 3, 1) := by decide +kernel
theorem dX5_minutesTill_3 : decode cX5_minutesTill 3 = .ok (.invokevirtual 41, 3) := by decide +kernel
theorem dX5_minutesTill_6 : decode cX5_minutesTill 6 = .ok (.aload_n 0, 1) := by decide +kernel
theorem dX5_minutesTill_7 : decode cX5_minutesTill 7 = .ok (.getfield 18, 3) := by decide +kernel
theorem dX5_minutesTill_10 : decode cX5_minutesTill 10 = .ok (.ldc 45, 2) := by decide +kernel
theorem dX5_minutesTill_12 : decode cX5_minutesTill 12 = .ok (.invokestatic 46, 3) := by decide +kernel
theorem dX5_minutesTill_15 : decode cX5_minutesTill 15 = .ok (.aload_n 1, 1) := by decide +kernel
theorem dX5_minutesTill_16 : decode cX5_minutesTill 16 = .ok (.iload_n 2, 1) := by decide +kernel
theorem dX5_minutesTill_17 : decode cX5_minutesTill 17 = .ok (.invokevirtual 52, 3) := by decide +kernel
theorem dX5_minutesTill_20 : decode cX5_minutesTill 20 = .ok (.ifCond .eq 12, 3) := by decide +kernel
theorem dX5_minutesTill_23 : decode cX5_minutesTill 23 = .ok (.aload_n 1, 1) := by decide +kernel
theorem dX5_minutesTill_24 : decode cX5_minutesTill 24 = .ok (.iload 4, 2) := by decide +kernel
theorem dX5_minutesTill_26 : decode cX5_minutesTill 26 = .ok (.invokevirtual 52, 3) := by decide +kernel
theorem dX5_minutesTill_29 : decode cX5_minutesTill 29 = .ok (.ifCond .ne 5, 3) := by decide +kernel
theorem dX5_minutesTill_32 : decode cX5_minutesTill 32 = .ok (.iconst (-1), 1) := by decide +kernel
theorem dX5_minutesTill_33 : decode cX5_minutesTill 33 = .ok (.ireturn, 1) := by decide +kernel
theorem dX5_minutesTill_34 : decode cX5_minutesTill 34 = .ok (.aload_n 0, 1) := by decide +kernel
theorem dX5_minutesTill_35 : decode cX5_minutesTill 35 = .ok (.getfield 18, 3) := by decide +kernel
theorem dX5_minutesTill_38 : decode cX5_minutesTill 38 = .ok (.iload_n 2, 1) := by decide +kernel
theorem dX5_minutesTill_39 : decode cX5_minutesTill 39 = .ok (.iconst 0, 1) := by decide +kernel
theorem dX5_minutesTill_40 : decode cX5_minutesTill 40 = .ok (.iastore, 1) := by decide +kernel
theorem dX5_minutesTill_41 : decode cX5_minutesTill 41 = .ok (.iconst 0, 1) := by decide +kernel
theorem dX5_minutesTill_42 : decode cX5_minutesTill 42 = .ok (.istore 5, 2) := by decide +kernel
theorem dX5_minutesTill_44 : decode cX5_minutesTill 44 = .ok (.iload 5, 2) := by decide +kernel
theorem dX5_minutesTill_46 : decode cX5_minutesTill 46 = .ok (.bipush 8, 2) := by decide +kernel
theorem dX5_minutesTill_48 : decode cX5_minutesTill 48 = .ok (.if_icmp .ge 31, 3) := by decide +kernel
theorem dX5_minutesTill_51 : decode cX5_minutesTill 51 = .ok (.iconst 0, 1) := by decide +kernel
theorem dX5_minutesTill_52 : decode cX5_minutesTill 52 = .ok (.istore 6, 2) := by decide +kernel
theorem dX5_minutesTill_54 : decode cX5_minutesTill 54 = .ok (.iload 6, 2) := by decide +kernel
theorem dX5_minutesTill_56 : decode cX5_minutesTill 56 = .ok (.bipush 8, 2) := by decide +kernel
theorem dX5_minutesTill_58 : decode cX5_minutesTill 58 = .ok (.if_icmp .ge 15, 3) := by decide +kernel
theorem dX5_minutesTill_61 : decode cX5_minutesTill 61 = .ok (.aload_n 0, 1) := by decide +kernel
theorem dX5_minutesTill_62 : decode cX5_minutesTill 62 = .ok (.iload 6, 2) := by decide +kernel
theorem dX5_minutesTill_64 : decode cX5_minutesTill 64 = .ok (.invokevirtual 56, 3) := by decide +kernel
theorem dX5_minutesTill_67 : decode cX5_minutesTill 67 = .ok (.iinc 6 1, 3) := by decide +kernel
theorem dX5_minutesTill_70 : decode cX5_minutesTill 70 = .ok (.goto (-16), 3) := by decide +kernel
theorem dX5_minutesTill_73 : decode cX5_minutesTill 73 = .ok (.iinc 5 1, 3) := by decide +kernel
theorem dX5_minutesTill_76 : decode cX5_minutesTill 76 = .ok (.goto (-32), 3) := by decide +kernel
theorem dX5_minutesTill_79 : decode cX5_minutesTill 79 = .ok (.aload_n 0, 1) := by decide +kernel
theorem dX5_minutesTill_80 : decode cX5_minutesTill 80 = .ok (.getfield 18, 3) := by decide +kernel
theorem dX5_minutesTill_83 : decode cX5_minutesTill 83 = .ok (.iload 4, 2) := by decide +kernel
theorem dX5_minutesTill_85 : decode cX5_minutesTill 85 = .ok (.iaload, 1) := by decide +kernel
theorem dX5_minutesTill_86 : decode cX5_minutesTill 86 = .ok (.ldc 45, 2) := by decide +kernel
theorem dX5_minutesTill_88 : decode cX5_minutesTill 88 = .ok (.if_icmp .ge 13, 3) := by decide +kernel
theorem dX5_minutesTill_91 : decode cX5_minutesTill 91 = .ok (.aload_n 0, 1) := by decide +kernel
theorem dX5_minutesTill_92 : decode cX5_minutesTill 92 = .ok (.getfield 18, 3) := by decide +kernel
theorem dX5_minutesTill_95 : decode cX5_minutesTill 95 = .ok (.iload 4, 2) := by decide +kernel
theorem dX5_minutesTill_97 : decode cX5_minutesTill 97 = .ok (.iaload, 1) := by decide +kernel
theorem dX5_minutesTill_98 : decode cX5_minutesTill 98 = .ok (.goto 4, 3) := by decide +kernel
theorem dX5_minutesTill_101 : decode cX5_minutesTill 101 = .ok (.iconst (-1), 1) := by decide +kernel
theorem dX5_minutesTill_102 : decode cX5_minutesTill 102 = .ok (.ireturn, 1) := by decide +kernel
theorem dX5_ringOn_0 : decode cX5_ringOn 0 = .ok (.aload_n 0, 1) := by decide +kernel
theorem dX5_ringOn_1 : decode cX5_ringOn 1 = .ok (.getfield 18, 3) := by decide +kernel
theorem dX5_ringOn_4 : decode cX5_ringOn 4 = .ok (.iload_n 1, 1) := by decide +kernel
theorem dX5_ringOn_5 : decode cX5_ringOn 5 = .ok (.iaload, 1) := by decide +kernel
theorem dX5_ringOn_6 : decode cX5_ringOn 6 = .ok (.aload_n 0, 1) := by decide +kernel
theorem dX5_ringOn_7 : decode cX5_ringOn 7 = .ok (.getfield 15, 3) := by decide +kernel
theorem dX5_ringOn_10 : decode cX5_ringOn 10 = .ok (.iload_n 1, 1) := by decide +kernel
theorem dX5_ringOn_11 : decode cX5_ringOn 11 = .ok (.iaload, 1) := by decide +kernel
theorem dX5_ringOn_12 : decode cX5_ringOn 12 = .ok (.iadd, 1) := by decide +kernel
theorem dX5_ringOn_13 : decode cX5_ringOn 13 = .ok (.istore_n 2, 1) := by decide +kernel
theorem dX5_ringOn_14 : decode cX5_ringOn 14 = .ok (.iconst 0, 1) := by decide +kernel
theorem dX5_ringOn_15 : decode cX5_ringOn 15 = .ok (.istore_n 3, 1) := by decide +kernel
theorem dX5_ringOn_16 : decode cX5_ringOn 16 = .ok (.iload_n 3, 1) := by decide +kernel
theorem dX5_ringOn_17 : decode cX5_ringOn 17 = .ok (.bipush 8, 2) := by decide +kernel
theorem dX5_ringOn_19 : decode cX5_ringOn 19 = .ok (.if_icmp .ge 40, 3) := by decide +kernel
theorem dX5_ringOn_22 : decode cX5_ringOn 22 = .ok (.aload_n 0, 1) := by decide +kernel
theorem dX5_ringOn_23 : decode cX5_ringOn 23 = .ok (.getfield 9, 3) := by decide +kernel
theorem dX5_ringOn_26 : decode cX5_ringOn 26 = .ok (.iload_n 1, 1) := by decide +kernel
theorem dX5_ringOn_27 : decode cX5_ringOn 27 = .ok (.iaload, 1) := by decide +kernel
theorem dX5_ringOn_28 : decode cX5_ringOn 28 = .ok (.iload_n 3, 1) := by decide +kernel
theorem dX5_ringOn_29 : decode cX5_ringOn 29 = .ok (.ishr, 1) := by decide +kernel
theorem dX5_ringOn_30 : decode cX5_ringOn 30 = .ok (.iconst 1, 1) := by decide +kernel
theorem dX5_ringOn_31 : decode cX5_ringOn 31 = .ok (.iand, 1) := by decide +kernel
theorem dX5_ringOn_32 : decode cX5_ringOn 32 = .ok (.iconst 1, 1) := by decide +kernel
theorem dX5_ringOn_33 : decode cX5_ringOn 33 = .ok (.if_icmp .ne 20, 3) := by decide +kernel
theorem dX5_ringOn_36 : decode cX5_ringOn 36 = .ok (.iload_n 2, 1) := by decide +kernel
theorem dX5_ringOn_37 : decode cX5_ringOn 37 = .ok (.aload_n 0, 1) := by decide +kernel
theorem dX5_ringOn_38 : decode cX5_ringOn 38 = .ok (.getfield 18, 3) := by decide +kernel
theorem dX5_ringOn_41 : decode cX5_ringOn 41 = .ok (.iload_n 3, 1) := by decide +kernel
theorem dX5_ringOn_42 : decode cX5_ringOn 42 = .ok (.iaload, 1) := by decide +kernel
theorem dX5_ringOn_43 : decode cX5_ringOn 43 = .ok (.if_icmp .ge 10, 3) := by decide +kernel
theorem dX5_ringOn_46 : decode cX5_ringOn 46 = .ok (.aload_n 0, 1) := by decide +kernel
theorem dX5_ringOn_47 : decode cX5_ringOn 47 = .ok (.getfield 18, 3) := by decide +kernel
theorem dX5_ringOn_50 : decode cX5_ringOn 50 = .ok (.iload_n 3, 1) := by decide +kernel
theorem dX5_ringOn_51 : decode cX5_ringOn 51 = .ok (.iload_n 2, 1) := by decide +kernel
theorem dX5_ringOn_52 : decode cX5_ringOn 52 = .ok (.iastore, 1) := by decide +kernel
theorem dX5_ringOn_53 : decode cX5_ringOn 53 = .ok (.iinc 3 1, 3) := by decide +kernel
theorem dX5_ringOn_56 : decode cX5_ringOn 56 = .ok (.goto (-40), 3) := by decide +kernel
theorem dX5_ringOn_59 : decode cX5_ringOn 59 = .ok (.return_, 1) := by decide +kernel
theorem dX5_fewestFrom_0 : decode cX5_fewestFrom 0 = .ok (.aload_n 0, 1) := by decide +kernel
theorem dX5_fewestFrom_1 : decode cX5_fewestFrom 1 = .ok (.aload_n 1, 1) := by decide +kernel
theorem dX5_fewestFrom_2 : decode cX5_fewestFrom 2 = .ok (.iload_n 3, 1) := by decide +kernel
theorem dX5_fewestFrom_3 : decode cX5_fewestFrom 3 = .ok (.invokevirtual 41, 3) := by decide +kernel
theorem dX5_fewestFrom_6 : decode cX5_fewestFrom 6 = .ok (.iconst 0, 1) := by decide +kernel
theorem dX5_fewestFrom_7 : decode cX5_fewestFrom 7 = .ok (.istore 4, 2) := by decide +kernel
theorem dX5_fewestFrom_9 : decode cX5_fewestFrom 9 = .ok (.iconst 0, 1) := by decide +kernel
theorem dX5_fewestFrom_10 : decode cX5_fewestFrom 10 = .ok (.istore 5, 2) := by decide +kernel
theorem dX5_fewestFrom_12 : decode cX5_fewestFrom 12 = .ok (.iload 5, 2) := by decide +kernel
theorem dX5_fewestFrom_14 : decode cX5_fewestFrom 14 = .ok (.aload_n 1, 1) := by decide +kernel
theorem dX5_fewestFrom_15 : decode cX5_fewestFrom 15 = .ok (.getfield 34, 3) := by decide +kernel
theorem dX5_fewestFrom_18 : decode cX5_fewestFrom 18 = .ok (.if_icmp .ge 35, 3) := by decide +kernel
theorem dX5_fewestFrom_21 : decode cX5_fewestFrom 21 = .ok (.iload 5, 2) := by decide +kernel
theorem dX5_fewestFrom_23 : decode cX5_fewestFrom 23 = .ok (.bipush 8, 2) := by decide +kernel
theorem dX5_fewestFrom_25 : decode cX5_fewestFrom 25 = .ok (.if_icmp .ge 28, 3) := by decide +kernel
theorem dX5_fewestFrom_28 : decode cX5_fewestFrom 28 = .ok (.aload_n 1, 1) := by decide +kernel
theorem dX5_fewestFrom_29 : decode cX5_fewestFrom 29 = .ok (.getfield 60, 3) := by decide +kernel
theorem dX5_fewestFrom_32 : decode cX5_fewestFrom 32 = .ok (.iload 5, 2) := by decide +kernel
theorem dX5_fewestFrom_34 : decode cX5_fewestFrom 34 = .ok (.iaload, 1) := by decide +kernel
theorem dX5_fewestFrom_35 : decode cX5_fewestFrom 35 = .ok (.ifCond .ne 12, 3) := by decide +kernel
theorem dX5_fewestFrom_38 : decode cX5_fewestFrom 38 = .ok (.iload 4, 2) := by decide +kernel
theorem dX5_fewestFrom_40 : decode cX5_fewestFrom 40 = .ok (.iconst 1, 1) := by decide +kernel
theorem dX5_fewestFrom_41 : decode cX5_fewestFrom 41 = .ok (.iload 5, 2) := by decide +kernel
theorem dX5_fewestFrom_43 : decode cX5_fewestFrom 43 = .ok (.ishl, 1) := by decide +kernel
theorem dX5_fewestFrom_44 : decode cX5_fewestFrom 44 = .ok (.ior, 1) := by decide +kernel
theorem dX5_fewestFrom_45 : decode cX5_fewestFrom 45 = .ok (.istore 4, 2) := by decide +kernel
theorem dX5_fewestFrom_47 : decode cX5_fewestFrom 47 = .ok (.iinc 5 1, 3) := by decide +kernel
theorem dX5_fewestFrom_50 : decode cX5_fewestFrom 50 = .ok (.goto (-38), 3) := by decide +kernel
theorem dX5_fewestFrom_53 : decode cX5_fewestFrom 53 = .ok (.iconst (-1), 1) := by decide +kernel
theorem dX5_fewestFrom_54 : decode cX5_fewestFrom 54 = .ok (.istore 5, 2) := by decide +kernel
theorem dX5_fewestFrom_56 : decode cX5_fewestFrom 56 = .ok (.iconst 1, 1) := by decide +kernel
theorem dX5_fewestFrom_57 : decode cX5_fewestFrom 57 = .ok (.istore 6, 2) := by decide +kernel
theorem dX5_fewestFrom_59 : decode cX5_fewestFrom 59 = .ok (.iload 6, 2) := by decide +kernel
theorem dX5_fewestFrom_61 : decode cX5_fewestFrom 61 = .ok (.iconst 1, 1) := by decide +kernel
theorem dX5_fewestFrom_62 : decode cX5_fewestFrom 62 = .ok (.aload_n 1, 1) := by decide +kernel
theorem dX5_fewestFrom_63 : decode cX5_fewestFrom 63 = .ok (.getfield 34, 3) := by decide +kernel
theorem dX5_fewestFrom_66 : decode cX5_fewestFrom 66 = .ok (.ishl, 1) := by decide +kernel
theorem dX5_fewestFrom_67 : decode cX5_fewestFrom 67 = .ok (.if_icmp .ge 69, 3) := by decide +kernel
theorem dX5_fewestFrom_70 : decode cX5_fewestFrom 70 = .ok (.iload 5, 2) := by decide +kernel
theorem dX5_fewestFrom_72 : decode cX5_fewestFrom 72 = .ok (.iconst (-1), 1) := by decide +kernel
theorem dX5_fewestFrom_73 : decode cX5_fewestFrom 73 = .ok (.if_icmp .eq 16, 3) := by decide +kernel
theorem dX5_fewestFrom_76 : decode cX5_fewestFrom 76 = .ok (.iload 6, 2) := by decide +kernel
theorem dX5_fewestFrom_78 : decode cX5_fewestFrom 78 = .ok (.invokestatic 63, 3) := by decide +kernel
theorem dX5_fewestFrom_81 : decode cX5_fewestFrom 81 = .ok (.iload 5, 2) := by decide +kernel
theorem dX5_fewestFrom_83 : decode cX5_fewestFrom 83 = .ok (.invokestatic 63, 3) := by decide +kernel
theorem dX5_fewestFrom_86 : decode cX5_fewestFrom 86 = .ok (.if_icmp .ge 7, 3) := by decide +kernel
theorem dX5_fewestFrom_89 : decode cX5_fewestFrom 89 = .ok (.iconst 1, 1) := by decide +kernel
theorem dX5_fewestFrom_90 : decode cX5_fewestFrom 90 = .ok (.goto 4, 3) := by decide +kernel
theorem dX5_fewestFrom_93 : decode cX5_fewestFrom 93 = .ok (.iconst 0, 1) := by decide +kernel
theorem dX5_fewestFrom_94 : decode cX5_fewestFrom 94 = .ok (.istore 7, 2) := by decide +kernel
theorem dX5_fewestFrom_96 : decode cX5_fewestFrom 96 = .ok (.iload 7, 2) := by decide +kernel
theorem dX5_fewestFrom_98 : decode cX5_fewestFrom 98 = .ok (.ifCond .eq 32, 3) := by decide +kernel
theorem dX5_fewestFrom_101 : decode cX5_fewestFrom 101 = .ok (.iload 6, 2) := by decide +kernel
theorem dX5_fewestFrom_103 : decode cX5_fewestFrom 103 = .ok (.iload_n 2, 1) := by decide +kernel
theorem dX5_fewestFrom_104 : decode cX5_fewestFrom 104 = .ok (.ishr, 1) := by decide +kernel
theorem dX5_fewestFrom_105 : decode cX5_fewestFrom 105 = .ok (.iconst 1, 1) := by decide +kernel
theorem dX5_fewestFrom_106 : decode cX5_fewestFrom 106 = .ok (.iand, 1) := by decide +kernel
theorem dX5_fewestFrom_107 : decode cX5_fewestFrom 107 = .ok (.iconst 1, 1) := by decide +kernel
theorem dX5_fewestFrom_108 : decode cX5_fewestFrom 108 = .ok (.if_icmp .ne 22, 3) := by decide +kernel
theorem dX5_fewestFrom_111 : decode cX5_fewestFrom 111 = .ok (.iload 4, 2) := by decide +kernel
theorem dX5_fewestFrom_113 : decode cX5_fewestFrom 113 = .ok (.aload_n 0, 1) := by decide +kernel
theorem dX5_fewestFrom_114 : decode cX5_fewestFrom 114 = .ok (.iload 6, 2) := by decide +kernel
theorem dX5_fewestFrom_116 : decode cX5_fewestFrom 116 = .ok (.iload_n 2, 1) := by decide +kernel
theorem dX5_fewestFrom_117 : decode cX5_fewestFrom 117 = .ok (.invokevirtual 68, 3) := by decide +kernel
theorem dX5_fewestFrom_120 : decode cX5_fewestFrom 120 = .ok (.iconst (-1), 1) := by decide +kernel
theorem dX5_fewestFrom_121 : decode cX5_fewestFrom 121 = .ok (.ixor, 1) := by decide +kernel
theorem dX5_fewestFrom_122 : decode cX5_fewestFrom 122 = .ok (.iand, 1) := by decide +kernel
theorem dX5_fewestFrom_123 : decode cX5_fewestFrom 123 = .ok (.ifCond .ne 7, 3) := by decide +kernel
theorem dX5_fewestFrom_126 : decode cX5_fewestFrom 126 = .ok (.iload 6, 2) := by decide +kernel
theorem dX5_fewestFrom_128 : decode cX5_fewestFrom 128 = .ok (.istore 5, 2) := by decide +kernel
theorem dX5_fewestFrom_130 : decode cX5_fewestFrom 130 = .ok (.iinc 6 1, 3) := by decide +kernel
theorem dX5_fewestFrom_133 : decode cX5_fewestFrom 133 = .ok (.goto (-74), 3) := by decide +kernel
theorem dX5_fewestFrom_136 : decode cX5_fewestFrom 136 = .ok (.iload 5, 2) := by decide +kernel
theorem dX5_fewestFrom_138 : decode cX5_fewestFrom 138 = .ok (.ireturn, 1) := by decide +kernel
theorem dX5_knownBy_0 : decode cX5_knownBy 0 = .ok (.iconst 1, 1) := by decide +kernel
theorem dX5_knownBy_1 : decode cX5_knownBy 1 = .ok (.iload_n 2, 1) := by decide +kernel
theorem dX5_knownBy_2 : decode cX5_knownBy 2 = .ok (.ishl, 1) := by decide +kernel
theorem dX5_knownBy_3 : decode cX5_knownBy 3 = .ok (.istore_n 3, 1) := by decide +kernel
theorem dX5_knownBy_4 : decode cX5_knownBy 4 = .ok (.iconst 0, 1) := by decide +kernel
theorem dX5_knownBy_5 : decode cX5_knownBy 5 = .ok (.istore 4, 2) := by decide +kernel
theorem dX5_knownBy_7 : decode cX5_knownBy 7 = .ok (.iload 4, 2) := by decide +kernel
theorem dX5_knownBy_9 : decode cX5_knownBy 9 = .ok (.bipush 8, 2) := by decide +kernel
theorem dX5_knownBy_11 : decode cX5_knownBy 11 = .ok (.if_icmp .ge 46, 3) := by decide +kernel
theorem dX5_knownBy_14 : decode cX5_knownBy 14 = .ok (.iconst 0, 1) := by decide +kernel
theorem dX5_knownBy_15 : decode cX5_knownBy 15 = .ok (.istore 5, 2) := by decide +kernel
theorem dX5_knownBy_17 : decode cX5_knownBy 17 = .ok (.iload 5, 2) := by decide +kernel
theorem dX5_knownBy_19 : decode cX5_knownBy 19 = .ok (.bipush 8, 2) := by decide +kernel
theorem dX5_knownBy_21 : decode cX5_knownBy 21 = .ok (.if_icmp .ge 30, 3) := by decide +kernel
theorem dX5_knownBy_24 : decode cX5_knownBy 24 = .ok (.iload_n 3, 1) := by decide +kernel
theorem dX5_knownBy_25 : decode cX5_knownBy 25 = .ok (.iload_n 1, 1) := by decide +kernel
theorem dX5_knownBy_26 : decode cX5_knownBy 26 = .ok (.iand, 1) := by decide +kernel
theorem dX5_knownBy_27 : decode cX5_knownBy 27 = .ok (.iconst 1, 1) := by decide +kernel
theorem dX5_knownBy_28 : decode cX5_knownBy 28 = .ok (.iload 5, 2) := by decide +kernel
theorem dX5_knownBy_30 : decode cX5_knownBy 30 = .ok (.ishl, 1) := by decide +kernel
theorem dX5_knownBy_31 : decode cX5_knownBy 31 = .ok (.iand, 1) := by decide +kernel
theorem dX5_knownBy_32 : decode cX5_knownBy 32 = .ok (.ifCond .eq 13, 3) := by decide +kernel
theorem dX5_knownBy_35 : decode cX5_knownBy 35 = .ok (.iload_n 3, 1) := by decide +kernel
theorem dX5_knownBy_36 : decode cX5_knownBy 36 = .ok (.aload_n 0, 1) := by decide +kernel
theorem dX5_knownBy_37 : decode cX5_knownBy 37 = .ok (.getfield 9, 3) := by decide +kernel
theorem dX5_knownBy_40 : decode cX5_knownBy 40 = .ok (.iload 5, 2) := by decide +kernel
theorem dX5_knownBy_42 : decode cX5_knownBy 42 = .ok (.iaload, 1) := by decide +kernel
theorem dX5_knownBy_43 : decode cX5_knownBy 43 = .ok (.ior, 1) := by decide +kernel
theorem dX5_knownBy_44 : decode cX5_knownBy 44 = .ok (.istore_n 3, 1) := by decide +kernel
theorem dX5_knownBy_45 : decode cX5_knownBy 45 = .ok (.iinc 5 1, 3) := by decide +kernel
theorem dX5_knownBy_48 : decode cX5_knownBy 48 = .ok (.goto (-31), 3) := by decide +kernel
theorem dX5_knownBy_51 : decode cX5_knownBy 51 = .ok (.iinc 4 1, 3) := by decide +kernel
theorem dX5_knownBy_54 : decode cX5_knownBy 54 = .ok (.goto (-47), 3) := by decide +kernel
theorem dX5_knownBy_57 : decode cX5_knownBy 57 = .ok (.iload_n 3, 1) := by decide +kernel
theorem dX5_knownBy_58 : decode cX5_knownBy 58 = .ok (.ireturn, 1) := by decide +kernel
theorem dX6_init_0 : decode cX6_init 0 = .ok (.aload_n 0, 1) := by decide +kernel
theorem dX6_init_1 : decode cX6_init 1 = .ok (.invokespecial 3, 3) := by decide +kernel
theorem dX6_init_4 : decode cX6_init 4 = .ok (.aload_n 0, 1) := by decide +kernel
theorem dX6_init_5 : decode cX6_init 5 = .ok (.bipush 12, 2) := by decide +kernel
theorem dX6_init_7 : decode cX6_init 7 = .ok (.newarray .int, 2) := by decide +kernel
theorem dX6_init_9 : decode cX6_init 9 = .ok (.putfield 9, 3) := by decide +kernel
theorem dX6_init_12 : decode cX6_init 12 = .ok (.aload_n 0, 1) := by decide +kernel
theorem dX6_init_13 : decode cX6_init 13 = .ok (.bipush 12, 2) := by decide +kernel
theorem dX6_init_15 : decode cX6_init 15 = .ok (.newarray .int, 2) := by decide +kernel
theorem dX6_init_17 : decode cX6_init 17 = .ok (.putfield 15, 3) := by decide +kernel
theorem dX6_init_20 : decode cX6_init 20 = .ok (.aload_n 0, 1) := by decide +kernel
theorem dX6_init_21 : decode cX6_init 21 = .ok (.bipush 12, 2) := by decide +kernel
theorem dX6_init_23 : decode cX6_init 23 = .ok (.newarray .int, 2) := by decide +kernel
theorem dX6_init_25 : decode cX6_init 25 = .ok (.putfield 18, 3) := by decide +kernel
theorem dX6_init_28 : decode cX6_init 28 = .ok (.aload_n 0, 1) := by decide +kernel
theorem dX6_init_29 : decode cX6_init 29 = .ok (.bipush 12, 2) := by decide +kernel
theorem dX6_init_31 : decode cX6_init 31 = .ok (.newarray .int, 2) := by decide +kernel
theorem dX6_init_33 : decode cX6_init 33 = .ok (.putfield 21, 3) := by decide +kernel
theorem dX6_init_36 : decode cX6_init 36 = .ok (.aload_n 0, 1) := by decide +kernel
theorem dX6_init_37 : decode cX6_init 37 = .ok (.bipush 12, 2) := by decide +kernel
theorem dX6_init_39 : decode cX6_init 39 = .ok (.newarray .int, 2) := by decide +kernel
theorem dX6_init_41 : decode cX6_init 41 = .ok (.putfield 24, 3) := by decide +kernel
theorem dX6_init_44 : decode cX6_init 44 = .ok (.aload_n 0, 1) := by decide +kernel
theorem dX6_init_45 : decode cX6_init 45 = .ok (.bipush 12, 2) := by decide +kernel
theorem dX6_init_47 : decode cX6_init 47 = .ok (.newarray .int, 2) := by decide +kernel
theorem dX6_init_49 : decode cX6_init 49 = .ok (.putfield 27, 3) := by decide +kernel
theorem dX6_init_52 : decode cX6_init 52 = .ok (.return_, 1) := by decide +kernel
theorem dX6_copyFrom_0 : decode cX6_copyFrom 0 = .ok (.aload_n 0, 1) := by decide +kernel
theorem dX6_copyFrom_1 : decode cX6_copyFrom 1 = .ok (.aload_n 1, 1) := by decide +kernel
theorem dX6_copyFrom_2 : decode cX6_copyFrom 2 = .ok (.getfield 30, 3) := by decide +kernel
theorem dX6_copyFrom_5 : decode cX6_copyFrom 5 = .ok (.putfield 30, 3) := by decide +kernel
theorem dX6_copyFrom_8 : decode cX6_copyFrom 8 = .ok (.aload_n 1, 1) := by decide +kernel
theorem dX6_copyFrom_9 : decode cX6_copyFrom 9 = .ok (.getfield 9, 3) := by decide +kernel
theorem dX6_copyFrom_12 : decode cX6_copyFrom 12 = .ok (.iconst 0, 1) := by decide +kernel
theorem dX6_copyFrom_13 : decode cX6_copyFrom 13 = .ok (.aload_n 0, 1) := by decide +kernel
theorem dX6_copyFrom_14 : decode cX6_copyFrom 14 = .ok (.getfield 9, 3) := by decide +kernel
theorem dX6_copyFrom_17 : decode cX6_copyFrom 17 = .ok (.iconst 0, 1) := by decide +kernel
theorem dX6_copyFrom_18 : decode cX6_copyFrom 18 = .ok (.bipush 12, 2) := by decide +kernel
theorem dX6_copyFrom_20 : decode cX6_copyFrom 20 = .ok (.invokestatic 34, 3) := by decide +kernel
theorem dX6_copyFrom_23 : decode cX6_copyFrom 23 = .ok (.aload_n 1, 1) := by decide +kernel
theorem dX6_copyFrom_24 : decode cX6_copyFrom 24 = .ok (.getfield 15, 3) := by decide +kernel
theorem dX6_copyFrom_27 : decode cX6_copyFrom 27 = .ok (.iconst 0, 1) := by decide +kernel
theorem dX6_copyFrom_28 : decode cX6_copyFrom 28 = .ok (.aload_n 0, 1) := by decide +kernel
theorem dX6_copyFrom_29 : decode cX6_copyFrom 29 = .ok (.getfield 15, 3) := by decide +kernel
theorem dX6_copyFrom_32 : decode cX6_copyFrom 32 = .ok (.iconst 0, 1) := by decide +kernel
theorem dX6_copyFrom_33 : decode cX6_copyFrom 33 = .ok (.bipush 12, 2) := by decide +kernel
theorem dX6_copyFrom_35 : decode cX6_copyFrom 35 = .ok (.invokestatic 34, 3) := by decide +kernel
theorem dX6_copyFrom_38 : decode cX6_copyFrom 38 = .ok (.aload_n 1, 1) := by decide +kernel
theorem dX6_copyFrom_39 : decode cX6_copyFrom 39 = .ok (.getfield 18, 3) := by decide +kernel
theorem dX6_copyFrom_42 : decode cX6_copyFrom 42 = .ok (.iconst 0, 1) := by decide +kernel
theorem dX6_copyFrom_43 : decode cX6_copyFrom 43 = .ok (.aload_n 0, 1) := by decide +kernel
theorem dX6_copyFrom_44 : decode cX6_copyFrom 44 = .ok (.getfield 18, 3) := by decide +kernel
theorem dX6_copyFrom_47 : decode cX6_copyFrom 47 = .ok (.iconst 0, 1) := by decide +kernel
theorem dX6_copyFrom_48 : decode cX6_copyFrom 48 = .ok (.bipush 12, 2) := by decide +kernel
theorem dX6_copyFrom_50 : decode cX6_copyFrom 50 = .ok (.invokestatic 34, 3) := by decide +kernel
theorem dX6_copyFrom_53 : decode cX6_copyFrom 53 = .ok (.aload_n 1, 1) := by decide +kernel
theorem dX6_copyFrom_54 : decode cX6_copyFrom 54 = .ok (.getfield 21, 3) := by decide +kernel
theorem dX6_copyFrom_57 : decode cX6_copyFrom 57 = .ok (.iconst 0, 1) := by decide +kernel
theorem dX6_copyFrom_58 : decode cX6_copyFrom 58 = .ok (.aload_n 0, 1) := by decide +kernel
theorem dX6_copyFrom_59 : decode cX6_copyFrom 59 = .ok (.getfield 21, 3) := by decide +kernel
theorem dX6_copyFrom_62 : decode cX6_copyFrom 62 = .ok (.iconst 0, 1) := by decide +kernel
theorem dX6_copyFrom_63 : decode cX6_copyFrom 63 = .ok (.bipush 12, 2) := by decide +kernel
theorem dX6_copyFrom_65 : decode cX6_copyFrom 65 = .ok (.invokestatic 34, 3) := by decide +kernel
theorem dX6_copyFrom_68 : decode cX6_copyFrom 68 = .ok (.return_, 1) := by decide +kernel
theorem dX6_hasRinging_0 : decode cX6_hasRinging 0 = .ok (.iload_n 1, 1) := by decide +kernel
theorem dX6_hasRinging_1 : decode cX6_hasRinging 1 = .ok (.ifCond .lt 21, 3) := by decide +kernel
theorem dX6_hasRinging_4 : decode cX6_hasRinging 4 = .ok (.iload_n 1, 1) := by decide +kernel
theorem dX6_hasRinging_5 : decode cX6_hasRinging 5 = .ok (.aload_n 0, 1) := by decide +kernel
theorem dX6_hasRinging_6 : decode cX6_hasRinging 6 = .ok (.getfield 30, 3) := by decide +kernel
theorem dX6_hasRinging_9 : decode cX6_hasRinging 9 = .ok (.if_icmp .ge 13, 3) := by decide +kernel
theorem dX6_hasRinging_12 : decode cX6_hasRinging 12 = .ok (.iload_n 1, 1) := by decide +kernel
theorem dX6_hasRinging_13 : decode cX6_hasRinging 13 = .ok (.bipush 12, 2) := by decide +kernel
theorem dX6_hasRinging_15 : decode cX6_hasRinging 15 = .ok (.if_icmp .ge 7, 3) := by decide +kernel
theorem dX6_hasRinging_18 : decode cX6_hasRinging 18 = .ok (.iconst 1, 1) := by decide +kernel
theorem dX6_hasRinging_19 : decode cX6_hasRinging 19 = .ok (.goto 4, 3) := by decide +kernel
theorem dX6_hasRinging_22 : decode cX6_hasRinging 22 = .ok (.iconst 0, 1) := by decide +kernel
theorem dX6_hasRinging_23 : decode cX6_hasRinging 23 = .ok (.ireturn, 1) := by decide +kernel
theorem dX6_add_0 : decode cX6_add 0 = .ok (.aload_n 0, 1) := by decide +kernel
theorem dX6_add_1 : decode cX6_add 1 = .ok (.getfield 30, 3) := by decide +kernel
theorem dX6_add_4 : decode cX6_add 4 = .ok (.ifCond .lt 12, 3) := by decide +kernel
theorem dX6_add_7 : decode cX6_add 7 = .ok (.aload_n 0, 1) := by decide +kernel
theorem dX6_add_8 : decode cX6_add 8 = .ok (.getfield 30, 3) := by decide +kernel
theorem dX6_add_11 : decode cX6_add 11 = .ok (.bipush 12, 2) := by decide +kernel
theorem dX6_add_13 : decode cX6_add 13 = .ok (.if_icmp .lt 5, 3) := by decide +kernel
theorem dX6_add_16 : decode cX6_add 16 = .ok (.iconst (-1), 1) := by decide +kernel
theorem dX6_add_17 : decode cX6_add 17 = .ok (.ireturn, 1) := by decide +kernel
theorem dX6_add_18 : decode cX6_add 18 = .ok (.aload_n 0, 1) := by decide +kernel
theorem dX6_add_19 : decode cX6_add 19 = .ok (.getfield 9, 3) := by decide +kernel
theorem dX6_add_22 : decode cX6_add 22 = .ok (.aload_n 0, 1) := by decide +kernel
theorem dX6_add_23 : decode cX6_add 23 = .ok (.getfield 30, 3) := by decide +kernel
theorem dX6_add_26 : decode cX6_add 26 = .ok (.iload_n 1, 1) := by decide +kernel
theorem dX6_add_27 : decode cX6_add 27 = .ok (.iastore, 1) := by decide +kernel
theorem dX6_add_28 : decode cX6_add 28 = .ok (.aload_n 0, 1) := by decide +kernel
theorem dX6_add_29 : decode cX6_add 29 = .ok (.getfield 15, 3) := by decide +kernel
theorem dX6_add_32 : decode cX6_add 32 = .ok (.aload_n 0, 1) := by decide +kernel
theorem dX6_add_33 : decode cX6_add 33 = .ok (.getfield 30, 3) := by decide +kernel
theorem dX6_add_36 : decode cX6_add 36 = .ok (.iload_n 2, 1) := by decide +kernel
theorem dX6_add_37 : decode cX6_add 37 = .ok (.iastore, 1) := by decide +kernel
theorem dX6_add_38 : decode cX6_add 38 = .ok (.aload_n 0, 1) := by decide +kernel
theorem dX6_add_39 : decode cX6_add 39 = .ok (.getfield 18, 3) := by decide +kernel
theorem dX6_add_42 : decode cX6_add 42 = .ok (.aload_n 0, 1) := by decide +kernel
theorem dX6_add_43 : decode cX6_add 43 = .ok (.getfield 30, 3) := by decide +kernel
theorem dX6_add_46 : decode cX6_add 46 = .ok (.iload_n 3, 1) := by decide +kernel
theorem dX6_add_47 : decode cX6_add 47 = .ok (.iastore, 1) := by decide +kernel
theorem dX6_add_48 : decode cX6_add 48 = .ok (.aload_n 0, 1) := by decide +kernel
theorem dX6_add_49 : decode cX6_add 49 = .ok (.getfield 21, 3) := by decide +kernel
theorem dX6_add_52 : decode cX6_add 52 = .ok (.aload_n 0, 1) := by decide +kernel
theorem dX6_add_53 : decode cX6_add 53 = .ok (.getfield 30, 3) := by decide +kernel
theorem dX6_add_56 : decode cX6_add 56 = .ok (.iload 4, 2) := by decide +kernel
theorem dX6_add_58 : decode cX6_add 58 = .ok (.iastore, 1) := by decide +kernel
theorem dX6_add_59 : decode cX6_add 59 = .ok (.aload_n 0, 1) := by decide +kernel
theorem dX6_add_60 : decode cX6_add 60 = .ok (.dup, 1) := by decide +kernel
theorem dX6_add_61 : decode cX6_add 61 = .ok (.getfield 30, 3) := by decide +kernel
theorem dX6_add_64 : decode cX6_add 64 = .ok (.iconst 1, 1) := by decide +kernel
theorem dX6_add_65 : decode cX6_add 65 = .ok (.iadd, 1) := by decide +kernel
theorem dX6_add_66 : decode cX6_add 66 = .ok (.putfield 30, 3) := by decide +kernel
theorem dX6_add_69 : decode cX6_add 69 = .ok (.aload_n 0, 1) := by decide +kernel
theorem dX6_add_70 : decode cX6_add 70 = .ok (.getfield 30, 3) := by decide +kernel
theorem dX6_add_73 : decode cX6_add 73 = .ok (.iconst 1, 1) := by decide +kernel
theorem dX6_add_74 : decode cX6_add 74 = .ok (.isub, 1) := by decide +kernel
theorem dX6_add_75 : decode cX6_add 75 = .ok (.ireturn, 1) := by decide +kernel
theorem dX6_listenAt_0 : decode cX6_listenAt 0 = .ok (.iconst 0, 1) := by decide +kernel
theorem dX6_listenAt_1 : decode cX6_listenAt 1 = .ok (.istore_n 3, 1) := by decide +kernel
theorem dX6_listenAt_2 : decode cX6_listenAt 2 = .ok (.iload_n 3, 1) := by decide +kernel
theorem dX6_listenAt_3 : decode cX6_listenAt 3 = .ok (.aload_n 0, 1) := by decide +kernel
theorem dX6_listenAt_4 : decode cX6_listenAt 4 = .ok (.getfield 30, 3) := by decide +kernel
theorem dX6_listenAt_7 : decode cX6_listenAt 7 = .ok (.if_icmp .ge 85, 3) := by decide +kernel
theorem dX6_listenAt_10 : decode cX6_listenAt 10 = .ok (.iload_n 3, 1) := by decide +kernel
theorem dX6_listenAt_11 : decode cX6_listenAt 11 = .ok (.bipush 12, 2) := by decide +kernel
theorem dX6_listenAt_13 : decode cX6_listenAt 13 = .ok (.if_icmp .ge 79, 3) := by decide +kernel
theorem dX6_listenAt_16 : decode cX6_listenAt 16 = .ok (.aload_n 1, 1) := by decide +kernel
theorem dX6_listenAt_17 : decode cX6_listenAt 17 = .ok (.iload_n 2, 1) := by decide +kernel
theorem dX6_listenAt_18 : decode cX6_listenAt 18 = .ok (.aload_n 0, 1) := by decide +kernel
theorem dX6_listenAt_19 : decode cX6_listenAt 19 = .ok (.getfield 15, 3) := by decide +kernel
theorem dX6_listenAt_22 : decode cX6_listenAt 22 = .ok (.iload_n 3, 1) := by decide +kernel
theorem dX6_listenAt_23 : decode cX6_listenAt 23 = .ok (.iaload, 1) := by decide +kernel
theorem dX6_listenAt_24 : decode cX6_listenAt 24 = .ok (.invokevirtual 40, 3) := by decide +kernel
theorem dX6_listenAt_27 : decode cX6_listenAt 27 = .ok (.istore 4, 2) := by decide +kernel
theorem dX6_listenAt_29 : decode cX6_listenAt 29 = .ok (.aload_n 0, 1) := by decide +kernel
theorem dX6_listenAt_30 : decode cX6_listenAt 30 = .ok (.getfield 24, 3) := by decide +kernel
theorem dX6_listenAt_33 : decode cX6_listenAt 33 = .ok (.iload_n 3, 1) := by decide +kernel
theorem dX6_listenAt_34 : decode cX6_listenAt 34 = .ok (.iload 4, 2) := by decide +kernel
theorem dX6_listenAt_36 : decode cX6_listenAt 36 = .ok (.ifCond .le 17, 3) := by decide +kernel
theorem dX6_listenAt_39 : decode cX6_listenAt 39 = .ok (.aload_n 0, 1) := by decide +kernel
theorem dX6_listenAt_40 : decode cX6_listenAt 40 = .ok (.getfield 21, 3) := by decide +kernel
theorem dX6_listenAt_43 : decode cX6_listenAt 43 = .ok (.iload_n 3, 1) := by decide +kernel
theorem dX6_listenAt_44 : decode cX6_listenAt 44 = .ok (.iaload, 1) := by decide +kernel
theorem dX6_listenAt_45 : decode cX6_listenAt 45 = .ok (.iload 4, 2) := by decide +kernel
theorem dX6_listenAt_47 : decode cX6_listenAt 47 = .ok (.invokestatic 46, 3) := by decide +kernel
theorem dX6_listenAt_50 : decode cX6_listenAt 50 = .ok (.goto 4, 3) := by decide +kernel
theorem dX6_listenAt_53 : decode cX6_listenAt 53 = .ok (.iconst 0, 1) := by decide +kernel
theorem dX6_listenAt_54 : decode cX6_listenAt 54 = .ok (.iastore, 1) := by decide +kernel
theorem dX6_listenAt_55 : decode cX6_listenAt 55 = .ok (.aload_n 0, 1) := by decide +kernel
theorem dX6_listenAt_56 : decode cX6_listenAt 56 = .ok (.getfield 27, 3) := by decide +kernel
theorem dX6_listenAt_59 : decode cX6_listenAt 59 = .ok (.iload_n 3, 1) := by decide +kernel
theorem dX6_listenAt_60 : decode cX6_listenAt 60 = .ok (.iload 4, 2) := by decide +kernel
theorem dX6_listenAt_62 : decode cX6_listenAt 62 = .ok (.ifCond .le 22, 3) := by decide +kernel
theorem dX6_listenAt_65 : decode cX6_listenAt 65 = .ok (.aload_n 0, 1) := by decide +kernel
theorem dX6_listenAt_66 : decode cX6_listenAt 66 = .ok (.getfield 9, 3) := by decide +kernel
theorem dX6_listenAt_69 : decode cX6_listenAt 69 = .ok (.iload_n 3, 1) := by decide +kernel
theorem dX6_listenAt_70 : decode cX6_listenAt 70 = .ok (.iaload, 1) := by decide +kernel
theorem dX6_listenAt_71 : decode cX6_listenAt 71 = .ok (.aload_n 0, 1) := by decide +kernel
theorem dX6_listenAt_72 : decode cX6_listenAt 72 = .ok (.getfield 24, 3) := by decide +kernel
theorem dX6_listenAt_75 : decode cX6_listenAt 75 = .ok (.iload_n 3, 1) := by decide +kernel
theorem dX6_listenAt_76 : decode cX6_listenAt 76 = .ok (.iaload, 1) := by decide +kernel
theorem dX6_listenAt_77 : decode cX6_listenAt 77 = .ok (.invokestatic 49, 3) := by decide +kernel
theorem dX6_listenAt_80 : decode cX6_listenAt 80 = .ok (.iadd, 1) := by decide +kernel
theorem dX6_listenAt_81 : decode cX6_listenAt 81 = .ok (.goto 4, 3) := by decide +kernel
theorem dX6_listenAt_84 : decode cX6_listenAt 84 = .ok (.iconst (-1), 1) := by decide +kernel
theorem dX6_listenAt_85 : decode cX6_listenAt 85 = .ok (.iastore, 1) := by decide +kernel
theorem dX6_listenAt_86 : decode cX6_listenAt 86 = .ok (.iinc 3 1, 3) := by decide +kernel
theorem dX6_listenAt_89 : decode cX6_listenAt 89 = .ok (.goto (-87), 3) := by decide +kernel
theorem dX6_listenAt_92 : decode cX6_listenAt 92 = .ok (.return_, 1) := by decide +kernel
theorem dX6_cameTo_0 : decode cX6_cameTo 0 = .ok (.aload_n 0, 1) := by decide +kernel
theorem dX6_cameTo_1 : decode cX6_cameTo 1 = .ok (.aload_n 1, 1) := by decide +kernel
theorem dX6_cameTo_2 : decode cX6_cameTo 2 = .ok (.iload_n 3, 1) := by decide +kernel
theorem dX6_cameTo_3 : decode cX6_cameTo 3 = .ok (.invokevirtual 53, 3) := by decide +kernel
theorem dX6_cameTo_6 : decode cX6_cameTo 6 = .ok (.aload_n 0, 1) := by decide +kernel
theorem dX6_cameTo_7 : decode cX6_cameTo 7 = .ok (.iload_n 2, 1) := by decide +kernel
theorem dX6_cameTo_8 : decode cX6_cameTo 8 = .ok (.invokevirtual 57, 3) := by decide +kernel
theorem dX6_cameTo_11 : decode cX6_cameTo 11 = .ok (.ifCond .eq 17, 3) := by decide +kernel
theorem dX6_cameTo_14 : decode cX6_cameTo 14 = .ok (.aload_n 0, 1) := by decide +kernel
theorem dX6_cameTo_15 : decode cX6_cameTo 15 = .ok (.iload_n 2, 1) := by decide +kernel
theorem dX6_cameTo_16 : decode cX6_cameTo 16 = .ok (.aload_n 0, 1) := by decide +kernel
theorem dX6_cameTo_17 : decode cX6_cameTo 17 = .ok (.getfield 9, 3) := by decide +kernel
theorem dX6_cameTo_20 : decode cX6_cameTo 20 = .ok (.iload_n 2, 1) := by decide +kernel
theorem dX6_cameTo_21 : decode cX6_cameTo 21 = .ok (.iaload, 1) := by decide +kernel
theorem dX6_cameTo_22 : decode cX6_cameTo 22 = .ok (.invokevirtual 61, 3) := by decide +kernel
theorem dX6_cameTo_25 : decode cX6_cameTo 25 = .ok (.goto 4, 3) := by decide +kernel
theorem dX6_cameTo_28 : decode cX6_cameTo 28 = .ok (.iconst 0, 1) := by decide +kernel
theorem dX6_cameTo_29 : decode cX6_cameTo 29 = .ok (.ireturn, 1) := by decide +kernel
theorem dX6_unmixed_0 : decode cX6_unmixed 0 = .ok (.aload_n 0, 1) := by decide +kernel
theorem dX6_unmixed_1 : decode cX6_unmixed 1 = .ok (.iload_n 1, 1) := by decide +kernel
theorem dX6_unmixed_2 : decode cX6_unmixed 2 = .ok (.invokevirtual 57, 3) := by decide +kernel
theorem dX6_unmixed_5 : decode cX6_unmixed 5 = .ok (.ifCond .eq 12, 3) := by decide +kernel
theorem dX6_unmixed_8 : decode cX6_unmixed 8 = .ok (.aload_n 0, 1) := by decide +kernel
theorem dX6_unmixed_9 : decode cX6_unmixed 9 = .ok (.getfield 24, 3) := by decide +kernel
theorem dX6_unmixed_12 : decode cX6_unmixed 12 = .ok (.iload_n 1, 1) := by decide +kernel
theorem dX6_unmixed_13 : decode cX6_unmixed 13 = .ok (.iaload, 1) := by decide +kernel
theorem dX6_unmixed_14 : decode cX6_unmixed 14 = .ok (.goto 4, 3) := by decide +kernel
theorem dX6_unmixed_17 : decode cX6_unmixed 17 = .ok (.iconst 0, 1) := by decide +kernel
theorem dX6_unmixed_18 : decode cX6_unmixed 18 = .ok (.istore_n 3, 1) := by decide +kernel
theorem dX6_unmixed_19 : decode cX6_unmixed 19 = .ok (.iload_n 3, 1) := by decide +kernel
theorem dX6_unmixed_20 : decode cX6_unmixed 20 = .ok (.ifCond .ne 5, 3) := by decide +kernel
theorem dX6_unmixed_23 : decode cX6_unmixed 23 = .ok (.iconst 0, 1) := by decide +kernel
theorem dX6_unmixed_24 : decode cX6_unmixed 24 = .ok (.ireturn, 1) := by decide +kernel
theorem dX6_unmixed_25 : decode cX6_unmixed 25 = .ok (.iconst 1, 1) := by decide +kernel
theorem dX6_unmixed_26 : decode cX6_unmixed 26 = .ok (.istore 4, 2) := by decide +kernel
theorem dX6_unmixed_28 : decode cX6_unmixed 28 = .ok (.iload_n 2, 1) := by decide +kernel
theorem dX6_unmixed_29 : decode cX6_unmixed 29 = .ok (.istore 5, 2) := by decide +kernel
theorem dX6_unmixed_31 : decode cX6_unmixed 31 = .ok (.iload_n 3, 1) := by decide +kernel
theorem dX6_unmixed_32 : decode cX6_unmixed 32 = .ok (.invokestatic 64, 3) := by decide +kernel
theorem dX6_unmixed_35 : decode cX6_unmixed 35 = .ok (.iconst 1, 1) := by decide +kernel
theorem dX6_unmixed_36 : decode cX6_unmixed 36 = .ok (.isub, 1) := by decide +kernel
theorem dX6_unmixed_37 : decode cX6_unmixed 37 = .ok (.istore 6, 2) := by decide +kernel
theorem dX6_unmixed_39 : decode cX6_unmixed 39 = .ok (.iload 6, 2) := by decide +kernel
theorem dX6_unmixed_41 : decode cX6_unmixed 41 = .ok (.ifCond .lt 54, 3) := by decide +kernel
theorem dX6_unmixed_44 : decode cX6_unmixed 44 = .ok (.iload_n 3, 1) := by decide +kernel
theorem dX6_unmixed_45 : decode cX6_unmixed 45 = .ok (.iload 6, 2) := by decide +kernel
theorem dX6_unmixed_47 : decode cX6_unmixed 47 = .ok (.ishr, 1) := by decide +kernel
theorem dX6_unmixed_48 : decode cX6_unmixed 48 = .ok (.iconst 1, 1) := by decide +kernel
theorem dX6_unmixed_49 : decode cX6_unmixed 49 = .ok (.iand, 1) := by decide +kernel
theorem dX6_unmixed_50 : decode cX6_unmixed 50 = .ok (.istore 7, 2) := by decide +kernel
theorem dX6_unmixed_52 : decode cX6_unmixed 52 = .ok (.iload 5, 2) := by decide +kernel
theorem dX6_unmixed_54 : decode cX6_unmixed 54 = .ok (.iconst 1, 1) := by decide +kernel
theorem dX6_unmixed_55 : decode cX6_unmixed 55 = .ok (.iadd, 1) := by decide +kernel
theorem dX6_unmixed_56 : decode cX6_unmixed 56 = .ok (.iload 7, 2) := by decide +kernel
theorem dX6_unmixed_58 : decode cX6_unmixed 58 = .ok (.iadd, 1) := by decide +kernel
theorem dX6_unmixed_59 : decode cX6_unmixed 59 = .ok (.istore 8, 2) := by decide +kernel
theorem dX6_unmixed_61 : decode cX6_unmixed 61 = .ok (.aload_n 0, 1) := by decide +kernel
theorem dX6_unmixed_62 : decode cX6_unmixed 62 = .ok (.iload_n 1, 1) := by decide +kernel
theorem dX6_unmixed_63 : decode cX6_unmixed 63 = .ok (.iload 5, 2) := by decide +kernel
theorem dX6_unmixed_65 : decode cX6_unmixed 65 = .ok (.iload 8, 2) := by decide +kernel
theorem dX6_unmixed_67 : decode cX6_unmixed 67 = .ok (.invokevirtual 67, 3) := by decide +kernel
theorem dX6_unmixed_70 : decode cX6_unmixed 70 = .ok (.ifCond .eq 6, 3) := by decide +kernel
theorem dX6_unmixed_73 : decode cX6_unmixed 73 = .ok (.goto 22, 3) := by decide +kernel
theorem dX6_unmixed_76 : decode cX6_unmixed 76 = .ok (.iload 4, 2) := by decide +kernel
theorem dX6_unmixed_78 : decode cX6_unmixed 78 = .ok (.iconst 2, 1) := by decide +kernel
theorem dX6_unmixed_79 : decode cX6_unmixed 79 = .ok (.imul, 1) := by decide +kernel
theorem dX6_unmixed_80 : decode cX6_unmixed 80 = .ok (.iload 7, 2) := by decide +kernel
theorem dX6_unmixed_82 : decode cX6_unmixed 82 = .ok (.iadd, 1) := by decide +kernel
theorem dX6_unmixed_83 : decode cX6_unmixed 83 = .ok (.istore 4, 2) := by decide +kernel
theorem dX6_unmixed_85 : decode cX6_unmixed 85 = .ok (.iload 8, 2) := by decide +kernel
theorem dX6_unmixed_87 : decode cX6_unmixed 87 = .ok (.istore 5, 2) := by decide +kernel
theorem dX6_unmixed_89 : decode cX6_unmixed 89 = .ok (.iinc 6 (-1), 3) := by decide +kernel
theorem dX6_unmixed_92 : decode cX6_unmixed 92 = .ok (.goto (-53), 3) := by decide +kernel
theorem dX6_unmixed_95 : decode cX6_unmixed 95 = .ok (.iload 4, 2) := by decide +kernel
theorem dX6_unmixed_97 : decode cX6_unmixed 97 = .ok (.ireturn, 1) := by decide +kernel
theorem dX6_isMixed_0 : decode cX6_isMixed 0 = .ok (.iconst 0, 1) := by decide +kernel
theorem dX6_isMixed_1 : decode cX6_isMixed 1 = .ok (.istore 4, 2) := by decide +kernel
theorem dX6_isMixed_3 : decode cX6_isMixed 3 = .ok (.iload 4, 2) := by decide +kernel
theorem dX6_isMixed_5 : decode cX6_isMixed 5 = .ok (.aload_n 0, 1) := by decide +kernel
theorem dX6_isMixed_6 : decode cX6_isMixed 6 = .ok (.getfield 30, 3) := by decide +kernel
theorem dX6_isMixed_9 : decode cX6_isMixed 9 = .ok (.if_icmp .ge 46, 3) := by decide +kernel
theorem dX6_isMixed_12 : decode cX6_isMixed 12 = .ok (.iload 4, 2) := by decide +kernel
theorem dX6_isMixed_14 : decode cX6_isMixed 14 = .ok (.bipush 12, 2) := by decide +kernel
theorem dX6_isMixed_16 : decode cX6_isMixed 16 = .ok (.if_icmp .ge 39, 3) := by decide +kernel
theorem dX6_isMixed_19 : decode cX6_isMixed 19 = .ok (.iload 4, 2) := by decide +kernel
theorem dX6_isMixed_21 : decode cX6_isMixed 21 = .ok (.iload_n 1, 1) := by decide +kernel
theorem dX6_isMixed_22 : decode cX6_isMixed 22 = .ok (.if_icmp .eq 27, 3) := by decide +kernel
theorem dX6_isMixed_25 : decode cX6_isMixed 25 = .ok (.aload_n 0, 1) := by decide +kernel
theorem dX6_isMixed_26 : decode cX6_isMixed 26 = .ok (.getfield 9, 3) := by decide +kernel
theorem dX6_isMixed_29 : decode cX6_isMixed 29 = .ok (.iload 4, 2) := by decide +kernel
theorem dX6_isMixed_31 : decode cX6_isMixed 31 = .ok (.iaload, 1) := by decide +kernel
theorem dX6_isMixed_32 : decode cX6_isMixed 32 = .ok (.iload_n 3, 1) := by decide +kernel
theorem dX6_isMixed_33 : decode cX6_isMixed 33 = .ok (.if_icmp .ge 16, 3) := by decide +kernel
theorem dX6_isMixed_36 : decode cX6_isMixed 36 = .ok (.iload_n 2, 1) := by decide +kernel
theorem dX6_isMixed_37 : decode cX6_isMixed 37 = .ok (.aload_n 0, 1) := by decide +kernel
theorem dX6_isMixed_38 : decode cX6_isMixed 38 = .ok (.getfield 27, 3) := by decide +kernel
theorem dX6_isMixed_41 : decode cX6_isMixed 41 = .ok (.iload 4, 2) := by decide +kernel
theorem dX6_isMixed_43 : decode cX6_isMixed 43 = .ok (.iaload, 1) := by decide +kernel
theorem dX6_isMixed_44 : decode cX6_isMixed 44 = .ok (.if_icmp .ge 5, 3) := by decide +kernel
theorem dX6_isMixed_47 : decode cX6_isMixed 47 = .ok (.iconst 1, 1) := by decide +kernel
theorem dX6_isMixed_48 : decode cX6_isMixed 48 = .ok (.ireturn, 1) := by decide +kernel
theorem dX6_isMixed_49 : decode cX6_isMixed 49 = .ok (.iinc 4 1, 3) := by decide +kernel
theorem dX6_isMixed_52 : decode cX6_isMixed 52 = .ok (.goto (-49), 3) := by decide +kernel
theorem dX6_isMixed_55 : decode cX6_isMixed 55 = .ok (.iconst 0, 1) := by decide +kernel
theorem dX6_isMixed_56 : decode cX6_isMixed 56 = .ok (.ireturn, 1) := by decide +kernel
theorem dX6_takenAt_0 : decode cX6_takenAt 0 = .ok (.aload_n 0, 1) := by decide +kernel
theorem dX6_takenAt_1 : decode cX6_takenAt 1 = .ok (.iload_n 2, 1) := by decide +kernel
theorem dX6_takenAt_2 : decode cX6_takenAt 2 = .ok (.invokevirtual 57, 3) := by decide +kernel
theorem dX6_takenAt_5 : decode cX6_takenAt 5 = .ok (.ifCond .eq 23, 3) := by decide +kernel
theorem dX6_takenAt_8 : decode cX6_takenAt 8 = .ok (.aload_n 1, 1) := by decide +kernel
theorem dX6_takenAt_9 : decode cX6_takenAt 9 = .ok (.aload_n 0, 1) := by decide +kernel
theorem dX6_takenAt_10 : decode cX6_takenAt 10 = .ok (.getfield 15, 3) := by decide +kernel
theorem dX6_takenAt_13 : decode cX6_takenAt 13 = .ok (.iload_n 2, 1) := by decide +kernel
theorem dX6_takenAt_14 : decode cX6_takenAt 14 = .ok (.iaload, 1) := by decide +kernel
theorem dX6_takenAt_15 : decode cX6_takenAt 15 = .ok (.aload_n 0, 1) := by decide +kernel
theorem dX6_takenAt_16 : decode cX6_takenAt 16 = .ok (.aload_n 1, 1) := by decide +kernel
theorem dX6_takenAt_17 : decode cX6_takenAt 17 = .ok (.iload_n 2, 1) := by decide +kernel
theorem dX6_takenAt_18 : decode cX6_takenAt 18 = .ok (.iload_n 3, 1) := by decide +kernel
theorem dX6_takenAt_19 : decode cX6_takenAt 19 = .ok (.invokevirtual 71, 3) := by decide +kernel
theorem dX6_takenAt_22 : decode cX6_takenAt 22 = .ok (.invokevirtual 75, 3) := by decide +kernel
theorem dX6_takenAt_25 : decode cX6_takenAt 25 = .ok (.goto 4, 3) := by decide +kernel
theorem dX6_takenAt_28 : decode cX6_takenAt 28 = .ok (.iconst (-1), 1) := by decide +kernel
theorem dX6_takenAt_29 : decode cX6_takenAt 29 = .ok (.ireturn, 1) := by decide +kernel
theorem dX6_possibleAt_0 : decode cX6_possibleAt 0 = .ok (.aload_n 0, 1) := by decide +kernel
theorem dX6_possibleAt_1 : decode cX6_possibleAt 1 = .ok (.aload_n 1, 1) := by decide +kernel
theorem dX6_possibleAt_2 : decode cX6_possibleAt 2 = .ok (.iload_n 2, 1) := by decide +kernel
theorem dX6_possibleAt_3 : decode cX6_possibleAt 3 = .ok (.iload_n 3, 1) := by decide +kernel
theorem dX6_possibleAt_4 : decode cX6_possibleAt 4 = .ok (.invokevirtual 71, 3) := by decide +kernel
theorem dX6_possibleAt_7 : decode cX6_possibleAt 7 = .ok (.istore 4, 2) := by decide +kernel
theorem dX6_possibleAt_9 : decode cX6_possibleAt 9 = .ok (.iconst 0, 1) := by decide +kernel
theorem dX6_possibleAt_10 : decode cX6_possibleAt 10 = .ok (.istore 5, 2) := by decide +kernel
theorem dX6_possibleAt_12 : decode cX6_possibleAt 12 = .ok (.iload 4, 2) := by decide +kernel
theorem dX6_possibleAt_14 : decode cX6_possibleAt 14 = .ok (.ifCond .eq 11, 3) := by decide +kernel
theorem dX6_possibleAt_17 : decode cX6_possibleAt 17 = .ok (.aload_n 0, 1) := by decide +kernel
theorem dX6_possibleAt_18 : decode cX6_possibleAt 18 = .ok (.iload_n 2, 1) := by decide +kernel
theorem dX6_possibleAt_19 : decode cX6_possibleAt 19 = .ok (.invokevirtual 57, 3) := by decide +kernel
theorem dX6_possibleAt_22 : decode cX6_possibleAt 22 = .ok (.ifCond .ne 6, 3) := by decide +kernel
theorem dX6_possibleAt_25 : decode cX6_possibleAt 25 = .ok (.iload 5, 2) := by decide +kernel
theorem dX6_possibleAt_27 : decode cX6_possibleAt 27 = .ok (.ireturn, 1) := by decide +kernel
theorem dX6_possibleAt_28 : decode cX6_possibleAt 28 = .ok (.iload 4, 2) := by decide +kernel
theorem dX6_possibleAt_30 : decode cX6_possibleAt 30 = .ok (.invokestatic 64, 3) := by decide +kernel
theorem dX6_possibleAt_33 : decode cX6_possibleAt 33 = .ok (.istore 6, 2) := by decide +kernel
theorem dX6_possibleAt_35 : decode cX6_possibleAt 35 = .ok (.iconst 0, 1) := by decide +kernel
theorem dX6_possibleAt_36 : decode cX6_possibleAt 36 = .ok (.istore 7, 2) := by decide +kernel
theorem dX6_possibleAt_38 : decode cX6_possibleAt 38 = .ok (.iload 7, 2) := by decide +kernel
theorem dX6_possibleAt_40 : decode cX6_possibleAt 40 = .ok (.aload_n 1, 1) := by decide +kernel
theorem dX6_possibleAt_41 : decode cX6_possibleAt 41 = .ok (.getfield 78, 3) := by decide +kernel
theorem dX6_possibleAt_44 : decode cX6_possibleAt 44 = .ok (.if_icmp .ge 60, 3) := by decide +kernel
theorem dX6_possibleAt_47 : decode cX6_possibleAt 47 = .ok (.aload_n 1, 1) := by decide +kernel
theorem dX6_possibleAt_48 : decode cX6_possibleAt 48 = .ok (.aload_n 0, 1) := by decide +kernel
theorem dX6_possibleAt_49 : decode cX6_possibleAt 49 = .ok (.getfield 15, 3) := by decide +kernel
theorem dX6_possibleAt_52 : decode cX6_possibleAt 52 = .ok (.iload_n 2, 1) := by decide +kernel
theorem dX6_possibleAt_53 : decode cX6_possibleAt 53 = .ok (.iaload, 1) := by decide +kernel
theorem dX6_possibleAt_54 : decode cX6_possibleAt 54 = .ok (.iload 7, 2) := by decide +kernel
theorem dX6_possibleAt_56 : decode cX6_possibleAt 56 = .ok (.invokevirtual 81, 3) := by decide +kernel
theorem dX6_possibleAt_59 : decode cX6_possibleAt 59 = .ok (.istore 8, 2) := by decide +kernel
theorem dX6_possibleAt_61 : decode cX6_possibleAt 61 = .ok (.iload 8, 2) := by decide +kernel
theorem dX6_possibleAt_63 : decode cX6_possibleAt 63 = .ok (.iconst (-1), 1) := by decide +kernel
theorem dX6_possibleAt_64 : decode cX6_possibleAt 64 = .ok (.if_icmp .eq 34, 3) := by decide +kernel
theorem dX6_possibleAt_67 : decode cX6_possibleAt 67 = .ok (.iload 8, 2) := by decide +kernel
theorem dX6_possibleAt_69 : decode cX6_possibleAt 69 = .ok (.invokestatic 64, 3) := by decide +kernel
theorem dX6_possibleAt_72 : decode cX6_possibleAt 72 = .ok (.iload 6, 2) := by decide +kernel
theorem dX6_possibleAt_74 : decode cX6_possibleAt 74 = .ok (.if_icmp .lt 24, 3) := by decide +kernel
theorem dX6_possibleAt_77 : decode cX6_possibleAt 77 = .ok (.iload 8, 2) := by decide +kernel
theorem dX6_possibleAt_79 : decode cX6_possibleAt 79 = .ok (.iload 6, 2) := by decide +kernel
theorem dX6_possibleAt_81 : decode cX6_possibleAt 81 = .ok (.invokestatic 46, 3) := by decide +kernel
theorem dX6_possibleAt_84 : decode cX6_possibleAt 84 = .ok (.iload 4, 2) := by decide +kernel
theorem dX6_possibleAt_86 : decode cX6_possibleAt 86 = .ok (.if_icmp .ne 12, 3) := by decide +kernel
theorem dX6_possibleAt_89 : decode cX6_possibleAt 89 = .ok (.iload 5, 2) := by decide +kernel
theorem dX6_possibleAt_91 : decode cX6_possibleAt 91 = .ok (.iconst 1, 1) := by decide +kernel
theorem dX6_possibleAt_92 : decode cX6_possibleAt 92 = .ok (.iload 7, 2) := by decide +kernel
theorem dX6_possibleAt_94 : decode cX6_possibleAt 94 = .ok (.ishl, 1) := by decide +kernel
theorem dX6_possibleAt_95 : decode cX6_possibleAt 95 = .ok (.ior, 1) := by decide +kernel
theorem dX6_possibleAt_96 : decode cX6_possibleAt 96 = .ok (.istore 5, 2) := by decide +kernel
theorem dX6_possibleAt_98 : decode cX6_possibleAt 98 = .ok (.iinc 7 1, 3) := by decide +kernel
theorem dX6_possibleAt_101 : decode cX6_possibleAt 101 = .ok (.goto (-63), 3) := by decide +kernel
theorem dX6_possibleAt_104 : decode cX6_possibleAt 104 = .ok (.iload 5, 2) := by decide +kernel
theorem dX6_possibleAt_106 : decode cX6_possibleAt 106 = .ok (.ireturn, 1) := by decide +kernel
theorem dX6_judge_0 : decode cX6_judge 0 = .ok (.aload_n 0, 1) := by decide +kernel
theorem dX6_judge_1 : decode cX6_judge 1 = .ok (.iconst 0, 1) := by decide +kernel
theorem dX6_judge_2 : decode cX6_judge 2 = .ok (.putfield 84, 3) := by decide +kernel
theorem dX6_judge_5 : decode cX6_judge 5 = .ok (.aload_n 0, 1) := by decide +kernel
theorem dX6_judge_6 : decode cX6_judge 6 = .ok (.iconst 0, 1) := by decide +kernel
theorem dX6_judge_7 : decode cX6_judge 7 = .ok (.putfield 87, 3) := by decide +kernel
theorem dX6_judge_10 : decode cX6_judge 10 = .ok (.iconst 0, 1) := by decide +kernel
theorem dX6_judge_11 : decode cX6_judge 11 = .ok (.istore_n 3, 1) := by decide +kernel
theorem dX6_judge_12 : decode cX6_judge 12 = .ok (.iload_n 3, 1) := by decide +kernel
theorem dX6_judge_13 : decode cX6_judge 13 = .ok (.aload_n 1, 1) := by decide +kernel
theorem dX6_judge_14 : decode cX6_judge 14 = .ok (.getfield 90, 3) := by decide +kernel
theorem dX6_judge_17 : decode cX6_judge 17 = .ok (.if_icmp .ge 66, 3) := by decide +kernel
theorem dX6_judge_20 : decode cX6_judge 20 = .ok (.aload_n 0, 1) := by decide +kernel
theorem dX6_judge_21 : decode cX6_judge 21 = .ok (.iload_n 2, 1) := by decide +kernel
theorem dX6_judge_22 : decode cX6_judge 22 = .ok (.invokevirtual 57, 3) := by decide +kernel
theorem dX6_judge_25 : decode cX6_judge 25 = .ok (.ifCond .eq 58, 3) := by decide +kernel
theorem dX6_judge_28 : decode cX6_judge 28 = .ok (.aload_n 0, 1) := by decide +kernel
theorem dX6_judge_29 : decode cX6_judge 29 = .ok (.aload_n 1, 1) := by decide +kernel
theorem dX6_judge_30 : decode cX6_judge 30 = .ok (.iload_n 2, 1) := by decide +kernel
theorem dX6_judge_31 : decode cX6_judge 31 = .ok (.iload_n 3, 1) := by decide +kernel
theorem dX6_judge_32 : decode cX6_judge 32 = .ok (.invokevirtual 93, 3) := by decide +kernel
theorem dX6_judge_35 : decode cX6_judge 35 = .ok (.istore 4, 2) := by decide +kernel
theorem dX6_judge_37 : decode cX6_judge 37 = .ok (.iload 4, 2) := by decide +kernel
theorem dX6_judge_39 : decode cX6_judge 39 = .ok (.aload_n 0, 1) := by decide +kernel
theorem dX6_judge_40 : decode cX6_judge 40 = .ok (.getfield 18, 3) := by decide +kernel
theorem dX6_judge_43 : decode cX6_judge 43 = .ok (.iload_n 2, 1) := by decide +kernel
theorem dX6_judge_44 : decode cX6_judge 44 = .ok (.iaload, 1) := by decide +kernel
theorem dX6_judge_45 : decode cX6_judge 45 = .ok (.if_icmp .ne 16, 3) := by decide +kernel
theorem dX6_judge_48 : decode cX6_judge 48 = .ok (.aload_n 0, 1) := by decide +kernel
theorem dX6_judge_49 : decode cX6_judge 49 = .ok (.dup, 1) := by decide +kernel
theorem dX6_judge_50 : decode cX6_judge 50 = .ok (.getfield 84, 3) := by decide +kernel
theorem dX6_judge_53 : decode cX6_judge 53 = .ok (.iconst 1, 1) := by decide +kernel
theorem dX6_judge_54 : decode cX6_judge 54 = .ok (.iadd, 1) := by decide +kernel
theorem dX6_judge_55 : decode cX6_judge 55 = .ok (.putfield 84, 3) := by decide +kernel
theorem dX6_judge_58 : decode cX6_judge 58 = .ok (.goto 19, 3) := by decide +kernel
theorem dX6_judge_61 : decode cX6_judge 61 = .ok (.iload 4, 2) := by decide +kernel
theorem dX6_judge_63 : decode cX6_judge 63 = .ok (.iconst (-1), 1) := by decide +kernel
theorem dX6_judge_64 : decode cX6_judge 64 = .ok (.if_icmp .eq 13, 3) := by decide +kernel
theorem dX6_judge_67 : decode cX6_judge 67 = .ok (.aload_n 0, 1) := by decide +kernel
theorem dX6_judge_68 : decode cX6_judge 68 = .ok (.dup, 1) := by decide +kernel
theorem dX6_judge_69 : decode cX6_judge 69 = .ok (.getfield 87, 3) := by decide +kernel
theorem dX6_judge_72 : decode cX6_judge 72 = .ok (.iconst 1, 1) := by decide +kernel
theorem dX6_judge_73 : decode cX6_judge 73 = .ok (.iadd, 1) := by decide +kernel
theorem dX6_judge_74 : decode cX6_judge 74 = .ok (.putfield 87, 3) := by decide +kernel
theorem dX6_judge_77 : decode cX6_judge 77 = .ok (.iinc 3 1, 3) := by decide +kernel
theorem dX6_judge_80 : decode cX6_judge 80 = .ok (.goto (-68), 3) := by decide +kernel
theorem dX6_judge_83 : decode cX6_judge 83 = .ok (.return_, 1) := by decide +kernel
theorem dX7_init_0 : decode cX7_init 0 = .ok (.aload_n 0, 1) := by decide +kernel
theorem dX7_init_1 : decode cX7_init 1 = .ok (.invokespecial 3, 3) := by decide +kernel
theorem dX7_init_4 : decode cX7_init 4 = .ok (.aload_n 0, 1) := by decide +kernel
theorem dX7_init_5 : decode cX7_init 5 = .ok (.bipush 8, 2) := by decide +kernel
theorem dX7_init_7 : decode cX7_init 7 = .ok (.newarray .int, 2) := by decide +kernel
theorem dX7_init_9 : decode cX7_init 9 = .ok (.putfield 9, 3) := by decide +kernel
theorem dX7_init_12 : decode cX7_init 12 = .ok (.aload_n 0, 1) := by decide +kernel
theorem dX7_init_13 : decode cX7_init 13 = .ok (.bipush 8, 2) := by decide +kernel
theorem dX7_init_15 : decode cX7_init 15 = .ok (.newarray .int, 2) := by decide +kernel
theorem dX7_init_17 : decode cX7_init 17 = .ok (.putfield 15, 3) := by decide +kernel
theorem dX7_init_20 : decode cX7_init 20 = .ok (.return_, 1) := by decide +kernel
theorem dX7_paint_0 : decode cX7_paint 0 = .ok (.iconst 0, 1) := by decide +kernel
theorem dX7_paint_1 : decode cX7_paint 1 = .ok (.istore_n 2, 1) := by decide +kernel
theorem dX7_paint_2 : decode cX7_paint 2 = .ok (.iload_n 2, 1) := by decide +kernel
theorem dX7_paint_3 : decode cX7_paint 3 = .ok (.aload_n 1, 1) := by decide +kernel
theorem dX7_paint_4 : decode cX7_paint 4 = .ok (.getfield 18, 3) := by decide +kernel
theorem dX7_paint_7 : decode cX7_paint 7 = .ok (.if_icmp .ge 26, 3) := by decide +kernel
theorem dX7_paint_10 : decode cX7_paint 10 = .ok (.iload_n 2, 1) := by decide +kernel
theorem dX7_paint_11 : decode cX7_paint 11 = .ok (.bipush 8, 2) := by decide +kernel
theorem dX7_paint_13 : decode cX7_paint 13 = .ok (.if_icmp .ge 20, 3) := by decide +kernel
theorem dX7_paint_16 : decode cX7_paint 16 = .ok (.aload_n 0, 1) := by decide +kernel
theorem dX7_paint_17 : decode cX7_paint 17 = .ok (.getfield 15, 3) := by decide +kernel
theorem dX7_paint_20 : decode cX7_paint 20 = .ok (.iload_n 2, 1) := by decide +kernel
theorem dX7_paint_21 : decode cX7_paint 21 = .ok (.aload_n 1, 1) := by decide +kernel
theorem dX7_paint_22 : decode cX7_paint 22 = .ok (.iload_n 2, 1) := by decide +kernel
theorem dX7_paint_23 : decode cX7_paint 23 = .ok (.invokevirtual 24, 3) := by decide +kernel
theorem dX7_paint_26 : decode cX7_paint 26 = .ok (.iastore, 1) := by decide +kernel
theorem dX7_paint_27 : decode cX7_paint 27 = .ok (.iinc 2 1, 3) := by decide +kernel
theorem dX7_paint_30 : decode cX7_paint 30 = .ok (.goto (-28), 3) := by decide +kernel
theorem dX7_paint_33 : decode cX7_paint 33 = .ok (.iconst 0, 1) := by decide +kernel
theorem dX7_paint_34 : decode cX7_paint 34 = .ok (.istore_n 2, 1) := by decide +kernel
theorem dX7_paint_35 : decode cX7_paint 35 = .ok (.iload_n 2, 1) := by decide +kernel
theorem dX7_paint_36 : decode cX7_paint 36 = .ok (.aload_n 1, 1) := by decide +kernel
theorem dX7_paint_37 : decode cX7_paint 37 = .ok (.getfield 18, 3) := by decide +kernel
theorem dX7_paint_40 : decode cX7_paint 40 = .ok (.if_icmp .ge 25, 3) := by decide +kernel
theorem dX7_paint_43 : decode cX7_paint 43 = .ok (.aload_n 0, 1) := by decide +kernel
theorem dX7_paint_44 : decode cX7_paint 44 = .ok (.iconst 0, 1) := by decide +kernel
theorem dX7_paint_45 : decode cX7_paint 45 = .ok (.iconst 0, 1) := by decide +kernel
theorem dX7_paint_46 : decode cX7_paint 46 = .ok (.iload_n 2, 1) := by decide +kernel
theorem dX7_paint_47 : decode cX7_paint 47 = .ok (.aload_n 1, 1) := by decide +kernel
theorem dX7_paint_48 : decode cX7_paint 48 = .ok (.getfield 18, 3) := by decide +kernel
theorem dX7_paint_51 : decode cX7_paint 51 = .ok (.invokevirtual 28, 3) := by decide +kernel
theorem dX7_paint_54 : decode cX7_paint 54 = .ok (.ifCond .eq 5, 3) := by decide +kernel
theorem dX7_paint_57 : decode cX7_paint 57 = .ok (.iload_n 2, 1) := by decide +kernel
theorem dX7_paint_58 : decode cX7_paint 58 = .ok (.ireturn, 1) := by decide +kernel
theorem dX7_paint_59 : decode cX7_paint 59 = .ok (.iinc 2 1, 3) := by decide +kernel
theorem dX7_paint_62 : decode cX7_paint 62 = .ok (.goto (-27), 3) := by decide +kernel
theorem dX7_paint_65 : decode cX7_paint 65 = .ok (.aload_n 0, 1) := by decide +kernel
theorem dX7_paint_66 : decode cX7_paint 66 = .ok (.iconst 0, 1) := by decide +kernel
theorem dX7_paint_67 : decode cX7_paint 67 = .ok (.iconst 0, 1) := by decide +kernel
theorem dX7_paint_68 : decode cX7_paint 68 = .ok (.aload_n 1, 1) := by decide +kernel
theorem dX7_paint_69 : decode cX7_paint 69 = .ok (.getfield 18, 3) := by decide +kernel
theorem dX7_paint_72 : decode cX7_paint 72 = .ok (.aload_n 1, 1) := by decide +kernel
theorem dX7_paint_73 : decode cX7_paint 73 = .ok (.getfield 18, 3) := by decide +kernel
theorem dX7_paint_76 : decode cX7_paint 76 = .ok (.invokevirtual 28, 3) := by decide +kernel
theorem dX7_paint_79 : decode cX7_paint 79 = .ok (.pop, 1) := by decide +kernel
theorem dX7_paint_80 : decode cX7_paint 80 = .ok (.aload_n 1, 1) := by decide +kernel
theorem dX7_paint_81 : decode cX7_paint 81 = .ok (.getfield 18, 3) := by decide +kernel
theorem dX7_paint_84 : decode cX7_paint 84 = .ok (.ireturn, 1) := by decide +kernel
theorem dX7_isPainted_0 : decode cX7_isPainted 0 = .ok (.iload_n 1, 1) := by decide +kernel
theorem dX7_isPainted_1 : decode cX7_isPainted 1 = .ok (.iload 4, 2) := by decide +kernel
theorem dX7_isPainted_3 : decode cX7_isPainted 3 = .ok (.if_icmp .ge 9, 3) := by decide +kernel
theorem dX7_isPainted_6 : decode cX7_isPainted 6 = .ok (.iload_n 1, 1) := by decide +kernel
theorem dX7_isPainted_7 : decode cX7_isPainted 7 = .ok (.bipush 8, 2) := by decide +kernel
theorem dX7_isPainted_9 : decode cX7_isPainted 9 = .ok (.if_icmp .lt 5, 3) := by decide +kernel
theorem dX7_isPainted_12 : decode cX7_isPainted 12 = .ok (.iconst 1, 1) := by decide +kernel
theorem dX7_isPainted_13 : decode cX7_isPainted 13 = .ok (.ireturn, 1) := by decide +kernel
theorem dX7_isPainted_14 : decode cX7_isPainted 14 = .ok (.iconst 0, 1) := by decide +kernel
theorem dX7_isPainted_15 : decode cX7_isPainted 15 = .ok (.istore 5, 2) := by decide +kernel
theorem dX7_isPainted_17 : decode cX7_isPainted 17 = .ok (.iload 5, 2) := by decide +kernel
theorem dX7_isPainted_19 : decode cX7_isPainted 19 = .ok (.iload_n 3, 1) := by decide +kernel
theorem dX7_isPainted_20 : decode cX7_isPainted 20 = .ok (.if_icmp .ge 56, 3) := by decide +kernel
theorem dX7_isPainted_23 : decode cX7_isPainted 23 = .ok (.iload 5, 2) := by decide +kernel
theorem dX7_isPainted_25 : decode cX7_isPainted 25 = .ok (.iload_n 2, 1) := by decide +kernel
theorem dX7_isPainted_26 : decode cX7_isPainted 26 = .ok (.if_icmp .gt 50, 3) := by decide +kernel
theorem dX7_isPainted_29 : decode cX7_isPainted 29 = .ok (.aload_n 0, 1) := by decide +kernel
theorem dX7_isPainted_30 : decode cX7_isPainted 30 = .ok (.iload_n 1, 1) := by decide +kernel
theorem dX7_isPainted_31 : decode cX7_isPainted 31 = .ok (.iload 5, 2) := by decide +kernel
theorem dX7_isPainted_33 : decode cX7_isPainted 33 = .ok (.invokevirtual 32, 3) := by decide +kernel
theorem dX7_isPainted_36 : decode cX7_isPainted 36 = .ok (.ifCond .eq 34, 3) := by decide +kernel
theorem dX7_isPainted_39 : decode cX7_isPainted 39 = .ok (.aload_n 0, 1) := by decide +kernel
theorem dX7_isPainted_40 : decode cX7_isPainted 40 = .ok (.getfield 9, 3) := by decide +kernel
theorem dX7_isPainted_43 : decode cX7_isPainted 43 = .ok (.iload_n 1, 1) := by decide +kernel
theorem dX7_isPainted_44 : decode cX7_isPainted 44 = .ok (.iload 5, 2) := by decide +kernel
theorem dX7_isPainted_46 : decode cX7_isPainted 46 = .ok (.iastore, 1) := by decide +kernel
theorem dX7_isPainted_47 : decode cX7_isPainted 47 = .ok (.aload_n 0, 1) := by decide +kernel
theorem dX7_isPainted_48 : decode cX7_isPainted 48 = .ok (.iload_n 1, 1) := by decide +kernel
theorem dX7_isPainted_49 : decode cX7_isPainted 49 = .ok (.iconst 1, 1) := by decide +kernel
theorem dX7_isPainted_50 : decode cX7_isPainted 50 = .ok (.iadd, 1) := by decide +kernel
theorem dX7_isPainted_51 : decode cX7_isPainted 51 = .ok (.iload_n 2, 1) := by decide +kernel
theorem dX7_isPainted_52 : decode cX7_isPainted 52 = .ok (.iload 5, 2) := by decide +kernel
theorem dX7_isPainted_54 : decode cX7_isPainted 54 = .ok (.iconst 1, 1) := by decide +kernel
theorem dX7_isPainted_55 : decode cX7_isPainted 55 = .ok (.iadd, 1) := by decide +kernel
theorem dX7_isPainted_56 : decode cX7_isPainted 56 = .ok (.invokestatic 36, 3) := by decide +kernel
theorem dX7_isPainted_59 : decode cX7_isPainted 59 = .ok (.iload_n 3, 1) := by decide +kernel
theorem dX7_isPainted_60 : decode cX7_isPainted 60 = .ok (.iload 4, 2) := by decide +kernel
theorem dX7_isPainted_62 : decode cX7_isPainted 62 = .ok (.invokevirtual 28, 3) := by decide +kernel
theorem dX7_isPainted_65 : decode cX7_isPainted 65 = .ok (.ifCond .eq 5, 3) := by decide +kernel
theorem dX7_isPainted_68 : decode cX7_isPainted 68 = .ok (.iconst 1, 1) := by decide +kernel
theorem dX7_isPainted_69 : decode cX7_isPainted 69 = .ok (.ireturn, 1) := by decide +kernel
theorem dX7_isPainted_70 : decode cX7_isPainted 70 = .ok (.iinc 5 1, 3) := by decide +kernel
theorem dX7_isPainted_73 : decode cX7_isPainted 73 = .ok (.goto (-56), 3) := by decide +kernel
theorem dX7_isPainted_76 : decode cX7_isPainted 76 = .ok (.iconst 0, 1) := by decide +kernel
theorem dX7_isPainted_77 : decode cX7_isPainted 77 = .ok (.ireturn, 1) := by decide +kernel
theorem dX7_isFree_0 : decode cX7_isFree 0 = .ok (.iconst 0, 1) := by decide +kernel
theorem dX7_isFree_1 : decode cX7_isFree 1 = .ok (.istore_n 3, 1) := by decide +kernel
theorem dX7_isFree_2 : decode cX7_isFree 2 = .ok (.iload_n 3, 1) := by decide +kernel
theorem dX7_isFree_3 : decode cX7_isFree 3 = .ok (.iload_n 1, 1) := by decide +kernel
theorem dX7_isFree_4 : decode cX7_isFree 4 = .ok (.if_icmp .ge 35, 3) := by decide +kernel
theorem dX7_isFree_7 : decode cX7_isFree 7 = .ok (.aload_n 0, 1) := by decide +kernel
theorem dX7_isFree_8 : decode cX7_isFree 8 = .ok (.getfield 9, 3) := by decide +kernel
theorem dX7_isFree_11 : decode cX7_isFree 11 = .ok (.iload_n 3, 1) := by decide +kernel
theorem dX7_isFree_12 : decode cX7_isFree 12 = .ok (.iaload, 1) := by decide +kernel
theorem dX7_isFree_13 : decode cX7_isFree 13 = .ok (.iload_n 2, 1) := by decide +kernel
theorem dX7_isFree_14 : decode cX7_isFree 14 = .ok (.if_icmp .ne 19, 3) := by decide +kernel
theorem dX7_isFree_17 : decode cX7_isFree 17 = .ok (.aload_n 0, 1) := by decide +kernel
theorem dX7_isFree_18 : decode cX7_isFree 18 = .ok (.getfield 15, 3) := by decide +kernel
theorem dX7_isFree_21 : decode cX7_isFree 21 = .ok (.iload_n 1, 1) := by decide +kernel
theorem dX7_isFree_22 : decode cX7_isFree 22 = .ok (.iaload, 1) := by decide +kernel
theorem dX7_isFree_23 : decode cX7_isFree 23 = .ok (.iload_n 3, 1) := by decide +kernel
theorem dX7_isFree_24 : decode cX7_isFree 24 = .ok (.ishr, 1) := by decide +kernel
theorem dX7_isFree_25 : decode cX7_isFree 25 = .ok (.iconst 1, 1) := by decide +kernel
theorem dX7_isFree_26 : decode cX7_isFree 26 = .ok (.iand, 1) := by decide +kernel
theorem dX7_isFree_27 : decode cX7_isFree 27 = .ok (.iconst 1, 1) := by decide +kernel
theorem dX7_isFree_28 : decode cX7_isFree 28 = .ok (.if_icmp .ne 5, 3) := by decide +kernel
theorem dX7_isFree_31 : decode cX7_isFree 31 = .ok (.iconst 0, 1) := by decide +kernel
theorem dX7_isFree_32 : decode cX7_isFree 32 = .ok (.ireturn, 1) := by decide +kernel
theorem dX7_isFree_33 : decode cX7_isFree 33 = .ok (.iinc 3 1, 3) := by decide +kernel
theorem dX7_isFree_36 : decode cX7_isFree 36 = .ok (.goto (-34), 3) := by decide +kernel
theorem dX7_isFree_39 : decode cX7_isFree 39 = .ok (.iconst 1, 1) := by decide +kernel
theorem dX7_isFree_40 : decode cX7_isFree 40 = .ok (.ireturn, 1) := by decide +kernel
theorem dX8_init_0 : decode cX8_init 0 = .ok (.aload_n 0, 1) := by decide +kernel
theorem dX8_init_1 : decode cX8_init 1 = .ok (.invokespecial 3, 3) := by decide +kernel
theorem dX8_init_4 : decode cX8_init 4 = .ok (.aload_n 0, 1) := by decide +kernel
theorem dX8_init_5 : decode cX8_init 5 = .ok (.bipush 8, 2) := by decide +kernel
theorem dX8_init_7 : decode cX8_init 7 = .ok (.newarray .int, 2) := by decide +kernel
theorem dX8_init_9 : decode cX8_init 9 = .ok (.putfield 9, 3) := by decide +kernel
theorem dX8_init_12 : decode cX8_init 12 = .ok (.aload_n 0, 1) := by decide +kernel
theorem dX8_init_13 : decode cX8_init 13 = .ok (.bipush 8, 2) := by decide +kernel
theorem dX8_init_15 : decode cX8_init 15 = .ok (.newarray .int, 2) := by decide +kernel
theorem dX8_init_17 : decode cX8_init 17 = .ok (.putfield 15, 3) := by decide +kernel
theorem dX8_init_20 : decode cX8_init 20 = .ok (.aload_n 0, 1) := by decide +kernel
theorem dX8_init_21 : decode cX8_init 21 = .ok (.bipush 8, 2) := by decide +kernel
theorem dX8_init_23 : decode cX8_init 23 = .ok (.newarray .int, 2) := by decide +kernel
theorem dX8_init_25 : decode cX8_init 25 = .ok (.putfield 18, 3) := by decide +kernel
theorem dX8_init_28 : decode cX8_init 28 = .ok (.aload_n 0, 1) := by decide +kernel
theorem dX8_init_29 : decode cX8_init 29 = .ok (.bipush 8, 2) := by decide +kernel
theorem dX8_init_31 : decode cX8_init 31 = .ok (.newarray .int, 2) := by decide +kernel
theorem dX8_init_33 : decode cX8_init 33 = .ok (.putfield 21, 3) := by decide +kernel
theorem dX8_init_36 : decode cX8_init 36 = .ok (.return_, 1) := by decide +kernel
theorem dX8_runByLaw_0 : decode cX8_runByLaw 0 = .ok (.aload_n 0, 1) := by decide +kernel
theorem dX8_runByLaw_1 : decode cX8_runByLaw 1 = .ok (.aload_n 1, 1) := by decide +kernel
theorem dX8_runByLaw_2 : decode cX8_runByLaw 2 = .ok (.iload_n 2, 1) := by decide +kernel
theorem dX8_runByLaw_3 : decode cX8_runByLaw 3 = .ok (.invokevirtual 24, 3) := by decide +kernel
theorem dX8_runByLaw_6 : decode cX8_runByLaw 6 = .ok (.iconst 0, 1) := by decide +kernel
theorem dX8_runByLaw_7 : decode cX8_runByLaw 7 = .ok (.istore_n 3, 1) := by decide +kernel
theorem dX8_runByLaw_8 : decode cX8_runByLaw 8 = .ok (.iload_n 3, 1) := by decide +kernel
theorem dX8_runByLaw_9 : decode cX8_runByLaw 9 = .ok (.sipush 128, 3) := by decide +kernel
theorem dX8_runByLaw_12 : decode cX8_runByLaw 12 = .ok (.if_icmp .gt 76, 3) := by decide +kernel
theorem dX8_runByLaw_15 : decode cX8_runByLaw 15 = .ok (.aload_n 0, 1) := by decide +kernel
theorem dX8_runByLaw_16 : decode cX8_runByLaw 16 = .ok (.getfield 28, 3) := by decide +kernel
theorem dX8_runByLaw_19 : decode cX8_runByLaw 19 = .ok (.ifCond .eq 69, 3) := by decide +kernel
theorem dX8_runByLaw_22 : decode cX8_runByLaw 22 = .ok (.aload_n 0, 1) := by decide +kernel
theorem dX8_runByLaw_23 : decode cX8_runByLaw 23 = .ok (.iload_n 3, 1) := by decide +kernel
theorem dX8_runByLaw_24 : decode cX8_runByLaw 24 = .ok (.invokevirtual 32, 3) := by decide +kernel
theorem dX8_runByLaw_27 : decode cX8_runByLaw 27 = .ok (.istore 4, 2) := by decide +kernel
theorem dX8_runByLaw_29 : decode cX8_runByLaw 29 = .ok (.iconst 0, 1) := by decide +kernel
theorem dX8_runByLaw_30 : decode cX8_runByLaw 30 = .ok (.istore 5, 2) := by decide +kernel
theorem dX8_runByLaw_32 : decode cX8_runByLaw 32 = .ok (.iload 5, 2) := by decide +kernel
theorem dX8_runByLaw_34 : decode cX8_runByLaw 34 = .ok (.bipush 8, 2) := by decide +kernel
theorem dX8_runByLaw_36 : decode cX8_runByLaw 36 = .ok (.if_icmp .ge 39, 3) := by decide +kernel
theorem dX8_runByLaw_39 : decode cX8_runByLaw 39 = .ok (.iload 4, 2) := by decide +kernel
theorem dX8_runByLaw_41 : decode cX8_runByLaw 41 = .ok (.iload 5, 2) := by decide +kernel
theorem dX8_runByLaw_43 : decode cX8_runByLaw 43 = .ok (.ishr, 1) := by decide +kernel
theorem dX8_runByLaw_44 : decode cX8_runByLaw 44 = .ok (.iconst 1, 1) := by decide +kernel
theorem dX8_runByLaw_45 : decode cX8_runByLaw 45 = .ok (.iand, 1) := by decide +kernel
theorem dX8_runByLaw_46 : decode cX8_runByLaw 46 = .ok (.iconst 1, 1) := by decide +kernel
theorem dX8_runByLaw_47 : decode cX8_runByLaw 47 = .ok (.if_icmp .ne 22, 3) := by decide +kernel
theorem dX8_runByLaw_50 : decode cX8_runByLaw 50 = .ok (.aload_n 0, 1) := by decide +kernel
theorem dX8_runByLaw_51 : decode cX8_runByLaw 51 = .ok (.getfield 9, 3) := by decide +kernel
theorem dX8_runByLaw_54 : decode cX8_runByLaw 54 = .ok (.iload 5, 2) := by decide +kernel
theorem dX8_runByLaw_56 : decode cX8_runByLaw 56 = .ok (.aload_n 1, 1) := by decide +kernel
theorem dX8_runByLaw_57 : decode cX8_runByLaw 57 = .ok (.getfield 36, 3) := by decide +kernel
theorem dX8_runByLaw_60 : decode cX8_runByLaw 60 = .ok (.aload_n 1, 1) := by decide +kernel
theorem dX8_runByLaw_61 : decode cX8_runByLaw 61 = .ok (.iload 5, 2) := by decide +kernel
theorem dX8_runByLaw_63 : decode cX8_runByLaw 63 = .ok (.iload_n 2, 1) := by decide +kernel
theorem dX8_runByLaw_64 : decode cX8_runByLaw 64 = .ok (.iload_n 3, 1) := by decide +kernel
theorem dX8_runByLaw_65 : decode cX8_runByLaw 65 = .ok (.invokevirtual 42, 3) := by decide +kernel
theorem dX8_runByLaw_68 : decode cX8_runByLaw 68 = .ok (.iastore, 1) := by decide +kernel
theorem dX8_runByLaw_69 : decode cX8_runByLaw 69 = .ok (.iinc 5 1, 3) := by decide +kernel
theorem dX8_runByLaw_72 : decode cX8_runByLaw 72 = .ok (.goto (-40), 3) := by decide +kernel
theorem dX8_runByLaw_75 : decode cX8_runByLaw 75 = .ok (.aload_n 0, 1) := by decide +kernel
theorem dX8_runByLaw_76 : decode cX8_runByLaw 76 = .ok (.iload 4, 2) := by decide +kernel
theorem dX8_runByLaw_78 : decode cX8_runByLaw 78 = .ok (.iload_n 3, 1) := by decide +kernel
theorem dX8_runByLaw_79 : decode cX8_runByLaw 79 = .ok (.invokevirtual 48, 3) := by decide +kernel
theorem dX8_runByLaw_82 : decode cX8_runByLaw 82 = .ok (.iinc 3 1, 3) := by decide +kernel
theorem dX8_runByLaw_85 : decode cX8_runByLaw 85 = .ok (.goto (-77), 3) := by decide +kernel
theorem dX8_runByLaw_88 : decode cX8_runByLaw 88 = .ok (.return_, 1) := by decide +kernel
theorem dX8_runByLot_0 : decode cX8_runByLot 0 = .ok (.aload_n 0, 1) := by decide +kernel
theorem dX8_runByLot_1 : decode cX8_runByLot 1 = .ok (.aload_n 1, 1) := by decide +kernel
theorem dX8_runByLot_2 : decode cX8_runByLot 2 = .ok (.iload_n 2, 1) := by decide +kernel
theorem dX8_runByLot_3 : decode cX8_runByLot 3 = .ok (.invokevirtual 24, 3) := by decide +kernel
theorem dX8_runByLot_6 : decode cX8_runByLot 6 = .ok (.aload_n 0, 1) := by decide +kernel
theorem dX8_runByLot_7 : decode cX8_runByLot 7 = .ok (.iload_n 3, 1) := by decide +kernel
theorem dX8_runByLot_8 : decode cX8_runByLot 8 = .ok (.invokevirtual 52, 3) := by decide +kernel
theorem dX8_runByLot_11 : decode cX8_runByLot 11 = .ok (.iconst 0, 1) := by decide +kernel
theorem dX8_runByLot_12 : decode cX8_runByLot 12 = .ok (.istore 4, 2) := by decide +kernel
theorem dX8_runByLot_14 : decode cX8_runByLot 14 = .ok (.iload 4, 2) := by decide +kernel
theorem dX8_runByLot_16 : decode cX8_runByLot 16 = .ok (.sipush 128, 3) := by decide +kernel
theorem dX8_runByLot_19 : decode cX8_runByLot 19 = .ok (.if_icmp .gt 28, 3) := by decide +kernel
theorem dX8_runByLot_22 : decode cX8_runByLot 22 = .ok (.aload_n 0, 1) := by decide +kernel
theorem dX8_runByLot_23 : decode cX8_runByLot 23 = .ok (.getfield 28, 3) := by decide +kernel
theorem dX8_runByLot_26 : decode cX8_runByLot 26 = .ok (.ifCond .eq 21, 3) := by decide +kernel
theorem dX8_runByLot_29 : decode cX8_runByLot 29 = .ok (.aload_n 0, 1) := by decide +kernel
theorem dX8_runByLot_30 : decode cX8_runByLot 30 = .ok (.aload_n 0, 1) := by decide +kernel
theorem dX8_runByLot_31 : decode cX8_runByLot 31 = .ok (.iload 4, 2) := by decide +kernel
theorem dX8_runByLot_33 : decode cX8_runByLot 33 = .ok (.invokevirtual 32, 3) := by decide +kernel
theorem dX8_runByLot_36 : decode cX8_runByLot 36 = .ok (.iload 4, 2) := by decide +kernel
theorem dX8_runByLot_38 : decode cX8_runByLot 38 = .ok (.invokevirtual 48, 3) := by decide +kernel
theorem dX8_runByLot_41 : decode cX8_runByLot 41 = .ok (.iinc 4 1, 3) := by decide +kernel
theorem dX8_runByLot_44 : decode cX8_runByLot 44 = .ok (.goto (-30), 3) := by decide +kernel
theorem dX8_runByLot_47 : decode cX8_runByLot 47 = .ok (.return_, 1) := by decide +kernel
theorem dX8_prepare_0 : decode cX8_prepare 0 = .ok (.aload_n 0, 1) := by decide +kernel
theorem dX8_prepare_1 : decode cX8_prepare 1 = .ok (.iconst 0, 1) := by decide +kernel
theorem dX8_prepare_2 : decode cX8_prepare 2 = .ok (.putfield 28, 3) := by decide +kernel
theorem dX8_prepare_5 : decode cX8_prepare 5 = .ok (.aload_n 0, 1) := by decide +kernel
theorem dX8_prepare_6 : decode cX8_prepare 6 = .ok (.iconst 0, 1) := by decide +kernel
theorem dX8_prepare_7 : decode cX8_prepare 7 = .ok (.putfield 56, 3) := by decide +kernel
theorem dX8_prepare_10 : decode cX8_prepare 10 = .ok (.aload_n 0, 1) := by decide +kernel
theorem dX8_prepare_11 : decode cX8_prepare 11 = .ok (.iconst 0, 1) := by decide +kernel
theorem dX8_prepare_12 : decode cX8_prepare 12 = .ok (.putfield 59, 3) := by decide +kernel
theorem dX8_prepare_15 : decode cX8_prepare 15 = .ok (.iconst 0, 1) := by decide +kernel
theorem dX8_prepare_16 : decode cX8_prepare 16 = .ok (.istore_n 3, 1) := by decide +kernel
theorem dX8_prepare_17 : decode cX8_prepare 17 = .ok (.iload_n 3, 1) := by decide +kernel
theorem dX8_prepare_18 : decode cX8_prepare 18 = .ok (.bipush 8, 2) := by decide +kernel
theorem dX8_prepare_20 : decode cX8_prepare 20 = .ok (.if_icmp .ge 71, 3) := by decide +kernel
theorem dX8_prepare_23 : decode cX8_prepare 23 = .ok (.aload_n 1, 1) := by decide +kernel
theorem dX8_prepare_24 : decode cX8_prepare 24 = .ok (.iload_n 3, 1) := by decide +kernel
theorem dX8_prepare_25 : decode cX8_prepare 25 = .ok (.iload_n 2, 1) := by decide +kernel
theorem dX8_prepare_26 : decode cX8_prepare 26 = .ok (.invokevirtual 62, 3) := by decide +kernel
theorem dX8_prepare_29 : decode cX8_prepare 29 = .ok (.istore 4, 2) := by decide +kernel
theorem dX8_prepare_31 : decode cX8_prepare 31 = .ok (.aload_n 0, 1) := by decide +kernel
theorem dX8_prepare_32 : decode cX8_prepare 32 = .ok (.getfield 15, 3) := by decide +kernel
theorem dX8_prepare_35 : decode cX8_prepare 35 = .ok (.iload_n 3, 1) := by decide +kernel
theorem dX8_prepare_36 : decode cX8_prepare 36 = .ok (.aload_n 1, 1) := by decide +kernel
theorem dX8_prepare_37 : decode cX8_prepare 37 = .ok (.iload_n 3, 1) := by decide +kernel
theorem dX8_prepare_38 : decode cX8_prepare 38 = .ok (.invokevirtual 66, 3) := by decide +kernel
theorem dX8_prepare_41 : decode cX8_prepare 41 = .ok (.iastore, 1) := by decide +kernel
theorem dX8_prepare_42 : decode cX8_prepare 42 = .ok (.aload_n 0, 1) := by decide +kernel
theorem dX8_prepare_43 : decode cX8_prepare 43 = .ok (.getfield 18, 3) := by decide +kernel
theorem dX8_prepare_46 : decode cX8_prepare 46 = .ok (.iload_n 3, 1) := by decide +kernel
theorem dX8_prepare_47 : decode cX8_prepare 47 = .ok (.iload 4, 2) := by decide +kernel
theorem dX8_prepare_49 : decode cX8_prepare 49 = .ok (.invokestatic 69, 3) := by decide +kernel
theorem dX8_prepare_52 : decode cX8_prepare 52 = .ok (.iastore, 1) := by decide +kernel
theorem dX8_prepare_53 : decode cX8_prepare 53 = .ok (.aload_n 0, 1) := by decide +kernel
theorem dX8_prepare_54 : decode cX8_prepare 54 = .ok (.getfield 21, 3) := by decide +kernel
theorem dX8_prepare_57 : decode cX8_prepare 57 = .ok (.iload_n 3, 1) := by decide +kernel
theorem dX8_prepare_58 : decode cX8_prepare 58 = .ok (.iconst 0, 1) := by decide +kernel
theorem dX8_prepare_59 : decode cX8_prepare 59 = .ok (.iastore, 1) := by decide +kernel
theorem dX8_prepare_60 : decode cX8_prepare 60 = .ok (.aload_n 0, 1) := by decide +kernel
theorem dX8_prepare_61 : decode cX8_prepare 61 = .ok (.getfield 9, 3) := by decide +kernel
theorem dX8_prepare_64 : decode cX8_prepare 64 = .ok (.iload_n 3, 1) := by decide +kernel
theorem dX8_prepare_65 : decode cX8_prepare 65 = .ok (.iconst 0, 1) := by decide +kernel
theorem dX8_prepare_66 : decode cX8_prepare 66 = .ok (.iastore, 1) := by decide +kernel
theorem dX8_prepare_67 : decode cX8_prepare 67 = .ok (.iload 4, 2) := by decide +kernel
theorem dX8_prepare_69 : decode cX8_prepare 69 = .ok (.iconst (-1), 1) := by decide +kernel
theorem dX8_prepare_70 : decode cX8_prepare 70 = .ok (.if_icmp .eq 15, 3) := by decide +kernel
theorem dX8_prepare_73 : decode cX8_prepare 73 = .ok (.aload_n 0, 1) := by decide +kernel
theorem dX8_prepare_74 : decode cX8_prepare 74 = .ok (.dup, 1) := by decide +kernel
theorem dX8_prepare_75 : decode cX8_prepare 75 = .ok (.getfield 28, 3) := by decide +kernel
theorem dX8_prepare_78 : decode cX8_prepare 78 = .ok (.iconst 1, 1) := by decide +kernel
theorem dX8_prepare_79 : decode cX8_prepare 79 = .ok (.iload_n 3, 1) := by decide +kernel
theorem dX8_prepare_80 : decode cX8_prepare 80 = .ok (.ishl, 1) := by decide +kernel
theorem dX8_prepare_81 : decode cX8_prepare 81 = .ok (.ior, 1) := by decide +kernel
theorem dX8_prepare_82 : decode cX8_prepare 82 = .ok (.putfield 28, 3) := by decide +kernel
theorem dX8_prepare_85 : decode cX8_prepare 85 = .ok (.iinc 3 1, 3) := by decide +kernel
theorem dX8_prepare_88 : decode cX8_prepare 88 = .ok (.goto (-71), 3) := by decide +kernel
theorem dX8_prepare_91 : decode cX8_prepare 91 = .ok (.return_, 1) := by decide +kernel
theorem dX8_drawTurns_0 : decode cX8_drawTurns 0 = .ok (.iload_n 1, 1) := by decide +kernel
theorem dX8_drawTurns_1 : decode cX8_drawTurns 1 = .ok (.istore_n 2, 1) := by decide +kernel
theorem dX8_drawTurns_2 : decode cX8_drawTurns 2 = .ok (.aload_n 0, 1) := by decide +kernel
theorem dX8_drawTurns_3 : decode cX8_drawTurns 3 = .ok (.getfield 28, 3) := by decide +kernel
theorem dX8_drawTurns_6 : decode cX8_drawTurns 6 = .ok (.istore_n 3, 1) := by decide +kernel
theorem dX8_drawTurns_7 : decode cX8_drawTurns 7 = .ok (.aload_n 0, 1) := by decide +kernel
theorem dX8_drawTurns_8 : decode cX8_drawTurns 8 = .ok (.getfield 28, 3) := by decide +kernel
theorem dX8_drawTurns_11 : decode cX8_drawTurns 11 = .ok (.invokestatic 72, 3) := by decide +kernel
theorem dX8_drawTurns_14 : decode cX8_drawTurns 14 = .ok (.istore 4, 2) := by decide +kernel
theorem dX8_drawTurns_16 : decode cX8_drawTurns 16 = .ok (.iload 4, 2) := by decide +kernel
theorem dX8_drawTurns_18 : decode cX8_drawTurns 18 = .ok (.ifCond .le 45, 3) := by decide +kernel
theorem dX8_drawTurns_21 : decode cX8_drawTurns 21 = .ok (.iload_n 2, 1) := by decide +kernel
theorem dX8_drawTurns_22 : decode cX8_drawTurns 22 = .ok (.invokestatic 77, 3) := by decide +kernel
theorem dX8_drawTurns_25 : decode cX8_drawTurns 25 = .ok (.istore_n 2, 1) := by decide +kernel
theorem dX8_drawTurns_26 : decode cX8_drawTurns 26 = .ok (.iload_n 3, 1) := by decide +kernel
theorem dX8_drawTurns_27 : decode cX8_drawTurns 27 = .ok (.iload_n 2, 1) := by decide +kernel
theorem dX8_drawTurns_28 : decode cX8_drawTurns 28 = .ok (.invokestatic 80, 3) := by decide +kernel
theorem dX8_drawTurns_31 : decode cX8_drawTurns 31 = .ok (.iload 4, 2) := by decide +kernel
theorem dX8_drawTurns_33 : decode cX8_drawTurns 33 = .ok (.irem, 1) := by decide +kernel
theorem dX8_drawTurns_34 : decode cX8_drawTurns 34 = .ok (.invokestatic 83, 3) := by decide +kernel
theorem dX8_drawTurns_37 : decode cX8_drawTurns 37 = .ok (.istore 5, 2) := by decide +kernel
theorem dX8_drawTurns_39 : decode cX8_drawTurns 39 = .ok (.aload_n 0, 1) := by decide +kernel
theorem dX8_drawTurns_40 : decode cX8_drawTurns 40 = .ok (.getfield 9, 3) := by decide +kernel
theorem dX8_drawTurns_43 : decode cX8_drawTurns 43 = .ok (.iload 5, 2) := by decide +kernel
theorem dX8_drawTurns_45 : decode cX8_drawTurns 45 = .ok (.iload 4, 2) := by decide +kernel
theorem dX8_drawTurns_47 : decode cX8_drawTurns 47 = .ok (.iastore, 1) := by decide +kernel
theorem dX8_drawTurns_48 : decode cX8_drawTurns 48 = .ok (.iload_n 3, 1) := by decide +kernel
theorem dX8_drawTurns_49 : decode cX8_drawTurns 49 = .ok (.iconst 1, 1) := by decide +kernel
theorem dX8_drawTurns_50 : decode cX8_drawTurns 50 = .ok (.iload 5, 2) := by decide +kernel
theorem dX8_drawTurns_52 : decode cX8_drawTurns 52 = .ok (.ishl, 1) := by decide +kernel
theorem dX8_drawTurns_53 : decode cX8_drawTurns 53 = .ok (.iconst (-1), 1) := by decide +kernel
theorem dX8_drawTurns_54 : decode cX8_drawTurns 54 = .ok (.ixor, 1) := by decide +kernel
theorem dX8_drawTurns_55 : decode cX8_drawTurns 55 = .ok (.iand, 1) := by decide +kernel
theorem dX8_drawTurns_56 : decode cX8_drawTurns 56 = .ok (.istore_n 3, 1) := by decide +kernel
theorem dX8_drawTurns_57 : decode cX8_drawTurns 57 = .ok (.iinc 4 (-1), 3) := by decide +kernel
theorem dX8_drawTurns_60 : decode cX8_drawTurns 60 = .ok (.goto (-44), 3) := by decide +kernel
theorem dX8_drawTurns_63 : decode cX8_drawTurns 63 = .ok (.return_, 1) := by decide +kernel
theorem dX8_houseAt_0 : decode cX8_houseAt 0 = .ok (.iconst 0, 1) := by decide +kernel
theorem dX8_houseAt_1 : decode cX8_houseAt 1 = .ok (.istore_n 2, 1) := by decide +kernel
theorem dX8_houseAt_2 : decode cX8_houseAt 2 = .ok (.iconst 0, 1) := by decide +kernel
theorem dX8_houseAt_3 : decode cX8_houseAt 3 = .ok (.istore_n 3, 1) := by decide +kernel
theorem dX8_houseAt_4 : decode cX8_houseAt 4 = .ok (.iload_n 3, 1) := by decide +kernel
theorem dX8_houseAt_5 : decode cX8_houseAt 5 = .ok (.bipush 8, 2) := by decide +kernel
theorem dX8_houseAt_7 : decode cX8_houseAt 7 = .ok (.if_icmp .ge 28, 3) := by decide +kernel
theorem dX8_houseAt_10 : decode cX8_houseAt 10 = .ok (.iload_n 0, 1) := by decide +kernel
theorem dX8_houseAt_11 : decode cX8_houseAt 11 = .ok (.iload_n 3, 1) := by decide +kernel
theorem dX8_houseAt_12 : decode cX8_houseAt 12 = .ok (.ishr, 1) := by decide +kernel
theorem dX8_houseAt_13 : decode cX8_houseAt 13 = .ok (.iconst 1, 1) := by decide +kernel
theorem dX8_houseAt_14 : decode cX8_houseAt 14 = .ok (.iand, 1) := by decide +kernel
theorem dX8_houseAt_15 : decode cX8_houseAt 15 = .ok (.iconst 1, 1) := by decide +kernel
theorem dX8_houseAt_16 : decode cX8_houseAt 16 = .ok (.if_icmp .ne 13, 3) := by decide +kernel
theorem dX8_houseAt_19 : decode cX8_houseAt 19 = .ok (.iload_n 2, 1) := by decide +kernel
theorem dX8_houseAt_20 : decode cX8_houseAt 20 = .ok (.iload_n 1, 1) := by decide +kernel
theorem dX8_houseAt_21 : decode cX8_houseAt 21 = .ok (.if_icmp .ne 5, 3) := by decide +kernel
theorem dX8_houseAt_24 : decode cX8_houseAt 24 = .ok (.iload_n 3, 1) := by decide +kernel
theorem dX8_houseAt_25 : decode cX8_houseAt 25 = .ok (.ireturn, 1) := by decide +kernel
theorem dX8_houseAt_26 : decode cX8_houseAt 26 = .ok (.iinc 2 1, 3) := by decide +kernel
theorem dX8_houseAt_29 : decode cX8_houseAt 29 = .ok (.iinc 3 1, 3) := by decide +kernel
theorem dX8_houseAt_32 : decode cX8_houseAt 32 = .ok (.goto (-28), 3) := by decide +kernel
theorem dX8_houseAt_35 : decode cX8_houseAt 35 = .ok (.iconst 0, 1) := by decide +kernel
theorem dX8_houseAt_36 : decode cX8_houseAt 36 = .ok (.ireturn, 1) := by decide +kernel
theorem dX8_readyAt_0 : decode cX8_readyAt 0 = .ok (.iconst 0, 1) := by decide +kernel
theorem dX8_readyAt_1 : decode cX8_readyAt 1 = .ok (.istore_n 2, 1) := by decide +kernel
theorem dX8_readyAt_2 : decode cX8_readyAt 2 = .ok (.iconst 0, 1) := by decide +kernel
theorem dX8_readyAt_3 : decode cX8_readyAt 3 = .ok (.istore_n 3, 1) := by decide +kernel
theorem dX8_readyAt_4 : decode cX8_readyAt 4 = .ok (.iload_n 3, 1) := by decide +kernel
theorem dX8_readyAt_5 : decode cX8_readyAt 5 = .ok (.bipush 8, 2) := by decide +kernel
theorem dX8_readyAt_7 : decode cX8_readyAt 7 = .ok (.if_icmp .ge 36, 3) := by decide +kernel
theorem dX8_readyAt_10 : decode cX8_readyAt 10 = .ok (.aload_n 0, 1) := by decide +kernel
theorem dX8_readyAt_11 : decode cX8_readyAt 11 = .ok (.getfield 28, 3) := by decide +kernel
theorem dX8_readyAt_14 : decode cX8_readyAt 14 = .ok (.iload_n 3, 1) := by decide +kernel
theorem dX8_readyAt_15 : decode cX8_readyAt 15 = .ok (.ishr, 1) := by decide +kernel
theorem dX8_readyAt_16 : decode cX8_readyAt 16 = .ok (.iconst 1, 1) := by decide +kernel
theorem dX8_readyAt_17 : decode cX8_readyAt 17 = .ok (.iand, 1) := by decide +kernel
theorem dX8_readyAt_18 : decode cX8_readyAt 18 = .ok (.iconst 1, 1) := by decide +kernel
theorem dX8_readyAt_19 : decode cX8_readyAt 19 = .ok (.if_icmp .ne 18, 3) := by decide +kernel
theorem dX8_readyAt_22 : decode cX8_readyAt 22 = .ok (.aload_n 0, 1) := by decide +kernel
theorem dX8_readyAt_23 : decode cX8_readyAt 23 = .ok (.iload_n 3, 1) := by decide +kernel
theorem dX8_readyAt_24 : decode cX8_readyAt 24 = .ok (.iload_n 1, 1) := by decide +kernel
theorem dX8_readyAt_25 : decode cX8_readyAt 25 = .ok (.invokevirtual 86, 3) := by decide +kernel
theorem dX8_readyAt_28 : decode cX8_readyAt 28 = .ok (.ifCond .eq 9, 3) := by decide +kernel
theorem dX8_readyAt_31 : decode cX8_readyAt 31 = .ok (.iload_n 2, 1) := by decide +kernel
theorem dX8_readyAt_32 : decode cX8_readyAt 32 = .ok (.iconst 1, 1) := by decide +kernel
theorem dX8_readyAt_33 : decode cX8_readyAt 33 = .ok (.iload_n 3, 1) := by decide +kernel
theorem dX8_readyAt_34 : decode cX8_readyAt 34 = .ok (.ishl, 1) := by decide +kernel
theorem dX8_readyAt_35 : decode cX8_readyAt 35 = .ok (.ior, 1) := by decide +kernel
theorem dX8_readyAt_36 : decode cX8_readyAt 36 = .ok (.istore_n 2, 1) := by decide +kernel
theorem dX8_readyAt_37 : decode cX8_readyAt 37 = .ok (.iinc 3 1, 3) := by decide +kernel
theorem dX8_readyAt_40 : decode cX8_readyAt 40 = .ok (.goto (-36), 3) := by decide +kernel
theorem dX8_readyAt_43 : decode cX8_readyAt 43 = .ok (.iload_n 2, 1) := by decide +kernel
theorem dX8_readyAt_44 : decode cX8_readyAt 44 = .ok (.ireturn, 1) := by decide +kernel
theorem dX8_isUnharmed_0 : decode cX8_isUnharmed 0 = .ok (.iconst 0, 1) := by decide +kernel
theorem dX8_isUnharmed_1 : decode cX8_isUnharmed 1 = .ok (.istore_n 3, 1) := by decide +kernel
theorem dX8_isUnharmed_2 : decode cX8_isUnharmed 2 = .ok (.iload_n 3, 1) := by decide +kernel
theorem dX8_isUnharmed_3 : decode cX8_isUnharmed 3 = .ok (.bipush 8, 2) := by decide +kernel
theorem dX8_isUnharmed_5 : decode cX8_isUnharmed 5 = .ok (.if_icmp .ge 35, 3) := by decide +kernel
theorem dX8_isUnharmed_8 : decode cX8_isUnharmed 8 = .ok (.aload_n 0, 1) := by decide +kernel
theorem dX8_isUnharmed_9 : decode cX8_isUnharmed 9 = .ok (.getfield 15, 3) := by decide +kernel
theorem dX8_isUnharmed_12 : decode cX8_isUnharmed 12 = .ok (.iload_n 1, 1) := by decide +kernel
theorem dX8_isUnharmed_13 : decode cX8_isUnharmed 13 = .ok (.iaload, 1) := by decide +kernel
theorem dX8_isUnharmed_14 : decode cX8_isUnharmed 14 = .ok (.iload_n 3, 1) := by decide +kernel
theorem dX8_isUnharmed_15 : decode cX8_isUnharmed 15 = .ok (.ishr, 1) := by decide +kernel
theorem dX8_isUnharmed_16 : decode cX8_isUnharmed 16 = .ok (.iconst 1, 1) := by decide +kernel
theorem dX8_isUnharmed_17 : decode cX8_isUnharmed 17 = .ok (.iand, 1) := by decide +kernel
theorem dX8_isUnharmed_18 : decode cX8_isUnharmed 18 = .ok (.iconst 1, 1) := by decide +kernel
theorem dX8_isUnharmed_19 : decode cX8_isUnharmed 19 = .ok (.if_icmp .ne 15, 3) := by decide +kernel
theorem dX8_isUnharmed_22 : decode cX8_isUnharmed 22 = .ok (.aload_n 0, 1) := by decide +kernel
theorem dX8_isUnharmed_23 : decode cX8_isUnharmed 23 = .ok (.getfield 21, 3) := by decide +kernel
theorem dX8_isUnharmed_26 : decode cX8_isUnharmed 26 = .ok (.iload_n 3, 1) := by decide +kernel
theorem dX8_isUnharmed_27 : decode cX8_isUnharmed 27 = .ok (.iaload, 1) := by decide +kernel
theorem dX8_isUnharmed_28 : decode cX8_isUnharmed 28 = .ok (.iload_n 2, 1) := by decide +kernel
theorem dX8_isUnharmed_29 : decode cX8_isUnharmed 29 = .ok (.if_icmp .le 5, 3) := by decide +kernel
theorem dX8_isUnharmed_32 : decode cX8_isUnharmed 32 = .ok (.iconst 0, 1) := by decide +kernel
theorem dX8_isUnharmed_33 : decode cX8_isUnharmed 33 = .ok (.ireturn, 1) := by decide +kernel
theorem dX8_isUnharmed_34 : decode cX8_isUnharmed 34 = .ok (.iinc 3 1, 3) := by decide +kernel
theorem dX8_isUnharmed_37 : decode cX8_isUnharmed 37 = .ok (.goto (-35), 3) := by decide +kernel
theorem dX8_isUnharmed_40 : decode cX8_isUnharmed 40 = .ok (.iconst 1, 1) := by decide +kernel
theorem dX8_isUnharmed_41 : decode cX8_isUnharmed 41 = .ok (.ireturn, 1) := by decide +kernel
theorem dX8_ringReady_0 : decode cX8_ringReady 0 = .ok (.iload_n 1, 1) := by decide +kernel
theorem dX8_ringReady_1 : decode cX8_ringReady 1 = .ok (.istore_n 3, 1) := by decide +kernel
theorem dX8_ringReady_2 : decode cX8_ringReady 2 = .ok (.iload_n 1, 1) := by decide +kernel
theorem dX8_ringReady_3 : decode cX8_ringReady 3 = .ok (.invokestatic 72, 3) := by decide +kernel
theorem dX8_ringReady_6 : decode cX8_ringReady 6 = .ok (.istore 4, 2) := by decide +kernel
theorem dX8_ringReady_8 : decode cX8_ringReady 8 = .ok (.iload 4, 2) := by decide +kernel
theorem dX8_ringReady_10 : decode cX8_ringReady 10 = .ok (.ifCond .le 94, 3) := by decide +kernel
theorem dX8_ringReady_13 : decode cX8_ringReady 13 = .ok (.aload_n 0, 1) := by decide +kernel
theorem dX8_ringReady_14 : decode cX8_ringReady 14 = .ok (.iload_n 3, 1) := by decide +kernel
theorem dX8_ringReady_15 : decode cX8_ringReady 15 = .ok (.invokevirtual 90, 3) := by decide +kernel
theorem dX8_ringReady_18 : decode cX8_ringReady 18 = .ok (.istore 5, 2) := by decide +kernel
theorem dX8_ringReady_20 : decode cX8_ringReady 20 = .ok (.iload_n 3, 1) := by decide +kernel
theorem dX8_ringReady_21 : decode cX8_ringReady 21 = .ok (.iconst 1, 1) := by decide +kernel
theorem dX8_ringReady_22 : decode cX8_ringReady 22 = .ok (.iload 5, 2) := by decide +kernel
theorem dX8_ringReady_24 : decode cX8_ringReady 24 = .ok (.ishl, 1) := by decide +kernel
theorem dX8_ringReady_25 : decode cX8_ringReady 25 = .ok (.iconst (-1), 1) := by decide +kernel
theorem dX8_ringReady_26 : decode cX8_ringReady 26 = .ok (.ixor, 1) := by decide +kernel
theorem dX8_ringReady_27 : decode cX8_ringReady 27 = .ok (.iand, 1) := by decide +kernel
theorem dX8_ringReady_28 : decode cX8_ringReady 28 = .ok (.istore_n 3, 1) := by decide +kernel
theorem dX8_ringReady_29 : decode cX8_ringReady 29 = .ok (.aload_n 0, 1) := by decide +kernel
theorem dX8_ringReady_30 : decode cX8_ringReady 30 = .ok (.iload 5, 2) := by decide +kernel
theorem dX8_ringReady_32 : decode cX8_ringReady 32 = .ok (.iload_n 2, 1) := by decide +kernel
theorem dX8_ringReady_33 : decode cX8_ringReady 33 = .ok (.invokevirtual 86, 3) := by decide +kernel
theorem dX8_ringReady_36 : decode cX8_ringReady 36 = .ok (.ifCond .eq 62, 3) := by decide +kernel
theorem dX8_ringReady_39 : decode cX8_ringReady 39 = .ok (.aload_n 0, 1) := by decide +kernel
theorem dX8_ringReady_40 : decode cX8_ringReady 40 = .ok (.dup, 1) := by decide +kernel
theorem dX8_ringReady_41 : decode cX8_ringReady 41 = .ok (.getfield 28, 3) := by decide +kernel
theorem dX8_ringReady_44 : decode cX8_ringReady 44 = .ok (.iconst 1, 1) := by decide +kernel
theorem dX8_ringReady_45 : decode cX8_ringReady 45 = .ok (.iload 5, 2) := by decide +kernel
theorem dX8_ringReady_47 : decode cX8_ringReady 47 = .ok (.ishl, 1) := by decide +kernel
theorem dX8_ringReady_48 : decode cX8_ringReady 48 = .ok (.iconst (-1), 1) := by decide +kernel
theorem dX8_ringReady_49 : decode cX8_ringReady 49 = .ok (.ixor, 1) := by decide +kernel
theorem dX8_ringReady_50 : decode cX8_ringReady 50 = .ok (.iand, 1) := by decide +kernel
theorem dX8_ringReady_51 : decode cX8_ringReady 51 = .ok (.putfield 28, 3) := by decide +kernel
theorem dX8_ringReady_54 : decode cX8_ringReady 54 = .ok (.aload_n 0, 1) := by decide +kernel
theorem dX8_ringReady_55 : decode cX8_ringReady 55 = .ok (.getfield 21, 3) := by decide +kernel
theorem dX8_ringReady_58 : decode cX8_ringReady 58 = .ok (.iload 5, 2) := by decide +kernel
theorem dX8_ringReady_60 : decode cX8_ringReady 60 = .ok (.iload_n 2, 1) := by decide +kernel
theorem dX8_ringReady_61 : decode cX8_ringReady 61 = .ok (.aload_n 0, 1) := by decide +kernel
theorem dX8_ringReady_62 : decode cX8_ringReady 62 = .ok (.getfield 18, 3) := by decide +kernel
theorem dX8_ringReady_65 : decode cX8_ringReady 65 = .ok (.iload 5, 2) := by decide +kernel
theorem dX8_ringReady_67 : decode cX8_ringReady 67 = .ok (.iaload, 1) := by decide +kernel
theorem dX8_ringReady_68 : decode cX8_ringReady 68 = .ok (.iadd, 1) := by decide +kernel
theorem dX8_ringReady_69 : decode cX8_ringReady 69 = .ok (.iastore, 1) := by decide +kernel
theorem dX8_ringReady_70 : decode cX8_ringReady 70 = .ok (.aload_n 0, 1) := by decide +kernel
theorem dX8_ringReady_71 : decode cX8_ringReady 71 = .ok (.dup, 1) := by decide +kernel
theorem dX8_ringReady_72 : decode cX8_ringReady 72 = .ok (.getfield 56, 3) := by decide +kernel
theorem dX8_ringReady_75 : decode cX8_ringReady 75 = .ok (.iload_n 2, 1) := by decide +kernel
theorem dX8_ringReady_76 : decode cX8_ringReady 76 = .ok (.iadd, 1) := by decide +kernel
theorem dX8_ringReady_77 : decode cX8_ringReady 77 = .ok (.putfield 56, 3) := by decide +kernel
theorem dX8_ringReady_80 : decode cX8_ringReady 80 = .ok (.aload_n 0, 1) := by decide +kernel
theorem dX8_ringReady_81 : decode cX8_ringReady 81 = .ok (.aload_n 0, 1) := by decide +kernel
theorem dX8_ringReady_82 : decode cX8_ringReady 82 = .ok (.getfield 59, 3) := by decide +kernel
theorem dX8_ringReady_85 : decode cX8_ringReady 85 = .ok (.aload_n 0, 1) := by decide +kernel
theorem dX8_ringReady_86 : decode cX8_ringReady 86 = .ok (.getfield 21, 3) := by decide +kernel
theorem dX8_ringReady_89 : decode cX8_ringReady 89 = .ok (.iload 5, 2) := by decide +kernel
theorem dX8_ringReady_91 : decode cX8_ringReady 91 = .ok (.iaload, 1) := by decide +kernel
theorem dX8_ringReady_92 : decode cX8_ringReady 92 = .ok (.invokestatic 93, 3) := by decide +kernel
theorem dX8_ringReady_95 : decode cX8_ringReady 95 = .ok (.putfield 59, 3) := by decide +kernel
theorem dX8_ringReady_98 : decode cX8_ringReady 98 = .ok (.iinc 4 (-1), 3) := by decide +kernel
theorem dX8_ringReady_101 : decode cX8_ringReady 101 = .ok (.goto (-93), 3) := by decide +kernel
theorem dX8_ringReady_104 : decode cX8_ringReady 104 = .ok (.return_, 1) := by decide +kernel
theorem dX8_nextOf_0 : decode cX8_nextOf 0 = .ok (.iconst (-1), 1) := by decide +kernel
theorem dX8_nextOf_1 : decode cX8_nextOf 1 = .ok (.istore_n 2, 1) := by decide +kernel
theorem dX8_nextOf_2 : decode cX8_nextOf 2 = .ok (.iconst 0, 1) := by decide +kernel
theorem dX8_nextOf_3 : decode cX8_nextOf 3 = .ok (.istore_n 3, 1) := by decide +kernel
theorem dX8_nextOf_4 : decode cX8_nextOf 4 = .ok (.iload_n 3, 1) := by decide +kernel
theorem dX8_nextOf_5 : decode cX8_nextOf 5 = .ok (.bipush 8, 2) := by decide +kernel
theorem dX8_nextOf_7 : decode cX8_nextOf 7 = .ok (.if_icmp .ge 40, 3) := by decide +kernel
theorem dX8_nextOf_10 : decode cX8_nextOf 10 = .ok (.iload_n 1, 1) := by decide +kernel
theorem dX8_nextOf_11 : decode cX8_nextOf 11 = .ok (.iload_n 3, 1) := by decide +kernel
theorem dX8_nextOf_12 : decode cX8_nextOf 12 = .ok (.ishr, 1) := by decide +kernel
theorem dX8_nextOf_13 : decode cX8_nextOf 13 = .ok (.iconst 1, 1) := by decide +kernel
theorem dX8_nextOf_14 : decode cX8_nextOf 14 = .ok (.iand, 1) := by decide +kernel
theorem dX8_nextOf_15 : decode cX8_nextOf 15 = .ok (.iconst 1, 1) := by decide +kernel
theorem dX8_nextOf_16 : decode cX8_nextOf 16 = .ok (.if_icmp .ne 25, 3) := by decide +kernel
theorem dX8_nextOf_19 : decode cX8_nextOf 19 = .ok (.iload_n 2, 1) := by decide +kernel
theorem dX8_nextOf_20 : decode cX8_nextOf 20 = .ok (.iconst (-1), 1) := by decide +kernel
theorem dX8_nextOf_21 : decode cX8_nextOf 21 = .ok (.if_icmp .eq 18, 3) := by decide +kernel
theorem dX8_nextOf_24 : decode cX8_nextOf 24 = .ok (.aload_n 0, 1) := by decide +kernel
theorem dX8_nextOf_25 : decode cX8_nextOf 25 = .ok (.getfield 9, 3) := by decide +kernel
theorem dX8_nextOf_28 : decode cX8_nextOf 28 = .ok (.iload_n 3, 1) := by decide +kernel
theorem dX8_nextOf_29 : decode cX8_nextOf 29 = .ok (.iaload, 1) := by decide +kernel
theorem dX8_nextOf_30 : decode cX8_nextOf 30 = .ok (.aload_n 0, 1) := by decide +kernel
theorem dX8_nextOf_31 : decode cX8_nextOf 31 = .ok (.getfield 9, 3) := by decide +kernel
theorem dX8_nextOf_34 : decode cX8_nextOf 34 = .ok (.iload_n 2, 1) := by decide +kernel
theorem dX8_nextOf_35 : decode cX8_nextOf 35 = .ok (.iaload, 1) := by decide +kernel
theorem dX8_nextOf_36 : decode cX8_nextOf 36 = .ok (.if_icmp .le 5, 3) := by decide +kernel
theorem dX8_nextOf_39 : decode cX8_nextOf 39 = .ok (.iload_n 3, 1) := by decide +kernel
theorem dX8_nextOf_40 : decode cX8_nextOf 40 = .ok (.istore_n 2, 1) := by decide +kernel
theorem dX8_nextOf_41 : decode cX8_nextOf 41 = .ok (.iinc 3 1, 3) := by decide +kernel
theorem dX8_nextOf_44 : decode cX8_nextOf 44 = .ok (.goto (-40), 3) := by decide +kernel
theorem dX8_nextOf_47 : decode cX8_nextOf 47 = .ok (.iload_n 2, 1) := by decide +kernel
theorem dX8_nextOf_48 : decode cX8_nextOf 48 = .ok (.iconst (-1), 1) := by decide +kernel
theorem dX8_nextOf_49 : decode cX8_nextOf 49 = .ok (.if_icmp .ne 7, 3) := by decide +kernel
theorem dX8_nextOf_52 : decode cX8_nextOf 52 = .ok (.iconst 0, 1) := by decide +kernel
theorem dX8_nextOf_53 : decode cX8_nextOf 53 = .ok (.goto 4, 3) := by decide +kernel
theorem dX8_nextOf_56 : decode cX8_nextOf 56 = .ok (.iload_n 2, 1) := by decide +kernel
theorem dX8_nextOf_57 : decode cX8_nextOf 57 = .ok (.ireturn, 1) := by decide +kernel
theorem dX9_init_0 : decode cX9_init 0 = .ok (.aload_n 0, 1) := by decide +kernel
theorem dX9_init_1 : decode cX9_init 1 = .ok (.invokespecial 3, 3) := by decide +kernel
theorem dX9_init_4 : decode cX9_init 4 = .ok (.aload_n 0, 1) := by decide +kernel
theorem dX9_init_5 : decode cX9_init 5 = .ok (.bipush 8, 2) := by decide +kernel
theorem dX9_init_7 : decode cX9_init 7 = .ok (.newarray .int, 2) := by decide +kernel
theorem dX9_init_9 : decode cX9_init 9 = .ok (.putfield 9, 3) := by decide +kernel
theorem dX9_init_12 : decode cX9_init 12 = .ok (.aload_n 0, 1) := by decide +kernel
theorem dX9_init_13 : decode cX9_init 13 = .ok (.bipush 8, 2) := by decide +kernel
theorem dX9_init_15 : decode cX9_init 15 = .ok (.newarray .int, 2) := by decide +kernel
theorem dX9_init_17 : decode cX9_init 17 = .ok (.putfield 15, 3) := by decide +kernel
theorem dX9_init_20 : decode cX9_init 20 = .ok (.aload_n 0, 1) := by decide +kernel
theorem dX9_init_21 : decode cX9_init 21 = .ok (.bipush 8, 2) := by decide +kernel
theorem dX9_init_23 : decode cX9_init 23 = .ok (.newarray .int, 2) := by decide +kernel
theorem dX9_init_25 : decode cX9_init 25 = .ok (.putfield 18, 3) := by decide +kernel
theorem dX9_init_28 : decode cX9_init 28 = .ok (.aload_n 0, 1) := by decide +kernel
theorem dX9_init_29 : decode cX9_init 29 = .ok (.bipush 8, 2) := by decide +kernel
theorem dX9_init_31 : decode cX9_init 31 = .ok (.newarray .int, 2) := by decide +kernel
theorem dX9_init_33 : decode cX9_init 33 = .ok (.putfield 21, 3) := by decide +kernel
theorem dX9_init_36 : decode cX9_init 36 = .ok (.aload_n 0, 1) := by decide +kernel
theorem dX9_init_37 : decode cX9_init 37 = .ok (.bipush 8, 2) := by decide +kernel
theorem dX9_init_39 : decode cX9_init 39 = .ok (.newarray .int, 2) := by decide +kernel
theorem dX9_init_41 : decode cX9_init 41 = .ok (.putfield 24, 3) := by decide +kernel
theorem dX9_init_44 : decode cX9_init 44 = .ok (.aload_n 0, 1) := by decide +kernel
theorem dX9_init_45 : decode cX9_init 45 = .ok (.bipush 10, 2) := by decide +kernel
theorem dX9_init_47 : decode cX9_init 47 = .ok (.newarray .int, 2) := by decide +kernel
theorem dX9_init_49 : decode cX9_init 49 = .ok (.putfield 27, 3) := by decide +kernel
theorem dX9_init_52 : decode cX9_init 52 = .ok (.aload_n 0, 1) := by decide +kernel
theorem dX9_init_53 : decode cX9_init 53 = .ok (.bipush 80, 2) := by decide +kernel
theorem dX9_init_55 : decode cX9_init 55 = .ok (.newarray .int, 2) := by decide +kernel
theorem dX9_init_57 : decode cX9_init 57 = .ok (.putfield 30, 3) := by decide +kernel
theorem dX9_init_60 : decode cX9_init 60 = .ok (.aload_n 0, 1) := by decide +kernel
theorem dX9_init_61 : decode cX9_init 61 = .ok (.bipush 64, 2) := by decide +kernel
theorem dX9_init_63 : decode cX9_init 63 = .ok (.newarray .int, 2) := by decide +kernel
theorem dX9_init_65 : decode cX9_init 65 = .ok (.putfield 33, 3) := by decide +kernel
theorem dX9_init_68 : decode cX9_init 68 = .ok (.aload_n 0, 1) := by decide +kernel
theorem dX9_init_69 : decode cX9_init 69 = .ok (.new 36, 3) := by decide +kernel
theorem dX9_init_72 : decode cX9_init 72 = .ok (.dup, 1) := by decide +kernel
theorem dX9_init_73 : decode cX9_init 73 = .ok (.invokespecial 38, 3) := by decide +kernel
theorem dX9_init_76 : decode cX9_init 76 = .ok (.putfield 39, 3) := by decide +kernel
theorem dX9_init_79 : decode cX9_init 79 = .ok (.aload_n 0, 1) := by decide +kernel
theorem dX9_init_80 : decode cX9_init 80 = .ok (.new 43, 3) := by decide +kernel
theorem dX9_init_83 : decode cX9_init 83 = .ok (.dup, 1) := by decide +kernel
theorem dX9_init_84 : decode cX9_init 84 = .ok (.invokespecial 45, 3) := by decide +kernel
theorem dX9_init_87 : decode cX9_init 87 = .ok (.putfield 46, 3) := by decide +kernel
theorem dX9_init_90 : decode cX9_init 90 = .ok (.iconst 0, 1) := by decide +kernel
theorem dX9_init_91 : decode cX9_init 91 = .ok (.istore_n 1, 1) := by decide +kernel
theorem dX9_init_92 : decode cX9_init 92 = .ok (.iload_n 1, 1) := by decide +kernel
theorem dX9_init_93 : decode cX9_init 93 = .ok (.bipush 80, 2) := by decide +kernel
theorem dX9_init_95 : decode cX9_init 95 = .ok (.if_icmp .ge 16, 3) := by decide +kernel
theorem dX9_init_98 : decode cX9_init 98 = .ok (.aload_n 0, 1) := by decide +kernel
theorem dX9_init_99 : decode cX9_init 99 = .ok (.getfield 30, 3) := by decide +kernel
theorem dX9_init_102 : decode cX9_init 102 = .ok (.iload_n 1, 1) := by decide +kernel
theorem dX9_init_103 : decode cX9_init 103 = .ok (.iconst (-1), 1) := by decide +kernel
theorem dX9_init_104 : decode cX9_init 104 = .ok (.iastore, 1) := by decide +kernel
theorem dX9_init_105 : decode cX9_init 105 = .ok (.iinc 1 1, 3) := by decide +kernel
theorem dX9_init_108 : decode cX9_init 108 = .ok (.goto (-16), 3) := by decide +kernel
theorem dX9_init_111 : decode cX9_init 111 = .ok (.return_, 1) := by decide +kernel
theorem dX9_copyFrom_0 : decode cX9_copyFrom 0 = .ok (.aload_n 0, 1) := by decide +kernel
theorem dX9_copyFrom_1 : decode cX9_copyFrom 1 = .ok (.aload_n 1, 1) := by decide +kernel
theorem dX9_copyFrom_2 : decode cX9_copyFrom 2 = .ok (.getfield 50, 3) := by decide +kernel
theorem dX9_copyFrom_5 : decode cX9_copyFrom 5 = .ok (.putfield 50, 3) := by decide +kernel
theorem dX9_copyFrom_8 : decode cX9_copyFrom 8 = .ok (.aload_n 0, 1) := by decide +kernel
theorem dX9_copyFrom_9 : decode cX9_copyFrom 9 = .ok (.aload_n 1, 1) := by decide +kernel
theorem dX9_copyFrom_10 : decode cX9_copyFrom 10 = .ok (.getfield 54, 3) := by decide +kernel
theorem dX9_copyFrom_13 : decode cX9_copyFrom 13 = .ok (.putfield 54, 3) := by decide +kernel
theorem dX9_copyFrom_16 : decode cX9_copyFrom 16 = .ok (.aload_n 0, 1) := by decide +kernel
theorem dX9_copyFrom_17 : decode cX9_copyFrom 17 = .ok (.aload_n 1, 1) := by decide +kernel
theorem dX9_copyFrom_18 : decode cX9_copyFrom 18 = .ok (.getfield 57, 3) := by decide +kernel
theorem dX9_copyFrom_21 : decode cX9_copyFrom 21 = .ok (.putfield 57, 3) := by decide +kernel
theorem dX9_copyFrom_24 : decode cX9_copyFrom 24 = .ok (.aload_n 0, 1) := by decide +kernel
theorem dX9_copyFrom_25 : decode cX9_copyFrom 25 = .ok (.aload_n 1, 1) := by decide +kernel
theorem dX9_copyFrom_26 : decode cX9_copyFrom 26 = .ok (.getfield 60, 3) := by decide +kernel
theorem dX9_copyFrom_29 : decode cX9_copyFrom 29 = .ok (.putfield 60, 3) := by decide +kernel
theorem dX9_copyFrom_32 : decode cX9_copyFrom 32 = .ok (.aload_n 0, 1) := by decide +kernel
theorem dX9_copyFrom_33 : decode cX9_copyFrom 33 = .ok (.aload_n 1, 1) := by decide +kernel
theorem dX9_copyFrom_34 : decode cX9_copyFrom 34 = .ok (.getfield 63, 3) := by decide +kernel
theorem dX9_copyFrom_37 : decode cX9_copyFrom 37 = .ok (.putfield 63, 3) := by decide +kernel
theorem dX9_copyFrom_40 : decode cX9_copyFrom 40 = .ok (.aload_n 0, 1) := by decide +kernel
theorem dX9_copyFrom_41 : decode cX9_copyFrom 41 = .ok (.aload_n 1, 1) := by decide +kernel
theorem dX9_copyFrom_42 : decode cX9_copyFrom 42 = .ok (.getfield 66, 3) := by decide +kernel
theorem dX9_copyFrom_45 : decode cX9_copyFrom 45 = .ok (.putfield 66, 3) := by decide +kernel
theorem dX9_copyFrom_48 : decode cX9_copyFrom 48 = .ok (.aload_n 1, 1) := by decide +kernel
theorem dX9_copyFrom_49 : decode cX9_copyFrom 49 = .ok (.getfield 9, 3) := by decide +kernel
theorem dX9_copyFrom_52 : decode cX9_copyFrom 52 = .ok (.iconst 0, 1) := by decide +kernel
theorem dX9_copyFrom_53 : decode cX9_copyFrom 53 = .ok (.aload_n 0, 1) := by decide +kernel
theorem dX9_copyFrom_54 : decode cX9_copyFrom 54 = .ok (.getfield 9, 3) := by decide +kernel
theorem dX9_copyFrom_57 : decode cX9_copyFrom 57 = .ok (.iconst 0, 1) := by decide +kernel
theorem dX9_copyFrom_58 : decode cX9_copyFrom 58 = .ok (.bipush 8, 2) := by decide +kernel
theorem dX9_copyFrom_60 : decode cX9_copyFrom 60 = .ok (.invokestatic 69, 3) := by decide +kernel
theorem dX9_copyFrom_63 : decode cX9_copyFrom 63 = .ok (.aload_n 1, 1) := by decide +kernel
theorem dX9_copyFrom_64 : decode cX9_copyFrom 64 = .ok (.getfield 15, 3) := by decide +kernel
theorem dX9_copyFrom_67 : decode cX9_copyFrom 67 = .ok (.iconst 0, 1) := by decide +kernel
theorem dX9_copyFrom_68 : decode cX9_copyFrom 68 = .ok (.aload_n 0, 1) := by decide +kernel
theorem dX9_copyFrom_69 : decode cX9_copyFrom 69 = .ok (.getfield 15, 3) := by decide +kernel
theorem dX9_copyFrom_72 : decode cX9_copyFrom 72 = .ok (.iconst 0, 1) := by decide +kernel
theorem dX9_copyFrom_73 : decode cX9_copyFrom 73 = .ok (.bipush 8, 2) := by decide +kernel
theorem dX9_copyFrom_75 : decode cX9_copyFrom 75 = .ok (.invokestatic 69, 3) := by decide +kernel
theorem dX9_copyFrom_78 : decode cX9_copyFrom 78 = .ok (.aload_n 1, 1) := by decide +kernel
theorem dX9_copyFrom_79 : decode cX9_copyFrom 79 = .ok (.getfield 18, 3) := by decide +kernel
theorem dX9_copyFrom_82 : decode cX9_copyFrom 82 = .ok (.iconst 0, 1) := by decide +kernel
theorem dX9_copyFrom_83 : decode cX9_copyFrom 83 = .ok (.aload_n 0, 1) := by decide +kernel
theorem dX9_copyFrom_84 : decode cX9_copyFrom 84 = .ok (.getfield 18, 3) := by decide +kernel
theorem dX9_copyFrom_87 : decode cX9_copyFrom 87 = .ok (.iconst 0, 1) := by decide +kernel
theorem dX9_copyFrom_88 : decode cX9_copyFrom 88 = .ok (.bipush 8, 2) := by decide +kernel
theorem dX9_copyFrom_90 : decode cX9_copyFrom 90 = .ok (.invokestatic 69, 3) := by decide +kernel
theorem dX9_copyFrom_93 : decode cX9_copyFrom 93 = .ok (.aload_n 1, 1) := by decide +kernel
theorem dX9_copyFrom_94 : decode cX9_copyFrom 94 = .ok (.getfield 21, 3) := by decide +kernel
theorem dX9_copyFrom_97 : decode cX9_copyFrom 97 = .ok (.iconst 0, 1) := by decide +kernel
theorem dX9_copyFrom_98 : decode cX9_copyFrom 98 = .ok (.aload_n 0, 1) := by decide +kernel
theorem dX9_copyFrom_99 : decode cX9_copyFrom 99 = .ok (.getfield 21, 3) := by decide +kernel
theorem dX9_copyFrom_102 : decode cX9_copyFrom 102 = .ok (.iconst 0, 1) := by decide +kernel
theorem dX9_copyFrom_103 : decode cX9_copyFrom 103 = .ok (.bipush 8, 2) := by decide +kernel
theorem dX9_copyFrom_105 : decode cX9_copyFrom 105 = .ok (.invokestatic 69, 3) := by decide +kernel
theorem dX9_copyFrom_108 : decode cX9_copyFrom 108 = .ok (.aload_n 1, 1) := by decide +kernel
theorem dX9_copyFrom_109 : decode cX9_copyFrom 109 = .ok (.getfield 24, 3) := by decide +kernel
theorem dX9_copyFrom_112 : decode cX9_copyFrom 112 = .ok (.iconst 0, 1) := by decide +kernel
theorem dX9_copyFrom_113 : decode cX9_copyFrom 113 = .ok (.aload_n 0, 1) := by decide +kernel
theorem dX9_copyFrom_114 : decode cX9_copyFrom 114 = .ok (.getfield 24, 3) := by decide +kernel
theorem dX9_copyFrom_117 : decode cX9_copyFrom 117 = .ok (.iconst 0, 1) := by decide +kernel
theorem dX9_copyFrom_118 : decode cX9_copyFrom 118 = .ok (.bipush 8, 2) := by decide +kernel
theorem dX9_copyFrom_120 : decode cX9_copyFrom 120 = .ok (.invokestatic 69, 3) := by decide +kernel
theorem dX9_copyFrom_123 : decode cX9_copyFrom 123 = .ok (.aload_n 1, 1) := by decide +kernel
theorem dX9_copyFrom_124 : decode cX9_copyFrom 124 = .ok (.getfield 27, 3) := by decide +kernel
theorem dX9_copyFrom_127 : decode cX9_copyFrom 127 = .ok (.iconst 0, 1) := by decide +kernel
theorem dX9_copyFrom_128 : decode cX9_copyFrom 128 = .ok (.aload_n 0, 1) := by decide +kernel
theorem dX9_copyFrom_129 : decode cX9_copyFrom 129 = .ok (.getfield 27, 3) := by decide +kernel
theorem dX9_copyFrom_132 : decode cX9_copyFrom 132 = .ok (.iconst 0, 1) := by decide +kernel
theorem dX9_copyFrom_133 : decode cX9_copyFrom 133 = .ok (.bipush 10, 2) := by decide +kernel
theorem dX9_copyFrom_135 : decode cX9_copyFrom 135 = .ok (.invokestatic 69, 3) := by decide +kernel
theorem dX9_copyFrom_138 : decode cX9_copyFrom 138 = .ok (.aload_n 1, 1) := by decide +kernel
theorem dX9_copyFrom_139 : decode cX9_copyFrom 139 = .ok (.getfield 30, 3) := by decide +kernel
theorem dX9_copyFrom_142 : decode cX9_copyFrom 142 = .ok (.iconst 0, 1) := by decide +kernel
theorem dX9_copyFrom_143 : decode cX9_copyFrom 143 = .ok (.aload_n 0, 1) := by decide +kernel
theorem dX9_copyFrom_144 : decode cX9_copyFrom 144 = .ok (.getfield 30, 3) := by decide +kernel
theorem dX9_copyFrom_147 : decode cX9_copyFrom 147 = .ok (.iconst 0, 1) := by decide +kernel
theorem dX9_copyFrom_148 : decode cX9_copyFrom 148 = .ok (.bipush 80, 2) := by decide +kernel
theorem dX9_copyFrom_150 : decode cX9_copyFrom 150 = .ok (.invokestatic 69, 3) := by decide +kernel
theorem dX9_copyFrom_153 : decode cX9_copyFrom 153 = .ok (.aload_n 1, 1) := by decide +kernel
theorem dX9_copyFrom_154 : decode cX9_copyFrom 154 = .ok (.getfield 33, 3) := by decide +kernel
theorem dX9_copyFrom_157 : decode cX9_copyFrom 157 = .ok (.iconst 0, 1) := by decide +kernel
theorem dX9_copyFrom_158 : decode cX9_copyFrom 158 = .ok (.aload_n 0, 1) := by decide +kernel
theorem dX9_copyFrom_159 : decode cX9_copyFrom 159 = .ok (.getfield 33, 3) := by decide +kernel
theorem dX9_copyFrom_162 : decode cX9_copyFrom 162 = .ok (.iconst 0, 1) := by decide +kernel
theorem dX9_copyFrom_163 : decode cX9_copyFrom 163 = .ok (.bipush 64, 2) := by decide +kernel
theorem dX9_copyFrom_165 : decode cX9_copyFrom 165 = .ok (.invokestatic 69, 3) := by decide +kernel
theorem dX9_copyFrom_168 : decode cX9_copyFrom 168 = .ok (.aload_n 0, 1) := by decide +kernel
theorem dX9_copyFrom_169 : decode cX9_copyFrom 169 = .ok (.getfield 39, 3) := by decide +kernel
theorem dX9_copyFrom_172 : decode cX9_copyFrom 172 = .ok (.aload_n 1, 1) := by decide +kernel
theorem dX9_copyFrom_173 : decode cX9_copyFrom 173 = .ok (.getfield 39, 3) := by decide +kernel
theorem dX9_copyFrom_176 : decode cX9_copyFrom 176 = .ok (.invokevirtual 75, 3) := by decide +kernel
theorem dX9_copyFrom_179 : decode cX9_copyFrom 179 = .ok (.aload_n 0, 1) := by decide +kernel
theorem dX9_copyFrom_180 : decode cX9_copyFrom 180 = .ok (.getfield 46, 3) := by decide +kernel
theorem dX9_copyFrom_183 : decode cX9_copyFrom 183 = .ok (.aload_n 1, 1) := by decide +kernel
theorem dX9_copyFrom_184 : decode cX9_copyFrom 184 = .ok (.getfield 46, 3) := by decide +kernel
theorem dX9_copyFrom_187 : decode cX9_copyFrom 187 = .ok (.invokevirtual 79, 3) := by decide +kernel
theorem dX9_copyFrom_190 : decode cX9_copyFrom 190 = .ok (.return_, 1) := by decide +kernel
theorem dX9_hasHouse_0 : decode cX9_hasHouse 0 = .ok (.iload_n 1, 1) := by decide +kernel
theorem dX9_hasHouse_1 : decode cX9_hasHouse 1 = .ok (.ifCond .lt 21, 3) := by decide +kernel
theorem dX9_hasHouse_4 : decode cX9_hasHouse 4 = .ok (.iload_n 1, 1) := by decide +kernel
theorem dX9_hasHouse_5 : decode cX9_hasHouse 5 = .ok (.aload_n 0, 1) := by decide +kernel
theorem dX9_hasHouse_6 : decode cX9_hasHouse 6 = .ok (.getfield 50, 3) := by decide +kernel
theorem dX9_hasHouse_9 : decode cX9_hasHouse 9 = .ok (.if_icmp .ge 13, 3) := by decide +kernel
theorem dX9_hasHouse_12 : decode cX9_hasHouse 12 = .ok (.iload_n 1, 1) := by decide +kernel
theorem dX9_hasHouse_13 : decode cX9_hasHouse 13 = .ok (.bipush 8, 2) := by decide +kernel
theorem dX9_hasHouse_15 : decode cX9_hasHouse 15 = .ok (.if_icmp .ge 7, 3) := by decide +kernel
theorem dX9_hasHouse_18 : decode cX9_hasHouse 18 = .ok (.iconst 1, 1) := by decide +kernel
theorem dX9_hasHouse_19 : decode cX9_hasHouse 19 = .ok (.goto 4, 3) := by decide +kernel
theorem dX9_hasHouse_22 : decode cX9_hasHouse 22 = .ok (.iconst 0, 1) := by decide +kernel
theorem dX9_hasHouse_23 : decode cX9_hasHouse 23 = .ok (.ireturn, 1) := by decide +kernel
theorem dX9_hasWant_0 : decode cX9_hasWant 0 = .ok (.iload_n 1, 1) := by decide +kernel
theorem dX9_hasWant_1 : decode cX9_hasWant 1 = .ok (.ifCond .lt 21, 3) := by decide +kernel
theorem dX9_hasWant_4 : decode cX9_hasWant 4 = .ok (.iload_n 1, 1) := by decide +kernel
theorem dX9_hasWant_5 : decode cX9_hasWant 5 = .ok (.aload_n 0, 1) := by decide +kernel
theorem dX9_hasWant_6 : decode cX9_hasWant 6 = .ok (.getfield 54, 3) := by decide +kernel
theorem dX9_hasWant_9 : decode cX9_hasWant 9 = .ok (.if_icmp .ge 13, 3) := by decide +kernel
theorem dX9_hasWant_12 : decode cX9_hasWant 12 = .ok (.iload_n 1, 1) := by decide +kernel
theorem dX9_hasWant_13 : decode cX9_hasWant 13 = .ok (.bipush 10, 2) := by decide +kernel
theorem dX9_hasWant_15 : decode cX9_hasWant 15 = .ok (.if_icmp .ge 7, 3) := by decide +kernel
theorem dX9_hasWant_18 : decode cX9_hasWant 18 = .ok (.iconst 1, 1) := by decide +kernel
theorem dX9_hasWant_19 : decode cX9_hasWant 19 = .ok (.goto 4, 3) := by decide +kernel
theorem dX9_hasWant_22 : decode cX9_hasWant 22 = .ok (.iconst 0, 1) := by decide +kernel
theorem dX9_hasWant_23 : decode cX9_hasWant 23 = .ok (.ireturn, 1) := by decide +kernel
theorem dX9_urgentOf_0 : decode cX9_urgentOf 0 = .ok (.aload_n 0, 1) := by decide +kernel
theorem dX9_urgentOf_1 : decode cX9_urgentOf 1 = .ok (.iload_n 1, 1) := by decide +kernel
theorem dX9_urgentOf_2 : decode cX9_urgentOf 2 = .ok (.invokevirtual 82, 3) := by decide +kernel
theorem dX9_urgentOf_5 : decode cX9_urgentOf 5 = .ok (.ifCond .eq 12, 3) := by decide +kernel
theorem dX9_urgentOf_8 : decode cX9_urgentOf 8 = .ok (.aload_n 0, 1) := by decide +kernel
theorem dX9_urgentOf_9 : decode cX9_urgentOf 9 = .ok (.getfield 27, 3) := by decide +kernel
theorem dX9_urgentOf_12 : decode cX9_urgentOf 12 = .ok (.iload_n 1, 1) := by decide +kernel
theorem dX9_urgentOf_13 : decode cX9_urgentOf 13 = .ok (.iaload, 1) := by decide +kernel
theorem dX9_urgentOf_14 : decode cX9_urgentOf 14 = .ok (.goto 4, 3) := by decide +kernel
theorem dX9_urgentOf_17 : decode cX9_urgentOf 17 = .ok (.iconst 0, 1) := by decide +kernel
theorem dX9_urgentOf_18 : decode cX9_urgentOf 18 = .ok (.ireturn, 1) := by decide +kernel
theorem dX9_wordFor_0 : decode cX9_wordFor 0 = .ok (.aload_n 0, 1) := by decide +kernel
theorem dX9_wordFor_1 : decode cX9_wordFor 1 = .ok (.iload_n 1, 1) := by decide +kernel
theorem dX9_wordFor_2 : decode cX9_wordFor 2 = .ok (.invokevirtual 86, 3) := by decide +kernel
theorem dX9_wordFor_5 : decode cX9_wordFor 5 = .ok (.ifCond .eq 25, 3) := by decide +kernel
theorem dX9_wordFor_8 : decode cX9_wordFor 8 = .ok (.aload_n 0, 1) := by decide +kernel
theorem dX9_wordFor_9 : decode cX9_wordFor 9 = .ok (.iload_n 2, 1) := by decide +kernel
theorem dX9_wordFor_10 : decode cX9_wordFor 10 = .ok (.invokevirtual 82, 3) := by decide +kernel
theorem dX9_wordFor_13 : decode cX9_wordFor 13 = .ok (.ifCond .eq 17, 3) := by decide +kernel
theorem dX9_wordFor_16 : decode cX9_wordFor 16 = .ok (.aload_n 0, 1) := by decide +kernel
theorem dX9_wordFor_17 : decode cX9_wordFor 17 = .ok (.getfield 30, 3) := by decide +kernel
theorem dX9_wordFor_20 : decode cX9_wordFor 20 = .ok (.iload_n 1, 1) := by decide +kernel
theorem dX9_wordFor_21 : decode cX9_wordFor 21 = .ok (.bipush 10, 2) := by decide +kernel
theorem dX9_wordFor_23 : decode cX9_wordFor 23 = .ok (.imul, 1) := by decide +kernel
theorem dX9_wordFor_24 : decode cX9_wordFor 24 = .ok (.iload_n 2, 1) := by decide +kernel
theorem dX9_wordFor_25 : decode cX9_wordFor 25 = .ok (.iadd, 1) := by decide +kernel
theorem dX9_wordFor_26 : decode cX9_wordFor 26 = .ok (.iaload, 1) := by decide +kernel
theorem dX9_wordFor_27 : decode cX9_wordFor 27 = .ok (.goto 4, 3) := by decide +kernel
theorem dX9_wordFor_30 : decode cX9_wordFor 30 = .ok (.iconst (-1), 1) := by decide +kernel
theorem dX9_wordFor_31 : decode cX9_wordFor 31 = .ok (.ireturn, 1) := by decide +kernel
theorem dX9_setWord_0 : decode cX9_setWord 0 = .ok (.aload_n 0, 1) := by decide +kernel
theorem dX9_setWord_1 : decode cX9_setWord 1 = .ok (.iload_n 1, 1) := by decide +kernel
theorem dX9_setWord_2 : decode cX9_setWord 2 = .ok (.invokevirtual 86, 3) := by decide +kernel
theorem dX9_setWord_5 : decode cX9_setWord 5 = .ok (.ifCond .eq 23, 3) := by decide +kernel
theorem dX9_setWord_8 : decode cX9_setWord 8 = .ok (.aload_n 0, 1) := by decide +kernel
theorem dX9_setWord_9 : decode cX9_setWord 9 = .ok (.iload_n 2, 1) := by decide +kernel
theorem dX9_setWord_10 : decode cX9_setWord 10 = .ok (.invokevirtual 82, 3) := by decide +kernel
theorem dX9_setWord_13 : decode cX9_setWord 13 = .ok (.ifCond .eq 15, 3) := by decide +kernel
theorem dX9_setWord_16 : decode cX9_setWord 16 = .ok (.aload_n 0, 1) := by decide +kernel
theorem dX9_setWord_17 : decode cX9_setWord 17 = .ok (.getfield 30, 3) := by decide +kernel
theorem dX9_setWord_20 : decode cX9_setWord 20 = .ok (.iload_n 1, 1) := by decide +kernel
theorem dX9_setWord_21 : decode cX9_setWord 21 = .ok (.bipush 10, 2) := by decide +kernel
theorem dX9_setWord_23 : decode cX9_setWord 23 = .ok (.imul, 1) := by decide +kernel
theorem dX9_setWord_24 : decode cX9_setWord 24 = .ok (.iload_n 2, 1) := by decide +kernel
theorem dX9_setWord_25 : decode cX9_setWord 25 = .ok (.iadd, 1) := by decide +kernel
theorem dX9_setWord_26 : decode cX9_setWord 26 = .ok (.iload_n 3, 1) := by decide +kernel
theorem dX9_setWord_27 : decode cX9_setWord 27 = .ok (.iastore, 1) := by decide +kernel
theorem dX9_setWord_28 : decode cX9_setWord 28 = .ok (.return_, 1) := by decide +kernel
theorem dX9_wordsOf_0 : decode cX9_wordsOf 0 = .ok (.iconst 0, 1) := by decide +kernel
theorem dX9_wordsOf_1 : decode cX9_wordsOf 1 = .ok (.istore_n 2, 1) := by decide +kernel
theorem dX9_wordsOf_2 : decode cX9_wordsOf 2 = .ok (.iconst 0, 1) := by decide +kernel
theorem dX9_wordsOf_3 : decode cX9_wordsOf 3 = .ok (.istore_n 3, 1) := by decide +kernel
theorem dX9_wordsOf_4 : decode cX9_wordsOf 4 = .ok (.iload_n 3, 1) := by decide +kernel
theorem dX9_wordsOf_5 : decode cX9_wordsOf 5 = .ok (.aload_n 0, 1) := by decide +kernel
theorem dX9_wordsOf_6 : decode cX9_wordsOf 6 = .ok (.getfield 54, 3) := by decide +kernel
theorem dX9_wordsOf_9 : decode cX9_wordsOf 9 = .ok (.if_icmp .ge 22, 3) := by decide +kernel
theorem dX9_wordsOf_12 : decode cX9_wordsOf 12 = .ok (.aload_n 0, 1) := by decide +kernel
theorem dX9_wordsOf_13 : decode cX9_wordsOf 13 = .ok (.iload_n 1, 1) := by decide +kernel
theorem dX9_wordsOf_14 : decode cX9_wordsOf 14 = .ok (.iload_n 3, 1) := by decide +kernel
theorem dX9_wordsOf_15 : decode cX9_wordsOf 15 = .ok (.invokevirtual 89, 3) := by decide +kernel
theorem dX9_wordsOf_18 : decode cX9_wordsOf 18 = .ok (.iconst (-1), 1) := by decide +kernel
theorem dX9_wordsOf_19 : decode cX9_wordsOf 19 = .ok (.if_icmp .eq 6, 3) := by decide +kernel
theorem dX9_wordsOf_22 : decode cX9_wordsOf 22 = .ok (.iinc 2 1, 3) := by decide +kernel
theorem dX9_wordsOf_25 : decode cX9_wordsOf 25 = .ok (.iinc 3 1, 3) := by decide +kernel
theorem dX9_wordsOf_28 : decode cX9_wordsOf 28 = .ok (.goto (-24), 3) := by decide +kernel
theorem dX9_wordsOf_31 : decode cX9_wordsOf 31 = .ok (.iload_n 2, 1) := by decide +kernel
theorem dX9_wordsOf_32 : decode cX9_wordsOf 32 = .ok (.ireturn, 1) := by decide +kernel
theorem dX9_wordsOfAll_0 : decode cX9_wordsOfAll 0 = .ok (.iconst 0, 1) := by decide +kernel
theorem dX9_wordsOfAll_1 : decode cX9_wordsOfAll 1 = .ok (.istore_n 1, 1) := by decide +kernel
theorem dX9_wordsOfAll_2 : decode cX9_wordsOfAll 2 = .ok (.iconst 0, 1) := by decide +kernel
theorem dX9_wordsOfAll_3 : decode cX9_wordsOfAll 3 = .ok (.istore_n 2, 1) := by decide +kernel
theorem dX9_wordsOfAll_4 : decode cX9_wordsOfAll 4 = .ok (.iload_n 2, 1) := by decide +kernel
theorem dX9_wordsOfAll_5 : decode cX9_wordsOfAll 5 = .ok (.aload_n 0, 1) := by decide +kernel
theorem dX9_wordsOfAll_6 : decode cX9_wordsOfAll 6 = .ok (.getfield 50, 3) := by decide +kernel
theorem dX9_wordsOfAll_9 : decode cX9_wordsOfAll 9 = .ok (.if_icmp .ge 17, 3) := by decide +kernel
theorem dX9_wordsOfAll_12 : decode cX9_wordsOfAll 12 = .ok (.iload_n 1, 1) := by decide +kernel
theorem dX9_wordsOfAll_13 : decode cX9_wordsOfAll 13 = .ok (.aload_n 0, 1) := by decide +kernel
theorem dX9_wordsOfAll_14 : decode cX9_wordsOfAll 14 = .ok (.iload_n 2, 1) := by decide +kernel
theorem dX9_wordsOfAll_15 : decode cX9_wordsOfAll 15 = .ok (.invokevirtual 93, 3) := by decide +kernel
theorem dX9_wordsOfAll_18 : decode cX9_wordsOfAll 18 = .ok (.iadd, 1) := by decide +kernel
theorem dX9_wordsOfAll_19 : decode cX9_wordsOfAll 19 = .ok (.istore_n 1, 1) := by decide +kernel
theorem dX9_wordsOfAll_20 : decode cX9_wordsOfAll 20 = .ok (.iinc 2 1, 3) := by decide +kernel
theorem dX9_wordsOfAll_23 : decode cX9_wordsOfAll 23 = .ok (.goto (-19), 3) := by decide +kernel
theorem dX9_wordsOfAll_26 : decode cX9_wordsOfAll 26 = .ok (.iload_n 1, 1) := by decide +kernel
theorem dX9_wordsOfAll_27 : decode cX9_wordsOfAll 27 = .ok (.ireturn, 1) := by decide +kernel
theorem dX9_minutesOfAll_0 : decode cX9_minutesOfAll 0 = .ok (.iconst 0, 1) := by decide +kernel
theorem dX9_minutesOfAll_1 : decode cX9_minutesOfAll 1 = .ok (.istore_n 1, 1) := by decide +kernel
theorem dX9_minutesOfAll_2 : decode cX9_minutesOfAll 2 = .ok (.iconst 0, 1) := by decide +kernel
theorem dX9_minutesOfAll_3 : decode cX9_minutesOfAll 3 = .ok (.istore_n 2, 1) := by decide +kernel
theorem dX9_minutesOfAll_4 : decode cX9_minutesOfAll 4 = .ok (.iload_n 2, 1) := by decide +kernel
theorem dX9_minutesOfAll_5 : decode cX9_minutesOfAll 5 = .ok (.aload_n 0, 1) := by decide +kernel
theorem dX9_minutesOfAll_6 : decode cX9_minutesOfAll 6 = .ok (.getfield 50, 3) := by decide +kernel
theorem dX9_minutesOfAll_9 : decode cX9_minutesOfAll 9 = .ok (.if_icmp .ge 37, 3) := by decide +kernel
theorem dX9_minutesOfAll_12 : decode cX9_minutesOfAll 12 = .ok (.iconst 0, 1) := by decide +kernel
theorem dX9_minutesOfAll_13 : decode cX9_minutesOfAll 13 = .ok (.istore_n 3, 1) := by decide +kernel
theorem dX9_minutesOfAll_14 : decode cX9_minutesOfAll 14 = .ok (.iload_n 3, 1) := by decide +kernel
theorem dX9_minutesOfAll_15 : decode cX9_minutesOfAll 15 = .ok (.aload_n 0, 1) := by decide +kernel
theorem dX9_minutesOfAll_16 : decode cX9_minutesOfAll 16 = .ok (.getfield 54, 3) := by decide +kernel
theorem dX9_minutesOfAll_19 : decode cX9_minutesOfAll 19 = .ok (.if_icmp .ge 21, 3) := by decide +kernel
theorem dX9_minutesOfAll_22 : decode cX9_minutesOfAll 22 = .ok (.iload_n 1, 1) := by decide +kernel
theorem dX9_minutesOfAll_23 : decode cX9_minutesOfAll 23 = .ok (.aload_n 0, 1) := by decide +kernel
theorem dX9_minutesOfAll_24 : decode cX9_minutesOfAll 24 = .ok (.iload_n 2, 1) := by decide +kernel
theorem dX9_minutesOfAll_25 : decode cX9_minutesOfAll 25 = .ok (.iload_n 3, 1) := by decide +kernel
theorem dX9_minutesOfAll_26 : decode cX9_minutesOfAll 26 = .ok (.invokevirtual 89, 3) := by decide +kernel
theorem dX9_minutesOfAll_29 : decode cX9_minutesOfAll 29 = .ok (.invokestatic 97, 3) := by decide +kernel
theorem dX9_minutesOfAll_32 : decode cX9_minutesOfAll 32 = .ok (.iadd, 1) := by decide +kernel
theorem dX9_minutesOfAll_33 : decode cX9_minutesOfAll 33 = .ok (.istore_n 1, 1) := by decide +kernel
theorem dX9_minutesOfAll_34 : decode cX9_minutesOfAll 34 = .ok (.iinc 3 1, 3) := by decide +kernel
theorem dX9_minutesOfAll_37 : decode cX9_minutesOfAll 37 = .ok (.goto (-23), 3) := by decide +kernel
theorem dX9_minutesOfAll_40 : decode cX9_minutesOfAll 40 = .ok (.iinc 2 1, 3) := by decide +kernel
theorem dX9_minutesOfAll_43 : decode cX9_minutesOfAll 43 = .ok (.goto (-39), 3) := by decide +kernel
theorem dX9_minutesOfAll_46 : decode cX9_minutesOfAll 46 = .ok (.iload_n 1, 1) := by decide +kernel
theorem dX9_minutesOfAll_47 : decode cX9_minutesOfAll 47 = .ok (.ireturn, 1) := by decide +kernel
theorem dX9_coinsOfAll_0 : decode cX9_coinsOfAll 0 = .ok (.iconst 0, 1) := by decide +kernel
theorem dX9_coinsOfAll_1 : decode cX9_coinsOfAll 1 = .ok (.istore_n 1, 1) := by decide +kernel
theorem dX9_coinsOfAll_2 : decode cX9_coinsOfAll 2 = .ok (.iconst 0, 1) := by decide +kernel
theorem dX9_coinsOfAll_3 : decode cX9_coinsOfAll 3 = .ok (.istore_n 2, 1) := by decide +kernel
theorem dX9_coinsOfAll_4 : decode cX9_coinsOfAll 4 = .ok (.iload_n 2, 1) := by decide +kernel
theorem dX9_coinsOfAll_5 : decode cX9_coinsOfAll 5 = .ok (.aload_n 0, 1) := by decide +kernel
theorem dX9_coinsOfAll_6 : decode cX9_coinsOfAll 6 = .ok (.getfield 50, 3) := by decide +kernel
theorem dX9_coinsOfAll_9 : decode cX9_coinsOfAll 9 = .ok (.if_icmp .ge 24, 3) := by decide +kernel
theorem dX9_coinsOfAll_12 : decode cX9_coinsOfAll 12 = .ok (.iload_n 2, 1) := by decide +kernel
theorem dX9_coinsOfAll_13 : decode cX9_coinsOfAll 13 = .ok (.bipush 8, 2) := by decide +kernel
theorem dX9_coinsOfAll_15 : decode cX9_coinsOfAll 15 = .ok (.if_icmp .ge 18, 3) := by decide +kernel
theorem dX9_coinsOfAll_18 : decode cX9_coinsOfAll 18 = .ok (.iload_n 1, 1) := by decide +kernel
theorem dX9_coinsOfAll_19 : decode cX9_coinsOfAll 19 = .ok (.aload_n 0, 1) := by decide +kernel
theorem dX9_coinsOfAll_20 : decode cX9_coinsOfAll 20 = .ok (.getfield 21, 3) := by decide +kernel
theorem dX9_coinsOfAll_23 : decode cX9_coinsOfAll 23 = .ok (.iload_n 2, 1) := by decide +kernel
theorem dX9_coinsOfAll_24 : decode cX9_coinsOfAll 24 = .ok (.iaload, 1) := by decide +kernel
theorem dX9_coinsOfAll_25 : decode cX9_coinsOfAll 25 = .ok (.iadd, 1) := by decide +kernel
theorem dX9_coinsOfAll_26 : decode cX9_coinsOfAll 26 = .ok (.istore_n 1, 1) := by decide +kernel
theorem dX9_coinsOfAll_27 : decode cX9_coinsOfAll 27 = .ok (.iinc 2 1, 3) := by decide +kernel
theorem dX9_coinsOfAll_30 : decode cX9_coinsOfAll 30 = .ok (.goto (-26), 3) := by decide +kernel
theorem dX9_coinsOfAll_33 : decode cX9_coinsOfAll 33 = .ok (.iload_n 1, 1) := by decide +kernel
theorem dX9_coinsOfAll_34 : decode cX9_coinsOfAll 34 = .ok (.ireturn, 1) := by decide +kernel
theorem dX9_farFrom_0 : decode cX9_farFrom 0 = .ok (.aload_n 0, 1) := by decide +kernel
theorem dX9_farFrom_1 : decode cX9_farFrom 1 = .ok (.iload_n 1, 1) := by decide +kernel
theorem dX9_farFrom_2 : decode cX9_farFrom 2 = .ok (.invokevirtual 86, 3) := by decide +kernel
theorem dX9_farFrom_5 : decode cX9_farFrom 5 = .ok (.ifCond .eq 11, 3) := by decide +kernel
theorem dX9_farFrom_8 : decode cX9_farFrom 8 = .ok (.aload_n 0, 1) := by decide +kernel
theorem dX9_farFrom_9 : decode cX9_farFrom 9 = .ok (.iload_n 2, 1) := by decide +kernel
theorem dX9_farFrom_10 : decode cX9_farFrom 10 = .ok (.invokevirtual 86, 3) := by decide +kernel
theorem dX9_farFrom_13 : decode cX9_farFrom 13 = .ok (.ifCond .ne 5, 3) := by decide +kernel
theorem dX9_farFrom_16 : decode cX9_farFrom 16 = .ok (.iconst 0, 1) := by decide +kernel
theorem dX9_farFrom_17 : decode cX9_farFrom 17 = .ok (.ireturn, 1) := by decide +kernel
theorem dX9_farFrom_18 : decode cX9_farFrom 18 = .ok (.aload_n 0, 1) := by decide +kernel
theorem dX9_farFrom_19 : decode cX9_farFrom 19 = .ok (.getfield 9, 3) := by decide +kernel
theorem dX9_farFrom_22 : decode cX9_farFrom 22 = .ok (.iload_n 2, 1) := by decide +kernel
theorem dX9_farFrom_23 : decode cX9_farFrom 23 = .ok (.iaload, 1) := by decide +kernel
theorem dX9_farFrom_24 : decode cX9_farFrom 24 = .ok (.aload_n 0, 1) := by decide +kernel
theorem dX9_farFrom_25 : decode cX9_farFrom 25 = .ok (.getfield 63, 3) := by decide +kernel
theorem dX9_farFrom_28 : decode cX9_farFrom 28 = .ok (.iadd, 1) := by decide +kernel
theorem dX9_farFrom_29 : decode cX9_farFrom 29 = .ok (.aload_n 0, 1) := by decide +kernel
theorem dX9_farFrom_30 : decode cX9_farFrom 30 = .ok (.getfield 9, 3) := by decide +kernel
theorem dX9_farFrom_33 : decode cX9_farFrom 33 = .ok (.iload_n 1, 1) := by decide +kernel
theorem dX9_farFrom_34 : decode cX9_farFrom 34 = .ok (.iaload, 1) := by decide +kernel
theorem dX9_farFrom_35 : decode cX9_farFrom 35 = .ok (.isub, 1) := by decide +kernel
theorem dX9_farFrom_36 : decode cX9_farFrom 36 = .ok (.invokestatic 100, 3) := by decide +kernel
theorem dX9_farFrom_39 : decode cX9_farFrom 39 = .ok (.aload_n 0, 1) := by decide +kernel
theorem dX9_farFrom_40 : decode cX9_farFrom 40 = .ok (.getfield 15, 3) := by decide +kernel
theorem dX9_farFrom_43 : decode cX9_farFrom 43 = .ok (.iload_n 2, 1) := by decide +kernel
theorem dX9_farFrom_44 : decode cX9_farFrom 44 = .ok (.iaload, 1) := by decide +kernel
theorem dX9_farFrom_45 : decode cX9_farFrom 45 = .ok (.aload_n 0, 1) := by decide +kernel
theorem dX9_farFrom_46 : decode cX9_farFrom 46 = .ok (.getfield 66, 3) := by decide +kernel
theorem dX9_farFrom_49 : decode cX9_farFrom 49 = .ok (.iadd, 1) := by decide +kernel
theorem dX9_farFrom_50 : decode cX9_farFrom 50 = .ok (.aload_n 0, 1) := by decide +kernel
theorem dX9_farFrom_51 : decode cX9_farFrom 51 = .ok (.getfield 15, 3) := by decide +kernel
theorem dX9_farFrom_54 : decode cX9_farFrom 54 = .ok (.iload_n 1, 1) := by decide +kernel
theorem dX9_farFrom_55 : decode cX9_farFrom 55 = .ok (.iaload, 1) := by decide +kernel
theorem dX9_farFrom_56 : decode cX9_farFrom 56 = .ok (.isub, 1) := by decide +kernel
theorem dX9_farFrom_57 : decode cX9_farFrom 57 = .ok (.invokestatic 100, 3) := by decide +kernel
theorem dX9_farFrom_60 : decode cX9_farFrom 60 = .ok (.iadd, 1) := by decide +kernel
theorem dX9_farFrom_61 : decode cX9_farFrom 61 = .ok (.ireturn, 1) := by decide +kernel
theorem dX9_measureWays_0 : decode cX9_measureWays 0 = .ok (.iconst 0, 1) := by decide +kernel
theorem dX9_measureWays_1 : decode cX9_measureWays 1 = .ok (.istore_n 1, 1) := by decide +kernel
theorem dX9_measureWays_2 : decode cX9_measureWays 2 = .ok (.iload_n 1, 1) := by decide +kernel
theorem dX9_measureWays_3 : decode cX9_measureWays 3 = .ok (.aload_n 0, 1) := by decide +kernel
theorem dX9_measureWays_4 : decode cX9_measureWays 4 = .ok (.getfield 50, 3) := by decide +kernel
theorem dX9_measureWays_7 : decode cX9_measureWays 7 = .ok (.if_icmp .ge 101, 3) := by decide +kernel
theorem dX9_measureWays_10 : decode cX9_measureWays 10 = .ok (.iload_n 1, 1) := by decide +kernel
theorem dX9_measureWays_11 : decode cX9_measureWays 11 = .ok (.bipush 8, 2) := by decide +kernel
theorem dX9_measureWays_13 : decode cX9_measureWays 13 = .ok (.if_icmp .ge 95, 3) := by decide +kernel
theorem dX9_measureWays_16 : decode cX9_measureWays 16 = .ok (.iconst 0, 1) := by decide +kernel
theorem dX9_measureWays_17 : decode cX9_measureWays 17 = .ok (.istore_n 2, 1) := by decide +kernel
theorem dX9_measureWays_18 : decode cX9_measureWays 18 = .ok (.iload_n 2, 1) := by decide +kernel
theorem dX9_measureWays_19 : decode cX9_measureWays 19 = .ok (.aload_n 0, 1) := by decide +kernel
theorem dX9_measureWays_20 : decode cX9_measureWays 20 = .ok (.getfield 50, 3) := by decide +kernel
theorem dX9_measureWays_23 : decode cX9_measureWays 23 = .ok (.if_icmp .ge 79, 3) := by decide +kernel
theorem dX9_measureWays_26 : decode cX9_measureWays 26 = .ok (.iload_n 2, 1) := by decide +kernel
theorem dX9_measureWays_27 : decode cX9_measureWays 27 = .ok (.bipush 8, 2) := by decide +kernel
theorem dX9_measureWays_29 : decode cX9_measureWays 29 = .ok (.if_icmp .ge 73, 3) := by decide +kernel
theorem dX9_measureWays_32 : decode cX9_measureWays 32 = .ok (.aload_n 0, 1) := by decide +kernel
theorem dX9_measureWays_33 : decode cX9_measureWays 33 = .ok (.getfield 18, 3) := by decide +kernel
theorem dX9_measureWays_36 : decode cX9_measureWays 36 = .ok (.iload_n 2, 1) := by decide +kernel
theorem dX9_measureWays_37 : decode cX9_measureWays 37 = .ok (.iaload, 1) := by decide +kernel
theorem dX9_measureWays_38 : decode cX9_measureWays 38 = .ok (.aload_n 0, 1) := by decide +kernel
theorem dX9_measureWays_39 : decode cX9_measureWays 39 = .ok (.iload_n 1, 1) := by decide +kernel
theorem dX9_measureWays_40 : decode cX9_measureWays 40 = .ok (.iload_n 2, 1) := by decide +kernel
theorem dX9_measureWays_41 : decode cX9_measureWays 41 = .ok (.invokevirtual 105, 3) := by decide +kernel
theorem dX9_measureWays_44 : decode cX9_measureWays 44 = .ok (.isub, 1) := by decide +kernel
theorem dX9_measureWays_45 : decode cX9_measureWays 45 = .ok (.istore_n 3, 1) := by decide +kernel
theorem dX9_measureWays_46 : decode cX9_measureWays 46 = .ok (.iload_n 1, 1) := by decide +kernel
theorem dX9_measureWays_47 : decode cX9_measureWays 47 = .ok (.iload_n 2, 1) := by decide +kernel
theorem dX9_measureWays_48 : decode cX9_measureWays 48 = .ok (.if_icmp .eq 20, 3) := by decide +kernel
theorem dX9_measureWays_51 : decode cX9_measureWays 51 = .ok (.aload_n 0, 1) := by decide +kernel
theorem dX9_measureWays_52 : decode cX9_measureWays 52 = .ok (.getfield 24, 3) := by decide +kernel
theorem dX9_measureWays_55 : decode cX9_measureWays 55 = .ok (.iload_n 1, 1) := by decide +kernel
theorem dX9_measureWays_56 : decode cX9_measureWays 56 = .ok (.iaload, 1) := by decide +kernel
theorem dX9_measureWays_57 : decode cX9_measureWays 57 = .ok (.ifCond .ne 11, 3) := by decide +kernel
theorem dX9_measureWays_60 : decode cX9_measureWays 60 = .ok (.iload_n 3, 1) := by decide +kernel
theorem dX9_measureWays_61 : decode cX9_measureWays 61 = .ok (.ifCond .lt 7, 3) := by decide +kernel
theorem dX9_measureWays_64 : decode cX9_measureWays 64 = .ok (.iconst 1, 1) := by decide +kernel
theorem dX9_measureWays_65 : decode cX9_measureWays 65 = .ok (.goto 4, 3) := by decide +kernel
theorem dX9_measureWays_68 : decode cX9_measureWays 68 = .ok (.iconst 0, 1) := by decide +kernel
theorem dX9_measureWays_69 : decode cX9_measureWays 69 = .ok (.istore 4, 2) := by decide +kernel
theorem dX9_measureWays_71 : decode cX9_measureWays 71 = .ok (.aload_n 0, 1) := by decide +kernel
theorem dX9_measureWays_72 : decode cX9_measureWays 72 = .ok (.getfield 33, 3) := by decide +kernel
theorem dX9_measureWays_75 : decode cX9_measureWays 75 = .ok (.iload_n 1, 1) := by decide +kernel
theorem dX9_measureWays_76 : decode cX9_measureWays 76 = .ok (.bipush 8, 2) := by decide +kernel
theorem dX9_measureWays_78 : decode cX9_measureWays 78 = .ok (.imul, 1) := by decide +kernel
theorem dX9_measureWays_79 : decode cX9_measureWays 79 = .ok (.iload_n 2, 1) := by decide +kernel
theorem dX9_measureWays_80 : decode cX9_measureWays 80 = .ok (.iadd, 1) := by decide +kernel
theorem dX9_measureWays_81 : decode cX9_measureWays 81 = .ok (.iload 4, 2) := by decide +kernel
theorem dX9_measureWays_83 : decode cX9_measureWays 83 = .ok (.ifCond .eq 11, 3) := by decide +kernel
theorem dX9_measureWays_86 : decode cX9_measureWays 86 = .ok (.iload_n 3, 1) := by decide +kernel
theorem dX9_measureWays_87 : decode cX9_measureWays 87 = .ok (.iconst 3, 1) := by decide +kernel
theorem dX9_measureWays_88 : decode cX9_measureWays 88 = .ok (.idiv, 1) := by decide +kernel
theorem dX9_measureWays_89 : decode cX9_measureWays 89 = .ok (.iconst 1, 1) := by decide +kernel
theorem dX9_measureWays_90 : decode cX9_measureWays 90 = .ok (.iadd, 1) := by decide +kernel
theorem dX9_measureWays_91 : decode cX9_measureWays 91 = .ok (.goto 4, 3) := by decide +kernel
theorem dX9_measureWays_94 : decode cX9_measureWays 94 = .ok (.iconst 0, 1) := by decide +kernel
theorem dX9_measureWays_95 : decode cX9_measureWays 95 = .ok (.iastore, 1) := by decide +kernel
theorem dX9_measureWays_96 : decode cX9_measureWays 96 = .ok (.iinc 2 1, 3) := by decide +kernel
theorem dX9_measureWays_99 : decode cX9_measureWays 99 = .ok (.goto (-81), 3) := by decide +kernel
theorem dX9_measureWays_102 : decode cX9_measureWays 102 = .ok (.iinc 1 1, 3) := by decide +kernel
theorem dX9_measureWays_105 : decode cX9_measureWays 105 = .ok (.goto (-103), 3) := by decide +kernel
theorem dX9_measureWays_108 : decode cX9_measureWays 108 = .ok (.return_, 1) := by decide +kernel
theorem dX9_clearOf_0 : decode cX9_clearOf 0 = .ok (.aload_n 0, 1) := by decide +kernel
theorem dX9_clearOf_1 : decode cX9_clearOf 1 = .ok (.iload_n 1, 1) := by decide +kernel
theorem dX9_clearOf_2 : decode cX9_clearOf 2 = .ok (.invokevirtual 86, 3) := by decide +kernel
theorem dX9_clearOf_5 : decode cX9_clearOf 5 = .ok (.ifCond .eq 25, 3) := by decide +kernel
theorem dX9_clearOf_8 : decode cX9_clearOf 8 = .ok (.aload_n 0, 1) := by decide +kernel
theorem dX9_clearOf_9 : decode cX9_clearOf 9 = .ok (.iload_n 2, 1) := by decide +kernel
theorem dX9_clearOf_10 : decode cX9_clearOf 10 = .ok (.invokevirtual 86, 3) := by decide +kernel
theorem dX9_clearOf_13 : decode cX9_clearOf 13 = .ok (.ifCond .eq 17, 3) := by decide +kernel
theorem dX9_clearOf_16 : decode cX9_clearOf 16 = .ok (.aload_n 0, 1) := by decide +kernel
theorem dX9_clearOf_17 : decode cX9_clearOf 17 = .ok (.getfield 33, 3) := by decide +kernel
theorem dX9_clearOf_20 : decode cX9_clearOf 20 = .ok (.iload_n 1, 1) := by decide +kernel
theorem dX9_clearOf_21 : decode cX9_clearOf 21 = .ok (.bipush 8, 2) := by decide +kernel
theorem dX9_clearOf_23 : decode cX9_clearOf 23 = .ok (.imul, 1) := by decide +kernel
theorem dX9_clearOf_24 : decode cX9_clearOf 24 = .ok (.iload_n 2, 1) := by decide +kernel
theorem dX9_clearOf_25 : decode cX9_clearOf 25 = .ok (.iadd, 1) := by decide +kernel
theorem dX9_clearOf_26 : decode cX9_clearOf 26 = .ok (.iaload, 1) := by decide +kernel
theorem dX9_clearOf_27 : decode cX9_clearOf 27 = .ok (.goto 4, 3) := by decide +kernel
theorem dX9_clearOf_30 : decode cX9_clearOf 30 = .ok (.iconst 0, 1) := by decide +kernel
theorem dX9_clearOf_31 : decode cX9_clearOf 31 = .ok (.ireturn, 1) := by decide +kernel
theorem dX9_isHarming_0 : decode cX9_isHarming 0 = .ok (.iload_n 1, 1) := by decide +kernel
theorem dX9_isHarming_1 : decode cX9_isHarming 1 = .ok (.iload_n 2, 1) := by decide +kernel
theorem dX9_isHarming_2 : decode cX9_isHarming 2 = .ok (.if_icmp .ne 5, 3) := by decide +kernel
theorem dX9_isHarming_5 : decode cX9_isHarming 5 = .ok (.iconst 0, 1) := by decide +kernel
theorem dX9_isHarming_6 : decode cX9_isHarming 6 = .ok (.ireturn, 1) := by decide +kernel
theorem dX9_isHarming_7 : decode cX9_isHarming 7 = .ok (.aload_n 0, 1) := by decide +kernel
theorem dX9_isHarming_8 : decode cX9_isHarming 8 = .ok (.iload_n 1, 1) := by decide +kernel
theorem dX9_isHarming_9 : decode cX9_isHarming 9 = .ok (.iload_n 2, 1) := by decide +kernel
theorem dX9_isHarming_10 : decode cX9_isHarming 10 = .ok (.invokevirtual 108, 3) := by decide +kernel
theorem dX9_isHarming_13 : decode cX9_isHarming 13 = .ok (.ifCond .gt 12, 3) := by decide +kernel
theorem dX9_isHarming_16 : decode cX9_isHarming 16 = .ok (.aload_n 0, 1) := by decide +kernel
theorem dX9_isHarming_17 : decode cX9_isHarming 17 = .ok (.iload_n 2, 1) := by decide +kernel
theorem dX9_isHarming_18 : decode cX9_isHarming 18 = .ok (.iload_n 1, 1) := by decide +kernel
theorem dX9_isHarming_19 : decode cX9_isHarming 19 = .ok (.invokevirtual 108, 3) := by decide +kernel
theorem dX9_isHarming_22 : decode cX9_isHarming 22 = .ok (.ifCond .le 7, 3) := by decide +kernel
theorem dX9_isHarming_25 : decode cX9_isHarming 25 = .ok (.iconst 1, 1) := by decide +kernel
theorem dX9_isHarming_26 : decode cX9_isHarming 26 = .ok (.goto 4, 3) := by decide +kernel
theorem dX9_isHarming_29 : decode cX9_isHarming 29 = .ok (.iconst 0, 1) := by decide +kernel
theorem dX9_isHarming_30 : decode cX9_isHarming 30 = .ok (.istore_n 3, 1) := by decide +kernel
theorem dX9_isHarming_31 : decode cX9_isHarming 31 = .ok (.iconst 0, 1) := by decide +kernel
theorem dX9_isHarming_32 : decode cX9_isHarming 32 = .ok (.istore 4, 2) := by decide +kernel
theorem dX9_isHarming_34 : decode cX9_isHarming 34 = .ok (.iload 4, 2) := by decide +kernel
theorem dX9_isHarming_36 : decode cX9_isHarming 36 = .ok (.aload_n 0, 1) := by decide +kernel
theorem dX9_isHarming_37 : decode cX9_isHarming 37 = .ok (.getfield 50, 3) := by decide +kernel
theorem dX9_isHarming_40 : decode cX9_isHarming 40 = .ok (.if_icmp .ge 39, 3) := by decide +kernel
theorem dX9_isHarming_43 : decode cX9_isHarming 43 = .ok (.iload_n 3, 1) := by decide +kernel
theorem dX9_isHarming_44 : decode cX9_isHarming 44 = .ok (.ifCond .ne 35, 3) := by decide +kernel
theorem dX9_isHarming_47 : decode cX9_isHarming 47 = .ok (.aload_n 0, 1) := by decide +kernel
theorem dX9_isHarming_48 : decode cX9_isHarming 48 = .ok (.iload 4, 2) := by decide +kernel
theorem dX9_isHarming_50 : decode cX9_isHarming 50 = .ok (.iload_n 1, 1) := by decide +kernel
theorem dX9_isHarming_51 : decode cX9_isHarming 51 = .ok (.invokevirtual 108, 3) := by decide +kernel
theorem dX9_isHarming_54 : decode cX9_isHarming 54 = .ok (.ifCond .le 17, 3) := by decide +kernel
theorem dX9_isHarming_57 : decode cX9_isHarming 57 = .ok (.aload_n 0, 1) := by decide +kernel
theorem dX9_isHarming_58 : decode cX9_isHarming 58 = .ok (.iload 4, 2) := by decide +kernel
theorem dX9_isHarming_60 : decode cX9_isHarming 60 = .ok (.iload_n 2, 1) := by decide +kernel
theorem dX9_isHarming_61 : decode cX9_isHarming 61 = .ok (.invokevirtual 108, 3) := by decide +kernel
theorem dX9_isHarming_64 : decode cX9_isHarming 64 = .ok (.ifCond .le 7, 3) := by decide +kernel
theorem dX9_isHarming_67 : decode cX9_isHarming 67 = .ok (.iconst 1, 1) := by decide +kernel
theorem dX9_isHarming_68 : decode cX9_isHarming 68 = .ok (.goto 4, 3) := by decide +kernel
theorem dX9_isHarming_71 : decode cX9_isHarming 71 = .ok (.iconst 0, 1) := by decide +kernel
theorem dX9_isHarming_72 : decode cX9_isHarming 72 = .ok (.istore_n 3, 1) := by decide +kernel
theorem dX9_isHarming_73 : decode cX9_isHarming 73 = .ok (.iinc 4 1, 3) := by decide +kernel
theorem dX9_isHarming_76 : decode cX9_isHarming 76 = .ok (.goto (-42), 3) := by decide +kernel
theorem dX9_isHarming_79 : decode cX9_isHarming 79 = .ok (.iload_n 3, 1) := by decide +kernel
theorem dX9_isHarming_80 : decode cX9_isHarming 80 = .ok (.ireturn, 1) := by decide +kernel
theorem dX9_harmedBy_0 : decode cX9_harmedBy 0 = .ok (.iconst 0, 1) := by decide +kernel
theorem dX9_harmedBy_1 : decode cX9_harmedBy 1 = .ok (.istore_n 2, 1) := by decide +kernel
theorem dX9_harmedBy_2 : decode cX9_harmedBy 2 = .ok (.iconst 0, 1) := by decide +kernel
theorem dX9_harmedBy_3 : decode cX9_harmedBy 3 = .ok (.istore_n 3, 1) := by decide +kernel
theorem dX9_harmedBy_4 : decode cX9_harmedBy 4 = .ok (.iload_n 3, 1) := by decide +kernel
theorem dX9_harmedBy_5 : decode cX9_harmedBy 5 = .ok (.aload_n 0, 1) := by decide +kernel
theorem dX9_harmedBy_6 : decode cX9_harmedBy 6 = .ok (.getfield 50, 3) := by decide +kernel
theorem dX9_harmedBy_9 : decode cX9_harmedBy 9 = .ok (.if_icmp .ge 24, 3) := by decide +kernel
theorem dX9_harmedBy_12 : decode cX9_harmedBy 12 = .ok (.aload_n 0, 1) := by decide +kernel
theorem dX9_harmedBy_13 : decode cX9_harmedBy 13 = .ok (.iload_n 1, 1) := by decide +kernel
theorem dX9_harmedBy_14 : decode cX9_harmedBy 14 = .ok (.iload_n 3, 1) := by decide +kernel
theorem dX9_harmedBy_15 : decode cX9_harmedBy 15 = .ok (.invokevirtual 111, 3) := by decide +kernel
theorem dX9_harmedBy_18 : decode cX9_harmedBy 18 = .ok (.ifCond .eq 9, 3) := by decide +kernel
theorem dX9_harmedBy_21 : decode cX9_harmedBy 21 = .ok (.iload_n 2, 1) := by decide +kernel
theorem dX9_harmedBy_22 : decode cX9_harmedBy 22 = .ok (.iconst 1, 1) := by decide +kernel
theorem dX9_harmedBy_23 : decode cX9_harmedBy 23 = .ok (.iload_n 3, 1) := by decide +kernel
theorem dX9_harmedBy_24 : decode cX9_harmedBy 24 = .ok (.ishl, 1) := by decide +kernel
theorem dX9_harmedBy_25 : decode cX9_harmedBy 25 = .ok (.ior, 1) := by decide +kernel
theorem dX9_harmedBy_26 : decode cX9_harmedBy 26 = .ok (.istore_n 2, 1) := by decide +kernel
theorem dX9_harmedBy_27 : decode cX9_harmedBy 27 = .ok (.iinc 3 1, 3) := by decide +kernel
theorem dX9_harmedBy_30 : decode cX9_harmedBy 30 = .ok (.goto (-26), 3) := by decide +kernel
theorem dX9_harmedBy_33 : decode cX9_harmedBy 33 = .ok (.iload_n 2, 1) := by decide +kernel
theorem dX9_harmedBy_34 : decode cX9_harmedBy 34 = .ok (.ireturn, 1) := by decide +kernel
theorem dX9_takenFor_0 : decode cX9_takenFor 0 = .ok (.iconst 0, 1) := by decide +kernel
theorem dX9_takenFor_1 : decode cX9_takenFor 1 = .ok (.istore_n 3, 1) := by decide +kernel
theorem dX9_takenFor_2 : decode cX9_takenFor 2 = .ok (.iload_n 3, 1) := by decide +kernel
theorem dX9_takenFor_3 : decode cX9_takenFor 3 = .ok (.aload_n 0, 1) := by decide +kernel
theorem dX9_takenFor_4 : decode cX9_takenFor 4 = .ok (.getfield 54, 3) := by decide +kernel
theorem dX9_takenFor_7 : decode cX9_takenFor 7 = .ok (.if_icmp .ge 26, 3) := by decide +kernel
theorem dX9_takenFor_10 : decode cX9_takenFor 10 = .ok (.iload_n 2, 1) := by decide +kernel
theorem dX9_takenFor_11 : decode cX9_takenFor 11 = .ok (.iconst 2, 1) := by decide +kernel
theorem dX9_takenFor_12 : decode cX9_takenFor 12 = .ok (.if_icmp .lt 21, 3) := by decide +kernel
theorem dX9_takenFor_15 : decode cX9_takenFor 15 = .ok (.aload_n 0, 1) := by decide +kernel
theorem dX9_takenFor_16 : decode cX9_takenFor 16 = .ok (.iload_n 1, 1) := by decide +kernel
theorem dX9_takenFor_17 : decode cX9_takenFor 17 = .ok (.iload_n 3, 1) := by decide +kernel
theorem dX9_takenFor_18 : decode cX9_takenFor 18 = .ok (.invokevirtual 89, 3) := by decide +kernel
theorem dX9_takenFor_21 : decode cX9_takenFor 21 = .ok (.iload_n 2, 1) := by decide +kernel
theorem dX9_takenFor_22 : decode cX9_takenFor 22 = .ok (.if_icmp .ne 5, 3) := by decide +kernel
theorem dX9_takenFor_25 : decode cX9_takenFor 25 = .ok (.iload_n 3, 1) := by decide +kernel
theorem dX9_takenFor_26 : decode cX9_takenFor 26 = .ok (.ireturn, 1) := by decide +kernel
theorem dX9_takenFor_27 : decode cX9_takenFor 27 = .ok (.iinc 3 1, 3) := by decide +kernel
theorem dX9_takenFor_30 : decode cX9_takenFor 30 = .ok (.goto (-28), 3) := by decide +kernel
theorem dX9_takenFor_33 : decode cX9_takenFor 33 = .ok (.iconst (-1), 1) := by decide +kernel
theorem dX9_takenFor_34 : decode cX9_takenFor 34 = .ok (.ireturn, 1) := by decide +kernel
theorem dX9_understoodAt_0 : decode cX9_understoodAt 0 = .ok (.aload_n 0, 1) := by decide +kernel
theorem dX9_understoodAt_1 : decode cX9_understoodAt 1 = .ok (.iload_n 1, 1) := by decide +kernel
theorem dX9_understoodAt_2 : decode cX9_understoodAt 2 = .ok (.iload_n 2, 1) := by decide +kernel
theorem dX9_understoodAt_3 : decode cX9_understoodAt 3 = .ok (.invokevirtual 108, 3) := by decide +kernel
theorem dX9_understoodAt_6 : decode cX9_understoodAt 6 = .ok (.istore_n 3, 1) := by decide +kernel
theorem dX9_understoodAt_7 : decode cX9_understoodAt 7 = .ok (.iconst 0, 1) := by decide +kernel
theorem dX9_understoodAt_8 : decode cX9_understoodAt 8 = .ok (.istore 4, 2) := by decide +kernel
theorem dX9_understoodAt_10 : decode cX9_understoodAt 10 = .ok (.iconst 0, 1) := by decide +kernel
theorem dX9_understoodAt_11 : decode cX9_understoodAt 11 = .ok (.istore 5, 2) := by decide +kernel
theorem dX9_understoodAt_13 : decode cX9_understoodAt 13 = .ok (.iload 5, 2) := by decide +kernel
theorem dX9_understoodAt_15 : decode cX9_understoodAt 15 = .ok (.aload_n 0, 1) := by decide +kernel
theorem dX9_understoodAt_16 : decode cX9_understoodAt 16 = .ok (.getfield 54, 3) := by decide +kernel
theorem dX9_understoodAt_19 : decode cX9_understoodAt 19 = .ok (.if_icmp .ge 47, 3) := by decide +kernel
theorem dX9_understoodAt_22 : decode cX9_understoodAt 22 = .ok (.iload_n 3, 1) := by decide +kernel
theorem dX9_understoodAt_23 : decode cX9_understoodAt 23 = .ok (.ifCond .le 43, 3) := by decide +kernel
theorem dX9_understoodAt_26 : decode cX9_understoodAt 26 = .ok (.aload_n 0, 1) := by decide +kernel
theorem dX9_understoodAt_27 : decode cX9_understoodAt 27 = .ok (.iload_n 2, 1) := by decide +kernel
theorem dX9_understoodAt_28 : decode cX9_understoodAt 28 = .ok (.iload 5, 2) := by decide +kernel
theorem dX9_understoodAt_30 : decode cX9_understoodAt 30 = .ok (.invokevirtual 89, 3) := by decide +kernel
theorem dX9_understoodAt_33 : decode cX9_understoodAt 33 = .ok (.istore 6, 2) := by decide +kernel
theorem dX9_understoodAt_35 : decode cX9_understoodAt 35 = .ok (.iload 6, 2) := by decide +kernel
theorem dX9_understoodAt_37 : decode cX9_understoodAt 37 = .ok (.iconst (-1), 1) := by decide +kernel
theorem dX9_understoodAt_38 : decode cX9_understoodAt 38 = .ok (.if_icmp .eq 22, 3) := by decide +kernel
theorem dX9_understoodAt_41 : decode cX9_understoodAt 41 = .ok (.aload_n 0, 1) := by decide +kernel
theorem dX9_understoodAt_42 : decode cX9_understoodAt 42 = .ok (.iload_n 2, 1) := by decide +kernel
theorem dX9_understoodAt_43 : decode cX9_understoodAt 43 = .ok (.iload 6, 2) := by decide +kernel
theorem dX9_understoodAt_45 : decode cX9_understoodAt 45 = .ok (.iload_n 3, 1) := by decide +kernel
theorem dX9_understoodAt_46 : decode cX9_understoodAt 46 = .ok (.invokestatic 115, 3) := by decide +kernel
theorem dX9_understoodAt_49 : decode cX9_understoodAt 49 = .ok (.invokevirtual 118, 3) := by decide +kernel
theorem dX9_understoodAt_52 : decode cX9_understoodAt 52 = .ok (.iload 5, 2) := by decide +kernel
theorem dX9_understoodAt_54 : decode cX9_understoodAt 54 = .ok (.if_icmp .ne 6, 3) := by decide +kernel
theorem dX9_understoodAt_57 : decode cX9_understoodAt 57 = .ok (.iinc 4 1, 3) := by decide +kernel
theorem dX9_understoodAt_60 : decode cX9_understoodAt 60 = .ok (.iinc 5 1, 3) := by decide +kernel
theorem dX9_understoodAt_63 : decode cX9_understoodAt 63 = .ok (.goto (-50), 3) := by decide +kernel
theorem dX9_understoodAt_66 : decode cX9_understoodAt 66 = .ok (.iload 4, 2) := by decide +kernel
theorem dX9_understoodAt_68 : decode cX9_understoodAt 68 = .ok (.ireturn, 1) := by decide +kernel
theorem dX9_wordsOfLength_0 : decode cX9_wordsOfLength 0 = .ok (.iconst 0, 1) := by decide +kernel
theorem dX9_wordsOfLength_1 : decode cX9_wordsOfLength 1 = .ok (.istore_n 3, 1) := by decide +kernel
theorem dX9_wordsOfLength_2 : decode cX9_wordsOfLength 2 = .ok (.iconst 0, 1) := by decide +kernel
theorem dX9_wordsOfLength_3 : decode cX9_wordsOfLength 3 = .ok (.istore 4, 2) := by decide +kernel
theorem dX9_wordsOfLength_5 : decode cX9_wordsOfLength 5 = .ok (.iload 4, 2) := by decide +kernel
theorem dX9_wordsOfLength_7 : decode cX9_wordsOfLength 7 = .ok (.aload_n 0, 1) := by decide +kernel
theorem dX9_wordsOfLength_8 : decode cX9_wordsOfLength 8 = .ok (.getfield 54, 3) := by decide +kernel
theorem dX9_wordsOfLength_11 : decode cX9_wordsOfLength 11 = .ok (.if_icmp .ge 42, 3) := by decide +kernel
theorem dX9_wordsOfLength_14 : decode cX9_wordsOfLength 14 = .ok (.aload_n 0, 1) := by decide +kernel
theorem dX9_wordsOfLength_15 : decode cX9_wordsOfLength 15 = .ok (.iload_n 1, 1) := by decide +kernel
theorem dX9_wordsOfLength_16 : decode cX9_wordsOfLength 16 = .ok (.iload 4, 2) := by decide +kernel
theorem dX9_wordsOfLength_18 : decode cX9_wordsOfLength 18 = .ok (.invokevirtual 89, 3) := by decide +kernel
theorem dX9_wordsOfLength_21 : decode cX9_wordsOfLength 21 = .ok (.istore 5, 2) := by decide +kernel
theorem dX9_wordsOfLength_23 : decode cX9_wordsOfLength 23 = .ok (.iload 5, 2) := by decide +kernel
theorem dX9_wordsOfLength_25 : decode cX9_wordsOfLength 25 = .ok (.invokestatic 121, 3) := by decide +kernel
theorem dX9_wordsOfLength_28 : decode cX9_wordsOfLength 28 = .ok (.iload_n 2, 1) := by decide +kernel
theorem dX9_wordsOfLength_29 : decode cX9_wordsOfLength 29 = .ok (.if_icmp .ne 18, 3) := by decide +kernel
theorem dX9_wordsOfLength_32 : decode cX9_wordsOfLength 32 = .ok (.aload_n 0, 1) := by decide +kernel
theorem dX9_wordsOfLength_33 : decode cX9_wordsOfLength 33 = .ok (.iload_n 1, 1) := by decide +kernel
theorem dX9_wordsOfLength_34 : decode cX9_wordsOfLength 34 = .ok (.iload 5, 2) := by decide +kernel
theorem dX9_wordsOfLength_36 : decode cX9_wordsOfLength 36 = .ok (.invokevirtual 118, 3) := by decide +kernel
theorem dX9_wordsOfLength_39 : decode cX9_wordsOfLength 39 = .ok (.iload 4, 2) := by decide +kernel
theorem dX9_wordsOfLength_41 : decode cX9_wordsOfLength 41 = .ok (.if_icmp .ne 6, 3) := by decide +kernel
theorem dX9_wordsOfLength_44 : decode cX9_wordsOfLength 44 = .ok (.iinc 3 1, 3) := by decide +kernel
theorem dX9_wordsOfLength_47 : decode cX9_wordsOfLength 47 = .ok (.iinc 4 1, 3) := by decide +kernel
theorem dX9_wordsOfLength_50 : decode cX9_wordsOfLength 50 = .ok (.goto (-45), 3) := by decide +kernel
theorem dX9_wordsOfLength_53 : decode cX9_wordsOfLength 53 = .ok (.iload_n 3, 1) := by decide +kernel
theorem dX9_wordsOfLength_54 : decode cX9_wordsOfLength 54 = .ok (.ireturn, 1) := by decide +kernel
theorem dX9_clashesOf_0 : decode cX9_clashesOf 0 = .ok (.iconst 0, 1) := by decide +kernel
theorem dX9_clashesOf_1 : decode cX9_clashesOf 1 = .ok (.istore_n 2, 1) := by decide +kernel
theorem dX9_clashesOf_2 : decode cX9_clashesOf 2 = .ok (.iconst 0, 1) := by decide +kernel
theorem dX9_clashesOf_3 : decode cX9_clashesOf 3 = .ok (.istore_n 3, 1) := by decide +kernel
theorem dX9_clashesOf_4 : decode cX9_clashesOf 4 = .ok (.iload_n 3, 1) := by decide +kernel
theorem dX9_clashesOf_5 : decode cX9_clashesOf 5 = .ok (.aload_n 0, 1) := by decide +kernel
theorem dX9_clashesOf_6 : decode cX9_clashesOf 6 = .ok (.getfield 54, 3) := by decide +kernel
theorem dX9_clashesOf_9 : decode cX9_clashesOf 9 = .ok (.if_icmp .ge 66, 3) := by decide +kernel
theorem dX9_clashesOf_12 : decode cX9_clashesOf 12 = .ok (.aload_n 0, 1) := by decide +kernel
theorem dX9_clashesOf_13 : decode cX9_clashesOf 13 = .ok (.iload_n 1, 1) := by decide +kernel
theorem dX9_clashesOf_14 : decode cX9_clashesOf 14 = .ok (.iload_n 3, 1) := by decide +kernel
theorem dX9_clashesOf_15 : decode cX9_clashesOf 15 = .ok (.invokevirtual 89, 3) := by decide +kernel
theorem dX9_clashesOf_18 : decode cX9_clashesOf 18 = .ok (.istore 4, 2) := by decide +kernel
theorem dX9_clashesOf_20 : decode cX9_clashesOf 20 = .ok (.iconst 0, 1) := by decide +kernel
theorem dX9_clashesOf_21 : decode cX9_clashesOf 21 = .ok (.istore 5, 2) := by decide +kernel
theorem dX9_clashesOf_23 : decode cX9_clashesOf 23 = .ok (.iload 5, 2) := by decide +kernel
theorem dX9_clashesOf_25 : decode cX9_clashesOf 25 = .ok (.iload_n 3, 1) := by decide +kernel
theorem dX9_clashesOf_26 : decode cX9_clashesOf 26 = .ok (.if_icmp .ge 43, 3) := by decide +kernel
theorem dX9_clashesOf_29 : decode cX9_clashesOf 29 = .ok (.iload 4, 2) := by decide +kernel
theorem dX9_clashesOf_31 : decode cX9_clashesOf 31 = .ok (.iconst (-1), 1) := by decide +kernel
theorem dX9_clashesOf_32 : decode cX9_clashesOf 32 = .ok (.if_icmp .eq 37, 3) := by decide +kernel
theorem dX9_clashesOf_35 : decode cX9_clashesOf 35 = .ok (.aload_n 0, 1) := by decide +kernel
theorem dX9_clashesOf_36 : decode cX9_clashesOf 36 = .ok (.iload_n 1, 1) := by decide +kernel
theorem dX9_clashesOf_37 : decode cX9_clashesOf 37 = .ok (.iload 5, 2) := by decide +kernel
theorem dX9_clashesOf_39 : decode cX9_clashesOf 39 = .ok (.invokevirtual 89, 3) := by decide +kernel
theorem dX9_clashesOf_42 : decode cX9_clashesOf 42 = .ok (.istore 6, 2) := by decide +kernel
theorem dX9_clashesOf_44 : decode cX9_clashesOf 44 = .ok (.iload 6, 2) := by decide +kernel
theorem dX9_clashesOf_46 : decode cX9_clashesOf 46 = .ok (.iconst (-1), 1) := by decide +kernel
theorem dX9_clashesOf_47 : decode cX9_clashesOf 47 = .ok (.if_icmp .eq 16, 3) := by decide +kernel
theorem dX9_clashesOf_50 : decode cX9_clashesOf 50 = .ok (.iload 4, 2) := by decide +kernel
theorem dX9_clashesOf_52 : decode cX9_clashesOf 52 = .ok (.iload 6, 2) := by decide +kernel
theorem dX9_clashesOf_54 : decode cX9_clashesOf 54 = .ok (.invokestatic 124, 3) := by decide +kernel
theorem dX9_clashesOf_57 : decode cX9_clashesOf 57 = .ok (.ifCond .eq 6, 3) := by decide +kernel
theorem dX9_clashesOf_60 : decode cX9_clashesOf 60 = .ok (.iinc 2 1, 3) := by decide +kernel
theorem dX9_clashesOf_63 : decode cX9_clashesOf 63 = .ok (.iinc 5 1, 3) := by decide +kernel
theorem dX9_clashesOf_66 : decode cX9_clashesOf 66 = .ok (.goto (-43), 3) := by decide +kernel
theorem dX9_clashesOf_69 : decode cX9_clashesOf 69 = .ok (.iinc 3 1, 3) := by decide +kernel
theorem dX9_clashesOf_72 : decode cX9_clashesOf 72 = .ok (.goto (-68), 3) := by decide +kernel
theorem dX9_clashesOf_75 : decode cX9_clashesOf 75 = .ok (.iload_n 2, 1) := by decide +kernel
theorem dX9_clashesOf_76 : decode cX9_clashesOf 76 = .ok (.ireturn, 1) := by decide +kernel
theorem dX9_isClashing_0 : decode cX9_isClashing 0 = .ok (.iconst 0, 1) := by decide +kernel
theorem dX9_isClashing_1 : decode cX9_isClashing 1 = .ok (.istore 4, 2) := by decide +kernel
theorem dX9_isClashing_3 : decode cX9_isClashing 3 = .ok (.iload 4, 2) := by decide +kernel
theorem dX9_isClashing_5 : decode cX9_isClashing 5 = .ok (.aload_n 0, 1) := by decide +kernel
theorem dX9_isClashing_6 : decode cX9_isClashing 6 = .ok (.getfield 54, 3) := by decide +kernel
theorem dX9_isClashing_9 : decode cX9_isClashing 9 = .ok (.if_icmp .ge 41, 3) := by decide +kernel
theorem dX9_isClashing_12 : decode cX9_isClashing 12 = .ok (.aload_n 0, 1) := by decide +kernel
theorem dX9_isClashing_13 : decode cX9_isClashing 13 = .ok (.iload_n 1, 1) := by decide +kernel
theorem dX9_isClashing_14 : decode cX9_isClashing 14 = .ok (.iload 4, 2) := by decide +kernel
theorem dX9_isClashing_16 : decode cX9_isClashing 16 = .ok (.invokevirtual 89, 3) := by decide +kernel
theorem dX9_isClashing_19 : decode cX9_isClashing 19 = .ok (.istore 5, 2) := by decide +kernel
theorem dX9_isClashing_21 : decode cX9_isClashing 21 = .ok (.iload 4, 2) := by decide +kernel
theorem dX9_isClashing_23 : decode cX9_isClashing 23 = .ok (.iload_n 2, 1) := by decide +kernel
theorem dX9_isClashing_24 : decode cX9_isClashing 24 = .ok (.if_icmp .eq 20, 3) := by decide +kernel
theorem dX9_isClashing_27 : decode cX9_isClashing 27 = .ok (.iload 5, 2) := by decide +kernel
theorem dX9_isClashing_29 : decode cX9_isClashing 29 = .ok (.iconst (-1), 1) := by decide +kernel
theorem dX9_isClashing_30 : decode cX9_isClashing 30 = .ok (.if_icmp .eq 14, 3) := by decide +kernel
theorem dX9_isClashing_33 : decode cX9_isClashing 33 = .ok (.iload_n 3, 1) := by decide +kernel
theorem dX9_isClashing_34 : decode cX9_isClashing 34 = .ok (.iload 5, 2) := by decide +kernel
theorem dX9_isClashing_36 : decode cX9_isClashing 36 = .ok (.invokestatic 124, 3) := by decide +kernel
theorem dX9_isClashing_39 : decode cX9_isClashing 39 = .ok (.ifCond .eq 5, 3) := by decide +kernel
theorem dX9_isClashing_42 : decode cX9_isClashing 42 = .ok (.iconst 1, 1) := by decide +kernel
theorem dX9_isClashing_43 : decode cX9_isClashing 43 = .ok (.ireturn, 1) := by decide +kernel
theorem dX9_isClashing_44 : decode cX9_isClashing 44 = .ok (.iinc 4 1, 3) := by decide +kernel
theorem dX9_isClashing_47 : decode cX9_isClashing 47 = .ok (.goto (-44), 3) := by decide +kernel
theorem dX9_isClashing_50 : decode cX9_isClashing 50 = .ok (.iconst 0, 1) := by decide +kernel
theorem dX9_isClashing_51 : decode cX9_isClashing 51 = .ok (.ireturn, 1) := by decide +kernel
theorem dX9_isSafe_0 : decode cX9_isSafe 0 = .ok (.iconst 0, 1) := by decide +kernel
theorem dX9_isSafe_1 : decode cX9_isSafe 1 = .ok (.istore_n 3, 1) := by decide +kernel
theorem dX9_isSafe_2 : decode cX9_isSafe 2 = .ok (.iload_n 3, 1) := by decide +kernel
theorem dX9_isSafe_3 : decode cX9_isSafe 3 = .ok (.aload_n 0, 1) := by decide +kernel
theorem dX9_isSafe_4 : decode cX9_isSafe 4 = .ok (.getfield 54, 3) := by decide +kernel
theorem dX9_isSafe_7 : decode cX9_isSafe 7 = .ok (.if_icmp .ge 70, 3) := by decide +kernel
theorem dX9_isSafe_10 : decode cX9_isSafe 10 = .ok (.aload_n 0, 1) := by decide +kernel
theorem dX9_isSafe_11 : decode cX9_isSafe 11 = .ok (.iload_n 1, 1) := by decide +kernel
theorem dX9_isSafe_12 : decode cX9_isSafe 12 = .ok (.iload_n 3, 1) := by decide +kernel
theorem dX9_isSafe_13 : decode cX9_isSafe 13 = .ok (.invokevirtual 89, 3) := by decide +kernel
theorem dX9_isSafe_16 : decode cX9_isSafe 16 = .ok (.istore 4, 2) := by decide +kernel
theorem dX9_isSafe_18 : decode cX9_isSafe 18 = .ok (.iconst 0, 1) := by decide +kernel
theorem dX9_isSafe_19 : decode cX9_isSafe 19 = .ok (.istore 5, 2) := by decide +kernel
theorem dX9_isSafe_21 : decode cX9_isSafe 21 = .ok (.iload 5, 2) := by decide +kernel
theorem dX9_isSafe_23 : decode cX9_isSafe 23 = .ok (.iload_n 3, 1) := by decide +kernel
theorem dX9_isSafe_24 : decode cX9_isSafe 24 = .ok (.if_icmp .ge 47, 3) := by decide +kernel
theorem dX9_isSafe_27 : decode cX9_isSafe 27 = .ok (.iload 4, 2) := by decide +kernel
theorem dX9_isSafe_29 : decode cX9_isSafe 29 = .ok (.iconst (-1), 1) := by decide +kernel
theorem dX9_isSafe_30 : decode cX9_isSafe 30 = .ok (.if_icmp .eq 41, 3) := by decide +kernel
theorem dX9_isSafe_33 : decode cX9_isSafe 33 = .ok (.aload_n 0, 1) := by decide +kernel
theorem dX9_isSafe_34 : decode cX9_isSafe 34 = .ok (.iload_n 1, 1) := by decide +kernel
theorem dX9_isSafe_35 : decode cX9_isSafe 35 = .ok (.iload 5, 2) := by decide +kernel
theorem dX9_isSafe_37 : decode cX9_isSafe 37 = .ok (.invokevirtual 89, 3) := by decide +kernel
theorem dX9_isSafe_40 : decode cX9_isSafe 40 = .ok (.istore 6, 2) := by decide +kernel
theorem dX9_isSafe_42 : decode cX9_isSafe 42 = .ok (.iload 6, 2) := by decide +kernel
theorem dX9_isSafe_44 : decode cX9_isSafe 44 = .ok (.iconst (-1), 1) := by decide +kernel
theorem dX9_isSafe_45 : decode cX9_isSafe 45 = .ok (.if_icmp .eq 20, 3) := by decide +kernel
theorem dX9_isSafe_48 : decode cX9_isSafe 48 = .ok (.iload 4, 2) := by decide +kernel
theorem dX9_isSafe_50 : decode cX9_isSafe 50 = .ok (.iload_n 2, 1) := by decide +kernel
theorem dX9_isSafe_51 : decode cX9_isSafe 51 = .ok (.invokestatic 115, 3) := by decide +kernel
theorem dX9_isSafe_54 : decode cX9_isSafe 54 = .ok (.iload 6, 2) := by decide +kernel
theorem dX9_isSafe_56 : decode cX9_isSafe 56 = .ok (.iload_n 2, 1) := by decide +kernel
theorem dX9_isSafe_57 : decode cX9_isSafe 57 = .ok (.invokestatic 115, 3) := by decide +kernel
theorem dX9_isSafe_60 : decode cX9_isSafe 60 = .ok (.if_icmp .ne 5, 3) := by decide +kernel
theorem dX9_isSafe_63 : decode cX9_isSafe 63 = .ok (.iconst 0, 1) := by decide +kernel
theorem dX9_isSafe_64 : decode cX9_isSafe 64 = .ok (.ireturn, 1) := by decide +kernel
theorem dX9_isSafe_65 : decode cX9_isSafe 65 = .ok (.iinc 5 1, 3) := by decide +kernel
theorem dX9_isSafe_68 : decode cX9_isSafe 68 = .ok (.goto (-47), 3) := by decide +kernel
theorem dX9_isSafe_71 : decode cX9_isSafe 71 = .ok (.iinc 3 1, 3) := by decide +kernel
theorem dX9_isSafe_74 : decode cX9_isSafe 74 = .ok (.goto (-72), 3) := by decide +kernel
theorem dX9_isSafe_77 : decode cX9_isSafe 77 = .ok (.iconst 1, 1) := by decide +kernel
theorem dX9_isSafe_78 : decode cX9_isSafe 78 = .ok (.ireturn, 1) := by decide +kernel
