theorem dX9_init_0 : decode cX9_init 0 = .ok (.aload_n 0, 1) := by decide +kernel
theorem dX9_init_1 : decode cX9_init 1 = .ok (.invokespecial 3, 3) := by decide +kernel
theorem dX9_init_4 : decode cX9_init 4 = .ok (.aload_n 0, 1) := by decide +kernel
theorem dX9_init_5 : decode cX9_init 5 = .ok (.bipush 8, 2) := by decide +kernel
theorem dX9_init_7 : decode cX9_init 7 = .ok (.newarray .int, 2) := by decide +kernel
theorem dX9_init_9 : decode cX9_init 9 = .ok (.putfield 9, 3) := by decide +kernel
theorem dX9_init_12 : decode cX9_init 12 = .ok (.aload_n 0, 1) := by decide +kernel
theorem dX9_init_13 : decode cX9_init 13 = .ok (.bipush 8, 2) := by decide +kernel
theorem dX9_init_15 : decode cX9_init 15 = .ok (.newarray .int, 2) := by decide +kernel
theorem dX9_init_17 : decode cX9_init 17 = .ok (.putfield 15, 3) := by decide +kernel
theorem dX9_init_20 : decode cX9_init 20 = .ok (.aload_n 0, 1) := by decide +kernel
theorem dX9_init_21 : decode cX9_init 21 = .ok (.bipush 8, 2) := by decide +kernel
theorem dX9_init_23 : decode cX9_init 23 = .ok (.newarray .int, 2) := by decide +kernel
theorem dX9_init_25 : decode cX9_init 25 = .ok (.putfield 18, 3) := by decide +kernel
theorem dX9_init_28 : decode cX9_init 28 = .ok (.aload_n 0, 1) := by decide +kernel
theorem dX9_init_29 : decode cX9_init 29 = .ok (.bipush 8, 2) := by decide +kernel
theorem dX9_init_31 : decode cX9_init 31 = .ok (.newarray .int, 2) := by decide +kernel
theorem dX9_init_33 : decode cX9_init 33 = .ok (.putfield 21, 3) := by decide +kernel
theorem dX9_init_36 : decode cX9_init 36 = .ok (.aload_n 0, 1) := by decide +kernel
theorem dX9_init_37 : decode cX9_init 37 = .ok (.bipush 8, 2) := by decide +kernel
theorem dX9_init_39 : decode cX9_init 39 = .ok (.newarray .int, 2) := by decide +kernel
theorem dX9_init_41 : decode cX9_init 41 = .ok (.putfield 24, 3) := by decide +kernel
theorem dX9_init_44 : decode cX9_init 44 = .ok (.aload_n 0, 1) := by decide +kernel
theorem dX9_init_45 : decode cX9_init 45 = .ok (.bipush 10, 2) := by decide +kernel
theorem dX9_init_47 : decode cX9_init 47 = .ok (.newarray .int, 2) := by decide +kernel
theorem dX9_init_49 : decode cX9_init 49 = .ok (.putfield 27, 3) := by decide +kernel
theorem dX9_init_52 : decode cX9_init 52 = .ok (.aload_n 0, 1) := by decide +kernel
theorem dX9_init_53 : decode cX9_init 53 = .ok (.bipush 80, 2) := by decide +kernel
theorem dX9_init_55 : decode cX9_init 55 = .ok (.newarray .int, 2) := by decide +kernel
theorem dX9_init_57 : decode cX9_init 57 = .ok (.putfield 30, 3) := by decide +kernel
theorem dX9_init_60 : decode cX9_init 60 = .ok (.aload_n 0, 1) := by decide +kernel
theorem dX9_init_61 : decode cX9_init 61 = .ok (.bipush 64, 2) := by decide +kernel
theorem dX9_init_63 : decode cX9_init 63 = .ok (.newarray .int, 2) := by decide +kernel
theorem dX9_init_65 : decode cX9_init 65 = .ok (.putfield 33, 3) := by decide +kernel
theorem dX9_init_68 : decode cX9_init 68 = .ok (.aload_n 0, 1) := by decide +kernel
theorem dX9_init_69 : decode cX9_init 69 = .ok (.new 36, 3) := by decide +kernel
theorem dX9_init_72 : decode cX9_init 72 = .ok (.dup, 1) := by decide +kernel
theorem dX9_init_73 : decode cX9_init 73 = .ok (.invokespecial 38, 3) := by decide +kernel
theorem dX9_init_76 : decode cX9_init 76 = .ok (.putfield 39, 3) := by decide +kernel
theorem dX9_init_79 : decode cX9_init 79 = .ok (.aload_n 0, 1) := by decide +kernel
theorem dX9_init_80 : decode cX9_init 80 = .ok (.new 43, 3) := by decide +kernel
theorem dX9_init_83 : decode cX9_init 83 = .ok (.dup, 1) := by decide +kernel
theorem dX9_init_84 : decode cX9_init 84 = .ok (.invokespecial 45, 3) := by decide +kernel
theorem dX9_init_87 : decode cX9_init 87 = .ok (.putfield 46, 3) := by decide +kernel
theorem dX9_init_90 : decode cX9_init 90 = .ok (.iconst 0, 1) := by decide +kernel
theorem dX9_init_91 : decode cX9_init 91 = .ok (.istore_n 1, 1) := by decide +kernel
theorem dX9_init_92 : decode cX9_init 92 = .ok (.iload_n 1, 1) := by decide +kernel
theorem dX9_init_93 : decode cX9_init 93 = .ok (.bipush 80, 2) := by decide +kernel
theorem dX9_init_95 : decode cX9_init 95 = .ok (.if_icmp .ge 16, 3) := by decide +kernel
theorem dX9_init_98 : decode cX9_init 98 = .ok (.aload_n 0, 1) := by decide +kernel
theorem dX9_init_99 : decode cX9_init 99 = .ok (.getfield 30, 3) := by decide +kernel
theorem dX9_init_102 : decode cX9_init 102 = .ok (.iload_n 1, 1) := by decide +kernel
theorem dX9_init_103 : decode cX9_init 103 = .ok (.iconst (-1), 1) := by decide +kernel
theorem dX9_init_104 : decode cX9_init 104 = .ok (.iastore, 1) := by decide +kernel
theorem dX9_init_105 : decode cX9_init 105 = .ok (.iinc 1 1, 3) := by decide +kernel
theorem dX9_init_108 : decode cX9_init 108 = .ok (.goto (-16), 3) := by decide +kernel
theorem dX9_init_111 : decode cX9_init 111 = .ok (.return_, 1) := by decide +kernel
theorem dX9_copyFrom_0 : decode cX9_copyFrom 0 = .ok (.aload_n 0, 1) := by decide +kernel
theorem dX9_copyFrom_1 : decode cX9_copyFrom 1 = .ok (.aload_n 1, 1) := by decide +kernel
theorem dX9_copyFrom_2 : decode cX9_copyFrom 2 = .ok (.getfield 50, 3) := by decide +kernel
theorem dX9_copyFrom_5 : decode cX9_copyFrom 5 = .ok (.putfield 50, 3) := by decide +kernel
theorem dX9_copyFrom_8 : decode cX9_copyFrom 8 = .ok (.aload_n 0, 1) := by decide +kernel
theorem dX9_copyFrom_9 : decode cX9_copyFrom 9 = .ok (.aload_n 1, 1) := by decide +kernel
theorem dX9_copyFrom_10 : decode cX9_copyFrom 10 = .ok (.getfield 54, 3) := by decide +kernel
theorem dX9_copyFrom_13 : decode cX9_copyFrom 13 = .ok (.putfield 54, 3) := by decide +kernel
theorem dX9_copyFrom_16 : decode cX9_copyFrom 16 = .ok (.aload_n 0, 1) := by decide +kernel
theorem dX9_copyFrom_17 : decode cX9_copyFrom 17 = .ok (.aload_n 1, 1) := by decide +kernel
theorem dX9_copyFrom_18 : decode cX9_copyFrom 18 = .ok (.getfield 57, 3) := by decide +kernel
theorem dX9_copyFrom_21 : decode cX9_copyFrom 21 = .ok (.putfield 57, 3) := by decide +kernel
theorem dX9_copyFrom_24 : decode cX9_copyFrom 24 = .ok (.aload_n 0, 1) := by decide +kernel
theorem dX9_copyFrom_25 : decode cX9_copyFrom 25 = .ok (.aload_n 1, 1) := by decide +kernel
theorem dX9_copyFrom_26 : decode cX9_copyFrom 26 = .ok (.getfield 60, 3) := by decide +kernel
theorem dX9_copyFrom_29 : decode cX9_copyFrom 29 = .ok (.putfield 60, 3) := by decide +kernel
theorem dX9_copyFrom_32 : decode cX9_copyFrom 32 = .ok (.aload_n 0, 1) := by decide +kernel
theorem dX9_copyFrom_33 : decode cX9_copyFrom 33 = .ok (.aload_n 1, 1) := by decide +kernel
theorem dX9_copyFrom_34 : decode cX9_copyFrom 34 = .ok (.getfield 63, 3) := by decide +kernel
theorem dX9_copyFrom_37 : decode cX9_copyFrom 37 = .ok (.putfield 63, 3) := by decide +kernel
theorem dX9_copyFrom_40 : decode cX9_copyFrom 40 = .ok (.aload_n 0, 1) := by decide +kernel
theorem dX9_copyFrom_41 : decode cX9_copyFrom 41 = .ok (.aload_n 1, 1) := by decide +kernel
theorem dX9_copyFrom_42 : decode cX9_copyFrom 42 = .ok (.getfield 66, 3) := by decide +kernel
theorem dX9_copyFrom_45 : decode cX9_copyFrom 45 = .ok (.putfield 66, 3) := by decide +kernel
theorem dX9_copyFrom_48 : decode cX9_copyFrom 48 = .ok (.aload_n 1, 1) := by decide +kernel
theorem dX9_copyFrom_49 : decode cX9_copyFrom 49 = .ok (.getfield 9, 3) := by decide +kernel
theorem dX9_copyFrom_52 : decode cX9_copyFrom 52 = .ok (.iconst 0, 1) := by decide +kernel
theorem dX9_copyFrom_53 : decode cX9_copyFrom 53 = .ok (.aload_n 0, 1) := by decide +kernel
theorem dX9_copyFrom_54 : decode cX9_copyFrom 54 = .ok (.getfield 9, 3) := by decide +kernel
theorem dX9_copyFrom_57 : decode cX9_copyFrom 57 = .ok (.iconst 0, 1) := by decide +kernel
theorem dX9_copyFrom_58 : decode cX9_copyFrom 58 = .ok (.bipush 8, 2) := by decide +kernel
theorem dX9_copyFrom_60 : decode cX9_copyFrom 60 = .ok (.invokestatic 69, 3) := by decide +kernel
theorem dX9_copyFrom_63 : decode cX9_copyFrom 63 = .ok (.aload_n 1, 1) := by decide +kernel
theorem dX9_copyFrom_64 : decode cX9_copyFrom 64 = .ok (.getfield 15, 3) := by decide +kernel
theorem dX9_copyFrom_67 : decode cX9_copyFrom 67 = .ok (.iconst 0, 1) := by decide +kernel
theorem dX9_copyFrom_68 : decode cX9_copyFrom 68 = .ok (.aload_n 0, 1) := by decide +kernel
theorem dX9_copyFrom_69 : decode cX9_copyFrom 69 = .ok (.getfield 15, 3) := by decide +kernel
theorem dX9_copyFrom_72 : decode cX9_copyFrom 72 = .ok (.iconst 0, 1) := by decide +kernel
theorem dX9_copyFrom_73 : decode cX9_copyFrom 73 = .ok (.bipush 8, 2) := by decide +kernel
theorem dX9_copyFrom_75 : decode cX9_copyFrom 75 = .ok (.invokestatic 69, 3) := by decide +kernel
theorem dX9_copyFrom_78 : decode cX9_copyFrom 78 = .ok (.aload_n 1, 1) := by decide +kernel
theorem dX9_copyFrom_79 : decode cX9_copyFrom 79 = .ok (.getfield 18, 3) := by decide +kernel
theorem dX9_copyFrom_82 : decode cX9_copyFrom 82 = .ok (.iconst 0, 1) := by decide +kernel
theorem dX9_copyFrom_83 : decode cX9_copyFrom 83 = .ok (.aload_n 0, 1) := by decide +kernel
theorem dX9_copyFrom_84 : decode cX9_copyFrom 84 = .ok (.getfield 18, 3) := by decide +kernel
theorem dX9_copyFrom_87 : decode cX9_copyFrom 87 = .ok (.iconst 0, 1) := by decide +kernel
theorem dX9_copyFrom_88 : decode cX9_copyFrom 88 = .ok (.bipush 8, 2) := by decide +kernel
theorem dX9_copyFrom_90 : decode cX9_copyFrom 90 = .ok (.invokestatic 69, 3) := by decide +kernel
theorem dX9_copyFrom_93 : decode cX9_copyFrom 93 = .ok (.aload_n 1, 1) := by decide +kernel
theorem dX9_copyFrom_94 : decode cX9_copyFrom 94 = .ok (.getfield 21, 3) := by decide +kernel
theorem dX9_copyFrom_97 : decode cX9_copyFrom 97 = .ok (.iconst 0, 1) := by decide +kernel
theorem dX9_copyFrom_98 : decode cX9_copyFrom 98 = .ok (.aload_n 0, 1) := by decide +kernel
theorem dX9_copyFrom_99 : decode cX9_copyFrom 99 = .ok (.getfield 21, 3) := by decide +kernel
theorem dX9_copyFrom_102 : decode cX9_copyFrom 102 = .ok (.iconst 0, 1) := by decide +kernel
theorem dX9_copyFrom_103 : decode cX9_copyFrom 103 = .ok (.bipush 8, 2) := by decide +kernel
theorem dX9_copyFrom_105 : decode cX9_copyFrom 105 = .ok (.invokestatic 69, 3) := by decide +kernel
theorem dX9_copyFrom_108 : decode cX9_copyFrom 108 = .ok (.aload_n 1, 1) := by decide +kernel
theorem dX9_copyFrom_109 : decode cX9_copyFrom 109 = .ok (.getfield 24, 3) := by decide +kernel
theorem dX9_copyFrom_112 : decode cX9_copyFrom 112 = .ok (.iconst 0, 1) := by decide +kernel
theorem dX9_copyFrom_113 : decode cX9_copyFrom 113 = .ok (.aload_n 0, 1) := by decide +kernel
theorem dX9_copyFrom_114 : decode cX9_copyFrom 114 = .ok (.getfield 24, 3) := by decide +kernel
theorem dX9_copyFrom_117 : decode cX9_copyFrom 117 = .ok (.iconst 0, 1) := by decide +kernel
theorem dX9_copyFrom_118 : decode cX9_copyFrom 118 = .ok (.bipush 8, 2) := by decide +kernel
theorem dX9_copyFrom_120 : decode cX9_copyFrom 120 = .ok (.invokestatic 69, 3) := by decide +kernel
theorem dX9_copyFrom_123 : decode cX9_copyFrom 123 = .ok (.aload_n 1, 1) := by decide +kernel
theorem dX9_copyFrom_124 : decode cX9_copyFrom 124 = .ok (.getfield 27, 3) := by decide +kernel
theorem dX9_copyFrom_127 : decode cX9_copyFrom 127 = .ok (.iconst 0, 1) := by decide +kernel
theorem dX9_copyFrom_128 : decode cX9_copyFrom 128 = .ok (.aload_n 0, 1) := by decide +kernel
theorem dX9_copyFrom_129 : decode cX9_copyFrom 129 = .ok (.getfield 27, 3) := by decide +kernel
theorem dX9_copyFrom_132 : decode cX9_copyFrom 132 = .ok (.iconst 0, 1) := by decide +kernel
theorem dX9_copyFrom_133 : decode cX9_copyFrom 133 = .ok (.bipush 10, 2) := by decide +kernel
theorem dX9_copyFrom_135 : decode cX9_copyFrom 135 = .ok (.invokestatic 69, 3) := by decide +kernel
theorem dX9_copyFrom_138 : decode cX9_copyFrom 138 = .ok (.aload_n 1, 1) := by decide +kernel
theorem dX9_copyFrom_139 : decode cX9_copyFrom 139 = .ok (.getfield 30, 3) := by decide +kernel
theorem dX9_copyFrom_142 : decode cX9_copyFrom 142 = .ok (.iconst 0, 1) := by decide +kernel
theorem dX9_copyFrom_143 : decode cX9_copyFrom 143 = .ok (.aload_n 0, 1) := by decide +kernel
theorem dX9_copyFrom_144 : decode cX9_copyFrom 144 = .ok (.getfield 30, 3) := by decide +kernel
theorem dX9_copyFrom_147 : decode cX9_copyFrom 147 = .ok (.iconst 0, 1) := by decide +kernel
theorem dX9_copyFrom_148 : decode cX9_copyFrom 148 = .ok (.bipush 80, 2) := by decide +kernel
theorem dX9_copyFrom_150 : decode cX9_copyFrom 150 = .ok (.invokestatic 69, 3) := by decide +kernel
theorem dX9_copyFrom_153 : decode cX9_copyFrom 153 = .ok (.aload_n 1, 1) := by decide +kernel
theorem dX9_copyFrom_154 : decode cX9_copyFrom 154 = .ok (.getfield 33, 3) := by decide +kernel
theorem dX9_copyFrom_157 : decode cX9_copyFrom 157 = .ok (.iconst 0, 1) := by decide +kernel
theorem dX9_copyFrom_158 : decode cX9_copyFrom 158 = .ok (.aload_n 0, 1) := by decide +kernel
theorem dX9_copyFrom_159 : decode cX9_copyFrom 159 = .ok (.getfield 33, 3) := by decide +kernel
theorem dX9_copyFrom_162 : decode cX9_copyFrom 162 = .ok (.iconst 0, 1) := by decide +kernel
theorem dX9_copyFrom_163 : decode cX9_copyFrom 163 = .ok (.bipush 64, 2) := by decide +kernel
theorem dX9_copyFrom_165 : decode cX9_copyFrom 165 = .ok (.invokestatic 69, 3) := by decide +kernel
theorem dX9_copyFrom_168 : decode cX9_copyFrom 168 = .ok (.aload_n 0, 1) := by decide +kernel
theorem dX9_copyFrom_169 : decode cX9_copyFrom 169 = .ok (.getfield 39, 3) := by decide +kernel
theorem dX9_copyFrom_172 : decode cX9_copyFrom 172 = .ok (.aload_n 1, 1) := by decide +kernel
theorem dX9_copyFrom_173 : decode cX9_copyFrom 173 = .ok (.getfield 39, 3) := by decide +kernel
theorem dX9_copyFrom_176 : decode cX9_copyFrom 176 = .ok (.invokevirtual 75, 3) := by decide +kernel
theorem dX9_copyFrom_179 : decode cX9_copyFrom 179 = .ok (.aload_n 0, 1) := by decide +kernel
theorem dX9_copyFrom_180 : decode cX9_copyFrom 180 = .ok (.getfield 46, 3) := by decide +kernel
theorem dX9_copyFrom_183 : decode cX9_copyFrom 183 = .ok (.aload_n 1, 1) := by decide +kernel
theorem dX9_copyFrom_184 : decode cX9_copyFrom 184 = .ok (.getfield 46, 3) := by decide +kernel
theorem dX9_copyFrom_187 : decode cX9_copyFrom 187 = .ok (.invokevirtual 79, 3) := by decide +kernel
theorem dX9_copyFrom_190 : decode cX9_copyFrom 190 = .ok (.return_, 1) := by decide +kernel
theorem dX9_hasHouse_0 : decode cX9_hasHouse 0 = .ok (.iload_n 1, 1) := by decide +kernel
theorem dX9_hasHouse_1 : decode cX9_hasHouse 1 = .ok (.ifCond .lt 21, 3) := by decide +kernel
theorem dX9_hasHouse_4 : decode cX9_hasHouse 4 = .ok (.iload_n 1, 1) := by decide +kernel
theorem dX9_hasHouse_5 : decode cX9_hasHouse 5 = .ok (.aload_n 0, 1) := by decide +kernel
theorem dX9_hasHouse_6 : decode cX9_hasHouse 6 = .ok (.getfield 50, 3) := by decide +kernel
theorem dX9_hasHouse_9 : decode cX9_hasHouse 9 = .ok (.if_icmp .ge 13, 3) := by decide +kernel
theorem dX9_hasHouse_12 : decode cX9_hasHouse 12 = .ok (.iload_n 1, 1) := by decide +kernel
theorem dX9_hasHouse_13 : decode cX9_hasHouse 13 = .ok (.bipush 8, 2) := by decide +kernel
theorem dX9_hasHouse_15 : decode cX9_hasHouse 15 = .ok (.if_icmp .ge 7, 3) := by decide +kernel
theorem dX9_hasHouse_18 : decode cX9_hasHouse 18 = .ok (.iconst 1, 1) := by decide +kernel
theorem dX9_hasHouse_19 : decode cX9_hasHouse 19 = .ok (.goto 4, 3) := by decide +kernel
theorem dX9_hasHouse_22 : decode cX9_hasHouse 22 = .ok (.iconst 0, 1) := by decide +kernel
theorem dX9_hasHouse_23 : decode cX9_hasHouse 23 = .ok (.ireturn, 1) := by decide +kernel
theorem dX9_hasWant_0 : decode cX9_hasWant 0 = .ok (.iload_n 1, 1) := by decide +kernel
theorem dX9_hasWant_1 : decode cX9_hasWant 1 = .ok (.ifCond .lt 21, 3) := by decide +kernel
theorem dX9_hasWant_4 : decode cX9_hasWant 4 = .ok (.iload_n 1, 1) := by decide +kernel
theorem dX9_hasWant_5 : decode cX9_hasWant 5 = .ok (.aload_n 0, 1) := by decide +kernel
theorem dX9_hasWant_6 : decode cX9_hasWant 6 = .ok (.getfield 54, 3) := by decide +kernel
theorem dX9_hasWant_9 : decode cX9_hasWant 9 = .ok (.if_icmp .ge 13, 3) := by decide +kernel
theorem dX9_hasWant_12 : decode cX9_hasWant 12 = .ok (.iload_n 1, 1) := by decide +kernel
theorem dX9_hasWant_13 : decode cX9_hasWant 13 = .ok (.bipush 10, 2) := by decide +kernel
theorem dX9_hasWant_15 : decode cX9_hasWant 15 = .ok (.if_icmp .ge 7, 3) := by decide +kernel
theorem dX9_hasWant_18 : decode cX9_hasWant 18 = .ok (.iconst 1, 1) := by decide +kernel
theorem dX9_hasWant_19 : decode cX9_hasWant 19 = .ok (.goto 4, 3) := by decide +kernel
theorem dX9_hasWant_22 : decode cX9_hasWant 22 = .ok (.iconst 0, 1) := by decide +kernel
theorem dX9_hasWant_23 : decode cX9_hasWant 23 = .ok (.ireturn, 1) := by decide +kernel
theorem dX9_urgentOf_0 : decode cX9_urgentOf 0 = .ok (.aload_n 0, 1) := by decide +kernel
theorem dX9_urgentOf_1 : decode cX9_urgentOf 1 = .ok (.iload_n 1, 1) := by decide +kernel
theorem dX9_urgentOf_2 : decode cX9_urgentOf 2 = .ok (.invokevirtual 82, 3) := by decide +kernel
theorem dX9_urgentOf_5 : decode cX9_urgentOf 5 = .ok (.ifCond .eq 12, 3) := by decide +kernel
theorem dX9_urgentOf_8 : decode cX9_urgentOf 8 = .ok (.aload_n 0, 1) := by decide +kernel
theorem dX9_urgentOf_9 : decode cX9_urgentOf 9 = .ok (.getfield 27, 3) := by decide +kernel
theorem dX9_urgentOf_12 : decode cX9_urgentOf 12 = .ok (.iload_n 1, 1) := by decide +kernel
theorem dX9_urgentOf_13 : decode cX9_urgentOf 13 = .ok (.iaload, 1) := by decide +kernel
theorem dX9_urgentOf_14 : decode cX9_urgentOf 14 = .ok (.goto 4, 3) := by decide +kernel
theorem dX9_urgentOf_17 : decode cX9_urgentOf 17 = .ok (.iconst 0, 1) := by decide +kernel
theorem dX9_urgentOf_18 : decode cX9_urgentOf 18 = .ok (.ireturn, 1) := by decide +kernel
theorem dX9_wordFor_0 : decode cX9_wordFor 0 = .ok (.aload_n 0, 1) := by decide +kernel
theorem dX9_wordFor_1 : decode cX9_wordFor 1 = .ok (.iload_n 1, 1) := by decide +kernel
theorem dX9_wordFor_2 : decode cX9_wordFor 2 = .ok (.invokevirtual 86, 3) := by decide +kernel
theorem dX9_wordFor_5 : decode cX9_wordFor 5 = .ok (.ifCond .eq 25, 3) := by decide +kernel
theorem dX9_wordFor_8 : decode cX9_wordFor 8 = .ok (.aload_n 0, 1) := by decide +kernel
theorem dX9_wordFor_9 : decode cX9_wordFor 9 = .ok (.iload_n 2, 1) := by decide +kernel
theorem dX9_wordFor_10 : decode cX9_wordFor 10 = .ok (.invokevirtual 82, 3) := by decide +kernel
theorem dX9_wordFor_13 : decode cX9_wordFor 13 = .ok (.ifCond .eq 17, 3) := by decide +kernel
theorem dX9_wordFor_16 : decode cX9_wordFor 16 = .ok (.aload_n 0, 1) := by decide +kernel
theorem dX9_wordFor_17 : decode cX9_wordFor 17 = .ok (.getfield 30, 3) := by decide +kernel
theorem dX9_wordFor_20 : decode cX9_wordFor 20 = .ok (.iload_n 1, 1) := by decide +kernel
theorem dX9_wordFor_21 : decode cX9_wordFor 21 = .ok (.bipush 10, 2) := by decide +kernel
theorem dX9_wordFor_23 : decode cX9_wordFor 23 = .ok (.imul, 1) := by decide +kernel
theorem dX9_wordFor_24 : decode cX9_wordFor 24 = .ok (.iload_n 2, 1) := by decide +kernel
theorem dX9_wordFor_25 : decode cX9_wordFor 25 = .ok (.iadd, 1) := by decide +kernel
theorem dX9_wordFor_26 : decode cX9_wordFor 26 = .ok (.iaload, 1) := by decide +kernel
theorem dX9_wordFor_27 : decode cX9_wordFor 27 = .ok (.goto 4, 3) := by decide +kernel
theorem dX9_wordFor_30 : decode cX9_wordFor 30 = .ok (.iconst (-1), 1) := by decide +kernel
theorem dX9_wordFor_31 : decode cX9_wordFor 31 = .ok (.ireturn, 1) := by decide +kernel
theorem dX9_setWord_0 : decode cX9_setWord 0 = .ok (.aload_n 0, 1) := by decide +kernel
theorem dX9_setWord_1 : decode cX9_setWord 1 = .ok (.iload_n 1, 1) := by decide +kernel
theorem dX9_setWord_2 : decode cX9_setWord 2 = .ok (.invokevirtual 86, 3) := by decide +kernel
theorem dX9_setWord_5 : decode cX9_setWord 5 = .ok (.ifCond .eq 23, 3) := by decide +kernel
theorem dX9_setWord_8 : decode cX9_setWord 8 = .ok (.aload_n 0, 1) := by decide +kernel
theorem dX9_setWord_9 : decode cX9_setWord 9 = .ok (.iload_n 2, 1) := by decide +kernel
theorem dX9_setWord_10 : decode cX9_setWord 10 = .ok (.invokevirtual 82, 3) := by decide +kernel
theorem dX9_setWord_13 : decode cX9_setWord 13 = .ok (.ifCond .eq 15, 3) := by decide +kernel
theorem dX9_setWord_16 : decode cX9_setWord 16 = .ok (.aload_n 0, 1) := by decide +kernel
theorem dX9_setWord_17 : decode cX9_setWord 17 = .ok (.getfield 30, 3) := by decide +kernel
theorem dX9_setWord_20 : decode cX9_setWord 20 = .ok (.iload_n 1, 1) := by decide +kernel
theorem dX9_setWord_21 : decode cX9_setWord 21 = .ok (.bipush 10, 2) := by decide +kernel
theorem dX9_setWord_23 : decode cX9_setWord 23 = .ok (.imul, 1) := by decide +kernel
theorem dX9_setWord_24 : decode cX9_setWord 24 = .ok (.iload_n 2, 1) := by decide +kernel
theorem dX9_setWord_25 : decode cX9_setWord 25 = .ok (.iadd, 1) := by decide +kernel
theorem dX9_setWord_26 : decode cX9_setWord 26 = .ok (.iload_n 3, 1) := by decide +kernel
theorem dX9_setWord_27 : decode cX9_setWord 27 = .ok (.iastore, 1) := by decide +kernel
theorem dX9_setWord_28 : decode cX9_setWord 28 = .ok (.return_, 1) := by decide +kernel
theorem dX9_wordsOf_0 : decode cX9_wordsOf 0 = .ok (.iconst 0, 1) := by decide +kernel
theorem dX9_wordsOf_1 : decode cX9_wordsOf 1 = .ok (.istore_n 2, 1) := by decide +kernel
theorem dX9_wordsOf_2 : decode cX9_wordsOf 2 = .ok (.iconst 0, 1) := by decide +kernel
theorem dX9_wordsOf_3 : decode cX9_wordsOf 3 = .ok (.istore_n 3, 1) := by decide +kernel
theorem dX9_wordsOf_4 : decode cX9_wordsOf 4 = .ok (.iload_n 3, 1) := by decide +kernel
theorem dX9_wordsOf_5 : decode cX9_wordsOf 5 = .ok (.aload_n 0, 1) := by decide +kernel
theorem dX9_wordsOf_6 : decode cX9_wordsOf 6 = .ok (.getfield 54, 3) := by decide +kernel
theorem dX9_wordsOf_9 : decode cX9_wordsOf 9 = .ok (.if_icmp .ge 22, 3) := by decide +kernel
theorem dX9_wordsOf_12 : decode cX9_wordsOf 12 = .ok (.aload_n 0, 1) := by decide +kernel
theorem dX9_wordsOf_13 : decode cX9_wordsOf 13 = .ok (.iload_n 1, 1) := by decide +kernel
theorem dX9_wordsOf_14 : decode cX9_wordsOf 14 = .ok (.iload_n 3, 1) := by decide +kernel
theorem dX9_wordsOf_15 : decode cX9_wordsOf 15 = .ok (.invokevirtual 89, 3) := by decide +kernel
theorem dX9_wordsOf_18 : decode cX9_wordsOf 18 = .ok (.iconst (-1), 1) := by decide +kernel
theorem dX9_wordsOf_19 : decode cX9_wordsOf 19 = .ok (.if_icmp .eq 6, 3) := by decide +kernel
theorem dX9_wordsOf_22 : decode cX9_wordsOf 22 = .ok (.iinc 2 1, 3) := by decide +kernel
theorem dX9_wordsOf_25 : decode cX9_wordsOf 25 = .ok (.iinc 3 1, 3) := by decide +kernel
theorem dX9_wordsOf_28 : decode cX9_wordsOf 28 = .ok (.goto (-24), 3) := by decide +kernel
theorem dX9_wordsOf_31 : decode cX9_wordsOf 31 = .ok (.iload_n 2, 1) := by decide +kernel
theorem dX9_wordsOf_32 : decode cX9_wordsOf 32 = .ok (.ireturn, 1) := by decide +kernel
theorem dX9_wordsOfAll_0 : decode cX9_wordsOfAll 0 = .ok (.iconst 0, 1) := by decide +kernel
theorem dX9_wordsOfAll_1 : decode cX9_wordsOfAll 1 = .ok (.istore_n 1, 1) := by decide +kernel
theorem dX9_wordsOfAll_2 : decode cX9_wordsOfAll 2 = .ok (.iconst 0, 1) := by decide +kernel
theorem dX9_wordsOfAll_3 : decode cX9_wordsOfAll 3 = .ok (.istore_n 2, 1) := by decide +kernel
theorem dX9_wordsOfAll_4 : decode cX9_wordsOfAll 4 = .ok (.iload_n 2, 1) := by decide +kernel
theorem dX9_wordsOfAll_5 : decode cX9_wordsOfAll 5 = .ok (.aload_n 0, 1) := by decide +kernel
theorem dX9_wordsOfAll_6 : decode cX9_wordsOfAll 6 = .ok (.getfield 50, 3) := by decide +kernel
theorem dX9_wordsOfAll_9 : decode cX9_wordsOfAll 9 = .ok (.if_icmp .ge 17, 3) := by decide +kernel
theorem dX9_wordsOfAll_12 : decode cX9_wordsOfAll 12 = .ok (.iload_n 1, 1) := by decide +kernel
theorem dX9_wordsOfAll_13 : decode cX9_wordsOfAll 13 = .ok (.aload_n 0, 1) := by decide +kernel
theorem dX9_wordsOfAll_14 : decode cX9_wordsOfAll 14 = .ok (.iload_n 2, 1) := by decide +kernel
theorem dX9_wordsOfAll_15 : decode cX9_wordsOfAll 15 = .ok (.invokevirtual 93, 3) := by decide +kernel
theorem dX9_wordsOfAll_18 : decode cX9_wordsOfAll 18 = .ok (.iadd, 1) := by decide +kernel
theorem dX9_wordsOfAll_19 : decode cX9_wordsOfAll 19 = .ok (.istore_n 1, 1) := by decide +kernel
theorem dX9_wordsOfAll_20 : decode cX9_wordsOfAll 20 = .ok (.iinc 2 1, 3) := by decide +kernel
theorem dX9_wordsOfAll_23 : decode cX9_wordsOfAll 23 = .ok (.goto (-19), 3) := by decide +kernel
theorem dX9_wordsOfAll_26 : decode cX9_wordsOfAll 26 = .ok (.iload_n 1, 1) := by decide +kernel
theorem dX9_wordsOfAll_27 : decode cX9_wordsOfAll 27 = .ok (.ireturn, 1) := by decide +kernel
theorem dX9_minutesOfAll_0 : decode cX9_minutesOfAll 0 = .ok (.iconst 0, 1) := by decide +kernel
theorem dX9_minutesOfAll_1 : decode cX9_minutesOfAll 1 = .ok (.istore_n 1, 1) := by decide +kernel
theorem dX9_minutesOfAll_2 : decode cX9_minutesOfAll 2 = .ok (.iconst 0, 1) := by decide +kernel
theorem dX9_minutesOfAll_3 : decode cX9_minutesOfAll 3 = .ok (.istore_n 2, 1) := by decide +kernel
theorem dX9_minutesOfAll_4 : decode cX9_minutesOfAll 4 = .ok (.iload_n 2, 1) := by decide +kernel
theorem dX9_minutesOfAll_5 : decode cX9_minutesOfAll 5 = .ok (.aload_n 0, 1) := by decide +kernel
theorem dX9_minutesOfAll_6 : decode cX9_minutesOfAll 6 = .ok (.getfield 50, 3) := by decide +kernel
theorem dX9_minutesOfAll_9 : decode cX9_minutesOfAll 9 = .ok (.if_icmp .ge 37, 3) := by decide +kernel
theorem dX9_minutesOfAll_12 : decode cX9_minutesOfAll 12 = .ok (.iconst 0, 1) := by decide +kernel
theorem dX9_minutesOfAll_13 : decode cX9_minutesOfAll 13 = .ok (.istore_n 3, 1) := by decide +kernel
theorem dX9_minutesOfAll_14 : decode cX9_minutesOfAll 14 = .ok (.iload_n 3, 1) := by decide +kernel
theorem dX9_minutesOfAll_15 : decode cX9_minutesOfAll 15 = .ok (.aload_n 0, 1) := by decide +kernel
theorem dX9_minutesOfAll_16 : decode cX9_minutesOfAll 16 = .ok (.getfield 54, 3) := by decide +kernel
theorem dX9_minutesOfAll_19 : decode cX9_minutesOfAll 19 = .ok (.if_icmp .ge 21, 3) := by decide +kernel
theorem dX9_minutesOfAll_22 : decode cX9_minutesOfAll 22 = .ok (.iload_n 1, 1) := by decide +kernel
theorem dX9_minutesOfAll_23 : decode cX9_minutesOfAll 23 = .ok (.aload_n 0, 1) := by decide +kernel
theorem dX9_minutesOfAll_24 : decode cX9_minutesOfAll 24 = .ok (.iload_n 2, 1) := by decide +kernel
theorem dX9_minutesOfAll_25 : decode cX9_minutesOfAll 25 = .ok (.iload_n 3, 1) := by decide +kernel
theorem dX9_minutesOfAll_26 : decode cX9_minutesOfAll 26 = .ok (.invokevirtual 89, 3) := by decide +kernel
theorem dX9_minutesOfAll_29 : decode cX9_minutesOfAll 29 = .ok (.invokestatic 97, 3) := by decide +kernel
theorem dX9_minutesOfAll_32 : decode cX9_minutesOfAll 32 = .ok (.iadd, 1) := by decide +kernel
theorem dX9_minutesOfAll_33 : decode cX9_minutesOfAll 33 = .ok (.istore_n 1, 1) := by decide +kernel
theorem dX9_minutesOfAll_34 : decode cX9_minutesOfAll 34 = .ok (.iinc 3 1, 3) := by decide +kernel
theorem dX9_minutesOfAll_37 : decode cX9_minutesOfAll 37 = .ok (.goto (-23), 3) := by decide +kernel
theorem dX9_minutesOfAll_40 : decode cX9_minutesOfAll 40 = .ok (.iinc 2 1, 3) := by decide +kernel
theorem dX9_minutesOfAll_43 : decode cX9_minutesOfAll 43 = .ok (.goto (-39), 3) := by decide +kernel
theorem dX9_minutesOfAll_46 : decode cX9_minutesOfAll 46 = .ok (.iload_n 1, 1) := by decide +kernel
theorem dX9_minutesOfAll_47 : decode cX9_minutesOfAll 47 = .ok (.ireturn, 1) := by decide +kernel
theorem dX9_coinsOfAll_0 : decode cX9_coinsOfAll 0 = .ok (.iconst 0, 1) := by decide +kernel
theorem dX9_coinsOfAll_1 : decode cX9_coinsOfAll 1 = .ok (.istore_n 1, 1) := by decide +kernel
theorem dX9_coinsOfAll_2 : decode cX9_coinsOfAll 2 = .ok (.iconst 0, 1) := by decide +kernel
theorem dX9_coinsOfAll_3 : decode cX9_coinsOfAll 3 = .ok (.istore_n 2, 1) := by decide +kernel
theorem dX9_coinsOfAll_4 : decode cX9_coinsOfAll 4 = .ok (.iload_n 2, 1) := by decide +kernel
theorem dX9_coinsOfAll_5 : decode cX9_coinsOfAll 5 = .ok (.aload_n 0, 1) := by decide +kernel
theorem dX9_coinsOfAll_6 : decode cX9_coinsOfAll 6 = .ok (.getfield 50, 3) := by decide +kernel
theorem dX9_coinsOfAll_9 : decode cX9_coinsOfAll 9 = .ok (.if_icmp .ge 24, 3) := by decide +kernel
theorem dX9_coinsOfAll_12 : decode cX9_coinsOfAll 12 = .ok (.iload_n 2, 1) := by decide +kernel
theorem dX9_coinsOfAll_13 : decode cX9_coinsOfAll 13 = .ok (.bipush 8, 2) := by decide +kernel
theorem dX9_coinsOfAll_15 : decode cX9_coinsOfAll 15 = .ok (.if_icmp .ge 18, 3) := by decide +kernel
theorem dX9_coinsOfAll_18 : decode cX9_coinsOfAll 18 = .ok (.iload_n 1, 1) := by decide +kernel
theorem dX9_coinsOfAll_19 : decode cX9_coinsOfAll 19 = .ok (.aload_n 0, 1) := by decide +kernel
theorem dX9_coinsOfAll_20 : decode cX9_coinsOfAll 20 = .ok (.getfield 21, 3) := by decide +kernel
theorem dX9_coinsOfAll_23 : decode cX9_coinsOfAll 23 = .ok (.iload_n 2, 1) := by decide +kernel
theorem dX9_coinsOfAll_24 : decode cX9_coinsOfAll 24 = .ok (.iaload, 1) := by decide +kernel
theorem dX9_coinsOfAll_25 : decode cX9_coinsOfAll 25 = .ok (.iadd, 1) := by decide +kernel
theorem dX9_coinsOfAll_26 : decode cX9_coinsOfAll 26 = .ok (.istore_n 1, 1) := by decide +kernel
theorem dX9_coinsOfAll_27 : decode cX9_coinsOfAll 27 = .ok (.iinc 2 1, 3) := by decide +kernel
theorem dX9_coinsOfAll_30 : decode cX9_coinsOfAll 30 = .ok (.goto (-26), 3) := by decide +kernel
theorem dX9_coinsOfAll_33 : decode cX9_coinsOfAll 33 = .ok (.iload_n 1, 1) := by decide +kernel
theorem dX9_coinsOfAll_34 : decode cX9_coinsOfAll 34 = .ok (.ireturn, 1) := by decide +kernel
theorem dX9_farFrom_0 : decode cX9_farFrom 0 = .ok (.aload_n 0, 1) := by decide +kernel
theorem dX9_farFrom_1 : decode cX9_farFrom 1 = .ok (.iload_n 1, 1) := by decide +kernel
theorem dX9_farFrom_2 : decode cX9_farFrom 2 = .ok (.invokevirtual 86, 3) := by decide +kernel
theorem dX9_farFrom_5 : decode cX9_farFrom 5 = .ok (.ifCond .eq 11, 3) := by decide +kernel
theorem dX9_farFrom_8 : decode cX9_farFrom 8 = .ok (.aload_n 0, 1) := by decide +kernel
theorem dX9_farFrom_9 : decode cX9_farFrom 9 = .ok (.iload_n 2, 1) := by decide +kernel
theorem dX9_farFrom_10 : decode cX9_farFrom 10 = .ok (.invokevirtual 86, 3) := by decide +kernel
theorem dX9_farFrom_13 : decode cX9_farFrom 13 = .ok (.ifCond .ne 5, 3) := by decide +kernel
theorem dX9_farFrom_16 : decode cX9_farFrom 16 = .ok (.iconst 0, 1) := by decide +kernel
theorem dX9_farFrom_17 : decode cX9_farFrom 17 = .ok (.ireturn, 1) := by decide +kernel
theorem dX9_farFrom_18 : decode cX9_farFrom 18 = .ok (.aload_n 0, 1) := by decide +kernel
theorem dX9_farFrom_19 : decode cX9_farFrom 19 = .ok (.getfield 9, 3) := by decide +kernel
theorem dX9_farFrom_22 : decode cX9_farFrom 22 = .ok (.iload_n 2, 1) := by decide +kernel
theorem dX9_farFrom_23 : decode cX9_farFrom 23 = .ok (.iaload, 1) := by decide +kernel
theorem dX9_farFrom_24 : decode cX9_farFrom 24 = .ok (.aload_n 0, 1) := by decide +kernel
theorem dX9_farFrom_25 : decode cX9_farFrom 25 = .ok (.getfield 63, 3) := by decide +kernel
theorem dX9_farFrom_28 : decode cX9_farFrom 28 = .ok (.iadd, 1) := by decide +kernel
theorem dX9_farFrom_29 : decode cX9_farFrom 29 = .ok (.aload_n 0, 1) := by decide +kernel
theorem dX9_farFrom_30 : decode cX9_farFrom 30 = .ok (.getfield 9, 3) := by decide +kernel
theorem dX9_farFrom_33 : decode cX9_farFrom 33 = .ok (.iload_n 1, 1) := by decide +kernel
theorem dX9_farFrom_34 : decode cX9_farFrom 34 = .ok (.iaload, 1) := by decide +kernel
theorem dX9_farFrom_35 : decode cX9_farFrom 35 = .ok (.isub, 1) := by decide +kernel
theorem dX9_farFrom_36 : decode cX9_farFrom 36 = .ok (.invokestatic 100, 3) := by decide +kernel
theorem dX9_farFrom_39 : decode cX9_farFrom 39 = .ok (.aload_n 0, 1) := by decide +kernel
theorem dX9_farFrom_40 : decode cX9_farFrom 40 = .ok (.getfield 15, 3) := by decide +kernel
theorem dX9_farFrom_43 : decode cX9_farFrom 43 = .ok (.iload_n 2, 1) := by decide +kernel
theorem dX9_farFrom_44 : decode cX9_farFrom 44 = .ok (.iaload, 1) := by decide +kernel
theorem dX9_farFrom_45 : decode cX9_farFrom 45 = .ok (.aload_n 0, 1) := by decide +kernel
theorem dX9_farFrom_46 : decode cX9_farFrom 46 = .ok (.getfield 66, 3) := by decide +kernel
theorem dX9_farFrom_49 : decode cX9_farFrom 49 = .ok (.iadd, 1) := by decide +kernel
theorem dX9_farFrom_50 : decode cX9_farFrom 50 = .ok (.aload_n 0, 1) := by decide +kernel
theorem dX9_farFrom_51 : decode cX9_farFrom 51 = .ok (.getfield 15, 3) := by decide +kernel
theorem dX9_farFrom_54 : decode cX9_farFrom 54 = .ok (.iload_n 1, 1) := by decide +kernel
theorem dX9_farFrom_55 : decode cX9_farFrom 55 = .ok (.iaload, 1) := by decide +kernel
theorem dX9_farFrom_56 : decode cX9_farFrom 56 = .ok (.isub, 1) := by decide +kernel
theorem dX9_farFrom_57 : decode cX9_farFrom 57 = .ok (.invokestatic 100, 3) := by decide +kernel
theorem dX9_farFrom_60 : decode cX9_farFrom 60 = .ok (.iadd, 1) := by decide +kernel
theorem dX9_farFrom_61 : decode cX9_farFrom 61 = .ok (.ireturn, 1) := by decide +kernel
theorem dX9_measureWays_0 : decode cX9_measureWays 0 = .ok (.iconst 0, 1) := by decide +kernel
theorem dX9_measureWays_1 : decode cX9_measureWays 1 = .ok (.istore_n 1, 1) := by decide +kernel
theorem dX9_measureWays_2 : decode cX9_measureWays 2 = .ok (.iload_n 1, 1) := by decide +kernel
theorem dX9_measureWays_3 : decode cX9_measureWays 3 = .ok (.aload_n 0, 1) := by decide +kernel
theorem dX9_measureWays_4 : decode cX9_measureWays 4 = .ok (.getfield 50, 3) := by decide +kernel
theorem dX9_measureWays_7 : decode cX9_measureWays 7 = .ok (.if_icmp .ge 101, 3) := by decide +kernel
theorem dX9_measureWays_10 : decode cX9_measureWays 10 = .ok (.iload_n 1, 1) := by decide +kernel
theorem dX9_measureWays_11 : decode cX9_measureWays 11 = .ok (.bipush 8, 2) := by decide +kernel
theorem dX9_measureWays_13 : decode cX9_measureWays 13 = .ok (.if_icmp .ge 95, 3) := by decide +kernel
theorem dX9_measureWays_16 : decode cX9_measureWays 16 = .ok (.iconst 0, 1) := by decide +kernel
theorem dX9_measureWays_17 : decode cX9_measureWays 17 = .ok (.istore_n 2, 1) := by decide +kernel
theorem dX9_measureWays_18 : decode cX9_measureWays 18 = .ok (.iload_n 2, 1) := by decide +kernel
theorem dX9_measureWays_19 : decode cX9_measureWays 19 = .ok (.aload_n 0, 1) := by decide +kernel
theorem dX9_measureWays_20 : decode cX9_measureWays 20 = .ok (.getfield 50, 3) := by decide +kernel
theorem dX9_measureWays_23 : decode cX9_measureWays 23 = .ok (.if_icmp .ge 79, 3) := by decide +kernel
theorem dX9_measureWays_26 : decode cX9_measureWays 26 = .ok (.iload_n 2, 1) := by decide +kernel
theorem dX9_measureWays_27 : decode cX9_measureWays 27 = .ok (.bipush 8, 2) := by decide +kernel
theorem dX9_measureWays_29 : decode cX9_measureWays 29 = .ok (.if_icmp .ge 73, 3) := by decide +kernel
theorem dX9_measureWays_32 : decode cX9_measureWays 32 = .ok (.aload_n 0, 1) := by decide +kernel
theorem dX9_measureWays_33 : decode cX9_measureWays 33 = .ok (.getfield 18, 3) := by decide +kernel
theorem dX9_measureWays_36 : decode cX9_measureWays 36 = .ok (.iload_n 2, 1) := by decide +kernel
theorem dX9_measureWays_37 : decode cX9_measureWays 37 = .ok (.iaload, 1) := by decide +kernel
theorem dX9_measureWays_38 : decode cX9_measureWays 38 = .ok (.aload_n 0, 1) := by decide +kernel
theorem dX9_measureWays_39 : decode cX9_measureWays 39 = .ok (.iload_n 1, 1) := by decide +kernel
theorem dX9_measureWays_40 : decode cX9_measureWays 40 = .ok (.iload_n 2, 1) := by decide +kernel
theorem dX9_measureWays_41 : decode cX9_measureWays 41 = .ok (.invokevirtual 105, 3) := by decide +kernel
theorem dX9_measureWays_44 : decode cX9_measureWays 44 = .ok (.isub, 1) := by decide +kernel
theorem dX9_measureWays_45 : decode cX9_measureWays 45 = .ok (.istore_n 3, 1) := by decide +kernel
theorem dX9_measureWays_46 : decode cX9_measureWays 46 = .ok (.iload_n 1, 1) := by decide +kernel
theorem dX9_measureWays_47 : decode cX9_measureWays 47 = .ok (.iload_n 2, 1) := by decide +kernel
theorem dX9_measureWays_48 : decode cX9_measureWays 48 = .ok (.if_icmp .eq 20, 3) := by decide +kernel
theorem dX9_measureWays_51 : decode cX9_measureWays 51 = .ok (.aload_n 0, 1) := by decide +kernel
theorem dX9_measureWays_52 : decode cX9_measureWays 52 = .ok (.getfield 24, 3) := by decide +kernel
theorem dX9_measureWays_55 : decode cX9_measureWays 55 = .ok (.iload_n 1, 1) := by decide +kernel
theorem dX9_measureWays_56 : decode cX9_measureWays 56 = .ok (.iaload, 1) := by decide +kernel
theorem dX9_measureWays_57 : decode cX9_measureWays 57 = .ok (.ifCond .ne 11, 3) := by decide +kernel
theorem dX9_measureWays_60 : decode cX9_measureWays 60 = .ok (.iload_n 3, 1) := by decide +kernel
theorem dX9_measureWays_61 : decode cX9_measureWays 61 = .ok (.ifCond .lt 7, 3) := by decide +kernel
theorem dX9_measureWays_64 : decode cX9_measureWays 64 = .ok (.iconst 1, 1) := by decide +kernel
theorem dX9_measureWays_65 : decode cX9_measureWays 65 = .ok (.goto 4, 3) := by decide +kernel
theorem dX9_measureWays_68 : decode cX9_measureWays 68 = .ok (.iconst 0, 1) := by decide +kernel
theorem dX9_measureWays_69 : decode cX9_measureWays 69 = .ok (.istore 4, 2) := by decide +kernel
theorem dX9_measureWays_71 : decode cX9_measureWays 71 = .ok (.aload_n 0, 1) := by decide +kernel
theorem dX9_measureWays_72 : decode cX9_measureWays 72 = .ok (.getfield 33, 3) := by decide +kernel
theorem dX9_measureWays_75 : decode cX9_measureWays 75 = .ok (.iload_n 1, 1) := by decide +kernel
theorem dX9_measureWays_76 : decode cX9_measureWays 76 = .ok (.bipush 8, 2) := by decide +kernel
theorem dX9_measureWays_78 : decode cX9_measureWays 78 = .ok (.imul, 1) := by decide +kernel
theorem dX9_measureWays_79 : decode cX9_measureWays 79 = .ok (.iload_n 2, 1) := by decide +kernel
theorem dX9_measureWays_80 : decode cX9_measureWays 80 = .ok (.iadd, 1) := by decide +kernel
theorem dX9_measureWays_81 : decode cX9_measureWays 81 = .ok (.iload 4, 2) := by decide +kernel
theorem dX9_measureWays_83 : decode cX9_measureWays 83 = .ok (.ifCond .eq 11, 3) := by decide +kernel
theorem dX9_measureWays_86 : decode cX9_measureWays 86 = .ok (.iload_n 3, 1) := by decide +kernel
theorem dX9_measureWays_87 : decode cX9_measureWays 87 = .ok (.iconst 3, 1) := by decide +kernel
theorem dX9_measureWays_88 : decode cX9_measureWays 88 = .ok (.idiv, 1) := by decide +kernel
theorem dX9_measureWays_89 : decode cX9_measureWays 89 = .ok (.iconst 1, 1) := by decide +kernel
theorem dX9_measureWays_90 : decode cX9_measureWays 90 = .ok (.iadd, 1) := by decide +kernel
theorem dX9_measureWays_91 : decode cX9_measureWays 91 = .ok (.goto 4, 3) := by decide +kernel
theorem dX9_measureWays_94 : decode cX9_measureWays 94 = .ok (.iconst 0, 1) := by decide +kernel
theorem dX9_measureWays_95 : decode cX9_measureWays 95 = .ok (.iastore, 1) := by decide +kernel
theorem dX9_measureWays_96 : decode cX9_measureWays 96 = .ok (.iinc 2 1, 3) := by decide +kernel
theorem dX9_measureWays_99 : decode cX9_measureWays 99 = .ok (.goto (-81), 3) := by decide +kernel
theorem dX9_measureWays_102 : decode cX9_measureWays 102 = .ok (.iinc 1 1, 3) := by decide +kernel
theorem dX9_measureWays_105 : decode cX9_measureWays 105 = .ok (.goto (-103), 3) := by decide +kernel
theorem dX9_measureWays_108 : decode cX9_measureWays 108 = .ok (.return_, 1) := by decide +kernel
theorem dX9_clearOf_0 : decode cX9_clearOf 0 = .ok (.aload_n 0, 1) := by decide +kernel
theorem dX9_clearOf_1 : decode cX9_clearOf 1 = .ok (.iload_n 1, 1) := by decide +kernel
theorem dX9_clearOf_2 : decode cX9_clearOf 2 = .ok (.invokevirtual 86, 3) := by decide +kernel
theorem dX9_clearOf_5 : decode cX9_clearOf 5 = .ok (.ifCond .eq 25, 3) := by decide +kernel
theorem dX9_clearOf_8 : decode cX9_clearOf 8 = .ok (.aload_n 0, 1) := by decide +kernel
theorem dX9_clearOf_9 : decode cX9_clearOf 9 = .ok (.iload_n 2, 1) := by decide +kernel
theorem dX9_clearOf_10 : decode cX9_clearOf 10 = .ok (.invokevirtual 86, 3) := by decide +kernel
theorem dX9_clearOf_13 : decode cX9_clearOf 13 = .ok (.ifCond .eq 17, 3) := by decide +kernel
theorem dX9_clearOf_16 : decode cX9_clearOf 16 = .ok (.aload_n 0, 1) := by decide +kernel
theorem dX9_clearOf_17 : decode cX9_clearOf 17 = .ok (.getfield 33, 3) := by decide +kernel
theorem dX9_clearOf_20 : decode cX9_clearOf 20 = .ok (.iload_n 1, 1) := by decide +kernel
theorem dX9_clearOf_21 : decode cX9_clearOf 21 = .ok (.bipush 8, 2) := by decide +kernel
theorem dX9_clearOf_23 : decode cX9_clearOf 23 = .ok (.imul, 1) := by decide +kernel
theorem dX9_clearOf_24 : decode cX9_clearOf 24 = .ok (.iload_n 2, 1) := by decide +kernel
theorem dX9_clearOf_25 : decode cX9_clearOf 25 = .ok (.iadd, 1) := by decide +kernel
theorem dX9_clearOf_26 : decode cX9_clearOf 26 = .ok (.iaload, 1) := by decide +kernel
theorem dX9_clearOf_27 : decode cX9_clearOf 27 = .ok (.goto 4, 3) := by decide +kernel
theorem dX9_clearOf_30 : decode cX9_clearOf 30 = .ok (.iconst 0, 1) := by decide +kernel
theorem dX9_clearOf_31 : decode cX9_clearOf 31 = .ok (.ireturn, 1) := by decide +kernel
theorem dX9_isHarming_0 : decode cX9_isHarming 0 = .ok (.iload_n 1, 1) := by decide +kernel
theorem dX9_isHarming_1 : decode cX9_isHarming 1 = .ok (.iload_n 2, 1) := by decide +kernel
theorem dX9_isHarming_2 : decode cX9_isHarming 2 = .ok (.if_icmp .ne 5, 3) := by decide +kernel
theorem dX9_isHarming_5 : decode cX9_isHarming 5 = .ok (.iconst 0, 1) := by decide +kernel
theorem dX9_isHarming_6 : decode cX9_isHarming 6 = .ok (.ireturn, 1) := by decide +kernel
theorem dX9_isHarming_7 : decode cX9_isHarming 7 = .ok (.aload_n 0, 1) := by decide +kernel
theorem dX9_isHarming_8 : decode cX9_isHarming 8 = .ok (.iload_n 1, 1) := by decide +kernel
theorem dX9_isHarming_9 : decode cX9_isHarming 9 = .ok (.iload_n 2, 1) := by decide +kernel
theorem dX9_isHarming_10 : decode cX9_isHarming 10 = .ok (.invokevirtual 108, 3) := by decide +kernel
theorem dX9_isHarming_13 : decode cX9_isHarming 13 = .ok (.ifCond .gt 12, 3) := by decide +kernel
theorem dX9_isHarming_16 : decode cX9_isHarming 16 = .ok (.aload_n 0, 1) := by decide +kernel
theorem dX9_isHarming_17 : decode cX9_isHarming 17 = .ok (.iload_n 2, 1) := by decide +kernel
theorem dX9_isHarming_18 : decode cX9_isHarming 18 = .ok (.iload_n 1, 1) := by decide +kernel
theorem dX9_isHarming_19 : decode cX9_isHarming 19 = .ok (.invokevirtual 108, 3) := by decide +kernel
theorem dX9_isHarming_22 : decode cX9_isHarming 22 = .ok (.ifCond .le 7, 3) := by decide +kernel
theorem dX9_isHarming_25 : decode cX9_isHarming 25 = .ok (.iconst 1, 1) := by decide +kernel
theorem dX9_isHarming_26 : decode cX9_isHarming 26 = .ok (.goto 4, 3) := by decide +kernel
theorem dX9_isHarming_29 : decode cX9_isHarming 29 = .ok (.iconst 0, 1) := by decide +kernel
theorem dX9_isHarming_30 : decode cX9_isHarming 30 = .ok (.istore_n 3, 1) := by decide +kernel
theorem dX9_isHarming_31 : decode cX9_isHarming 31 = .ok (.iconst 0, 1) := by decide +kernel
theorem dX9_isHarming_32 : decode cX9_isHarming 32 = .ok (.istore 4, 2) := by decide +kernel
theorem dX9_isHarming_34 : decode cX9_isHarming 34 = .ok (.iload 4, 2) := by decide +kernel
theorem dX9_isHarming_36 : decode cX9_isHarming 36 = .ok (.aload_n 0, 1) := by decide +kernel
theorem dX9_isHarming_37 : decode cX9_isHarming 37 = .ok (.getfield 50, 3) := by decide +kernel
theorem dX9_isHarming_40 : decode cX9_isHarming 40 = .ok (.if_icmp .ge 39, 3) := by decide +kernel
theorem dX9_isHarming_43 : decode cX9_isHarming 43 = .ok (.iload_n 3, 1) := by decide +kernel
theorem dX9_isHarming_44 : decode cX9_isHarming 44 = .ok (.ifCond .ne 35, 3) := by decide +kernel
theorem dX9_isHarming_47 : decode cX9_isHarming 47 = .ok (.aload_n 0, 1) := by decide +kernel
theorem dX9_isHarming_48 : decode cX9_isHarming 48 = .ok (.iload 4, 2) := by decide +kernel
theorem dX9_isHarming_50 : decode cX9_isHarming 50 = .ok (.iload_n 1, 1) := by decide +kernel
theorem dX9_isHarming_51 : decode cX9_isHarming 51 = .ok (.invokevirtual 108, 3) := by decide +kernel
theorem dX9_isHarming_54 : decode cX9_isHarming 54 = .ok (.ifCond .le 17, 3) := by decide +kernel
theorem dX9_isHarming_57 : decode cX9_isHarming 57 = .ok (.aload_n 0, 1) := by decide +kernel
theorem dX9_isHarming_58 : decode cX9_isHarming 58 = .ok (.iload 4, 2) := by decide +kernel
theorem dX9_isHarming_60 : decode cX9_isHarming 60 = .ok (.iload_n 2, 1) := by decide +kernel
theorem dX9_isHarming_61 : decode cX9_isHarming 61 = .ok (.invokevirtual 108, 3) := by decide +kernel
theorem dX9_isHarming_64 : decode cX9_isHarming 64 = .ok (.ifCond .le 7, 3) := by decide +kernel
theorem dX9_isHarming_67 : decode cX9_isHarming 67 = .ok (.iconst 1, 1) := by decide +kernel
theorem dX9_isHarming_68 : decode cX9_isHarming 68 = .ok (.goto 4, 3) := by decide +kernel
theorem dX9_isHarming_71 : decode cX9_isHarming 71 = .ok (.iconst 0, 1) := by decide +kernel
theorem dX9_isHarming_72 : decode cX9_isHarming 72 = .ok (.istore_n 3, 1) := by decide +kernel
theorem dX9_isHarming_73 : decode cX9_isHarming 73 = .ok (.iinc 4 1, 3) := by decide +kernel
theorem dX9_isHarming_76 : decode cX9_isHarming 76 = .ok (.goto (-42), 3) := by decide +kernel
theorem dX9_isHarming_79 : decode cX9_isHarming 79 = .ok (.iload_n 3, 1) := by decide +kernel
theorem dX9_isHarming_80 : decode cX9_isHarming 80 = .ok (.ireturn, 1) := by decide +kernel
theorem dX9_harmedBy_0 : decode cX9_harmedBy 0 = .ok (.iconst 0, 1) := by decide +kernel
theorem dX9_harmedBy_1 : decode cX9_harmedBy 1 = .ok (.istore_n 2, 1) := by decide +kernel
theorem dX9_harmedBy_2 : decode cX9_harmedBy 2 = .ok (.iconst 0, 1) := by decide +kernel
theorem dX9_harmedBy_3 : decode cX9_harmedBy 3 = .ok (.istore_n 3, 1) := by decide +kernel
theorem dX9_harmedBy_4 : decode cX9_harmedBy 4 = .ok (.iload_n 3, 1) := by decide +kernel
theorem dX9_harmedBy_5 : decode cX9_harmedBy 5 = .ok (.aload_n 0, 1) := by decide +kernel
theorem dX9_harmedBy_6 : decode cX9_harmedBy 6 = .ok (.getfield 50, 3) := by decide +kernel
theorem dX9_harmedBy_9 : decode cX9_harmedBy 9 = .ok (.if_icmp .ge 24, 3) := by decide +kernel
theorem dX9_harmedBy_12 : decode cX9_harmedBy 12 = .ok (.aload_n 0, 1) := by decide +kernel
theorem dX9_harmedBy_13 : decode cX9_harmedBy 13 = .ok (.iload_n 1, 1) := by decide +kernel
theorem dX9_harmedBy_14 : decode cX9_harmedBy 14 = .ok (.iload_n 3, 1) := by decide +kernel
theorem dX9_harmedBy_15 : decode cX9_harmedBy 15 = .ok (.invokevirtual 111, 3) := by decide +kernel
theorem dX9_harmedBy_18 : decode cX9_harmedBy 18 = .ok (.ifCond .eq 9, 3) := by decide +kernel
theorem dX9_harmedBy_21 : decode cX9_harmedBy 21 = .ok (.iload_n 2, 1) := by decide +kernel
theorem dX9_harmedBy_22 : decode cX9_harmedBy 22 = .ok (.iconst 1, 1) := by decide +kernel
theorem dX9_harmedBy_23 : decode cX9_harmedBy 23 = .ok (.iload_n 3, 1) := by decide +kernel
theorem dX9_harmedBy_24 : decode cX9_harmedBy 24 = .ok (.ishl, 1) := by decide +kernel
theorem dX9_harmedBy_25 : decode cX9_harmedBy 25 = .ok (.ior, 1) := by decide +kernel
theorem dX9_harmedBy_26 : decode cX9_harmedBy 26 = .ok (.istore_n 2, 1) := by decide +kernel
theorem dX9_harmedBy_27 : decode cX9_harmedBy 27 = .ok (.iinc 3 1, 3) := by decide +kernel
theorem dX9_harmedBy_30 : decode cX9_harmedBy 30 = .ok (.goto (-26), 3) := by decide +kernel
theorem dX9_harmedBy_33 : decode cX9_harmedBy 33 = .ok (.iload_n 2, 1) := by decide +kernel
theorem dX9_harmedBy_34 : decode cX9_harmedBy 34 = .ok (.ireturn, 1) := by decide +kernel
theorem dX9_takenFor_0 : decode cX9_takenFor 0 = .ok (.iconst 0, 1) := by decide +kernel
theorem dX9_takenFor_1 : decode cX9_takenFor 1 = .ok (.istore_n 3, 1) := by decide +kernel
theorem dX9_takenFor_2 : decode cX9_takenFor 2 = .ok (.iload_n 3, 1) := by decide +kernel
theorem dX9_takenFor_3 : decode cX9_takenFor 3 = .ok (.aload_n 0, 1) := by decide +kernel
theorem dX9_takenFor_4 : decode cX9_takenFor 4 = .ok (.getfield 54, 3) := by decide +kernel
theorem dX9_takenFor_7 : decode cX9_takenFor 7 = .ok (.if_icmp .ge 26, 3) := by decide +kernel
theorem dX9_takenFor_10 : decode cX9_takenFor 10 = .ok (.iload_n 2, 1) := by decide +kernel
theorem dX9_takenFor_11 : decode cX9_takenFor 11 = .ok (.iconst 2, 1) := by decide +kernel
theorem dX9_takenFor_12 : decode cX9_takenFor 12 = .ok (.if_icmp .lt 21, 3) := by decide +kernel
theorem dX9_takenFor_15 : decode cX9_takenFor 15 = .ok (.aload_n 0, 1) := by decide +kernel
theorem dX9_takenFor_16 : decode cX9_takenFor 16 = .ok (.iload_n 1, 1) := by decide +kernel
theorem dX9_takenFor_17 : decode cX9_takenFor 17 = .ok (.iload_n 3, 1) := by decide +kernel
theorem dX9_takenFor_18 : decode cX9_takenFor 18 = .ok (.invokevirtual 89, 3) := by decide +kernel
theorem dX9_takenFor_21 : decode cX9_takenFor 21 = .ok (.iload_n 2, 1) := by decide +kernel
theorem dX9_takenFor_22 : decode cX9_takenFor 22 = .ok (.if_icmp .ne 5, 3) := by decide +kernel
theorem dX9_takenFor_25 : decode cX9_takenFor 25 = .ok (.iload_n 3, 1) := by decide +kernel
theorem dX9_takenFor_26 : decode cX9_takenFor 26 = .ok (.ireturn, 1) := by decide +kernel
theorem dX9_takenFor_27 : decode cX9_takenFor 27 = .ok (.iinc 3 1, 3) := by decide +kernel
theorem dX9_takenFor_30 : decode cX9_takenFor 30 = .ok (.goto (-28), 3) := by decide +kernel
theorem dX9_takenFor_33 : decode cX9_takenFor 33 = .ok (.iconst (-1), 1) := by decide +kernel
theorem dX9_takenFor_34 : decode cX9_takenFor 34 = .ok (.ireturn, 1) := by decide +kernel
theorem dX9_understoodAt_0 : decode cX9_understoodAt 0 = .ok (.aload_n 0, 1) := by decide +kernel
theorem dX9_understoodAt_1 : decode cX9_understoodAt 1 = .ok (.iload_n 1, 1) := by decide +kernel
theorem dX9_understoodAt_2 : decode cX9_understoodAt 2 = .ok (.iload_n 2, 1) := by decide +kernel
theorem dX9_understoodAt_3 : decode cX9_understoodAt 3 = .ok (.invokevirtual 108, 3) := by decide +kernel
theorem dX9_understoodAt_6 : decode cX9_understoodAt 6 = .ok (.istore_n 3, 1) := by decide +kernel
theorem dX9_understoodAt_7 : decode cX9_understoodAt 7 = .ok (.iconst 0, 1) := by decide +kernel
theorem dX9_understoodAt_8 : decode cX9_understoodAt 8 = .ok (.istore 4, 2) := by decide +kernel
theorem dX9_understoodAt_10 : decode cX9_understoodAt 10 = .ok (.iconst 0, 1) := by decide +kernel
theorem dX9_understoodAt_11 : decode cX9_understoodAt 11 = .ok (.istore 5, 2) := by decide +kernel
theorem dX9_understoodAt_13 : decode cX9_understoodAt 13 = .ok (.iload 5, 2) := by decide +kernel
theorem dX9_understoodAt_15 : decode cX9_understoodAt 15 = .ok (.aload_n 0, 1) := by decide +kernel
theorem dX9_understoodAt_16 : decode cX9_understoodAt 16 = .ok (.getfield 54, 3) := by decide +kernel
theorem dX9_understoodAt_19 : decode cX9_understoodAt 19 = .ok (.if_icmp .ge 47, 3) := by decide +kernel
theorem dX9_understoodAt_22 : decode cX9_understoodAt 22 = .ok (.iload_n 3, 1) := by decide +kernel
theorem dX9_understoodAt_23 : decode cX9_understoodAt 23 = .ok (.ifCond .le 43, 3) := by decide +kernel
theorem dX9_understoodAt_26 : decode cX9_understoodAt 26 = .ok (.aload_n 0, 1) := by decide +kernel
theorem dX9_understoodAt_27 : decode cX9_understoodAt 27 = .ok (.iload_n 2, 1) := by decide +kernel
theorem dX9_understoodAt_28 : decode cX9_understoodAt 28 = .ok (.iload 5, 2) := by decide +kernel
theorem dX9_understoodAt_30 : decode cX9_understoodAt 30 = .ok (.invokevirtual 89, 3) := by decide +kernel
theorem dX9_understoodAt_33 : decode cX9_understoodAt 33 = .ok (.istore 6, 2) := by decide +kernel
theorem dX9_understoodAt_35 : decode cX9_understoodAt 35 = .ok (.iload 6, 2) := by decide +kernel
theorem dX9_understoodAt_37 : decode cX9_understoodAt 37 = .ok (.iconst (-1), 1) := by decide +kernel
theorem dX9_understoodAt_38 : decode cX9_understoodAt 38 = .ok (.if_icmp .eq 22, 3) := by decide +kernel
theorem dX9_understoodAt_41 : decode cX9_understoodAt 41 = .ok (.aload_n 0, 1) := by decide +kernel
theorem dX9_understoodAt_42 : decode cX9_understoodAt 42 = .ok (.iload_n 2, 1) := by decide +kernel
theorem dX9_understoodAt_43 : decode cX9_understoodAt 43 = .ok (.iload 6, 2) := by decide +kernel
theorem dX9_understoodAt_45 : decode cX9_understoodAt 45 = .ok (.iload_n 3, 1) := by decide +kernel
theorem dX9_understoodAt_46 : decode cX9_understoodAt 46 = .ok (.invokestatic 115, 3) := by decide +kernel
theorem dX9_understoodAt_49 : decode cX9_understoodAt 49 = .ok (.invokevirtual 118, 3) := by decide +kernel
theorem dX9_understoodAt_52 : decode cX9_understoodAt 52 = .ok (.iload 5, 2) := by decide +kernel
theorem dX9_understoodAt_54 : decode cX9_understoodAt 54 = .ok (.if_icmp .ne 6, 3) := by decide +kernel
theorem dX9_understoodAt_57 : decode cX9_understoodAt 57 = .ok (.iinc 4 1, 3) := by decide +kernel
theorem dX9_understoodAt_60 : decode cX9_understoodAt 60 = .ok (.iinc 5 1, 3) := by decide +kernel
theorem dX9_understoodAt_63 : decode cX9_understoodAt 63 = .ok (.goto (-50), 3) := by decide +kernel
theorem dX9_understoodAt_66 : decode cX9_understoodAt 66 = .ok (.iload 4, 2) := by decide +kernel
theorem dX9_understoodAt_68 : decode cX9_understoodAt 68 = .ok (.ireturn, 1) := by decide +kernel
theorem dX9_wordsOfLength_0 : decode cX9_wordsOfLength 0 = .ok (.iconst 0, 1) := by decide +kernel
theorem dX9_wordsOfLength_1 : decode cX9_wordsOfLength 1 = .ok (.istore_n 3, 1) := by decide +kernel
theorem dX9_wordsOfLength_2 : decode cX9_wordsOfLength 2 = .ok (.iconst 0, 1) := by decide +kernel
theorem dX9_wordsOfLength_3 : decode cX9_wordsOfLength 3 = .ok (.istore 4, 2) := by decide +kernel
theorem dX9_wordsOfLength_5 : decode cX9_wordsOfLength 5 = .ok (.iload 4, 2) := by decide +kernel
theorem dX9_wordsOfLength_7 : decode cX9_wordsOfLength 7 = .ok (.aload_n 0, 1) := by decide +kernel
theorem dX9_wordsOfLength_8 : decode cX9_wordsOfLength 8 = .ok (.getfield 54, 3) := by decide +kernel
theorem dX9_wordsOfLength_11 : decode cX9_wordsOfLength 11 = .ok (.if_icmp .ge 42, 3) := by decide +kernel
theorem dX9_wordsOfLength_14 : decode cX9_wordsOfLength 14 = .ok (.aload_n 0, 1) := by decide +kernel
theorem dX9_wordsOfLength_15 : decode cX9_wordsOfLength 15 = .ok (.iload_n 1, 1) := by decide +kernel
theorem dX9_wordsOfLength_16 : decode cX9_wordsOfLength 16 = .ok (.iload 4, 2) := by decide +kernel
theorem dX9_wordsOfLength_18 : decode cX9_wordsOfLength 18 = .ok (.invokevirtual 89, 3) := by decide +kernel
theorem dX9_wordsOfLength_21 : decode cX9_wordsOfLength 21 = .ok (.istore 5, 2) := by decide +kernel
theorem dX9_wordsOfLength_23 : decode cX9_wordsOfLength 23 = .ok (.iload 5, 2) := by decide +kernel
theorem dX9_wordsOfLength_25 : decode cX9_wordsOfLength 25 = .ok (.invokestatic 121, 3) := by decide +kernel
theorem dX9_wordsOfLength_28 : decode cX9_wordsOfLength 28 = .ok (.iload_n 2, 1) := by decide +kernel
theorem dX9_wordsOfLength_29 : decode cX9_wordsOfLength 29 = .ok (.if_icmp .ne 18, 3) := by decide +kernel
theorem dX9_wordsOfLength_32 : decode cX9_wordsOfLength 32 = .ok (.aload_n 0, 1) := by decide +kernel
theorem dX9_wordsOfLength_33 : decode cX9_wordsOfLength 33 = .ok (.iload_n 1, 1) := by decide +kernel
theorem dX9_wordsOfLength_34 : decode cX9_wordsOfLength 34 = .ok (.iload 5, 2) := by decide +kernel
theorem dX9_wordsOfLength_36 : decode cX9_wordsOfLength 36 = .ok (.invokevirtual 118, 3) := by decide +kernel
theorem dX9_wordsOfLength_39 : decode cX9_wordsOfLength 39 = .ok (.iload 4, 2) := by decide +kernel
theorem dX9_wordsOfLength_41 : decode cX9_wordsOfLength 41 = .ok (.if_icmp .ne 6, 3) := by decide +kernel
theorem dX9_wordsOfLength_44 : decode cX9_wordsOfLength 44 = .ok (.iinc 3 1, 3) := by decide +kernel
theorem dX9_wordsOfLength_47 : decode cX9_wordsOfLength 47 = .ok (.iinc 4 1, 3) := by decide +kernel
theorem dX9_wordsOfLength_50 : decode cX9_wordsOfLength 50 = .ok (.goto (-45), 3) := by decide +kernel
theorem dX9_wordsOfLength_53 : decode cX9_wordsOfLength 53 = .ok (.iload_n 3, 1) := by decide +kernel
theorem dX9_wordsOfLength_54 : decode cX9_wordsOfLength 54 = .ok (.ireturn, 1) := by decide +kernel
theorem dX9_clashesOf_0 : decode cX9_clashesOf 0 = .ok (.iconst 0, 1) := by decide +kernel
theorem dX9_clashesOf_1 : decode cX9_clashesOf 1 = .ok (.istore_n 2, 1) := by decide +kernel
theorem dX9_clashesOf_2 : decode cX9_clashesOf 2 = .ok (.iconst 0, 1) := by decide +kernel
theorem dX9_clashesOf_3 : decode cX9_clashesOf 3 = .ok (.istore_n 3, 1) := by decide +kernel
theorem dX9_clashesOf_4 : decode cX9_clashesOf 4 = .ok (.iload_n 3, 1) := by decide +kernel
theorem dX9_clashesOf_5 : decode cX9_clashesOf 5 = .ok (.aload_n 0, 1) := by decide +kernel
theorem dX9_clashesOf_6 : decode cX9_clashesOf 6 = .ok (.getfield 54, 3) := by decide +kernel
theorem dX9_clashesOf_9 : decode cX9_clashesOf 9 = .ok (.if_icmp .ge 66, 3) := by decide +kernel
theorem dX9_clashesOf_12 : decode cX9_clashesOf 12 = .ok (.aload_n 0, 1) := by decide +kernel
theorem dX9_clashesOf_13 : decode cX9_clashesOf 13 = .ok (.iload_n 1, 1) := by decide +kernel
theorem dX9_clashesOf_14 : decode cX9_clashesOf 14 = .ok (.iload_n 3, 1) := by decide +kernel
theorem dX9_clashesOf_15 : decode cX9_clashesOf 15 = .ok (.invokevirtual 89, 3) := by decide +kernel
theorem dX9_clashesOf_18 : decode cX9_clashesOf 18 = .ok (.istore 4, 2) := by decide +kernel
theorem dX9_clashesOf_20 : decode cX9_clashesOf 20 = .ok (.iconst 0, 1) := by decide +kernel
theorem dX9_clashesOf_21 : decode cX9_clashesOf 21 = .ok (.istore 5, 2) := by decide +kernel
theorem dX9_clashesOf_23 : decode cX9_clashesOf 23 = .ok (.iload 5, 2) := by decide +kernel
theorem dX9_clashesOf_25 : decode cX9_clashesOf 25 = .ok (.iload_n 3, 1) := by decide +kernel
theorem dX9_clashesOf_26 : decode cX9_clashesOf 26 = .ok (.if_icmp .ge 43, 3) := by decide +kernel
theorem dX9_clashesOf_29 : decode cX9_clashesOf 29 = .ok (.iload 4, 2) := by decide +kernel
theorem dX9_clashesOf_31 : decode cX9_clashesOf 31 = .ok (.iconst (-1), 1) := by decide +kernel
theorem dX9_clashesOf_32 : decode cX9_clashesOf 32 = .ok (.if_icmp .eq 37, 3) := by decide +kernel
theorem dX9_clashesOf_35 : decode cX9_clashesOf 35 = .ok (.aload_n 0, 1) := by decide +kernel
theorem dX9_clashesOf_36 : decode cX9_clashesOf 36 = .ok (.iload_n 1, 1) := by decide +kernel
theorem dX9_clashesOf_37 : decode cX9_clashesOf 37 = .ok (.iload 5, 2) := by decide +kernel
theorem dX9_clashesOf_39 : decode cX9_clashesOf 39 = .ok (.invokevirtual 89, 3) := by decide +kernel
theorem dX9_clashesOf_42 : decode cX9_clashesOf 42 = .ok (.istore 6, 2) := by decide +kernel
theorem dX9_clashesOf_44 : decode cX9_clashesOf 44 = .ok (.iload 6, 2) := by decide +kernel
theorem dX9_clashesOf_46 : decode cX9_clashesOf 46 = .ok (.iconst (-1), 1) := by decide +kernel
theorem dX9_clashesOf_47 : decode cX9_clashesOf 47 = .ok (.if_icmp .eq 16, 3) := by decide +kernel
theorem dX9_clashesOf_50 : decode cX9_clashesOf 50 = .ok (.iload 4, 2) := by decide +kernel
theorem dX9_clashesOf_52 : decode cX9_clashesOf 52 = .ok (.iload 6, 2) := by decide +kernel
theorem dX9_clashesOf_54 : decode cX9_clashesOf 54 = .ok (.invokestatic 124, 3) := by decide +kernel
theorem dX9_clashesOf_57 : decode cX9_clashesOf 57 = .ok (.ifCond .eq 6, 3) := by decide +kernel
theorem dX9_clashesOf_60 : decode cX9_clashesOf 60 = .ok (.iinc 2 1, 3) := by decide +kernel
theorem dX9_clashesOf_63 : decode cX9_clashesOf 63 = .ok (.iinc 5 1, 3) := by decide +kernel
theorem dX9_clashesOf_66 : decode cX9_clashesOf 66 = .ok (.goto (-43), 3) := by decide +kernel
theorem dX9_clashesOf_69 : decode cX9_clashesOf 69 = .ok (.iinc 3 1, 3) := by decide +kernel
theorem dX9_clashesOf_72 : decode cX9_clashesOf 72 = .ok (.goto (-68), 3) := by decide +kernel
theorem dX9_clashesOf_75 : decode cX9_clashesOf 75 = .ok (.iload_n 2, 1) := by decide +kernel
theorem dX9_clashesOf_76 : decode cX9_clashesOf 76 = .ok (.ireturn, 1) := by decide +kernel
theorem dX9_isClashing_0 : decode cX9_isClashing 0 = .ok (.iconst 0, 1) := by decide +kernel
theorem dX9_isClashing_1 : decode cX9_isClashing 1 = .ok (.istore 4, 2) := by decide +kernel
theorem dX9_isClashing_3 : decode cX9_isClashing 3 = .ok (.iload 4, 2) := by decide +kernel
theorem dX9_isClashing_5 : decode cX9_isClashing 5 = .ok (.aload_n 0, 1) := by decide +kernel
theorem dX9_isClashing_6 : decode cX9_isClashing 6 = .ok (.getfield 54, 3) := by decide +kernel
theorem dX9_isClashing_9 : decode cX9_isClashing 9 = .ok (.if_icmp .ge 41, 3) := by decide +kernel
theorem dX9_isClashing_12 : decode cX9_isClashing 12 = .ok (.aload_n 0, 1) := by decide +kernel
theorem dX9_isClashing_13 : decode cX9_isClashing 13 = .ok (.iload_n 1, 1) := by decide +kernel
theorem dX9_isClashing_14 : decode cX9_isClashing 14 = .ok (.iload 4, 2) := by decide +kernel
theorem dX9_isClashing_16 : decode cX9_isClashing 16 = .ok (.invokevirtual 89, 3) := by decide +kernel
theorem dX9_isClashing_19 : decode cX9_isClashing 19 = .ok (.istore 5, 2) := by decide +kernel
theorem dX9_isClashing_21 : decode cX9_isClashing 21 = .ok (.iload 4, 2) := by decide +kernel
theorem dX9_isClashing_23 : decode cX9_isClashing 23 = .ok (.iload_n 2, 1) := by decide +kernel
theorem dX9_isClashing_24 : decode cX9_isClashing 24 = .ok (.if_icmp .eq 20, 3) := by decide +kernel
theorem dX9_isClashing_27 : decode cX9_isClashing 27 = .ok (.iload 5, 2) := by decide +kernel
theorem dX9_isClashing_29 : decode cX9_isClashing 29 = .ok (.iconst (-1), 1) := by decide +kernel
theorem dX9_isClashing_30 : decode cX9_isClashing 30 = .ok (.if_icmp .eq 14, 3) := by decide +kernel
theorem dX9_isClashing_33 : decode cX9_isClashing 33 = .ok (.iload_n 3, 1) := by decide +kernel
theorem dX9_isClashing_34 : decode cX9_isClashing 34 = .ok (.iload 5, 2) := by decide +kernel
theorem dX9_isClashing_36 : decode cX9_isClashing 36 = .ok (.invokestatic 124, 3) := by decide +kernel
theorem dX9_isClashing_39 : decode cX9_isClashing 39 = .ok (.ifCond .eq 5, 3) := by decide +kernel
theorem dX9_isClashing_42 : decode cX9_isClashing 42 = .ok (.iconst 1, 1) := by decide +kernel
theorem dX9_isClashing_43 : decode cX9_isClashing 43 = .ok (.ireturn, 1) := by decide +kernel
theorem dX9_isClashing_44 : decode cX9_isClashing 44 = .ok (.iinc 4 1, 3) := by decide +kernel
theorem dX9_isClashing_47 : decode cX9_isClashing 47 = .ok (.goto (-44), 3) := by decide +kernel
theorem dX9_isClashing_50 : decode cX9_isClashing 50 = .ok (.iconst 0, 1) := by decide +kernel
theorem dX9_isClashing_51 : decode cX9_isClashing 51 = .ok (.ireturn, 1) := by decide +kernel
theorem dX9_isSafe_0 : decode cX9_isSafe 0 = .ok (.iconst 0, 1) := by decide +kernel
theorem dX9_isSafe_1 : decode cX9_isSafe 1 = .ok (.istore_n 3, 1) := by decide +kernel
theorem dX9_isSafe_2 : decode cX9_isSafe 2 = .ok (.iload_n 3, 1) := by decide +kernel
theorem dX9_isSafe_3 : decode cX9_isSafe 3 = .ok (.aload_n 0, 1) := by decide +kernel
theorem dX9_isSafe_4 : decode cX9_isSafe 4 = .ok (.getfield 54, 3) := by decide +kernel
theorem dX9_isSafe_7 : decode cX9_isSafe 7 = .ok (.if_icmp .ge 70, 3) := by decide +kernel
theorem dX9_isSafe_10 : decode cX9_isSafe 10 = .ok (.aload_n 0, 1) := by decide +kernel
theorem dX9_isSafe_11 : decode cX9_isSafe 11 = .ok (.iload_n 1, 1) := by decide +kernel
theorem dX9_isSafe_12 : decode cX9_isSafe 12 = .ok (.iload_n 3, 1) := by decide +kernel
theorem dX9_isSafe_13 : decode cX9_isSafe 13 = .ok (.invokevirtual 89, 3) := by decide +kernel
theorem dX9_isSafe_16 : decode cX9_isSafe 16 = .ok (.istore 4, 2) := by decide +kernel
theorem dX9_isSafe_18 : decode cX9_isSafe 18 = .ok (.iconst 0, 1) := by decide +kernel
theorem dX9_isSafe_19 : decode cX9_isSafe 19 = .ok (.istore 5, 2) := by decide +kernel
theorem dX9_isSafe_21 : decode cX9_isSafe 21 = .ok (.iload 5, 2) := by decide +kernel
theorem dX9_isSafe_23 : decode cX9_isSafe 23 = .ok (.iload_n 3, 1) := by decide +kernel
theorem dX9_isSafe_24 : decode cX9_isSafe 24 = .ok (.if_icmp .ge 47, 3) := by decide +kernel
theorem dX9_isSafe_27 : decode cX9_isSafe 27 = .ok (.iload 4, 2) := by decide +kernel
theorem dX9_isSafe_29 : decode cX9_isSafe 29 = .ok (.iconst (-1), 1) := by decide +kernel
theorem dX9_isSafe_30 : decode cX9_isSafe 30 = .ok (.if_icmp .eq 41, 3) := by decide +kernel
theorem dX9_isSafe_33 : decode cX9_isSafe 33 = .ok (.aload_n 0, 1) := by decide +kernel
theorem dX9_isSafe_34 : decode cX9_isSafe 34 = .ok (.iload_n 1, 1) := by decide +kernel
theorem dX9_isSafe_35 : decode cX9_isSafe 35 = .ok (.iload 5, 2) := by decide +kernel
theorem dX9_isSafe_37 : decode cX9_isSafe 37 = .ok (.invokevirtual 89, 3) := by decide +kernel
theorem dX9_isSafe_40 : decode cX9_isSafe 40 = .ok (.istore 6, 2) := by decide +kernel
theorem dX9_isSafe_42 : decode cX9_isSafe 42 = .ok (.iload 6, 2) := by decide +kernel
theorem dX9_isSafe_44 : decode cX9_isSafe 44 = .ok (.iconst (-1), 1) := by decide +kernel
theorem dX9_isSafe_45 : decode cX9_isSafe 45 = .ok (.if_icmp .eq 20, 3) := by decide +kernel
theorem dX9_isSafe_48 : decode cX9_isSafe 48 = .ok (.iload 4, 2) := by decide +kernel
theorem dX9_isSafe_50 : decode cX9_isSafe 50 = .ok (.iload_n 2, 1) := by decide +kernel
theorem dX9_isSafe_51 : decode cX9_isSafe 51 = .ok (.invokestatic 115, 3) := by decide +kernel
theorem dX9_isSafe_54 : decode cX9_isSafe 54 = .ok (.iload 6, 2) := by decide +kernel
theorem dX9_isSafe_56 : decode cX9_isSafe 56 = .ok (.iload_n 2, 1) := by decide +kernel
theorem dX9_isSafe_57 : decode cX9_isSafe 57 = .ok (.invokestatic 115, 3) := by decide +kernel
theorem dX9_isSafe_60 : decode cX9_isSafe 60 = .ok (.if_icmp .ne 5, 3) := by decide +kernel
theorem dX9_isSafe_63 : decode cX9_isSafe 63 = .ok (.iconst 0, 1) := by decide +kernel
theorem dX9_isSafe_64 : decode cX9_isSafe 64 = .ok (.ireturn, 1) := by decide +kernel
theorem dX9_isSafe_65 : decode cX9_isSafe 65 = .ok (.iinc 5 1, 3) := by decide +kernel
theorem dX9_isSafe_68 : decode cX9_isSafe 68 = .ok (.goto (-47), 3) := by decide +kernel
theorem dX9_isSafe_71 : decode cX9_isSafe 71 = .ok (.iinc 3 1, 3) := by decide +kernel
theorem dX9_isSafe_74 : decode cX9_isSafe 74 = .ok (.goto (-72), 3) := by decide +kernel
theorem dX9_isSafe_77 : decode cX9_isSafe 77 = .ok (.iconst 1, 1) := by decide +kernel
theorem dX9_isSafe_78 : decode cX9_isSafe 78 = .ok (.ireturn, 1) := by decide +kernel
