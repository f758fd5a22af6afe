theorem dX10_init_0 : decode cX10_init 0 = .ok (.aload_n 0, 1) := by decide +kernel
theorem dX10_init_1 : decode cX10_init 1 = .ok (.invokespecial 3, 3) := by decide +kernel
theorem dX10_init_4 : decode cX10_init 4 = .ok (.aload_n 0, 1) := by decide +kernel
theorem dX10_init_5 : decode cX10_init 5 = .ok (.new 9, 3) := by decide +kernel
theorem dX10_init_8 : decode cX10_init 8 = .ok (.dup, 1) := by decide +kernel
theorem dX10_init_9 : decode cX10_init 9 = .ok (.invokespecial 11, 3) := by decide +kernel
theorem dX10_init_12 : decode cX10_init 12 = .ok (.putfield 12, 3) := by decide +kernel
theorem dX10_init_15 : decode cX10_init 15 = .ok (.return_, 1) := by decide +kernel
theorem dX10_readInto_0 : decode cX10_readInto 0 = .ok (.aload_n 0, 1) := by decide +kernel
theorem dX10_readInto_1 : decode cX10_readInto 1 = .ok (.getfield 12, 3) := by decide +kernel
theorem dX10_readInto_4 : decode cX10_readInto 4 = .ok (.aload_n 2, 1) := by decide +kernel
theorem dX10_readInto_5 : decode cX10_readInto 5 = .ok (.iload_n 3, 1) := by decide +kernel
theorem dX10_readInto_6 : decode cX10_readInto 6 = .ok (.invokevirtual 18, 3) := by decide +kernel
theorem dX10_readInto_9 : decode cX10_readInto 9 = .ok (.iconst 0, 1) := by decide +kernel
theorem dX10_readInto_10 : decode cX10_readInto 10 = .ok (.istore 4, 2) := by decide +kernel
theorem dX10_readInto_12 : decode cX10_readInto 12 = .ok (.iload 4, 2) := by decide +kernel
theorem dX10_readInto_14 : decode cX10_readInto 14 = .ok (.bipush 14, 2) := by decide +kernel
theorem dX10_readInto_16 : decode cX10_readInto 16 = .ok (.if_icmp .gt 28, 3) := by decide +kernel
theorem dX10_readInto_19 : decode cX10_readInto 19 = .ok (.aload_n 0, 1) := by decide +kernel
theorem dX10_readInto_20 : decode cX10_readInto 20 = .ok (.getfield 12, 3) := by decide +kernel
theorem dX10_readInto_23 : decode cX10_readInto 23 = .ok (.iload 4, 2) := by decide +kernel
theorem dX10_readInto_25 : decode cX10_readInto 25 = .ok (.bipush 14, 2) := by decide +kernel
theorem dX10_readInto_27 : decode cX10_readInto 27 = .ok (.invokevirtual 22, 3) := by decide +kernel
theorem dX10_readInto_30 : decode cX10_readInto 30 = .ok (.ifCond .eq 14, 3) := by decide +kernel
theorem dX10_readInto_33 : decode cX10_readInto 33 = .ok (.aload_n 0, 1) := by decide +kernel
theorem dX10_readInto_34 : decode cX10_readInto 34 = .ok (.aload_n 1, 1) := by decide +kernel
theorem dX10_readInto_35 : decode cX10_readInto 35 = .ok (.invokevirtual 26, 3) := by decide +kernel
theorem dX10_readInto_38 : decode cX10_readInto 38 = .ok (.iinc 4 1, 3) := by decide +kernel
theorem dX10_readInto_41 : decode cX10_readInto 41 = .ok (.goto (-29), 3) := by decide +kernel
theorem dX10_readInto_44 : decode cX10_readInto 44 = .ok (.aload_n 0, 1) := by decide +kernel
theorem dX10_readInto_45 : decode cX10_readInto 45 = .ok (.getfield 12, 3) := by decide +kernel
theorem dX10_readInto_48 : decode cX10_readInto 48 = .ok (.getfield 30, 3) := by decide +kernel
theorem dX10_readInto_51 : decode cX10_readInto 51 = .ok (.ireturn, 1) := by decide +kernel
theorem dX10_readLine_0 : decode cX10_readLine 0 = .ok (.aload_n 0, 1) := by decide +kernel
theorem dX10_readLine_1 : decode cX10_readLine 1 = .ok (.getfield 12, 3) := by decide +kernel
theorem dX10_readLine_4 : decode cX10_readLine 4 = .ok (.ldc 34, 2) := by decide +kernel
theorem dX10_readLine_6 : decode cX10_readLine 6 = .ok (.invokevirtual 36, 3) := by decide +kernel
theorem dX10_readLine_9 : decode cX10_readLine 9 = .ok (.ifCond .eq 11, 3) := by decide +kernel
theorem dX10_readLine_12 : decode cX10_readLine 12 = .ok (.aload_n 0, 1) := by decide +kernel
theorem dX10_readLine_13 : decode cX10_readLine 13 = .ok (.aload_n 1, 1) := by decide +kernel
theorem dX10_readLine_14 : decode cX10_readLine 14 = .ok (.invokevirtual 40, 3) := by decide +kernel
theorem dX10_readLine_17 : decode cX10_readLine 17 = .ok (.goto 114, 3) := by decide +kernel
theorem dX10_readLine_20 : decode cX10_readLine 20 = .ok (.aload_n 0, 1) := by decide +kernel
theorem dX10_readLine_21 : decode cX10_readLine 21 = .ok (.getfield 12, 3) := by decide +kernel
theorem dX10_readLine_24 : decode cX10_readLine 24 = .ok (.ldc 43, 2) := by decide +kernel
theorem dX10_readLine_26 : decode cX10_readLine 26 = .ok (.invokevirtual 36, 3) := by decide +kernel
theorem dX10_readLine_29 : decode cX10_readLine 29 = .ok (.ifCond .eq 11, 3) := by decide +kernel
theorem dX10_readLine_32 : decode cX10_readLine 32 = .ok (.aload_n 0, 1) := by decide +kernel
theorem dX10_readLine_33 : decode cX10_readLine 33 = .ok (.aload_n 1, 1) := by decide +kernel
theorem dX10_readLine_34 : decode cX10_readLine 34 = .ok (.invokevirtual 45, 3) := by decide +kernel
theorem dX10_readLine_37 : decode cX10_readLine 37 = .ok (.goto 94, 3) := by decide +kernel
theorem dX10_readLine_40 : decode cX10_readLine 40 = .ok (.aload_n 0, 1) := by decide +kernel
theorem dX10_readLine_41 : decode cX10_readLine 41 = .ok (.getfield 12, 3) := by decide +kernel
theorem dX10_readLine_44 : decode cX10_readLine 44 = .ok (.ldc 48, 2) := by decide +kernel
theorem dX10_readLine_46 : decode cX10_readLine 46 = .ok (.invokevirtual 50, 3) := by decide +kernel
theorem dX10_readLine_49 : decode cX10_readLine 49 = .ok (.ifCond .eq 12, 3) := by decide +kernel
theorem dX10_readLine_52 : decode cX10_readLine 52 = .ok (.aload_n 0, 1) := by decide +kernel
theorem dX10_readLine_53 : decode cX10_readLine 53 = .ok (.aload_n 1, 1) := by decide +kernel
theorem dX10_readLine_54 : decode cX10_readLine 54 = .ok (.iconst 1, 1) := by decide +kernel
theorem dX10_readLine_55 : decode cX10_readLine 55 = .ok (.invokevirtual 53, 3) := by decide +kernel
theorem dX10_readLine_58 : decode cX10_readLine 58 = .ok (.goto 73, 3) := by decide +kernel
theorem dX10_readLine_61 : decode cX10_readLine 61 = .ok (.aload_n 0, 1) := by decide +kernel
theorem dX10_readLine_62 : decode cX10_readLine 62 = .ok (.getfield 12, 3) := by decide +kernel
theorem dX10_readLine_65 : decode cX10_readLine 65 = .ok (.ldc 57, 2) := by decide +kernel
theorem dX10_readLine_67 : decode cX10_readLine 67 = .ok (.invokevirtual 50, 3) := by decide +kernel
theorem dX10_readLine_70 : decode cX10_readLine 70 = .ok (.ifCond .eq 12, 3) := by decide +kernel
theorem dX10_readLine_73 : decode cX10_readLine 73 = .ok (.aload_n 0, 1) := by decide +kernel
theorem dX10_readLine_74 : decode cX10_readLine 74 = .ok (.aload_n 1, 1) := by decide +kernel
theorem dX10_readLine_75 : decode cX10_readLine 75 = .ok (.iconst 0, 1) := by decide +kernel
theorem dX10_readLine_76 : decode cX10_readLine 76 = .ok (.invokevirtual 53, 3) := by decide +kernel
theorem dX10_readLine_79 : decode cX10_readLine 79 = .ok (.goto 52, 3) := by decide +kernel
theorem dX10_readLine_82 : decode cX10_readLine 82 = .ok (.aload_n 0, 1) := by decide +kernel
theorem dX10_readLine_83 : decode cX10_readLine 83 = .ok (.getfield 12, 3) := by decide +kernel
theorem dX10_readLine_86 : decode cX10_readLine 86 = .ok (.ldc 59, 2) := by decide +kernel
theorem dX10_readLine_88 : decode cX10_readLine 88 = .ok (.invokevirtual 50, 3) := by decide +kernel
theorem dX10_readLine_91 : decode cX10_readLine 91 = .ok (.ifCond .eq 12, 3) := by decide +kernel
theorem dX10_readLine_94 : decode cX10_readLine 94 = .ok (.aload_n 0, 1) := by decide +kernel
theorem dX10_readLine_95 : decode cX10_readLine 95 = .ok (.aload_n 1, 1) := by decide +kernel
theorem dX10_readLine_96 : decode cX10_readLine 96 = .ok (.iconst 1, 1) := by decide +kernel
theorem dX10_readLine_97 : decode cX10_readLine 97 = .ok (.invokevirtual 61, 3) := by decide +kernel
theorem dX10_readLine_100 : decode cX10_readLine 100 = .ok (.goto 31, 3) := by decide +kernel
theorem dX10_readLine_103 : decode cX10_readLine 103 = .ok (.aload_n 0, 1) := by decide +kernel
theorem dX10_readLine_104 : decode cX10_readLine 104 = .ok (.getfield 12, 3) := by decide +kernel
theorem dX10_readLine_107 : decode cX10_readLine 107 = .ok (.ldc 65, 2) := by decide +kernel
theorem dX10_readLine_109 : decode cX10_readLine 109 = .ok (.invokevirtual 50, 3) := by decide +kernel
theorem dX10_readLine_112 : decode cX10_readLine 112 = .ok (.ifCond .eq 12, 3) := by decide +kernel
theorem dX10_readLine_115 : decode cX10_readLine 115 = .ok (.aload_n 0, 1) := by decide +kernel
theorem dX10_readLine_116 : decode cX10_readLine 116 = .ok (.aload_n 1, 1) := by decide +kernel
theorem dX10_readLine_117 : decode cX10_readLine 117 = .ok (.iconst (-1), 1) := by decide +kernel
theorem dX10_readLine_118 : decode cX10_readLine 118 = .ok (.invokevirtual 61, 3) := by decide +kernel
theorem dX10_readLine_121 : decode cX10_readLine 121 = .ok (.goto 10, 3) := by decide +kernel
theorem dX10_readLine_124 : decode cX10_readLine 124 = .ok (.aload_n 0, 1) := by decide +kernel
theorem dX10_readLine_125 : decode cX10_readLine 125 = .ok (.getfield 12, 3) := by decide +kernel
theorem dX10_readLine_128 : decode cX10_readLine 128 = .ok (.invokevirtual 67, 3) := by decide +kernel
theorem dX10_readLine_131 : decode cX10_readLine 131 = .ok (.return_, 1) := by decide +kernel
theorem dX10_readHouse_0 : decode cX10_readHouse 0 = .ok (.aload_n 1, 1) := by decide +kernel
theorem dX10_readHouse_1 : decode cX10_readHouse 1 = .ok (.getfield 70, 3) := by decide +kernel
theorem dX10_readHouse_4 : decode cX10_readHouse 4 = .ok (.istore_n 2, 1) := by decide +kernel
theorem dX10_readHouse_5 : decode cX10_readHouse 5 = .ok (.iload_n 2, 1) := by decide +kernel
theorem dX10_readHouse_6 : decode cX10_readHouse 6 = .ok (.ifCond .lt 9, 3) := by decide +kernel
theorem dX10_readHouse_9 : decode cX10_readHouse 9 = .ok (.iload_n 2, 1) := by decide +kernel
theorem dX10_readHouse_10 : decode cX10_readHouse 10 = .ok (.bipush 8, 2) := by decide +kernel
theorem dX10_readHouse_12 : decode cX10_readHouse 12 = .ok (.if_icmp .lt 11, 3) := by decide +kernel
theorem dX10_readHouse_15 : decode cX10_readHouse 15 = .ok (.aload_n 0, 1) := by decide +kernel
theorem dX10_readHouse_16 : decode cX10_readHouse 16 = .ok (.getfield 12, 3) := by decide +kernel
theorem dX10_readHouse_19 : decode cX10_readHouse 19 = .ok (.invokevirtual 67, 3) := by decide +kernel
theorem dX10_readHouse_22 : decode cX10_readHouse 22 = .ok (.return_, 1) := by decide +kernel
theorem dX10_readHouse_23 : decode cX10_readHouse 23 = .ok (.aload_n 0, 1) := by decide +kernel
theorem dX10_readHouse_24 : decode cX10_readHouse 24 = .ok (.getfield 12, 3) := by decide +kernel
theorem dX10_readHouse_27 : decode cX10_readHouse 27 = .ok (.invokevirtual 75, 3) := by decide +kernel
theorem dX10_readHouse_30 : decode cX10_readHouse 30 = .ok (.aload_n 1, 1) := by decide +kernel
theorem dX10_readHouse_31 : decode cX10_readHouse 31 = .ok (.getfield 78, 3) := by decide +kernel
theorem dX10_readHouse_34 : decode cX10_readHouse 34 = .ok (.iload_n 2, 1) := by decide +kernel
theorem dX10_readHouse_35 : decode cX10_readHouse 35 = .ok (.aload_n 0, 1) := by decide +kernel
theorem dX10_readHouse_36 : decode cX10_readHouse 36 = .ok (.getfield 12, 3) := by decide +kernel
theorem dX10_readHouse_39 : decode cX10_readHouse 39 = .ok (.iconst 0, 1) := by decide +kernel
theorem dX10_readHouse_40 : decode cX10_readHouse 40 = .ok (.bipush 15, 2) := by decide +kernel
theorem dX10_readHouse_42 : decode cX10_readHouse 42 = .ok (.invokevirtual 82, 3) := by decide +kernel
theorem dX10_readHouse_45 : decode cX10_readHouse 45 = .ok (.iastore, 1) := by decide +kernel
theorem dX10_readHouse_46 : decode cX10_readHouse 46 = .ok (.aload_n 1, 1) := by decide +kernel
theorem dX10_readHouse_47 : decode cX10_readHouse 47 = .ok (.getfield 86, 3) := by decide +kernel
theorem dX10_readHouse_50 : decode cX10_readHouse 50 = .ok (.iload_n 2, 1) := by decide +kernel
theorem dX10_readHouse_51 : decode cX10_readHouse 51 = .ok (.aload_n 0, 1) := by decide +kernel
theorem dX10_readHouse_52 : decode cX10_readHouse 52 = .ok (.getfield 12, 3) := by decide +kernel
theorem dX10_readHouse_55 : decode cX10_readHouse 55 = .ok (.iconst 0, 1) := by decide +kernel
theorem dX10_readHouse_56 : decode cX10_readHouse 56 = .ok (.bipush 15, 2) := by decide +kernel
theorem dX10_readHouse_58 : decode cX10_readHouse 58 = .ok (.invokevirtual 82, 3) := by decide +kernel
theorem dX10_readHouse_61 : decode cX10_readHouse 61 = .ok (.iastore, 1) := by decide +kernel
theorem dX10_readHouse_62 : decode cX10_readHouse 62 = .ok (.aload_n 1, 1) := by decide +kernel
theorem dX10_readHouse_63 : decode cX10_readHouse 63 = .ok (.getfield 89, 3) := by decide +kernel
theorem dX10_readHouse_66 : decode cX10_readHouse 66 = .ok (.iload_n 2, 1) := by decide +kernel
theorem dX10_readHouse_67 : decode cX10_readHouse 67 = .ok (.aload_n 0, 1) := by decide +kernel
theorem dX10_readHouse_68 : decode cX10_readHouse 68 = .ok (.getfield 12, 3) := by decide +kernel
theorem dX10_readHouse_71 : decode cX10_readHouse 71 = .ok (.iconst 1, 1) := by decide +kernel
theorem dX10_readHouse_72 : decode cX10_readHouse 72 = .ok (.bipush 30, 2) := by decide +kernel
theorem dX10_readHouse_74 : decode cX10_readHouse 74 = .ok (.invokevirtual 82, 3) := by decide +kernel
theorem dX10_readHouse_77 : decode cX10_readHouse 77 = .ok (.iastore, 1) := by decide +kernel
theorem dX10_readHouse_78 : decode cX10_readHouse 78 = .ok (.aload_n 1, 1) := by decide +kernel
theorem dX10_readHouse_79 : decode cX10_readHouse 79 = .ok (.getfield 92, 3) := by decide +kernel
theorem dX10_readHouse_82 : decode cX10_readHouse 82 = .ok (.iload_n 2, 1) := by decide +kernel
theorem dX10_readHouse_83 : decode cX10_readHouse 83 = .ok (.aload_n 0, 1) := by decide +kernel
theorem dX10_readHouse_84 : decode cX10_readHouse 84 = .ok (.getfield 12, 3) := by decide +kernel
theorem dX10_readHouse_87 : decode cX10_readHouse 87 = .ok (.iconst 0, 1) := by decide +kernel
theorem dX10_readHouse_88 : decode cX10_readHouse 88 = .ok (.sipush 999, 3) := by decide +kernel
theorem dX10_readHouse_91 : decode cX10_readHouse 91 = .ok (.invokevirtual 82, 3) := by decide +kernel
theorem dX10_readHouse_94 : decode cX10_readHouse 94 = .ok (.iastore, 1) := by decide +kernel
theorem dX10_readHouse_95 : decode cX10_readHouse 95 = .ok (.aload_n 1, 1) := by decide +kernel
theorem dX10_readHouse_96 : decode cX10_readHouse 96 = .ok (.getfield 95, 3) := by decide +kernel
theorem dX10_readHouse_99 : decode cX10_readHouse 99 = .ok (.iload_n 2, 1) := by decide +kernel
theorem dX10_readHouse_100 : decode cX10_readHouse 100 = .ok (.aload_n 0, 1) := by decide +kernel
theorem dX10_readHouse_101 : decode cX10_readHouse 101 = .ok (.getfield 12, 3) := by decide +kernel
theorem dX10_readHouse_104 : decode cX10_readHouse 104 = .ok (.ldc 98, 2) := by decide +kernel
theorem dX10_readHouse_106 : decode cX10_readHouse 106 = .ok (.invokevirtual 50, 3) := by decide +kernel
theorem dX10_readHouse_109 : decode cX10_readHouse 109 = .ok (.ifCond .eq 7, 3) := by decide +kernel
theorem dX10_readHouse_112 : decode cX10_readHouse 112 = .ok (.iconst 1, 1) := by decide +kernel
theorem dX10_readHouse_113 : decode cX10_readHouse 113 = .ok (.goto 4, 3) := by decide +kernel
theorem dX10_readHouse_116 : decode cX10_readHouse 116 = .ok (.iconst 0, 1) := by decide +kernel
theorem dX10_readHouse_117 : decode cX10_readHouse 117 = .ok (.iastore, 1) := by decide +kernel
theorem dX10_readHouse_118 : decode cX10_readHouse 118 = .ok (.aload_n 1, 1) := by decide +kernel
theorem dX10_readHouse_119 : decode cX10_readHouse 119 = .ok (.dup, 1) := by decide +kernel
theorem dX10_readHouse_120 : decode cX10_readHouse 120 = .ok (.getfield 70, 3) := by decide +kernel
theorem dX10_readHouse_123 : decode cX10_readHouse 123 = .ok (.iconst 1, 1) := by decide +kernel
theorem dX10_readHouse_124 : decode cX10_readHouse 124 = .ok (.iadd, 1) := by decide +kernel
theorem dX10_readHouse_125 : decode cX10_readHouse 125 = .ok (.putfield 70, 3) := by decide +kernel
theorem dX10_readHouse_128 : decode cX10_readHouse 128 = .ok (.return_, 1) := by decide +kernel
theorem dX10_readWant_0 : decode cX10_readWant 0 = .ok (.aload_n 1, 1) := by decide +kernel
theorem dX10_readWant_1 : decode cX10_readWant 1 = .ok (.getfield 99, 3) := by decide +kernel
theorem dX10_readWant_4 : decode cX10_readWant 4 = .ok (.istore_n 2, 1) := by decide +kernel
theorem dX10_readWant_5 : decode cX10_readWant 5 = .ok (.iload_n 2, 1) := by decide +kernel
theorem dX10_readWant_6 : decode cX10_readWant 6 = .ok (.ifCond .lt 9, 3) := by decide +kernel
theorem dX10_readWant_9 : decode cX10_readWant 9 = .ok (.iload_n 2, 1) := by decide +kernel
theorem dX10_readWant_10 : decode cX10_readWant 10 = .ok (.bipush 10, 2) := by decide +kernel
theorem dX10_readWant_12 : decode cX10_readWant 12 = .ok (.if_icmp .lt 11, 3) := by decide +kernel
theorem dX10_readWant_15 : decode cX10_readWant 15 = .ok (.aload_n 0, 1) := by decide +kernel
theorem dX10_readWant_16 : decode cX10_readWant 16 = .ok (.getfield 12, 3) := by decide +kernel
theorem dX10_readWant_19 : decode cX10_readWant 19 = .ok (.invokevirtual 67, 3) := by decide +kernel
theorem dX10_readWant_22 : decode cX10_readWant 22 = .ok (.return_, 1) := by decide +kernel
theorem dX10_readWant_23 : decode cX10_readWant 23 = .ok (.aload_n 0, 1) := by decide +kernel
theorem dX10_readWant_24 : decode cX10_readWant 24 = .ok (.getfield 12, 3) := by decide +kernel
theorem dX10_readWant_27 : decode cX10_readWant 27 = .ok (.invokevirtual 75, 3) := by decide +kernel
theorem dX10_readWant_30 : decode cX10_readWant 30 = .ok (.aload_n 1, 1) := by decide +kernel
theorem dX10_readWant_31 : decode cX10_readWant 31 = .ok (.getfield 102, 3) := by decide +kernel
theorem dX10_readWant_34 : decode cX10_readWant 34 = .ok (.iload_n 2, 1) := by decide +kernel
theorem dX10_readWant_35 : decode cX10_readWant 35 = .ok (.aload_n 0, 1) := by decide +kernel
theorem dX10_readWant_36 : decode cX10_readWant 36 = .ok (.getfield 12, 3) := by decide +kernel
theorem dX10_readWant_39 : decode cX10_readWant 39 = .ok (.iconst 1, 1) := by decide +kernel
theorem dX10_readWant_40 : decode cX10_readWant 40 = .ok (.bipush 99, 2) := by decide +kernel
theorem dX10_readWant_42 : decode cX10_readWant 42 = .ok (.invokevirtual 82, 3) := by decide +kernel
theorem dX10_readWant_45 : decode cX10_readWant 45 = .ok (.iastore, 1) := by decide +kernel
theorem dX10_readWant_46 : decode cX10_readWant 46 = .ok (.aload_n 1, 1) := by decide +kernel
theorem dX10_readWant_47 : decode cX10_readWant 47 = .ok (.dup, 1) := by decide +kernel
theorem dX10_readWant_48 : decode cX10_readWant 48 = .ok (.getfield 99, 3) := by decide +kernel
theorem dX10_readWant_51 : decode cX10_readWant 51 = .ok (.iconst 1, 1) := by decide +kernel
theorem dX10_readWant_52 : decode cX10_readWant 52 = .ok (.iadd, 1) := by decide +kernel
theorem dX10_readWant_53 : decode cX10_readWant 53 = .ok (.putfield 99, 3) := by decide +kernel
theorem dX10_readWant_56 : decode cX10_readWant 56 = .ok (.return_, 1) := by decide +kernel
theorem dX10_readCode_0 : decode cX10_readCode 0 = .ok (.aload_n 0, 1) := by decide +kernel
theorem dX10_readCode_1 : decode cX10_readCode 1 = .ok (.getfield 12, 3) := by decide +kernel
theorem dX10_readCode_4 : decode cX10_readCode 4 = .ok (.iconst 0, 1) := by decide +kernel
theorem dX10_readCode_5 : decode cX10_readCode 5 = .ok (.aload_n 1, 1) := by decide +kernel
theorem dX10_readCode_6 : decode cX10_readCode 6 = .ok (.getfield 70, 3) := by decide +kernel
theorem dX10_readCode_9 : decode cX10_readCode 9 = .ok (.iconst 1, 1) := by decide +kernel
theorem dX10_readCode_10 : decode cX10_readCode 10 = .ok (.isub, 1) := by decide +kernel
theorem dX10_readCode_11 : decode cX10_readCode 11 = .ok (.invokevirtual 82, 3) := by decide +kernel
theorem dX10_readCode_14 : decode cX10_readCode 14 = .ok (.istore_n 3, 1) := by decide +kernel
theorem dX10_readCode_15 : decode cX10_readCode 15 = .ok (.aload_n 0, 1) := by decide +kernel
theorem dX10_readCode_16 : decode cX10_readCode 16 = .ok (.getfield 12, 3) := by decide +kernel
theorem dX10_readCode_19 : decode cX10_readCode 19 = .ok (.iconst 0, 1) := by decide +kernel
theorem dX10_readCode_20 : decode cX10_readCode 20 = .ok (.aload_n 1, 1) := by decide +kernel
theorem dX10_readCode_21 : decode cX10_readCode 21 = .ok (.getfield 99, 3) := by decide +kernel
theorem dX10_readCode_24 : decode cX10_readCode 24 = .ok (.iconst 1, 1) := by decide +kernel
theorem dX10_readCode_25 : decode cX10_readCode 25 = .ok (.isub, 1) := by decide +kernel
theorem dX10_readCode_26 : decode cX10_readCode 26 = .ok (.invokevirtual 82, 3) := by decide +kernel
theorem dX10_readCode_29 : decode cX10_readCode 29 = .ok (.istore 4, 2) := by decide +kernel
theorem dX10_readCode_31 : decode cX10_readCode 31 = .ok (.iload_n 2, 1) := by decide +kernel
theorem dX10_readCode_32 : decode cX10_readCode 32 = .ok (.ifCond .eq 13, 3) := by decide +kernel
theorem dX10_readCode_35 : decode cX10_readCode 35 = .ok (.aload_n 0, 1) := by decide +kernel
theorem dX10_readCode_36 : decode cX10_readCode 36 = .ok (.getfield 12, 3) := by decide +kernel
theorem dX10_readCode_39 : decode cX10_readCode 39 = .ok (.invokevirtual 105, 3) := by decide +kernel
theorem dX10_readCode_42 : decode cX10_readCode 42 = .ok (.goto 4, 3) := by decide +kernel
theorem dX10_readCode_45 : decode cX10_readCode 45 = .ok (.iconst (-1), 1) := by decide +kernel
theorem dX10_readCode_46 : decode cX10_readCode 46 = .ok (.istore 5, 2) := by decide +kernel
theorem dX10_readCode_48 : decode cX10_readCode 48 = .ok (.aload_n 1, 1) := by decide +kernel
theorem dX10_readCode_49 : decode cX10_readCode 49 = .ok (.iload_n 3, 1) := by decide +kernel
theorem dX10_readCode_50 : decode cX10_readCode 50 = .ok (.iload 4, 2) := by decide +kernel
theorem dX10_readCode_52 : decode cX10_readCode 52 = .ok (.iload 5, 2) := by decide +kernel
theorem dX10_readCode_54 : decode cX10_readCode 54 = .ok (.invokevirtual 109, 3) := by decide +kernel
theorem dX10_readCode_57 : decode cX10_readCode 57 = .ok (.return_, 1) := by decide +kernel
theorem dX10_readWind_0 : decode cX10_readWind 0 = .ok (.aload_n 1, 1) := by decide +kernel
theorem dX10_readWind_1 : decode cX10_readWind 1 = .ok (.iload_n 2, 1) := by decide +kernel
theorem dX10_readWind_2 : decode cX10_readWind 2 = .ok (.aload_n 0, 1) := by decide +kernel
theorem dX10_readWind_3 : decode cX10_readWind 3 = .ok (.getfield 12, 3) := by decide +kernel
theorem dX10_readWind_6 : decode cX10_readWind 6 = .ok (.iconst 0, 1) := by decide +kernel
theorem dX10_readWind_7 : decode cX10_readWind 7 = .ok (.bipush 9, 2) := by decide +kernel
theorem dX10_readWind_9 : decode cX10_readWind 9 = .ok (.invokevirtual 82, 3) := by decide +kernel
theorem dX10_readWind_12 : decode cX10_readWind 12 = .ok (.imul, 1) := by decide +kernel
theorem dX10_readWind_13 : decode cX10_readWind 13 = .ok (.putfield 113, 3) := by decide +kernel
theorem dX10_readWind_16 : decode cX10_readWind 16 = .ok (.aload_n 1, 1) := by decide +kernel
theorem dX10_readWind_17 : decode cX10_readWind 17 = .ok (.iload_n 2, 1) := by decide +kernel
theorem dX10_readWind_18 : decode cX10_readWind 18 = .ok (.aload_n 0, 1) := by decide +kernel
theorem dX10_readWind_19 : decode cX10_readWind 19 = .ok (.getfield 12, 3) := by decide +kernel
theorem dX10_readWind_22 : decode cX10_readWind 22 = .ok (.iconst 0, 1) := by decide +kernel
theorem dX10_readWind_23 : decode cX10_readWind 23 = .ok (.bipush 9, 2) := by decide +kernel
theorem dX10_readWind_25 : decode cX10_readWind 25 = .ok (.invokevirtual 82, 3) := by decide +kernel
theorem dX10_readWind_28 : decode cX10_readWind 28 = .ok (.imul, 1) := by decide +kernel
theorem dX10_readWind_29 : decode cX10_readWind 29 = .ok (.putfield 116, 3) := by decide +kernel
theorem dX10_readWind_32 : decode cX10_readWind 32 = .ok (.return_, 1) := by decide +kernel
theorem dX11_init_0 : decode cX11_init 0 = .ok (.aload_n 0, 1) := by decide +kernel
theorem dX11_init_1 : decode cX11_init 1 = .ok (.invokespecial 1, 3) := by decide +kernel
theorem dX11_init_4 : decode cX11_init 4 = .ok (.aload_n 0, 1) := by decide +kernel
theorem dX11_init_5 : decode cX11_init 5 = .ok (.sipush 400, 3) := by decide +kernel
theorem dX11_init_8 : decode cX11_init 8 = .ok (.newarray .byte, 2) := by decide +kernel
theorem dX11_init_10 : decode cX11_init 10 = .ok (.putfield 9, 3) := by decide +kernel
theorem dX11_init_13 : decode cX11_init 13 = .ok (.aload_n 0, 1) := by decide +kernel
theorem dX11_init_14 : decode cX11_init 14 = .ok (.iconst (-1), 1) := by decide +kernel
theorem dX11_init_15 : decode cX11_init 15 = .ok (.putfield 13, 3) := by decide +kernel
theorem dX11_init_18 : decode cX11_init 18 = .ok (.aload_n 0, 1) := by decide +kernel
theorem dX11_init_19 : decode cX11_init 19 = .ok (.new 17, 3) := by decide +kernel
theorem dX11_init_22 : decode cX11_init 22 = .ok (.dup, 1) := by decide +kernel
theorem dX11_init_23 : decode cX11_init 23 = .ok (.invokespecial 19, 3) := by decide +kernel
theorem dX11_init_26 : decode cX11_init 26 = .ok (.putfield 20, 3) := by decide +kernel
theorem dX11_init_29 : decode cX11_init 29 = .ok (.aload_n 0, 1) := by decide +kernel
theorem dX11_init_30 : decode cX11_init 30 = .ok (.new 17, 3) := by decide +kernel
theorem dX11_init_33 : decode cX11_init 33 = .ok (.dup, 1) := by decide +kernel
theorem dX11_init_34 : decode cX11_init 34 = .ok (.invokespecial 19, 3) := by decide +kernel
theorem dX11_init_37 : decode cX11_init 37 = .ok (.putfield 24, 3) := by decide +kernel
theorem dX11_init_40 : decode cX11_init 40 = .ok (.aload_n 0, 1) := by decide +kernel
theorem dX11_init_41 : decode cX11_init 41 = .ok (.new 17, 3) := by decide +kernel
theorem dX11_init_44 : decode cX11_init 44 = .ok (.dup, 1) := by decide +kernel
theorem dX11_init_45 : decode cX11_init 45 = .ok (.invokespecial 19, 3) := by decide +kernel
theorem dX11_init_48 : decode cX11_init 48 = .ok (.putfield 27, 3) := by decide +kernel
theorem dX11_init_51 : decode cX11_init 51 = .ok (.aload_n 0, 1) := by decide +kernel
theorem dX11_init_52 : decode cX11_init 52 = .ok (.new 30, 3) := by decide +kernel
theorem dX11_init_55 : decode cX11_init 55 = .ok (.dup, 1) := by decide +kernel
theorem dX11_init_56 : decode cX11_init 56 = .ok (.invokespecial 32, 3) := by decide +kernel
theorem dX11_init_59 : decode cX11_init 59 = .ok (.putfield 33, 3) := by decide +kernel
theorem dX11_init_62 : decode cX11_init 62 = .ok (.aload_n 0, 1) := by decide +kernel
theorem dX11_init_63 : decode cX11_init 63 = .ok (.bipush 61, 2) := by decide +kernel
theorem dX11_init_65 : decode cX11_init 65 = .ok (.newarray .int, 2) := by decide +kernel
theorem dX11_init_67 : decode cX11_init 67 = .ok (.putfield 37, 3) := by decide +kernel
theorem dX11_init_70 : decode cX11_init 70 = .ok (.aload_n 0, 1) := by decide +kernel
theorem dX11_init_71 : decode cX11_init 71 = .ok (.new 41, 3) := by decide +kernel
theorem dX11_init_74 : decode cX11_init 74 = .ok (.dup, 1) := by decide +kernel
theorem dX11_init_75 : decode cX11_init 75 = .ok (.invokespecial 43, 3) := by decide +kernel
theorem dX11_init_78 : decode cX11_init 78 = .ok (.putfield 44, 3) := by decide +kernel
theorem dX11_init_81 : decode cX11_init 81 = .ok (.aload_n 0, 1) := by decide +kernel
theorem dX11_init_82 : decode cX11_init 82 = .ok (.new 48, 3) := by decide +kernel
theorem dX11_init_85 : decode cX11_init 85 = .ok (.dup, 1) := by decide +kernel
theorem dX11_init_86 : decode cX11_init 86 = .ok (.invokespecial 50, 3) := by decide +kernel
theorem dX11_init_89 : decode cX11_init 89 = .ok (.putfield 51, 3) := by decide +kernel
theorem dX11_init_92 : decode cX11_init 92 = .ok (.aload_n 0, 1) := by decide +kernel
theorem dX11_init_93 : decode cX11_init 93 = .ok (.new 55, 3) := by decide +kernel
theorem dX11_init_96 : decode cX11_init 96 = .ok (.dup, 1) := by decide +kernel
theorem dX11_init_97 : decode cX11_init 97 = .ok (.invokespecial 57, 3) := by decide +kernel
theorem dX11_init_100 : decode cX11_init 100 = .ok (.putfield 58, 3) := by decide +kernel
theorem dX11_init_103 : decode cX11_init 103 = .ok (.aload_n 0, 1) := by decide +kernel
theorem dX11_init_104 : decode cX11_init 104 = .ok (.new 62, 3) := by decide +kernel
theorem dX11_init_107 : decode cX11_init 107 = .ok (.dup, 1) := by decide +kernel
theorem dX11_init_108 : decode cX11_init 108 = .ok (.invokespecial 64, 3) := by decide +kernel
theorem dX11_init_111 : decode cX11_init 111 = .ok (.putfield 65, 3) := by decide +kernel
theorem dX11_init_114 : decode cX11_init 114 = .ok (.aload_n 0, 1) := by decide +kernel
theorem dX11_init_115 : decode cX11_init 115 = .ok (.new 69, 3) := by decide +kernel
theorem dX11_init_118 : decode cX11_init 118 = .ok (.dup, 1) := by decide +kernel
theorem dX11_init_119 : decode cX11_init 119 = .ok (.invokespecial 71, 3) := by decide +kernel
theorem dX11_init_122 : decode cX11_init 122 = .ok (.putfield 72, 3) := by decide +kernel
theorem dX11_init_125 : decode cX11_init 125 = .ok (.aload_n 0, 1) := by decide +kernel
theorem dX11_init_126 : decode cX11_init 126 = .ok (.new 76, 3) := by decide +kernel
theorem dX11_init_129 : decode cX11_init 129 = .ok (.dup, 1) := by decide +kernel
theorem dX11_init_130 : decode cX11_init 130 = .ok (.invokespecial 78, 3) := by decide +kernel
theorem dX11_init_133 : decode cX11_init 133 = .ok (.putfield 79, 3) := by decide +kernel
theorem dX11_init_136 : decode cX11_init 136 = .ok (.aload_n 0, 1) := by decide +kernel
theorem dX11_init_137 : decode cX11_init 137 = .ok (.new 83, 3) := by decide +kernel
theorem dX11_init_140 : decode cX11_init 140 = .ok (.dup, 1) := by decide +kernel
theorem dX11_init_141 : decode cX11_init 141 = .ok (.invokespecial 85, 3) := by decide +kernel
theorem dX11_init_144 : decode cX11_init 144 = .ok (.putfield 86, 3) := by decide +kernel
theorem dX11_init_147 : decode cX11_init 147 = .ok (.return_, 1) := by decide +kernel
theorem dX11_feed_0 : decode cX11_feed 0 = .ok (.aload_n 0, 1) := by decide +kernel
theorem dX11_feed_1 : decode cX11_feed 1 = .ok (.getfield 90, 3) := by decide +kernel
theorem dX11_feed_4 : decode cX11_feed 4 = .ok (.bipush 20, 2) := by decide +kernel
theorem dX11_feed_6 : decode cX11_feed 6 = .ok (.iadd, 1) := by decide +kernel
theorem dX11_feed_7 : decode cX11_feed 7 = .ok (.sipush 400, 3) := by decide +kernel
theorem dX11_feed_10 : decode cX11_feed 10 = .ok (.if_icmp .le 5, 3) := by decide +kernel
theorem dX11_feed_13 : decode cX11_feed 13 = .ok (.iconst (-1), 1) := by decide +kernel
theorem dX11_feed_14 : decode cX11_feed 14 = .ok (.ireturn, 1) := by decide +kernel
theorem dX11_feed_15 : decode cX11_feed 15 = .ok (.aload_n 0, 1) := by decide +kernel
theorem dX11_feed_16 : decode cX11_feed 16 = .ok (.iload_n 1, 1) := by decide +kernel
theorem dX11_feed_17 : decode cX11_feed 17 = .ok (.invokevirtual 93, 3) := by decide +kernel
theorem dX11_feed_20 : decode cX11_feed 20 = .ok (.aload_n 0, 1) := by decide +kernel
theorem dX11_feed_21 : decode cX11_feed 21 = .ok (.iload_n 2, 1) := by decide +kernel
theorem dX11_feed_22 : decode cX11_feed 22 = .ok (.invokevirtual 93, 3) := by decide +kernel
theorem dX11_feed_25 : decode cX11_feed 25 = .ok (.aload_n 0, 1) := by decide +kernel
theorem dX11_feed_26 : decode cX11_feed 26 = .ok (.iload_n 3, 1) := by decide +kernel
theorem dX11_feed_27 : decode cX11_feed 27 = .ok (.invokevirtual 93, 3) := by decide +kernel
theorem dX11_feed_30 : decode cX11_feed 30 = .ok (.aload_n 0, 1) := by decide +kernel
theorem dX11_feed_31 : decode cX11_feed 31 = .ok (.iload 4, 2) := by decide +kernel
theorem dX11_feed_33 : decode cX11_feed 33 = .ok (.invokevirtual 93, 3) := by decide +kernel
theorem dX11_feed_36 : decode cX11_feed 36 = .ok (.aload_n 0, 1) := by decide +kernel
theorem dX11_feed_37 : decode cX11_feed 37 = .ok (.iload 5, 2) := by decide +kernel
theorem dX11_feed_39 : decode cX11_feed 39 = .ok (.invokevirtual 93, 3) := by decide +kernel
theorem dX11_feed_42 : decode cX11_feed 42 = .ok (.aload_n 0, 1) := by decide +kernel
theorem dX11_feed_43 : decode cX11_feed 43 = .ok (.getfield 90, 3) := by decide +kernel
theorem dX11_feed_46 : decode cX11_feed 46 = .ok (.ireturn, 1) := by decide +kernel
theorem dX11_end_0 : decode cX11_end 0 = .ok (.iload_n 1, 1) := by decide +kernel
theorem dX11_end_1 : decode cX11_end 1 = .ok (.ifCond .lt 11, 3) := by decide +kernel
theorem dX11_end_4 : decode cX11_end 4 = .ok (.iload_n 1, 1) := by decide +kernel
theorem dX11_end_5 : decode cX11_end 5 = .ok (.aload_n 0, 1) := by decide +kernel
theorem dX11_end_6 : decode cX11_end 6 = .ok (.getfield 90, 3) := by decide +kernel
theorem dX11_end_9 : decode cX11_end 9 = .ok (.if_icmp .le 5, 3) := by decide +kernel
theorem dX11_end_12 : decode cX11_end 12 = .ok (.iconst 0, 1) := by decide +kernel
theorem dX11_end_13 : decode cX11_end 13 = .ok (.ireturn, 1) := by decide +kernel
theorem dX11_end_14 : decode cX11_end 14 = .ok (.aload_n 0, 1) := by decide +kernel
theorem dX11_end_15 : decode cX11_end 15 = .ok (.iload_n 1, 1) := by decide +kernel
theorem dX11_end_16 : decode cX11_end 16 = .ok (.putfield 90, 3) := by decide +kernel
theorem dX11_end_19 : decode cX11_end 19 = .ok (.iconst 1, 1) := by decide +kernel
theorem dX11_end_20 : decode cX11_end 20 = .ok (.ireturn, 1) := by decide +kernel
theorem dX11_town_0 : decode cX11_town 0 = .ok (.aload_n 0, 1) := by decide +kernel
theorem dX11_town_1 : decode cX11_town 1 = .ok (.getfield 24, 3) := by decide +kernel
theorem dX11_town_4 : decode cX11_town 4 = .ok (.aload_n 0, 1) := by decide +kernel
theorem dX11_town_5 : decode cX11_town 5 = .ok (.getfield 20, 3) := by decide +kernel
theorem dX11_town_8 : decode cX11_town 8 = .ok (.invokevirtual 97, 3) := by decide +kernel
theorem dX11_town_11 : decode cX11_town 11 = .ok (.aload_n 0, 1) := by decide +kernel
theorem dX11_town_12 : decode cX11_town 12 = .ok (.aload_n 0, 1) := by decide +kernel
theorem dX11_town_13 : decode cX11_town 13 = .ok (.getfield 44, 3) := by decide +kernel
theorem dX11_town_16 : decode cX11_town 16 = .ok (.aload_n 0, 1) := by decide +kernel
theorem dX11_town_17 : decode cX11_town 17 = .ok (.getfield 24, 3) := by decide +kernel
theorem dX11_town_20 : decode cX11_town 20 = .ok (.aload_n 0, 1) := by decide +kernel
theorem dX11_town_21 : decode cX11_town 21 = .ok (.getfield 9, 3) := by decide +kernel
theorem dX11_town_24 : decode cX11_town 24 = .ok (.aload_n 0, 1) := by decide +kernel
theorem dX11_town_25 : decode cX11_town 25 = .ok (.getfield 90, 3) := by decide +kernel
theorem dX11_town_28 : decode cX11_town 28 = .ok (.invokevirtual 101, 3) := by decide +kernel
theorem dX11_town_31 : decode cX11_town 31 = .ok (.putfield 13, 3) := by decide +kernel
theorem dX11_town_34 : decode cX11_town 34 = .ok (.aload_n 0, 1) := by decide +kernel
theorem dX11_town_35 : decode cX11_town 35 = .ok (.iconst 0, 1) := by decide +kernel
theorem dX11_town_36 : decode cX11_town 36 = .ok (.putfield 90, 3) := by decide +kernel
theorem dX11_town_39 : decode cX11_town 39 = .ok (.aload_n 0, 1) := by decide +kernel
theorem dX11_town_40 : decode cX11_town 40 = .ok (.getfield 13, 3) := by decide +kernel
theorem dX11_town_43 : decode cX11_town 43 = .ok (.iconst (-1), 1) := by decide +kernel
theorem dX11_town_44 : decode cX11_town 44 = .ok (.if_icmp .eq 13, 3) := by decide +kernel
theorem dX11_town_47 : decode cX11_town 47 = .ok (.new 105, 3) := by decide +kernel
theorem dX11_town_50 : decode cX11_town 50 = .ok (.dup, 1) := by decide +kernel
theorem dX11_town_51 : decode cX11_town 51 = .ok (.ldc 107, 2) := by decide +kernel
theorem dX11_town_53 : decode cX11_town 53 = .ok (.invokespecial 109, 3) := by decide +kernel
theorem dX11_town_56 : decode cX11_town 56 = .ok (.athrow, 1) := by decide +kernel
theorem dX11_town_57 : decode cX11_town 57 = .ok (.aload_n 0, 1) := by decide +kernel
theorem dX11_town_58 : decode cX11_town 58 = .ok (.getfield 20, 3) := by decide +kernel
theorem dX11_town_61 : decode cX11_town 61 = .ok (.getfield 112, 3) := by decide +kernel
theorem dX11_town_64 : decode cX11_town 64 = .ok (.bipush 10, 2) := by decide +kernel
theorem dX11_town_66 : decode cX11_town 66 = .ok (.if_icmp .lt 13, 3) := by decide +kernel
theorem dX11_town_69 : decode cX11_town 69 = .ok (.new 115, 3) := by decide +kernel
theorem dX11_town_72 : decode cX11_town 72 = .ok (.dup, 1) := by decide +kernel
theorem dX11_town_73 : decode cX11_town 73 = .ok (.ldc 117, 2) := by decide +kernel
theorem dX11_town_75 : decode cX11_town 75 = .ok (.invokespecial 119, 3) := by decide +kernel
theorem dX11_town_78 : decode cX11_town 78 = .ok (.athrow, 1) := by decide +kernel
theorem dX11_town_79 : decode cX11_town 79 = .ok (.aload_n 0, 1) := by decide +kernel
theorem dX11_town_80 : decode cX11_town 80 = .ok (.getfield 20, 3) := by decide +kernel
theorem dX11_town_83 : decode cX11_town 83 = .ok (.astore_n 1, 1) := by decide +kernel
theorem dX11_town_84 : decode cX11_town 84 = .ok (.aload_n 0, 1) := by decide +kernel
theorem dX11_town_85 : decode cX11_town 85 = .ok (.aload_n 0, 1) := by decide +kernel
theorem dX11_town_86 : decode cX11_town 86 = .ok (.getfield 24, 3) := by decide +kernel
theorem dX11_town_89 : decode cX11_town 89 = .ok (.putfield 20, 3) := by decide +kernel
theorem dX11_town_92 : decode cX11_town 92 = .ok (.aload_n 0, 1) := by decide +kernel
theorem dX11_town_93 : decode cX11_town 93 = .ok (.aload_n 1, 1) := by decide +kernel
theorem dX11_town_94 : decode cX11_town 94 = .ok (.putfield 24, 3) := by decide +kernel
theorem dX11_town_97 : decode cX11_town 97 = .ok (.aload_n 0, 1) := by decide +kernel
theorem dX11_town_98 : decode cX11_town 98 = .ok (.getfield 20, 3) := by decide +kernel
theorem dX11_town_101 : decode cX11_town 101 = .ok (.dup, 1) := by decide +kernel
theorem dX11_town_102 : decode cX11_town 102 = .ok (.getfield 112, 3) := by decide +kernel
theorem dX11_town_105 : decode cX11_town 105 = .ok (.iconst 1, 1) := by decide +kernel
theorem dX11_town_106 : decode cX11_town 106 = .ok (.iadd, 1) := by decide +kernel
theorem dX11_town_107 : decode cX11_town 107 = .ok (.putfield 112, 3) := by decide +kernel
theorem dX11_town_110 : decode cX11_town 110 = .ok (.aload_n 0, 1) := by decide +kernel
theorem dX11_town_111 : decode cX11_town 111 = .ok (.getfield 20, 3) := by decide +kernel
theorem dX11_town_114 : decode cX11_town 114 = .ok (.invokevirtual 120, 3) := by decide +kernel
theorem dX11_town_117 : decode cX11_town 117 = .ok (.aload_n 0, 1) := by decide +kernel
theorem dX11_town_118 : decode cX11_town 118 = .ok (.getfield 20, 3) := by decide +kernel
theorem dX11_town_121 : decode cX11_town 121 = .ok (.getfield 112, 3) := by decide +kernel
theorem dX11_town_124 : decode cX11_town 124 = .ok (.ireturn, 1) := by decide +kernel
theorem dX11_law_0 : decode cX11_law 0 = .ok (.aload_n 0, 1) := by decide +kernel
theorem dX11_law_1 : decode cX11_law 1 = .ok (.aload_n 0, 1) := by decide +kernel
theorem dX11_law_2 : decode cX11_law 2 = .ok (.getfield 51, 3) := by decide +kernel
theorem dX11_law_5 : decode cX11_law 5 = .ok (.aload_n 0, 1) := by decide +kernel
theorem dX11_law_6 : decode cX11_law 6 = .ok (.getfield 24, 3) := by decide +kernel
theorem dX11_law_9 : decode cX11_law 9 = .ok (.getfield 123, 3) := by decide +kernel
theorem dX11_law_12 : decode cX11_law 12 = .ok (.aload_n 0, 1) := by decide +kernel
theorem dX11_law_13 : decode cX11_law 13 = .ok (.getfield 9, 3) := by decide +kernel
theorem dX11_law_16 : decode cX11_law 16 = .ok (.aload_n 0, 1) := by decide +kernel
theorem dX11_law_17 : decode cX11_law 17 = .ok (.getfield 90, 3) := by decide +kernel
theorem dX11_law_20 : decode cX11_law 20 = .ok (.invokevirtual 127, 3) := by decide +kernel
theorem dX11_law_23 : decode cX11_law 23 = .ok (.putfield 13, 3) := by decide +kernel
theorem dX11_law_26 : decode cX11_law 26 = .ok (.aload_n 0, 1) := by decide +kernel
theorem dX11_law_27 : decode cX11_law 27 = .ok (.iconst 0, 1) := by decide +kernel
theorem dX11_law_28 : decode cX11_law 28 = .ok (.putfield 90, 3) := by decide +kernel
theorem dX11_law_31 : decode cX11_law 31 = .ok (.aload_n 0, 1) := by decide +kernel
theorem dX11_law_32 : decode cX11_law 32 = .ok (.getfield 13, 3) := by decide +kernel
theorem dX11_law_35 : decode cX11_law 35 = .ok (.iconst (-1), 1) := by decide +kernel
theorem dX11_law_36 : decode cX11_law 36 = .ok (.if_icmp .eq 13, 3) := by decide +kernel
theorem dX11_law_39 : decode cX11_law 39 = .ok (.new 105, 3) := by decide +kernel
theorem dX11_law_42 : decode cX11_law 42 = .ok (.dup, 1) := by decide +kernel
theorem dX11_law_43 : decode cX11_law 43 = .ok (.ldc 107, 2) := by decide +kernel
theorem dX11_law_45 : decode cX11_law 45 = .ok (.invokespecial 109, 3) := by decide +kernel
theorem dX11_law_48 : decode cX11_law 48 = .ok (.athrow, 1) := by decide +kernel
theorem dX11_law_49 : decode cX11_law 49 = .ok (.aload_n 0, 1) := by decide +kernel
theorem dX11_law_50 : decode cX11_law 50 = .ok (.getfield 20, 3) := by decide +kernel
theorem dX11_law_53 : decode cX11_law 53 = .ok (.getfield 123, 3) := by decide +kernel
theorem dX11_law_56 : decode cX11_law 56 = .ok (.aload_n 0, 1) := by decide +kernel
theorem dX11_law_57 : decode cX11_law 57 = .ok (.getfield 24, 3) := by decide +kernel
theorem dX11_law_60 : decode cX11_law 60 = .ok (.getfield 123, 3) := by decide +kernel
theorem dX11_law_63 : decode cX11_law 63 = .ok (.invokevirtual 130, 3) := by decide +kernel
theorem dX11_law_66 : decode cX11_law 66 = .ok (.aload_n 0, 1) := by decide +kernel
theorem dX11_law_67 : decode cX11_law 67 = .ok (.getfield 20, 3) := by decide +kernel
theorem dX11_law_70 : decode cX11_law 70 = .ok (.getfield 123, 3) := by decide +kernel
theorem dX11_law_73 : decode cX11_law 73 = .ok (.getfield 135, 3) := by decide +kernel
theorem dX11_law_76 : decode cX11_law 76 = .ok (.ireturn, 1) := by decide +kernel
theorem dX11_fault_0 : decode cX11_fault 0 = .ok (.aload_n 0, 1) := by decide +kernel
theorem dX11_fault_1 : decode cX11_fault 1 = .ok (.getfield 13, 3) := by decide +kernel
theorem dX11_fault_4 : decode cX11_fault 4 = .ok (.ireturn, 1) := by decide +kernel
theorem dX11_house_0 : decode cX11_house 0 = .ok (.aload_n 0, 1) := by decide +kernel
theorem dX11_house_1 : decode cX11_house 1 = .ok (.iload_n 1, 1) := by decide +kernel
theorem dX11_house_2 : decode cX11_house 2 = .ok (.invokevirtual 138, 3) := by decide +kernel
theorem dX11_house_5 : decode cX11_house 5 = .ok (.iload_n 2, 1) := by decide +kernel
theorem dX11_house_6 : decode cX11_house 6 = .ok (.tableswitch 97 0 5 #[38, 48, 58, 68, 78, 88], 38) := by decide +kernel
theorem dX11_house_44 : decode cX11_house 44 = .ok (.aload_n 0, 1) := by decide +kernel
theorem dX11_house_45 : decode cX11_house 45 = .ok (.getfield 20, 3) := by decide +kernel
theorem dX11_house_48 : decode cX11_house 48 = .ok (.getfield 141, 3) := by decide +kernel
theorem dX11_house_51 : decode cX11_house 51 = .ok (.iload_n 1, 1) := by decide +kernel
theorem dX11_house_52 : decode cX11_house 52 = .ok (.iaload, 1) := by decide +kernel
theorem dX11_house_53 : decode cX11_house 53 = .ok (.ireturn, 1) := by decide +kernel
theorem dX11_house_54 : decode cX11_house 54 = .ok (.aload_n 0, 1) := by decide +kernel
theorem dX11_house_55 : decode cX11_house 55 = .ok (.getfield 20, 3) := by decide +kernel
theorem dX11_house_58 : decode cX11_house 58 = .ok (.getfield 144, 3) := by decide +kernel
theorem dX11_house_61 : decode cX11_house 61 = .ok (.iload_n 1, 1) := by decide +kernel
theorem dX11_house_62 : decode cX11_house 62 = .ok (.iaload, 1) := by decide +kernel
theorem dX11_house_63 : decode cX11_house 63 = .ok (.ireturn, 1) := by decide +kernel
theorem dX11_house_64 : decode cX11_house 64 = .ok (.aload_n 0, 1) := by decide +kernel
theorem dX11_house_65 : decode cX11_house 65 = .ok (.getfield 20, 3) := by decide +kernel
theorem dX11_house_68 : decode cX11_house 68 = .ok (.getfield 147, 3) := by decide +kernel
theorem dX11_house_71 : decode cX11_house 71 = .ok (.iload_n 1, 1) := by decide +kernel
theorem dX11_house_72 : decode cX11_house 72 = .ok (.iaload, 1) := by decide +kernel
theorem dX11_house_73 : decode cX11_house 73 = .ok (.ireturn, 1) := by decide +kernel
theorem dX11_house_74 : decode cX11_house 74 = .ok (.aload_n 0, 1) := by decide +kernel
theorem dX11_house_75 : decode cX11_house 75 = .ok (.getfield 20, 3) := by decide +kernel
theorem dX11_house_78 : decode cX11_house 78 = .ok (.getfield 150, 3) := by decide +kernel
theorem dX11_house_81 : decode cX11_house 81 = .ok (.iload_n 1, 1) := by decide +kernel
theorem dX11_house_82 : decode cX11_house 82 = .ok (.iaload, 1) := by decide +kernel
theorem dX11_house_83 : decode cX11_house 83 = .ok (.ireturn, 1) := by decide +kernel
theorem dX11_house_84 : decode cX11_house 84 = .ok (.aload_n 0, 1) := by decide +kernel
theorem dX11_house_85 : decode cX11_house 85 = .ok (.getfield 20, 3) := by decide +kernel
theorem dX11_house_88 : decode cX11_house 88 = .ok (.getfield 153, 3) := by decide +kernel
theorem dX11_house_91 : decode cX11_house 91 = .ok (.iload_n 1, 1) := by decide +kernel
theorem dX11_house_92 : decode cX11_house 92 = .ok (.iaload, 1) := by decide +kernel
theorem dX11_house_93 : decode cX11_house 93 = .ok (.ireturn, 1) := by decide +kernel
theorem dX11_house_94 : decode cX11_house 94 = .ok (.aload_n 0, 1) := by decide +kernel
theorem dX11_house_95 : decode cX11_house 95 = .ok (.getfield 20, 3) := by decide +kernel
theorem dX11_house_98 : decode cX11_house 98 = .ok (.iload_n 1, 1) := by decide +kernel
theorem dX11_house_99 : decode cX11_house 99 = .ok (.invokevirtual 156, 3) := by decide +kernel
theorem dX11_house_102 : decode cX11_house 102 = .ok (.ireturn, 1) := by decide +kernel
theorem dX11_house_103 : decode cX11_house 103 = .ok (.new 160, 3) := by decide +kernel
theorem dX11_house_106 : decode cX11_house 106 = .ok (.dup, 1) := by decide +kernel
theorem dX11_house_107 : decode cX11_house 107 = .ok (.ldc 162, 2) := by decide +kernel
theorem dX11_house_109 : decode cX11_house 109 = .ok (.invokespecial 164, 3) := by decide +kernel
theorem dX11_house_112 : decode cX11_house 112 = .ok (.athrow, 1) := by decide +kernel
theorem dX11_want_0 : decode cX11_want 0 = .ok (.aload_n 0, 1) := by decide +kernel
theorem dX11_want_1 : decode cX11_want 1 = .ok (.iload_n 1, 1) := by decide +kernel
theorem dX11_want_2 : decode cX11_want 2 = .ok (.invokevirtual 165, 3) := by decide +kernel
theorem dX11_want_5 : decode cX11_want 5 = .ok (.aload_n 0, 1) := by decide +kernel
theorem dX11_want_6 : decode cX11_want 6 = .ok (.getfield 20, 3) := by decide +kernel
theorem dX11_want_9 : decode cX11_want 9 = .ok (.getfield 168, 3) := by decide +kernel
theorem dX11_want_12 : decode cX11_want 12 = .ok (.iload_n 1, 1) := by decide +kernel
theorem dX11_want_13 : decode cX11_want 13 = .ok (.iaload, 1) := by decide +kernel
theorem dX11_want_14 : decode cX11_want 14 = .ok (.ireturn, 1) := by decide +kernel
theorem dX11_code_0 : decode cX11_code 0 = .ok (.aload_n 0, 1) := by decide +kernel
theorem dX11_code_1 : decode cX11_code 1 = .ok (.iload_n 1, 1) := by decide +kernel
theorem dX11_code_2 : decode cX11_code 2 = .ok (.invokevirtual 138, 3) := by decide +kernel
theorem dX11_code_5 : decode cX11_code 5 = .ok (.aload_n 0, 1) := by decide +kernel
theorem dX11_code_6 : decode cX11_code 6 = .ok (.iload_n 2, 1) := by decide +kernel
theorem dX11_code_7 : decode cX11_code 7 = .ok (.invokevirtual 165, 3) := by decide +kernel
theorem dX11_code_10 : decode cX11_code 10 = .ok (.aload_n 0, 1) := by decide +kernel
theorem dX11_code_11 : decode cX11_code 11 = .ok (.getfield 20, 3) := by decide +kernel
theorem dX11_code_14 : decode cX11_code 14 = .ok (.iload_n 1, 1) := by decide +kernel
theorem dX11_code_15 : decode cX11_code 15 = .ok (.iload_n 2, 1) := by decide +kernel
theorem dX11_code_16 : decode cX11_code 16 = .ok (.invokevirtual 171, 3) := by decide +kernel
theorem dX11_code_19 : decode cX11_code 19 = .ok (.ireturn, 1) := by decide +kernel
theorem dX11_cost_0 : decode cX11_cost 0 = .ok (.aload_n 0, 1) := by decide +kernel
theorem dX11_cost_1 : decode cX11_cost 1 = .ok (.iload_n 1, 1) := by decide +kernel
theorem dX11_cost_2 : decode cX11_cost 2 = .ok (.invokevirtual 175, 3) := by decide +kernel
theorem dX11_cost_5 : decode cX11_cost 5 = .ok (.iload_n 1, 1) := by decide +kernel
theorem dX11_cost_6 : decode cX11_cost 6 = .ok (.invokestatic 178, 3) := by decide +kernel
theorem dX11_cost_9 : decode cX11_cost 9 = .ok (.ireturn, 1) := by decide +kernel
theorem dX11_way_0 : decode cX11_way 0 = .ok (.aload_n 0, 1) := by decide +kernel
theorem dX11_way_1 : decode cX11_way 1 = .ok (.iload_n 1, 1) := by decide +kernel
theorem dX11_way_2 : decode cX11_way 2 = .ok (.invokevirtual 138, 3) := by decide +kernel
theorem dX11_way_5 : decode cX11_way 5 = .ok (.aload_n 0, 1) := by decide +kernel
theorem dX11_way_6 : decode cX11_way 6 = .ok (.iload_n 2, 1) := by decide +kernel
theorem dX11_way_7 : decode cX11_way 7 = .ok (.invokevirtual 138, 3) := by decide +kernel
theorem dX11_way_10 : decode cX11_way 10 = .ok (.iload_n 3, 1) := by decide +kernel
theorem dX11_way_11 : decode cX11_way 11 = .ok (.tableswitch 85 0 3 #[29, 39, 57, 67], 29) := by decide +kernel
theorem dX11_way_40 : decode cX11_way 40 = .ok (.aload_n 0, 1) := by decide +kernel
theorem dX11_way_41 : decode cX11_way 41 = .ok (.getfield 20, 3) := by decide +kernel
theorem dX11_way_44 : decode cX11_way 44 = .ok (.iload_n 1, 1) := by decide +kernel
theorem dX11_way_45 : decode cX11_way 45 = .ok (.iload_n 2, 1) := by decide +kernel
theorem dX11_way_46 : decode cX11_way 46 = .ok (.invokevirtual 181, 3) := by decide +kernel
theorem dX11_way_49 : decode cX11_way 49 = .ok (.ireturn, 1) := by decide +kernel
theorem dX11_way_50 : decode cX11_way 50 = .ok (.aload_n 0, 1) := by decide +kernel
theorem dX11_way_51 : decode cX11_way 51 = .ok (.getfield 20, 3) := by decide +kernel
theorem dX11_way_54 : decode cX11_way 54 = .ok (.iload_n 1, 1) := by decide +kernel
theorem dX11_way_55 : decode cX11_way 55 = .ok (.iload_n 2, 1) := by decide +kernel
theorem dX11_way_56 : decode cX11_way 56 = .ok (.invokevirtual 184, 3) := by decide +kernel
theorem dX11_way_59 : decode cX11_way 59 = .ok (.ifCond .le 7, 3) := by decide +kernel
theorem dX11_way_62 : decode cX11_way 62 = .ok (.iconst 1, 1) := by decide +kernel
theorem dX11_way_63 : decode cX11_way 63 = .ok (.goto 4, 3) := by decide +kernel
theorem dX11_way_66 : decode cX11_way 66 = .ok (.iconst 0, 1) := by decide +kernel
theorem dX11_way_67 : decode cX11_way 67 = .ok (.ireturn, 1) := by decide +kernel
theorem dX11_way_68 : decode cX11_way 68 = .ok (.aload_n 0, 1) := by decide +kernel
theorem dX11_way_69 : decode cX11_way 69 = .ok (.getfield 20, 3) := by decide +kernel
theorem dX11_way_72 : decode cX11_way 72 = .ok (.iload_n 1, 1) := by decide +kernel
theorem dX11_way_73 : decode cX11_way 73 = .ok (.iload_n 2, 1) := by decide +kernel
theorem dX11_way_74 : decode cX11_way 74 = .ok (.invokevirtual 184, 3) := by decide +kernel
theorem dX11_way_77 : decode cX11_way 77 = .ok (.ireturn, 1) := by decide +kernel
theorem dX11_way_78 : decode cX11_way 78 = .ok (.aload_n 0, 1) := by decide +kernel
theorem dX11_way_79 : decode cX11_way 79 = .ok (.getfield 20, 3) := by decide +kernel
theorem dX11_way_82 : decode cX11_way 82 = .ok (.iload_n 1, 1) := by decide +kernel
theorem dX11_way_83 : decode cX11_way 83 = .ok (.iload_n 2, 1) := by decide +kernel
theorem dX11_way_84 : decode cX11_way 84 = .ok (.invokevirtual 187, 3) := by decide +kernel
theorem dX11_way_87 : decode cX11_way 87 = .ok (.ifCond .eq 7, 3) := by decide +kernel
theorem dX11_way_90 : decode cX11_way 90 = .ok (.iconst 1, 1) := by decide +kernel
theorem dX11_way_91 : decode cX11_way 91 = .ok (.goto 4, 3) := by decide +kernel
theorem dX11_way_94 : decode cX11_way 94 = .ok (.iconst 0, 1) := by decide +kernel
theorem dX11_way_95 : decode cX11_way 95 = .ok (.ireturn, 1) := by decide +kernel
theorem dX11_way_96 : decode cX11_way 96 = .ok (.new 160, 3) := by decide +kernel
theorem dX11_way_99 : decode cX11_way 99 = .ok (.dup, 1) := by decide +kernel
theorem dX11_way_100 : decode cX11_way 100 = .ok (.ldc 191, 2) := by decide +kernel
theorem dX11_way_102 : decode cX11_way 102 = .ok (.invokespecial 164, 3) := by decide +kernel
theorem dX11_way_105 : decode cX11_way 105 = .ok (.athrow, 1) := by decide +kernel
theorem dX11_ring_0 : decode cX11_ring 0 = .ok (.aload_n 0, 1) := by decide +kernel
theorem dX11_ring_1 : decode cX11_ring 1 = .ok (.iload_n 2, 1) := by decide +kernel
theorem dX11_ring_2 : decode cX11_ring 2 = .ok (.invokevirtual 138, 3) := by decide +kernel
theorem dX11_ring_5 : decode cX11_ring 5 = .ok (.aload_n 0, 1) := by decide +kernel
theorem dX11_ring_6 : decode cX11_ring 6 = .ok (.iload_n 3, 1) := by decide +kernel
theorem dX11_ring_7 : decode cX11_ring 7 = .ok (.invokevirtual 165, 3) := by decide +kernel
theorem dX11_ring_10 : decode cX11_ring 10 = .ok (.aload_n 0, 1) := by decide +kernel
theorem dX11_ring_11 : decode cX11_ring 11 = .ok (.iload_n 1, 1) := by decide +kernel
theorem dX11_ring_12 : decode cX11_ring 12 = .ok (.invokevirtual 193, 3) := by decide +kernel
theorem dX11_ring_15 : decode cX11_ring 15 = .ok (.aload_n 0, 1) := by decide +kernel
theorem dX11_ring_16 : decode cX11_ring 16 = .ok (.getfield 20, 3) := by decide +kernel
theorem dX11_ring_19 : decode cX11_ring 19 = .ok (.iload_n 2, 1) := by decide +kernel
theorem dX11_ring_20 : decode cX11_ring 20 = .ok (.iload_n 3, 1) := by decide +kernel
theorem dX11_ring_21 : decode cX11_ring 21 = .ok (.invokevirtual 171, 3) := by decide +kernel
theorem dX11_ring_24 : decode cX11_ring 24 = .ok (.istore 4, 2) := by decide +kernel
theorem dX11_ring_26 : decode cX11_ring 26 = .ok (.iload 4, 2) := by decide +kernel
theorem dX11_ring_28 : decode cX11_ring 28 = .ok (.iconst (-1), 1) := by decide +kernel
theorem dX11_ring_29 : decode cX11_ring 29 = .ok (.if_icmp .ne 13, 3) := by decide +kernel
theorem dX11_ring_32 : decode cX11_ring 32 = .ok (.new 105, 3) := by decide +kernel
theorem dX11_ring_35 : decode cX11_ring 35 = .ok (.dup, 1) := by decide +kernel
theorem dX11_ring_36 : decode cX11_ring 36 = .ok (.ldc 196, 2) := by decide +kernel
theorem dX11_ring_38 : decode cX11_ring 38 = .ok (.invokespecial 109, 3) := by decide +kernel
theorem dX11_ring_41 : decode cX11_ring 41 = .ok (.athrow, 1) := by decide +kernel
theorem dX11_ring_42 : decode cX11_ring 42 = .ok (.aload_n 0, 1) := by decide +kernel
theorem dX11_ring_43 : decode cX11_ring 43 = .ok (.invokevirtual 198, 3) := by decide +kernel
theorem dX11_ring_46 : decode cX11_ring 46 = .ok (.aload_n 0, 1) := by decide +kernel
theorem dX11_ring_47 : decode cX11_ring 47 = .ok (.getfield 20, 3) := by decide +kernel
theorem dX11_ring_50 : decode cX11_ring 50 = .ok (.getfield 201, 3) := by decide +kernel
theorem dX11_ring_53 : decode cX11_ring 53 = .ok (.iload_n 1, 1) := by decide +kernel
theorem dX11_ring_54 : decode cX11_ring 54 = .ok (.iload_n 2, 1) := by decide +kernel
theorem dX11_ring_55 : decode cX11_ring 55 = .ok (.iload_n 3, 1) := by decide +kernel
theorem dX11_ring_56 : decode cX11_ring 56 = .ok (.iload 4, 2) := by decide +kernel
theorem dX11_ring_58 : decode cX11_ring 58 = .ok (.invokevirtual 204, 3) := by decide +kernel
theorem dX11_ring_61 : decode cX11_ring 61 = .ok (.ireturn, 1) := by decide +kernel
theorem dX11_hush_0 : decode cX11_hush 0 = .ok (.aload_n 0, 1) := by decide +kernel
theorem dX11_hush_1 : decode cX11_hush 1 = .ok (.getfield 20, 3) := by decide +kernel
theorem dX11_hush_4 : decode cX11_hush 4 = .ok (.getfield 201, 3) := by decide +kernel
theorem dX11_hush_7 : decode cX11_hush 7 = .ok (.getfield 208, 3) := by decide +kernel
theorem dX11_hush_10 : decode cX11_hush 10 = .ok (.istore_n 1, 1) := by decide +kernel
theorem dX11_hush_11 : decode cX11_hush 11 = .ok (.aload_n 0, 1) := by decide +kernel
theorem dX11_hush_12 : decode cX11_hush 12 = .ok (.getfield 20, 3) := by decide +kernel
theorem dX11_hush_15 : decode cX11_hush 15 = .ok (.getfield 201, 3) := by decide +kernel
theorem dX11_hush_18 : decode cX11_hush 18 = .ok (.iconst 0, 1) := by decide +kernel
theorem dX11_hush_19 : decode cX11_hush 19 = .ok (.putfield 208, 3) := by decide +kernel
theorem dX11_hush_22 : decode cX11_hush 22 = .ok (.iload_n 1, 1) := by decide +kernel
theorem dX11_hush_23 : decode cX11_hush 23 = .ok (.ireturn, 1) := by decide +kernel
theorem dX11_undo_0 : decode cX11_undo 0 = .ok (.aload_n 0, 1) := by decide +kernel
theorem dX11_undo_1 : decode cX11_undo 1 = .ok (.getfield 20, 3) := by decide +kernel
theorem dX11_undo_4 : decode cX11_undo 4 = .ok (.getfield 201, 3) := by decide +kernel
theorem dX11_undo_7 : decode cX11_undo 7 = .ok (.getfield 208, 3) := by decide +kernel
theorem dX11_undo_10 : decode cX11_undo 10 = .ok (.ifCond .gt 5, 3) := by decide +kernel
theorem dX11_undo_13 : decode cX11_undo 13 = .ok (.iconst (-1), 1) := by decide +kernel
theorem dX11_undo_14 : decode cX11_undo 14 = .ok (.ireturn, 1) := by decide +kernel
theorem dX11_undo_15 : decode cX11_undo 15 = .ok (.aload_n 0, 1) := by decide +kernel
theorem dX11_undo_16 : decode cX11_undo 16 = .ok (.getfield 20, 3) := by decide +kernel
theorem dX11_undo_19 : decode cX11_undo 19 = .ok (.getfield 201, 3) := by decide +kernel
theorem dX11_undo_22 : decode cX11_undo 22 = .ok (.dup, 1) := by decide +kernel
theorem dX11_undo_23 : decode cX11_undo 23 = .ok (.getfield 208, 3) := by decide +kernel
theorem dX11_undo_26 : decode cX11_undo 26 = .ok (.iconst 1, 1) := by decide +kernel
theorem dX11_undo_27 : decode cX11_undo 27 = .ok (.isub, 1) := by decide +kernel
theorem dX11_undo_28 : decode cX11_undo 28 = .ok (.putfield 208, 3) := by decide +kernel
theorem dX11_undo_31 : decode cX11_undo 31 = .ok (.aload_n 0, 1) := by decide +kernel
theorem dX11_undo_32 : decode cX11_undo 32 = .ok (.getfield 20, 3) := by decide +kernel
theorem dX11_undo_35 : decode cX11_undo 35 = .ok (.getfield 201, 3) := by decide +kernel
theorem dX11_undo_38 : decode cX11_undo 38 = .ok (.getfield 208, 3) := by decide +kernel
theorem dX11_undo_41 : decode cX11_undo 41 = .ok (.ireturn, 1) := by decide +kernel
theorem dX11_heard_0 : decode cX11_heard 0 = .ok (.aload_n 0, 1) := by decide +kernel
theorem dX11_heard_1 : decode cX11_heard 1 = .ok (.iload_n 1, 1) := by decide +kernel
theorem dX11_heard_2 : decode cX11_heard 2 = .ok (.invokevirtual 211, 3) := by decide +kernel
theorem dX11_heard_5 : decode cX11_heard 5 = .ok (.aload_n 0, 1) := by decide +kernel
theorem dX11_heard_6 : decode cX11_heard 6 = .ok (.iload_n 2, 1) := by decide +kernel
theorem dX11_heard_7 : decode cX11_heard 7 = .ok (.invokevirtual 138, 3) := by decide +kernel
theorem dX11_heard_10 : decode cX11_heard 10 = .ok (.aload_n 0, 1) := by decide +kernel
theorem dX11_heard_11 : decode cX11_heard 11 = .ok (.getfield 20, 3) := by decide +kernel
theorem dX11_heard_14 : decode cX11_heard 14 = .ok (.getfield 201, 3) := by decide +kernel
theorem dX11_heard_17 : decode cX11_heard 17 = .ok (.aload_n 0, 1) := by decide +kernel
theorem dX11_heard_18 : decode cX11_heard 18 = .ok (.getfield 20, 3) := by decide +kernel
theorem dX11_heard_21 : decode cX11_heard 21 = .ok (.iload_n 1, 1) := by decide +kernel
theorem dX11_heard_22 : decode cX11_heard 22 = .ok (.iload_n 2, 1) := by decide +kernel
theorem dX11_heard_23 : decode cX11_heard 23 = .ok (.invokevirtual 214, 3) := by decide +kernel
theorem dX11_heard_26 : decode cX11_heard 26 = .ok (.ireturn, 1) := by decide +kernel
theorem dX11_taken_0 : decode cX11_taken 0 = .ok (.aload_n 0, 1) := by decide +kernel
theorem dX11_taken_1 : decode cX11_taken 1 = .ok (.iload_n 1, 1) := by decide +kernel
theorem dX11_taken_2 : decode cX11_taken 2 = .ok (.invokevirtual 211, 3) := by decide +kernel
theorem dX11_taken_5 : decode cX11_taken 5 = .ok (.aload_n 0, 1) := by decide +kernel
theorem dX11_taken_6 : decode cX11_taken 6 = .ok (.iload_n 2, 1) := by decide +kernel
theorem dX11_taken_7 : decode cX11_taken 7 = .ok (.invokevirtual 138, 3) := by decide +kernel
theorem dX11_taken_10 : decode cX11_taken 10 = .ok (.aload_n 0, 1) := by decide +kernel
theorem dX11_taken_11 : decode cX11_taken 11 = .ok (.getfield 20, 3) := by decide +kernel
theorem dX11_taken_14 : decode cX11_taken 14 = .ok (.getfield 201, 3) := by decide +kernel
theorem dX11_taken_17 : decode cX11_taken 17 = .ok (.aload_n 0, 1) := by decide +kernel
theorem dX11_taken_18 : decode cX11_taken 18 = .ok (.getfield 20, 3) := by decide +kernel
theorem dX11_taken_21 : decode cX11_taken 21 = .ok (.iload_n 1, 1) := by decide +kernel
theorem dX11_taken_22 : decode cX11_taken 22 = .ok (.iload_n 2, 1) := by decide +kernel
theorem dX11_taken_23 : decode cX11_taken 23 = .ok (.invokevirtual 218, 3) := by decide +kernel
theorem dX11_taken_26 : decode cX11_taken 26 = .ok (.ireturn, 1) := by decide +kernel
theorem dX11_sure_0 : decode cX11_sure 0 = .ok (.aload_n 0, 1) := by decide +kernel
theorem dX11_sure_1 : decode cX11_sure 1 = .ok (.iload_n 1, 1) := by decide +kernel
theorem dX11_sure_2 : decode cX11_sure 2 = .ok (.invokevirtual 211, 3) := by decide +kernel
theorem dX11_sure_5 : decode cX11_sure 5 = .ok (.aload_n 0, 1) := by decide +kernel
theorem dX11_sure_6 : decode cX11_sure 6 = .ok (.getfield 20, 3) := by decide +kernel
theorem dX11_sure_9 : decode cX11_sure 9 = .ok (.getfield 201, 3) := by decide +kernel
theorem dX11_sure_12 : decode cX11_sure 12 = .ok (.aload_n 0, 1) := by decide +kernel
theorem dX11_sure_13 : decode cX11_sure 13 = .ok (.getfield 20, 3) := by decide +kernel
theorem dX11_sure_16 : decode cX11_sure 16 = .ok (.iload_n 1, 1) := by decide +kernel
theorem dX11_sure_17 : decode cX11_sure 17 = .ok (.invokevirtual 221, 3) := by decide +kernel
theorem dX11_sure_20 : decode cX11_sure 20 = .ok (.iload_n 2, 1) := by decide +kernel
theorem dX11_sure_21 : decode cX11_sure 21 = .ok (.ifCond .eq 16, 3) := by decide +kernel
theorem dX11_sure_24 : decode cX11_sure 24 = .ok (.aload_n 0, 1) := by decide +kernel
theorem dX11_sure_25 : decode cX11_sure 25 = .ok (.getfield 20, 3) := by decide +kernel
theorem dX11_sure_28 : decode cX11_sure 28 = .ok (.getfield 201, 3) := by decide +kernel
theorem dX11_sure_31 : decode cX11_sure 31 = .ok (.getfield 225, 3) := by decide +kernel
theorem dX11_sure_34 : decode cX11_sure 34 = .ok (.goto 13, 3) := by decide +kernel
theorem dX11_sure_37 : decode cX11_sure 37 = .ok (.aload_n 0, 1) := by decide +kernel
theorem dX11_sure_38 : decode cX11_sure 38 = .ok (.getfield 20, 3) := by decide +kernel
theorem dX11_sure_41 : decode cX11_sure 41 = .ok (.getfield 201, 3) := by decide +kernel
theorem dX11_sure_44 : decode cX11_sure 44 = .ok (.getfield 228, 3) := by decide +kernel
theorem dX11_sure_47 : decode cX11_sure 47 = .ok (.ireturn, 1) := by decide +kernel
theorem dX11_begins_0 : decode cX11_begins 0 = .ok (.aload_n 0, 1) := by decide +kernel
theorem dX11_begins_1 : decode cX11_begins 1 = .ok (.iload_n 1, 1) := by decide +kernel
theorem dX11_begins_2 : decode cX11_begins 2 = .ok (.invokevirtual 138, 3) := by decide +kernel
theorem dX11_begins_5 : decode cX11_begins 5 = .ok (.aload_n 0, 1) := by decide +kernel
theorem dX11_begins_6 : decode cX11_begins 6 = .ok (.getfield 20, 3) := by decide +kernel
theorem dX11_begins_9 : decode cX11_begins 9 = .ok (.iload_n 1, 1) := by decide +kernel
theorem dX11_begins_10 : decode cX11_begins 10 = .ok (.invokevirtual 231, 3) := by decide +kernel
theorem dX11_begins_13 : decode cX11_begins 13 = .ok (.ireturn, 1) := by decide +kernel
theorem dX11_safe_0 : decode cX11_safe 0 = .ok (.aload_n 0, 1) := by decide +kernel
theorem dX11_safe_1 : decode cX11_safe 1 = .ok (.iload_n 1, 1) := by decide +kernel
theorem dX11_safe_2 : decode cX11_safe 2 = .ok (.invokevirtual 138, 3) := by decide +kernel
theorem dX11_safe_5 : decode cX11_safe 5 = .ok (.iload_n 2, 1) := by decide +kernel
theorem dX11_safe_6 : decode cX11_safe 6 = .ok (.ifCond .lt 9, 3) := by decide +kernel
theorem dX11_safe_9 : decode cX11_safe 9 = .ok (.iload_n 2, 1) := by decide +kernel
theorem dX11_safe_10 : decode cX11_safe 10 = .ok (.bipush 8, 2) := by decide +kernel
theorem dX11_safe_12 : decode cX11_safe 12 = .ok (.if_icmp .le 13, 3) := by decide +kernel
theorem dX11_safe_15 : decode cX11_safe 15 = .ok (.new 105, 3) := by decide +kernel
theorem dX11_safe_18 : decode cX11_safe 18 = .ok (.dup, 1) := by decide +kernel
theorem dX11_safe_19 : decode cX11_safe 19 = .ok (.ldc 234, 2) := by decide +kernel
theorem dX11_safe_21 : decode cX11_safe 21 = .ok (.invokespecial 109, 3) := by decide +kernel
theorem dX11_safe_24 : decode cX11_safe 24 = .ok (.athrow, 1) := by decide +kernel
theorem dX11_safe_25 : decode cX11_safe 25 = .ok (.aload_n 0, 1) := by decide +kernel
theorem dX11_safe_26 : decode cX11_safe 26 = .ok (.getfield 20, 3) := by decide +kernel
theorem dX11_safe_29 : decode cX11_safe 29 = .ok (.iload_n 1, 1) := by decide +kernel
theorem dX11_safe_30 : decode cX11_safe 30 = .ok (.iload_n 2, 1) := by decide +kernel
theorem dX11_safe_31 : decode cX11_safe 31 = .ok (.invokevirtual 236, 3) := by decide +kernel
theorem dX11_safe_34 : decode cX11_safe 34 = .ok (.ireturn, 1) := by decide +kernel
theorem dX11_buy_0 : decode cX11_buy 0 = .ok (.aload_n 0, 1) := by decide +kernel
theorem dX11_buy_1 : decode cX11_buy 1 = .ok (.iload_n 1, 1) := by decide +kernel
theorem dX11_buy_2 : decode cX11_buy 2 = .ok (.invokevirtual 138, 3) := by decide +kernel
theorem dX11_buy_5 : decode cX11_buy 5 = .ok (.aload_n 0, 1) := by decide +kernel
theorem dX11_buy_6 : decode cX11_buy 6 = .ok (.iload_n 2, 1) := by decide +kernel
theorem dX11_buy_7 : decode cX11_buy 7 = .ok (.invokevirtual 165, 3) := by decide +kernel
theorem dX11_buy_10 : decode cX11_buy 10 = .ok (.aload_n 0, 1) := by decide +kernel
theorem dX11_buy_11 : decode cX11_buy 11 = .ok (.iload_n 3, 1) := by decide +kernel
theorem dX11_buy_12 : decode cX11_buy 12 = .ok (.invokevirtual 175, 3) := by decide +kernel
theorem dX11_buy_15 : decode cX11_buy 15 = .ok (.iload_n 3, 1) := by decide +kernel
theorem dX11_buy_16 : decode cX11_buy 16 = .ok (.invokestatic 239, 3) := by decide +kernel
theorem dX11_buy_19 : decode cX11_buy 19 = .ok (.istore 4, 2) := by decide +kernel
theorem dX11_buy_21 : decode cX11_buy 21 = .ok (.aload_n 0, 1) := by decide +kernel
theorem dX11_buy_22 : decode cX11_buy 22 = .ok (.getfield 20, 3) := by decide +kernel
theorem dX11_buy_25 : decode cX11_buy 25 = .ok (.getfield 150, 3) := by decide +kernel
theorem dX11_buy_28 : decode cX11_buy 28 = .ok (.iload_n 1, 1) := by decide +kernel
theorem dX11_buy_29 : decode cX11_buy 29 = .ok (.iaload, 1) := by decide +kernel
theorem dX11_buy_30 : decode cX11_buy 30 = .ok (.iload 4, 2) := by decide +kernel
theorem dX11_buy_32 : decode cX11_buy 32 = .ok (.if_icmp .ge 5, 3) := by decide +kernel
theorem dX11_buy_35 : decode cX11_buy 35 = .ok (.iconst (-1), 1) := by decide +kernel
theorem dX11_buy_36 : decode cX11_buy 36 = .ok (.ireturn, 1) := by decide +kernel
theorem dX11_buy_37 : decode cX11_buy 37 = .ok (.aload_n 0, 1) := by decide +kernel
theorem dX11_buy_38 : decode cX11_buy 38 = .ok (.getfield 20, 3) := by decide +kernel
theorem dX11_buy_41 : decode cX11_buy 41 = .ok (.getfield 150, 3) := by decide +kernel
theorem dX11_buy_44 : decode cX11_buy 44 = .ok (.iload_n 1, 1) := by decide +kernel
theorem dX11_buy_45 : decode cX11_buy 45 = .ok (.dup2, 1) := by decide +kernel
theorem dX11_buy_46 : decode cX11_buy 46 = .ok (.iaload, 1) := by decide +kernel
theorem dX11_buy_47 : decode cX11_buy 47 = .ok (.iload 4, 2) := by decide +kernel
theorem dX11_buy_49 : decode cX11_buy 49 = .ok (.isub, 1) := by decide +kernel
theorem dX11_buy_50 : decode cX11_buy 50 = .ok (.iastore, 1) := by decide +kernel
theorem dX11_buy_51 : decode cX11_buy 51 = .ok (.aload_n 0, 1) := by decide +kernel
theorem dX11_buy_52 : decode cX11_buy 52 = .ok (.getfield 20, 3) := by decide +kernel
theorem dX11_buy_55 : decode cX11_buy 55 = .ok (.dup, 1) := by decide +kernel
theorem dX11_buy_56 : decode cX11_buy 56 = .ok (.getfield 242, 3) := by decide +kernel
theorem dX11_buy_59 : decode cX11_buy 59 = .ok (.iload 4, 2) := by decide +kernel
theorem dX11_buy_61 : decode cX11_buy 61 = .ok (.iadd, 1) := by decide +kernel
theorem dX11_buy_62 : decode cX11_buy 62 = .ok (.putfield 242, 3) := by decide +kernel
theorem dX11_buy_65 : decode cX11_buy 65 = .ok (.aload_n 0, 1) := by decide +kernel
theorem dX11_buy_66 : decode cX11_buy 66 = .ok (.getfield 20, 3) := by decide +kernel
theorem dX11_buy_69 : decode cX11_buy 69 = .ok (.iload_n 1, 1) := by decide +kernel
theorem dX11_buy_70 : decode cX11_buy 70 = .ok (.iload_n 2, 1) := by decide +kernel
theorem dX11_buy_71 : decode cX11_buy 71 = .ok (.iload_n 3, 1) := by decide +kernel
theorem dX11_buy_72 : decode cX11_buy 72 = .ok (.invokevirtual 245, 3) := by decide +kernel
theorem dX11_buy_75 : decode cX11_buy 75 = .ok (.iload 4, 2) := by decide +kernel
theorem dX11_buy_77 : decode cX11_buy 77 = .ok (.ireturn, 1) := by decide +kernel
theorem dX11_trade_0 : decode cX11_trade 0 = .ok (.aload_n 0, 1) := by decide +kernel
theorem dX11_trade_1 : decode cX11_trade 1 = .ok (.iload_n 1, 1) := by decide +kernel
theorem dX11_trade_2 : decode cX11_trade 2 = .ok (.invokevirtual 138, 3) := by decide +kernel
theorem dX11_trade_5 : decode cX11_trade 5 = .ok (.aload_n 0, 1) := by decide +kernel
theorem dX11_trade_6 : decode cX11_trade 6 = .ok (.iload_n 2, 1) := by decide +kernel
theorem dX11_trade_7 : decode cX11_trade 7 = .ok (.invokevirtual 138, 3) := by decide +kernel
theorem dX11_trade_10 : decode cX11_trade 10 = .ok (.aload_n 0, 1) := by decide +kernel
theorem dX11_trade_11 : decode cX11_trade 11 = .ok (.iload_n 3, 1) := by decide +kernel
theorem dX11_trade_12 : decode cX11_trade 12 = .ok (.invokevirtual 165, 3) := by decide +kernel
theorem dX11_trade_15 : decode cX11_trade 15 = .ok (.iload_n 1, 1) := by decide +kernel
theorem dX11_trade_16 : decode cX11_trade 16 = .ok (.iload_n 2, 1) := by decide +kernel
theorem dX11_trade_17 : decode cX11_trade 17 = .ok (.if_icmp .ne 13, 3) := by decide +kernel
theorem dX11_trade_20 : decode cX11_trade 20 = .ok (.new 105, 3) := by decide +kernel
theorem dX11_trade_23 : decode cX11_trade 23 = .ok (.dup, 1) := by decide +kernel
theorem dX11_trade_24 : decode cX11_trade 24 = .ok (.ldc 249, 2) := by decide +kernel
theorem dX11_trade_26 : decode cX11_trade 26 = .ok (.invokespecial 109, 3) := by decide +kernel
theorem dX11_trade_29 : decode cX11_trade 29 = .ok (.athrow, 1) := by decide +kernel
theorem dX11_trade_30 : decode cX11_trade 30 = .ok (.aload_n 0, 1) := by decide +kernel
theorem dX11_trade_31 : decode cX11_trade 31 = .ok (.getfield 20, 3) := by decide +kernel
theorem dX11_trade_34 : decode cX11_trade 34 = .ok (.iload_n 1, 1) := by decide +kernel
theorem dX11_trade_35 : decode cX11_trade 35 = .ok (.iload_n 3, 1) := by decide +kernel
theorem dX11_trade_36 : decode cX11_trade 36 = .ok (.invokevirtual 171, 3) := by decide +kernel
theorem dX11_trade_39 : decode cX11_trade 39 = .ok (.istore 4, 2) := by decide +kernel
theorem dX11_trade_41 : decode cX11_trade 41 = .ok (.aload_n 0, 1) := by decide +kernel
theorem dX11_trade_42 : decode cX11_trade 42 = .ok (.getfield 20, 3) := by decide +kernel
theorem dX11_trade_45 : decode cX11_trade 45 = .ok (.iload_n 1, 1) := by decide +kernel
theorem dX11_trade_46 : decode cX11_trade 46 = .ok (.iload_n 3, 1) := by decide +kernel
theorem dX11_trade_47 : decode cX11_trade 47 = .ok (.aload_n 0, 1) := by decide +kernel
theorem dX11_trade_48 : decode cX11_trade 48 = .ok (.getfield 20, 3) := by decide +kernel
theorem dX11_trade_51 : decode cX11_trade 51 = .ok (.iload_n 2, 1) := by decide +kernel
theorem dX11_trade_52 : decode cX11_trade 52 = .ok (.iload_n 3, 1) := by decide +kernel
theorem dX11_trade_53 : decode cX11_trade 53 = .ok (.invokevirtual 171, 3) := by decide +kernel
theorem dX11_trade_56 : decode cX11_trade 56 = .ok (.invokevirtual 245, 3) := by decide +kernel
theorem dX11_trade_59 : decode cX11_trade 59 = .ok (.aload_n 0, 1) := by decide +kernel
theorem dX11_trade_60 : decode cX11_trade 60 = .ok (.getfield 20, 3) := by decide +kernel
theorem dX11_trade_63 : decode cX11_trade 63 = .ok (.iload_n 2, 1) := by decide +kernel
theorem dX11_trade_64 : decode cX11_trade 64 = .ok (.iload_n 3, 1) := by decide +kernel
theorem dX11_trade_65 : decode cX11_trade 65 = .ok (.iload 4, 2) := by decide +kernel
theorem dX11_trade_67 : decode cX11_trade 67 = .ok (.invokevirtual 245, 3) := by decide +kernel
theorem dX11_trade_70 : decode cX11_trade 70 = .ok (.return_, 1) := by decide +kernel
theorem dX11_least_0 : decode cX11_least 0 = .ok (.aload_n 0, 1) := by decide +kernel
theorem dX11_least_1 : decode cX11_least 1 = .ok (.getfield 79, 3) := by decide +kernel
theorem dX11_least_4 : decode cX11_least 4 = .ok (.aload_n 0, 1) := by decide +kernel
theorem dX11_least_5 : decode cX11_least 5 = .ok (.getfield 20, 3) := by decide +kernel
theorem dX11_least_8 : decode cX11_least 8 = .ok (.iload_n 1, 1) := by decide +kernel
theorem dX11_least_9 : decode cX11_least 9 = .ok (.invokevirtual 251, 3) := by decide +kernel
theorem dX11_least_12 : decode cX11_least 12 = .ok (.ireturn, 1) := by decide +kernel
theorem dX11_colours_0 : decode cX11_colours 0 = .ok (.iload_n 1, 1) := by decide +kernel
theorem dX11_colours_1 : decode cX11_colours 1 = .ok (.iconst (-1), 1) := by decide +kernel
theorem dX11_colours_2 : decode cX11_colours 2 = .ok (.if_icmp .eq 8, 3) := by decide +kernel
theorem dX11_colours_5 : decode cX11_colours 5 = .ok (.aload_n 0, 1) := by decide +kernel
theorem dX11_colours_6 : decode cX11_colours 6 = .ok (.iload_n 1, 1) := by decide +kernel
theorem dX11_colours_7 : decode cX11_colours 7 = .ok (.invokevirtual 138, 3) := by decide +kernel
theorem dX11_colours_10 : decode cX11_colours 10 = .ok (.aload_n 0, 1) := by decide +kernel
theorem dX11_colours_11 : decode cX11_colours 11 = .ok (.getfield 58, 3) := by decide +kernel
theorem dX11_colours_14 : decode cX11_colours 14 = .ok (.aload_n 0, 1) := by decide +kernel
theorem dX11_colours_15 : decode cX11_colours 15 = .ok (.getfield 20, 3) := by decide +kernel
theorem dX11_colours_18 : decode cX11_colours 18 = .ok (.invokevirtual 255, 3) := by decide +kernel
theorem dX11_colours_21 : decode cX11_colours 21 = .ok (.istore_n 2, 1) := by decide +kernel
theorem dX11_colours_22 : decode cX11_colours 22 = .ok (.iload_n 1, 1) := by decide +kernel
theorem dX11_colours_23 : decode cX11_colours 23 = .ok (.iconst (-1), 1) := by decide +kernel
theorem dX11_colours_24 : decode cX11_colours 24 = .ok (.if_icmp .ne 7, 3) := by decide +kernel
theorem dX11_colours_27 : decode cX11_colours 27 = .ok (.iload_n 2, 1) := by decide +kernel
theorem dX11_colours_28 : decode cX11_colours 28 = .ok (.goto 12, 3) := by decide +kernel
theorem dX11_colours_31 : decode cX11_colours 31 = .ok (.aload_n 0, 1) := by decide +kernel
theorem dX11_colours_32 : decode cX11_colours 32 = .ok (.getfield 58, 3) := by decide +kernel
theorem dX11_colours_35 : decode cX11_colours 35 = .ok (.getfield 259, 3) := by decide +kernel
theorem dX11_colours_38 : decode cX11_colours 38 = .ok (.iload_n 1, 1) := by decide +kernel
theorem dX11_colours_39 : decode cX11_colours 39 = .ok (.iaload, 1) := by decide +kernel
theorem dX11_colours_40 : decode cX11_colours 40 = .ok (.ireturn, 1) := by decide +kernel
theorem dX11_relay_0 : decode cX11_relay 0 = .ok (.aload_n 0, 1) := by decide +kernel
theorem dX11_relay_1 : decode cX11_relay 1 = .ok (.iload_n 1, 1) := by decide +kernel
theorem dX11_relay_2 : decode cX11_relay 2 = .ok (.invokevirtual 138, 3) := by decide +kernel
theorem dX11_relay_5 : decode cX11_relay 5 = .ok (.aload_n 0, 1) := by decide +kernel
theorem dX11_relay_6 : decode cX11_relay 6 = .ok (.iload_n 2, 1) := by decide +kernel
theorem dX11_relay_7 : decode cX11_relay 7 = .ok (.invokevirtual 165, 3) := by decide +kernel
theorem dX11_relay_10 : decode cX11_relay 10 = .ok (.aload_n 0, 1) := by decide +kernel
theorem dX11_relay_11 : decode cX11_relay 11 = .ok (.iload_n 3, 1) := by decide +kernel
theorem dX11_relay_12 : decode cX11_relay 12 = .ok (.invokevirtual 138, 3) := by decide +kernel
theorem dX11_relay_15 : decode cX11_relay 15 = .ok (.aload_n 0, 1) := by decide +kernel
theorem dX11_relay_16 : decode cX11_relay 16 = .ok (.iload_n 1, 1) := by decide +kernel
theorem dX11_relay_17 : decode cX11_relay 17 = .ok (.iload_n 2, 1) := by decide +kernel
theorem dX11_relay_18 : decode cX11_relay 18 = .ok (.invokevirtual 262, 3) := by decide +kernel
theorem dX11_relay_21 : decode cX11_relay 21 = .ok (.aload_n 0, 1) := by decide +kernel
theorem dX11_relay_22 : decode cX11_relay 22 = .ok (.getfield 65, 3) := by decide +kernel
theorem dX11_relay_25 : decode cX11_relay 25 = .ok (.aload_n 0, 1) := by decide +kernel
theorem dX11_relay_26 : decode cX11_relay 26 = .ok (.getfield 20, 3) := by decide +kernel
theorem dX11_relay_29 : decode cX11_relay 29 = .ok (.iload_n 1, 1) := by decide +kernel
theorem dX11_relay_30 : decode cX11_relay 30 = .ok (.iload_n 2, 1) := by decide +kernel
theorem dX11_relay_31 : decode cX11_relay 31 = .ok (.iload_n 3, 1) := by decide +kernel
theorem dX11_relay_32 : decode cX11_relay 32 = .ok (.invokevirtual 266, 3) := by decide +kernel
theorem dX11_relay_35 : decode cX11_relay 35 = .ok (.ireturn, 1) := by decide +kernel
theorem dX11_ringers_0 : decode cX11_ringers 0 = .ok (.aload_n 0, 1) := by decide +kernel
theorem dX11_ringers_1 : decode cX11_ringers 1 = .ok (.iload_n 1, 1) := by decide +kernel
theorem dX11_ringers_2 : decode cX11_ringers 2 = .ok (.invokevirtual 138, 3) := by decide +kernel
theorem dX11_ringers_5 : decode cX11_ringers 5 = .ok (.aload_n 0, 1) := by decide +kernel
theorem dX11_ringers_6 : decode cX11_ringers 6 = .ok (.iload_n 2, 1) := by decide +kernel
theorem dX11_ringers_7 : decode cX11_ringers 7 = .ok (.invokevirtual 165, 3) := by decide +kernel
theorem dX11_ringers_10 : decode cX11_ringers 10 = .ok (.aload_n 0, 1) := by decide +kernel
theorem dX11_ringers_11 : decode cX11_ringers 11 = .ok (.iload_n 1, 1) := by decide +kernel
theorem dX11_ringers_12 : decode cX11_ringers 12 = .ok (.iload_n 2, 1) := by decide +kernel
theorem dX11_ringers_13 : decode cX11_ringers 13 = .ok (.invokevirtual 262, 3) := by decide +kernel
theorem dX11_ringers_16 : decode cX11_ringers 16 = .ok (.aload_n 0, 1) := by decide +kernel
theorem dX11_ringers_17 : decode cX11_ringers 17 = .ok (.getfield 65, 3) := by decide +kernel
theorem dX11_ringers_20 : decode cX11_ringers 20 = .ok (.aload_n 0, 1) := by decide +kernel
theorem dX11_ringers_21 : decode cX11_ringers 21 = .ok (.getfield 20, 3) := by decide +kernel
theorem dX11_ringers_24 : decode cX11_ringers 24 = .ok (.iload_n 1, 1) := by decide +kernel
theorem dX11_ringers_25 : decode cX11_ringers 25 = .ok (.iload_n 2, 1) := by decide +kernel
theorem dX11_ringers_26 : decode cX11_ringers 26 = .ok (.invokevirtual 270, 3) := by decide +kernel
theorem dX11_ringers_29 : decode cX11_ringers 29 = .ok (.ireturn, 1) := by decide +kernel
theorem dX11_six_0 : decode cX11_six 0 = .ok (.aload_n 0, 1) := by decide +kernel
theorem dX11_six_1 : decode cX11_six 1 = .ok (.iload_n 1, 1) := by decide +kernel
theorem dX11_six_2 : decode cX11_six 2 = .ok (.invokevirtual 165, 3) := by decide +kernel
theorem dX11_six_5 : decode cX11_six 5 = .ok (.aload_n 0, 1) := by decide +kernel
theorem dX11_six_6 : decode cX11_six 6 = .ok (.iload_n 2, 1) := by decide +kernel
theorem dX11_six_7 : decode cX11_six 7 = .ok (.invokevirtual 273, 3) := by decide +kernel
theorem dX11_six_10 : decode cX11_six 10 = .ok (.aload_n 0, 1) := by decide +kernel
theorem dX11_six_11 : decode cX11_six 11 = .ok (.getfield 72, 3) := by decide +kernel
theorem dX11_six_14 : decode cX11_six 14 = .ok (.aload_n 0, 1) := by decide +kernel
theorem dX11_six_15 : decode cX11_six 15 = .ok (.getfield 20, 3) := by decide +kernel
theorem dX11_six_18 : decode cX11_six 18 = .ok (.iload_n 1, 1) := by decide +kernel
theorem dX11_six_19 : decode cX11_six 19 = .ok (.invokevirtual 276, 3) := by decide +kernel
theorem dX11_six_22 : decode cX11_six 22 = .ok (.iload_n 2, 1) := by decide +kernel
theorem dX11_six_23 : decode cX11_six 23 = .ok (.ifCond .ne 13, 3) := by decide +kernel
theorem dX11_six_26 : decode cX11_six 26 = .ok (.aload_n 0, 1) := by decide +kernel
theorem dX11_six_27 : decode cX11_six 27 = .ok (.getfield 72, 3) := by decide +kernel
theorem dX11_six_30 : decode cX11_six 30 = .ok (.getfield 279, 3) := by decide +kernel
theorem dX11_six_33 : decode cX11_six 33 = .ok (.goto 10, 3) := by decide +kernel
theorem dX11_six_36 : decode cX11_six 36 = .ok (.aload_n 0, 1) := by decide +kernel
theorem dX11_six_37 : decode cX11_six 37 = .ok (.getfield 72, 3) := by decide +kernel
theorem dX11_six_40 : decode cX11_six 40 = .ok (.getfield 282, 3) := by decide +kernel
theorem dX11_six_43 : decode cX11_six 43 = .ok (.ireturn, 1) := by decide +kernel
theorem dX11_lot_0 : decode cX11_lot 0 = .ok (.aload_n 0, 1) := by decide +kernel
theorem dX11_lot_1 : decode cX11_lot 1 = .ok (.iload_n 1, 1) := by decide +kernel
theorem dX11_lot_2 : decode cX11_lot 2 = .ok (.invokevirtual 165, 3) := by decide +kernel
theorem dX11_lot_5 : decode cX11_lot 5 = .ok (.aload_n 0, 1) := by decide +kernel
theorem dX11_lot_6 : decode cX11_lot 6 = .ok (.iload_n 3, 1) := by decide +kernel
theorem dX11_lot_7 : decode cX11_lot 7 = .ok (.invokevirtual 273, 3) := by decide +kernel
theorem dX11_lot_10 : decode cX11_lot 10 = .ok (.aload_n 0, 1) := by decide +kernel
theorem dX11_lot_11 : decode cX11_lot 11 = .ok (.getfield 72, 3) := by decide +kernel
theorem dX11_lot_14 : decode cX11_lot 14 = .ok (.aload_n 0, 1) := by decide +kernel
theorem dX11_lot_15 : decode cX11_lot 15 = .ok (.getfield 20, 3) := by decide +kernel
theorem dX11_lot_18 : decode cX11_lot 18 = .ok (.iload_n 1, 1) := by decide +kernel
theorem dX11_lot_19 : decode cX11_lot 19 = .ok (.iload_n 2, 1) := by decide +kernel
theorem dX11_lot_20 : decode cX11_lot 20 = .ok (.invokevirtual 285, 3) := by decide +kernel
theorem dX11_lot_23 : decode cX11_lot 23 = .ok (.iload_n 3, 1) := by decide +kernel
theorem dX11_lot_24 : decode cX11_lot 24 = .ok (.ifCond .ne 13, 3) := by decide +kernel
theorem dX11_lot_27 : decode cX11_lot 27 = .ok (.aload_n 0, 1) := by decide +kernel
theorem dX11_lot_28 : decode cX11_lot 28 = .ok (.getfield 72, 3) := by decide +kernel
theorem dX11_lot_31 : decode cX11_lot 31 = .ok (.getfield 279, 3) := by decide +kernel
theorem dX11_lot_34 : decode cX11_lot 34 = .ok (.goto 10, 3) := by decide +kernel
theorem dX11_lot_37 : decode cX11_lot 37 = .ok (.aload_n 0, 1) := by decide +kernel
theorem dX11_lot_38 : decode cX11_lot 38 = .ok (.getfield 72, 3) := by decide +kernel
theorem dX11_lot_41 : decode cX11_lot 41 = .ok (.getfield 282, 3) := by decide +kernel
theorem dX11_lot_44 : decode cX11_lot 44 = .ok (.ireturn, 1) := by decide +kernel
theorem dX11_room_0 : decode cX11_room 0 = .ok (.aload_n 0, 1) := by decide +kernel
theorem dX11_room_1 : decode cX11_room 1 = .ok (.iload_n 1, 1) := by decide +kernel
theorem dX11_room_2 : decode cX11_room 2 = .ok (.invokevirtual 138, 3) := by decide +kernel
theorem dX11_room_5 : decode cX11_room 5 = .ok (.aload_n 0, 1) := by decide +kernel
theorem dX11_room_6 : decode cX11_room 6 = .ok (.iload_n 2, 1) := by decide +kernel
theorem dX11_room_7 : decode cX11_room 7 = .ok (.invokevirtual 165, 3) := by decide +kernel
theorem dX11_room_10 : decode cX11_room 10 = .ok (.aload_n 0, 1) := by decide +kernel
theorem dX11_room_11 : decode cX11_room 11 = .ok (.getfield 20, 3) := by decide +kernel
theorem dX11_room_14 : decode cX11_room 14 = .ok (.iload_n 1, 1) := by decide +kernel
theorem dX11_room_15 : decode cX11_room 15 = .ok (.iload_n 2, 1) := by decide +kernel
theorem dX11_room_16 : decode cX11_room 16 = .ok (.invokevirtual 171, 3) := by decide +kernel
theorem dX11_room_19 : decode cX11_room 19 = .ok (.iconst (-1), 1) := by decide +kernel
theorem dX11_room_20 : decode cX11_room 20 = .ok (.if_icmp .eq 14, 3) := by decide +kernel
theorem dX11_room_23 : decode cX11_room 23 = .ok (.new 105, 3) := by decide +kernel
theorem dX11_room_26 : decode cX11_room 26 = .ok (.dup, 1) := by decide +kernel
theorem dX11_room_27 : decode cX11_room 27 = .ok (.ldc_w 289, 3) := by decide +kernel
theorem dX11_room_30 : decode cX11_room 30 = .ok (.invokespecial 109, 3) := by decide +kernel
theorem dX11_room_33 : decode cX11_room 33 = .ok (.athrow, 1) := by decide +kernel
theorem dX11_room_34 : decode cX11_room 34 = .ok (.aload_n 0, 1) := by decide +kernel
theorem dX11_room_35 : decode cX11_room 35 = .ok (.getfield 79, 3) := by decide +kernel
theorem dX11_room_38 : decode cX11_room 38 = .ok (.aload_n 0, 1) := by decide +kernel
theorem dX11_room_39 : decode cX11_room 39 = .ok (.getfield 20, 3) := by decide +kernel
theorem dX11_room_42 : decode cX11_room 42 = .ok (.iload_n 1, 1) := by decide +kernel
theorem dX11_room_43 : decode cX11_room 43 = .ok (.iload_n 2, 1) := by decide +kernel
theorem dX11_room_44 : decode cX11_room 44 = .ok (.invokevirtual 291, 3) := by decide +kernel
theorem dX11_room_47 : decode cX11_room 47 = .ok (.iload_n 3, 1) := by decide +kernel
theorem dX11_room_48 : decode cX11_room 48 = .ok (.ifCond .eq 13, 3) := by decide +kernel
theorem dX11_room_51 : decode cX11_room 51 = .ok (.aload_n 0, 1) := by decide +kernel
theorem dX11_room_52 : decode cX11_room 52 = .ok (.getfield 79, 3) := by decide +kernel
theorem dX11_room_55 : decode cX11_room 55 = .ok (.getfield 294, 3) := by decide +kernel
theorem dX11_room_58 : decode cX11_room 58 = .ok (.goto 10, 3) := by decide +kernel
theorem dX11_room_61 : decode cX11_room 61 = .ok (.aload_n 0, 1) := by decide +kernel
theorem dX11_room_62 : decode cX11_room 62 = .ok (.getfield 79, 3) := by decide +kernel
theorem dX11_room_65 : decode cX11_room 65 = .ok (.getfield 297, 3) := by decide +kernel
theorem dX11_room_68 : decode cX11_room 68 = .ok (.ireturn, 1) := by decide +kernel
theorem dX11_learn_0 : decode cX11_learn 0 = .ok (.aload_n 0, 1) := by decide +kernel
theorem dX11_learn_1 : decode cX11_learn 1 = .ok (.getfield 86, 3) := by decide +kernel
theorem dX11_learn_4 : decode cX11_learn 4 = .ok (.aload_n 0, 1) := by decide +kernel
theorem dX11_learn_5 : decode cX11_learn 5 = .ok (.getfield 9, 3) := by decide +kernel
theorem dX11_learn_8 : decode cX11_learn 8 = .ok (.aload_n 0, 1) := by decide +kernel
theorem dX11_learn_9 : decode cX11_learn 9 = .ok (.getfield 90, 3) := by decide +kernel
theorem dX11_learn_12 : decode cX11_learn 12 = .ok (.invokevirtual 300, 3) := by decide +kernel
theorem dX11_learn_15 : decode cX11_learn 15 = .ok (.istore_n 2, 1) := by decide +kernel
theorem dX11_learn_16 : decode cX11_learn 16 = .ok (.aload_n 0, 1) := by decide +kernel
theorem dX11_learn_17 : decode cX11_learn 17 = .ok (.iconst 0, 1) := by decide +kernel
theorem dX11_learn_18 : decode cX11_learn 18 = .ok (.putfield 90, 3) := by decide +kernel
theorem dX11_learn_21 : decode cX11_learn 21 = .ok (.iload_n 2, 1) := by decide +kernel
theorem dX11_learn_22 : decode cX11_learn 22 = .ok (.ifCond .ne 14, 3) := by decide +kernel
theorem dX11_learn_25 : decode cX11_learn 25 = .ok (.new 105, 3) := by decide +kernel
theorem dX11_learn_28 : decode cX11_learn 28 = .ok (.dup, 1) := by decide +kernel
theorem dX11_learn_29 : decode cX11_learn 29 = .ok (.ldc_w 304, 3) := by decide +kernel
theorem dX11_learn_32 : decode cX11_learn 32 = .ok (.invokespecial 109, 3) := by decide +kernel
theorem dX11_learn_35 : decode cX11_learn 35 = .ok (.athrow, 1) := by decide +kernel
theorem dX11_learn_36 : decode cX11_learn 36 = .ok (.iload_n 1, 1) := by decide +kernel
theorem dX11_learn_37 : decode cX11_learn 37 = .ok (.iconst (-1), 1) := by decide +kernel
theorem dX11_learn_38 : decode cX11_learn 38 = .ok (.if_icmp .lt 14, 3) := by decide +kernel
theorem dX11_learn_41 : decode cX11_learn 41 = .ok (.iload_n 1, 1) := by decide +kernel
theorem dX11_learn_42 : decode cX11_learn 42 = .ok (.aload_n 0, 1) := by decide +kernel
theorem dX11_learn_43 : decode cX11_learn 43 = .ok (.getfield 86, 3) := by decide +kernel
theorem dX11_learn_46 : decode cX11_learn 46 = .ok (.getfield 306, 3) := by decide +kernel
theorem dX11_learn_49 : decode cX11_learn 49 = .ok (.if_icmp .lt 14, 3) := by decide +kernel
theorem dX11_learn_52 : decode cX11_learn 52 = .ok (.new 105, 3) := by decide +kernel
theorem dX11_learn_55 : decode cX11_learn 55 = .ok (.dup, 1) := by decide +kernel
theorem dX11_learn_56 : decode cX11_learn 56 = .ok (.ldc_w 309, 3) := by decide +kernel
theorem dX11_learn_59 : decode cX11_learn 59 = .ok (.invokespecial 109, 3) := by decide +kernel
theorem dX11_learn_62 : decode cX11_learn 62 = .ok (.athrow, 1) := by decide +kernel
theorem dX11_learn_63 : decode cX11_learn 63 = .ok (.aload_n 0, 1) := by decide +kernel
theorem dX11_learn_64 : decode cX11_learn 64 = .ok (.getfield 86, 3) := by decide +kernel
theorem dX11_learn_67 : decode cX11_learn 67 = .ok (.invokevirtual 311, 3) := by decide +kernel
theorem dX11_learn_70 : decode cX11_learn 70 = .ok (.iload_n 1, 1) := by decide +kernel
theorem dX11_learn_71 : decode cX11_learn 71 = .ok (.iconst (-1), 1) := by decide +kernel
theorem dX11_learn_72 : decode cX11_learn 72 = .ok (.if_icmp .ne 13, 3) := by decide +kernel
theorem dX11_learn_75 : decode cX11_learn 75 = .ok (.aload_n 0, 1) := by decide +kernel
theorem dX11_learn_76 : decode cX11_learn 76 = .ok (.getfield 86, 3) := by decide +kernel
theorem dX11_learn_79 : decode cX11_learn 79 = .ok (.getfield 314, 3) := by decide +kernel
theorem dX11_learn_82 : decode cX11_learn 82 = .ok (.goto 11, 3) := by decide +kernel
theorem dX11_learn_85 : decode cX11_learn 85 = .ok (.aload_n 0, 1) := by decide +kernel
theorem dX11_learn_86 : decode cX11_learn 86 = .ok (.getfield 86, 3) := by decide +kernel
theorem dX11_learn_89 : decode cX11_learn 89 = .ok (.iload_n 1, 1) := by decide +kernel
theorem dX11_learn_90 : decode cX11_learn 90 = .ok (.invokevirtual 317, 3) := by decide +kernel
theorem dX11_learn_93 : decode cX11_learn 93 = .ok (.ireturn, 1) := by decide +kernel
theorem dX11_fooled_0 : decode cX11_fooled 0 = .ok (.aload_n 0, 1) := by decide +kernel
theorem dX11_fooled_1 : decode cX11_fooled 1 = .ok (.iload_n 1, 1) := by decide +kernel
theorem dX11_fooled_2 : decode cX11_fooled 2 = .ok (.invokevirtual 138, 3) := by decide +kernel
theorem dX11_fooled_5 : decode cX11_fooled 5 = .ok (.aload_n 0, 1) := by decide +kernel
theorem dX11_fooled_6 : decode cX11_fooled 6 = .ok (.iload_n 2, 1) := by decide +kernel
theorem dX11_fooled_7 : decode cX11_fooled 7 = .ok (.invokevirtual 138, 3) := by decide +kernel
theorem dX11_fooled_10 : decode cX11_fooled 10 = .ok (.iload_n 3, 1) := by decide +kernel
theorem dX11_fooled_11 : decode cX11_fooled 11 = .ok (.iconst 1, 1) := by decide +kernel
theorem dX11_fooled_12 : decode cX11_fooled 12 = .ok (.if_icmp .lt 9, 3) := by decide +kernel
theorem dX11_fooled_15 : decode cX11_fooled 15 = .ok (.iload_n 3, 1) := by decide +kernel
theorem dX11_fooled_16 : decode cX11_fooled 16 = .ok (.bipush 8, 2) := by decide +kernel
theorem dX11_fooled_18 : decode cX11_fooled 18 = .ok (.if_icmp .le 14, 3) := by decide +kernel
theorem dX11_fooled_21 : decode cX11_fooled 21 = .ok (.new 105, 3) := by decide +kernel
theorem dX11_fooled_24 : decode cX11_fooled 24 = .ok (.dup, 1) := by decide +kernel
theorem dX11_fooled_25 : decode cX11_fooled 25 = .ok (.ldc_w 320, 3) := by decide +kernel
theorem dX11_fooled_28 : decode cX11_fooled 28 = .ok (.invokespecial 109, 3) := by decide +kernel
theorem dX11_fooled_31 : decode cX11_fooled 31 = .ok (.athrow, 1) := by decide +kernel
theorem dX11_fooled_32 : decode cX11_fooled 32 = .ok (.iload_n 3, 1) := by decide +kernel
theorem dX11_fooled_33 : decode cX11_fooled 33 = .ok (.aload_n 0, 1) := by decide +kernel
theorem dX11_fooled_34 : decode cX11_fooled 34 = .ok (.getfield 20, 3) := by decide +kernel
theorem dX11_fooled_37 : decode cX11_fooled 37 = .ok (.iload_n 2, 1) := by decide +kernel
theorem dX11_fooled_38 : decode cX11_fooled 38 = .ok (.iload_n 1, 1) := by decide +kernel
theorem dX11_fooled_39 : decode cX11_fooled 39 = .ok (.invokevirtual 184, 3) := by decide +kernel
theorem dX11_fooled_42 : decode cX11_fooled 42 = .ok (.invokestatic 322, 3) := by decide +kernel
theorem dX11_fooled_45 : decode cX11_fooled 45 = .ok (.istore 4, 2) := by decide +kernel
theorem dX11_fooled_47 : decode cX11_fooled 47 = .ok (.iload 4, 2) := by decide +kernel
theorem dX11_fooled_49 : decode cX11_fooled 49 = .ok (.ifCond .ne 7, 3) := by decide +kernel
theorem dX11_fooled_52 : decode cX11_fooled 52 = .ok (.iconst 0, 1) := by decide +kernel
theorem dX11_fooled_53 : decode cX11_fooled 53 = .ok (.goto 18, 3) := by decide +kernel
theorem dX11_fooled_56 : decode cX11_fooled 56 = .ok (.aload_n 0, 1) := by decide +kernel
theorem dX11_fooled_57 : decode cX11_fooled 57 = .ok (.getfield 20, 3) := by decide +kernel
theorem dX11_fooled_60 : decode cX11_fooled 60 = .ok (.iload_n 1, 1) := by decide +kernel
theorem dX11_fooled_61 : decode cX11_fooled 61 = .ok (.iload 4, 2) := by decide +kernel
theorem dX11_fooled_63 : decode cX11_fooled 63 = .ok (.invokevirtual 327, 3) := by decide +kernel
theorem dX11_fooled_66 : decode cX11_fooled 66 = .ok (.iload_n 3, 1) := by decide +kernel
theorem dX11_fooled_67 : decode cX11_fooled 67 = .ok (.iload 4, 2) := by decide +kernel
theorem dX11_fooled_69 : decode cX11_fooled 69 = .ok (.isub, 1) := by decide +kernel
theorem dX11_fooled_70 : decode cX11_fooled 70 = .ok (.ishl, 1) := by decide +kernel
theorem dX11_fooled_71 : decode cX11_fooled 71 = .ok (.ireturn, 1) := by decide +kernel
theorem dX11_could_0 : decode cX11_could 0 = .ok (.aload_n 0, 1) := by decide +kernel
theorem dX11_could_1 : decode cX11_could 1 = .ok (.iload_n 1, 1) := by decide +kernel
theorem dX11_could_2 : decode cX11_could 2 = .ok (.invokevirtual 211, 3) := by decide +kernel
theorem dX11_could_5 : decode cX11_could 5 = .ok (.aload_n 0, 1) := by decide +kernel
theorem dX11_could_6 : decode cX11_could 6 = .ok (.iload_n 2, 1) := by decide +kernel
theorem dX11_could_7 : decode cX11_could 7 = .ok (.invokevirtual 138, 3) := by decide +kernel
theorem dX11_could_10 : decode cX11_could 10 = .ok (.aload_n 0, 1) := by decide +kernel
theorem dX11_could_11 : decode cX11_could 11 = .ok (.getfield 20, 3) := by decide +kernel
theorem dX11_could_14 : decode cX11_could 14 = .ok (.getfield 201, 3) := by decide +kernel
theorem dX11_could_17 : decode cX11_could 17 = .ok (.aload_n 0, 1) := by decide +kernel
theorem dX11_could_18 : decode cX11_could 18 = .ok (.getfield 20, 3) := by decide +kernel
theorem dX11_could_21 : decode cX11_could 21 = .ok (.iload_n 1, 1) := by decide +kernel
theorem dX11_could_22 : decode cX11_could 22 = .ok (.iload_n 2, 1) := by decide +kernel
theorem dX11_could_23 : decode cX11_could 23 = .ok (.invokevirtual 330, 3) := by decide +kernel
theorem dX11_could_26 : decode cX11_could 26 = .ok (.ireturn, 1) := by decide +kernel
theorem dX11_understood_0 : decode cX11_understood 0 = .ok (.aload_n 0, 1) := by decide +kernel
theorem dX11_understood_1 : decode cX11_understood 1 = .ok (.iload_n 1, 1) := by decide +kernel
theorem dX11_understood_2 : decode cX11_understood 2 = .ok (.invokevirtual 138, 3) := by decide +kernel
theorem dX11_understood_5 : decode cX11_understood 5 = .ok (.iconst 0, 1) := by decide +kernel
theorem dX11_understood_6 : decode cX11_understood 6 = .ok (.istore_n 2, 1) := by decide +kernel
theorem dX11_understood_7 : decode cX11_understood 7 = .ok (.iconst 0, 1) := by decide +kernel
theorem dX11_understood_8 : decode cX11_understood 8 = .ok (.istore_n 3, 1) := by decide +kernel
theorem dX11_understood_9 : decode cX11_understood 9 = .ok (.iload_n 3, 1) := by decide +kernel
theorem dX11_understood_10 : decode cX11_understood 10 = .ok (.aload_n 0, 1) := by decide +kernel
theorem dX11_understood_11 : decode cX11_understood 11 = .ok (.getfield 20, 3) := by decide +kernel
theorem dX11_understood_14 : decode cX11_understood 14 = .ok (.getfield 333, 3) := by decide +kernel
theorem dX11_understood_17 : decode cX11_understood 17 = .ok (.if_icmp .ge 21, 3) := by decide +kernel
theorem dX11_understood_20 : decode cX11_understood 20 = .ok (.iload_n 2, 1) := by decide +kernel
theorem dX11_understood_21 : decode cX11_understood 21 = .ok (.aload_n 0, 1) := by decide +kernel
theorem dX11_understood_22 : decode cX11_understood 22 = .ok (.getfield 20, 3) := by decide +kernel
theorem dX11_understood_25 : decode cX11_understood 25 = .ok (.iload_n 3, 1) := by decide +kernel
theorem dX11_understood_26 : decode cX11_understood 26 = .ok (.iload_n 1, 1) := by decide +kernel
theorem dX11_understood_27 : decode cX11_understood 27 = .ok (.invokevirtual 336, 3) := by decide +kernel
theorem dX11_understood_30 : decode cX11_understood 30 = .ok (.iadd, 1) := by decide +kernel
theorem dX11_understood_31 : decode cX11_understood 31 = .ok (.istore_n 2, 1) := by decide +kernel
theorem dX11_understood_32 : decode cX11_understood 32 = .ok (.iinc 3 1, 3) := by decide +kernel
theorem dX11_understood_35 : decode cX11_understood 35 = .ok (.goto (-26), 3) := by decide +kernel
theorem dX11_understood_38 : decode cX11_understood 38 = .ok (.iload_n 2, 1) := by decide +kernel
theorem dX11_understood_39 : decode cX11_understood 39 = .ok (.ireturn, 1) := by decide +kernel
theorem dX11_quiet_0 : decode cX11_quiet 0 = .ok (.aload_n 0, 1) := by decide +kernel
theorem dX11_quiet_1 : decode cX11_quiet 1 = .ok (.iload_n 1, 1) := by decide +kernel
theorem dX11_quiet_2 : decode cX11_quiet 2 = .ok (.invokevirtual 138, 3) := by decide +kernel
theorem dX11_quiet_5 : decode cX11_quiet 5 = .ok (.aload_n 0, 1) := by decide +kernel
theorem dX11_quiet_6 : decode cX11_quiet 6 = .ok (.iload_n 2, 1) := by decide +kernel
theorem dX11_quiet_7 : decode cX11_quiet 7 = .ok (.invokevirtual 165, 3) := by decide +kernel
theorem dX11_quiet_10 : decode cX11_quiet 10 = .ok (.aload_n 0, 1) := by decide +kernel
theorem dX11_quiet_11 : decode cX11_quiet 11 = .ok (.iload_n 3, 1) := by decide +kernel
theorem dX11_quiet_12 : decode cX11_quiet 12 = .ok (.invokevirtual 193, 3) := by decide +kernel
theorem dX11_quiet_15 : decode cX11_quiet 15 = .ok (.aload_n 0, 1) := by decide +kernel
theorem dX11_quiet_16 : decode cX11_quiet 16 = .ok (.iload 4, 2) := by decide +kernel
theorem dX11_quiet_18 : decode cX11_quiet 18 = .ok (.invokevirtual 193, 3) := by decide +kernel
theorem dX11_quiet_21 : decode cX11_quiet 21 = .ok (.iload 4, 2) := by decide +kernel
theorem dX11_quiet_23 : decode cX11_quiet 23 = .ok (.iload_n 3, 1) := by decide +kernel
theorem dX11_quiet_24 : decode cX11_quiet 24 = .ok (.if_icmp .lt 12, 3) := by decide +kernel
theorem dX11_quiet_27 : decode cX11_quiet 27 = .ok (.iload 4, 2) := by decide +kernel
theorem dX11_quiet_29 : decode cX11_quiet 29 = .ok (.iload_n 3, 1) := by decide +kernel
theorem dX11_quiet_30 : decode cX11_quiet 30 = .ok (.isub, 1) := by decide +kernel
theorem dX11_quiet_31 : decode cX11_quiet 31 = .ok (.bipush 60, 2) := by decide +kernel
theorem dX11_quiet_33 : decode cX11_quiet 33 = .ok (.if_icmp .le 14, 3) := by decide +kernel
theorem dX11_quiet_36 : decode cX11_quiet 36 = .ok (.new 105, 3) := by decide +kernel
theorem dX11_quiet_39 : decode cX11_quiet 39 = .ok (.dup, 1) := by decide +kernel
theorem dX11_quiet_40 : decode cX11_quiet 40 = .ok (.ldc_w 339, 3) := by decide +kernel
theorem dX11_quiet_43 : decode cX11_quiet 43 = .ok (.invokespecial 109, 3) := by decide +kernel
theorem dX11_quiet_46 : decode cX11_quiet 46 = .ok (.athrow, 1) := by decide +kernel
theorem dX11_quiet_47 : decode cX11_quiet 47 = .ok (.aload_n 0, 1) := by decide +kernel
theorem dX11_quiet_48 : decode cX11_quiet 48 = .ok (.invokevirtual 198, 3) := by decide +kernel
theorem dX11_quiet_51 : decode cX11_quiet 51 = .ok (.aload_n 0, 1) := by decide +kernel
theorem dX11_quiet_52 : decode cX11_quiet 52 = .ok (.getfield 20, 3) := by decide +kernel
theorem dX11_quiet_55 : decode cX11_quiet 55 = .ok (.iload_n 1, 1) := by decide +kernel
theorem dX11_quiet_56 : decode cX11_quiet 56 = .ok (.iload_n 2, 1) := by decide +kernel
theorem dX11_quiet_57 : decode cX11_quiet 57 = .ok (.invokevirtual 171, 3) := by decide +kernel
theorem dX11_quiet_60 : decode cX11_quiet 60 = .ok (.istore 5, 2) := by decide +kernel
theorem dX11_quiet_62 : decode cX11_quiet 62 = .ok (.iload 5, 2) := by decide +kernel
theorem dX11_quiet_64 : decode cX11_quiet 64 = .ok (.iconst (-1), 1) := by decide +kernel
theorem dX11_quiet_65 : decode cX11_quiet 65 = .ok (.if_icmp .ne 7, 3) := by decide +kernel
theorem dX11_quiet_68 : decode cX11_quiet 68 = .ok (.iconst (-1), 1) := by decide +kernel
theorem dX11_quiet_69 : decode cX11_quiet 69 = .ok (.goto 12, 3) := by decide +kernel
theorem dX11_quiet_72 : decode cX11_quiet 72 = .ok (.aload_n 0, 1) := by decide +kernel
theorem dX11_quiet_73 : decode cX11_quiet 73 = .ok (.iload_n 1, 1) := by decide +kernel
theorem dX11_quiet_74 : decode cX11_quiet 74 = .ok (.iload_n 2, 1) := by decide +kernel
theorem dX11_quiet_75 : decode cX11_quiet 75 = .ok (.iload_n 3, 1) := by decide +kernel
theorem dX11_quiet_76 : decode cX11_quiet 76 = .ok (.iload 4, 2) := by decide +kernel
theorem dX11_quiet_78 : decode cX11_quiet 78 = .ok (.invokevirtual 341, 3) := by decide +kernel
theorem dX11_quiet_81 : decode cX11_quiet 81 = .ok (.ireturn, 1) := by decide +kernel
theorem dX11_worth_0 : decode cX11_worth 0 = .ok (.aload_n 0, 1) := by decide +kernel
theorem dX11_worth_1 : decode cX11_worth 1 = .ok (.iload_n 1, 1) := by decide +kernel
theorem dX11_worth_2 : decode cX11_worth 2 = .ok (.invokevirtual 138, 3) := by decide +kernel
theorem dX11_worth_5 : decode cX11_worth 5 = .ok (.aload_n 0, 1) := by decide +kernel
theorem dX11_worth_6 : decode cX11_worth 6 = .ok (.iload_n 2, 1) := by decide +kernel
theorem dX11_worth_7 : decode cX11_worth 7 = .ok (.invokevirtual 165, 3) := by decide +kernel
theorem dX11_worth_10 : decode cX11_worth 10 = .ok (.aload_n 0, 1) := by decide +kernel
theorem dX11_worth_11 : decode cX11_worth 11 = .ok (.iload_n 3, 1) := by decide +kernel
theorem dX11_worth_12 : decode cX11_worth 12 = .ok (.invokevirtual 175, 3) := by decide +kernel
theorem dX11_worth_15 : decode cX11_worth 15 = .ok (.aload_n 0, 1) := by decide +kernel
theorem dX11_worth_16 : decode cX11_worth 16 = .ok (.iload_n 1, 1) := by decide +kernel
theorem dX11_worth_17 : decode cX11_worth 17 = .ok (.iload_n 2, 1) := by decide +kernel
theorem dX11_worth_18 : decode cX11_worth 18 = .ok (.iload_n 3, 1) := by decide +kernel
theorem dX11_worth_19 : decode cX11_worth 19 = .ok (.invokevirtual 344, 3) := by decide +kernel
theorem dX11_worth_22 : decode cX11_worth 22 = .ok (.ireturn, 1) := by decide +kernel
theorem dX11_sale_0 : decode cX11_sale 0 = .ok (.aload_n 0, 1) := by decide +kernel
theorem dX11_sale_1 : decode cX11_sale 1 = .ok (.iload_n 1, 1) := by decide +kernel
theorem dX11_sale_2 : decode cX11_sale 2 = .ok (.invokevirtual 165, 3) := by decide +kernel
theorem dX11_sale_5 : decode cX11_sale 5 = .ok (.aload_n 0, 1) := by decide +kernel
theorem dX11_sale_6 : decode cX11_sale 6 = .ok (.iload_n 2, 1) := by decide +kernel
theorem dX11_sale_7 : decode cX11_sale 7 = .ok (.invokevirtual 175, 3) := by decide +kernel
theorem dX11_sale_10 : decode cX11_sale 10 = .ok (.iconst (-1), 1) := by decide +kernel
theorem dX11_sale_11 : decode cX11_sale 11 = .ok (.istore 4, 2) := by decide +kernel
theorem dX11_sale_13 : decode cX11_sale 13 = .ok (.iconst 0, 1) := by decide +kernel
theorem dX11_sale_14 : decode cX11_sale 14 = .ok (.istore 5, 2) := by decide +kernel
theorem dX11_sale_16 : decode cX11_sale 16 = .ok (.iconst 0, 1) := by decide +kernel
theorem dX11_sale_17 : decode cX11_sale 17 = .ok (.istore 6, 2) := by decide +kernel
theorem dX11_sale_19 : decode cX11_sale 19 = .ok (.iconst 0, 1) := by decide +kernel
theorem dX11_sale_20 : decode cX11_sale 20 = .ok (.istore 7, 2) := by decide +kernel
theorem dX11_sale_22 : decode cX11_sale 22 = .ok (.iload 7, 2) := by decide +kernel
theorem dX11_sale_24 : decode cX11_sale 24 = .ok (.aload_n 0, 1) := by decide +kernel
theorem dX11_sale_25 : decode cX11_sale 25 = .ok (.getfield 20, 3) := by decide +kernel
theorem dX11_sale_28 : decode cX11_sale 28 = .ok (.getfield 333, 3) := by decide +kernel
theorem dX11_sale_31 : decode cX11_sale 31 = .ok (.if_icmp .ge 52, 3) := by decide +kernel
theorem dX11_sale_34 : decode cX11_sale 34 = .ok (.aload_n 0, 1) := by decide +kernel
theorem dX11_sale_35 : decode cX11_sale 35 = .ok (.iload 7, 2) := by decide +kernel
theorem dX11_sale_37 : decode cX11_sale 37 = .ok (.iload_n 1, 1) := by decide +kernel
theorem dX11_sale_38 : decode cX11_sale 38 = .ok (.iload_n 2, 1) := by decide +kernel
theorem dX11_sale_39 : decode cX11_sale 39 = .ok (.invokevirtual 344, 3) := by decide +kernel
theorem dX11_sale_42 : decode cX11_sale 42 = .ok (.istore 8, 2) := by decide +kernel
theorem dX11_sale_44 : decode cX11_sale 44 = .ok (.iload 8, 2) := by decide +kernel
theorem dX11_sale_46 : decode cX11_sale 46 = .ok (.iload 5, 2) := by decide +kernel
theorem dX11_sale_48 : decode cX11_sale 48 = .ok (.if_icmp .le 18, 3) := by decide +kernel
theorem dX11_sale_51 : decode cX11_sale 51 = .ok (.iload 5, 2) := by decide +kernel
theorem dX11_sale_53 : decode cX11_sale 53 = .ok (.istore 6, 2) := by decide +kernel
theorem dX11_sale_55 : decode cX11_sale 55 = .ok (.iload 8, 2) := by decide +kernel
theorem dX11_sale_57 : decode cX11_sale 57 = .ok (.istore 5, 2) := by decide +kernel
theorem dX11_sale_59 : decode cX11_sale 59 = .ok (.iload 7, 2) := by decide +kernel
theorem dX11_sale_61 : decode cX11_sale 61 = .ok (.istore 4, 2) := by decide +kernel
theorem dX11_sale_63 : decode cX11_sale 63 = .ok (.goto 14, 3) := by decide +kernel
theorem dX11_sale_66 : decode cX11_sale 66 = .ok (.iload 8, 2) := by decide +kernel
theorem dX11_sale_68 : decode cX11_sale 68 = .ok (.iload 6, 2) := by decide +kernel
theorem dX11_sale_70 : decode cX11_sale 70 = .ok (.if_icmp .le 7, 3) := by decide +kernel
theorem dX11_sale_73 : decode cX11_sale 73 = .ok (.iload 8, 2) := by decide +kernel
theorem dX11_sale_75 : decode cX11_sale 75 = .ok (.istore 6, 2) := by decide +kernel
theorem dX11_sale_77 : decode cX11_sale 77 = .ok (.iinc 7 1, 3) := by decide +kernel
theorem dX11_sale_80 : decode cX11_sale 80 = .ok (.goto (-58), 3) := by decide +kernel
theorem dX11_sale_83 : decode cX11_sale 83 = .ok (.iload_n 3, 1) := by decide +kernel
theorem dX11_sale_84 : decode cX11_sale 84 = .ok (.ifCond .eq 14, 3) := by decide +kernel
theorem dX11_sale_87 : decode cX11_sale 87 = .ok (.iload 4, 2) := by decide +kernel
theorem dX11_sale_89 : decode cX11_sale 89 = .ok (.iconst (-1), 1) := by decide +kernel
theorem dX11_sale_90 : decode cX11_sale 90 = .ok (.if_icmp .eq 8, 3) := by decide +kernel
theorem dX11_sale_93 : decode cX11_sale 93 = .ok (.iload 6, 2) := by decide +kernel
theorem dX11_sale_95 : decode cX11_sale 95 = .ok (.goto 5, 3) := by decide +kernel
theorem dX11_sale_98 : decode cX11_sale 98 = .ok (.iload 4, 2) := by decide +kernel
theorem dX11_sale_100 : decode cX11_sale 100 = .ok (.ireturn, 1) := by decide +kernel
theorem dX11_evening_0 : decode cX11_evening 0 = .ok (.iload_n 2, 1) := by decide +kernel
theorem dX11_evening_1 : decode cX11_evening 1 = .ok (.iconst 1, 1) := by decide +kernel
theorem dX11_evening_2 : decode cX11_evening 2 = .ok (.if_icmp .lt 9, 3) := by decide +kernel
theorem dX11_evening_5 : decode cX11_evening 5 = .ok (.iload_n 2, 1) := by decide +kernel
theorem dX11_evening_6 : decode cX11_evening 6 = .ok (.bipush 12, 2) := by decide +kernel
theorem dX11_evening_8 : decode cX11_evening 8 = .ok (.if_icmp .le 14, 3) := by decide +kernel
theorem dX11_evening_11 : decode cX11_evening 11 = .ok (.new 105, 3) := by decide +kernel
theorem dX11_evening_14 : decode cX11_evening 14 = .ok (.dup, 1) := by decide +kernel
theorem dX11_evening_15 : decode cX11_evening 15 = .ok (.ldc_w 348, 3) := by decide +kernel
theorem dX11_evening_18 : decode cX11_evening 18 = .ok (.invokespecial 109, 3) := by decide +kernel
theorem dX11_evening_21 : decode cX11_evening 21 = .ok (.athrow, 1) := by decide +kernel
theorem dX11_evening_22 : decode cX11_evening 22 = .ok (.iload_n 3, 1) := by decide +kernel
theorem dX11_evening_23 : decode cX11_evening 23 = .ok (.ifCond .lt 8, 3) := by decide +kernel
theorem dX11_evening_26 : decode cX11_evening 26 = .ok (.iload_n 3, 1) := by decide +kernel
theorem dX11_evening_27 : decode cX11_evening 27 = .ok (.iconst 3, 1) := by decide +kernel
theorem dX11_evening_28 : decode cX11_evening 28 = .ok (.if_icmp .le 14, 3) := by decide +kernel
theorem dX11_evening_31 : decode cX11_evening 31 = .ok (.new 160, 3) := by decide +kernel
theorem dX11_evening_34 : decode cX11_evening 34 = .ok (.dup, 1) := by decide +kernel
theorem dX11_evening_35 : decode cX11_evening 35 = .ok (.ldc_w 350, 3) := by decide +kernel
theorem dX11_evening_38 : decode cX11_evening 38 = .ok (.invokespecial 164, 3) := by decide +kernel
theorem dX11_evening_41 : decode cX11_evening 41 = .ok (.athrow, 1) := by decide +kernel
theorem dX11_evening_42 : decode cX11_evening 42 = .ok (.aload_n 0, 1) := by decide +kernel
theorem dX11_evening_43 : decode cX11_evening 43 = .ok (.iload_n 1, 1) := by decide +kernel
theorem dX11_evening_44 : decode cX11_evening 44 = .ok (.iload_n 2, 1) := by decide +kernel
theorem dX11_evening_45 : decode cX11_evening 45 = .ok (.invokevirtual 352, 3) := by decide +kernel
theorem dX11_evening_48 : decode cX11_evening 48 = .ok (.iload_n 3, 1) := by decide +kernel
theorem dX11_evening_49 : decode cX11_evening 49 = .ok (.iconst 3, 1) := by decide +kernel
theorem dX11_evening_50 : decode cX11_evening 50 = .ok (.if_icmp .ne 13, 3) := by decide +kernel
theorem dX11_evening_53 : decode cX11_evening 53 = .ok (.aload_n 0, 1) := by decide +kernel
theorem dX11_evening_54 : decode cX11_evening 54 = .ok (.getfield 33, 3) := by decide +kernel
theorem dX11_evening_57 : decode cX11_evening 57 = .ok (.getfield 208, 3) := by decide +kernel
theorem dX11_evening_60 : decode cX11_evening 60 = .ok (.goto 8, 3) := by decide +kernel
theorem dX11_evening_63 : decode cX11_evening 63 = .ok (.aload_n 0, 1) := by decide +kernel
theorem dX11_evening_64 : decode cX11_evening 64 = .ok (.iload_n 3, 1) := by decide +kernel
theorem dX11_evening_65 : decode cX11_evening 65 = .ok (.invokevirtual 355, 3) := by decide +kernel
theorem dX11_evening_68 : decode cX11_evening 68 = .ok (.ireturn, 1) := by decide +kernel
theorem dX11_image_0 : decode cX11_image 0 = .ok (.aload_n 0, 1) := by decide +kernel
theorem dX11_image_1 : decode cX11_image 1 = .ok (.getfield 27, 3) := by decide +kernel
theorem dX11_image_4 : decode cX11_image 4 = .ok (.aload_n 0, 1) := by decide +kernel
theorem dX11_image_5 : decode cX11_image 5 = .ok (.getfield 20, 3) := by decide +kernel
theorem dX11_image_8 : decode cX11_image 8 = .ok (.invokevirtual 97, 3) := by decide +kernel
theorem dX11_image_11 : decode cX11_image 11 = .ok (.aload_n 0, 1) := by decide +kernel
theorem dX11_image_12 : decode cX11_image 12 = .ok (.iconst 1, 1) := by decide +kernel
theorem dX11_image_13 : decode cX11_image 13 = .ok (.putfield 358, 3) := by decide +kernel
theorem dX11_image_16 : decode cX11_image 16 = .ok (.return_, 1) := by decide +kernel
theorem dX11_back_0 : decode cX11_back 0 = .ok (.aload_n 0, 1) := by decide +kernel
theorem dX11_back_1 : decode cX11_back 1 = .ok (.getfield 358, 3) := by decide +kernel
theorem dX11_back_4 : decode cX11_back 4 = .ok (.ifCond .ne 5, 3) := by decide +kernel
theorem dX11_back_7 : decode cX11_back 7 = .ok (.iconst 0, 1) := by decide +kernel
theorem dX11_back_8 : decode cX11_back 8 = .ok (.ireturn, 1) := by decide +kernel
theorem dX11_back_9 : decode cX11_back 9 = .ok (.aload_n 0, 1) := by decide +kernel
theorem dX11_back_10 : decode cX11_back 10 = .ok (.getfield 20, 3) := by decide +kernel
theorem dX11_back_13 : decode cX11_back 13 = .ok (.aload_n 0, 1) := by decide +kernel
theorem dX11_back_14 : decode cX11_back 14 = .ok (.getfield 27, 3) := by decide +kernel
theorem dX11_back_17 : decode cX11_back 17 = .ok (.invokevirtual 97, 3) := by decide +kernel
theorem dX11_back_20 : decode cX11_back 20 = .ok (.iconst 1, 1) := by decide +kernel
theorem dX11_back_21 : decode cX11_back 21 = .ok (.ireturn, 1) := by decide +kernel
theorem dX11_count_0 : decode cX11_count 0 = .ok (.iload_n 1, 1) := by decide +kernel
theorem dX11_count_1 : decode cX11_count 1 = .ok (.tableswitch 153 0 10 #[59, 67, 75, 83, 94, 105, 113, 121, 129, 137, 145], 59) := by decide +kernel
theorem dX11_count_60 : decode cX11_count 60 = .ok (.aload_n 0, 1) := by decide +kernel
theorem dX11_count_61 : decode cX11_count 61 = .ok (.getfield 20, 3) := by decide +kernel
theorem dX11_count_64 : decode cX11_count 64 = .ok (.getfield 333, 3) := by decide +kernel
theorem dX11_count_67 : decode cX11_count 67 = .ok (.ireturn, 1) := by decide +kernel
theorem dX11_count_68 : decode cX11_count 68 = .ok (.aload_n 0, 1) := by decide +kernel
theorem dX11_count_69 : decode cX11_count 69 = .ok (.getfield 20, 3) := by decide +kernel
theorem dX11_count_72 : decode cX11_count 72 = .ok (.getfield 362, 3) := by decide +kernel
theorem dX11_count_75 : decode cX11_count 75 = .ok (.ireturn, 1) := by decide +kernel
theorem dX11_count_76 : decode cX11_count 76 = .ok (.aload_n 0, 1) := by decide +kernel
theorem dX11_count_77 : decode cX11_count 77 = .ok (.getfield 20, 3) := by decide +kernel
theorem dX11_count_80 : decode cX11_count 80 = .ok (.getfield 112, 3) := by decide +kernel
theorem dX11_count_83 : decode cX11_count 83 = .ok (.ireturn, 1) := by decide +kernel
theorem dX11_count_84 : decode cX11_count 84 = .ok (.aload_n 0, 1) := by decide +kernel
theorem dX11_count_85 : decode cX11_count 85 = .ok (.getfield 20, 3) := by decide +kernel
theorem dX11_count_88 : decode cX11_count 88 = .ok (.getfield 123, 3) := by decide +kernel
theorem dX11_count_91 : decode cX11_count 91 = .ok (.getfield 135, 3) := by decide +kernel
theorem dX11_count_94 : decode cX11_count 94 = .ok (.ireturn, 1) := by decide +kernel
theorem dX11_count_95 : decode cX11_count 95 = .ok (.aload_n 0, 1) := by decide +kernel
theorem dX11_count_96 : decode cX11_count 96 = .ok (.getfield 20, 3) := by decide +kernel
theorem dX11_count_99 : decode cX11_count 99 = .ok (.getfield 201, 3) := by decide +kernel
theorem dX11_count_102 : decode cX11_count 102 = .ok (.getfield 208, 3) := by decide +kernel
theorem dX11_count_105 : decode cX11_count 105 = .ok (.ireturn, 1) := by decide +kernel
theorem dX11_count_106 : decode cX11_count 106 = .ok (.aload_n 0, 1) := by decide +kernel
theorem dX11_count_107 : decode cX11_count 107 = .ok (.getfield 20, 3) := by decide +kernel
theorem dX11_count_110 : decode cX11_count 110 = .ok (.invokevirtual 365, 3) := by decide +kernel
theorem dX11_count_113 : decode cX11_count 113 = .ok (.ireturn, 1) := by decide +kernel
theorem dX11_count_114 : decode cX11_count 114 = .ok (.aload_n 0, 1) := by decide +kernel
theorem dX11_count_115 : decode cX11_count 115 = .ok (.getfield 20, 3) := by decide +kernel
theorem dX11_count_118 : decode cX11_count 118 = .ok (.invokevirtual 369, 3) := by decide +kernel
theorem dX11_count_121 : decode cX11_count 121 = .ok (.ireturn, 1) := by decide +kernel
theorem dX11_count_122 : decode cX11_count 122 = .ok (.aload_n 0, 1) := by decide +kernel
theorem dX11_count_123 : decode cX11_count 123 = .ok (.getfield 20, 3) := by decide +kernel
theorem dX11_count_126 : decode cX11_count 126 = .ok (.getfield 242, 3) := by decide +kernel
theorem dX11_count_129 : decode cX11_count 129 = .ok (.ireturn, 1) := by decide +kernel
theorem dX11_count_130 : decode cX11_count 130 = .ok (.aload_n 0, 1) := by decide +kernel
theorem dX11_count_131 : decode cX11_count 131 = .ok (.getfield 20, 3) := by decide +kernel
theorem dX11_count_134 : decode cX11_count 134 = .ok (.getfield 372, 3) := by decide +kernel
theorem dX11_count_137 : decode cX11_count 137 = .ok (.ireturn, 1) := by decide +kernel
theorem dX11_count_138 : decode cX11_count 138 = .ok (.aload_n 0, 1) := by decide +kernel
theorem dX11_count_139 : decode cX11_count 139 = .ok (.getfield 20, 3) := by decide +kernel
theorem dX11_count_142 : decode cX11_count 142 = .ok (.getfield 375, 3) := by decide +kernel
theorem dX11_count_145 : decode cX11_count 145 = .ok (.ireturn, 1) := by decide +kernel
theorem dX11_count_146 : decode cX11_count 146 = .ok (.aload_n 0, 1) := by decide +kernel
theorem dX11_count_147 : decode cX11_count 147 = .ok (.getfield 20, 3) := by decide +kernel
theorem dX11_count_150 : decode cX11_count 150 = .ok (.invokevirtual 378, 3) := by decide +kernel
theorem dX11_count_153 : decode cX11_count 153 = .ok (.ireturn, 1) := by decide +kernel
theorem dX11_count_154 : decode cX11_count 154 = .ok (.iconst (-1), 1) := by decide +kernel
theorem dX11_count_155 : decode cX11_count 155 = .ok (.ireturn, 1) := by decide +kernel
theorem dX11_putOnTape_0 : decode cX11_putOnTape 0 = .ok (.bipush 24, 2) := by decide +kernel
theorem dX11_putOnTape_2 : decode cX11_putOnTape 2 = .ok (.istore_n 2, 1) := by decide +kernel
theorem dX11_putOnTape_3 : decode cX11_putOnTape 3 = .ok (.iload_n 2, 1) := by decide +kernel
theorem dX11_putOnTape_4 : decode cX11_putOnTape 4 = .ok (.ifCond .lt 42, 3) := by decide +kernel
theorem dX11_putOnTape_7 : decode cX11_putOnTape 7 = .ok (.aload_n 0, 1) := by decide +kernel
theorem dX11_putOnTape_8 : decode cX11_putOnTape 8 = .ok (.getfield 90, 3) := by decide +kernel
theorem dX11_putOnTape_11 : decode cX11_putOnTape 11 = .ok (.sipush 400, 3) := by decide +kernel
theorem dX11_putOnTape_14 : decode cX11_putOnTape 14 = .ok (.if_icmp .ge 26, 3) := by decide +kernel
theorem dX11_putOnTape_17 : decode cX11_putOnTape 17 = .ok (.aload_n 0, 1) := by decide +kernel
theorem dX11_putOnTape_18 : decode cX11_putOnTape 18 = .ok (.getfield 9, 3) := by decide +kernel
theorem dX11_putOnTape_21 : decode cX11_putOnTape 21 = .ok (.aload_n 0, 1) := by decide +kernel
theorem dX11_putOnTape_22 : decode cX11_putOnTape 22 = .ok (.getfield 90, 3) := by decide +kernel
theorem dX11_putOnTape_25 : decode cX11_putOnTape 25 = .ok (.iload_n 1, 1) := by decide +kernel
theorem dX11_putOnTape_26 : decode cX11_putOnTape 26 = .ok (.iload_n 2, 1) := by decide +kernel
theorem dX11_putOnTape_27 : decode cX11_putOnTape 27 = .ok (.ishr, 1) := by decide +kernel
theorem dX11_putOnTape_28 : decode cX11_putOnTape 28 = .ok (.i2b, 1) := by decide +kernel
theorem dX11_putOnTape_29 : decode cX11_putOnTape 29 = .ok (.bastore, 1) := by decide +kernel
theorem dX11_putOnTape_30 : decode cX11_putOnTape 30 = .ok (.aload_n 0, 1) := by decide +kernel
theorem dX11_putOnTape_31 : decode cX11_putOnTape 31 = .ok (.dup, 1) := by decide +kernel
theorem dX11_putOnTape_32 : decode cX11_putOnTape 32 = .ok (.getfield 90, 3) := by decide +kernel
theorem dX11_putOnTape_35 : decode cX11_putOnTape 35 = .ok (.iconst 1, 1) := by decide +kernel
theorem dX11_putOnTape_36 : decode cX11_putOnTape 36 = .ok (.iadd, 1) := by decide +kernel
theorem dX11_putOnTape_37 : decode cX11_putOnTape 37 = .ok (.putfield 90, 3) := by decide +kernel
theorem dX11_putOnTape_40 : decode cX11_putOnTape 40 = .ok (.iinc 2 (-8), 3) := by decide +kernel
theorem dX11_putOnTape_43 : decode cX11_putOnTape 43 = .ok (.goto (-40), 3) := by decide +kernel
theorem dX11_putOnTape_46 : decode cX11_putOnTape 46 = .ok (.return_, 1) := by decide +kernel
theorem dX11_needHouse_0 : decode cX11_needHouse 0 = .ok (.aload_n 0, 1) := by decide +kernel
theorem dX11_needHouse_1 : decode cX11_needHouse 1 = .ok (.getfield 20, 3) := by decide +kernel
theorem dX11_needHouse_4 : decode cX11_needHouse 4 = .ok (.iload_n 1, 1) := by decide +kernel
theorem dX11_needHouse_5 : decode cX11_needHouse 5 = .ok (.invokevirtual 381, 3) := by decide +kernel
theorem dX11_needHouse_8 : decode cX11_needHouse 8 = .ok (.ifCond .ne 14, 3) := by decide +kernel
theorem dX11_needHouse_11 : decode cX11_needHouse 11 = .ok (.new 385, 3) := by decide +kernel
theorem dX11_needHouse_14 : decode cX11_needHouse 14 = .ok (.dup, 1) := by decide +kernel
theorem dX11_needHouse_15 : decode cX11_needHouse 15 = .ok (.ldc_w 387, 3) := by decide +kernel
theorem dX11_needHouse_18 : decode cX11_needHouse 18 = .ok (.invokespecial 389, 3) := by decide +kernel
theorem dX11_needHouse_21 : decode cX11_needHouse 21 = .ok (.athrow, 1) := by decide +kernel
theorem dX11_needHouse_22 : decode cX11_needHouse 22 = .ok (.return_, 1) := by decide +kernel
theorem dX11_needWant_0 : decode cX11_needWant 0 = .ok (.aload_n 0, 1) := by decide +kernel
theorem dX11_needWant_1 : decode cX11_needWant 1 = .ok (.getfield 20, 3) := by decide +kernel
theorem dX11_needWant_4 : decode cX11_needWant 4 = .ok (.iload_n 1, 1) := by decide +kernel
theorem dX11_needWant_5 : decode cX11_needWant 5 = .ok (.invokevirtual 390, 3) := by decide +kernel
theorem dX11_needWant_8 : decode cX11_needWant 8 = .ok (.ifCond .ne 14, 3) := by decide +kernel
theorem dX11_needWant_11 : decode cX11_needWant 11 = .ok (.new 385, 3) := by decide +kernel
theorem dX11_needWant_14 : decode cX11_needWant 14 = .ok (.dup, 1) := by decide +kernel
theorem dX11_needWant_15 : decode cX11_needWant 15 = .ok (.ldc_w 393, 3) := by decide +kernel
theorem dX11_needWant_18 : decode cX11_needWant 18 = .ok (.invokespecial 389, 3) := by decide +kernel
theorem dX11_needWant_21 : decode cX11_needWant 21 = .ok (.athrow, 1) := by decide +kernel
theorem dX11_needWant_22 : decode cX11_needWant 22 = .ok (.return_, 1) := by decide +kernel
theorem dX11_needRinging_0 : decode cX11_needRinging 0 = .ok (.iload_n 1, 1) := by decide +kernel
theorem dX11_needRinging_1 : decode cX11_needRinging 1 = .ok (.ifCond .lt 17, 3) := by decide +kernel
theorem dX11_needRinging_4 : decode cX11_needRinging 4 = .ok (.iload_n 1, 1) := by decide +kernel
theorem dX11_needRinging_5 : decode cX11_needRinging 5 = .ok (.aload_n 0, 1) := by decide +kernel
theorem dX11_needRinging_6 : decode cX11_needRinging 6 = .ok (.getfield 20, 3) := by decide +kernel
theorem dX11_needRinging_9 : decode cX11_needRinging 9 = .ok (.getfield 201, 3) := by decide +kernel
theorem dX11_needRinging_12 : decode cX11_needRinging 12 = .ok (.getfield 208, 3) := by decide +kernel
theorem dX11_needRinging_15 : decode cX11_needRinging 15 = .ok (.if_icmp .lt 14, 3) := by decide +kernel
theorem dX11_needRinging_18 : decode cX11_needRinging 18 = .ok (.new 385, 3) := by decide +kernel
theorem dX11_needRinging_21 : decode cX11_needRinging 21 = .ok (.dup, 1) := by decide +kernel
theorem dX11_needRinging_22 : decode cX11_needRinging 22 = .ok (.ldc_w 395, 3) := by decide +kernel
theorem dX11_needRinging_25 : decode cX11_needRinging 25 = .ok (.invokespecial 389, 3) := by decide +kernel
theorem dX11_needRinging_28 : decode cX11_needRinging 28 = .ok (.athrow, 1) := by decide +kernel
theorem dX11_needRinging_29 : decode cX11_needRinging 29 = .ok (.return_, 1) := by decide +kernel
theorem dX11_needWord_0 : decode cX11_needWord 0 = .ok (.iload_n 1, 1) := by decide +kernel
theorem dX11_needWord_1 : decode cX11_needWord 1 = .ok (.iconst 2, 1) := by decide +kernel
theorem dX11_needWord_2 : decode cX11_needWord 2 = .ok (.if_icmp .lt 10, 3) := by decide +kernel
theorem dX11_needWord_5 : decode cX11_needWord 5 = .ok (.iload_n 1, 1) := by decide +kernel
theorem dX11_needWord_6 : decode cX11_needWord 6 = .ok (.sipush 511, 3) := by decide +kernel
theorem dX11_needWord_9 : decode cX11_needWord 9 = .ok (.if_icmp .le 14, 3) := by decide +kernel
theorem dX11_needWord_12 : decode cX11_needWord 12 = .ok (.new 105, 3) := by decide +kernel
theorem dX11_needWord_15 : decode cX11_needWord 15 = .ok (.dup, 1) := by decide +kernel
theorem dX11_needWord_16 : decode cX11_needWord 16 = .ok (.ldc_w 397, 3) := by decide +kernel
theorem dX11_needWord_19 : decode cX11_needWord 19 = .ok (.invokespecial 109, 3) := by decide +kernel
theorem dX11_needWord_22 : decode cX11_needWord 22 = .ok (.athrow, 1) := by decide +kernel
theorem dX11_needWord_23 : decode cX11_needWord 23 = .ok (.return_, 1) := by decide +kernel
theorem dX11_needFirstWord_0 : decode cX11_needFirstWord 0 = .ok (.aload_n 0, 1) := by decide +kernel
theorem dX11_needFirstWord_1 : decode cX11_needFirstWord 1 = .ok (.getfield 20, 3) := by decide +kernel
theorem dX11_needFirstWord_4 : decode cX11_needFirstWord 4 = .ok (.iload_n 1, 1) := by decide +kernel
theorem dX11_needFirstWord_5 : decode cX11_needFirstWord 5 = .ok (.iload_n 2, 1) := by decide +kernel
theorem dX11_needFirstWord_6 : decode cX11_needFirstWord 6 = .ok (.invokevirtual 171, 3) := by decide +kernel
theorem dX11_needFirstWord_9 : decode cX11_needFirstWord 9 = .ok (.iconst (-1), 1) := by decide +kernel
theorem dX11_needFirstWord_10 : decode cX11_needFirstWord 10 = .ok (.if_icmp .ne 14, 3) := by decide +kernel
theorem dX11_needFirstWord_13 : decode cX11_needFirstWord 13 = .ok (.new 105, 3) := by decide +kernel
theorem dX11_needFirstWord_16 : decode cX11_needFirstWord 16 = .ok (.dup, 1) := by decide +kernel
theorem dX11_needFirstWord_17 : decode cX11_needFirstWord 17 = .ok (.ldc_w 399, 3) := by decide +kernel
theorem dX11_needFirstWord_20 : decode cX11_needFirstWord 20 = .ok (.invokespecial 109, 3) := by decide +kernel
theorem dX11_needFirstWord_23 : decode cX11_needFirstWord 23 = .ok (.athrow, 1) := by decide +kernel
theorem dX11_needFirstWord_24 : decode cX11_needFirstWord 24 = .ok (.return_, 1) := by decide +kernel
theorem dX11_needMinute_0 : decode cX11_needMinute 0 = .ok (.iload_n 1, 1) := by decide +kernel
theorem dX11_needMinute_1 : decode cX11_needMinute 1 = .ok (.ifCond .lt 10, 3) := by decide +kernel
theorem dX11_needMinute_4 : decode cX11_needMinute 4 = .ok (.iload_n 1, 1) := by decide +kernel
theorem dX11_needMinute_5 : decode cX11_needMinute 5 = .ok (.sipush 999, 3) := by decide +kernel
theorem dX11_needMinute_8 : decode cX11_needMinute 8 = .ok (.if_icmp .le 14, 3) := by decide +kernel
theorem dX11_needMinute_11 : decode cX11_needMinute 11 = .ok (.new 105, 3) := by decide +kernel
theorem dX11_needMinute_14 : decode cX11_needMinute 14 = .ok (.dup, 1) := by decide +kernel
theorem dX11_needMinute_15 : decode cX11_needMinute 15 = .ok (.ldc_w 401, 3) := by decide +kernel
theorem dX11_needMinute_18 : decode cX11_needMinute 18 = .ok (.invokespecial 109, 3) := by decide +kernel
theorem dX11_needMinute_21 : decode cX11_needMinute 21 = .ok (.athrow, 1) := by decide +kernel
theorem dX11_needMinute_22 : decode cX11_needMinute 22 = .ok (.return_, 1) := by decide +kernel
theorem dX11_needRoomForRinging_0 : decode cX11_needRoomForRinging 0 = .ok (.aload_n 0, 1) := by decide +kernel
theorem dX11_needRoomForRinging_1 : decode cX11_needRoomForRinging 1 = .ok (.getfield 20, 3) := by decide +kernel
theorem dX11_needRoomForRinging_4 : decode cX11_needRoomForRinging 4 = .ok (.getfield 201, 3) := by decide +kernel
theorem dX11_needRoomForRinging_7 : decode cX11_needRoomForRinging 7 = .ok (.getfield 208, 3) := by decide +kernel
theorem dX11_needRoomForRinging_10 : decode cX11_needRoomForRinging 10 = .ok (.bipush 12, 2) := by decide +kernel
theorem dX11_needRoomForRinging_12 : decode cX11_needRoomForRinging 12 = .ok (.if_icmp .lt 14, 3) := by decide +kernel
theorem dX11_needRoomForRinging_15 : decode cX11_needRoomForRinging 15 = .ok (.new 115, 3) := by decide +kernel
theorem dX11_needRoomForRinging_18 : decode cX11_needRoomForRinging 18 = .ok (.dup, 1) := by decide +kernel
theorem dX11_needRoomForRinging_19 : decode cX11_needRoomForRinging 19 = .ok (.ldc_w 403, 3) := by decide +kernel
theorem dX11_needRoomForRinging_22 : decode cX11_needRoomForRinging 22 = .ok (.invokespecial 119, 3) := by decide +kernel
theorem dX11_needRoomForRinging_25 : decode cX11_needRoomForRinging 25 = .ok (.athrow, 1) := by decide +kernel
theorem dX11_needRoomForRinging_26 : decode cX11_needRoomForRinging 26 = .ok (.return_, 1) := by decide +kernel
theorem dX11_needSixWhat_0 : decode cX11_needSixWhat 0 = .ok (.iload_n 1, 1) := by decide +kernel
theorem dX11_needSixWhat_1 : decode cX11_needSixWhat 1 = .ok (.ifCond .eq 19, 3) := by decide +kernel
theorem dX11_needSixWhat_4 : decode cX11_needSixWhat 4 = .ok (.iload_n 1, 1) := by decide +kernel
theorem dX11_needSixWhat_5 : decode cX11_needSixWhat 5 = .ok (.iconst 1, 1) := by decide +kernel
theorem dX11_needSixWhat_6 : decode cX11_needSixWhat 6 = .ok (.if_icmp .eq 14, 3) := by decide +kernel
theorem dX11_needSixWhat_9 : decode cX11_needSixWhat 9 = .ok (.new 160, 3) := by decide +kernel
theorem dX11_needSixWhat_12 : decode cX11_needSixWhat 12 = .ok (.dup, 1) := by decide +kernel
theorem dX11_needSixWhat_13 : decode cX11_needSixWhat 13 = .ok (.ldc_w 405, 3) := by decide +kernel
theorem dX11_needSixWhat_16 : decode cX11_needSixWhat 16 = .ok (.invokespecial 164, 3) := by decide +kernel
theorem dX11_needSixWhat_19 : decode cX11_needSixWhat 19 = .ok (.athrow, 1) := by decide +kernel
theorem dX11_needSixWhat_20 : decode cX11_needSixWhat 20 = .ok (.return_, 1) := by decide +kernel
theorem dX11_quietest_0 : decode cX11_quietest 0 = .ok (.aload_n 0, 1) := by decide +kernel
theorem dX11_quietest_1 : decode cX11_quietest 1 = .ok (.getfield 33, 3) := by decide +kernel
theorem dX11_quietest_4 : decode cX11_quietest 4 = .ok (.aload_n 0, 1) := by decide +kernel
theorem dX11_quietest_5 : decode cX11_quietest 5 = .ok (.getfield 20, 3) := by decide +kernel
theorem dX11_quietest_8 : decode cX11_quietest 8 = .ok (.getfield 201, 3) := by decide +kernel
theorem dX11_quietest_11 : decode cX11_quietest 11 = .ok (.invokevirtual 407, 3) := by decide +kernel
theorem dX11_quietest_14 : decode cX11_quietest 14 = .ok (.aload_n 0, 1) := by decide +kernel
theorem dX11_quietest_15 : decode cX11_quietest 15 = .ok (.getfield 33, 3) := by decide +kernel
theorem dX11_quietest_18 : decode cX11_quietest 18 = .ok (.iload_n 3, 1) := by decide +kernel
theorem dX11_quietest_19 : decode cX11_quietest 19 = .ok (.iload_n 1, 1) := by decide +kernel
theorem dX11_quietest_20 : decode cX11_quietest 20 = .ok (.iload_n 2, 1) := by decide +kernel
theorem dX11_quietest_21 : decode cX11_quietest 21 = .ok (.aload_n 0, 1) := by decide +kernel
theorem dX11_quietest_22 : decode cX11_quietest 22 = .ok (.getfield 20, 3) := by decide +kernel
theorem dX11_quietest_25 : decode cX11_quietest 25 = .ok (.iload_n 1, 1) := by decide +kernel
theorem dX11_quietest_26 : decode cX11_quietest 26 = .ok (.iload_n 2, 1) := by decide +kernel
theorem dX11_quietest_27 : decode cX11_quietest 27 = .ok (.invokevirtual 171, 3) := by decide +kernel
theorem dX11_quietest_30 : decode cX11_quietest 30 = .ok (.invokevirtual 204, 3) := by decide +kernel
theorem dX11_quietest_33 : decode cX11_quietest 33 = .ok (.istore 5, 2) := by decide +kernel
theorem dX11_quietest_35 : decode cX11_quietest 35 = .ok (.aload_n 0, 1) := by decide +kernel
theorem dX11_quietest_36 : decode cX11_quietest 36 = .ok (.getfield 37, 3) := by decide +kernel
theorem dX11_quietest_39 : decode cX11_quietest 39 = .ok (.iconst 0, 1) := by decide +kernel
theorem dX11_quietest_40 : decode cX11_quietest 40 = .ok (.invokestatic 410, 3) := by decide +kernel
theorem dX11_quietest_43 : decode cX11_quietest 43 = .ok (.iconst 0, 1) := by decide +kernel
theorem dX11_quietest_44 : decode cX11_quietest 44 = .ok (.istore 6, 2) := by decide +kernel
theorem dX11_quietest_46 : decode cX11_quietest 46 = .ok (.iload 6, 2) := by decide +kernel
theorem dX11_quietest_48 : decode cX11_quietest 48 = .ok (.aload_n 0, 1) := by decide +kernel
theorem dX11_quietest_49 : decode cX11_quietest 49 = .ok (.getfield 20, 3) := by decide +kernel
theorem dX11_quietest_52 : decode cX11_quietest 52 = .ok (.getfield 333, 3) := by decide +kernel
theorem dX11_quietest_55 : decode cX11_quietest 55 = .ok (.if_icmp .ge 86, 3) := by decide +kernel
theorem dX11_quietest_58 : decode cX11_quietest 58 = .ok (.aload_n 0, 1) := by decide +kernel
theorem dX11_quietest_59 : decode cX11_quietest 59 = .ok (.getfield 33, 3) := by decide +kernel
theorem dX11_quietest_62 : decode cX11_quietest 62 = .ok (.aload_n 0, 1) := by decide +kernel
theorem dX11_quietest_63 : decode cX11_quietest 63 = .ok (.getfield 20, 3) := by decide +kernel
theorem dX11_quietest_66 : decode cX11_quietest 66 = .ok (.iload 6, 2) := by decide +kernel
theorem dX11_quietest_68 : decode cX11_quietest 68 = .ok (.invokevirtual 416, 3) := by decide +kernel
theorem dX11_quietest_71 : decode cX11_quietest 71 = .ok (.iconst 0, 1) := by decide +kernel
theorem dX11_quietest_72 : decode cX11_quietest 72 = .ok (.istore 7, 2) := by decide +kernel
theorem dX11_quietest_74 : decode cX11_quietest 74 = .ok (.iload 7, 2) := by decide +kernel
theorem dX11_quietest_76 : decode cX11_quietest 76 = .ok (.iload 4, 2) := by decide +kernel
theorem dX11_quietest_78 : decode cX11_quietest 78 = .ok (.iload_n 3, 1) := by decide +kernel
theorem dX11_quietest_79 : decode cX11_quietest 79 = .ok (.isub, 1) := by decide +kernel
theorem dX11_quietest_80 : decode cX11_quietest 80 = .ok (.if_icmp .gt 55, 3) := by decide +kernel
theorem dX11_quietest_83 : decode cX11_quietest 83 = .ok (.iload 7, 2) := by decide +kernel
theorem dX11_quietest_85 : decode cX11_quietest 85 = .ok (.aload_n 0, 1) := by decide +kernel
theorem dX11_quietest_86 : decode cX11_quietest 86 = .ok (.getfield 37, 3) := by decide +kernel
theorem dX11_quietest_89 : decode cX11_quietest 89 = .ok (.arraylength, 1) := by decide +kernel
theorem dX11_quietest_90 : decode cX11_quietest 90 = .ok (.if_icmp .ge 45, 3) := by decide +kernel
theorem dX11_quietest_93 : decode cX11_quietest 93 = .ok (.aload_n 0, 1) := by decide +kernel
theorem dX11_quietest_94 : decode cX11_quietest 94 = .ok (.getfield 20, 3) := by decide +kernel
theorem dX11_quietest_97 : decode cX11_quietest 97 = .ok (.iload_n 1, 1) := by decide +kernel
theorem dX11_quietest_98 : decode cX11_quietest 98 = .ok (.aload_n 0, 1) := by decide +kernel
theorem dX11_quietest_99 : decode cX11_quietest 99 = .ok (.getfield 33, 3) := by decide +kernel
theorem dX11_quietest_102 : decode cX11_quietest 102 = .ok (.iload 5, 2) := by decide +kernel
theorem dX11_quietest_104 : decode cX11_quietest 104 = .ok (.iload_n 3, 1) := by decide +kernel
theorem dX11_quietest_105 : decode cX11_quietest 105 = .ok (.iload 7, 2) := by decide +kernel
theorem dX11_quietest_107 : decode cX11_quietest 107 = .ok (.iadd, 1) := by decide +kernel
theorem dX11_quietest_108 : decode cX11_quietest 108 = .ok (.invokevirtual 419, 3) := by decide +kernel
theorem dX11_quietest_111 : decode cX11_quietest 111 = .ok (.invokevirtual 422, 3) := by decide +kernel
theorem dX11_quietest_114 : decode cX11_quietest 114 = .ok (.iload_n 2, 1) := by decide +kernel
theorem dX11_quietest_115 : decode cX11_quietest 115 = .ok (.if_icmp .ne 14, 3) := by decide +kernel
theorem dX11_quietest_118 : decode cX11_quietest 118 = .ok (.aload_n 0, 1) := by decide +kernel
theorem dX11_quietest_119 : decode cX11_quietest 119 = .ok (.getfield 37, 3) := by decide +kernel
theorem dX11_quietest_122 : decode cX11_quietest 122 = .ok (.iload 7, 2) := by decide +kernel
theorem dX11_quietest_124 : decode cX11_quietest 124 = .ok (.dup2, 1) := by decide +kernel
theorem dX11_quietest_125 : decode cX11_quietest 125 = .ok (.iaload, 1) := by decide +kernel
theorem dX11_quietest_126 : decode cX11_quietest 126 = .ok (.iconst 1, 1) := by decide +kernel
theorem dX11_quietest_127 : decode cX11_quietest 127 = .ok (.iadd, 1) := by decide +kernel
theorem dX11_quietest_128 : decode cX11_quietest 128 = .ok (.iastore, 1) := by decide +kernel
theorem dX11_quietest_129 : decode cX11_quietest 129 = .ok (.iinc 7 1, 3) := by decide +kernel
theorem dX11_quietest_132 : decode cX11_quietest 132 = .ok (.goto (-58), 3) := by decide +kernel
theorem dX11_quietest_135 : decode cX11_quietest 135 = .ok (.iinc 6 1, 3) := by decide +kernel
theorem dX11_quietest_138 : decode cX11_quietest 138 = .ok (.goto (-92), 3) := by decide +kernel
theorem dX11_quietest_141 : decode cX11_quietest 141 = .ok (.iconst 0, 1) := by decide +kernel
theorem dX11_quietest_142 : decode cX11_quietest 142 = .ok (.istore 6, 2) := by decide +kernel
theorem dX11_quietest_144 : decode cX11_quietest 144 = .ok (.iconst 0, 1) := by decide +kernel
theorem dX11_quietest_145 : decode cX11_quietest 145 = .ok (.istore 7, 2) := by decide +kernel
theorem dX11_quietest_147 : decode cX11_quietest 147 = .ok (.iload 7, 2) := by decide +kernel
theorem dX11_quietest_149 : decode cX11_quietest 149 = .ok (.iload 4, 2) := by decide +kernel
theorem dX11_quietest_151 : decode cX11_quietest 151 = .ok (.iload_n 3, 1) := by decide +kernel
theorem dX11_quietest_152 : decode cX11_quietest 152 = .ok (.isub, 1) := by decide +kernel
theorem dX11_quietest_153 : decode cX11_quietest 153 = .ok (.if_icmp .gt 40, 3) := by decide +kernel
theorem dX11_quietest_156 : decode cX11_quietest 156 = .ok (.iload 7, 2) := by decide +kernel
theorem dX11_quietest_158 : decode cX11_quietest 158 = .ok (.aload_n 0, 1) := by decide +kernel
theorem dX11_quietest_159 : decode cX11_quietest 159 = .ok (.getfield 37, 3) := by decide +kernel
theorem dX11_quietest_162 : decode cX11_quietest 162 = .ok (.arraylength, 1) := by decide +kernel
theorem dX11_quietest_163 : decode cX11_quietest 163 = .ok (.if_icmp .ge 30, 3) := by decide +kernel
theorem dX11_quietest_166 : decode cX11_quietest 166 = .ok (.aload_n 0, 1) := by decide +kernel
theorem dX11_quietest_167 : decode cX11_quietest 167 = .ok (.getfield 37, 3) := by decide +kernel
theorem dX11_quietest_170 : decode cX11_quietest 170 = .ok (.iload 7, 2) := by decide +kernel
theorem dX11_quietest_172 : decode cX11_quietest 172 = .ok (.iaload, 1) := by decide +kernel
theorem dX11_quietest_173 : decode cX11_quietest 173 = .ok (.aload_n 0, 1) := by decide +kernel
theorem dX11_quietest_174 : decode cX11_quietest 174 = .ok (.getfield 37, 3) := by decide +kernel
theorem dX11_quietest_177 : decode cX11_quietest 177 = .ok (.iload 6, 2) := by decide +kernel
theorem dX11_quietest_179 : decode cX11_quietest 179 = .ok (.iaload, 1) := by decide +kernel
theorem dX11_quietest_180 : decode cX11_quietest 180 = .ok (.if_icmp .le 7, 3) := by decide +kernel
theorem dX11_quietest_183 : decode cX11_quietest 183 = .ok (.iload 7, 2) := by decide +kernel
theorem dX11_quietest_185 : decode cX11_quietest 185 = .ok (.istore 6, 2) := by decide +kernel
theorem dX11_quietest_187 : decode cX11_quietest 187 = .ok (.iinc 7 1, 3) := by decide +kernel
theorem dX11_quietest_190 : decode cX11_quietest 190 = .ok (.goto (-43), 3) := by decide +kernel
theorem dX11_quietest_193 : decode cX11_quietest 193 = .ok (.iload_n 3, 1) := by decide +kernel
theorem dX11_quietest_194 : decode cX11_quietest 194 = .ok (.iload 6, 2) := by decide +kernel
theorem dX11_quietest_196 : decode cX11_quietest 196 = .ok (.iadd, 1) := by decide +kernel
theorem dX11_quietest_197 : decode cX11_quietest 197 = .ok (.ireturn, 1) := by decide +kernel
theorem dX11_worthTo_0 : decode cX11_worthTo 0 = .ok (.aload_n 0, 1) := by decide +kernel
theorem dX11_worthTo_1 : decode cX11_worthTo 1 = .ok (.getfield 20, 3) := by decide +kernel
theorem dX11_worthTo_4 : decode cX11_worthTo 4 = .ok (.iload_n 1, 1) := by decide +kernel
theorem dX11_worthTo_5 : decode cX11_worthTo 5 = .ok (.iload_n 2, 1) := by decide +kernel
theorem dX11_worthTo_6 : decode cX11_worthTo 6 = .ok (.iload_n 3, 1) := by decide +kernel
theorem dX11_worthTo_7 : decode cX11_worthTo 7 = .ok (.invokevirtual 425, 3) := by decide +kernel
theorem dX11_worthTo_10 : decode cX11_worthTo 10 = .ok (.ifCond .eq 7, 3) := by decide +kernel
theorem dX11_worthTo_13 : decode cX11_worthTo 13 = .ok (.ldc_w 429, 3) := by decide +kernel
theorem dX11_worthTo_16 : decode cX11_worthTo 16 = .ok (.ireturn, 1) := by decide +kernel
theorem dX11_worthTo_17 : decode cX11_worthTo 17 = .ok (.aload_n 0, 1) := by decide +kernel
theorem dX11_worthTo_18 : decode cX11_worthTo 18 = .ok (.getfield 20, 3) := by decide +kernel
theorem dX11_worthTo_21 : decode cX11_worthTo 21 = .ok (.iload_n 1, 1) := by decide +kernel
theorem dX11_worthTo_22 : decode cX11_worthTo 22 = .ok (.iload_n 2, 1) := by decide +kernel
theorem dX11_worthTo_23 : decode cX11_worthTo 23 = .ok (.invokevirtual 171, 3) := by decide +kernel
theorem dX11_worthTo_26 : decode cX11_worthTo 26 = .ok (.istore 4, 2) := by decide +kernel
theorem dX11_worthTo_28 : decode cX11_worthTo 28 = .ok (.iload 4, 2) := by decide +kernel
theorem dX11_worthTo_30 : decode cX11_worthTo 30 = .ok (.iconst (-1), 1) := by decide +kernel
theorem dX11_worthTo_31 : decode cX11_worthTo 31 = .ok (.if_icmp .ne 8, 3) := by decide +kernel
theorem dX11_worthTo_34 : decode cX11_worthTo 34 = .ok (.bipush 17, 2) := by decide +kernel
theorem dX11_worthTo_36 : decode cX11_worthTo 36 = .ok (.goto 8, 3) := by decide +kernel
theorem dX11_worthTo_39 : decode cX11_worthTo 39 = .ok (.iload 4, 2) := by decide +kernel
theorem dX11_worthTo_41 : decode cX11_worthTo 41 = .ok (.invokestatic 178, 3) := by decide +kernel
theorem dX11_worthTo_44 : decode cX11_worthTo 44 = .ok (.istore 5, 2) := by decide +kernel
theorem dX11_worthTo_46 : decode cX11_worthTo 46 = .ok (.aload_n 0, 1) := by decide +kernel
theorem dX11_worthTo_47 : decode cX11_worthTo 47 = .ok (.getfield 20, 3) := by decide +kernel
theorem dX11_worthTo_50 : decode cX11_worthTo 50 = .ok (.iload_n 2, 1) := by decide +kernel
theorem dX11_worthTo_51 : decode cX11_worthTo 51 = .ok (.invokevirtual 430, 3) := by decide +kernel
theorem dX11_worthTo_54 : decode cX11_worthTo 54 = .ok (.iload 5, 2) := by decide +kernel
theorem dX11_worthTo_56 : decode cX11_worthTo 56 = .ok (.iload_n 3, 1) := by decide +kernel
theorem dX11_worthTo_57 : decode cX11_worthTo 57 = .ok (.invokestatic 178, 3) := by decide +kernel
theorem dX11_worthTo_60 : decode cX11_worthTo 60 = .ok (.isub, 1) := by decide +kernel
theorem dX11_worthTo_61 : decode cX11_worthTo 61 = .ok (.imul, 1) := by decide +kernel
theorem dX11_worthTo_62 : decode cX11_worthTo 62 = .ok (.ireturn, 1) := by decide +kernel
theorem dX11_drawEvening_0 : decode cX11_drawEvening 0 = .ok (.aload_n 0, 1) := by decide +kernel
theorem dX11_drawEvening_1 : decode cX11_drawEvening 1 = .ok (.getfield 33, 3) := by decide +kernel
theorem dX11_drawEvening_4 : decode cX11_drawEvening 4 = .ok (.iconst 0, 1) := by decide +kernel
theorem dX11_drawEvening_5 : decode cX11_drawEvening 5 = .ok (.putfield 208, 3) := by decide +kernel
theorem dX11_drawEvening_8 : decode cX11_drawEvening 8 = .ok (.iload_n 1, 1) := by decide +kernel
theorem dX11_drawEvening_9 : decode cX11_drawEvening 9 = .ok (.istore_n 3, 1) := by decide +kernel
theorem dX11_drawEvening_10 : decode cX11_drawEvening 10 = .ok (.aload_n 0, 1) := by decide +kernel
theorem dX11_drawEvening_11 : decode cX11_drawEvening 11 = .ok (.getfield 20, 3) := by decide +kernel
theorem dX11_drawEvening_14 : decode cX11_drawEvening 14 = .ok (.getfield 333, 3) := by decide +kernel
theorem dX11_drawEvening_17 : decode cX11_drawEvening 17 = .ok (.ifCond .le 13, 3) := by decide +kernel
theorem dX11_drawEvening_20 : decode cX11_drawEvening 20 = .ok (.aload_n 0, 1) := by decide +kernel
theorem dX11_drawEvening_21 : decode cX11_drawEvening 21 = .ok (.getfield 20, 3) := by decide +kernel
theorem dX11_drawEvening_24 : decode cX11_drawEvening 24 = .ok (.getfield 362, 3) := by decide +kernel
theorem dX11_drawEvening_27 : decode cX11_drawEvening 27 = .ok (.ifCond .gt 4, 3) := by decide +kernel
theorem dX11_drawEvening_30 : decode cX11_drawEvening 30 = .ok (.return_, 1) := by decide +kernel
theorem dX11_drawEvening_31 : decode cX11_drawEvening 31 = .ok (.iconst 0, 1) := by decide +kernel
theorem dX11_drawEvening_32 : decode cX11_drawEvening 32 = .ok (.istore 4, 2) := by decide +kernel
theorem dX11_drawEvening_34 : decode cX11_drawEvening 34 = .ok (.iload 4, 2) := by decide +kernel
theorem dX11_drawEvening_36 : decode cX11_drawEvening 36 = .ok (.iload_n 2, 1) := by decide +kernel
theorem dX11_drawEvening_37 : decode cX11_drawEvening 37 = .ok (.if_icmp .ge 96, 3) := by decide +kernel
theorem dX11_drawEvening_40 : decode cX11_drawEvening 40 = .ok (.iload_n 3, 1) := by decide +kernel
theorem dX11_drawEvening_41 : decode cX11_drawEvening 41 = .ok (.invokestatic 433, 3) := by decide +kernel
theorem dX11_drawEvening_44 : decode cX11_drawEvening 44 = .ok (.istore_n 3, 1) := by decide +kernel
theorem dX11_drawEvening_45 : decode cX11_drawEvening 45 = .ok (.iload_n 3, 1) := by decide +kernel
theorem dX11_drawEvening_46 : decode cX11_drawEvening 46 = .ok (.invokestatic 436, 3) := by decide +kernel
theorem dX11_drawEvening_49 : decode cX11_drawEvening 49 = .ok (.bipush 20, 2) := by decide +kernel
theorem dX11_drawEvening_51 : decode cX11_drawEvening 51 = .ok (.irem, 1) := by decide +kernel
theorem dX11_drawEvening_52 : decode cX11_drawEvening 52 = .ok (.istore 5, 2) := by decide +kernel
theorem dX11_drawEvening_54 : decode cX11_drawEvening 54 = .ok (.iload_n 3, 1) := by decide +kernel
theorem dX11_drawEvening_55 : decode cX11_drawEvening 55 = .ok (.invokestatic 433, 3) := by decide +kernel
theorem dX11_drawEvening_58 : decode cX11_drawEvening 58 = .ok (.istore_n 3, 1) := by decide +kernel
theorem dX11_drawEvening_59 : decode cX11_drawEvening 59 = .ok (.iload_n 3, 1) := by decide +kernel
theorem dX11_drawEvening_60 : decode cX11_drawEvening 60 = .ok (.invokestatic 436, 3) := by decide +kernel
theorem dX11_drawEvening_63 : decode cX11_drawEvening 63 = .ok (.aload_n 0, 1) := by decide +kernel
theorem dX11_drawEvening_64 : decode cX11_drawEvening 64 = .ok (.getfield 20, 3) := by decide +kernel
theorem dX11_drawEvening_67 : decode cX11_drawEvening 67 = .ok (.getfield 333, 3) := by decide +kernel
theorem dX11_drawEvening_70 : decode cX11_drawEvening 70 = .ok (.irem, 1) := by decide +kernel
theorem dX11_drawEvening_71 : decode cX11_drawEvening 71 = .ok (.istore 6, 2) := by decide +kernel
theorem dX11_drawEvening_73 : decode cX11_drawEvening 73 = .ok (.iload_n 3, 1) := by decide +kernel
theorem dX11_drawEvening_74 : decode cX11_drawEvening 74 = .ok (.invokestatic 433, 3) := by decide +kernel
theorem dX11_drawEvening_77 : decode cX11_drawEvening 77 = .ok (.istore_n 3, 1) := by decide +kernel
theorem dX11_drawEvening_78 : decode cX11_drawEvening 78 = .ok (.iload_n 3, 1) := by decide +kernel
theorem dX11_drawEvening_79 : decode cX11_drawEvening 79 = .ok (.invokestatic 436, 3) := by decide +kernel
theorem dX11_drawEvening_82 : decode cX11_drawEvening 82 = .ok (.aload_n 0, 1) := by decide +kernel
theorem dX11_drawEvening_83 : decode cX11_drawEvening 83 = .ok (.getfield 20, 3) := by decide +kernel
theorem dX11_drawEvening_86 : decode cX11_drawEvening 86 = .ok (.getfield 362, 3) := by decide +kernel
theorem dX11_drawEvening_89 : decode cX11_drawEvening 89 = .ok (.irem, 1) := by decide +kernel
theorem dX11_drawEvening_90 : decode cX11_drawEvening 90 = .ok (.istore 7, 2) := by decide +kernel
theorem dX11_drawEvening_92 : decode cX11_drawEvening 92 = .ok (.aload_n 0, 1) := by decide +kernel
theorem dX11_drawEvening_93 : decode cX11_drawEvening 93 = .ok (.getfield 20, 3) := by decide +kernel
theorem dX11_drawEvening_96 : decode cX11_drawEvening 96 = .ok (.iload 6, 2) := by decide +kernel
theorem dX11_drawEvening_98 : decode cX11_drawEvening 98 = .ok (.iload 7, 2) := by decide +kernel
theorem dX11_drawEvening_100 : decode cX11_drawEvening 100 = .ok (.invokevirtual 171, 3) := by decide +kernel
theorem dX11_drawEvening_103 : decode cX11_drawEvening 103 = .ok (.istore 8, 2) := by decide +kernel
theorem dX11_drawEvening_105 : decode cX11_drawEvening 105 = .ok (.iload 8, 2) := by decide +kernel
theorem dX11_drawEvening_107 : decode cX11_drawEvening 107 = .ok (.iconst (-1), 1) := by decide +kernel
theorem dX11_drawEvening_108 : decode cX11_drawEvening 108 = .ok (.if_icmp .eq 19, 3) := by decide +kernel
theorem dX11_drawEvening_111 : decode cX11_drawEvening 111 = .ok (.aload_n 0, 1) := by decide +kernel
theorem dX11_drawEvening_112 : decode cX11_drawEvening 112 = .ok (.getfield 33, 3) := by decide +kernel
theorem dX11_drawEvening_115 : decode cX11_drawEvening 115 = .ok (.iload 5, 2) := by decide +kernel
theorem dX11_drawEvening_117 : decode cX11_drawEvening 117 = .ok (.iload 6, 2) := by decide +kernel
theorem dX11_drawEvening_119 : decode cX11_drawEvening 119 = .ok (.iload 7, 2) := by decide +kernel
theorem dX11_drawEvening_121 : decode cX11_drawEvening 121 = .ok (.iload 8, 2) := by decide +kernel
theorem dX11_drawEvening_123 : decode cX11_drawEvening 123 = .ok (.invokevirtual 204, 3) := by decide +kernel
theorem dX11_drawEvening_126 : decode cX11_drawEvening 126 = .ok (.pop, 1) := by decide +kernel
theorem dX11_drawEvening_127 : decode cX11_drawEvening 127 = .ok (.iinc 4 1, 3) := by decide +kernel
theorem dX11_drawEvening_130 : decode cX11_drawEvening 130 = .ok (.goto (-96), 3) := by decide +kernel
theorem dX11_drawEvening_133 : decode cX11_drawEvening 133 = .ok (.return_, 1) := by decide +kernel
theorem dX11_judgedOfTrial_0 : decode cX11_judgedOfTrial 0 = .ok (.iconst 0, 1) := by decide +kernel
theorem dX11_judgedOfTrial_1 : decode cX11_judgedOfTrial 1 = .ok (.istore_n 2, 1) := by decide +kernel
theorem dX11_judgedOfTrial_2 : decode cX11_judgedOfTrial 2 = .ok (.iconst 0, 1) := by decide +kernel
theorem dX11_judgedOfTrial_3 : decode cX11_judgedOfTrial 3 = .ok (.istore_n 3, 1) := by decide +kernel
theorem dX11_judgedOfTrial_4 : decode cX11_judgedOfTrial 4 = .ok (.iload_n 3, 1) := by decide +kernel
theorem dX11_judgedOfTrial_5 : decode cX11_judgedOfTrial 5 = .ok (.aload_n 0, 1) := by decide +kernel
theorem dX11_judgedOfTrial_6 : decode cX11_judgedOfTrial 6 = .ok (.getfield 33, 3) := by decide +kernel
theorem dX11_judgedOfTrial_9 : decode cX11_judgedOfTrial 9 = .ok (.getfield 208, 3) := by decide +kernel
theorem dX11_judgedOfTrial_12 : decode cX11_judgedOfTrial 12 = .ok (.if_icmp .ge 77, 3) := by decide +kernel
theorem dX11_judgedOfTrial_15 : decode cX11_judgedOfTrial 15 = .ok (.aload_n 0, 1) := by decide +kernel
theorem dX11_judgedOfTrial_16 : decode cX11_judgedOfTrial 16 = .ok (.getfield 33, 3) := by decide +kernel
theorem dX11_judgedOfTrial_19 : decode cX11_judgedOfTrial 19 = .ok (.aload_n 0, 1) := by decide +kernel
theorem dX11_judgedOfTrial_20 : decode cX11_judgedOfTrial 20 = .ok (.getfield 20, 3) := by decide +kernel
theorem dX11_judgedOfTrial_23 : decode cX11_judgedOfTrial 23 = .ok (.iload_n 3, 1) := by decide +kernel
theorem dX11_judgedOfTrial_24 : decode cX11_judgedOfTrial 24 = .ok (.invokevirtual 221, 3) := by decide +kernel
theorem dX11_judgedOfTrial_27 : decode cX11_judgedOfTrial 27 = .ok (.iload_n 1, 1) := by decide +kernel
theorem dX11_judgedOfTrial_28 : decode cX11_judgedOfTrial 28 = .ok (.ifCond .ne 16, 3) := by decide +kernel
theorem dX11_judgedOfTrial_31 : decode cX11_judgedOfTrial 31 = .ok (.iload_n 2, 1) := by decide +kernel
theorem dX11_judgedOfTrial_32 : decode cX11_judgedOfTrial 32 = .ok (.aload_n 0, 1) := by decide +kernel
theorem dX11_judgedOfTrial_33 : decode cX11_judgedOfTrial 33 = .ok (.getfield 33, 3) := by decide +kernel
theorem dX11_judgedOfTrial_36 : decode cX11_judgedOfTrial 36 = .ok (.getfield 228, 3) := by decide +kernel
theorem dX11_judgedOfTrial_39 : decode cX11_judgedOfTrial 39 = .ok (.iadd, 1) := by decide +kernel
theorem dX11_judgedOfTrial_40 : decode cX11_judgedOfTrial 40 = .ok (.istore_n 2, 1) := by decide +kernel
theorem dX11_judgedOfTrial_41 : decode cX11_judgedOfTrial 41 = .ok (.goto 42, 3) := by decide +kernel
theorem dX11_judgedOfTrial_44 : decode cX11_judgedOfTrial 44 = .ok (.iload_n 1, 1) := by decide +kernel
theorem dX11_judgedOfTrial_45 : decode cX11_judgedOfTrial 45 = .ok (.iconst 1, 1) := by decide +kernel
theorem dX11_judgedOfTrial_46 : decode cX11_judgedOfTrial 46 = .ok (.if_icmp .ne 16, 3) := by decide +kernel
theorem dX11_judgedOfTrial_49 : decode cX11_judgedOfTrial 49 = .ok (.iload_n 2, 1) := by decide +kernel
theorem dX11_judgedOfTrial_50 : decode cX11_judgedOfTrial 50 = .ok (.aload_n 0, 1) := by decide +kernel
theorem dX11_judgedOfTrial_51 : decode cX11_judgedOfTrial 51 = .ok (.getfield 33, 3) := by decide +kernel
theorem dX11_judgedOfTrial_54 : decode cX11_judgedOfTrial 54 = .ok (.getfield 225, 3) := by decide +kernel
theorem dX11_judgedOfTrial_57 : decode cX11_judgedOfTrial 57 = .ok (.iadd, 1) := by decide +kernel
theorem dX11_judgedOfTrial_58 : decode cX11_judgedOfTrial 58 = .ok (.istore_n 2, 1) := by decide +kernel
theorem dX11_judgedOfTrial_59 : decode cX11_judgedOfTrial 59 = .ok (.goto 24, 3) := by decide +kernel
theorem dX11_judgedOfTrial_62 : decode cX11_judgedOfTrial 62 = .ok (.aload_n 0, 1) := by decide +kernel
theorem dX11_judgedOfTrial_63 : decode cX11_judgedOfTrial 63 = .ok (.getfield 33, 3) := by decide +kernel
theorem dX11_judgedOfTrial_66 : decode cX11_judgedOfTrial 66 = .ok (.getfield 228, 3) := by decide +kernel
theorem dX11_judgedOfTrial_69 : decode cX11_judgedOfTrial 69 = .ok (.aload_n 0, 1) := by decide +kernel
theorem dX11_judgedOfTrial_70 : decode cX11_judgedOfTrial 70 = .ok (.getfield 33, 3) := by decide +kernel
theorem dX11_judgedOfTrial_73 : decode cX11_judgedOfTrial 73 = .ok (.getfield 225, 3) := by decide +kernel
theorem dX11_judgedOfTrial_76 : decode cX11_judgedOfTrial 76 = .ok (.iadd, 1) := by decide +kernel
theorem dX11_judgedOfTrial_77 : decode cX11_judgedOfTrial 77 = .ok (.ifCond .ne 6, 3) := by decide +kernel
theorem dX11_judgedOfTrial_80 : decode cX11_judgedOfTrial 80 = .ok (.iinc 2 1, 3) := by decide +kernel
theorem dX11_judgedOfTrial_83 : decode cX11_judgedOfTrial 83 = .ok (.iinc 3 1, 3) := by decide +kernel
theorem dX11_judgedOfTrial_86 : decode cX11_judgedOfTrial 86 = .ok (.goto (-82), 3) := by decide +kernel
theorem dX11_judgedOfTrial_89 : decode cX11_judgedOfTrial 89 = .ok (.iload_n 2, 1) := by decide +kernel
theorem dX11_judgedOfTrial_90 : decode cX11_judgedOfTrial 90 = .ok (.ireturn, 1) := by decide +kernel
theorem dX11_seedBehind_0 : decode cX11_seedBehind 0 = .ok (.ldc_w 439, 3) := by decide +kernel
theorem dX11_seedBehind_3 : decode cX11_seedBehind 3 = .ok (.iload_n 0, 1) := by decide +kernel
theorem dX11_seedBehind_4 : decode cX11_seedBehind 4 = .ok (.imul, 1) := by decide +kernel
theorem dX11_seedBehind_5 : decode cX11_seedBehind 5 = .ok (.sipush 12345, 3) := by decide +kernel
theorem dX11_seedBehind_8 : decode cX11_seedBehind 8 = .ok (.iadd, 1) := by decide +kernel
theorem dX11_seedBehind_9 : decode cX11_seedBehind 9 = .ok (.ireturn, 1) := by decide +kernel
theorem dX11_drawOf_0 : decode cX11_drawOf 0 = .ok (.iload_n 0, 1) := by decide +kernel
theorem dX11_drawOf_1 : decode cX11_drawOf 1 = .ok (.bipush 16, 2) := by decide +kernel
theorem dX11_drawOf_3 : decode cX11_drawOf 3 = .ok (.ishr, 1) := by decide +kernel
theorem dX11_drawOf_4 : decode cX11_drawOf 4 = .ok (.sipush 32767, 3) := by decide +kernel
theorem dX11_drawOf_7 : decode cX11_drawOf 7 = .ok (.iand, 1) := by decide +kernel
theorem dX11_drawOf_8 : decode cX11_drawOf 8 = .ok (.ireturn, 1) := by decide +kernel
theorem dX11_strokesOf_0 : decode cX11_strokesOf 0 = .ok (.iconst 0, 1) := by decide +kernel
theorem dX11_strokesOf_1 : decode cX11_strokesOf 1 = .ok (.istore_n 1, 1) := by decide +kernel
theorem dX11_strokesOf_2 : decode cX11_strokesOf 2 = .ok (.iload_n 0, 1) := by decide +kernel
theorem dX11_strokesOf_3 : decode cX11_strokesOf 3 = .ok (.istore_n 2, 1) := by decide +kernel
theorem dX11_strokesOf_4 : decode cX11_strokesOf 4 = .ok (.iload_n 2, 1) := by decide +kernel
theorem dX11_strokesOf_5 : decode cX11_strokesOf 5 = .ok (.iconst 1, 1) := by decide +kernel
theorem dX11_strokesOf_6 : decode cX11_strokesOf 6 = .ok (.if_icmp .le 19, 3) := by decide +kernel
theorem dX11_strokesOf_9 : decode cX11_strokesOf 9 = .ok (.iload_n 1, 1) := by decide +kernel
theorem dX11_strokesOf_10 : decode cX11_strokesOf 10 = .ok (.bipush 31, 2) := by decide +kernel
theorem dX11_strokesOf_12 : decode cX11_strokesOf 12 = .ok (.if_icmp .ge 13, 3) := by decide +kernel
theorem dX11_strokesOf_15 : decode cX11_strokesOf 15 = .ok (.iinc 1 1, 3) := by decide +kernel
theorem dX11_strokesOf_18 : decode cX11_strokesOf 18 = .ok (.iload_n 2, 1) := by decide +kernel
theorem dX11_strokesOf_19 : decode cX11_strokesOf 19 = .ok (.iconst 1, 1) := by decide +kernel
theorem dX11_strokesOf_20 : decode cX11_strokesOf 20 = .ok (.ishr, 1) := by decide +kernel
theorem dX11_strokesOf_21 : decode cX11_strokesOf 21 = .ok (.istore_n 2, 1) := by decide +kernel
theorem dX11_strokesOf_22 : decode cX11_strokesOf 22 = .ok (.goto (-18), 3) := by decide +kernel
theorem dX11_strokesOf_25 : decode cX11_strokesOf 25 = .ok (.iload_n 1, 1) := by decide +kernel
theorem dX11_strokesOf_26 : decode cX11_strokesOf 26 = .ok (.ireturn, 1) := by decide +kernel
theorem dX11_minutesOf_0 : decode cX11_minutesOf 0 = .ok (.iload_n 0, 1) := by decide +kernel
theorem dX11_minutesOf_1 : decode cX11_minutesOf 1 = .ok (.iconst 1, 1) := by decide +kernel
theorem dX11_minutesOf_2 : decode cX11_minutesOf 2 = .ok (.if_icmp .ge 7, 3) := by decide +kernel
theorem dX11_minutesOf_5 : decode cX11_minutesOf 5 = .ok (.iconst 0, 1) := by decide +kernel
theorem dX11_minutesOf_6 : decode cX11_minutesOf 6 = .ok (.goto 14, 3) := by decide +kernel
theorem dX11_minutesOf_9 : decode cX11_minutesOf 9 = .ok (.iload_n 0, 1) := by decide +kernel
theorem dX11_minutesOf_10 : decode cX11_minutesOf 10 = .ok (.invokestatic 440, 3) := by decide +kernel
theorem dX11_minutesOf_13 : decode cX11_minutesOf 13 = .ok (.iload_n 0, 1) := by decide +kernel
theorem dX11_minutesOf_14 : decode cX11_minutesOf 14 = .ok (.invokestatic 443, 3) := by decide +kernel
theorem dX11_minutesOf_17 : decode cX11_minutesOf 17 = .ok (.iadd, 1) := by decide +kernel
theorem dX11_minutesOf_18 : decode cX11_minutesOf 18 = .ok (.iconst 1, 1) := by decide +kernel
theorem dX11_minutesOf_19 : decode cX11_minutesOf 19 = .ok (.isub, 1) := by decide +kernel
theorem dX11_minutesOf_20 : decode cX11_minutesOf 20 = .ok (.ireturn, 1) := by decide +kernel
theorem dX11_priceOf_0 : decode cX11_priceOf 0 = .ok (.iload_n 0, 1) := by decide +kernel
theorem dX11_priceOf_1 : decode cX11_priceOf 1 = .ok (.invokestatic 178, 3) := by decide +kernel
theorem dX11_priceOf_4 : decode cX11_priceOf 4 = .ok (.istore_n 1, 1) := by decide +kernel
theorem dX11_priceOf_5 : decode cX11_priceOf 5 = .ok (.iload_n 1, 1) := by decide +kernel
theorem dX11_priceOf_6 : decode cX11_priceOf 6 = .ok (.ifCond .gt 7, 3) := by decide +kernel
theorem dX11_priceOf_9 : decode cX11_priceOf 9 = .ok (.iconst 1, 1) := by decide +kernel
theorem dX11_priceOf_10 : decode cX11_priceOf 10 = .ok (.goto 9, 3) := by decide +kernel
theorem dX11_priceOf_13 : decode cX11_priceOf 13 = .ok (.bipush 40, 2) := by decide +kernel
theorem dX11_priceOf_15 : decode cX11_priceOf 15 = .ok (.iload_n 1, 1) := by decide +kernel
theorem dX11_priceOf_16 : decode cX11_priceOf 16 = .ok (.idiv, 1) := by decide +kernel
theorem dX11_priceOf_17 : decode cX11_priceOf 17 = .ok (.iconst 1, 1) := by decide +kernel
theorem dX11_priceOf_18 : decode cX11_priceOf 18 = .ok (.iadd, 1) := by decide +kernel
theorem dX11_priceOf_19 : decode cX11_priceOf 19 = .ok (.ireturn, 1) := by decide +kernel
theorem dX11_cutTo_0 : decode cX11_cutTo 0 = .ok (.iload_n 0, 1) := by decide +kernel
theorem dX11_cutTo_1 : decode cX11_cutTo 1 = .ok (.invokestatic 440, 3) := by decide +kernel
theorem dX11_cutTo_4 : decode cX11_cutTo 4 = .ok (.iload_n 1, 1) := by decide +kernel
theorem dX11_cutTo_5 : decode cX11_cutTo 5 = .ok (.isub, 1) := by decide +kernel
theorem dX11_cutTo_6 : decode cX11_cutTo 6 = .ok (.istore_n 2, 1) := by decide +kernel
theorem dX11_cutTo_7 : decode cX11_cutTo 7 = .ok (.iload_n 2, 1) := by decide +kernel
theorem dX11_cutTo_8 : decode cX11_cutTo 8 = .ok (.ifCond .le 9, 3) := by decide +kernel
theorem dX11_cutTo_11 : decode cX11_cutTo 11 = .ok (.iload_n 0, 1) := by decide +kernel
theorem dX11_cutTo_12 : decode cX11_cutTo 12 = .ok (.iload_n 2, 1) := by decide +kernel
theorem dX11_cutTo_13 : decode cX11_cutTo 13 = .ok (.ishr, 1) := by decide +kernel
theorem dX11_cutTo_14 : decode cX11_cutTo 14 = .ok (.goto 4, 3) := by decide +kernel
theorem dX11_cutTo_17 : decode cX11_cutTo 17 = .ok (.iload_n 0, 1) := by decide +kernel
theorem dX11_cutTo_18 : decode cX11_cutTo 18 = .ok (.ireturn, 1) := by decide +kernel
theorem dX11_isOneBegin_0 : decode cX11_isOneBegin 0 = .ok (.iload_n 0, 1) := by decide +kernel
theorem dX11_isOneBegin_1 : decode cX11_isOneBegin 1 = .ok (.invokestatic 440, 3) := by decide +kernel
theorem dX11_isOneBegin_4 : decode cX11_isOneBegin 4 = .ok (.iload_n 1, 1) := by decide +kernel
theorem dX11_isOneBegin_5 : decode cX11_isOneBegin 5 = .ok (.invokestatic 440, 3) := by decide +kernel
theorem dX11_isOneBegin_8 : decode cX11_isOneBegin 8 = .ok (.invokestatic 322, 3) := by decide +kernel
theorem dX11_isOneBegin_11 : decode cX11_isOneBegin 11 = .ok (.istore_n 2, 1) := by decide +kernel
theorem dX11_isOneBegin_12 : decode cX11_isOneBegin 12 = .ok (.iload_n 0, 1) := by decide +kernel
theorem dX11_isOneBegin_13 : decode cX11_isOneBegin 13 = .ok (.iload_n 2, 1) := by decide +kernel
theorem dX11_isOneBegin_14 : decode cX11_isOneBegin 14 = .ok (.invokestatic 448, 3) := by decide +kernel
theorem dX11_isOneBegin_17 : decode cX11_isOneBegin 17 = .ok (.iload_n 1, 1) := by decide +kernel
theorem dX11_isOneBegin_18 : decode cX11_isOneBegin 18 = .ok (.iload_n 2, 1) := by decide +kernel
theorem dX11_isOneBegin_19 : decode cX11_isOneBegin 19 = .ok (.invokestatic 448, 3) := by decide +kernel
theorem dX11_isOneBegin_22 : decode cX11_isOneBegin 22 = .ok (.if_icmp .ne 7, 3) := by decide +kernel
theorem dX11_isOneBegin_25 : decode cX11_isOneBegin 25 = .ok (.iconst 1, 1) := by decide +kernel
theorem dX11_isOneBegin_26 : decode cX11_isOneBegin 26 = .ok (.goto 4, 3) := by decide +kernel
theorem dX11_isOneBegin_29 : decode cX11_isOneBegin 29 = .ok (.iconst 0, 1) := by decide +kernel
theorem dX11_isOneBegin_30 : decode cX11_isOneBegin 30 = .ok (.ireturn, 1) := by decide +kernel
theorem dJ6_bitCount_0f7a4_0 : decode cJ6_bitCount_0f7a4 0 = .ok (.iload_n 0, 1) := by decide +kernel
theorem dJ6_bitCount_0f7a4_1 : decode cJ6_bitCount_0f7a4 1 = .ok (.iload_n 0, 1) := by decide +kernel
theorem dJ6_bitCount_0f7a4_2 : decode cJ6_bitCount_0f7a4 2 = .ok (.iconst 1, 1) := by decide +kernel
theorem dJ6_bitCount_0f7a4_3 : decode cJ6_bitCount_0f7a4 3 = .ok (.iushr, 1) := by decide +kernel
theorem dJ6_bitCount_0f7a4_4 : decode cJ6_bitCount_0f7a4 4 = .ok (.ldc_w 265, 3) := by decide +kernel
theorem dJ6_bitCount_0f7a4_7 : decode cJ6_bitCount_0f7a4 7 = .ok (.iand, 1) := by decide +kernel
theorem dJ6_bitCount_0f7a4_8 : decode cJ6_bitCount_0f7a4 8 = .ok (.isub, 1) := by decide +kernel
theorem dJ6_bitCount_0f7a4_9 : decode cJ6_bitCount_0f7a4 9 = .ok (.istore_n 0, 1) := by decide +kernel
theorem dJ6_bitCount_0f7a4_10 : decode cJ6_bitCount_0f7a4 10 = .ok (.iload_n 0, 1) := by decide +kernel
theorem dJ6_bitCount_0f7a4_11 : decode cJ6_bitCount_0f7a4 11 = .ok (.ldc_w 266, 3) := by decide +kernel
theorem dJ6_bitCount_0f7a4_14 : decode cJ6_bitCount_0f7a4 14 = .ok (.iand, 1) := by decide +kernel
theorem dJ6_bitCount_0f7a4_15 : decode cJ6_bitCount_0f7a4 15 = .ok (.iload_n 0, 1) := by decide +kernel
theorem dJ6_bitCount_0f7a4_16 : decode cJ6_bitCount_0f7a4 16 = .ok (.iconst 2, 1) := by decide +kernel
theorem dJ6_bitCount_0f7a4_17 : decode cJ6_bitCount_0f7a4 17 = .ok (.iushr, 1) := by decide +kernel
theorem dJ6_bitCount_0f7a4_18 : decode cJ6_bitCount_0f7a4 18 = .ok (.ldc_w 266, 3) := by decide +kernel
theorem dJ6_bitCount_0f7a4_21 : decode cJ6_bitCount_0f7a4 21 = .ok (.iand, 1) := by decide +kernel
theorem dJ6_bitCount_0f7a4_22 : decode cJ6_bitCount_0f7a4 22 = .ok (.iadd, 1) := by decide +kernel
theorem dJ6_bitCount_0f7a4_23 : decode cJ6_bitCount_0f7a4 23 = .ok (.istore_n 0, 1) := by decide +kernel
theorem dJ6_bitCount_0f7a4_24 : decode cJ6_bitCount_0f7a4 24 = .ok (.iload_n 0, 1) := by decide +kernel
theorem dJ6_bitCount_0f7a4_25 : decode cJ6_bitCount_0f7a4 25 = .ok (.iload_n 0, 1) := by decide +kernel
theorem dJ6_bitCount_0f7a4_26 : decode cJ6_bitCount_0f7a4 26 = .ok (.iconst 4, 1) := by decide +kernel
theorem dJ6_bitCount_0f7a4_27 : decode cJ6_bitCount_0f7a4 27 = .ok (.iushr, 1) := by decide +kernel
theorem dJ6_bitCount_0f7a4_28 : decode cJ6_bitCount_0f7a4 28 = .ok (.iadd, 1) := by decide +kernel
theorem dJ6_bitCount_0f7a4_29 : decode cJ6_bitCount_0f7a4 29 = .ok (.ldc_w 267, 3) := by decide +kernel
theorem dJ6_bitCount_0f7a4_32 : decode cJ6_bitCount_0f7a4 32 = .ok (.iand, 1) := by decide +kernel
theorem dJ6_bitCount_0f7a4_33 : decode cJ6_bitCount_0f7a4 33 = .ok (.istore_n 0, 1) := by decide +kernel
theorem dJ6_bitCount_0f7a4_34 : decode cJ6_bitCount_0f7a4 34 = .ok (.iload_n 0, 1) := by decide +kernel
theorem dJ6_bitCount_0f7a4_35 : decode cJ6_bitCount_0f7a4 35 = .ok (.iload_n 0, 1) := by decide +kernel
theorem dJ6_bitCount_0f7a4_36 : decode cJ6_bitCount_0f7a4 36 = .ok (.bipush 8, 2) := by decide +kernel
theorem dJ6_bitCount_0f7a4_38 : decode cJ6_bitCount_0f7a4 38 = .ok (.iushr, 1) := by decide +kernel
theorem dJ6_bitCount_0f7a4_39 : decode cJ6_bitCount_0f7a4 39 = .ok (.iadd, 1) := by decide +kernel
theorem dJ6_bitCount_0f7a4_40 : decode cJ6_bitCount_0f7a4 40 = .ok (.istore_n 0, 1) := by decide +kernel
theorem dJ6_bitCount_0f7a4_41 : decode cJ6_bitCount_0f7a4 41 = .ok (.iload_n 0, 1) := by decide +kernel
theorem dJ6_bitCount_0f7a4_42 : decode cJ6_bitCount_0f7a4 42 = .ok (.iload_n 0, 1) := by decide +kernel
theorem dJ6_bitCount_0f7a4_43 : decode cJ6_bitCount_0f7a4 43 = .ok (.bipush 16, 2) := by decide +kernel
theorem dJ6_bitCount_0f7a4_45 : decode cJ6_bitCount_0f7a4 45 = .ok (.iushr, 1) := by decide +kernel
theorem dJ6_bitCount_0f7a4_46 : decode cJ6_bitCount_0f7a4 46 = .ok (.iadd, 1) := by decide +kernel
theorem dJ6_bitCount_0f7a4_47 : decode cJ6_bitCount_0f7a4 47 = .ok (.istore_n 0, 1) := by decide +kernel
theorem dJ6_bitCount_0f7a4_48 : decode cJ6_bitCount_0f7a4 48 = .ok (.iload_n 0, 1) := by decide +kernel
theorem dJ6_bitCount_0f7a4_49 : decode cJ6_bitCount_0f7a4 49 = .ok (.bipush 63, 2) := by decide +kernel
theorem dJ6_bitCount_0f7a4_51 : decode cJ6_bitCount_0f7a4 51 = .ok (.iand, 1) := by decide +kernel
theorem dJ6_bitCount_0f7a4_52 : decode cJ6_bitCount_0f7a4 52 = .ok (.ireturn, 1) := by decide +kernel
theorem dJ9_abs_0f7a4_0 : decode cJ9_abs_0f7a4 0 = .ok (.iload_n 0, 1) := by decide +kernel
theorem dJ9_abs_0f7a4_1 : decode cJ9_abs_0f7a4 1 = .ok (.ifCond .ge 8, 3) := by decide +kernel
theorem dJ9_abs_0f7a4_4 : decode cJ9_abs_0f7a4 4 = .ok (.iload_n 0, 1) := by decide +kernel
theorem dJ9_abs_0f7a4_5 : decode cJ9_abs_0f7a4 5 = .ok (.ineg, 1) := by decide +kernel
theorem dJ9_abs_0f7a4_6 : decode cJ9_abs_0f7a4 6 = .ok (.goto 4, 3) := by decide +kernel
theorem dJ9_abs_0f7a4_9 : decode cJ9_abs_0f7a4 9 = .ok (.iload_n 0, 1) := by decide +kernel
theorem dJ9_abs_0f7a4_10 : decode cJ9_abs_0f7a4 10 = .ok (.ireturn, 1) := by decide +kernel
theorem dJ9_max_7cf53_0 : decode cJ9_max_7cf53 0 = .ok (.iload_n 0, 1) := by decide +kernel
theorem dJ9_max_7cf53_1 : decode cJ9_max_7cf53 1 = .ok (.iload_n 1, 1) := by decide +kernel
theorem dJ9_max_7cf53_2 : decode cJ9_max_7cf53 2 = .ok (.if_icmp .lt 7, 3) := by decide +kernel
theorem dJ9_max_7cf53_5 : decode cJ9_max_7cf53 5 = .ok (.iload_n 0, 1) := by decide +kernel
theorem dJ9_max_7cf53_6 : decode cJ9_max_7cf53 6 = .ok (.goto 4, 3) := by decide +kernel
theorem dJ9_max_7cf53_9 : decode cJ9_max_7cf53 9 = .ok (.iload_n 1, 1) := by decide +kernel
theorem dJ9_max_7cf53_10 : decode cJ9_max_7cf53 10 = .ok (.ireturn, 1) := by decide +kernel
theorem dJ9_min_7cf53_0 : decode cJ9_min_7cf53 0 = .ok (.iload_n 0, 1) := by decide +kernel
theorem dJ9_min_7cf53_1 : decode cJ9_min_7cf53 1 = .ok (.iload_n 1, 1) := by decide +kernel
theorem dJ9_min_7cf53_2 : decode cJ9_min_7cf53 2 = .ok (.if_icmp .gt 7, 3) := by decide +kernel
theorem dJ9_min_7cf53_5 : decode cJ9_min_7cf53 5 = .ok (.iload_n 0, 1) := by decide +kernel
theorem dJ9_min_7cf53_6 : decode cJ9_min_7cf53 6 = .ok (.goto 4, 3) := by decide +kernel
theorem dJ9_min_7cf53_9 : decode cJ9_min_7cf53 9 = .ok (.iload_n 1, 1) := by decide +kernel
theorem dJ9_min_7cf53_10 : decode cJ9_min_7cf53 10 = .ok (.ireturn, 1) := by decide +kernel
theorem dJ0_length_8abf5_0 : decode cJ0_length_8abf5 0 = .ok (.aload_n 0, 1) := by decide +kernel
theorem dJ0_length_8abf5_1 : decode cJ0_length_8abf5 1 = .ok (.getfield 9, 3) := by decide +kernel
theorem dJ0_length_8abf5_4 : decode cJ0_length_8abf5 4 = .ok (.arraylength, 1) := by decide +kernel
theorem dJ0_length_8abf5_5 : decode cJ0_length_8abf5 5 = .ok (.aload_n 0, 1) := by decide +kernel
theorem dJ0_length_8abf5_6 : decode cJ0_length_8abf5 6 = .ok (.invokevirtual 335, 3) := by decide +kernel
theorem dJ0_length_8abf5_9 : decode cJ0_length_8abf5 9 = .ok (.ishr, 1) := by decide +kernel
theorem dJ0_length_8abf5_10 : decode cJ0_length_8abf5 10 = .ok (.ireturn, 1) := by decide +kernel
theorem dJ0_charAt_5068e_0 : decode cJ0_charAt_5068e 0 = .ok (.aload_n 0, 1) := by decide +kernel
theorem dJ0_charAt_5068e_1 : decode cJ0_charAt_5068e 1 = .ok (.invokevirtual 492, 3) := by decide +kernel
theorem dJ0_charAt_5068e_4 : decode cJ0_charAt_5068e 4 = .ok (.ifCond .eq 12, 3) := by decide +kernel
theorem dJ0_charAt_5068e_7 : decode cJ0_charAt_5068e 7 = .ok (.aload_n 0, 1) := by decide +kernel
theorem dJ0_charAt_5068e_8 : decode cJ0_charAt_5068e 8 = .ok (.getfield 9, 3) := by decide +kernel
theorem dJ0_charAt_5068e_11 : decode cJ0_charAt_5068e 11 = .ok (.iload_n 1, 1) := by decide +kernel
theorem dJ0_charAt_5068e_12 : decode cJ0_charAt_5068e 12 = .ok (.invokestatic 495, 3) := by decide +kernel
theorem dJ0_charAt_5068e_15 : decode cJ0_charAt_5068e 15 = .ok (.ireturn, 1) := by decide +kernel
theorem dJ0_charAt_5068e_16 : decode cJ0_charAt_5068e 16 = .ok (.aload_n 0, 1) := by decide +kernel
theorem dJ0_charAt_5068e_17 : decode cJ0_charAt_5068e 17 = .ok (.getfield 9, 3) := by decide +kernel
theorem dJ0_charAt_5068e_20 : decode cJ0_charAt_5068e 20 = .ok (.iload_n 1, 1) := by decide +kernel
theorem dJ0_charAt_5068e_21 : decode cJ0_charAt_5068e 21 = .ok (.invokestatic 498, 3) := by decide +kernel
theorem dJ0_charAt_5068e_24 : decode cJ0_charAt_5068e 24 = .ok (.ireturn, 1) := by decide +kernel
theorem dJ0_coder_7d493_0 : decode cJ0_coder_7d493 0 = .ok (.getstatic 38, 3) := by decide +kernel
theorem dJ0_coder_7d493_3 : decode cJ0_coder_7d493 3 = .ok (.ifCond .eq 10, 3) := by decide +kernel
theorem dJ0_coder_7d493_6 : decode cJ0_coder_7d493 6 = .ok (.aload_n 0, 1) := by decide +kernel
theorem dJ0_coder_7d493_7 : decode cJ0_coder_7d493 7 = .ok (.getfield 15, 3) := by decide +kernel
theorem dJ0_coder_7d493_10 : decode cJ0_coder_7d493 10 = .ok (.goto 4, 3) := by decide +kernel
theorem dJ0_coder_7d493_13 : decode cJ0_coder_7d493 13 = .ok (.iconst 1, 1) := by decide +kernel
theorem dJ0_coder_7d493_14 : decode cJ0_coder_7d493 14 = .ok (.ireturn, 1) := by decide +kernel
theorem dJ0_isLatin1_aae02_0 : decode cJ0_isLatin1_aae02 0 = .ok (.getstatic 38, 3) := by decide +kernel
theorem dJ0_isLatin1_aae02_3 : decode cJ0_isLatin1_aae02 3 = .ok (.ifCond .eq 14, 3) := by decide +kernel
theorem dJ0_isLatin1_aae02_6 : decode cJ0_isLatin1_aae02 6 = .ok (.aload_n 0, 1) := by decide +kernel
theorem dJ0_isLatin1_aae02_7 : decode cJ0_isLatin1_aae02 7 = .ok (.getfield 15, 3) := by decide +kernel
theorem dJ0_isLatin1_aae02_10 : decode cJ0_isLatin1_aae02 10 = .ok (.ifCond .ne 7, 3) := by decide +kernel
theorem dJ0_isLatin1_aae02_13 : decode cJ0_isLatin1_aae02 13 = .ok (.iconst 1, 1) := by decide +kernel
theorem dJ0_isLatin1_aae02_14 : decode cJ0_isLatin1_aae02 14 = .ok (.goto 4, 3) := by decide +kernel
theorem dJ0_isLatin1_aae02_17 : decode cJ0_isLatin1_aae02 17 = .ok (.iconst 0, 1) := by decide +kernel
theorem dJ0_isLatin1_aae02_18 : decode cJ0_isLatin1_aae02 18 = .ok (.ireturn, 1) := by decide +kernel
theorem dJ0_checkIndex_df160_0 : decode cJ0_checkIndex_df160 0 = .ok (.iload_n 0, 1) := by decide +kernel
theorem dJ0_checkIndex_df160_1 : decode cJ0_checkIndex_df160 1 = .ok (.iload_n 1, 1) := by decide +kernel
theorem dJ0_checkIndex_df160_2 : decode cJ0_checkIndex_df160 2 = .ok (.getstatic 1053, 3) := by decide +kernel
theorem dJ0_checkIndex_df160_5 : decode cJ0_checkIndex_df160 5 = .ok (.invokestatic 1059, 3) := by decide +kernel
theorem dJ0_checkIndex_df160_8 : decode cJ0_checkIndex_df160 8 = .ok (.pop, 1) := by decide +kernel
theorem dJ0_checkIndex_df160_9 : decode cJ0_checkIndex_df160 9 = .ok (.return_, 1) := by decide +kernel
theorem dJ1_charAt_3b067_0 : decode cJ1_charAt_3b067 0 = .ok (.iload_n 1, 1) := by decide +kernel
theorem dJ1_charAt_3b067_1 : decode cJ1_charAt_3b067 1 = .ok (.aload_n 0, 1) := by decide +kernel
theorem dJ1_charAt_3b067_2 : decode cJ1_charAt_3b067 2 = .ok (.arraylength, 1) := by decide +kernel
theorem dJ1_charAt_3b067_3 : decode cJ1_charAt_3b067 3 = .ok (.invokestatic 9, 3) := by decide +kernel
theorem dJ1_charAt_3b067_6 : decode cJ1_charAt_3b067 6 = .ok (.aload_n 0, 1) := by decide +kernel
theorem dJ1_charAt_3b067_7 : decode cJ1_charAt_3b067 7 = .ok (.iload_n 1, 1) := by decide +kernel
theorem dJ1_charAt_3b067_8 : decode cJ1_charAt_3b067 8 = .ok (.baload, 1) := by decide +kernel
theorem dJ1_charAt_3b067_9 : decode cJ1_charAt_3b067 9 = .ok (.sipush 255, 3) := by decide +kernel
theorem dJ1_charAt_3b067_12 : decode cJ1_charAt_3b067 12 = .ok (.iand, 1) := by decide +kernel
theorem dJ1_charAt_3b067_13 : decode cJ1_charAt_3b067 13 = .ok (.i2c, 1) := by decide +kernel
theorem dJ1_charAt_3b067_14 : decode cJ1_charAt_3b067 14 = .ok (.ireturn, 1) := by decide +kernel
theorem dJ2_getChar_3b067_0 : decode cJ2_getChar_3b067 0 = .ok (.getstatic 44, 3) := by decide +kernel
theorem dJ2_getChar_3b067_3 : decode cJ2_getChar_3b067 3 = .ok (.ifCond .ne 25, 3) := by decide +kernel
theorem dJ2_getChar_3b067_6 : decode cJ2_getChar_3b067 6 = .ok (.iload_n 1, 1) := by decide +kernel
theorem dJ2_getChar_3b067_7 : decode cJ2_getChar_3b067 7 = .ok (.ifCond .lt 11, 3) := by decide +kernel
theorem dJ2_getChar_3b067_10 : decode cJ2_getChar_3b067 10 = .ok (.iload_n 1, 1) := by decide +kernel
theorem dJ2_getChar_3b067_11 : decode cJ2_getChar_3b067 11 = .ok (.aload_n 0, 1) := by decide +kernel
theorem dJ2_getChar_3b067_12 : decode cJ2_getChar_3b067 12 = .ok (.invokestatic 48, 3) := by decide +kernel
theorem dJ2_getChar_3b067_15 : decode cJ2_getChar_3b067 15 = .ok (.if_icmp .lt 13, 3) := by decide +kernel
theorem dJ2_getChar_3b067_18 : decode cJ2_getChar_3b067 18 = .ok (.new 52, 3) := by decide +kernel
theorem dJ2_getChar_3b067_21 : decode cJ2_getChar_3b067 21 = .ok (.dup, 1) := by decide +kernel
theorem dJ2_getChar_3b067_22 : decode cJ2_getChar_3b067 22 = .ok (.ldc 54, 2) := by decide +kernel
theorem dJ2_getChar_3b067_24 : decode cJ2_getChar_3b067 24 = .ok (.invokespecial 56, 3) := by decide +kernel
theorem dJ2_getChar_3b067_27 : decode cJ2_getChar_3b067 27 = .ok (.athrow, 1) := by decide +kernel
theorem dJ2_getChar_3b067_28 : decode cJ2_getChar_3b067 28 = .ok (.iload_n 1, 1) := by decide +kernel
theorem dJ2_getChar_3b067_29 : decode cJ2_getChar_3b067 29 = .ok (.iconst 1, 1) := by decide +kernel
theorem dJ2_getChar_3b067_30 : decode cJ2_getChar_3b067 30 = .ok (.ishl, 1) := by decide +kernel
theorem dJ2_getChar_3b067_31 : decode cJ2_getChar_3b067 31 = .ok (.istore_n 1, 1) := by decide +kernel
theorem dJ2_getChar_3b067_32 : decode cJ2_getChar_3b067 32 = .ok (.aload_n 0, 1) := by decide +kernel
theorem dJ2_getChar_3b067_33 : decode cJ2_getChar_3b067 33 = .ok (.iload_n 1, 1) := by decide +kernel
theorem dJ2_getChar_3b067_34 : decode cJ2_getChar_3b067 34 = .ok (.iinc 1 1, 3) := by decide +kernel
theorem dJ2_getChar_3b067_37 : decode cJ2_getChar_3b067 37 = .ok (.baload, 1) := by decide +kernel
theorem dJ2_getChar_3b067_38 : decode cJ2_getChar_3b067 38 = .ok (.sipush 255, 3) := by decide +kernel
theorem dJ2_getChar_3b067_41 : decode cJ2_getChar_3b067 41 = .ok (.iand, 1) := by decide +kernel
theorem dJ2_getChar_3b067_42 : decode cJ2_getChar_3b067 42 = .ok (.getstatic 59, 3) := by decide +kernel
theorem dJ2_getChar_3b067_45 : decode cJ2_getChar_3b067 45 = .ok (.ishl, 1) := by decide +kernel
theorem dJ2_getChar_3b067_46 : decode cJ2_getChar_3b067 46 = .ok (.aload_n 0, 1) := by decide +kernel
theorem dJ2_getChar_3b067_47 : decode cJ2_getChar_3b067 47 = .ok (.iload_n 1, 1) := by decide +kernel
theorem dJ2_getChar_3b067_48 : decode cJ2_getChar_3b067 48 = .ok (.baload, 1) := by decide +kernel
theorem dJ2_getChar_3b067_49 : decode cJ2_getChar_3b067 49 = .ok (.sipush 255, 3) := by decide +kernel
theorem dJ2_getChar_3b067_52 : decode cJ2_getChar_3b067 52 = .ok (.iand, 1) := by decide +kernel
theorem dJ2_getChar_3b067_53 : decode cJ2_getChar_3b067 53 = .ok (.getstatic 63, 3) := by decide +kernel
theorem dJ2_getChar_3b067_56 : decode cJ2_getChar_3b067 56 = .ok (.ishl, 1) := by decide +kernel
theorem dJ2_getChar_3b067_57 : decode cJ2_getChar_3b067 57 = .ok (.ior, 1) := by decide +kernel
theorem dJ2_getChar_3b067_58 : decode cJ2_getChar_3b067 58 = .ok (.i2c, 1) := by decide +kernel
theorem dJ2_getChar_3b067_59 : decode cJ2_getChar_3b067 59 = .ok (.ireturn, 1) := by decide +kernel
theorem dJ2_length_9d52b_0 : decode cJ2_length_9d52b 0 = .ok (.aload_n 0, 1) := by decide +kernel
theorem dJ2_length_9d52b_1 : decode cJ2_length_9d52b 1 = .ok (.arraylength, 1) := by decide +kernel
theorem dJ2_length_9d52b_2 : decode cJ2_length_9d52b 2 = .ok (.iconst 1, 1) := by decide +kernel
theorem dJ2_length_9d52b_3 : decode cJ2_length_9d52b 3 = .ok (.ishr, 1) := by decide +kernel
theorem dJ2_length_9d52b_4 : decode cJ2_length_9d52b 4 = .ok (.ireturn, 1) := by decide +kernel
theorem dJ2_charAt_3b067_0 : decode cJ2_charAt_3b067 0 = .ok (.iload_n 1, 1) := by decide +kernel
theorem dJ2_charAt_3b067_1 : decode cJ2_charAt_3b067 1 = .ok (.aload_n 0, 1) := by decide +kernel
theorem dJ2_charAt_3b067_2 : decode cJ2_charAt_3b067 2 = .ok (.invokestatic 67, 3) := by decide +kernel
theorem dJ2_charAt_3b067_5 : decode cJ2_charAt_3b067 5 = .ok (.aload_n 0, 1) := by decide +kernel
theorem dJ2_charAt_3b067_6 : decode cJ2_charAt_3b067 6 = .ok (.iload_n 1, 1) := by decide +kernel
theorem dJ2_charAt_3b067_7 : decode cJ2_charAt_3b067 7 = .ok (.invokestatic 71, 3) := by decide +kernel
theorem dJ2_charAt_3b067_10 : decode cJ2_charAt_3b067 10 = .ok (.ireturn, 1) := by decide +kernel
theorem dJ2_checkIndex_2214a_0 : decode cJ2_checkIndex_2214a 0 = .ok (.iload_n 0, 1) := by decide +kernel
theorem dJ2_checkIndex_2214a_1 : decode cJ2_checkIndex_2214a 1 = .ok (.aload_n 1, 1) := by decide +kernel
theorem dJ2_checkIndex_2214a_2 : decode cJ2_checkIndex_2214a 2 = .ok (.invokestatic 48, 3) := by decide +kernel
theorem dJ2_checkIndex_2214a_5 : decode cJ2_checkIndex_2214a 5 = .ok (.invokestatic 414, 3) := by decide +kernel
theorem dJ2_checkIndex_2214a_8 : decode cJ2_checkIndex_2214a 8 = .ok (.return_, 1) := by decide +kernel
theorem dJ7_fill_53178_0 : decode cJ7_fill_53178 0 = .ok (.iconst 0, 1) := by decide +kernel
theorem dJ7_fill_53178_1 : decode cJ7_fill_53178 1 = .ok (.istore_n 2, 1) := by decide +kernel
theorem dJ7_fill_53178_2 : decode cJ7_fill_53178 2 = .ok (.aload_n 0, 1) := by decide +kernel
theorem dJ7_fill_53178_3 : decode cJ7_fill_53178 3 = .ok (.arraylength, 1) := by decide +kernel
theorem dJ7_fill_53178_4 : decode cJ7_fill_53178 4 = .ok (.istore_n 3, 1) := by decide +kernel
theorem dJ7_fill_53178_5 : decode cJ7_fill_53178 5 = .ok (.iload_n 2, 1) := by decide +kernel
theorem dJ7_fill_53178_6 : decode cJ7_fill_53178 6 = .ok (.iload_n 3, 1) := by decide +kernel
theorem dJ7_fill_53178_7 : decode cJ7_fill_53178 7 = .ok (.if_icmp .ge 13, 3) := by decide +kernel
theorem dJ7_fill_53178_10 : decode cJ7_fill_53178 10 = .ok (.aload_n 0, 1) := by decide +kernel
theorem dJ7_fill_53178_11 : decode cJ7_fill_53178 11 = .ok (.iload_n 2, 1) := by decide +kernel
theorem dJ7_fill_53178_12 : decode cJ7_fill_53178 12 = .ok (.iload_n 1, 1) := by decide +kernel
theorem dJ7_fill_53178_13 : decode cJ7_fill_53178 13 = .ok (.iastore, 1) := by decide +kernel
theorem dJ7_fill_53178_14 : decode cJ7_fill_53178 14 = .ok (.iinc 2 1, 3) := by decide +kernel
theorem dJ7_fill_53178_17 : decode cJ7_fill_53178 17 = .ok (.goto (-12), 3) := by decide +kernel
theorem dJ7_fill_53178_20 : decode cJ7_fill_53178 20 = .ok (.return_, 1) := by decide +kernel
theorem dJ3_checkIndex_8e157_0 : decode cJ3_checkIndex_8e157 0 = .ok (.iload_n 0, 1) := by decide +kernel
theorem dJ3_checkIndex_8e157_1 : decode cJ3_checkIndex_8e157 1 = .ok (.ifCond .lt 8, 3) := by decide +kernel
theorem dJ3_checkIndex_8e157_4 : decode cJ3_checkIndex_8e157 4 = .ok (.iload_n 0, 1) := by decide +kernel
theorem dJ3_checkIndex_8e157_5 : decode cJ3_checkIndex_8e157 5 = .ok (.iload_n 1, 1) := by decide +kernel
theorem dJ3_checkIndex_8e157_6 : decode cJ3_checkIndex_8e157 6 = .ok (.if_icmp .lt 10, 3) := by decide +kernel
theorem dJ3_checkIndex_8e157_9 : decode cJ3_checkIndex_8e157 9 = .ok (.aload_n 2, 1) := by decide +kernel
theorem dJ3_checkIndex_8e157_10 : decode cJ3_checkIndex_8e157 10 = .ok (.iload_n 0, 1) := by decide +kernel
theorem dJ3_checkIndex_8e157_11 : decode cJ3_checkIndex_8e157 11 = .ok (.iload_n 1, 1) := by decide +kernel
theorem dJ3_checkIndex_8e157_12 : decode cJ3_checkIndex_8e157 12 = .ok (.invokestatic 95, 3) := by decide +kernel
theorem dJ3_checkIndex_8e157_15 : decode cJ3_checkIndex_8e157 15 = .ok (.athrow, 1) := by decide +kernel
theorem dJ3_checkIndex_8e157_16 : decode cJ3_checkIndex_8e157 16 = .ok (.iload_n 0, 1) := by decide +kernel
theorem dJ3_checkIndex_8e157_17 : decode cJ3_checkIndex_8e157 17 = .ok (.ireturn, 1) := by decide +kernel
