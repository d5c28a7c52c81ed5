theorem dX10_init_0 : decode cX10_init 0 = .ok (.aload_n 0, 1) := by decide +kernel
theorem dX10_init_1 : decode cX10_init 1 = .ok (.invokespecial 1, 3) := by decide +kernel
theorem dX10_init_4 : decode cX10_init 4 = .ok (.aload_n 0, 1) := by decide +kernel
theorem dX10_init_5 : decode cX10_init 5 = .ok (.iconst 4, 1) := by decide +kernel
theorem dX10_init_6 : decode cX10_init 6 = .ok (.putfield 7, 3) := by decide +kernel
theorem dX10_init_9 : decode cX10_init 9 = .ok (.aload_n 0, 1) := by decide +kernel
theorem dX10_init_10 : decode cX10_init 10 = .ok (.bipush 10, 2) := by decide +kernel
theorem dX10_init_12 : decode cX10_init 12 = .ok (.newarray .int, 2) := by decide +kernel
theorem dX10_init_14 : decode cX10_init 14 = .ok (.putfield 13, 3) := by decide +kernel
theorem dX10_init_17 : decode cX10_init 17 = .ok (.aload_n 0, 1) := by decide +kernel
theorem dX10_init_18 : decode cX10_init 18 = .ok (.bipush 10, 2) := by decide +kernel
theorem dX10_init_20 : decode cX10_init 20 = .ok (.newarray .int, 2) := by decide +kernel
theorem dX10_init_22 : decode cX10_init 22 = .ok (.putfield 17, 3) := by decide +kernel
theorem dX10_init_25 : decode cX10_init 25 = .ok (.aload_n 0, 1) := by decide +kernel
theorem dX10_init_26 : decode cX10_init 26 = .ok (.bipush 56, 2) := by decide +kernel
theorem dX10_init_28 : decode cX10_init 28 = .ok (.newarray .int, 2) := by decide +kernel
theorem dX10_init_30 : decode cX10_init 30 = .ok (.putfield 20, 3) := by decide +kernel
theorem dX10_init_33 : decode cX10_init 33 = .ok (.aload_n 0, 1) := by decide +kernel
theorem dX10_init_34 : decode cX10_init 34 = .ok (.sipush 200, 3) := by decide +kernel
theorem dX10_init_37 : decode cX10_init 37 = .ok (.newarray .int, 2) := by decide +kernel
theorem dX10_init_39 : decode cX10_init 39 = .ok (.putfield 23, 3) := by decide +kernel
theorem dX10_init_42 : decode cX10_init 42 = .ok (.aload_n 0, 1) := by decide +kernel
theorem dX10_init_43 : decode cX10_init 43 = .ok (.bipush 32, 2) := by decide +kernel
theorem dX10_init_45 : decode cX10_init 45 = .ok (.newarray .int, 2) := by decide +kernel
theorem dX10_init_47 : decode cX10_init 47 = .ok (.putfield 26, 3) := by decide +kernel
theorem dX10_init_50 : decode cX10_init 50 = .ok (.aload_n 0, 1) := by decide +kernel
theorem dX10_init_51 : decode cX10_init 51 = .ok (.sipush 14336, 3) := by decide +kernel
theorem dX10_init_54 : decode cX10_init 54 = .ok (.newarray .int, 2) := by decide +kernel
theorem dX10_init_56 : decode cX10_init 56 = .ok (.putfield 29, 3) := by decide +kernel
theorem dX10_init_59 : decode cX10_init 59 = .ok (.aload_n 0, 1) := by decide +kernel
theorem dX10_init_60 : decode cX10_init 60 = .ok (.sipush 1024, 3) := by decide +kernel
theorem dX10_init_63 : decode cX10_init 63 = .ok (.newarray .int, 2) := by decide +kernel
theorem dX10_init_65 : decode cX10_init 65 = .ok (.putfield 32, 3) := by decide +kernel
theorem dX10_init_68 : decode cX10_init 68 = .ok (.aload_n 0, 1) := by decide +kernel
theorem dX10_init_69 : decode cX10_init 69 = .ok (.sipush 1024, 3) := by decide +kernel
theorem dX10_init_72 : decode cX10_init 72 = .ok (.newarray .int, 2) := by decide +kernel
theorem dX10_init_74 : decode cX10_init 74 = .ok (.putfield 35, 3) := by decide +kernel
theorem dX10_init_77 : decode cX10_init 77 = .ok (.aload_n 0, 1) := by decide +kernel
theorem dX10_init_78 : decode cX10_init 78 = .ok (.sipush 1024, 3) := by decide +kernel
theorem dX10_init_81 : decode cX10_init 81 = .ok (.newarray .int, 2) := by decide +kernel
theorem dX10_init_83 : decode cX10_init 83 = .ok (.putfield 38, 3) := by decide +kernel
theorem dX10_init_86 : decode cX10_init 86 = .ok (.aload_n 0, 1) := by decide +kernel
theorem dX10_init_87 : decode cX10_init 87 = .ok (.bipush 98, 2) := by decide +kernel
theorem dX10_init_89 : decode cX10_init 89 = .ok (.newarray .int, 2) := by decide +kernel
theorem dX10_init_91 : decode cX10_init 91 = .ok (.putfield 41, 3) := by decide +kernel
theorem dX10_init_94 : decode cX10_init 94 = .ok (.aload_n 0, 1) := by decide +kernel
theorem dX10_init_95 : decode cX10_init 95 = .ok (.iconst 2, 1) := by decide +kernel
theorem dX10_init_96 : decode cX10_init 96 = .ok (.newarray .boolean, 2) := by decide +kernel
theorem dX10_init_98 : decode cX10_init 98 = .ok (.putfield 44, 3) := by decide +kernel
theorem dX10_init_101 : decode cX10_init 101 = .ok (.aload_n 0, 1) := by decide +kernel
theorem dX10_init_102 : decode cX10_init 102 = .ok (.bipush 10, 2) := by decide +kernel
theorem dX10_init_104 : decode cX10_init 104 = .ok (.newarray .int, 2) := by decide +kernel
theorem dX10_init_106 : decode cX10_init 106 = .ok (.putfield 48, 3) := by decide +kernel
theorem dX10_init_109 : decode cX10_init 109 = .ok (.aload_n 0, 1) := by decide +kernel
theorem dX10_init_110 : decode cX10_init 110 = .ok (.invokevirtual 51, 3) := by decide +kernel
theorem dX10_init_113 : decode cX10_init 113 = .ok (.return_, 1) := by decide +kernel
theorem dX10_has_0 : decode cX10_has 0 = .ok (.iload_n 0, 1) := by decide +kernel
theorem dX10_has_1 : decode cX10_has 1 = .ok (.iload_n 1, 1) := by decide +kernel
theorem dX10_has_2 : decode cX10_has 2 = .ok (.ishr, 1) := by decide +kernel
theorem dX10_has_3 : decode cX10_has 3 = .ok (.iconst 1, 1) := by decide +kernel
theorem dX10_has_4 : decode cX10_has 4 = .ok (.iand, 1) := by decide +kernel
theorem dX10_has_5 : decode cX10_has 5 = .ok (.iconst 1, 1) := by decide +kernel
theorem dX10_has_6 : decode cX10_has 6 = .ok (.if_icmp .ne 7, 3) := by decide +kernel
theorem dX10_has_9 : decode cX10_has 9 = .ok (.iconst 1, 1) := by decide +kernel
theorem dX10_has_10 : decode cX10_has 10 = .ok (.goto 4, 3) := by decide +kernel
theorem dX10_has_13 : decode cX10_has 13 = .ok (.iconst 0, 1) := by decide +kernel
theorem dX10_has_14 : decode cX10_has 14 = .ok (.ireturn, 1) := by decide +kernel
theorem dX10_plain_0 : decode cX10_plain 0 = .ok (.iconst 0, 1) := by decide +kernel
theorem dX10_plain_1 : decode cX10_plain 1 = .ok (.istore_n 1, 1) := by decide +kernel
theorem dX10_plain_2 : decode cX10_plain 2 = .ok (.iload_n 1, 1) := by decide +kernel
theorem dX10_plain_3 : decode cX10_plain 3 = .ok (.bipush 10, 2) := by decide +kernel
theorem dX10_plain_5 : decode cX10_plain 5 = .ok (.if_icmp .ge 23, 3) := by decide +kernel
theorem dX10_plain_8 : decode cX10_plain 8 = .ok (.aload_n 0, 1) := by decide +kernel
theorem dX10_plain_9 : decode cX10_plain 9 = .ok (.getfield 13, 3) := by decide +kernel
theorem dX10_plain_12 : decode cX10_plain 12 = .ok (.iload_n 1, 1) := by decide +kernel
theorem dX10_plain_13 : decode cX10_plain 13 = .ok (.iconst 1, 1) := by decide +kernel
theorem dX10_plain_14 : decode cX10_plain 14 = .ok (.iastore, 1) := by decide +kernel
theorem dX10_plain_15 : decode cX10_plain 15 = .ok (.aload_n 0, 1) := by decide +kernel
theorem dX10_plain_16 : decode cX10_plain 16 = .ok (.getfield 17, 3) := by decide +kernel
theorem dX10_plain_19 : decode cX10_plain 19 = .ok (.iload_n 1, 1) := by decide +kernel
theorem dX10_plain_20 : decode cX10_plain 20 = .ok (.iconst 1, 1) := by decide +kernel
theorem dX10_plain_21 : decode cX10_plain 21 = .ok (.iastore, 1) := by decide +kernel
theorem dX10_plain_22 : decode cX10_plain 22 = .ok (.iinc 1 1, 3) := by decide +kernel
theorem dX10_plain_25 : decode cX10_plain 25 = .ok (.goto (-23), 3) := by decide +kernel
theorem dX10_plain_28 : decode cX10_plain 28 = .ok (.aload_n 0, 1) := by decide +kernel
theorem dX10_plain_29 : decode cX10_plain 29 = .ok (.iconst 0, 1) := by decide +kernel
theorem dX10_plain_30 : decode cX10_plain 30 = .ok (.putfield 54, 3) := by decide +kernel
theorem dX10_plain_33 : decode cX10_plain 33 = .ok (.return_, 1) := by decide +kernel
theorem dX10_isDeed_0 : decode cX10_isDeed 0 = .ok (.iload_n 1, 1) := by decide +kernel
theorem dX10_isDeed_1 : decode cX10_isDeed 1 = .ok (.iconst 0, 1) := by decide +kernel
theorem dX10_isDeed_2 : decode cX10_isDeed 2 = .ok (.aload_n 0, 1) := by decide +kernel
theorem dX10_isDeed_3 : decode cX10_isDeed 3 = .ok (.invokevirtual 57, 3) := by decide +kernel
theorem dX10_isDeed_6 : decode cX10_isDeed 6 = .ok (.iconst 1, 1) := by decide +kernel
theorem dX10_isDeed_7 : decode cX10_isDeed 7 = .ok (.isub, 1) := by decide +kernel
theorem dX10_isDeed_8 : decode cX10_isDeed 8 = .ok (.invokestatic 61, 3) := by decide +kernel
theorem dX10_isDeed_11 : decode cX10_isDeed 11 = .ok (.ireturn, 1) := by decide +kernel
theorem dX10_write_0 : decode cX10_write 0 = .ok (.iload_n 3, 1) := by decide +kernel
theorem dX10_write_1 : decode cX10_write 1 = .ok (.iconst 1, 1) := by decide +kernel
theorem dX10_write_2 : decode cX10_write 2 = .ok (.bipush 8, 2) := by decide +kernel
theorem dX10_write_4 : decode cX10_write 4 = .ok (.invokestatic 61, 3) := by decide +kernel
theorem dX10_write_7 : decode cX10_write 7 = .ok (.ifCond .ne 6, 3) := by decide +kernel
theorem dX10_write_10 : decode cX10_write 10 = .ok (.bipush (-3), 2) := by decide +kernel
theorem dX10_write_12 : decode cX10_write 12 = .ok (.ireturn, 1) := by decide +kernel
theorem dX10_write_13 : decode cX10_write 13 = .ok (.aload_n 0, 1) := by decide +kernel
theorem dX10_write_14 : decode cX10_write 14 = .ok (.getfield 65, 3) := by decide +kernel
theorem dX10_write_17 : decode cX10_write 17 = .ok (.iload_n 3, 1) := by decide +kernel
theorem dX10_write_18 : decode cX10_write 18 = .ok (.iadd, 1) := by decide +kernel
theorem dX10_write_19 : decode cX10_write 19 = .ok (.sipush 200, 3) := by decide +kernel
theorem dX10_write_22 : decode cX10_write 22 = .ok (.if_icmp .le 6, 3) := by decide +kernel
theorem dX10_write_25 : decode cX10_write 25 = .ok (.bipush (-5), 2) := by decide +kernel
theorem dX10_write_27 : decode cX10_write 27 = .ok (.ireturn, 1) := by decide +kernel
theorem dX10_write_28 : decode cX10_write 28 = .ok (.iconst 0, 1) := by decide +kernel
theorem dX10_write_29 : decode cX10_write 29 = .ok (.istore 4, 2) := by decide +kernel
theorem dX10_write_31 : decode cX10_write 31 = .ok (.iload 4, 2) := by decide +kernel
theorem dX10_write_33 : decode cX10_write 33 = .ok (.iload_n 3, 1) := by decide +kernel
theorem dX10_write_34 : decode cX10_write 34 = .ok (.if_icmp .ge 33, 3) := by decide +kernel
theorem dX10_write_37 : decode cX10_write 37 = .ok (.aload_n 0, 1) := by decide +kernel
theorem dX10_write_38 : decode cX10_write 38 = .ok (.getfield 23, 3) := by decide +kernel
theorem dX10_write_41 : decode cX10_write 41 = .ok (.aload_n 0, 1) := by decide +kernel
theorem dX10_write_42 : decode cX10_write 42 = .ok (.getfield 65, 3) := by decide +kernel
theorem dX10_write_45 : decode cX10_write 45 = .ok (.iload 4, 2) := by decide +kernel
theorem dX10_write_47 : decode cX10_write 47 = .ok (.iadd, 1) := by decide +kernel
theorem dX10_write_48 : decode cX10_write 48 = .ok (.lload_n 1, 1) := by decide +kernel
theorem dX10_write_49 : decode cX10_write 49 = .ok (.bipush 8, 2) := by decide +kernel
theorem dX10_write_51 : decode cX10_write 51 = .ok (.iload 4, 2) := by decide +kernel
theorem dX10_write_53 : decode cX10_write 53 = .ok (.imul, 1) := by decide +kernel
theorem dX10_write_54 : decode cX10_write 54 = .ok (.lshr, 1) := by decide +kernel
theorem dX10_write_55 : decode cX10_write 55 = .ok (.ldc2_w 68, 3) := by decide +kernel
theorem dX10_write_58 : decode cX10_write 58 = .ok (.land, 1) := by decide +kernel
theorem dX10_write_59 : decode cX10_write 59 = .ok (.l2i, 1) := by decide +kernel
theorem dX10_write_60 : decode cX10_write 60 = .ok (.iastore, 1) := by decide +kernel
theorem dX10_write_61 : decode cX10_write 61 = .ok (.iinc 4 1, 3) := by decide +kernel
theorem dX10_write_64 : decode cX10_write 64 = .ok (.goto (-33), 3) := by decide +kernel
theorem dX10_write_67 : decode cX10_write 67 = .ok (.aload_n 0, 1) := by decide +kernel
theorem dX10_write_68 : decode cX10_write 68 = .ok (.dup, 1) := by decide +kernel
theorem dX10_write_69 : decode cX10_write 69 = .ok (.getfield 65, 3) := by decide +kernel
theorem dX10_write_72 : decode cX10_write 72 = .ok (.iload_n 3, 1) := by decide +kernel
theorem dX10_write_73 : decode cX10_write 73 = .ok (.iadd, 1) := by decide +kernel
theorem dX10_write_74 : decode cX10_write 74 = .ok (.putfield 65, 3) := by decide +kernel
theorem dX10_write_77 : decode cX10_write 77 = .ok (.aload_n 0, 1) := by decide +kernel
theorem dX10_write_78 : decode cX10_write 78 = .ok (.getfield 65, 3) := by decide +kernel
theorem dX10_write_81 : decode cX10_write 81 = .ok (.ireturn, 1) := by decide +kernel
theorem dX10_nextToken_0 : decode cX10_nextToken 0 = .ok (.aload_n 0, 1) := by decide +kernel
theorem dX10_nextToken_1 : decode cX10_nextToken 1 = .ok (.getfield 70, 3) := by decide +kernel
theorem dX10_nextToken_4 : decode cX10_nextToken 4 = .ok (.aload_n 0, 1) := by decide +kernel
theorem dX10_nextToken_5 : decode cX10_nextToken 5 = .ok (.getfield 65, 3) := by decide +kernel
theorem dX10_nextToken_8 : decode cX10_nextToken 8 = .ok (.if_icmp .ge 30, 3) := by decide +kernel
theorem dX10_nextToken_11 : decode cX10_nextToken 11 = .ok (.aload_n 0, 1) := by decide +kernel
theorem dX10_nextToken_12 : decode cX10_nextToken 12 = .ok (.getfield 23, 3) := by decide +kernel
theorem dX10_nextToken_15 : decode cX10_nextToken 15 = .ok (.aload_n 0, 1) := by decide +kernel
theorem dX10_nextToken_16 : decode cX10_nextToken 16 = .ok (.getfield 70, 3) := by decide +kernel
theorem dX10_nextToken_19 : decode cX10_nextToken 19 = .ok (.iaload, 1) := by decide +kernel
theorem dX10_nextToken_20 : decode cX10_nextToken 20 = .ok (.bipush 32, 2) := by decide +kernel
theorem dX10_nextToken_22 : decode cX10_nextToken 22 = .ok (.if_icmp .ne 16, 3) := by decide +kernel
theorem dX10_nextToken_25 : decode cX10_nextToken 25 = .ok (.aload_n 0, 1) := by decide +kernel
theorem dX10_nextToken_26 : decode cX10_nextToken 26 = .ok (.dup, 1) := by decide +kernel
theorem dX10_nextToken_27 : decode cX10_nextToken 27 = .ok (.getfield 70, 3) := by decide +kernel
theorem dX10_nextToken_30 : decode cX10_nextToken 30 = .ok (.iconst 1, 1) := by decide +kernel
theorem dX10_nextToken_31 : decode cX10_nextToken 31 = .ok (.iadd, 1) := by decide +kernel
theorem dX10_nextToken_32 : decode cX10_nextToken 32 = .ok (.putfield 70, 3) := by decide +kernel
theorem dX10_nextToken_35 : decode cX10_nextToken 35 = .ok (.goto (-35), 3) := by decide +kernel
theorem dX10_nextToken_38 : decode cX10_nextToken 38 = .ok (.aload_n 0, 1) := by decide +kernel
theorem dX10_nextToken_39 : decode cX10_nextToken 39 = .ok (.aload_n 0, 1) := by decide +kernel
theorem dX10_nextToken_40 : decode cX10_nextToken 40 = .ok (.getfield 70, 3) := by decide +kernel
theorem dX10_nextToken_43 : decode cX10_nextToken 43 = .ok (.putfield 73, 3) := by decide +kernel
theorem dX10_nextToken_46 : decode cX10_nextToken 46 = .ok (.aload_n 0, 1) := by decide +kernel
theorem dX10_nextToken_47 : decode cX10_nextToken 47 = .ok (.iconst 0, 1) := by decide +kernel
theorem dX10_nextToken_48 : decode cX10_nextToken 48 = .ok (.putfield 76, 3) := by decide +kernel
theorem dX10_nextToken_51 : decode cX10_nextToken 51 = .ok (.aload_n 0, 1) := by decide +kernel
theorem dX10_nextToken_52 : decode cX10_nextToken 52 = .ok (.iconst 0, 1) := by decide +kernel
theorem dX10_nextToken_53 : decode cX10_nextToken 53 = .ok (.putfield 79, 3) := by decide +kernel
theorem dX10_nextToken_56 : decode cX10_nextToken 56 = .ok (.aload_n 0, 1) := by decide +kernel
theorem dX10_nextToken_57 : decode cX10_nextToken 57 = .ok (.iconst 0, 1) := by decide +kernel
theorem dX10_nextToken_58 : decode cX10_nextToken 58 = .ok (.putfield 82, 3) := by decide +kernel
theorem dX10_nextToken_61 : decode cX10_nextToken 61 = .ok (.aload_n 0, 1) := by decide +kernel
theorem dX10_nextToken_62 : decode cX10_nextToken 62 = .ok (.iconst 1, 1) := by decide +kernel
theorem dX10_nextToken_63 : decode cX10_nextToken 63 = .ok (.putfield 85, 3) := by decide +kernel
theorem dX10_nextToken_66 : decode cX10_nextToken 66 = .ok (.aload_n 0, 1) := by decide +kernel
theorem dX10_nextToken_67 : decode cX10_nextToken 67 = .ok (.getfield 70, 3) := by decide +kernel
theorem dX10_nextToken_70 : decode cX10_nextToken 70 = .ok (.aload_n 0, 1) := by decide +kernel
theorem dX10_nextToken_71 : decode cX10_nextToken 71 = .ok (.getfield 65, 3) := by decide +kernel
theorem dX10_nextToken_74 : decode cX10_nextToken 74 = .ok (.if_icmp .ne 13, 3) := by decide +kernel
theorem dX10_nextToken_77 : decode cX10_nextToken 77 = .ok (.aload_n 0, 1) := by decide +kernel
theorem dX10_nextToken_78 : decode cX10_nextToken 78 = .ok (.ldc2_w 89, 3) := by decide +kernel
theorem dX10_nextToken_81 : decode cX10_nextToken 81 = .ok (.putfield 91, 3) := by decide +kernel
theorem dX10_nextToken_84 : decode cX10_nextToken 84 = .ok (.goto 367, 3) := by decide +kernel
theorem dX10_nextToken_87 : decode cX10_nextToken 87 = .ok (.aload_n 0, 1) := by decide +kernel
theorem dX10_nextToken_88 : decode cX10_nextToken 88 = .ok (.getfield 23, 3) := by decide +kernel
theorem dX10_nextToken_91 : decode cX10_nextToken 91 = .ok (.aload_n 0, 1) := by decide +kernel
theorem dX10_nextToken_92 : decode cX10_nextToken 92 = .ok (.getfield 70, 3) := by decide +kernel
theorem dX10_nextToken_95 : decode cX10_nextToken 95 = .ok (.iaload, 1) := by decide +kernel
theorem dX10_nextToken_96 : decode cX10_nextToken 96 = .ok (.bipush 97, 2) := by decide +kernel
theorem dX10_nextToken_98 : decode cX10_nextToken 98 = .ok (.bipush 122, 2) := by decide +kernel
theorem dX10_nextToken_100 : decode cX10_nextToken 100 = .ok (.invokestatic 61, 3) := by decide +kernel
theorem dX10_nextToken_103 : decode cX10_nextToken 103 = .ok (.ifCond .eq 129, 3) := by decide +kernel
theorem dX10_nextToken_106 : decode cX10_nextToken 106 = .ok (.aload_n 0, 1) := by decide +kernel
theorem dX10_nextToken_107 : decode cX10_nextToken 107 = .ok (.lconst 0, 1) := by decide +kernel
theorem dX10_nextToken_108 : decode cX10_nextToken 108 = .ok (.putfield 91, 3) := by decide +kernel
theorem dX10_nextToken_111 : decode cX10_nextToken 111 = .ok (.aload_n 0, 1) := by decide +kernel
theorem dX10_nextToken_112 : decode cX10_nextToken 112 = .ok (.getfield 70, 3) := by decide +kernel
theorem dX10_nextToken_115 : decode cX10_nextToken 115 = .ok (.aload_n 0, 1) := by decide +kernel
theorem dX10_nextToken_116 : decode cX10_nextToken 116 = .ok (.getfield 65, 3) := by decide +kernel
theorem dX10_nextToken_119 : decode cX10_nextToken 119 = .ok (.if_icmp .ge 82, 3) := by decide +kernel
theorem dX10_nextToken_122 : decode cX10_nextToken 122 = .ok (.aload_n 0, 1) := by decide +kernel
theorem dX10_nextToken_123 : decode cX10_nextToken 123 = .ok (.getfield 23, 3) := by decide +kernel
theorem dX10_nextToken_126 : decode cX10_nextToken 126 = .ok (.aload_n 0, 1) := by decide +kernel
theorem dX10_nextToken_127 : decode cX10_nextToken 127 = .ok (.getfield 70, 3) := by decide +kernel
theorem dX10_nextToken_130 : decode cX10_nextToken 130 = .ok (.iaload, 1) := by decide +kernel
theorem dX10_nextToken_131 : decode cX10_nextToken 131 = .ok (.bipush 97, 2) := by decide +kernel
theorem dX10_nextToken_133 : decode cX10_nextToken 133 = .ok (.bipush 122, 2) := by decide +kernel
theorem dX10_nextToken_135 : decode cX10_nextToken 135 = .ok (.invokestatic 61, 3) := by decide +kernel
theorem dX10_nextToken_138 : decode cX10_nextToken 138 = .ok (.ifCond .eq 63, 3) := by decide +kernel
theorem dX10_nextToken_141 : decode cX10_nextToken 141 = .ok (.aload_n 0, 1) := by decide +kernel
theorem dX10_nextToken_142 : decode cX10_nextToken 142 = .ok (.aload_n 0, 1) := by decide +kernel
theorem dX10_nextToken_143 : decode cX10_nextToken 143 = .ok (.getfield 70, 3) := by decide +kernel
theorem dX10_nextToken_146 : decode cX10_nextToken 146 = .ok (.aload_n 0, 1) := by decide +kernel
theorem dX10_nextToken_147 : decode cX10_nextToken 147 = .ok (.getfield 73, 3) := by decide +kernel
theorem dX10_nextToken_150 : decode cX10_nextToken 150 = .ok (.isub, 1) := by decide +kernel
theorem dX10_nextToken_151 : decode cX10_nextToken 151 = .ok (.bipush 9, 2) := by decide +kernel
theorem dX10_nextToken_153 : decode cX10_nextToken 153 = .ok (.if_icmp .ge 29, 3) := by decide +kernel
theorem dX10_nextToken_156 : decode cX10_nextToken 156 = .ok (.ldc2_w 95, 3) := by decide +kernel
theorem dX10_nextToken_159 : decode cX10_nextToken 159 = .ok (.aload_n 0, 1) := by decide +kernel
theorem dX10_nextToken_160 : decode cX10_nextToken 160 = .ok (.getfield 91, 3) := by decide +kernel
theorem dX10_nextToken_163 : decode cX10_nextToken 163 = .ok (.lmul, 1) := by decide +kernel
theorem dX10_nextToken_164 : decode cX10_nextToken 164 = .ok (.aload_n 0, 1) := by decide +kernel
theorem dX10_nextToken_165 : decode cX10_nextToken 165 = .ok (.getfield 23, 3) := by decide +kernel
theorem dX10_nextToken_168 : decode cX10_nextToken 168 = .ok (.aload_n 0, 1) := by decide +kernel
theorem dX10_nextToken_169 : decode cX10_nextToken 169 = .ok (.getfield 70, 3) := by decide +kernel
theorem dX10_nextToken_172 : decode cX10_nextToken 172 = .ok (.iaload, 1) := by decide +kernel
theorem dX10_nextToken_173 : decode cX10_nextToken 173 = .ok (.i2l, 1) := by decide +kernel
theorem dX10_nextToken_174 : decode cX10_nextToken 174 = .ok (.ladd, 1) := by decide +kernel
theorem dX10_nextToken_175 : decode cX10_nextToken 175 = .ok (.ldc2_w 97, 3) := by decide +kernel
theorem dX10_nextToken_178 : decode cX10_nextToken 178 = .ok (.lsub, 1) := by decide +kernel
theorem dX10_nextToken_179 : decode cX10_nextToken 179 = .ok (.goto 6, 3) := by decide +kernel
theorem dX10_nextToken_182 : decode cX10_nextToken 182 = .ok (.ldc2_w 99, 3) := by decide +kernel
theorem dX10_nextToken_185 : decode cX10_nextToken 185 = .ok (.putfield 91, 3) := by decide +kernel
theorem dX10_nextToken_188 : decode cX10_nextToken 188 = .ok (.aload_n 0, 1) := by decide +kernel
theorem dX10_nextToken_189 : decode cX10_nextToken 189 = .ok (.dup, 1) := by decide +kernel
theorem dX10_nextToken_190 : decode cX10_nextToken 190 = .ok (.getfield 70, 3) := by decide +kernel
theorem dX10_nextToken_193 : decode cX10_nextToken 193 = .ok (.iconst 1, 1) := by decide +kernel
theorem dX10_nextToken_194 : decode cX10_nextToken 194 = .ok (.iadd, 1) := by decide +kernel
theorem dX10_nextToken_195 : decode cX10_nextToken 195 = .ok (.putfield 70, 3) := by decide +kernel
theorem dX10_nextToken_198 : decode cX10_nextToken 198 = .ok (.goto (-87), 3) := by decide +kernel
theorem dX10_nextToken_201 : decode cX10_nextToken 201 = .ok (.aload_n 0, 1) := by decide +kernel
theorem dX10_nextToken_202 : decode cX10_nextToken 202 = .ok (.aload_n 0, 1) := by decide +kernel
theorem dX10_nextToken_203 : decode cX10_nextToken 203 = .ok (.getfield 70, 3) := by decide +kernel
theorem dX10_nextToken_206 : decode cX10_nextToken 206 = .ok (.aload_n 0, 1) := by decide +kernel
theorem dX10_nextToken_207 : decode cX10_nextToken 207 = .ok (.getfield 73, 3) := by decide +kernel
theorem dX10_nextToken_210 : decode cX10_nextToken 210 = .ok (.isub, 1) := by decide +kernel
theorem dX10_nextToken_211 : decode cX10_nextToken 211 = .ok (.bipush 9, 2) := by decide +kernel
theorem dX10_nextToken_213 : decode cX10_nextToken 213 = .ok (.if_icmp .le 9, 3) := by decide +kernel
theorem dX10_nextToken_216 : decode cX10_nextToken 216 = .ok (.ldc2_w 99, 3) := by decide +kernel
theorem dX10_nextToken_219 : decode cX10_nextToken 219 = .ok (.goto 7, 3) := by decide +kernel
theorem dX10_nextToken_222 : decode cX10_nextToken 222 = .ok (.aload_n 0, 1) := by decide +kernel
theorem dX10_nextToken_223 : decode cX10_nextToken 223 = .ok (.getfield 91, 3) := by decide +kernel
theorem dX10_nextToken_226 : decode cX10_nextToken 226 = .ok (.putfield 91, 3) := by decide +kernel
theorem dX10_nextToken_229 : decode cX10_nextToken 229 = .ok (.goto 222, 3) := by decide +kernel
theorem dX10_nextToken_232 : decode cX10_nextToken 232 = .ok (.aload_n 0, 1) := by decide +kernel
theorem dX10_nextToken_233 : decode cX10_nextToken 233 = .ok (.getfield 23, 3) := by decide +kernel
theorem dX10_nextToken_236 : decode cX10_nextToken 236 = .ok (.aload_n 0, 1) := by decide +kernel
theorem dX10_nextToken_237 : decode cX10_nextToken 237 = .ok (.getfield 70, 3) := by decide +kernel
theorem dX10_nextToken_240 : decode cX10_nextToken 240 = .ok (.iaload, 1) := by decide +kernel
theorem dX10_nextToken_241 : decode cX10_nextToken 241 = .ok (.bipush 48, 2) := by decide +kernel
theorem dX10_nextToken_243 : decode cX10_nextToken 243 = .ok (.bipush 57, 2) := by decide +kernel
theorem dX10_nextToken_245 : decode cX10_nextToken 245 = .ok (.invokestatic 61, 3) := by decide +kernel
theorem dX10_nextToken_248 : decode cX10_nextToken 248 = .ok (.ifCond .eq 166, 3) := by decide +kernel
theorem dX10_nextToken_251 : decode cX10_nextToken 251 = .ok (.aload_n 0, 1) := by decide +kernel
theorem dX10_nextToken_252 : decode cX10_nextToken 252 = .ok (.getfield 70, 3) := by decide +kernel
theorem dX10_nextToken_255 : decode cX10_nextToken 255 = .ok (.aload_n 0, 1) := by decide +kernel
theorem dX10_nextToken_256 : decode cX10_nextToken 256 = .ok (.getfield 65, 3) := by decide +kernel
theorem dX10_nextToken_259 : decode cX10_nextToken 259 = .ok (.if_icmp .ge 145, 3) := by decide +kernel
theorem dX10_nextToken_262 : decode cX10_nextToken 262 = .ok (.aload_n 0, 1) := by decide +kernel
theorem dX10_nextToken_263 : decode cX10_nextToken 263 = .ok (.getfield 23, 3) := by decide +kernel
theorem dX10_nextToken_266 : decode cX10_nextToken 266 = .ok (.aload_n 0, 1) := by decide +kernel
theorem dX10_nextToken_267 : decode cX10_nextToken 267 = .ok (.getfield 70, 3) := by decide +kernel
theorem dX10_nextToken_270 : decode cX10_nextToken 270 = .ok (.iaload, 1) := by decide +kernel
theorem dX10_nextToken_271 : decode cX10_nextToken 271 = .ok (.bipush 48, 2) := by decide +kernel
theorem dX10_nextToken_273 : decode cX10_nextToken 273 = .ok (.bipush 57, 2) := by decide +kernel
theorem dX10_nextToken_275 : decode cX10_nextToken 275 = .ok (.invokestatic 61, 3) := by decide +kernel
theorem dX10_nextToken_278 : decode cX10_nextToken 278 = .ok (.ifCond .eq 126, 3) := by decide +kernel
theorem dX10_nextToken_281 : decode cX10_nextToken 281 = .ok (.aload_n 0, 1) := by decide +kernel
theorem dX10_nextToken_282 : decode cX10_nextToken 282 = .ok (.getfield 23, 3) := by decide +kernel
theorem dX10_nextToken_285 : decode cX10_nextToken 285 = .ok (.aload_n 0, 1) := by decide +kernel
theorem dX10_nextToken_286 : decode cX10_nextToken 286 = .ok (.getfield 70, 3) := by decide +kernel
theorem dX10_nextToken_289 : decode cX10_nextToken 289 = .ok (.iaload, 1) := by decide +kernel
theorem dX10_nextToken_290 : decode cX10_nextToken 290 = .ok (.bipush 48, 2) := by decide +kernel
theorem dX10_nextToken_292 : decode cX10_nextToken 292 = .ok (.isub, 1) := by decide +kernel
theorem dX10_nextToken_293 : decode cX10_nextToken 293 = .ok (.istore_n 1, 1) := by decide +kernel
theorem dX10_nextToken_294 : decode cX10_nextToken 294 = .ok (.aload_n 0, 1) := by decide +kernel
theorem dX10_nextToken_295 : decode cX10_nextToken 295 = .ok (.aload_n 0, 1) := by decide +kernel
theorem dX10_nextToken_296 : decode cX10_nextToken 296 = .ok (.getfield 76, 3) := by decide +kernel
theorem dX10_nextToken_299 : decode cX10_nextToken 299 = .ok (.iconst 4, 1) := by decide +kernel
theorem dX10_nextToken_300 : decode cX10_nextToken 300 = .ok (.if_icmp .ge 15, 3) := by decide +kernel
theorem dX10_nextToken_303 : decode cX10_nextToken 303 = .ok (.bipush 10, 2) := by decide +kernel
theorem dX10_nextToken_305 : decode cX10_nextToken 305 = .ok (.aload_n 0, 1) := by decide +kernel
theorem dX10_nextToken_306 : decode cX10_nextToken 306 = .ok (.getfield 79, 3) := by decide +kernel
theorem dX10_nextToken_309 : decode cX10_nextToken 309 = .ok (.imul, 1) := by decide +kernel
theorem dX10_nextToken_310 : decode cX10_nextToken 310 = .ok (.iload_n 1, 1) := by decide +kernel
theorem dX10_nextToken_311 : decode cX10_nextToken 311 = .ok (.iadd, 1) := by decide +kernel
theorem dX10_nextToken_312 : decode cX10_nextToken 312 = .ok (.goto 7, 3) := by decide +kernel
theorem dX10_nextToken_315 : decode cX10_nextToken 315 = .ok (.aload_n 0, 1) := by decide +kernel
theorem dX10_nextToken_316 : decode cX10_nextToken 316 = .ok (.getfield 79, 3) := by decide +kernel
theorem dX10_nextToken_319 : decode cX10_nextToken 319 = .ok (.putfield 79, 3) := by decide +kernel
theorem dX10_nextToken_322 : decode cX10_nextToken 322 = .ok (.aload_n 0, 1) := by decide +kernel
theorem dX10_nextToken_323 : decode cX10_nextToken 323 = .ok (.aload_n 0, 1) := by decide +kernel
theorem dX10_nextToken_324 : decode cX10_nextToken 324 = .ok (.getfield 85, 3) := by decide +kernel
theorem dX10_nextToken_327 : decode cX10_nextToken 327 = .ok (.ifCond .eq 21, 3) := by decide +kernel
theorem dX10_nextToken_330 : decode cX10_nextToken 330 = .ok (.iload_n 1, 1) := by decide +kernel
theorem dX10_nextToken_331 : decode cX10_nextToken 331 = .ok (.iconst 2, 1) := by decide +kernel
theorem dX10_nextToken_332 : decode cX10_nextToken 332 = .ok (.if_icmp .ge 16, 3) := by decide +kernel
theorem dX10_nextToken_335 : decode cX10_nextToken 335 = .ok (.aload_n 0, 1) := by decide +kernel
theorem dX10_nextToken_336 : decode cX10_nextToken 336 = .ok (.getfield 76, 3) := by decide +kernel
theorem dX10_nextToken_339 : decode cX10_nextToken 339 = .ok (.bipush 10, 2) := by decide +kernel
theorem dX10_nextToken_341 : decode cX10_nextToken 341 = .ok (.if_icmp .ge 7, 3) := by decide +kernel
theorem dX10_nextToken_344 : decode cX10_nextToken 344 = .ok (.iconst 1, 1) := by decide +kernel
theorem dX10_nextToken_345 : decode cX10_nextToken 345 = .ok (.goto 4, 3) := by decide +kernel
theorem dX10_nextToken_348 : decode cX10_nextToken 348 = .ok (.iconst 0, 1) := by decide +kernel
theorem dX10_nextToken_349 : decode cX10_nextToken 349 = .ok (.putfield 85, 3) := by decide +kernel
theorem dX10_nextToken_352 : decode cX10_nextToken 352 = .ok (.aload_n 0, 1) := by decide +kernel
theorem dX10_nextToken_353 : decode cX10_nextToken 353 = .ok (.aload_n 0, 1) := by decide +kernel
theorem dX10_nextToken_354 : decode cX10_nextToken 354 = .ok (.getfield 85, 3) := by decide +kernel
theorem dX10_nextToken_357 : decode cX10_nextToken 357 = .ok (.ifCond .eq 17, 3) := by decide +kernel
theorem dX10_nextToken_360 : decode cX10_nextToken 360 = .ok (.aload_n 0, 1) := by decide +kernel
theorem dX10_nextToken_361 : decode cX10_nextToken 361 = .ok (.getfield 82, 3) := by decide +kernel
theorem dX10_nextToken_364 : decode cX10_nextToken 364 = .ok (.iload_n 1, 1) := by decide +kernel
theorem dX10_nextToken_365 : decode cX10_nextToken 365 = .ok (.aload_n 0, 1) := by decide +kernel
theorem dX10_nextToken_366 : decode cX10_nextToken 366 = .ok (.getfield 76, 3) := by decide +kernel
theorem dX10_nextToken_369 : decode cX10_nextToken 369 = .ok (.ishl, 1) := by decide +kernel
theorem dX10_nextToken_370 : decode cX10_nextToken 370 = .ok (.ior, 1) := by decide +kernel
theorem dX10_nextToken_371 : decode cX10_nextToken 371 = .ok (.goto 7, 3) := by decide +kernel
theorem dX10_nextToken_374 : decode cX10_nextToken 374 = .ok (.aload_n 0, 1) := by decide +kernel
theorem dX10_nextToken_375 : decode cX10_nextToken 375 = .ok (.getfield 82, 3) := by decide +kernel
theorem dX10_nextToken_378 : decode cX10_nextToken 378 = .ok (.putfield 82, 3) := by decide +kernel
theorem dX10_nextToken_381 : decode cX10_nextToken 381 = .ok (.aload_n 0, 1) := by decide +kernel
theorem dX10_nextToken_382 : decode cX10_nextToken 382 = .ok (.dup, 1) := by decide +kernel
theorem dX10_nextToken_383 : decode cX10_nextToken 383 = .ok (.getfield 76, 3) := by decide +kernel
theorem dX10_nextToken_386 : decode cX10_nextToken 386 = .ok (.iconst 1, 1) := by decide +kernel
theorem dX10_nextToken_387 : decode cX10_nextToken 387 = .ok (.iadd, 1) := by decide +kernel
theorem dX10_nextToken_388 : decode cX10_nextToken 388 = .ok (.putfield 76, 3) := by decide +kernel
theorem dX10_nextToken_391 : decode cX10_nextToken 391 = .ok (.aload_n 0, 1) := by decide +kernel
theorem dX10_nextToken_392 : decode cX10_nextToken 392 = .ok (.dup, 1) := by decide +kernel
theorem dX10_nextToken_393 : decode cX10_nextToken 393 = .ok (.getfield 70, 3) := by decide +kernel
theorem dX10_nextToken_396 : decode cX10_nextToken 396 = .ok (.iconst 1, 1) := by decide +kernel
theorem dX10_nextToken_397 : decode cX10_nextToken 397 = .ok (.iadd, 1) := by decide +kernel
theorem dX10_nextToken_398 : decode cX10_nextToken 398 = .ok (.putfield 70, 3) := by decide +kernel
theorem dX10_nextToken_401 : decode cX10_nextToken 401 = .ok (.goto (-150), 3) := by decide +kernel
theorem dX10_nextToken_404 : decode cX10_nextToken 404 = .ok (.aload_n 0, 1) := by decide +kernel
theorem dX10_nextToken_405 : decode cX10_nextToken 405 = .ok (.ldc2_w 101, 3) := by decide +kernel
theorem dX10_nextToken_408 : decode cX10_nextToken 408 = .ok (.putfield 91, 3) := by decide +kernel
theorem dX10_nextToken_411 : decode cX10_nextToken 411 = .ok (.goto 40, 3) := by decide +kernel
theorem dX10_nextToken_414 : decode cX10_nextToken 414 = .ok (.aload_n 0, 1) := by decide +kernel
theorem dX10_nextToken_415 : decode cX10_nextToken 415 = .ok (.aload_n 0, 1) := by decide +kernel
theorem dX10_nextToken_416 : decode cX10_nextToken 416 = .ok (.getfield 23, 3) := by decide +kernel
theorem dX10_nextToken_419 : decode cX10_nextToken 419 = .ok (.aload_n 0, 1) := by decide +kernel
theorem dX10_nextToken_420 : decode cX10_nextToken 420 = .ok (.getfield 70, 3) := by decide +kernel
theorem dX10_nextToken_423 : decode cX10_nextToken 423 = .ok (.iaload, 1) := by decide +kernel
theorem dX10_nextToken_424 : decode cX10_nextToken 424 = .ok (.bipush 59, 2) := by decide +kernel
theorem dX10_nextToken_426 : decode cX10_nextToken 426 = .ok (.if_icmp .ne 9, 3) := by decide +kernel
theorem dX10_nextToken_429 : decode cX10_nextToken 429 = .ok (.ldc2_w 103, 3) := by decide +kernel
theorem dX10_nextToken_432 : decode cX10_nextToken 432 = .ok (.goto 6, 3) := by decide +kernel
theorem dX10_nextToken_435 : decode cX10_nextToken 435 = .ok (.ldc2_w 99, 3) := by decide +kernel
theorem dX10_nextToken_438 : decode cX10_nextToken 438 = .ok (.putfield 91, 3) := by decide +kernel
theorem dX10_nextToken_441 : decode cX10_nextToken 441 = .ok (.aload_n 0, 1) := by decide +kernel
theorem dX10_nextToken_442 : decode cX10_nextToken 442 = .ok (.dup, 1) := by decide +kernel
theorem dX10_nextToken_443 : decode cX10_nextToken 443 = .ok (.getfield 70, 3) := by decide +kernel
theorem dX10_nextToken_446 : decode cX10_nextToken 446 = .ok (.iconst 1, 1) := by decide +kernel
theorem dX10_nextToken_447 : decode cX10_nextToken 447 = .ok (.iadd, 1) := by decide +kernel
theorem dX10_nextToken_448 : decode cX10_nextToken 448 = .ok (.putfield 70, 3) := by decide +kernel
theorem dX10_nextToken_451 : decode cX10_nextToken 451 = .ok (.return_, 1) := by decide +kernel
theorem dX10_isNumber_0 : decode cX10_isNumber 0 = .ok (.aload_n 0, 1) := by decide +kernel
theorem dX10_isNumber_1 : decode cX10_isNumber 1 = .ok (.invokevirtual 108, 3) := by decide +kernel
theorem dX10_isNumber_4 : decode cX10_isNumber 4 = .ok (.aload_n 0, 1) := by decide +kernel
theorem dX10_isNumber_5 : decode cX10_isNumber 5 = .ok (.getfield 91, 3) := by decide +kernel
theorem dX10_isNumber_8 : decode cX10_isNumber 8 = .ok (.ldc2_w 101, 3) := by decide +kernel
theorem dX10_isNumber_11 : decode cX10_isNumber 11 = .ok (.lcmp, 1) := by decide +kernel
theorem dX10_isNumber_12 : decode cX10_isNumber 12 = .ok (.ifCond .ne 23, 3) := by decide +kernel
theorem dX10_isNumber_15 : decode cX10_isNumber 15 = .ok (.aload_n 0, 1) := by decide +kernel
theorem dX10_isNumber_16 : decode cX10_isNumber 16 = .ok (.getfield 76, 3) := by decide +kernel
theorem dX10_isNumber_19 : decode cX10_isNumber 19 = .ok (.iconst 4, 1) := by decide +kernel
theorem dX10_isNumber_20 : decode cX10_isNumber 20 = .ok (.if_icmp .gt 15, 3) := by decide +kernel
theorem dX10_isNumber_23 : decode cX10_isNumber 23 = .ok (.aload_n 0, 1) := by decide +kernel
theorem dX10_isNumber_24 : decode cX10_isNumber 24 = .ok (.getfield 79, 3) := by decide +kernel
theorem dX10_isNumber_27 : decode cX10_isNumber 27 = .ok (.iload_n 2, 1) := by decide +kernel
theorem dX10_isNumber_28 : decode cX10_isNumber 28 = .ok (.iload_n 3, 1) := by decide +kernel
theorem dX10_isNumber_29 : decode cX10_isNumber 29 = .ok (.invokestatic 61, 3) := by decide +kernel
theorem dX10_isNumber_32 : decode cX10_isNumber 32 = .ok (.ifCond .ne 8, 3) := by decide +kernel
theorem dX10_isNumber_35 : decode cX10_isNumber 35 = .ok (.aload_n 0, 1) := by decide +kernel
theorem dX10_isNumber_36 : decode cX10_isNumber 36 = .ok (.invokevirtual 111, 3) := by decide +kernel
theorem dX10_isNumber_39 : decode cX10_isNumber 39 = .ok (.ireturn, 1) := by decide +kernel
theorem dX10_isNumber_40 : decode cX10_isNumber 40 = .ok (.aload_n 0, 1) := by decide +kernel
theorem dX10_isNumber_41 : decode cX10_isNumber 41 = .ok (.getfield 26, 3) := by decide +kernel
theorem dX10_isNumber_44 : decode cX10_isNumber 44 = .ok (.iload_n 1, 1) := by decide +kernel
theorem dX10_isNumber_45 : decode cX10_isNumber 45 = .ok (.aload_n 0, 1) := by decide +kernel
theorem dX10_isNumber_46 : decode cX10_isNumber 46 = .ok (.getfield 79, 3) := by decide +kernel
theorem dX10_isNumber_49 : decode cX10_isNumber 49 = .ok (.iastore, 1) := by decide +kernel
theorem dX10_isNumber_50 : decode cX10_isNumber 50 = .ok (.iconst 1, 1) := by decide +kernel
theorem dX10_isNumber_51 : decode cX10_isNumber 51 = .ok (.ireturn, 1) := by decide +kernel
theorem dX10_isLand_0 : decode cX10_isLand 0 = .ok (.aload_n 0, 1) := by decide +kernel
theorem dX10_isLand_1 : decode cX10_isLand 1 = .ok (.iload_n 1, 1) := by decide +kernel
theorem dX10_isLand_2 : decode cX10_isLand 2 = .ok (.iconst 1, 1) := by decide +kernel
theorem dX10_isLand_3 : decode cX10_isLand 3 = .ok (.iadd, 1) := by decide +kernel
theorem dX10_isLand_4 : decode cX10_isLand 4 = .ok (.iconst 1, 1) := by decide +kernel
theorem dX10_isLand_5 : decode cX10_isLand 5 = .ok (.bipush 10, 2) := by decide +kernel
theorem dX10_isLand_7 : decode cX10_isLand 7 = .ok (.invokevirtual 118, 3) := by decide +kernel
theorem dX10_isLand_10 : decode cX10_isLand 10 = .ok (.ifCond .ne 5, 3) := by decide +kernel
theorem dX10_isLand_13 : decode cX10_isLand 13 = .ok (.iconst 0, 1) := by decide +kernel
theorem dX10_isLand_14 : decode cX10_isLand 14 = .ok (.ireturn, 1) := by decide +kernel
theorem dX10_isLand_15 : decode cX10_isLand 15 = .ok (.aload_n 0, 1) := by decide +kernel
theorem dX10_isLand_16 : decode cX10_isLand 16 = .ok (.aload_n 0, 1) := by decide +kernel
theorem dX10_isLand_17 : decode cX10_isLand 17 = .ok (.getfield 26, 3) := by decide +kernel
theorem dX10_isLand_20 : decode cX10_isLand 20 = .ok (.iload_n 1, 1) := by decide +kernel
theorem dX10_isLand_21 : decode cX10_isLand 21 = .ok (.iconst 1, 1) := by decide +kernel
theorem dX10_isLand_22 : decode cX10_isLand 22 = .ok (.iadd, 1) := by decide +kernel
theorem dX10_isLand_23 : decode cX10_isLand 23 = .ok (.iaload, 1) := by decide +kernel
theorem dX10_isLand_24 : decode cX10_isLand 24 = .ok (.putfield 115, 3) := by decide +kernel
theorem dX10_isLand_27 : decode cX10_isLand 27 = .ok (.aload_n 0, 1) := by decide +kernel
theorem dX10_isLand_28 : decode cX10_isLand 28 = .ok (.iconst 0, 1) := by decide +kernel
theorem dX10_isLand_29 : decode cX10_isLand 29 = .ok (.putfield 121, 3) := by decide +kernel
theorem dX10_isLand_32 : decode cX10_isLand 32 = .ok (.iconst 1, 1) := by decide +kernel
theorem dX10_isLand_33 : decode cX10_isLand 33 = .ok (.ireturn, 1) := by decide +kernel
theorem dX10_isDrop_0 : decode cX10_isDrop 0 = .ok (.aload_n 0, 1) := by decide +kernel
theorem dX10_isDrop_1 : decode cX10_isDrop 1 = .ok (.iload_n 1, 1) := by decide +kernel
theorem dX10_isDrop_2 : decode cX10_isDrop 2 = .ok (.iconst 1, 1) := by decide +kernel
theorem dX10_isDrop_3 : decode cX10_isDrop 3 = .ok (.iadd, 1) := by decide +kernel
theorem dX10_isDrop_4 : decode cX10_isDrop 4 = .ok (.iconst 0, 1) := by decide +kernel
theorem dX10_isDrop_5 : decode cX10_isDrop 5 = .ok (.aload_n 0, 1) := by decide +kernel
theorem dX10_isDrop_6 : decode cX10_isDrop 6 = .ok (.getfield 121, 3) := by decide +kernel
theorem dX10_isDrop_9 : decode cX10_isDrop 9 = .ok (.iconst 1, 1) := by decide +kernel
theorem dX10_isDrop_10 : decode cX10_isDrop 10 = .ok (.isub, 1) := by decide +kernel
theorem dX10_isDrop_11 : decode cX10_isDrop 11 = .ok (.invokevirtual 118, 3) := by decide +kernel
theorem dX10_isDrop_14 : decode cX10_isDrop 14 = .ok (.istore_n 2, 1) := by decide +kernel
theorem dX10_isDrop_15 : decode cX10_isDrop 15 = .ok (.aload_n 0, 1) := by decide +kernel
theorem dX10_isDrop_16 : decode cX10_isDrop 16 = .ok (.dup, 1) := by decide +kernel
theorem dX10_isDrop_17 : decode cX10_isDrop 17 = .ok (.getfield 121, 3) := by decide +kernel
theorem dX10_isDrop_20 : decode cX10_isDrop 20 = .ok (.iload_n 2, 1) := by decide +kernel
theorem dX10_isDrop_21 : decode cX10_isDrop 21 = .ok (.ifCond .eq 7, 3) := by decide +kernel
theorem dX10_isDrop_24 : decode cX10_isDrop 24 = .ok (.iconst 1, 1) := by decide +kernel
theorem dX10_isDrop_25 : decode cX10_isDrop 25 = .ok (.goto 4, 3) := by decide +kernel
theorem dX10_isDrop_28 : decode cX10_isDrop 28 = .ok (.iconst 0, 1) := by decide +kernel
theorem dX10_isDrop_29 : decode cX10_isDrop 29 = .ok (.isub, 1) := by decide +kernel
theorem dX10_isDrop_30 : decode cX10_isDrop 30 = .ok (.putfield 121, 3) := by decide +kernel
theorem dX10_isDrop_33 : decode cX10_isDrop 33 = .ok (.iload_n 2, 1) := by decide +kernel
theorem dX10_isDrop_34 : decode cX10_isDrop 34 = .ok (.ireturn, 1) := by decide +kernel
theorem dX10_isRead_0 : decode cX10_isRead 0 = .ok (.aload_n 0, 1) := by decide +kernel
theorem dX10_isRead_1 : decode cX10_isRead 1 = .ok (.iconst 0, 1) := by decide +kernel
theorem dX10_isRead_2 : decode cX10_isRead 2 = .ok (.putfield 70, 3) := by decide +kernel
theorem dX10_isRead_5 : decode cX10_isRead 5 = .ok (.aload_n 0, 1) := by decide +kernel
theorem dX10_isRead_6 : decode cX10_isRead 6 = .ok (.iconst 0, 1) := by decide +kernel
theorem dX10_isRead_7 : decode cX10_isRead 7 = .ok (.putfield 149, 3) := by decide +kernel
theorem dX10_isRead_10 : decode cX10_isRead 10 = .ok (.aload_n 0, 1) := by decide +kernel
theorem dX10_isRead_11 : decode cX10_isRead 11 = .ok (.aload_n 0, 1) := by decide +kernel
theorem dX10_isRead_12 : decode cX10_isRead 12 = .ok (.getfield 7, 3) := by decide +kernel
theorem dX10_isRead_15 : decode cX10_isRead 15 = .ok (.putfield 115, 3) := by decide +kernel
theorem dX10_isRead_18 : decode cX10_isRead 18 = .ok (.aload_n 0, 1) := by decide +kernel
theorem dX10_isRead_19 : decode cX10_isRead 19 = .ok (.aload_n 0, 1) := by decide +kernel
theorem dX10_isRead_20 : decode cX10_isRead 20 = .ok (.getfield 54, 3) := by decide +kernel
theorem dX10_isRead_23 : decode cX10_isRead 23 = .ok (.putfield 121, 3) := by decide +kernel
theorem dX10_isRead_26 : decode cX10_isRead 26 = .ok (.iconst 1, 1) := by decide +kernel
theorem dX10_isRead_27 : decode cX10_isRead 27 = .ok (.istore_n 1, 1) := by decide +kernel
theorem dX10_isRead_28 : decode cX10_isRead 28 = .ok (.iload_n 1, 1) := by decide +kernel
theorem dX10_isRead_29 : decode cX10_isRead 29 = .ok (.ifCond .eq 61, 3) := by decide +kernel
theorem dX10_isRead_32 : decode cX10_isRead 32 = .ok (.aload_n 0, 1) := by decide +kernel
theorem dX10_isRead_33 : decode cX10_isRead 33 = .ok (.iconst 4, 1) := by decide +kernel
theorem dX10_isRead_34 : decode cX10_isRead 34 = .ok (.aload_n 0, 1) := by decide +kernel
theorem dX10_isRead_35 : decode cX10_isRead 35 = .ok (.getfield 149, 3) := by decide +kernel
theorem dX10_isRead_38 : decode cX10_isRead 38 = .ok (.imul, 1) := by decide +kernel
theorem dX10_isRead_39 : decode cX10_isRead 39 = .ok (.invokevirtual 152, 3) := by decide +kernel
theorem dX10_isRead_42 : decode cX10_isRead 42 = .ok (.ifCond .ne 5, 3) := by decide +kernel
theorem dX10_isRead_45 : decode cX10_isRead 45 = .ok (.iconst 0, 1) := by decide +kernel
theorem dX10_isRead_46 : decode cX10_isRead 46 = .ok (.ireturn, 1) := by decide +kernel
theorem dX10_isRead_47 : decode cX10_isRead 47 = .ok (.aload_n 0, 1) := by decide +kernel
theorem dX10_isRead_48 : decode cX10_isRead 48 = .ok (.dup, 1) := by decide +kernel
theorem dX10_isRead_49 : decode cX10_isRead 49 = .ok (.getfield 149, 3) := by decide +kernel
theorem dX10_isRead_52 : decode cX10_isRead 52 = .ok (.iconst 1, 1) := by decide +kernel
theorem dX10_isRead_53 : decode cX10_isRead 53 = .ok (.iadd, 1) := by decide +kernel
theorem dX10_isRead_54 : decode cX10_isRead 54 = .ok (.putfield 149, 3) := by decide +kernel
theorem dX10_isRead_57 : decode cX10_isRead 57 = .ok (.aload_n 0, 1) := by decide +kernel
theorem dX10_isRead_58 : decode cX10_isRead 58 = .ok (.invokevirtual 108, 3) := by decide +kernel
theorem dX10_isRead_61 : decode cX10_isRead 61 = .ok (.aload_n 0, 1) := by decide +kernel
theorem dX10_isRead_62 : decode cX10_isRead 62 = .ok (.getfield 91, 3) := by decide +kernel
theorem dX10_isRead_65 : decode cX10_isRead 65 = .ok (.ldc2_w 103, 3) := by decide +kernel
theorem dX10_isRead_68 : decode cX10_isRead 68 = .ok (.lcmp, 1) := by decide +kernel
theorem dX10_isRead_69 : decode cX10_isRead 69 = .ok (.ifCond .ne 16, 3) := by decide +kernel
theorem dX10_isRead_72 : decode cX10_isRead 72 = .ok (.aload_n 0, 1) := by decide +kernel
theorem dX10_isRead_73 : decode cX10_isRead 73 = .ok (.getfield 149, 3) := by decide +kernel
theorem dX10_isRead_76 : decode cX10_isRead 76 = .ok (.bipush 8, 2) := by decide +kernel
theorem dX10_isRead_78 : decode cX10_isRead 78 = .ok (.if_icmp .ge 7, 3) := by decide +kernel
theorem dX10_isRead_81 : decode cX10_isRead 81 = .ok (.iconst 1, 1) := by decide +kernel
theorem dX10_isRead_82 : decode cX10_isRead 82 = .ok (.goto 4, 3) := by decide +kernel
theorem dX10_isRead_85 : decode cX10_isRead 85 = .ok (.iconst 0, 1) := by decide +kernel
theorem dX10_isRead_86 : decode cX10_isRead 86 = .ok (.istore_n 1, 1) := by decide +kernel
theorem dX10_isRead_87 : decode cX10_isRead 87 = .ok (.goto (-59), 3) := by decide +kernel
theorem dX10_isRead_90 : decode cX10_isRead 90 = .ok (.aload_n 0, 1) := by decide +kernel
theorem dX10_isRead_91 : decode cX10_isRead 91 = .ok (.getfield 91, 3) := by decide +kernel
theorem dX10_isRead_94 : decode cX10_isRead 94 = .ok (.ldc2_w 89, 3) := by decide +kernel
theorem dX10_isRead_97 : decode cX10_isRead 97 = .ok (.lcmp, 1) := by decide +kernel
theorem dX10_isRead_98 : decode cX10_isRead 98 = .ok (.ifCond .eq 10, 3) := by decide +kernel
theorem dX10_isRead_101 : decode cX10_isRead 101 = .ok (.aload_n 0, 1) := by decide +kernel
theorem dX10_isRead_102 : decode cX10_isRead 102 = .ok (.invokevirtual 111, 3) := by decide +kernel
theorem dX10_isRead_105 : decode cX10_isRead 105 = .ok (.ifCond .eq 7, 3) := by decide +kernel
theorem dX10_isRead_108 : decode cX10_isRead 108 = .ok (.iconst 1, 1) := by decide +kernel
theorem dX10_isRead_109 : decode cX10_isRead 109 = .ok (.goto 4, 3) := by decide +kernel
theorem dX10_isRead_112 : decode cX10_isRead 112 = .ok (.iconst 0, 1) := by decide +kernel
theorem dX10_isRead_113 : decode cX10_isRead 113 = .ok (.ireturn, 1) := by decide +kernel
theorem dX10_add_0 : decode cX10_add 0 = .ok (.aload_n 0, 1) := by decide +kernel
theorem dX10_add_1 : decode cX10_add 1 = .ok (.getfield 20, 3) := by decide +kernel
theorem dX10_add_4 : decode cX10_add 4 = .ok (.iconst 4, 1) := by decide +kernel
theorem dX10_add_5 : decode cX10_add 5 = .ok (.aload_n 0, 1) := by decide +kernel
theorem dX10_add_6 : decode cX10_add 6 = .ok (.getfield 54, 3) := by decide +kernel
theorem dX10_add_9 : decode cX10_add 9 = .ok (.imul, 1) := by decide +kernel
theorem dX10_add_10 : decode cX10_add 10 = .ok (.iload_n 1, 1) := by decide +kernel
theorem dX10_add_11 : decode cX10_add 11 = .ok (.iastore, 1) := by decide +kernel
theorem dX10_add_12 : decode cX10_add 12 = .ok (.aload_n 0, 1) := by decide +kernel
theorem dX10_add_13 : decode cX10_add 13 = .ok (.getfield 20, 3) := by decide +kernel
theorem dX10_add_16 : decode cX10_add 16 = .ok (.iconst 4, 1) := by decide +kernel
theorem dX10_add_17 : decode cX10_add 17 = .ok (.aload_n 0, 1) := by decide +kernel
theorem dX10_add_18 : decode cX10_add 18 = .ok (.getfield 54, 3) := by decide +kernel
theorem dX10_add_21 : decode cX10_add 21 = .ok (.imul, 1) := by decide +kernel
theorem dX10_add_22 : decode cX10_add 22 = .ok (.iconst 1, 1) := by decide +kernel
theorem dX10_add_23 : decode cX10_add 23 = .ok (.iadd, 1) := by decide +kernel
theorem dX10_add_24 : decode cX10_add 24 = .ok (.iload_n 2, 1) := by decide +kernel
theorem dX10_add_25 : decode cX10_add 25 = .ok (.iastore, 1) := by decide +kernel
theorem dX10_add_26 : decode cX10_add 26 = .ok (.aload_n 0, 1) := by decide +kernel
theorem dX10_add_27 : decode cX10_add 27 = .ok (.getfield 20, 3) := by decide +kernel
theorem dX10_add_30 : decode cX10_add 30 = .ok (.iconst 4, 1) := by decide +kernel
theorem dX10_add_31 : decode cX10_add 31 = .ok (.aload_n 0, 1) := by decide +kernel
theorem dX10_add_32 : decode cX10_add 32 = .ok (.getfield 54, 3) := by decide +kernel
theorem dX10_add_35 : decode cX10_add 35 = .ok (.imul, 1) := by decide +kernel
theorem dX10_add_36 : decode cX10_add 36 = .ok (.iconst 2, 1) := by decide +kernel
theorem dX10_add_37 : decode cX10_add 37 = .ok (.iadd, 1) := by decide +kernel
theorem dX10_add_38 : decode cX10_add 38 = .ok (.iload_n 3, 1) := by decide +kernel
theorem dX10_add_39 : decode cX10_add 39 = .ok (.iastore, 1) := by decide +kernel
theorem dX10_add_40 : decode cX10_add 40 = .ok (.aload_n 0, 1) := by decide +kernel
theorem dX10_add_41 : decode cX10_add 41 = .ok (.getfield 20, 3) := by decide +kernel
theorem dX10_add_44 : decode cX10_add 44 = .ok (.iconst 4, 1) := by decide +kernel
theorem dX10_add_45 : decode cX10_add 45 = .ok (.aload_n 0, 1) := by decide +kernel
theorem dX10_add_46 : decode cX10_add 46 = .ok (.getfield 54, 3) := by decide +kernel
theorem dX10_add_49 : decode cX10_add 49 = .ok (.imul, 1) := by decide +kernel
theorem dX10_add_50 : decode cX10_add 50 = .ok (.iconst 3, 1) := by decide +kernel
theorem dX10_add_51 : decode cX10_add 51 = .ok (.iadd, 1) := by decide +kernel
theorem dX10_add_52 : decode cX10_add 52 = .ok (.iconst 0, 1) := by decide +kernel
theorem dX10_add_53 : decode cX10_add 53 = .ok (.iastore, 1) := by decide +kernel
theorem dX10_add_54 : decode cX10_add 54 = .ok (.aload_n 0, 1) := by decide +kernel
theorem dX10_add_55 : decode cX10_add 55 = .ok (.dup, 1) := by decide +kernel
theorem dX10_add_56 : decode cX10_add 56 = .ok (.getfield 54, 3) := by decide +kernel
theorem dX10_add_59 : decode cX10_add 59 = .ok (.iconst 1, 1) := by decide +kernel
theorem dX10_add_60 : decode cX10_add 60 = .ok (.iadd, 1) := by decide +kernel
theorem dX10_add_61 : decode cX10_add 61 = .ok (.putfield 54, 3) := by decide +kernel
theorem dX10_add_64 : decode cX10_add 64 = .ok (.return_, 1) := by decide +kernel
theorem dX10_land_0 : decode cX10_land 0 = .ok (.aload_n 0, 1) := by decide +kernel
theorem dX10_land_1 : decode cX10_land 1 = .ok (.invokevirtual 155, 3) := by decide +kernel
theorem dX10_land_4 : decode cX10_land 4 = .ok (.ifCond .ne 6, 3) := by decide +kernel
theorem dX10_land_7 : decode cX10_land 7 = .ok (.bipush (-4), 2) := by decide +kernel
theorem dX10_land_9 : decode cX10_land 9 = .ok (.ireturn, 1) := by decide +kernel
theorem dX10_land_10 : decode cX10_land 10 = .ok (.iconst 0, 1) := by decide +kernel
theorem dX10_land_11 : decode cX10_land 11 = .ok (.istore_n 1, 1) := by decide +kernel
theorem dX10_land_12 : decode cX10_land 12 = .ok (.iload_n 1, 1) := by decide +kernel
theorem dX10_land_13 : decode cX10_land 13 = .ok (.aload_n 0, 1) := by decide +kernel
theorem dX10_land_14 : decode cX10_land 14 = .ok (.getfield 149, 3) := by decide +kernel
theorem dX10_land_17 : decode cX10_land 17 = .ok (.if_icmp .ge 16, 3) := by decide +kernel
theorem dX10_land_20 : decode cX10_land 20 = .ok (.aload_n 0, 1) := by decide +kernel
theorem dX10_land_21 : decode cX10_land 21 = .ok (.iconst 4, 1) := by decide +kernel
theorem dX10_land_22 : decode cX10_land 22 = .ok (.iload_n 1, 1) := by decide +kernel
theorem dX10_land_23 : decode cX10_land 23 = .ok (.imul, 1) := by decide +kernel
theorem dX10_land_24 : decode cX10_land 24 = .ok (.invokevirtual 162, 3) := by decide +kernel
theorem dX10_land_27 : decode cX10_land 27 = .ok (.iinc 1 1, 3) := by decide +kernel
theorem dX10_land_30 : decode cX10_land 30 = .ok (.goto (-18), 3) := by decide +kernel
theorem dX10_land_33 : decode cX10_land 33 = .ok (.aload_n 0, 1) := by decide +kernel
theorem dX10_land_34 : decode cX10_land 34 = .ok (.iconst 0, 1) := by decide +kernel
theorem dX10_land_35 : decode cX10_land 35 = .ok (.putfield 65, 3) := by decide +kernel
theorem dX10_land_38 : decode cX10_land 38 = .ok (.aload_n 0, 1) := by decide +kernel
theorem dX10_land_39 : decode cX10_land 39 = .ok (.getfield 44, 3) := by decide +kernel
theorem dX10_land_42 : decode cX10_land 42 = .ok (.iconst 0, 1) := by decide +kernel
theorem dX10_land_43 : decode cX10_land 43 = .ok (.iconst 0, 1) := by decide +kernel
theorem dX10_land_44 : decode cX10_land 44 = .ok (.bastore, 1) := by decide +kernel
theorem dX10_land_45 : decode cX10_land 45 = .ok (.aload_n 0, 1) := by decide +kernel
theorem dX10_land_46 : decode cX10_land 46 = .ok (.getfield 44, 3) := by decide +kernel
theorem dX10_land_49 : decode cX10_land 49 = .ok (.iconst 1, 1) := by decide +kernel
theorem dX10_land_50 : decode cX10_land 50 = .ok (.iconst 0, 1) := by decide +kernel
theorem dX10_land_51 : decode cX10_land 51 = .ok (.bastore, 1) := by decide +kernel
theorem dX10_land_52 : decode cX10_land 52 = .ok (.aload_n 0, 1) := by decide +kernel
theorem dX10_land_53 : decode cX10_land 53 = .ok (.getfield 149, 3) := by decide +kernel
theorem dX10_land_56 : decode cX10_land 56 = .ok (.ireturn, 1) := by decide +kernel
theorem dX10_isElder_0 : decode cX10_isElder 0 = .ok (.aload_n 0, 1) := by decide +kernel
theorem dX10_isElder_1 : decode cX10_isElder 1 = .ok (.getfield 20, 3) := by decide +kernel
theorem dX10_isElder_4 : decode cX10_isElder 4 = .ok (.iconst 4, 1) := by decide +kernel
theorem dX10_isElder_5 : decode cX10_isElder 5 = .ok (.iload_n 1, 1) := by decide +kernel
theorem dX10_isElder_6 : decode cX10_isElder 6 = .ok (.imul, 1) := by decide +kernel
theorem dX10_isElder_7 : decode cX10_isElder 7 = .ok (.iconst 2, 1) := by decide +kernel
theorem dX10_isElder_8 : decode cX10_isElder 8 = .ok (.iadd, 1) := by decide +kernel
theorem dX10_isElder_9 : decode cX10_isElder 9 = .ok (.iaload, 1) := by decide +kernel
theorem dX10_isElder_10 : decode cX10_isElder 10 = .ok (.aload_n 0, 1) := by decide +kernel
theorem dX10_isElder_11 : decode cX10_isElder 11 = .ok (.getfield 20, 3) := by decide +kernel
theorem dX10_isElder_14 : decode cX10_isElder 14 = .ok (.iconst 4, 1) := by decide +kernel
theorem dX10_isElder_15 : decode cX10_isElder 15 = .ok (.iload_n 2, 1) := by decide +kernel
theorem dX10_isElder_16 : decode cX10_isElder 16 = .ok (.imul, 1) := by decide +kernel
theorem dX10_isElder_17 : decode cX10_isElder 17 = .ok (.iconst 2, 1) := by decide +kernel
theorem dX10_isElder_18 : decode cX10_isElder 18 = .ok (.iadd, 1) := by decide +kernel
theorem dX10_isElder_19 : decode cX10_isElder 19 = .ok (.iaload, 1) := by decide +kernel
theorem dX10_isElder_20 : decode cX10_isElder 20 = .ok (.if_icmp .lt 31, 3) := by decide +kernel
theorem dX10_isElder_23 : decode cX10_isElder 23 = .ok (.aload_n 0, 1) := by decide +kernel
theorem dX10_isElder_24 : decode cX10_isElder 24 = .ok (.getfield 20, 3) := by decide +kernel
theorem dX10_isElder_27 : decode cX10_isElder 27 = .ok (.iconst 4, 1) := by decide +kernel
theorem dX10_isElder_28 : decode cX10_isElder 28 = .ok (.iload_n 1, 1) := by decide +kernel
theorem dX10_isElder_29 : decode cX10_isElder 29 = .ok (.imul, 1) := by decide +kernel
theorem dX10_isElder_30 : decode cX10_isElder 30 = .ok (.iconst 2, 1) := by decide +kernel
theorem dX10_isElder_31 : decode cX10_isElder 31 = .ok (.iadd, 1) := by decide +kernel
theorem dX10_isElder_32 : decode cX10_isElder 32 = .ok (.iaload, 1) := by decide +kernel
theorem dX10_isElder_33 : decode cX10_isElder 33 = .ok (.aload_n 0, 1) := by decide +kernel
theorem dX10_isElder_34 : decode cX10_isElder 34 = .ok (.getfield 20, 3) := by decide +kernel
theorem dX10_isElder_37 : decode cX10_isElder 37 = .ok (.iconst 4, 1) := by decide +kernel
theorem dX10_isElder_38 : decode cX10_isElder 38 = .ok (.iload_n 2, 1) := by decide +kernel
theorem dX10_isElder_39 : decode cX10_isElder 39 = .ok (.imul, 1) := by decide +kernel
theorem dX10_isElder_40 : decode cX10_isElder 40 = .ok (.iconst 2, 1) := by decide +kernel
theorem dX10_isElder_41 : decode cX10_isElder 41 = .ok (.iadd, 1) := by decide +kernel
theorem dX10_isElder_42 : decode cX10_isElder 42 = .ok (.iaload, 1) := by decide +kernel
theorem dX10_isElder_43 : decode cX10_isElder 43 = .ok (.if_icmp .ne 12, 3) := by decide +kernel
theorem dX10_isElder_46 : decode cX10_isElder 46 = .ok (.iload_n 1, 1) := by decide +kernel
theorem dX10_isElder_47 : decode cX10_isElder 47 = .ok (.iload_n 2, 1) := by decide +kernel
theorem dX10_isElder_48 : decode cX10_isElder 48 = .ok (.if_icmp .ge 7, 3) := by decide +kernel
theorem dX10_isElder_51 : decode cX10_isElder 51 = .ok (.iconst 1, 1) := by decide +kernel
theorem dX10_isElder_52 : decode cX10_isElder 52 = .ok (.goto 4, 3) := by decide +kernel
theorem dX10_isElder_55 : decode cX10_isElder 55 = .ok (.iconst 0, 1) := by decide +kernel
theorem dX10_isElder_56 : decode cX10_isElder 56 = .ok (.ireturn, 1) := by decide +kernel
theorem dX10_older_0 : decode cX10_older 0 = .ok (.aload_n 0, 1) := by decide +kernel
theorem dX10_older_1 : decode cX10_older 1 = .ok (.iload_n 1, 1) := by decide +kernel
theorem dX10_older_2 : decode cX10_older 2 = .ok (.invokevirtual 166, 3) := by decide +kernel
theorem dX10_older_5 : decode cX10_older 5 = .ok (.ifCond .ne 6, 3) := by decide +kernel
theorem dX10_older_8 : decode cX10_older 8 = .ok (.bipush (-2), 2) := by decide +kernel
theorem dX10_older_10 : decode cX10_older 10 = .ok (.ireturn, 1) := by decide +kernel
theorem dX10_older_11 : decode cX10_older 11 = .ok (.iconst 0, 1) := by decide +kernel
theorem dX10_older_12 : decode cX10_older 12 = .ok (.istore_n 3, 1) := by decide +kernel
theorem dX10_older_13 : decode cX10_older 13 = .ok (.iconst 0, 1) := by decide +kernel
theorem dX10_older_14 : decode cX10_older 14 = .ok (.istore 4, 2) := by decide +kernel
theorem dX10_older_16 : decode cX10_older 16 = .ok (.iload 4, 2) := by decide +kernel
theorem dX10_older_18 : decode cX10_older 18 = .ok (.aload_n 0, 1) := by decide +kernel
theorem dX10_older_19 : decode cX10_older 19 = .ok (.getfield 54, 3) := by decide +kernel
theorem dX10_older_22 : decode cX10_older 22 = .ok (.if_icmp .ge 33, 3) := by decide +kernel
theorem dX10_older_25 : decode cX10_older 25 = .ok (.iload_n 3, 1) := by decide +kernel
theorem dX10_older_26 : decode cX10_older 26 = .ok (.iload 4, 2) := by decide +kernel
theorem dX10_older_28 : decode cX10_older 28 = .ok (.iload_n 1, 1) := by decide +kernel
theorem dX10_older_29 : decode cX10_older 29 = .ok (.if_icmp .eq 17, 3) := by decide +kernel
theorem dX10_older_32 : decode cX10_older 32 = .ok (.aload_n 0, 1) := by decide +kernel
theorem dX10_older_33 : decode cX10_older 33 = .ok (.iload 4, 2) := by decide +kernel
theorem dX10_older_35 : decode cX10_older 35 = .ok (.iload_n 1, 1) := by decide +kernel
theorem dX10_older_36 : decode cX10_older 36 = .ok (.invokevirtual 169, 3) := by decide +kernel
theorem dX10_older_39 : decode cX10_older 39 = .ok (.ifCond .eq 7, 3) := by decide +kernel
theorem dX10_older_42 : decode cX10_older 42 = .ok (.iconst 1, 1) := by decide +kernel
theorem dX10_older_43 : decode cX10_older 43 = .ok (.goto 4, 3) := by decide +kernel
theorem dX10_older_46 : decode cX10_older 46 = .ok (.iconst 0, 1) := by decide +kernel
theorem dX10_older_47 : decode cX10_older 47 = .ok (.iadd, 1) := by decide +kernel
theorem dX10_older_48 : decode cX10_older 48 = .ok (.istore_n 3, 1) := by decide +kernel
theorem dX10_older_49 : decode cX10_older 49 = .ok (.iinc 4 1, 3) := by decide +kernel
theorem dX10_older_52 : decode cX10_older 52 = .ok (.goto (-36), 3) := by decide +kernel
theorem dX10_older_55 : decode cX10_older 55 = .ok (.iload_n 2, 1) := by decide +kernel
theorem dX10_older_56 : decode cX10_older 56 = .ok (.tableswitch 55 0 4 #[36, 47, 36, 36, 53], 36) := by decide +kernel
theorem dX10_older_92 : decode cX10_older 92 = .ok (.aload_n 0, 1) := by decide +kernel
theorem dX10_older_93 : decode cX10_older 93 = .ok (.getfield 20, 3) := by decide +kernel
theorem dX10_older_96 : decode cX10_older 96 = .ok (.iconst 4, 1) := by decide +kernel
theorem dX10_older_97 : decode cX10_older 97 = .ok (.iload_n 1, 1) := by decide +kernel
theorem dX10_older_98 : decode cX10_older 98 = .ok (.imul, 1) := by decide +kernel
theorem dX10_older_99 : decode cX10_older 99 = .ok (.iload_n 2, 1) := by decide +kernel
theorem dX10_older_100 : decode cX10_older 100 = .ok (.iadd, 1) := by decide +kernel
theorem dX10_older_101 : decode cX10_older 101 = .ok (.iaload, 1) := by decide +kernel
theorem dX10_older_102 : decode cX10_older 102 = .ok (.ireturn, 1) := by decide +kernel
theorem dX10_older_103 : decode cX10_older 103 = .ok (.aload_n 0, 1) := by decide +kernel
theorem dX10_older_104 : decode cX10_older 104 = .ok (.iload_n 1, 1) := by decide +kernel
theorem dX10_older_105 : decode cX10_older 105 = .ok (.invokevirtual 173, 3) := by decide +kernel
theorem dX10_older_108 : decode cX10_older 108 = .ok (.ireturn, 1) := by decide +kernel
theorem dX10_older_109 : decode cX10_older 109 = .ok (.iload_n 3, 1) := by decide +kernel
theorem dX10_older_110 : decode cX10_older 110 = .ok (.ireturn, 1) := by decide +kernel
theorem dX10_older_111 : decode cX10_older 111 = .ok (.bipush (-3), 2) := by decide +kernel
theorem dX10_older_113 : decode cX10_older 113 = .ok (.ireturn, 1) := by decide +kernel
theorem dX10_caseOf_0 : decode cX10_caseOf 0 = .ok (.iconst (-1), 1) := by decide +kernel
theorem dX10_caseOf_1 : decode cX10_caseOf 1 = .ok (.istore_n 3, 1) := by decide +kernel
theorem dX10_caseOf_2 : decode cX10_caseOf 2 = .ok (.iconst 0, 1) := by decide +kernel
theorem dX10_caseOf_3 : decode cX10_caseOf 3 = .ok (.istore 4, 2) := by decide +kernel
theorem dX10_caseOf_5 : decode cX10_caseOf 5 = .ok (.iconst 0, 1) := by decide +kernel
theorem dX10_caseOf_6 : decode cX10_caseOf 6 = .ok (.istore 5, 2) := by decide +kernel
theorem dX10_caseOf_8 : decode cX10_caseOf 8 = .ok (.iload 5, 2) := by decide +kernel
theorem dX10_caseOf_10 : decode cX10_caseOf 10 = .ok (.aload_n 0, 1) := by decide +kernel
theorem dX10_caseOf_11 : decode cX10_caseOf 11 = .ok (.getfield 54, 3) := by decide +kernel
theorem dX10_caseOf_14 : decode cX10_caseOf 14 = .ok (.if_icmp .ge 96, 3) := by decide +kernel
theorem dX10_caseOf_17 : decode cX10_caseOf 17 = .ok (.iload_n 2, 1) := by decide +kernel
theorem dX10_caseOf_18 : decode cX10_caseOf 18 = .ok (.iload 5, 2) := by decide +kernel
theorem dX10_caseOf_20 : decode cX10_caseOf 20 = .ok (.invokestatic 177, 3) := by decide +kernel
theorem dX10_caseOf_23 : decode cX10_caseOf 23 = .ok (.ifCond .eq 81, 3) := by decide +kernel
theorem dX10_caseOf_26 : decode cX10_caseOf 26 = .ok (.aload_n 0, 1) := by decide +kernel
theorem dX10_caseOf_27 : decode cX10_caseOf 27 = .ok (.iload_n 1, 1) := by decide +kernel
theorem dX10_caseOf_28 : decode cX10_caseOf 28 = .ok (.aload_n 0, 1) := by decide +kernel
theorem dX10_caseOf_29 : decode cX10_caseOf 29 = .ok (.getfield 20, 3) := by decide +kernel
theorem dX10_caseOf_32 : decode cX10_caseOf 32 = .ok (.iconst 4, 1) := by decide +kernel
theorem dX10_caseOf_33 : decode cX10_caseOf 33 = .ok (.iload 5, 2) := by decide +kernel
theorem dX10_caseOf_35 : decode cX10_caseOf 35 = .ok (.imul, 1) := by decide +kernel
theorem dX10_caseOf_36 : decode cX10_caseOf 36 = .ok (.iaload, 1) := by decide +kernel
theorem dX10_caseOf_37 : decode cX10_caseOf 37 = .ok (.invokevirtual 180, 3) := by decide +kernel
theorem dX10_caseOf_40 : decode cX10_caseOf 40 = .ok (.istore 6, 2) := by decide +kernel
theorem dX10_caseOf_42 : decode cX10_caseOf 42 = .ok (.iload_n 3, 1) := by decide +kernel
theorem dX10_caseOf_43 : decode cX10_caseOf 43 = .ok (.iconst (-1), 1) := by decide +kernel
theorem dX10_caseOf_44 : decode cX10_caseOf 44 = .ok (.if_icmp .eq 27, 3) := by decide +kernel
theorem dX10_caseOf_47 : decode cX10_caseOf 47 = .ok (.iload 6, 2) := by decide +kernel
theorem dX10_caseOf_49 : decode cX10_caseOf 49 = .ok (.iload 4, 2) := by decide +kernel
theorem dX10_caseOf_51 : decode cX10_caseOf 51 = .ok (.if_icmp .gt 20, 3) := by decide +kernel
theorem dX10_caseOf_54 : decode cX10_caseOf 54 = .ok (.iload 6, 2) := by decide +kernel
theorem dX10_caseOf_56 : decode cX10_caseOf 56 = .ok (.iload 4, 2) := by decide +kernel
theorem dX10_caseOf_58 : decode cX10_caseOf 58 = .ok (.if_icmp .ne 17, 3) := by decide +kernel
theorem dX10_caseOf_61 : decode cX10_caseOf 61 = .ok (.aload_n 0, 1) := by decide +kernel
theorem dX10_caseOf_62 : decode cX10_caseOf 62 = .ok (.iload 5, 2) := by decide +kernel
theorem dX10_caseOf_64 : decode cX10_caseOf 64 = .ok (.iload_n 3, 1) := by decide +kernel
theorem dX10_caseOf_65 : decode cX10_caseOf 65 = .ok (.invokevirtual 169, 3) := by decide +kernel
theorem dX10_caseOf_68 : decode cX10_caseOf 68 = .ok (.ifCond .eq 7, 3) := by decide +kernel
theorem dX10_caseOf_71 : decode cX10_caseOf 71 = .ok (.iconst 1, 1) := by decide +kernel
theorem dX10_caseOf_72 : decode cX10_caseOf 72 = .ok (.goto 4, 3) := by decide +kernel
theorem dX10_caseOf_75 : decode cX10_caseOf 75 = .ok (.iconst 0, 1) := by decide +kernel
theorem dX10_caseOf_76 : decode cX10_caseOf 76 = .ok (.istore 7, 2) := by decide +kernel
theorem dX10_caseOf_78 : decode cX10_caseOf 78 = .ok (.iload 7, 2) := by decide +kernel
theorem dX10_caseOf_80 : decode cX10_caseOf 80 = .ok (.ifCond .eq 8, 3) := by decide +kernel
theorem dX10_caseOf_83 : decode cX10_caseOf 83 = .ok (.iload 5, 2) := by decide +kernel
theorem dX10_caseOf_85 : decode cX10_caseOf 85 = .ok (.goto 4, 3) := by decide +kernel
theorem dX10_caseOf_88 : decode cX10_caseOf 88 = .ok (.iload_n 3, 1) := by decide +kernel
theorem dX10_caseOf_89 : decode cX10_caseOf 89 = .ok (.istore_n 3, 1) := by decide +kernel
theorem dX10_caseOf_90 : decode cX10_caseOf 90 = .ok (.iload 7, 2) := by decide +kernel
theorem dX10_caseOf_92 : decode cX10_caseOf 92 = .ok (.ifCond .eq 8, 3) := by decide +kernel
theorem dX10_caseOf_95 : decode cX10_caseOf 95 = .ok (.iload 6, 2) := by decide +kernel
theorem dX10_caseOf_97 : decode cX10_caseOf 97 = .ok (.goto 5, 3) := by decide +kernel
theorem dX10_caseOf_100 : decode cX10_caseOf 100 = .ok (.iload 4, 2) := by decide +kernel
theorem dX10_caseOf_102 : decode cX10_caseOf 102 = .ok (.istore 4, 2) := by decide +kernel
theorem dX10_caseOf_104 : decode cX10_caseOf 104 = .ok (.iinc 5 1, 3) := by decide +kernel
theorem dX10_caseOf_107 : decode cX10_caseOf 107 = .ok (.goto (-99), 3) := by decide +kernel
theorem dX10_caseOf_110 : decode cX10_caseOf 110 = .ok (.iload_n 3, 1) := by decide +kernel
theorem dX10_caseOf_111 : decode cX10_caseOf 111 = .ok (.ireturn, 1) := by decide +kernel
theorem dX10_judgmentAt_0 : decode cX10_judgmentAt 0 = .ok (.aload_n 0, 1) := by decide +kernel
theorem dX10_judgmentAt_1 : decode cX10_judgmentAt 1 = .ok (.iload_n 1, 1) := by decide +kernel
theorem dX10_judgmentAt_2 : decode cX10_judgmentAt 2 = .ok (.aload_n 0, 1) := by decide +kernel
theorem dX10_judgmentAt_3 : decode cX10_judgmentAt 3 = .ok (.invokevirtual 184, 3) := by decide +kernel
theorem dX10_judgmentAt_6 : decode cX10_judgmentAt 6 = .ok (.invokevirtual 187, 3) := by decide +kernel
theorem dX10_judgmentAt_9 : decode cX10_judgmentAt 9 = .ok (.istore_n 2, 1) := by decide +kernel
theorem dX10_judgmentAt_10 : decode cX10_judgmentAt 10 = .ok (.iload_n 2, 1) := by decide +kernel
theorem dX10_judgmentAt_11 : decode cX10_judgmentAt 11 = .ok (.iconst (-1), 1) := by decide +kernel
theorem dX10_judgmentAt_12 : decode cX10_judgmentAt 12 = .ok (.if_icmp .ne 7, 3) := by decide +kernel
theorem dX10_judgmentAt_15 : decode cX10_judgmentAt 15 = .ok (.iconst (-1), 1) := by decide +kernel
theorem dX10_judgmentAt_16 : decode cX10_judgmentAt 16 = .ok (.goto 8, 3) := by decide +kernel
theorem dX10_judgmentAt_19 : decode cX10_judgmentAt 19 = .ok (.aload_n 0, 1) := by decide +kernel
theorem dX10_judgmentAt_20 : decode cX10_judgmentAt 20 = .ok (.iload_n 2, 1) := by decide +kernel
theorem dX10_judgmentAt_21 : decode cX10_judgmentAt 21 = .ok (.invokevirtual 173, 3) := by decide +kernel
theorem dX10_judgmentAt_24 : decode cX10_judgmentAt 24 = .ok (.ireturn, 1) := by decide +kernel
theorem dX10_like_0 : decode cX10_like 0 = .ok (.aload_n 0, 1) := by decide +kernel
theorem dX10_like_1 : decode cX10_like 1 = .ok (.iload_n 2, 1) := by decide +kernel
theorem dX10_like_2 : decode cX10_like 2 = .ok (.invokevirtual 166, 3) := by decide +kernel
theorem dX10_like_5 : decode cX10_like 5 = .ok (.ifCond .ne 6, 3) := by decide +kernel
theorem dX10_like_8 : decode cX10_like 8 = .ok (.bipush (-2), 2) := by decide +kernel
theorem dX10_like_10 : decode cX10_like 10 = .ok (.ireturn, 1) := by decide +kernel
theorem dX10_like_11 : decode cX10_like 11 = .ok (.aload_n 0, 1) := by decide +kernel
theorem dX10_like_12 : decode cX10_like 12 = .ok (.iload_n 1, 1) := by decide +kernel
theorem dX10_like_13 : decode cX10_like 13 = .ok (.invokevirtual 190, 3) := by decide +kernel
theorem dX10_like_16 : decode cX10_like 16 = .ok (.ifCond .eq 19, 3) := by decide +kernel
theorem dX10_like_19 : decode cX10_like 19 = .ok (.aload_n 0, 1) := by decide +kernel
theorem dX10_like_20 : decode cX10_like 20 = .ok (.iload_n 1, 1) := by decide +kernel
theorem dX10_like_21 : decode cX10_like 21 = .ok (.aload_n 0, 1) := by decide +kernel
theorem dX10_like_22 : decode cX10_like 22 = .ok (.getfield 20, 3) := by decide +kernel
theorem dX10_like_25 : decode cX10_like 25 = .ok (.iconst 4, 1) := by decide +kernel
theorem dX10_like_26 : decode cX10_like 26 = .ok (.iload_n 2, 1) := by decide +kernel
theorem dX10_like_27 : decode cX10_like 27 = .ok (.imul, 1) := by decide +kernel
theorem dX10_like_28 : decode cX10_like 28 = .ok (.iaload, 1) := by decide +kernel
theorem dX10_like_29 : decode cX10_like 29 = .ok (.invokevirtual 180, 3) := by decide +kernel
theorem dX10_like_32 : decode cX10_like 32 = .ok (.goto 5, 3) := by decide +kernel
theorem dX10_like_35 : decode cX10_like 35 = .ok (.bipush (-3), 2) := by decide +kernel
theorem dX10_like_37 : decode cX10_like 37 = .ok (.ireturn, 1) := by decide +kernel
theorem dX10_pardon_0 : decode cX10_pardon 0 = .ok (.aload_n 0, 1) := by decide +kernel
theorem dX10_pardon_1 : decode cX10_pardon 1 = .ok (.iload_n 1, 1) := by decide +kernel
theorem dX10_pardon_2 : decode cX10_pardon 2 = .ok (.invokevirtual 166, 3) := by decide +kernel
theorem dX10_pardon_5 : decode cX10_pardon 5 = .ok (.ifCond .ne 6, 3) := by decide +kernel
theorem dX10_pardon_8 : decode cX10_pardon 8 = .ok (.bipush (-2), 2) := by decide +kernel
theorem dX10_pardon_10 : decode cX10_pardon 10 = .ok (.ireturn, 1) := by decide +kernel
theorem dX10_pardon_11 : decode cX10_pardon 11 = .ok (.aload_n 0, 1) := by decide +kernel
theorem dX10_pardon_12 : decode cX10_pardon 12 = .ok (.getfield 20, 3) := by decide +kernel
theorem dX10_pardon_15 : decode cX10_pardon 15 = .ok (.iconst 4, 1) := by decide +kernel
theorem dX10_pardon_16 : decode cX10_pardon 16 = .ok (.iload_n 1, 1) := by decide +kernel
theorem dX10_pardon_17 : decode cX10_pardon 17 = .ok (.imul, 1) := by decide +kernel
theorem dX10_pardon_18 : decode cX10_pardon 18 = .ok (.iconst 3, 1) := by decide +kernel
theorem dX10_pardon_19 : decode cX10_pardon 19 = .ok (.iadd, 1) := by decide +kernel
theorem dX10_pardon_20 : decode cX10_pardon 20 = .ok (.iload_n 2, 1) := by decide +kernel
theorem dX10_pardon_21 : decode cX10_pardon 21 = .ok (.ifCond .eq 7, 3) := by decide +kernel
theorem dX10_pardon_24 : decode cX10_pardon 24 = .ok (.iconst 1, 1) := by decide +kernel
theorem dX10_pardon_25 : decode cX10_pardon 25 = .ok (.goto 4, 3) := by decide +kernel
theorem dX10_pardon_28 : decode cX10_pardon 28 = .ok (.iconst 0, 1) := by decide +kernel
theorem dX10_pardon_29 : decode cX10_pardon 29 = .ok (.iastore, 1) := by decide +kernel
theorem dX10_pardon_30 : decode cX10_pardon 30 = .ok (.aload_n 0, 1) := by decide +kernel
theorem dX10_pardon_31 : decode cX10_pardon 31 = .ok (.iload_n 1, 1) := by decide +kernel
theorem dX10_pardon_32 : decode cX10_pardon 32 = .ok (.invokevirtual 173, 3) := by decide +kernel
theorem dX10_pardon_35 : decode cX10_pardon 35 = .ok (.ireturn, 1) := by decide +kernel
theorem dX10_deeds_0 : decode cX10_deeds 0 = .ok (.iload_n 2, 1) := by decide +kernel
theorem dX10_deeds_1 : decode cX10_deeds 1 = .ok (.iconst (-1), 1) := by decide +kernel
theorem dX10_deeds_2 : decode cX10_deeds 2 = .ok (.if_icmp .eq 14, 3) := by decide +kernel
theorem dX10_deeds_5 : decode cX10_deeds 5 = .ok (.aload_n 0, 1) := by decide +kernel
theorem dX10_deeds_6 : decode cX10_deeds 6 = .ok (.iload_n 2, 1) := by decide +kernel
theorem dX10_deeds_7 : decode cX10_deeds 7 = .ok (.invokevirtual 166, 3) := by decide +kernel
theorem dX10_deeds_10 : decode cX10_deeds 10 = .ok (.ifCond .ne 6, 3) := by decide +kernel
theorem dX10_deeds_13 : decode cX10_deeds 13 = .ok (.bipush (-2), 2) := by decide +kernel
theorem dX10_deeds_15 : decode cX10_deeds 15 = .ok (.ireturn, 1) := by decide +kernel
theorem dX10_deeds_16 : decode cX10_deeds 16 = .ok (.iload_n 1, 1) := by decide +kernel
theorem dX10_deeds_17 : decode cX10_deeds 17 = .ok (.invokestatic 196, 3) := by decide +kernel
theorem dX10_deeds_20 : decode cX10_deeds 20 = .ok (.ifCond .ne 6, 3) := by decide +kernel
theorem dX10_deeds_23 : decode cX10_deeds 23 = .ok (.bipush (-3), 2) := by decide +kernel
theorem dX10_deeds_25 : decode cX10_deeds 25 = .ok (.ireturn, 1) := by decide +kernel
theorem dX10_deeds_26 : decode cX10_deeds 26 = .ok (.iconst 0, 1) := by decide +kernel
theorem dX10_deeds_27 : decode cX10_deeds 27 = .ok (.istore_n 3, 1) := by decide +kernel
theorem dX10_deeds_28 : decode cX10_deeds 28 = .ok (.iconst 0, 1) := by decide +kernel
theorem dX10_deeds_29 : decode cX10_deeds 29 = .ok (.istore 4, 2) := by decide +kernel
theorem dX10_deeds_31 : decode cX10_deeds 31 = .ok (.iload 4, 2) := by decide +kernel
theorem dX10_deeds_33 : decode cX10_deeds 33 = .ok (.aload_n 0, 1) := by decide +kernel
theorem dX10_deeds_34 : decode cX10_deeds 34 = .ok (.invokevirtual 57, 3) := by decide +kernel
theorem dX10_deeds_37 : decode cX10_deeds 37 = .ok (.if_icmp .ge 56, 3) := by decide +kernel
theorem dX10_deeds_40 : decode cX10_deeds 40 = .ok (.aload_n 0, 1) := by decide +kernel
theorem dX10_deeds_41 : decode cX10_deeds 41 = .ok (.iload 4, 2) := by decide +kernel
theorem dX10_deeds_43 : decode cX10_deeds 43 = .ok (.aload_n 0, 1) := by decide +kernel
theorem dX10_deeds_44 : decode cX10_deeds 44 = .ok (.invokevirtual 184, 3) := by decide +kernel
theorem dX10_deeds_47 : decode cX10_deeds 47 = .ok (.invokevirtual 187, 3) := by decide +kernel
theorem dX10_deeds_50 : decode cX10_deeds 50 = .ok (.istore 5, 2) := by decide +kernel
theorem dX10_deeds_52 : decode cX10_deeds 52 = .ok (.iload_n 3, 1) := by decide +kernel
theorem dX10_deeds_53 : decode cX10_deeds 53 = .ok (.iload 5, 2) := by decide +kernel
theorem dX10_deeds_55 : decode cX10_deeds 55 = .ok (.iconst (-1), 1) := by decide +kernel
theorem dX10_deeds_56 : decode cX10_deeds 56 = .ok (.if_icmp .eq 28, 3) := by decide +kernel
theorem dX10_deeds_59 : decode cX10_deeds 59 = .ok (.aload_n 0, 1) := by decide +kernel
theorem dX10_deeds_60 : decode cX10_deeds 60 = .ok (.iload 5, 2) := by decide +kernel
theorem dX10_deeds_62 : decode cX10_deeds 62 = .ok (.invokevirtual 173, 3) := by decide +kernel
theorem dX10_deeds_65 : decode cX10_deeds 65 = .ok (.iload_n 1, 1) := by decide +kernel
theorem dX10_deeds_66 : decode cX10_deeds 66 = .ok (.if_icmp .ne 18, 3) := by decide +kernel
theorem dX10_deeds_69 : decode cX10_deeds 69 = .ok (.iload_n 2, 1) := by decide +kernel
theorem dX10_deeds_70 : decode cX10_deeds 70 = .ok (.iconst (-1), 1) := by decide +kernel
theorem dX10_deeds_71 : decode cX10_deeds 71 = .ok (.if_icmp .eq 9, 3) := by decide +kernel
theorem dX10_deeds_74 : decode cX10_deeds 74 = .ok (.iload_n 2, 1) := by decide +kernel
theorem dX10_deeds_75 : decode cX10_deeds 75 = .ok (.iload 5, 2) := by decide +kernel
theorem dX10_deeds_77 : decode cX10_deeds 77 = .ok (.if_icmp .ne 7, 3) := by decide +kernel
theorem dX10_deeds_80 : decode cX10_deeds 80 = .ok (.iconst 1, 1) := by decide +kernel
theorem dX10_deeds_81 : decode cX10_deeds 81 = .ok (.goto 4, 3) := by decide +kernel
theorem dX10_deeds_84 : decode cX10_deeds 84 = .ok (.iconst 0, 1) := by decide +kernel
theorem dX10_deeds_85 : decode cX10_deeds 85 = .ok (.iadd, 1) := by decide +kernel
theorem dX10_deeds_86 : decode cX10_deeds 86 = .ok (.istore_n 3, 1) := by decide +kernel
theorem dX10_deeds_87 : decode cX10_deeds 87 = .ok (.iinc 4 1, 3) := by decide +kernel
theorem dX10_deeds_90 : decode cX10_deeds 90 = .ok (.goto (-59), 3) := by decide +kernel
theorem dX10_deeds_93 : decode cX10_deeds 93 = .ok (.iload_n 3, 1) := by decide +kernel
theorem dX10_deeds_94 : decode cX10_deeds 94 = .ok (.ireturn, 1) := by decide +kernel
theorem dX10_tryDeed_0 : decode cX10_tryDeed 0 = .ok (.aload_n 0, 1) := by decide +kernel
theorem dX10_tryDeed_1 : decode cX10_tryDeed 1 = .ok (.iload_n 1, 1) := by decide +kernel
theorem dX10_tryDeed_2 : decode cX10_tryDeed 2 = .ok (.aload_n 0, 1) := by decide +kernel
theorem dX10_tryDeed_3 : decode cX10_tryDeed 3 = .ok (.iload_n 1, 1) := by decide +kernel
theorem dX10_tryDeed_4 : decode cX10_tryDeed 4 = .ok (.invokevirtual 193, 3) := by decide +kernel
theorem dX10_tryDeed_7 : decode cX10_tryDeed 7 = .ok (.sipush 9999, 3) := by decide +kernel
theorem dX10_tryDeed_10 : decode cX10_tryDeed 10 = .ok (.invokevirtual 158, 3) := by decide +kernel
theorem dX10_tryDeed_13 : decode cX10_tryDeed 13 = .ok (.return_, 1) := by decide +kernel
theorem dX10_suits_0 : decode cX10_suits 0 = .ok (.aload_n 0, 1) := by decide +kernel
theorem dX10_suits_1 : decode cX10_suits 1 = .ok (.iload_n 1, 1) := by decide +kernel
theorem dX10_suits_2 : decode cX10_suits 2 = .ok (.invokevirtual 190, 3) := by decide +kernel
theorem dX10_suits_5 : decode cX10_suits 5 = .ok (.ifCond .eq 15, 3) := by decide +kernel
theorem dX10_suits_8 : decode cX10_suits 8 = .ok (.iload_n 2, 1) := by decide +kernel
theorem dX10_suits_9 : decode cX10_suits 9 = .ok (.invokestatic 196, 3) := by decide +kernel
theorem dX10_suits_12 : decode cX10_suits 12 = .ok (.ifCond .eq 8, 3) := by decide +kernel
theorem dX10_suits_15 : decode cX10_suits 15 = .ok (.iload_n 3, 1) := by decide +kernel
theorem dX10_suits_16 : decode cX10_suits 16 = .ok (.iconst (-1), 1) := by decide +kernel
theorem dX10_suits_17 : decode cX10_suits 17 = .ok (.if_icmp .ge 6, 3) := by decide +kernel
theorem dX10_suits_20 : decode cX10_suits 20 = .ok (.bipush (-3), 2) := by decide +kernel
theorem dX10_suits_22 : decode cX10_suits 22 = .ok (.ireturn, 1) := by decide +kernel
theorem dX10_suits_23 : decode cX10_suits 23 = .ok (.aload_n 0, 1) := by decide +kernel
theorem dX10_suits_24 : decode cX10_suits 24 = .ok (.getfield 7, 3) := by decide +kernel
theorem dX10_suits_27 : decode cX10_suits 27 = .ok (.bipush 6, 2) := by decide +kernel
theorem dX10_suits_29 : decode cX10_suits 29 = .ok (.if_icmp .gt 10, 3) := by decide +kernel
theorem dX10_suits_32 : decode cX10_suits 32 = .ok (.aload_n 0, 1) := by decide +kernel
theorem dX10_suits_33 : decode cX10_suits 33 = .ok (.getfield 54, 3) := by decide +kernel
theorem dX10_suits_36 : decode cX10_suits 36 = .ok (.ifCond .ne 6, 3) := by decide +kernel
theorem dX10_suits_39 : decode cX10_suits 39 = .ok (.bipush (-4), 2) := by decide +kernel
theorem dX10_suits_41 : decode cX10_suits 41 = .ok (.ireturn, 1) := by decide +kernel
theorem dX10_suits_42 : decode cX10_suits 42 = .ok (.aload_n 0, 1) := by decide +kernel
theorem dX10_suits_43 : decode cX10_suits 43 = .ok (.iload_n 1, 1) := by decide +kernel
theorem dX10_suits_44 : decode cX10_suits 44 = .ok (.iload_n 2, 1) := by decide +kernel
theorem dX10_suits_45 : decode cX10_suits 45 = .ok (.invokevirtual 208, 3) := by decide +kernel
theorem dX10_suits_48 : decode cX10_suits 48 = .ok (.istore 4, 2) := by decide +kernel
theorem dX10_suits_50 : decode cX10_suits 50 = .ok (.iload_n 3, 1) := by decide +kernel
theorem dX10_suits_51 : decode cX10_suits 51 = .ok (.iconst (-1), 1) := by decide +kernel
theorem dX10_suits_52 : decode cX10_suits 52 = .ok (.if_icmp .ne 8, 3) := by decide +kernel
theorem dX10_suits_55 : decode cX10_suits 55 = .ok (.iload 4, 2) := by decide +kernel
theorem dX10_suits_57 : decode cX10_suits 57 = .ok (.goto 28, 3) := by decide +kernel
theorem dX10_suits_60 : decode cX10_suits 60 = .ok (.iload_n 3, 1) := by decide +kernel
theorem dX10_suits_61 : decode cX10_suits 61 = .ok (.iload 4, 2) := by decide +kernel
theorem dX10_suits_63 : decode cX10_suits 63 = .ok (.if_icmp .lt 7, 3) := by decide +kernel
theorem dX10_suits_66 : decode cX10_suits 66 = .ok (.iconst (-1), 1) := by decide +kernel
theorem dX10_suits_67 : decode cX10_suits 67 = .ok (.goto 18, 3) := by decide +kernel
theorem dX10_suits_70 : decode cX10_suits 70 = .ok (.iload_n 3, 1) := by decide +kernel
theorem dX10_suits_71 : decode cX10_suits 71 = .ok (.ifCond .ne 10, 3) := by decide +kernel
theorem dX10_suits_74 : decode cX10_suits 74 = .ok (.aload_n 0, 1) := by decide +kernel
theorem dX10_suits_75 : decode cX10_suits 75 = .ok (.getfield 202, 3) := by decide +kernel
theorem dX10_suits_78 : decode cX10_suits 78 = .ok (.goto 7, 3) := by decide +kernel
theorem dX10_suits_81 : decode cX10_suits 81 = .ok (.aload_n 0, 1) := by decide +kernel
theorem dX10_suits_82 : decode cX10_suits 82 = .ok (.getfield 205, 3) := by decide +kernel
theorem dX10_suits_85 : decode cX10_suits 85 = .ok (.ireturn, 1) := by decide +kernel
theorem dX10_turns_0 : decode cX10_turns 0 = .ok (.aload_n 0, 1) := by decide +kernel
theorem dX10_turns_1 : decode cX10_turns 1 = .ok (.iload_n 1, 1) := by decide +kernel
theorem dX10_turns_2 : decode cX10_turns 2 = .ok (.invokevirtual 190, 3) := by decide +kernel
theorem dX10_turns_5 : decode cX10_turns 5 = .ok (.ifCond .eq 10, 3) := by decide +kernel
theorem dX10_turns_8 : decode cX10_turns 8 = .ok (.iload_n 2, 1) := by decide +kernel
theorem dX10_turns_9 : decode cX10_turns 9 = .ok (.invokestatic 196, 3) := by decide +kernel
theorem dX10_turns_12 : decode cX10_turns 12 = .ok (.ifCond .ne 6, 3) := by decide +kernel
theorem dX10_turns_15 : decode cX10_turns 15 = .ok (.bipush (-3), 2) := by decide +kernel
theorem dX10_turns_17 : decode cX10_turns 17 = .ok (.ireturn, 1) := by decide +kernel
theorem dX10_turns_18 : decode cX10_turns 18 = .ok (.aload_n 0, 1) := by decide +kernel
theorem dX10_turns_19 : decode cX10_turns 19 = .ok (.getfield 7, 3) := by decide +kernel
theorem dX10_turns_22 : decode cX10_turns 22 = .ok (.bipush 6, 2) := by decide +kernel
theorem dX10_turns_24 : decode cX10_turns 24 = .ok (.if_icmp .gt 10, 3) := by decide +kernel
theorem dX10_turns_27 : decode cX10_turns 27 = .ok (.aload_n 0, 1) := by decide +kernel
theorem dX10_turns_28 : decode cX10_turns 28 = .ok (.getfield 54, 3) := by decide +kernel
theorem dX10_turns_31 : decode cX10_turns 31 = .ok (.ifCond .ne 6, 3) := by decide +kernel
theorem dX10_turns_34 : decode cX10_turns 34 = .ok (.bipush (-4), 2) := by decide +kernel
theorem dX10_turns_36 : decode cX10_turns 36 = .ok (.ireturn, 1) := by decide +kernel
theorem dX10_turns_37 : decode cX10_turns 37 = .ok (.iconst 0, 1) := by decide +kernel
theorem dX10_turns_38 : decode cX10_turns 38 = .ok (.istore_n 3, 1) := by decide +kernel
theorem dX10_turns_39 : decode cX10_turns 39 = .ok (.iload_n 3, 1) := by decide +kernel
theorem dX10_turns_40 : decode cX10_turns 40 = .ok (.aload_n 0, 1) := by decide +kernel
theorem dX10_turns_41 : decode cX10_turns 41 = .ok (.invokevirtual 57, 3) := by decide +kernel
theorem dX10_turns_44 : decode cX10_turns 44 = .ok (.if_icmp .ge 21, 3) := by decide +kernel
theorem dX10_turns_47 : decode cX10_turns 47 = .ok (.aload_n 0, 1) := by decide +kernel
theorem dX10_turns_48 : decode cX10_turns 48 = .ok (.iload_n 1, 1) := by decide +kernel
theorem dX10_turns_49 : decode cX10_turns 49 = .ok (.iload_n 2, 1) := by decide +kernel
theorem dX10_turns_50 : decode cX10_turns 50 = .ok (.iload_n 3, 1) := by decide +kernel
theorem dX10_turns_51 : decode cX10_turns 51 = .ok (.invokevirtual 211, 3) := by decide +kernel
theorem dX10_turns_54 : decode cX10_turns 54 = .ok (.ifCond .eq 5, 3) := by decide +kernel
theorem dX10_turns_57 : decode cX10_turns 57 = .ok (.iload_n 3, 1) := by decide +kernel
theorem dX10_turns_58 : decode cX10_turns 58 = .ok (.ireturn, 1) := by decide +kernel
theorem dX10_turns_59 : decode cX10_turns 59 = .ok (.iinc 3 1, 3) := by decide +kernel
theorem dX10_turns_62 : decode cX10_turns 62 = .ok (.goto (-23), 3) := by decide +kernel
theorem dX10_turns_65 : decode cX10_turns 65 = .ok (.iconst (-1), 1) := by decide +kernel
theorem dX10_turns_66 : decode cX10_turns 66 = .ok (.ireturn, 1) := by decide +kernel
theorem dX10_layLikes_0 : decode cX10_layLikes 0 = .ok (.iconst 0, 1) := by decide +kernel
theorem dX10_layLikes_1 : decode cX10_layLikes 1 = .ok (.istore_n 1, 1) := by decide +kernel
theorem dX10_layLikes_2 : decode cX10_layLikes 2 = .ok (.iload_n 1, 1) := by decide +kernel
theorem dX10_layLikes_3 : decode cX10_layLikes 3 = .ok (.aload_n 0, 1) := by decide +kernel
theorem dX10_layLikes_4 : decode cX10_layLikes 4 = .ok (.invokevirtual 57, 3) := by decide +kernel
theorem dX10_layLikes_7 : decode cX10_layLikes 7 = .ok (.if_icmp .ge 60, 3) := by decide +kernel
theorem dX10_layLikes_10 : decode cX10_layLikes 10 = .ok (.iconst 0, 1) := by decide +kernel
theorem dX10_layLikes_11 : decode cX10_layLikes 11 = .ok (.istore_n 2, 1) := by decide +kernel
theorem dX10_layLikes_12 : decode cX10_layLikes 12 = .ok (.iload_n 2, 1) := by decide +kernel
theorem dX10_layLikes_13 : decode cX10_layLikes 13 = .ok (.aload_n 0, 1) := by decide +kernel
theorem dX10_layLikes_14 : decode cX10_layLikes 14 = .ok (.getfield 54, 3) := by decide +kernel
theorem dX10_layLikes_17 : decode cX10_layLikes 17 = .ok (.if_icmp .ge 33, 3) := by decide +kernel
theorem dX10_layLikes_20 : decode cX10_layLikes 20 = .ok (.aload_n 0, 1) := by decide +kernel
theorem dX10_layLikes_21 : decode cX10_layLikes 21 = .ok (.getfield 29, 3) := by decide +kernel
theorem dX10_layLikes_24 : decode cX10_layLikes 24 = .ok (.bipush 14, 2) := by decide +kernel
theorem dX10_layLikes_26 : decode cX10_layLikes 26 = .ok (.iload_n 1, 1) := by decide +kernel
theorem dX10_layLikes_27 : decode cX10_layLikes 27 = .ok (.imul, 1) := by decide +kernel
theorem dX10_layLikes_28 : decode cX10_layLikes 28 = .ok (.iload_n 2, 1) := by decide +kernel
theorem dX10_layLikes_29 : decode cX10_layLikes 29 = .ok (.iadd, 1) := by decide +kernel
theorem dX10_layLikes_30 : decode cX10_layLikes 30 = .ok (.aload_n 0, 1) := by decide +kernel
theorem dX10_layLikes_31 : decode cX10_layLikes 31 = .ok (.iload_n 1, 1) := by decide +kernel
theorem dX10_layLikes_32 : decode cX10_layLikes 32 = .ok (.aload_n 0, 1) := by decide +kernel
theorem dX10_layLikes_33 : decode cX10_layLikes 33 = .ok (.getfield 20, 3) := by decide +kernel
theorem dX10_layLikes_36 : decode cX10_layLikes 36 = .ok (.iconst 4, 1) := by decide +kernel
theorem dX10_layLikes_37 : decode cX10_layLikes 37 = .ok (.iload_n 2, 1) := by decide +kernel
theorem dX10_layLikes_38 : decode cX10_layLikes 38 = .ok (.imul, 1) := by decide +kernel
theorem dX10_layLikes_39 : decode cX10_layLikes 39 = .ok (.iaload, 1) := by decide +kernel
theorem dX10_layLikes_40 : decode cX10_layLikes 40 = .ok (.invokevirtual 180, 3) := by decide +kernel
theorem dX10_layLikes_43 : decode cX10_layLikes 43 = .ok (.iastore, 1) := by decide +kernel
theorem dX10_layLikes_44 : decode cX10_layLikes 44 = .ok (.iinc 2 1, 3) := by decide +kernel
theorem dX10_layLikes_47 : decode cX10_layLikes 47 = .ok (.goto (-35), 3) := by decide +kernel
theorem dX10_layLikes_50 : decode cX10_layLikes 50 = .ok (.aload_n 0, 1) := by decide +kernel
theorem dX10_layLikes_51 : decode cX10_layLikes 51 = .ok (.getfield 32, 3) := by decide +kernel
theorem dX10_layLikes_54 : decode cX10_layLikes 54 = .ok (.iload_n 1, 1) := by decide +kernel
theorem dX10_layLikes_55 : decode cX10_layLikes 55 = .ok (.aload_n 0, 1) := by decide +kernel
theorem dX10_layLikes_56 : decode cX10_layLikes 56 = .ok (.iload_n 1, 1) := by decide +kernel
theorem dX10_layLikes_57 : decode cX10_layLikes 57 = .ok (.invokevirtual 193, 3) := by decide +kernel
theorem dX10_layLikes_60 : decode cX10_layLikes 60 = .ok (.iastore, 1) := by decide +kernel
theorem dX10_layLikes_61 : decode cX10_layLikes 61 = .ok (.iinc 1 1, 3) := by decide +kernel
theorem dX10_layLikes_64 : decode cX10_layLikes 64 = .ok (.goto (-62), 3) := by decide +kernel
theorem dX10_layLikes_67 : decode cX10_layLikes 67 = .ok (.return_, 1) := by decide +kernel
theorem dX10_keep_0 : decode cX10_keep 0 = .ok (.iload_n 1, 1) := by decide +kernel
theorem dX10_keep_1 : decode cX10_keep 1 = .ok (.iconst 0, 1) := by decide +kernel
theorem dX10_keep_2 : decode cX10_keep 2 = .ok (.iconst 1, 1) := by decide +kernel
theorem dX10_keep_3 : decode cX10_keep 3 = .ok (.invokestatic 61, 3) := by decide +kernel
theorem dX10_keep_6 : decode cX10_keep 6 = .ok (.ifCond .ne 6, 3) := by decide +kernel
theorem dX10_keep_9 : decode cX10_keep 9 = .ok (.bipush (-3), 2) := by decide +kernel
theorem dX10_keep_11 : decode cX10_keep 11 = .ok (.ireturn, 1) := by decide +kernel
theorem dX10_keep_12 : decode cX10_keep 12 = .ok (.aload_n 0, 1) := by decide +kernel
theorem dX10_keep_13 : decode cX10_keep 13 = .ok (.getfield 7, 3) := by decide +kernel
theorem dX10_keep_16 : decode cX10_keep 16 = .ok (.bipush 8, 2) := by decide +kernel
theorem dX10_keep_18 : decode cX10_keep 18 = .ok (.if_icmp .gt 12, 3) := by decide +kernel
theorem dX10_keep_21 : decode cX10_keep 21 = .ok (.aload_n 0, 1) := by decide +kernel
theorem dX10_keep_22 : decode cX10_keep 22 = .ok (.getfield 54, 3) := by decide +kernel
theorem dX10_keep_25 : decode cX10_keep 25 = .ok (.bipush 10, 2) := by decide +kernel
theorem dX10_keep_27 : decode cX10_keep 27 = .ok (.if_icmp .le 6, 3) := by decide +kernel
theorem dX10_keep_30 : decode cX10_keep 30 = .ok (.bipush (-4), 2) := by decide +kernel
theorem dX10_keep_32 : decode cX10_keep 32 = .ok (.ireturn, 1) := by decide +kernel
theorem dX10_keep_33 : decode cX10_keep 33 = .ok (.aload_n 0, 1) := by decide +kernel
theorem dX10_keep_34 : decode cX10_keep 34 = .ok (.invokevirtual 214, 3) := by decide +kernel
theorem dX10_keep_37 : decode cX10_keep 37 = .ok (.aload_n 0, 1) := by decide +kernel
theorem dX10_keep_38 : decode cX10_keep 38 = .ok (.invokevirtual 184, 3) := by decide +kernel
theorem dX10_keep_41 : decode cX10_keep 41 = .ok (.istore_n 2, 1) := by decide +kernel
theorem dX10_keep_42 : decode cX10_keep 42 = .ok (.aload_n 0, 1) := by decide +kernel
theorem dX10_keep_43 : decode cX10_keep 43 = .ok (.invokevirtual 184, 3) := by decide +kernel
theorem dX10_keep_46 : decode cX10_keep 46 = .ok (.iconst 1, 1) := by decide +kernel
theorem dX10_keep_47 : decode cX10_keep 47 = .ok (.isub, 1) := by decide +kernel
theorem dX10_keep_48 : decode cX10_keep 48 = .ok (.istore_n 3, 1) := by decide +kernel
theorem dX10_keep_49 : decode cX10_keep 49 = .ok (.iload_n 3, 1) := by decide +kernel
theorem dX10_keep_50 : decode cX10_keep 50 = .ok (.ifCond .le 30, 3) := by decide +kernel
theorem dX10_keep_53 : decode cX10_keep 53 = .ok (.iload_n 3, 1) := by decide +kernel
theorem dX10_keep_54 : decode cX10_keep 54 = .ok (.invokestatic 217, 3) := by decide +kernel
theorem dX10_keep_57 : decode cX10_keep 57 = .ok (.iload_n 2, 1) := by decide +kernel
theorem dX10_keep_58 : decode cX10_keep 58 = .ok (.invokestatic 217, 3) := by decide +kernel
theorem dX10_keep_61 : decode cX10_keep 61 = .ok (.if_icmp .gt 13, 3) := by decide +kernel
theorem dX10_keep_64 : decode cX10_keep 64 = .ok (.aload_n 0, 1) := by decide +kernel
theorem dX10_keep_65 : decode cX10_keep 65 = .ok (.iload_n 3, 1) := by decide +kernel
theorem dX10_keep_66 : decode cX10_keep 66 = .ok (.invokevirtual 220, 3) := by decide +kernel
theorem dX10_keep_69 : decode cX10_keep 69 = .ok (.ifCond .eq 5, 3) := by decide +kernel
theorem dX10_keep_72 : decode cX10_keep 72 = .ok (.iload_n 3, 1) := by decide +kernel
theorem dX10_keep_73 : decode cX10_keep 73 = .ok (.istore_n 2, 1) := by decide +kernel
theorem dX10_keep_74 : decode cX10_keep 74 = .ok (.iinc 3 (-1), 3) := by decide +kernel
theorem dX10_keep_77 : decode cX10_keep 77 = .ok (.goto (-28), 3) := by decide +kernel
theorem dX10_keep_80 : decode cX10_keep 80 = .ok (.iload_n 1, 1) := by decide +kernel
theorem dX10_keep_81 : decode cX10_keep 81 = .ok (.ifCond .ne 10, 3) := by decide +kernel
theorem dX10_keep_84 : decode cX10_keep 84 = .ok (.iload_n 2, 1) := by decide +kernel
theorem dX10_keep_85 : decode cX10_keep 85 = .ok (.invokestatic 217, 3) := by decide +kernel
theorem dX10_keep_88 : decode cX10_keep 88 = .ok (.goto 4, 3) := by decide +kernel
theorem dX10_keep_91 : decode cX10_keep 91 = .ok (.iload_n 2, 1) := by decide +kernel
theorem dX10_keep_92 : decode cX10_keep 92 = .ok (.ireturn, 1) := by decide +kernel
theorem dX10_odds_0 : decode cX10_odds 0 = .ok (.aload_n 0, 1) := by decide +kernel
theorem dX10_odds_1 : decode cX10_odds 1 = .ok (.iload_n 1, 1) := by decide +kernel
theorem dX10_odds_2 : decode cX10_odds 2 = .ok (.invokevirtual 190, 3) := by decide +kernel
theorem dX10_odds_5 : decode cX10_odds 5 = .ok (.ifCond .eq 48, 3) := by decide +kernel
theorem dX10_odds_8 : decode cX10_odds 8 = .ok (.aload_n 0, 1) := by decide +kernel
theorem dX10_odds_9 : decode cX10_odds 9 = .ok (.iload_n 2, 1) := by decide +kernel
theorem dX10_odds_10 : decode cX10_odds 10 = .ok (.invokevirtual 190, 3) := by decide +kernel
theorem dX10_odds_13 : decode cX10_odds 13 = .ok (.ifCond .eq 40, 3) := by decide +kernel
theorem dX10_odds_16 : decode cX10_odds 16 = .ok (.iload_n 2, 1) := by decide +kernel
theorem dX10_odds_17 : decode cX10_odds 17 = .ok (.invokestatic 217, 3) := by decide +kernel
theorem dX10_odds_20 : decode cX10_odds 20 = .ok (.bipush 8, 2) := by decide +kernel
theorem dX10_odds_22 : decode cX10_odds 22 = .ok (.if_icmp .gt 31, 3) := by decide +kernel
theorem dX10_odds_25 : decode cX10_odds 25 = .ok (.iload_n 3, 1) := by decide +kernel
theorem dX10_odds_26 : decode cX10_odds 26 = .ok (.iconst 0, 1) := by decide +kernel
theorem dX10_odds_27 : decode cX10_odds 27 = .ok (.bipush 10, 2) := by decide +kernel
theorem dX10_odds_29 : decode cX10_odds 29 = .ok (.invokestatic 61, 3) := by decide +kernel
theorem dX10_odds_32 : decode cX10_odds 32 = .ok (.ifCond .eq 21, 3) := by decide +kernel
theorem dX10_odds_35 : decode cX10_odds 35 = .ok (.iload 4, 2) := by decide +kernel
theorem dX10_odds_37 : decode cX10_odds 37 = .ok (.invokestatic 196, 3) := by decide +kernel
theorem dX10_odds_40 : decode cX10_odds 40 = .ok (.ifCond .eq 13, 3) := by decide +kernel
theorem dX10_odds_43 : decode cX10_odds 43 = .ok (.iload 5, 2) := by decide +kernel
theorem dX10_odds_45 : decode cX10_odds 45 = .ok (.iconst 0, 1) := by decide +kernel
theorem dX10_odds_46 : decode cX10_odds 46 = .ok (.iconst 1, 1) := by decide +kernel
theorem dX10_odds_47 : decode cX10_odds 47 = .ok (.invokestatic 61, 3) := by decide +kernel
theorem dX10_odds_50 : decode cX10_odds 50 = .ok (.ifCond .ne 7, 3) := by decide +kernel
theorem dX10_odds_53 : decode cX10_odds 53 = .ok (.ldc2_w 103, 3) := by decide +kernel
theorem dX10_odds_56 : decode cX10_odds 56 = .ok (.lreturn, 1) := by decide +kernel
theorem dX10_odds_57 : decode cX10_odds 57 = .ok (.aload_n 0, 1) := by decide +kernel
theorem dX10_odds_58 : decode cX10_odds 58 = .ok (.getfield 54, 3) := by decide +kernel
theorem dX10_odds_61 : decode cX10_odds 61 = .ok (.ifCond .ne 7, 3) := by decide +kernel
theorem dX10_odds_64 : decode cX10_odds 64 = .ok (.ldc2_w 99, 3) := by decide +kernel
theorem dX10_odds_67 : decode cX10_odds 67 = .ok (.lreturn, 1) := by decide +kernel
theorem dX10_odds_68 : decode cX10_odds 68 = .ok (.lconst 0, 1) := by decide +kernel
theorem dX10_odds_69 : decode cX10_odds 69 = .ok (.lstore 6, 2) := by decide +kernel
theorem dX10_odds_71 : decode cX10_odds 71 = .ok (.lconst 1, 1) := by decide +kernel
theorem dX10_odds_72 : decode cX10_odds 72 = .ok (.lstore 8, 2) := by decide +kernel
theorem dX10_odds_74 : decode cX10_odds 74 = .ok (.iconst 0, 1) := by decide +kernel
theorem dX10_odds_75 : decode cX10_odds 75 = .ok (.istore 10, 2) := by decide +kernel
theorem dX10_odds_77 : decode cX10_odds 77 = .ok (.iload 10, 2) := by decide +kernel
theorem dX10_odds_79 : decode cX10_odds 79 = .ok (.aload_n 0, 1) := by decide +kernel
theorem dX10_odds_80 : decode cX10_odds 80 = .ok (.getfield 7, 3) := by decide +kernel
theorem dX10_odds_83 : decode cX10_odds 83 = .ok (.if_icmp .ge 30, 3) := by decide +kernel
theorem dX10_odds_86 : decode cX10_odds 86 = .ok (.lload 8, 2) := by decide +kernel
theorem dX10_odds_88 : decode cX10_odds 88 = .ok (.iload_n 2, 1) := by decide +kernel
theorem dX10_odds_89 : decode cX10_odds 89 = .ok (.iload 10, 2) := by decide +kernel
theorem dX10_odds_91 : decode cX10_odds 91 = .ok (.invokestatic 177, 3) := by decide +kernel
theorem dX10_odds_94 : decode cX10_odds 94 = .ok (.ifCond .eq 9, 3) := by decide +kernel
theorem dX10_odds_97 : decode cX10_odds 97 = .ok (.ldc2_w 223, 3) := by decide +kernel
theorem dX10_odds_100 : decode cX10_odds 100 = .ok (.goto 4, 3) := by decide +kernel
theorem dX10_odds_103 : decode cX10_odds 103 = .ok (.lconst 1, 1) := by decide +kernel
theorem dX10_odds_104 : decode cX10_odds 104 = .ok (.lmul, 1) := by decide +kernel
theorem dX10_odds_105 : decode cX10_odds 105 = .ok (.lstore 8, 2) := by decide +kernel
theorem dX10_odds_107 : decode cX10_odds 107 = .ok (.iinc 10 1, 3) := by decide +kernel
theorem dX10_odds_110 : decode cX10_odds 110 = .ok (.goto (-33), 3) := by decide +kernel
theorem dX10_odds_113 : decode cX10_odds 113 = .ok (.iconst 0, 1) := by decide +kernel
theorem dX10_odds_114 : decode cX10_odds 114 = .ok (.istore 10, 2) := by decide +kernel
theorem dX10_odds_116 : decode cX10_odds 116 = .ok (.iload 10, 2) := by decide +kernel
theorem dX10_odds_118 : decode cX10_odds 118 = .ok (.aload_n 0, 1) := by decide +kernel
theorem dX10_odds_119 : decode cX10_odds 119 = .ok (.invokevirtual 57, 3) := by decide +kernel
theorem dX10_odds_122 : decode cX10_odds 122 = .ok (.if_icmp .ge 98, 3) := by decide +kernel
theorem dX10_odds_125 : decode cX10_odds 125 = .ok (.iload 10, 2) := by decide +kernel
theorem dX10_odds_127 : decode cX10_odds 127 = .ok (.iload_n 1, 1) := by decide +kernel
theorem dX10_odds_128 : decode cX10_odds 128 = .ok (.ixor, 1) := by decide +kernel
theorem dX10_odds_129 : decode cX10_odds 129 = .ok (.iload_n 2, 1) := by decide +kernel
theorem dX10_odds_130 : decode cX10_odds 130 = .ok (.iconst (-1), 1) := by decide +kernel
theorem dX10_odds_131 : decode cX10_odds 131 = .ok (.ixor, 1) := by decide +kernel
theorem dX10_odds_132 : decode cX10_odds 132 = .ok (.iand, 1) := by decide +kernel
theorem dX10_odds_133 : decode cX10_odds 133 = .ok (.ifCond .ne 81, 3) := by decide +kernel
theorem dX10_odds_136 : decode cX10_odds 136 = .ok (.aload_n 0, 1) := by decide +kernel
theorem dX10_odds_137 : decode cX10_odds 137 = .ok (.iload 10, 2) := by decide +kernel
theorem dX10_odds_139 : decode cX10_odds 139 = .ok (.invokevirtual 193, 3) := by decide +kernel
theorem dX10_odds_142 : decode cX10_odds 142 = .ok (.iload 4, 2) := by decide +kernel
theorem dX10_odds_144 : decode cX10_odds 144 = .ok (.if_icmp .ne 70, 3) := by decide +kernel
theorem dX10_odds_147 : decode cX10_odds 147 = .ok (.lconst 1, 1) := by decide +kernel
theorem dX10_odds_148 : decode cX10_odds 148 = .ok (.lstore 11, 2) := by decide +kernel
theorem dX10_odds_150 : decode cX10_odds 150 = .ok (.iconst 0, 1) := by decide +kernel
theorem dX10_odds_151 : decode cX10_odds 151 = .ok (.istore 13, 2) := by decide +kernel
theorem dX10_odds_153 : decode cX10_odds 153 = .ok (.iload 13, 2) := by decide +kernel
theorem dX10_odds_155 : decode cX10_odds 155 = .ok (.aload_n 0, 1) := by decide +kernel
theorem dX10_odds_156 : decode cX10_odds 156 = .ok (.getfield 7, 3) := by decide +kernel
theorem dX10_odds_159 : decode cX10_odds 159 = .ok (.if_icmp .ge 48, 3) := by decide +kernel
theorem dX10_odds_162 : decode cX10_odds 162 = .ok (.lload 11, 2) := by decide +kernel
theorem dX10_odds_164 : decode cX10_odds 164 = .ok (.iload_n 2, 1) := by decide +kernel
theorem dX10_odds_165 : decode cX10_odds 165 = .ok (.iload 13, 2) := by decide +kernel
theorem dX10_odds_167 : decode cX10_odds 167 = .ok (.invokestatic 177, 3) := by decide +kernel
theorem dX10_odds_170 : decode cX10_odds 170 = .ok (.ifCond .ne 7, 3) := by decide +kernel
theorem dX10_odds_173 : decode cX10_odds 173 = .ok (.lconst 1, 1) := by decide +kernel
theorem dX10_odds_174 : decode cX10_odds 174 = .ok (.goto 24, 3) := by decide +kernel
theorem dX10_odds_177 : decode cX10_odds 177 = .ok (.iload 10, 2) := by decide +kernel
theorem dX10_odds_179 : decode cX10_odds 179 = .ok (.iload 13, 2) := by decide +kernel
theorem dX10_odds_181 : decode cX10_odds 181 = .ok (.invokestatic 177, 3) := by decide +kernel
theorem dX10_odds_184 : decode cX10_odds 184 = .ok (.ifCond .eq 8, 3) := by decide +kernel
theorem dX10_odds_187 : decode cX10_odds 187 = .ok (.iload_n 3, 1) := by decide +kernel
theorem dX10_odds_188 : decode cX10_odds 188 = .ok (.i2l, 1) := by decide +kernel
theorem dX10_odds_189 : decode cX10_odds 189 = .ok (.goto 9, 3) := by decide +kernel
theorem dX10_odds_192 : decode cX10_odds 192 = .ok (.ldc2_w 223, 3) := by decide +kernel
theorem dX10_odds_195 : decode cX10_odds 195 = .ok (.iload_n 3, 1) := by decide +kernel
theorem dX10_odds_196 : decode cX10_odds 196 = .ok (.i2l, 1) := by decide +kernel
theorem dX10_odds_197 : decode cX10_odds 197 = .ok (.lsub, 1) := by decide +kernel
theorem dX10_odds_198 : decode cX10_odds 198 = .ok (.lmul, 1) := by decide +kernel
theorem dX10_odds_199 : decode cX10_odds 199 = .ok (.lstore 11, 2) := by decide +kernel
theorem dX10_odds_201 : decode cX10_odds 201 = .ok (.iinc 13 1, 3) := by decide +kernel
theorem dX10_odds_204 : decode cX10_odds 204 = .ok (.goto (-51), 3) := by decide +kernel
theorem dX10_odds_207 : decode cX10_odds 207 = .ok (.lload 6, 2) := by decide +kernel
theorem dX10_odds_209 : decode cX10_odds 209 = .ok (.lload 11, 2) := by decide +kernel
theorem dX10_odds_211 : decode cX10_odds 211 = .ok (.ladd, 1) := by decide +kernel
theorem dX10_odds_212 : decode cX10_odds 212 = .ok (.lstore 6, 2) := by decide +kernel
theorem dX10_odds_214 : decode cX10_odds 214 = .ok (.iinc 10 1, 3) := by decide +kernel
theorem dX10_odds_217 : decode cX10_odds 217 = .ok (.goto (-101), 3) := by decide +kernel
theorem dX10_odds_220 : decode cX10_odds 220 = .ok (.lload 6, 2) := by decide +kernel
theorem dX10_odds_222 : decode cX10_odds 222 = .ok (.lstore 10, 2) := by decide +kernel
theorem dX10_odds_224 : decode cX10_odds 224 = .ok (.lload 8, 2) := by decide +kernel
theorem dX10_odds_226 : decode cX10_odds 226 = .ok (.lstore 12, 2) := by decide +kernel
theorem dX10_odds_228 : decode cX10_odds 228 = .ok (.lload 12, 2) := by decide +kernel
theorem dX10_odds_230 : decode cX10_odds 230 = .ok (.lconst 0, 1) := by decide +kernel
theorem dX10_odds_231 : decode cX10_odds 231 = .ok (.lcmp, 1) := by decide +kernel
theorem dX10_odds_232 : decode cX10_odds 232 = .ok (.ifCond .eq 21, 3) := by decide +kernel
theorem dX10_odds_235 : decode cX10_odds 235 = .ok (.lload 10, 2) := by decide +kernel
theorem dX10_odds_237 : decode cX10_odds 237 = .ok (.lload 12, 2) := by decide +kernel
theorem dX10_odds_239 : decode cX10_odds 239 = .ok (.lrem, 1) := by decide +kernel
theorem dX10_odds_240 : decode cX10_odds 240 = .ok (.lstore 14, 2) := by decide +kernel
theorem dX10_odds_242 : decode cX10_odds 242 = .ok (.lload 12, 2) := by decide +kernel
theorem dX10_odds_244 : decode cX10_odds 244 = .ok (.lstore 10, 2) := by decide +kernel
theorem dX10_odds_246 : decode cX10_odds 246 = .ok (.lload 14, 2) := by decide +kernel
theorem dX10_odds_248 : decode cX10_odds 248 = .ok (.lstore 12, 2) := by decide +kernel
theorem dX10_odds_250 : decode cX10_odds 250 = .ok (.goto (-22), 3) := by decide +kernel
theorem dX10_odds_253 : decode cX10_odds 253 = .ok (.iload 5, 2) := by decide +kernel
theorem dX10_odds_255 : decode cX10_odds 255 = .ok (.ifCond .ne 8, 3) := by decide +kernel
theorem dX10_odds_258 : decode cX10_odds 258 = .ok (.lload 6, 2) := by decide +kernel
theorem dX10_odds_260 : decode cX10_odds 260 = .ok (.goto 5, 3) := by decide +kernel
theorem dX10_odds_263 : decode cX10_odds 263 = .ok (.lload 8, 2) := by decide +kernel
theorem dX10_odds_265 : decode cX10_odds 265 = .ok (.lload 10, 2) := by decide +kernel
theorem dX10_odds_267 : decode cX10_odds 267 = .ok (.ldiv, 1) := by decide +kernel
theorem dX10_odds_268 : decode cX10_odds 268 = .ok (.lreturn, 1) := by decide +kernel
theorem dX10_notFollowing_0 : decode cX10_notFollowing 0 = .ok (.iconst 0, 1) := by decide +kernel
theorem dX10_notFollowing_1 : decode cX10_notFollowing 1 = .ok (.istore_n 2, 1) := by decide +kernel
theorem dX10_notFollowing_2 : decode cX10_notFollowing 2 = .ok (.iconst 0, 1) := by decide +kernel
theorem dX10_notFollowing_3 : decode cX10_notFollowing 3 = .ok (.istore_n 3, 1) := by decide +kernel
theorem dX10_notFollowing_4 : decode cX10_notFollowing 4 = .ok (.iload_n 3, 1) := by decide +kernel
theorem dX10_notFollowing_5 : decode cX10_notFollowing 5 = .ok (.aload_n 0, 1) := by decide +kernel
theorem dX10_notFollowing_6 : decode cX10_notFollowing 6 = .ok (.getfield 54, 3) := by decide +kernel
theorem dX10_notFollowing_9 : decode cX10_notFollowing 9 = .ok (.if_icmp .ge 36, 3) := by decide +kernel
theorem dX10_notFollowing_12 : decode cX10_notFollowing 12 = .ok (.iload_n 2, 1) := by decide +kernel
theorem dX10_notFollowing_13 : decode cX10_notFollowing 13 = .ok (.iload_n 1, 1) := by decide +kernel
theorem dX10_notFollowing_14 : decode cX10_notFollowing 14 = .ok (.iload_n 3, 1) := by decide +kernel
theorem dX10_notFollowing_15 : decode cX10_notFollowing 15 = .ok (.invokestatic 177, 3) := by decide +kernel
theorem dX10_notFollowing_18 : decode cX10_notFollowing 18 = .ok (.ifCond .eq 18, 3) := by decide +kernel
theorem dX10_notFollowing_21 : decode cX10_notFollowing 21 = .ok (.aload_n 0, 1) := by decide +kernel
theorem dX10_notFollowing_22 : decode cX10_notFollowing 22 = .ok (.iload_n 3, 1) := by decide +kernel
theorem dX10_notFollowing_23 : decode cX10_notFollowing 23 = .ok (.iload_n 1, 1) := by decide +kernel
theorem dX10_notFollowing_24 : decode cX10_notFollowing 24 = .ok (.invokevirtual 225, 3) := by decide +kernel
theorem dX10_notFollowing_27 : decode cX10_notFollowing 27 = .ok (.ifCond .ne 9, 3) := by decide +kernel
theorem dX10_notFollowing_30 : decode cX10_notFollowing 30 = .ok (.iconst 1, 1) := by decide +kernel
theorem dX10_notFollowing_31 : decode cX10_notFollowing 31 = .ok (.iload_n 3, 1) := by decide +kernel
theorem dX10_notFollowing_32 : decode cX10_notFollowing 32 = .ok (.ishl, 1) := by decide +kernel
theorem dX10_notFollowing_33 : decode cX10_notFollowing 33 = .ok (.goto 4, 3) := by decide +kernel
theorem dX10_notFollowing_36 : decode cX10_notFollowing 36 = .ok (.iconst 0, 1) := by decide +kernel
theorem dX10_notFollowing_37 : decode cX10_notFollowing 37 = .ok (.ior, 1) := by decide +kernel
theorem dX10_notFollowing_38 : decode cX10_notFollowing 38 = .ok (.istore_n 2, 1) := by decide +kernel
theorem dX10_notFollowing_39 : decode cX10_notFollowing 39 = .ok (.iinc 3 1, 3) := by decide +kernel
theorem dX10_notFollowing_42 : decode cX10_notFollowing 42 = .ok (.goto (-38), 3) := by decide +kernel
theorem dX10_notFollowing_45 : decode cX10_notFollowing 45 = .ok (.iload_n 2, 1) := by decide +kernel
theorem dX10_notFollowing_46 : decode cX10_notFollowing 46 = .ok (.ireturn, 1) := by decide +kernel
theorem dX10_cleaned_0 : decode cX10_cleaned 0 = .ok (.iload_n 1, 1) := by decide +kernel
theorem dX10_cleaned_1 : decode cX10_cleaned 1 = .ok (.iconst 0, 1) := by decide +kernel
theorem dX10_cleaned_2 : decode cX10_cleaned 2 = .ok (.iconst 1, 1) := by decide +kernel
theorem dX10_cleaned_3 : decode cX10_cleaned 3 = .ok (.invokestatic 61, 3) := by decide +kernel
theorem dX10_cleaned_6 : decode cX10_cleaned 6 = .ok (.ifCond .ne 6, 3) := by decide +kernel
theorem dX10_cleaned_9 : decode cX10_cleaned 9 = .ok (.bipush (-3), 2) := by decide +kernel
theorem dX10_cleaned_11 : decode cX10_cleaned 11 = .ok (.ireturn, 1) := by decide +kernel
theorem dX10_cleaned_12 : decode cX10_cleaned 12 = .ok (.aload_n 0, 1) := by decide +kernel
theorem dX10_cleaned_13 : decode cX10_cleaned 13 = .ok (.getfield 54, 3) := by decide +kernel
theorem dX10_cleaned_16 : decode cX10_cleaned 16 = .ok (.bipush 10, 2) := by decide +kernel
theorem dX10_cleaned_18 : decode cX10_cleaned 18 = .ok (.if_icmp .le 6, 3) := by decide +kernel
theorem dX10_cleaned_21 : decode cX10_cleaned 21 = .ok (.bipush (-4), 2) := by decide +kernel
theorem dX10_cleaned_23 : decode cX10_cleaned 23 = .ok (.ireturn, 1) := by decide +kernel
theorem dX10_cleaned_24 : decode cX10_cleaned 24 = .ok (.aload_n 0, 1) := by decide +kernel
theorem dX10_cleaned_25 : decode cX10_cleaned 25 = .ok (.invokevirtual 184, 3) := by decide +kernel
theorem dX10_cleaned_28 : decode cX10_cleaned 28 = .ok (.istore_n 2, 1) := by decide +kernel
theorem dX10_cleaned_29 : decode cX10_cleaned 29 = .ok (.aload_n 0, 1) := by decide +kernel
theorem dX10_cleaned_30 : decode cX10_cleaned 30 = .ok (.invokevirtual 184, 3) := by decide +kernel
theorem dX10_cleaned_33 : decode cX10_cleaned 33 = .ok (.istore_n 3, 1) := by decide +kernel
theorem dX10_cleaned_34 : decode cX10_cleaned 34 = .ok (.iload_n 3, 1) := by decide +kernel
theorem dX10_cleaned_35 : decode cX10_cleaned 35 = .ok (.ifCond .lt 37, 3) := by decide +kernel
theorem dX10_cleaned_38 : decode cX10_cleaned 38 = .ok (.iload_n 3, 1) := by decide +kernel
theorem dX10_cleaned_39 : decode cX10_cleaned 39 = .ok (.invokestatic 217, 3) := by decide +kernel
theorem dX10_cleaned_42 : decode cX10_cleaned 42 = .ok (.iload_n 2, 1) := by decide +kernel
theorem dX10_cleaned_43 : decode cX10_cleaned 43 = .ok (.invokestatic 217, 3) := by decide +kernel
theorem dX10_cleaned_46 : decode cX10_cleaned 46 = .ok (.if_icmp .gt 20, 3) := by decide +kernel
theorem dX10_cleaned_49 : decode cX10_cleaned 49 = .ok (.aload_n 0, 1) := by decide +kernel
theorem dX10_cleaned_50 : decode cX10_cleaned 50 = .ok (.aload_n 0, 1) := by decide +kernel
theorem dX10_cleaned_51 : decode cX10_cleaned 51 = .ok (.invokevirtual 184, 3) := by decide +kernel
theorem dX10_cleaned_54 : decode cX10_cleaned 54 = .ok (.iload_n 3, 1) := by decide +kernel
theorem dX10_cleaned_55 : decode cX10_cleaned 55 = .ok (.iconst (-1), 1) := by decide +kernel
theorem dX10_cleaned_56 : decode cX10_cleaned 56 = .ok (.ixor, 1) := by decide +kernel
theorem dX10_cleaned_57 : decode cX10_cleaned 57 = .ok (.iand, 1) := by decide +kernel
theorem dX10_cleaned_58 : decode cX10_cleaned 58 = .ok (.invokevirtual 228, 3) := by decide +kernel
theorem dX10_cleaned_61 : decode cX10_cleaned 61 = .ok (.ifCond .ne 5, 3) := by decide +kernel
theorem dX10_cleaned_64 : decode cX10_cleaned 64 = .ok (.iload_n 3, 1) := by decide +kernel
theorem dX10_cleaned_65 : decode cX10_cleaned 65 = .ok (.istore_n 2, 1) := by decide +kernel
theorem dX10_cleaned_66 : decode cX10_cleaned 66 = .ok (.iinc 3 (-1), 3) := by decide +kernel
theorem dX10_cleaned_69 : decode cX10_cleaned 69 = .ok (.goto (-35), 3) := by decide +kernel
theorem dX10_cleaned_72 : decode cX10_cleaned 72 = .ok (.iload_n 1, 1) := by decide +kernel
theorem dX10_cleaned_73 : decode cX10_cleaned 73 = .ok (.ifCond .ne 10, 3) := by decide +kernel
theorem dX10_cleaned_76 : decode cX10_cleaned 76 = .ok (.iload_n 2, 1) := by decide +kernel
theorem dX10_cleaned_77 : decode cX10_cleaned 77 = .ok (.invokestatic 217, 3) := by decide +kernel
theorem dX10_cleaned_80 : decode cX10_cleaned 80 = .ok (.goto 4, 3) := by decide +kernel
theorem dX10_cleaned_83 : decode cX10_cleaned 83 = .ok (.iload_n 2, 1) := by decide +kernel
theorem dX10_cleaned_84 : decode cX10_cleaned 84 = .ok (.ireturn, 1) := by decide +kernel
theorem dX10_layJudged_0 : decode cX10_layJudged 0 = .ok (.iconst 0, 1) := by decide +kernel
theorem dX10_layJudged_1 : decode cX10_layJudged 1 = .ok (.istore_n 1, 1) := by decide +kernel
theorem dX10_layJudged_2 : decode cX10_layJudged 2 = .ok (.iload_n 1, 1) := by decide +kernel
theorem dX10_layJudged_3 : decode cX10_layJudged 3 = .ok (.aload_n 0, 1) := by decide +kernel
theorem dX10_layJudged_4 : decode cX10_layJudged 4 = .ok (.invokevirtual 57, 3) := by decide +kernel
theorem dX10_layJudged_7 : decode cX10_layJudged 7 = .ok (.if_icmp .ge 20, 3) := by decide +kernel
theorem dX10_layJudged_10 : decode cX10_layJudged 10 = .ok (.aload_n 0, 1) := by decide +kernel
theorem dX10_layJudged_11 : decode cX10_layJudged 11 = .ok (.getfield 32, 3) := by decide +kernel
theorem dX10_layJudged_14 : decode cX10_layJudged 14 = .ok (.iload_n 1, 1) := by decide +kernel
theorem dX10_layJudged_15 : decode cX10_layJudged 15 = .ok (.aload_n 0, 1) := by decide +kernel
theorem dX10_layJudged_16 : decode cX10_layJudged 16 = .ok (.iload_n 1, 1) := by decide +kernel
theorem dX10_layJudged_17 : decode cX10_layJudged 17 = .ok (.invokevirtual 193, 3) := by decide +kernel
theorem dX10_layJudged_20 : decode cX10_layJudged 20 = .ok (.iastore, 1) := by decide +kernel
theorem dX10_layJudged_21 : decode cX10_layJudged 21 = .ok (.iinc 1 1, 3) := by decide +kernel
theorem dX10_layJudged_24 : decode cX10_layJudged 24 = .ok (.goto (-22), 3) := by decide +kernel
theorem dX10_layJudged_27 : decode cX10_layJudged 27 = .ok (.return_, 1) := by decide +kernel
theorem dX10_parts_0 : decode cX10_parts 0 = .ok (.iload_n 1, 1) := by decide +kernel
theorem dX10_parts_1 : decode cX10_parts 1 = .ok (.invokestatic 196, 3) := by decide +kernel
theorem dX10_parts_4 : decode cX10_parts 4 = .ok (.ifCond .eq 12, 3) := by decide +kernel
theorem dX10_parts_7 : decode cX10_parts 7 = .ok (.iload_n 2, 1) := by decide +kernel
theorem dX10_parts_8 : decode cX10_parts 8 = .ok (.iconst 0, 1) := by decide +kernel
theorem dX10_parts_9 : decode cX10_parts 9 = .ok (.iconst 1, 1) := by decide +kernel
theorem dX10_parts_10 : decode cX10_parts 10 = .ok (.invokestatic 61, 3) := by decide +kernel
theorem dX10_parts_13 : decode cX10_parts 13 = .ok (.ifCond .ne 6, 3) := by decide +kernel
theorem dX10_parts_16 : decode cX10_parts 16 = .ok (.bipush (-3), 2) := by decide +kernel
theorem dX10_parts_18 : decode cX10_parts 18 = .ok (.ireturn, 1) := by decide +kernel
theorem dX10_parts_19 : decode cX10_parts 19 = .ok (.aload_n 0, 1) := by decide +kernel
theorem dX10_parts_20 : decode cX10_parts 20 = .ok (.invokevirtual 231, 3) := by decide +kernel
theorem dX10_parts_23 : decode cX10_parts 23 = .ok (.iconst 0, 1) := by decide +kernel
theorem dX10_parts_24 : decode cX10_parts 24 = .ok (.istore_n 3, 1) := by decide +kernel
theorem dX10_parts_25 : decode cX10_parts 25 = .ok (.iload_n 3, 1) := by decide +kernel
theorem dX10_parts_26 : decode cX10_parts 26 = .ok (.aload_n 0, 1) := by decide +kernel
theorem dX10_parts_27 : decode cX10_parts 27 = .ok (.invokevirtual 57, 3) := by decide +kernel
theorem dX10_parts_30 : decode cX10_parts 30 = .ok (.if_icmp .ge 30, 3) := by decide +kernel
theorem dX10_parts_33 : decode cX10_parts 33 = .ok (.aload_n 0, 1) := by decide +kernel
theorem dX10_parts_34 : decode cX10_parts 34 = .ok (.getfield 35, 3) := by decide +kernel
theorem dX10_parts_37 : decode cX10_parts 37 = .ok (.iload_n 3, 1) := by decide +kernel
theorem dX10_parts_38 : decode cX10_parts 38 = .ok (.aload_n 0, 1) := by decide +kernel
theorem dX10_parts_39 : decode cX10_parts 39 = .ok (.getfield 32, 3) := by decide +kernel
theorem dX10_parts_42 : decode cX10_parts 42 = .ok (.iload_n 3, 1) := by decide +kernel
theorem dX10_parts_43 : decode cX10_parts 43 = .ok (.iaload, 1) := by decide +kernel
theorem dX10_parts_44 : decode cX10_parts 44 = .ok (.iload_n 1, 1) := by decide +kernel
theorem dX10_parts_45 : decode cX10_parts 45 = .ok (.if_icmp .ne 7, 3) := by decide +kernel
theorem dX10_parts_48 : decode cX10_parts 48 = .ok (.iconst 0, 1) := by decide +kernel
theorem dX10_parts_49 : decode cX10_parts 49 = .ok (.goto 4, 3) := by decide +kernel
theorem dX10_parts_52 : decode cX10_parts 52 = .ok (.iconst 1, 1) := by decide +kernel
theorem dX10_parts_53 : decode cX10_parts 53 = .ok (.iastore, 1) := by decide +kernel
theorem dX10_parts_54 : decode cX10_parts 54 = .ok (.iinc 3 1, 3) := by decide +kernel
theorem dX10_parts_57 : decode cX10_parts 57 = .ok (.goto (-32), 3) := by decide +kernel
theorem dX10_parts_60 : decode cX10_parts 60 = .ok (.iconst 0, 1) := by decide +kernel
theorem dX10_parts_61 : decode cX10_parts 61 = .ok (.istore_n 3, 1) := by decide +kernel
theorem dX10_parts_62 : decode cX10_parts 62 = .ok (.iconst 0, 1) := by decide +kernel
theorem dX10_parts_63 : decode cX10_parts 63 = .ok (.istore 4, 2) := by decide +kernel
theorem dX10_parts_65 : decode cX10_parts 65 = .ok (.iconst 0, 1) := by decide +kernel
theorem dX10_parts_66 : decode cX10_parts 66 = .ok (.istore 5, 2) := by decide +kernel
theorem dX10_parts_68 : decode cX10_parts 68 = .ok (.iload 5, 2) := by decide +kernel
theorem dX10_parts_70 : decode cX10_parts 70 = .ok (.aload_n 0, 1) := by decide +kernel
theorem dX10_parts_71 : decode cX10_parts 71 = .ok (.invokevirtual 57, 3) := by decide +kernel
theorem dX10_parts_74 : decode cX10_parts 74 = .ok (.if_icmp .ge 46, 3) := by decide +kernel
theorem dX10_parts_77 : decode cX10_parts 77 = .ok (.aload_n 0, 1) := by decide +kernel
theorem dX10_parts_78 : decode cX10_parts 78 = .ok (.getfield 35, 3) := by decide +kernel
theorem dX10_parts_81 : decode cX10_parts 81 = .ok (.iload 5, 2) := by decide +kernel
theorem dX10_parts_83 : decode cX10_parts 83 = .ok (.iaload, 1) := by decide +kernel
theorem dX10_parts_84 : decode cX10_parts 84 = .ok (.ifCond .ne 30, 3) := by decide +kernel
theorem dX10_parts_87 : decode cX10_parts 87 = .ok (.aload_n 0, 1) := by decide +kernel
theorem dX10_parts_88 : decode cX10_parts 88 = .ok (.iload 5, 2) := by decide +kernel
theorem dX10_parts_90 : decode cX10_parts 90 = .ok (.invokevirtual 234, 3) := by decide +kernel
theorem dX10_parts_93 : decode cX10_parts 93 = .ok (.istore 6, 2) := by decide +kernel
theorem dX10_parts_95 : decode cX10_parts 95 = .ok (.iinc 3 1, 3) := by decide +kernel
theorem dX10_parts_98 : decode cX10_parts 98 = .ok (.iload 6, 2) := by decide +kernel
theorem dX10_parts_100 : decode cX10_parts 100 = .ok (.iload 4, 2) := by decide +kernel
theorem dX10_parts_102 : decode cX10_parts 102 = .ok (.if_icmp .le 8, 3) := by decide +kernel
theorem dX10_parts_105 : decode cX10_parts 105 = .ok (.iload 6, 2) := by decide +kernel
theorem dX10_parts_107 : decode cX10_parts 107 = .ok (.goto 5, 3) := by decide +kernel
theorem dX10_parts_110 : decode cX10_parts 110 = .ok (.iload 4, 2) := by decide +kernel
theorem dX10_parts_112 : decode cX10_parts 112 = .ok (.istore 4, 2) := by decide +kernel
theorem dX10_parts_114 : decode cX10_parts 114 = .ok (.iinc 5 1, 3) := by decide +kernel
theorem dX10_parts_117 : decode cX10_parts 117 = .ok (.goto (-49), 3) := by decide +kernel
theorem dX10_parts_120 : decode cX10_parts 120 = .ok (.iload_n 2, 1) := by decide +kernel
theorem dX10_parts_121 : decode cX10_parts 121 = .ok (.ifCond .ne 7, 3) := by decide +kernel
theorem dX10_parts_124 : decode cX10_parts 124 = .ok (.iload_n 3, 1) := by decide +kernel
theorem dX10_parts_125 : decode cX10_parts 125 = .ok (.goto 5, 3) := by decide +kernel
theorem dX10_parts_128 : decode cX10_parts 128 = .ok (.iload 4, 2) := by decide +kernel
theorem dX10_parts_130 : decode cX10_parts 130 = .ok (.ireturn, 1) := by decide +kernel
theorem dX10_frees_0 : decode cX10_frees 0 = .ok (.aload_n 0, 1) := by decide +kernel
theorem dX10_frees_1 : decode cX10_frees 1 = .ok (.iload_n 1, 1) := by decide +kernel
theorem dX10_frees_2 : decode cX10_frees 2 = .ok (.invokevirtual 166, 3) := by decide +kernel
theorem dX10_frees_5 : decode cX10_frees 5 = .ok (.ifCond .ne 6, 3) := by decide +kernel
theorem dX10_frees_8 : decode cX10_frees 8 = .ok (.bipush (-2), 2) := by decide +kernel
theorem dX10_frees_10 : decode cX10_frees 10 = .ok (.ireturn, 1) := by decide +kernel
theorem dX10_frees_11 : decode cX10_frees 11 = .ok (.iconst 0, 1) := by decide +kernel
theorem dX10_frees_12 : decode cX10_frees 12 = .ok (.istore_n 2, 1) := by decide +kernel
theorem dX10_frees_13 : decode cX10_frees 13 = .ok (.iconst 0, 1) := by decide +kernel
theorem dX10_frees_14 : decode cX10_frees 14 = .ok (.istore_n 3, 1) := by decide +kernel
theorem dX10_frees_15 : decode cX10_frees 15 = .ok (.iload_n 3, 1) := by decide +kernel
theorem dX10_frees_16 : decode cX10_frees 16 = .ok (.aload_n 0, 1) := by decide +kernel
theorem dX10_frees_17 : decode cX10_frees 17 = .ok (.invokevirtual 57, 3) := by decide +kernel
theorem dX10_frees_20 : decode cX10_frees 20 = .ok (.if_icmp .ge 38, 3) := by decide +kernel
theorem dX10_frees_23 : decode cX10_frees 23 = .ok (.iload_n 2, 1) := by decide +kernel
theorem dX10_frees_24 : decode cX10_frees 24 = .ok (.aload_n 0, 1) := by decide +kernel
theorem dX10_frees_25 : decode cX10_frees 25 = .ok (.iload_n 3, 1) := by decide +kernel
theorem dX10_frees_26 : decode cX10_frees 26 = .ok (.invokevirtual 193, 3) := by decide +kernel
theorem dX10_frees_29 : decode cX10_frees 29 = .ok (.ifCond .le 20, 3) := by decide +kernel
theorem dX10_frees_32 : decode cX10_frees 32 = .ok (.aload_n 0, 1) := by decide +kernel
theorem dX10_frees_33 : decode cX10_frees 33 = .ok (.iload_n 3, 1) := by decide +kernel
theorem dX10_frees_34 : decode cX10_frees 34 = .ok (.aload_n 0, 1) := by decide +kernel
theorem dX10_frees_35 : decode cX10_frees 35 = .ok (.invokevirtual 184, 3) := by decide +kernel
theorem dX10_frees_38 : decode cX10_frees 38 = .ok (.invokevirtual 187, 3) := by decide +kernel
theorem dX10_frees_41 : decode cX10_frees 41 = .ok (.iload_n 1, 1) := by decide +kernel
theorem dX10_frees_42 : decode cX10_frees 42 = .ok (.if_icmp .ne 7, 3) := by decide +kernel
theorem dX10_frees_45 : decode cX10_frees 45 = .ok (.iconst 1, 1) := by decide +kernel
theorem dX10_frees_46 : decode cX10_frees 46 = .ok (.goto 4, 3) := by decide +kernel
theorem dX10_frees_49 : decode cX10_frees 49 = .ok (.iconst 0, 1) := by decide +kernel
theorem dX10_frees_50 : decode cX10_frees 50 = .ok (.iadd, 1) := by decide +kernel
theorem dX10_frees_51 : decode cX10_frees 51 = .ok (.istore_n 2, 1) := by decide +kernel
theorem dX10_frees_52 : decode cX10_frees 52 = .ok (.iinc 3 1, 3) := by decide +kernel
theorem dX10_frees_55 : decode cX10_frees 55 = .ok (.goto (-40), 3) := by decide +kernel
theorem dX10_frees_58 : decode cX10_frees 58 = .ok (.iload_n 2, 1) := by decide +kernel
theorem dX10_frees_59 : decode cX10_frees 59 = .ok (.ireturn, 1) := by decide +kernel
theorem dX10_back_0 : decode cX10_back 0 = .ok (.iload_n 1, 1) := by decide +kernel
theorem dX10_back_1 : decode cX10_back 1 = .ok (.iconst 0, 1) := by decide +kernel
theorem dX10_back_2 : decode cX10_back 2 = .ok (.iconst 1, 1) := by decide +kernel
theorem dX10_back_3 : decode cX10_back 3 = .ok (.invokestatic 61, 3) := by decide +kernel
theorem dX10_back_6 : decode cX10_back 6 = .ok (.ifCond .ne 6, 3) := by decide +kernel
theorem dX10_back_9 : decode cX10_back 9 = .ok (.bipush (-2), 2) := by decide +kernel
theorem dX10_back_11 : decode cX10_back 11 = .ok (.ireturn, 1) := by decide +kernel
theorem dX10_back_12 : decode cX10_back 12 = .ok (.aload_n 0, 1) := by decide +kernel
theorem dX10_back_13 : decode cX10_back 13 = .ok (.getfield 44, 3) := by decide +kernel
theorem dX10_back_16 : decode cX10_back 16 = .ok (.iload_n 1, 1) := by decide +kernel
theorem dX10_back_17 : decode cX10_back 17 = .ok (.baload, 1) := by decide +kernel
theorem dX10_back_18 : decode cX10_back 18 = .ok (.ifCond .ne 6, 3) := by decide +kernel
theorem dX10_back_21 : decode cX10_back 21 = .ok (.bipush (-4), 2) := by decide +kernel
theorem dX10_back_23 : decode cX10_back 23 = .ok (.ireturn, 1) := by decide +kernel
theorem dX10_back_24 : decode cX10_back 24 = .ok (.aload_n 0, 1) := by decide +kernel
theorem dX10_back_25 : decode cX10_back 25 = .ok (.aload_n 0, 1) := by decide +kernel
theorem dX10_back_26 : decode cX10_back 26 = .ok (.getfield 41, 3) := by decide +kernel
theorem dX10_back_29 : decode cX10_back 29 = .ok (.bipush 49, 2) := by decide +kernel
theorem dX10_back_31 : decode cX10_back 31 = .ok (.iload_n 1, 1) := by decide +kernel
theorem dX10_back_32 : decode cX10_back 32 = .ok (.imul, 1) := by decide +kernel
theorem dX10_back_33 : decode cX10_back 33 = .ok (.iaload, 1) := by decide +kernel
theorem dX10_back_34 : decode cX10_back 34 = .ok (.putfield 54, 3) := by decide +kernel
theorem dX10_back_37 : decode cX10_back 37 = .ok (.iconst 0, 1) := by decide +kernel
theorem dX10_back_38 : decode cX10_back 38 = .ok (.istore_n 2, 1) := by decide +kernel
theorem dX10_back_39 : decode cX10_back 39 = .ok (.iload_n 2, 1) := by decide +kernel
theorem dX10_back_40 : decode cX10_back 40 = .ok (.bipush 48, 2) := by decide +kernel
theorem dX10_back_42 : decode cX10_back 42 = .ok (.if_icmp .ge 28, 3) := by decide +kernel
theorem dX10_back_45 : decode cX10_back 45 = .ok (.aload_n 0, 1) := by decide +kernel
theorem dX10_back_46 : decode cX10_back 46 = .ok (.getfield 20, 3) := by decide +kernel
theorem dX10_back_49 : decode cX10_back 49 = .ok (.iload_n 2, 1) := by decide +kernel
theorem dX10_back_50 : decode cX10_back 50 = .ok (.aload_n 0, 1) := by decide +kernel
theorem dX10_back_51 : decode cX10_back 51 = .ok (.getfield 41, 3) := by decide +kernel
theorem dX10_back_54 : decode cX10_back 54 = .ok (.bipush 49, 2) := by decide +kernel
theorem dX10_back_56 : decode cX10_back 56 = .ok (.iload_n 1, 1) := by decide +kernel
theorem dX10_back_57 : decode cX10_back 57 = .ok (.imul, 1) := by decide +kernel
theorem dX10_back_58 : decode cX10_back 58 = .ok (.iconst 1, 1) := by decide +kernel
theorem dX10_back_59 : decode cX10_back 59 = .ok (.iadd, 1) := by decide +kernel
theorem dX10_back_60 : decode cX10_back 60 = .ok (.iload_n 2, 1) := by decide +kernel
theorem dX10_back_61 : decode cX10_back 61 = .ok (.iadd, 1) := by decide +kernel
theorem dX10_back_62 : decode cX10_back 62 = .ok (.iaload, 1) := by decide +kernel
theorem dX10_back_63 : decode cX10_back 63 = .ok (.iastore, 1) := by decide +kernel
theorem dX10_back_64 : decode cX10_back 64 = .ok (.iinc 2 1, 3) := by decide +kernel
theorem dX10_back_67 : decode cX10_back 67 = .ok (.goto (-28), 3) := by decide +kernel
theorem dX10_back_70 : decode cX10_back 70 = .ok (.aload_n 0, 1) := by decide +kernel
theorem dX10_back_71 : decode cX10_back 71 = .ok (.getfield 54, 3) := by decide +kernel
theorem dX10_back_74 : decode cX10_back 74 = .ok (.ireturn, 1) := by decide +kernel
