theorem dX10_in_0 : decode cX10_in 0 = .ok (.iload_n 0, 1) := by decide +kernel
theorem dX10_in_1 : decode cX10_in 1 = .ok (.iload_n 1, 1) := by decide +kernel
theorem dX10_in_2 : decode cX10_in 2 = .ok (.if_icmp .lt 12, 3) := by decide +kernel
theorem dX10_in_5 : decode cX10_in 5 = .ok (.iload_n 0, 1) := by decide +kernel
theorem dX10_in_6 : decode cX10_in 6 = .ok (.iload_n 2, 1) := by decide +kernel
theorem dX10_in_7 : decode cX10_in 7 = .ok (.if_icmp .gt 7, 3) := by decide +kernel
theorem dX10_in_10 : decode cX10_in 10 = .ok (.iconst 1, 1) := by decide +kernel
theorem dX10_in_11 : decode cX10_in 11 = .ok (.goto 4, 3) := by decide +kernel
theorem dX10_in_14 : decode cX10_in 14 = .ok (.iconst 0, 1) := by decide +kernel
theorem dX10_in_15 : decode cX10_in 15 = .ok (.ireturn, 1) := by decide +kernel
theorem dX10_bits_0 : decode cX10_bits 0 = .ok (.iconst 0, 1) := by decide +kernel
theorem dX10_bits_1 : decode cX10_bits 1 = .ok (.istore_n 1, 1) := by decide +kernel
theorem dX10_bits_2 : decode cX10_bits 2 = .ok (.iconst 0, 1) := by decide +kernel
theorem dX10_bits_3 : decode cX10_bits 3 = .ok (.istore_n 2, 1) := by decide +kernel
theorem dX10_bits_4 : decode cX10_bits 4 = .ok (.iload_n 2, 1) := by decide +kernel
theorem dX10_bits_5 : decode cX10_bits 5 = .ok (.bipush 14, 2) := by decide +kernel
theorem dX10_bits_7 : decode cX10_bits 7 = .ok (.if_icmp .ge 17, 3) := by decide +kernel
theorem dX10_bits_10 : decode cX10_bits 10 = .ok (.iload_n 1, 1) := by decide +kernel
theorem dX10_bits_11 : decode cX10_bits 11 = .ok (.iload_n 0, 1) := by decide +kernel
theorem dX10_bits_12 : decode cX10_bits 12 = .ok (.iload_n 2, 1) := by decide +kernel
theorem dX10_bits_13 : decode cX10_bits 13 = .ok (.ishr, 1) := by decide +kernel
theorem dX10_bits_14 : decode cX10_bits 14 = .ok (.iconst 1, 1) := by decide +kernel
theorem dX10_bits_15 : decode cX10_bits 15 = .ok (.iand, 1) := by decide +kernel
theorem dX10_bits_16 : decode cX10_bits 16 = .ok (.iadd, 1) := by decide +kernel
theorem dX10_bits_17 : decode cX10_bits 17 = .ok (.istore_n 1, 1) := by decide +kernel
theorem dX10_bits_18 : decode cX10_bits 18 = .ok (.iinc 2 1, 3) := by decide +kernel
theorem dX10_bits_21 : decode cX10_bits 21 = .ok (.goto (-17), 3) := by decide +kernel
theorem dX10_bits_24 : decode cX10_bits 24 = .ok (.iload_n 1, 1) := by decide +kernel
theorem dX10_bits_25 : decode cX10_bits 25 = .ok (.ireturn, 1) := by decide +kernel
theorem dX10_deedMany_0 : decode cX10_deedMany 0 = .ok (.iconst 1, 1) := by decide +kernel
theorem dX10_deedMany_1 : decode cX10_deedMany 1 = .ok (.aload_n 0, 1) := by decide +kernel
theorem dX10_deedMany_2 : decode cX10_deedMany 2 = .ok (.getfield 7, 3) := by decide +kernel
theorem dX10_deedMany_5 : decode cX10_deedMany 5 = .ok (.ishl, 1) := by decide +kernel
theorem dX10_deedMany_6 : decode cX10_deedMany 6 = .ok (.ireturn, 1) := by decide +kernel
theorem dX10_isCase_0 : decode cX10_isCase 0 = .ok (.iload_n 1, 1) := by decide +kernel
theorem dX10_isCase_1 : decode cX10_isCase 1 = .ok (.iconst 0, 1) := by decide +kernel
theorem dX10_isCase_2 : decode cX10_isCase 2 = .ok (.aload_n 0, 1) := by decide +kernel
theorem dX10_isCase_3 : decode cX10_isCase 3 = .ok (.getfield 54, 3) := by decide +kernel
theorem dX10_isCase_6 : decode cX10_isCase 6 = .ok (.iconst 1, 1) := by decide +kernel
theorem dX10_isCase_7 : decode cX10_isCase 7 = .ok (.isub, 1) := by decide +kernel
theorem dX10_isCase_8 : decode cX10_isCase 8 = .ok (.invokestatic 61, 3) := by decide +kernel
theorem dX10_isCase_11 : decode cX10_isCase 11 = .ok (.ireturn, 1) := by decide +kernel
theorem dX10_erase_0 : decode cX10_erase 0 = .ok (.aload_n 0, 1) := by decide +kernel
theorem dX10_erase_1 : decode cX10_erase 1 = .ok (.getfield 65, 3) := by decide +kernel
theorem dX10_erase_4 : decode cX10_erase 4 = .ok (.istore_n 1, 1) := by decide +kernel
theorem dX10_erase_5 : decode cX10_erase 5 = .ok (.aload_n 0, 1) := by decide +kernel
theorem dX10_erase_6 : decode cX10_erase 6 = .ok (.iconst 0, 1) := by decide +kernel
theorem dX10_erase_7 : decode cX10_erase 7 = .ok (.putfield 65, 3) := by decide +kernel
theorem dX10_erase_10 : decode cX10_erase 10 = .ok (.iload_n 1, 1) := by decide +kernel
theorem dX10_erase_11 : decode cX10_erase 11 = .ok (.ireturn, 1) := by decide +kernel
theorem dX10_fails_0 : decode cX10_fails 0 = .ok (.aload_n 0, 1) := by decide +kernel
theorem dX10_fails_1 : decode cX10_fails 1 = .ok (.aload_n 0, 1) := by decide +kernel
theorem dX10_fails_2 : decode cX10_fails 2 = .ok (.getfield 73, 3) := by decide +kernel
theorem dX10_fails_5 : decode cX10_fails 5 = .ok (.putfield 105, 3) := by decide +kernel
theorem dX10_fails_8 : decode cX10_fails 8 = .ok (.iconst 0, 1) := by decide +kernel
theorem dX10_fails_9 : decode cX10_fails 9 = .ok (.ireturn, 1) := by decide +kernel
theorem dX10_isDeedRow_0 : decode cX10_isDeedRow 0 = .ok (.aload_n 0, 1) := by decide +kernel
theorem dX10_isDeedRow_1 : decode cX10_isDeedRow 1 = .ok (.invokevirtual 108, 3) := by decide +kernel
theorem dX10_isDeedRow_4 : decode cX10_isDeedRow 4 = .ok (.aload_n 0, 1) := by decide +kernel
theorem dX10_isDeedRow_5 : decode cX10_isDeedRow 5 = .ok (.getfield 91, 3) := by decide +kernel
theorem dX10_isDeedRow_8 : decode cX10_isDeedRow 8 = .ok (.ldc2_w 101, 3) := by decide +kernel
theorem dX10_isDeedRow_11 : decode cX10_isDeedRow 11 = .ok (.lcmp, 1) := by decide +kernel
theorem dX10_isDeedRow_12 : decode cX10_isDeedRow 12 = .ok (.ifCond .ne 21, 3) := by decide +kernel
theorem dX10_isDeedRow_15 : decode cX10_isDeedRow 15 = .ok (.aload_n 0, 1) := by decide +kernel
theorem dX10_isDeedRow_16 : decode cX10_isDeedRow 16 = .ok (.getfield 76, 3) := by decide +kernel
theorem dX10_isDeedRow_19 : decode cX10_isDeedRow 19 = .ok (.aload_n 0, 1) := by decide +kernel
theorem dX10_isDeedRow_20 : decode cX10_isDeedRow 20 = .ok (.getfield 115, 3) := by decide +kernel
theorem dX10_isDeedRow_23 : decode cX10_isDeedRow 23 = .ok (.if_icmp .ne 10, 3) := by decide +kernel
theorem dX10_isDeedRow_26 : decode cX10_isDeedRow 26 = .ok (.aload_n 0, 1) := by decide +kernel
theorem dX10_isDeedRow_27 : decode cX10_isDeedRow 27 = .ok (.getfield 85, 3) := by decide +kernel
theorem dX10_isDeedRow_30 : decode cX10_isDeedRow 30 = .ok (.ifCond .ne 8, 3) := by decide +kernel
theorem dX10_isDeedRow_33 : decode cX10_isDeedRow 33 = .ok (.aload_n 0, 1) := by decide +kernel
theorem dX10_isDeedRow_34 : decode cX10_isDeedRow 34 = .ok (.invokevirtual 111, 3) := by decide +kernel
theorem dX10_isDeedRow_37 : decode cX10_isDeedRow 37 = .ok (.ireturn, 1) := by decide +kernel
theorem dX10_isDeedRow_38 : decode cX10_isDeedRow 38 = .ok (.aload_n 0, 1) := by decide +kernel
theorem dX10_isDeedRow_39 : decode cX10_isDeedRow 39 = .ok (.getfield 26, 3) := by decide +kernel
theorem dX10_isDeedRow_42 : decode cX10_isDeedRow 42 = .ok (.iload_n 1, 1) := by decide +kernel
theorem dX10_isDeedRow_43 : decode cX10_isDeedRow 43 = .ok (.aload_n 0, 1) := by decide +kernel
theorem dX10_isDeedRow_44 : decode cX10_isDeedRow 44 = .ok (.getfield 82, 3) := by decide +kernel
theorem dX10_isDeedRow_47 : decode cX10_isDeedRow 47 = .ok (.iastore, 1) := by decide +kernel
theorem dX10_isDeedRow_48 : decode cX10_isDeedRow 48 = .ok (.iconst 1, 1) := by decide +kernel
theorem dX10_isDeedRow_49 : decode cX10_isDeedRow 49 = .ok (.ireturn, 1) := by decide +kernel
theorem dX10_isCaseLine_0 : decode cX10_isCaseLine 0 = .ok (.aload_n 0, 1) := by decide +kernel
theorem dX10_isCaseLine_1 : decode cX10_isCaseLine 1 = .ok (.getfield 121, 3) := by decide +kernel
theorem dX10_isCaseLine_4 : decode cX10_isCaseLine 4 = .ok (.bipush 12, 2) := by decide +kernel
theorem dX10_isCaseLine_6 : decode cX10_isCaseLine 6 = .ok (.if_icmp .ne 8, 3) := by decide +kernel
theorem dX10_isCaseLine_9 : decode cX10_isCaseLine 9 = .ok (.aload_n 0, 1) := by decide +kernel
theorem dX10_isCaseLine_10 : decode cX10_isCaseLine 10 = .ok (.invokevirtual 111, 3) := by decide +kernel
theorem dX10_isCaseLine_13 : decode cX10_isCaseLine 13 = .ok (.ireturn, 1) := by decide +kernel
theorem dX10_isCaseLine_14 : decode cX10_isCaseLine 14 = .ok (.aload_n 0, 1) := by decide +kernel
theorem dX10_isCaseLine_15 : decode cX10_isCaseLine 15 = .ok (.dup, 1) := by decide +kernel
theorem dX10_isCaseLine_16 : decode cX10_isCaseLine 16 = .ok (.getfield 121, 3) := by decide +kernel
theorem dX10_isCaseLine_19 : decode cX10_isCaseLine 19 = .ok (.iconst 1, 1) := by decide +kernel
theorem dX10_isCaseLine_20 : decode cX10_isCaseLine 20 = .ok (.iadd, 1) := by decide +kernel
theorem dX10_isCaseLine_21 : decode cX10_isCaseLine 21 = .ok (.putfield 121, 3) := by decide +kernel
theorem dX10_isCaseLine_24 : decode cX10_isCaseLine 24 = .ok (.aload_n 0, 1) := by decide +kernel
theorem dX10_isCaseLine_25 : decode cX10_isCaseLine 25 = .ok (.iload_n 1, 1) := by decide +kernel
theorem dX10_isCaseLine_26 : decode cX10_isCaseLine 26 = .ok (.iconst 1, 1) := by decide +kernel
theorem dX10_isCaseLine_27 : decode cX10_isCaseLine 27 = .ok (.iadd, 1) := by decide +kernel
theorem dX10_isCaseLine_28 : decode cX10_isCaseLine 28 = .ok (.invokevirtual 124, 3) := by decide +kernel
theorem dX10_isCaseLine_31 : decode cX10_isCaseLine 31 = .ok (.ifCond .eq 33, 3) := by decide +kernel
theorem dX10_isCaseLine_34 : decode cX10_isCaseLine 34 = .ok (.aload_n 0, 1) := by decide +kernel
theorem dX10_isCaseLine_35 : decode cX10_isCaseLine 35 = .ok (.iload_n 1, 1) := by decide +kernel
theorem dX10_isCaseLine_36 : decode cX10_isCaseLine 36 = .ok (.iconst 2, 1) := by decide +kernel
theorem dX10_isCaseLine_37 : decode cX10_isCaseLine 37 = .ok (.iadd, 1) := by decide +kernel
theorem dX10_isCaseLine_38 : decode cX10_isCaseLine 38 = .ok (.iconst 0, 1) := by decide +kernel
theorem dX10_isCaseLine_39 : decode cX10_isCaseLine 39 = .ok (.iconst 3, 1) := by decide +kernel
theorem dX10_isCaseLine_40 : decode cX10_isCaseLine 40 = .ok (.invokevirtual 118, 3) := by decide +kernel
theorem dX10_isCaseLine_43 : decode cX10_isCaseLine 43 = .ok (.ifCond .eq 21, 3) := by decide +kernel
theorem dX10_isCaseLine_46 : decode cX10_isCaseLine 46 = .ok (.aload_n 0, 1) := by decide +kernel
theorem dX10_isCaseLine_47 : decode cX10_isCaseLine 47 = .ok (.iload_n 1, 1) := by decide +kernel
theorem dX10_isCaseLine_48 : decode cX10_isCaseLine 48 = .ok (.iconst 3, 1) := by decide +kernel
theorem dX10_isCaseLine_49 : decode cX10_isCaseLine 49 = .ok (.iadd, 1) := by decide +kernel
theorem dX10_isCaseLine_50 : decode cX10_isCaseLine 50 = .ok (.iconst 0, 1) := by decide +kernel
theorem dX10_isCaseLine_51 : decode cX10_isCaseLine 51 = .ok (.sipush 9999, 3) := by decide +kernel
theorem dX10_isCaseLine_54 : decode cX10_isCaseLine 54 = .ok (.invokevirtual 118, 3) := by decide +kernel
theorem dX10_isCaseLine_57 : decode cX10_isCaseLine 57 = .ok (.ifCond .eq 7, 3) := by decide +kernel
theorem dX10_isCaseLine_60 : decode cX10_isCaseLine 60 = .ok (.iconst 1, 1) := by decide +kernel
theorem dX10_isCaseLine_61 : decode cX10_isCaseLine 61 = .ok (.goto 4, 3) := by decide +kernel
theorem dX10_isCaseLine_64 : decode cX10_isCaseLine 64 = .ok (.iconst 0, 1) := by decide +kernel
theorem dX10_isCaseLine_65 : decode cX10_isCaseLine 65 = .ok (.ireturn, 1) := by decide +kernel
theorem dX10_isLine_0 : decode cX10_isLine 0 = .ok (.aload_n 0, 1) := by decide +kernel
theorem dX10_isLine_1 : decode cX10_isLine 1 = .ok (.invokevirtual 108, 3) := by decide +kernel
theorem dX10_isLine_4 : decode cX10_isLine 4 = .ok (.aload_n 0, 1) := by decide +kernel
theorem dX10_isLine_5 : decode cX10_isLine 5 = .ok (.getfield 26, 3) := by decide +kernel
theorem dX10_isLine_8 : decode cX10_isLine 8 = .ok (.iload_n 1, 1) := by decide +kernel
theorem dX10_isLine_9 : decode cX10_isLine 9 = .ok (.aload_n 0, 1) := by decide +kernel
theorem dX10_isLine_10 : decode cX10_isLine 10 = .ok (.getfield 91, 3) := by decide +kernel
theorem dX10_isLine_13 : decode cX10_isLine 13 = .ok (.ldc2_w 128, 3) := by decide +kernel
theorem dX10_isLine_16 : decode cX10_isLine 16 = .ok (.lcmp, 1) := by decide +kernel
theorem dX10_isLine_17 : decode cX10_isLine 17 = .ok (.ifCond .ne 7, 3) := by decide +kernel
theorem dX10_isLine_20 : decode cX10_isLine 20 = .ok (.iconst 0, 1) := by decide +kernel
theorem dX10_isLine_21 : decode cX10_isLine 21 = .ok (.goto 79, 3) := by decide +kernel
theorem dX10_isLine_24 : decode cX10_isLine 24 = .ok (.aload_n 0, 1) := by decide +kernel
theorem dX10_isLine_25 : decode cX10_isLine 25 = .ok (.getfield 91, 3) := by decide +kernel
theorem dX10_isLine_28 : decode cX10_isLine 28 = .ok (.ldc2_w 130, 3) := by decide +kernel
theorem dX10_isLine_31 : decode cX10_isLine 31 = .ok (.lcmp, 1) := by decide +kernel
theorem dX10_isLine_32 : decode cX10_isLine 32 = .ok (.ifCond .ne 7, 3) := by decide +kernel
theorem dX10_isLine_35 : decode cX10_isLine 35 = .ok (.iconst 1, 1) := by decide +kernel
theorem dX10_isLine_36 : decode cX10_isLine 36 = .ok (.goto 64, 3) := by decide +kernel
theorem dX10_isLine_39 : decode cX10_isLine 39 = .ok (.aload_n 0, 1) := by decide +kernel
theorem dX10_isLine_40 : decode cX10_isLine 40 = .ok (.getfield 91, 3) := by decide +kernel
theorem dX10_isLine_43 : decode cX10_isLine 43 = .ok (.ldc2_w 132, 3) := by decide +kernel
theorem dX10_isLine_46 : decode cX10_isLine 46 = .ok (.lcmp, 1) := by decide +kernel
theorem dX10_isLine_47 : decode cX10_isLine 47 = .ok (.ifCond .ne 7, 3) := by decide +kernel
theorem dX10_isLine_50 : decode cX10_isLine 50 = .ok (.iconst 2, 1) := by decide +kernel
theorem dX10_isLine_51 : decode cX10_isLine 51 = .ok (.goto 49, 3) := by decide +kernel
theorem dX10_isLine_54 : decode cX10_isLine 54 = .ok (.aload_n 0, 1) := by decide +kernel
theorem dX10_isLine_55 : decode cX10_isLine 55 = .ok (.getfield 91, 3) := by decide +kernel
theorem dX10_isLine_58 : decode cX10_isLine 58 = .ok (.ldc2_w 134, 3) := by decide +kernel
theorem dX10_isLine_61 : decode cX10_isLine 61 = .ok (.lcmp, 1) := by decide +kernel
theorem dX10_isLine_62 : decode cX10_isLine 62 = .ok (.ifCond .ne 7, 3) := by decide +kernel
theorem dX10_isLine_65 : decode cX10_isLine 65 = .ok (.iconst 3, 1) := by decide +kernel
theorem dX10_isLine_66 : decode cX10_isLine 66 = .ok (.goto 34, 3) := by decide +kernel
theorem dX10_isLine_69 : decode cX10_isLine 69 = .ok (.aload_n 0, 1) := by decide +kernel
theorem dX10_isLine_70 : decode cX10_isLine 70 = .ok (.getfield 91, 3) := by decide +kernel
theorem dX10_isLine_73 : decode cX10_isLine 73 = .ok (.ldc2_w 136, 3) := by decide +kernel
theorem dX10_isLine_76 : decode cX10_isLine 76 = .ok (.lcmp, 1) := by decide +kernel
theorem dX10_isLine_77 : decode cX10_isLine 77 = .ok (.ifCond .ne 7, 3) := by decide +kernel
theorem dX10_isLine_80 : decode cX10_isLine 80 = .ok (.iconst 4, 1) := by decide +kernel
theorem dX10_isLine_81 : decode cX10_isLine 81 = .ok (.goto 19, 3) := by decide +kernel
theorem dX10_isLine_84 : decode cX10_isLine 84 = .ok (.aload_n 0, 1) := by decide +kernel
theorem dX10_isLine_85 : decode cX10_isLine 85 = .ok (.getfield 91, 3) := by decide +kernel
theorem dX10_isLine_88 : decode cX10_isLine 88 = .ok (.ldc2_w 138, 3) := by decide +kernel
theorem dX10_isLine_91 : decode cX10_isLine 91 = .ok (.lcmp, 1) := by decide +kernel
theorem dX10_isLine_92 : decode cX10_isLine 92 = .ok (.ifCond .ne 7, 3) := by decide +kernel
theorem dX10_isLine_95 : decode cX10_isLine 95 = .ok (.iconst 5, 1) := by decide +kernel
theorem dX10_isLine_96 : decode cX10_isLine 96 = .ok (.goto 4, 3) := by decide +kernel
theorem dX10_isLine_99 : decode cX10_isLine 99 = .ok (.iconst (-1), 1) := by decide +kernel
theorem dX10_isLine_100 : decode cX10_isLine 100 = .ok (.iastore, 1) := by decide +kernel
theorem dX10_isLine_101 : decode cX10_isLine 101 = .ok (.aload_n 0, 1) := by decide +kernel
theorem dX10_isLine_102 : decode cX10_isLine 102 = .ok (.getfield 26, 3) := by decide +kernel
theorem dX10_isLine_105 : decode cX10_isLine 105 = .ok (.iload_n 1, 1) := by decide +kernel
theorem dX10_isLine_106 : decode cX10_isLine 106 = .ok (.iaload, 1) := by decide +kernel
theorem dX10_isLine_107 : decode cX10_isLine 107 = .ok (.tableswitch 106 0 5 #[37, 43, 43, 79, 85, 100], 37) := by decide +kernel
theorem dX10_isLine_144 : decode cX10_isLine 144 = .ok (.aload_n 0, 1) := by decide +kernel
theorem dX10_isLine_145 : decode cX10_isLine 145 = .ok (.iload_n 1, 1) := by decide +kernel
theorem dX10_isLine_146 : decode cX10_isLine 146 = .ok (.invokevirtual 140, 3) := by decide +kernel
theorem dX10_isLine_149 : decode cX10_isLine 149 = .ok (.ireturn, 1) := by decide +kernel
theorem dX10_isLine_150 : decode cX10_isLine 150 = .ok (.aload_n 0, 1) := by decide +kernel
theorem dX10_isLine_151 : decode cX10_isLine 151 = .ok (.iload_n 1, 1) := by decide +kernel
theorem dX10_isLine_152 : decode cX10_isLine 152 = .ok (.iconst 1, 1) := by decide +kernel
theorem dX10_isLine_153 : decode cX10_isLine 153 = .ok (.iadd, 1) := by decide +kernel
theorem dX10_isLine_154 : decode cX10_isLine 154 = .ok (.iconst 0, 1) := by decide +kernel
theorem dX10_isLine_155 : decode cX10_isLine 155 = .ok (.aload_n 0, 1) := by decide +kernel
theorem dX10_isLine_156 : decode cX10_isLine 156 = .ok (.getfield 115, 3) := by decide +kernel
theorem dX10_isLine_159 : decode cX10_isLine 159 = .ok (.iconst 1, 1) := by decide +kernel
theorem dX10_isLine_160 : decode cX10_isLine 160 = .ok (.isub, 1) := by decide +kernel
theorem dX10_isLine_161 : decode cX10_isLine 161 = .ok (.invokevirtual 118, 3) := by decide +kernel
theorem dX10_isLine_164 : decode cX10_isLine 164 = .ok (.ifCond .eq 20, 3) := by decide +kernel
theorem dX10_isLine_167 : decode cX10_isLine 167 = .ok (.aload_n 0, 1) := by decide +kernel
theorem dX10_isLine_168 : decode cX10_isLine 168 = .ok (.iload_n 1, 1) := by decide +kernel
theorem dX10_isLine_169 : decode cX10_isLine 169 = .ok (.iconst 2, 1) := by decide +kernel
theorem dX10_isLine_170 : decode cX10_isLine 170 = .ok (.iadd, 1) := by decide +kernel
theorem dX10_isLine_171 : decode cX10_isLine 171 = .ok (.iconst 0, 1) := by decide +kernel
theorem dX10_isLine_172 : decode cX10_isLine 172 = .ok (.bipush 9, 2) := by decide +kernel
theorem dX10_isLine_174 : decode cX10_isLine 174 = .ok (.invokevirtual 118, 3) := by decide +kernel
theorem dX10_isLine_177 : decode cX10_isLine 177 = .ok (.ifCond .eq 7, 3) := by decide +kernel
theorem dX10_isLine_180 : decode cX10_isLine 180 = .ok (.iconst 1, 1) := by decide +kernel
theorem dX10_isLine_181 : decode cX10_isLine 181 = .ok (.goto 4, 3) := by decide +kernel
theorem dX10_isLine_184 : decode cX10_isLine 184 = .ok (.iconst 0, 1) := by decide +kernel
theorem dX10_isLine_185 : decode cX10_isLine 185 = .ok (.ireturn, 1) := by decide +kernel
theorem dX10_isLine_186 : decode cX10_isLine 186 = .ok (.aload_n 0, 1) := by decide +kernel
theorem dX10_isLine_187 : decode cX10_isLine 187 = .ok (.iload_n 1, 1) := by decide +kernel
theorem dX10_isLine_188 : decode cX10_isLine 188 = .ok (.invokevirtual 143, 3) := by decide +kernel
theorem dX10_isLine_191 : decode cX10_isLine 191 = .ok (.ireturn, 1) := by decide +kernel
theorem dX10_isLine_192 : decode cX10_isLine 192 = .ok (.aload_n 0, 1) := by decide +kernel
theorem dX10_isLine_193 : decode cX10_isLine 193 = .ok (.iload_n 1, 1) := by decide +kernel
theorem dX10_isLine_194 : decode cX10_isLine 194 = .ok (.iconst 1, 1) := by decide +kernel
theorem dX10_isLine_195 : decode cX10_isLine 195 = .ok (.iadd, 1) := by decide +kernel
theorem dX10_isLine_196 : decode cX10_isLine 196 = .ok (.iconst 0, 1) := by decide +kernel
theorem dX10_isLine_197 : decode cX10_isLine 197 = .ok (.aload_n 0, 1) := by decide +kernel
theorem dX10_isLine_198 : decode cX10_isLine 198 = .ok (.getfield 121, 3) := by decide +kernel
theorem dX10_isLine_201 : decode cX10_isLine 201 = .ok (.iconst 1, 1) := by decide +kernel
theorem dX10_isLine_202 : decode cX10_isLine 202 = .ok (.isub, 1) := by decide +kernel
theorem dX10_isLine_203 : decode cX10_isLine 203 = .ok (.invokevirtual 118, 3) := by decide +kernel
theorem dX10_isLine_206 : decode cX10_isLine 206 = .ok (.ireturn, 1) := by decide +kernel
theorem dX10_isLine_207 : decode cX10_isLine 207 = .ok (.aload_n 0, 1) := by decide +kernel
theorem dX10_isLine_208 : decode cX10_isLine 208 = .ok (.iload_n 1, 1) := by decide +kernel
theorem dX10_isLine_209 : decode cX10_isLine 209 = .ok (.invokevirtual 146, 3) := by decide +kernel
theorem dX10_isLine_212 : decode cX10_isLine 212 = .ok (.ireturn, 1) := by decide +kernel
theorem dX10_isLine_213 : decode cX10_isLine 213 = .ok (.aload_n 0, 1) := by decide +kernel
theorem dX10_isLine_214 : decode cX10_isLine 214 = .ok (.invokevirtual 111, 3) := by decide +kernel
theorem dX10_isLine_217 : decode cX10_isLine 217 = .ok (.ireturn, 1) := by decide +kernel
theorem dX10_fault_0 : decode cX10_fault 0 = .ok (.aload_n 0, 1) := by decide +kernel
theorem dX10_fault_1 : decode cX10_fault 1 = .ok (.invokevirtual 155, 3) := by decide +kernel
theorem dX10_fault_4 : decode cX10_fault 4 = .ok (.ifCond .eq 7, 3) := by decide +kernel
theorem dX10_fault_7 : decode cX10_fault 7 = .ok (.iconst (-1), 1) := by decide +kernel
theorem dX10_fault_8 : decode cX10_fault 8 = .ok (.goto 7, 3) := by decide +kernel
theorem dX10_fault_11 : decode cX10_fault 11 = .ok (.aload_n 0, 1) := by decide +kernel
theorem dX10_fault_12 : decode cX10_fault 12 = .ok (.getfield 105, 3) := by decide +kernel
theorem dX10_fault_15 : decode cX10_fault 15 = .ok (.ireturn, 1) := by decide +kernel
theorem dX10_doLine_0 : decode cX10_doLine 0 = .ok (.aload_n 0, 1) := by decide +kernel
theorem dX10_doLine_1 : decode cX10_doLine 1 = .ok (.getfield 26, 3) := by decide +kernel
theorem dX10_doLine_4 : decode cX10_doLine 4 = .ok (.iload_n 1, 1) := by decide +kernel
theorem dX10_doLine_5 : decode cX10_doLine 5 = .ok (.iconst 1, 1) := by decide +kernel
theorem dX10_doLine_6 : decode cX10_doLine 6 = .ok (.iadd, 1) := by decide +kernel
theorem dX10_doLine_7 : decode cX10_doLine 7 = .ok (.iaload, 1) := by decide +kernel
theorem dX10_doLine_8 : decode cX10_doLine 8 = .ok (.istore_n 2, 1) := by decide +kernel
theorem dX10_doLine_9 : decode cX10_doLine 9 = .ok (.aload_n 0, 1) := by decide +kernel
theorem dX10_doLine_10 : decode cX10_doLine 10 = .ok (.getfield 26, 3) := by decide +kernel
theorem dX10_doLine_13 : decode cX10_doLine 13 = .ok (.iload_n 1, 1) := by decide +kernel
theorem dX10_doLine_14 : decode cX10_doLine 14 = .ok (.iaload, 1) := by decide +kernel
theorem dX10_doLine_15 : decode cX10_doLine 15 = .ok (.tableswitch 117 0 4 #[33, 45, 62, 79, 103], 33) := by decide +kernel
theorem dX10_doLine_48 : decode cX10_doLine 48 = .ok (.aload_n 0, 1) := by decide +kernel
theorem dX10_doLine_49 : decode cX10_doLine 49 = .ok (.iload_n 2, 1) := by decide +kernel
theorem dX10_doLine_50 : decode cX10_doLine 50 = .ok (.putfield 7, 3) := by decide +kernel
theorem dX10_doLine_53 : decode cX10_doLine 53 = .ok (.aload_n 0, 1) := by decide +kernel
theorem dX10_doLine_54 : decode cX10_doLine 54 = .ok (.invokevirtual 51, 3) := by decide +kernel
theorem dX10_doLine_57 : decode cX10_doLine 57 = .ok (.goto 119, 3) := by decide +kernel
theorem dX10_doLine_60 : decode cX10_doLine 60 = .ok (.aload_n 0, 1) := by decide +kernel
theorem dX10_doLine_61 : decode cX10_doLine 61 = .ok (.getfield 13, 3) := by decide +kernel
theorem dX10_doLine_64 : decode cX10_doLine 64 = .ok (.iload_n 2, 1) := by decide +kernel
theorem dX10_doLine_65 : decode cX10_doLine 65 = .ok (.aload_n 0, 1) := by decide +kernel
theorem dX10_doLine_66 : decode cX10_doLine 66 = .ok (.getfield 26, 3) := by decide +kernel
theorem dX10_doLine_69 : decode cX10_doLine 69 = .ok (.iload_n 1, 1) := by decide +kernel
theorem dX10_doLine_70 : decode cX10_doLine 70 = .ok (.iconst 2, 1) := by decide +kernel
theorem dX10_doLine_71 : decode cX10_doLine 71 = .ok (.iadd, 1) := by decide +kernel
theorem dX10_doLine_72 : decode cX10_doLine 72 = .ok (.iaload, 1) := by decide +kernel
theorem dX10_doLine_73 : decode cX10_doLine 73 = .ok (.iastore, 1) := by decide +kernel
theorem dX10_doLine_74 : decode cX10_doLine 74 = .ok (.goto 102, 3) := by decide +kernel
theorem dX10_doLine_77 : decode cX10_doLine 77 = .ok (.aload_n 0, 1) := by decide +kernel
theorem dX10_doLine_78 : decode cX10_doLine 78 = .ok (.getfield 17, 3) := by decide +kernel
theorem dX10_doLine_81 : decode cX10_doLine 81 = .ok (.iload_n 2, 1) := by decide +kernel
theorem dX10_doLine_82 : decode cX10_doLine 82 = .ok (.aload_n 0, 1) := by decide +kernel
theorem dX10_doLine_83 : decode cX10_doLine 83 = .ok (.getfield 26, 3) := by decide +kernel
theorem dX10_doLine_86 : decode cX10_doLine 86 = .ok (.iload_n 1, 1) := by decide +kernel
theorem dX10_doLine_87 : decode cX10_doLine 87 = .ok (.iconst 2, 1) := by decide +kernel
theorem dX10_doLine_88 : decode cX10_doLine 88 = .ok (.iadd, 1) := by decide +kernel
theorem dX10_doLine_89 : decode cX10_doLine 89 = .ok (.iaload, 1) := by decide +kernel
theorem dX10_doLine_90 : decode cX10_doLine 90 = .ok (.iastore, 1) := by decide +kernel
theorem dX10_doLine_91 : decode cX10_doLine 91 = .ok (.goto 85, 3) := by decide +kernel
theorem dX10_doLine_94 : decode cX10_doLine 94 = .ok (.aload_n 0, 1) := by decide +kernel
theorem dX10_doLine_95 : decode cX10_doLine 95 = .ok (.iload_n 2, 1) := by decide +kernel
theorem dX10_doLine_96 : decode cX10_doLine 96 = .ok (.aload_n 0, 1) := by decide +kernel
theorem dX10_doLine_97 : decode cX10_doLine 97 = .ok (.getfield 26, 3) := by decide +kernel
theorem dX10_doLine_100 : decode cX10_doLine 100 = .ok (.iload_n 1, 1) := by decide +kernel
theorem dX10_doLine_101 : decode cX10_doLine 101 = .ok (.iconst 2, 1) := by decide +kernel
theorem dX10_doLine_102 : decode cX10_doLine 102 = .ok (.iadd, 1) := by decide +kernel
theorem dX10_doLine_103 : decode cX10_doLine 103 = .ok (.iaload, 1) := by decide +kernel
theorem dX10_doLine_104 : decode cX10_doLine 104 = .ok (.aload_n 0, 1) := by decide +kernel
theorem dX10_doLine_105 : decode cX10_doLine 105 = .ok (.getfield 26, 3) := by decide +kernel
theorem dX10_doLine_108 : decode cX10_doLine 108 = .ok (.iload_n 1, 1) := by decide +kernel
theorem dX10_doLine_109 : decode cX10_doLine 109 = .ok (.iconst 3, 1) := by decide +kernel
theorem dX10_doLine_110 : decode cX10_doLine 110 = .ok (.iadd, 1) := by decide +kernel
theorem dX10_doLine_111 : decode cX10_doLine 111 = .ok (.iaload, 1) := by decide +kernel
theorem dX10_doLine_112 : decode cX10_doLine 112 = .ok (.invokevirtual 158, 3) := by decide +kernel
theorem dX10_doLine_115 : decode cX10_doLine 115 = .ok (.goto 61, 3) := by decide +kernel
theorem dX10_doLine_118 : decode cX10_doLine 118 = .ok (.aload_n 0, 1) := by decide +kernel
theorem dX10_doLine_119 : decode cX10_doLine 119 = .ok (.getfield 20, 3) := by decide +kernel
theorem dX10_doLine_122 : decode cX10_doLine 122 = .ok (.iconst 4, 1) := by decide +kernel
theorem dX10_doLine_123 : decode cX10_doLine 123 = .ok (.iload_n 2, 1) := by decide +kernel
theorem dX10_doLine_124 : decode cX10_doLine 124 = .ok (.imul, 1) := by decide +kernel
theorem dX10_doLine_125 : decode cX10_doLine 125 = .ok (.iconst 3, 1) := by decide +kernel
theorem dX10_doLine_126 : decode cX10_doLine 126 = .ok (.iadd, 1) := by decide +kernel
theorem dX10_doLine_127 : decode cX10_doLine 127 = .ok (.iconst 1, 1) := by decide +kernel
theorem dX10_doLine_128 : decode cX10_doLine 128 = .ok (.iastore, 1) := by decide +kernel
theorem dX10_doLine_129 : decode cX10_doLine 129 = .ok (.goto 47, 3) := by decide +kernel
theorem dX10_doLine_132 : decode cX10_doLine 132 = .ok (.aload_n 0, 1) := by decide +kernel
theorem dX10_doLine_133 : decode cX10_doLine 133 = .ok (.dup, 1) := by decide +kernel
theorem dX10_doLine_134 : decode cX10_doLine 134 = .ok (.getfield 54, 3) := by decide +kernel
theorem dX10_doLine_137 : decode cX10_doLine 137 = .ok (.iconst 1, 1) := by decide +kernel
theorem dX10_doLine_138 : decode cX10_doLine 138 = .ok (.isub, 1) := by decide +kernel
theorem dX10_doLine_139 : decode cX10_doLine 139 = .ok (.putfield 54, 3) := by decide +kernel
theorem dX10_doLine_142 : decode cX10_doLine 142 = .ok (.iconst 4, 1) := by decide +kernel
theorem dX10_doLine_143 : decode cX10_doLine 143 = .ok (.iload_n 2, 1) := by decide +kernel
theorem dX10_doLine_144 : decode cX10_doLine 144 = .ok (.imul, 1) := by decide +kernel
theorem dX10_doLine_145 : decode cX10_doLine 145 = .ok (.istore_n 3, 1) := by decide +kernel
theorem dX10_doLine_146 : decode cX10_doLine 146 = .ok (.iload_n 3, 1) := by decide +kernel
theorem dX10_doLine_147 : decode cX10_doLine 147 = .ok (.iconst 4, 1) := by decide +kernel
theorem dX10_doLine_148 : decode cX10_doLine 148 = .ok (.aload_n 0, 1) := by decide +kernel
theorem dX10_doLine_149 : decode cX10_doLine 149 = .ok (.getfield 54, 3) := by decide +kernel
theorem dX10_doLine_152 : decode cX10_doLine 152 = .ok (.imul, 1) := by decide +kernel
theorem dX10_doLine_153 : decode cX10_doLine 153 = .ok (.if_icmp .ge 23, 3) := by decide +kernel
theorem dX10_doLine_156 : decode cX10_doLine 156 = .ok (.aload_n 0, 1) := by decide +kernel
theorem dX10_doLine_157 : decode cX10_doLine 157 = .ok (.getfield 20, 3) := by decide +kernel
theorem dX10_doLine_160 : decode cX10_doLine 160 = .ok (.iload_n 3, 1) := by decide +kernel
theorem dX10_doLine_161 : decode cX10_doLine 161 = .ok (.aload_n 0, 1) := by decide +kernel
theorem dX10_doLine_162 : decode cX10_doLine 162 = .ok (.getfield 20, 3) := by decide +kernel
theorem dX10_doLine_165 : decode cX10_doLine 165 = .ok (.iload_n 3, 1) := by decide +kernel
theorem dX10_doLine_166 : decode cX10_doLine 166 = .ok (.iconst 4, 1) := by decide +kernel
theorem dX10_doLine_167 : decode cX10_doLine 167 = .ok (.iadd, 1) := by decide +kernel
theorem dX10_doLine_168 : decode cX10_doLine 168 = .ok (.iaload, 1) := by decide +kernel
theorem dX10_doLine_169 : decode cX10_doLine 169 = .ok (.iastore, 1) := by decide +kernel
theorem dX10_doLine_170 : decode cX10_doLine 170 = .ok (.iinc 3 1, 3) := by decide +kernel
theorem dX10_doLine_173 : decode cX10_doLine 173 = .ok (.goto (-27), 3) := by decide +kernel
theorem dX10_doLine_176 : decode cX10_doLine 176 = .ok (.return_, 1) := by decide +kernel
theorem dX10_point_0 : decode cX10_point 0 = .ok (.iload_n 1, 1) := by decide +kernel
theorem dX10_point_1 : decode cX10_point 1 = .ok (.iconst 0, 1) := by decide +kernel
theorem dX10_point_2 : decode cX10_point 2 = .ok (.aload_n 0, 1) := by decide +kernel
theorem dX10_point_3 : decode cX10_point 3 = .ok (.getfield 7, 3) := by decide +kernel
theorem dX10_point_6 : decode cX10_point 6 = .ok (.iconst 1, 1) := by decide +kernel
theorem dX10_point_7 : decode cX10_point 7 = .ok (.isub, 1) := by decide +kernel
theorem dX10_point_8 : decode cX10_point 8 = .ok (.invokestatic 61, 3) := by decide +kernel
theorem dX10_point_11 : decode cX10_point 11 = .ok (.ifCond .ne 6, 3) := by decide +kernel
theorem dX10_point_14 : decode cX10_point 14 = .ok (.bipush (-2), 2) := by decide +kernel
theorem dX10_point_16 : decode cX10_point 16 = .ok (.ireturn, 1) := by decide +kernel
theorem dX10_point_17 : decode cX10_point 17 = .ok (.iload_n 2, 1) := by decide +kernel
theorem dX10_point_18 : decode cX10_point 18 = .ok (.ifCond .ne 12, 3) := by decide +kernel
theorem dX10_point_21 : decode cX10_point 21 = .ok (.aload_n 0, 1) := by decide +kernel
theorem dX10_point_22 : decode cX10_point 22 = .ok (.getfield 13, 3) := by decide +kernel
theorem dX10_point_25 : decode cX10_point 25 = .ok (.iload_n 1, 1) := by decide +kernel
theorem dX10_point_26 : decode cX10_point 26 = .ok (.iaload, 1) := by decide +kernel
theorem dX10_point_27 : decode cX10_point 27 = .ok (.goto 19, 3) := by decide +kernel
theorem dX10_point_30 : decode cX10_point 30 = .ok (.iload_n 2, 1) := by decide +kernel
theorem dX10_point_31 : decode cX10_point 31 = .ok (.iconst 1, 1) := by decide +kernel
theorem dX10_point_32 : decode cX10_point 32 = .ok (.if_icmp .ne 12, 3) := by decide +kernel
theorem dX10_point_35 : decode cX10_point 35 = .ok (.aload_n 0, 1) := by decide +kernel
theorem dX10_point_36 : decode cX10_point 36 = .ok (.getfield 17, 3) := by decide +kernel
theorem dX10_point_39 : decode cX10_point 39 = .ok (.iload_n 1, 1) := by decide +kernel
theorem dX10_point_40 : decode cX10_point 40 = .ok (.iaload, 1) := by decide +kernel
theorem dX10_point_41 : decode cX10_point 41 = .ok (.goto 5, 3) := by decide +kernel
theorem dX10_point_44 : decode cX10_point 44 = .ok (.bipush (-3), 2) := by decide +kernel
theorem dX10_point_46 : decode cX10_point 46 = .ok (.ireturn, 1) := by decide +kernel
theorem dX10_judgmentOf_0 : decode cX10_judgmentOf 0 = .ok (.aload_n 0, 1) := by decide +kernel
theorem dX10_judgmentOf_1 : decode cX10_judgmentOf 1 = .ok (.getfield 20, 3) := by decide +kernel
theorem dX10_judgmentOf_4 : decode cX10_judgmentOf 4 = .ok (.iconst 4, 1) := by decide +kernel
theorem dX10_judgmentOf_5 : decode cX10_judgmentOf 5 = .ok (.iload_n 1, 1) := by decide +kernel
theorem dX10_judgmentOf_6 : decode cX10_judgmentOf 6 = .ok (.imul, 1) := by decide +kernel
theorem dX10_judgmentOf_7 : decode cX10_judgmentOf 7 = .ok (.iconst 3, 1) := by decide +kernel
theorem dX10_judgmentOf_8 : decode cX10_judgmentOf 8 = .ok (.iadd, 1) := by decide +kernel
theorem dX10_judgmentOf_9 : decode cX10_judgmentOf 9 = .ok (.iaload, 1) := by decide +kernel
theorem dX10_judgmentOf_10 : decode cX10_judgmentOf 10 = .ok (.iconst 1, 1) := by decide +kernel
theorem dX10_judgmentOf_11 : decode cX10_judgmentOf 11 = .ok (.if_icmp .ne 7, 3) := by decide +kernel
theorem dX10_judgmentOf_14 : decode cX10_judgmentOf 14 = .ok (.iconst 0, 1) := by decide +kernel
theorem dX10_judgmentOf_15 : decode cX10_judgmentOf 15 = .ok (.goto 13, 3) := by decide +kernel
theorem dX10_judgmentOf_18 : decode cX10_judgmentOf 18 = .ok (.aload_n 0, 1) := by decide +kernel
theorem dX10_judgmentOf_19 : decode cX10_judgmentOf 19 = .ok (.getfield 20, 3) := by decide +kernel
theorem dX10_judgmentOf_22 : decode cX10_judgmentOf 22 = .ok (.iconst 4, 1) := by decide +kernel
theorem dX10_judgmentOf_23 : decode cX10_judgmentOf 23 = .ok (.iload_n 1, 1) := by decide +kernel
theorem dX10_judgmentOf_24 : decode cX10_judgmentOf 24 = .ok (.imul, 1) := by decide +kernel
theorem dX10_judgmentOf_25 : decode cX10_judgmentOf 25 = .ok (.iconst 1, 1) := by decide +kernel
theorem dX10_judgmentOf_26 : decode cX10_judgmentOf 26 = .ok (.iadd, 1) := by decide +kernel
theorem dX10_judgmentOf_27 : decode cX10_judgmentOf 27 = .ok (.iaload, 1) := by decide +kernel
theorem dX10_judgmentOf_28 : decode cX10_judgmentOf 28 = .ok (.ireturn, 1) := by decide +kernel
theorem dX10_likeness_0 : decode cX10_likeness 0 = .ok (.iconst 0, 1) := by decide +kernel
theorem dX10_likeness_1 : decode cX10_likeness 1 = .ok (.istore_n 3, 1) := by decide +kernel
theorem dX10_likeness_2 : decode cX10_likeness 2 = .ok (.iconst 0, 1) := by decide +kernel
theorem dX10_likeness_3 : decode cX10_likeness 3 = .ok (.istore 4, 2) := by decide +kernel
theorem dX10_likeness_5 : decode cX10_likeness 5 = .ok (.iload 4, 2) := by decide +kernel
theorem dX10_likeness_7 : decode cX10_likeness 7 = .ok (.aload_n 0, 1) := by decide +kernel
theorem dX10_likeness_8 : decode cX10_likeness 8 = .ok (.getfield 7, 3) := by decide +kernel
theorem dX10_likeness_11 : decode cX10_likeness 11 = .ok (.if_icmp .ge 34, 3) := by decide +kernel
theorem dX10_likeness_14 : decode cX10_likeness 14 = .ok (.iload_n 3, 1) := by decide +kernel
theorem dX10_likeness_15 : decode cX10_likeness 15 = .ok (.iload_n 1, 1) := by decide +kernel
theorem dX10_likeness_16 : decode cX10_likeness 16 = .ok (.iload_n 2, 1) := by decide +kernel
theorem dX10_likeness_17 : decode cX10_likeness 17 = .ok (.ixor, 1) := by decide +kernel
theorem dX10_likeness_18 : decode cX10_likeness 18 = .ok (.iload 4, 2) := by decide +kernel
theorem dX10_likeness_20 : decode cX10_likeness 20 = .ok (.invokestatic 177, 3) := by decide +kernel
theorem dX10_likeness_23 : decode cX10_likeness 23 = .ok (.ifCond .eq 7, 3) := by decide +kernel
theorem dX10_likeness_26 : decode cX10_likeness 26 = .ok (.iconst 0, 1) := by decide +kernel
theorem dX10_likeness_27 : decode cX10_likeness 27 = .ok (.goto 10, 3) := by decide +kernel
theorem dX10_likeness_30 : decode cX10_likeness 30 = .ok (.aload_n 0, 1) := by decide +kernel
theorem dX10_likeness_31 : decode cX10_likeness 31 = .ok (.getfield 13, 3) := by decide +kernel
theorem dX10_likeness_34 : decode cX10_likeness 34 = .ok (.iload 4, 2) := by decide +kernel
theorem dX10_likeness_36 : decode cX10_likeness 36 = .ok (.iaload, 1) := by decide +kernel
theorem dX10_likeness_37 : decode cX10_likeness 37 = .ok (.iadd, 1) := by decide +kernel
theorem dX10_likeness_38 : decode cX10_likeness 38 = .ok (.istore_n 3, 1) := by decide +kernel
theorem dX10_likeness_39 : decode cX10_likeness 39 = .ok (.iinc 4 1, 3) := by decide +kernel
theorem dX10_likeness_42 : decode cX10_likeness 42 = .ok (.goto (-37), 3) := by decide +kernel
theorem dX10_likeness_45 : decode cX10_likeness 45 = .ok (.iload_n 3, 1) := by decide +kernel
theorem dX10_likeness_46 : decode cX10_likeness 46 = .ok (.ireturn, 1) := by decide +kernel
theorem dX10_all_0 : decode cX10_all 0 = .ok (.iconst 1, 1) := by decide +kernel
theorem dX10_all_1 : decode cX10_all 1 = .ok (.aload_n 0, 1) := by decide +kernel
theorem dX10_all_2 : decode cX10_all 2 = .ok (.getfield 54, 3) := by decide +kernel
theorem dX10_all_5 : decode cX10_all 5 = .ok (.ishl, 1) := by decide +kernel
theorem dX10_all_6 : decode cX10_all 6 = .ok (.iconst 1, 1) := by decide +kernel
theorem dX10_all_7 : decode cX10_all 7 = .ok (.isub, 1) := by decide +kernel
theorem dX10_all_8 : decode cX10_all 8 = .ok (.ireturn, 1) := by decide +kernel
theorem dX10_judge_0 : decode cX10_judge 0 = .ok (.aload_n 0, 1) := by decide +kernel
theorem dX10_judge_1 : decode cX10_judge 1 = .ok (.iload_n 1, 1) := by decide +kernel
theorem dX10_judge_2 : decode cX10_judge 2 = .ok (.invokevirtual 190, 3) := by decide +kernel
theorem dX10_judge_5 : decode cX10_judge 5 = .ok (.ifCond .eq 12, 3) := by decide +kernel
theorem dX10_judge_8 : decode cX10_judge 8 = .ok (.iload_n 2, 1) := by decide +kernel
theorem dX10_judge_9 : decode cX10_judge 9 = .ok (.iconst 0, 1) := by decide +kernel
theorem dX10_judge_10 : decode cX10_judge 10 = .ok (.iconst 2, 1) := by decide +kernel
theorem dX10_judge_11 : decode cX10_judge 11 = .ok (.invokestatic 61, 3) := by decide +kernel
theorem dX10_judge_14 : decode cX10_judge 14 = .ok (.ifCond .ne 6, 3) := by decide +kernel
theorem dX10_judge_17 : decode cX10_judge 17 = .ok (.bipush (-3), 2) := by decide +kernel
theorem dX10_judge_19 : decode cX10_judge 19 = .ok (.ireturn, 1) := by decide +kernel
theorem dX10_judge_20 : decode cX10_judge 20 = .ok (.aload_n 0, 1) := by decide +kernel
theorem dX10_judge_21 : decode cX10_judge 21 = .ok (.iload_n 1, 1) := by decide +kernel
theorem dX10_judge_22 : decode cX10_judge 22 = .ok (.aload_n 0, 1) := by decide +kernel
theorem dX10_judge_23 : decode cX10_judge 23 = .ok (.invokevirtual 184, 3) := by decide +kernel
theorem dX10_judge_26 : decode cX10_judge 26 = .ok (.invokevirtual 187, 3) := by decide +kernel
theorem dX10_judge_29 : decode cX10_judge 29 = .ok (.istore_n 3, 1) := by decide +kernel
theorem dX10_judge_30 : decode cX10_judge 30 = .ok (.iload_n 3, 1) := by decide +kernel
theorem dX10_judge_31 : decode cX10_judge 31 = .ok (.iconst (-1), 1) := by decide +kernel
theorem dX10_judge_32 : decode cX10_judge 32 = .ok (.if_icmp .ne 7, 3) := by decide +kernel
theorem dX10_judge_35 : decode cX10_judge 35 = .ok (.iconst (-1), 1) := by decide +kernel
theorem dX10_judge_36 : decode cX10_judge 36 = .ok (.goto 37, 3) := by decide +kernel
theorem dX10_judge_39 : decode cX10_judge 39 = .ok (.iload_n 2, 1) := by decide +kernel
theorem dX10_judge_40 : decode cX10_judge 40 = .ok (.ifCond .ne 11, 3) := by decide +kernel
theorem dX10_judge_43 : decode cX10_judge 43 = .ok (.aload_n 0, 1) := by decide +kernel
theorem dX10_judge_44 : decode cX10_judge 44 = .ok (.iload_n 3, 1) := by decide +kernel
theorem dX10_judge_45 : decode cX10_judge 45 = .ok (.invokevirtual 173, 3) := by decide +kernel
theorem dX10_judge_48 : decode cX10_judge 48 = .ok (.goto 25, 3) := by decide +kernel
theorem dX10_judge_51 : decode cX10_judge 51 = .ok (.iload_n 2, 1) := by decide +kernel
theorem dX10_judge_52 : decode cX10_judge 52 = .ok (.iconst 1, 1) := by decide +kernel
theorem dX10_judge_53 : decode cX10_judge 53 = .ok (.if_icmp .ne 7, 3) := by decide +kernel
theorem dX10_judge_56 : decode cX10_judge 56 = .ok (.iload_n 3, 1) := by decide +kernel
theorem dX10_judge_57 : decode cX10_judge 57 = .ok (.goto 16, 3) := by decide +kernel
theorem dX10_judge_60 : decode cX10_judge 60 = .ok (.aload_n 0, 1) := by decide +kernel
theorem dX10_judge_61 : decode cX10_judge 61 = .ok (.iload_n 1, 1) := by decide +kernel
theorem dX10_judge_62 : decode cX10_judge 62 = .ok (.aload_n 0, 1) := by decide +kernel
theorem dX10_judge_63 : decode cX10_judge 63 = .ok (.getfield 20, 3) := by decide +kernel
theorem dX10_judge_66 : decode cX10_judge 66 = .ok (.iconst 4, 1) := by decide +kernel
theorem dX10_judge_67 : decode cX10_judge 67 = .ok (.iload_n 3, 1) := by decide +kernel
theorem dX10_judge_68 : decode cX10_judge 68 = .ok (.imul, 1) := by decide +kernel
theorem dX10_judge_69 : decode cX10_judge 69 = .ok (.iaload, 1) := by decide +kernel
theorem dX10_judge_70 : decode cX10_judge 70 = .ok (.invokevirtual 180, 3) := by decide +kernel
theorem dX10_judge_73 : decode cX10_judge 73 = .ok (.ireturn, 1) := by decide +kernel
theorem dX10_bring_0 : decode cX10_bring 0 = .ok (.aload_n 0, 1) := by decide +kernel
theorem dX10_bring_1 : decode cX10_bring 1 = .ok (.iload_n 1, 1) := by decide +kernel
theorem dX10_bring_2 : decode cX10_bring 2 = .ok (.invokevirtual 190, 3) := by decide +kernel
theorem dX10_bring_5 : decode cX10_bring 5 = .ok (.ifCond .eq 14, 3) := by decide +kernel
theorem dX10_bring_8 : decode cX10_bring 8 = .ok (.iload_n 2, 1) := by decide +kernel
theorem dX10_bring_9 : decode cX10_bring 9 = .ok (.iconst 0, 1) := by decide +kernel
theorem dX10_bring_10 : decode cX10_bring 10 = .ok (.sipush 9999, 3) := by decide +kernel
theorem dX10_bring_13 : decode cX10_bring 13 = .ok (.invokestatic 61, 3) := by decide +kernel
theorem dX10_bring_16 : decode cX10_bring 16 = .ok (.ifCond .ne 6, 3) := by decide +kernel
theorem dX10_bring_19 : decode cX10_bring 19 = .ok (.bipush (-3), 2) := by decide +kernel
theorem dX10_bring_21 : decode cX10_bring 21 = .ok (.ireturn, 1) := by decide +kernel
theorem dX10_bring_22 : decode cX10_bring 22 = .ok (.aload_n 0, 1) := by decide +kernel
theorem dX10_bring_23 : decode cX10_bring 23 = .ok (.getfield 54, 3) := by decide +kernel
theorem dX10_bring_26 : decode cX10_bring 26 = .ok (.ifCond .ne 6, 3) := by decide +kernel
theorem dX10_bring_29 : decode cX10_bring 29 = .ok (.bipush (-4), 2) := by decide +kernel
theorem dX10_bring_31 : decode cX10_bring 31 = .ok (.ireturn, 1) := by decide +kernel
theorem dX10_bring_32 : decode cX10_bring 32 = .ok (.aload_n 0, 1) := by decide +kernel
theorem dX10_bring_33 : decode cX10_bring 33 = .ok (.getfield 54, 3) := by decide +kernel
theorem dX10_bring_36 : decode cX10_bring 36 = .ok (.bipush 12, 2) := by decide +kernel
theorem dX10_bring_38 : decode cX10_bring 38 = .ok (.if_icmp .ne 6, 3) := by decide +kernel
theorem dX10_bring_41 : decode cX10_bring 41 = .ok (.bipush (-5), 2) := by decide +kernel
theorem dX10_bring_43 : decode cX10_bring 43 = .ok (.ireturn, 1) := by decide +kernel
theorem dX10_bring_44 : decode cX10_bring 44 = .ok (.aload_n 0, 1) := by decide +kernel
theorem dX10_bring_45 : decode cX10_bring 45 = .ok (.iload_n 1, 1) := by decide +kernel
theorem dX10_bring_46 : decode cX10_bring 46 = .ok (.invokevirtual 193, 3) := by decide +kernel
theorem dX10_bring_49 : decode cX10_bring 49 = .ok (.istore_n 3, 1) := by decide +kernel
theorem dX10_bring_50 : decode cX10_bring 50 = .ok (.aload_n 0, 1) := by decide +kernel
theorem dX10_bring_51 : decode cX10_bring 51 = .ok (.iload_n 1, 1) := by decide +kernel
theorem dX10_bring_52 : decode cX10_bring 52 = .ok (.iload_n 3, 1) := by decide +kernel
theorem dX10_bring_53 : decode cX10_bring 53 = .ok (.iload_n 2, 1) := by decide +kernel
theorem dX10_bring_54 : decode cX10_bring 54 = .ok (.invokevirtual 158, 3) := by decide +kernel
theorem dX10_bring_57 : decode cX10_bring 57 = .ok (.iload_n 3, 1) := by decide +kernel
theorem dX10_bring_58 : decode cX10_bring 58 = .ok (.ireturn, 1) := by decide +kernel
theorem dX10_isJudgment_0 : decode cX10_isJudgment 0 = .ok (.iload_n 0, 1) := by decide +kernel
theorem dX10_isJudgment_1 : decode cX10_isJudgment 1 = .ok (.iconst 0, 1) := by decide +kernel
theorem dX10_isJudgment_2 : decode cX10_isJudgment 2 = .ok (.iconst 3, 1) := by decide +kernel
theorem dX10_isJudgment_3 : decode cX10_isJudgment 3 = .ok (.invokestatic 61, 3) := by decide +kernel
theorem dX10_isJudgment_6 : decode cX10_isJudgment 6 = .ok (.ireturn, 1) := by decide +kernel
theorem dX10_least_0 : decode cX10_least 0 = .ok (.aload_n 0, 1) := by decide +kernel
theorem dX10_least_1 : decode cX10_least 1 = .ok (.iload_n 1, 1) := by decide +kernel
theorem dX10_least_2 : decode cX10_least 2 = .ok (.invokevirtual 190, 3) := by decide +kernel
theorem dX10_least_5 : decode cX10_least 5 = .ok (.ifCond .eq 19, 3) := by decide +kernel
theorem dX10_least_8 : decode cX10_least 8 = .ok (.iload_n 2, 1) := by decide +kernel
theorem dX10_least_9 : decode cX10_least 9 = .ok (.invokestatic 196, 3) := by decide +kernel
theorem dX10_least_12 : decode cX10_least 12 = .ok (.ifCond .eq 12, 3) := by decide +kernel
theorem dX10_least_15 : decode cX10_least 15 = .ok (.iload_n 3, 1) := by decide +kernel
theorem dX10_least_16 : decode cX10_least 16 = .ok (.iconst 0, 1) := by decide +kernel
theorem dX10_least_17 : decode cX10_least 17 = .ok (.iconst 1, 1) := by decide +kernel
theorem dX10_least_18 : decode cX10_least 18 = .ok (.invokestatic 61, 3) := by decide +kernel
theorem dX10_least_21 : decode cX10_least 21 = .ok (.ifCond .ne 6, 3) := by decide +kernel
theorem dX10_least_24 : decode cX10_least 24 = .ok (.bipush (-3), 2) := by decide +kernel
theorem dX10_least_26 : decode cX10_least 26 = .ok (.ireturn, 1) := by decide +kernel
theorem dX10_least_27 : decode cX10_least 27 = .ok (.iconst (-1), 1) := by decide +kernel
theorem dX10_least_28 : decode cX10_least 28 = .ok (.istore 4, 2) := by decide +kernel
theorem dX10_least_30 : decode cX10_least 30 = .ok (.iconst 0, 1) := by decide +kernel
theorem dX10_least_31 : decode cX10_least 31 = .ok (.istore 5, 2) := by decide +kernel
theorem dX10_least_33 : decode cX10_least 33 = .ok (.iconst 0, 1) := by decide +kernel
theorem dX10_least_34 : decode cX10_least 34 = .ok (.istore 6, 2) := by decide +kernel
theorem dX10_least_36 : decode cX10_least 36 = .ok (.iload 6, 2) := by decide +kernel
theorem dX10_least_38 : decode cX10_least 38 = .ok (.aload_n 0, 1) := by decide +kernel
theorem dX10_least_39 : decode cX10_least 39 = .ok (.invokevirtual 57, 3) := by decide +kernel
theorem dX10_least_42 : decode cX10_least 42 = .ok (.if_icmp .ge 116, 3) := by decide +kernel
theorem dX10_least_45 : decode cX10_least 45 = .ok (.iconst 0, 1) := by decide +kernel
theorem dX10_least_46 : decode cX10_least 46 = .ok (.istore 7, 2) := by decide +kernel
theorem dX10_least_48 : decode cX10_least 48 = .ok (.iconst 0, 1) := by decide +kernel
theorem dX10_least_49 : decode cX10_least 49 = .ok (.istore 8, 2) := by decide +kernel
theorem dX10_least_51 : decode cX10_least 51 = .ok (.iload 8, 2) := by decide +kernel
theorem dX10_least_53 : decode cX10_least 53 = .ok (.aload_n 0, 1) := by decide +kernel
theorem dX10_least_54 : decode cX10_least 54 = .ok (.getfield 7, 3) := by decide +kernel
theorem dX10_least_57 : decode cX10_least 57 = .ok (.if_icmp .ge 37, 3) := by decide +kernel
theorem dX10_least_60 : decode cX10_least 60 = .ok (.iload 7, 2) := by decide +kernel
theorem dX10_least_62 : decode cX10_least 62 = .ok (.iload 6, 2) := by decide +kernel
theorem dX10_least_64 : decode cX10_least 64 = .ok (.iload_n 1, 1) := by decide +kernel
theorem dX10_least_65 : decode cX10_least 65 = .ok (.ixor, 1) := by decide +kernel
theorem dX10_least_66 : decode cX10_least 66 = .ok (.iload 8, 2) := by decide +kernel
theorem dX10_least_68 : decode cX10_least 68 = .ok (.invokestatic 177, 3) := by decide +kernel
theorem dX10_least_71 : decode cX10_least 71 = .ok (.ifCond .eq 13, 3) := by decide +kernel
theorem dX10_least_74 : decode cX10_least 74 = .ok (.aload_n 0, 1) := by decide +kernel
theorem dX10_least_75 : decode cX10_least 75 = .ok (.getfield 17, 3) := by decide +kernel
theorem dX10_least_78 : decode cX10_least 78 = .ok (.iload 8, 2) := by decide +kernel
theorem dX10_least_80 : decode cX10_least 80 = .ok (.iaload, 1) := by decide +kernel
theorem dX10_least_81 : decode cX10_least 81 = .ok (.goto 4, 3) := by decide +kernel
theorem dX10_least_84 : decode cX10_least 84 = .ok (.iconst 0, 1) := by decide +kernel
theorem dX10_least_85 : decode cX10_least 85 = .ok (.iadd, 1) := by decide +kernel
theorem dX10_least_86 : decode cX10_least 86 = .ok (.istore 7, 2) := by decide +kernel
theorem dX10_least_88 : decode cX10_least 88 = .ok (.iinc 8 1, 3) := by decide +kernel
theorem dX10_least_91 : decode cX10_least 91 = .ok (.goto (-40), 3) := by decide +kernel
theorem dX10_least_94 : decode cX10_least 94 = .ok (.aload_n 0, 1) := by decide +kernel
theorem dX10_least_95 : decode cX10_least 95 = .ok (.iload 6, 2) := by decide +kernel
theorem dX10_least_97 : decode cX10_least 97 = .ok (.invokevirtual 193, 3) := by decide +kernel
theorem dX10_least_100 : decode cX10_least 100 = .ok (.iload_n 2, 1) := by decide +kernel
theorem dX10_least_101 : decode cX10_least 101 = .ok (.if_icmp .ne 20, 3) := by decide +kernel
theorem dX10_least_104 : decode cX10_least 104 = .ok (.iload 4, 2) := by decide +kernel
theorem dX10_least_106 : decode cX10_least 106 = .ok (.iconst (-1), 1) := by decide +kernel
theorem dX10_least_107 : decode cX10_least 107 = .ok (.if_icmp .eq 10, 3) := by decide +kernel
theorem dX10_least_110 : decode cX10_least 110 = .ok (.iload 7, 2) := by decide +kernel
theorem dX10_least_112 : decode cX10_least 112 = .ok (.iload 5, 2) := by decide +kernel
theorem dX10_least_114 : decode cX10_least 114 = .ok (.if_icmp .ge 7, 3) := by decide +kernel
theorem dX10_least_117 : decode cX10_least 117 = .ok (.iconst 1, 1) := by decide +kernel
theorem dX10_least_118 : decode cX10_least 118 = .ok (.goto 4, 3) := by decide +kernel
theorem dX10_least_121 : decode cX10_least 121 = .ok (.iconst 0, 1) := by decide +kernel
theorem dX10_least_122 : decode cX10_least 122 = .ok (.istore 8, 2) := by decide +kernel
theorem dX10_least_124 : decode cX10_least 124 = .ok (.iload 8, 2) := by decide +kernel
theorem dX10_least_126 : decode cX10_least 126 = .ok (.ifCond .eq 8, 3) := by decide +kernel
theorem dX10_least_129 : decode cX10_least 129 = .ok (.iload 6, 2) := by decide +kernel
theorem dX10_least_131 : decode cX10_least 131 = .ok (.goto 5, 3) := by decide +kernel
theorem dX10_least_134 : decode cX10_least 134 = .ok (.iload 4, 2) := by decide +kernel
theorem dX10_least_136 : decode cX10_least 136 = .ok (.istore 4, 2) := by decide +kernel
theorem dX10_least_138 : decode cX10_least 138 = .ok (.iload 8, 2) := by decide +kernel
theorem dX10_least_140 : decode cX10_least 140 = .ok (.ifCond .eq 8, 3) := by decide +kernel
theorem dX10_least_143 : decode cX10_least 143 = .ok (.iload 7, 2) := by decide +kernel
theorem dX10_least_145 : decode cX10_least 145 = .ok (.goto 5, 3) := by decide +kernel
theorem dX10_least_148 : decode cX10_least 148 = .ok (.iload 5, 2) := by decide +kernel
theorem dX10_least_150 : decode cX10_least 150 = .ok (.istore 5, 2) := by decide +kernel
theorem dX10_least_152 : decode cX10_least 152 = .ok (.iinc 6 1, 3) := by decide +kernel
theorem dX10_least_155 : decode cX10_least 155 = .ok (.goto (-119), 3) := by decide +kernel
theorem dX10_least_158 : decode cX10_least 158 = .ok (.iload 4, 2) := by decide +kernel
theorem dX10_least_160 : decode cX10_least 160 = .ok (.iconst (-1), 1) := by decide +kernel
theorem dX10_least_161 : decode cX10_least 161 = .ok (.if_icmp .eq 8, 3) := by decide +kernel
theorem dX10_least_164 : decode cX10_least 164 = .ok (.iload_n 3, 1) := by decide +kernel
theorem dX10_least_165 : decode cX10_least 165 = .ok (.iconst 1, 1) := by decide +kernel
theorem dX10_least_166 : decode cX10_least 166 = .ok (.if_icmp .ne 8, 3) := by decide +kernel
theorem dX10_least_169 : decode cX10_least 169 = .ok (.iload 4, 2) := by decide +kernel
theorem dX10_least_171 : decode cX10_least 171 = .ok (.goto 5, 3) := by decide +kernel
theorem dX10_least_174 : decode cX10_least 174 = .ok (.iload 5, 2) := by decide +kernel
theorem dX10_least_176 : decode cX10_least 176 = .ok (.ireturn, 1) := by decide +kernel
theorem dX10_suit_0 : decode cX10_suit 0 = .ok (.aload_n 0, 1) := by decide +kernel
theorem dX10_suit_1 : decode cX10_suit 1 = .ok (.iload_n 1, 1) := by decide +kernel
theorem dX10_suit_2 : decode cX10_suit 2 = .ok (.invokevirtual 193, 3) := by decide +kernel
theorem dX10_suit_5 : decode cX10_suit 5 = .ok (.iload_n 2, 1) := by decide +kernel
theorem dX10_suit_6 : decode cX10_suit 6 = .ok (.if_icmp .ne 5, 3) := by decide +kernel
theorem dX10_suit_9 : decode cX10_suit 9 = .ok (.iconst 0, 1) := by decide +kernel
theorem dX10_suit_10 : decode cX10_suit 10 = .ok (.ireturn, 1) := by decide +kernel
theorem dX10_suit_11 : decode cX10_suit 11 = .ok (.aload_n 0, 1) := by decide +kernel
theorem dX10_suit_12 : decode cX10_suit 12 = .ok (.getfield 54, 3) := by decide +kernel
theorem dX10_suit_15 : decode cX10_suit 15 = .ok (.istore_n 3, 1) := by decide +kernel
theorem dX10_suit_16 : decode cX10_suit 16 = .ok (.iconst 1, 1) := by decide +kernel
theorem dX10_suit_17 : decode cX10_suit 17 = .ok (.istore 4, 2) := by decide +kernel
theorem dX10_suit_19 : decode cX10_suit 19 = .ok (.iload 4, 2) := by decide +kernel
theorem dX10_suit_21 : decode cX10_suit 21 = .ok (.iconst 3, 1) := by decide +kernel
theorem dX10_suit_22 : decode cX10_suit 22 = .ok (.if_icmp .ge 114, 3) := by decide +kernel
theorem dX10_suit_25 : decode cX10_suit 25 = .ok (.iconst 0, 1) := by decide +kernel
theorem dX10_suit_26 : decode cX10_suit 26 = .ok (.istore 5, 2) := by decide +kernel
theorem dX10_suit_28 : decode cX10_suit 28 = .ok (.iload 5, 2) := by decide +kernel
theorem dX10_suit_30 : decode cX10_suit 30 = .ok (.aload_n 0, 1) := by decide +kernel
theorem dX10_suit_31 : decode cX10_suit 31 = .ok (.invokevirtual 57, 3) := by decide +kernel
theorem dX10_suit_34 : decode cX10_suit 34 = .ok (.if_icmp .ge 96, 3) := by decide +kernel
theorem dX10_suit_37 : decode cX10_suit 37 = .ok (.iconst 0, 1) := by decide +kernel
theorem dX10_suit_38 : decode cX10_suit 38 = .ok (.istore 6, 2) := by decide +kernel
theorem dX10_suit_40 : decode cX10_suit 40 = .ok (.iload 6, 2) := by decide +kernel
theorem dX10_suit_42 : decode cX10_suit 42 = .ok (.iload 4, 2) := by decide +kernel
theorem dX10_suit_44 : decode cX10_suit 44 = .ok (.iconst 1, 1) := by decide +kernel
theorem dX10_suit_45 : decode cX10_suit 45 = .ok (.if_icmp .ne 7, 3) := by decide +kernel
theorem dX10_suit_48 : decode cX10_suit 48 = .ok (.iconst 1, 1) := by decide +kernel
theorem dX10_suit_49 : decode cX10_suit 49 = .ok (.goto 7, 3) := by decide +kernel
theorem dX10_suit_52 : decode cX10_suit 52 = .ok (.aload_n 0, 1) := by decide +kernel
theorem dX10_suit_53 : decode cX10_suit 53 = .ok (.invokevirtual 57, 3) := by decide +kernel
theorem dX10_suit_56 : decode cX10_suit 56 = .ok (.if_icmp .ge 68, 3) := by decide +kernel
theorem dX10_suit_59 : decode cX10_suit 59 = .ok (.aload_n 0, 1) := by decide +kernel
theorem dX10_suit_60 : decode cX10_suit 60 = .ok (.iload 5, 2) := by decide +kernel
theorem dX10_suit_62 : decode cX10_suit 62 = .ok (.invokevirtual 199, 3) := by decide +kernel
theorem dX10_suit_65 : decode cX10_suit 65 = .ok (.iload 4, 2) := by decide +kernel
theorem dX10_suit_67 : decode cX10_suit 67 = .ok (.iconst 2, 1) := by decide +kernel
theorem dX10_suit_68 : decode cX10_suit 68 = .ok (.if_icmp .ne 9, 3) := by decide +kernel
theorem dX10_suit_71 : decode cX10_suit 71 = .ok (.aload_n 0, 1) := by decide +kernel
theorem dX10_suit_72 : decode cX10_suit 72 = .ok (.iload 6, 2) := by decide +kernel
theorem dX10_suit_74 : decode cX10_suit 74 = .ok (.invokevirtual 199, 3) := by decide +kernel
theorem dX10_suit_77 : decode cX10_suit 77 = .ok (.aload_n 0, 1) := by decide +kernel
theorem dX10_suit_78 : decode cX10_suit 78 = .ok (.iload_n 1, 1) := by decide +kernel
theorem dX10_suit_79 : decode cX10_suit 79 = .ok (.invokevirtual 193, 3) := by decide +kernel
theorem dX10_suit_82 : decode cX10_suit 82 = .ok (.iload_n 2, 1) := by decide +kernel
theorem dX10_suit_83 : decode cX10_suit 83 = .ok (.if_icmp .ne 7, 3) := by decide +kernel
theorem dX10_suit_86 : decode cX10_suit 86 = .ok (.iconst 1, 1) := by decide +kernel
theorem dX10_suit_87 : decode cX10_suit 87 = .ok (.goto 4, 3) := by decide +kernel
theorem dX10_suit_90 : decode cX10_suit 90 = .ok (.iconst 0, 1) := by decide +kernel
theorem dX10_suit_91 : decode cX10_suit 91 = .ok (.istore 7, 2) := by decide +kernel
theorem dX10_suit_93 : decode cX10_suit 93 = .ok (.aload_n 0, 1) := by decide +kernel
theorem dX10_suit_94 : decode cX10_suit 94 = .ok (.iload_n 3, 1) := by decide +kernel
theorem dX10_suit_95 : decode cX10_suit 95 = .ok (.putfield 54, 3) := by decide +kernel
theorem dX10_suit_98 : decode cX10_suit 98 = .ok (.iload 7, 2) := by decide +kernel
theorem dX10_suit_100 : decode cX10_suit 100 = .ok (.ifCond .eq 18, 3) := by decide +kernel
theorem dX10_suit_103 : decode cX10_suit 103 = .ok (.aload_n 0, 1) := by decide +kernel
theorem dX10_suit_104 : decode cX10_suit 104 = .ok (.iload 5, 2) := by decide +kernel
theorem dX10_suit_106 : decode cX10_suit 106 = .ok (.putfield 202, 3) := by decide +kernel
theorem dX10_suit_109 : decode cX10_suit 109 = .ok (.aload_n 0, 1) := by decide +kernel
theorem dX10_suit_110 : decode cX10_suit 110 = .ok (.iload 6, 2) := by decide +kernel
theorem dX10_suit_112 : decode cX10_suit 112 = .ok (.putfield 205, 3) := by decide +kernel
theorem dX10_suit_115 : decode cX10_suit 115 = .ok (.iload 4, 2) := by decide +kernel
theorem dX10_suit_117 : decode cX10_suit 117 = .ok (.ireturn, 1) := by decide +kernel
theorem dX10_suit_118 : decode cX10_suit 118 = .ok (.iinc 6 1, 3) := by decide +kernel
theorem dX10_suit_121 : decode cX10_suit 121 = .ok (.goto (-81), 3) := by decide +kernel
theorem dX10_suit_124 : decode cX10_suit 124 = .ok (.iinc 5 1, 3) := by decide +kernel
theorem dX10_suit_127 : decode cX10_suit 127 = .ok (.goto (-99), 3) := by decide +kernel
theorem dX10_suit_130 : decode cX10_suit 130 = .ok (.iinc 4 1, 3) := by decide +kernel
theorem dX10_suit_133 : decode cX10_suit 133 = .ok (.goto (-114), 3) := by decide +kernel
theorem dX10_suit_136 : decode cX10_suit 136 = .ok (.iconst (-1), 1) := by decide +kernel
theorem dX10_suit_137 : decode cX10_suit 137 = .ok (.ireturn, 1) := by decide +kernel
theorem dX10_doesTurn_0 : decode cX10_doesTurn 0 = .ok (.aload_n 0, 1) := by decide +kernel
theorem dX10_doesTurn_1 : decode cX10_doesTurn 1 = .ok (.getfield 54, 3) := by decide +kernel
theorem dX10_doesTurn_4 : decode cX10_doesTurn 4 = .ok (.istore 4, 2) := by decide +kernel
theorem dX10_doesTurn_6 : decode cX10_doesTurn 6 = .ok (.aload_n 0, 1) := by decide +kernel
theorem dX10_doesTurn_7 : decode cX10_doesTurn 7 = .ok (.iload_n 3, 1) := by decide +kernel
theorem dX10_doesTurn_8 : decode cX10_doesTurn 8 = .ok (.invokevirtual 199, 3) := by decide +kernel
theorem dX10_doesTurn_11 : decode cX10_doesTurn 11 = .ok (.aload_n 0, 1) := by decide +kernel
theorem dX10_doesTurn_12 : decode cX10_doesTurn 12 = .ok (.iload_n 1, 1) := by decide +kernel
theorem dX10_doesTurn_13 : decode cX10_doesTurn 13 = .ok (.invokevirtual 193, 3) := by decide +kernel
theorem dX10_doesTurn_16 : decode cX10_doesTurn 16 = .ok (.iload_n 2, 1) := by decide +kernel
theorem dX10_doesTurn_17 : decode cX10_doesTurn 17 = .ok (.if_icmp .ne 7, 3) := by decide +kernel
theorem dX10_doesTurn_20 : decode cX10_doesTurn 20 = .ok (.iconst 1, 1) := by decide +kernel
theorem dX10_doesTurn_21 : decode cX10_doesTurn 21 = .ok (.goto 4, 3) := by decide +kernel
theorem dX10_doesTurn_24 : decode cX10_doesTurn 24 = .ok (.iconst 0, 1) := by decide +kernel
theorem dX10_doesTurn_25 : decode cX10_doesTurn 25 = .ok (.istore 5, 2) := by decide +kernel
theorem dX10_doesTurn_27 : decode cX10_doesTurn 27 = .ok (.iconst 0, 1) := by decide +kernel
theorem dX10_doesTurn_28 : decode cX10_doesTurn 28 = .ok (.istore 6, 2) := by decide +kernel
theorem dX10_doesTurn_30 : decode cX10_doesTurn 30 = .ok (.iload 6, 2) := by decide +kernel
theorem dX10_doesTurn_32 : decode cX10_doesTurn 32 = .ok (.aload_n 0, 1) := by decide +kernel
theorem dX10_doesTurn_33 : decode cX10_doesTurn 33 = .ok (.invokevirtual 57, 3) := by decide +kernel
theorem dX10_doesTurn_36 : decode cX10_doesTurn 36 = .ok (.if_icmp .ge 46, 3) := by decide +kernel
theorem dX10_doesTurn_39 : decode cX10_doesTurn 39 = .ok (.iload 5, 2) := by decide +kernel
theorem dX10_doesTurn_41 : decode cX10_doesTurn 41 = .ok (.ifCond .eq 41, 3) := by decide +kernel
theorem dX10_doesTurn_44 : decode cX10_doesTurn 44 = .ok (.aload_n 0, 1) := by decide +kernel
theorem dX10_doesTurn_45 : decode cX10_doesTurn 45 = .ok (.iload 6, 2) := by decide +kernel
theorem dX10_doesTurn_47 : decode cX10_doesTurn 47 = .ok (.invokevirtual 199, 3) := by decide +kernel
theorem dX10_doesTurn_50 : decode cX10_doesTurn 50 = .ok (.aload_n 0, 1) := by decide +kernel
theorem dX10_doesTurn_51 : decode cX10_doesTurn 51 = .ok (.iload_n 1, 1) := by decide +kernel
theorem dX10_doesTurn_52 : decode cX10_doesTurn 52 = .ok (.invokevirtual 193, 3) := by decide +kernel
theorem dX10_doesTurn_55 : decode cX10_doesTurn 55 = .ok (.iload_n 2, 1) := by decide +kernel
theorem dX10_doesTurn_56 : decode cX10_doesTurn 56 = .ok (.if_icmp .ne 7, 3) := by decide +kernel
theorem dX10_doesTurn_59 : decode cX10_doesTurn 59 = .ok (.iconst 1, 1) := by decide +kernel
theorem dX10_doesTurn_60 : decode cX10_doesTurn 60 = .ok (.goto 4, 3) := by decide +kernel
theorem dX10_doesTurn_63 : decode cX10_doesTurn 63 = .ok (.iconst 0, 1) := by decide +kernel
theorem dX10_doesTurn_64 : decode cX10_doesTurn 64 = .ok (.istore 5, 2) := by decide +kernel
theorem dX10_doesTurn_66 : decode cX10_doesTurn 66 = .ok (.aload_n 0, 1) := by decide +kernel
theorem dX10_doesTurn_67 : decode cX10_doesTurn 67 = .ok (.dup, 1) := by decide +kernel
theorem dX10_doesTurn_68 : decode cX10_doesTurn 68 = .ok (.getfield 54, 3) := by decide +kernel
theorem dX10_doesTurn_71 : decode cX10_doesTurn 71 = .ok (.iconst 1, 1) := by decide +kernel
theorem dX10_doesTurn_72 : decode cX10_doesTurn 72 = .ok (.isub, 1) := by decide +kernel
theorem dX10_doesTurn_73 : decode cX10_doesTurn 73 = .ok (.putfield 54, 3) := by decide +kernel
theorem dX10_doesTurn_76 : decode cX10_doesTurn 76 = .ok (.iinc 6 1, 3) := by decide +kernel
theorem dX10_doesTurn_79 : decode cX10_doesTurn 79 = .ok (.goto (-49), 3) := by decide +kernel
theorem dX10_doesTurn_82 : decode cX10_doesTurn 82 = .ok (.aload_n 0, 1) := by decide +kernel
theorem dX10_doesTurn_83 : decode cX10_doesTurn 83 = .ok (.iload 4, 2) := by decide +kernel
theorem dX10_doesTurn_85 : decode cX10_doesTurn 85 = .ok (.putfield 54, 3) := by decide +kernel
theorem dX10_doesTurn_88 : decode cX10_doesTurn 88 = .ok (.iload 5, 2) := by decide +kernel
theorem dX10_doesTurn_90 : decode cX10_doesTurn 90 = .ok (.ireturn, 1) := by decide +kernel
theorem dX10_dead_0 : decode cX10_dead 0 = .ok (.aload_n 0, 1) := by decide +kernel
theorem dX10_dead_1 : decode cX10_dead 1 = .ok (.invokevirtual 184, 3) := by decide +kernel
theorem dX10_dead_4 : decode cX10_dead 4 = .ok (.istore_n 1, 1) := by decide +kernel
theorem dX10_dead_5 : decode cX10_dead 5 = .ok (.iconst 0, 1) := by decide +kernel
theorem dX10_dead_6 : decode cX10_dead 6 = .ok (.istore_n 2, 1) := by decide +kernel
theorem dX10_dead_7 : decode cX10_dead 7 = .ok (.iload_n 2, 1) := by decide +kernel
theorem dX10_dead_8 : decode cX10_dead 8 = .ok (.aload_n 0, 1) := by decide +kernel
theorem dX10_dead_9 : decode cX10_dead 9 = .ok (.invokevirtual 57, 3) := by decide +kernel
theorem dX10_dead_12 : decode cX10_dead 12 = .ok (.if_icmp .ge 32, 3) := by decide +kernel
theorem dX10_dead_15 : decode cX10_dead 15 = .ok (.aload_n 0, 1) := by decide +kernel
theorem dX10_dead_16 : decode cX10_dead 16 = .ok (.getfield 54, 3) := by decide +kernel
theorem dX10_dead_19 : decode cX10_dead 19 = .ok (.ifCond .le 25, 3) := by decide +kernel
theorem dX10_dead_22 : decode cX10_dead 22 = .ok (.iload_n 1, 1) := by decide +kernel
theorem dX10_dead_23 : decode cX10_dead 23 = .ok (.iconst 1, 1) := by decide +kernel
theorem dX10_dead_24 : decode cX10_dead 24 = .ok (.aload_n 0, 1) := by decide +kernel
theorem dX10_dead_25 : decode cX10_dead 25 = .ok (.iload_n 2, 1) := by decide +kernel
theorem dX10_dead_26 : decode cX10_dead 26 = .ok (.aload_n 0, 1) := by decide +kernel
theorem dX10_dead_27 : decode cX10_dead 27 = .ok (.invokevirtual 184, 3) := by decide +kernel
theorem dX10_dead_30 : decode cX10_dead 30 = .ok (.invokevirtual 187, 3) := by decide +kernel
theorem dX10_dead_33 : decode cX10_dead 33 = .ok (.ishl, 1) := by decide +kernel
theorem dX10_dead_34 : decode cX10_dead 34 = .ok (.iconst (-1), 1) := by decide +kernel
theorem dX10_dead_35 : decode cX10_dead 35 = .ok (.ixor, 1) := by decide +kernel
theorem dX10_dead_36 : decode cX10_dead 36 = .ok (.iand, 1) := by decide +kernel
theorem dX10_dead_37 : decode cX10_dead 37 = .ok (.istore_n 1, 1) := by decide +kernel
theorem dX10_dead_38 : decode cX10_dead 38 = .ok (.iinc 2 1, 3) := by decide +kernel
theorem dX10_dead_41 : decode cX10_dead 41 = .ok (.goto (-34), 3) := by decide +kernel
theorem dX10_dead_44 : decode cX10_dead 44 = .ok (.iload_n 1, 1) := by decide +kernel
theorem dX10_dead_45 : decode cX10_dead 45 = .ok (.ireturn, 1) := by decide +kernel
theorem dX10_judgesAlike_0 : decode cX10_judgesAlike 0 = .ok (.iconst 1, 1) := by decide +kernel
theorem dX10_judgesAlike_1 : decode cX10_judgesAlike 1 = .ok (.istore_n 2, 1) := by decide +kernel
theorem dX10_judgesAlike_2 : decode cX10_judgesAlike 2 = .ok (.iconst 0, 1) := by decide +kernel
theorem dX10_judgesAlike_3 : decode cX10_judgesAlike 3 = .ok (.istore_n 3, 1) := by decide +kernel
theorem dX10_judgesAlike_4 : decode cX10_judgesAlike 4 = .ok (.iload_n 3, 1) := by decide +kernel
theorem dX10_judgesAlike_5 : decode cX10_judgesAlike 5 = .ok (.aload_n 0, 1) := by decide +kernel
theorem dX10_judgesAlike_6 : decode cX10_judgesAlike 6 = .ok (.invokevirtual 57, 3) := by decide +kernel
theorem dX10_judgesAlike_9 : decode cX10_judgesAlike 9 = .ok (.if_icmp .ge 137, 3) := by decide +kernel
theorem dX10_judgesAlike_12 : decode cX10_judgesAlike 12 = .ok (.iload_n 2, 1) := by decide +kernel
theorem dX10_judgesAlike_13 : decode cX10_judgesAlike 13 = .ok (.ifCond .eq 133, 3) := by decide +kernel
theorem dX10_judgesAlike_16 : decode cX10_judgesAlike 16 = .ok (.iconst (-1), 1) := by decide +kernel
theorem dX10_judgesAlike_17 : decode cX10_judgesAlike 17 = .ok (.istore 4, 2) := by decide +kernel
theorem dX10_judgesAlike_19 : decode cX10_judgesAlike 19 = .ok (.iconst 0, 1) := by decide +kernel
theorem dX10_judgesAlike_20 : decode cX10_judgesAlike 20 = .ok (.istore 5, 2) := by decide +kernel
theorem dX10_judgesAlike_22 : decode cX10_judgesAlike 22 = .ok (.iload 5, 2) := by decide +kernel
theorem dX10_judgesAlike_24 : decode cX10_judgesAlike 24 = .ok (.aload_n 0, 1) := by decide +kernel
theorem dX10_judgesAlike_25 : decode cX10_judgesAlike 25 = .ok (.getfield 54, 3) := by decide +kernel
theorem dX10_judgesAlike_28 : decode cX10_judgesAlike 28 = .ok (.if_icmp .ge 85, 3) := by decide +kernel
theorem dX10_judgesAlike_31 : decode cX10_judgesAlike 31 = .ok (.iload_n 1, 1) := by decide +kernel
theorem dX10_judgesAlike_32 : decode cX10_judgesAlike 32 = .ok (.iload 5, 2) := by decide +kernel
theorem dX10_judgesAlike_34 : decode cX10_judgesAlike 34 = .ok (.invokestatic 177, 3) := by decide +kernel
theorem dX10_judgesAlike_37 : decode cX10_judgesAlike 37 = .ok (.ifCond .eq 70, 3) := by decide +kernel
theorem dX10_judgesAlike_40 : decode cX10_judgesAlike 40 = .ok (.iload 4, 2) := by decide +kernel
theorem dX10_judgesAlike_42 : decode cX10_judgesAlike 42 = .ok (.iconst (-1), 1) := by decide +kernel
theorem dX10_judgesAlike_43 : decode cX10_judgesAlike 43 = .ok (.if_icmp .ne 7, 3) := by decide +kernel
theorem dX10_judgesAlike_46 : decode cX10_judgesAlike 46 = .ok (.iconst 1, 1) := by decide +kernel
theorem dX10_judgesAlike_47 : decode cX10_judgesAlike 47 = .ok (.goto 28, 3) := by decide +kernel
theorem dX10_judgesAlike_50 : decode cX10_judgesAlike 50 = .ok (.aload_n 0, 1) := by decide +kernel
theorem dX10_judgesAlike_51 : decode cX10_judgesAlike 51 = .ok (.getfield 29, 3) := by decide +kernel
theorem dX10_judgesAlike_54 : decode cX10_judgesAlike 54 = .ok (.bipush 14, 2) := by decide +kernel
theorem dX10_judgesAlike_56 : decode cX10_judgesAlike 56 = .ok (.iload_n 3, 1) := by decide +kernel
theorem dX10_judgesAlike_57 : decode cX10_judgesAlike 57 = .ok (.imul, 1) := by decide +kernel
theorem dX10_judgesAlike_58 : decode cX10_judgesAlike 58 = .ok (.iload 5, 2) := by decide +kernel
theorem dX10_judgesAlike_60 : decode cX10_judgesAlike 60 = .ok (.iadd, 1) := by decide +kernel
theorem dX10_judgesAlike_61 : decode cX10_judgesAlike 61 = .ok (.iaload, 1) := by decide +kernel
theorem dX10_judgesAlike_62 : decode cX10_judgesAlike 62 = .ok (.aload_n 0, 1) := by decide +kernel
theorem dX10_judgesAlike_63 : decode cX10_judgesAlike 63 = .ok (.getfield 29, 3) := by decide +kernel
theorem dX10_judgesAlike_66 : decode cX10_judgesAlike 66 = .ok (.bipush 14, 2) := by decide +kernel
theorem dX10_judgesAlike_68 : decode cX10_judgesAlike 68 = .ok (.iload_n 3, 1) := by decide +kernel
theorem dX10_judgesAlike_69 : decode cX10_judgesAlike 69 = .ok (.imul, 1) := by decide +kernel
theorem dX10_judgesAlike_70 : decode cX10_judgesAlike 70 = .ok (.iload 4, 2) := by decide +kernel
theorem dX10_judgesAlike_72 : decode cX10_judgesAlike 72 = .ok (.iadd, 1) := by decide +kernel
theorem dX10_judgesAlike_73 : decode cX10_judgesAlike 73 = .ok (.iaload, 1) := by decide +kernel
theorem dX10_judgesAlike_74 : decode cX10_judgesAlike 74 = .ok (.isub, 1) := by decide +kernel
theorem dX10_judgesAlike_75 : decode cX10_judgesAlike 75 = .ok (.istore 6, 2) := by decide +kernel
theorem dX10_judgesAlike_77 : decode cX10_judgesAlike 77 = .ok (.iload 6, 2) := by decide +kernel
theorem dX10_judgesAlike_79 : decode cX10_judgesAlike 79 = .ok (.ifCond .gt 19, 3) := by decide +kernel
theorem dX10_judgesAlike_82 : decode cX10_judgesAlike 82 = .ok (.iload 6, 2) := by decide +kernel
theorem dX10_judgesAlike_84 : decode cX10_judgesAlike 84 = .ok (.ifCond .ne 19, 3) := by decide +kernel
theorem dX10_judgesAlike_87 : decode cX10_judgesAlike 87 = .ok (.aload_n 0, 1) := by decide +kernel
theorem dX10_judgesAlike_88 : decode cX10_judgesAlike 88 = .ok (.iload 5, 2) := by decide +kernel
theorem dX10_judgesAlike_90 : decode cX10_judgesAlike 90 = .ok (.iload 4, 2) := by decide +kernel
theorem dX10_judgesAlike_92 : decode cX10_judgesAlike 92 = .ok (.invokevirtual 169, 3) := by decide +kernel
theorem dX10_judgesAlike_95 : decode cX10_judgesAlike 95 = .ok (.ifCond .eq 8, 3) := by decide +kernel
theorem dX10_judgesAlike_98 : decode cX10_judgesAlike 98 = .ok (.iload 5, 2) := by decide +kernel
theorem dX10_judgesAlike_100 : decode cX10_judgesAlike 100 = .ok (.goto 5, 3) := by decide +kernel
theorem dX10_judgesAlike_103 : decode cX10_judgesAlike 103 = .ok (.iload 4, 2) := by decide +kernel
theorem dX10_judgesAlike_105 : decode cX10_judgesAlike 105 = .ok (.istore 4, 2) := by decide +kernel
theorem dX10_judgesAlike_107 : decode cX10_judgesAlike 107 = .ok (.iinc 5 1, 3) := by decide +kernel
theorem dX10_judgesAlike_110 : decode cX10_judgesAlike 110 = .ok (.goto (-88), 3) := by decide +kernel
theorem dX10_judgesAlike_113 : decode cX10_judgesAlike 113 = .ok (.iload 4, 2) := by decide +kernel
theorem dX10_judgesAlike_115 : decode cX10_judgesAlike 115 = .ok (.iconst (-1), 1) := by decide +kernel
theorem dX10_judgesAlike_116 : decode cX10_judgesAlike 116 = .ok (.if_icmp .eq 22, 3) := by decide +kernel
theorem dX10_judgesAlike_119 : decode cX10_judgesAlike 119 = .ok (.aload_n 0, 1) := by decide +kernel
theorem dX10_judgesAlike_120 : decode cX10_judgesAlike 120 = .ok (.iload 4, 2) := by decide +kernel
theorem dX10_judgesAlike_122 : decode cX10_judgesAlike 122 = .ok (.invokevirtual 173, 3) := by decide +kernel
theorem dX10_judgesAlike_125 : decode cX10_judgesAlike 125 = .ok (.aload_n 0, 1) := by decide +kernel
theorem dX10_judgesAlike_126 : decode cX10_judgesAlike 126 = .ok (.getfield 32, 3) := by decide +kernel
theorem dX10_judgesAlike_129 : decode cX10_judgesAlike 129 = .ok (.iload_n 3, 1) := by decide +kernel
theorem dX10_judgesAlike_130 : decode cX10_judgesAlike 130 = .ok (.iaload, 1) := by decide +kernel
theorem dX10_judgesAlike_131 : decode cX10_judgesAlike 131 = .ok (.if_icmp .ne 7, 3) := by decide +kernel
theorem dX10_judgesAlike_134 : decode cX10_judgesAlike 134 = .ok (.iconst 1, 1) := by decide +kernel
theorem dX10_judgesAlike_135 : decode cX10_judgesAlike 135 = .ok (.goto 4, 3) := by decide +kernel
theorem dX10_judgesAlike_138 : decode cX10_judgesAlike 138 = .ok (.iconst 0, 1) := by decide +kernel
theorem dX10_judgesAlike_139 : decode cX10_judgesAlike 139 = .ok (.istore_n 2, 1) := by decide +kernel
theorem dX10_judgesAlike_140 : decode cX10_judgesAlike 140 = .ok (.iinc 3 1, 3) := by decide +kernel
theorem dX10_judgesAlike_143 : decode cX10_judgesAlike 143 = .ok (.goto (-139), 3) := by decide +kernel
theorem dX10_judgesAlike_146 : decode cX10_judgesAlike 146 = .ok (.iload_n 2, 1) := by decide +kernel
theorem dX10_judgesAlike_147 : decode cX10_judgesAlike 147 = .ok (.ireturn, 1) := by decide +kernel
theorem dX10_turning_0 : decode cX10_turning 0 = .ok (.aload_n 0, 1) := by decide +kernel
theorem dX10_turning_1 : decode cX10_turning 1 = .ok (.iload_n 1, 1) := by decide +kernel
theorem dX10_turning_2 : decode cX10_turning 2 = .ok (.invokevirtual 190, 3) := by decide +kernel
theorem dX10_turning_5 : decode cX10_turning 5 = .ok (.ifCond .ne 6, 3) := by decide +kernel
theorem dX10_turning_8 : decode cX10_turning 8 = .ok (.bipush (-3), 2) := by decide +kernel
theorem dX10_turning_10 : decode cX10_turning 10 = .ok (.ireturn, 1) := by decide +kernel
theorem dX10_turning_11 : decode cX10_turning 11 = .ok (.aload_n 0, 1) := by decide +kernel
theorem dX10_turning_12 : decode cX10_turning 12 = .ok (.getfield 54, 3) := by decide +kernel
theorem dX10_turning_15 : decode cX10_turning 15 = .ok (.ifCond .ne 6, 3) := by decide +kernel
theorem dX10_turning_18 : decode cX10_turning 18 = .ok (.bipush (-4), 2) := by decide +kernel
theorem dX10_turning_20 : decode cX10_turning 20 = .ok (.ireturn, 1) := by decide +kernel
theorem dX10_turning_21 : decode cX10_turning 21 = .ok (.iconst 0, 1) := by decide +kernel
theorem dX10_turning_22 : decode cX10_turning 22 = .ok (.istore_n 2, 1) := by decide +kernel
theorem dX10_turning_23 : decode cX10_turning 23 = .ok (.iconst 0, 1) := by decide +kernel
theorem dX10_turning_24 : decode cX10_turning 24 = .ok (.istore_n 3, 1) := by decide +kernel
theorem dX10_turning_25 : decode cX10_turning 25 = .ok (.iload_n 3, 1) := by decide +kernel
theorem dX10_turning_26 : decode cX10_turning 26 = .ok (.aload_n 0, 1) := by decide +kernel
theorem dX10_turning_27 : decode cX10_turning 27 = .ok (.getfield 7, 3) := by decide +kernel
theorem dX10_turning_30 : decode cX10_turning 30 = .ok (.if_icmp .ge 36, 3) := by decide +kernel
theorem dX10_turning_33 : decode cX10_turning 33 = .ok (.iload_n 2, 1) := by decide +kernel
theorem dX10_turning_34 : decode cX10_turning 34 = .ok (.aload_n 0, 1) := by decide +kernel
theorem dX10_turning_35 : decode cX10_turning 35 = .ok (.iload_n 1, 1) := by decide +kernel
theorem dX10_turning_36 : decode cX10_turning 36 = .ok (.iconst 1, 1) := by decide +kernel
theorem dX10_turning_37 : decode cX10_turning 37 = .ok (.iload_n 3, 1) := by decide +kernel
theorem dX10_turning_38 : decode cX10_turning 38 = .ok (.ishl, 1) := by decide +kernel
theorem dX10_turning_39 : decode cX10_turning 39 = .ok (.ixor, 1) := by decide +kernel
theorem dX10_turning_40 : decode cX10_turning 40 = .ok (.invokevirtual 193, 3) := by decide +kernel
theorem dX10_turning_43 : decode cX10_turning 43 = .ok (.aload_n 0, 1) := by decide +kernel
theorem dX10_turning_44 : decode cX10_turning 44 = .ok (.iload_n 1, 1) := by decide +kernel
theorem dX10_turning_45 : decode cX10_turning 45 = .ok (.invokevirtual 193, 3) := by decide +kernel
theorem dX10_turning_48 : decode cX10_turning 48 = .ok (.if_icmp .eq 9, 3) := by decide +kernel
theorem dX10_turning_51 : decode cX10_turning 51 = .ok (.iconst 1, 1) := by decide +kernel
theorem dX10_turning_52 : decode cX10_turning 52 = .ok (.iload_n 3, 1) := by decide +kernel
theorem dX10_turning_53 : decode cX10_turning 53 = .ok (.ishl, 1) := by decide +kernel
theorem dX10_turning_54 : decode cX10_turning 54 = .ok (.goto 4, 3) := by decide +kernel
theorem dX10_turning_57 : decode cX10_turning 57 = .ok (.iconst 0, 1) := by decide +kernel
theorem dX10_turning_58 : decode cX10_turning 58 = .ok (.ior, 1) := by decide +kernel
theorem dX10_turning_59 : decode cX10_turning 59 = .ok (.istore_n 2, 1) := by decide +kernel
theorem dX10_turning_60 : decode cX10_turning 60 = .ok (.iinc 3 1, 3) := by decide +kernel
theorem dX10_turning_63 : decode cX10_turning 63 = .ok (.goto (-38), 3) := by decide +kernel
theorem dX10_turning_66 : decode cX10_turning 66 = .ok (.iload_n 2, 1) := by decide +kernel
theorem dX10_turning_67 : decode cX10_turning 67 = .ok (.ireturn, 1) := by decide +kernel
theorem dX10_follows_0 : decode cX10_follows 0 = .ok (.iconst 0, 1) := by decide +kernel
theorem dX10_follows_1 : decode cX10_follows 1 = .ok (.istore_n 3, 1) := by decide +kernel
theorem dX10_follows_2 : decode cX10_follows 2 = .ok (.iconst 0, 1) := by decide +kernel
theorem dX10_follows_3 : decode cX10_follows 3 = .ok (.istore 4, 2) := by decide +kernel
theorem dX10_follows_5 : decode cX10_follows 5 = .ok (.iload 4, 2) := by decide +kernel
theorem dX10_follows_7 : decode cX10_follows 7 = .ok (.aload_n 0, 1) := by decide +kernel
theorem dX10_follows_8 : decode cX10_follows 8 = .ok (.getfield 54, 3) := by decide +kernel
theorem dX10_follows_11 : decode cX10_follows 11 = .ok (.if_icmp .ge 45, 3) := by decide +kernel
theorem dX10_follows_14 : decode cX10_follows 14 = .ok (.iload_n 3, 1) := by decide +kernel
theorem dX10_follows_15 : decode cX10_follows 15 = .ok (.iload_n 2, 1) := by decide +kernel
theorem dX10_follows_16 : decode cX10_follows 16 = .ok (.iload 4, 2) := by decide +kernel
theorem dX10_follows_18 : decode cX10_follows 18 = .ok (.invokestatic 177, 3) := by decide +kernel
theorem dX10_follows_21 : decode cX10_follows 21 = .ok (.ifCond .eq 26, 3) := by decide +kernel
theorem dX10_follows_24 : decode cX10_follows 24 = .ok (.iload 4, 2) := by decide +kernel
theorem dX10_follows_26 : decode cX10_follows 26 = .ok (.iload_n 1, 1) := by decide +kernel
theorem dX10_follows_27 : decode cX10_follows 27 = .ok (.if_icmp .eq 20, 3) := by decide +kernel
theorem dX10_follows_30 : decode cX10_follows 30 = .ok (.aload_n 0, 1) := by decide +kernel
theorem dX10_follows_31 : decode cX10_follows 31 = .ok (.iload 4, 2) := by decide +kernel
theorem dX10_follows_33 : decode cX10_follows 33 = .ok (.iload_n 1, 1) := by decide +kernel
theorem dX10_follows_34 : decode cX10_follows 34 = .ok (.invokevirtual 169, 3) := by decide +kernel
theorem dX10_follows_37 : decode cX10_follows 37 = .ok (.ifCond .eq 10, 3) := by decide +kernel
theorem dX10_follows_40 : decode cX10_follows 40 = .ok (.iconst 1, 1) := by decide +kernel
theorem dX10_follows_41 : decode cX10_follows 41 = .ok (.iload 4, 2) := by decide +kernel
theorem dX10_follows_43 : decode cX10_follows 43 = .ok (.ishl, 1) := by decide +kernel
theorem dX10_follows_44 : decode cX10_follows 44 = .ok (.goto 4, 3) := by decide +kernel
theorem dX10_follows_47 : decode cX10_follows 47 = .ok (.iconst 0, 1) := by decide +kernel
theorem dX10_follows_48 : decode cX10_follows 48 = .ok (.ior, 1) := by decide +kernel
theorem dX10_follows_49 : decode cX10_follows 49 = .ok (.istore_n 3, 1) := by decide +kernel
theorem dX10_follows_50 : decode cX10_follows 50 = .ok (.iinc 4 1, 3) := by decide +kernel
theorem dX10_follows_53 : decode cX10_follows 53 = .ok (.goto (-48), 3) := by decide +kernel
theorem dX10_follows_56 : decode cX10_follows 56 = .ok (.aload_n 0, 1) := by decide +kernel
theorem dX10_follows_57 : decode cX10_follows 57 = .ok (.aload_n 0, 1) := by decide +kernel
theorem dX10_follows_58 : decode cX10_follows 58 = .ok (.getfield 20, 3) := by decide +kernel
theorem dX10_follows_61 : decode cX10_follows 61 = .ok (.iconst 4, 1) := by decide +kernel
theorem dX10_follows_62 : decode cX10_follows 62 = .ok (.iload_n 1, 1) := by decide +kernel
theorem dX10_follows_63 : decode cX10_follows 63 = .ok (.imul, 1) := by decide +kernel
theorem dX10_follows_64 : decode cX10_follows 64 = .ok (.iaload, 1) := by decide +kernel
theorem dX10_follows_65 : decode cX10_follows 65 = .ok (.iload_n 3, 1) := by decide +kernel
theorem dX10_follows_66 : decode cX10_follows 66 = .ok (.invokevirtual 187, 3) := by decide +kernel
theorem dX10_follows_69 : decode cX10_follows 69 = .ok (.istore 4, 2) := by decide +kernel
theorem dX10_follows_71 : decode cX10_follows 71 = .ok (.iload 4, 2) := by decide +kernel
theorem dX10_follows_73 : decode cX10_follows 73 = .ok (.iconst (-1), 1) := by decide +kernel
theorem dX10_follows_74 : decode cX10_follows 74 = .ok (.if_icmp .eq 27, 3) := by decide +kernel
theorem dX10_follows_77 : decode cX10_follows 77 = .ok (.aload_n 0, 1) := by decide +kernel
theorem dX10_follows_78 : decode cX10_follows 78 = .ok (.getfield 20, 3) := by decide +kernel
theorem dX10_follows_81 : decode cX10_follows 81 = .ok (.iconst 4, 1) := by decide +kernel
theorem dX10_follows_82 : decode cX10_follows 82 = .ok (.iload 4, 2) := by decide +kernel
theorem dX10_follows_84 : decode cX10_follows 84 = .ok (.imul, 1) := by decide +kernel
theorem dX10_follows_85 : decode cX10_follows 85 = .ok (.iconst 1, 1) := by decide +kernel
theorem dX10_follows_86 : decode cX10_follows 86 = .ok (.iadd, 1) := by decide +kernel
theorem dX10_follows_87 : decode cX10_follows 87 = .ok (.iaload, 1) := by decide +kernel
theorem dX10_follows_88 : decode cX10_follows 88 = .ok (.aload_n 0, 1) := by decide +kernel
theorem dX10_follows_89 : decode cX10_follows 89 = .ok (.getfield 20, 3) := by decide +kernel
theorem dX10_follows_92 : decode cX10_follows 92 = .ok (.iconst 4, 1) := by decide +kernel
theorem dX10_follows_93 : decode cX10_follows 93 = .ok (.iload_n 1, 1) := by decide +kernel
theorem dX10_follows_94 : decode cX10_follows 94 = .ok (.imul, 1) := by decide +kernel
theorem dX10_follows_95 : decode cX10_follows 95 = .ok (.iconst 1, 1) := by decide +kernel
theorem dX10_follows_96 : decode cX10_follows 96 = .ok (.iadd, 1) := by decide +kernel
theorem dX10_follows_97 : decode cX10_follows 97 = .ok (.iaload, 1) := by decide +kernel
theorem dX10_follows_98 : decode cX10_follows 98 = .ok (.if_icmp .ne 7, 3) := by decide +kernel
theorem dX10_follows_101 : decode cX10_follows 101 = .ok (.iconst 1, 1) := by decide +kernel
theorem dX10_follows_102 : decode cX10_follows 102 = .ok (.goto 4, 3) := by decide +kernel
theorem dX10_follows_105 : decode cX10_follows 105 = .ok (.iconst 0, 1) := by decide +kernel
theorem dX10_follows_106 : decode cX10_follows 106 = .ok (.ireturn, 1) := by decide +kernel
theorem dX10_forged_0 : decode cX10_forged 0 = .ok (.aload_n 0, 1) := by decide +kernel
theorem dX10_forged_1 : decode cX10_forged 1 = .ok (.aload_n 0, 1) := by decide +kernel
theorem dX10_forged_2 : decode cX10_forged 2 = .ok (.invokevirtual 184, 3) := by decide +kernel
theorem dX10_forged_5 : decode cX10_forged 5 = .ok (.invokevirtual 228, 3) := by decide +kernel
theorem dX10_forged_8 : decode cX10_forged 8 = .ok (.ireturn, 1) := by decide +kernel
theorem dX10_hang_0 : decode cX10_hang 0 = .ok (.iload_n 1, 1) := by decide +kernel
theorem dX10_hang_1 : decode cX10_hang 1 = .ok (.iconst (-1), 1) := by decide +kernel
theorem dX10_hang_2 : decode cX10_hang 2 = .ok (.if_icmp .eq 20, 3) := by decide +kernel
theorem dX10_hang_5 : decode cX10_hang 5 = .ok (.iload_n 1, 1) := by decide +kernel
theorem dX10_hang_6 : decode cX10_hang 6 = .ok (.iconst 0, 1) := by decide +kernel
theorem dX10_hang_7 : decode cX10_hang 7 = .ok (.aload_n 0, 1) := by decide +kernel
theorem dX10_hang_8 : decode cX10_hang 8 = .ok (.getfield 7, 3) := by decide +kernel
theorem dX10_hang_11 : decode cX10_hang 11 = .ok (.iconst 1, 1) := by decide +kernel
theorem dX10_hang_12 : decode cX10_hang 12 = .ok (.isub, 1) := by decide +kernel
theorem dX10_hang_13 : decode cX10_hang 13 = .ok (.invokestatic 61, 3) := by decide +kernel
theorem dX10_hang_16 : decode cX10_hang 16 = .ok (.ifCond .ne 6, 3) := by decide +kernel
theorem dX10_hang_19 : decode cX10_hang 19 = .ok (.bipush (-2), 2) := by decide +kernel
theorem dX10_hang_21 : decode cX10_hang 21 = .ok (.ireturn, 1) := by decide +kernel
theorem dX10_hang_22 : decode cX10_hang 22 = .ok (.aload_n 0, 1) := by decide +kernel
theorem dX10_hang_23 : decode cX10_hang 23 = .ok (.getfield 7, 3) := by decide +kernel
theorem dX10_hang_26 : decode cX10_hang 26 = .ok (.bipush 6, 2) := by decide +kernel
theorem dX10_hang_28 : decode cX10_hang 28 = .ok (.if_icmp .le 6, 3) := by decide +kernel
theorem dX10_hang_31 : decode cX10_hang 31 = .ok (.bipush (-4), 2) := by decide +kernel
theorem dX10_hang_33 : decode cX10_hang 33 = .ok (.ireturn, 1) := by decide +kernel
theorem dX10_hang_34 : decode cX10_hang 34 = .ok (.iconst 1, 1) := by decide +kernel
theorem dX10_hang_35 : decode cX10_hang 35 = .ok (.istore_n 2, 1) := by decide +kernel
theorem dX10_hang_36 : decode cX10_hang 36 = .ok (.iconst 0, 1) := by decide +kernel
theorem dX10_hang_37 : decode cX10_hang 37 = .ok (.istore_n 3, 1) := by decide +kernel
theorem dX10_hang_38 : decode cX10_hang 38 = .ok (.iload_n 3, 1) := by decide +kernel
theorem dX10_hang_39 : decode cX10_hang 39 = .ok (.aload_n 0, 1) := by decide +kernel
theorem dX10_hang_40 : decode cX10_hang 40 = .ok (.getfield 7, 3) := by decide +kernel
theorem dX10_hang_43 : decode cX10_hang 43 = .ok (.if_icmp .ge 25, 3) := by decide +kernel
theorem dX10_hang_46 : decode cX10_hang 46 = .ok (.aload_n 0, 1) := by decide +kernel
theorem dX10_hang_47 : decode cX10_hang 47 = .ok (.getfield 48, 3) := by decide +kernel
theorem dX10_hang_50 : decode cX10_hang 50 = .ok (.iload_n 3, 1) := by decide +kernel
theorem dX10_hang_51 : decode cX10_hang 51 = .ok (.aload_n 0, 1) := by decide +kernel
theorem dX10_hang_52 : decode cX10_hang 52 = .ok (.getfield 13, 3) := by decide +kernel
theorem dX10_hang_55 : decode cX10_hang 55 = .ok (.iload_n 3, 1) := by decide +kernel
theorem dX10_hang_56 : decode cX10_hang 56 = .ok (.iaload, 1) := by decide +kernel
theorem dX10_hang_57 : decode cX10_hang 57 = .ok (.iastore, 1) := by decide +kernel
theorem dX10_hang_58 : decode cX10_hang 58 = .ok (.iload_n 2, 1) := by decide +kernel
theorem dX10_hang_59 : decode cX10_hang 59 = .ok (.iconst 3, 1) := by decide +kernel
theorem dX10_hang_60 : decode cX10_hang 60 = .ok (.imul, 1) := by decide +kernel
theorem dX10_hang_61 : decode cX10_hang 61 = .ok (.istore_n 2, 1) := by decide +kernel
theorem dX10_hang_62 : decode cX10_hang 62 = .ok (.iinc 3 1, 3) := by decide +kernel
theorem dX10_hang_65 : decode cX10_hang 65 = .ok (.goto (-27), 3) := by decide +kernel
theorem dX10_hang_68 : decode cX10_hang 68 = .ok (.iconst 0, 1) := by decide +kernel
theorem dX10_hang_69 : decode cX10_hang 69 = .ok (.istore_n 3, 1) := by decide +kernel
theorem dX10_hang_70 : decode cX10_hang 70 = .ok (.iconst (-1), 1) := by decide +kernel
theorem dX10_hang_71 : decode cX10_hang 71 = .ok (.istore 4, 2) := by decide +kernel
theorem dX10_hang_73 : decode cX10_hang 73 = .ok (.iconst 0, 1) := by decide +kernel
theorem dX10_hang_74 : decode cX10_hang 74 = .ok (.istore 5, 2) := by decide +kernel
theorem dX10_hang_76 : decode cX10_hang 76 = .ok (.iload 5, 2) := by decide +kernel
theorem dX10_hang_78 : decode cX10_hang 78 = .ok (.iload_n 2, 1) := by decide +kernel
theorem dX10_hang_79 : decode cX10_hang 79 = .ok (.if_icmp .ge 85, 3) := by decide +kernel
theorem dX10_hang_82 : decode cX10_hang 82 = .ok (.iload 5, 2) := by decide +kernel
theorem dX10_hang_84 : decode cX10_hang 84 = .ok (.istore 6, 2) := by decide +kernel
theorem dX10_hang_86 : decode cX10_hang 86 = .ok (.aload_n 0, 1) := by decide +kernel
theorem dX10_hang_87 : decode cX10_hang 87 = .ok (.getfield 7, 3) := by decide +kernel
theorem dX10_hang_90 : decode cX10_hang 90 = .ok (.iconst 1, 1) := by decide +kernel
theorem dX10_hang_91 : decode cX10_hang 91 = .ok (.isub, 1) := by decide +kernel
theorem dX10_hang_92 : decode cX10_hang 92 = .ok (.istore 7, 2) := by decide +kernel
theorem dX10_hang_94 : decode cX10_hang 94 = .ok (.iload 7, 2) := by decide +kernel
theorem dX10_hang_96 : decode cX10_hang 96 = .ok (.ifCond .lt 26, 3) := by decide +kernel
theorem dX10_hang_99 : decode cX10_hang 99 = .ok (.aload_n 0, 1) := by decide +kernel
theorem dX10_hang_100 : decode cX10_hang 100 = .ok (.getfield 13, 3) := by decide +kernel
theorem dX10_hang_103 : decode cX10_hang 103 = .ok (.iload 7, 2) := by decide +kernel
theorem dX10_hang_105 : decode cX10_hang 105 = .ok (.iload 6, 2) := by decide +kernel
theorem dX10_hang_107 : decode cX10_hang 107 = .ok (.iconst 3, 1) := by decide +kernel
theorem dX10_hang_108 : decode cX10_hang 108 = .ok (.irem, 1) := by decide +kernel
theorem dX10_hang_109 : decode cX10_hang 109 = .ok (.iastore, 1) := by decide +kernel
theorem dX10_hang_110 : decode cX10_hang 110 = .ok (.iload 6, 2) := by decide +kernel
theorem dX10_hang_112 : decode cX10_hang 112 = .ok (.iconst 3, 1) := by decide +kernel
theorem dX10_hang_113 : decode cX10_hang 113 = .ok (.idiv, 1) := by decide +kernel
theorem dX10_hang_114 : decode cX10_hang 114 = .ok (.istore 6, 2) := by decide +kernel
theorem dX10_hang_116 : decode cX10_hang 116 = .ok (.iinc 7 (-1), 3) := by decide +kernel
theorem dX10_hang_119 : decode cX10_hang 119 = .ok (.goto (-25), 3) := by decide +kernel
theorem dX10_hang_122 : decode cX10_hang 122 = .ok (.aload_n 0, 1) := by decide +kernel
theorem dX10_hang_123 : decode cX10_hang 123 = .ok (.aload_n 0, 1) := by decide +kernel
theorem dX10_hang_124 : decode cX10_hang 124 = .ok (.invokevirtual 184, 3) := by decide +kernel
theorem dX10_hang_127 : decode cX10_hang 127 = .ok (.invokevirtual 228, 3) := by decide +kernel
theorem dX10_hang_130 : decode cX10_hang 130 = .ok (.ifCond .ne 28, 3) := by decide +kernel
theorem dX10_hang_133 : decode cX10_hang 133 = .ok (.iload_n 3, 1) := by decide +kernel
theorem dX10_hang_134 : decode cX10_hang 134 = .ok (.ifCond .ne 17, 3) := by decide +kernel
theorem dX10_hang_137 : decode cX10_hang 137 = .ok (.iload_n 1, 1) := by decide +kernel
theorem dX10_hang_138 : decode cX10_hang 138 = .ok (.iconst (-1), 1) := by decide +kernel
theorem dX10_hang_139 : decode cX10_hang 139 = .ok (.if_icmp .eq 12, 3) := by decide +kernel
theorem dX10_hang_142 : decode cX10_hang 142 = .ok (.aload_n 0, 1) := by decide +kernel
theorem dX10_hang_143 : decode cX10_hang 143 = .ok (.getfield 13, 3) := by decide +kernel
theorem dX10_hang_146 : decode cX10_hang 146 = .ok (.iload_n 1, 1) := by decide +kernel
theorem dX10_hang_147 : decode cX10_hang 147 = .ok (.iaload, 1) := by decide +kernel
theorem dX10_hang_148 : decode cX10_hang 148 = .ok (.goto 5, 3) := by decide +kernel
theorem dX10_hang_151 : decode cX10_hang 151 = .ok (.iload 4, 2) := by decide +kernel
theorem dX10_hang_153 : decode cX10_hang 153 = .ok (.istore 4, 2) := by decide +kernel
theorem dX10_hang_155 : decode cX10_hang 155 = .ok (.iinc 3 1, 3) := by decide +kernel
theorem dX10_hang_158 : decode cX10_hang 158 = .ok (.iinc 5 1, 3) := by decide +kernel
theorem dX10_hang_161 : decode cX10_hang 161 = .ok (.goto (-85), 3) := by decide +kernel
theorem dX10_hang_164 : decode cX10_hang 164 = .ok (.iconst 0, 1) := by decide +kernel
theorem dX10_hang_165 : decode cX10_hang 165 = .ok (.istore 5, 2) := by decide +kernel
theorem dX10_hang_167 : decode cX10_hang 167 = .ok (.iload 5, 2) := by decide +kernel
theorem dX10_hang_169 : decode cX10_hang 169 = .ok (.aload_n 0, 1) := by decide +kernel
theorem dX10_hang_170 : decode cX10_hang 170 = .ok (.getfield 7, 3) := by decide +kernel
theorem dX10_hang_173 : decode cX10_hang 173 = .ok (.if_icmp .ge 23, 3) := by decide +kernel
theorem dX10_hang_176 : decode cX10_hang 176 = .ok (.aload_n 0, 1) := by decide +kernel
theorem dX10_hang_177 : decode cX10_hang 177 = .ok (.getfield 13, 3) := by decide +kernel
theorem dX10_hang_180 : decode cX10_hang 180 = .ok (.iload 5, 2) := by decide +kernel
theorem dX10_hang_182 : decode cX10_hang 182 = .ok (.aload_n 0, 1) := by decide +kernel
theorem dX10_hang_183 : decode cX10_hang 183 = .ok (.getfield 48, 3) := by decide +kernel
theorem dX10_hang_186 : decode cX10_hang 186 = .ok (.iload 5, 2) := by decide +kernel
theorem dX10_hang_188 : decode cX10_hang 188 = .ok (.iaload, 1) := by decide +kernel
theorem dX10_hang_189 : decode cX10_hang 189 = .ok (.iastore, 1) := by decide +kernel
theorem dX10_hang_190 : decode cX10_hang 190 = .ok (.iinc 5 1, 3) := by decide +kernel
theorem dX10_hang_193 : decode cX10_hang 193 = .ok (.goto (-26), 3) := by decide +kernel
theorem dX10_hang_196 : decode cX10_hang 196 = .ok (.iload_n 1, 1) := by decide +kernel
theorem dX10_hang_197 : decode cX10_hang 197 = .ok (.iconst (-1), 1) := by decide +kernel
theorem dX10_hang_198 : decode cX10_hang 198 = .ok (.if_icmp .ne 7, 3) := by decide +kernel
theorem dX10_hang_201 : decode cX10_hang 201 = .ok (.iload_n 3, 1) := by decide +kernel
theorem dX10_hang_202 : decode cX10_hang 202 = .ok (.goto 5, 3) := by decide +kernel
theorem dX10_hang_205 : decode cX10_hang 205 = .ok (.iload 4, 2) := by decide +kernel
theorem dX10_hang_207 : decode cX10_hang 207 = .ok (.ireturn, 1) := by decide +kernel
theorem dX10_border_0 : decode cX10_border 0 = .ok (.aload_n 0, 1) := by decide +kernel
theorem dX10_border_1 : decode cX10_border 1 = .ok (.getfield 54, 3) := by decide +kernel
theorem dX10_border_4 : decode cX10_border 4 = .ok (.ifCond .ne 6, 3) := by decide +kernel
theorem dX10_border_7 : decode cX10_border 7 = .ok (.bipush (-4), 2) := by decide +kernel
theorem dX10_border_9 : decode cX10_border 9 = .ok (.ireturn, 1) := by decide +kernel
theorem dX10_border_10 : decode cX10_border 10 = .ok (.aload_n 0, 1) := by decide +kernel
theorem dX10_border_11 : decode cX10_border 11 = .ok (.invokevirtual 231, 3) := by decide +kernel
theorem dX10_border_14 : decode cX10_border 14 = .ok (.iconst 0, 1) := by decide +kernel
theorem dX10_border_15 : decode cX10_border 15 = .ok (.istore_n 1, 1) := by decide +kernel
theorem dX10_border_16 : decode cX10_border 16 = .ok (.iconst 0, 1) := by decide +kernel
theorem dX10_border_17 : decode cX10_border 17 = .ok (.istore_n 2, 1) := by decide +kernel
theorem dX10_border_18 : decode cX10_border 18 = .ok (.iload_n 2, 1) := by decide +kernel
theorem dX10_border_19 : decode cX10_border 19 = .ok (.aload_n 0, 1) := by decide +kernel
theorem dX10_border_20 : decode cX10_border 20 = .ok (.invokevirtual 57, 3) := by decide +kernel
theorem dX10_border_23 : decode cX10_border 23 = .ok (.if_icmp .ge 60, 3) := by decide +kernel
theorem dX10_border_26 : decode cX10_border 26 = .ok (.iconst 0, 1) := by decide +kernel
theorem dX10_border_27 : decode cX10_border 27 = .ok (.istore_n 3, 1) := by decide +kernel
theorem dX10_border_28 : decode cX10_border 28 = .ok (.iload_n 3, 1) := by decide +kernel
theorem dX10_border_29 : decode cX10_border 29 = .ok (.aload_n 0, 1) := by decide +kernel
theorem dX10_border_30 : decode cX10_border 30 = .ok (.getfield 7, 3) := by decide +kernel
theorem dX10_border_33 : decode cX10_border 33 = .ok (.if_icmp .ge 44, 3) := by decide +kernel
theorem dX10_border_36 : decode cX10_border 36 = .ok (.iload_n 1, 1) := by decide +kernel
theorem dX10_border_37 : decode cX10_border 37 = .ok (.iload_n 2, 1) := by decide +kernel
theorem dX10_border_38 : decode cX10_border 38 = .ok (.iload_n 3, 1) := by decide +kernel
theorem dX10_border_39 : decode cX10_border 39 = .ok (.invokestatic 177, 3) := by decide +kernel
theorem dX10_border_42 : decode cX10_border 42 = .ok (.ifCond .ne 26, 3) := by decide +kernel
theorem dX10_border_45 : decode cX10_border 45 = .ok (.aload_n 0, 1) := by decide +kernel
theorem dX10_border_46 : decode cX10_border 46 = .ok (.getfield 32, 3) := by decide +kernel
theorem dX10_border_49 : decode cX10_border 49 = .ok (.iload_n 2, 1) := by decide +kernel
theorem dX10_border_50 : decode cX10_border 50 = .ok (.iaload, 1) := by decide +kernel
theorem dX10_border_51 : decode cX10_border 51 = .ok (.aload_n 0, 1) := by decide +kernel
theorem dX10_border_52 : decode cX10_border 52 = .ok (.getfield 32, 3) := by decide +kernel
theorem dX10_border_55 : decode cX10_border 55 = .ok (.iload_n 2, 1) := by decide +kernel
theorem dX10_border_56 : decode cX10_border 56 = .ok (.iconst 1, 1) := by decide +kernel
theorem dX10_border_57 : decode cX10_border 57 = .ok (.iload_n 3, 1) := by decide +kernel
theorem dX10_border_58 : decode cX10_border 58 = .ok (.ishl, 1) := by decide +kernel
theorem dX10_border_59 : decode cX10_border 59 = .ok (.ior, 1) := by decide +kernel
theorem dX10_border_60 : decode cX10_border 60 = .ok (.iaload, 1) := by decide +kernel
theorem dX10_border_61 : decode cX10_border 61 = .ok (.if_icmp .eq 7, 3) := by decide +kernel
theorem dX10_border_64 : decode cX10_border 64 = .ok (.iconst 1, 1) := by decide +kernel
theorem dX10_border_65 : decode cX10_border 65 = .ok (.goto 4, 3) := by decide +kernel
theorem dX10_border_68 : decode cX10_border 68 = .ok (.iconst 0, 1) := by decide +kernel
theorem dX10_border_69 : decode cX10_border 69 = .ok (.iadd, 1) := by decide +kernel
theorem dX10_border_70 : decode cX10_border 70 = .ok (.istore_n 1, 1) := by decide +kernel
theorem dX10_border_71 : decode cX10_border 71 = .ok (.iinc 3 1, 3) := by decide +kernel
theorem dX10_border_74 : decode cX10_border 74 = .ok (.goto (-46), 3) := by decide +kernel
theorem dX10_border_77 : decode cX10_border 77 = .ok (.iinc 2 1, 3) := by decide +kernel
theorem dX10_border_80 : decode cX10_border 80 = .ok (.goto (-62), 3) := by decide +kernel
theorem dX10_border_83 : decode cX10_border 83 = .ok (.iload_n 1, 1) := by decide +kernel
theorem dX10_border_84 : decode cX10_border 84 = .ok (.ireturn, 1) := by decide +kernel
theorem dX10_spread_0 : decode cX10_spread 0 = .ok (.iconst 1, 1) := by decide +kernel
theorem dX10_spread_1 : decode cX10_spread 1 = .ok (.istore_n 2, 1) := by decide +kernel
theorem dX10_spread_2 : decode cX10_spread 2 = .ok (.aload_n 0, 1) := by decide +kernel
theorem dX10_spread_3 : decode cX10_spread 3 = .ok (.getfield 38, 3) := by decide +kernel
theorem dX10_spread_6 : decode cX10_spread 6 = .ok (.iconst 0, 1) := by decide +kernel
theorem dX10_spread_7 : decode cX10_spread 7 = .ok (.iload_n 1, 1) := by decide +kernel
theorem dX10_spread_8 : decode cX10_spread 8 = .ok (.iastore, 1) := by decide +kernel
theorem dX10_spread_9 : decode cX10_spread 9 = .ok (.aload_n 0, 1) := by decide +kernel
theorem dX10_spread_10 : decode cX10_spread 10 = .ok (.getfield 35, 3) := by decide +kernel
theorem dX10_spread_13 : decode cX10_spread 13 = .ok (.iload_n 1, 1) := by decide +kernel
theorem dX10_spread_14 : decode cX10_spread 14 = .ok (.iconst 1, 1) := by decide +kernel
theorem dX10_spread_15 : decode cX10_spread 15 = .ok (.iastore, 1) := by decide +kernel
theorem dX10_spread_16 : decode cX10_spread 16 = .ok (.iconst 0, 1) := by decide +kernel
theorem dX10_spread_17 : decode cX10_spread 17 = .ok (.istore_n 3, 1) := by decide +kernel
theorem dX10_spread_18 : decode cX10_spread 18 = .ok (.iload_n 3, 1) := by decide +kernel
theorem dX10_spread_19 : decode cX10_spread 19 = .ok (.iload_n 2, 1) := by decide +kernel
theorem dX10_spread_20 : decode cX10_spread 20 = .ok (.if_icmp .ge 69, 3) := by decide +kernel
theorem dX10_spread_23 : decode cX10_spread 23 = .ok (.iconst 0, 1) := by decide +kernel
theorem dX10_spread_24 : decode cX10_spread 24 = .ok (.istore 4, 2) := by decide +kernel
theorem dX10_spread_26 : decode cX10_spread 26 = .ok (.iload 4, 2) := by decide +kernel
theorem dX10_spread_28 : decode cX10_spread 28 = .ok (.aload_n 0, 1) := by decide +kernel
theorem dX10_spread_29 : decode cX10_spread 29 = .ok (.getfield 7, 3) := by decide +kernel
theorem dX10_spread_32 : decode cX10_spread 32 = .ok (.if_icmp .ge 51, 3) := by decide +kernel
theorem dX10_spread_35 : decode cX10_spread 35 = .ok (.aload_n 0, 1) := by decide +kernel
theorem dX10_spread_36 : decode cX10_spread 36 = .ok (.getfield 38, 3) := by decide +kernel
theorem dX10_spread_39 : decode cX10_spread 39 = .ok (.iload_n 3, 1) := by decide +kernel
theorem dX10_spread_40 : decode cX10_spread 40 = .ok (.iaload, 1) := by decide +kernel
theorem dX10_spread_41 : decode cX10_spread 41 = .ok (.iconst 1, 1) := by decide +kernel
theorem dX10_spread_42 : decode cX10_spread 42 = .ok (.iload 4, 2) := by decide +kernel
theorem dX10_spread_44 : decode cX10_spread 44 = .ok (.ishl, 1) := by decide +kernel
theorem dX10_spread_45 : decode cX10_spread 45 = .ok (.ixor, 1) := by decide +kernel
theorem dX10_spread_46 : decode cX10_spread 46 = .ok (.istore 5, 2) := by decide +kernel
theorem dX10_spread_48 : decode cX10_spread 48 = .ok (.aload_n 0, 1) := by decide +kernel
theorem dX10_spread_49 : decode cX10_spread 49 = .ok (.getfield 35, 3) := by decide +kernel
theorem dX10_spread_52 : decode cX10_spread 52 = .ok (.iload 5, 2) := by decide +kernel
theorem dX10_spread_54 : decode cX10_spread 54 = .ok (.iaload, 1) := by decide +kernel
theorem dX10_spread_55 : decode cX10_spread 55 = .ok (.ifCond .ne 22, 3) := by decide +kernel
theorem dX10_spread_58 : decode cX10_spread 58 = .ok (.aload_n 0, 1) := by decide +kernel
theorem dX10_spread_59 : decode cX10_spread 59 = .ok (.getfield 35, 3) := by decide +kernel
theorem dX10_spread_62 : decode cX10_spread 62 = .ok (.iload 5, 2) := by decide +kernel
theorem dX10_spread_64 : decode cX10_spread 64 = .ok (.iconst 1, 1) := by decide +kernel
theorem dX10_spread_65 : decode cX10_spread 65 = .ok (.iastore, 1) := by decide +kernel
theorem dX10_spread_66 : decode cX10_spread 66 = .ok (.aload_n 0, 1) := by decide +kernel
theorem dX10_spread_67 : decode cX10_spread 67 = .ok (.getfield 38, 3) := by decide +kernel
theorem dX10_spread_70 : decode cX10_spread 70 = .ok (.iload_n 2, 1) := by decide +kernel
theorem dX10_spread_71 : decode cX10_spread 71 = .ok (.iload 5, 2) := by decide +kernel
theorem dX10_spread_73 : decode cX10_spread 73 = .ok (.iastore, 1) := by decide +kernel
theorem dX10_spread_74 : decode cX10_spread 74 = .ok (.iinc 2 1, 3) := by decide +kernel
theorem dX10_spread_77 : decode cX10_spread 77 = .ok (.iinc 4 1, 3) := by decide +kernel
theorem dX10_spread_80 : decode cX10_spread 80 = .ok (.goto (-54), 3) := by decide +kernel
theorem dX10_spread_83 : decode cX10_spread 83 = .ok (.iinc 3 1, 3) := by decide +kernel
theorem dX10_spread_86 : decode cX10_spread 86 = .ok (.goto (-68), 3) := by decide +kernel
theorem dX10_spread_89 : decode cX10_spread 89 = .ok (.iload_n 2, 1) := by decide +kernel
theorem dX10_spread_90 : decode cX10_spread 90 = .ok (.ireturn, 1) := by decide +kernel
theorem dX10_save_0 : decode cX10_save 0 = .ok (.iload_n 1, 1) := by decide +kernel
theorem dX10_save_1 : decode cX10_save 1 = .ok (.iconst 0, 1) := by decide +kernel
theorem dX10_save_2 : decode cX10_save 2 = .ok (.iconst 1, 1) := by decide +kernel
theorem dX10_save_3 : decode cX10_save 3 = .ok (.invokestatic 61, 3) := by decide +kernel
theorem dX10_save_6 : decode cX10_save 6 = .ok (.ifCond .ne 6, 3) := by decide +kernel
theorem dX10_save_9 : decode cX10_save 9 = .ok (.bipush (-2), 2) := by decide +kernel
theorem dX10_save_11 : decode cX10_save 11 = .ok (.ireturn, 1) := by decide +kernel
theorem dX10_save_12 : decode cX10_save 12 = .ok (.aload_n 0, 1) := by decide +kernel
theorem dX10_save_13 : decode cX10_save 13 = .ok (.getfield 41, 3) := by decide +kernel
theorem dX10_save_16 : decode cX10_save 16 = .ok (.bipush 49, 2) := by decide +kernel
theorem dX10_save_18 : decode cX10_save 18 = .ok (.iload_n 1, 1) := by decide +kernel
theorem dX10_save_19 : decode cX10_save 19 = .ok (.imul, 1) := by decide +kernel
theorem dX10_save_20 : decode cX10_save 20 = .ok (.aload_n 0, 1) := by decide +kernel
theorem dX10_save_21 : decode cX10_save 21 = .ok (.getfield 54, 3) := by decide +kernel
theorem dX10_save_24 : decode cX10_save 24 = .ok (.iastore, 1) := by decide +kernel
theorem dX10_save_25 : decode cX10_save 25 = .ok (.iconst 0, 1) := by decide +kernel
theorem dX10_save_26 : decode cX10_save 26 = .ok (.istore_n 2, 1) := by decide +kernel
theorem dX10_save_27 : decode cX10_save 27 = .ok (.iload_n 2, 1) := by decide +kernel
theorem dX10_save_28 : decode cX10_save 28 = .ok (.bipush 48, 2) := by decide +kernel
theorem dX10_save_30 : decode cX10_save 30 = .ok (.if_icmp .ge 28, 3) := by decide +kernel
theorem dX10_save_33 : decode cX10_save 33 = .ok (.aload_n 0, 1) := by decide +kernel
theorem dX10_save_34 : decode cX10_save 34 = .ok (.getfield 41, 3) := by decide +kernel
theorem dX10_save_37 : decode cX10_save 37 = .ok (.bipush 49, 2) := by decide +kernel
theorem dX10_save_39 : decode cX10_save 39 = .ok (.iload_n 1, 1) := by decide +kernel
theorem dX10_save_40 : decode cX10_save 40 = .ok (.imul, 1) := by decide +kernel
theorem dX10_save_41 : decode cX10_save 41 = .ok (.iconst 1, 1) := by decide +kernel
theorem dX10_save_42 : decode cX10_save 42 = .ok (.iadd, 1) := by decide +kernel
theorem dX10_save_43 : decode cX10_save 43 = .ok (.iload_n 2, 1) := by decide +kernel
theorem dX10_save_44 : decode cX10_save 44 = .ok (.iadd, 1) := by decide +kernel
theorem dX10_save_45 : decode cX10_save 45 = .ok (.aload_n 0, 1) := by decide +kernel
theorem dX10_save_46 : decode cX10_save 46 = .ok (.getfield 20, 3) := by decide +kernel
theorem dX10_save_49 : decode cX10_save 49 = .ok (.iload_n 2, 1) := by decide +kernel
theorem dX10_save_50 : decode cX10_save 50 = .ok (.iaload, 1) := by decide +kernel
theorem dX10_save_51 : decode cX10_save 51 = .ok (.iastore, 1) := by decide +kernel
theorem dX10_save_52 : decode cX10_save 52 = .ok (.iinc 2 1, 3) := by decide +kernel
theorem dX10_save_55 : decode cX10_save 55 = .ok (.goto (-28), 3) := by decide +kernel
theorem dX10_save_58 : decode cX10_save 58 = .ok (.aload_n 0, 1) := by decide +kernel
theorem dX10_save_59 : decode cX10_save 59 = .ok (.getfield 44, 3) := by decide +kernel
theorem dX10_save_62 : decode cX10_save 62 = .ok (.iload_n 1, 1) := by decide +kernel
theorem dX10_save_63 : decode cX10_save 63 = .ok (.iconst 1, 1) := by decide +kernel
theorem dX10_save_64 : decode cX10_save 64 = .ok (.bastore, 1) := by decide +kernel
theorem dX10_save_65 : decode cX10_save 65 = .ok (.aload_n 0, 1) := by decide +kernel
theorem dX10_save_66 : decode cX10_save 66 = .ok (.getfield 54, 3) := by decide +kernel
theorem dX10_save_69 : decode cX10_save 69 = .ok (.ireturn, 1) := by decide +kernel
theorem dX10_count_0 : decode cX10_count 0 = .ok (.iconst 0, 1) := by decide +kernel
theorem dX10_count_1 : decode cX10_count 1 = .ok (.istore_n 2, 1) := by decide +kernel
theorem dX10_count_2 : decode cX10_count 2 = .ok (.iconst 0, 1) := by decide +kernel
theorem dX10_count_3 : decode cX10_count 3 = .ok (.istore_n 3, 1) := by decide +kernel
theorem dX10_count_4 : decode cX10_count 4 = .ok (.iload_n 3, 1) := by decide +kernel
theorem dX10_count_5 : decode cX10_count 5 = .ok (.aload_n 0, 1) := by decide +kernel
theorem dX10_count_6 : decode cX10_count 6 = .ok (.getfield 7, 3) := by decide +kernel
theorem dX10_count_9 : decode cX10_count 9 = .ok (.if_icmp .ge 18, 3) := by decide +kernel
theorem dX10_count_12 : decode cX10_count 12 = .ok (.iload_n 2, 1) := by decide +kernel
theorem dX10_count_13 : decode cX10_count 13 = .ok (.aload_n 0, 1) := by decide +kernel
theorem dX10_count_14 : decode cX10_count 14 = .ok (.getfield 13, 3) := by decide +kernel
theorem dX10_count_17 : decode cX10_count 17 = .ok (.iload_n 3, 1) := by decide +kernel
theorem dX10_count_18 : decode cX10_count 18 = .ok (.iaload, 1) := by decide +kernel
theorem dX10_count_19 : decode cX10_count 19 = .ok (.iadd, 1) := by decide +kernel
theorem dX10_count_20 : decode cX10_count 20 = .ok (.istore_n 2, 1) := by decide +kernel
theorem dX10_count_21 : decode cX10_count 21 = .ok (.iinc 3 1, 3) := by decide +kernel
theorem dX10_count_24 : decode cX10_count 24 = .ok (.goto (-20), 3) := by decide +kernel
theorem dX10_count_27 : decode cX10_count 27 = .ok (.iload_n 1, 1) := by decide +kernel
theorem dX10_count_28 : decode cX10_count 28 = .ok (.tableswitch 49 0 3 #[32, 37, 42, 47], 32) := by decide +kernel
theorem dX10_count_60 : decode cX10_count 60 = .ok (.aload_n 0, 1) := by decide +kernel
theorem dX10_count_61 : decode cX10_count 61 = .ok (.getfield 7, 3) := by decide +kernel
theorem dX10_count_64 : decode cX10_count 64 = .ok (.ireturn, 1) := by decide +kernel
theorem dX10_count_65 : decode cX10_count 65 = .ok (.aload_n 0, 1) := by decide +kernel
theorem dX10_count_66 : decode cX10_count 66 = .ok (.getfield 54, 3) := by decide +kernel
theorem dX10_count_69 : decode cX10_count 69 = .ok (.ireturn, 1) := by decide +kernel
theorem dX10_count_70 : decode cX10_count 70 = .ok (.aload_n 0, 1) := by decide +kernel
theorem dX10_count_71 : decode cX10_count 71 = .ok (.getfield 65, 3) := by decide +kernel
theorem dX10_count_74 : decode cX10_count 74 = .ok (.ireturn, 1) := by decide +kernel
theorem dX10_count_75 : decode cX10_count 75 = .ok (.iload_n 2, 1) := by decide +kernel
theorem dX10_count_76 : decode cX10_count 76 = .ok (.ireturn, 1) := by decide +kernel
theorem dX10_count_77 : decode cX10_count 77 = .ok (.bipush (-3), 2) := by decide +kernel
theorem dX10_count_79 : decode cX10_count 79 = .ok (.ireturn, 1) := by decide +kernel
