theorem dX9_init_0 : decode cX9_init 0 = .ok (.aload_n 0, 1) := by decide +kernel
theorem dX9_init_1 : decode cX9_init 1 = .ok (.invokespecial 1, 3) := by decide +kernel
theorem dX9_init_4 : decode cX9_init 4 = .ok (.aload_n 0, 1) := by decide +kernel
theorem dX9_init_5 : decode cX9_init 5 = .ok (.new 7, 3) := by decide +kernel
theorem dX9_init_8 : decode cX9_init 8 = .ok (.dup, 1) := by decide +kernel
theorem dX9_init_9 : decode cX9_init 9 = .ok (.invokespecial 9, 3) := by decide +kernel
theorem dX9_init_12 : decode cX9_init 12 = .ok (.putfield 10, 3) := by decide +kernel
theorem dX9_init_15 : decode cX9_init 15 = .ok (.aload_n 0, 1) := by decide +kernel
theorem dX9_init_16 : decode cX9_init 16 = .ok (.new 16, 3) := by decide +kernel
theorem dX9_init_19 : decode cX9_init 19 = .ok (.dup, 1) := by decide +kernel
theorem dX9_init_20 : decode cX9_init 20 = .ok (.invokespecial 18, 3) := by decide +kernel
theorem dX9_init_23 : decode cX9_init 23 = .ok (.putfield 19, 3) := by decide +kernel
theorem dX9_init_26 : decode cX9_init 26 = .ok (.aload_n 0, 1) := by decide +kernel
theorem dX9_init_27 : decode cX9_init 27 = .ok (.new 23, 3) := by decide +kernel
theorem dX9_init_30 : decode cX9_init 30 = .ok (.dup, 1) := by decide +kernel
theorem dX9_init_31 : decode cX9_init 31 = .ok (.aload_n 0, 1) := by decide +kernel
theorem dX9_init_32 : decode cX9_init 32 = .ok (.getfield 10, 3) := by decide +kernel
theorem dX9_init_35 : decode cX9_init 35 = .ok (.invokespecial 25, 3) := by decide +kernel
theorem dX9_init_38 : decode cX9_init 38 = .ok (.putfield 28, 3) := by decide +kernel
theorem dX9_init_41 : decode cX9_init 41 = .ok (.aload_n 0, 1) := by decide +kernel
theorem dX9_init_42 : decode cX9_init 42 = .ok (.new 32, 3) := by decide +kernel
theorem dX9_init_45 : decode cX9_init 45 = .ok (.dup, 1) := by decide +kernel
theorem dX9_init_46 : decode cX9_init 46 = .ok (.aload_n 0, 1) := by decide +kernel
theorem dX9_init_47 : decode cX9_init 47 = .ok (.getfield 10, 3) := by decide +kernel
theorem dX9_init_50 : decode cX9_init 50 = .ok (.invokespecial 34, 3) := by decide +kernel
theorem dX9_init_53 : decode cX9_init 53 = .ok (.putfield 35, 3) := by decide +kernel
theorem dX9_init_56 : decode cX9_init 56 = .ok (.aload_n 0, 1) := by decide +kernel
theorem dX9_init_57 : decode cX9_init 57 = .ok (.new 39, 3) := by decide +kernel
theorem dX9_init_60 : decode cX9_init 60 = .ok (.dup, 1) := by decide +kernel
theorem dX9_init_61 : decode cX9_init 61 = .ok (.aload_n 0, 1) := by decide +kernel
theorem dX9_init_62 : decode cX9_init 62 = .ok (.getfield 10, 3) := by decide +kernel
theorem dX9_init_65 : decode cX9_init 65 = .ok (.invokespecial 41, 3) := by decide +kernel
theorem dX9_init_68 : decode cX9_init 68 = .ok (.putfield 42, 3) := by decide +kernel
theorem dX9_init_71 : decode cX9_init 71 = .ok (.aload_n 0, 1) := by decide +kernel
theorem dX9_init_72 : decode cX9_init 72 = .ok (.new 46, 3) := by decide +kernel
theorem dX9_init_75 : decode cX9_init 75 = .ok (.dup, 1) := by decide +kernel
theorem dX9_init_76 : decode cX9_init 76 = .ok (.aload_n 0, 1) := by decide +kernel
theorem dX9_init_77 : decode cX9_init 77 = .ok (.getfield 10, 3) := by decide +kernel
theorem dX9_init_80 : decode cX9_init 80 = .ok (.invokespecial 48, 3) := by decide +kernel
theorem dX9_init_83 : decode cX9_init 83 = .ok (.putfield 49, 3) := by decide +kernel
theorem dX9_init_86 : decode cX9_init 86 = .ok (.aload_n 0, 1) := by decide +kernel
theorem dX9_init_87 : decode cX9_init 87 = .ok (.new 53, 3) := by decide +kernel
theorem dX9_init_90 : decode cX9_init 90 = .ok (.dup, 1) := by decide +kernel
theorem dX9_init_91 : decode cX9_init 91 = .ok (.invokespecial 55, 3) := by decide +kernel
theorem dX9_init_94 : decode cX9_init 94 = .ok (.putfield 56, 3) := by decide +kernel
theorem dX9_init_97 : decode cX9_init 97 = .ok (.aload_n 0, 1) := by decide +kernel
theorem dX9_init_98 : decode cX9_init 98 = .ok (.new 53, 3) := by decide +kernel
theorem dX9_init_101 : decode cX9_init 101 = .ok (.dup, 1) := by decide +kernel
theorem dX9_init_102 : decode cX9_init 102 = .ok (.invokespecial 55, 3) := by decide +kernel
theorem dX9_init_105 : decode cX9_init 105 = .ok (.putfield 60, 3) := by decide +kernel
theorem dX9_init_108 : decode cX9_init 108 = .ok (.return_, 1) := by decide +kernel
theorem dX9_write_0 : decode cX9_write 0 = .ok (.iload_n 3, 1) := by decide +kernel
theorem dX9_write_1 : decode cX9_write 1 = .ok (.iconst 1, 1) := by decide +kernel
theorem dX9_write_2 : decode cX9_write 2 = .ok (.bipush 8, 2) := by decide +kernel
theorem dX9_write_4 : decode cX9_write 4 = .ok (.invokestatic 63, 3) := by decide +kernel
theorem dX9_write_7 : decode cX9_write 7 = .ok (.ifCond .ne 6, 3) := by decide +kernel
theorem dX9_write_10 : decode cX9_write 10 = .ok (.bipush (-3), 2) := by decide +kernel
theorem dX9_write_12 : decode cX9_write 12 = .ok (.ireturn, 1) := by decide +kernel
theorem dX9_write_13 : decode cX9_write 13 = .ok (.aload_n 0, 1) := by decide +kernel
theorem dX9_write_14 : decode cX9_write 14 = .ok (.getfield 19, 3) := by decide +kernel
theorem dX9_write_17 : decode cX9_write 17 = .ok (.invokevirtual 67, 3) := by decide +kernel
theorem dX9_write_20 : decode cX9_write 20 = .ok (.iload_n 3, 1) := by decide +kernel
theorem dX9_write_21 : decode cX9_write 21 = .ok (.iadd, 1) := by decide +kernel
theorem dX9_write_22 : decode cX9_write 22 = .ok (.sipush 200, 3) := by decide +kernel
theorem dX9_write_25 : decode cX9_write 25 = .ok (.if_icmp .le 6, 3) := by decide +kernel
theorem dX9_write_28 : decode cX9_write 28 = .ok (.bipush (-5), 2) := by decide +kernel
theorem dX9_write_30 : decode cX9_write 30 = .ok (.ireturn, 1) := by decide +kernel
theorem dX9_write_31 : decode cX9_write 31 = .ok (.iconst 0, 1) := by decide +kernel
theorem dX9_write_32 : decode cX9_write 32 = .ok (.istore 4, 2) := by decide +kernel
theorem dX9_write_34 : decode cX9_write 34 = .ok (.iload 4, 2) := by decide +kernel
theorem dX9_write_36 : decode cX9_write 36 = .ok (.iload_n 3, 1) := by decide +kernel
theorem dX9_write_37 : decode cX9_write 37 = .ok (.if_icmp .ge 28, 3) := by decide +kernel
theorem dX9_write_40 : decode cX9_write 40 = .ok (.aload_n 0, 1) := by decide +kernel
theorem dX9_write_41 : decode cX9_write 41 = .ok (.getfield 19, 3) := by decide +kernel
theorem dX9_write_44 : decode cX9_write 44 = .ok (.lload_n 1, 1) := by decide +kernel
theorem dX9_write_45 : decode cX9_write 45 = .ok (.bipush 8, 2) := by decide +kernel
theorem dX9_write_47 : decode cX9_write 47 = .ok (.iload 4, 2) := by decide +kernel
theorem dX9_write_49 : decode cX9_write 49 = .ok (.imul, 1) := by decide +kernel
theorem dX9_write_50 : decode cX9_write 50 = .ok (.lshr, 1) := by decide +kernel
theorem dX9_write_51 : decode cX9_write 51 = .ok (.ldc2_w 71, 3) := by decide +kernel
theorem dX9_write_54 : decode cX9_write 54 = .ok (.land, 1) := by decide +kernel
theorem dX9_write_55 : decode cX9_write 55 = .ok (.l2i, 1) := by decide +kernel
theorem dX9_write_56 : decode cX9_write 56 = .ok (.invokevirtual 73, 3) := by decide +kernel
theorem dX9_write_59 : decode cX9_write 59 = .ok (.iinc 4 1, 3) := by decide +kernel
theorem dX9_write_62 : decode cX9_write 62 = .ok (.goto (-28), 3) := by decide +kernel
theorem dX9_write_65 : decode cX9_write 65 = .ok (.aload_n 0, 1) := by decide +kernel
theorem dX9_write_66 : decode cX9_write 66 = .ok (.getfield 19, 3) := by decide +kernel
theorem dX9_write_69 : decode cX9_write 69 = .ok (.invokevirtual 67, 3) := by decide +kernel
theorem dX9_write_72 : decode cX9_write 72 = .ok (.ireturn, 1) := by decide +kernel
theorem dX9_erase_0 : decode cX9_erase 0 = .ok (.aload_n 0, 1) := by decide +kernel
theorem dX9_erase_1 : decode cX9_erase 1 = .ok (.getfield 19, 3) := by decide +kernel
theorem dX9_erase_4 : decode cX9_erase 4 = .ok (.invokevirtual 67, 3) := by decide +kernel
theorem dX9_erase_7 : decode cX9_erase 7 = .ok (.istore_n 1, 1) := by decide +kernel
theorem dX9_erase_8 : decode cX9_erase 8 = .ok (.aload_n 0, 1) := by decide +kernel
theorem dX9_erase_9 : decode cX9_erase 9 = .ok (.getfield 19, 3) := by decide +kernel
theorem dX9_erase_12 : decode cX9_erase 12 = .ok (.invokevirtual 77, 3) := by decide +kernel
theorem dX9_erase_15 : decode cX9_erase 15 = .ok (.iload_n 1, 1) := by decide +kernel
theorem dX9_erase_16 : decode cX9_erase 16 = .ok (.ireturn, 1) := by decide +kernel
theorem dX9_fault_0 : decode cX9_fault 0 = .ok (.aload_n 0, 1) := by decide +kernel
theorem dX9_fault_1 : decode cX9_fault 1 = .ok (.getfield 19, 3) := by decide +kernel
theorem dX9_fault_4 : decode cX9_fault 4 = .ok (.aload_n 0, 1) := by decide +kernel
theorem dX9_fault_5 : decode cX9_fault 5 = .ok (.getfield 10, 3) := by decide +kernel
theorem dX9_fault_8 : decode cX9_fault 8 = .ok (.invokevirtual 80, 3) := by decide +kernel
theorem dX9_fault_11 : decode cX9_fault 11 = .ok (.aload_n 0, 1) := by decide +kernel
theorem dX9_fault_12 : decode cX9_fault 12 = .ok (.getfield 10, 3) := by decide +kernel
theorem dX9_fault_15 : decode cX9_fault 15 = .ok (.getfield 83, 3) := by decide +kernel
theorem dX9_fault_18 : decode cX9_fault 18 = .ok (.invokevirtual 87, 3) := by decide +kernel
theorem dX9_fault_21 : decode cX9_fault 21 = .ok (.invokevirtual 90, 3) := by decide +kernel
theorem dX9_fault_24 : decode cX9_fault 24 = .ok (.ireturn, 1) := by decide +kernel
theorem dX9_land_0 : decode cX9_land 0 = .ok (.aload_n 0, 1) := by decide +kernel
theorem dX9_land_1 : decode cX9_land 1 = .ok (.getfield 19, 3) := by decide +kernel
theorem dX9_land_4 : decode cX9_land 4 = .ok (.aload_n 0, 1) := by decide +kernel
theorem dX9_land_5 : decode cX9_land 5 = .ok (.getfield 10, 3) := by decide +kernel
theorem dX9_land_8 : decode cX9_land 8 = .ok (.invokevirtual 80, 3) := by decide +kernel
theorem dX9_land_11 : decode cX9_land 11 = .ok (.aload_n 0, 1) := by decide +kernel
theorem dX9_land_12 : decode cX9_land 12 = .ok (.getfield 10, 3) := by decide +kernel
theorem dX9_land_15 : decode cX9_land 15 = .ok (.getfield 83, 3) := by decide +kernel
theorem dX9_land_18 : decode cX9_land 18 = .ok (.invokevirtual 87, 3) := by decide +kernel
theorem dX9_land_21 : decode cX9_land 21 = .ok (.invokevirtual 90, 3) := by decide +kernel
theorem dX9_land_24 : decode cX9_land 24 = .ok (.iconst (-1), 1) := by decide +kernel
theorem dX9_land_25 : decode cX9_land 25 = .ok (.if_icmp .eq 6, 3) := by decide +kernel
theorem dX9_land_28 : decode cX9_land 28 = .ok (.bipush (-4), 2) := by decide +kernel
theorem dX9_land_30 : decode cX9_land 30 = .ok (.ireturn, 1) := by decide +kernel
theorem dX9_land_31 : decode cX9_land 31 = .ok (.aload_n 0, 1) := by decide +kernel
theorem dX9_land_32 : decode cX9_land 32 = .ok (.getfield 19, 3) := by decide +kernel
theorem dX9_land_35 : decode cX9_land 35 = .ok (.invokevirtual 94, 3) := by decide +kernel
theorem dX9_land_38 : decode cX9_land 38 = .ok (.istore_n 1, 1) := by decide +kernel
theorem dX9_land_39 : decode cX9_land 39 = .ok (.iconst 0, 1) := by decide +kernel
theorem dX9_land_40 : decode cX9_land 40 = .ok (.istore_n 2, 1) := by decide +kernel
theorem dX9_land_41 : decode cX9_land 41 = .ok (.iload_n 2, 1) := by decide +kernel
theorem dX9_land_42 : decode cX9_land 42 = .ok (.iload_n 1, 1) := by decide +kernel
theorem dX9_land_43 : decode cX9_land 43 = .ok (.if_icmp .ge 14, 3) := by decide +kernel
theorem dX9_land_46 : decode cX9_land 46 = .ok (.aload_n 0, 1) := by decide +kernel
theorem dX9_land_47 : decode cX9_land 47 = .ok (.iload_n 2, 1) := by decide +kernel
theorem dX9_land_48 : decode cX9_land 48 = .ok (.invokevirtual 97, 3) := by decide +kernel
theorem dX9_land_51 : decode cX9_land 51 = .ok (.iinc 2 1, 3) := by decide +kernel
theorem dX9_land_54 : decode cX9_land 54 = .ok (.goto (-13), 3) := by decide +kernel
theorem dX9_land_57 : decode cX9_land 57 = .ok (.aload_n 0, 1) := by decide +kernel
theorem dX9_land_58 : decode cX9_land 58 = .ok (.getfield 56, 3) := by decide +kernel
theorem dX9_land_61 : decode cX9_land 61 = .ok (.iconst 0, 1) := by decide +kernel
theorem dX9_land_62 : decode cX9_land 62 = .ok (.putfield 100, 3) := by decide +kernel
theorem dX9_land_65 : decode cX9_land 65 = .ok (.aload_n 0, 1) := by decide +kernel
theorem dX9_land_66 : decode cX9_land 66 = .ok (.getfield 60, 3) := by decide +kernel
theorem dX9_land_69 : decode cX9_land 69 = .ok (.iconst 0, 1) := by decide +kernel
theorem dX9_land_70 : decode cX9_land 70 = .ok (.putfield 100, 3) := by decide +kernel
theorem dX9_land_73 : decode cX9_land 73 = .ok (.aload_n 0, 1) := by decide +kernel
theorem dX9_land_74 : decode cX9_land 74 = .ok (.getfield 19, 3) := by decide +kernel
theorem dX9_land_77 : decode cX9_land 77 = .ok (.invokevirtual 77, 3) := by decide +kernel
theorem dX9_land_80 : decode cX9_land 80 = .ok (.iload_n 1, 1) := by decide +kernel
theorem dX9_land_81 : decode cX9_land 81 = .ok (.ireturn, 1) := by decide +kernel
theorem dX9_perform_0 : decode cX9_perform 0 = .ok (.aload_n 0, 1) := by decide +kernel
theorem dX9_perform_1 : decode cX9_perform 1 = .ok (.getfield 19, 3) := by decide +kernel
theorem dX9_perform_4 : decode cX9_perform 4 = .ok (.iload_n 1, 1) := by decide +kernel
theorem dX9_perform_5 : decode cX9_perform 5 = .ok (.iconst 0, 1) := by decide +kernel
theorem dX9_perform_6 : decode cX9_perform 6 = .ok (.invokevirtual 104, 3) := by decide +kernel
theorem dX9_perform_9 : decode cX9_perform 9 = .ok (.istore_n 2, 1) := by decide +kernel
theorem dX9_perform_10 : decode cX9_perform 10 = .ok (.aload_n 0, 1) := by decide +kernel
theorem dX9_perform_11 : decode cX9_perform 11 = .ok (.getfield 19, 3) := by decide +kernel
theorem dX9_perform_14 : decode cX9_perform 14 = .ok (.iload_n 1, 1) := by decide +kernel
theorem dX9_perform_15 : decode cX9_perform 15 = .ok (.iconst 1, 1) := by decide +kernel
theorem dX9_perform_16 : decode cX9_perform 16 = .ok (.invokevirtual 104, 3) := by decide +kernel
theorem dX9_perform_19 : decode cX9_perform 19 = .ok (.istore_n 3, 1) := by decide +kernel
theorem dX9_perform_20 : decode cX9_perform 20 = .ok (.aload_n 0, 1) := by decide +kernel
theorem dX9_perform_21 : decode cX9_perform 21 = .ok (.getfield 19, 3) := by decide +kernel
theorem dX9_perform_24 : decode cX9_perform 24 = .ok (.iload_n 1, 1) := by decide +kernel
theorem dX9_perform_25 : decode cX9_perform 25 = .ok (.invokevirtual 107, 3) := by decide +kernel
theorem dX9_perform_28 : decode cX9_perform 28 = .ok (.tableswitch 107 0 4 #[36, 47, 59, 74, 95], 36) := by decide +kernel
theorem dX9_perform_64 : decode cX9_perform 64 = .ok (.aload_n 0, 1) := by decide +kernel
theorem dX9_perform_65 : decode cX9_perform 65 = .ok (.getfield 10, 3) := by decide +kernel
theorem dX9_perform_68 : decode cX9_perform 68 = .ok (.iload_n 2, 1) := by decide +kernel
theorem dX9_perform_69 : decode cX9_perform 69 = .ok (.invokevirtual 111, 3) := by decide +kernel
theorem dX9_perform_72 : decode cX9_perform 72 = .ok (.goto 71, 3) := by decide +kernel
theorem dX9_perform_75 : decode cX9_perform 75 = .ok (.aload_n 0, 1) := by decide +kernel
theorem dX9_perform_76 : decode cX9_perform 76 = .ok (.getfield 10, 3) := by decide +kernel
theorem dX9_perform_79 : decode cX9_perform 79 = .ok (.iload_n 2, 1) := by decide +kernel
theorem dX9_perform_80 : decode cX9_perform 80 = .ok (.iload_n 3, 1) := by decide +kernel
theorem dX9_perform_81 : decode cX9_perform 81 = .ok (.invokevirtual 114, 3) := by decide +kernel
theorem dX9_perform_84 : decode cX9_perform 84 = .ok (.goto 59, 3) := by decide +kernel
theorem dX9_perform_87 : decode cX9_perform 87 = .ok (.aload_n 0, 1) := by decide +kernel
theorem dX9_perform_88 : decode cX9_perform 88 = .ok (.getfield 10, 3) := by decide +kernel
theorem dX9_perform_91 : decode cX9_perform 91 = .ok (.getfield 118, 3) := by decide +kernel
theorem dX9_perform_94 : decode cX9_perform 94 = .ok (.iload_n 2, 1) := by decide +kernel
theorem dX9_perform_95 : decode cX9_perform 95 = .ok (.iload_n 3, 1) := by decide +kernel
theorem dX9_perform_96 : decode cX9_perform 96 = .ok (.invokevirtual 122, 3) := by decide +kernel
theorem dX9_perform_99 : decode cX9_perform 99 = .ok (.goto 44, 3) := by decide +kernel
theorem dX9_perform_102 : decode cX9_perform 102 = .ok (.aload_n 0, 1) := by decide +kernel
theorem dX9_perform_103 : decode cX9_perform 103 = .ok (.getfield 10, 3) := by decide +kernel
theorem dX9_perform_106 : decode cX9_perform 106 = .ok (.iload_n 2, 1) := by decide +kernel
theorem dX9_perform_107 : decode cX9_perform 107 = .ok (.iload_n 3, 1) := by decide +kernel
theorem dX9_perform_108 : decode cX9_perform 108 = .ok (.aload_n 0, 1) := by decide +kernel
theorem dX9_perform_109 : decode cX9_perform 109 = .ok (.getfield 19, 3) := by decide +kernel
theorem dX9_perform_112 : decode cX9_perform 112 = .ok (.iload_n 1, 1) := by decide +kernel
theorem dX9_perform_113 : decode cX9_perform 113 = .ok (.iconst 2, 1) := by decide +kernel
theorem dX9_perform_114 : decode cX9_perform 114 = .ok (.invokevirtual 104, 3) := by decide +kernel
theorem dX9_perform_117 : decode cX9_perform 117 = .ok (.invokevirtual 127, 3) := by decide +kernel
theorem dX9_perform_120 : decode cX9_perform 120 = .ok (.goto 23, 3) := by decide +kernel
theorem dX9_perform_123 : decode cX9_perform 123 = .ok (.aload_n 0, 1) := by decide +kernel
theorem dX9_perform_124 : decode cX9_perform 124 = .ok (.getfield 10, 3) := by decide +kernel
theorem dX9_perform_127 : decode cX9_perform 127 = .ok (.iload_n 2, 1) := by decide +kernel
theorem dX9_perform_128 : decode cX9_perform 128 = .ok (.iconst 1, 1) := by decide +kernel
theorem dX9_perform_129 : decode cX9_perform 129 = .ok (.invokevirtual 131, 3) := by decide +kernel
theorem dX9_perform_132 : decode cX9_perform 132 = .ok (.goto 11, 3) := by decide +kernel
theorem dX9_perform_135 : decode cX9_perform 135 = .ok (.aload_n 0, 1) := by decide +kernel
theorem dX9_perform_136 : decode cX9_perform 136 = .ok (.getfield 10, 3) := by decide +kernel
theorem dX9_perform_139 : decode cX9_perform 139 = .ok (.iload_n 2, 1) := by decide +kernel
theorem dX9_perform_140 : decode cX9_perform 140 = .ok (.invokevirtual 135, 3) := by decide +kernel
theorem dX9_perform_143 : decode cX9_perform 143 = .ok (.return_, 1) := by decide +kernel
theorem dX9_point_0 : decode cX9_point 0 = .ok (.aload_n 0, 1) := by decide +kernel
theorem dX9_point_1 : decode cX9_point 1 = .ok (.getfield 10, 3) := by decide +kernel
theorem dX9_point_4 : decode cX9_point 4 = .ok (.iload_n 1, 1) := by decide +kernel
theorem dX9_point_5 : decode cX9_point 5 = .ok (.invokevirtual 138, 3) := by decide +kernel
theorem dX9_point_8 : decode cX9_point 8 = .ok (.ifCond .ne 6, 3) := by decide +kernel
theorem dX9_point_11 : decode cX9_point 11 = .ok (.bipush (-2), 2) := by decide +kernel
theorem dX9_point_13 : decode cX9_point 13 = .ok (.ireturn, 1) := by decide +kernel
theorem dX9_point_14 : decode cX9_point 14 = .ok (.iload_n 2, 1) := by decide +kernel
theorem dX9_point_15 : decode cX9_point 15 = .ok (.iconst 0, 1) := by decide +kernel
theorem dX9_point_16 : decode cX9_point 16 = .ok (.iconst 1, 1) := by decide +kernel
theorem dX9_point_17 : decode cX9_point 17 = .ok (.invokestatic 63, 3) := by decide +kernel
theorem dX9_point_20 : decode cX9_point 20 = .ok (.ifCond .ne 6, 3) := by decide +kernel
theorem dX9_point_23 : decode cX9_point 23 = .ok (.bipush (-3), 2) := by decide +kernel
theorem dX9_point_25 : decode cX9_point 25 = .ok (.ireturn, 1) := by decide +kernel
theorem dX9_point_26 : decode cX9_point 26 = .ok (.iload_n 2, 1) := by decide +kernel
theorem dX9_point_27 : decode cX9_point 27 = .ok (.ifCond .ne 17, 3) := by decide +kernel
theorem dX9_point_30 : decode cX9_point 30 = .ok (.aload_n 0, 1) := by decide +kernel
theorem dX9_point_31 : decode cX9_point 31 = .ok (.getfield 10, 3) := by decide +kernel
theorem dX9_point_34 : decode cX9_point 34 = .ok (.getfield 142, 3) := by decide +kernel
theorem dX9_point_37 : decode cX9_point 37 = .ok (.iload_n 1, 1) := by decide +kernel
theorem dX9_point_38 : decode cX9_point 38 = .ok (.invokevirtual 145, 3) := by decide +kernel
theorem dX9_point_41 : decode cX9_point 41 = .ok (.goto 14, 3) := by decide +kernel
theorem dX9_point_44 : decode cX9_point 44 = .ok (.aload_n 0, 1) := by decide +kernel
theorem dX9_point_45 : decode cX9_point 45 = .ok (.getfield 10, 3) := by decide +kernel
theorem dX9_point_48 : decode cX9_point 48 = .ok (.getfield 118, 3) := by decide +kernel
theorem dX9_point_51 : decode cX9_point 51 = .ok (.iload_n 1, 1) := by decide +kernel
theorem dX9_point_52 : decode cX9_point 52 = .ok (.invokevirtual 145, 3) := by decide +kernel
theorem dX9_point_55 : decode cX9_point 55 = .ok (.ireturn, 1) := by decide +kernel
theorem dX9_older_0 : decode cX9_older 0 = .ok (.aload_n 0, 1) := by decide +kernel
theorem dX9_older_1 : decode cX9_older 1 = .ok (.getfield 10, 3) := by decide +kernel
theorem dX9_older_4 : decode cX9_older 4 = .ok (.getfield 83, 3) := by decide +kernel
theorem dX9_older_7 : decode cX9_older 7 = .ok (.astore_n 3, 1) := by decide +kernel
theorem dX9_older_8 : decode cX9_older 8 = .ok (.aload_n 3, 1) := by decide +kernel
theorem dX9_older_9 : decode cX9_older 9 = .ok (.iload_n 1, 1) := by decide +kernel
theorem dX9_older_10 : decode cX9_older 10 = .ok (.invokevirtual 148, 3) := by decide +kernel
theorem dX9_older_13 : decode cX9_older 13 = .ok (.ifCond .ne 6, 3) := by decide +kernel
theorem dX9_older_16 : decode cX9_older 16 = .ok (.bipush (-2), 2) := by decide +kernel
theorem dX9_older_18 : decode cX9_older 18 = .ok (.ireturn, 1) := by decide +kernel
theorem dX9_older_19 : decode cX9_older 19 = .ok (.iload_n 2, 1) := by decide +kernel
theorem dX9_older_20 : decode cX9_older 20 = .ok (.tableswitch 77 0 4 #[36, 42, 48, 54, 68], 36) := by decide +kernel
theorem dX9_older_56 : decode cX9_older 56 = .ok (.aload_n 3, 1) := by decide +kernel
theorem dX9_older_57 : decode cX9_older 57 = .ok (.iload_n 1, 1) := by decide +kernel
theorem dX9_older_58 : decode cX9_older 58 = .ok (.invokevirtual 151, 3) := by decide +kernel
theorem dX9_older_61 : decode cX9_older 61 = .ok (.ireturn, 1) := by decide +kernel
theorem dX9_older_62 : decode cX9_older 62 = .ok (.aload_n 3, 1) := by decide +kernel
theorem dX9_older_63 : decode cX9_older 63 = .ok (.iload_n 1, 1) := by decide +kernel
theorem dX9_older_64 : decode cX9_older 64 = .ok (.invokevirtual 154, 3) := by decide +kernel
theorem dX9_older_67 : decode cX9_older 67 = .ok (.ireturn, 1) := by decide +kernel
theorem dX9_older_68 : decode cX9_older 68 = .ok (.aload_n 3, 1) := by decide +kernel
theorem dX9_older_69 : decode cX9_older 69 = .ok (.iload_n 1, 1) := by decide +kernel
theorem dX9_older_70 : decode cX9_older 70 = .ok (.invokevirtual 157, 3) := by decide +kernel
theorem dX9_older_73 : decode cX9_older 73 = .ok (.ireturn, 1) := by decide +kernel
theorem dX9_older_74 : decode cX9_older 74 = .ok (.aload_n 3, 1) := by decide +kernel
theorem dX9_older_75 : decode cX9_older 75 = .ok (.iload_n 1, 1) := by decide +kernel
theorem dX9_older_76 : decode cX9_older 76 = .ok (.invokevirtual 160, 3) := by decide +kernel
theorem dX9_older_79 : decode cX9_older 79 = .ok (.ifCond .eq 7, 3) := by decide +kernel
theorem dX9_older_82 : decode cX9_older 82 = .ok (.iconst 1, 1) := by decide +kernel
theorem dX9_older_83 : decode cX9_older 83 = .ok (.goto 4, 3) := by decide +kernel
theorem dX9_older_86 : decode cX9_older 86 = .ok (.iconst 0, 1) := by decide +kernel
theorem dX9_older_87 : decode cX9_older 87 = .ok (.ireturn, 1) := by decide +kernel
theorem dX9_older_88 : decode cX9_older 88 = .ok (.aload_n 3, 1) := by decide +kernel
theorem dX9_older_89 : decode cX9_older 89 = .ok (.iload_n 1, 1) := by decide +kernel
theorem dX9_older_90 : decode cX9_older 90 = .ok (.invokevirtual 163, 3) := by decide +kernel
theorem dX9_older_93 : decode cX9_older 93 = .ok (.invokestatic 166, 3) := by decide +kernel
theorem dX9_older_96 : decode cX9_older 96 = .ok (.ireturn, 1) := by decide +kernel
theorem dX9_older_97 : decode cX9_older 97 = .ok (.bipush (-3), 2) := by decide +kernel
theorem dX9_older_99 : decode cX9_older 99 = .ok (.ireturn, 1) := by decide +kernel
theorem dX9_judge_0 : decode cX9_judge 0 = .ok (.aload_n 0, 1) := by decide +kernel
theorem dX9_judge_1 : decode cX9_judge 1 = .ok (.getfield 10, 3) := by decide +kernel
theorem dX9_judge_4 : decode cX9_judge 4 = .ok (.iload_n 1, 1) := by decide +kernel
theorem dX9_judge_5 : decode cX9_judge 5 = .ok (.invokevirtual 171, 3) := by decide +kernel
theorem dX9_judge_8 : decode cX9_judge 8 = .ok (.ifCond .eq 12, 3) := by decide +kernel
theorem dX9_judge_11 : decode cX9_judge 11 = .ok (.iload_n 2, 1) := by decide +kernel
theorem dX9_judge_12 : decode cX9_judge 12 = .ok (.iconst 0, 1) := by decide +kernel
theorem dX9_judge_13 : decode cX9_judge 13 = .ok (.iconst 2, 1) := by decide +kernel
theorem dX9_judge_14 : decode cX9_judge 14 = .ok (.invokestatic 63, 3) := by decide +kernel
theorem dX9_judge_17 : decode cX9_judge 17 = .ok (.ifCond .ne 6, 3) := by decide +kernel
theorem dX9_judge_20 : decode cX9_judge 20 = .ok (.bipush (-3), 2) := by decide +kernel
theorem dX9_judge_22 : decode cX9_judge 22 = .ok (.ireturn, 1) := by decide +kernel
theorem dX9_judge_23 : decode cX9_judge 23 = .ok (.aload_n 0, 1) := by decide +kernel
theorem dX9_judge_24 : decode cX9_judge 24 = .ok (.getfield 10, 3) := by decide +kernel
theorem dX9_judge_27 : decode cX9_judge 27 = .ok (.iload_n 1, 1) := by decide +kernel
theorem dX9_judge_28 : decode cX9_judge 28 = .ok (.invokevirtual 174, 3) := by decide +kernel
theorem dX9_judge_31 : decode cX9_judge 31 = .ok (.istore_n 3, 1) := by decide +kernel
theorem dX9_judge_32 : decode cX9_judge 32 = .ok (.iload_n 3, 1) := by decide +kernel
theorem dX9_judge_33 : decode cX9_judge 33 = .ok (.iconst (-1), 1) := by decide +kernel
theorem dX9_judge_34 : decode cX9_judge 34 = .ok (.if_icmp .eq 8, 3) := by decide +kernel
theorem dX9_judge_37 : decode cX9_judge 37 = .ok (.iload_n 2, 1) := by decide +kernel
theorem dX9_judge_38 : decode cX9_judge 38 = .ok (.iconst 1, 1) := by decide +kernel
theorem dX9_judge_39 : decode cX9_judge 39 = .ok (.if_icmp .ne 5, 3) := by decide +kernel
theorem dX9_judge_42 : decode cX9_judge 42 = .ok (.iload_n 3, 1) := by decide +kernel
theorem dX9_judge_43 : decode cX9_judge 43 = .ok (.ireturn, 1) := by decide +kernel
theorem dX9_judge_44 : decode cX9_judge 44 = .ok (.iload_n 2, 1) := by decide +kernel
theorem dX9_judge_45 : decode cX9_judge 45 = .ok (.ifCond .ne 17, 3) := by decide +kernel
theorem dX9_judge_48 : decode cX9_judge 48 = .ok (.aload_n 0, 1) := by decide +kernel
theorem dX9_judge_49 : decode cX9_judge 49 = .ok (.getfield 10, 3) := by decide +kernel
theorem dX9_judge_52 : decode cX9_judge 52 = .ok (.getfield 83, 3) := by decide +kernel
theorem dX9_judge_55 : decode cX9_judge 55 = .ok (.iload_n 3, 1) := by decide +kernel
theorem dX9_judge_56 : decode cX9_judge 56 = .ok (.invokevirtual 154, 3) := by decide +kernel
theorem dX9_judge_59 : decode cX9_judge 59 = .ok (.goto 12, 3) := by decide +kernel
theorem dX9_judge_62 : decode cX9_judge 62 = .ok (.aload_n 0, 1) := by decide +kernel
theorem dX9_judge_63 : decode cX9_judge 63 = .ok (.getfield 10, 3) := by decide +kernel
theorem dX9_judge_66 : decode cX9_judge 66 = .ok (.iload_n 1, 1) := by decide +kernel
theorem dX9_judge_67 : decode cX9_judge 67 = .ok (.iload_n 3, 1) := by decide +kernel
theorem dX9_judge_68 : decode cX9_judge 68 = .ok (.invokevirtual 177, 3) := by decide +kernel
theorem dX9_judge_71 : decode cX9_judge 71 = .ok (.ireturn, 1) := by decide +kernel
theorem dX9_like_0 : decode cX9_like 0 = .ok (.aload_n 0, 1) := by decide +kernel
theorem dX9_like_1 : decode cX9_like 1 = .ok (.getfield 10, 3) := by decide +kernel
theorem dX9_like_4 : decode cX9_like 4 = .ok (.getfield 83, 3) := by decide +kernel
theorem dX9_like_7 : decode cX9_like 7 = .ok (.iload_n 2, 1) := by decide +kernel
theorem dX9_like_8 : decode cX9_like 8 = .ok (.invokevirtual 148, 3) := by decide +kernel
theorem dX9_like_11 : decode cX9_like 11 = .ok (.ifCond .ne 6, 3) := by decide +kernel
theorem dX9_like_14 : decode cX9_like 14 = .ok (.bipush (-2), 2) := by decide +kernel
theorem dX9_like_16 : decode cX9_like 16 = .ok (.ireturn, 1) := by decide +kernel
theorem dX9_like_17 : decode cX9_like 17 = .ok (.aload_n 0, 1) := by decide +kernel
theorem dX9_like_18 : decode cX9_like 18 = .ok (.getfield 10, 3) := by decide +kernel
theorem dX9_like_21 : decode cX9_like 21 = .ok (.iload_n 1, 1) := by decide +kernel
theorem dX9_like_22 : decode cX9_like 22 = .ok (.invokevirtual 171, 3) := by decide +kernel
theorem dX9_like_25 : decode cX9_like 25 = .ok (.ifCond .ne 6, 3) := by decide +kernel
theorem dX9_like_28 : decode cX9_like 28 = .ok (.bipush (-3), 2) := by decide +kernel
theorem dX9_like_30 : decode cX9_like 30 = .ok (.ireturn, 1) := by decide +kernel
theorem dX9_like_31 : decode cX9_like 31 = .ok (.aload_n 0, 1) := by decide +kernel
theorem dX9_like_32 : decode cX9_like 32 = .ok (.getfield 10, 3) := by decide +kernel
theorem dX9_like_35 : decode cX9_like 35 = .ok (.iload_n 1, 1) := by decide +kernel
theorem dX9_like_36 : decode cX9_like 36 = .ok (.iload_n 2, 1) := by decide +kernel
theorem dX9_like_37 : decode cX9_like 37 = .ok (.invokevirtual 177, 3) := by decide +kernel
theorem dX9_like_40 : decode cX9_like 40 = .ok (.ireturn, 1) := by decide +kernel
theorem dX9_bring_0 : decode cX9_bring 0 = .ok (.aload_n 0, 1) := by decide +kernel
theorem dX9_bring_1 : decode cX9_bring 1 = .ok (.getfield 10, 3) := by decide +kernel
theorem dX9_bring_4 : decode cX9_bring 4 = .ok (.iload_n 1, 1) := by decide +kernel
theorem dX9_bring_5 : decode cX9_bring 5 = .ok (.invokevirtual 171, 3) := by decide +kernel
theorem dX9_bring_8 : decode cX9_bring 8 = .ok (.ifCond .eq 14, 3) := by decide +kernel
theorem dX9_bring_11 : decode cX9_bring 11 = .ok (.iload_n 2, 1) := by decide +kernel
theorem dX9_bring_12 : decode cX9_bring 12 = .ok (.iconst 0, 1) := by decide +kernel
theorem dX9_bring_13 : decode cX9_bring 13 = .ok (.sipush 9999, 3) := by decide +kernel
theorem dX9_bring_16 : decode cX9_bring 16 = .ok (.invokestatic 63, 3) := by decide +kernel
theorem dX9_bring_19 : decode cX9_bring 19 = .ok (.ifCond .ne 6, 3) := by decide +kernel
theorem dX9_bring_22 : decode cX9_bring 22 = .ok (.bipush (-3), 2) := by decide +kernel
theorem dX9_bring_24 : decode cX9_bring 24 = .ok (.ireturn, 1) := by decide +kernel
theorem dX9_bring_25 : decode cX9_bring 25 = .ok (.aload_n 0, 1) := by decide +kernel
theorem dX9_bring_26 : decode cX9_bring 26 = .ok (.getfield 10, 3) := by decide +kernel
theorem dX9_bring_29 : decode cX9_bring 29 = .ok (.getfield 83, 3) := by decide +kernel
theorem dX9_bring_32 : decode cX9_bring 32 = .ok (.invokevirtual 180, 3) := by decide +kernel
theorem dX9_bring_35 : decode cX9_bring 35 = .ok (.ifCond .eq 6, 3) := by decide +kernel
theorem dX9_bring_38 : decode cX9_bring 38 = .ok (.bipush (-4), 2) := by decide +kernel
theorem dX9_bring_40 : decode cX9_bring 40 = .ok (.ireturn, 1) := by decide +kernel
theorem dX9_bring_41 : decode cX9_bring 41 = .ok (.aload_n 0, 1) := by decide +kernel
theorem dX9_bring_42 : decode cX9_bring 42 = .ok (.getfield 10, 3) := by decide +kernel
theorem dX9_bring_45 : decode cX9_bring 45 = .ok (.getfield 83, 3) := by decide +kernel
theorem dX9_bring_48 : decode cX9_bring 48 = .ok (.invokevirtual 87, 3) := by decide +kernel
theorem dX9_bring_51 : decode cX9_bring 51 = .ok (.bipush 12, 2) := by decide +kernel
theorem dX9_bring_53 : decode cX9_bring 53 = .ok (.if_icmp .ne 6, 3) := by decide +kernel
theorem dX9_bring_56 : decode cX9_bring 56 = .ok (.bipush (-5), 2) := by decide +kernel
theorem dX9_bring_58 : decode cX9_bring 58 = .ok (.ireturn, 1) := by decide +kernel
theorem dX9_bring_59 : decode cX9_bring 59 = .ok (.aload_n 0, 1) := by decide +kernel
theorem dX9_bring_60 : decode cX9_bring 60 = .ok (.getfield 10, 3) := by decide +kernel
theorem dX9_bring_63 : decode cX9_bring 63 = .ok (.getfield 83, 3) := by decide +kernel
theorem dX9_bring_66 : decode cX9_bring 66 = .ok (.aload_n 0, 1) := by decide +kernel
theorem dX9_bring_67 : decode cX9_bring 67 = .ok (.getfield 10, 3) := by decide +kernel
theorem dX9_bring_70 : decode cX9_bring 70 = .ok (.iload_n 1, 1) := by decide +kernel
theorem dX9_bring_71 : decode cX9_bring 71 = .ok (.invokevirtual 174, 3) := by decide +kernel
theorem dX9_bring_74 : decode cX9_bring 74 = .ok (.invokevirtual 154, 3) := by decide +kernel
theorem dX9_bring_77 : decode cX9_bring 77 = .ok (.istore_n 3, 1) := by decide +kernel
theorem dX9_bring_78 : decode cX9_bring 78 = .ok (.aload_n 0, 1) := by decide +kernel
theorem dX9_bring_79 : decode cX9_bring 79 = .ok (.getfield 10, 3) := by decide +kernel
theorem dX9_bring_82 : decode cX9_bring 82 = .ok (.iload_n 1, 1) := by decide +kernel
theorem dX9_bring_83 : decode cX9_bring 83 = .ok (.iload_n 3, 1) := by decide +kernel
theorem dX9_bring_84 : decode cX9_bring 84 = .ok (.iload_n 2, 1) := by decide +kernel
theorem dX9_bring_85 : decode cX9_bring 85 = .ok (.invokevirtual 127, 3) := by decide +kernel
theorem dX9_bring_88 : decode cX9_bring 88 = .ok (.iload_n 3, 1) := by decide +kernel
theorem dX9_bring_89 : decode cX9_bring 89 = .ok (.ireturn, 1) := by decide +kernel
theorem dX9_pardon_0 : decode cX9_pardon 0 = .ok (.aload_n 0, 1) := by decide +kernel
theorem dX9_pardon_1 : decode cX9_pardon 1 = .ok (.getfield 10, 3) := by decide +kernel
theorem dX9_pardon_4 : decode cX9_pardon 4 = .ok (.getfield 83, 3) := by decide +kernel
theorem dX9_pardon_7 : decode cX9_pardon 7 = .ok (.iload_n 1, 1) := by decide +kernel
theorem dX9_pardon_8 : decode cX9_pardon 8 = .ok (.invokevirtual 148, 3) := by decide +kernel
theorem dX9_pardon_11 : decode cX9_pardon 11 = .ok (.ifCond .ne 6, 3) := by decide +kernel
theorem dX9_pardon_14 : decode cX9_pardon 14 = .ok (.bipush (-2), 2) := by decide +kernel
theorem dX9_pardon_16 : decode cX9_pardon 16 = .ok (.ireturn, 1) := by decide +kernel
theorem dX9_pardon_17 : decode cX9_pardon 17 = .ok (.aload_n 0, 1) := by decide +kernel
theorem dX9_pardon_18 : decode cX9_pardon 18 = .ok (.getfield 10, 3) := by decide +kernel
theorem dX9_pardon_21 : decode cX9_pardon 21 = .ok (.iload_n 1, 1) := by decide +kernel
theorem dX9_pardon_22 : decode cX9_pardon 22 = .ok (.iload_n 2, 1) := by decide +kernel
theorem dX9_pardon_23 : decode cX9_pardon 23 = .ok (.invokevirtual 131, 3) := by decide +kernel
theorem dX9_pardon_26 : decode cX9_pardon 26 = .ok (.aload_n 0, 1) := by decide +kernel
theorem dX9_pardon_27 : decode cX9_pardon 27 = .ok (.getfield 10, 3) := by decide +kernel
theorem dX9_pardon_30 : decode cX9_pardon 30 = .ok (.getfield 83, 3) := by decide +kernel
theorem dX9_pardon_33 : decode cX9_pardon 33 = .ok (.iload_n 1, 1) := by decide +kernel
theorem dX9_pardon_34 : decode cX9_pardon 34 = .ok (.invokevirtual 154, 3) := by decide +kernel
theorem dX9_pardon_37 : decode cX9_pardon 37 = .ok (.ireturn, 1) := by decide +kernel
theorem dX9_deeds_0 : decode cX9_deeds 0 = .ok (.iload_n 2, 1) := by decide +kernel
theorem dX9_deeds_1 : decode cX9_deeds 1 = .ok (.iconst (-1), 1) := by decide +kernel
theorem dX9_deeds_2 : decode cX9_deeds 2 = .ok (.if_icmp .eq 20, 3) := by decide +kernel
theorem dX9_deeds_5 : decode cX9_deeds 5 = .ok (.aload_n 0, 1) := by decide +kernel
theorem dX9_deeds_6 : decode cX9_deeds 6 = .ok (.getfield 10, 3) := by decide +kernel
theorem dX9_deeds_9 : decode cX9_deeds 9 = .ok (.getfield 83, 3) := by decide +kernel
theorem dX9_deeds_12 : decode cX9_deeds 12 = .ok (.iload_n 2, 1) := by decide +kernel
theorem dX9_deeds_13 : decode cX9_deeds 13 = .ok (.invokevirtual 148, 3) := by decide +kernel
theorem dX9_deeds_16 : decode cX9_deeds 16 = .ok (.ifCond .ne 6, 3) := by decide +kernel
theorem dX9_deeds_19 : decode cX9_deeds 19 = .ok (.bipush (-2), 2) := by decide +kernel
theorem dX9_deeds_21 : decode cX9_deeds 21 = .ok (.ireturn, 1) := by decide +kernel
theorem dX9_deeds_22 : decode cX9_deeds 22 = .ok (.iload_n 1, 1) := by decide +kernel
theorem dX9_deeds_23 : decode cX9_deeds 23 = .ok (.invokestatic 184, 3) := by decide +kernel
theorem dX9_deeds_26 : decode cX9_deeds 26 = .ok (.ifCond .ne 6, 3) := by decide +kernel
theorem dX9_deeds_29 : decode cX9_deeds 29 = .ok (.bipush (-3), 2) := by decide +kernel
theorem dX9_deeds_31 : decode cX9_deeds 31 = .ok (.ireturn, 1) := by decide +kernel
theorem dX9_deeds_32 : decode cX9_deeds 32 = .ok (.aload_n 0, 1) := by decide +kernel
theorem dX9_deeds_33 : decode cX9_deeds 33 = .ok (.getfield 10, 3) := by decide +kernel
theorem dX9_deeds_36 : decode cX9_deeds 36 = .ok (.invokevirtual 187, 3) := by decide +kernel
theorem dX9_deeds_39 : decode cX9_deeds 39 = .ok (.iconst 0, 1) := by decide +kernel
theorem dX9_deeds_40 : decode cX9_deeds 40 = .ok (.istore_n 3, 1) := by decide +kernel
theorem dX9_deeds_41 : decode cX9_deeds 41 = .ok (.iconst 0, 1) := by decide +kernel
theorem dX9_deeds_42 : decode cX9_deeds 42 = .ok (.istore 4, 2) := by decide +kernel
theorem dX9_deeds_44 : decode cX9_deeds 44 = .ok (.iload 4, 2) := by decide +kernel
theorem dX9_deeds_46 : decode cX9_deeds 46 = .ok (.aload_n 0, 1) := by decide +kernel
theorem dX9_deeds_47 : decode cX9_deeds 47 = .ok (.getfield 10, 3) := by decide +kernel
theorem dX9_deeds_50 : decode cX9_deeds 50 = .ok (.invokevirtual 190, 3) := by decide +kernel
theorem dX9_deeds_53 : decode cX9_deeds 53 = .ok (.if_icmp .ge 43, 3) := by decide +kernel
theorem dX9_deeds_56 : decode cX9_deeds 56 = .ok (.aload_n 0, 1) := by decide +kernel
theorem dX9_deeds_57 : decode cX9_deeds 57 = .ok (.getfield 10, 3) := by decide +kernel
theorem dX9_deeds_60 : decode cX9_deeds 60 = .ok (.iload 4, 2) := by decide +kernel
theorem dX9_deeds_62 : decode cX9_deeds 62 = .ok (.invokevirtual 193, 3) := by decide +kernel
theorem dX9_deeds_65 : decode cX9_deeds 65 = .ok (.iload_n 1, 1) := by decide +kernel
theorem dX9_deeds_66 : decode cX9_deeds 66 = .ok (.if_icmp .ne 24, 3) := by decide +kernel
theorem dX9_deeds_69 : decode cX9_deeds 69 = .ok (.iload_n 2, 1) := by decide +kernel
theorem dX9_deeds_70 : decode cX9_deeds 70 = .ok (.iconst (-1), 1) := by decide +kernel
theorem dX9_deeds_71 : decode cX9_deeds 71 = .ok (.if_icmp .eq 16, 3) := by decide +kernel
theorem dX9_deeds_74 : decode cX9_deeds 74 = .ok (.aload_n 0, 1) := by decide +kernel
theorem dX9_deeds_75 : decode cX9_deeds 75 = .ok (.getfield 10, 3) := by decide +kernel
theorem dX9_deeds_78 : decode cX9_deeds 78 = .ok (.iload 4, 2) := by decide +kernel
theorem dX9_deeds_80 : decode cX9_deeds 80 = .ok (.invokevirtual 194, 3) := by decide +kernel
theorem dX9_deeds_83 : decode cX9_deeds 83 = .ok (.iload_n 2, 1) := by decide +kernel
theorem dX9_deeds_84 : decode cX9_deeds 84 = .ok (.if_icmp .ne 6, 3) := by decide +kernel
theorem dX9_deeds_87 : decode cX9_deeds 87 = .ok (.iinc 3 1, 3) := by decide +kernel
theorem dX9_deeds_90 : decode cX9_deeds 90 = .ok (.iinc 4 1, 3) := by decide +kernel
theorem dX9_deeds_93 : decode cX9_deeds 93 = .ok (.goto (-49), 3) := by decide +kernel
theorem dX9_deeds_96 : decode cX9_deeds 96 = .ok (.iload_n 3, 1) := by decide +kernel
theorem dX9_deeds_97 : decode cX9_deeds 97 = .ok (.ireturn, 1) := by decide +kernel
theorem dX9_least_0 : decode cX9_least 0 = .ok (.aload_n 0, 1) := by decide +kernel
theorem dX9_least_1 : decode cX9_least 1 = .ok (.getfield 10, 3) := by decide +kernel
theorem dX9_least_4 : decode cX9_least 4 = .ok (.iload_n 1, 1) := by decide +kernel
theorem dX9_least_5 : decode cX9_least 5 = .ok (.invokevirtual 171, 3) := by decide +kernel
theorem dX9_least_8 : decode cX9_least 8 = .ok (.ifCond .eq 19, 3) := by decide +kernel
theorem dX9_least_11 : decode cX9_least 11 = .ok (.iload_n 2, 1) := by decide +kernel
theorem dX9_least_12 : decode cX9_least 12 = .ok (.invokestatic 184, 3) := by decide +kernel
theorem dX9_least_15 : decode cX9_least 15 = .ok (.ifCond .eq 12, 3) := by decide +kernel
theorem dX9_least_18 : decode cX9_least 18 = .ok (.iload_n 3, 1) := by decide +kernel
theorem dX9_least_19 : decode cX9_least 19 = .ok (.iconst 0, 1) := by decide +kernel
theorem dX9_least_20 : decode cX9_least 20 = .ok (.iconst 1, 1) := by decide +kernel
theorem dX9_least_21 : decode cX9_least 21 = .ok (.invokestatic 63, 3) := by decide +kernel
theorem dX9_least_24 : decode cX9_least 24 = .ok (.ifCond .ne 6, 3) := by decide +kernel
theorem dX9_least_27 : decode cX9_least 27 = .ok (.bipush (-3), 2) := by decide +kernel
theorem dX9_least_29 : decode cX9_least 29 = .ok (.ireturn, 1) := by decide +kernel
theorem dX9_least_30 : decode cX9_least 30 = .ok (.aload_n 0, 1) := by decide +kernel
theorem dX9_least_31 : decode cX9_least 31 = .ok (.getfield 10, 3) := by decide +kernel
theorem dX9_least_34 : decode cX9_least 34 = .ok (.invokevirtual 187, 3) := by decide +kernel
theorem dX9_least_37 : decode cX9_least 37 = .ok (.aload_n 0, 1) := by decide +kernel
theorem dX9_least_38 : decode cX9_least 38 = .ok (.getfield 28, 3) := by decide +kernel
theorem dX9_least_41 : decode cX9_least 41 = .ok (.iload_n 1, 1) := by decide +kernel
theorem dX9_least_42 : decode cX9_least 42 = .ok (.iload_n 2, 1) := by decide +kernel
theorem dX9_least_43 : decode cX9_least 43 = .ok (.invokevirtual 197, 3) := by decide +kernel
theorem dX9_least_46 : decode cX9_least 46 = .ok (.istore 4, 2) := by decide +kernel
theorem dX9_least_48 : decode cX9_least 48 = .ok (.iload 4, 2) := by decide +kernel
theorem dX9_least_50 : decode cX9_least 50 = .ok (.iconst (-1), 1) := by decide +kernel
theorem dX9_least_51 : decode cX9_least 51 = .ok (.if_icmp .eq 8, 3) := by decide +kernel
theorem dX9_least_54 : decode cX9_least 54 = .ok (.iload_n 3, 1) := by decide +kernel
theorem dX9_least_55 : decode cX9_least 55 = .ok (.iconst 1, 1) := by decide +kernel
theorem dX9_least_56 : decode cX9_least 56 = .ok (.if_icmp .ne 6, 3) := by decide +kernel
theorem dX9_least_59 : decode cX9_least 59 = .ok (.iload 4, 2) := by decide +kernel
theorem dX9_least_61 : decode cX9_least 61 = .ok (.ireturn, 1) := by decide +kernel
theorem dX9_least_62 : decode cX9_least 62 = .ok (.aload_n 0, 1) := by decide +kernel
theorem dX9_least_63 : decode cX9_least 63 = .ok (.getfield 10, 3) := by decide +kernel
theorem dX9_least_66 : decode cX9_least 66 = .ok (.getfield 118, 3) := by decide +kernel
theorem dX9_least_69 : decode cX9_least 69 = .ok (.iload_n 1, 1) := by decide +kernel
theorem dX9_least_70 : decode cX9_least 70 = .ok (.iload 4, 2) := by decide +kernel
theorem dX9_least_72 : decode cX9_least 72 = .ok (.ixor, 1) := by decide +kernel
theorem dX9_least_73 : decode cX9_least 73 = .ok (.invokevirtual 200, 3) := by decide +kernel
theorem dX9_least_76 : decode cX9_least 76 = .ok (.ireturn, 1) := by decide +kernel
theorem dX9_suits_0 : decode cX9_suits 0 = .ok (.aload_n 0, 1) := by decide +kernel
theorem dX9_suits_1 : decode cX9_suits 1 = .ok (.getfield 10, 3) := by decide +kernel
theorem dX9_suits_4 : decode cX9_suits 4 = .ok (.iload_n 1, 1) := by decide +kernel
theorem dX9_suits_5 : decode cX9_suits 5 = .ok (.invokevirtual 171, 3) := by decide +kernel
theorem dX9_suits_8 : decode cX9_suits 8 = .ok (.ifCond .eq 15, 3) := by decide +kernel
theorem dX9_suits_11 : decode cX9_suits 11 = .ok (.iload_n 2, 1) := by decide +kernel
theorem dX9_suits_12 : decode cX9_suits 12 = .ok (.invokestatic 184, 3) := by decide +kernel
theorem dX9_suits_15 : decode cX9_suits 15 = .ok (.ifCond .eq 8, 3) := by decide +kernel
theorem dX9_suits_18 : decode cX9_suits 18 = .ok (.iload_n 3, 1) := by decide +kernel
theorem dX9_suits_19 : decode cX9_suits 19 = .ok (.iconst (-1), 1) := by decide +kernel
theorem dX9_suits_20 : decode cX9_suits 20 = .ok (.if_icmp .ge 6, 3) := by decide +kernel
theorem dX9_suits_23 : decode cX9_suits 23 = .ok (.bipush (-3), 2) := by decide +kernel
theorem dX9_suits_25 : decode cX9_suits 25 = .ok (.ireturn, 1) := by decide +kernel
theorem dX9_suits_26 : decode cX9_suits 26 = .ok (.aload_n 0, 1) := by decide +kernel
theorem dX9_suits_27 : decode cX9_suits 27 = .ok (.getfield 10, 3) := by decide +kernel
theorem dX9_suits_30 : decode cX9_suits 30 = .ok (.invokevirtual 203, 3) := by decide +kernel
theorem dX9_suits_33 : decode cX9_suits 33 = .ok (.ifCond .ne 6, 3) := by decide +kernel
theorem dX9_suits_36 : decode cX9_suits 36 = .ok (.bipush (-4), 2) := by decide +kernel
theorem dX9_suits_38 : decode cX9_suits 38 = .ok (.ireturn, 1) := by decide +kernel
theorem dX9_suits_39 : decode cX9_suits 39 = .ok (.aload_n 0, 1) := by decide +kernel
theorem dX9_suits_40 : decode cX9_suits 40 = .ok (.getfield 10, 3) := by decide +kernel
theorem dX9_suits_43 : decode cX9_suits 43 = .ok (.invokevirtual 187, 3) := by decide +kernel
theorem dX9_suits_46 : decode cX9_suits 46 = .ok (.aload_n 0, 1) := by decide +kernel
theorem dX9_suits_47 : decode cX9_suits 47 = .ok (.getfield 28, 3) := by decide +kernel
theorem dX9_suits_50 : decode cX9_suits 50 = .ok (.iload_n 1, 1) := by decide +kernel
theorem dX9_suits_51 : decode cX9_suits 51 = .ok (.iload_n 2, 1) := by decide +kernel
theorem dX9_suits_52 : decode cX9_suits 52 = .ok (.invokevirtual 206, 3) := by decide +kernel
theorem dX9_suits_55 : decode cX9_suits 55 = .ok (.istore 4, 2) := by decide +kernel
theorem dX9_suits_57 : decode cX9_suits 57 = .ok (.iload_n 3, 1) := by decide +kernel
theorem dX9_suits_58 : decode cX9_suits 58 = .ok (.iconst (-1), 1) := by decide +kernel
theorem dX9_suits_59 : decode cX9_suits 59 = .ok (.if_icmp .ne 6, 3) := by decide +kernel
theorem dX9_suits_62 : decode cX9_suits 62 = .ok (.iload 4, 2) := by decide +kernel
theorem dX9_suits_64 : decode cX9_suits 64 = .ok (.ireturn, 1) := by decide +kernel
theorem dX9_suits_65 : decode cX9_suits 65 = .ok (.iload_n 3, 1) := by decide +kernel
theorem dX9_suits_66 : decode cX9_suits 66 = .ok (.iload 4, 2) := by decide +kernel
theorem dX9_suits_68 : decode cX9_suits 68 = .ok (.if_icmp .ge 14, 3) := by decide +kernel
theorem dX9_suits_71 : decode cX9_suits 71 = .ok (.aload_n 0, 1) := by decide +kernel
theorem dX9_suits_72 : decode cX9_suits 72 = .ok (.getfield 28, 3) := by decide +kernel
theorem dX9_suits_75 : decode cX9_suits 75 = .ok (.iload_n 3, 1) := by decide +kernel
theorem dX9_suits_76 : decode cX9_suits 76 = .ok (.invokevirtual 209, 3) := by decide +kernel
theorem dX9_suits_79 : decode cX9_suits 79 = .ok (.goto 4, 3) := by decide +kernel
theorem dX9_suits_82 : decode cX9_suits 82 = .ok (.iconst (-1), 1) := by decide +kernel
theorem dX9_suits_83 : decode cX9_suits 83 = .ok (.ireturn, 1) := by decide +kernel
theorem dX9_turns_0 : decode cX9_turns 0 = .ok (.aload_n 0, 1) := by decide +kernel
theorem dX9_turns_1 : decode cX9_turns 1 = .ok (.getfield 10, 3) := by decide +kernel
theorem dX9_turns_4 : decode cX9_turns 4 = .ok (.iload_n 1, 1) := by decide +kernel
theorem dX9_turns_5 : decode cX9_turns 5 = .ok (.invokevirtual 171, 3) := by decide +kernel
theorem dX9_turns_8 : decode cX9_turns 8 = .ok (.ifCond .eq 10, 3) := by decide +kernel
theorem dX9_turns_11 : decode cX9_turns 11 = .ok (.iload_n 2, 1) := by decide +kernel
theorem dX9_turns_12 : decode cX9_turns 12 = .ok (.invokestatic 184, 3) := by decide +kernel
theorem dX9_turns_15 : decode cX9_turns 15 = .ok (.ifCond .ne 6, 3) := by decide +kernel
theorem dX9_turns_18 : decode cX9_turns 18 = .ok (.bipush (-3), 2) := by decide +kernel
theorem dX9_turns_20 : decode cX9_turns 20 = .ok (.ireturn, 1) := by decide +kernel
theorem dX9_turns_21 : decode cX9_turns 21 = .ok (.aload_n 0, 1) := by decide +kernel
theorem dX9_turns_22 : decode cX9_turns 22 = .ok (.getfield 10, 3) := by decide +kernel
theorem dX9_turns_25 : decode cX9_turns 25 = .ok (.invokevirtual 203, 3) := by decide +kernel
theorem dX9_turns_28 : decode cX9_turns 28 = .ok (.ifCond .ne 6, 3) := by decide +kernel
theorem dX9_turns_31 : decode cX9_turns 31 = .ok (.bipush (-4), 2) := by decide +kernel
theorem dX9_turns_33 : decode cX9_turns 33 = .ok (.ireturn, 1) := by decide +kernel
theorem dX9_turns_34 : decode cX9_turns 34 = .ok (.aload_n 0, 1) := by decide +kernel
theorem dX9_turns_35 : decode cX9_turns 35 = .ok (.getfield 10, 3) := by decide +kernel
theorem dX9_turns_38 : decode cX9_turns 38 = .ok (.invokevirtual 187, 3) := by decide +kernel
theorem dX9_turns_41 : decode cX9_turns 41 = .ok (.aload_n 0, 1) := by decide +kernel
theorem dX9_turns_42 : decode cX9_turns 42 = .ok (.getfield 28, 3) := by decide +kernel
theorem dX9_turns_45 : decode cX9_turns 45 = .ok (.iload_n 1, 1) := by decide +kernel
theorem dX9_turns_46 : decode cX9_turns 46 = .ok (.iload_n 2, 1) := by decide +kernel
theorem dX9_turns_47 : decode cX9_turns 47 = .ok (.invokevirtual 212, 3) := by decide +kernel
theorem dX9_turns_50 : decode cX9_turns 50 = .ok (.ireturn, 1) := by decide +kernel
theorem dX9_dead_0 : decode cX9_dead 0 = .ok (.aload_n 0, 1) := by decide +kernel
theorem dX9_dead_1 : decode cX9_dead 1 = .ok (.getfield 10, 3) := by decide +kernel
theorem dX9_dead_4 : decode cX9_dead 4 = .ok (.invokevirtual 187, 3) := by decide +kernel
theorem dX9_dead_7 : decode cX9_dead 7 = .ok (.aload_n 0, 1) := by decide +kernel
theorem dX9_dead_8 : decode cX9_dead 8 = .ok (.getfield 35, 3) := by decide +kernel
theorem dX9_dead_11 : decode cX9_dead 11 = .ok (.invokevirtual 215, 3) := by decide +kernel
theorem dX9_dead_14 : decode cX9_dead 14 = .ok (.ireturn, 1) := by decide +kernel
theorem dX9_keep_0 : decode cX9_keep 0 = .ok (.iload_n 1, 1) := by decide +kernel
theorem dX9_keep_1 : decode cX9_keep 1 = .ok (.iconst 0, 1) := by decide +kernel
theorem dX9_keep_2 : decode cX9_keep 2 = .ok (.iconst 1, 1) := by decide +kernel
theorem dX9_keep_3 : decode cX9_keep 3 = .ok (.invokestatic 63, 3) := by decide +kernel
theorem dX9_keep_6 : decode cX9_keep 6 = .ok (.ifCond .ne 6, 3) := by decide +kernel
theorem dX9_keep_9 : decode cX9_keep 9 = .ok (.bipush (-3), 2) := by decide +kernel
theorem dX9_keep_11 : decode cX9_keep 11 = .ok (.ireturn, 1) := by decide +kernel
theorem dX9_keep_12 : decode cX9_keep 12 = .ok (.aload_n 0, 1) := by decide +kernel
theorem dX9_keep_13 : decode cX9_keep 13 = .ok (.getfield 10, 3) := by decide +kernel
theorem dX9_keep_16 : decode cX9_keep 16 = .ok (.invokevirtual 80, 3) := by decide +kernel
theorem dX9_keep_19 : decode cX9_keep 19 = .ok (.bipush 8, 2) := by decide +kernel
theorem dX9_keep_21 : decode cX9_keep 21 = .ok (.if_icmp .gt 18, 3) := by decide +kernel
theorem dX9_keep_24 : decode cX9_keep 24 = .ok (.aload_n 0, 1) := by decide +kernel
theorem dX9_keep_25 : decode cX9_keep 25 = .ok (.getfield 10, 3) := by decide +kernel
theorem dX9_keep_28 : decode cX9_keep 28 = .ok (.getfield 83, 3) := by decide +kernel
theorem dX9_keep_31 : decode cX9_keep 31 = .ok (.invokevirtual 87, 3) := by decide +kernel
theorem dX9_keep_34 : decode cX9_keep 34 = .ok (.bipush 10, 2) := by decide +kernel
theorem dX9_keep_36 : decode cX9_keep 36 = .ok (.if_icmp .le 6, 3) := by decide +kernel
theorem dX9_keep_39 : decode cX9_keep 39 = .ok (.bipush (-4), 2) := by decide +kernel
theorem dX9_keep_41 : decode cX9_keep 41 = .ok (.ireturn, 1) := by decide +kernel
theorem dX9_keep_42 : decode cX9_keep 42 = .ok (.aload_n 0, 1) := by decide +kernel
theorem dX9_keep_43 : decode cX9_keep 43 = .ok (.getfield 10, 3) := by decide +kernel
theorem dX9_keep_46 : decode cX9_keep 46 = .ok (.invokevirtual 187, 3) := by decide +kernel
theorem dX9_keep_49 : decode cX9_keep 49 = .ok (.aload_n 0, 1) := by decide +kernel
theorem dX9_keep_50 : decode cX9_keep 50 = .ok (.getfield 35, 3) := by decide +kernel
theorem dX9_keep_53 : decode cX9_keep 53 = .ok (.invokevirtual 218, 3) := by decide +kernel
theorem dX9_keep_56 : decode cX9_keep 56 = .ok (.iload_n 1, 1) := by decide +kernel
theorem dX9_keep_57 : decode cX9_keep 57 = .ok (.invokestatic 221, 3) := by decide +kernel
theorem dX9_keep_60 : decode cX9_keep 60 = .ok (.ireturn, 1) := by decide +kernel
theorem dX9_turning_0 : decode cX9_turning 0 = .ok (.aload_n 0, 1) := by decide +kernel
theorem dX9_turning_1 : decode cX9_turning 1 = .ok (.getfield 10, 3) := by decide +kernel
theorem dX9_turning_4 : decode cX9_turning 4 = .ok (.iload_n 1, 1) := by decide +kernel
theorem dX9_turning_5 : decode cX9_turning 5 = .ok (.invokevirtual 171, 3) := by decide +kernel
theorem dX9_turning_8 : decode cX9_turning 8 = .ok (.ifCond .ne 6, 3) := by decide +kernel
theorem dX9_turning_11 : decode cX9_turning 11 = .ok (.bipush (-3), 2) := by decide +kernel
theorem dX9_turning_13 : decode cX9_turning 13 = .ok (.ireturn, 1) := by decide +kernel
theorem dX9_turning_14 : decode cX9_turning 14 = .ok (.aload_n 0, 1) := by decide +kernel
theorem dX9_turning_15 : decode cX9_turning 15 = .ok (.getfield 10, 3) := by decide +kernel
theorem dX9_turning_18 : decode cX9_turning 18 = .ok (.getfield 83, 3) := by decide +kernel
theorem dX9_turning_21 : decode cX9_turning 21 = .ok (.invokevirtual 180, 3) := by decide +kernel
theorem dX9_turning_24 : decode cX9_turning 24 = .ok (.ifCond .eq 6, 3) := by decide +kernel
theorem dX9_turning_27 : decode cX9_turning 27 = .ok (.bipush (-4), 2) := by decide +kernel
theorem dX9_turning_29 : decode cX9_turning 29 = .ok (.ireturn, 1) := by decide +kernel
theorem dX9_turning_30 : decode cX9_turning 30 = .ok (.aload_n 0, 1) := by decide +kernel
theorem dX9_turning_31 : decode cX9_turning 31 = .ok (.getfield 10, 3) := by decide +kernel
theorem dX9_turning_34 : decode cX9_turning 34 = .ok (.invokevirtual 187, 3) := by decide +kernel
theorem dX9_turning_37 : decode cX9_turning 37 = .ok (.aload_n 0, 1) := by decide +kernel
theorem dX9_turning_38 : decode cX9_turning 38 = .ok (.getfield 35, 3) := by decide +kernel
theorem dX9_turning_41 : decode cX9_turning 41 = .ok (.iload_n 1, 1) := by decide +kernel
theorem dX9_turning_42 : decode cX9_turning 42 = .ok (.invokevirtual 224, 3) := by decide +kernel
theorem dX9_turning_45 : decode cX9_turning 45 = .ok (.ireturn, 1) := by decide +kernel
theorem dX9_odds_0 : decode cX9_odds 0 = .ok (.aload_n 0, 1) := by decide +kernel
theorem dX9_odds_1 : decode cX9_odds 1 = .ok (.getfield 10, 3) := by decide +kernel
theorem dX9_odds_4 : decode cX9_odds 4 = .ok (.iload_n 1, 1) := by decide +kernel
theorem dX9_odds_5 : decode cX9_odds 5 = .ok (.invokevirtual 171, 3) := by decide +kernel
theorem dX9_odds_8 : decode cX9_odds 8 = .ok (.ifCond .eq 51, 3) := by decide +kernel
theorem dX9_odds_11 : decode cX9_odds 11 = .ok (.aload_n 0, 1) := by decide +kernel
theorem dX9_odds_12 : decode cX9_odds 12 = .ok (.getfield 10, 3) := by decide +kernel
theorem dX9_odds_15 : decode cX9_odds 15 = .ok (.iload_n 2, 1) := by decide +kernel
theorem dX9_odds_16 : decode cX9_odds 16 = .ok (.invokevirtual 171, 3) := by decide +kernel
theorem dX9_odds_19 : decode cX9_odds 19 = .ok (.ifCond .eq 40, 3) := by decide +kernel
theorem dX9_odds_22 : decode cX9_odds 22 = .ok (.iload_n 2, 1) := by decide +kernel
theorem dX9_odds_23 : decode cX9_odds 23 = .ok (.invokestatic 166, 3) := by decide +kernel
theorem dX9_odds_26 : decode cX9_odds 26 = .ok (.bipush 8, 2) := by decide +kernel
theorem dX9_odds_28 : decode cX9_odds 28 = .ok (.if_icmp .gt 31, 3) := by decide +kernel
theorem dX9_odds_31 : decode cX9_odds 31 = .ok (.iload_n 3, 1) := by decide +kernel
theorem dX9_odds_32 : decode cX9_odds 32 = .ok (.iconst 0, 1) := by decide +kernel
theorem dX9_odds_33 : decode cX9_odds 33 = .ok (.bipush 10, 2) := by decide +kernel
theorem dX9_odds_35 : decode cX9_odds 35 = .ok (.invokestatic 63, 3) := by decide +kernel
theorem dX9_odds_38 : decode cX9_odds 38 = .ok (.ifCond .eq 21, 3) := by decide +kernel
theorem dX9_odds_41 : decode cX9_odds 41 = .ok (.iload 4, 2) := by decide +kernel
theorem dX9_odds_43 : decode cX9_odds 43 = .ok (.invokestatic 184, 3) := by decide +kernel
theorem dX9_odds_46 : decode cX9_odds 46 = .ok (.ifCond .eq 13, 3) := by decide +kernel
theorem dX9_odds_49 : decode cX9_odds 49 = .ok (.iload 5, 2) := by decide +kernel
theorem dX9_odds_51 : decode cX9_odds 51 = .ok (.iconst 0, 1) := by decide +kernel
theorem dX9_odds_52 : decode cX9_odds 52 = .ok (.iconst 1, 1) := by decide +kernel
theorem dX9_odds_53 : decode cX9_odds 53 = .ok (.invokestatic 63, 3) := by decide +kernel
theorem dX9_odds_56 : decode cX9_odds 56 = .ok (.ifCond .ne 7, 3) := by decide +kernel
theorem dX9_odds_59 : decode cX9_odds 59 = .ok (.ldc2_w 227, 3) := by decide +kernel
theorem dX9_odds_62 : decode cX9_odds 62 = .ok (.lreturn, 1) := by decide +kernel
theorem dX9_odds_63 : decode cX9_odds 63 = .ok (.aload_n 0, 1) := by decide +kernel
theorem dX9_odds_64 : decode cX9_odds 64 = .ok (.getfield 10, 3) := by decide +kernel
theorem dX9_odds_67 : decode cX9_odds 67 = .ok (.getfield 83, 3) := by decide +kernel
theorem dX9_odds_70 : decode cX9_odds 70 = .ok (.invokevirtual 180, 3) := by decide +kernel
theorem dX9_odds_73 : decode cX9_odds 73 = .ok (.ifCond .eq 7, 3) := by decide +kernel
theorem dX9_odds_76 : decode cX9_odds 76 = .ok (.ldc2_w 229, 3) := by decide +kernel
theorem dX9_odds_79 : decode cX9_odds 79 = .ok (.lreturn, 1) := by decide +kernel
theorem dX9_odds_80 : decode cX9_odds 80 = .ok (.aload_n 0, 1) := by decide +kernel
theorem dX9_odds_81 : decode cX9_odds 81 = .ok (.getfield 10, 3) := by decide +kernel
theorem dX9_odds_84 : decode cX9_odds 84 = .ok (.invokevirtual 187, 3) := by decide +kernel
theorem dX9_odds_87 : decode cX9_odds 87 = .ok (.aload_n 0, 1) := by decide +kernel
theorem dX9_odds_88 : decode cX9_odds 88 = .ok (.getfield 35, 3) := by decide +kernel
theorem dX9_odds_91 : decode cX9_odds 91 = .ok (.iload_n 1, 1) := by decide +kernel
theorem dX9_odds_92 : decode cX9_odds 92 = .ok (.iload_n 2, 1) := by decide +kernel
theorem dX9_odds_93 : decode cX9_odds 93 = .ok (.iload_n 3, 1) := by decide +kernel
theorem dX9_odds_94 : decode cX9_odds 94 = .ok (.iload 4, 2) := by decide +kernel
theorem dX9_odds_96 : decode cX9_odds 96 = .ok (.invokevirtual 231, 3) := by decide +kernel
theorem dX9_odds_99 : decode cX9_odds 99 = .ok (.lstore 6, 2) := by decide +kernel
theorem dX9_odds_101 : decode cX9_odds 101 = .ok (.bipush 10, 2) := by decide +kernel
theorem dX9_odds_103 : decode cX9_odds 103 = .ok (.iload_n 2, 1) := by decide +kernel
theorem dX9_odds_104 : decode cX9_odds 104 = .ok (.invokestatic 166, 3) := by decide +kernel
theorem dX9_odds_107 : decode cX9_odds 107 = .ok (.invokestatic 235, 3) := by decide +kernel
theorem dX9_odds_110 : decode cX9_odds 110 = .ok (.lstore 8, 2) := by decide +kernel
theorem dX9_odds_112 : decode cX9_odds 112 = .ok (.lconst 1, 1) := by decide +kernel
theorem dX9_odds_113 : decode cX9_odds 113 = .ok (.lload 6, 2) := by decide +kernel
theorem dX9_odds_115 : decode cX9_odds 115 = .ok (.lload 8, 2) := by decide +kernel
theorem dX9_odds_117 : decode cX9_odds 117 = .ok (.invokestatic 239, 3) := by decide +kernel
theorem dX9_odds_120 : decode cX9_odds 120 = .ok (.invokestatic 243, 3) := by decide +kernel
theorem dX9_odds_123 : decode cX9_odds 123 = .ok (.lstore 10, 2) := by decide +kernel
theorem dX9_odds_125 : decode cX9_odds 125 = .ok (.iload 5, 2) := by decide +kernel
theorem dX9_odds_127 : decode cX9_odds 127 = .ok (.ifCond .ne 8, 3) := by decide +kernel
theorem dX9_odds_130 : decode cX9_odds 130 = .ok (.lload 6, 2) := by decide +kernel
theorem dX9_odds_132 : decode cX9_odds 132 = .ok (.goto 5, 3) := by decide +kernel
theorem dX9_odds_135 : decode cX9_odds 135 = .ok (.lload 8, 2) := by decide +kernel
theorem dX9_odds_137 : decode cX9_odds 137 = .ok (.lload 10, 2) := by decide +kernel
theorem dX9_odds_139 : decode cX9_odds 139 = .ok (.ldiv, 1) := by decide +kernel
theorem dX9_odds_140 : decode cX9_odds 140 = .ok (.lreturn, 1) := by decide +kernel
theorem dX9_forged_0 : decode cX9_forged 0 = .ok (.aload_n 0, 1) := by decide +kernel
theorem dX9_forged_1 : decode cX9_forged 1 = .ok (.getfield 42, 3) := by decide +kernel
theorem dX9_forged_4 : decode cX9_forged 4 = .ok (.invokevirtual 248, 3) := by decide +kernel
theorem dX9_forged_7 : decode cX9_forged 7 = .ok (.ireturn, 1) := by decide +kernel
theorem dX9_cleaned_0 : decode cX9_cleaned 0 = .ok (.iload_n 1, 1) := by decide +kernel
theorem dX9_cleaned_1 : decode cX9_cleaned 1 = .ok (.iconst 0, 1) := by decide +kernel
theorem dX9_cleaned_2 : decode cX9_cleaned 2 = .ok (.iconst 1, 1) := by decide +kernel
theorem dX9_cleaned_3 : decode cX9_cleaned 3 = .ok (.invokestatic 63, 3) := by decide +kernel
theorem dX9_cleaned_6 : decode cX9_cleaned 6 = .ok (.ifCond .ne 6, 3) := by decide +kernel
theorem dX9_cleaned_9 : decode cX9_cleaned 9 = .ok (.bipush (-3), 2) := by decide +kernel
theorem dX9_cleaned_11 : decode cX9_cleaned 11 = .ok (.ireturn, 1) := by decide +kernel
theorem dX9_cleaned_12 : decode cX9_cleaned 12 = .ok (.aload_n 0, 1) := by decide +kernel
theorem dX9_cleaned_13 : decode cX9_cleaned 13 = .ok (.getfield 10, 3) := by decide +kernel
theorem dX9_cleaned_16 : decode cX9_cleaned 16 = .ok (.getfield 83, 3) := by decide +kernel
theorem dX9_cleaned_19 : decode cX9_cleaned 19 = .ok (.invokevirtual 87, 3) := by decide +kernel
theorem dX9_cleaned_22 : decode cX9_cleaned 22 = .ok (.bipush 10, 2) := by decide +kernel
theorem dX9_cleaned_24 : decode cX9_cleaned 24 = .ok (.if_icmp .le 6, 3) := by decide +kernel
theorem dX9_cleaned_27 : decode cX9_cleaned 27 = .ok (.bipush (-4), 2) := by decide +kernel
theorem dX9_cleaned_29 : decode cX9_cleaned 29 = .ok (.ireturn, 1) := by decide +kernel
theorem dX9_cleaned_30 : decode cX9_cleaned 30 = .ok (.aload_n 0, 1) := by decide +kernel
theorem dX9_cleaned_31 : decode cX9_cleaned 31 = .ok (.getfield 42, 3) := by decide +kernel
theorem dX9_cleaned_34 : decode cX9_cleaned 34 = .ok (.invokevirtual 251, 3) := by decide +kernel
theorem dX9_cleaned_37 : decode cX9_cleaned 37 = .ok (.iload_n 1, 1) := by decide +kernel
theorem dX9_cleaned_38 : decode cX9_cleaned 38 = .ok (.invokestatic 221, 3) := by decide +kernel
theorem dX9_cleaned_41 : decode cX9_cleaned 41 = .ok (.ireturn, 1) := by decide +kernel
theorem dX9_hang_0 : decode cX9_hang 0 = .ok (.iload_n 1, 1) := by decide +kernel
theorem dX9_hang_1 : decode cX9_hang 1 = .ok (.iconst (-1), 1) := by decide +kernel
theorem dX9_hang_2 : decode cX9_hang 2 = .ok (.if_icmp .eq 17, 3) := by decide +kernel
theorem dX9_hang_5 : decode cX9_hang 5 = .ok (.aload_n 0, 1) := by decide +kernel
theorem dX9_hang_6 : decode cX9_hang 6 = .ok (.getfield 10, 3) := by decide +kernel
theorem dX9_hang_9 : decode cX9_hang 9 = .ok (.iload_n 1, 1) := by decide +kernel
theorem dX9_hang_10 : decode cX9_hang 10 = .ok (.invokevirtual 138, 3) := by decide +kernel
theorem dX9_hang_13 : decode cX9_hang 13 = .ok (.ifCond .ne 6, 3) := by decide +kernel
theorem dX9_hang_16 : decode cX9_hang 16 = .ok (.bipush (-2), 2) := by decide +kernel
theorem dX9_hang_18 : decode cX9_hang 18 = .ok (.ireturn, 1) := by decide +kernel
theorem dX9_hang_19 : decode cX9_hang 19 = .ok (.aload_n 0, 1) := by decide +kernel
theorem dX9_hang_20 : decode cX9_hang 20 = .ok (.getfield 10, 3) := by decide +kernel
theorem dX9_hang_23 : decode cX9_hang 23 = .ok (.invokevirtual 80, 3) := by decide +kernel
theorem dX9_hang_26 : decode cX9_hang 26 = .ok (.bipush 6, 2) := by decide +kernel
theorem dX9_hang_28 : decode cX9_hang 28 = .ok (.if_icmp .le 6, 3) := by decide +kernel
theorem dX9_hang_31 : decode cX9_hang 31 = .ok (.bipush (-4), 2) := by decide +kernel
theorem dX9_hang_33 : decode cX9_hang 33 = .ok (.ireturn, 1) := by decide +kernel
theorem dX9_hang_34 : decode cX9_hang 34 = .ok (.iload_n 1, 1) := by decide +kernel
theorem dX9_hang_35 : decode cX9_hang 35 = .ok (.iconst (-1), 1) := by decide +kernel
theorem dX9_hang_36 : decode cX9_hang 36 = .ok (.if_icmp .ne 13, 3) := by decide +kernel
theorem dX9_hang_39 : decode cX9_hang 39 = .ok (.aload_n 0, 1) := by decide +kernel
theorem dX9_hang_40 : decode cX9_hang 40 = .ok (.getfield 42, 3) := by decide +kernel
theorem dX9_hang_43 : decode cX9_hang 43 = .ok (.invokevirtual 254, 3) := by decide +kernel
theorem dX9_hang_46 : decode cX9_hang 46 = .ok (.goto 10, 3) := by decide +kernel
theorem dX9_hang_49 : decode cX9_hang 49 = .ok (.aload_n 0, 1) := by decide +kernel
theorem dX9_hang_50 : decode cX9_hang 50 = .ok (.getfield 42, 3) := by decide +kernel
theorem dX9_hang_53 : decode cX9_hang 53 = .ok (.invokevirtual 257, 3) := by decide +kernel
theorem dX9_hang_56 : decode cX9_hang 56 = .ok (.ireturn, 1) := by decide +kernel
theorem dX9_border_0 : decode cX9_border 0 = .ok (.aload_n 0, 1) := by decide +kernel
theorem dX9_border_1 : decode cX9_border 1 = .ok (.getfield 10, 3) := by decide +kernel
theorem dX9_border_4 : decode cX9_border 4 = .ok (.getfield 83, 3) := by decide +kernel
theorem dX9_border_7 : decode cX9_border 7 = .ok (.invokevirtual 180, 3) := by decide +kernel
theorem dX9_border_10 : decode cX9_border 10 = .ok (.ifCond .eq 6, 3) := by decide +kernel
theorem dX9_border_13 : decode cX9_border 13 = .ok (.bipush (-4), 2) := by decide +kernel
theorem dX9_border_15 : decode cX9_border 15 = .ok (.ireturn, 1) := by decide +kernel
theorem dX9_border_16 : decode cX9_border 16 = .ok (.aload_n 0, 1) := by decide +kernel
theorem dX9_border_17 : decode cX9_border 17 = .ok (.getfield 10, 3) := by decide +kernel
theorem dX9_border_20 : decode cX9_border 20 = .ok (.invokevirtual 187, 3) := by decide +kernel
theorem dX9_border_23 : decode cX9_border 23 = .ok (.aload_n 0, 1) := by decide +kernel
theorem dX9_border_24 : decode cX9_border 24 = .ok (.getfield 49, 3) := by decide +kernel
theorem dX9_border_27 : decode cX9_border 27 = .ok (.invokevirtual 260, 3) := by decide +kernel
theorem dX9_border_30 : decode cX9_border 30 = .ok (.ireturn, 1) := by decide +kernel
theorem dX9_parts_0 : decode cX9_parts 0 = .ok (.iload_n 1, 1) := by decide +kernel
theorem dX9_parts_1 : decode cX9_parts 1 = .ok (.invokestatic 184, 3) := by decide +kernel
theorem dX9_parts_4 : decode cX9_parts 4 = .ok (.ifCond .eq 12, 3) := by decide +kernel
theorem dX9_parts_7 : decode cX9_parts 7 = .ok (.iload_n 2, 1) := by decide +kernel
theorem dX9_parts_8 : decode cX9_parts 8 = .ok (.iconst 0, 1) := by decide +kernel
theorem dX9_parts_9 : decode cX9_parts 9 = .ok (.iconst 1, 1) := by decide +kernel
theorem dX9_parts_10 : decode cX9_parts 10 = .ok (.invokestatic 63, 3) := by decide +kernel
theorem dX9_parts_13 : decode cX9_parts 13 = .ok (.ifCond .ne 6, 3) := by decide +kernel
theorem dX9_parts_16 : decode cX9_parts 16 = .ok (.bipush (-3), 2) := by decide +kernel
theorem dX9_parts_18 : decode cX9_parts 18 = .ok (.ireturn, 1) := by decide +kernel
theorem dX9_parts_19 : decode cX9_parts 19 = .ok (.aload_n 0, 1) := by decide +kernel
theorem dX9_parts_20 : decode cX9_parts 20 = .ok (.getfield 10, 3) := by decide +kernel
theorem dX9_parts_23 : decode cX9_parts 23 = .ok (.invokevirtual 187, 3) := by decide +kernel
theorem dX9_parts_26 : decode cX9_parts 26 = .ok (.aload_n 0, 1) := by decide +kernel
theorem dX9_parts_27 : decode cX9_parts 27 = .ok (.getfield 49, 3) := by decide +kernel
theorem dX9_parts_30 : decode cX9_parts 30 = .ok (.iload_n 1, 1) := by decide +kernel
theorem dX9_parts_31 : decode cX9_parts 31 = .ok (.invokevirtual 263, 3) := by decide +kernel
theorem dX9_parts_34 : decode cX9_parts 34 = .ok (.iload_n 2, 1) := by decide +kernel
theorem dX9_parts_35 : decode cX9_parts 35 = .ok (.ifCond .ne 13, 3) := by decide +kernel
theorem dX9_parts_38 : decode cX9_parts 38 = .ok (.aload_n 0, 1) := by decide +kernel
theorem dX9_parts_39 : decode cX9_parts 39 = .ok (.getfield 49, 3) := by decide +kernel
theorem dX9_parts_42 : decode cX9_parts 42 = .ok (.invokevirtual 266, 3) := by decide +kernel
theorem dX9_parts_45 : decode cX9_parts 45 = .ok (.goto 10, 3) := by decide +kernel
theorem dX9_parts_48 : decode cX9_parts 48 = .ok (.aload_n 0, 1) := by decide +kernel
theorem dX9_parts_49 : decode cX9_parts 49 = .ok (.getfield 49, 3) := by decide +kernel
theorem dX9_parts_52 : decode cX9_parts 52 = .ok (.invokevirtual 269, 3) := by decide +kernel
theorem dX9_parts_55 : decode cX9_parts 55 = .ok (.ireturn, 1) := by decide +kernel
theorem dX9_frees_0 : decode cX9_frees 0 = .ok (.aload_n 0, 1) := by decide +kernel
theorem dX9_frees_1 : decode cX9_frees 1 = .ok (.getfield 10, 3) := by decide +kernel
theorem dX9_frees_4 : decode cX9_frees 4 = .ok (.getfield 83, 3) := by decide +kernel
theorem dX9_frees_7 : decode cX9_frees 7 = .ok (.iload_n 1, 1) := by decide +kernel
theorem dX9_frees_8 : decode cX9_frees 8 = .ok (.invokevirtual 148, 3) := by decide +kernel
theorem dX9_frees_11 : decode cX9_frees 11 = .ok (.ifCond .ne 6, 3) := by decide +kernel
theorem dX9_frees_14 : decode cX9_frees 14 = .ok (.bipush (-2), 2) := by decide +kernel
theorem dX9_frees_16 : decode cX9_frees 16 = .ok (.ireturn, 1) := by decide +kernel
theorem dX9_frees_17 : decode cX9_frees 17 = .ok (.aload_n 0, 1) := by decide +kernel
theorem dX9_frees_18 : decode cX9_frees 18 = .ok (.getfield 10, 3) := by decide +kernel
theorem dX9_frees_21 : decode cX9_frees 21 = .ok (.getfield 83, 3) := by decide +kernel
theorem dX9_frees_24 : decode cX9_frees 24 = .ok (.iload_n 1, 1) := by decide +kernel
theorem dX9_frees_25 : decode cX9_frees 25 = .ok (.invokevirtual 154, 3) := by decide +kernel
theorem dX9_frees_28 : decode cX9_frees 28 = .ok (.ifCond .ne 5, 3) := by decide +kernel
theorem dX9_frees_31 : decode cX9_frees 31 = .ok (.iconst 0, 1) := by decide +kernel
theorem dX9_frees_32 : decode cX9_frees 32 = .ok (.ireturn, 1) := by decide +kernel
theorem dX9_frees_33 : decode cX9_frees 33 = .ok (.aload_n 0, 1) := by decide +kernel
theorem dX9_frees_34 : decode cX9_frees 34 = .ok (.getfield 10, 3) := by decide +kernel
theorem dX9_frees_37 : decode cX9_frees 37 = .ok (.invokevirtual 187, 3) := by decide +kernel
theorem dX9_frees_40 : decode cX9_frees 40 = .ok (.aload_n 0, 1) := by decide +kernel
theorem dX9_frees_41 : decode cX9_frees 41 = .ok (.getfield 49, 3) := by decide +kernel
theorem dX9_frees_44 : decode cX9_frees 44 = .ok (.iload_n 1, 1) := by decide +kernel
theorem dX9_frees_45 : decode cX9_frees 45 = .ok (.invokevirtual 272, 3) := by decide +kernel
theorem dX9_frees_48 : decode cX9_frees 48 = .ok (.ireturn, 1) := by decide +kernel
theorem dX9_save_0 : decode cX9_save 0 = .ok (.iload_n 1, 1) := by decide +kernel
theorem dX9_save_1 : decode cX9_save 1 = .ok (.invokestatic 275, 3) := by decide +kernel
theorem dX9_save_4 : decode cX9_save 4 = .ok (.ifCond .ne 6, 3) := by decide +kernel
theorem dX9_save_7 : decode cX9_save 7 = .ok (.bipush (-2), 2) := by decide +kernel
theorem dX9_save_9 : decode cX9_save 9 = .ok (.ireturn, 1) := by decide +kernel
theorem dX9_save_10 : decode cX9_save 10 = .ok (.aload_n 0, 1) := by decide +kernel
theorem dX9_save_11 : decode cX9_save 11 = .ok (.iload_n 1, 1) := by decide +kernel
theorem dX9_save_12 : decode cX9_save 12 = .ok (.invokevirtual 278, 3) := by decide +kernel
theorem dX9_save_15 : decode cX9_save 15 = .ok (.astore_n 2, 1) := by decide +kernel
theorem dX9_save_16 : decode cX9_save 16 = .ok (.aload_n 2, 1) := by decide +kernel
theorem dX9_save_17 : decode cX9_save 17 = .ok (.getfield 282, 3) := by decide +kernel
theorem dX9_save_20 : decode cX9_save 20 = .ok (.aload_n 0, 1) := by decide +kernel
theorem dX9_save_21 : decode cX9_save 21 = .ok (.getfield 10, 3) := by decide +kernel
theorem dX9_save_24 : decode cX9_save 24 = .ok (.getfield 83, 3) := by decide +kernel
theorem dX9_save_27 : decode cX9_save 27 = .ok (.invokevirtual 283, 3) := by decide +kernel
theorem dX9_save_30 : decode cX9_save 30 = .ok (.aload_n 2, 1) := by decide +kernel
theorem dX9_save_31 : decode cX9_save 31 = .ok (.iconst 1, 1) := by decide +kernel
theorem dX9_save_32 : decode cX9_save 32 = .ok (.putfield 100, 3) := by decide +kernel
theorem dX9_save_35 : decode cX9_save 35 = .ok (.aload_n 0, 1) := by decide +kernel
theorem dX9_save_36 : decode cX9_save 36 = .ok (.getfield 10, 3) := by decide +kernel
theorem dX9_save_39 : decode cX9_save 39 = .ok (.getfield 83, 3) := by decide +kernel
theorem dX9_save_42 : decode cX9_save 42 = .ok (.invokevirtual 87, 3) := by decide +kernel
theorem dX9_save_45 : decode cX9_save 45 = .ok (.ireturn, 1) := by decide +kernel
theorem dX9_back_0 : decode cX9_back 0 = .ok (.iload_n 1, 1) := by decide +kernel
theorem dX9_back_1 : decode cX9_back 1 = .ok (.invokestatic 275, 3) := by decide +kernel
theorem dX9_back_4 : decode cX9_back 4 = .ok (.ifCond .ne 6, 3) := by decide +kernel
theorem dX9_back_7 : decode cX9_back 7 = .ok (.bipush (-2), 2) := by decide +kernel
theorem dX9_back_9 : decode cX9_back 9 = .ok (.ireturn, 1) := by decide +kernel
theorem dX9_back_10 : decode cX9_back 10 = .ok (.aload_n 0, 1) := by decide +kernel
theorem dX9_back_11 : decode cX9_back 11 = .ok (.iload_n 1, 1) := by decide +kernel
theorem dX9_back_12 : decode cX9_back 12 = .ok (.invokevirtual 278, 3) := by decide +kernel
theorem dX9_back_15 : decode cX9_back 15 = .ok (.astore_n 2, 1) := by decide +kernel
theorem dX9_back_16 : decode cX9_back 16 = .ok (.aload_n 2, 1) := by decide +kernel
theorem dX9_back_17 : decode cX9_back 17 = .ok (.getfield 100, 3) := by decide +kernel
theorem dX9_back_20 : decode cX9_back 20 = .ok (.ifCond .ne 6, 3) := by decide +kernel
theorem dX9_back_23 : decode cX9_back 23 = .ok (.bipush (-4), 2) := by decide +kernel
theorem dX9_back_25 : decode cX9_back 25 = .ok (.ireturn, 1) := by decide +kernel
theorem dX9_back_26 : decode cX9_back 26 = .ok (.aload_n 0, 1) := by decide +kernel
theorem dX9_back_27 : decode cX9_back 27 = .ok (.getfield 10, 3) := by decide +kernel
theorem dX9_back_30 : decode cX9_back 30 = .ok (.aload_n 2, 1) := by decide +kernel
theorem dX9_back_31 : decode cX9_back 31 = .ok (.getfield 282, 3) := by decide +kernel
theorem dX9_back_34 : decode cX9_back 34 = .ok (.invokevirtual 287, 3) := by decide +kernel
theorem dX9_back_37 : decode cX9_back 37 = .ok (.aload_n 0, 1) := by decide +kernel
theorem dX9_back_38 : decode cX9_back 38 = .ok (.getfield 10, 3) := by decide +kernel
theorem dX9_back_41 : decode cX9_back 41 = .ok (.getfield 83, 3) := by decide +kernel
theorem dX9_back_44 : decode cX9_back 44 = .ok (.invokevirtual 87, 3) := by decide +kernel
theorem dX9_back_47 : decode cX9_back 47 = .ok (.ireturn, 1) := by decide +kernel
theorem dX9_isImage_0 : decode cX9_isImage 0 = .ok (.iload_n 0, 1) := by decide +kernel
theorem dX9_isImage_1 : decode cX9_isImage 1 = .ok (.iconst 0, 1) := by decide +kernel
theorem dX9_isImage_2 : decode cX9_isImage 2 = .ok (.iconst 1, 1) := by decide +kernel
theorem dX9_isImage_3 : decode cX9_isImage 3 = .ok (.invokestatic 63, 3) := by decide +kernel
theorem dX9_isImage_6 : decode cX9_isImage 6 = .ok (.ireturn, 1) := by decide +kernel
theorem dX9_imageOf_0 : decode cX9_imageOf 0 = .ok (.iload_n 1, 1) := by decide +kernel
theorem dX9_imageOf_1 : decode cX9_imageOf 1 = .ok (.ifCond .ne 10, 3) := by decide +kernel
theorem dX9_imageOf_4 : decode cX9_imageOf 4 = .ok (.aload_n 0, 1) := by decide +kernel
theorem dX9_imageOf_5 : decode cX9_imageOf 5 = .ok (.getfield 56, 3) := by decide +kernel
theorem dX9_imageOf_8 : decode cX9_imageOf 8 = .ok (.goto 7, 3) := by decide +kernel
theorem dX9_imageOf_11 : decode cX9_imageOf 11 = .ok (.aload_n 0, 1) := by decide +kernel
theorem dX9_imageOf_12 : decode cX9_imageOf 12 = .ok (.getfield 60, 3) := by decide +kernel
theorem dX9_imageOf_15 : decode cX9_imageOf 15 = .ok (.areturn, 1) := by decide +kernel
theorem dX9_count_0 : decode cX9_count 0 = .ok (.iload_n 1, 1) := by decide +kernel
theorem dX9_count_1 : decode cX9_count 1 = .ok (.tableswitch 78 0 3 #[31, 39, 50, 58], 31) := by decide +kernel
theorem dX9_count_32 : decode cX9_count 32 = .ok (.aload_n 0, 1) := by decide +kernel
theorem dX9_count_33 : decode cX9_count 33 = .ok (.getfield 10, 3) := by decide +kernel
theorem dX9_count_36 : decode cX9_count 36 = .ok (.invokevirtual 80, 3) := by decide +kernel
theorem dX9_count_39 : decode cX9_count 39 = .ok (.ireturn, 1) := by decide +kernel
theorem dX9_count_40 : decode cX9_count 40 = .ok (.aload_n 0, 1) := by decide +kernel
theorem dX9_count_41 : decode cX9_count 41 = .ok (.getfield 10, 3) := by decide +kernel
theorem dX9_count_44 : decode cX9_count 44 = .ok (.getfield 83, 3) := by decide +kernel
theorem dX9_count_47 : decode cX9_count 47 = .ok (.invokevirtual 87, 3) := by decide +kernel
theorem dX9_count_50 : decode cX9_count 50 = .ok (.ireturn, 1) := by decide +kernel
theorem dX9_count_51 : decode cX9_count 51 = .ok (.aload_n 0, 1) := by decide +kernel
theorem dX9_count_52 : decode cX9_count 52 = .ok (.getfield 19, 3) := by decide +kernel
theorem dX9_count_55 : decode cX9_count 55 = .ok (.invokevirtual 67, 3) := by decide +kernel
theorem dX9_count_58 : decode cX9_count 58 = .ok (.ireturn, 1) := by decide +kernel
theorem dX9_count_59 : decode cX9_count 59 = .ok (.aload_n 0, 1) := by decide +kernel
theorem dX9_count_60 : decode cX9_count 60 = .ok (.getfield 10, 3) := by decide +kernel
theorem dX9_count_63 : decode cX9_count 63 = .ok (.getfield 142, 3) := by decide +kernel
theorem dX9_count_66 : decode cX9_count 66 = .ok (.aload_n 0, 1) := by decide +kernel
theorem dX9_count_67 : decode cX9_count 67 = .ok (.getfield 10, 3) := by decide +kernel
theorem dX9_count_70 : decode cX9_count 70 = .ok (.invokevirtual 190, 3) := by decide +kernel
theorem dX9_count_73 : decode cX9_count 73 = .ok (.iconst 1, 1) := by decide +kernel
theorem dX9_count_74 : decode cX9_count 74 = .ok (.isub, 1) := by decide +kernel
theorem dX9_count_75 : decode cX9_count 75 = .ok (.invokevirtual 200, 3) := by decide +kernel
theorem dX9_count_78 : decode cX9_count 78 = .ok (.ireturn, 1) := by decide +kernel
theorem dX9_count_79 : decode cX9_count 79 = .ok (.bipush (-3), 2) := by decide +kernel
theorem dX9_count_81 : decode cX9_count 81 = .ok (.ireturn, 1) := by decide +kernel
theorem dX9_within_0 : decode cX9_within 0 = .ok (.iload_n 0, 1) := by decide +kernel
theorem dX9_within_1 : decode cX9_within 1 = .ok (.iload_n 1, 1) := by decide +kernel
theorem dX9_within_2 : decode cX9_within 2 = .ok (.if_icmp .lt 12, 3) := by decide +kernel
theorem dX9_within_5 : decode cX9_within 5 = .ok (.iload_n 0, 1) := by decide +kernel
theorem dX9_within_6 : decode cX9_within 6 = .ok (.iload_n 2, 1) := by decide +kernel
theorem dX9_within_7 : decode cX9_within 7 = .ok (.if_icmp .gt 7, 3) := by decide +kernel
theorem dX9_within_10 : decode cX9_within 10 = .ok (.iconst 1, 1) := by decide +kernel
theorem dX9_within_11 : decode cX9_within 11 = .ok (.goto 4, 3) := by decide +kernel
theorem dX9_within_14 : decode cX9_within 14 = .ok (.iconst 0, 1) := by decide +kernel
theorem dX9_within_15 : decode cX9_within 15 = .ok (.ireturn, 1) := by decide +kernel
theorem dX9_isJudgment_0 : decode cX9_isJudgment 0 = .ok (.iload_n 0, 1) := by decide +kernel
theorem dX9_isJudgment_1 : decode cX9_isJudgment 1 = .ok (.iconst 0, 1) := by decide +kernel
theorem dX9_isJudgment_2 : decode cX9_isJudgment 2 = .ok (.iconst 3, 1) := by decide +kernel
theorem dX9_isJudgment_3 : decode cX9_isJudgment 3 = .ok (.invokestatic 63, 3) := by decide +kernel
theorem dX9_isJudgment_6 : decode cX9_isJudgment 6 = .ok (.ireturn, 1) := by decide +kernel
theorem dX9_holds_0 : decode cX9_holds 0 = .ok (.iload_n 0, 1) := by decide +kernel
theorem dX9_holds_1 : decode cX9_holds 1 = .ok (.iload_n 1, 1) := by decide +kernel
theorem dX9_holds_2 : decode cX9_holds 2 = .ok (.ishr, 1) := by decide +kernel
theorem dX9_holds_3 : decode cX9_holds 3 = .ok (.iconst 1, 1) := by decide +kernel
theorem dX9_holds_4 : decode cX9_holds 4 = .ok (.iand, 1) := by decide +kernel
theorem dX9_holds_5 : decode cX9_holds 5 = .ok (.ifCond .eq 7, 3) := by decide +kernel
theorem dX9_holds_8 : decode cX9_holds 8 = .ok (.iconst 1, 1) := by decide +kernel
theorem dX9_holds_9 : decode cX9_holds 9 = .ok (.goto 4, 3) := by decide +kernel
theorem dX9_holds_12 : decode cX9_holds 12 = .ok (.iconst 0, 1) := by decide +kernel
theorem dX9_holds_13 : decode cX9_holds 13 = .ok (.ireturn, 1) := by decide +kernel
theorem dX9_countOrSet_0 : decode cX9_countOrSet 0 = .ok (.iload_n 1, 1) := by decide +kernel
theorem dX9_countOrSet_1 : decode cX9_countOrSet 1 = .ok (.ifCond .ne 10, 3) := by decide +kernel
theorem dX9_countOrSet_4 : decode cX9_countOrSet 4 = .ok (.iload_n 0, 1) := by decide +kernel
theorem dX9_countOrSet_5 : decode cX9_countOrSet 5 = .ok (.invokestatic 166, 3) := by decide +kernel
theorem dX9_countOrSet_8 : decode cX9_countOrSet 8 = .ok (.goto 4, 3) := by decide +kernel
theorem dX9_countOrSet_11 : decode cX9_countOrSet 11 = .ok (.iload_n 0, 1) := by decide +kernel
theorem dX9_countOrSet_12 : decode cX9_countOrSet 12 = .ok (.ireturn, 1) := by decide +kernel
theorem dX9_power_0 : decode cX9_power 0 = .ok (.lconst 1, 1) := by decide +kernel
theorem dX9_power_1 : decode cX9_power 1 = .ok (.lstore_n 2, 1) := by decide +kernel
theorem dX9_power_2 : decode cX9_power 2 = .ok (.iconst 0, 1) := by decide +kernel
theorem dX9_power_3 : decode cX9_power 3 = .ok (.istore 4, 2) := by decide +kernel
theorem dX9_power_5 : decode cX9_power 5 = .ok (.iload 4, 2) := by decide +kernel
theorem dX9_power_7 : decode cX9_power 7 = .ok (.iload_n 1, 1) := by decide +kernel
theorem dX9_power_8 : decode cX9_power 8 = .ok (.if_icmp .ge 14, 3) := by decide +kernel
theorem dX9_power_11 : decode cX9_power 11 = .ok (.lload_n 2, 1) := by decide +kernel
theorem dX9_power_12 : decode cX9_power 12 = .ok (.iload_n 0, 1) := by decide +kernel
theorem dX9_power_13 : decode cX9_power 13 = .ok (.i2l, 1) := by decide +kernel
theorem dX9_power_14 : decode cX9_power 14 = .ok (.lmul, 1) := by decide +kernel
theorem dX9_power_15 : decode cX9_power 15 = .ok (.lstore_n 2, 1) := by decide +kernel
theorem dX9_power_16 : decode cX9_power 16 = .ok (.iinc 4 1, 3) := by decide +kernel
theorem dX9_power_19 : decode cX9_power 19 = .ok (.goto (-14), 3) := by decide +kernel
theorem dX9_power_22 : decode cX9_power 22 = .ok (.lload_n 2, 1) := by decide +kernel
theorem dX9_power_23 : decode cX9_power 23 = .ok (.lreturn, 1) := by decide +kernel
theorem dX9_commonDivisor_0 : decode cX9_commonDivisor 0 = .ok (.lload_n 0, 1) := by decide +kernel
theorem dX9_commonDivisor_1 : decode cX9_commonDivisor 1 = .ok (.lstore 4, 2) := by decide +kernel
theorem dX9_commonDivisor_3 : decode cX9_commonDivisor 3 = .ok (.lload_n 2, 1) := by decide +kernel
theorem dX9_commonDivisor_4 : decode cX9_commonDivisor 4 = .ok (.lstore 6, 2) := by decide +kernel
theorem dX9_commonDivisor_6 : decode cX9_commonDivisor 6 = .ok (.iconst 0, 1) := by decide +kernel
theorem dX9_commonDivisor_7 : decode cX9_commonDivisor 7 = .ok (.istore 8, 2) := by decide +kernel
theorem dX9_commonDivisor_9 : decode cX9_commonDivisor 9 = .ok (.iload 8, 2) := by decide +kernel
theorem dX9_commonDivisor_11 : decode cX9_commonDivisor 11 = .ok (.bipush 100, 2) := by decide +kernel
theorem dX9_commonDivisor_13 : decode cX9_commonDivisor 13 = .ok (.if_icmp .ge 31, 3) := by decide +kernel
theorem dX9_commonDivisor_16 : decode cX9_commonDivisor 16 = .ok (.lload 6, 2) := by decide +kernel
theorem dX9_commonDivisor_18 : decode cX9_commonDivisor 18 = .ok (.lconst 0, 1) := by decide +kernel
theorem dX9_commonDivisor_19 : decode cX9_commonDivisor 19 = .ok (.lcmp, 1) := by decide +kernel
theorem dX9_commonDivisor_20 : decode cX9_commonDivisor 20 = .ok (.ifCond .eq 24, 3) := by decide +kernel
theorem dX9_commonDivisor_23 : decode cX9_commonDivisor 23 = .ok (.lload 4, 2) := by decide +kernel
theorem dX9_commonDivisor_25 : decode cX9_commonDivisor 25 = .ok (.lload 6, 2) := by decide +kernel
theorem dX9_commonDivisor_27 : decode cX9_commonDivisor 27 = .ok (.lrem, 1) := by decide +kernel
theorem dX9_commonDivisor_28 : decode cX9_commonDivisor 28 = .ok (.lstore 9, 2) := by decide +kernel
theorem dX9_commonDivisor_30 : decode cX9_commonDivisor 30 = .ok (.lload 6, 2) := by decide +kernel
theorem dX9_commonDivisor_32 : decode cX9_commonDivisor 32 = .ok (.lstore 4, 2) := by decide +kernel
theorem dX9_commonDivisor_34 : decode cX9_commonDivisor 34 = .ok (.lload 9, 2) := by decide +kernel
theorem dX9_commonDivisor_36 : decode cX9_commonDivisor 36 = .ok (.lstore 6, 2) := by decide +kernel
theorem dX9_commonDivisor_38 : decode cX9_commonDivisor 38 = .ok (.iinc 8 1, 3) := by decide +kernel
theorem dX9_commonDivisor_41 : decode cX9_commonDivisor 41 = .ok (.goto (-32), 3) := by decide +kernel
theorem dX9_commonDivisor_44 : decode cX9_commonDivisor 44 = .ok (.lload 4, 2) := by decide +kernel
theorem dX9_commonDivisor_46 : decode cX9_commonDivisor 46 = .ok (.lreturn, 1) := by decide +kernel
