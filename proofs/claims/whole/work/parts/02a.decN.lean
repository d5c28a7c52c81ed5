theorem dX0_init_0 : decode cX0_init 0 = .ok (.aload_n 0, 1) := by decide +kernel
theorem dX0_init_1 : decode cX0_init 1 = .ok (.invokespecial 3, 3) := by decide +kernel
theorem dX0_init_4 : decode cX0_init 4 = .ok (.aload_n 0, 1) := by decide +kernel
theorem dX0_init_5 : decode cX0_init 5 = .ok (.new 9, 3) := by decide +kernel
theorem dX0_init_8 : decode cX0_init 8 = .ok (.dup, 1) := by decide +kernel
theorem dX0_init_9 : decode cX0_init 9 = .ok (.invokespecial 11, 3) := by decide +kernel
theorem dX0_init_12 : decode cX0_init 12 = .ok (.putfield 12, 3) := by decide +kernel
theorem dX0_init_15 : decode cX0_init 15 = .ok (.aload_n 0, 1) := by decide +kernel
theorem dX0_init_16 : decode cX0_init 16 = .ok (.new 9, 3) := by decide +kernel
theorem dX0_init_19 : decode cX0_init 19 = .ok (.dup, 1) := by decide +kernel
theorem dX0_init_20 : decode cX0_init 20 = .ok (.invokespecial 11, 3) := by decide +kernel
theorem dX0_init_23 : decode cX0_init 23 = .ok (.putfield 18, 3) := by decide +kernel
theorem dX0_init_26 : decode cX0_init 26 = .ok (.aload_n 0, 1) := by decide +kernel
theorem dX0_init_27 : decode cX0_init 27 = .ok (.new 21, 3) := by decide +kernel
theorem dX0_init_30 : decode cX0_init 30 = .ok (.dup, 1) := by decide +kernel
theorem dX0_init_31 : decode cX0_init 31 = .ok (.invokespecial 23, 3) := by decide +kernel
theorem dX0_init_34 : decode cX0_init 34 = .ok (.putfield 24, 3) := by decide +kernel
theorem dX0_init_37 : decode cX0_init 37 = .ok (.aload_n 0, 1) := by decide +kernel
theorem dX0_init_38 : decode cX0_init 38 = .ok (.sipush 1024, 3) := by decide +kernel
theorem dX0_init_41 : decode cX0_init 41 = .ok (.newarray .int, 2) := by decide +kernel
theorem dX0_init_43 : decode cX0_init 43 = .ok (.putfield 28, 3) := by decide +kernel
theorem dX0_init_46 : decode cX0_init 46 = .ok (.aload_n 0, 1) := by decide +kernel
theorem dX0_init_47 : decode cX0_init 47 = .ok (.sipush 1024, 3) := by decide +kernel
theorem dX0_init_50 : decode cX0_init 50 = .ok (.newarray .int, 2) := by decide +kernel
theorem dX0_init_52 : decode cX0_init 52 = .ok (.putfield 32, 3) := by decide +kernel
theorem dX0_init_55 : decode cX0_init 55 = .ok (.aload_n 0, 1) := by decide +kernel
theorem dX0_init_56 : decode cX0_init 56 = .ok (.iconst 4, 1) := by decide +kernel
theorem dX0_init_57 : decode cX0_init 57 = .ok (.invokevirtual 35, 3) := by decide +kernel
theorem dX0_init_60 : decode cX0_init 60 = .ok (.return_, 1) := by decide +kernel
theorem dX0_found_0 : decode cX0_found 0 = .ok (.aload_n 0, 1) := by decide +kernel
theorem dX0_found_1 : decode cX0_found 1 = .ok (.iconst 1, 1) := by decide +kernel
theorem dX0_found_2 : decode cX0_found 2 = .ok (.iload_n 1, 1) := by decide +kernel
theorem dX0_found_3 : decode cX0_found 3 = .ok (.bipush 10, 2) := by decide +kernel
theorem dX0_found_5 : decode cX0_found 5 = .ok (.invokestatic 39, 3) := by decide +kernel
theorem dX0_found_8 : decode cX0_found 8 = .ok (.invokestatic 45, 3) := by decide +kernel
theorem dX0_found_11 : decode cX0_found 11 = .ok (.putfield 48, 3) := by decide +kernel
theorem dX0_found_14 : decode cX0_found 14 = .ok (.aload_n 0, 1) := by decide +kernel
theorem dX0_found_15 : decode cX0_found 15 = .ok (.getfield 12, 3) := by decide +kernel
theorem dX0_found_18 : decode cX0_found 18 = .ok (.aload_n 0, 1) := by decide +kernel
theorem dX0_found_19 : decode cX0_found 19 = .ok (.getfield 48, 3) := by decide +kernel
theorem dX0_found_22 : decode cX0_found 22 = .ok (.iconst 1, 1) := by decide +kernel
theorem dX0_found_23 : decode cX0_found 23 = .ok (.invokevirtual 52, 3) := by decide +kernel
theorem dX0_found_26 : decode cX0_found 26 = .ok (.aload_n 0, 1) := by decide +kernel
theorem dX0_found_27 : decode cX0_found 27 = .ok (.getfield 18, 3) := by decide +kernel
theorem dX0_found_30 : decode cX0_found 30 = .ok (.aload_n 0, 1) := by decide +kernel
theorem dX0_found_31 : decode cX0_found 31 = .ok (.getfield 48, 3) := by decide +kernel
theorem dX0_found_34 : decode cX0_found 34 = .ok (.iconst 1, 1) := by decide +kernel
theorem dX0_found_35 : decode cX0_found 35 = .ok (.invokevirtual 52, 3) := by decide +kernel
theorem dX0_found_38 : decode cX0_found 38 = .ok (.aload_n 0, 1) := by decide +kernel
theorem dX0_found_39 : decode cX0_found 39 = .ok (.getfield 24, 3) := by decide +kernel
theorem dX0_found_42 : decode cX0_found 42 = .ok (.invokevirtual 56, 3) := by decide +kernel
theorem dX0_found_45 : decode cX0_found 45 = .ok (.aload_n 0, 1) := by decide +kernel
theorem dX0_found_46 : decode cX0_found 46 = .ok (.iconst 0, 1) := by decide +kernel
theorem dX0_found_47 : decode cX0_found 47 = .ok (.putfield 59, 3) := by decide +kernel
theorem dX0_found_50 : decode cX0_found 50 = .ok (.return_, 1) := by decide +kernel
theorem dX0_setWeight_0 : decode cX0_setWeight 0 = .ok (.aload_n 0, 1) := by decide +kernel
theorem dX0_setWeight_1 : decode cX0_setWeight 1 = .ok (.getfield 12, 3) := by decide +kernel
theorem dX0_setWeight_4 : decode cX0_setWeight 4 = .ok (.iload_n 1, 1) := by decide +kernel
theorem dX0_setWeight_5 : decode cX0_setWeight 5 = .ok (.iload_n 2, 1) := by decide +kernel
theorem dX0_setWeight_6 : decode cX0_setWeight 6 = .ok (.invokevirtual 63, 3) := by decide +kernel
theorem dX0_setWeight_9 : decode cX0_setWeight 9 = .ok (.aload_n 0, 1) := by decide +kernel
theorem dX0_setWeight_10 : decode cX0_setWeight 10 = .ok (.iconst 0, 1) := by decide +kernel
theorem dX0_setWeight_11 : decode cX0_setWeight 11 = .ok (.putfield 59, 3) := by decide +kernel
theorem dX0_setWeight_14 : decode cX0_setWeight 14 = .ok (.return_, 1) := by decide +kernel
theorem dX0_addCase_0 : decode cX0_addCase 0 = .ok (.aload_n 0, 1) := by decide +kernel
theorem dX0_addCase_1 : decode cX0_addCase 1 = .ok (.getfield 24, 3) := by decide +kernel
theorem dX0_addCase_4 : decode cX0_addCase 4 = .ok (.iload_n 1, 1) := by decide +kernel
theorem dX0_addCase_5 : decode cX0_addCase 5 = .ok (.iload_n 2, 1) := by decide +kernel
theorem dX0_addCase_6 : decode cX0_addCase 6 = .ok (.iload_n 3, 1) := by decide +kernel
theorem dX0_addCase_7 : decode cX0_addCase 7 = .ok (.invokevirtual 66, 3) := by decide +kernel
theorem dX0_addCase_10 : decode cX0_addCase 10 = .ok (.aload_n 0, 1) := by decide +kernel
theorem dX0_addCase_11 : decode cX0_addCase 11 = .ok (.iconst 0, 1) := by decide +kernel
theorem dX0_addCase_12 : decode cX0_addCase 12 = .ok (.putfield 59, 3) := by decide +kernel
theorem dX0_addCase_15 : decode cX0_addCase 15 = .ok (.return_, 1) := by decide +kernel
theorem dX0_dropCase_0 : decode cX0_dropCase 0 = .ok (.aload_n 0, 1) := by decide +kernel
theorem dX0_dropCase_1 : decode cX0_dropCase 1 = .ok (.getfield 24, 3) := by decide +kernel
theorem dX0_dropCase_4 : decode cX0_dropCase 4 = .ok (.iload_n 1, 1) := by decide +kernel
theorem dX0_dropCase_5 : decode cX0_dropCase 5 = .ok (.invokevirtual 70, 3) := by decide +kernel
theorem dX0_dropCase_8 : decode cX0_dropCase 8 = .ok (.aload_n 0, 1) := by decide +kernel
theorem dX0_dropCase_9 : decode cX0_dropCase 9 = .ok (.iconst 0, 1) := by decide +kernel
theorem dX0_dropCase_10 : decode cX0_dropCase 10 = .ok (.putfield 59, 3) := by decide +kernel
theorem dX0_dropCase_13 : decode cX0_dropCase 13 = .ok (.return_, 1) := by decide +kernel
theorem dX0_setPardoned_0 : decode cX0_setPardoned 0 = .ok (.aload_n 0, 1) := by decide +kernel
theorem dX0_setPardoned_1 : decode cX0_setPardoned 1 = .ok (.getfield 24, 3) := by decide +kernel
theorem dX0_setPardoned_4 : decode cX0_setPardoned 4 = .ok (.iload_n 1, 1) := by decide +kernel
theorem dX0_setPardoned_5 : decode cX0_setPardoned 5 = .ok (.iload_n 2, 1) := by decide +kernel
theorem dX0_setPardoned_6 : decode cX0_setPardoned 6 = .ok (.invokevirtual 73, 3) := by decide +kernel
theorem dX0_setPardoned_9 : decode cX0_setPardoned 9 = .ok (.aload_n 0, 1) := by decide +kernel
theorem dX0_setPardoned_10 : decode cX0_setPardoned 10 = .ok (.iconst 0, 1) := by decide +kernel
theorem dX0_setPardoned_11 : decode cX0_setPardoned 11 = .ok (.putfield 59, 3) := by decide +kernel
theorem dX0_setPardoned_14 : decode cX0_setPardoned 14 = .ok (.return_, 1) := by decide +kernel
theorem dX0_takeCases_0 : decode cX0_takeCases 0 = .ok (.aload_n 0, 1) := by decide +kernel
theorem dX0_takeCases_1 : decode cX0_takeCases 1 = .ok (.getfield 24, 3) := by decide +kernel
theorem dX0_takeCases_4 : decode cX0_takeCases 4 = .ok (.aload_n 1, 1) := by decide +kernel
theorem dX0_takeCases_5 : decode cX0_takeCases 5 = .ok (.invokevirtual 77, 3) := by decide +kernel
theorem dX0_takeCases_8 : decode cX0_takeCases 8 = .ok (.aload_n 0, 1) := by decide +kernel
theorem dX0_takeCases_9 : decode cX0_takeCases 9 = .ok (.iconst 0, 1) := by decide +kernel
theorem dX0_takeCases_10 : decode cX0_takeCases 10 = .ok (.putfield 59, 3) := by decide +kernel
theorem dX0_takeCases_13 : decode cX0_takeCases 13 = .ok (.return_, 1) := by decide +kernel
theorem dX0_points_0 : decode cX0_points 0 = .ok (.aload_n 0, 1) := by decide +kernel
theorem dX0_points_1 : decode cX0_points 1 = .ok (.getfield 48, 3) := by decide +kernel
theorem dX0_points_4 : decode cX0_points 4 = .ok (.ireturn, 1) := by decide +kernel
theorem dX0_deedCount_0 : decode cX0_deedCount 0 = .ok (.iconst 1, 1) := by decide +kernel
theorem dX0_deedCount_1 : decode cX0_deedCount 1 = .ok (.aload_n 0, 1) := by decide +kernel
theorem dX0_deedCount_2 : decode cX0_deedCount 2 = .ok (.getfield 48, 3) := by decide +kernel
theorem dX0_deedCount_5 : decode cX0_deedCount 5 = .ok (.ishl, 1) := by decide +kernel
theorem dX0_deedCount_6 : decode cX0_deedCount 6 = .ok (.ireturn, 1) := by decide +kernel
theorem dX0_isPoint_0 : decode cX0_isPoint 0 = .ok (.iload_n 1, 1) := by decide +kernel
theorem dX0_isPoint_1 : decode cX0_isPoint 1 = .ok (.ifCond .lt 15, 3) := by decide +kernel
theorem dX0_isPoint_4 : decode cX0_isPoint 4 = .ok (.iload_n 1, 1) := by decide +kernel
theorem dX0_isPoint_5 : decode cX0_isPoint 5 = .ok (.aload_n 0, 1) := by decide +kernel
theorem dX0_isPoint_6 : decode cX0_isPoint 6 = .ok (.getfield 48, 3) := by decide +kernel
theorem dX0_isPoint_9 : decode cX0_isPoint 9 = .ok (.if_icmp .ge 7, 3) := by decide +kernel
theorem dX0_isPoint_12 : decode cX0_isPoint 12 = .ok (.iconst 1, 1) := by decide +kernel
theorem dX0_isPoint_13 : decode cX0_isPoint 13 = .ok (.goto 4, 3) := by decide +kernel
theorem dX0_isPoint_16 : decode cX0_isPoint 16 = .ok (.iconst 0, 1) := by decide +kernel
theorem dX0_isPoint_17 : decode cX0_isPoint 17 = .ok (.ireturn, 1) := by decide +kernel
theorem dX0_isDeed_0 : decode cX0_isDeed 0 = .ok (.iload_n 1, 1) := by decide +kernel
theorem dX0_isDeed_1 : decode cX0_isDeed 1 = .ok (.ifCond .lt 15, 3) := by decide +kernel
theorem dX0_isDeed_4 : decode cX0_isDeed 4 = .ok (.iload_n 1, 1) := by decide +kernel
theorem dX0_isDeed_5 : decode cX0_isDeed 5 = .ok (.aload_n 0, 1) := by decide +kernel
theorem dX0_isDeed_6 : decode cX0_isDeed 6 = .ok (.invokevirtual 81, 3) := by decide +kernel
theorem dX0_isDeed_9 : decode cX0_isDeed 9 = .ok (.if_icmp .ge 7, 3) := by decide +kernel
theorem dX0_isDeed_12 : decode cX0_isDeed 12 = .ok (.iconst 1, 1) := by decide +kernel
theorem dX0_isDeed_13 : decode cX0_isDeed 13 = .ok (.goto 4, 3) := by decide +kernel
theorem dX0_isDeed_16 : decode cX0_isDeed 16 = .ok (.iconst 0, 1) := by decide +kernel
theorem dX0_isDeed_17 : decode cX0_isDeed 17 = .ok (.ireturn, 1) := by decide +kernel
theorem dX0_takesSuits_0 : decode cX0_takesSuits 0 = .ok (.aload_n 0, 1) := by decide +kernel
theorem dX0_takesSuits_1 : decode cX0_takesSuits 1 = .ok (.getfield 48, 3) := by decide +kernel
theorem dX0_takesSuits_4 : decode cX0_takesSuits 4 = .ok (.bipush 6, 2) := by decide +kernel
theorem dX0_takesSuits_6 : decode cX0_takesSuits 6 = .ok (.if_icmp .gt 17, 3) := by decide +kernel
theorem dX0_takesSuits_9 : decode cX0_takesSuits 9 = .ok (.aload_n 0, 1) := by decide +kernel
theorem dX0_takesSuits_10 : decode cX0_takesSuits 10 = .ok (.getfield 24, 3) := by decide +kernel
theorem dX0_takesSuits_13 : decode cX0_takesSuits 13 = .ok (.invokevirtual 85, 3) := by decide +kernel
theorem dX0_takesSuits_16 : decode cX0_takesSuits 16 = .ok (.ifCond .ne 7, 3) := by decide +kernel
theorem dX0_takesSuits_19 : decode cX0_takesSuits 19 = .ok (.iconst 1, 1) := by decide +kernel
theorem dX0_takesSuits_20 : decode cX0_takesSuits 20 = .ok (.goto 4, 3) := by decide +kernel
theorem dX0_takesSuits_23 : decode cX0_takesSuits 23 = .ok (.iconst 0, 1) := by decide +kernel
theorem dX0_takesSuits_24 : decode cX0_takesSuits 24 = .ok (.ireturn, 1) := by decide +kernel
theorem dX0_likestCase_0 : decode cX0_likestCase 0 = .ok (.aload_n 0, 1) := by decide +kernel
theorem dX0_likestCase_1 : decode cX0_likestCase 1 = .ok (.getfield 24, 3) := by decide +kernel
theorem dX0_likestCase_4 : decode cX0_likestCase 4 = .ok (.iload_n 1, 1) := by decide +kernel
theorem dX0_likestCase_5 : decode cX0_likestCase 5 = .ok (.aload_n 0, 1) := by decide +kernel
theorem dX0_likestCase_6 : decode cX0_likestCase 6 = .ok (.getfield 24, 3) := by decide +kernel
theorem dX0_likestCase_9 : decode cX0_likestCase 9 = .ok (.invokevirtual 89, 3) := by decide +kernel
theorem dX0_likestCase_12 : decode cX0_likestCase 12 = .ok (.aload_n 0, 1) := by decide +kernel
theorem dX0_likestCase_13 : decode cX0_likestCase 13 = .ok (.getfield 12, 3) := by decide +kernel
theorem dX0_likestCase_16 : decode cX0_likestCase 16 = .ok (.invokevirtual 92, 3) := by decide +kernel
theorem dX0_likestCase_19 : decode cX0_likestCase 19 = .ok (.ireturn, 1) := by decide +kernel
theorem dX0_judgeAll_0 : decode cX0_judgeAll 0 = .ok (.aload_n 0, 1) := by decide +kernel
theorem dX0_judgeAll_1 : decode cX0_judgeAll 1 = .ok (.getfield 59, 3) := by decide +kernel
theorem dX0_judgeAll_4 : decode cX0_judgeAll 4 = .ok (.ifCond .eq 4, 3) := by decide +kernel
theorem dX0_judgeAll_7 : decode cX0_judgeAll 7 = .ok (.return_, 1) := by decide +kernel
theorem dX0_judgeAll_8 : decode cX0_judgeAll 8 = .ok (.aload_n 0, 1) := by decide +kernel
theorem dX0_judgeAll_9 : decode cX0_judgeAll 9 = .ok (.invokevirtual 81, 3) := by decide +kernel
theorem dX0_judgeAll_12 : decode cX0_judgeAll 12 = .ok (.aload_n 0, 1) := by decide +kernel
theorem dX0_judgeAll_13 : decode cX0_judgeAll 13 = .ok (.getfield 28, 3) := by decide +kernel
theorem dX0_judgeAll_16 : decode cX0_judgeAll 16 = .ok (.arraylength, 1) := by decide +kernel
theorem dX0_judgeAll_17 : decode cX0_judgeAll 17 = .ok (.aload_n 0, 1) := by decide +kernel
theorem dX0_judgeAll_18 : decode cX0_judgeAll 18 = .ok (.getfield 32, 3) := by decide +kernel
theorem dX0_judgeAll_21 : decode cX0_judgeAll 21 = .ok (.arraylength, 1) := by decide +kernel
theorem dX0_judgeAll_22 : decode cX0_judgeAll 22 = .ok (.invokestatic 39, 3) := by decide +kernel
theorem dX0_judgeAll_25 : decode cX0_judgeAll 25 = .ok (.invokestatic 39, 3) := by decide +kernel
theorem dX0_judgeAll_28 : decode cX0_judgeAll 28 = .ok (.istore_n 1, 1) := by decide +kernel
theorem dX0_judgeAll_29 : decode cX0_judgeAll 29 = .ok (.iconst 0, 1) := by decide +kernel
theorem dX0_judgeAll_30 : decode cX0_judgeAll 30 = .ok (.istore_n 2, 1) := by decide +kernel
theorem dX0_judgeAll_31 : decode cX0_judgeAll 31 = .ok (.iload_n 2, 1) := by decide +kernel
theorem dX0_judgeAll_32 : decode cX0_judgeAll 32 = .ok (.iload_n 1, 1) := by decide +kernel
theorem dX0_judgeAll_33 : decode cX0_judgeAll 33 = .ok (.if_icmp .ge 39, 3) := by decide +kernel
theorem dX0_judgeAll_36 : decode cX0_judgeAll 36 = .ok (.aload_n 0, 1) := by decide +kernel
theorem dX0_judgeAll_37 : decode cX0_judgeAll 37 = .ok (.getfield 28, 3) := by decide +kernel
theorem dX0_judgeAll_40 : decode cX0_judgeAll 40 = .ok (.iload_n 2, 1) := by decide +kernel
theorem dX0_judgeAll_41 : decode cX0_judgeAll 41 = .ok (.aload_n 0, 1) := by decide +kernel
theorem dX0_judgeAll_42 : decode cX0_judgeAll 42 = .ok (.iload_n 2, 1) := by decide +kernel
theorem dX0_judgeAll_43 : decode cX0_judgeAll 43 = .ok (.invokevirtual 96, 3) := by decide +kernel
theorem dX0_judgeAll_46 : decode cX0_judgeAll 46 = .ok (.iastore, 1) := by decide +kernel
theorem dX0_judgeAll_47 : decode cX0_judgeAll 47 = .ok (.aload_n 0, 1) := by decide +kernel
theorem dX0_judgeAll_48 : decode cX0_judgeAll 48 = .ok (.getfield 32, 3) := by decide +kernel
theorem dX0_judgeAll_51 : decode cX0_judgeAll 51 = .ok (.iload_n 2, 1) := by decide +kernel
theorem dX0_judgeAll_52 : decode cX0_judgeAll 52 = .ok (.aload_n 0, 1) := by decide +kernel
theorem dX0_judgeAll_53 : decode cX0_judgeAll 53 = .ok (.getfield 24, 3) := by decide +kernel
theorem dX0_judgeAll_56 : decode cX0_judgeAll 56 = .ok (.aload_n 0, 1) := by decide +kernel
theorem dX0_judgeAll_57 : decode cX0_judgeAll 57 = .ok (.getfield 28, 3) := by decide +kernel
theorem dX0_judgeAll_60 : decode cX0_judgeAll 60 = .ok (.iload_n 2, 1) := by decide +kernel
theorem dX0_judgeAll_61 : decode cX0_judgeAll 61 = .ok (.iaload, 1) := by decide +kernel
theorem dX0_judgeAll_62 : decode cX0_judgeAll 62 = .ok (.invokevirtual 100, 3) := by decide +kernel
theorem dX0_judgeAll_65 : decode cX0_judgeAll 65 = .ok (.iastore, 1) := by decide +kernel
theorem dX0_judgeAll_66 : decode cX0_judgeAll 66 = .ok (.iinc 2 1, 3) := by decide +kernel
theorem dX0_judgeAll_69 : decode cX0_judgeAll 69 = .ok (.goto (-38), 3) := by decide +kernel
theorem dX0_judgeAll_72 : decode cX0_judgeAll 72 = .ok (.aload_n 0, 1) := by decide +kernel
theorem dX0_judgeAll_73 : decode cX0_judgeAll 73 = .ok (.iconst 1, 1) := by decide +kernel
theorem dX0_judgeAll_74 : decode cX0_judgeAll 74 = .ok (.putfield 59, 3) := by decide +kernel
theorem dX0_judgeAll_77 : decode cX0_judgeAll 77 = .ok (.return_, 1) := by decide +kernel
theorem dX0_byWhich_0 : decode cX0_byWhich 0 = .ok (.iload_n 1, 1) := by decide +kernel
theorem dX0_byWhich_1 : decode cX0_byWhich 1 = .ok (.ifCond .lt 21, 3) := by decide +kernel
theorem dX0_byWhich_4 : decode cX0_byWhich 4 = .ok (.iload_n 1, 1) := by decide +kernel
theorem dX0_byWhich_5 : decode cX0_byWhich 5 = .ok (.aload_n 0, 1) := by decide +kernel
theorem dX0_byWhich_6 : decode cX0_byWhich 6 = .ok (.getfield 28, 3) := by decide +kernel
theorem dX0_byWhich_9 : decode cX0_byWhich 9 = .ok (.arraylength, 1) := by decide +kernel
theorem dX0_byWhich_10 : decode cX0_byWhich 10 = .ok (.if_icmp .ge 12, 3) := by decide +kernel
theorem dX0_byWhich_13 : decode cX0_byWhich 13 = .ok (.aload_n 0, 1) := by decide +kernel
theorem dX0_byWhich_14 : decode cX0_byWhich 14 = .ok (.getfield 28, 3) := by decide +kernel
theorem dX0_byWhich_17 : decode cX0_byWhich 17 = .ok (.iload_n 1, 1) := by decide +kernel
theorem dX0_byWhich_18 : decode cX0_byWhich 18 = .ok (.iaload, 1) := by decide +kernel
theorem dX0_byWhich_19 : decode cX0_byWhich 19 = .ok (.goto 4, 3) := by decide +kernel
theorem dX0_byWhich_22 : decode cX0_byWhich 22 = .ok (.iconst (-1), 1) := by decide +kernel
theorem dX0_byWhich_23 : decode cX0_byWhich 23 = .ok (.ireturn, 1) := by decide +kernel
theorem dX0_judgmentOf_0 : decode cX0_judgmentOf 0 = .ok (.iload_n 1, 1) := by decide +kernel
theorem dX0_judgmentOf_1 : decode cX0_judgmentOf 1 = .ok (.ifCond .lt 21, 3) := by decide +kernel
theorem dX0_judgmentOf_4 : decode cX0_judgmentOf 4 = .ok (.iload_n 1, 1) := by decide +kernel
theorem dX0_judgmentOf_5 : decode cX0_judgmentOf 5 = .ok (.aload_n 0, 1) := by decide +kernel
theorem dX0_judgmentOf_6 : decode cX0_judgmentOf 6 = .ok (.getfield 32, 3) := by decide +kernel
theorem dX0_judgmentOf_9 : decode cX0_judgmentOf 9 = .ok (.arraylength, 1) := by decide +kernel
theorem dX0_judgmentOf_10 : decode cX0_judgmentOf 10 = .ok (.if_icmp .ge 12, 3) := by decide +kernel
theorem dX0_judgmentOf_13 : decode cX0_judgmentOf 13 = .ok (.aload_n 0, 1) := by decide +kernel
theorem dX0_judgmentOf_14 : decode cX0_judgmentOf 14 = .ok (.getfield 32, 3) := by decide +kernel
theorem dX0_judgmentOf_17 : decode cX0_judgmentOf 17 = .ok (.iload_n 1, 1) := by decide +kernel
theorem dX0_judgmentOf_18 : decode cX0_judgmentOf 18 = .ok (.iaload, 1) := by decide +kernel
theorem dX0_judgmentOf_19 : decode cX0_judgmentOf 19 = .ok (.goto 4, 3) := by decide +kernel
theorem dX0_judgmentOf_22 : decode cX0_judgmentOf 22 = .ok (.iconst (-1), 1) := by decide +kernel
theorem dX0_judgmentOf_23 : decode cX0_judgmentOf 23 = .ok (.ireturn, 1) := by decide +kernel
theorem dX0_likeness_0 : decode cX0_likeness 0 = .ok (.aload_n 0, 1) := by decide +kernel
theorem dX0_likeness_1 : decode cX0_likeness 1 = .ok (.getfield 12, 3) := by decide +kernel
theorem dX0_likeness_4 : decode cX0_likeness 4 = .ok (.aload_n 0, 1) := by decide +kernel
theorem dX0_likeness_5 : decode cX0_likeness 5 = .ok (.invokevirtual 81, 3) := by decide +kernel
theorem dX0_likeness_8 : decode cX0_likeness 8 = .ok (.iconst 1, 1) := by decide +kernel
theorem dX0_likeness_9 : decode cX0_likeness 9 = .ok (.isub, 1) := by decide +kernel
theorem dX0_likeness_10 : decode cX0_likeness 10 = .ok (.invokevirtual 103, 3) := by decide +kernel
theorem dX0_likeness_13 : decode cX0_likeness 13 = .ok (.aload_n 0, 1) := by decide +kernel
theorem dX0_likeness_14 : decode cX0_likeness 14 = .ok (.getfield 12, 3) := by decide +kernel
theorem dX0_likeness_17 : decode cX0_likeness 17 = .ok (.iload_n 1, 1) := by decide +kernel
theorem dX0_likeness_18 : decode cX0_likeness 18 = .ok (.aload_n 0, 1) := by decide +kernel
theorem dX0_likeness_19 : decode cX0_likeness 19 = .ok (.getfield 24, 3) := by decide +kernel
theorem dX0_likeness_22 : decode cX0_likeness 22 = .ok (.iload_n 2, 1) := by decide +kernel
theorem dX0_likeness_23 : decode cX0_likeness 23 = .ok (.invokevirtual 106, 3) := by decide +kernel
theorem dX0_likeness_26 : decode cX0_likeness 26 = .ok (.ixor, 1) := by decide +kernel
theorem dX0_likeness_27 : decode cX0_likeness 27 = .ok (.invokevirtual 103, 3) := by decide +kernel
theorem dX0_likeness_30 : decode cX0_likeness 30 = .ok (.isub, 1) := by decide +kernel
theorem dX0_likeness_31 : decode cX0_likeness 31 = .ok (.ireturn, 1) := by decide +kernel
theorem dX0_unlikeness_0 : decode cX0_unlikeness 0 = .ok (.aload_n 0, 1) := by decide +kernel
theorem dX0_unlikeness_1 : decode cX0_unlikeness 1 = .ok (.getfield 12, 3) := by decide +kernel
theorem dX0_unlikeness_4 : decode cX0_unlikeness 4 = .ok (.iload_n 1, 1) := by decide +kernel
theorem dX0_unlikeness_5 : decode cX0_unlikeness 5 = .ok (.aload_n 0, 1) := by decide +kernel
theorem dX0_unlikeness_6 : decode cX0_unlikeness 6 = .ok (.getfield 24, 3) := by decide +kernel
theorem dX0_unlikeness_9 : decode cX0_unlikeness 9 = .ok (.aload_n 0, 1) := by decide +kernel
theorem dX0_unlikeness_10 : decode cX0_unlikeness 10 = .ok (.iload_n 1, 1) := by decide +kernel
theorem dX0_unlikeness_11 : decode cX0_unlikeness 11 = .ok (.invokevirtual 109, 3) := by decide +kernel
theorem dX0_unlikeness_14 : decode cX0_unlikeness 14 = .ok (.invokevirtual 106, 3) := by decide +kernel
theorem dX0_unlikeness_17 : decode cX0_unlikeness 17 = .ok (.ixor, 1) := by decide +kernel
theorem dX0_unlikeness_18 : decode cX0_unlikeness 18 = .ok (.invokevirtual 103, 3) := by decide +kernel
theorem dX0_unlikeness_21 : decode cX0_unlikeness 21 = .ok (.ireturn, 1) := by decide +kernel
theorem dX1_init_0 : decode cX1_init 0 = .ok (.aload_n 0, 1) := by decide +kernel
theorem dX1_init_1 : decode cX1_init 1 = .ok (.invokespecial 3, 3) := by decide +kernel
theorem dX1_init_4 : decode cX1_init 4 = .ok (.aload_n 0, 1) := by decide +kernel
theorem dX1_init_5 : decode cX1_init 5 = .ok (.aload_n 1, 1) := by decide +kernel
theorem dX1_init_6 : decode cX1_init 6 = .ok (.putfield 9, 3) := by decide +kernel
theorem dX1_init_9 : decode cX1_init 9 = .ok (.return_, 1) := by decide +kernel
theorem dX1_forgedCases_0 : decode cX1_forgedCases 0 = .ok (.aload_n 0, 1) := by decide +kernel
theorem dX1_forgedCases_1 : decode cX1_forgedCases 1 = .ok (.getfield 9, 3) := by decide +kernel
theorem dX1_forgedCases_4 : decode cX1_forgedCases 4 = .ok (.getfield 15, 3) := by decide +kernel
theorem dX1_forgedCases_7 : decode cX1_forgedCases 7 = .ok (.astore_n 1, 1) := by decide +kernel
theorem dX1_forgedCases_8 : decode cX1_forgedCases 8 = .ok (.iconst 0, 1) := by decide +kernel
theorem dX1_forgedCases_9 : decode cX1_forgedCases 9 = .ok (.istore_n 2, 1) := by decide +kernel
theorem dX1_forgedCases_10 : decode cX1_forgedCases 10 = .ok (.iconst 0, 1) := by decide +kernel
theorem dX1_forgedCases_11 : decode cX1_forgedCases 11 = .ok (.istore_n 3, 1) := by decide +kernel
theorem dX1_forgedCases_12 : decode cX1_forgedCases 12 = .ok (.iload_n 3, 1) := by decide +kernel
theorem dX1_forgedCases_13 : decode cX1_forgedCases 13 = .ok (.aload_n 1, 1) := by decide +kernel
theorem dX1_forgedCases_14 : decode cX1_forgedCases 14 = .ok (.invokevirtual 21, 3) := by decide +kernel
theorem dX1_forgedCases_17 : decode cX1_forgedCases 17 = .ok (.if_icmp .ge 34, 3) := by decide +kernel
theorem dX1_forgedCases_20 : decode cX1_forgedCases 20 = .ok (.aload_n 1, 1) := by decide +kernel
theorem dX1_forgedCases_21 : decode cX1_forgedCases 21 = .ok (.iload_n 3, 1) := by decide +kernel
theorem dX1_forgedCases_22 : decode cX1_forgedCases 22 = .ok (.aload_n 1, 1) := by decide +kernel
theorem dX1_forgedCases_23 : decode cX1_forgedCases 23 = .ok (.invokevirtual 27, 3) := by decide +kernel
theorem dX1_forgedCases_26 : decode cX1_forgedCases 26 = .ok (.aload_n 0, 1) := by decide +kernel
theorem dX1_forgedCases_27 : decode cX1_forgedCases 27 = .ok (.getfield 9, 3) := by decide +kernel
theorem dX1_forgedCases_30 : decode cX1_forgedCases 30 = .ok (.getfield 30, 3) := by decide +kernel
theorem dX1_forgedCases_33 : decode cX1_forgedCases 33 = .ok (.invokevirtual 34, 3) := by decide +kernel
theorem dX1_forgedCases_36 : decode cX1_forgedCases 36 = .ok (.ifCond .ne 9, 3) := by decide +kernel
theorem dX1_forgedCases_39 : decode cX1_forgedCases 39 = .ok (.iload_n 2, 1) := by decide +kernel
theorem dX1_forgedCases_40 : decode cX1_forgedCases 40 = .ok (.iconst 1, 1) := by decide +kernel
theorem dX1_forgedCases_41 : decode cX1_forgedCases 41 = .ok (.iload_n 3, 1) := by decide +kernel
theorem dX1_forgedCases_42 : decode cX1_forgedCases 42 = .ok (.ishl, 1) := by decide +kernel
theorem dX1_forgedCases_43 : decode cX1_forgedCases 43 = .ok (.ior, 1) := by decide +kernel
theorem dX1_forgedCases_44 : decode cX1_forgedCases 44 = .ok (.istore_n 2, 1) := by decide +kernel
theorem dX1_forgedCases_45 : decode cX1_forgedCases 45 = .ok (.iinc 3 1, 3) := by decide +kernel
theorem dX1_forgedCases_48 : decode cX1_forgedCases 48 = .ok (.goto (-36), 3) := by decide +kernel
theorem dX1_forgedCases_51 : decode cX1_forgedCases 51 = .ok (.iload_n 2, 1) := by decide +kernel
theorem dX1_forgedCases_52 : decode cX1_forgedCases 52 = .ok (.ireturn, 1) := by decide +kernel
theorem dX1_fewestLeftOut_0 : decode cX1_fewestLeftOut 0 = .ok (.aload_n 0, 1) := by decide +kernel
theorem dX1_fewestLeftOut_1 : decode cX1_fewestLeftOut 1 = .ok (.getfield 9, 3) := by decide +kernel
theorem dX1_fewestLeftOut_4 : decode cX1_fewestLeftOut 4 = .ok (.getfield 15, 3) := by decide +kernel
theorem dX1_fewestLeftOut_7 : decode cX1_fewestLeftOut 7 = .ok (.invokevirtual 27, 3) := by decide +kernel
theorem dX1_fewestLeftOut_10 : decode cX1_fewestLeftOut 10 = .ok (.istore_n 1, 1) := by decide +kernel
theorem dX1_fewestLeftOut_11 : decode cX1_fewestLeftOut 11 = .ok (.iconst 0, 1) := by decide +kernel
theorem dX1_fewestLeftOut_12 : decode cX1_fewestLeftOut 12 = .ok (.istore_n 2, 1) := by decide +kernel
theorem dX1_fewestLeftOut_13 : decode cX1_fewestLeftOut 13 = .ok (.iload_n 2, 1) := by decide +kernel
theorem dX1_fewestLeftOut_14 : decode cX1_fewestLeftOut 14 = .ok (.aload_n 0, 1) := by decide +kernel
theorem dX1_fewestLeftOut_15 : decode cX1_fewestLeftOut 15 = .ok (.getfield 9, 3) := by decide +kernel
theorem dX1_fewestLeftOut_18 : decode cX1_fewestLeftOut 18 = .ok (.getfield 15, 3) := by decide +kernel
theorem dX1_fewestLeftOut_21 : decode cX1_fewestLeftOut 21 = .ok (.invokevirtual 21, 3) := by decide +kernel
theorem dX1_fewestLeftOut_24 : decode cX1_fewestLeftOut 24 = .ok (.if_icmp .ge 57, 3) := by decide +kernel
theorem dX1_fewestLeftOut_27 : decode cX1_fewestLeftOut 27 = .ok (.iconst 0, 1) := by decide +kernel
theorem dX1_fewestLeftOut_28 : decode cX1_fewestLeftOut 28 = .ok (.istore_n 3, 1) := by decide +kernel
theorem dX1_fewestLeftOut_29 : decode cX1_fewestLeftOut 29 = .ok (.iload_n 3, 1) := by decide +kernel
theorem dX1_fewestLeftOut_30 : decode cX1_fewestLeftOut 30 = .ok (.iload_n 1, 1) := by decide +kernel
theorem dX1_fewestLeftOut_31 : decode cX1_fewestLeftOut 31 = .ok (.if_icmp .ge 44, 3) := by decide +kernel
theorem dX1_fewestLeftOut_34 : decode cX1_fewestLeftOut 34 = .ok (.iload_n 3, 1) := by decide +kernel
theorem dX1_fewestLeftOut_35 : decode cX1_fewestLeftOut 35 = .ok (.invokestatic 38, 3) := by decide +kernel
theorem dX1_fewestLeftOut_38 : decode cX1_fewestLeftOut 38 = .ok (.iload_n 2, 1) := by decide +kernel
theorem dX1_fewestLeftOut_39 : decode cX1_fewestLeftOut 39 = .ok (.if_icmp .ne 30, 3) := by decide +kernel
theorem dX1_fewestLeftOut_42 : decode cX1_fewestLeftOut 42 = .ok (.aload_n 0, 1) := by decide +kernel
theorem dX1_fewestLeftOut_43 : decode cX1_fewestLeftOut 43 = .ok (.getfield 9, 3) := by decide +kernel
theorem dX1_fewestLeftOut_46 : decode cX1_fewestLeftOut 46 = .ok (.getfield 15, 3) := by decide +kernel
theorem dX1_fewestLeftOut_49 : decode cX1_fewestLeftOut 49 = .ok (.iload_n 1, 1) := by decide +kernel
theorem dX1_fewestLeftOut_50 : decode cX1_fewestLeftOut 50 = .ok (.iload_n 3, 1) := by decide +kernel
theorem dX1_fewestLeftOut_51 : decode cX1_fewestLeftOut 51 = .ok (.iconst (-1), 1) := by decide +kernel
theorem dX1_fewestLeftOut_52 : decode cX1_fewestLeftOut 52 = .ok (.ixor, 1) := by decide +kernel
theorem dX1_fewestLeftOut_53 : decode cX1_fewestLeftOut 53 = .ok (.iand, 1) := by decide +kernel
theorem dX1_fewestLeftOut_54 : decode cX1_fewestLeftOut 54 = .ok (.aload_n 0, 1) := by decide +kernel
theorem dX1_fewestLeftOut_55 : decode cX1_fewestLeftOut 55 = .ok (.getfield 9, 3) := by decide +kernel
theorem dX1_fewestLeftOut_58 : decode cX1_fewestLeftOut 58 = .ok (.getfield 30, 3) := by decide +kernel
theorem dX1_fewestLeftOut_61 : decode cX1_fewestLeftOut 61 = .ok (.invokevirtual 44, 3) := by decide +kernel
theorem dX1_fewestLeftOut_64 : decode cX1_fewestLeftOut 64 = .ok (.ifCond .eq 5, 3) := by decide +kernel
theorem dX1_fewestLeftOut_67 : decode cX1_fewestLeftOut 67 = .ok (.iload_n 3, 1) := by decide +kernel
theorem dX1_fewestLeftOut_68 : decode cX1_fewestLeftOut 68 = .ok (.ireturn, 1) := by decide +kernel
theorem dX1_fewestLeftOut_69 : decode cX1_fewestLeftOut 69 = .ok (.iinc 3 1, 3) := by decide +kernel
theorem dX1_fewestLeftOut_72 : decode cX1_fewestLeftOut 72 = .ok (.goto (-43), 3) := by decide +kernel
theorem dX1_fewestLeftOut_75 : decode cX1_fewestLeftOut 75 = .ok (.iinc 2 1, 3) := by decide +kernel
theorem dX1_fewestLeftOut_78 : decode cX1_fewestLeftOut 78 = .ok (.goto (-65), 3) := by decide +kernel
theorem dX1_fewestLeftOut_81 : decode cX1_fewestLeftOut 81 = .ok (.iload_n 1, 1) := by decide +kernel
theorem dX1_fewestLeftOut_82 : decode cX1_fewestLeftOut 82 = .ok (.ireturn, 1) := by decide +kernel
theorem dX1_countHanging_0 : decode cX1_countHanging 0 = .ok (.aload_n 0, 1) := by decide +kernel
theorem dX1_countHanging_1 : decode cX1_countHanging 1 = .ok (.invokevirtual 48, 3) := by decide +kernel
theorem dX1_countHanging_4 : decode cX1_countHanging 4 = .ok (.ifCond .eq 18, 3) := by decide +kernel
theorem dX1_countHanging_7 : decode cX1_countHanging 7 = .ok (.iconst 3, 1) := by decide +kernel
theorem dX1_countHanging_8 : decode cX1_countHanging 8 = .ok (.aload_n 0, 1) := by decide +kernel
theorem dX1_countHanging_9 : decode cX1_countHanging 9 = .ok (.getfield 9, 3) := by decide +kernel
theorem dX1_countHanging_12 : decode cX1_countHanging 12 = .ok (.invokevirtual 52, 3) := by decide +kernel
theorem dX1_countHanging_15 : decode cX1_countHanging 15 = .ok (.invokestatic 55, 3) := by decide +kernel
theorem dX1_countHanging_18 : decode cX1_countHanging 18 = .ok (.l2i, 1) := by decide +kernel
theorem dX1_countHanging_19 : decode cX1_countHanging 19 = .ok (.goto 4, 3) := by decide +kernel
theorem dX1_countHanging_22 : decode cX1_countHanging 22 = .ok (.iconst 0, 1) := by decide +kernel
theorem dX1_countHanging_23 : decode cX1_countHanging 23 = .ok (.ireturn, 1) := by decide +kernel
theorem dX1_firstHanging_0 : decode cX1_firstHanging 0 = .ok (.aload_n 0, 1) := by decide +kernel
theorem dX1_firstHanging_1 : decode cX1_firstHanging 1 = .ok (.invokevirtual 48, 3) := by decide +kernel
theorem dX1_firstHanging_4 : decode cX1_firstHanging 4 = .ok (.ifCond .eq 7, 3) := by decide +kernel
theorem dX1_firstHanging_7 : decode cX1_firstHanging 7 = .ok (.iconst 0, 1) := by decide +kernel
theorem dX1_firstHanging_8 : decode cX1_firstHanging 8 = .ok (.goto 4, 3) := by decide +kernel
theorem dX1_firstHanging_11 : decode cX1_firstHanging 11 = .ok (.iconst (-1), 1) := by decide +kernel
theorem dX1_firstHanging_12 : decode cX1_firstHanging 12 = .ok (.ireturn, 1) := by decide +kernel
theorem dX1_hangsTogether_0 : decode cX1_hangsTogether 0 = .ok (.aload_n 0, 1) := by decide +kernel
theorem dX1_hangsTogether_1 : decode cX1_hangsTogether 1 = .ok (.getfield 9, 3) := by decide +kernel
theorem dX1_hangsTogether_4 : decode cX1_hangsTogether 4 = .ok (.getfield 15, 3) := by decide +kernel
theorem dX1_hangsTogether_7 : decode cX1_hangsTogether 7 = .ok (.aload_n 0, 1) := by decide +kernel
theorem dX1_hangsTogether_8 : decode cX1_hangsTogether 8 = .ok (.getfield 9, 3) := by decide +kernel
theorem dX1_hangsTogether_11 : decode cX1_hangsTogether 11 = .ok (.getfield 15, 3) := by decide +kernel
theorem dX1_hangsTogether_14 : decode cX1_hangsTogether 14 = .ok (.invokevirtual 27, 3) := by decide +kernel
theorem dX1_hangsTogether_17 : decode cX1_hangsTogether 17 = .ok (.aload_n 0, 1) := by decide +kernel
theorem dX1_hangsTogether_18 : decode cX1_hangsTogether 18 = .ok (.getfield 9, 3) := by decide +kernel
theorem dX1_hangsTogether_21 : decode cX1_hangsTogether 21 = .ok (.getfield 30, 3) := by decide +kernel
theorem dX1_hangsTogether_24 : decode cX1_hangsTogether 24 = .ok (.invokevirtual 44, 3) := by decide +kernel
theorem dX1_hangsTogether_27 : decode cX1_hangsTogether 27 = .ok (.ireturn, 1) := by decide +kernel
theorem dX2_init_0 : decode cX2_init 0 = .ok (.aload_n 0, 1) := by decide +kernel
theorem dX2_init_1 : decode cX2_init 1 = .ok (.invokespecial 1, 3) := by decide +kernel
theorem dX2_init_4 : decode cX2_init 4 = .ok (.aload_n 0, 1) := by decide +kernel
theorem dX2_init_5 : decode cX2_init 5 = .ok (.new 7, 3) := by decide +kernel
theorem dX2_init_8 : decode cX2_init 8 = .ok (.dup, 1) := by decide +kernel
theorem dX2_init_9 : decode cX2_init 9 = .ok (.invokespecial 9, 3) := by decide +kernel
theorem dX2_init_12 : decode cX2_init 12 = .ok (.putfield 10, 3) := by decide +kernel
theorem dX2_init_15 : decode cX2_init 15 = .ok (.return_, 1) := by decide +kernel
theorem dX3_init_0 : decode cX3_init 0 = .ok (.aload_n 0, 1) := by decide +kernel
theorem dX3_init_1 : decode cX3_init 1 = .ok (.invokespecial 3, 3) := by decide +kernel
theorem dX3_init_4 : decode cX3_init 4 = .ok (.aload_n 0, 1) := by decide +kernel
theorem dX3_init_5 : decode cX3_init 5 = .ok (.aload_n 1, 1) := by decide +kernel
theorem dX3_init_6 : decode cX3_init 6 = .ok (.putfield 9, 3) := by decide +kernel
theorem dX3_init_9 : decode cX3_init 9 = .ok (.return_, 1) := by decide +kernel
theorem dX3_deadCases_0 : decode cX3_deadCases 0 = .ok (.iconst 0, 1) := by decide +kernel
theorem dX3_deadCases_1 : decode cX3_deadCases 1 = .ok (.istore_n 1, 1) := by decide +kernel
theorem dX3_deadCases_2 : decode cX3_deadCases 2 = .ok (.iconst 0, 1) := by decide +kernel
theorem dX3_deadCases_3 : decode cX3_deadCases 3 = .ok (.istore_n 2, 1) := by decide +kernel
theorem dX3_deadCases_4 : decode cX3_deadCases 4 = .ok (.iload_n 2, 1) := by decide +kernel
theorem dX3_deadCases_5 : decode cX3_deadCases 5 = .ok (.aload_n 0, 1) := by decide +kernel
theorem dX3_deadCases_6 : decode cX3_deadCases 6 = .ok (.getfield 9, 3) := by decide +kernel
theorem dX3_deadCases_9 : decode cX3_deadCases 9 = .ok (.invokevirtual 15, 3) := by decide +kernel
theorem dX3_deadCases_12 : decode cX3_deadCases 12 = .ok (.if_icmp .ge 29, 3) := by decide +kernel
theorem dX3_deadCases_15 : decode cX3_deadCases 15 = .ok (.aload_n 0, 1) := by decide +kernel
theorem dX3_deadCases_16 : decode cX3_deadCases 16 = .ok (.getfield 9, 3) := by decide +kernel
theorem dX3_deadCases_19 : decode cX3_deadCases 19 = .ok (.iload_n 2, 1) := by decide +kernel
theorem dX3_deadCases_20 : decode cX3_deadCases 20 = .ok (.invokevirtual 21, 3) := by decide +kernel
theorem dX3_deadCases_23 : decode cX3_deadCases 23 = .ok (.istore_n 3, 1) := by decide +kernel
theorem dX3_deadCases_24 : decode cX3_deadCases 24 = .ok (.iload_n 3, 1) := by decide +kernel
theorem dX3_deadCases_25 : decode cX3_deadCases 25 = .ok (.iconst (-1), 1) := by decide +kernel
theorem dX3_deadCases_26 : decode cX3_deadCases 26 = .ok (.if_icmp .eq 9, 3) := by decide +kernel
theorem dX3_deadCases_29 : decode cX3_deadCases 29 = .ok (.iload_n 1, 1) := by decide +kernel
theorem dX3_deadCases_30 : decode cX3_deadCases 30 = .ok (.iconst 1, 1) := by decide +kernel
theorem dX3_deadCases_31 : decode cX3_deadCases 31 = .ok (.iload_n 3, 1) := by decide +kernel
theorem dX3_deadCases_32 : decode cX3_deadCases 32 = .ok (.ishl, 1) := by decide +kernel
theorem dX3_deadCases_33 : decode cX3_deadCases 33 = .ok (.ior, 1) := by decide +kernel
theorem dX3_deadCases_34 : decode cX3_deadCases 34 = .ok (.istore_n 1, 1) := by decide +kernel
theorem dX3_deadCases_35 : decode cX3_deadCases 35 = .ok (.iinc 2 1, 3) := by decide +kernel
theorem dX3_deadCases_38 : decode cX3_deadCases 38 = .ok (.goto (-34), 3) := by decide +kernel
theorem dX3_deadCases_41 : decode cX3_deadCases 41 = .ok (.aload_n 0, 1) := by decide +kernel
theorem dX3_deadCases_42 : decode cX3_deadCases 42 = .ok (.getfield 9, 3) := by decide +kernel
theorem dX3_deadCases_45 : decode cX3_deadCases 45 = .ok (.getfield 25, 3) := by decide +kernel
theorem dX3_deadCases_48 : decode cX3_deadCases 48 = .ok (.invokevirtual 29, 3) := by decide +kernel
theorem dX3_deadCases_51 : decode cX3_deadCases 51 = .ok (.iload_n 1, 1) := by decide +kernel
theorem dX3_deadCases_52 : decode cX3_deadCases 52 = .ok (.iconst (-1), 1) := by decide +kernel
theorem dX3_deadCases_53 : decode cX3_deadCases 53 = .ok (.ixor, 1) := by decide +kernel
theorem dX3_deadCases_54 : decode cX3_deadCases 54 = .ok (.iand, 1) := by decide +kernel
theorem dX3_deadCases_55 : decode cX3_deadCases 55 = .ok (.ireturn, 1) := by decide +kernel
theorem dX3_fewestCases_0 : decode cX3_fewestCases 0 = .ok (.aload_n 0, 1) := by decide +kernel
theorem dX3_fewestCases_1 : decode cX3_fewestCases 1 = .ok (.getfield 9, 3) := by decide +kernel
theorem dX3_fewestCases_4 : decode cX3_fewestCases 4 = .ok (.getfield 25, 3) := by decide +kernel
theorem dX3_fewestCases_7 : decode cX3_fewestCases 7 = .ok (.invokevirtual 29, 3) := by decide +kernel
theorem dX3_fewestCases_10 : decode cX3_fewestCases 10 = .ok (.istore_n 1, 1) := by decide +kernel
theorem dX3_fewestCases_11 : decode cX3_fewestCases 11 = .ok (.iconst 0, 1) := by decide +kernel
theorem dX3_fewestCases_12 : decode cX3_fewestCases 12 = .ok (.istore_n 2, 1) := by decide +kernel
theorem dX3_fewestCases_13 : decode cX3_fewestCases 13 = .ok (.iload_n 2, 1) := by decide +kernel
theorem dX3_fewestCases_14 : decode cX3_fewestCases 14 = .ok (.aload_n 0, 1) := by decide +kernel
theorem dX3_fewestCases_15 : decode cX3_fewestCases 15 = .ok (.getfield 9, 3) := by decide +kernel
theorem dX3_fewestCases_18 : decode cX3_fewestCases 18 = .ok (.getfield 25, 3) := by decide +kernel
theorem dX3_fewestCases_21 : decode cX3_fewestCases 21 = .ok (.invokevirtual 34, 3) := by decide +kernel
theorem dX3_fewestCases_24 : decode cX3_fewestCases 24 = .ok (.if_icmp .ge 40, 3) := by decide +kernel
theorem dX3_fewestCases_27 : decode cX3_fewestCases 27 = .ok (.iconst 0, 1) := by decide +kernel
theorem dX3_fewestCases_28 : decode cX3_fewestCases 28 = .ok (.istore_n 3, 1) := by decide +kernel
theorem dX3_fewestCases_29 : decode cX3_fewestCases 29 = .ok (.iload_n 3, 1) := by decide +kernel
theorem dX3_fewestCases_30 : decode cX3_fewestCases 30 = .ok (.iload_n 1, 1) := by decide +kernel
theorem dX3_fewestCases_31 : decode cX3_fewestCases 31 = .ok (.if_icmp .ge 27, 3) := by decide +kernel
theorem dX3_fewestCases_34 : decode cX3_fewestCases 34 = .ok (.iload_n 3, 1) := by decide +kernel
theorem dX3_fewestCases_35 : decode cX3_fewestCases 35 = .ok (.invokestatic 37, 3) := by decide +kernel
theorem dX3_fewestCases_38 : decode cX3_fewestCases 38 = .ok (.iload_n 2, 1) := by decide +kernel
theorem dX3_fewestCases_39 : decode cX3_fewestCases 39 = .ok (.if_icmp .ne 13, 3) := by decide +kernel
theorem dX3_fewestCases_42 : decode cX3_fewestCases 42 = .ok (.aload_n 0, 1) := by decide +kernel
theorem dX3_fewestCases_43 : decode cX3_fewestCases 43 = .ok (.iload_n 3, 1) := by decide +kernel
theorem dX3_fewestCases_44 : decode cX3_fewestCases 44 = .ok (.invokevirtual 42, 3) := by decide +kernel
theorem dX3_fewestCases_47 : decode cX3_fewestCases 47 = .ok (.ifCond .eq 5, 3) := by decide +kernel
theorem dX3_fewestCases_50 : decode cX3_fewestCases 50 = .ok (.iload_n 3, 1) := by decide +kernel
theorem dX3_fewestCases_51 : decode cX3_fewestCases 51 = .ok (.ireturn, 1) := by decide +kernel
theorem dX3_fewestCases_52 : decode cX3_fewestCases 52 = .ok (.iinc 3 1, 3) := by decide +kernel
theorem dX3_fewestCases_55 : decode cX3_fewestCases 55 = .ok (.goto (-26), 3) := by decide +kernel
theorem dX3_fewestCases_58 : decode cX3_fewestCases 58 = .ok (.iinc 2 1, 3) := by decide +kernel
theorem dX3_fewestCases_61 : decode cX3_fewestCases 61 = .ok (.goto (-48), 3) := by decide +kernel
theorem dX3_fewestCases_64 : decode cX3_fewestCases 64 = .ok (.iload_n 1, 1) := by decide +kernel
theorem dX3_fewestCases_65 : decode cX3_fewestCases 65 = .ok (.ireturn, 1) := by decide +kernel
theorem dX3_judgesAlike_0 : decode cX3_judgesAlike 0 = .ok (.aload_n 0, 1) := by decide +kernel
theorem dX3_judgesAlike_1 : decode cX3_judgesAlike 1 = .ok (.getfield 9, 3) := by decide +kernel
theorem dX3_judgesAlike_4 : decode cX3_judgesAlike 4 = .ok (.invokevirtual 15, 3) := by decide +kernel
theorem dX3_judgesAlike_7 : decode cX3_judgesAlike 7 = .ok (.iconst 1, 1) := by decide +kernel
theorem dX3_judgesAlike_8 : decode cX3_judgesAlike 8 = .ok (.isub, 1) := by decide +kernel
theorem dX3_judgesAlike_9 : decode cX3_judgesAlike 9 = .ok (.istore_n 2, 1) := by decide +kernel
theorem dX3_judgesAlike_10 : decode cX3_judgesAlike 10 = .ok (.aload_n 0, 1) := by decide +kernel
theorem dX3_judgesAlike_11 : decode cX3_judgesAlike 11 = .ok (.getfield 46, 3) := by decide +kernel
theorem dX3_judgesAlike_14 : decode cX3_judgesAlike 14 = .ok (.istore_n 3, 1) := by decide +kernel
theorem dX3_judgesAlike_15 : decode cX3_judgesAlike 15 = .ok (.iconst 0, 1) := by decide +kernel
theorem dX3_judgesAlike_16 : decode cX3_judgesAlike 16 = .ok (.istore 4, 2) := by decide +kernel
theorem dX3_judgesAlike_18 : decode cX3_judgesAlike 18 = .ok (.iload 4, 2) := by decide +kernel
theorem dX3_judgesAlike_20 : decode cX3_judgesAlike 20 = .ok (.iload_n 2, 1) := by decide +kernel
theorem dX3_judgesAlike_21 : decode cX3_judgesAlike 21 = .ok (.if_icmp .gt 71, 3) := by decide +kernel
theorem dX3_judgesAlike_24 : decode cX3_judgesAlike 24 = .ok (.iload_n 3, 1) := by decide +kernel
theorem dX3_judgesAlike_25 : decode cX3_judgesAlike 25 = .ok (.iload 4, 2) := by decide +kernel
theorem dX3_judgesAlike_27 : decode cX3_judgesAlike 27 = .ok (.iadd, 1) := by decide +kernel
theorem dX3_judgesAlike_28 : decode cX3_judgesAlike 28 = .ok (.iload_n 2, 1) := by decide +kernel
theorem dX3_judgesAlike_29 : decode cX3_judgesAlike 29 = .ok (.iand, 1) := by decide +kernel
theorem dX3_judgesAlike_30 : decode cX3_judgesAlike 30 = .ok (.istore 5, 2) := by decide +kernel
theorem dX3_judgesAlike_32 : decode cX3_judgesAlike 32 = .ok (.aload_n 0, 1) := by decide +kernel
theorem dX3_judgesAlike_33 : decode cX3_judgesAlike 33 = .ok (.getfield 9, 3) := by decide +kernel
theorem dX3_judgesAlike_36 : decode cX3_judgesAlike 36 = .ok (.getfield 25, 3) := by decide +kernel
theorem dX3_judgesAlike_39 : decode cX3_judgesAlike 39 = .ok (.iload 5, 2) := by decide +kernel
theorem dX3_judgesAlike_41 : decode cX3_judgesAlike 41 = .ok (.iload_n 1, 1) := by decide +kernel
theorem dX3_judgesAlike_42 : decode cX3_judgesAlike 42 = .ok (.aload_n 0, 1) := by decide +kernel
theorem dX3_judgesAlike_43 : decode cX3_judgesAlike 43 = .ok (.getfield 9, 3) := by decide +kernel
theorem dX3_judgesAlike_46 : decode cX3_judgesAlike 46 = .ok (.getfield 50, 3) := by decide +kernel
theorem dX3_judgesAlike_49 : decode cX3_judgesAlike 49 = .ok (.invokevirtual 54, 3) := by decide +kernel
theorem dX3_judgesAlike_52 : decode cX3_judgesAlike 52 = .ok (.istore 6, 2) := by decide +kernel
theorem dX3_judgesAlike_54 : decode cX3_judgesAlike 54 = .ok (.aload_n 0, 1) := by decide +kernel
theorem dX3_judgesAlike_55 : decode cX3_judgesAlike 55 = .ok (.getfield 9, 3) := by decide +kernel
theorem dX3_judgesAlike_58 : decode cX3_judgesAlike 58 = .ok (.getfield 25, 3) := by decide +kernel
theorem dX3_judgesAlike_61 : decode cX3_judgesAlike 61 = .ok (.iload 6, 2) := by decide +kernel
theorem dX3_judgesAlike_63 : decode cX3_judgesAlike 63 = .ok (.invokevirtual 58, 3) := by decide +kernel
theorem dX3_judgesAlike_66 : decode cX3_judgesAlike 66 = .ok (.aload_n 0, 1) := by decide +kernel
theorem dX3_judgesAlike_67 : decode cX3_judgesAlike 67 = .ok (.getfield 9, 3) := by decide +kernel
theorem dX3_judgesAlike_70 : decode cX3_judgesAlike 70 = .ok (.iload 5, 2) := by decide +kernel
theorem dX3_judgesAlike_72 : decode cX3_judgesAlike 72 = .ok (.invokevirtual 61, 3) := by decide +kernel
theorem dX3_judgesAlike_75 : decode cX3_judgesAlike 75 = .ok (.if_icmp .eq 11, 3) := by decide +kernel
theorem dX3_judgesAlike_78 : decode cX3_judgesAlike 78 = .ok (.aload_n 0, 1) := by decide +kernel
theorem dX3_judgesAlike_79 : decode cX3_judgesAlike 79 = .ok (.iload 5, 2) := by decide +kernel
theorem dX3_judgesAlike_81 : decode cX3_judgesAlike 81 = .ok (.putfield 46, 3) := by decide +kernel
theorem dX3_judgesAlike_84 : decode cX3_judgesAlike 84 = .ok (.iconst 0, 1) := by decide +kernel
theorem dX3_judgesAlike_85 : decode cX3_judgesAlike 85 = .ok (.ireturn, 1) := by decide +kernel
theorem dX3_judgesAlike_86 : decode cX3_judgesAlike 86 = .ok (.iinc 4 1, 3) := by decide +kernel
theorem dX3_judgesAlike_89 : decode cX3_judgesAlike 89 = .ok (.goto (-71), 3) := by decide +kernel
theorem dX3_judgesAlike_92 : decode cX3_judgesAlike 92 = .ok (.iconst 1, 1) := by decide +kernel
theorem dX3_judgesAlike_93 : decode cX3_judgesAlike 93 = .ok (.ireturn, 1) := by decide +kernel
theorem dX3_turningPoints_0 : decode cX3_turningPoints 0 = .ok (.iconst 0, 1) := by decide +kernel
theorem dX3_turningPoints_1 : decode cX3_turningPoints 1 = .ok (.istore_n 2, 1) := by decide +kernel
theorem dX3_turningPoints_2 : decode cX3_turningPoints 2 = .ok (.iconst 0, 1) := by decide +kernel
theorem dX3_turningPoints_3 : decode cX3_turningPoints 3 = .ok (.istore_n 3, 1) := by decide +kernel
theorem dX3_turningPoints_4 : decode cX3_turningPoints 4 = .ok (.iload_n 3, 1) := by decide +kernel
theorem dX3_turningPoints_5 : decode cX3_turningPoints 5 = .ok (.aload_n 0, 1) := by decide +kernel
theorem dX3_turningPoints_6 : decode cX3_turningPoints 6 = .ok (.getfield 9, 3) := by decide +kernel
theorem dX3_turningPoints_9 : decode cX3_turningPoints 9 = .ok (.invokevirtual 62, 3) := by decide +kernel
theorem dX3_turningPoints_12 : decode cX3_turningPoints 12 = .ok (.if_icmp .ge 38, 3) := by decide +kernel
theorem dX3_turningPoints_15 : decode cX3_turningPoints 15 = .ok (.aload_n 0, 1) := by decide +kernel
theorem dX3_turningPoints_16 : decode cX3_turningPoints 16 = .ok (.getfield 9, 3) := by decide +kernel
theorem dX3_turningPoints_19 : decode cX3_turningPoints 19 = .ok (.iload_n 1, 1) := by decide +kernel
theorem dX3_turningPoints_20 : decode cX3_turningPoints 20 = .ok (.iconst 1, 1) := by decide +kernel
theorem dX3_turningPoints_21 : decode cX3_turningPoints 21 = .ok (.iload_n 3, 1) := by decide +kernel
theorem dX3_turningPoints_22 : decode cX3_turningPoints 22 = .ok (.ishl, 1) := by decide +kernel
theorem dX3_turningPoints_23 : decode cX3_turningPoints 23 = .ok (.ixor, 1) := by decide +kernel
theorem dX3_turningPoints_24 : decode cX3_turningPoints 24 = .ok (.invokevirtual 61, 3) := by decide +kernel
theorem dX3_turningPoints_27 : decode cX3_turningPoints 27 = .ok (.aload_n 0, 1) := by decide +kernel
theorem dX3_turningPoints_28 : decode cX3_turningPoints 28 = .ok (.getfield 9, 3) := by decide +kernel
theorem dX3_turningPoints_31 : decode cX3_turningPoints 31 = .ok (.iload_n 1, 1) := by decide +kernel
theorem dX3_turningPoints_32 : decode cX3_turningPoints 32 = .ok (.invokevirtual 61, 3) := by decide +kernel
theorem dX3_turningPoints_35 : decode cX3_turningPoints 35 = .ok (.if_icmp .eq 9, 3) := by decide +kernel
theorem dX3_turningPoints_38 : decode cX3_turningPoints 38 = .ok (.iload_n 2, 1) := by decide +kernel
theorem dX3_turningPoints_39 : decode cX3_turningPoints 39 = .ok (.iconst 1, 1) := by decide +kernel
theorem dX3_turningPoints_40 : decode cX3_turningPoints 40 = .ok (.iload_n 3, 1) := by decide +kernel
theorem dX3_turningPoints_41 : decode cX3_turningPoints 41 = .ok (.ishl, 1) := by decide +kernel
theorem dX3_turningPoints_42 : decode cX3_turningPoints 42 = .ok (.ior, 1) := by decide +kernel
theorem dX3_turningPoints_43 : decode cX3_turningPoints 43 = .ok (.istore_n 2, 1) := by decide +kernel
theorem dX3_turningPoints_44 : decode cX3_turningPoints 44 = .ok (.iinc 3 1, 3) := by decide +kernel
theorem dX3_turningPoints_47 : decode cX3_turningPoints 47 = .ok (.goto (-43), 3) := by decide +kernel
theorem dX3_turningPoints_50 : decode cX3_turningPoints 50 = .ok (.iload_n 2, 1) := by decide +kernel
theorem dX3_turningPoints_51 : decode cX3_turningPoints 51 = .ok (.ireturn, 1) := by decide +kernel
theorem dX3_likely_0 : decode cX3_likely 0 = .ok (.iload_n 2, 1) := by decide +kernel
theorem dX3_likely_1 : decode cX3_likely 1 = .ok (.invokestatic 37, 3) := by decide +kernel
theorem dX3_likely_4 : decode cX3_likely 4 = .ok (.istore 5, 2) := by decide +kernel
theorem dX3_likely_6 : decode cX3_likely 6 = .ok (.lconst 0, 1) := by decide +kernel
theorem dX3_likely_7 : decode cX3_likely 7 = .ok (.lstore 6, 2) := by decide +kernel
theorem dX3_likely_9 : decode cX3_likely 9 = .ok (.iconst 0, 1) := by decide +kernel
theorem dX3_likely_10 : decode cX3_likely 10 = .ok (.istore 8, 2) := by decide +kernel
theorem dX3_likely_12 : decode cX3_likely 12 = .ok (.iload 8, 2) := by decide +kernel
theorem dX3_likely_14 : decode cX3_likely 14 = .ok (.aload_n 0, 1) := by decide +kernel
theorem dX3_likely_15 : decode cX3_likely 15 = .ok (.getfield 9, 3) := by decide +kernel
theorem dX3_likely_18 : decode cX3_likely 18 = .ok (.invokevirtual 15, 3) := by decide +kernel
theorem dX3_likely_21 : decode cX3_likely 21 = .ok (.if_icmp .ge 79, 3) := by decide +kernel
theorem dX3_likely_24 : decode cX3_likely 24 = .ok (.iload_n 1, 1) := by decide +kernel
theorem dX3_likely_25 : decode cX3_likely 25 = .ok (.iload 8, 2) := by decide +kernel
theorem dX3_likely_27 : decode cX3_likely 27 = .ok (.ixor, 1) := by decide +kernel
theorem dX3_likely_28 : decode cX3_likely 28 = .ok (.iload_n 2, 1) := by decide +kernel
theorem dX3_likely_29 : decode cX3_likely 29 = .ok (.iconst (-1), 1) := by decide +kernel
theorem dX3_likely_30 : decode cX3_likely 30 = .ok (.ixor, 1) := by decide +kernel
theorem dX3_likely_31 : decode cX3_likely 31 = .ok (.iand, 1) := by decide +kernel
theorem dX3_likely_32 : decode cX3_likely 32 = .ok (.ifCond .ne 7, 3) := by decide +kernel
theorem dX3_likely_35 : decode cX3_likely 35 = .ok (.iconst 1, 1) := by decide +kernel
theorem dX3_likely_36 : decode cX3_likely 36 = .ok (.goto 4, 3) := by decide +kernel
theorem dX3_likely_39 : decode cX3_likely 39 = .ok (.iconst 0, 1) := by decide +kernel
theorem dX3_likely_40 : decode cX3_likely 40 = .ok (.istore 9, 2) := by decide +kernel
theorem dX3_likely_42 : decode cX3_likely 42 = .ok (.iload 9, 2) := by decide +kernel
theorem dX3_likely_44 : decode cX3_likely 44 = .ok (.ifCond .eq 50, 3) := by decide +kernel
theorem dX3_likely_47 : decode cX3_likely 47 = .ok (.aload_n 0, 1) := by decide +kernel
theorem dX3_likely_48 : decode cX3_likely 48 = .ok (.getfield 9, 3) := by decide +kernel
theorem dX3_likely_51 : decode cX3_likely 51 = .ok (.iload 8, 2) := by decide +kernel
theorem dX3_likely_53 : decode cX3_likely 53 = .ok (.invokevirtual 61, 3) := by decide +kernel
theorem dX3_likely_56 : decode cX3_likely 56 = .ok (.iload 4, 2) := by decide +kernel
theorem dX3_likely_58 : decode cX3_likely 58 = .ok (.if_icmp .ne 36, 3) := by decide +kernel
theorem dX3_likely_61 : decode cX3_likely 61 = .ok (.iload 8, 2) := by decide +kernel
theorem dX3_likely_63 : decode cX3_likely 63 = .ok (.iload_n 2, 1) := by decide +kernel
theorem dX3_likely_64 : decode cX3_likely 64 = .ok (.iand, 1) := by decide +kernel
theorem dX3_likely_65 : decode cX3_likely 65 = .ok (.invokestatic 37, 3) := by decide +kernel
theorem dX3_likely_68 : decode cX3_likely 68 = .ok (.istore 10, 2) := by decide +kernel
theorem dX3_likely_70 : decode cX3_likely 70 = .ok (.lload 6, 2) := by decide +kernel
theorem dX3_likely_72 : decode cX3_likely 72 = .ok (.iload_n 3, 1) := by decide +kernel
theorem dX3_likely_73 : decode cX3_likely 73 = .ok (.iload 10, 2) := by decide +kernel
theorem dX3_likely_75 : decode cX3_likely 75 = .ok (.invokestatic 65, 3) := by decide +kernel
theorem dX3_likely_78 : decode cX3_likely 78 = .ok (.bipush 10, 2) := by decide +kernel
theorem dX3_likely_80 : decode cX3_likely 80 = .ok (.iload_n 3, 1) := by decide +kernel
theorem dX3_likely_81 : decode cX3_likely 81 = .ok (.isub, 1) := by decide +kernel
theorem dX3_likely_82 : decode cX3_likely 82 = .ok (.iload 5, 2) := by decide +kernel
theorem dX3_likely_84 : decode cX3_likely 84 = .ok (.iload 10, 2) := by decide +kernel
theorem dX3_likely_86 : decode cX3_likely 86 = .ok (.isub, 1) := by decide +kernel
theorem dX3_likely_87 : decode cX3_likely 87 = .ok (.invokestatic 65, 3) := by decide +kernel
theorem dX3_likely_90 : decode cX3_likely 90 = .ok (.lmul, 1) := by decide +kernel
theorem dX3_likely_91 : decode cX3_likely 91 = .ok (.ladd, 1) := by decide +kernel
theorem dX3_likely_92 : decode cX3_likely 92 = .ok (.lstore 6, 2) := by decide +kernel
theorem dX3_likely_94 : decode cX3_likely 94 = .ok (.iinc 8 1, 3) := by decide +kernel
theorem dX3_likely_97 : decode cX3_likely 97 = .ok (.goto (-85), 3) := by decide +kernel
theorem dX3_likely_100 : decode cX3_likely 100 = .ok (.lload 6, 2) := by decide +kernel
theorem dX3_likely_102 : decode cX3_likely 102 = .ok (.lreturn, 1) := by decide +kernel
theorem dX4_init_0 : decode cX4_init 0 = .ok (.aload_n 0, 1) := by decide +kernel
theorem dX4_init_1 : decode cX4_init 1 = .ok (.invokespecial 3, 3) := by decide +kernel
theorem dX4_init_4 : decode cX4_init 4 = .ok (.aload_n 0, 1) := by decide +kernel
theorem dX4_init_5 : decode cX4_init 5 = .ok (.iconst 2, 1) := by decide +kernel
theorem dX4_init_6 : decode cX4_init 6 = .ok (.newarray .int, 2) := by decide +kernel
theorem dX4_init_8 : decode cX4_init 8 = .ok (.putfield 9, 3) := by decide +kernel
theorem dX4_init_11 : decode cX4_init 11 = .ok (.aload_n 0, 1) := by decide +kernel
theorem dX4_init_12 : decode cX4_init 12 = .ok (.aload_n 1, 1) := by decide +kernel
theorem dX4_init_13 : decode cX4_init 13 = .ok (.putfield 15, 3) := by decide +kernel
theorem dX4_init_16 : decode cX4_init 16 = .ok (.return_, 1) := by decide +kernel
theorem dX4_nearest_0 : decode cX4_nearest 0 = .ok (.iconst (-1), 1) := by decide +kernel
theorem dX4_nearest_1 : decode cX4_nearest 1 = .ok (.istore_n 3, 1) := by decide +kernel
theorem dX4_nearest_2 : decode cX4_nearest 2 = .ok (.iconst 0, 1) := by decide +kernel
theorem dX4_nearest_3 : decode cX4_nearest 3 = .ok (.istore 4, 2) := by decide +kernel
theorem dX4_nearest_5 : decode cX4_nearest 5 = .ok (.iconst 0, 1) := by decide +kernel
theorem dX4_nearest_6 : decode cX4_nearest 6 = .ok (.istore 5, 2) := by decide +kernel
theorem dX4_nearest_8 : decode cX4_nearest 8 = .ok (.iload 5, 2) := by decide +kernel
theorem dX4_nearest_10 : decode cX4_nearest 10 = .ok (.aload_n 0, 1) := by decide +kernel
theorem dX4_nearest_11 : decode cX4_nearest 11 = .ok (.getfield 15, 3) := by decide +kernel
theorem dX4_nearest_14 : decode cX4_nearest 14 = .ok (.invokevirtual 19, 3) := by decide +kernel
theorem dX4_nearest_17 : decode cX4_nearest 17 = .ok (.if_icmp .ge 57, 3) := by decide +kernel
theorem dX4_nearest_20 : decode cX4_nearest 20 = .ok (.aload_n 0, 1) := by decide +kernel
theorem dX4_nearest_21 : decode cX4_nearest 21 = .ok (.getfield 15, 3) := by decide +kernel
theorem dX4_nearest_24 : decode cX4_nearest 24 = .ok (.getfield 25, 3) := by decide +kernel
theorem dX4_nearest_27 : decode cX4_nearest 27 = .ok (.iload_n 1, 1) := by decide +kernel
theorem dX4_nearest_28 : decode cX4_nearest 28 = .ok (.iload 5, 2) := by decide +kernel
theorem dX4_nearest_30 : decode cX4_nearest 30 = .ok (.ixor, 1) := by decide +kernel
theorem dX4_nearest_31 : decode cX4_nearest 31 = .ok (.invokevirtual 29, 3) := by decide +kernel
theorem dX4_nearest_34 : decode cX4_nearest 34 = .ok (.istore 6, 2) := by decide +kernel
theorem dX4_nearest_36 : decode cX4_nearest 36 = .ok (.iload_n 3, 1) := by decide +kernel
theorem dX4_nearest_37 : decode cX4_nearest 37 = .ok (.iconst (-1), 1) := by decide +kernel
theorem dX4_nearest_38 : decode cX4_nearest 38 = .ok (.if_icmp .eq 10, 3) := by decide +kernel
theorem dX4_nearest_41 : decode cX4_nearest 41 = .ok (.iload 6, 2) := by decide +kernel
theorem dX4_nearest_43 : decode cX4_nearest 43 = .ok (.iload 4, 2) := by decide +kernel
theorem dX4_nearest_45 : decode cX4_nearest 45 = .ok (.if_icmp .ge 23, 3) := by decide +kernel
theorem dX4_nearest_48 : decode cX4_nearest 48 = .ok (.aload_n 0, 1) := by decide +kernel
theorem dX4_nearest_49 : decode cX4_nearest 49 = .ok (.getfield 15, 3) := by decide +kernel
theorem dX4_nearest_52 : decode cX4_nearest 52 = .ok (.iload 5, 2) := by decide +kernel
theorem dX4_nearest_54 : decode cX4_nearest 54 = .ok (.invokevirtual 35, 3) := by decide +kernel
theorem dX4_nearest_57 : decode cX4_nearest 57 = .ok (.iload_n 2, 1) := by decide +kernel
theorem dX4_nearest_58 : decode cX4_nearest 58 = .ok (.if_icmp .ne 10, 3) := by decide +kernel
theorem dX4_nearest_61 : decode cX4_nearest 61 = .ok (.iload 5, 2) := by decide +kernel
theorem dX4_nearest_63 : decode cX4_nearest 63 = .ok (.istore_n 3, 1) := by decide +kernel
theorem dX4_nearest_64 : decode cX4_nearest 64 = .ok (.iload 6, 2) := by decide +kernel
theorem dX4_nearest_66 : decode cX4_nearest 66 = .ok (.istore 4, 2) := by decide +kernel
theorem dX4_nearest_68 : decode cX4_nearest 68 = .ok (.iinc 5 1, 3) := by decide +kernel
theorem dX4_nearest_71 : decode cX4_nearest 71 = .ok (.goto (-63), 3) := by decide +kernel
theorem dX4_nearest_74 : decode cX4_nearest 74 = .ok (.iload_n 3, 1) := by decide +kernel
theorem dX4_nearest_75 : decode cX4_nearest 75 = .ok (.ireturn, 1) := by decide +kernel
theorem dX4_fewestSuits_0 : decode cX4_fewestSuits 0 = .ok (.aload_n 0, 1) := by decide +kernel
theorem dX4_fewestSuits_1 : decode cX4_fewestSuits 1 = .ok (.getfield 15, 3) := by decide +kernel
theorem dX4_fewestSuits_4 : decode cX4_fewestSuits 4 = .ok (.iload_n 1, 1) := by decide +kernel
theorem dX4_fewestSuits_5 : decode cX4_fewestSuits 5 = .ok (.invokevirtual 35, 3) := by decide +kernel
theorem dX4_fewestSuits_8 : decode cX4_fewestSuits 8 = .ok (.iload_n 2, 1) := by decide +kernel
theorem dX4_fewestSuits_9 : decode cX4_fewestSuits 9 = .ok (.if_icmp .ne 5, 3) := by decide +kernel
theorem dX4_fewestSuits_12 : decode cX4_fewestSuits 12 = .ok (.iconst 0, 1) := by decide +kernel
theorem dX4_fewestSuits_13 : decode cX4_fewestSuits 13 = .ok (.ireturn, 1) := by decide +kernel
theorem dX4_fewestSuits_14 : decode cX4_fewestSuits 14 = .ok (.iconst 0, 1) := by decide +kernel
theorem dX4_fewestSuits_15 : decode cX4_fewestSuits 15 = .ok (.istore_n 3, 1) := by decide +kernel
theorem dX4_fewestSuits_16 : decode cX4_fewestSuits 16 = .ok (.iload_n 3, 1) := by decide +kernel
theorem dX4_fewestSuits_17 : decode cX4_fewestSuits 17 = .ok (.aload_n 0, 1) := by decide +kernel
theorem dX4_fewestSuits_18 : decode cX4_fewestSuits 18 = .ok (.getfield 15, 3) := by decide +kernel
theorem dX4_fewestSuits_21 : decode cX4_fewestSuits 21 = .ok (.invokevirtual 19, 3) := by decide +kernel
theorem dX4_fewestSuits_24 : decode cX4_fewestSuits 24 = .ok (.if_icmp .ge 28, 3) := by decide +kernel
theorem dX4_fewestSuits_27 : decode cX4_fewestSuits 27 = .ok (.aload_n 0, 1) := by decide +kernel
theorem dX4_fewestSuits_28 : decode cX4_fewestSuits 28 = .ok (.iload_n 1, 1) := by decide +kernel
theorem dX4_fewestSuits_29 : decode cX4_fewestSuits 29 = .ok (.iload_n 3, 1) := by decide +kernel
theorem dX4_fewestSuits_30 : decode cX4_fewestSuits 30 = .ok (.invokevirtual 38, 3) := by decide +kernel
theorem dX4_fewestSuits_33 : decode cX4_fewestSuits 33 = .ok (.iload_n 2, 1) := by decide +kernel
theorem dX4_fewestSuits_34 : decode cX4_fewestSuits 34 = .ok (.if_icmp .ne 12, 3) := by decide +kernel
theorem dX4_fewestSuits_37 : decode cX4_fewestSuits 37 = .ok (.aload_n 0, 1) := by decide +kernel
theorem dX4_fewestSuits_38 : decode cX4_fewestSuits 38 = .ok (.getfield 9, 3) := by decide +kernel
theorem dX4_fewestSuits_41 : decode cX4_fewestSuits 41 = .ok (.iconst 0, 1) := by decide +kernel
theorem dX4_fewestSuits_42 : decode cX4_fewestSuits 42 = .ok (.iload_n 3, 1) := by decide +kernel
theorem dX4_fewestSuits_43 : decode cX4_fewestSuits 43 = .ok (.iastore, 1) := by decide +kernel
theorem dX4_fewestSuits_44 : decode cX4_fewestSuits 44 = .ok (.iconst 1, 1) := by decide +kernel
theorem dX4_fewestSuits_45 : decode cX4_fewestSuits 45 = .ok (.ireturn, 1) := by decide +kernel
theorem dX4_fewestSuits_46 : decode cX4_fewestSuits 46 = .ok (.iinc 3 1, 3) := by decide +kernel
theorem dX4_fewestSuits_49 : decode cX4_fewestSuits 49 = .ok (.goto (-33), 3) := by decide +kernel
theorem dX4_fewestSuits_52 : decode cX4_fewestSuits 52 = .ok (.iconst 0, 1) := by decide +kernel
theorem dX4_fewestSuits_53 : decode cX4_fewestSuits 53 = .ok (.istore_n 3, 1) := by decide +kernel
theorem dX4_fewestSuits_54 : decode cX4_fewestSuits 54 = .ok (.iload_n 3, 1) := by decide +kernel
theorem dX4_fewestSuits_55 : decode cX4_fewestSuits 55 = .ok (.aload_n 0, 1) := by decide +kernel
theorem dX4_fewestSuits_56 : decode cX4_fewestSuits 56 = .ok (.getfield 15, 3) := by decide +kernel
theorem dX4_fewestSuits_59 : decode cX4_fewestSuits 59 = .ok (.invokevirtual 19, 3) := by decide +kernel
theorem dX4_fewestSuits_62 : decode cX4_fewestSuits 62 = .ok (.if_icmp .ge 59, 3) := by decide +kernel
theorem dX4_fewestSuits_65 : decode cX4_fewestSuits 65 = .ok (.iconst 0, 1) := by decide +kernel
theorem dX4_fewestSuits_66 : decode cX4_fewestSuits 66 = .ok (.istore 4, 2) := by decide +kernel
theorem dX4_fewestSuits_68 : decode cX4_fewestSuits 68 = .ok (.iload 4, 2) := by decide +kernel
theorem dX4_fewestSuits_70 : decode cX4_fewestSuits 70 = .ok (.aload_n 0, 1) := by decide +kernel
theorem dX4_fewestSuits_71 : decode cX4_fewestSuits 71 = .ok (.getfield 15, 3) := by decide +kernel
theorem dX4_fewestSuits_74 : decode cX4_fewestSuits 74 = .ok (.invokevirtual 19, 3) := by decide +kernel
theorem dX4_fewestSuits_77 : decode cX4_fewestSuits 77 = .ok (.if_icmp .ge 38, 3) := by decide +kernel
theorem dX4_fewestSuits_80 : decode cX4_fewestSuits 80 = .ok (.aload_n 0, 1) := by decide +kernel
theorem dX4_fewestSuits_81 : decode cX4_fewestSuits 81 = .ok (.iload_n 1, 1) := by decide +kernel
theorem dX4_fewestSuits_82 : decode cX4_fewestSuits 82 = .ok (.iload_n 3, 1) := by decide +kernel
theorem dX4_fewestSuits_83 : decode cX4_fewestSuits 83 = .ok (.iload 4, 2) := by decide +kernel
theorem dX4_fewestSuits_85 : decode cX4_fewestSuits 85 = .ok (.invokevirtual 42, 3) := by decide +kernel
theorem dX4_fewestSuits_88 : decode cX4_fewestSuits 88 = .ok (.iload_n 2, 1) := by decide +kernel
theorem dX4_fewestSuits_89 : decode cX4_fewestSuits 89 = .ok (.if_icmp .ne 20, 3) := by decide +kernel
theorem dX4_fewestSuits_92 : decode cX4_fewestSuits 92 = .ok (.aload_n 0, 1) := by decide +kernel
theorem dX4_fewestSuits_93 : decode cX4_fewestSuits 93 = .ok (.getfield 9, 3) := by decide +kernel
theorem dX4_fewestSuits_96 : decode cX4_fewestSuits 96 = .ok (.iconst 0, 1) := by decide +kernel
theorem dX4_fewestSuits_97 : decode cX4_fewestSuits 97 = .ok (.iload_n 3, 1) := by decide +kernel
theorem dX4_fewestSuits_98 : decode cX4_fewestSuits 98 = .ok (.iastore, 1) := by decide +kernel
theorem dX4_fewestSuits_99 : decode cX4_fewestSuits 99 = .ok (.aload_n 0, 1) := by decide +kernel
theorem dX4_fewestSuits_100 : decode cX4_fewestSuits 100 = .ok (.getfield 9, 3) := by decide +kernel
theorem dX4_fewestSuits_103 : decode cX4_fewestSuits 103 = .ok (.iconst 1, 1) := by decide +kernel
theorem dX4_fewestSuits_104 : decode cX4_fewestSuits 104 = .ok (.iload 4, 2) := by decide +kernel
theorem dX4_fewestSuits_106 : decode cX4_fewestSuits 106 = .ok (.iastore, 1) := by decide +kernel
theorem dX4_fewestSuits_107 : decode cX4_fewestSuits 107 = .ok (.iconst 2, 1) := by decide +kernel
theorem dX4_fewestSuits_108 : decode cX4_fewestSuits 108 = .ok (.ireturn, 1) := by decide +kernel
theorem dX4_fewestSuits_109 : decode cX4_fewestSuits 109 = .ok (.iinc 4 1, 3) := by decide +kernel
theorem dX4_fewestSuits_112 : decode cX4_fewestSuits 112 = .ok (.goto (-44), 3) := by decide +kernel
theorem dX4_fewestSuits_115 : decode cX4_fewestSuits 115 = .ok (.iinc 3 1, 3) := by decide +kernel
theorem dX4_fewestSuits_118 : decode cX4_fewestSuits 118 = .ok (.goto (-64), 3) := by decide +kernel
theorem dX4_fewestSuits_121 : decode cX4_fewestSuits 121 = .ok (.iconst (-1), 1) := by decide +kernel
theorem dX4_fewestSuits_122 : decode cX4_fewestSuits 122 = .ok (.ireturn, 1) := by decide +kernel
theorem dX4_suit_0 : decode cX4_suit 0 = .ok (.iload_n 1, 1) := by decide +kernel
theorem dX4_suit_1 : decode cX4_suit 1 = .ok (.ifCond .lt 21, 3) := by decide +kernel
theorem dX4_suit_4 : decode cX4_suit 4 = .ok (.iload_n 1, 1) := by decide +kernel
theorem dX4_suit_5 : decode cX4_suit 5 = .ok (.aload_n 0, 1) := by decide +kernel
theorem dX4_suit_6 : decode cX4_suit 6 = .ok (.getfield 9, 3) := by decide +kernel
theorem dX4_suit_9 : decode cX4_suit 9 = .ok (.arraylength, 1) := by decide +kernel
theorem dX4_suit_10 : decode cX4_suit 10 = .ok (.if_icmp .ge 12, 3) := by decide +kernel
theorem dX4_suit_13 : decode cX4_suit 13 = .ok (.aload_n 0, 1) := by decide +kernel
theorem dX4_suit_14 : decode cX4_suit 14 = .ok (.getfield 9, 3) := by decide +kernel
theorem dX4_suit_17 : decode cX4_suit 17 = .ok (.iload_n 1, 1) := by decide +kernel
theorem dX4_suit_18 : decode cX4_suit 18 = .ok (.iaload, 1) := by decide +kernel
theorem dX4_suit_19 : decode cX4_suit 19 = .ok (.goto 4, 3) := by decide +kernel
theorem dX4_suit_22 : decode cX4_suit 22 = .ok (.iconst (-1), 1) := by decide +kernel
theorem dX4_suit_23 : decode cX4_suit 23 = .ok (.ireturn, 1) := by decide +kernel
theorem dX4_safeDeed_0 : decode cX4_safeDeed 0 = .ok (.iconst 0, 1) := by decide +kernel
theorem dX4_safeDeed_1 : decode cX4_safeDeed 1 = .ok (.istore_n 3, 1) := by decide +kernel
theorem dX4_safeDeed_2 : decode cX4_safeDeed 2 = .ok (.iload_n 3, 1) := by decide +kernel
theorem dX4_safeDeed_3 : decode cX4_safeDeed 3 = .ok (.aload_n 0, 1) := by decide +kernel
theorem dX4_safeDeed_4 : decode cX4_safeDeed 4 = .ok (.getfield 15, 3) := by decide +kernel
theorem dX4_safeDeed_7 : decode cX4_safeDeed 7 = .ok (.invokevirtual 19, 3) := by decide +kernel
theorem dX4_safeDeed_10 : decode cX4_safeDeed 10 = .ok (.if_icmp .ge 31, 3) := by decide +kernel
theorem dX4_safeDeed_13 : decode cX4_safeDeed 13 = .ok (.aload_n 0, 1) := by decide +kernel
theorem dX4_safeDeed_14 : decode cX4_safeDeed 14 = .ok (.iload_n 1, 1) := by decide +kernel
theorem dX4_safeDeed_15 : decode cX4_safeDeed 15 = .ok (.iload_n 3, 1) := by decide +kernel
theorem dX4_safeDeed_16 : decode cX4_safeDeed 16 = .ok (.invokevirtual 38, 3) := by decide +kernel
theorem dX4_safeDeed_19 : decode cX4_safeDeed 19 = .ok (.iload_n 2, 1) := by decide +kernel
theorem dX4_safeDeed_20 : decode cX4_safeDeed 20 = .ok (.if_icmp .ne 15, 3) := by decide +kernel
theorem dX4_safeDeed_23 : decode cX4_safeDeed 23 = .ok (.aload_n 0, 1) := by decide +kernel
theorem dX4_safeDeed_24 : decode cX4_safeDeed 24 = .ok (.iload_n 1, 1) := by decide +kernel
theorem dX4_safeDeed_25 : decode cX4_safeDeed 25 = .ok (.iload_n 3, 1) := by decide +kernel
theorem dX4_safeDeed_26 : decode cX4_safeDeed 26 = .ok (.iload_n 2, 1) := by decide +kernel
theorem dX4_safeDeed_27 : decode cX4_safeDeed 27 = .ok (.invokevirtual 46, 3) := by decide +kernel
theorem dX4_safeDeed_30 : decode cX4_safeDeed 30 = .ok (.ifCond .eq 5, 3) := by decide +kernel
theorem dX4_safeDeed_33 : decode cX4_safeDeed 33 = .ok (.iload_n 3, 1) := by decide +kernel
theorem dX4_safeDeed_34 : decode cX4_safeDeed 34 = .ok (.ireturn, 1) := by decide +kernel
theorem dX4_safeDeed_35 : decode cX4_safeDeed 35 = .ok (.iinc 3 1, 3) := by decide +kernel
theorem dX4_safeDeed_38 : decode cX4_safeDeed 38 = .ok (.goto (-36), 3) := by decide +kernel
theorem dX4_safeDeed_41 : decode cX4_safeDeed 41 = .ok (.iconst (-1), 1) := by decide +kernel
theorem dX4_safeDeed_42 : decode cX4_safeDeed 42 = .ok (.ireturn, 1) := by decide +kernel
theorem dX4_isSafe_0 : decode cX4_isSafe 0 = .ok (.iconst 0, 1) := by decide +kernel
theorem dX4_isSafe_1 : decode cX4_isSafe 1 = .ok (.istore 4, 2) := by decide +kernel
theorem dX4_isSafe_3 : decode cX4_isSafe 3 = .ok (.iload 4, 2) := by decide +kernel
theorem dX4_isSafe_5 : decode cX4_isSafe 5 = .ok (.aload_n 0, 1) := by decide +kernel
theorem dX4_isSafe_6 : decode cX4_isSafe 6 = .ok (.getfield 15, 3) := by decide +kernel
theorem dX4_isSafe_9 : decode cX4_isSafe 9 = .ok (.invokevirtual 19, 3) := by decide +kernel
theorem dX4_isSafe_12 : decode cX4_isSafe 12 = .ok (.if_icmp .ge 23, 3) := by decide +kernel
theorem dX4_isSafe_15 : decode cX4_isSafe 15 = .ok (.aload_n 0, 1) := by decide +kernel
theorem dX4_isSafe_16 : decode cX4_isSafe 16 = .ok (.iload_n 1, 1) := by decide +kernel
theorem dX4_isSafe_17 : decode cX4_isSafe 17 = .ok (.iload_n 2, 1) := by decide +kernel
theorem dX4_isSafe_18 : decode cX4_isSafe 18 = .ok (.iload 4, 2) := by decide +kernel
theorem dX4_isSafe_20 : decode cX4_isSafe 20 = .ok (.invokevirtual 42, 3) := by decide +kernel
theorem dX4_isSafe_23 : decode cX4_isSafe 23 = .ok (.iload_n 3, 1) := by decide +kernel
theorem dX4_isSafe_24 : decode cX4_isSafe 24 = .ok (.if_icmp .eq 5, 3) := by decide +kernel
theorem dX4_isSafe_27 : decode cX4_isSafe 27 = .ok (.iconst 0, 1) := by decide +kernel
theorem dX4_isSafe_28 : decode cX4_isSafe 28 = .ok (.ireturn, 1) := by decide +kernel
theorem dX4_isSafe_29 : decode cX4_isSafe 29 = .ok (.iinc 4 1, 3) := by decide +kernel
theorem dX4_isSafe_32 : decode cX4_isSafe 32 = .ok (.goto (-29), 3) := by decide +kernel
theorem dX4_isSafe_35 : decode cX4_isSafe 35 = .ok (.iconst 1, 1) := by decide +kernel
theorem dX4_isSafe_36 : decode cX4_isSafe 36 = .ok (.ireturn, 1) := by decide +kernel
theorem dX4_judgedBehind_0 : decode cX4_judgedBehind 0 = .ok (.aload_n 0, 1) := by decide +kernel
theorem dX4_judgedBehind_1 : decode cX4_judgedBehind 1 = .ok (.getfield 15, 3) := by decide +kernel
theorem dX4_judgedBehind_4 : decode cX4_judgedBehind 4 = .ok (.getfield 50, 3) := by decide +kernel
theorem dX4_judgedBehind_7 : decode cX4_judgedBehind 7 = .ok (.iload_n 1, 1) := by decide +kernel
theorem dX4_judgedBehind_8 : decode cX4_judgedBehind 8 = .ok (.iload_n 2, 1) := by decide +kernel
theorem dX4_judgedBehind_9 : decode cX4_judgedBehind 9 = .ok (.ixor, 1) := by decide +kernel
theorem dX4_judgedBehind_10 : decode cX4_judgedBehind 10 = .ok (.invokevirtual 29, 3) := by decide +kernel
theorem dX4_judgedBehind_13 : decode cX4_judgedBehind 13 = .ok (.aload_n 0, 1) := by decide +kernel
theorem dX4_judgedBehind_14 : decode cX4_judgedBehind 14 = .ok (.getfield 15, 3) := by decide +kernel
theorem dX4_judgedBehind_17 : decode cX4_judgedBehind 17 = .ok (.iload_n 1, 1) := by decide +kernel
theorem dX4_judgedBehind_18 : decode cX4_judgedBehind 18 = .ok (.invokevirtual 53, 3) := by decide +kernel
theorem dX4_judgedBehind_21 : decode cX4_judgedBehind 21 = .ok (.if_icmp .ge 7, 3) := by decide +kernel
theorem dX4_judgedBehind_24 : decode cX4_judgedBehind 24 = .ok (.iconst 1, 1) := by decide +kernel
theorem dX4_judgedBehind_25 : decode cX4_judgedBehind 25 = .ok (.goto 4, 3) := by decide +kernel
theorem dX4_judgedBehind_28 : decode cX4_judgedBehind 28 = .ok (.iconst 0, 1) := by decide +kernel
theorem dX4_judgedBehind_29 : decode cX4_judgedBehind 29 = .ok (.istore_n 3, 1) := by decide +kernel
theorem dX4_judgedBehind_30 : decode cX4_judgedBehind 30 = .ok (.aload_n 0, 1) := by decide +kernel
theorem dX4_judgedBehind_31 : decode cX4_judgedBehind 31 = .ok (.getfield 15, 3) := by decide +kernel
theorem dX4_judgedBehind_34 : decode cX4_judgedBehind 34 = .ok (.iload_n 3, 1) := by decide +kernel
theorem dX4_judgedBehind_35 : decode cX4_judgedBehind 35 = .ok (.ifCond .eq 7, 3) := by decide +kernel
theorem dX4_judgedBehind_38 : decode cX4_judgedBehind 38 = .ok (.iload_n 2, 1) := by decide +kernel
theorem dX4_judgedBehind_39 : decode cX4_judgedBehind 39 = .ok (.goto 4, 3) := by decide +kernel
theorem dX4_judgedBehind_42 : decode cX4_judgedBehind 42 = .ok (.iload_n 1, 1) := by decide +kernel
theorem dX4_judgedBehind_43 : decode cX4_judgedBehind 43 = .ok (.invokevirtual 35, 3) := by decide +kernel
theorem dX4_judgedBehind_46 : decode cX4_judgedBehind 46 = .ok (.ireturn, 1) := by decide +kernel
theorem dX4_judgedBehindBoth_0 : decode cX4_judgedBehindBoth 0 = .ok (.aload_n 0, 1) := by decide +kernel
theorem dX4_judgedBehindBoth_1 : decode cX4_judgedBehindBoth 1 = .ok (.getfield 15, 3) := by decide +kernel
theorem dX4_judgedBehindBoth_4 : decode cX4_judgedBehindBoth 4 = .ok (.iload_n 1, 1) := by decide +kernel
theorem dX4_judgedBehindBoth_5 : decode cX4_judgedBehindBoth 5 = .ok (.invokevirtual 53, 3) := by decide +kernel
theorem dX4_judgedBehindBoth_8 : decode cX4_judgedBehindBoth 8 = .ok (.aload_n 0, 1) := by decide +kernel
theorem dX4_judgedBehindBoth_9 : decode cX4_judgedBehindBoth 9 = .ok (.getfield 15, 3) := by decide +kernel
theorem dX4_judgedBehindBoth_12 : decode cX4_judgedBehindBoth 12 = .ok (.getfield 50, 3) := by decide +kernel
theorem dX4_judgedBehindBoth_15 : decode cX4_judgedBehindBoth 15 = .ok (.iload_n 1, 1) := by decide +kernel
theorem dX4_judgedBehindBoth_16 : decode cX4_judgedBehindBoth 16 = .ok (.iload_n 2, 1) := by decide +kernel
theorem dX4_judgedBehindBoth_17 : decode cX4_judgedBehindBoth 17 = .ok (.ixor, 1) := by decide +kernel
theorem dX4_judgedBehindBoth_18 : decode cX4_judgedBehindBoth 18 = .ok (.invokevirtual 29, 3) := by decide +kernel
theorem dX4_judgedBehindBoth_21 : decode cX4_judgedBehindBoth 21 = .ok (.invokestatic 56, 3) := by decide +kernel
theorem dX4_judgedBehindBoth_24 : decode cX4_judgedBehindBoth 24 = .ok (.istore 4, 2) := by decide +kernel
theorem dX4_judgedBehindBoth_26 : decode cX4_judgedBehindBoth 26 = .ok (.aload_n 0, 1) := by decide +kernel
theorem dX4_judgedBehindBoth_27 : decode cX4_judgedBehindBoth 27 = .ok (.getfield 15, 3) := by decide +kernel
theorem dX4_judgedBehindBoth_30 : decode cX4_judgedBehindBoth 30 = .ok (.getfield 50, 3) := by decide +kernel
theorem dX4_judgedBehindBoth_33 : decode cX4_judgedBehindBoth 33 = .ok (.iload_n 1, 1) := by decide +kernel
theorem dX4_judgedBehindBoth_34 : decode cX4_judgedBehindBoth 34 = .ok (.iload_n 3, 1) := by decide +kernel
theorem dX4_judgedBehindBoth_35 : decode cX4_judgedBehindBoth 35 = .ok (.ixor, 1) := by decide +kernel
theorem dX4_judgedBehindBoth_36 : decode cX4_judgedBehindBoth 36 = .ok (.invokevirtual 29, 3) := by decide +kernel
theorem dX4_judgedBehindBoth_39 : decode cX4_judgedBehindBoth 39 = .ok (.iload 4, 2) := by decide +kernel
theorem dX4_judgedBehindBoth_41 : decode cX4_judgedBehindBoth 41 = .ok (.if_icmp .ge 7, 3) := by decide +kernel
theorem dX4_judgedBehindBoth_44 : decode cX4_judgedBehindBoth 44 = .ok (.iconst 1, 1) := by decide +kernel
theorem dX4_judgedBehindBoth_45 : decode cX4_judgedBehindBoth 45 = .ok (.goto 4, 3) := by decide +kernel
theorem dX4_judgedBehindBoth_48 : decode cX4_judgedBehindBoth 48 = .ok (.iconst 0, 1) := by decide +kernel
theorem dX4_judgedBehindBoth_49 : decode cX4_judgedBehindBoth 49 = .ok (.istore 5, 2) := by decide +kernel
theorem dX4_judgedBehindBoth_51 : decode cX4_judgedBehindBoth 51 = .ok (.aload_n 0, 1) := by decide +kernel
theorem dX4_judgedBehindBoth_52 : decode cX4_judgedBehindBoth 52 = .ok (.iload 5, 2) := by decide +kernel
theorem dX4_judgedBehindBoth_54 : decode cX4_judgedBehindBoth 54 = .ok (.ifCond .eq 7, 3) := by decide +kernel
theorem dX4_judgedBehindBoth_57 : decode cX4_judgedBehindBoth 57 = .ok (.iload_n 3, 1) := by decide +kernel
theorem dX4_judgedBehindBoth_58 : decode cX4_judgedBehindBoth 58 = .ok (.goto 4, 3) := by decide +kernel
theorem dX4_judgedBehindBoth_61 : decode cX4_judgedBehindBoth 61 = .ok (.iload_n 1, 1) := by decide +kernel
theorem dX4_judgedBehindBoth_62 : decode cX4_judgedBehindBoth 62 = .ok (.iload_n 2, 1) := by decide +kernel
theorem dX4_judgedBehindBoth_63 : decode cX4_judgedBehindBoth 63 = .ok (.invokevirtual 38, 3) := by decide +kernel
theorem dX4_judgedBehindBoth_66 : decode cX4_judgedBehindBoth 66 = .ok (.ireturn, 1) := by decide +kernel
theorem dX5_init_0 : decode cX5_init 0 = .ok (.aload_n 0, 1) := by decide +kernel
theorem dX5_init_1 : decode cX5_init 1 = .ok (.invokespecial 3, 3) := by decide +kernel
theorem dX5_init_4 : decode cX5_init 4 = .ok (.aload_n 0, 1) := by decide +kernel
theorem dX5_init_5 : decode cX5_init 5 = .ok (.bipush 12, 2) := by decide +kernel
theorem dX5_init_7 : decode cX5_init 7 = .ok (.newarray .int, 2) := by decide +kernel
theorem dX5_init_9 : decode cX5_init 9 = .ok (.putfield 9, 3) := by decide +kernel
theorem dX5_init_12 : decode cX5_init 12 = .ok (.aload_n 0, 1) := by decide +kernel
theorem dX5_init_13 : decode cX5_init 13 = .ok (.bipush 12, 2) := by decide +kernel
theorem dX5_init_15 : decode cX5_init 15 = .ok (.newarray .int, 2) := by decide +kernel
theorem dX5_init_17 : decode cX5_init 17 = .ok (.putfield 15, 3) := by decide +kernel
theorem dX5_init_20 : decode cX5_init 20 = .ok (.aload_n 0, 1) := by decide +kernel
theorem dX5_init_21 : decode cX5_init 21 = .ok (.bipush 12, 2) := by decide +kernel
theorem dX5_init_23 : decode cX5_init 23 = .ok (.newarray .int, 2) := by decide +kernel
theorem dX5_init_25 : decode cX5_init 25 = .ok (.putfield 18, 3) := by decide +kernel
theorem dX5_init_28 : decode cX5_init 28 = .ok (.aload_n 0, 1) := by decide +kernel
theorem dX5_init_29 : decode cX5_init 29 = .ok (.bipush 12, 2) := by decide +kernel
theorem dX5_init_31 : decode cX5_init 31 = .ok (.newarray .boolean, 2) := by decide +kernel
theorem dX5_init_33 : decode cX5_init 33 = .ok (.putfield 21, 3) := by decide +kernel
theorem dX5_init_36 : decode cX5_init 36 = .ok (.aload_n 0, 1) := by decide +kernel
theorem dX5_init_37 : decode cX5_init 37 = .ok (.bipush 12, 2) := by decide +kernel
theorem dX5_init_39 : decode cX5_init 39 = .ok (.newarray .int, 2) := by decide +kernel
theorem dX5_init_41 : decode cX5_init 41 = .ok (.putfield 25, 3) := by decide +kernel
theorem dX5_init_44 : decode cX5_init 44 = .ok (.return_, 1) := by decide +kernel
theorem dX5_size_0 : decode cX5_size 0 = .ok (.aload_n 0, 1) := by decide +kernel
theorem dX5_size_1 : decode cX5_size 1 = .ok (.getfield 28, 3) := by decide +kernel
theorem dX5_size_4 : decode cX5_size 4 = .ok (.ireturn, 1) := by decide +kernel
theorem dX5_isEmpty_0 : decode cX5_isEmpty 0 = .ok (.aload_n 0, 1) := by decide +kernel
theorem dX5_isEmpty_1 : decode cX5_isEmpty 1 = .ok (.getfield 28, 3) := by decide +kernel
theorem dX5_isEmpty_4 : decode cX5_isEmpty 4 = .ok (.ifCond .ne 7, 3) := by decide +kernel
theorem dX5_isEmpty_7 : decode cX5_isEmpty 7 = .ok (.iconst 1, 1) := by decide +kernel
theorem dX5_isEmpty_8 : decode cX5_isEmpty 8 = .ok (.goto 4, 3) := by decide +kernel
theorem dX5_isEmpty_11 : decode cX5_isEmpty 11 = .ok (.iconst 0, 1) := by decide +kernel
theorem dX5_isEmpty_12 : decode cX5_isEmpty 12 = .ok (.ireturn, 1) := by decide +kernel
theorem dX5_has_0 : decode cX5_has 0 = .ok (.iload_n 1, 1) := by decide +kernel
theorem dX5_has_1 : decode cX5_has 1 = .ok (.ifCond .lt 15, 3) := by decide +kernel
theorem dX5_has_4 : decode cX5_has 4 = .ok (.iload_n 1, 1) := by decide +kernel
theorem dX5_has_5 : decode cX5_has 5 = .ok (.aload_n 0, 1) := by decide +kernel
theorem dX5_has_6 : decode cX5_has 6 = .ok (.getfield 28, 3) := by decide +kernel
theorem dX5_has_9 : decode cX5_has 9 = .ok (.if_icmp .ge 7, 3) := by decide +kernel
theorem dX5_has_12 : decode cX5_has 12 = .ok (.iconst 1, 1) := by decide +kernel
theorem dX5_has_13 : decode cX5_has 13 = .ok (.goto 4, 3) := by decide +kernel
theorem dX5_has_16 : decode cX5_has 16 = .ok (.iconst 0, 1) := by decide +kernel
theorem dX5_has_17 : decode cX5_has 17 = .ok (.ireturn, 1) := by decide +kernel
theorem dX5_allCases_0 : decode cX5_allCases 0 = .ok (.iconst 1, 1) := by decide +kernel
theorem dX5_allCases_1 : decode cX5_allCases 1 = .ok (.aload_n 0, 1) := by decide +kernel
theorem dX5_allCases_2 : decode cX5_allCases 2 = .ok (.getfield 28, 3) := by decide +kernel
theorem dX5_allCases_5 : decode cX5_allCases 5 = .ok (.ishl, 1) := by decide +kernel
theorem dX5_allCases_6 : decode cX5_allCases 6 = .ok (.iconst 1, 1) := by decide +kernel
theorem dX5_allCases_7 : decode cX5_allCases 7 = .ok (.isub, 1) := by decide +kernel
theorem dX5_allCases_8 : decode cX5_allCases 8 = .ok (.ireturn, 1) := by decide +kernel
theorem dX5_deedOf_0 : decode cX5_deedOf 0 = .ok (.iload_n 1, 1) := by decide +kernel
theorem dX5_deedOf_1 : decode cX5_deedOf 1 = .ok (.ifCond .lt 20, 3) := by decide +kernel
theorem dX5_deedOf_4 : decode cX5_deedOf 4 = .ok (.iload_n 1, 1) := by decide +kernel
theorem dX5_deedOf_5 : decode cX5_deedOf 5 = .ok (.aload_n 0, 1) := by decide +kernel
theorem dX5_deedOf_6 : decode cX5_deedOf 6 = .ok (.getfield 28, 3) := by decide +kernel
theorem dX5_deedOf_9 : decode cX5_deedOf 9 = .ok (.if_icmp .ge 12, 3) := by decide +kernel
theorem dX5_deedOf_12 : decode cX5_deedOf 12 = .ok (.aload_n 0, 1) := by decide +kernel
theorem dX5_deedOf_13 : decode cX5_deedOf 13 = .ok (.getfield 9, 3) := by decide +kernel
theorem dX5_deedOf_16 : decode cX5_deedOf 16 = .ok (.iload_n 1, 1) := by decide +kernel
theorem dX5_deedOf_17 : decode cX5_deedOf 17 = .ok (.iaload, 1) := by decide +kernel
theorem dX5_deedOf_18 : decode cX5_deedOf 18 = .ok (.goto 4, 3) := by decide +kernel
theorem dX5_deedOf_21 : decode cX5_deedOf 21 = .ok (.iconst (-1), 1) := by decide +kernel
theorem dX5_deedOf_22 : decode cX5_deedOf 22 = .ok (.ireturn, 1) := by decide +kernel
theorem dX5_firstJudgmentOf_0 : decode cX5_firstJudgmentOf 0 = .ok (.aload_n 0, 1) := by decide +kernel
theorem dX5_firstJudgmentOf_1 : decode cX5_firstJudgmentOf 1 = .ok (.iload_n 1, 1) := by decide +kernel
theorem dX5_firstJudgmentOf_2 : decode cX5_firstJudgmentOf 2 = .ok (.invokevirtual 32, 3) := by decide +kernel
theorem dX5_firstJudgmentOf_5 : decode cX5_firstJudgmentOf 5 = .ok (.ifCond .eq 12, 3) := by decide +kernel
theorem dX5_firstJudgmentOf_8 : decode cX5_firstJudgmentOf 8 = .ok (.aload_n 0, 1) := by decide +kernel
theorem dX5_firstJudgmentOf_9 : decode cX5_firstJudgmentOf 9 = .ok (.getfield 15, 3) := by decide +kernel
theorem dX5_firstJudgmentOf_12 : decode cX5_firstJudgmentOf 12 = .ok (.iload_n 1, 1) := by decide +kernel
theorem dX5_firstJudgmentOf_13 : decode cX5_firstJudgmentOf 13 = .ok (.iaload, 1) := by decide +kernel
theorem dX5_firstJudgmentOf_14 : decode cX5_firstJudgmentOf 14 = .ok (.goto 4, 3) := by decide +kernel
theorem dX5_firstJudgmentOf_17 : decode cX5_firstJudgmentOf 17 = .ok (.iconst (-1), 1) := by decide +kernel
theorem dX5_firstJudgmentOf_18 : decode cX5_firstJudgmentOf 18 = .ok (.ireturn, 1) := by decide +kernel
theorem dX5_judgmentOf_0 : decode cX5_judgmentOf 0 = .ok (.iload_n 1, 1) := by decide +kernel
theorem dX5_judgmentOf_1 : decode cX5_judgmentOf 1 = .ok (.ifCond .lt 11, 3) := by decide +kernel
theorem dX5_judgmentOf_4 : decode cX5_judgmentOf 4 = .ok (.iload_n 1, 1) := by decide +kernel
theorem dX5_judgmentOf_5 : decode cX5_judgmentOf 5 = .ok (.aload_n 0, 1) := by decide +kernel
theorem dX5_judgmentOf_6 : decode cX5_judgmentOf 6 = .ok (.getfield 28, 3) := by decide +kernel
theorem dX5_judgmentOf_9 : decode cX5_judgmentOf 9 = .ok (.if_icmp .lt 5, 3) := by decide +kernel
theorem dX5_judgmentOf_12 : decode cX5_judgmentOf 12 = .ok (.iconst (-1), 1) := by decide +kernel
theorem dX5_judgmentOf_13 : decode cX5_judgmentOf 13 = .ok (.ireturn, 1) := by decide +kernel
theorem dX5_judgmentOf_14 : decode cX5_judgmentOf 14 = .ok (.aload_n 0, 1) := by decide +kernel
theorem dX5_judgmentOf_15 : decode cX5_judgmentOf 15 = .ok (.getfield 21, 3) := by decide +kernel
theorem dX5_judgmentOf_18 : decode cX5_judgmentOf 18 = .ok (.iload_n 1, 1) := by decide +kernel
theorem dX5_judgmentOf_19 : decode cX5_judgmentOf 19 = .ok (.baload, 1) := by decide +kernel
theorem dX5_judgmentOf_20 : decode cX5_judgmentOf 20 = .ok (.ifCond .eq 7, 3) := by decide +kernel
theorem dX5_judgmentOf_23 : decode cX5_judgmentOf 23 = .ok (.iconst 0, 1) := by decide +kernel
theorem dX5_judgmentOf_24 : decode cX5_judgmentOf 24 = .ok (.goto 9, 3) := by decide +kernel
theorem dX5_judgmentOf_27 : decode cX5_judgmentOf 27 = .ok (.aload_n 0, 1) := by decide +kernel
theorem dX5_judgmentOf_28 : decode cX5_judgmentOf 28 = .ok (.getfield 15, 3) := by decide +kernel
theorem dX5_judgmentOf_31 : decode cX5_judgmentOf 31 = .ok (.iload_n 1, 1) := by decide +kernel
theorem dX5_judgmentOf_32 : decode cX5_judgmentOf 32 = .ok (.iaload, 1) := by decide +kernel
theorem dX5_judgmentOf_33 : decode cX5_judgmentOf 33 = .ok (.ireturn, 1) := by decide +kernel
theorem dX5_yearOf_0 : decode cX5_yearOf 0 = .ok (.aload_n 0, 1) := by decide +kernel
theorem dX5_yearOf_1 : decode cX5_yearOf 1 = .ok (.iload_n 1, 1) := by decide +kernel
theorem dX5_yearOf_2 : decode cX5_yearOf 2 = .ok (.invokevirtual 32, 3) := by decide +kernel
theorem dX5_yearOf_5 : decode cX5_yearOf 5 = .ok (.ifCond .eq 12, 3) := by decide +kernel
theorem dX5_yearOf_8 : decode cX5_yearOf 8 = .ok (.aload_n 0, 1) := by decide +kernel
theorem dX5_yearOf_9 : decode cX5_yearOf 9 = .ok (.getfield 18, 3) := by decide +kernel
theorem dX5_yearOf_12 : decode cX5_yearOf 12 = .ok (.iload_n 1, 1) := by decide +kernel
theorem dX5_yearOf_13 : decode cX5_yearOf 13 = .ok (.iaload, 1) := by decide +kernel
theorem dX5_yearOf_14 : decode cX5_yearOf 14 = .ok (.goto 4, 3) := by decide +kernel
theorem dX5_yearOf_17 : decode cX5_yearOf 17 = .ok (.iconst (-1), 1) := by decide +kernel
theorem dX5_yearOf_18 : decode cX5_yearOf 18 = .ok (.ireturn, 1) := by decide +kernel
theorem dX5_isPardoned_0 : decode cX5_isPardoned 0 = .ok (.aload_n 0, 1) := by decide +kernel
theorem dX5_isPardoned_1 : decode cX5_isPardoned 1 = .ok (.iload_n 1, 1) := by decide +kernel
theorem dX5_isPardoned_2 : decode cX5_isPardoned 2 = .ok (.invokevirtual 32, 3) := by decide +kernel
theorem dX5_isPardoned_5 : decode cX5_isPardoned 5 = .ok (.ifCond .eq 16, 3) := by decide +kernel
theorem dX5_isPardoned_8 : decode cX5_isPardoned 8 = .ok (.aload_n 0, 1) := by decide +kernel
theorem dX5_isPardoned_9 : decode cX5_isPardoned 9 = .ok (.getfield 21, 3) := by decide +kernel
theorem dX5_isPardoned_12 : decode cX5_isPardoned 12 = .ok (.iload_n 1, 1) := by decide +kernel
theorem dX5_isPardoned_13 : decode cX5_isPardoned 13 = .ok (.baload, 1) := by decide +kernel
theorem dX5_isPardoned_14 : decode cX5_isPardoned 14 = .ok (.ifCond .eq 7, 3) := by decide +kernel
theorem dX5_isPardoned_17 : decode cX5_isPardoned 17 = .ok (.iconst 1, 1) := by decide +kernel
theorem dX5_isPardoned_18 : decode cX5_isPardoned 18 = .ok (.goto 4, 3) := by decide +kernel
theorem dX5_isPardoned_21 : decode cX5_isPardoned 21 = .ok (.iconst 0, 1) := by decide +kernel
theorem dX5_isPardoned_22 : decode cX5_isPardoned 22 = .ok (.ireturn, 1) := by decide +kernel
theorem dX5_eldersOf_0 : decode cX5_eldersOf 0 = .ok (.aload_n 0, 1) := by decide +kernel
theorem dX5_eldersOf_1 : decode cX5_eldersOf 1 = .ok (.iload_n 1, 1) := by decide +kernel
theorem dX5_eldersOf_2 : decode cX5_eldersOf 2 = .ok (.invokevirtual 32, 3) := by decide +kernel
theorem dX5_eldersOf_5 : decode cX5_eldersOf 5 = .ok (.ifCond .eq 12, 3) := by decide +kernel
theorem dX5_eldersOf_8 : decode cX5_eldersOf 8 = .ok (.aload_n 0, 1) := by decide +kernel
theorem dX5_eldersOf_9 : decode cX5_eldersOf 9 = .ok (.getfield 25, 3) := by decide +kernel
theorem dX5_eldersOf_12 : decode cX5_eldersOf 12 = .ok (.iload_n 1, 1) := by decide +kernel
theorem dX5_eldersOf_13 : decode cX5_eldersOf 13 = .ok (.iaload, 1) := by decide +kernel
theorem dX5_eldersOf_14 : decode cX5_eldersOf 14 = .ok (.goto 4, 3) := by decide +kernel
theorem dX5_eldersOf_17 : decode cX5_eldersOf 17 = .ok (.iconst 0, 1) := by decide +kernel
theorem dX5_eldersOf_18 : decode cX5_eldersOf 18 = .ok (.ireturn, 1) := by decide +kernel
theorem dX5_setPardoned_0 : decode cX5_setPardoned 0 = .ok (.aload_n 0, 1) := by decide +kernel
theorem dX5_setPardoned_1 : decode cX5_setPardoned 1 = .ok (.iload_n 1, 1) := by decide +kernel
theorem dX5_setPardoned_2 : decode cX5_setPardoned 2 = .ok (.invokevirtual 32, 3) := by decide +kernel
theorem dX5_setPardoned_5 : decode cX5_setPardoned 5 = .ok (.ifCond .eq 10, 3) := by decide +kernel
theorem dX5_setPardoned_8 : decode cX5_setPardoned 8 = .ok (.aload_n 0, 1) := by decide +kernel
theorem dX5_setPardoned_9 : decode cX5_setPardoned 9 = .ok (.getfield 21, 3) := by decide +kernel
theorem dX5_setPardoned_12 : decode cX5_setPardoned 12 = .ok (.iload_n 1, 1) := by decide +kernel
theorem dX5_setPardoned_13 : decode cX5_setPardoned 13 = .ok (.iload_n 2, 1) := by decide +kernel
theorem dX5_setPardoned_14 : decode cX5_setPardoned 14 = .ok (.bastore, 1) := by decide +kernel
theorem dX5_setPardoned_15 : decode cX5_setPardoned 15 = .ok (.return_, 1) := by decide +kernel
theorem dX5_clear_0 : decode cX5_clear 0 = .ok (.aload_n 0, 1) := by decide +kernel
theorem dX5_clear_1 : decode cX5_clear 1 = .ok (.iconst 0, 1) := by decide +kernel
theorem dX5_clear_2 : decode cX5_clear 2 = .ok (.putfield 28, 3) := by decide +kernel
theorem dX5_clear_5 : decode cX5_clear 5 = .ok (.return_, 1) := by decide +kernel
theorem dX5_append_0 : decode cX5_append 0 = .ok (.aload_n 0, 1) := by decide +kernel
theorem dX5_append_1 : decode cX5_append 1 = .ok (.getfield 28, 3) := by decide +kernel
theorem dX5_append_4 : decode cX5_append 4 = .ok (.bipush 12, 2) := by decide +kernel
theorem dX5_append_6 : decode cX5_append 6 = .ok (.if_icmp .lt 4, 3) := by decide +kernel
theorem dX5_append_9 : decode cX5_append 9 = .ok (.return_, 1) := by decide +kernel
theorem dX5_append_10 : decode cX5_append 10 = .ok (.aload_n 0, 1) := by decide +kernel
theorem dX5_append_11 : decode cX5_append 11 = .ok (.getfield 9, 3) := by decide +kernel
theorem dX5_append_14 : decode cX5_append 14 = .ok (.aload_n 0, 1) := by decide +kernel
theorem dX5_append_15 : decode cX5_append 15 = .ok (.getfield 28, 3) := by decide +kernel
theorem dX5_append_18 : decode cX5_append 18 = .ok (.iload_n 1, 1) := by decide +kernel
theorem dX5_append_19 : decode cX5_append 19 = .ok (.iastore, 1) := by decide +kernel
theorem dX5_append_20 : decode cX5_append 20 = .ok (.aload_n 0, 1) := by decide +kernel
theorem dX5_append_21 : decode cX5_append 21 = .ok (.getfield 15, 3) := by decide +kernel
theorem dX5_append_24 : decode cX5_append 24 = .ok (.aload_n 0, 1) := by decide +kernel
theorem dX5_append_25 : decode cX5_append 25 = .ok (.getfield 28, 3) := by decide +kernel
theorem dX5_append_28 : decode cX5_append 28 = .ok (.iload_n 2, 1) := by decide +kernel
theorem dX5_append_29 : decode cX5_append 29 = .ok (.iastore, 1) := by decide +kernel
theorem dX5_append_30 : decode cX5_append 30 = .ok (.aload_n 0, 1) := by decide +kernel
theorem dX5_append_31 : decode cX5_append 31 = .ok (.getfield 18, 3) := by decide +kernel
theorem dX5_append_34 : decode cX5_append 34 = .ok (.aload_n 0, 1) := by decide +kernel
theorem dX5_append_35 : decode cX5_append 35 = .ok (.getfield 28, 3) := by decide +kernel
theorem dX5_append_38 : decode cX5_append 38 = .ok (.iload_n 3, 1) := by decide +kernel
theorem dX5_append_39 : decode cX5_append 39 = .ok (.iastore, 1) := by decide +kernel
theorem dX5_append_40 : decode cX5_append 40 = .ok (.aload_n 0, 1) := by decide +kernel
theorem dX5_append_41 : decode cX5_append 41 = .ok (.getfield 21, 3) := by decide +kernel
theorem dX5_append_44 : decode cX5_append 44 = .ok (.aload_n 0, 1) := by decide +kernel
theorem dX5_append_45 : decode cX5_append 45 = .ok (.getfield 28, 3) := by decide +kernel
theorem dX5_append_48 : decode cX5_append 48 = .ok (.iconst 0, 1) := by decide +kernel
theorem dX5_append_49 : decode cX5_append 49 = .ok (.bastore, 1) := by decide +kernel
theorem dX5_append_50 : decode cX5_append 50 = .ok (.aload_n 0, 1) := by decide +kernel
theorem dX5_append_51 : decode cX5_append 51 = .ok (.dup, 1) := by decide +kernel
theorem dX5_append_52 : decode cX5_append 52 = .ok (.getfield 28, 3) := by decide +kernel
theorem dX5_append_55 : decode cX5_append 55 = .ok (.iconst 1, 1) := by decide +kernel
theorem dX5_append_56 : decode cX5_append 56 = .ok (.iadd, 1) := by decide +kernel
theorem dX5_append_57 : decode cX5_append 57 = .ok (.putfield 28, 3) := by decide +kernel
theorem dX5_append_60 : decode cX5_append 60 = .ok (.aload_n 0, 1) := by decide +kernel
theorem dX5_append_61 : decode cX5_append 61 = .ok (.invokevirtual 36, 3) := by decide +kernel
theorem dX5_append_64 : decode cX5_append 64 = .ok (.return_, 1) := by decide +kernel
theorem dX5_remove_0 : decode cX5_remove 0 = .ok (.aload_n 0, 1) := by decide +kernel
theorem dX5_remove_1 : decode cX5_remove 1 = .ok (.iload_n 1, 1) := by decide +kernel
theorem dX5_remove_2 : decode cX5_remove 2 = .ok (.invokevirtual 32, 3) := by decide +kernel
theorem dX5_remove_5 : decode cX5_remove 5 = .ok (.ifCond .ne 4, 3) := by decide +kernel
theorem dX5_remove_8 : decode cX5_remove 8 = .ok (.return_, 1) := by decide +kernel
theorem dX5_remove_9 : decode cX5_remove 9 = .ok (.iload_n 1, 1) := by decide +kernel
theorem dX5_remove_10 : decode cX5_remove 10 = .ok (.istore_n 2, 1) := by decide +kernel
theorem dX5_remove_11 : decode cX5_remove 11 = .ok (.iload_n 2, 1) := by decide +kernel
theorem dX5_remove_12 : decode cX5_remove 12 = .ok (.iconst 1, 1) := by decide +kernel
theorem dX5_remove_13 : decode cX5_remove 13 = .ok (.iadd, 1) := by decide +kernel
theorem dX5_remove_14 : decode cX5_remove 14 = .ok (.aload_n 0, 1) := by decide +kernel
theorem dX5_remove_15 : decode cX5_remove 15 = .ok (.getfield 28, 3) := by decide +kernel
theorem dX5_remove_18 : decode cX5_remove 18 = .ok (.if_icmp .ge 18, 3) := by decide +kernel
theorem dX5_remove_21 : decode cX5_remove 21 = .ok (.aload_n 0, 1) := by decide +kernel
theorem dX5_remove_22 : decode cX5_remove 22 = .ok (.aload_n 0, 1) := by decide +kernel
theorem dX5_remove_23 : decode cX5_remove 23 = .ok (.iload_n 2, 1) := by decide +kernel
theorem dX5_remove_24 : decode cX5_remove 24 = .ok (.iconst 1, 1) := by decide +kernel
theorem dX5_remove_25 : decode cX5_remove 25 = .ok (.iadd, 1) := by decide +kernel
theorem dX5_remove_26 : decode cX5_remove 26 = .ok (.iload_n 2, 1) := by decide +kernel
theorem dX5_remove_27 : decode cX5_remove 27 = .ok (.invokevirtual 39, 3) := by decide +kernel
theorem dX5_remove_30 : decode cX5_remove 30 = .ok (.iinc 2 1, 3) := by decide +kernel
theorem dX5_remove_33 : decode cX5_remove 33 = .ok (.goto (-22), 3) := by decide +kernel
theorem dX5_remove_36 : decode cX5_remove 36 = .ok (.aload_n 0, 1) := by decide +kernel
theorem dX5_remove_37 : decode cX5_remove 37 = .ok (.dup, 1) := by decide +kernel
theorem dX5_remove_38 : decode cX5_remove 38 = .ok (.getfield 28, 3) := by decide +kernel
theorem dX5_remove_41 : decode cX5_remove 41 = .ok (.iconst 1, 1) := by decide +kernel
theorem dX5_remove_42 : decode cX5_remove 42 = .ok (.isub, 1) := by decide +kernel
theorem dX5_remove_43 : decode cX5_remove 43 = .ok (.putfield 28, 3) := by decide +kernel
theorem dX5_remove_46 : decode cX5_remove 46 = .ok (.aload_n 0, 1) := by decide +kernel
theorem dX5_remove_47 : decode cX5_remove 47 = .ok (.invokevirtual 36, 3) := by decide +kernel
theorem dX5_remove_50 : decode cX5_remove 50 = .ok (.return_, 1) := by decide +kernel
theorem dX5_copyFrom_0 : decode cX5_copyFrom 0 = .ok (.aload_n 0, 1) := by decide +kernel
theorem dX5_copyFrom_1 : decode cX5_copyFrom 1 = .ok (.aload_n 1, 1) := by decide +kernel
theorem dX5_copyFrom_2 : decode cX5_copyFrom 2 = .ok (.getfield 28, 3) := by decide +kernel
theorem dX5_copyFrom_5 : decode cX5_copyFrom 5 = .ok (.bipush 12, 2) := by decide +kernel
theorem dX5_copyFrom_7 : decode cX5_copyFrom 7 = .ok (.invokestatic 43, 3) := by decide +kernel
theorem dX5_copyFrom_10 : decode cX5_copyFrom 10 = .ok (.putfield 28, 3) := by decide +kernel
theorem dX5_copyFrom_13 : decode cX5_copyFrom 13 = .ok (.iconst 0, 1) := by decide +kernel
theorem dX5_copyFrom_14 : decode cX5_copyFrom 14 = .ok (.istore_n 2, 1) := by decide +kernel
theorem dX5_copyFrom_15 : decode cX5_copyFrom 15 = .ok (.iload_n 2, 1) := by decide +kernel
theorem dX5_copyFrom_16 : decode cX5_copyFrom 16 = .ok (.aload_n 0, 1) := by decide +kernel
theorem dX5_copyFrom_17 : decode cX5_copyFrom 17 = .ok (.getfield 28, 3) := by decide +kernel
theorem dX5_copyFrom_20 : decode cX5_copyFrom 20 = .ok (.if_icmp .ge 16, 3) := by decide +kernel
theorem dX5_copyFrom_23 : decode cX5_copyFrom 23 = .ok (.aload_n 0, 1) := by decide +kernel
theorem dX5_copyFrom_24 : decode cX5_copyFrom 24 = .ok (.aload_n 1, 1) := by decide +kernel
theorem dX5_copyFrom_25 : decode cX5_copyFrom 25 = .ok (.iload_n 2, 1) := by decide +kernel
theorem dX5_copyFrom_26 : decode cX5_copyFrom 26 = .ok (.iload_n 2, 1) := by decide +kernel
theorem dX5_copyFrom_27 : decode cX5_copyFrom 27 = .ok (.invokevirtual 39, 3) := by decide +kernel
theorem dX5_copyFrom_30 : decode cX5_copyFrom 30 = .ok (.iinc 2 1, 3) := by decide +kernel
theorem dX5_copyFrom_33 : decode cX5_copyFrom 33 = .ok (.goto (-18), 3) := by decide +kernel
theorem dX5_copyFrom_36 : decode cX5_copyFrom 36 = .ok (.aload_n 0, 1) := by decide +kernel
theorem dX5_copyFrom_37 : decode cX5_copyFrom 37 = .ok (.invokevirtual 36, 3) := by decide +kernel
theorem dX5_copyFrom_40 : decode cX5_copyFrom 40 = .ok (.return_, 1) := by decide +kernel
theorem dX5_copyCase_0 : decode cX5_copyCase 0 = .ok (.iload_n 2, 1) := by decide +kernel
theorem dX5_copyCase_1 : decode cX5_copyCase 1 = .ok (.ifCond .lt 19, 3) := by decide +kernel
theorem dX5_copyCase_4 : decode cX5_copyCase 4 = .ok (.iload_n 2, 1) := by decide +kernel
theorem dX5_copyCase_5 : decode cX5_copyCase 5 = .ok (.bipush 12, 2) := by decide +kernel
theorem dX5_copyCase_7 : decode cX5_copyCase 7 = .ok (.if_icmp .ge 13, 3) := by decide +kernel
theorem dX5_copyCase_10 : decode cX5_copyCase 10 = .ok (.iload_n 3, 1) := by decide +kernel
theorem dX5_copyCase_11 : decode cX5_copyCase 11 = .ok (.ifCond .lt 9, 3) := by decide +kernel
theorem dX5_copyCase_14 : decode cX5_copyCase 14 = .ok (.iload_n 3, 1) := by decide +kernel
theorem dX5_copyCase_15 : decode cX5_copyCase 15 = .ok (.bipush 12, 2) := by decide +kernel
theorem dX5_copyCase_17 : decode cX5_copyCase 17 = .ok (.if_icmp .lt 4, 3) := by decide +kernel
theorem dX5_copyCase_20 : decode cX5_copyCase 20 = .ok (.return_, 1) := by decide +kernel
theorem dX5_copyCase_21 : decode cX5_copyCase 21 = .ok (.aload_n 0, 1) := by decide +kernel
theorem dX5_copyCase_22 : decode cX5_copyCase 22 = .ok (.getfield 9, 3) := by decide +kernel
theorem dX5_copyCase_25 : decode cX5_copyCase 25 = .ok (.iload_n 3, 1) := by decide +kernel
theorem dX5_copyCase_26 : decode cX5_copyCase 26 = .ok (.aload_n 1, 1) := by decide +kernel
theorem dX5_copyCase_27 : decode cX5_copyCase 27 = .ok (.getfield 9, 3) := by decide +kernel
theorem dX5_copyCase_30 : decode cX5_copyCase 30 = .ok (.iload_n 2, 1) := by decide +kernel
theorem dX5_copyCase_31 : decode cX5_copyCase 31 = .ok (.iaload, 1) := by decide +kernel
theorem dX5_copyCase_32 : decode cX5_copyCase 32 = .ok (.iastore, 1) := by decide +kernel
theorem dX5_copyCase_33 : decode cX5_copyCase 33 = .ok (.aload_n 0, 1) := by decide +kernel
theorem dX5_copyCase_34 : decode cX5_copyCase 34 = .ok (.getfield 15, 3) := by decide +kernel
theorem dX5_copyCase_37 : decode cX5_copyCase 37 = .ok (.iload_n 3, 1) := by decide +kernel
theorem dX5_copyCase_38 : decode cX5_copyCase 38 = .ok (.aload_n 1, 1) := by decide +kernel
theorem dX5_copyCase_39 : decode cX5_copyCase 39 = .ok (.getfield 15, 3) := by decide +kernel
theorem dX5_copyCase_42 : decode cX5_copyCase 42 = .ok (.iload_n 2, 1) := by decide +kernel
theorem dX5_copyCase_43 : decode cX5_copyCase 43 = .ok (.iaload, 1) := by decide +kernel
theorem dX5_copyCase_44 : decode cX5_copyCase 44 = .ok (.iastore, 1) := by decide +kernel
theorem dX5_copyCase_45 : decode cX5_copyCase 45 = .ok (.aload_n 0, 1) := by decide +kernel
theorem dX5_copyCase_46 : decode cX5_copyCase 46 = .ok (.getfield 18, 3) := by decide +kernel
theorem dX5_copyCase_49 : decode cX5_copyCase 49 = .ok (.iload_n 3, 1) := by decide +kernel
theorem dX5_copyCase_50 : decode cX5_copyCase 50 = .ok (.aload_n 1, 1) := by decide +kernel
theorem dX5_copyCase_51 : decode cX5_copyCase 51 = .ok (.getfield 18, 3) := by decide +kernel
theorem dX5_copyCase_54 : decode cX5_copyCase 54 = .ok (.iload_n 2, 1) := by decide +kernel
theorem dX5_copyCase_55 : decode cX5_copyCase 55 = .ok (.iaload, 1) := by decide +kernel
theorem dX5_copyCase_56 : decode cX5_copyCase 56 = .ok (.iastore, 1) := by decide +kernel
theorem dX5_copyCase_57 : decode cX5_copyCase 57 = .ok (.aload_n 0, 1) := by decide +kernel
theorem dX5_copyCase_58 : decode cX5_copyCase 58 = .ok (.getfield 21, 3) := by decide +kernel
theorem dX5_copyCase_61 : decode cX5_copyCase 61 = .ok (.iload_n 3, 1) := by decide +kernel
theorem dX5_copyCase_62 : decode cX5_copyCase 62 = .ok (.aload_n 1, 1) := by decide +kernel
theorem dX5_copyCase_63 : decode cX5_copyCase 63 = .ok (.getfield 21, 3) := by decide +kernel
theorem dX5_copyCase_66 : decode cX5_copyCase 66 = .ok (.iload_n 2, 1) := by decide +kernel
theorem dX5_copyCase_67 : decode cX5_copyCase 67 = .ok (.baload, 1) := by decide +kernel
theorem dX5_copyCase_68 : decode cX5_copyCase 68 = .ok (.bastore, 1) := by decide +kernel
theorem dX5_copyCase_69 : decode cX5_copyCase 69 = .ok (.return_, 1) := by decide +kernel
theorem dX5_findElders_0 : decode cX5_findElders 0 = .ok (.iconst 0, 1) := by decide +kernel
theorem dX5_findElders_1 : decode cX5_findElders 1 = .ok (.istore_n 1, 1) := by decide +kernel
theorem dX5_findElders_2 : decode cX5_findElders 2 = .ok (.iload_n 1, 1) := by decide +kernel
theorem dX5_findElders_3 : decode cX5_findElders 3 = .ok (.aload_n 0, 1) := by decide +kernel
theorem dX5_findElders_4 : decode cX5_findElders 4 = .ok (.getfield 28, 3) := by decide +kernel
theorem dX5_findElders_7 : decode cX5_findElders 7 = .ok (.if_icmp .ge 79, 3) := by decide +kernel
theorem dX5_findElders_10 : decode cX5_findElders 10 = .ok (.aload_n 0, 1) := by decide +kernel
theorem dX5_findElders_11 : decode cX5_findElders 11 = .ok (.getfield 25, 3) := by decide +kernel
theorem dX5_findElders_14 : decode cX5_findElders 14 = .ok (.iload_n 1, 1) := by decide +kernel
theorem dX5_findElders_15 : decode cX5_findElders 15 = .ok (.iconst 0, 1) := by decide +kernel
theorem dX5_findElders_16 : decode cX5_findElders 16 = .ok (.iastore, 1) := by decide +kernel
theorem dX5_findElders_17 : decode cX5_findElders 17 = .ok (.iconst 0, 1) := by decide +kernel
theorem dX5_findElders_18 : decode cX5_findElders 18 = .ok (.istore_n 2, 1) := by decide +kernel
theorem dX5_findElders_19 : decode cX5_findElders 19 = .ok (.iload_n 2, 1) := by decide +kernel
theorem dX5_findElders_20 : decode cX5_findElders 20 = .ok (.aload_n 0, 1) := by decide +kernel
theorem dX5_findElders_21 : decode cX5_findElders 21 = .ok (.getfield 28, 3) := by decide +kernel
theorem dX5_findElders_24 : decode cX5_findElders 24 = .ok (.if_icmp .ge 56, 3) := by decide +kernel
theorem dX5_findElders_27 : decode cX5_findElders 27 = .ok (.aload_n 0, 1) := by decide +kernel
theorem dX5_findElders_28 : decode cX5_findElders 28 = .ok (.getfield 18, 3) := by decide +kernel
theorem dX5_findElders_31 : decode cX5_findElders 31 = .ok (.iload_n 2, 1) := by decide +kernel
theorem dX5_findElders_32 : decode cX5_findElders 32 = .ok (.iaload, 1) := by decide +kernel
theorem dX5_findElders_33 : decode cX5_findElders 33 = .ok (.aload_n 0, 1) := by decide +kernel
theorem dX5_findElders_34 : decode cX5_findElders 34 = .ok (.getfield 18, 3) := by decide +kernel
theorem dX5_findElders_37 : decode cX5_findElders 37 = .ok (.iload_n 1, 1) := by decide +kernel
theorem dX5_findElders_38 : decode cX5_findElders 38 = .ok (.iaload, 1) := by decide +kernel
theorem dX5_findElders_39 : decode cX5_findElders 39 = .ok (.if_icmp .lt 23, 3) := by decide +kernel
theorem dX5_findElders_42 : decode cX5_findElders 42 = .ok (.aload_n 0, 1) := by decide +kernel
theorem dX5_findElders_43 : decode cX5_findElders 43 = .ok (.getfield 18, 3) := by decide +kernel
theorem dX5_findElders_46 : decode cX5_findElders 46 = .ok (.iload_n 2, 1) := by decide +kernel
theorem dX5_findElders_47 : decode cX5_findElders 47 = .ok (.iaload, 1) := by decide +kernel
theorem dX5_findElders_48 : decode cX5_findElders 48 = .ok (.aload_n 0, 1) := by decide +kernel
theorem dX5_findElders_49 : decode cX5_findElders 49 = .ok (.getfield 18, 3) := by decide +kernel
theorem dX5_findElders_52 : decode cX5_findElders 52 = .ok (.iload_n 1, 1) := by decide +kernel
theorem dX5_findElders_53 : decode cX5_findElders 53 = .ok (.iaload, 1) := by decide +kernel
theorem dX5_findElders_54 : decode cX5_findElders 54 = .ok (.if_icmp .ne 20, 3) := by decide +kernel
theorem dX5_findElders_57 : decode cX5_findElders 57 = .ok (.iload_n 2, 1) := by decide +kernel
theorem dX5_findElders_58 : decode cX5_findElders 58 = .ok (.iload_n 1, 1) := by decide +kernel
theorem dX5_findElders_59 : decode cX5_findElders 59 = .ok (.if_icmp .ge 15, 3) := by decide +kernel
theorem dX5_findElders_62 : decode cX5_findElders 62 = .ok (.aload_n 0, 1) := by decide +kernel
theorem dX5_findElders_63 : decode cX5_findElders 63 = .ok (.getfield 25, 3) := by decide +kernel
theorem dX5_findElders_66 : decode cX5_findElders 66 = .ok (.iload_n 1, 1) := by decide +kernel
theorem dX5_findElders_67 : decode cX5_findElders 67 = .ok (.dup2, 1) := by decide +kernel
theorem dX5_findElders_68 : decode cX5_findElders 68 = .ok (.iaload, 1) := by decide +kernel
theorem dX5_findElders_69 : decode cX5_findElders 69 = .ok (.iconst 1, 1) := by decide +kernel
theorem dX5_findElders_70 : decode cX5_findElders 70 = .ok (.iload_n 2, 1) := by decide +kernel
theorem dX5_findElders_71 : decode cX5_findElders 71 = .ok (.ishl, 1) := by decide +kernel
theorem dX5_findElders_72 : decode cX5_findElders 72 = .ok (.ior, 1) := by decide +kernel
theorem dX5_findElders_73 : decode cX5_findElders 73 = .ok (.iastore, 1) := by decide +kernel
theorem dX5_findElders_74 : decode cX5_findElders 74 = .ok (.iinc 2 1, 3) := by decide +kernel
theorem dX5_findElders_77 : decode cX5_findElders 77 = .ok (.goto (-58), 3) := by decide +kernel
theorem dX5_findElders_80 : decode cX5_findElders 80 = .ok (.iinc 1 1, 3) := by decide +kernel
theorem dX5_findElders_83 : decode cX5_findElders 83 = .ok (.goto (-81), 3) := by decide +kernel
theorem dX5_findElders_86 : decode cX5_findElders 86 = .ok (.return_, 1) := by decide +kernel
theorem dX5_likest_0 : decode cX5_likest 0 = .ok (.iconst (-1), 1) := by decide +kernel
theorem dX5_likest_1 : decode cX5_likest 1 = .ok (.istore 4, 2) := by decide +kernel
theorem dX5_likest_3 : decode cX5_likest 3 = .ok (.iconst 0, 1) := by decide +kernel
theorem dX5_likest_4 : decode cX5_likest 4 = .ok (.istore 5, 2) := by decide +kernel
theorem dX5_likest_6 : decode cX5_likest 6 = .ok (.iconst 0, 1) := by decide +kernel
theorem dX5_likest_7 : decode cX5_likest 7 = .ok (.istore 6, 2) := by decide +kernel
theorem dX5_likest_9 : decode cX5_likest 9 = .ok (.iload 6, 2) := by decide +kernel
theorem dX5_likest_11 : decode cX5_likest 11 = .ok (.aload_n 0, 1) := by decide +kernel
theorem dX5_likest_12 : decode cX5_likest 12 = .ok (.getfield 28, 3) := by decide +kernel
theorem dX5_likest_15 : decode cX5_likest 15 = .ok (.if_icmp .ge 79, 3) := by decide +kernel
theorem dX5_likest_18 : decode cX5_likest 18 = .ok (.iload_n 2, 1) := by decide +kernel
theorem dX5_likest_19 : decode cX5_likest 19 = .ok (.iload 6, 2) := by decide +kernel
theorem dX5_likest_21 : decode cX5_likest 21 = .ok (.invokestatic 49, 3) := by decide +kernel
theorem dX5_likest_24 : decode cX5_likest 24 = .ok (.ifCond .ne 6, 3) := by decide +kernel
theorem dX5_likest_27 : decode cX5_likest 27 = .ok (.goto 61, 3) := by decide +kernel
theorem dX5_likest_30 : decode cX5_likest 30 = .ok (.aload_n 3, 1) := by decide +kernel
theorem dX5_likest_31 : decode cX5_likest 31 = .ok (.iload_n 1, 1) := by decide +kernel
theorem dX5_likest_32 : decode cX5_likest 32 = .ok (.aload_n 0, 1) := by decide +kernel
theorem dX5_likest_33 : decode cX5_likest 33 = .ok (.getfield 9, 3) := by decide +kernel
theorem dX5_likest_36 : decode cX5_likest 36 = .ok (.iload 6, 2) := by decide +kernel
theorem dX5_likest_38 : decode cX5_likest 38 = .ok (.iaload, 1) := by decide +kernel
theorem dX5_likest_39 : decode cX5_likest 39 = .ok (.ixor, 1) := by decide +kernel
theorem dX5_likest_40 : decode cX5_likest 40 = .ok (.invokevirtual 53, 3) := by decide +kernel
theorem dX5_likest_43 : decode cX5_likest 43 = .ok (.istore 7, 2) := by decide +kernel
theorem dX5_likest_45 : decode cX5_likest 45 = .ok (.iload 4, 2) := by decide +kernel
theorem dX5_likest_47 : decode cX5_likest 47 = .ok (.iconst (-1), 1) := by decide +kernel
theorem dX5_likest_48 : decode cX5_likest 48 = .ok (.if_icmp .eq 32, 3) := by decide +kernel
theorem dX5_likest_51 : decode cX5_likest 51 = .ok (.iload 7, 2) := by decide +kernel
theorem dX5_likest_53 : decode cX5_likest 53 = .ok (.iload 5, 2) := by decide +kernel
theorem dX5_likest_55 : decode cX5_likest 55 = .ok (.if_icmp .lt 25, 3) := by decide +kernel
theorem dX5_likest_58 : decode cX5_likest 58 = .ok (.iload 7, 2) := by decide +kernel
theorem dX5_likest_60 : decode cX5_likest 60 = .ok (.iload 5, 2) := by decide +kernel
theorem dX5_likest_62 : decode cX5_likest 62 = .ok (.if_icmp .ne 26, 3) := by decide +kernel
theorem dX5_likest_65 : decode cX5_likest 65 = .ok (.aload_n 0, 1) := by decide +kernel
theorem dX5_likest_66 : decode cX5_likest 66 = .ok (.getfield 25, 3) := by decide +kernel
theorem dX5_likest_69 : decode cX5_likest 69 = .ok (.iload 4, 2) := by decide +kernel
theorem dX5_likest_71 : decode cX5_likest 71 = .ok (.iaload, 1) := by decide +kernel
theorem dX5_likest_72 : decode cX5_likest 72 = .ok (.iload 6, 2) := by decide +kernel
theorem dX5_likest_74 : decode cX5_likest 74 = .ok (.invokestatic 49, 3) := by decide +kernel
theorem dX5_likest_77 : decode cX5_likest 77 = .ok (.ifCond .eq 11, 3) := by decide +kernel
theorem dX5_likest_80 : decode cX5_likest 80 = .ok (.iload 6, 2) := by decide +kernel
theorem dX5_likest_82 : decode cX5_likest 82 = .ok (.istore 4, 2) := by decide +kernel
theorem dX5_likest_84 : decode cX5_likest 84 = .ok (.iload 7, 2) := by decide +kernel
theorem dX5_likest_86 : decode cX5_likest 86 = .ok (.istore 5, 2) := by decide +kernel
theorem dX5_likest_88 : decode cX5_likest 88 = .ok (.iinc 6 1, 3) := by decide +kernel
theorem dX5_likest_91 : decode cX5_likest 91 = .ok (.goto (-82), 3) := by decide +kernel
theorem dX5_likest_94 : decode cX5_likest 94 = .ok (.iload 4, 2) := by decide +kernel
theorem dX5_likest_96 : decode cX5_likest 96 = .ok (.ireturn, 1) := by decide +kernel
theorem dX5_allFollow_0 : decode cX5_allFollow 0 = .ok (.iconst 0, 1) := by decide +kernel
theorem dX5_allFollow_1 : decode cX5_allFollow 1 = .ok (.istore_n 3, 1) := by decide +kernel
theorem dX5_allFollow_2 : decode cX5_allFollow 2 = .ok (.iload_n 3, 1) := by decide +kernel
theorem dX5_allFollow_3 : decode cX5_allFollow 3 = .ok (.aload_n 0, 1) := by decide +kernel
theorem dX5_allFollow_4 : decode cX5_allFollow 4 = .ok (.getfield 28, 3) := by decide +kernel
theorem dX5_allFollow_7 : decode cX5_allFollow 7 = .ok (.if_icmp .ge 29, 3) := by decide +kernel
theorem dX5_allFollow_10 : decode cX5_allFollow 10 = .ok (.iload_n 1, 1) := by decide +kernel
theorem dX5_allFollow_11 : decode cX5_allFollow 11 = .ok (.iload_n 3, 1) := by decide +kernel
theorem dX5_allFollow_12 : decode cX5_allFollow 12 = .ok (.invokestatic 49, 3) := by decide +kernel
theorem dX5_allFollow_15 : decode cX5_allFollow 15 = .ok (.ifCond .eq 15, 3) := by decide +kernel
theorem dX5_allFollow_18 : decode cX5_allFollow 18 = .ok (.aload_n 0, 1) := by decide +kernel
theorem dX5_allFollow_19 : decode cX5_allFollow 19 = .ok (.iload_n 3, 1) := by decide +kernel
theorem dX5_allFollow_20 : decode cX5_allFollow 20 = .ok (.iload_n 1, 1) := by decide +kernel
theorem dX5_allFollow_21 : decode cX5_allFollow 21 = .ok (.aload_n 2, 1) := by decide +kernel
theorem dX5_allFollow_22 : decode cX5_allFollow 22 = .ok (.invokevirtual 59, 3) := by decide +kernel
theorem dX5_allFollow_25 : decode cX5_allFollow 25 = .ok (.ifCond .ne 5, 3) := by decide +kernel
theorem dX5_allFollow_28 : decode cX5_allFollow 28 = .ok (.iconst 0, 1) := by decide +kernel
theorem dX5_allFollow_29 : decode cX5_allFollow 29 = .ok (.ireturn, 1) := by decide +kernel
theorem dX5_allFollow_30 : decode cX5_allFollow 30 = .ok (.iinc 3 1, 3) := by decide +kernel
theorem dX5_allFollow_33 : decode cX5_allFollow 33 = .ok (.goto (-31), 3) := by decide +kernel
theorem dX5_allFollow_36 : decode cX5_allFollow 36 = .ok (.iconst 1, 1) := by decide +kernel
theorem dX5_allFollow_37 : decode cX5_allFollow 37 = .ok (.ireturn, 1) := by decide +kernel
theorem dX5_follows_0 : decode cX5_follows 0 = .ok (.aload_n 0, 1) := by decide +kernel
theorem dX5_follows_1 : decode cX5_follows 1 = .ok (.aload_n 0, 1) := by decide +kernel
theorem dX5_follows_2 : decode cX5_follows 2 = .ok (.iload_n 1, 1) := by decide +kernel
theorem dX5_follows_3 : decode cX5_follows 3 = .ok (.invokevirtual 63, 3) := by decide +kernel
theorem dX5_follows_6 : decode cX5_follows 6 = .ok (.iload_n 2, 1) := by decide +kernel
theorem dX5_follows_7 : decode cX5_follows 7 = .ok (.aload_n 0, 1) := by decide +kernel
theorem dX5_follows_8 : decode cX5_follows 8 = .ok (.iload_n 1, 1) := by decide +kernel
theorem dX5_follows_9 : decode cX5_follows 9 = .ok (.invokevirtual 66, 3) := by decide +kernel
theorem dX5_follows_12 : decode cX5_follows 12 = .ok (.iand, 1) := by decide +kernel
theorem dX5_follows_13 : decode cX5_follows 13 = .ok (.aload_n 3, 1) := by decide +kernel
theorem dX5_follows_14 : decode cX5_follows 14 = .ok (.invokevirtual 69, 3) := by decide +kernel
theorem dX5_follows_17 : decode cX5_follows 17 = .ok (.istore 4, 2) := by decide +kernel
theorem dX5_follows_19 : decode cX5_follows 19 = .ok (.iload 4, 2) := by decide +kernel
theorem dX5_follows_21 : decode cX5_follows 21 = .ok (.iconst (-1), 1) := by decide +kernel
theorem dX5_follows_22 : decode cX5_follows 22 = .ok (.if_icmp .eq 17, 3) := by decide +kernel
theorem dX5_follows_25 : decode cX5_follows 25 = .ok (.aload_n 0, 1) := by decide +kernel
theorem dX5_follows_26 : decode cX5_follows 26 = .ok (.iload 4, 2) := by decide +kernel
theorem dX5_follows_28 : decode cX5_follows 28 = .ok (.invokevirtual 73, 3) := by decide +kernel
theorem dX5_follows_31 : decode cX5_follows 31 = .ok (.aload_n 0, 1) := by decide +kernel
theorem dX5_follows_32 : decode cX5_follows 32 = .ok (.iload_n 1, 1) := by decide +kernel
theorem dX5_follows_33 : decode cX5_follows 33 = .ok (.invokevirtual 73, 3) := by decide +kernel
theorem dX5_follows_36 : decode cX5_follows 36 = .ok (.if_icmp .ne 7, 3) := by decide +kernel
theorem dX5_follows_39 : decode cX5_follows 39 = .ok (.iconst 1, 1) := by decide +kernel
theorem dX5_follows_40 : decode cX5_follows 40 = .ok (.goto 4, 3) := by decide +kernel
theorem dX5_follows_43 : decode cX5_follows 43 = .ok (.iconst 0, 1) := by decide +kernel
theorem dX5_follows_44 : decode cX5_follows 44 = .ok (.ireturn, 1) := by decide +kernel
theorem dX6_init_0 : decode cX6_init 0 = .ok (.aload_n 0, 1) := by decide +kernel
theorem dX6_init_1 : decode cX6_init 1 = .ok (.invokespecial 3, 3) := by decide +kernel
theorem dX6_init_4 : decode cX6_init 4 = .ok (.aload_n 0, 1) := by decide +kernel
theorem dX6_init_5 : decode cX6_init 5 = .ok (.bipush 10, 2) := by decide +kernel
theorem dX6_init_7 : decode cX6_init 7 = .ok (.newarray .int, 2) := by decide +kernel
theorem dX6_init_9 : decode cX6_init 9 = .ok (.putfield 9, 3) := by decide +kernel
theorem dX6_init_12 : decode cX6_init 12 = .ok (.aload_n 0, 1) := by decide +kernel
theorem dX6_init_13 : decode cX6_init 13 = .ok (.sipush 1024, 3) := by decide +kernel
theorem dX6_init_16 : decode cX6_init 16 = .ok (.newarray .int, 2) := by decide +kernel
theorem dX6_init_18 : decode cX6_init 18 = .ok (.putfield 15, 3) := by decide +kernel
theorem dX6_init_21 : decode cX6_init 21 = .ok (.return_, 1) := by decide +kernel
theorem dX6_fill_0 : decode cX6_fill 0 = .ok (.aload_n 0, 1) := by decide +kernel
theorem dX6_fill_1 : decode cX6_fill 1 = .ok (.iload_n 1, 1) := by decide +kernel
theorem dX6_fill_2 : decode cX6_fill 2 = .ok (.aload_n 0, 1) := by decide +kernel
theorem dX6_fill_3 : decode cX6_fill 3 = .ok (.getfield 9, 3) := by decide +kernel
theorem dX6_fill_6 : decode cX6_fill 6 = .ok (.arraylength, 1) := by decide +kernel
theorem dX6_fill_7 : decode cX6_fill 7 = .ok (.invokestatic 18, 3) := by decide +kernel
theorem dX6_fill_10 : decode cX6_fill 10 = .ok (.putfield 24, 3) := by decide +kernel
theorem dX6_fill_13 : decode cX6_fill 13 = .ok (.aload_n 0, 1) := by decide +kernel
theorem dX6_fill_14 : decode cX6_fill 14 = .ok (.getfield 9, 3) := by decide +kernel
theorem dX6_fill_17 : decode cX6_fill 17 = .ok (.iconst 0, 1) := by decide +kernel
theorem dX6_fill_18 : decode cX6_fill 18 = .ok (.invokestatic 28, 3) := by decide +kernel
theorem dX6_fill_21 : decode cX6_fill 21 = .ok (.aload_n 0, 1) := by decide +kernel
theorem dX6_fill_22 : decode cX6_fill 22 = .ok (.getfield 15, 3) := by decide +kernel
theorem dX6_fill_25 : decode cX6_fill 25 = .ok (.iconst 0, 1) := by decide +kernel
theorem dX6_fill_26 : decode cX6_fill 26 = .ok (.invokestatic 28, 3) := by decide +kernel
theorem dX6_fill_29 : decode cX6_fill 29 = .ok (.iconst 0, 1) := by decide +kernel
theorem dX6_fill_30 : decode cX6_fill 30 = .ok (.istore_n 3, 1) := by decide +kernel
theorem dX6_fill_31 : decode cX6_fill 31 = .ok (.iload_n 3, 1) := by decide +kernel
theorem dX6_fill_32 : decode cX6_fill 32 = .ok (.aload_n 0, 1) := by decide +kernel
theorem dX6_fill_33 : decode cX6_fill 33 = .ok (.getfield 24, 3) := by decide +kernel
theorem dX6_fill_36 : decode cX6_fill 36 = .ok (.if_icmp .ge 15, 3) := by decide +kernel
theorem dX6_fill_39 : decode cX6_fill 39 = .ok (.aload_n 0, 1) := by decide +kernel
theorem dX6_fill_40 : decode cX6_fill 40 = .ok (.iload_n 3, 1) := by decide +kernel
theorem dX6_fill_41 : decode cX6_fill 41 = .ok (.iload_n 2, 1) := by decide +kernel
theorem dX6_fill_42 : decode cX6_fill 42 = .ok (.invokevirtual 34, 3) := by decide +kernel
theorem dX6_fill_45 : decode cX6_fill 45 = .ok (.iinc 3 1, 3) := by decide +kernel
theorem dX6_fill_48 : decode cX6_fill 48 = .ok (.goto (-17), 3) := by decide +kernel
theorem dX6_fill_51 : decode cX6_fill 51 = .ok (.return_, 1) := by decide +kernel
theorem dX6_put_0 : decode cX6_put 0 = .ok (.aload_n 0, 1) := by decide +kernel
theorem dX6_put_1 : decode cX6_put 1 = .ok (.iload_n 1, 1) := by decide +kernel
theorem dX6_put_2 : decode cX6_put 2 = .ok (.invokevirtual 38, 3) := by decide +kernel
theorem dX6_put_5 : decode cX6_put 5 = .ok (.ifCond .ne 4, 3) := by decide +kernel
theorem dX6_put_8 : decode cX6_put 8 = .ok (.return_, 1) := by decide +kernel
theorem dX6_put_9 : decode cX6_put 9 = .ok (.iload_n 2, 1) := by decide +kernel
theorem dX6_put_10 : decode cX6_put 10 = .ok (.aload_n 0, 1) := by decide +kernel
theorem dX6_put_11 : decode cX6_put 11 = .ok (.getfield 9, 3) := by decide +kernel
theorem dX6_put_14 : decode cX6_put 14 = .ok (.iload_n 1, 1) := by decide +kernel
theorem dX6_put_15 : decode cX6_put 15 = .ok (.iaload, 1) := by decide +kernel
theorem dX6_put_16 : decode cX6_put 16 = .ok (.isub, 1) := by decide +kernel
theorem dX6_put_17 : decode cX6_put 17 = .ok (.istore_n 3, 1) := by decide +kernel
theorem dX6_put_18 : decode cX6_put 18 = .ok (.iload_n 3, 1) := by decide +kernel
theorem dX6_put_19 : decode cX6_put 19 = .ok (.ifCond .ne 4, 3) := by decide +kernel
theorem dX6_put_22 : decode cX6_put 22 = .ok (.return_, 1) := by decide +kernel
theorem dX6_put_23 : decode cX6_put 23 = .ok (.aload_n 0, 1) := by decide +kernel
theorem dX6_put_24 : decode cX6_put 24 = .ok (.getfield 9, 3) := by decide +kernel
theorem dX6_put_27 : decode cX6_put 27 = .ok (.iload_n 1, 1) := by decide +kernel
theorem dX6_put_28 : decode cX6_put 28 = .ok (.iload_n 2, 1) := by decide +kernel
theorem dX6_put_29 : decode cX6_put 29 = .ok (.iastore, 1) := by decide +kernel
theorem dX6_put_30 : decode cX6_put 30 = .ok (.iconst 1, 1) := by decide +kernel
theorem dX6_put_31 : decode cX6_put 31 = .ok (.aload_n 0, 1) := by decide +kernel
theorem dX6_put_32 : decode cX6_put 32 = .ok (.getfield 24, 3) := by decide +kernel
theorem dX6_put_35 : decode cX6_put 35 = .ok (.ishl, 1) := by decide +kernel
theorem dX6_put_36 : decode cX6_put 36 = .ok (.aload_n 0, 1) := by decide +kernel
theorem dX6_put_37 : decode cX6_put 37 = .ok (.getfield 15, 3) := by decide +kernel
theorem dX6_put_40 : decode cX6_put 40 = .ok (.arraylength, 1) := by decide +kernel
theorem dX6_put_41 : decode cX6_put 41 = .ok (.invokestatic 18, 3) := by decide +kernel
theorem dX6_put_44 : decode cX6_put 44 = .ok (.istore 4, 2) := by decide +kernel
theorem dX6_put_46 : decode cX6_put 46 = .ok (.iconst 0, 1) := by decide +kernel
theorem dX6_put_47 : decode cX6_put 47 = .ok (.istore 5, 2) := by decide +kernel
theorem dX6_put_49 : decode cX6_put 49 = .ok (.iload 5, 2) := by decide +kernel
theorem dX6_put_51 : decode cX6_put 51 = .ok (.iload 4, 2) := by decide +kernel
theorem dX6_put_53 : decode cX6_put 53 = .ok (.if_icmp .ge 29, 3) := by decide +kernel
theorem dX6_put_56 : decode cX6_put 56 = .ok (.iload 5, 2) := by decide +kernel
theorem dX6_put_58 : decode cX6_put 58 = .ok (.iload_n 1, 1) := by decide +kernel
theorem dX6_put_59 : decode cX6_put 59 = .ok (.invokestatic 42, 3) := by decide +kernel
theorem dX6_put_62 : decode cX6_put 62 = .ok (.ifCond .eq 14, 3) := by decide +kernel
theorem dX6_put_65 : decode cX6_put 65 = .ok (.aload_n 0, 1) := by decide +kernel
theorem dX6_put_66 : decode cX6_put 66 = .ok (.getfield 15, 3) := by decide +kernel
theorem dX6_put_69 : decode cX6_put 69 = .ok (.iload 5, 2) := by decide +kernel
theorem dX6_put_71 : decode cX6_put 71 = .ok (.dup2, 1) := by decide +kernel
theorem dX6_put_72 : decode cX6_put 72 = .ok (.iaload, 1) := by decide +kernel
theorem dX6_put_73 : decode cX6_put 73 = .ok (.iload_n 3, 1) := by decide +kernel
theorem dX6_put_74 : decode cX6_put 74 = .ok (.iadd, 1) := by decide +kernel
theorem dX6_put_75 : decode cX6_put 75 = .ok (.iastore, 1) := by decide +kernel
theorem dX6_put_76 : decode cX6_put 76 = .ok (.iinc 5 1, 3) := by decide +kernel
theorem dX6_put_79 : decode cX6_put 79 = .ok (.goto (-30), 3) := by decide +kernel
theorem dX6_put_82 : decode cX6_put 82 = .ok (.return_, 1) := by decide +kernel
theorem dX6_hasPoint_0 : decode cX6_hasPoint 0 = .ok (.iload_n 1, 1) := by decide +kernel
theorem dX6_hasPoint_1 : decode cX6_hasPoint 1 = .ok (.ifCond .lt 15, 3) := by decide +kernel
theorem dX6_hasPoint_4 : decode cX6_hasPoint 4 = .ok (.iload_n 1, 1) := by decide +kernel
theorem dX6_hasPoint_5 : decode cX6_hasPoint 5 = .ok (.aload_n 0, 1) := by decide +kernel
theorem dX6_hasPoint_6 : decode cX6_hasPoint 6 = .ok (.getfield 24, 3) := by decide +kernel
theorem dX6_hasPoint_9 : decode cX6_hasPoint 9 = .ok (.if_icmp .ge 7, 3) := by decide +kernel
theorem dX6_hasPoint_12 : decode cX6_hasPoint 12 = .ok (.iconst 1, 1) := by decide +kernel
theorem dX6_hasPoint_13 : decode cX6_hasPoint 13 = .ok (.goto 4, 3) := by decide +kernel
theorem dX6_hasPoint_16 : decode cX6_hasPoint 16 = .ok (.iconst 0, 1) := by decide +kernel
theorem dX6_hasPoint_17 : decode cX6_hasPoint 17 = .ok (.ireturn, 1) := by decide +kernel
theorem dX6_at_0 : decode cX6_at 0 = .ok (.aload_n 0, 1) := by decide +kernel
theorem dX6_at_1 : decode cX6_at 1 = .ok (.iload_n 1, 1) := by decide +kernel
theorem dX6_at_2 : decode cX6_at 2 = .ok (.invokevirtual 38, 3) := by decide +kernel
theorem dX6_at_5 : decode cX6_at 5 = .ok (.ifCond .eq 12, 3) := by decide +kernel
theorem dX6_at_8 : decode cX6_at 8 = .ok (.aload_n 0, 1) := by decide +kernel
theorem dX6_at_9 : decode cX6_at 9 = .ok (.getfield 9, 3) := by decide +kernel
theorem dX6_at_12 : decode cX6_at 12 = .ok (.iload_n 1, 1) := by decide +kernel
theorem dX6_at_13 : decode cX6_at 13 = .ok (.iaload, 1) := by decide +kernel
theorem dX6_at_14 : decode cX6_at 14 = .ok (.goto 4, 3) := by decide +kernel
theorem dX6_at_17 : decode cX6_at 17 = .ok (.iconst 0, 1) := by decide +kernel
theorem dX6_at_18 : decode cX6_at 18 = .ok (.ireturn, 1) := by decide +kernel
theorem dX6_together_0 : decode cX6_together 0 = .ok (.iload_n 1, 1) := by decide +kernel
theorem dX6_together_1 : decode cX6_together 1 = .ok (.ifCond .lt 21, 3) := by decide +kernel
theorem dX6_together_4 : decode cX6_together 4 = .ok (.iload_n 1, 1) := by decide +kernel
theorem dX6_together_5 : decode cX6_together 5 = .ok (.aload_n 0, 1) := by decide +kernel
theorem dX6_together_6 : decode cX6_together 6 = .ok (.getfield 15, 3) := by decide +kernel
theorem dX6_together_9 : decode cX6_together 9 = .ok (.arraylength, 1) := by decide +kernel
theorem dX6_together_10 : decode cX6_together 10 = .ok (.if_icmp .ge 12, 3) := by decide +kernel
theorem dX6_together_13 : decode cX6_together 13 = .ok (.aload_n 0, 1) := by decide +kernel
theorem dX6_together_14 : decode cX6_together 14 = .ok (.getfield 15, 3) := by decide +kernel
theorem dX6_together_17 : decode cX6_together 17 = .ok (.iload_n 1, 1) := by decide +kernel
theorem dX6_together_18 : decode cX6_together 18 = .ok (.iaload, 1) := by decide +kernel
theorem dX6_together_19 : decode cX6_together 19 = .ok (.goto 4, 3) := by decide +kernel
theorem dX6_together_22 : decode cX6_together 22 = .ok (.iconst 0, 1) := by decide +kernel
theorem dX6_together_23 : decode cX6_together 23 = .ok (.ireturn, 1) := by decide +kernel
theorem dX7_init_0 : decode cX7_init 0 = .ok (.aload_n 0, 1) := by decide +kernel
theorem dX7_init_1 : decode cX7_init 1 = .ok (.invokespecial 3, 3) := by decide +kernel
theorem dX7_init_4 : decode cX7_init 4 = .ok (.aload_n 0, 1) := by decide +kernel
theorem dX7_init_5 : decode cX7_init 5 = .ok (.sipush 1024, 3) := by decide +kernel
theorem dX7_init_8 : decode cX7_init 8 = .ok (.newarray .int, 2) := by decide +kernel
theorem dX7_init_10 : decode cX7_init 10 = .ok (.putfield 9, 3) := by decide +kernel
theorem dX7_init_13 : decode cX7_init 13 = .ok (.aload_n 0, 1) := by decide +kernel
theorem dX7_init_14 : decode cX7_init 14 = .ok (.sipush 1024, 3) := by decide +kernel
theorem dX7_init_17 : decode cX7_init 17 = .ok (.newarray .int, 2) := by decide +kernel
theorem dX7_init_19 : decode cX7_init 19 = .ok (.putfield 15, 3) := by decide +kernel
theorem dX7_init_22 : decode cX7_init 22 = .ok (.aload_n 0, 1) := by decide +kernel
theorem dX7_init_23 : decode cX7_init 23 = .ok (.aload_n 1, 1) := by decide +kernel
theorem dX7_init_24 : decode cX7_init 24 = .ok (.putfield 18, 3) := by decide +kernel
theorem dX7_init_27 : decode cX7_init 27 = .ok (.return_, 1) := by decide +kernel
theorem dX7_partCount_0 : decode cX7_partCount 0 = .ok (.aload_n 0, 1) := by decide +kernel
theorem dX7_partCount_1 : decode cX7_partCount 1 = .ok (.getfield 22, 3) := by decide +kernel
theorem dX7_partCount_4 : decode cX7_partCount 4 = .ok (.ireturn, 1) := by decide +kernel
theorem dX7_greatestPart_0 : decode cX7_greatestPart 0 = .ok (.aload_n 0, 1) := by decide +kernel
theorem dX7_greatestPart_1 : decode cX7_greatestPart 1 = .ok (.getfield 26, 3) := by decide +kernel
theorem dX7_greatestPart_4 : decode cX7_greatestPart 4 = .ok (.ireturn, 1) := by decide +kernel
theorem dX7_judgedBy_0 : decode cX7_judgedBy 0 = .ok (.iconst 0, 1) := by decide +kernel
theorem dX7_judgedBy_1 : decode cX7_judgedBy 1 = .ok (.istore_n 2, 1) := by decide +kernel
theorem dX7_judgedBy_2 : decode cX7_judgedBy 2 = .ok (.iconst 0, 1) := by decide +kernel
theorem dX7_judgedBy_3 : decode cX7_judgedBy 3 = .ok (.istore_n 3, 1) := by decide +kernel
theorem dX7_judgedBy_4 : decode cX7_judgedBy 4 = .ok (.iload_n 3, 1) := by decide +kernel
theorem dX7_judgedBy_5 : decode cX7_judgedBy 5 = .ok (.aload_n 0, 1) := by decide +kernel
theorem dX7_judgedBy_6 : decode cX7_judgedBy 6 = .ok (.getfield 18, 3) := by decide +kernel
theorem dX7_judgedBy_9 : decode cX7_judgedBy 9 = .ok (.invokevirtual 29, 3) := by decide +kernel
theorem dX7_judgedBy_12 : decode cX7_judgedBy 12 = .ok (.if_icmp .ge 24, 3) := by decide +kernel
theorem dX7_judgedBy_15 : decode cX7_judgedBy 15 = .ok (.aload_n 0, 1) := by decide +kernel
theorem dX7_judgedBy_16 : decode cX7_judgedBy 16 = .ok (.getfield 18, 3) := by decide +kernel
theorem dX7_judgedBy_19 : decode cX7_judgedBy 19 = .ok (.iload_n 3, 1) := by decide +kernel
theorem dX7_judgedBy_20 : decode cX7_judgedBy 20 = .ok (.invokevirtual 35, 3) := by decide +kernel
theorem dX7_judgedBy_23 : decode cX7_judgedBy 23 = .ok (.iload_n 1, 1) := by decide +kernel
theorem dX7_judgedBy_24 : decode cX7_judgedBy 24 = .ok (.if_icmp .ne 6, 3) := by decide +kernel
theorem dX7_judgedBy_27 : decode cX7_judgedBy 27 = .ok (.iinc 2 1, 3) := by decide +kernel
theorem dX7_judgedBy_30 : decode cX7_judgedBy 30 = .ok (.iinc 3 1, 3) := by decide +kernel
theorem dX7_judgedBy_33 : decode cX7_judgedBy 33 = .ok (.goto (-29), 3) := by decide +kernel
theorem dX7_judgedBy_36 : decode cX7_judgedBy 36 = .ok (.iload_n 2, 1) := by decide +kernel
theorem dX7_judgedBy_37 : decode cX7_judgedBy 37 = .ok (.ireturn, 1) := by decide +kernel
theorem dX7_unlikePairs_0 : decode cX7_unlikePairs 0 = .ok (.iconst 0, 1) := by decide +kernel
theorem dX7_unlikePairs_1 : decode cX7_unlikePairs 1 = .ok (.istore_n 1, 1) := by decide +kernel
theorem dX7_unlikePairs_2 : decode cX7_unlikePairs 2 = .ok (.iconst 0, 1) := by decide +kernel
theorem dX7_unlikePairs_3 : decode cX7_unlikePairs 3 = .ok (.istore_n 2, 1) := by decide +kernel
theorem dX7_unlikePairs_4 : decode cX7_unlikePairs 4 = .ok (.iload_n 2, 1) := by decide +kernel
theorem dX7_unlikePairs_5 : decode cX7_unlikePairs 5 = .ok (.aload_n 0, 1) := by decide +kernel
theorem dX7_unlikePairs_6 : decode cX7_unlikePairs 6 = .ok (.getfield 18, 3) := by decide +kernel
theorem dX7_unlikePairs_9 : decode cX7_unlikePairs 9 = .ok (.invokevirtual 29, 3) := by decide +kernel
theorem dX7_unlikePairs_12 : decode cX7_unlikePairs 12 = .ok (.if_icmp .ge 64, 3) := by decide +kernel
theorem dX7_unlikePairs_15 : decode cX7_unlikePairs 15 = .ok (.iconst 0, 1) := by decide +kernel
theorem dX7_unlikePairs_16 : decode cX7_unlikePairs 16 = .ok (.istore_n 3, 1) := by decide +kernel
theorem dX7_unlikePairs_17 : decode cX7_unlikePairs 17 = .ok (.iload_n 3, 1) := by decide +kernel
theorem dX7_unlikePairs_18 : decode cX7_unlikePairs 18 = .ok (.aload_n 0, 1) := by decide +kernel
theorem dX7_unlikePairs_19 : decode cX7_unlikePairs 19 = .ok (.getfield 18, 3) := by decide +kernel
theorem dX7_unlikePairs_22 : decode cX7_unlikePairs 22 = .ok (.invokevirtual 39, 3) := by decide +kernel
theorem dX7_unlikePairs_25 : decode cX7_unlikePairs 25 = .ok (.if_icmp .ge 45, 3) := by decide +kernel
theorem dX7_unlikePairs_28 : decode cX7_unlikePairs 28 = .ok (.iload_n 2, 1) := by decide +kernel
theorem dX7_unlikePairs_29 : decode cX7_unlikePairs 29 = .ok (.iconst 1, 1) := by decide +kernel
theorem dX7_unlikePairs_30 : decode cX7_unlikePairs 30 = .ok (.iload_n 3, 1) := by decide +kernel
theorem dX7_unlikePairs_31 : decode cX7_unlikePairs 31 = .ok (.ishl, 1) := by decide +kernel
theorem dX7_unlikePairs_32 : decode cX7_unlikePairs 32 = .ok (.ior, 1) := by decide +kernel
theorem dX7_unlikePairs_33 : decode cX7_unlikePairs 33 = .ok (.istore 4, 2) := by decide +kernel
theorem dX7_unlikePairs_35 : decode cX7_unlikePairs 35 = .ok (.iload 4, 2) := by decide +kernel
theorem dX7_unlikePairs_37 : decode cX7_unlikePairs 37 = .ok (.iload_n 2, 1) := by decide +kernel
theorem dX7_unlikePairs_38 : decode cX7_unlikePairs 38 = .ok (.if_icmp .eq 26, 3) := by decide +kernel
theorem dX7_unlikePairs_41 : decode cX7_unlikePairs 41 = .ok (.aload_n 0, 1) := by decide +kernel
theorem dX7_unlikePairs_42 : decode cX7_unlikePairs 42 = .ok (.getfield 18, 3) := by decide +kernel
theorem dX7_unlikePairs_45 : decode cX7_unlikePairs 45 = .ok (.iload 4, 2) := by decide +kernel
theorem dX7_unlikePairs_47 : decode cX7_unlikePairs 47 = .ok (.invokevirtual 42, 3) := by decide +kernel
theorem dX7_unlikePairs_50 : decode cX7_unlikePairs 50 = .ok (.aload_n 0, 1) := by decide +kernel
theorem dX7_unlikePairs_51 : decode cX7_unlikePairs 51 = .ok (.getfield 18, 3) := by decide +kernel
theorem dX7_unlikePairs_54 : decode cX7_unlikePairs 54 = .ok (.iload_n 2, 1) := by decide +kernel
theorem dX7_unlikePairs_55 : decode cX7_unlikePairs 55 = .ok (.invokevirtual 42, 3) := by decide +kernel
theorem dX7_unlikePairs_58 : decode cX7_unlikePairs 58 = .ok (.if_icmp .eq 6, 3) := by decide +kernel
theorem dX7_unlikePairs_61 : decode cX7_unlikePairs 61 = .ok (.iinc 1 1, 3) := by decide +kernel
theorem dX7_unlikePairs_64 : decode cX7_unlikePairs 64 = .ok (.iinc 3 1, 3) := by decide +kernel
theorem dX7_unlikePairs_67 : decode cX7_unlikePairs 67 = .ok (.goto (-50), 3) := by decide +kernel
theorem dX7_unlikePairs_70 : decode cX7_unlikePairs 70 = .ok (.iinc 2 1, 3) := by decide +kernel
theorem dX7_unlikePairs_73 : decode cX7_unlikePairs 73 = .ok (.goto (-69), 3) := by decide +kernel
theorem dX7_unlikePairs_76 : decode cX7_unlikePairs 76 = .ok (.iload_n 1, 1) := by decide +kernel
theorem dX7_unlikePairs_77 : decode cX7_unlikePairs 77 = .ok (.ireturn, 1) := by decide +kernel
theorem dX7_survey_0 : decode cX7_survey 0 = .ok (.aload_n 0, 1) := by decide +kernel
theorem dX7_survey_1 : decode cX7_survey 1 = .ok (.iconst 0, 1) := by decide +kernel
theorem dX7_survey_2 : decode cX7_survey 2 = .ok (.putfield 22, 3) := by decide +kernel
theorem dX7_survey_5 : decode cX7_survey 5 = .ok (.aload_n 0, 1) := by decide +kernel
theorem dX7_survey_6 : decode cX7_survey 6 = .ok (.iconst 0, 1) := by decide +kernel
theorem dX7_survey_7 : decode cX7_survey 7 = .ok (.putfield 26, 3) := by decide +kernel
theorem dX7_survey_10 : decode cX7_survey 10 = .ok (.aload_n 0, 1) := by decide +kernel
theorem dX7_survey_11 : decode cX7_survey 11 = .ok (.getfield 15, 3) := by decide +kernel
theorem dX7_survey_14 : decode cX7_survey 14 = .ok (.iconst 0, 1) := by decide +kernel
theorem dX7_survey_15 : decode cX7_survey 15 = .ok (.invokestatic 45, 3) := by decide +kernel
theorem dX7_survey_18 : decode cX7_survey 18 = .ok (.iconst 0, 1) := by decide +kernel
theorem dX7_survey_19 : decode cX7_survey 19 = .ok (.istore_n 2, 1) := by decide +kernel
theorem dX7_survey_20 : decode cX7_survey 20 = .ok (.iload_n 2, 1) := by decide +kernel
theorem dX7_survey_21 : decode cX7_survey 21 = .ok (.aload_n 0, 1) := by decide +kernel
theorem dX7_survey_22 : decode cX7_survey 22 = .ok (.getfield 18, 3) := by decide +kernel
theorem dX7_survey_25 : decode cX7_survey 25 = .ok (.invokevirtual 29, 3) := by decide +kernel
theorem dX7_survey_28 : decode cX7_survey 28 = .ok (.if_icmp .ge 53, 3) := by decide +kernel
theorem dX7_survey_31 : decode cX7_survey 31 = .ok (.aload_n 0, 1) := by decide +kernel
theorem dX7_survey_32 : decode cX7_survey 32 = .ok (.iconst 0, 1) := by decide +kernel
theorem dX7_survey_33 : decode cX7_survey 33 = .ok (.putfield 51, 3) := by decide +kernel
theorem dX7_survey_36 : decode cX7_survey 36 = .ok (.aload_n 0, 1) := by decide +kernel
theorem dX7_survey_37 : decode cX7_survey 37 = .ok (.iload_n 2, 1) := by decide +kernel
theorem dX7_survey_38 : decode cX7_survey 38 = .ok (.iload_n 1, 1) := by decide +kernel
theorem dX7_survey_39 : decode cX7_survey 39 = .ok (.invokevirtual 54, 3) := by decide +kernel
theorem dX7_survey_42 : decode cX7_survey 42 = .ok (.aload_n 0, 1) := by decide +kernel
theorem dX7_survey_43 : decode cX7_survey 43 = .ok (.getfield 51, 3) := by decide +kernel
theorem dX7_survey_46 : decode cX7_survey 46 = .ok (.ifCond .le 29, 3) := by decide +kernel
theorem dX7_survey_49 : decode cX7_survey 49 = .ok (.aload_n 0, 1) := by decide +kernel
theorem dX7_survey_50 : decode cX7_survey 50 = .ok (.dup, 1) := by decide +kernel
theorem dX7_survey_51 : decode cX7_survey 51 = .ok (.getfield 22, 3) := by decide +kernel
theorem dX7_survey_54 : decode cX7_survey 54 = .ok (.iconst 1, 1) := by decide +kernel
theorem dX7_survey_55 : decode cX7_survey 55 = .ok (.iadd, 1) := by decide +kernel
theorem dX7_survey_56 : decode cX7_survey 56 = .ok (.putfield 22, 3) := by decide +kernel
theorem dX7_survey_59 : decode cX7_survey 59 = .ok (.aload_n 0, 1) := by decide +kernel
theorem dX7_survey_60 : decode cX7_survey 60 = .ok (.aload_n 0, 1) := by decide +kernel
theorem dX7_survey_61 : decode cX7_survey 61 = .ok (.getfield 26, 3) := by decide +kernel
theorem dX7_survey_64 : decode cX7_survey 64 = .ok (.aload_n 0, 1) := by decide +kernel
theorem dX7_survey_65 : decode cX7_survey 65 = .ok (.iload_n 1, 1) := by decide +kernel
theorem dX7_survey_66 : decode cX7_survey 66 = .ok (.invokevirtual 58, 3) := by decide +kernel
theorem dX7_survey_69 : decode cX7_survey 69 = .ok (.invokestatic 61, 3) := by decide +kernel
theorem dX7_survey_72 : decode cX7_survey 72 = .ok (.putfield 26, 3) := by decide +kernel
theorem dX7_survey_75 : decode cX7_survey 75 = .ok (.iinc 2 1, 3) := by decide +kernel
theorem dX7_survey_78 : decode cX7_survey 78 = .ok (.goto (-58), 3) := by decide +kernel
theorem dX7_survey_81 : decode cX7_survey 81 = .ok (.return_, 1) := by decide +kernel
theorem dX7_partSize_0 : decode cX7_partSize 0 = .ok (.iconst 0, 1) := by decide +kernel
theorem dX7_partSize_1 : decode cX7_partSize 1 = .ok (.istore_n 2, 1) := by decide +kernel
theorem dX7_partSize_2 : decode cX7_partSize 2 = .ok (.iload_n 2, 1) := by decide +kernel
theorem dX7_partSize_3 : decode cX7_partSize 3 = .ok (.aload_n 0, 1) := by decide +kernel
theorem dX7_partSize_4 : decode cX7_partSize 4 = .ok (.getfield 51, 3) := by decide +kernel
theorem dX7_partSize_7 : decode cX7_partSize 7 = .ok (.if_icmp .ge 52, 3) := by decide +kernel
theorem dX7_partSize_10 : decode cX7_partSize 10 = .ok (.iload_n 2, 1) := by decide +kernel
theorem dX7_partSize_11 : decode cX7_partSize 11 = .ok (.aload_n 0, 1) := by decide +kernel
theorem dX7_partSize_12 : decode cX7_partSize 12 = .ok (.getfield 9, 3) := by decide +kernel
theorem dX7_partSize_15 : decode cX7_partSize 15 = .ok (.arraylength, 1) := by decide +kernel
theorem dX7_partSize_16 : decode cX7_partSize 16 = .ok (.if_icmp .ge 43, 3) := by decide +kernel
theorem dX7_partSize_19 : decode cX7_partSize 19 = .ok (.iconst 0, 1) := by decide +kernel
theorem dX7_partSize_20 : decode cX7_partSize 20 = .ok (.istore_n 3, 1) := by decide +kernel
theorem dX7_partSize_21 : decode cX7_partSize 21 = .ok (.iload_n 3, 1) := by decide +kernel
theorem dX7_partSize_22 : decode cX7_partSize 22 = .ok (.aload_n 0, 1) := by decide +kernel
theorem dX7_partSize_23 : decode cX7_partSize 23 = .ok (.getfield 18, 3) := by decide +kernel
theorem dX7_partSize_26 : decode cX7_partSize 26 = .ok (.invokevirtual 39, 3) := by decide +kernel
theorem dX7_partSize_29 : decode cX7_partSize 29 = .ok (.if_icmp .ge 24, 3) := by decide +kernel
theorem dX7_partSize_32 : decode cX7_partSize 32 = .ok (.aload_n 0, 1) := by decide +kernel
theorem dX7_partSize_33 : decode cX7_partSize 33 = .ok (.aload_n 0, 1) := by decide +kernel
theorem dX7_partSize_34 : decode cX7_partSize 34 = .ok (.getfield 9, 3) := by decide +kernel
theorem dX7_partSize_37 : decode cX7_partSize 37 = .ok (.iload_n 2, 1) := by decide +kernel
theorem dX7_partSize_38 : decode cX7_partSize 38 = .ok (.iaload, 1) := by decide +kernel
theorem dX7_partSize_39 : decode cX7_partSize 39 = .ok (.iconst 1, 1) := by decide +kernel
theorem dX7_partSize_40 : decode cX7_partSize 40 = .ok (.iload_n 3, 1) := by decide +kernel
theorem dX7_partSize_41 : decode cX7_partSize 41 = .ok (.ishl, 1) := by decide +kernel
theorem dX7_partSize_42 : decode cX7_partSize 42 = .ok (.ixor, 1) := by decide +kernel
theorem dX7_partSize_43 : decode cX7_partSize 43 = .ok (.iload_n 1, 1) := by decide +kernel
theorem dX7_partSize_44 : decode cX7_partSize 44 = .ok (.invokevirtual 54, 3) := by decide +kernel
theorem dX7_partSize_47 : decode cX7_partSize 47 = .ok (.iinc 3 1, 3) := by decide +kernel
theorem dX7_partSize_50 : decode cX7_partSize 50 = .ok (.goto (-29), 3) := by decide +kernel
theorem dX7_partSize_53 : decode cX7_partSize 53 = .ok (.iinc 2 1, 3) := by decide +kernel
theorem dX7_partSize_56 : decode cX7_partSize 56 = .ok (.goto (-54), 3) := by decide +kernel
theorem dX7_partSize_59 : decode cX7_partSize 59 = .ok (.aload_n 0, 1) := by decide +kernel
theorem dX7_partSize_60 : decode cX7_partSize 60 = .ok (.getfield 51, 3) := by decide +kernel
theorem dX7_partSize_63 : decode cX7_partSize 63 = .ok (.ireturn, 1) := by decide +kernel
theorem dX7_reach_0 : decode cX7_reach 0 = .ok (.aload_n 0, 1) := by decide +kernel
theorem dX7_reach_1 : decode cX7_reach 1 = .ok (.getfield 18, 3) := by decide +kernel
theorem dX7_reach_4 : decode cX7_reach 4 = .ok (.iload_n 1, 1) := by decide +kernel
theorem dX7_reach_5 : decode cX7_reach 5 = .ok (.invokevirtual 67, 3) := by decide +kernel
theorem dX7_reach_8 : decode cX7_reach 8 = .ok (.ifCond .eq 24, 3) := by decide +kernel
theorem dX7_reach_11 : decode cX7_reach 11 = .ok (.aload_n 0, 1) := by decide +kernel
theorem dX7_reach_12 : decode cX7_reach 12 = .ok (.getfield 51, 3) := by decide +kernel
theorem dX7_reach_15 : decode cX7_reach 15 = .ok (.aload_n 0, 1) := by decide +kernel
theorem dX7_reach_16 : decode cX7_reach 16 = .ok (.getfield 9, 3) := by decide +kernel
theorem dX7_reach_19 : decode cX7_reach 19 = .ok (.arraylength, 1) := by decide +kernel
theorem dX7_reach_20 : decode cX7_reach 20 = .ok (.if_icmp .ge 12, 3) := by decide +kernel
theorem dX7_reach_23 : decode cX7_reach 23 = .ok (.iload_n 1, 1) := by decide +kernel
theorem dX7_reach_24 : decode cX7_reach 24 = .ok (.aload_n 0, 1) := by decide +kernel
theorem dX7_reach_25 : decode cX7_reach 25 = .ok (.getfield 15, 3) := by decide +kernel
theorem dX7_reach_28 : decode cX7_reach 28 = .ok (.arraylength, 1) := by decide +kernel
theorem dX7_reach_29 : decode cX7_reach 29 = .ok (.if_icmp .lt 4, 3) := by decide +kernel
theorem dX7_reach_32 : decode cX7_reach 32 = .ok (.return_, 1) := by decide +kernel
theorem dX7_reach_33 : decode cX7_reach 33 = .ok (.aload_n 0, 1) := by decide +kernel
theorem dX7_reach_34 : decode cX7_reach 34 = .ok (.getfield 15, 3) := by decide +kernel
theorem dX7_reach_37 : decode cX7_reach 37 = .ok (.iload_n 1, 1) := by decide +kernel
theorem dX7_reach_38 : decode cX7_reach 38 = .ok (.iaload, 1) := by decide +kernel
theorem dX7_reach_39 : decode cX7_reach 39 = .ok (.ifCond .ne 42, 3) := by decide +kernel
theorem dX7_reach_42 : decode cX7_reach 42 = .ok (.aload_n 0, 1) := by decide +kernel
theorem dX7_reach_43 : decode cX7_reach 43 = .ok (.getfield 18, 3) := by decide +kernel
theorem dX7_reach_46 : decode cX7_reach 46 = .ok (.iload_n 1, 1) := by decide +kernel
theorem dX7_reach_47 : decode cX7_reach 47 = .ok (.invokevirtual 42, 3) := by decide +kernel
theorem dX7_reach_50 : decode cX7_reach 50 = .ok (.iload_n 2, 1) := by decide +kernel
theorem dX7_reach_51 : decode cX7_reach 51 = .ok (.if_icmp .ne 30, 3) := by decide +kernel
theorem dX7_reach_54 : decode cX7_reach 54 = .ok (.aload_n 0, 1) := by decide +kernel
theorem dX7_reach_55 : decode cX7_reach 55 = .ok (.getfield 15, 3) := by decide +kernel
theorem dX7_reach_58 : decode cX7_reach 58 = .ok (.iload_n 1, 1) := by decide +kernel
theorem dX7_reach_59 : decode cX7_reach 59 = .ok (.iconst 1, 1) := by decide +kernel
theorem dX7_reach_60 : decode cX7_reach 60 = .ok (.iastore, 1) := by decide +kernel
theorem dX7_reach_61 : decode cX7_reach 61 = .ok (.aload_n 0, 1) := by decide +kernel
theorem dX7_reach_62 : decode cX7_reach 62 = .ok (.getfield 9, 3) := by decide +kernel
theorem dX7_reach_65 : decode cX7_reach 65 = .ok (.aload_n 0, 1) := by decide +kernel
theorem dX7_reach_66 : decode cX7_reach 66 = .ok (.getfield 51, 3) := by decide +kernel
theorem dX7_reach_69 : decode cX7_reach 69 = .ok (.iload_n 1, 1) := by decide +kernel
theorem dX7_reach_70 : decode cX7_reach 70 = .ok (.iastore, 1) := by decide +kernel
theorem dX7_reach_71 : decode cX7_reach 71 = .ok (.aload_n 0, 1) := by decide +kernel
theorem dX7_reach_72 : decode cX7_reach 72 = .ok (.dup, 1) := by decide +kernel
theorem dX7_reach_73 : decode cX7_reach 73 = .ok (.getfield 51, 3) := by decide +kernel
theorem dX7_reach_76 : decode cX7_reach 76 = .ok (.iconst 1, 1) := by decide +kernel
theorem dX7_reach_77 : decode cX7_reach 77 = .ok (.iadd, 1) := by decide +kernel
theorem dX7_reach_78 : decode cX7_reach 78 = .ok (.putfield 51, 3) := by decide +kernel
theorem dX7_reach_81 : decode cX7_reach 81 = .ok (.return_, 1) := by decide +kernel
theorem dX8_init_0 : decode cX8_init 0 = .ok (.aload_n 0, 1) := by decide +kernel
theorem dX8_init_1 : decode cX8_init 1 = .ok (.invokespecial 3, 3) := by decide +kernel
theorem dX8_init_4 : decode cX8_init 4 = .ok (.aload_n 0, 1) := by decide +kernel
theorem dX8_init_5 : decode cX8_init 5 = .ok (.sipush 200, 3) := by decide +kernel
theorem dX8_init_8 : decode cX8_init 8 = .ok (.newarray .int, 2) := by decide +kernel
theorem dX8_init_10 : decode cX8_init 10 = .ok (.putfield 9, 3) := by decide +kernel
theorem dX8_init_13 : decode cX8_init 13 = .ok (.aload_n 0, 1) := by decide +kernel
theorem dX8_init_14 : decode cX8_init 14 = .ok (.bipush 8, 2) := by decide +kernel
theorem dX8_init_16 : decode cX8_init 16 = .ok (.newarray .int, 2) := by decide +kernel
theorem dX8_init_18 : decode cX8_init 18 = .ok (.putfield 15, 3) := by decide +kernel
theorem dX8_init_21 : decode cX8_init 21 = .ok (.aload_n 0, 1) := by decide +kernel
theorem dX8_init_22 : decode cX8_init 22 = .ok (.bipush 24, 2) := by decide +kernel
theorem dX8_init_24 : decode cX8_init 24 = .ok (.newarray .int, 2) := by decide +kernel
theorem dX8_init_26 : decode cX8_init 26 = .ok (.putfield 18, 3) := by decide +kernel
theorem dX8_init_29 : decode cX8_init 29 = .ok (.return_, 1) := by decide +kernel
theorem dX8_size_0 : decode cX8_size 0 = .ok (.aload_n 0, 1) := by decide +kernel
theorem dX8_size_1 : decode cX8_size 1 = .ok (.getfield 21, 3) := by decide +kernel
theorem dX8_size_4 : decode cX8_size 4 = .ok (.ireturn, 1) := by decide +kernel
theorem dX8_clear_0 : decode cX8_clear 0 = .ok (.aload_n 0, 1) := by decide +kernel
theorem dX8_clear_1 : decode cX8_clear 1 = .ok (.iconst 0, 1) := by decide +kernel
theorem dX8_clear_2 : decode cX8_clear 2 = .ok (.putfield 21, 3) := by decide +kernel
theorem dX8_clear_5 : decode cX8_clear 5 = .ok (.return_, 1) := by decide +kernel
theorem dX8_append_0 : decode cX8_append 0 = .ok (.aload_n 0, 1) := by decide +kernel
theorem dX8_append_1 : decode cX8_append 1 = .ok (.getfield 21, 3) := by decide +kernel
theorem dX8_append_4 : decode cX8_append 4 = .ok (.aload_n 0, 1) := by decide +kernel
theorem dX8_append_5 : decode cX8_append 5 = .ok (.getfield 9, 3) := by decide +kernel
theorem dX8_append_8 : decode cX8_append 8 = .ok (.arraylength, 1) := by decide +kernel
theorem dX8_append_9 : decode cX8_append 9 = .ok (.if_icmp .ge 23, 3) := by decide +kernel
theorem dX8_append_12 : decode cX8_append 12 = .ok (.aload_n 0, 1) := by decide +kernel
theorem dX8_append_13 : decode cX8_append 13 = .ok (.getfield 9, 3) := by decide +kernel
theorem dX8_append_16 : decode cX8_append 16 = .ok (.aload_n 0, 1) := by decide +kernel
theorem dX8_append_17 : decode cX8_append 17 = .ok (.getfield 21, 3) := by decide +kernel
theorem dX8_append_20 : decode cX8_append 20 = .ok (.iload_n 1, 1) := by decide +kernel
theorem dX8_append_21 : decode cX8_append 21 = .ok (.iastore, 1) := by decide +kernel
theorem dX8_append_22 : decode cX8_append 22 = .ok (.aload_n 0, 1) := by decide +kernel
theorem dX8_append_23 : decode cX8_append 23 = .ok (.dup, 1) := by decide +kernel
theorem dX8_append_24 : decode cX8_append 24 = .ok (.getfield 21, 3) := by decide +kernel
theorem dX8_append_27 : decode cX8_append 27 = .ok (.iconst 1, 1) := by decide +kernel
theorem dX8_append_28 : decode cX8_append 28 = .ok (.iadd, 1) := by decide +kernel
theorem dX8_append_29 : decode cX8_append 29 = .ok (.putfield 21, 3) := by decide +kernel
theorem dX8_append_32 : decode cX8_append 32 = .ok (.return_, 1) := by decide +kernel
theorem dX8_byteAt_0 : decode cX8_byteAt 0 = .ok (.iload_n 1, 1) := by decide +kernel
theorem dX8_byteAt_1 : decode cX8_byteAt 1 = .ok (.ifCond .lt 20, 3) := by decide +kernel
theorem dX8_byteAt_4 : decode cX8_byteAt 4 = .ok (.iload_n 1, 1) := by decide +kernel
theorem dX8_byteAt_5 : decode cX8_byteAt 5 = .ok (.aload_n 0, 1) := by decide +kernel
theorem dX8_byteAt_6 : decode cX8_byteAt 6 = .ok (.getfield 21, 3) := by decide +kernel
theorem dX8_byteAt_9 : decode cX8_byteAt 9 = .ok (.if_icmp .ge 12, 3) := by decide +kernel
theorem dX8_byteAt_12 : decode cX8_byteAt 12 = .ok (.aload_n 0, 1) := by decide +kernel
theorem dX8_byteAt_13 : decode cX8_byteAt 13 = .ok (.getfield 9, 3) := by decide +kernel
theorem dX8_byteAt_16 : decode cX8_byteAt 16 = .ok (.iload_n 1, 1) := by decide +kernel
theorem dX8_byteAt_17 : decode cX8_byteAt 17 = .ok (.iaload, 1) := by decide +kernel
theorem dX8_byteAt_18 : decode cX8_byteAt 18 = .ok (.goto 4, 3) := by decide +kernel
theorem dX8_byteAt_21 : decode cX8_byteAt 21 = .ok (.iconst (-1), 1) := by decide +kernel
theorem dX8_byteAt_22 : decode cX8_byteAt 22 = .ok (.ireturn, 1) := by decide +kernel
theorem dX8_lines_0 : decode cX8_lines 0 = .ok (.aload_n 0, 1) := by decide +kernel
theorem dX8_lines_1 : decode cX8_lines 1 = .ok (.getfield 25, 3) := by decide +kernel
theorem dX8_lines_4 : decode cX8_lines 4 = .ok (.ireturn, 1) := by decide +kernel
theorem dX8_word_0 : decode cX8_word 0 = .ok (.iload_n 1, 1) := by decide +kernel
theorem dX8_word_1 : decode cX8_word 1 = .ok (.ifCond .lt 21, 3) := by decide +kernel
theorem dX8_word_4 : decode cX8_word 4 = .ok (.iload_n 1, 1) := by decide +kernel
theorem dX8_word_5 : decode cX8_word 5 = .ok (.aload_n 0, 1) := by decide +kernel
theorem dX8_word_6 : decode cX8_word 6 = .ok (.getfield 15, 3) := by decide +kernel
theorem dX8_word_9 : decode cX8_word 9 = .ok (.arraylength, 1) := by decide +kernel
theorem dX8_word_10 : decode cX8_word 10 = .ok (.if_icmp .ge 12, 3) := by decide +kernel
theorem dX8_word_13 : decode cX8_word 13 = .ok (.aload_n 0, 1) := by decide +kernel
theorem dX8_word_14 : decode cX8_word 14 = .ok (.getfield 15, 3) := by decide +kernel
theorem dX8_word_17 : decode cX8_word 17 = .ok (.iload_n 1, 1) := by decide +kernel
theorem dX8_word_18 : decode cX8_word 18 = .ok (.iaload, 1) := by decide +kernel
theorem dX8_word_19 : decode cX8_word 19 = .ok (.goto 4, 3) := by decide +kernel
theorem dX8_word_22 : decode cX8_word 22 = .ok (.iconst (-1), 1) := by decide +kernel
theorem dX8_word_23 : decode cX8_word 23 = .ok (.ireturn, 1) := by decide +kernel
theorem dX8_value_0 : decode cX8_value 0 = .ok (.iload_n 1, 1) := by decide +kernel
theorem dX8_value_1 : decode cX8_value 1 = .ok (.iconst 3, 1) := by decide +kernel
theorem dX8_value_2 : decode cX8_value 2 = .ok (.imul, 1) := by decide +kernel
theorem dX8_value_3 : decode cX8_value 3 = .ok (.iload_n 2, 1) := by decide +kernel
theorem dX8_value_4 : decode cX8_value 4 = .ok (.iadd, 1) := by decide +kernel
theorem dX8_value_5 : decode cX8_value 5 = .ok (.istore_n 3, 1) := by decide +kernel
theorem dX8_value_6 : decode cX8_value 6 = .ok (.iload_n 3, 1) := by decide +kernel
theorem dX8_value_7 : decode cX8_value 7 = .ok (.ifCond .lt 21, 3) := by decide +kernel
theorem dX8_value_10 : decode cX8_value 10 = .ok (.iload_n 3, 1) := by decide +kernel
theorem dX8_value_11 : decode cX8_value 11 = .ok (.aload_n 0, 1) := by decide +kernel
theorem dX8_value_12 : decode cX8_value 12 = .ok (.getfield 18, 3) := by decide +kernel
theorem dX8_value_15 : decode cX8_value 15 = .ok (.arraylength, 1) := by decide +kernel
theorem dX8_value_16 : decode cX8_value 16 = .ok (.if_icmp .ge 12, 3) := by decide +kernel
theorem dX8_value_19 : decode cX8_value 19 = .ok (.aload_n 0, 1) := by decide +kernel
theorem dX8_value_20 : decode cX8_value 20 = .ok (.getfield 18, 3) := by decide +kernel
theorem dX8_value_23 : decode cX8_value 23 = .ok (.iload_n 3, 1) := by decide +kernel
theorem dX8_value_24 : decode cX8_value 24 = .ok (.iaload, 1) := by decide +kernel
theorem dX8_value_25 : decode cX8_value 25 = .ok (.goto 4, 3) := by decide +kernel
theorem dX8_value_28 : decode cX8_value 28 = .ok (.iconst 0, 1) := by decide +kernel
theorem dX8_value_29 : decode cX8_value 29 = .ok (.ireturn, 1) := by decide +kernel
theorem dX8_readAll_0 : decode cX8_readAll 0 = .ok (.aload_n 0, 1) := by decide +kernel
theorem dX8_readAll_1 : decode cX8_readAll 1 = .ok (.iload_n 1, 1) := by decide +kernel
theorem dX8_readAll_2 : decode cX8_readAll 2 = .ok (.putfield 28, 3) := by decide +kernel
theorem dX8_readAll_5 : decode cX8_readAll 5 = .ok (.aload_n 0, 1) := by decide +kernel
theorem dX8_readAll_6 : decode cX8_readAll 6 = .ok (.iload_n 2, 1) := by decide +kernel
theorem dX8_readAll_7 : decode cX8_readAll 7 = .ok (.putfield 31, 3) := by decide +kernel
theorem dX8_readAll_10 : decode cX8_readAll 10 = .ok (.aload_n 0, 1) := by decide +kernel
theorem dX8_readAll_11 : decode cX8_readAll 11 = .ok (.iconst 0, 1) := by decide +kernel
theorem dX8_readAll_12 : decode cX8_readAll 12 = .ok (.putfield 25, 3) := by decide +kernel
theorem dX8_readAll_15 : decode cX8_readAll 15 = .ok (.aload_n 0, 1) := by decide +kernel
theorem dX8_readAll_16 : decode cX8_readAll 16 = .ok (.iconst (-1), 1) := by decide +kernel
theorem dX8_readAll_17 : decode cX8_readAll 17 = .ok (.putfield 34, 3) := by decide +kernel
theorem dX8_readAll_20 : decode cX8_readAll 20 = .ok (.aload_n 0, 1) := by decide +kernel
theorem dX8_readAll_21 : decode cX8_readAll 21 = .ok (.iconst 0, 1) := by decide +kernel
theorem dX8_readAll_22 : decode cX8_readAll 22 = .ok (.putfield 37, 3) := by decide +kernel
theorem dX8_readAll_25 : decode cX8_readAll 25 = .ok (.iconst 1, 1) := by decide +kernel
theorem dX8_readAll_26 : decode cX8_readAll 26 = .ok (.istore_n 3, 1) := by decide +kernel
theorem dX8_readAll_27 : decode cX8_readAll 27 = .ok (.iconst 0, 1) := by decide +kernel
theorem dX8_readAll_28 : decode cX8_readAll 28 = .ok (.istore 4, 2) := by decide +kernel
theorem dX8_readAll_30 : decode cX8_readAll 30 = .ok (.iload 4, 2) := by decide +kernel
theorem dX8_readAll_32 : decode cX8_readAll 32 = .ok (.bipush 8, 2) := by decide +kernel
theorem dX8_readAll_34 : decode cX8_readAll 34 = .ok (.if_icmp .ge 40, 3) := by decide +kernel
theorem dX8_readAll_37 : decode cX8_readAll 37 = .ok (.iload_n 3, 1) := by decide +kernel
theorem dX8_readAll_38 : decode cX8_readAll 38 = .ok (.ifCond .eq 36, 3) := by decide +kernel
theorem dX8_readAll_41 : decode cX8_readAll 41 = .ok (.aload_n 0, 1) := by decide +kernel
theorem dX8_readAll_42 : decode cX8_readAll 42 = .ok (.iload 4, 2) := by decide +kernel
theorem dX8_readAll_44 : decode cX8_readAll 44 = .ok (.invokevirtual 40, 3) := by decide +kernel
theorem dX8_readAll_47 : decode cX8_readAll 47 = .ok (.aload_n 0, 1) := by decide +kernel
theorem dX8_readAll_48 : decode cX8_readAll 48 = .ok (.getfield 34, 3) := by decide +kernel
theorem dX8_readAll_51 : decode cX8_readAll 51 = .ok (.iconst (-1), 1) := by decide +kernel
theorem dX8_readAll_52 : decode cX8_readAll 52 = .ok (.if_icmp .ne 14, 3) := by decide +kernel
theorem dX8_readAll_55 : decode cX8_readAll 55 = .ok (.aload_n 0, 1) := by decide +kernel
theorem dX8_readAll_56 : decode cX8_readAll 56 = .ok (.invokevirtual 44, 3) := by decide +kernel
theorem dX8_readAll_59 : decode cX8_readAll 59 = .ok (.ifCond .eq 7, 3) := by decide +kernel
theorem dX8_readAll_62 : decode cX8_readAll 62 = .ok (.iconst 1, 1) := by decide +kernel
theorem dX8_readAll_63 : decode cX8_readAll 63 = .ok (.goto 4, 3) := by decide +kernel
theorem dX8_readAll_66 : decode cX8_readAll 66 = .ok (.iconst 0, 1) := by decide +kernel
theorem dX8_readAll_67 : decode cX8_readAll 67 = .ok (.istore_n 3, 1) := by decide +kernel
theorem dX8_readAll_68 : decode cX8_readAll 68 = .ok (.iinc 4 1, 3) := by decide +kernel
theorem dX8_readAll_71 : decode cX8_readAll 71 = .ok (.goto (-41), 3) := by decide +kernel
theorem dX8_readAll_74 : decode cX8_readAll 74 = .ok (.aload_n 0, 1) := by decide +kernel
theorem dX8_readAll_75 : decode cX8_readAll 75 = .ok (.getfield 34, 3) := by decide +kernel
theorem dX8_readAll_78 : decode cX8_readAll 78 = .ok (.ireturn, 1) := by decide +kernel
theorem dX8_goesOn_0 : decode cX8_goesOn 0 = .ok (.aload_n 0, 1) := by decide +kernel
theorem dX8_goesOn_1 : decode cX8_goesOn 1 = .ok (.invokevirtual 48, 3) := by decide +kernel
theorem dX8_goesOn_4 : decode cX8_goesOn 4 = .ok (.aload_n 0, 1) := by decide +kernel
theorem dX8_goesOn_5 : decode cX8_goesOn 5 = .ok (.getfield 51, 3) := by decide +kernel
theorem dX8_goesOn_8 : decode cX8_goesOn 8 = .ok (.aload_n 0, 1) := by decide +kernel
theorem dX8_goesOn_9 : decode cX8_goesOn 9 = .ok (.getfield 21, 3) := by decide +kernel
theorem dX8_goesOn_12 : decode cX8_goesOn 12 = .ok (.if_icmp .lt 5, 3) := by decide +kernel
theorem dX8_goesOn_15 : decode cX8_goesOn 15 = .ok (.iconst 0, 1) := by decide +kernel
theorem dX8_goesOn_16 : decode cX8_goesOn 16 = .ok (.ireturn, 1) := by decide +kernel
theorem dX8_goesOn_17 : decode cX8_goesOn 17 = .ok (.aload_n 0, 1) := by decide +kernel
theorem dX8_goesOn_18 : decode cX8_goesOn 18 = .ok (.aload_n 0, 1) := by decide +kernel
theorem dX8_goesOn_19 : decode cX8_goesOn 19 = .ok (.getfield 51, 3) := by decide +kernel
theorem dX8_goesOn_22 : decode cX8_goesOn 22 = .ok (.invokevirtual 54, 3) := by decide +kernel
theorem dX8_goesOn_25 : decode cX8_goesOn 25 = .ok (.bipush 59, 2) := by decide +kernel
theorem dX8_goesOn_27 : decode cX8_goesOn 27 = .ok (.if_icmp .ne 12, 3) := by decide +kernel
theorem dX8_goesOn_30 : decode cX8_goesOn 30 = .ok (.aload_n 0, 1) := by decide +kernel
theorem dX8_goesOn_31 : decode cX8_goesOn 31 = .ok (.getfield 25, 3) := by decide +kernel
theorem dX8_goesOn_34 : decode cX8_goesOn 34 = .ok (.bipush 8, 2) := by decide +kernel
theorem dX8_goesOn_36 : decode cX8_goesOn 36 = .ok (.if_icmp .ne 9, 3) := by decide +kernel
theorem dX8_goesOn_39 : decode cX8_goesOn 39 = .ok (.aload_n 0, 1) := by decide +kernel
theorem dX8_goesOn_40 : decode cX8_goesOn 40 = .ok (.invokevirtual 58, 3) := by decide +kernel
theorem dX8_goesOn_43 : decode cX8_goesOn 43 = .ok (.iconst 0, 1) := by decide +kernel
theorem dX8_goesOn_44 : decode cX8_goesOn 44 = .ok (.ireturn, 1) := by decide +kernel
theorem dX8_goesOn_45 : decode cX8_goesOn 45 = .ok (.iconst 1, 1) := by decide +kernel
theorem dX8_goesOn_46 : decode cX8_goesOn 46 = .ok (.ireturn, 1) := by decide +kernel
theorem dX8_readLine_0 : decode cX8_readLine 0 = .ok (.aload_n 0, 1) := by decide +kernel
theorem dX8_readLine_1 : decode cX8_readLine 1 = .ok (.invokevirtual 48, 3) := by decide +kernel
theorem dX8_readLine_4 : decode cX8_readLine 4 = .ok (.aload_n 0, 1) := by decide +kernel
theorem dX8_readLine_5 : decode cX8_readLine 5 = .ok (.invokevirtual 61, 3) := by decide +kernel
theorem dX8_readLine_8 : decode cX8_readLine 8 = .ok (.istore_n 2, 1) := by decide +kernel
theorem dX8_readLine_9 : decode cX8_readLine 9 = .ok (.iload_n 2, 1) := by decide +kernel
theorem dX8_readLine_10 : decode cX8_readLine 10 = .ok (.iconst (-1), 1) := by decide +kernel
theorem dX8_readLine_11 : decode cX8_readLine 11 = .ok (.if_icmp .eq 17, 3) := by decide +kernel
theorem dX8_readLine_14 : decode cX8_readLine 14 = .ok (.iload_n 2, 1) := by decide +kernel
theorem dX8_readLine_15 : decode cX8_readLine 15 = .ok (.iconst 3, 1) := by decide +kernel
theorem dX8_readLine_16 : decode cX8_readLine 16 = .ok (.if_icmp .ne 17, 3) := by decide +kernel
theorem dX8_readLine_19 : decode cX8_readLine 19 = .ok (.aload_n 0, 1) := by decide +kernel
theorem dX8_readLine_20 : decode cX8_readLine 20 = .ok (.getfield 31, 3) := by decide +kernel
theorem dX8_readLine_23 : decode cX8_readLine 23 = .ok (.bipush 12, 2) := by decide +kernel
theorem dX8_readLine_25 : decode cX8_readLine 25 = .ok (.if_icmp .ne 8, 3) := by decide +kernel
theorem dX8_readLine_28 : decode cX8_readLine 28 = .ok (.aload_n 0, 1) := by decide +kernel
theorem dX8_readLine_29 : decode cX8_readLine 29 = .ok (.invokevirtual 58, 3) := by decide +kernel
theorem dX8_readLine_32 : decode cX8_readLine 32 = .ok (.return_, 1) := by decide +kernel
theorem dX8_readLine_33 : decode cX8_readLine 33 = .ok (.aload_n 0, 1) := by decide +kernel
theorem dX8_readLine_34 : decode cX8_readLine 34 = .ok (.iload_n 1, 1) := by decide +kernel
theorem dX8_readLine_35 : decode cX8_readLine 35 = .ok (.iload_n 2, 1) := by decide +kernel
theorem dX8_readLine_36 : decode cX8_readLine 36 = .ok (.invokevirtual 65, 3) := by decide +kernel
theorem dX8_readLine_39 : decode cX8_readLine 39 = .ok (.aload_n 0, 1) := by decide +kernel
theorem dX8_readLine_40 : decode cX8_readLine 40 = .ok (.iload_n 1, 1) := by decide +kernel
theorem dX8_readLine_41 : decode cX8_readLine 41 = .ok (.iconst 1, 1) := by decide +kernel
theorem dX8_readLine_42 : decode cX8_readLine 42 = .ok (.iadd, 1) := by decide +kernel
theorem dX8_readLine_43 : decode cX8_readLine 43 = .ok (.putfield 25, 3) := by decide +kernel
theorem dX8_readLine_46 : decode cX8_readLine 46 = .ok (.return_, 1) := by decide +kernel
theorem dX8_readValues_0 : decode cX8_readValues 0 = .ok (.iload_n 2, 1) := by decide +kernel
theorem dX8_readValues_1 : decode cX8_readValues 1 = .ok (.tableswitch 137 0 3 #[31, 62, 62, 92], 31) := by decide +kernel
theorem dX8_readValues_32 : decode cX8_readValues 32 = .ok (.aload_n 0, 1) := by decide +kernel
theorem dX8_readValues_33 : decode cX8_readValues 33 = .ok (.aload_n 0, 1) := by decide +kernel
theorem dX8_readValues_34 : decode cX8_readValues 34 = .ok (.iconst 1, 1) := by decide +kernel
theorem dX8_readValues_35 : decode cX8_readValues 35 = .ok (.bipush 10, 2) := by decide +kernel
theorem dX8_readValues_37 : decode cX8_readValues 37 = .ok (.invokevirtual 69, 3) := by decide +kernel
theorem dX8_readValues_40 : decode cX8_readValues 40 = .ok (.putfield 28, 3) := by decide +kernel
theorem dX8_readValues_43 : decode cX8_readValues 43 = .ok (.aload_n 0, 1) := by decide +kernel
theorem dX8_readValues_44 : decode cX8_readValues 44 = .ok (.iconst 0, 1) := by decide +kernel
theorem dX8_readValues_45 : decode cX8_readValues 45 = .ok (.putfield 31, 3) := by decide +kernel
theorem dX8_readValues_48 : decode cX8_readValues 48 = .ok (.aload_n 0, 1) := by decide +kernel
theorem dX8_readValues_49 : decode cX8_readValues 49 = .ok (.iload_n 1, 1) := by decide +kernel
theorem dX8_readValues_50 : decode cX8_readValues 50 = .ok (.iload_n 2, 1) := by decide +kernel
theorem dX8_readValues_51 : decode cX8_readValues 51 = .ok (.aload_n 0, 1) := by decide +kernel
theorem dX8_readValues_52 : decode cX8_readValues 52 = .ok (.getfield 28, 3) := by decide +kernel
theorem dX8_readValues_55 : decode cX8_readValues 55 = .ok (.iconst 0, 1) := by decide +kernel
theorem dX8_readValues_56 : decode cX8_readValues 56 = .ok (.iconst 0, 1) := by decide +kernel
theorem dX8_readValues_57 : decode cX8_readValues 57 = .ok (.invokevirtual 73, 3) := by decide +kernel
theorem dX8_readValues_60 : decode cX8_readValues 60 = .ok (.goto 116, 3) := by decide +kernel
theorem dX8_readValues_63 : decode cX8_readValues 63 = .ok (.aload_n 0, 1) := by decide +kernel
theorem dX8_readValues_64 : decode cX8_readValues 64 = .ok (.iconst 0, 1) := by decide +kernel
theorem dX8_readValues_65 : decode cX8_readValues 65 = .ok (.aload_n 0, 1) := by decide +kernel
theorem dX8_readValues_66 : decode cX8_readValues 66 = .ok (.getfield 28, 3) := by decide +kernel
theorem dX8_readValues_69 : decode cX8_readValues 69 = .ok (.iconst 1, 1) := by decide +kernel
theorem dX8_readValues_70 : decode cX8_readValues 70 = .ok (.isub, 1) := by decide +kernel
theorem dX8_readValues_71 : decode cX8_readValues 71 = .ok (.invokevirtual 69, 3) := by decide +kernel
theorem dX8_readValues_74 : decode cX8_readValues 74 = .ok (.istore_n 3, 1) := by decide +kernel
theorem dX8_readValues_75 : decode cX8_readValues 75 = .ok (.aload_n 0, 1) := by decide +kernel
theorem dX8_readValues_76 : decode cX8_readValues 76 = .ok (.iload_n 1, 1) := by decide +kernel
theorem dX8_readValues_77 : decode cX8_readValues 77 = .ok (.iload_n 2, 1) := by decide +kernel
theorem dX8_readValues_78 : decode cX8_readValues 78 = .ok (.iload_n 3, 1) := by decide +kernel
theorem dX8_readValues_79 : decode cX8_readValues 79 = .ok (.aload_n 0, 1) := by decide +kernel
theorem dX8_readValues_80 : decode cX8_readValues 80 = .ok (.iconst 0, 1) := by decide +kernel
theorem dX8_readValues_81 : decode cX8_readValues 81 = .ok (.bipush 9, 2) := by decide +kernel
theorem dX8_readValues_83 : decode cX8_readValues 83 = .ok (.invokevirtual 69, 3) := by decide +kernel
theorem dX8_readValues_86 : decode cX8_readValues 86 = .ok (.iconst 0, 1) := by decide +kernel
theorem dX8_readValues_87 : decode cX8_readValues 87 = .ok (.invokevirtual 73, 3) := by decide +kernel
theorem dX8_readValues_90 : decode cX8_readValues 90 = .ok (.goto 86, 3) := by decide +kernel
theorem dX8_readValues_93 : decode cX8_readValues 93 = .ok (.aload_n 0, 1) := by decide +kernel
theorem dX8_readValues_94 : decode cX8_readValues 94 = .ok (.invokevirtual 77, 3) := by decide +kernel
theorem dX8_readValues_97 : decode cX8_readValues 97 = .ok (.istore 4, 2) := by decide +kernel
theorem dX8_readValues_99 : decode cX8_readValues 99 = .ok (.aload_n 0, 1) := by decide +kernel
theorem dX8_readValues_100 : decode cX8_readValues 100 = .ok (.iconst 0, 1) := by decide +kernel
theorem dX8_readValues_101 : decode cX8_readValues 101 = .ok (.iconst 3, 1) := by decide +kernel
theorem dX8_readValues_102 : decode cX8_readValues 102 = .ok (.invokevirtual 69, 3) := by decide +kernel
theorem dX8_readValues_105 : decode cX8_readValues 105 = .ok (.istore 5, 2) := by decide +kernel
theorem dX8_readValues_107 : decode cX8_readValues 107 = .ok (.aload_n 0, 1) := by decide +kernel
theorem dX8_readValues_108 : decode cX8_readValues 108 = .ok (.iload_n 1, 1) := by decide +kernel
theorem dX8_readValues_109 : decode cX8_readValues 109 = .ok (.iload_n 2, 1) := by decide +kernel
theorem dX8_readValues_110 : decode cX8_readValues 110 = .ok (.iload 4, 2) := by decide +kernel
theorem dX8_readValues_112 : decode cX8_readValues 112 = .ok (.iload 5, 2) := by decide +kernel
theorem dX8_readValues_114 : decode cX8_readValues 114 = .ok (.aload_n 0, 1) := by decide +kernel
theorem dX8_readValues_115 : decode cX8_readValues 115 = .ok (.iconst 0, 1) := by decide +kernel
theorem dX8_readValues_116 : decode cX8_readValues 116 = .ok (.sipush 9999, 3) := by decide +kernel
theorem dX8_readValues_119 : decode cX8_readValues 119 = .ok (.invokevirtual 69, 3) := by decide +kernel
theorem dX8_readValues_122 : decode cX8_readValues 122 = .ok (.invokevirtual 73, 3) := by decide +kernel
theorem dX8_readValues_125 : decode cX8_readValues 125 = .ok (.aload_n 0, 1) := by decide +kernel
theorem dX8_readValues_126 : decode cX8_readValues 126 = .ok (.dup, 1) := by decide +kernel
theorem dX8_readValues_127 : decode cX8_readValues 127 = .ok (.getfield 31, 3) := by decide +kernel
theorem dX8_readValues_130 : decode cX8_readValues 130 = .ok (.iconst 1, 1) := by decide +kernel
theorem dX8_readValues_131 : decode cX8_readValues 131 = .ok (.iadd, 1) := by decide +kernel
theorem dX8_readValues_132 : decode cX8_readValues 132 = .ok (.putfield 31, 3) := by decide +kernel
theorem dX8_readValues_135 : decode cX8_readValues 135 = .ok (.goto 41, 3) := by decide +kernel
theorem dX8_readValues_138 : decode cX8_readValues 138 = .ok (.aload_n 0, 1) := by decide +kernel
theorem dX8_readValues_139 : decode cX8_readValues 139 = .ok (.iload_n 1, 1) := by decide +kernel
theorem dX8_readValues_140 : decode cX8_readValues 140 = .ok (.iload_n 2, 1) := by decide +kernel
theorem dX8_readValues_141 : decode cX8_readValues 141 = .ok (.aload_n 0, 1) := by decide +kernel
theorem dX8_readValues_142 : decode cX8_readValues 142 = .ok (.iconst 0, 1) := by decide +kernel
theorem dX8_readValues_143 : decode cX8_readValues 143 = .ok (.aload_n 0, 1) := by decide +kernel
theorem dX8_readValues_144 : decode cX8_readValues 144 = .ok (.getfield 31, 3) := by decide +kernel
theorem dX8_readValues_147 : decode cX8_readValues 147 = .ok (.iconst 1, 1) := by decide +kernel
theorem dX8_readValues_148 : decode cX8_readValues 148 = .ok (.isub, 1) := by decide +kernel
theorem dX8_readValues_149 : decode cX8_readValues 149 = .ok (.invokevirtual 69, 3) := by decide +kernel
theorem dX8_readValues_152 : decode cX8_readValues 152 = .ok (.iconst 0, 1) := by decide +kernel
theorem dX8_readValues_153 : decode cX8_readValues 153 = .ok (.iconst 0, 1) := by decide +kernel
theorem dX8_readValues_154 : decode cX8_readValues 154 = .ok (.invokevirtual 73, 3) := by decide +kernel
theorem dX8_readValues_157 : decode cX8_readValues 157 = .ok (.aload_n 0, 1) := by decide +kernel
theorem dX8_readValues_158 : decode cX8_readValues 158 = .ok (.dup, 1) := by decide +kernel
theorem dX8_readValues_159 : decode cX8_readValues 159 = .ok (.getfield 31, 3) := by decide +kernel
theorem dX8_readValues_162 : decode cX8_readValues 162 = .ok (.iload_n 2, 1) := by decide +kernel
theorem dX8_readValues_163 : decode cX8_readValues 163 = .ok (.iconst 5, 1) := by decide +kernel
theorem dX8_readValues_164 : decode cX8_readValues 164 = .ok (.if_icmp .ne 7, 3) := by decide +kernel
theorem dX8_readValues_167 : decode cX8_readValues 167 = .ok (.iconst 1, 1) := by decide +kernel
theorem dX8_readValues_168 : decode cX8_readValues 168 = .ok (.goto 4, 3) := by decide +kernel
theorem dX8_readValues_171 : decode cX8_readValues 171 = .ok (.iconst 0, 1) := by decide +kernel
theorem dX8_readValues_172 : decode cX8_readValues 172 = .ok (.isub, 1) := by decide +kernel
theorem dX8_readValues_173 : decode cX8_readValues 173 = .ok (.putfield 31, 3) := by decide +kernel
theorem dX8_readValues_176 : decode cX8_readValues 176 = .ok (.return_, 1) := by decide +kernel
theorem dX8_keepLine_0 : decode cX8_keepLine 0 = .ok (.iload_n 1, 1) := by decide +kernel
theorem dX8_keepLine_1 : decode cX8_keepLine 1 = .ok (.iconst 3, 1) := by decide +kernel
theorem dX8_keepLine_2 : decode cX8_keepLine 2 = .ok (.imul, 1) := by decide +kernel
theorem dX8_keepLine_3 : decode cX8_keepLine 3 = .ok (.istore 6, 2) := by decide +kernel
theorem dX8_keepLine_5 : decode cX8_keepLine 5 = .ok (.iload_n 1, 1) := by decide +kernel
theorem dX8_keepLine_6 : decode cX8_keepLine 6 = .ok (.ifCond .lt 61, 3) := by decide +kernel
theorem dX8_keepLine_9 : decode cX8_keepLine 9 = .ok (.iload_n 1, 1) := by decide +kernel
theorem dX8_keepLine_10 : decode cX8_keepLine 10 = .ok (.aload_n 0, 1) := by decide +kernel
theorem dX8_keepLine_11 : decode cX8_keepLine 11 = .ok (.getfield 15, 3) := by decide +kernel
theorem dX8_keepLine_14 : decode cX8_keepLine 14 = .ok (.arraylength, 1) := by decide +kernel
theorem dX8_keepLine_15 : decode cX8_keepLine 15 = .ok (.if_icmp .ge 52, 3) := by decide +kernel
theorem dX8_keepLine_18 : decode cX8_keepLine 18 = .ok (.iload 6, 2) := by decide +kernel
theorem dX8_keepLine_20 : decode cX8_keepLine 20 = .ok (.iconst 2, 1) := by decide +kernel
theorem dX8_keepLine_21 : decode cX8_keepLine 21 = .ok (.iadd, 1) := by decide +kernel
theorem dX8_keepLine_22 : decode cX8_keepLine 22 = .ok (.aload_n 0, 1) := by decide +kernel
theorem dX8_keepLine_23 : decode cX8_keepLine 23 = .ok (.getfield 18, 3) := by decide +kernel
theorem dX8_keepLine_26 : decode cX8_keepLine 26 = .ok (.arraylength, 1) := by decide +kernel
theorem dX8_keepLine_27 : decode cX8_keepLine 27 = .ok (.if_icmp .ge 40, 3) := by decide +kernel
theorem dX8_keepLine_30 : decode cX8_keepLine 30 = .ok (.aload_n 0, 1) := by decide +kernel
theorem dX8_keepLine_31 : decode cX8_keepLine 31 = .ok (.getfield 15, 3) := by decide +kernel
theorem dX8_keepLine_34 : decode cX8_keepLine 34 = .ok (.iload_n 1, 1) := by decide +kernel
theorem dX8_keepLine_35 : decode cX8_keepLine 35 = .ok (.iload_n 2, 1) := by decide +kernel
theorem dX8_keepLine_36 : decode cX8_keepLine 36 = .ok (.iastore, 1) := by decide +kernel
theorem dX8_keepLine_37 : decode cX8_keepLine 37 = .ok (.aload_n 0, 1) := by decide +kernel
theorem dX8_keepLine_38 : decode cX8_keepLine 38 = .ok (.getfield 18, 3) := by decide +kernel
theorem dX8_keepLine_41 : decode cX8_keepLine 41 = .ok (.iload 6, 2) := by decide +kernel
theorem dX8_keepLine_43 : decode cX8_keepLine 43 = .ok (.iload_n 3, 1) := by decide +kernel
theorem dX8_keepLine_44 : decode cX8_keepLine 44 = .ok (.iastore, 1) := by decide +kernel
theorem dX8_keepLine_45 : decode cX8_keepLine 45 = .ok (.aload_n 0, 1) := by decide +kernel
theorem dX8_keepLine_46 : decode cX8_keepLine 46 = .ok (.getfield 18, 3) := by decide +kernel
theorem dX8_keepLine_49 : decode cX8_keepLine 49 = .ok (.iload 6, 2) := by decide +kernel
theorem dX8_keepLine_51 : decode cX8_keepLine 51 = .ok (.iconst 1, 1) := by decide +kernel
theorem dX8_keepLine_52 : decode cX8_keepLine 52 = .ok (.iadd, 1) := by decide +kernel
theorem dX8_keepLine_53 : decode cX8_keepLine 53 = .ok (.iload 4, 2) := by decide +kernel
theorem dX8_keepLine_55 : decode cX8_keepLine 55 = .ok (.iastore, 1) := by decide +kernel
theorem dX8_keepLine_56 : decode cX8_keepLine 56 = .ok (.aload_n 0, 1) := by decide +kernel
theorem dX8_keepLine_57 : decode cX8_keepLine 57 = .ok (.getfield 18, 3) := by decide +kernel
theorem dX8_keepLine_60 : decode cX8_keepLine 60 = .ok (.iload 6, 2) := by decide +kernel
theorem dX8_keepLine_62 : decode cX8_keepLine 62 = .ok (.iconst 2, 1) := by decide +kernel
theorem dX8_keepLine_63 : decode cX8_keepLine 63 = .ok (.iadd, 1) := by decide +kernel
theorem dX8_keepLine_64 : decode cX8_keepLine 64 = .ok (.iload 5, 2) := by decide +kernel
theorem dX8_keepLine_66 : decode cX8_keepLine 66 = .ok (.iastore, 1) := by decide +kernel
theorem dX8_keepLine_67 : decode cX8_keepLine 67 = .ok (.return_, 1) := by decide +kernel
theorem dX8_fail_0 : decode cX8_fail 0 = .ok (.aload_n 0, 1) := by decide +kernel
theorem dX8_fail_1 : decode cX8_fail 1 = .ok (.getfield 34, 3) := by decide +kernel
theorem dX8_fail_4 : decode cX8_fail 4 = .ok (.iconst (-1), 1) := by decide +kernel
theorem dX8_fail_5 : decode cX8_fail 5 = .ok (.if_icmp .ne 11, 3) := by decide +kernel
theorem dX8_fail_8 : decode cX8_fail 8 = .ok (.aload_n 0, 1) := by decide +kernel
theorem dX8_fail_9 : decode cX8_fail 9 = .ok (.aload_n 0, 1) := by decide +kernel
theorem dX8_fail_10 : decode cX8_fail 10 = .ok (.getfield 51, 3) := by decide +kernel
theorem dX8_fail_13 : decode cX8_fail 13 = .ok (.putfield 34, 3) := by decide +kernel
theorem dX8_fail_16 : decode cX8_fail 16 = .ok (.return_, 1) := by decide +kernel
theorem dX8_nextToken_0 : decode cX8_nextToken 0 = .ok (.aload_n 0, 1) := by decide +kernel
theorem dX8_nextToken_1 : decode cX8_nextToken 1 = .ok (.aload_n 0, 1) := by decide +kernel
theorem dX8_nextToken_2 : decode cX8_nextToken 2 = .ok (.getfield 37, 3) := by decide +kernel
theorem dX8_nextToken_5 : decode cX8_nextToken 5 = .ok (.putfield 51, 3) := by decide +kernel
theorem dX8_nextToken_8 : decode cX8_nextToken 8 = .ok (.aload_n 0, 1) := by decide +kernel
theorem dX8_nextToken_9 : decode cX8_nextToken 9 = .ok (.getfield 51, 3) := by decide +kernel
theorem dX8_nextToken_12 : decode cX8_nextToken 12 = .ok (.aload_n 0, 1) := by decide +kernel
theorem dX8_nextToken_13 : decode cX8_nextToken 13 = .ok (.getfield 21, 3) := by decide +kernel
theorem dX8_nextToken_16 : decode cX8_nextToken 16 = .ok (.if_icmp .ge 29, 3) := by decide +kernel
theorem dX8_nextToken_19 : decode cX8_nextToken 19 = .ok (.aload_n 0, 1) := by decide +kernel
theorem dX8_nextToken_20 : decode cX8_nextToken 20 = .ok (.aload_n 0, 1) := by decide +kernel
theorem dX8_nextToken_21 : decode cX8_nextToken 21 = .ok (.getfield 51, 3) := by decide +kernel
theorem dX8_nextToken_24 : decode cX8_nextToken 24 = .ok (.invokevirtual 54, 3) := by decide +kernel
theorem dX8_nextToken_27 : decode cX8_nextToken 27 = .ok (.bipush 32, 2) := by decide +kernel
theorem dX8_nextToken_29 : decode cX8_nextToken 29 = .ok (.if_icmp .ne 16, 3) := by decide +kernel
theorem dX8_nextToken_32 : decode cX8_nextToken 32 = .ok (.aload_n 0, 1) := by decide +kernel
theorem dX8_nextToken_33 : decode cX8_nextToken 33 = .ok (.dup, 1) := by decide +kernel
theorem dX8_nextToken_34 : decode cX8_nextToken 34 = .ok (.getfield 51, 3) := by decide +kernel
theorem dX8_nextToken_37 : decode cX8_nextToken 37 = .ok (.iconst 1, 1) := by decide +kernel
theorem dX8_nextToken_38 : decode cX8_nextToken 38 = .ok (.iadd, 1) := by decide +kernel
theorem dX8_nextToken_39 : decode cX8_nextToken 39 = .ok (.putfield 51, 3) := by decide +kernel
theorem dX8_nextToken_42 : decode cX8_nextToken 42 = .ok (.goto (-34), 3) := by decide +kernel
theorem dX8_nextToken_45 : decode cX8_nextToken 45 = .ok (.aload_n 0, 1) := by decide +kernel
theorem dX8_nextToken_46 : decode cX8_nextToken 46 = .ok (.aload_n 0, 1) := by decide +kernel
theorem dX8_nextToken_47 : decode cX8_nextToken 47 = .ok (.getfield 51, 3) := by decide +kernel
theorem dX8_nextToken_50 : decode cX8_nextToken 50 = .ok (.invokevirtual 80, 3) := by decide +kernel
theorem dX8_nextToken_53 : decode cX8_nextToken 53 = .ok (.istore_n 1, 1) := by decide +kernel
theorem dX8_nextToken_54 : decode cX8_nextToken 54 = .ok (.aload_n 0, 1) := by decide +kernel
theorem dX8_nextToken_55 : decode cX8_nextToken 55 = .ok (.aload_n 0, 1) := by decide +kernel
theorem dX8_nextToken_56 : decode cX8_nextToken 56 = .ok (.getfield 51, 3) := by decide +kernel
theorem dX8_nextToken_59 : decode cX8_nextToken 59 = .ok (.iconst 1, 1) := by decide +kernel
theorem dX8_nextToken_60 : decode cX8_nextToken 60 = .ok (.iadd, 1) := by decide +kernel
theorem dX8_nextToken_61 : decode cX8_nextToken 61 = .ok (.aload_n 0, 1) := by decide +kernel
theorem dX8_nextToken_62 : decode cX8_nextToken 62 = .ok (.getfield 21, 3) := by decide +kernel
theorem dX8_nextToken_65 : decode cX8_nextToken 65 = .ok (.invokestatic 83, 3) := by decide +kernel
theorem dX8_nextToken_68 : decode cX8_nextToken 68 = .ok (.putfield 37, 3) := by decide +kernel
theorem dX8_nextToken_71 : decode cX8_nextToken 71 = .ok (.aload_n 0, 1) := by decide +kernel
theorem dX8_nextToken_72 : decode cX8_nextToken 72 = .ok (.getfield 37, 3) := by decide +kernel
theorem dX8_nextToken_75 : decode cX8_nextToken 75 = .ok (.aload_n 0, 1) := by decide +kernel
theorem dX8_nextToken_76 : decode cX8_nextToken 76 = .ok (.getfield 21, 3) := by decide +kernel
theorem dX8_nextToken_79 : decode cX8_nextToken 79 = .ok (.if_icmp .ge 33, 3) := by decide +kernel
theorem dX8_nextToken_82 : decode cX8_nextToken 82 = .ok (.iload_n 1, 1) := by decide +kernel
theorem dX8_nextToken_83 : decode cX8_nextToken 83 = .ok (.iconst 2, 1) := by decide +kernel
theorem dX8_nextToken_84 : decode cX8_nextToken 84 = .ok (.if_icmp .eq 28, 3) := by decide +kernel
theorem dX8_nextToken_87 : decode cX8_nextToken 87 = .ok (.aload_n 0, 1) := by decide +kernel
theorem dX8_nextToken_88 : decode cX8_nextToken 88 = .ok (.aload_n 0, 1) := by decide +kernel
theorem dX8_nextToken_89 : decode cX8_nextToken 89 = .ok (.getfield 37, 3) := by decide +kernel
theorem dX8_nextToken_92 : decode cX8_nextToken 92 = .ok (.invokevirtual 80, 3) := by decide +kernel
theorem dX8_nextToken_95 : decode cX8_nextToken 95 = .ok (.iload_n 1, 1) := by decide +kernel
theorem dX8_nextToken_96 : decode cX8_nextToken 96 = .ok (.if_icmp .ne 16, 3) := by decide +kernel
theorem dX8_nextToken_99 : decode cX8_nextToken 99 = .ok (.aload_n 0, 1) := by decide +kernel
theorem dX8_nextToken_100 : decode cX8_nextToken 100 = .ok (.dup, 1) := by decide +kernel
theorem dX8_nextToken_101 : decode cX8_nextToken 101 = .ok (.getfield 37, 3) := by decide +kernel
theorem dX8_nextToken_104 : decode cX8_nextToken 104 = .ok (.iconst 1, 1) := by decide +kernel
theorem dX8_nextToken_105 : decode cX8_nextToken 105 = .ok (.iadd, 1) := by decide +kernel
theorem dX8_nextToken_106 : decode cX8_nextToken 106 = .ok (.putfield 37, 3) := by decide +kernel
theorem dX8_nextToken_109 : decode cX8_nextToken 109 = .ok (.goto (-38), 3) := by decide +kernel
theorem dX8_nextToken_112 : decode cX8_nextToken 112 = .ok (.return_, 1) := by decide +kernel
theorem dX8_kindAt_0 : decode cX8_kindAt 0 = .ok (.iload_n 1, 1) := by decide +kernel
theorem dX8_kindAt_1 : decode cX8_kindAt 1 = .ok (.ifCond .lt 20, 3) := by decide +kernel
theorem dX8_kindAt_4 : decode cX8_kindAt 4 = .ok (.iload_n 1, 1) := by decide +kernel
theorem dX8_kindAt_5 : decode cX8_kindAt 5 = .ok (.aload_n 0, 1) := by decide +kernel
theorem dX8_kindAt_6 : decode cX8_kindAt 6 = .ok (.getfield 21, 3) := by decide +kernel
theorem dX8_kindAt_9 : decode cX8_kindAt 9 = .ok (.if_icmp .ge 12, 3) := by decide +kernel
theorem dX8_kindAt_12 : decode cX8_kindAt 12 = .ok (.aload_n 0, 1) := by decide +kernel
theorem dX8_kindAt_13 : decode cX8_kindAt 13 = .ok (.getfield 9, 3) := by decide +kernel
theorem dX8_kindAt_16 : decode cX8_kindAt 16 = .ok (.iload_n 1, 1) := by decide +kernel
theorem dX8_kindAt_17 : decode cX8_kindAt 17 = .ok (.iaload, 1) := by decide +kernel
theorem dX8_kindAt_18 : decode cX8_kindAt 18 = .ok (.goto 4, 3) := by decide +kernel
theorem dX8_kindAt_21 : decode cX8_kindAt 21 = .ok (.iconst (-1), 1) := by decide +kernel
theorem dX8_kindAt_22 : decode cX8_kindAt 22 = .ok (.istore_n 2, 1) := by decide +kernel
theorem dX8_kindAt_23 : decode cX8_kindAt 23 = .ok (.iload_n 2, 1) := by decide +kernel
theorem dX8_kindAt_24 : decode cX8_kindAt 24 = .ok (.bipush 97, 2) := by decide +kernel
theorem dX8_kindAt_26 : decode cX8_kindAt 26 = .ok (.if_icmp .lt 11, 3) := by decide +kernel
theorem dX8_kindAt_29 : decode cX8_kindAt 29 = .ok (.iload_n 2, 1) := by decide +kernel
theorem dX8_kindAt_30 : decode cX8_kindAt 30 = .ok (.bipush 122, 2) := by decide +kernel
theorem dX8_kindAt_32 : decode cX8_kindAt 32 = .ok (.if_icmp .gt 5, 3) := by decide +kernel
theorem dX8_kindAt_35 : decode cX8_kindAt 35 = .ok (.iconst 0, 1) := by decide +kernel
theorem dX8_kindAt_36 : decode cX8_kindAt 36 = .ok (.ireturn, 1) := by decide +kernel
theorem dX8_kindAt_37 : decode cX8_kindAt 37 = .ok (.iload_n 2, 1) := by decide +kernel
theorem dX8_kindAt_38 : decode cX8_kindAt 38 = .ok (.bipush 48, 2) := by decide +kernel
theorem dX8_kindAt_40 : decode cX8_kindAt 40 = .ok (.if_icmp .lt 13, 3) := by decide +kernel
theorem dX8_kindAt_43 : decode cX8_kindAt 43 = .ok (.iload_n 2, 1) := by decide +kernel
theorem dX8_kindAt_44 : decode cX8_kindAt 44 = .ok (.bipush 57, 2) := by decide +kernel
theorem dX8_kindAt_46 : decode cX8_kindAt 46 = .ok (.if_icmp .gt 7, 3) := by decide +kernel
theorem dX8_kindAt_49 : decode cX8_kindAt 49 = .ok (.iconst 1, 1) := by decide +kernel
theorem dX8_kindAt_50 : decode cX8_kindAt 50 = .ok (.goto 4, 3) := by decide +kernel
theorem dX8_kindAt_53 : decode cX8_kindAt 53 = .ok (.iconst 2, 1) := by decide +kernel
theorem dX8_kindAt_54 : decode cX8_kindAt 54 = .ok (.ireturn, 1) := by decide +kernel
theorem dX8_wordHere_0 : decode cX8_wordHere 0 = .ok (.aload_n 0, 1) := by decide +kernel
theorem dX8_wordHere_1 : decode cX8_wordHere 1 = .ok (.ldc 88, 2) := by decide +kernel
theorem dX8_wordHere_3 : decode cX8_wordHere 3 = .ok (.invokevirtual 90, 3) := by decide +kernel
theorem dX8_wordHere_6 : decode cX8_wordHere 6 = .ok (.ifCond .eq 5, 3) := by decide +kernel
theorem dX8_wordHere_9 : decode cX8_wordHere 9 = .ok (.iconst 0, 1) := by decide +kernel
theorem dX8_wordHere_10 : decode cX8_wordHere 10 = .ok (.ireturn, 1) := by decide +kernel
theorem dX8_wordHere_11 : decode cX8_wordHere 11 = .ok (.aload_n 0, 1) := by decide +kernel
theorem dX8_wordHere_12 : decode cX8_wordHere 12 = .ok (.ldc 94, 2) := by decide +kernel
theorem dX8_wordHere_14 : decode cX8_wordHere 14 = .ok (.invokevirtual 90, 3) := by decide +kernel
theorem dX8_wordHere_17 : decode cX8_wordHere 17 = .ok (.ifCond .eq 5, 3) := by decide +kernel
theorem dX8_wordHere_20 : decode cX8_wordHere 20 = .ok (.iconst 1, 1) := by decide +kernel
theorem dX8_wordHere_21 : decode cX8_wordHere 21 = .ok (.ireturn, 1) := by decide +kernel
theorem dX8_wordHere_22 : decode cX8_wordHere 22 = .ok (.aload_n 0, 1) := by decide +kernel
theorem dX8_wordHere_23 : decode cX8_wordHere 23 = .ok (.ldc 96, 2) := by decide +kernel
theorem dX8_wordHere_25 : decode cX8_wordHere 25 = .ok (.invokevirtual 90, 3) := by decide +kernel
theorem dX8_wordHere_28 : decode cX8_wordHere 28 = .ok (.ifCond .eq 5, 3) := by decide +kernel
theorem dX8_wordHere_31 : decode cX8_wordHere 31 = .ok (.iconst 2, 1) := by decide +kernel
theorem dX8_wordHere_32 : decode cX8_wordHere 32 = .ok (.ireturn, 1) := by decide +kernel
theorem dX8_wordHere_33 : decode cX8_wordHere 33 = .ok (.aload_n 0, 1) := by decide +kernel
theorem dX8_wordHere_34 : decode cX8_wordHere 34 = .ok (.ldc 98, 2) := by decide +kernel
theorem dX8_wordHere_36 : decode cX8_wordHere 36 = .ok (.invokevirtual 90, 3) := by decide +kernel
theorem dX8_wordHere_39 : decode cX8_wordHere 39 = .ok (.ifCond .eq 5, 3) := by decide +kernel
theorem dX8_wordHere_42 : decode cX8_wordHere 42 = .ok (.iconst 3, 1) := by decide +kernel
theorem dX8_wordHere_43 : decode cX8_wordHere 43 = .ok (.ireturn, 1) := by decide +kernel
theorem dX8_wordHere_44 : decode cX8_wordHere 44 = .ok (.aload_n 0, 1) := by decide +kernel
theorem dX8_wordHere_45 : decode cX8_wordHere 45 = .ok (.ldc 100, 2) := by decide +kernel
theorem dX8_wordHere_47 : decode cX8_wordHere 47 = .ok (.invokevirtual 90, 3) := by decide +kernel
theorem dX8_wordHere_50 : decode cX8_wordHere 50 = .ok (.ifCond .eq 5, 3) := by decide +kernel
theorem dX8_wordHere_53 : decode cX8_wordHere 53 = .ok (.iconst 4, 1) := by decide +kernel
theorem dX8_wordHere_54 : decode cX8_wordHere 54 = .ok (.ireturn, 1) := by decide +kernel
theorem dX8_wordHere_55 : decode cX8_wordHere 55 = .ok (.aload_n 0, 1) := by decide +kernel
theorem dX8_wordHere_56 : decode cX8_wordHere 56 = .ok (.ldc 102, 2) := by decide +kernel
theorem dX8_wordHere_58 : decode cX8_wordHere 58 = .ok (.invokevirtual 90, 3) := by decide +kernel
theorem dX8_wordHere_61 : decode cX8_wordHere 61 = .ok (.ifCond .eq 7, 3) := by decide +kernel
theorem dX8_wordHere_64 : decode cX8_wordHere 64 = .ok (.iconst 5, 1) := by decide +kernel
theorem dX8_wordHere_65 : decode cX8_wordHere 65 = .ok (.goto 4, 3) := by decide +kernel
theorem dX8_wordHere_68 : decode cX8_wordHere 68 = .ok (.iconst (-1), 1) := by decide +kernel
theorem dX8_wordHere_69 : decode cX8_wordHere 69 = .ok (.ireturn, 1) := by decide +kernel
theorem dX8_isWord_0 : decode cX8_isWord 0 = .ok (.aload_n 0, 1) := by decide +kernel
theorem dX8_isWord_1 : decode cX8_isWord 1 = .ok (.getfield 37, 3) := by decide +kernel
theorem dX8_isWord_4 : decode cX8_isWord 4 = .ok (.aload_n 0, 1) := by decide +kernel
theorem dX8_isWord_5 : decode cX8_isWord 5 = .ok (.getfield 51, 3) := by decide +kernel
theorem dX8_isWord_8 : decode cX8_isWord 8 = .ok (.isub, 1) := by decide +kernel
theorem dX8_isWord_9 : decode cX8_isWord 9 = .ok (.aload_n 1, 1) := by decide +kernel
theorem dX8_isWord_10 : decode cX8_isWord 10 = .ok (.invokevirtual 104, 3) := by decide +kernel
theorem dX8_isWord_13 : decode cX8_isWord 13 = .ok (.if_icmp .eq 5, 3) := by decide +kernel
theorem dX8_isWord_16 : decode cX8_isWord 16 = .ok (.iconst 0, 1) := by decide +kernel
theorem dX8_isWord_17 : decode cX8_isWord 17 = .ok (.ireturn, 1) := by decide +kernel
theorem dX8_isWord_18 : decode cX8_isWord 18 = .ok (.iconst 0, 1) := by decide +kernel
theorem dX8_isWord_19 : decode cX8_isWord 19 = .ok (.istore_n 2, 1) := by decide +kernel
theorem dX8_isWord_20 : decode cX8_isWord 20 = .ok (.iload_n 2, 1) := by decide +kernel
theorem dX8_isWord_21 : decode cX8_isWord 21 = .ok (.aload_n 1, 1) := by decide +kernel
theorem dX8_isWord_22 : decode cX8_isWord 22 = .ok (.invokevirtual 104, 3) := by decide +kernel
theorem dX8_isWord_25 : decode cX8_isWord 25 = .ok (.if_icmp .ge 29, 3) := by decide +kernel
theorem dX8_isWord_28 : decode cX8_isWord 28 = .ok (.aload_n 0, 1) := by decide +kernel
theorem dX8_isWord_29 : decode cX8_isWord 29 = .ok (.aload_n 0, 1) := by decide +kernel
theorem dX8_isWord_30 : decode cX8_isWord 30 = .ok (.getfield 51, 3) := by decide +kernel
theorem dX8_isWord_33 : decode cX8_isWord 33 = .ok (.iload_n 2, 1) := by decide +kernel
theorem dX8_isWord_34 : decode cX8_isWord 34 = .ok (.iadd, 1) := by decide +kernel
theorem dX8_isWord_35 : decode cX8_isWord 35 = .ok (.invokevirtual 54, 3) := by decide +kernel
theorem dX8_isWord_38 : decode cX8_isWord 38 = .ok (.aload_n 1, 1) := by decide +kernel
theorem dX8_isWord_39 : decode cX8_isWord 39 = .ok (.iload_n 2, 1) := by decide +kernel
theorem dX8_isWord_40 : decode cX8_isWord 40 = .ok (.invokevirtual 109, 3) := by decide +kernel
theorem dX8_isWord_43 : decode cX8_isWord 43 = .ok (.if_icmp .eq 5, 3) := by decide +kernel
theorem dX8_isWord_46 : decode cX8_isWord 46 = .ok (.iconst 0, 1) := by decide +kernel
theorem dX8_isWord_47 : decode cX8_isWord 47 = .ok (.ireturn, 1) := by decide +kernel
theorem dX8_isWord_48 : decode cX8_isWord 48 = .ok (.iinc 2 1, 3) := by decide +kernel
theorem dX8_isWord_51 : decode cX8_isWord 51 = .ok (.goto (-31), 3) := by decide +kernel
theorem dX8_isWord_54 : decode cX8_isWord 54 = .ok (.iconst 1, 1) := by decide +kernel
theorem dX8_isWord_55 : decode cX8_isWord 55 = .ok (.ireturn, 1) := by decide +kernel
theorem dX8_number_0 : decode cX8_number 0 = .ok (.aload_n 0, 1) := by decide +kernel
theorem dX8_number_1 : decode cX8_number 1 = .ok (.getfield 34, 3) := by decide +kernel
theorem dX8_number_4 : decode cX8_number 4 = .ok (.iconst (-1), 1) := by decide +kernel
theorem dX8_number_5 : decode cX8_number 5 = .ok (.if_icmp .eq 5, 3) := by decide +kernel
theorem dX8_number_8 : decode cX8_number 8 = .ok (.iconst 0, 1) := by decide +kernel
theorem dX8_number_9 : decode cX8_number 9 = .ok (.ireturn, 1) := by decide +kernel
theorem dX8_number_10 : decode cX8_number 10 = .ok (.aload_n 0, 1) := by decide +kernel
theorem dX8_number_11 : decode cX8_number 11 = .ok (.invokevirtual 48, 3) := by decide +kernel
theorem dX8_number_14 : decode cX8_number 14 = .ok (.aload_n 0, 1) := by decide +kernel
theorem dX8_number_15 : decode cX8_number 15 = .ok (.aload_n 0, 1) := by decide +kernel
theorem dX8_number_16 : decode cX8_number 16 = .ok (.getfield 51, 3) := by decide +kernel
theorem dX8_number_19 : decode cX8_number 19 = .ok (.invokevirtual 80, 3) := by decide +kernel
theorem dX8_number_22 : decode cX8_number 22 = .ok (.iconst 1, 1) := by decide +kernel
theorem dX8_number_23 : decode cX8_number 23 = .ok (.if_icmp .ne 16, 3) := by decide +kernel
theorem dX8_number_26 : decode cX8_number 26 = .ok (.aload_n 0, 1) := by decide +kernel
theorem dX8_number_27 : decode cX8_number 27 = .ok (.getfield 37, 3) := by decide +kernel
theorem dX8_number_30 : decode cX8_number 30 = .ok (.aload_n 0, 1) := by decide +kernel
theorem dX8_number_31 : decode cX8_number 31 = .ok (.getfield 51, 3) := by decide +kernel
theorem dX8_number_34 : decode cX8_number 34 = .ok (.isub, 1) := by decide +kernel
theorem dX8_number_35 : decode cX8_number 35 = .ok (.iconst 4, 1) := by decide +kernel
theorem dX8_number_36 : decode cX8_number 36 = .ok (.if_icmp .le 9, 3) := by decide +kernel
theorem dX8_number_39 : decode cX8_number 39 = .ok (.aload_n 0, 1) := by decide +kernel
theorem dX8_number_40 : decode cX8_number 40 = .ok (.invokevirtual 58, 3) := by decide +kernel
theorem dX8_number_43 : decode cX8_number 43 = .ok (.iconst 0, 1) := by decide +kernel
theorem dX8_number_44 : decode cX8_number 44 = .ok (.ireturn, 1) := by decide +kernel
theorem dX8_number_45 : decode cX8_number 45 = .ok (.iconst 0, 1) := by decide +kernel
theorem dX8_number_46 : decode cX8_number 46 = .ok (.istore_n 3, 1) := by decide +kernel
theorem dX8_number_47 : decode cX8_number 47 = .ok (.aload_n 0, 1) := by decide +kernel
theorem dX8_number_48 : decode cX8_number 48 = .ok (.getfield 51, 3) := by decide +kernel
theorem dX8_number_51 : decode cX8_number 51 = .ok (.istore 4, 2) := by decide +kernel
theorem dX8_number_53 : decode cX8_number 53 = .ok (.iload 4, 2) := by decide +kernel
theorem dX8_number_55 : decode cX8_number 55 = .ok (.aload_n 0, 1) := by decide +kernel
theorem dX8_number_56 : decode cX8_number 56 = .ok (.getfield 37, 3) := by decide +kernel
theorem dX8_number_59 : decode cX8_number 59 = .ok (.if_icmp .ge 24, 3) := by decide +kernel
theorem dX8_number_62 : decode cX8_number 62 = .ok (.iload_n 3, 1) := by decide +kernel
theorem dX8_number_63 : decode cX8_number 63 = .ok (.bipush 10, 2) := by decide +kernel
theorem dX8_number_65 : decode cX8_number 65 = .ok (.imul, 1) := by decide +kernel
theorem dX8_number_66 : decode cX8_number 66 = .ok (.aload_n 0, 1) := by decide +kernel
theorem dX8_number_67 : decode cX8_number 67 = .ok (.iload 4, 2) := by decide +kernel
theorem dX8_number_69 : decode cX8_number 69 = .ok (.invokevirtual 54, 3) := by decide +kernel
theorem dX8_number_72 : decode cX8_number 72 = .ok (.iadd, 1) := by decide +kernel
theorem dX8_number_73 : decode cX8_number 73 = .ok (.bipush 48, 2) := by decide +kernel
theorem dX8_number_75 : decode cX8_number 75 = .ok (.isub, 1) := by decide +kernel
theorem dX8_number_76 : decode cX8_number 76 = .ok (.istore_n 3, 1) := by decide +kernel
theorem dX8_number_77 : decode cX8_number 77 = .ok (.iinc 4 1, 3) := by decide +kernel
theorem dX8_number_80 : decode cX8_number 80 = .ok (.goto (-27), 3) := by decide +kernel
theorem dX8_number_83 : decode cX8_number 83 = .ok (.iload_n 3, 1) := by decide +kernel
theorem dX8_number_84 : decode cX8_number 84 = .ok (.iload_n 1, 1) := by decide +kernel
theorem dX8_number_85 : decode cX8_number 85 = .ok (.iload_n 2, 1) := by decide +kernel
theorem dX8_number_86 : decode cX8_number 86 = .ok (.invokestatic 113, 3) := by decide +kernel
theorem dX8_number_89 : decode cX8_number 89 = .ok (.ifCond .ne 9, 3) := by decide +kernel
theorem dX8_number_92 : decode cX8_number 92 = .ok (.aload_n 0, 1) := by decide +kernel
theorem dX8_number_93 : decode cX8_number 93 = .ok (.invokevirtual 58, 3) := by decide +kernel
theorem dX8_number_96 : decode cX8_number 96 = .ok (.iconst 0, 1) := by decide +kernel
theorem dX8_number_97 : decode cX8_number 97 = .ok (.ireturn, 1) := by decide +kernel
theorem dX8_number_98 : decode cX8_number 98 = .ok (.iload_n 3, 1) := by decide +kernel
theorem dX8_number_99 : decode cX8_number 99 = .ok (.ireturn, 1) := by decide +kernel
theorem dX8_figures_0 : decode cX8_figures 0 = .ok (.aload_n 0, 1) := by decide +kernel
theorem dX8_figures_1 : decode cX8_figures 1 = .ok (.invokevirtual 48, 3) := by decide +kernel
theorem dX8_figures_4 : decode cX8_figures 4 = .ok (.aload_n 0, 1) := by decide +kernel
theorem dX8_figures_5 : decode cX8_figures 5 = .ok (.aload_n 0, 1) := by decide +kernel
theorem dX8_figures_6 : decode cX8_figures 6 = .ok (.getfield 51, 3) := by decide +kernel
theorem dX8_figures_9 : decode cX8_figures 9 = .ok (.invokevirtual 80, 3) := by decide +kernel
theorem dX8_figures_12 : decode cX8_figures 12 = .ok (.iconst 1, 1) := by decide +kernel
theorem dX8_figures_13 : decode cX8_figures 13 = .ok (.if_icmp .ne 19, 3) := by decide +kernel
theorem dX8_figures_16 : decode cX8_figures 16 = .ok (.aload_n 0, 1) := by decide +kernel
theorem dX8_figures_17 : decode cX8_figures 17 = .ok (.getfield 37, 3) := by decide +kernel
theorem dX8_figures_20 : decode cX8_figures 20 = .ok (.aload_n 0, 1) := by decide +kernel
theorem dX8_figures_21 : decode cX8_figures 21 = .ok (.getfield 51, 3) := by decide +kernel
theorem dX8_figures_24 : decode cX8_figures 24 = .ok (.isub, 1) := by decide +kernel
theorem dX8_figures_25 : decode cX8_figures 25 = .ok (.aload_n 0, 1) := by decide +kernel
theorem dX8_figures_26 : decode cX8_figures 26 = .ok (.getfield 28, 3) := by decide +kernel
theorem dX8_figures_29 : decode cX8_figures 29 = .ok (.if_icmp .eq 9, 3) := by decide +kernel
theorem dX8_figures_32 : decode cX8_figures 32 = .ok (.aload_n 0, 1) := by decide +kernel
theorem dX8_figures_33 : decode cX8_figures 33 = .ok (.invokevirtual 58, 3) := by decide +kernel
theorem dX8_figures_36 : decode cX8_figures 36 = .ok (.iconst 0, 1) := by decide +kernel
theorem dX8_figures_37 : decode cX8_figures 37 = .ok (.ireturn, 1) := by decide +kernel
theorem dX8_figures_38 : decode cX8_figures 38 = .ok (.iconst 0, 1) := by decide +kernel
theorem dX8_figures_39 : decode cX8_figures 39 = .ok (.istore_n 1, 1) := by decide +kernel
theorem dX8_figures_40 : decode cX8_figures 40 = .ok (.iconst 0, 1) := by decide +kernel
theorem dX8_figures_41 : decode cX8_figures 41 = .ok (.istore_n 2, 1) := by decide +kernel
theorem dX8_figures_42 : decode cX8_figures 42 = .ok (.iload_n 2, 1) := by decide +kernel
theorem dX8_figures_43 : decode cX8_figures 43 = .ok (.aload_n 0, 1) := by decide +kernel
theorem dX8_figures_44 : decode cX8_figures 44 = .ok (.getfield 28, 3) := by decide +kernel
theorem dX8_figures_47 : decode cX8_figures 47 = .ok (.if_icmp .ge 40, 3) := by decide +kernel
theorem dX8_figures_50 : decode cX8_figures 50 = .ok (.aload_n 0, 1) := by decide +kernel
theorem dX8_figures_51 : decode cX8_figures 51 = .ok (.aload_n 0, 1) := by decide +kernel
theorem dX8_figures_52 : decode cX8_figures 52 = .ok (.getfield 51, 3) := by decide +kernel
theorem dX8_figures_55 : decode cX8_figures 55 = .ok (.iload_n 2, 1) := by decide +kernel
theorem dX8_figures_56 : decode cX8_figures 56 = .ok (.iadd, 1) := by decide +kernel
theorem dX8_figures_57 : decode cX8_figures 57 = .ok (.invokevirtual 54, 3) := by decide +kernel
theorem dX8_figures_60 : decode cX8_figures 60 = .ok (.bipush 48, 2) := by decide +kernel
theorem dX8_figures_62 : decode cX8_figures 62 = .ok (.isub, 1) := by decide +kernel
theorem dX8_figures_63 : decode cX8_figures 63 = .ok (.istore_n 3, 1) := by decide +kernel
theorem dX8_figures_64 : decode cX8_figures 64 = .ok (.iload_n 3, 1) := by decide +kernel
theorem dX8_figures_65 : decode cX8_figures 65 = .ok (.iconst 1, 1) := by decide +kernel
theorem dX8_figures_66 : decode cX8_figures 66 = .ok (.if_icmp .le 9, 3) := by decide +kernel
theorem dX8_figures_69 : decode cX8_figures 69 = .ok (.aload_n 0, 1) := by decide +kernel
theorem dX8_figures_70 : decode cX8_figures 70 = .ok (.invokevirtual 58, 3) := by decide +kernel
theorem dX8_figures_73 : decode cX8_figures 73 = .ok (.iconst 0, 1) := by decide +kernel
theorem dX8_figures_74 : decode cX8_figures 74 = .ok (.ireturn, 1) := by decide +kernel
theorem dX8_figures_75 : decode cX8_figures 75 = .ok (.iload_n 1, 1) := by decide +kernel
theorem dX8_figures_76 : decode cX8_figures 76 = .ok (.iload_n 3, 1) := by decide +kernel
theorem dX8_figures_77 : decode cX8_figures 77 = .ok (.iload_n 2, 1) := by decide +kernel
theorem dX8_figures_78 : decode cX8_figures 78 = .ok (.ishl, 1) := by decide +kernel
theorem dX8_figures_79 : decode cX8_figures 79 = .ok (.ior, 1) := by decide +kernel
theorem dX8_figures_80 : decode cX8_figures 80 = .ok (.istore_n 1, 1) := by decide +kernel
theorem dX8_figures_81 : decode cX8_figures 81 = .ok (.iinc 2 1, 3) := by decide +kernel
theorem dX8_figures_84 : decode cX8_figures 84 = .ok (.goto (-42), 3) := by decide +kernel
theorem dX8_figures_87 : decode cX8_figures 87 = .ok (.iload_n 1, 1) := by decide +kernel
theorem dX8_figures_88 : decode cX8_figures 88 = .ok (.ireturn, 1) := by decide +kernel
theorem dJ6_bitCount_0f7a4_0 : decode cJ6_bitCount_0f7a4 0 = .ok (.iload_n 0, 1) := by decide +kernel
theorem dJ6_bitCount_0f7a4_1 : decode cJ6_bitCount_0f7a4 1 = .ok (.iload_n 0, 1) := by decide +kernel
theorem dJ6_bitCount_0f7a4_2 : decode cJ6_bitCount_0f7a4 2 = .ok (.iconst 1, 1) := by decide +kernel
theorem dJ6_bitCount_0f7a4_3 : decode cJ6_bitCount_0f7a4 3 = .ok (.iushr, 1) := by decide +kernel
theorem dJ6_bitCount_0f7a4_4 : decode cJ6_bitCount_0f7a4 4 = .ok (.ldc_w 265, 3) := by decide +kernel
theorem dJ6_bitCount_0f7a4_7 : decode cJ6_bitCount_0f7a4 7 = .ok (.iand, 1) := by decide +kernel
theorem dJ6_bitCount_0f7a4_8 : decode cJ6_bitCount_0f7a4 8 = .ok (.isub, 1) := by decide +kernel
theorem dJ6_bitCount_0f7a4_9 : decode cJ6_bitCount_0f7a4 9 = .ok (.istore_n 0, 1) := by decide +kernel
theorem dJ6_bitCount_0f7a4_10 : decode cJ6_bitCount_0f7a4 10 = .ok (.iload_n 0, 1) := by decide +kernel
theorem dJ6_bitCount_0f7a4_11 : decode cJ6_bitCount_0f7a4 11 = .ok (.ldc_w 266, 3) := by decide +kernel
theorem dJ6_bitCount_0f7a4_14 : decode cJ6_bitCount_0f7a4 14 = .ok (.iand, 1) := by decide +kernel
theorem dJ6_bitCount_0f7a4_15 : decode cJ6_bitCount_0f7a4 15 = .ok (.iload_n 0, 1) := by decide +kernel
theorem dJ6_bitCount_0f7a4_16 : decode cJ6_bitCount_0f7a4 16 = .ok (.iconst 2, 1) := by decide +kernel
theorem dJ6_bitCount_0f7a4_17 : decode cJ6_bitCount_0f7a4 17 = .ok (.iushr, 1) := by decide +kernel
theorem dJ6_bitCount_0f7a4_18 : decode cJ6_bitCount_0f7a4 18 = .ok (.ldc_w 266, 3) := by decide +kernel
theorem dJ6_bitCount_0f7a4_21 : decode cJ6_bitCount_0f7a4 21 = .ok (.iand, 1) := by decide +kernel
theorem dJ6_bitCount_0f7a4_22 : decode cJ6_bitCount_0f7a4 22 = .ok (.iadd, 1) := by decide +kernel
theorem dJ6_bitCount_0f7a4_23 : decode cJ6_bitCount_0f7a4 23 = .ok (.istore_n 0, 1) := by decide +kernel
theorem dJ6_bitCount_0f7a4_24 : decode cJ6_bitCount_0f7a4 24 = .ok (.iload_n 0, 1) := by decide +kernel
theorem dJ6_bitCount_0f7a4_25 : decode cJ6_bitCount_0f7a4 25 = .ok (.iload_n 0, 1) := by decide +kernel
theorem dJ6_bitCount_0f7a4_26 : decode cJ6_bitCount_0f7a4 26 = .ok (.iconst 4, 1) := by decide +kernel
theorem dJ6_bitCount_0f7a4_27 : decode cJ6_bitCount_0f7a4 27 = .ok (.iushr, 1) := by decide +kernel
theorem dJ6_bitCount_0f7a4_28 : decode cJ6_bitCount_0f7a4 28 = .ok (.iadd, 1) := by decide +kernel
theorem dJ6_bitCount_0f7a4_29 : decode cJ6_bitCount_0f7a4 29 = .ok (.ldc_w 267, 3) := by decide +kernel
theorem dJ6_bitCount_0f7a4_32 : decode cJ6_bitCount_0f7a4 32 = .ok (.iand, 1) := by decide +kernel
theorem dJ6_bitCount_0f7a4_33 : decode cJ6_bitCount_0f7a4 33 = .ok (.istore_n 0, 1) := by decide +kernel
theorem dJ6_bitCount_0f7a4_34 : decode cJ6_bitCount_0f7a4 34 = .ok (.iload_n 0, 1) := by decide +kernel
theorem dJ6_bitCount_0f7a4_35 : decode cJ6_bitCount_0f7a4 35 = .ok (.iload_n 0, 1) := by decide +kernel
theorem dJ6_bitCount_0f7a4_36 : decode cJ6_bitCount_0f7a4 36 = .ok (.bipush 8, 2) := by decide +kernel
theorem dJ6_bitCount_0f7a4_38 : decode cJ6_bitCount_0f7a4 38 = .ok (.iushr, 1) := by decide +kernel
theorem dJ6_bitCount_0f7a4_39 : decode cJ6_bitCount_0f7a4 39 = .ok (.iadd, 1) := by decide +kernel
theorem dJ6_bitCount_0f7a4_40 : decode cJ6_bitCount_0f7a4 40 = .ok (.istore_n 0, 1) := by decide +kernel
theorem dJ6_bitCount_0f7a4_41 : decode cJ6_bitCount_0f7a4 41 = .ok (.iload_n 0, 1) := by decide +kernel
theorem dJ6_bitCount_0f7a4_42 : decode cJ6_bitCount_0f7a4 42 = .ok (.iload_n 0, 1) := by decide +kernel
theorem dJ6_bitCount_0f7a4_43 : decode cJ6_bitCount_0f7a4 43 = .ok (.bipush 16, 2) := by decide +kernel
theorem dJ6_bitCount_0f7a4_45 : decode cJ6_bitCount_0f7a4 45 = .ok (.iushr, 1) := by decide +kernel
theorem dJ6_bitCount_0f7a4_46 : decode cJ6_bitCount_0f7a4 46 = .ok (.iadd, 1) := by decide +kernel
theorem dJ6_bitCount_0f7a4_47 : decode cJ6_bitCount_0f7a4 47 = .ok (.istore_n 0, 1) := by decide +kernel
theorem dJ6_bitCount_0f7a4_48 : decode cJ6_bitCount_0f7a4 48 = .ok (.iload_n 0, 1) := by decide +kernel
theorem dJ6_bitCount_0f7a4_49 : decode cJ6_bitCount_0f7a4 49 = .ok (.bipush 63, 2) := by decide +kernel
theorem dJ6_bitCount_0f7a4_51 : decode cJ6_bitCount_0f7a4 51 = .ok (.iand, 1) := by decide +kernel
theorem dJ6_bitCount_0f7a4_52 : decode cJ6_bitCount_0f7a4 52 = .ok (.ireturn, 1) := by decide +kernel
theorem dJ9_max_7cf53_0 : decode cJ9_max_7cf53 0 = .ok (.iload_n 0, 1) := by decide +kernel
theorem dJ9_max_7cf53_1 : decode cJ9_max_7cf53 1 = .ok (.iload_n 1, 1) := by decide +kernel
theorem dJ9_max_7cf53_2 : decode cJ9_max_7cf53 2 = .ok (.if_icmp .lt 7, 3) := by decide +kernel
theorem dJ9_max_7cf53_5 : decode cJ9_max_7cf53 5 = .ok (.iload_n 0, 1) := by decide +kernel
theorem dJ9_max_7cf53_6 : decode cJ9_max_7cf53 6 = .ok (.goto 4, 3) := by decide +kernel
theorem dJ9_max_7cf53_9 : decode cJ9_max_7cf53 9 = .ok (.iload_n 1, 1) := by decide +kernel
theorem dJ9_max_7cf53_10 : decode cJ9_max_7cf53 10 = .ok (.ireturn, 1) := by decide +kernel
theorem dJ9_max_f86c9_0 : decode cJ9_max_f86c9 0 = .ok (.lload_n 0, 1) := by decide +kernel
theorem dJ9_max_f86c9_1 : decode cJ9_max_f86c9 1 = .ok (.lload_n 2, 1) := by decide +kernel
theorem dJ9_max_f86c9_2 : decode cJ9_max_f86c9 2 = .ok (.lcmp, 1) := by decide +kernel
theorem dJ9_max_f86c9_3 : decode cJ9_max_f86c9 3 = .ok (.ifCond .lt 7, 3) := by decide +kernel
theorem dJ9_max_f86c9_6 : decode cJ9_max_f86c9 6 = .ok (.lload_n 0, 1) := by decide +kernel
theorem dJ9_max_f86c9_7 : decode cJ9_max_f86c9 7 = .ok (.goto 4, 3) := by decide +kernel
theorem dJ9_max_f86c9_10 : decode cJ9_max_f86c9 10 = .ok (.lload_n 2, 1) := by decide +kernel
theorem dJ9_max_f86c9_11 : decode cJ9_max_f86c9 11 = .ok (.lreturn, 1) := by decide +kernel
theorem dJ9_min_7cf53_0 : decode cJ9_min_7cf53 0 = .ok (.iload_n 0, 1) := by decide +kernel
theorem dJ9_min_7cf53_1 : decode cJ9_min_7cf53 1 = .ok (.iload_n 1, 1) := by decide +kernel
theorem dJ9_min_7cf53_2 : decode cJ9_min_7cf53 2 = .ok (.if_icmp .gt 7, 3) := by decide +kernel
theorem dJ9_min_7cf53_5 : decode cJ9_min_7cf53 5 = .ok (.iload_n 0, 1) := by decide +kernel
theorem dJ9_min_7cf53_6 : decode cJ9_min_7cf53 6 = .ok (.goto 4, 3) := by decide +kernel
theorem dJ9_min_7cf53_9 : decode cJ9_min_7cf53 9 = .ok (.iload_n 1, 1) := by decide +kernel
theorem dJ9_min_7cf53_10 : decode cJ9_min_7cf53 10 = .ok (.ireturn, 1) := by decide +kernel
theorem dJ0_length_8abf5_0 : decode cJ0_length_8abf5 0 = .ok (.aload_n 0, 1) := by decide +kernel
theorem dJ0_length_8abf5_1 : decode cJ0_length_8abf5 1 = .ok (.getfield 9, 3) := by decide +kernel
theorem dJ0_length_8abf5_4 : decode cJ0_length_8abf5 4 = .ok (.arraylength, 1) := by decide +kernel
theorem dJ0_length_8abf5_5 : decode cJ0_length_8abf5 5 = .ok (.aload_n 0, 1) := by decide +kernel
theorem dJ0_length_8abf5_6 : decode cJ0_length_8abf5 6 = .ok (.invokevirtual 335, 3) := by decide +kernel
theorem dJ0_length_8abf5_9 : decode cJ0_length_8abf5 9 = .ok (.ishr, 1) := by decide +kernel
theorem dJ0_length_8abf5_10 : decode cJ0_length_8abf5 10 = .ok (.ireturn, 1) := by decide +kernel
theorem dJ0_charAt_5068e_0 : decode cJ0_charAt_5068e 0 = .ok (.aload_n 0, 1) := by decide +kernel
theorem dJ0_charAt_5068e_1 : decode cJ0_charAt_5068e 1 = .ok (.invokevirtual 492, 3) := by decide +kernel
theorem dJ0_charAt_5068e_4 : decode cJ0_charAt_5068e 4 = .ok (.ifCond .eq 12, 3) := by decide +kernel
theorem dJ0_charAt_5068e_7 : decode cJ0_charAt_5068e 7 = .ok (.aload_n 0, 1) := by decide +kernel
theorem dJ0_charAt_5068e_8 : decode cJ0_charAt_5068e 8 = .ok (.getfield 9, 3) := by decide +kernel
theorem dJ0_charAt_5068e_11 : decode cJ0_charAt_5068e 11 = .ok (.iload_n 1, 1) := by decide +kernel
theorem dJ0_charAt_5068e_12 : decode cJ0_charAt_5068e 12 = .ok (.invokestatic 495, 3) := by decide +kernel
theorem dJ0_charAt_5068e_15 : decode cJ0_charAt_5068e 15 = .ok (.ireturn, 1) := by decide +kernel
theorem dJ0_charAt_5068e_16 : decode cJ0_charAt_5068e 16 = .ok (.aload_n 0, 1) := by decide +kernel
theorem dJ0_charAt_5068e_17 : decode cJ0_charAt_5068e 17 = .ok (.getfield 9, 3) := by decide +kernel
theorem dJ0_charAt_5068e_20 : decode cJ0_charAt_5068e 20 = .ok (.iload_n 1, 1) := by decide +kernel
theorem dJ0_charAt_5068e_21 : decode cJ0_charAt_5068e 21 = .ok (.invokestatic 498, 3) := by decide +kernel
theorem dJ0_charAt_5068e_24 : decode cJ0_charAt_5068e 24 = .ok (.ireturn, 1) := by decide +kernel
theorem dJ0_coder_7d493_0 : decode cJ0_coder_7d493 0 = .ok (.getstatic 38, 3) := by decide +kernel
theorem dJ0_coder_7d493_3 : decode cJ0_coder_7d493 3 = .ok (.ifCond .eq 10, 3) := by decide +kernel
theorem dJ0_coder_7d493_6 : decode cJ0_coder_7d493 6 = .ok (.aload_n 0, 1) := by decide +kernel
theorem dJ0_coder_7d493_7 : decode cJ0_coder_7d493 7 = .ok (.getfield 15, 3) := by decide +kernel
theorem dJ0_coder_7d493_10 : decode cJ0_coder_7d493 10 = .ok (.goto 4, 3) := by decide +kernel
theorem dJ0_coder_7d493_13 : decode cJ0_coder_7d493 13 = .ok (.iconst 1, 1) := by decide +kernel
theorem dJ0_coder_7d493_14 : decode cJ0_coder_7d493 14 = .ok (.ireturn, 1) := by decide +kernel
theorem dJ0_isLatin1_aae02_0 : decode cJ0_isLatin1_aae02 0 = .ok (.getstatic 38, 3) := by decide +kernel
theorem dJ0_isLatin1_aae02_3 : decode cJ0_isLatin1_aae02 3 = .ok (.ifCond .eq 14, 3) := by decide +kernel
theorem dJ0_isLatin1_aae02_6 : decode cJ0_isLatin1_aae02 6 = .ok (.aload_n 0, 1) := by decide +kernel
theorem dJ0_isLatin1_aae02_7 : decode cJ0_isLatin1_aae02 7 = .ok (.getfield 15, 3) := by decide +kernel
theorem dJ0_isLatin1_aae02_10 : decode cJ0_isLatin1_aae02 10 = .ok (.ifCond .ne 7, 3) := by decide +kernel
theorem dJ0_isLatin1_aae02_13 : decode cJ0_isLatin1_aae02 13 = .ok (.iconst 1, 1) := by decide +kernel
theorem dJ0_isLatin1_aae02_14 : decode cJ0_isLatin1_aae02 14 = .ok (.goto 4, 3) := by decide +kernel
theorem dJ0_isLatin1_aae02_17 : decode cJ0_isLatin1_aae02 17 = .ok (.iconst 0, 1) := by decide +kernel
theorem dJ0_isLatin1_aae02_18 : decode cJ0_isLatin1_aae02 18 = .ok (.ireturn, 1) := by decide +kernel
theorem dJ0_checkIndex_df160_0 : decode cJ0_checkIndex_df160 0 = .ok (.iload_n 0, 1) := by decide +kernel
theorem dJ0_checkIndex_df160_1 : decode cJ0_checkIndex_df160 1 = .ok (.iload_n 1, 1) := by decide +kernel
theorem dJ0_checkIndex_df160_2 : decode cJ0_checkIndex_df160 2 = .ok (.getstatic 1053, 3) := by decide +kernel
theorem dJ0_checkIndex_df160_5 : decode cJ0_checkIndex_df160 5 = .ok (.invokestatic 1059, 3) := by decide +kernel
theorem dJ0_checkIndex_df160_8 : decode cJ0_checkIndex_df160 8 = .ok (.pop, 1) := by decide +kernel
theorem dJ0_checkIndex_df160_9 : decode cJ0_checkIndex_df160 9 = .ok (.return_, 1) := by decide +kernel
theorem dJ1_charAt_3b067_0 : decode cJ1_charAt_3b067 0 = .ok (.iload_n 1, 1) := by decide +kernel
theorem dJ1_charAt_3b067_1 : decode cJ1_charAt_3b067 1 = .ok (.aload_n 0, 1) := by decide +kernel
theorem dJ1_charAt_3b067_2 : decode cJ1_charAt_3b067 2 = .ok (.arraylength, 1) := by decide +kernel
theorem dJ1_charAt_3b067_3 : decode cJ1_charAt_3b067 3 = .ok (.invokestatic 9, 3) := by decide +kernel
theorem dJ1_charAt_3b067_6 : decode cJ1_charAt_3b067 6 = .ok (.aload_n 0, 1) := by decide +kernel
theorem dJ1_charAt_3b067_7 : decode cJ1_charAt_3b067 7 = .ok (.iload_n 1, 1) := by decide +kernel
theorem dJ1_charAt_3b067_8 : decode cJ1_charAt_3b067 8 = .ok (.baload, 1) := by decide +kernel
theorem dJ1_charAt_3b067_9 : decode cJ1_charAt_3b067 9 = .ok (.sipush 255, 3) := by decide +kernel
theorem dJ1_charAt_3b067_12 : decode cJ1_charAt_3b067 12 = .ok (.iand, 1) := by decide +kernel
theorem dJ1_charAt_3b067_13 : decode cJ1_charAt_3b067 13 = .ok (.i2c, 1) := by decide +kernel
theorem dJ1_charAt_3b067_14 : decode cJ1_charAt_3b067 14 = .ok (.ireturn, 1) := by decide +kernel
theorem dJ7_fill_53178_0 : decode cJ7_fill_53178 0 = .ok (.iconst 0, 1) := by decide +kernel
theorem dJ7_fill_53178_1 : decode cJ7_fill_53178 1 = .ok (.istore_n 2, 1) := by decide +kernel
theorem dJ7_fill_53178_2 : decode cJ7_fill_53178 2 = .ok (.aload_n 0, 1) := by decide +kernel
theorem dJ7_fill_53178_3 : decode cJ7_fill_53178 3 = .ok (.arraylength, 1) := by decide +kernel
theorem dJ7_fill_53178_4 : decode cJ7_fill_53178 4 = .ok (.istore_n 3, 1) := by decide +kernel
theorem dJ7_fill_53178_5 : decode cJ7_fill_53178 5 = .ok (.iload_n 2, 1) := by decide +kernel
theorem dJ7_fill_53178_6 : decode cJ7_fill_53178 6 = .ok (.iload_n 3, 1) := by decide +kernel
theorem dJ7_fill_53178_7 : decode cJ7_fill_53178 7 = .ok (.if_icmp .ge 13, 3) := by decide +kernel
theorem dJ7_fill_53178_10 : decode cJ7_fill_53178 10 = .ok (.aload_n 0, 1) := by decide +kernel
theorem dJ7_fill_53178_11 : decode cJ7_fill_53178 11 = .ok (.iload_n 2, 1) := by decide +kernel
theorem dJ7_fill_53178_12 : decode cJ7_fill_53178 12 = .ok (.iload_n 1, 1) := by decide +kernel
theorem dJ7_fill_53178_13 : decode cJ7_fill_53178 13 = .ok (.iastore, 1) := by decide +kernel
theorem dJ7_fill_53178_14 : decode cJ7_fill_53178 14 = .ok (.iinc 2 1, 3) := by decide +kernel
theorem dJ7_fill_53178_17 : decode cJ7_fill_53178 17 = .ok (.goto (-12), 3) := by decide +kernel
theorem dJ7_fill_53178_20 : decode cJ7_fill_53178 20 = .ok (.return_, 1) := by decide +kernel
theorem dJ3_checkIndex_8e157_0 : decode cJ3_checkIndex_8e157 0 = .ok (.iload_n 0, 1) := by decide +kernel
theorem dJ3_checkIndex_8e157_1 : decode cJ3_checkIndex_8e157 1 = .ok (.ifCond .lt 8, 3) := by decide +kernel
theorem dJ3_checkIndex_8e157_4 : decode cJ3_checkIndex_8e157 4 = .ok (.iload_n 0, 1) := by decide +kernel
theorem dJ3_checkIndex_8e157_5 : decode cJ3_checkIndex_8e157 5 = .ok (.iload_n 1, 1) := by decide +kernel
theorem dJ3_checkIndex_8e157_6 : decode cJ3_checkIndex_8e157 6 = .ok (.if_icmp .lt 10, 3) := by decide +kernel
theorem dJ3_checkIndex_8e157_9 : decode cJ3_checkIndex_8e157 9 = .ok (.aload_n 2, 1) := by decide +kernel
theorem dJ3_checkIndex_8e157_10 : decode cJ3_checkIndex_8e157 10 = .ok (.iload_n 0, 1) := by decide +kernel
theorem dJ3_checkIndex_8e157_11 : decode cJ3_checkIndex_8e157 11 = .ok (.iload_n 1, 1) := by decide +kernel
theorem dJ3_checkIndex_8e157_12 : decode cJ3_checkIndex_8e157 12 = .ok (.invokestatic 95, 3) := by decide +kernel
theorem dJ3_checkIndex_8e157_15 : decode cJ3_checkIndex_8e157 15 = .ok (.athrow, 1) := by decide +kernel
theorem dJ3_checkIndex_8e157_16 : decode cJ3_checkIndex_8e157 16 = .ok (.iload_n 0, 1) := by decide +kernel
theorem dJ3_checkIndex_8e157_17 : decode cJ3_checkIndex_8e157 17 = .ok (.ireturn, 1) := by decide +kernel
